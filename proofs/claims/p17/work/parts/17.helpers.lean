theorem bw_cL_hedge_0 : dq_w cL_hedge 0 [45, 3, 42, 27, 28, 182, 0, 7, 133, 80, 167, 0, 7, 58, 4, 4, 172, 3, 172] = true := by decide +kernel
theorem dL_hedge_0 : decode cL_hedge 0 = .ok (.aload_n 3, 1) := dq45 bw_cL_hedge_0 0 rfl rfl
theorem dL_hedge_1 : decode cL_hedge 1 = .ok (.iconst 0, 1) := dq3 bw_cL_hedge_0 1 rfl rfl
theorem dL_hedge_2 : decode cL_hedge 2 = .ok (.aload_n 0, 1) := dq42 bw_cL_hedge_0 2 rfl rfl
theorem dL_hedge_3 : decode cL_hedge 3 = .ok (.iload_n 1, 1) := dq27 bw_cL_hedge_0 3 rfl rfl
theorem dL_hedge_4 : decode cL_hedge 4 = .ok (.iload_n 2, 1) := dq28 bw_cL_hedge_0 4 rfl rfl
theorem dL_hedge_5 : decode cL_hedge 5 = .ok (.invokevirtual 7, 3) := dq182 bw_cL_hedge_0 5 rfl rfl rfl
theorem dL_hedge_8 : decode cL_hedge 8 = .ok (.i2l, 1) := dq133 bw_cL_hedge_0 8 rfl rfl
theorem dL_hedge_9 : decode cL_hedge 9 = .ok (.lastore, 1) := dq80 bw_cL_hedge_0 9 rfl rfl
theorem dL_hedge_10 : decode cL_hedge 10 = .ok (.goto 7, 3) := dq167 bw_cL_hedge_0 10 rfl rfl rfl
theorem dL_hedge_13 : decode cL_hedge 13 = .ok (.astore 4, 2) := dq58 bw_cL_hedge_0 13 rfl rfl
theorem dL_hedge_15 : decode cL_hedge 15 = .ok (.iconst 1, 1) := dq4 bw_cL_hedge_0 15 rfl rfl
theorem dL_hedge_16 : decode cL_hedge 16 = .ok (.ireturn, 1) := dq172 bw_cL_hedge_0 16 rfl rfl
theorem dL_hedge_17 : decode cL_hedge 17 = .ok (.iconst 0, 1) := dq3 bw_cL_hedge_0 17 rfl rfl
theorem dL_hedge_18 : decode cL_hedge 18 = .ok (.ireturn, 1) := dq172 bw_cL_hedge_0 18 rfl rfl
theorem bw_cL_reach_0 : dq_w cL_reach 0 [44, 3, 42, 27, 182, 0, 15, 133, 80, 167, 0, 6, 78, 4, 172, 3, 172] = true := by decide +kernel
theorem dL_reach_0 : decode cL_reach 0 = .ok (.aload_n 2, 1) := dq44 bw_cL_reach_0 0 rfl rfl
theorem dL_reach_1 : decode cL_reach 1 = .ok (.iconst 0, 1) := dq3 bw_cL_reach_0 1 rfl rfl
theorem dL_reach_2 : decode cL_reach 2 = .ok (.aload_n 0, 1) := dq42 bw_cL_reach_0 2 rfl rfl
theorem dL_reach_3 : decode cL_reach 3 = .ok (.iload_n 1, 1) := dq27 bw_cL_reach_0 3 rfl rfl
theorem dL_reach_4 : decode cL_reach 4 = .ok (.invokevirtual 15, 3) := dq182 bw_cL_reach_0 4 rfl rfl rfl
theorem dL_reach_7 : decode cL_reach 7 = .ok (.i2l, 1) := dq133 bw_cL_reach_0 7 rfl rfl
theorem dL_reach_8 : decode cL_reach 8 = .ok (.lastore, 1) := dq80 bw_cL_reach_0 8 rfl rfl
theorem dL_reach_9 : decode cL_reach 9 = .ok (.goto 6, 3) := dq167 bw_cL_reach_0 9 rfl rfl rfl
theorem dL_reach_12 : decode cL_reach 12 = .ok (.astore_n 3, 1) := dq78 bw_cL_reach_0 12 rfl rfl
theorem dL_reach_13 : decode cL_reach 13 = .ok (.iconst 1, 1) := dq4 bw_cL_reach_0 13 rfl rfl
theorem dL_reach_14 : decode cL_reach 14 = .ok (.ireturn, 1) := dq172 bw_cL_reach_0 14 rfl rfl
theorem dL_reach_15 : decode cL_reach 15 = .ok (.iconst 0, 1) := dq3 bw_cL_reach_0 15 rfl rfl
theorem dL_reach_16 : decode cL_reach 16 = .ok (.ireturn, 1) := dq172 bw_cL_reach_0 16 rfl rfl
theorem bw_cL_row_0 : dq_w cL_row 0 [44, 3, 42, 27, 182, 0, 19, 133, 80, 167, 0, 6, 78, 4, 172, 3, 172] = true := by decide +kernel
theorem dL_row_0 : decode cL_row 0 = .ok (.aload_n 2, 1) := dq44 bw_cL_row_0 0 rfl rfl
theorem dL_row_1 : decode cL_row 1 = .ok (.iconst 0, 1) := dq3 bw_cL_row_0 1 rfl rfl
theorem dL_row_2 : decode cL_row 2 = .ok (.aload_n 0, 1) := dq42 bw_cL_row_0 2 rfl rfl
theorem dL_row_3 : decode cL_row 3 = .ok (.iload_n 1, 1) := dq27 bw_cL_row_0 3 rfl rfl
theorem dL_row_4 : decode cL_row 4 = .ok (.invokevirtual 19, 3) := dq182 bw_cL_row_0 4 rfl rfl rfl
theorem dL_row_7 : decode cL_row 7 = .ok (.i2l, 1) := dq133 bw_cL_row_0 7 rfl rfl
theorem dL_row_8 : decode cL_row 8 = .ok (.lastore, 1) := dq80 bw_cL_row_0 8 rfl rfl
theorem dL_row_9 : decode cL_row 9 = .ok (.goto 6, 3) := dq167 bw_cL_row_0 9 rfl rfl rfl
theorem dL_row_12 : decode cL_row 12 = .ok (.astore_n 3, 1) := dq78 bw_cL_row_0 12 rfl rfl
theorem dL_row_13 : decode cL_row 13 = .ok (.iconst 1, 1) := dq4 bw_cL_row_0 13 rfl rfl
theorem dL_row_14 : decode cL_row 14 = .ok (.ireturn, 1) := dq172 bw_cL_row_0 14 rfl rfl
theorem dL_row_15 : decode cL_row 15 = .ok (.iconst 0, 1) := dq3 bw_cL_row_0 15 rfl rfl
theorem dL_row_16 : decode cL_row 16 = .ok (.ireturn, 1) := dq172 bw_cL_row_0 16 rfl rfl
theorem bw_cL_law_0 : dq_w cL_law 0 [187, 0, 8, 89, 183, 0, 22, 76, 187, 0, 23, 89, 183, 0, 25, 77, 4, 188, 11, 78, 3, 54, 4, 21, 4, 42, 190] = true := by decide +kernel
theorem dL_law_0 : decode cL_law 0 = .ok (.new 8, 3) := dq187 bw_cL_law_0 0 rfl rfl rfl
theorem dL_law_3 : decode cL_law 3 = .ok (.dup, 1) := dq89 bw_cL_law_0 3 rfl rfl
theorem dL_law_4 : decode cL_law 4 = .ok (.invokespecial 22, 3) := dq183 bw_cL_law_0 4 rfl rfl rfl
theorem dL_law_7 : decode cL_law 7 = .ok (.astore_n 1, 1) := dq76 bw_cL_law_0 7 rfl rfl
theorem dL_law_8 : decode cL_law 8 = .ok (.new 23, 3) := dq187 bw_cL_law_0 8 rfl rfl rfl
theorem dL_law_11 : decode cL_law 11 = .ok (.dup, 1) := dq89 bw_cL_law_0 11 rfl rfl
theorem dL_law_12 : decode cL_law 12 = .ok (.invokespecial 25, 3) := dq183 bw_cL_law_0 12 rfl rfl rfl
theorem dL_law_15 : decode cL_law 15 = .ok (.astore_n 2, 1) := dq77 bw_cL_law_0 15 rfl rfl
theorem dL_law_16 : decode cL_law 16 = .ok (.iconst 1, 1) := dq4 bw_cL_law_0 16 rfl rfl
theorem dL_law_17 : decode cL_law 17 = .ok (.newarray .long, 2) := dq188_11 bw_cL_law_0 17 rfl rfl
theorem dL_law_19 : decode cL_law 19 = .ok (.astore_n 3, 1) := dq78 bw_cL_law_0 19 rfl rfl
theorem dL_law_20 : decode cL_law 20 = .ok (.iconst 0, 1) := dq3 bw_cL_law_0 20 rfl rfl
theorem dL_law_21 : decode cL_law 21 = .ok (.istore 4, 2) := dq54 bw_cL_law_0 21 rfl rfl
theorem dL_law_23 : decode cL_law 23 = .ok (.iload 4, 2) := dq21 bw_cL_law_0 23 rfl rfl
theorem bw_cL_law_1 : dq_w cL_law 24 [4, 42, 190, 8, 100, 163, 4, 114, 42, 21, 4, 46, 16, 63, 126, 170, 0, 0, 4, 98, 0, 0, 0, 0, 0, 0, 0] = true := by decide +kernel
theorem dL_law_25 : decode cL_law 25 = .ok (.aload_n 0, 1) := dq42 bw_cL_law_1 1 rfl rfl
theorem dL_law_26 : decode cL_law 26 = .ok (.arraylength, 1) := dq190 bw_cL_law_1 2 rfl rfl
theorem dL_law_27 : decode cL_law 27 = .ok (.iconst 5, 1) := dq8 bw_cL_law_1 3 rfl rfl
theorem dL_law_28 : decode cL_law 28 = .ok (.isub, 1) := dq100 bw_cL_law_1 4 rfl rfl
theorem dL_law_29 : decode cL_law 29 = .ok (.if_icmp .gt 1138, 3) := dq163 bw_cL_law_1 5 rfl rfl rfl
theorem dL_law_32 : decode cL_law 32 = .ok (.aload_n 0, 1) := dq42 bw_cL_law_1 8 rfl rfl
theorem dL_law_33 : decode cL_law 33 = .ok (.iload 4, 2) := dq21 bw_cL_law_1 9 rfl rfl
theorem dL_law_35 : decode cL_law 35 = .ok (.iaload, 1) := dq46 bw_cL_law_1 11 rfl rfl
theorem dL_law_36 : decode cL_law 36 = .ok (.bipush 63, 2) := dq16 bw_cL_law_1 12 rfl rfl rfl
theorem dL_law_38 : decode cL_law 38 = .ok (.iand, 1) := dq126 bw_cL_law_1 14 rfl rfl
theorem dL_law_39 : decode cL_law 39 = .ok (.tableswitch 1122 0 39 #[173, 198, 223, 236, 276, 313, 362, 423, 448, 473, 486, 511, 524, 549, 574, 599, 612, 637, 650, 663, 688, 701, 714, 727, 764, 801, 838, 851, 879, 904, 941, 954, 967, 980, 993, 1006, 1019, 1044, 1069, 1094], 173) := by decide +kernel
theorem bw_cL_law_8 : dq_w cL_law 192 [0, 0, 3, 238, 0, 0, 3, 251, 0, 0, 4, 20, 0, 0, 4, 45, 0, 0, 4, 70, 43, 42, 21, 4, 4, 96, 46] = true := by decide +kernel
theorem dL_law_212 : decode cL_law 212 = .ok (.aload_n 1, 1) := dq43 bw_cL_law_8 20 rfl rfl
theorem dL_law_213 : decode cL_law 213 = .ok (.aload_n 0, 1) := dq42 bw_cL_law_8 21 rfl rfl
theorem dL_law_214 : decode cL_law 214 = .ok (.iload 4, 2) := dq21 bw_cL_law_8 22 rfl rfl
theorem bw_cL_law_9 : dq_w cL_law 216 [4, 96, 46, 182, 0, 26, 87, 44, 42, 21, 4, 4, 96, 46, 182, 0, 29, 87, 167, 3, 159, 43, 42, 21, 4, 4, 96] = true := by decide +kernel
theorem dL_law_216 : decode cL_law 216 = .ok (.iconst 1, 1) := dq4 bw_cL_law_9 0 rfl rfl
theorem dL_law_217 : decode cL_law 217 = .ok (.iadd, 1) := dq96 bw_cL_law_9 1 rfl rfl
theorem dL_law_218 : decode cL_law 218 = .ok (.iaload, 1) := dq46 bw_cL_law_9 2 rfl rfl
theorem dL_law_219 : decode cL_law 219 = .ok (.invokevirtual 26, 3) := dq182 bw_cL_law_9 3 rfl rfl rfl
theorem dL_law_222 : decode cL_law 222 = .ok (.pop, 1) := dq87 bw_cL_law_9 6 rfl rfl
theorem dL_law_223 : decode cL_law 223 = .ok (.aload_n 2, 1) := dq44 bw_cL_law_9 7 rfl rfl
theorem dL_law_224 : decode cL_law 224 = .ok (.aload_n 0, 1) := dq42 bw_cL_law_9 8 rfl rfl
theorem dL_law_225 : decode cL_law 225 = .ok (.iload 4, 2) := dq21 bw_cL_law_9 9 rfl rfl
theorem dL_law_227 : decode cL_law 227 = .ok (.iconst 1, 1) := dq4 bw_cL_law_9 11 rfl rfl
theorem dL_law_228 : decode cL_law 228 = .ok (.iadd, 1) := dq96 bw_cL_law_9 12 rfl rfl
theorem dL_law_229 : decode cL_law 229 = .ok (.iaload, 1) := dq46 bw_cL_law_9 13 rfl rfl
theorem dL_law_230 : decode cL_law 230 = .ok (.invokevirtual 29, 3) := dq182 bw_cL_law_9 14 rfl rfl rfl
theorem dL_law_233 : decode cL_law 233 = .ok (.pop, 1) := dq87 bw_cL_law_9 17 rfl rfl
theorem dL_law_234 : decode cL_law 234 = .ok (.goto 927, 3) := dq167 bw_cL_law_9 18 rfl rfl rfl
theorem dL_law_237 : decode cL_law 237 = .ok (.aload_n 1, 1) := dq43 bw_cL_law_9 21 rfl rfl
theorem dL_law_238 : decode cL_law 238 = .ok (.aload_n 0, 1) := dq42 bw_cL_law_9 22 rfl rfl
theorem dL_law_239 : decode cL_law 239 = .ok (.iload 4, 2) := dq21 bw_cL_law_9 23 rfl rfl
theorem bw_cL_law_10 : dq_w cL_law 240 [4, 4, 96, 46, 182, 0, 30, 87, 44, 42, 21, 4, 4, 96, 46, 182, 0, 34, 87, 167, 3, 134, 43, 182, 0, 35, 87] = true := by decide +kernel
theorem dL_law_241 : decode cL_law 241 = .ok (.iconst 1, 1) := dq4 bw_cL_law_10 1 rfl rfl
theorem dL_law_242 : decode cL_law 242 = .ok (.iadd, 1) := dq96 bw_cL_law_10 2 rfl rfl
theorem dL_law_243 : decode cL_law 243 = .ok (.iaload, 1) := dq46 bw_cL_law_10 3 rfl rfl
theorem dL_law_244 : decode cL_law 244 = .ok (.invokevirtual 30, 3) := dq182 bw_cL_law_10 4 rfl rfl rfl
theorem dL_law_247 : decode cL_law 247 = .ok (.pop, 1) := dq87 bw_cL_law_10 7 rfl rfl
theorem dL_law_248 : decode cL_law 248 = .ok (.aload_n 2, 1) := dq44 bw_cL_law_10 8 rfl rfl
theorem dL_law_249 : decode cL_law 249 = .ok (.aload_n 0, 1) := dq42 bw_cL_law_10 9 rfl rfl
theorem dL_law_250 : decode cL_law 250 = .ok (.iload 4, 2) := dq21 bw_cL_law_10 10 rfl rfl
theorem dL_law_252 : decode cL_law 252 = .ok (.iconst 1, 1) := dq4 bw_cL_law_10 12 rfl rfl
theorem dL_law_253 : decode cL_law 253 = .ok (.iadd, 1) := dq96 bw_cL_law_10 13 rfl rfl
theorem dL_law_254 : decode cL_law 254 = .ok (.iaload, 1) := dq46 bw_cL_law_10 14 rfl rfl
theorem dL_law_255 : decode cL_law 255 = .ok (.invokevirtual 34, 3) := dq182 bw_cL_law_10 15 rfl rfl rfl
theorem dL_law_258 : decode cL_law 258 = .ok (.pop, 1) := dq87 bw_cL_law_10 18 rfl rfl
theorem dL_law_259 : decode cL_law 259 = .ok (.goto 902, 3) := dq167 bw_cL_law_10 19 rfl rfl rfl
theorem dL_law_262 : decode cL_law 262 = .ok (.aload_n 1, 1) := dq43 bw_cL_law_10 22 rfl rfl
theorem dL_law_263 : decode cL_law 263 = .ok (.invokevirtual 35, 3) := dq182 bw_cL_law_10 23 rfl rfl rfl
theorem bw_cL_law_11 : dq_w cL_law 264 [0, 35, 87, 44, 182, 0, 39, 87, 167, 3, 121, 43, 42, 21, 4, 4, 96, 46, 42, 21, 4, 5, 96, 46, 45, 184, 0] = true := by decide +kernel
theorem dL_law_266 : decode cL_law 266 = .ok (.pop, 1) := dq87 bw_cL_law_11 2 rfl rfl
theorem dL_law_267 : decode cL_law 267 = .ok (.aload_n 2, 1) := dq44 bw_cL_law_11 3 rfl rfl
theorem dL_law_268 : decode cL_law 268 = .ok (.invokevirtual 39, 3) := dq182 bw_cL_law_11 4 rfl rfl rfl
theorem dL_law_271 : decode cL_law 271 = .ok (.pop, 1) := dq87 bw_cL_law_11 7 rfl rfl
theorem dL_law_272 : decode cL_law 272 = .ok (.goto 889, 3) := dq167 bw_cL_law_11 8 rfl rfl rfl
theorem dL_law_275 : decode cL_law 275 = .ok (.aload_n 1, 1) := dq43 bw_cL_law_11 11 rfl rfl
theorem dL_law_276 : decode cL_law 276 = .ok (.aload_n 0, 1) := dq42 bw_cL_law_11 12 rfl rfl
theorem dL_law_277 : decode cL_law 277 = .ok (.iload 4, 2) := dq21 bw_cL_law_11 13 rfl rfl
theorem dL_law_279 : decode cL_law 279 = .ok (.iconst 1, 1) := dq4 bw_cL_law_11 15 rfl rfl
theorem dL_law_280 : decode cL_law 280 = .ok (.iadd, 1) := dq96 bw_cL_law_11 16 rfl rfl
theorem dL_law_281 : decode cL_law 281 = .ok (.iaload, 1) := dq46 bw_cL_law_11 17 rfl rfl
theorem dL_law_282 : decode cL_law 282 = .ok (.aload_n 0, 1) := dq42 bw_cL_law_11 18 rfl rfl
theorem dL_law_283 : decode cL_law 283 = .ok (.iload 4, 2) := dq21 bw_cL_law_11 19 rfl rfl
theorem dL_law_285 : decode cL_law 285 = .ok (.iconst 2, 1) := dq5 bw_cL_law_11 21 rfl rfl
theorem dL_law_286 : decode cL_law 286 = .ok (.iadd, 1) := dq96 bw_cL_law_11 22 rfl rfl
theorem dL_law_287 : decode cL_law 287 = .ok (.iaload, 1) := dq46 bw_cL_law_11 23 rfl rfl
theorem bw_cL_law_12 : dq_w cL_law 288 [45, 184, 0, 40, 54, 5, 44, 42, 21, 4, 4, 96, 46, 42, 21, 4, 5, 96, 46, 182, 0, 45, 54, 6, 167, 3, 81] = true := by decide +kernel
theorem dL_law_288 : decode cL_law 288 = .ok (.aload_n 3, 1) := dq45 bw_cL_law_12 0 rfl rfl
theorem dL_law_289 : decode cL_law 289 = .ok (.invokestatic 40, 3) := dq184 bw_cL_law_12 1 rfl rfl rfl
theorem dL_law_292 : decode cL_law 292 = .ok (.istore 5, 2) := dq54 bw_cL_law_12 4 rfl rfl
theorem dL_law_294 : decode cL_law 294 = .ok (.aload_n 2, 1) := dq44 bw_cL_law_12 6 rfl rfl
theorem dL_law_295 : decode cL_law 295 = .ok (.aload_n 0, 1) := dq42 bw_cL_law_12 7 rfl rfl
theorem dL_law_296 : decode cL_law 296 = .ok (.iload 4, 2) := dq21 bw_cL_law_12 8 rfl rfl
theorem dL_law_298 : decode cL_law 298 = .ok (.iconst 1, 1) := dq4 bw_cL_law_12 10 rfl rfl
theorem dL_law_299 : decode cL_law 299 = .ok (.iadd, 1) := dq96 bw_cL_law_12 11 rfl rfl
theorem dL_law_300 : decode cL_law 300 = .ok (.iaload, 1) := dq46 bw_cL_law_12 12 rfl rfl
theorem dL_law_301 : decode cL_law 301 = .ok (.aload_n 0, 1) := dq42 bw_cL_law_12 13 rfl rfl
theorem dL_law_302 : decode cL_law 302 = .ok (.iload 4, 2) := dq21 bw_cL_law_12 14 rfl rfl
theorem dL_law_304 : decode cL_law 304 = .ok (.iconst 2, 1) := dq5 bw_cL_law_12 16 rfl rfl
theorem dL_law_305 : decode cL_law 305 = .ok (.iadd, 1) := dq96 bw_cL_law_12 17 rfl rfl
theorem dL_law_306 : decode cL_law 306 = .ok (.iaload, 1) := dq46 bw_cL_law_12 18 rfl rfl
theorem dL_law_307 : decode cL_law 307 = .ok (.invokevirtual 45, 3) := dq182 bw_cL_law_12 19 rfl rfl rfl
theorem dL_law_310 : decode cL_law 310 = .ok (.istore 6, 2) := dq54 bw_cL_law_12 22 rfl rfl
theorem bw_cL_law_13 : dq_w cL_law 312 [167, 3, 81, 43, 42, 21, 4, 4, 96, 46, 42, 21, 4, 5, 96, 46, 182, 0, 46, 87, 44, 42, 21, 4, 4, 96, 46] = true := by decide +kernel
theorem dL_law_312 : decode cL_law 312 = .ok (.goto 849, 3) := dq167 bw_cL_law_13 0 rfl rfl rfl
theorem dL_law_315 : decode cL_law 315 = .ok (.aload_n 1, 1) := dq43 bw_cL_law_13 3 rfl rfl
theorem dL_law_316 : decode cL_law 316 = .ok (.aload_n 0, 1) := dq42 bw_cL_law_13 4 rfl rfl
theorem dL_law_317 : decode cL_law 317 = .ok (.iload 4, 2) := dq21 bw_cL_law_13 5 rfl rfl
theorem dL_law_319 : decode cL_law 319 = .ok (.iconst 1, 1) := dq4 bw_cL_law_13 7 rfl rfl
theorem dL_law_320 : decode cL_law 320 = .ok (.iadd, 1) := dq96 bw_cL_law_13 8 rfl rfl
theorem dL_law_321 : decode cL_law 321 = .ok (.iaload, 1) := dq46 bw_cL_law_13 9 rfl rfl
theorem dL_law_322 : decode cL_law 322 = .ok (.aload_n 0, 1) := dq42 bw_cL_law_13 10 rfl rfl
theorem dL_law_323 : decode cL_law 323 = .ok (.iload 4, 2) := dq21 bw_cL_law_13 11 rfl rfl
theorem dL_law_325 : decode cL_law 325 = .ok (.iconst 2, 1) := dq5 bw_cL_law_13 13 rfl rfl
theorem dL_law_326 : decode cL_law 326 = .ok (.iadd, 1) := dq96 bw_cL_law_13 14 rfl rfl
theorem dL_law_327 : decode cL_law 327 = .ok (.iaload, 1) := dq46 bw_cL_law_13 15 rfl rfl
theorem dL_law_328 : decode cL_law 328 = .ok (.invokevirtual 46, 3) := dq182 bw_cL_law_13 16 rfl rfl rfl
theorem dL_law_331 : decode cL_law 331 = .ok (.pop, 1) := dq87 bw_cL_law_13 19 rfl rfl
theorem dL_law_332 : decode cL_law 332 = .ok (.aload_n 2, 1) := dq44 bw_cL_law_13 20 rfl rfl
theorem dL_law_333 : decode cL_law 333 = .ok (.aload_n 0, 1) := dq42 bw_cL_law_13 21 rfl rfl
theorem dL_law_334 : decode cL_law 334 = .ok (.iload 4, 2) := dq21 bw_cL_law_13 22 rfl rfl
theorem bw_cL_law_14 : dq_w cL_law 336 [4, 96, 46, 42, 21, 4, 5, 96, 46, 182, 0, 49, 87, 167, 3, 44, 43, 42, 21, 4, 4, 96, 46, 42, 21, 4, 5] = true := by decide +kernel
theorem dL_law_336 : decode cL_law 336 = .ok (.iconst 1, 1) := dq4 bw_cL_law_14 0 rfl rfl
theorem dL_law_337 : decode cL_law 337 = .ok (.iadd, 1) := dq96 bw_cL_law_14 1 rfl rfl
theorem dL_law_338 : decode cL_law 338 = .ok (.iaload, 1) := dq46 bw_cL_law_14 2 rfl rfl
theorem dL_law_339 : decode cL_law 339 = .ok (.aload_n 0, 1) := dq42 bw_cL_law_14 3 rfl rfl
theorem dL_law_340 : decode cL_law 340 = .ok (.iload 4, 2) := dq21 bw_cL_law_14 4 rfl rfl
theorem dL_law_342 : decode cL_law 342 = .ok (.iconst 2, 1) := dq5 bw_cL_law_14 6 rfl rfl
theorem dL_law_343 : decode cL_law 343 = .ok (.iadd, 1) := dq96 bw_cL_law_14 7 rfl rfl
theorem dL_law_344 : decode cL_law 344 = .ok (.iaload, 1) := dq46 bw_cL_law_14 8 rfl rfl
theorem dL_law_345 : decode cL_law 345 = .ok (.invokevirtual 49, 3) := dq182 bw_cL_law_14 9 rfl rfl rfl
theorem dL_law_348 : decode cL_law 348 = .ok (.pop, 1) := dq87 bw_cL_law_14 12 rfl rfl
theorem dL_law_349 : decode cL_law 349 = .ok (.goto 812, 3) := dq167 bw_cL_law_14 13 rfl rfl rfl
theorem dL_law_352 : decode cL_law 352 = .ok (.aload_n 1, 1) := dq43 bw_cL_law_14 16 rfl rfl
theorem dL_law_353 : decode cL_law 353 = .ok (.aload_n 0, 1) := dq42 bw_cL_law_14 17 rfl rfl
theorem dL_law_354 : decode cL_law 354 = .ok (.iload 4, 2) := dq21 bw_cL_law_14 18 rfl rfl
theorem dL_law_356 : decode cL_law 356 = .ok (.iconst 1, 1) := dq4 bw_cL_law_14 20 rfl rfl
theorem dL_law_357 : decode cL_law 357 = .ok (.iadd, 1) := dq96 bw_cL_law_14 21 rfl rfl
theorem dL_law_358 : decode cL_law 358 = .ok (.iaload, 1) := dq46 bw_cL_law_14 22 rfl rfl
theorem dL_law_359 : decode cL_law 359 = .ok (.aload_n 0, 1) := dq42 bw_cL_law_14 23 rfl rfl
theorem bw_cL_law_15 : dq_w cL_law 360 [21, 4, 5, 96, 46, 42, 21, 4, 6, 96, 46, 182, 0, 50, 87, 44, 42, 21, 4, 4, 96, 46, 42, 21, 4, 5, 96] = true := by decide +kernel
theorem dL_law_360 : decode cL_law 360 = .ok (.iload 4, 2) := dq21 bw_cL_law_15 0 rfl rfl
theorem dL_law_362 : decode cL_law 362 = .ok (.iconst 2, 1) := dq5 bw_cL_law_15 2 rfl rfl
theorem dL_law_363 : decode cL_law 363 = .ok (.iadd, 1) := dq96 bw_cL_law_15 3 rfl rfl
theorem dL_law_364 : decode cL_law 364 = .ok (.iaload, 1) := dq46 bw_cL_law_15 4 rfl rfl
theorem dL_law_365 : decode cL_law 365 = .ok (.aload_n 0, 1) := dq42 bw_cL_law_15 5 rfl rfl
theorem dL_law_366 : decode cL_law 366 = .ok (.iload 4, 2) := dq21 bw_cL_law_15 6 rfl rfl
theorem dL_law_368 : decode cL_law 368 = .ok (.iconst 3, 1) := dq6 bw_cL_law_15 8 rfl rfl
theorem dL_law_369 : decode cL_law 369 = .ok (.iadd, 1) := dq96 bw_cL_law_15 9 rfl rfl
theorem dL_law_370 : decode cL_law 370 = .ok (.iaload, 1) := dq46 bw_cL_law_15 10 rfl rfl
theorem dL_law_371 : decode cL_law 371 = .ok (.invokevirtual 50, 3) := dq182 bw_cL_law_15 11 rfl rfl rfl
theorem dL_law_374 : decode cL_law 374 = .ok (.pop, 1) := dq87 bw_cL_law_15 14 rfl rfl
theorem dL_law_375 : decode cL_law 375 = .ok (.aload_n 2, 1) := dq44 bw_cL_law_15 15 rfl rfl
theorem dL_law_376 : decode cL_law 376 = .ok (.aload_n 0, 1) := dq42 bw_cL_law_15 16 rfl rfl
theorem dL_law_377 : decode cL_law 377 = .ok (.iload 4, 2) := dq21 bw_cL_law_15 17 rfl rfl
theorem dL_law_379 : decode cL_law 379 = .ok (.iconst 1, 1) := dq4 bw_cL_law_15 19 rfl rfl
theorem dL_law_380 : decode cL_law 380 = .ok (.iadd, 1) := dq96 bw_cL_law_15 20 rfl rfl
theorem dL_law_381 : decode cL_law 381 = .ok (.iaload, 1) := dq46 bw_cL_law_15 21 rfl rfl
theorem dL_law_382 : decode cL_law 382 = .ok (.aload_n 0, 1) := dq42 bw_cL_law_15 22 rfl rfl
theorem dL_law_383 : decode cL_law 383 = .ok (.iload 4, 2) := dq21 bw_cL_law_15 23 rfl rfl
theorem bw_cL_law_16 : dq_w cL_law 384 [4, 5, 96, 46, 42, 21, 4, 6, 96, 46, 182, 0, 54, 87, 167, 2, 251, 43, 42, 21, 4, 4, 96, 46, 42, 21, 4] = true := by decide +kernel
theorem dL_law_385 : decode cL_law 385 = .ok (.iconst 2, 1) := dq5 bw_cL_law_16 1 rfl rfl
theorem dL_law_386 : decode cL_law 386 = .ok (.iadd, 1) := dq96 bw_cL_law_16 2 rfl rfl
theorem dL_law_387 : decode cL_law 387 = .ok (.iaload, 1) := dq46 bw_cL_law_16 3 rfl rfl
theorem dL_law_388 : decode cL_law 388 = .ok (.aload_n 0, 1) := dq42 bw_cL_law_16 4 rfl rfl
theorem dL_law_389 : decode cL_law 389 = .ok (.iload 4, 2) := dq21 bw_cL_law_16 5 rfl rfl
theorem dL_law_391 : decode cL_law 391 = .ok (.iconst 3, 1) := dq6 bw_cL_law_16 7 rfl rfl
theorem dL_law_392 : decode cL_law 392 = .ok (.iadd, 1) := dq96 bw_cL_law_16 8 rfl rfl
theorem dL_law_393 : decode cL_law 393 = .ok (.iaload, 1) := dq46 bw_cL_law_16 9 rfl rfl
theorem dL_law_394 : decode cL_law 394 = .ok (.invokevirtual 54, 3) := dq182 bw_cL_law_16 10 rfl rfl rfl
theorem dL_law_397 : decode cL_law 397 = .ok (.pop, 1) := dq87 bw_cL_law_16 13 rfl rfl
theorem dL_law_398 : decode cL_law 398 = .ok (.goto 763, 3) := dq167 bw_cL_law_16 14 rfl rfl rfl
theorem dL_law_401 : decode cL_law 401 = .ok (.aload_n 1, 1) := dq43 bw_cL_law_16 17 rfl rfl
theorem dL_law_402 : decode cL_law 402 = .ok (.aload_n 0, 1) := dq42 bw_cL_law_16 18 rfl rfl
theorem dL_law_403 : decode cL_law 403 = .ok (.iload 4, 2) := dq21 bw_cL_law_16 19 rfl rfl
theorem dL_law_405 : decode cL_law 405 = .ok (.iconst 1, 1) := dq4 bw_cL_law_16 21 rfl rfl
theorem dL_law_406 : decode cL_law 406 = .ok (.iadd, 1) := dq96 bw_cL_law_16 22 rfl rfl
theorem dL_law_407 : decode cL_law 407 = .ok (.iaload, 1) := dq46 bw_cL_law_16 23 rfl rfl
theorem bw_cL_law_17 : dq_w cL_law 408 [42, 21, 4, 5, 96, 46, 42, 21, 4, 6, 96, 46, 42, 21, 4, 7, 96, 46, 182, 0, 55, 87, 44, 42, 21, 4, 4] = true := by decide +kernel
theorem dL_law_408 : decode cL_law 408 = .ok (.aload_n 0, 1) := dq42 bw_cL_law_17 0 rfl rfl
theorem dL_law_409 : decode cL_law 409 = .ok (.iload 4, 2) := dq21 bw_cL_law_17 1 rfl rfl
theorem dL_law_411 : decode cL_law 411 = .ok (.iconst 2, 1) := dq5 bw_cL_law_17 3 rfl rfl
theorem dL_law_412 : decode cL_law 412 = .ok (.iadd, 1) := dq96 bw_cL_law_17 4 rfl rfl
theorem dL_law_413 : decode cL_law 413 = .ok (.iaload, 1) := dq46 bw_cL_law_17 5 rfl rfl
theorem dL_law_414 : decode cL_law 414 = .ok (.aload_n 0, 1) := dq42 bw_cL_law_17 6 rfl rfl
theorem dL_law_415 : decode cL_law 415 = .ok (.iload 4, 2) := dq21 bw_cL_law_17 7 rfl rfl
theorem dL_law_417 : decode cL_law 417 = .ok (.iconst 3, 1) := dq6 bw_cL_law_17 9 rfl rfl
theorem dL_law_418 : decode cL_law 418 = .ok (.iadd, 1) := dq96 bw_cL_law_17 10 rfl rfl
theorem dL_law_419 : decode cL_law 419 = .ok (.iaload, 1) := dq46 bw_cL_law_17 11 rfl rfl
theorem dL_law_420 : decode cL_law 420 = .ok (.aload_n 0, 1) := dq42 bw_cL_law_17 12 rfl rfl
theorem dL_law_421 : decode cL_law 421 = .ok (.iload 4, 2) := dq21 bw_cL_law_17 13 rfl rfl
theorem dL_law_423 : decode cL_law 423 = .ok (.iconst 4, 1) := dq7 bw_cL_law_17 15 rfl rfl
theorem dL_law_424 : decode cL_law 424 = .ok (.iadd, 1) := dq96 bw_cL_law_17 16 rfl rfl
theorem dL_law_425 : decode cL_law 425 = .ok (.iaload, 1) := dq46 bw_cL_law_17 17 rfl rfl
theorem dL_law_426 : decode cL_law 426 = .ok (.invokevirtual 55, 3) := dq182 bw_cL_law_17 18 rfl rfl rfl
theorem dL_law_429 : decode cL_law 429 = .ok (.pop, 1) := dq87 bw_cL_law_17 21 rfl rfl
theorem dL_law_430 : decode cL_law 430 = .ok (.aload_n 2, 1) := dq44 bw_cL_law_17 22 rfl rfl
theorem dL_law_431 : decode cL_law 431 = .ok (.aload_n 0, 1) := dq42 bw_cL_law_17 23 rfl rfl
theorem bw_cL_law_18 : dq_w cL_law 432 [21, 4, 4, 96, 46, 42, 21, 4, 5, 96, 46, 42, 21, 4, 6, 96, 46, 42, 21, 4, 7, 96, 46, 182, 0, 59, 87] = true := by decide +kernel
theorem dL_law_432 : decode cL_law 432 = .ok (.iload 4, 2) := dq21 bw_cL_law_18 0 rfl rfl
theorem dL_law_434 : decode cL_law 434 = .ok (.iconst 1, 1) := dq4 bw_cL_law_18 2 rfl rfl
theorem dL_law_435 : decode cL_law 435 = .ok (.iadd, 1) := dq96 bw_cL_law_18 3 rfl rfl
theorem dL_law_436 : decode cL_law 436 = .ok (.iaload, 1) := dq46 bw_cL_law_18 4 rfl rfl
theorem dL_law_437 : decode cL_law 437 = .ok (.aload_n 0, 1) := dq42 bw_cL_law_18 5 rfl rfl
theorem dL_law_438 : decode cL_law 438 = .ok (.iload 4, 2) := dq21 bw_cL_law_18 6 rfl rfl
theorem dL_law_440 : decode cL_law 440 = .ok (.iconst 2, 1) := dq5 bw_cL_law_18 8 rfl rfl
theorem dL_law_441 : decode cL_law 441 = .ok (.iadd, 1) := dq96 bw_cL_law_18 9 rfl rfl
theorem dL_law_442 : decode cL_law 442 = .ok (.iaload, 1) := dq46 bw_cL_law_18 10 rfl rfl
theorem dL_law_443 : decode cL_law 443 = .ok (.aload_n 0, 1) := dq42 bw_cL_law_18 11 rfl rfl
theorem dL_law_444 : decode cL_law 444 = .ok (.iload 4, 2) := dq21 bw_cL_law_18 12 rfl rfl
theorem dL_law_446 : decode cL_law 446 = .ok (.iconst 3, 1) := dq6 bw_cL_law_18 14 rfl rfl
theorem dL_law_447 : decode cL_law 447 = .ok (.iadd, 1) := dq96 bw_cL_law_18 15 rfl rfl
theorem dL_law_448 : decode cL_law 448 = .ok (.iaload, 1) := dq46 bw_cL_law_18 16 rfl rfl
theorem dL_law_449 : decode cL_law 449 = .ok (.aload_n 0, 1) := dq42 bw_cL_law_18 17 rfl rfl
theorem dL_law_450 : decode cL_law 450 = .ok (.iload 4, 2) := dq21 bw_cL_law_18 18 rfl rfl
theorem dL_law_452 : decode cL_law 452 = .ok (.iconst 4, 1) := dq7 bw_cL_law_18 20 rfl rfl
theorem dL_law_453 : decode cL_law 453 = .ok (.iadd, 1) := dq96 bw_cL_law_18 21 rfl rfl
theorem dL_law_454 : decode cL_law 454 = .ok (.iaload, 1) := dq46 bw_cL_law_18 22 rfl rfl
theorem dL_law_455 : decode cL_law 455 = .ok (.invokevirtual 59, 3) := dq182 bw_cL_law_18 23 rfl rfl rfl
theorem bw_cL_law_19 : dq_w cL_law 456 [0, 59, 87, 167, 2, 190, 43, 42, 21, 4, 4, 96, 46, 182, 0, 60, 87, 44, 42, 21, 4, 4, 96, 46, 182, 0, 63] = true := by decide +kernel
theorem dL_law_458 : decode cL_law 458 = .ok (.pop, 1) := dq87 bw_cL_law_19 2 rfl rfl
theorem dL_law_459 : decode cL_law 459 = .ok (.goto 702, 3) := dq167 bw_cL_law_19 3 rfl rfl rfl
theorem dL_law_462 : decode cL_law 462 = .ok (.aload_n 1, 1) := dq43 bw_cL_law_19 6 rfl rfl
theorem dL_law_463 : decode cL_law 463 = .ok (.aload_n 0, 1) := dq42 bw_cL_law_19 7 rfl rfl
theorem dL_law_464 : decode cL_law 464 = .ok (.iload 4, 2) := dq21 bw_cL_law_19 8 rfl rfl
theorem dL_law_466 : decode cL_law 466 = .ok (.iconst 1, 1) := dq4 bw_cL_law_19 10 rfl rfl
theorem dL_law_467 : decode cL_law 467 = .ok (.iadd, 1) := dq96 bw_cL_law_19 11 rfl rfl
theorem dL_law_468 : decode cL_law 468 = .ok (.iaload, 1) := dq46 bw_cL_law_19 12 rfl rfl
theorem dL_law_469 : decode cL_law 469 = .ok (.invokevirtual 60, 3) := dq182 bw_cL_law_19 13 rfl rfl rfl
theorem dL_law_472 : decode cL_law 472 = .ok (.pop, 1) := dq87 bw_cL_law_19 16 rfl rfl
theorem dL_law_473 : decode cL_law 473 = .ok (.aload_n 2, 1) := dq44 bw_cL_law_19 17 rfl rfl
theorem dL_law_474 : decode cL_law 474 = .ok (.aload_n 0, 1) := dq42 bw_cL_law_19 18 rfl rfl
theorem dL_law_475 : decode cL_law 475 = .ok (.iload 4, 2) := dq21 bw_cL_law_19 19 rfl rfl
theorem dL_law_477 : decode cL_law 477 = .ok (.iconst 1, 1) := dq4 bw_cL_law_19 21 rfl rfl
theorem dL_law_478 : decode cL_law 478 = .ok (.iadd, 1) := dq96 bw_cL_law_19 22 rfl rfl
theorem dL_law_479 : decode cL_law 479 = .ok (.iaload, 1) := dq46 bw_cL_law_19 23 rfl rfl
theorem bw_cL_law_20 : dq_w cL_law 480 [182, 0, 63, 87, 167, 2, 165, 43, 42, 21, 4, 4, 96, 46, 182, 0, 64, 87, 44, 42, 21, 4, 4, 96, 46, 182, 0] = true := by decide +kernel
theorem dL_law_480 : decode cL_law 480 = .ok (.invokevirtual 63, 3) := dq182 bw_cL_law_20 0 rfl rfl rfl
theorem dL_law_483 : decode cL_law 483 = .ok (.pop, 1) := dq87 bw_cL_law_20 3 rfl rfl
theorem dL_law_484 : decode cL_law 484 = .ok (.goto 677, 3) := dq167 bw_cL_law_20 4 rfl rfl rfl
theorem dL_law_487 : decode cL_law 487 = .ok (.aload_n 1, 1) := dq43 bw_cL_law_20 7 rfl rfl
theorem dL_law_488 : decode cL_law 488 = .ok (.aload_n 0, 1) := dq42 bw_cL_law_20 8 rfl rfl
theorem dL_law_489 : decode cL_law 489 = .ok (.iload 4, 2) := dq21 bw_cL_law_20 9 rfl rfl
theorem dL_law_491 : decode cL_law 491 = .ok (.iconst 1, 1) := dq4 bw_cL_law_20 11 rfl rfl
theorem dL_law_492 : decode cL_law 492 = .ok (.iadd, 1) := dq96 bw_cL_law_20 12 rfl rfl
theorem dL_law_493 : decode cL_law 493 = .ok (.iaload, 1) := dq46 bw_cL_law_20 13 rfl rfl
theorem dL_law_494 : decode cL_law 494 = .ok (.invokevirtual 64, 3) := dq182 bw_cL_law_20 14 rfl rfl rfl
theorem dL_law_497 : decode cL_law 497 = .ok (.pop, 1) := dq87 bw_cL_law_20 17 rfl rfl
theorem dL_law_498 : decode cL_law 498 = .ok (.aload_n 2, 1) := dq44 bw_cL_law_20 18 rfl rfl
theorem dL_law_499 : decode cL_law 499 = .ok (.aload_n 0, 1) := dq42 bw_cL_law_20 19 rfl rfl
theorem dL_law_500 : decode cL_law 500 = .ok (.iload 4, 2) := dq21 bw_cL_law_20 20 rfl rfl
theorem dL_law_502 : decode cL_law 502 = .ok (.iconst 1, 1) := dq4 bw_cL_law_20 22 rfl rfl
theorem dL_law_503 : decode cL_law 503 = .ok (.iadd, 1) := dq96 bw_cL_law_20 23 rfl rfl
theorem bw_cL_law_21 : dq_w cL_law 504 [46, 182, 0, 67, 87, 167, 2, 140, 43, 182, 0, 68, 87, 44, 182, 0, 71, 87, 167, 2, 127, 43, 42, 21, 4, 4, 96] = true := by decide +kernel
theorem dL_law_504 : decode cL_law 504 = .ok (.iaload, 1) := dq46 bw_cL_law_21 0 rfl rfl
theorem dL_law_505 : decode cL_law 505 = .ok (.invokevirtual 67, 3) := dq182 bw_cL_law_21 1 rfl rfl rfl
theorem dL_law_508 : decode cL_law 508 = .ok (.pop, 1) := dq87 bw_cL_law_21 4 rfl rfl
theorem dL_law_509 : decode cL_law 509 = .ok (.goto 652, 3) := dq167 bw_cL_law_21 5 rfl rfl rfl
theorem dL_law_512 : decode cL_law 512 = .ok (.aload_n 1, 1) := dq43 bw_cL_law_21 8 rfl rfl
theorem dL_law_513 : decode cL_law 513 = .ok (.invokevirtual 68, 3) := dq182 bw_cL_law_21 9 rfl rfl rfl
theorem dL_law_516 : decode cL_law 516 = .ok (.pop, 1) := dq87 bw_cL_law_21 12 rfl rfl
theorem dL_law_517 : decode cL_law 517 = .ok (.aload_n 2, 1) := dq44 bw_cL_law_21 13 rfl rfl
theorem dL_law_518 : decode cL_law 518 = .ok (.invokevirtual 71, 3) := dq182 bw_cL_law_21 14 rfl rfl rfl
theorem dL_law_521 : decode cL_law 521 = .ok (.pop, 1) := dq87 bw_cL_law_21 17 rfl rfl
theorem dL_law_522 : decode cL_law 522 = .ok (.goto 639, 3) := dq167 bw_cL_law_21 18 rfl rfl rfl
theorem dL_law_525 : decode cL_law 525 = .ok (.aload_n 1, 1) := dq43 bw_cL_law_21 21 rfl rfl
theorem dL_law_526 : decode cL_law 526 = .ok (.aload_n 0, 1) := dq42 bw_cL_law_21 22 rfl rfl
theorem dL_law_527 : decode cL_law 527 = .ok (.iload 4, 2) := dq21 bw_cL_law_21 23 rfl rfl
theorem bw_cL_law_22 : dq_w cL_law 528 [4, 4, 96, 46, 182, 0, 72, 87, 44, 42, 21, 4, 4, 96, 46, 182, 0, 75, 87, 167, 2, 102, 43, 182, 0, 76, 87] = true := by decide +kernel
theorem dL_law_529 : decode cL_law 529 = .ok (.iconst 1, 1) := dq4 bw_cL_law_22 1 rfl rfl
theorem dL_law_530 : decode cL_law 530 = .ok (.iadd, 1) := dq96 bw_cL_law_22 2 rfl rfl
theorem dL_law_531 : decode cL_law 531 = .ok (.iaload, 1) := dq46 bw_cL_law_22 3 rfl rfl
theorem dL_law_532 : decode cL_law 532 = .ok (.invokevirtual 72, 3) := dq182 bw_cL_law_22 4 rfl rfl rfl
theorem dL_law_535 : decode cL_law 535 = .ok (.pop, 1) := dq87 bw_cL_law_22 7 rfl rfl
theorem dL_law_536 : decode cL_law 536 = .ok (.aload_n 2, 1) := dq44 bw_cL_law_22 8 rfl rfl
theorem dL_law_537 : decode cL_law 537 = .ok (.aload_n 0, 1) := dq42 bw_cL_law_22 9 rfl rfl
theorem dL_law_538 : decode cL_law 538 = .ok (.iload 4, 2) := dq21 bw_cL_law_22 10 rfl rfl
theorem dL_law_540 : decode cL_law 540 = .ok (.iconst 1, 1) := dq4 bw_cL_law_22 12 rfl rfl
theorem dL_law_541 : decode cL_law 541 = .ok (.iadd, 1) := dq96 bw_cL_law_22 13 rfl rfl
theorem dL_law_542 : decode cL_law 542 = .ok (.iaload, 1) := dq46 bw_cL_law_22 14 rfl rfl
theorem dL_law_543 : decode cL_law 543 = .ok (.invokevirtual 75, 3) := dq182 bw_cL_law_22 15 rfl rfl rfl
theorem dL_law_546 : decode cL_law 546 = .ok (.pop, 1) := dq87 bw_cL_law_22 18 rfl rfl
theorem dL_law_547 : decode cL_law 547 = .ok (.goto 614, 3) := dq167 bw_cL_law_22 19 rfl rfl rfl
theorem dL_law_550 : decode cL_law 550 = .ok (.aload_n 1, 1) := dq43 bw_cL_law_22 22 rfl rfl
theorem dL_law_551 : decode cL_law 551 = .ok (.invokevirtual 76, 3) := dq182 bw_cL_law_22 23 rfl rfl rfl
theorem bw_cL_law_23 : dq_w cL_law 552 [0, 76, 87, 44, 182, 0, 79, 87, 167, 2, 89, 43, 42, 21, 4, 4, 96, 46, 182, 0, 80, 87, 44, 42, 21, 4, 4] = true := by decide +kernel
theorem dL_law_554 : decode cL_law 554 = .ok (.pop, 1) := dq87 bw_cL_law_23 2 rfl rfl
theorem dL_law_555 : decode cL_law 555 = .ok (.aload_n 2, 1) := dq44 bw_cL_law_23 3 rfl rfl
theorem dL_law_556 : decode cL_law 556 = .ok (.invokevirtual 79, 3) := dq182 bw_cL_law_23 4 rfl rfl rfl
theorem dL_law_559 : decode cL_law 559 = .ok (.pop, 1) := dq87 bw_cL_law_23 7 rfl rfl
theorem dL_law_560 : decode cL_law 560 = .ok (.goto 601, 3) := dq167 bw_cL_law_23 8 rfl rfl rfl
theorem dL_law_563 : decode cL_law 563 = .ok (.aload_n 1, 1) := dq43 bw_cL_law_23 11 rfl rfl
theorem dL_law_564 : decode cL_law 564 = .ok (.aload_n 0, 1) := dq42 bw_cL_law_23 12 rfl rfl
theorem dL_law_565 : decode cL_law 565 = .ok (.iload 4, 2) := dq21 bw_cL_law_23 13 rfl rfl
theorem dL_law_567 : decode cL_law 567 = .ok (.iconst 1, 1) := dq4 bw_cL_law_23 15 rfl rfl
theorem dL_law_568 : decode cL_law 568 = .ok (.iadd, 1) := dq96 bw_cL_law_23 16 rfl rfl
theorem dL_law_569 : decode cL_law 569 = .ok (.iaload, 1) := dq46 bw_cL_law_23 17 rfl rfl
theorem dL_law_570 : decode cL_law 570 = .ok (.invokevirtual 80, 3) := dq182 bw_cL_law_23 18 rfl rfl rfl
theorem dL_law_573 : decode cL_law 573 = .ok (.pop, 1) := dq87 bw_cL_law_23 21 rfl rfl
theorem dL_law_574 : decode cL_law 574 = .ok (.aload_n 2, 1) := dq44 bw_cL_law_23 22 rfl rfl
theorem dL_law_575 : decode cL_law 575 = .ok (.aload_n 0, 1) := dq42 bw_cL_law_23 23 rfl rfl
theorem bw_cL_law_24 : dq_w cL_law 576 [21, 4, 4, 96, 46, 182, 0, 83, 87, 167, 2, 64, 43, 42, 21, 4, 4, 96, 46, 182, 0, 84, 87, 44, 42, 21, 4] = true := by decide +kernel
theorem dL_law_576 : decode cL_law 576 = .ok (.iload 4, 2) := dq21 bw_cL_law_24 0 rfl rfl
theorem dL_law_578 : decode cL_law 578 = .ok (.iconst 1, 1) := dq4 bw_cL_law_24 2 rfl rfl
theorem dL_law_579 : decode cL_law 579 = .ok (.iadd, 1) := dq96 bw_cL_law_24 3 rfl rfl
theorem dL_law_580 : decode cL_law 580 = .ok (.iaload, 1) := dq46 bw_cL_law_24 4 rfl rfl
theorem dL_law_581 : decode cL_law 581 = .ok (.invokevirtual 83, 3) := dq182 bw_cL_law_24 5 rfl rfl rfl
theorem dL_law_584 : decode cL_law 584 = .ok (.pop, 1) := dq87 bw_cL_law_24 8 rfl rfl
theorem dL_law_585 : decode cL_law 585 = .ok (.goto 576, 3) := dq167 bw_cL_law_24 9 rfl rfl rfl
theorem dL_law_588 : decode cL_law 588 = .ok (.aload_n 1, 1) := dq43 bw_cL_law_24 12 rfl rfl
theorem dL_law_589 : decode cL_law 589 = .ok (.aload_n 0, 1) := dq42 bw_cL_law_24 13 rfl rfl
theorem dL_law_590 : decode cL_law 590 = .ok (.iload 4, 2) := dq21 bw_cL_law_24 14 rfl rfl
theorem dL_law_592 : decode cL_law 592 = .ok (.iconst 1, 1) := dq4 bw_cL_law_24 16 rfl rfl
theorem dL_law_593 : decode cL_law 593 = .ok (.iadd, 1) := dq96 bw_cL_law_24 17 rfl rfl
theorem dL_law_594 : decode cL_law 594 = .ok (.iaload, 1) := dq46 bw_cL_law_24 18 rfl rfl
theorem dL_law_595 : decode cL_law 595 = .ok (.invokevirtual 84, 3) := dq182 bw_cL_law_24 19 rfl rfl rfl
theorem dL_law_598 : decode cL_law 598 = .ok (.pop, 1) := dq87 bw_cL_law_24 22 rfl rfl
theorem dL_law_599 : decode cL_law 599 = .ok (.aload_n 2, 1) := dq44 bw_cL_law_24 23 rfl rfl
theorem bw_cL_law_25 : dq_w cL_law 600 [42, 21, 4, 4, 96, 46, 182, 0, 87, 87, 167, 2, 39, 43, 42, 21, 4, 4, 96, 46, 182, 0, 88, 87, 44, 42, 21] = true := by decide +kernel
theorem dL_law_600 : decode cL_law 600 = .ok (.aload_n 0, 1) := dq42 bw_cL_law_25 0 rfl rfl
theorem dL_law_601 : decode cL_law 601 = .ok (.iload 4, 2) := dq21 bw_cL_law_25 1 rfl rfl
theorem dL_law_603 : decode cL_law 603 = .ok (.iconst 1, 1) := dq4 bw_cL_law_25 3 rfl rfl
theorem dL_law_604 : decode cL_law 604 = .ok (.iadd, 1) := dq96 bw_cL_law_25 4 rfl rfl
theorem dL_law_605 : decode cL_law 605 = .ok (.iaload, 1) := dq46 bw_cL_law_25 5 rfl rfl
theorem dL_law_606 : decode cL_law 606 = .ok (.invokevirtual 87, 3) := dq182 bw_cL_law_25 6 rfl rfl rfl
theorem dL_law_609 : decode cL_law 609 = .ok (.pop, 1) := dq87 bw_cL_law_25 9 rfl rfl
theorem dL_law_610 : decode cL_law 610 = .ok (.goto 551, 3) := dq167 bw_cL_law_25 10 rfl rfl rfl
theorem dL_law_613 : decode cL_law 613 = .ok (.aload_n 1, 1) := dq43 bw_cL_law_25 13 rfl rfl
theorem dL_law_614 : decode cL_law 614 = .ok (.aload_n 0, 1) := dq42 bw_cL_law_25 14 rfl rfl
theorem dL_law_615 : decode cL_law 615 = .ok (.iload 4, 2) := dq21 bw_cL_law_25 15 rfl rfl
theorem dL_law_617 : decode cL_law 617 = .ok (.iconst 1, 1) := dq4 bw_cL_law_25 17 rfl rfl
theorem dL_law_618 : decode cL_law 618 = .ok (.iadd, 1) := dq96 bw_cL_law_25 18 rfl rfl
theorem dL_law_619 : decode cL_law 619 = .ok (.iaload, 1) := dq46 bw_cL_law_25 19 rfl rfl
theorem dL_law_620 : decode cL_law 620 = .ok (.invokevirtual 88, 3) := dq182 bw_cL_law_25 20 rfl rfl rfl
theorem dL_law_623 : decode cL_law 623 = .ok (.pop, 1) := dq87 bw_cL_law_25 23 rfl rfl
theorem bw_cL_law_26 : dq_w cL_law 624 [44, 42, 21, 4, 4, 96, 46, 182, 0, 91, 87, 167, 2, 14, 43, 182, 0, 92, 44, 182, 0, 95, 159, 2, 3, 3, 172] = true := by decide +kernel
theorem dL_law_624 : decode cL_law 624 = .ok (.aload_n 2, 1) := dq44 bw_cL_law_26 0 rfl rfl
theorem dL_law_625 : decode cL_law 625 = .ok (.aload_n 0, 1) := dq42 bw_cL_law_26 1 rfl rfl
theorem dL_law_626 : decode cL_law 626 = .ok (.iload 4, 2) := dq21 bw_cL_law_26 2 rfl rfl
theorem dL_law_628 : decode cL_law 628 = .ok (.iconst 1, 1) := dq4 bw_cL_law_26 4 rfl rfl
theorem dL_law_629 : decode cL_law 629 = .ok (.iadd, 1) := dq96 bw_cL_law_26 5 rfl rfl
theorem dL_law_630 : decode cL_law 630 = .ok (.iaload, 1) := dq46 bw_cL_law_26 6 rfl rfl
theorem dL_law_631 : decode cL_law 631 = .ok (.invokevirtual 91, 3) := dq182 bw_cL_law_26 7 rfl rfl rfl
theorem dL_law_634 : decode cL_law 634 = .ok (.pop, 1) := dq87 bw_cL_law_26 10 rfl rfl
theorem dL_law_635 : decode cL_law 635 = .ok (.goto 526, 3) := dq167 bw_cL_law_26 11 rfl rfl rfl
theorem dL_law_638 : decode cL_law 638 = .ok (.aload_n 1, 1) := dq43 bw_cL_law_26 14 rfl rfl
theorem dL_law_639 : decode cL_law 639 = .ok (.invokevirtual 92, 3) := dq182 bw_cL_law_26 15 rfl rfl rfl
theorem dL_law_642 : decode cL_law 642 = .ok (.aload_n 2, 1) := dq44 bw_cL_law_26 18 rfl rfl
theorem dL_law_643 : decode cL_law 643 = .ok (.invokevirtual 95, 3) := dq182 bw_cL_law_26 19 rfl rfl rfl
theorem dL_law_646 : decode cL_law 646 = .ok (.if_icmp .eq 515, 3) := dq159 bw_cL_law_26 22 rfl rfl rfl
theorem bw_cL_law_27 : dq_w cL_law 648 [3, 3, 172, 43, 42, 21, 4, 4, 96, 46, 182, 0, 96, 87, 44, 42, 21, 4, 4, 96, 46, 182, 0, 99, 87, 167, 1] = true := by decide +kernel
theorem dL_law_649 : decode cL_law 649 = .ok (.iconst 0, 1) := dq3 bw_cL_law_27 1 rfl rfl
theorem dL_law_650 : decode cL_law 650 = .ok (.ireturn, 1) := dq172 bw_cL_law_27 2 rfl rfl
theorem dL_law_651 : decode cL_law 651 = .ok (.aload_n 1, 1) := dq43 bw_cL_law_27 3 rfl rfl
theorem dL_law_652 : decode cL_law 652 = .ok (.aload_n 0, 1) := dq42 bw_cL_law_27 4 rfl rfl
theorem dL_law_653 : decode cL_law 653 = .ok (.iload 4, 2) := dq21 bw_cL_law_27 5 rfl rfl
theorem dL_law_655 : decode cL_law 655 = .ok (.iconst 1, 1) := dq4 bw_cL_law_27 7 rfl rfl
theorem dL_law_656 : decode cL_law 656 = .ok (.iadd, 1) := dq96 bw_cL_law_27 8 rfl rfl
theorem dL_law_657 : decode cL_law 657 = .ok (.iaload, 1) := dq46 bw_cL_law_27 9 rfl rfl
theorem dL_law_658 : decode cL_law 658 = .ok (.invokevirtual 96, 3) := dq182 bw_cL_law_27 10 rfl rfl rfl
theorem dL_law_661 : decode cL_law 661 = .ok (.pop, 1) := dq87 bw_cL_law_27 13 rfl rfl
theorem dL_law_662 : decode cL_law 662 = .ok (.aload_n 2, 1) := dq44 bw_cL_law_27 14 rfl rfl
theorem dL_law_663 : decode cL_law 663 = .ok (.aload_n 0, 1) := dq42 bw_cL_law_27 15 rfl rfl
theorem dL_law_664 : decode cL_law 664 = .ok (.iload 4, 2) := dq21 bw_cL_law_27 16 rfl rfl
theorem dL_law_666 : decode cL_law 666 = .ok (.iconst 1, 1) := dq4 bw_cL_law_27 18 rfl rfl
theorem dL_law_667 : decode cL_law 667 = .ok (.iadd, 1) := dq96 bw_cL_law_27 19 rfl rfl
theorem dL_law_668 : decode cL_law 668 = .ok (.iaload, 1) := dq46 bw_cL_law_27 20 rfl rfl
theorem dL_law_669 : decode cL_law 669 = .ok (.invokevirtual 99, 3) := dq182 bw_cL_law_27 21 rfl rfl rfl
theorem bw_cL_law_28 : dq_w cL_law 672 [87, 167, 1, 232, 43, 182, 0, 100, 87, 44, 182, 0, 103, 87, 167, 1, 219, 43, 182, 0, 104, 87, 44, 182, 0, 107, 87] = true := by decide +kernel
theorem dL_law_672 : decode cL_law 672 = .ok (.pop, 1) := dq87 bw_cL_law_28 0 rfl rfl
theorem dL_law_673 : decode cL_law 673 = .ok (.goto 488, 3) := dq167 bw_cL_law_28 1 rfl rfl rfl
theorem dL_law_676 : decode cL_law 676 = .ok (.aload_n 1, 1) := dq43 bw_cL_law_28 4 rfl rfl
theorem dL_law_677 : decode cL_law 677 = .ok (.invokevirtual 100, 3) := dq182 bw_cL_law_28 5 rfl rfl rfl
theorem dL_law_680 : decode cL_law 680 = .ok (.pop, 1) := dq87 bw_cL_law_28 8 rfl rfl
theorem dL_law_681 : decode cL_law 681 = .ok (.aload_n 2, 1) := dq44 bw_cL_law_28 9 rfl rfl
theorem dL_law_682 : decode cL_law 682 = .ok (.invokevirtual 103, 3) := dq182 bw_cL_law_28 10 rfl rfl rfl
theorem dL_law_685 : decode cL_law 685 = .ok (.pop, 1) := dq87 bw_cL_law_28 13 rfl rfl
theorem dL_law_686 : decode cL_law 686 = .ok (.goto 475, 3) := dq167 bw_cL_law_28 14 rfl rfl rfl
theorem dL_law_689 : decode cL_law 689 = .ok (.aload_n 1, 1) := dq43 bw_cL_law_28 17 rfl rfl
theorem dL_law_690 : decode cL_law 690 = .ok (.invokevirtual 104, 3) := dq182 bw_cL_law_28 18 rfl rfl rfl
theorem dL_law_693 : decode cL_law 693 = .ok (.pop, 1) := dq87 bw_cL_law_28 21 rfl rfl
theorem dL_law_694 : decode cL_law 694 = .ok (.aload_n 2, 1) := dq44 bw_cL_law_28 22 rfl rfl
theorem dL_law_695 : decode cL_law 695 = .ok (.invokevirtual 107, 3) := dq182 bw_cL_law_28 23 rfl rfl rfl
theorem bw_cL_law_29 : dq_w cL_law 696 [0, 107, 87, 167, 1, 206, 43, 42, 21, 4, 4, 96, 46, 182, 0, 108, 87, 44, 42, 21, 4, 4, 96, 46, 182, 0, 111] = true := by decide +kernel
theorem dL_law_698 : decode cL_law 698 = .ok (.pop, 1) := dq87 bw_cL_law_29 2 rfl rfl
theorem dL_law_699 : decode cL_law 699 = .ok (.goto 462, 3) := dq167 bw_cL_law_29 3 rfl rfl rfl
theorem dL_law_702 : decode cL_law 702 = .ok (.aload_n 1, 1) := dq43 bw_cL_law_29 6 rfl rfl
theorem dL_law_703 : decode cL_law 703 = .ok (.aload_n 0, 1) := dq42 bw_cL_law_29 7 rfl rfl
theorem dL_law_704 : decode cL_law 704 = .ok (.iload 4, 2) := dq21 bw_cL_law_29 8 rfl rfl
theorem dL_law_706 : decode cL_law 706 = .ok (.iconst 1, 1) := dq4 bw_cL_law_29 10 rfl rfl
theorem dL_law_707 : decode cL_law 707 = .ok (.iadd, 1) := dq96 bw_cL_law_29 11 rfl rfl
theorem dL_law_708 : decode cL_law 708 = .ok (.iaload, 1) := dq46 bw_cL_law_29 12 rfl rfl
theorem dL_law_709 : decode cL_law 709 = .ok (.invokevirtual 108, 3) := dq182 bw_cL_law_29 13 rfl rfl rfl
theorem dL_law_712 : decode cL_law 712 = .ok (.pop, 1) := dq87 bw_cL_law_29 16 rfl rfl
theorem dL_law_713 : decode cL_law 713 = .ok (.aload_n 2, 1) := dq44 bw_cL_law_29 17 rfl rfl
theorem dL_law_714 : decode cL_law 714 = .ok (.aload_n 0, 1) := dq42 bw_cL_law_29 18 rfl rfl
theorem dL_law_715 : decode cL_law 715 = .ok (.iload 4, 2) := dq21 bw_cL_law_29 19 rfl rfl
theorem dL_law_717 : decode cL_law 717 = .ok (.iconst 1, 1) := dq4 bw_cL_law_29 21 rfl rfl
theorem dL_law_718 : decode cL_law 718 = .ok (.iadd, 1) := dq96 bw_cL_law_29 22 rfl rfl
theorem dL_law_719 : decode cL_law 719 = .ok (.iaload, 1) := dq46 bw_cL_law_29 23 rfl rfl
theorem bw_cL_law_30 : dq_w cL_law 720 [182, 0, 111, 87, 167, 1, 181, 43, 182, 0, 112, 87, 44, 182, 0, 115, 87, 167, 1, 168, 43, 182, 0, 116, 87, 44, 182] = true := by decide +kernel
theorem dL_law_720 : decode cL_law 720 = .ok (.invokevirtual 111, 3) := dq182 bw_cL_law_30 0 rfl rfl rfl
theorem dL_law_723 : decode cL_law 723 = .ok (.pop, 1) := dq87 bw_cL_law_30 3 rfl rfl
theorem dL_law_724 : decode cL_law 724 = .ok (.goto 437, 3) := dq167 bw_cL_law_30 4 rfl rfl rfl
theorem dL_law_727 : decode cL_law 727 = .ok (.aload_n 1, 1) := dq43 bw_cL_law_30 7 rfl rfl
theorem dL_law_728 : decode cL_law 728 = .ok (.invokevirtual 112, 3) := dq182 bw_cL_law_30 8 rfl rfl rfl
theorem dL_law_731 : decode cL_law 731 = .ok (.pop, 1) := dq87 bw_cL_law_30 11 rfl rfl
theorem dL_law_732 : decode cL_law 732 = .ok (.aload_n 2, 1) := dq44 bw_cL_law_30 12 rfl rfl
theorem dL_law_733 : decode cL_law 733 = .ok (.invokevirtual 115, 3) := dq182 bw_cL_law_30 13 rfl rfl rfl
theorem dL_law_736 : decode cL_law 736 = .ok (.pop, 1) := dq87 bw_cL_law_30 16 rfl rfl
theorem dL_law_737 : decode cL_law 737 = .ok (.goto 424, 3) := dq167 bw_cL_law_30 17 rfl rfl rfl
theorem dL_law_740 : decode cL_law 740 = .ok (.aload_n 1, 1) := dq43 bw_cL_law_30 20 rfl rfl
theorem dL_law_741 : decode cL_law 741 = .ok (.invokevirtual 116, 3) := dq182 bw_cL_law_30 21 rfl rfl rfl
theorem bw_cL_law_31 : dq_w cL_law 744 [87, 44, 182, 0, 119, 87, 167, 1, 155, 43, 182, 0, 120, 87, 44, 182, 0, 123, 87, 167, 1, 142, 43, 42, 21, 4, 4] = true := by decide +kernel
theorem dL_law_744 : decode cL_law 744 = .ok (.pop, 1) := dq87 bw_cL_law_31 0 rfl rfl
theorem dL_law_745 : decode cL_law 745 = .ok (.aload_n 2, 1) := dq44 bw_cL_law_31 1 rfl rfl
theorem dL_law_746 : decode cL_law 746 = .ok (.invokevirtual 119, 3) := dq182 bw_cL_law_31 2 rfl rfl rfl
theorem dL_law_749 : decode cL_law 749 = .ok (.pop, 1) := dq87 bw_cL_law_31 5 rfl rfl
theorem dL_law_750 : decode cL_law 750 = .ok (.goto 411, 3) := dq167 bw_cL_law_31 6 rfl rfl rfl
theorem dL_law_753 : decode cL_law 753 = .ok (.aload_n 1, 1) := dq43 bw_cL_law_31 9 rfl rfl
theorem dL_law_754 : decode cL_law 754 = .ok (.invokevirtual 120, 3) := dq182 bw_cL_law_31 10 rfl rfl rfl
theorem dL_law_757 : decode cL_law 757 = .ok (.pop, 1) := dq87 bw_cL_law_31 13 rfl rfl
theorem dL_law_758 : decode cL_law 758 = .ok (.aload_n 2, 1) := dq44 bw_cL_law_31 14 rfl rfl
theorem dL_law_759 : decode cL_law 759 = .ok (.invokevirtual 123, 3) := dq182 bw_cL_law_31 15 rfl rfl rfl
theorem dL_law_762 : decode cL_law 762 = .ok (.pop, 1) := dq87 bw_cL_law_31 18 rfl rfl
theorem dL_law_763 : decode cL_law 763 = .ok (.goto 398, 3) := dq167 bw_cL_law_31 19 rfl rfl rfl
theorem dL_law_766 : decode cL_law 766 = .ok (.aload_n 1, 1) := dq43 bw_cL_law_31 22 rfl rfl
theorem dL_law_767 : decode cL_law 767 = .ok (.aload_n 0, 1) := dq42 bw_cL_law_31 23 rfl rfl
theorem bw_cL_law_32 : dq_w cL_law 768 [21, 4, 4, 96, 46, 42, 21, 4, 5, 96, 46, 182, 0, 124, 87, 44, 42, 21, 4, 4, 96, 46, 42, 21, 4, 5, 96] = true := by decide +kernel
theorem dL_law_768 : decode cL_law 768 = .ok (.iload 4, 2) := dq21 bw_cL_law_32 0 rfl rfl
theorem dL_law_770 : decode cL_law 770 = .ok (.iconst 1, 1) := dq4 bw_cL_law_32 2 rfl rfl
theorem dL_law_771 : decode cL_law 771 = .ok (.iadd, 1) := dq96 bw_cL_law_32 3 rfl rfl
theorem dL_law_772 : decode cL_law 772 = .ok (.iaload, 1) := dq46 bw_cL_law_32 4 rfl rfl
theorem dL_law_773 : decode cL_law 773 = .ok (.aload_n 0, 1) := dq42 bw_cL_law_32 5 rfl rfl
theorem dL_law_774 : decode cL_law 774 = .ok (.iload 4, 2) := dq21 bw_cL_law_32 6 rfl rfl
theorem dL_law_776 : decode cL_law 776 = .ok (.iconst 2, 1) := dq5 bw_cL_law_32 8 rfl rfl
theorem dL_law_777 : decode cL_law 777 = .ok (.iadd, 1) := dq96 bw_cL_law_32 9 rfl rfl
theorem dL_law_778 : decode cL_law 778 = .ok (.iaload, 1) := dq46 bw_cL_law_32 10 rfl rfl
theorem dL_law_779 : decode cL_law 779 = .ok (.invokevirtual 124, 3) := dq182 bw_cL_law_32 11 rfl rfl rfl
theorem dL_law_782 : decode cL_law 782 = .ok (.pop, 1) := dq87 bw_cL_law_32 14 rfl rfl
theorem dL_law_783 : decode cL_law 783 = .ok (.aload_n 2, 1) := dq44 bw_cL_law_32 15 rfl rfl
theorem dL_law_784 : decode cL_law 784 = .ok (.aload_n 0, 1) := dq42 bw_cL_law_32 16 rfl rfl
theorem dL_law_785 : decode cL_law 785 = .ok (.iload 4, 2) := dq21 bw_cL_law_32 17 rfl rfl
theorem dL_law_787 : decode cL_law 787 = .ok (.iconst 1, 1) := dq4 bw_cL_law_32 19 rfl rfl
theorem dL_law_788 : decode cL_law 788 = .ok (.iadd, 1) := dq96 bw_cL_law_32 20 rfl rfl
theorem dL_law_789 : decode cL_law 789 = .ok (.iaload, 1) := dq46 bw_cL_law_32 21 rfl rfl
theorem dL_law_790 : decode cL_law 790 = .ok (.aload_n 0, 1) := dq42 bw_cL_law_32 22 rfl rfl
theorem dL_law_791 : decode cL_law 791 = .ok (.iload 4, 2) := dq21 bw_cL_law_32 23 rfl rfl
theorem bw_cL_law_33 : dq_w cL_law 792 [4, 5, 96, 46, 182, 0, 127, 87, 167, 1, 105, 43, 42, 21, 4, 4, 96, 46, 42, 21, 4, 5, 96, 46, 182, 0, 128] = true := by decide +kernel
theorem dL_law_793 : decode cL_law 793 = .ok (.iconst 2, 1) := dq5 bw_cL_law_33 1 rfl rfl
theorem dL_law_794 : decode cL_law 794 = .ok (.iadd, 1) := dq96 bw_cL_law_33 2 rfl rfl
theorem dL_law_795 : decode cL_law 795 = .ok (.iaload, 1) := dq46 bw_cL_law_33 3 rfl rfl
theorem dL_law_796 : decode cL_law 796 = .ok (.invokevirtual 127, 3) := dq182 bw_cL_law_33 4 rfl rfl rfl
theorem dL_law_799 : decode cL_law 799 = .ok (.pop, 1) := dq87 bw_cL_law_33 7 rfl rfl
theorem dL_law_800 : decode cL_law 800 = .ok (.goto 361, 3) := dq167 bw_cL_law_33 8 rfl rfl rfl
theorem dL_law_803 : decode cL_law 803 = .ok (.aload_n 1, 1) := dq43 bw_cL_law_33 11 rfl rfl
theorem dL_law_804 : decode cL_law 804 = .ok (.aload_n 0, 1) := dq42 bw_cL_law_33 12 rfl rfl
theorem dL_law_805 : decode cL_law 805 = .ok (.iload 4, 2) := dq21 bw_cL_law_33 13 rfl rfl
theorem dL_law_807 : decode cL_law 807 = .ok (.iconst 1, 1) := dq4 bw_cL_law_33 15 rfl rfl
theorem dL_law_808 : decode cL_law 808 = .ok (.iadd, 1) := dq96 bw_cL_law_33 16 rfl rfl
theorem dL_law_809 : decode cL_law 809 = .ok (.iaload, 1) := dq46 bw_cL_law_33 17 rfl rfl
theorem dL_law_810 : decode cL_law 810 = .ok (.aload_n 0, 1) := dq42 bw_cL_law_33 18 rfl rfl
theorem dL_law_811 : decode cL_law 811 = .ok (.iload 4, 2) := dq21 bw_cL_law_33 19 rfl rfl
theorem dL_law_813 : decode cL_law 813 = .ok (.iconst 2, 1) := dq5 bw_cL_law_33 21 rfl rfl
theorem dL_law_814 : decode cL_law 814 = .ok (.iadd, 1) := dq96 bw_cL_law_33 22 rfl rfl
theorem dL_law_815 : decode cL_law 815 = .ok (.iaload, 1) := dq46 bw_cL_law_33 23 rfl rfl
theorem bw_cL_law_34 : dq_w cL_law 816 [182, 0, 128, 87, 44, 42, 21, 4, 4, 96, 46, 42, 21, 4, 5, 96, 46, 182, 0, 131, 87, 167, 1, 68, 43, 42, 21] = true := by decide +kernel
theorem dL_law_816 : decode cL_law 816 = .ok (.invokevirtual 128, 3) := dq182 bw_cL_law_34 0 rfl rfl rfl
theorem dL_law_819 : decode cL_law 819 = .ok (.pop, 1) := dq87 bw_cL_law_34 3 rfl rfl
theorem dL_law_820 : decode cL_law 820 = .ok (.aload_n 2, 1) := dq44 bw_cL_law_34 4 rfl rfl
theorem dL_law_821 : decode cL_law 821 = .ok (.aload_n 0, 1) := dq42 bw_cL_law_34 5 rfl rfl
theorem dL_law_822 : decode cL_law 822 = .ok (.iload 4, 2) := dq21 bw_cL_law_34 6 rfl rfl
theorem dL_law_824 : decode cL_law 824 = .ok (.iconst 1, 1) := dq4 bw_cL_law_34 8 rfl rfl
theorem dL_law_825 : decode cL_law 825 = .ok (.iadd, 1) := dq96 bw_cL_law_34 9 rfl rfl
theorem dL_law_826 : decode cL_law 826 = .ok (.iaload, 1) := dq46 bw_cL_law_34 10 rfl rfl
theorem dL_law_827 : decode cL_law 827 = .ok (.aload_n 0, 1) := dq42 bw_cL_law_34 11 rfl rfl
theorem dL_law_828 : decode cL_law 828 = .ok (.iload 4, 2) := dq21 bw_cL_law_34 12 rfl rfl
theorem dL_law_830 : decode cL_law 830 = .ok (.iconst 2, 1) := dq5 bw_cL_law_34 14 rfl rfl
theorem dL_law_831 : decode cL_law 831 = .ok (.iadd, 1) := dq96 bw_cL_law_34 15 rfl rfl
theorem dL_law_832 : decode cL_law 832 = .ok (.iaload, 1) := dq46 bw_cL_law_34 16 rfl rfl
theorem dL_law_833 : decode cL_law 833 = .ok (.invokevirtual 131, 3) := dq182 bw_cL_law_34 17 rfl rfl rfl
theorem dL_law_836 : decode cL_law 836 = .ok (.pop, 1) := dq87 bw_cL_law_34 20 rfl rfl
theorem dL_law_837 : decode cL_law 837 = .ok (.goto 324, 3) := dq167 bw_cL_law_34 21 rfl rfl rfl
theorem bw_cL_law_35 : dq_w cL_law 840 [43, 42, 21, 4, 4, 96, 46, 42, 21, 4, 5, 96, 46, 182, 0, 132, 87, 44, 42, 21, 4, 4, 96, 46, 42, 21, 4] = true := by decide +kernel
theorem dL_law_840 : decode cL_law 840 = .ok (.aload_n 1, 1) := dq43 bw_cL_law_35 0 rfl rfl
theorem dL_law_841 : decode cL_law 841 = .ok (.aload_n 0, 1) := dq42 bw_cL_law_35 1 rfl rfl
theorem dL_law_842 : decode cL_law 842 = .ok (.iload 4, 2) := dq21 bw_cL_law_35 2 rfl rfl
theorem dL_law_844 : decode cL_law 844 = .ok (.iconst 1, 1) := dq4 bw_cL_law_35 4 rfl rfl
theorem dL_law_845 : decode cL_law 845 = .ok (.iadd, 1) := dq96 bw_cL_law_35 5 rfl rfl
theorem dL_law_846 : decode cL_law 846 = .ok (.iaload, 1) := dq46 bw_cL_law_35 6 rfl rfl
theorem dL_law_847 : decode cL_law 847 = .ok (.aload_n 0, 1) := dq42 bw_cL_law_35 7 rfl rfl
theorem dL_law_848 : decode cL_law 848 = .ok (.iload 4, 2) := dq21 bw_cL_law_35 8 rfl rfl
theorem dL_law_850 : decode cL_law 850 = .ok (.iconst 2, 1) := dq5 bw_cL_law_35 10 rfl rfl
theorem dL_law_851 : decode cL_law 851 = .ok (.iadd, 1) := dq96 bw_cL_law_35 11 rfl rfl
theorem dL_law_852 : decode cL_law 852 = .ok (.iaload, 1) := dq46 bw_cL_law_35 12 rfl rfl
theorem dL_law_853 : decode cL_law 853 = .ok (.invokevirtual 132, 3) := dq182 bw_cL_law_35 13 rfl rfl rfl
theorem dL_law_856 : decode cL_law 856 = .ok (.pop, 1) := dq87 bw_cL_law_35 16 rfl rfl
theorem dL_law_857 : decode cL_law 857 = .ok (.aload_n 2, 1) := dq44 bw_cL_law_35 17 rfl rfl
theorem dL_law_858 : decode cL_law 858 = .ok (.aload_n 0, 1) := dq42 bw_cL_law_35 18 rfl rfl
theorem dL_law_859 : decode cL_law 859 = .ok (.iload 4, 2) := dq21 bw_cL_law_35 19 rfl rfl
theorem dL_law_861 : decode cL_law 861 = .ok (.iconst 1, 1) := dq4 bw_cL_law_35 21 rfl rfl
theorem dL_law_862 : decode cL_law 862 = .ok (.iadd, 1) := dq96 bw_cL_law_35 22 rfl rfl
theorem dL_law_863 : decode cL_law 863 = .ok (.iaload, 1) := dq46 bw_cL_law_35 23 rfl rfl
theorem bw_cL_law_36 : dq_w cL_law 864 [42, 21, 4, 5, 96, 46, 182, 0, 135, 87, 167, 1, 31, 43, 182, 0, 136, 87, 44, 182, 0, 139, 87, 167, 1, 18, 43] = true := by decide +kernel
theorem dL_law_864 : decode cL_law 864 = .ok (.aload_n 0, 1) := dq42 bw_cL_law_36 0 rfl rfl
theorem dL_law_865 : decode cL_law 865 = .ok (.iload 4, 2) := dq21 bw_cL_law_36 1 rfl rfl
theorem dL_law_867 : decode cL_law 867 = .ok (.iconst 2, 1) := dq5 bw_cL_law_36 3 rfl rfl
theorem dL_law_868 : decode cL_law 868 = .ok (.iadd, 1) := dq96 bw_cL_law_36 4 rfl rfl
theorem dL_law_869 : decode cL_law 869 = .ok (.iaload, 1) := dq46 bw_cL_law_36 5 rfl rfl
theorem dL_law_870 : decode cL_law 870 = .ok (.invokevirtual 135, 3) := dq182 bw_cL_law_36 6 rfl rfl rfl
theorem dL_law_873 : decode cL_law 873 = .ok (.pop, 1) := dq87 bw_cL_law_36 9 rfl rfl
theorem dL_law_874 : decode cL_law 874 = .ok (.goto 287, 3) := dq167 bw_cL_law_36 10 rfl rfl rfl
theorem dL_law_877 : decode cL_law 877 = .ok (.aload_n 1, 1) := dq43 bw_cL_law_36 13 rfl rfl
theorem dL_law_878 : decode cL_law 878 = .ok (.invokevirtual 136, 3) := dq182 bw_cL_law_36 14 rfl rfl rfl
theorem dL_law_881 : decode cL_law 881 = .ok (.pop, 1) := dq87 bw_cL_law_36 17 rfl rfl
theorem dL_law_882 : decode cL_law 882 = .ok (.aload_n 2, 1) := dq44 bw_cL_law_36 18 rfl rfl
theorem dL_law_883 : decode cL_law 883 = .ok (.invokevirtual 139, 3) := dq182 bw_cL_law_36 19 rfl rfl rfl
theorem dL_law_886 : decode cL_law 886 = .ok (.pop, 1) := dq87 bw_cL_law_36 22 rfl rfl
theorem dL_law_887 : decode cL_law 887 = .ok (.goto 274, 3) := dq167 bw_cL_law_36 23 rfl rfl rfl
theorem bw_cL_law_37 : dq_w cL_law 888 [1, 18, 43, 42, 21, 4, 4, 96, 46, 45, 184, 0, 140, 54, 5, 44, 42, 21, 4, 4, 96, 46, 182, 0, 143, 54, 6] = true := by decide +kernel
theorem dL_law_890 : decode cL_law 890 = .ok (.aload_n 1, 1) := dq43 bw_cL_law_37 2 rfl rfl
theorem dL_law_891 : decode cL_law 891 = .ok (.aload_n 0, 1) := dq42 bw_cL_law_37 3 rfl rfl
theorem dL_law_892 : decode cL_law 892 = .ok (.iload 4, 2) := dq21 bw_cL_law_37 4 rfl rfl
theorem dL_law_894 : decode cL_law 894 = .ok (.iconst 1, 1) := dq4 bw_cL_law_37 6 rfl rfl
theorem dL_law_895 : decode cL_law 895 = .ok (.iadd, 1) := dq96 bw_cL_law_37 7 rfl rfl
theorem dL_law_896 : decode cL_law 896 = .ok (.iaload, 1) := dq46 bw_cL_law_37 8 rfl rfl
theorem dL_law_897 : decode cL_law 897 = .ok (.aload_n 3, 1) := dq45 bw_cL_law_37 9 rfl rfl
theorem dL_law_898 : decode cL_law 898 = .ok (.invokestatic 140, 3) := dq184 bw_cL_law_37 10 rfl rfl rfl
theorem dL_law_901 : decode cL_law 901 = .ok (.istore 5, 2) := dq54 bw_cL_law_37 13 rfl rfl
theorem dL_law_903 : decode cL_law 903 = .ok (.aload_n 2, 1) := dq44 bw_cL_law_37 15 rfl rfl
theorem dL_law_904 : decode cL_law 904 = .ok (.aload_n 0, 1) := dq42 bw_cL_law_37 16 rfl rfl
theorem dL_law_905 : decode cL_law 905 = .ok (.iload 4, 2) := dq21 bw_cL_law_37 17 rfl rfl
theorem dL_law_907 : decode cL_law 907 = .ok (.iconst 1, 1) := dq4 bw_cL_law_37 19 rfl rfl
theorem dL_law_908 : decode cL_law 908 = .ok (.iadd, 1) := dq96 bw_cL_law_37 20 rfl rfl
theorem dL_law_909 : decode cL_law 909 = .ok (.iaload, 1) := dq46 bw_cL_law_37 21 rfl rfl
theorem dL_law_910 : decode cL_law 910 = .ok (.invokevirtual 143, 3) := dq182 bw_cL_law_37 22 rfl rfl rfl
theorem bw_cL_law_38 : dq_w cL_law 912 [143, 54, 6, 167, 0, 246, 43, 42, 21, 4, 4, 96, 46, 182, 0, 144, 87, 44, 42, 21, 4, 4, 96, 46, 182, 0, 147] = true := by decide +kernel
theorem dL_law_913 : decode cL_law 913 = .ok (.istore 6, 2) := dq54 bw_cL_law_38 1 rfl rfl
theorem dL_law_915 : decode cL_law 915 = .ok (.goto 246, 3) := dq167 bw_cL_law_38 3 rfl rfl rfl
theorem dL_law_918 : decode cL_law 918 = .ok (.aload_n 1, 1) := dq43 bw_cL_law_38 6 rfl rfl
theorem dL_law_919 : decode cL_law 919 = .ok (.aload_n 0, 1) := dq42 bw_cL_law_38 7 rfl rfl
theorem dL_law_920 : decode cL_law 920 = .ok (.iload 4, 2) := dq21 bw_cL_law_38 8 rfl rfl
theorem dL_law_922 : decode cL_law 922 = .ok (.iconst 1, 1) := dq4 bw_cL_law_38 10 rfl rfl
theorem dL_law_923 : decode cL_law 923 = .ok (.iadd, 1) := dq96 bw_cL_law_38 11 rfl rfl
theorem dL_law_924 : decode cL_law 924 = .ok (.iaload, 1) := dq46 bw_cL_law_38 12 rfl rfl
theorem dL_law_925 : decode cL_law 925 = .ok (.invokevirtual 144, 3) := dq182 bw_cL_law_38 13 rfl rfl rfl
theorem dL_law_928 : decode cL_law 928 = .ok (.pop, 1) := dq87 bw_cL_law_38 16 rfl rfl
theorem dL_law_929 : decode cL_law 929 = .ok (.aload_n 2, 1) := dq44 bw_cL_law_38 17 rfl rfl
theorem dL_law_930 : decode cL_law 930 = .ok (.aload_n 0, 1) := dq42 bw_cL_law_38 18 rfl rfl
theorem dL_law_931 : decode cL_law 931 = .ok (.iload 4, 2) := dq21 bw_cL_law_38 19 rfl rfl
theorem dL_law_933 : decode cL_law 933 = .ok (.iconst 1, 1) := dq4 bw_cL_law_38 21 rfl rfl
theorem dL_law_934 : decode cL_law 934 = .ok (.iadd, 1) := dq96 bw_cL_law_38 22 rfl rfl
theorem dL_law_935 : decode cL_law 935 = .ok (.iaload, 1) := dq46 bw_cL_law_38 23 rfl rfl
theorem bw_cL_law_39 : dq_w cL_law 936 [182, 0, 147, 87, 167, 0, 221, 43, 42, 21, 4, 4, 96, 46, 42, 21, 4, 5, 96, 46, 182, 0, 148, 87, 44, 42, 21] = true := by decide +kernel
theorem dL_law_936 : decode cL_law 936 = .ok (.invokevirtual 147, 3) := dq182 bw_cL_law_39 0 rfl rfl rfl
theorem dL_law_939 : decode cL_law 939 = .ok (.pop, 1) := dq87 bw_cL_law_39 3 rfl rfl
theorem dL_law_940 : decode cL_law 940 = .ok (.goto 221, 3) := dq167 bw_cL_law_39 4 rfl rfl rfl
theorem dL_law_943 : decode cL_law 943 = .ok (.aload_n 1, 1) := dq43 bw_cL_law_39 7 rfl rfl
theorem dL_law_944 : decode cL_law 944 = .ok (.aload_n 0, 1) := dq42 bw_cL_law_39 8 rfl rfl
theorem dL_law_945 : decode cL_law 945 = .ok (.iload 4, 2) := dq21 bw_cL_law_39 9 rfl rfl
theorem dL_law_947 : decode cL_law 947 = .ok (.iconst 1, 1) := dq4 bw_cL_law_39 11 rfl rfl
theorem dL_law_948 : decode cL_law 948 = .ok (.iadd, 1) := dq96 bw_cL_law_39 12 rfl rfl
theorem dL_law_949 : decode cL_law 949 = .ok (.iaload, 1) := dq46 bw_cL_law_39 13 rfl rfl
theorem dL_law_950 : decode cL_law 950 = .ok (.aload_n 0, 1) := dq42 bw_cL_law_39 14 rfl rfl
theorem dL_law_951 : decode cL_law 951 = .ok (.iload 4, 2) := dq21 bw_cL_law_39 15 rfl rfl
theorem dL_law_953 : decode cL_law 953 = .ok (.iconst 2, 1) := dq5 bw_cL_law_39 17 rfl rfl
theorem dL_law_954 : decode cL_law 954 = .ok (.iadd, 1) := dq96 bw_cL_law_39 18 rfl rfl
theorem dL_law_955 : decode cL_law 955 = .ok (.iaload, 1) := dq46 bw_cL_law_39 19 rfl rfl
theorem dL_law_956 : decode cL_law 956 = .ok (.invokevirtual 148, 3) := dq182 bw_cL_law_39 20 rfl rfl rfl
theorem dL_law_959 : decode cL_law 959 = .ok (.pop, 1) := dq87 bw_cL_law_39 23 rfl rfl
theorem bw_cL_law_40 : dq_w cL_law 960 [44, 42, 21, 4, 4, 96, 46, 42, 21, 4, 5, 96, 46, 182, 0, 151, 87, 167, 0, 184, 43, 182, 0, 152, 87, 44, 182] = true := by decide +kernel
theorem dL_law_960 : decode cL_law 960 = .ok (.aload_n 2, 1) := dq44 bw_cL_law_40 0 rfl rfl
theorem dL_law_961 : decode cL_law 961 = .ok (.aload_n 0, 1) := dq42 bw_cL_law_40 1 rfl rfl
theorem dL_law_962 : decode cL_law 962 = .ok (.iload 4, 2) := dq21 bw_cL_law_40 2 rfl rfl
theorem dL_law_964 : decode cL_law 964 = .ok (.iconst 1, 1) := dq4 bw_cL_law_40 4 rfl rfl
theorem dL_law_965 : decode cL_law 965 = .ok (.iadd, 1) := dq96 bw_cL_law_40 5 rfl rfl
theorem dL_law_966 : decode cL_law 966 = .ok (.iaload, 1) := dq46 bw_cL_law_40 6 rfl rfl
theorem dL_law_967 : decode cL_law 967 = .ok (.aload_n 0, 1) := dq42 bw_cL_law_40 7 rfl rfl
theorem dL_law_968 : decode cL_law 968 = .ok (.iload 4, 2) := dq21 bw_cL_law_40 8 rfl rfl
theorem dL_law_970 : decode cL_law 970 = .ok (.iconst 2, 1) := dq5 bw_cL_law_40 10 rfl rfl
theorem dL_law_971 : decode cL_law 971 = .ok (.iadd, 1) := dq96 bw_cL_law_40 11 rfl rfl
theorem dL_law_972 : decode cL_law 972 = .ok (.iaload, 1) := dq46 bw_cL_law_40 12 rfl rfl
theorem dL_law_973 : decode cL_law 973 = .ok (.invokevirtual 151, 3) := dq182 bw_cL_law_40 13 rfl rfl rfl
theorem dL_law_976 : decode cL_law 976 = .ok (.pop, 1) := dq87 bw_cL_law_40 16 rfl rfl
theorem dL_law_977 : decode cL_law 977 = .ok (.goto 184, 3) := dq167 bw_cL_law_40 17 rfl rfl rfl
theorem dL_law_980 : decode cL_law 980 = .ok (.aload_n 1, 1) := dq43 bw_cL_law_40 20 rfl rfl
theorem dL_law_981 : decode cL_law 981 = .ok (.invokevirtual 152, 3) := dq182 bw_cL_law_40 21 rfl rfl rfl
theorem bw_cL_law_41 : dq_w cL_law 984 [87, 44, 182, 0, 155, 87, 167, 0, 171, 43, 182, 0, 156, 87, 44, 182, 0, 159, 87, 167, 0, 158, 43, 182, 0, 160, 87] = true := by decide +kernel
theorem dL_law_984 : decode cL_law 984 = .ok (.pop, 1) := dq87 bw_cL_law_41 0 rfl rfl
theorem dL_law_985 : decode cL_law 985 = .ok (.aload_n 2, 1) := dq44 bw_cL_law_41 1 rfl rfl
theorem dL_law_986 : decode cL_law 986 = .ok (.invokevirtual 155, 3) := dq182 bw_cL_law_41 2 rfl rfl rfl
theorem dL_law_989 : decode cL_law 989 = .ok (.pop, 1) := dq87 bw_cL_law_41 5 rfl rfl
theorem dL_law_990 : decode cL_law 990 = .ok (.goto 171, 3) := dq167 bw_cL_law_41 6 rfl rfl rfl
theorem dL_law_993 : decode cL_law 993 = .ok (.aload_n 1, 1) := dq43 bw_cL_law_41 9 rfl rfl
theorem dL_law_994 : decode cL_law 994 = .ok (.invokevirtual 156, 3) := dq182 bw_cL_law_41 10 rfl rfl rfl
theorem dL_law_997 : decode cL_law 997 = .ok (.pop, 1) := dq87 bw_cL_law_41 13 rfl rfl
theorem dL_law_998 : decode cL_law 998 = .ok (.aload_n 2, 1) := dq44 bw_cL_law_41 14 rfl rfl
theorem dL_law_999 : decode cL_law 999 = .ok (.invokevirtual 159, 3) := dq182 bw_cL_law_41 15 rfl rfl rfl
theorem dL_law_1002 : decode cL_law 1002 = .ok (.pop, 1) := dq87 bw_cL_law_41 18 rfl rfl
theorem dL_law_1003 : decode cL_law 1003 = .ok (.goto 158, 3) := dq167 bw_cL_law_41 19 rfl rfl rfl
theorem dL_law_1006 : decode cL_law 1006 = .ok (.aload_n 1, 1) := dq43 bw_cL_law_41 22 rfl rfl
theorem dL_law_1007 : decode cL_law 1007 = .ok (.invokevirtual 160, 3) := dq182 bw_cL_law_41 23 rfl rfl rfl
theorem bw_cL_law_42 : dq_w cL_law 1008 [0, 160, 87, 44, 182, 0, 163, 87, 167, 0, 145, 43, 182, 0, 164, 87, 44, 182, 0, 167, 87, 167, 0, 132, 43, 182, 0] = true := by decide +kernel
theorem dL_law_1010 : decode cL_law 1010 = .ok (.pop, 1) := dq87 bw_cL_law_42 2 rfl rfl
theorem dL_law_1011 : decode cL_law 1011 = .ok (.aload_n 2, 1) := dq44 bw_cL_law_42 3 rfl rfl
theorem dL_law_1012 : decode cL_law 1012 = .ok (.invokevirtual 163, 3) := dq182 bw_cL_law_42 4 rfl rfl rfl
theorem dL_law_1015 : decode cL_law 1015 = .ok (.pop, 1) := dq87 bw_cL_law_42 7 rfl rfl
theorem dL_law_1016 : decode cL_law 1016 = .ok (.goto 145, 3) := dq167 bw_cL_law_42 8 rfl rfl rfl
theorem dL_law_1019 : decode cL_law 1019 = .ok (.aload_n 1, 1) := dq43 bw_cL_law_42 11 rfl rfl
theorem dL_law_1020 : decode cL_law 1020 = .ok (.invokevirtual 164, 3) := dq182 bw_cL_law_42 12 rfl rfl rfl
theorem dL_law_1023 : decode cL_law 1023 = .ok (.pop, 1) := dq87 bw_cL_law_42 15 rfl rfl
theorem dL_law_1024 : decode cL_law 1024 = .ok (.aload_n 2, 1) := dq44 bw_cL_law_42 16 rfl rfl
theorem dL_law_1025 : decode cL_law 1025 = .ok (.invokevirtual 167, 3) := dq182 bw_cL_law_42 17 rfl rfl rfl
theorem dL_law_1028 : decode cL_law 1028 = .ok (.pop, 1) := dq87 bw_cL_law_42 20 rfl rfl
theorem dL_law_1029 : decode cL_law 1029 = .ok (.goto 132, 3) := dq167 bw_cL_law_42 21 rfl rfl rfl
theorem bw_cL_law_43 : dq_w cL_law 1032 [43, 182, 0, 168, 87, 44, 182, 0, 171, 87, 167, 0, 119, 43, 182, 0, 172, 87, 44, 182, 0, 175, 87, 167, 0, 106, 43] = true := by decide +kernel
theorem dL_law_1032 : decode cL_law 1032 = .ok (.aload_n 1, 1) := dq43 bw_cL_law_43 0 rfl rfl
theorem dL_law_1033 : decode cL_law 1033 = .ok (.invokevirtual 168, 3) := dq182 bw_cL_law_43 1 rfl rfl rfl
theorem dL_law_1036 : decode cL_law 1036 = .ok (.pop, 1) := dq87 bw_cL_law_43 4 rfl rfl
theorem dL_law_1037 : decode cL_law 1037 = .ok (.aload_n 2, 1) := dq44 bw_cL_law_43 5 rfl rfl
theorem dL_law_1038 : decode cL_law 1038 = .ok (.invokevirtual 171, 3) := dq182 bw_cL_law_43 6 rfl rfl rfl
theorem dL_law_1041 : decode cL_law 1041 = .ok (.pop, 1) := dq87 bw_cL_law_43 9 rfl rfl
theorem dL_law_1042 : decode cL_law 1042 = .ok (.goto 119, 3) := dq167 bw_cL_law_43 10 rfl rfl rfl
theorem dL_law_1045 : decode cL_law 1045 = .ok (.aload_n 1, 1) := dq43 bw_cL_law_43 13 rfl rfl
theorem dL_law_1046 : decode cL_law 1046 = .ok (.invokevirtual 172, 3) := dq182 bw_cL_law_43 14 rfl rfl rfl
theorem dL_law_1049 : decode cL_law 1049 = .ok (.pop, 1) := dq87 bw_cL_law_43 17 rfl rfl
theorem dL_law_1050 : decode cL_law 1050 = .ok (.aload_n 2, 1) := dq44 bw_cL_law_43 18 rfl rfl
theorem dL_law_1051 : decode cL_law 1051 = .ok (.invokevirtual 175, 3) := dq182 bw_cL_law_43 19 rfl rfl rfl
theorem dL_law_1054 : decode cL_law 1054 = .ok (.pop, 1) := dq87 bw_cL_law_43 22 rfl rfl
theorem dL_law_1055 : decode cL_law 1055 = .ok (.goto 106, 3) := dq167 bw_cL_law_43 23 rfl rfl rfl
theorem bw_cL_law_44 : dq_w cL_law 1056 [0, 106, 43, 42, 21, 4, 4, 96, 46, 182, 0, 176, 87, 44, 42, 21, 4, 4, 96, 46, 182, 0, 179, 87, 167, 0, 81] = true := by decide +kernel
theorem dL_law_1058 : decode cL_law 1058 = .ok (.aload_n 1, 1) := dq43 bw_cL_law_44 2 rfl rfl
theorem dL_law_1059 : decode cL_law 1059 = .ok (.aload_n 0, 1) := dq42 bw_cL_law_44 3 rfl rfl
theorem dL_law_1060 : decode cL_law 1060 = .ok (.iload 4, 2) := dq21 bw_cL_law_44 4 rfl rfl
theorem dL_law_1062 : decode cL_law 1062 = .ok (.iconst 1, 1) := dq4 bw_cL_law_44 6 rfl rfl
theorem dL_law_1063 : decode cL_law 1063 = .ok (.iadd, 1) := dq96 bw_cL_law_44 7 rfl rfl
theorem dL_law_1064 : decode cL_law 1064 = .ok (.iaload, 1) := dq46 bw_cL_law_44 8 rfl rfl
theorem dL_law_1065 : decode cL_law 1065 = .ok (.invokevirtual 176, 3) := dq182 bw_cL_law_44 9 rfl rfl rfl
theorem dL_law_1068 : decode cL_law 1068 = .ok (.pop, 1) := dq87 bw_cL_law_44 12 rfl rfl
theorem dL_law_1069 : decode cL_law 1069 = .ok (.aload_n 2, 1) := dq44 bw_cL_law_44 13 rfl rfl
theorem dL_law_1070 : decode cL_law 1070 = .ok (.aload_n 0, 1) := dq42 bw_cL_law_44 14 rfl rfl
theorem dL_law_1071 : decode cL_law 1071 = .ok (.iload 4, 2) := dq21 bw_cL_law_44 15 rfl rfl
theorem dL_law_1073 : decode cL_law 1073 = .ok (.iconst 1, 1) := dq4 bw_cL_law_44 17 rfl rfl
theorem dL_law_1074 : decode cL_law 1074 = .ok (.iadd, 1) := dq96 bw_cL_law_44 18 rfl rfl
theorem dL_law_1075 : decode cL_law 1075 = .ok (.iaload, 1) := dq46 bw_cL_law_44 19 rfl rfl
theorem dL_law_1076 : decode cL_law 1076 = .ok (.invokevirtual 179, 3) := dq182 bw_cL_law_44 20 rfl rfl rfl
theorem dL_law_1079 : decode cL_law 1079 = .ok (.pop, 1) := dq87 bw_cL_law_44 23 rfl rfl
theorem bw_cL_law_45 : dq_w cL_law 1080 [167, 0, 81, 43, 42, 21, 4, 4, 96, 46, 182, 0, 180, 87, 44, 42, 21, 4, 4, 96, 46, 182, 0, 183, 87, 167, 0] = true := by decide +kernel
theorem dL_law_1080 : decode cL_law 1080 = .ok (.goto 81, 3) := dq167 bw_cL_law_45 0 rfl rfl rfl
theorem dL_law_1083 : decode cL_law 1083 = .ok (.aload_n 1, 1) := dq43 bw_cL_law_45 3 rfl rfl
theorem dL_law_1084 : decode cL_law 1084 = .ok (.aload_n 0, 1) := dq42 bw_cL_law_45 4 rfl rfl
theorem dL_law_1085 : decode cL_law 1085 = .ok (.iload 4, 2) := dq21 bw_cL_law_45 5 rfl rfl
theorem dL_law_1087 : decode cL_law 1087 = .ok (.iconst 1, 1) := dq4 bw_cL_law_45 7 rfl rfl
theorem dL_law_1088 : decode cL_law 1088 = .ok (.iadd, 1) := dq96 bw_cL_law_45 8 rfl rfl
theorem dL_law_1089 : decode cL_law 1089 = .ok (.iaload, 1) := dq46 bw_cL_law_45 9 rfl rfl
theorem dL_law_1090 : decode cL_law 1090 = .ok (.invokevirtual 180, 3) := dq182 bw_cL_law_45 10 rfl rfl rfl
theorem dL_law_1093 : decode cL_law 1093 = .ok (.pop, 1) := dq87 bw_cL_law_45 13 rfl rfl
theorem dL_law_1094 : decode cL_law 1094 = .ok (.aload_n 2, 1) := dq44 bw_cL_law_45 14 rfl rfl
theorem dL_law_1095 : decode cL_law 1095 = .ok (.aload_n 0, 1) := dq42 bw_cL_law_45 15 rfl rfl
theorem dL_law_1096 : decode cL_law 1096 = .ok (.iload 4, 2) := dq21 bw_cL_law_45 16 rfl rfl
theorem dL_law_1098 : decode cL_law 1098 = .ok (.iconst 1, 1) := dq4 bw_cL_law_45 18 rfl rfl
theorem dL_law_1099 : decode cL_law 1099 = .ok (.iadd, 1) := dq96 bw_cL_law_45 19 rfl rfl
theorem dL_law_1100 : decode cL_law 1100 = .ok (.iaload, 1) := dq46 bw_cL_law_45 20 rfl rfl
theorem dL_law_1101 : decode cL_law 1101 = .ok (.invokevirtual 183, 3) := dq182 bw_cL_law_45 21 rfl rfl rfl
theorem bw_cL_law_46 : dq_w cL_law 1104 [87, 167, 0, 56, 43, 42, 21, 4, 4, 96, 46, 182, 0, 184, 87, 44, 42, 21, 4, 4, 96, 46, 182, 0, 187, 87, 167] = true := by decide +kernel
theorem dL_law_1104 : decode cL_law 1104 = .ok (.pop, 1) := dq87 bw_cL_law_46 0 rfl rfl
theorem dL_law_1105 : decode cL_law 1105 = .ok (.goto 56, 3) := dq167 bw_cL_law_46 1 rfl rfl rfl
theorem dL_law_1108 : decode cL_law 1108 = .ok (.aload_n 1, 1) := dq43 bw_cL_law_46 4 rfl rfl
theorem dL_law_1109 : decode cL_law 1109 = .ok (.aload_n 0, 1) := dq42 bw_cL_law_46 5 rfl rfl
theorem dL_law_1110 : decode cL_law 1110 = .ok (.iload 4, 2) := dq21 bw_cL_law_46 6 rfl rfl
theorem dL_law_1112 : decode cL_law 1112 = .ok (.iconst 1, 1) := dq4 bw_cL_law_46 8 rfl rfl
theorem dL_law_1113 : decode cL_law 1113 = .ok (.iadd, 1) := dq96 bw_cL_law_46 9 rfl rfl
theorem dL_law_1114 : decode cL_law 1114 = .ok (.iaload, 1) := dq46 bw_cL_law_46 10 rfl rfl
theorem dL_law_1115 : decode cL_law 1115 = .ok (.invokevirtual 184, 3) := dq182 bw_cL_law_46 11 rfl rfl rfl
theorem dL_law_1118 : decode cL_law 1118 = .ok (.pop, 1) := dq87 bw_cL_law_46 14 rfl rfl
theorem dL_law_1119 : decode cL_law 1119 = .ok (.aload_n 2, 1) := dq44 bw_cL_law_46 15 rfl rfl
theorem dL_law_1120 : decode cL_law 1120 = .ok (.aload_n 0, 1) := dq42 bw_cL_law_46 16 rfl rfl
theorem dL_law_1121 : decode cL_law 1121 = .ok (.iload 4, 2) := dq21 bw_cL_law_46 17 rfl rfl
theorem dL_law_1123 : decode cL_law 1123 = .ok (.iconst 1, 1) := dq4 bw_cL_law_46 19 rfl rfl
theorem dL_law_1124 : decode cL_law 1124 = .ok (.iadd, 1) := dq96 bw_cL_law_46 20 rfl rfl
theorem dL_law_1125 : decode cL_law 1125 = .ok (.iaload, 1) := dq46 bw_cL_law_46 21 rfl rfl
theorem dL_law_1126 : decode cL_law 1126 = .ok (.invokevirtual 187, 3) := dq182 bw_cL_law_46 22 rfl rfl rfl
theorem bw_cL_law_47 : dq_w cL_law 1128 [187, 87, 167, 0, 31, 43, 42, 21, 4, 4, 96, 46, 45, 184, 0, 188, 54, 5, 44, 42, 21, 4, 4, 96, 46, 182, 0] = true := by decide +kernel
theorem dL_law_1129 : decode cL_law 1129 = .ok (.pop, 1) := dq87 bw_cL_law_47 1 rfl rfl
theorem dL_law_1130 : decode cL_law 1130 = .ok (.goto 31, 3) := dq167 bw_cL_law_47 2 rfl rfl rfl
theorem dL_law_1133 : decode cL_law 1133 = .ok (.aload_n 1, 1) := dq43 bw_cL_law_47 5 rfl rfl
theorem dL_law_1134 : decode cL_law 1134 = .ok (.aload_n 0, 1) := dq42 bw_cL_law_47 6 rfl rfl
theorem dL_law_1135 : decode cL_law 1135 = .ok (.iload 4, 2) := dq21 bw_cL_law_47 7 rfl rfl
theorem dL_law_1137 : decode cL_law 1137 = .ok (.iconst 1, 1) := dq4 bw_cL_law_47 9 rfl rfl
theorem dL_law_1138 : decode cL_law 1138 = .ok (.iadd, 1) := dq96 bw_cL_law_47 10 rfl rfl
theorem dL_law_1139 : decode cL_law 1139 = .ok (.iaload, 1) := dq46 bw_cL_law_47 11 rfl rfl
theorem dL_law_1140 : decode cL_law 1140 = .ok (.aload_n 3, 1) := dq45 bw_cL_law_47 12 rfl rfl
theorem dL_law_1141 : decode cL_law 1141 = .ok (.invokestatic 188, 3) := dq184 bw_cL_law_47 13 rfl rfl rfl
theorem dL_law_1144 : decode cL_law 1144 = .ok (.istore 5, 2) := dq54 bw_cL_law_47 16 rfl rfl
theorem dL_law_1146 : decode cL_law 1146 = .ok (.aload_n 2, 1) := dq44 bw_cL_law_47 18 rfl rfl
theorem dL_law_1147 : decode cL_law 1147 = .ok (.aload_n 0, 1) := dq42 bw_cL_law_47 19 rfl rfl
theorem dL_law_1148 : decode cL_law 1148 = .ok (.iload 4, 2) := dq21 bw_cL_law_47 20 rfl rfl
theorem dL_law_1150 : decode cL_law 1150 = .ok (.iconst 1, 1) := dq4 bw_cL_law_47 22 rfl rfl
theorem dL_law_1151 : decode cL_law 1151 = .ok (.iadd, 1) := dq96 bw_cL_law_47 23 rfl rfl
theorem bw_cL_law_48 : dq_w cL_law 1152 [46, 182, 0, 190, 54, 6, 167, 0, 3, 132, 4, 5, 167, 251, 139, 4, 172] = true := by decide +kernel
theorem dL_law_1152 : decode cL_law 1152 = .ok (.iaload, 1) := dq46 bw_cL_law_48 0 rfl rfl
theorem dL_law_1153 : decode cL_law 1153 = .ok (.invokevirtual 190, 3) := dq182 bw_cL_law_48 1 rfl rfl rfl
theorem dL_law_1156 : decode cL_law 1156 = .ok (.istore 6, 2) := dq54 bw_cL_law_48 4 rfl rfl
theorem dL_law_1158 : decode cL_law 1158 = .ok (.goto 3, 3) := dq167 bw_cL_law_48 6 rfl rfl rfl
theorem dL_law_1161 : decode cL_law 1161 = .ok (.iinc 4 5, 3) := dq132 bw_cL_law_48 9 rfl rfl rfl
theorem dL_law_1164 : decode cL_law 1164 = .ok (.goto (-1141), 3) := dq167 bw_cL_law_48 12 rfl rfl rfl
theorem dL_law_1167 : decode cL_law 1167 = .ok (.iconst 1, 1) := dq4 bw_cL_law_48 15 rfl rfl
theorem dL_law_1168 : decode cL_law 1168 = .ok (.ireturn, 1) := dq172 bw_cL_law_48 16 rfl rfl
theorem wmL_7 : Cond.methodLink RL 7 yX11_hedge ∈ sm_G := sm_t5 39 rfl rfl
theorem wiX11_hedge : Cond.instanceMethod yX11_hedge ∈ sm_G := sm_t5 40 rfl rfl
theorem wvX11_hedge : Cond.selects RX11 yX11_hedge yX11_hedge ∈ sm_G := sm_t5 41 rfl rfl
theorem wcX11_hedge : Cond.code mX11_hedge.1 mX11_hedge.2.1 mX11_hedge.2.2.1 mX11_hedge.2.2.2 ∈ sm_G := sm_t5 42 rfl rfl
theorem cvL_7 {M : sm_M} (hM : M.1.cls = RL) : sm_cV M mX11_hedge 7 2 11 13 RX11 TX11 tyX11 := by
  refine ⟨kX11, rfl, ⟨by decide, by decide, by decide +kernel⟩, ?_, wiX11_hedge, wvX11_hedge, wIX11, wcX11_hedge⟩
  rw [hM]; exact wmL_7
theorem wmL_15 : Cond.methodLink RL 15 yX11_reach ∈ sm_G := sm_t5 113 rfl rfl
theorem wiX11_reach : Cond.instanceMethod yX11_reach ∈ sm_G := sm_t5 114 rfl rfl
theorem wvX11_reach : Cond.selects RX11 yX11_reach yX11_reach ∈ sm_G := sm_t5 115 rfl rfl
theorem wcX11_reach : Cond.code mX11_reach.1 mX11_reach.2.1 mX11_reach.2.2.1 mX11_reach.2.2.2 ∈ sm_G := sm_t5 116 rfl rfl
theorem cvL_15 {M : sm_M} (hM : M.1.cls = RL) : sm_cV M mX11_reach 15 1 11 13 RX11 TX11 tyX11 := by
  refine ⟨kX11, rfl, ⟨by decide, by decide, by decide +kernel⟩, ?_, wiX11_reach, wvX11_reach, wIX11, wcX11_reach⟩
  rw [hM]; exact wmL_15
theorem wmL_19 : Cond.methodLink RL 19 yX11_row ∈ sm_G := sm_t5 121 rfl rfl
theorem wiX11_row : Cond.instanceMethod yX11_row ∈ sm_G := sm_t5 122 rfl rfl
theorem wvX11_row : Cond.selects RX11 yX11_row yX11_row ∈ sm_G := sm_t5 123 rfl rfl
theorem wcX11_row : Cond.code mX11_row.1 mX11_row.2.1 mX11_row.2.2.1 mX11_row.2.2.2 ∈ sm_G := sm_t5 124 rfl rfl
theorem cvL_19 {M : sm_M} (hM : M.1.cls = RL) : sm_cV M mX11_row 19 1 11 13 RX11 TX11 tyX11 := by
  refine ⟨kX11, rfl, ⟨by decide, by decide, by decide +kernel⟩, ?_, wiX11_row, wvX11_row, wIX11, wcX11_row⟩
  rw [hM]; exact wmL_19
theorem wmL_26 : Cond.methodLink RL 26 yX11_sign ∈ sm_G := sm_t2 150 rfl rfl
theorem wiX11_sign : Cond.instanceMethod yX11_sign ∈ sm_G := sm_t2 151 rfl rfl
theorem wvX11_sign : Cond.selects RX11 yX11_sign yX11_sign ∈ sm_G := sm_t2 152 rfl rfl
theorem wcX11_sign : Cond.code mX11_sign.1 mX11_sign.2.1 mX11_sign.2.2.1 mX11_sign.2.2.2 ∈ sm_G := sm_t2 153 rfl rfl
theorem cvL_26 {M : sm_M} (hM : M.1.cls = RL) : sm_cV M mX11_sign 26 1 11 13 RX11 TX11 tyX11 := by
  refine ⟨kX11, rfl, ⟨by decide, by decide, by decide +kernel⟩, ?_, wiX11_sign, wvX11_sign, wIX11, wcX11_sign⟩
  rw [hM]; exact wmL_26
theorem wmL_29 : Cond.methodLink RL 29 yX12_sign ∈ sm_G := sm_t5 126 rfl rfl
theorem wiX12_sign : Cond.instanceMethod yX12_sign ∈ sm_G := sm_t5 127 rfl rfl
theorem wvX12_sign : Cond.selects RX12 yX12_sign yX12_sign ∈ sm_G := sm_t5 128 rfl rfl
theorem wcX12_sign : Cond.code mX12_sign.1 mX12_sign.2.1 mX12_sign.2.2.1 mX12_sign.2.2.2 ∈ sm_G := sm_t5 129 rfl rfl
theorem cvL_29 {M : sm_M} (hM : M.1.cls = RL) : sm_cV M mX12_sign 29 1 12 57 RX12 TX12 tyX12 := by
  refine ⟨kX12, rfl, ⟨by decide, by decide, by decide +kernel⟩, ?_, wiX12_sign, wvX12_sign, wIX12, wcX12_sign⟩
  rw [hM]; exact wmL_29
theorem wmL_30 : Cond.methodLink RL 30 yX11_end ∈ sm_G := sm_t2 158 rfl rfl
theorem wiX11_end : Cond.instanceMethod yX11_end ∈ sm_G := sm_t2 159 rfl rfl
theorem wvX11_end : Cond.selects RX11 yX11_end yX11_end ∈ sm_G := sm_t2 160 rfl rfl
theorem wcX11_end : Cond.code mX11_end.1 mX11_end.2.1 mX11_end.2.2.1 mX11_end.2.2.2 ∈ sm_G := sm_t2 161 rfl rfl
theorem cvL_30 {M : sm_M} (hM : M.1.cls = RL) : sm_cV M mX11_end 30 1 11 13 RX11 TX11 tyX11 := by
  refine ⟨kX11, rfl, ⟨by decide, by decide, by decide +kernel⟩, ?_, wiX11_end, wvX11_end, wIX11, wcX11_end⟩
  rw [hM]; exact wmL_30
theorem wmL_34 : Cond.methodLink RL 34 yX12_end ∈ sm_G := sm_t5 130 rfl rfl
theorem wiX12_end : Cond.instanceMethod yX12_end ∈ sm_G := sm_t5 131 rfl rfl
theorem wvX12_end : Cond.selects RX12 yX12_end yX12_end ∈ sm_G := sm_t5 132 rfl rfl
theorem wcX12_end : Cond.code mX12_end.1 mX12_end.2.1 mX12_end.2.2.1 mX12_end.2.2.2 ∈ sm_G := sm_t5 133 rfl rfl
theorem cvL_34 {M : sm_M} (hM : M.1.cls = RL) : sm_cV M mX12_end 34 1 12 57 RX12 TX12 tyX12 := by
  refine ⟨kX12, rfl, ⟨by decide, by decide, by decide +kernel⟩, ?_, wiX12_end, wvX12_end, wIX12, wcX12_end⟩
  rw [hM]; exact wmL_34
theorem wmL_35 : Cond.methodLink RL 35 yX11_land ∈ sm_G := sm_t2 162 rfl rfl
theorem wiX11_land : Cond.instanceMethod yX11_land ∈ sm_G := sm_t2 163 rfl rfl
theorem wvX11_land : Cond.selects RX11 yX11_land yX11_land ∈ sm_G := sm_t2 164 rfl rfl
theorem wcX11_land : Cond.code mX11_land.1 mX11_land.2.1 mX11_land.2.2.1 mX11_land.2.2.2 ∈ sm_G := sm_t2 165 rfl rfl
theorem cvL_35 {M : sm_M} (hM : M.1.cls = RL) : sm_cV M mX11_land 35 0 11 13 RX11 TX11 tyX11 := by
  refine ⟨kX11, rfl, ⟨by decide, by decide, by decide +kernel⟩, ?_, wiX11_land, wvX11_land, wIX11, wcX11_land⟩
  rw [hM]; exact wmL_35
theorem wmL_39 : Cond.methodLink RL 39 yX12_land ∈ sm_G := sm_t5 137 rfl rfl
theorem wiX12_land : Cond.instanceMethod yX12_land ∈ sm_G := sm_t5 138 rfl rfl
theorem wvX12_land : Cond.selects RX12 yX12_land yX12_land ∈ sm_G := sm_t5 139 rfl rfl
theorem wcX12_land : Cond.code mX12_land.1 mX12_land.2.1 mX12_land.2.2.1 mX12_land.2.2.2 ∈ sm_G := sm_t5 140 rfl rfl
theorem cvL_39 {M : sm_M} (hM : M.1.cls = RL) : sm_cV M mX12_land 39 0 12 57 RX12 TX12 tyX12 := by
  refine ⟨kX12, rfl, ⟨by decide, by decide, by decide +kernel⟩, ?_, wiX12_land, wvX12_land, wIX12, wcX12_land⟩
  rw [hM]; exact wmL_39
theorem wmL_40 : Cond.methodLink RL 40 yL_hedge ∈ sm_G := sm_t5 35 rfl rfl
theorem wsL_hedge : Cond.static yL_hedge ∈ sm_G := sm_t5 36 rfl rfl
theorem wIL : Cond.initialized RL ∈ sm_G := sm_t1 0 rfl rfl
theorem wmL_45 : Cond.methodLink RL 45 yX12_hedge ∈ sm_G := sm_t5 188 rfl rfl
theorem wiX12_hedge : Cond.instanceMethod yX12_hedge ∈ sm_G := sm_t5 189 rfl rfl
theorem wvX12_hedge : Cond.selects RX12 yX12_hedge yX12_hedge ∈ sm_G := sm_t5 190 rfl rfl
theorem wcX12_hedge : Cond.code mX12_hedge.1 mX12_hedge.2.1 mX12_hedge.2.2.1 mX12_hedge.2.2.2 ∈ sm_G := sm_t5 191 rfl rfl
theorem cvL_45 {M : sm_M} (hM : M.1.cls = RL) : sm_cV M mX12_hedge 45 2 12 57 RX12 TX12 tyX12 := by
  refine ⟨kX12, rfl, ⟨by decide, by decide, by decide +kernel⟩, ?_, wiX12_hedge, wvX12_hedge, wIX12, wcX12_hedge⟩
  rw [hM]; exact wmL_45
theorem wmL_46 : Cond.methodLink RL 46 yX11_grass ∈ sm_G := sm_t2 209 rfl rfl
theorem wiX11_grass : Cond.instanceMethod yX11_grass ∈ sm_G := sm_t2 210 rfl rfl
theorem wvX11_grass : Cond.selects RX11 yX11_grass yX11_grass ∈ sm_G := sm_t2 211 rfl rfl
theorem wcX11_grass : Cond.code mX11_grass.1 mX11_grass.2.1 mX11_grass.2.2.1 mX11_grass.2.2.2 ∈ sm_G := sm_t2 212 rfl rfl
theorem cvL_46 {M : sm_M} (hM : M.1.cls = RL) : sm_cV M mX11_grass 46 2 11 13 RX11 TX11 tyX11 := by
  refine ⟨kX11, rfl, ⟨by decide, by decide, by decide +kernel⟩, ?_, wiX11_grass, wvX11_grass, wIX11, wcX11_grass⟩
  rw [hM]; exact wmL_46
theorem wmL_49 : Cond.methodLink RL 49 yX12_grass ∈ sm_G := sm_t5 211 rfl rfl
theorem wiX12_grass : Cond.instanceMethod yX12_grass ∈ sm_G := sm_t5 212 rfl rfl
theorem wvX12_grass : Cond.selects RX12 yX12_grass yX12_grass ∈ sm_G := sm_t5 213 rfl rfl
theorem wcX12_grass : Cond.code mX12_grass.1 mX12_grass.2.1 mX12_grass.2.2.1 mX12_grass.2.2.2 ∈ sm_G := sm_t5 214 rfl rfl
theorem cvL_49 {M : sm_M} (hM : M.1.cls = RL) : sm_cV M mX12_grass 49 2 12 57 RX12 TX12 tyX12 := by
  refine ⟨kX12, rfl, ⟨by decide, by decide, by decide +kernel⟩, ?_, wiX12_grass, wvX12_grass, wIX12, wcX12_grass⟩
  rw [hM]; exact wmL_49
theorem wmL_50 : Cond.methodLink RL 50 yX11_set ∈ sm_G := sm_t2 224 rfl rfl
theorem wiX11_set : Cond.instanceMethod yX11_set ∈ sm_G := sm_t2 225 rfl rfl
theorem wvX11_set : Cond.selects RX11 yX11_set yX11_set ∈ sm_G := sm_t2 226 rfl rfl
theorem wcX11_set : Cond.code mX11_set.1 mX11_set.2.1 mX11_set.2.2.1 mX11_set.2.2.2 ∈ sm_G := sm_t2 227 rfl rfl
theorem cvL_50 {M : sm_M} (hM : M.1.cls = RL) : sm_cV M mX11_set 50 3 11 13 RX11 TX11 tyX11 := by
  refine ⟨kX11, rfl, ⟨by decide, by decide, by decide +kernel⟩, ?_, wiX11_set, wvX11_set, wIX11, wcX11_set⟩
  rw [hM]; exact wmL_50
theorem wmL_54 : Cond.methodLink RL 54 yX12_set ∈ sm_G := sm_t5 224 rfl rfl
theorem wiX12_set : Cond.instanceMethod yX12_set ∈ sm_G := sm_t5 225 rfl rfl
theorem wvX12_set : Cond.selects RX12 yX12_set yX12_set ∈ sm_G := sm_t5 226 rfl rfl
theorem wcX12_set : Cond.code mX12_set.1 mX12_set.2.1 mX12_set.2.2.1 mX12_set.2.2.2 ∈ sm_G := sm_t5 227 rfl rfl
theorem cvL_54 {M : sm_M} (hM : M.1.cls = RL) : sm_cV M mX12_set 54 3 12 57 RX12 TX12 tyX12 := by
  refine ⟨kX12, rfl, ⟨by decide, by decide, by decide +kernel⟩, ?_, wiX12_set, wvX12_set, wIX12, wcX12_set⟩
  rw [hM]; exact wmL_54
theorem wmL_55 : Cond.methodLink RL 55 yX11_sheet ∈ sm_G := sm_t3 4 rfl rfl
theorem wiX11_sheet : Cond.instanceMethod yX11_sheet ∈ sm_G := sm_t3 5 rfl rfl
theorem wvX11_sheet : Cond.selects RX11 yX11_sheet yX11_sheet ∈ sm_G := sm_t3 6 rfl rfl
theorem wcX11_sheet : Cond.code mX11_sheet.1 mX11_sheet.2.1 mX11_sheet.2.2.1 mX11_sheet.2.2.2 ∈ sm_G := sm_t3 7 rfl rfl
theorem cvL_55 {M : sm_M} (hM : M.1.cls = RL) : sm_cV M mX11_sheet 55 4 11 13 RX11 TX11 tyX11 := by
  refine ⟨kX11, rfl, ⟨by decide, by decide, by decide +kernel⟩, ?_, wiX11_sheet, wvX11_sheet, wIX11, wcX11_sheet⟩
  rw [hM]; exact wmL_55
theorem wmL_59 : Cond.methodLink RL 59 yX12_sheet ∈ sm_G := sm_t5 231 rfl rfl
theorem wiX12_sheet : Cond.instanceMethod yX12_sheet ∈ sm_G := sm_t5 232 rfl rfl
theorem wvX12_sheet : Cond.selects RX12 yX12_sheet yX12_sheet ∈ sm_G := sm_t5 233 rfl rfl
theorem wcX12_sheet : Cond.code mX12_sheet.1 mX12_sheet.2.1 mX12_sheet.2.2.1 mX12_sheet.2.2.2 ∈ sm_G := sm_t5 234 rfl rfl
theorem cvL_59 {M : sm_M} (hM : M.1.cls = RL) : sm_cV M mX12_sheet 59 4 12 57 RX12 TX12 tyX12 := by
  refine ⟨kX12, rfl, ⟨by decide, by decide, by decide +kernel⟩, ?_, wiX12_sheet, wvX12_sheet, wIX12, wcX12_sheet⟩
  rw [hM]; exact wmL_59
theorem wmL_60 : Cond.methodLink RL 60 yX11_walk ∈ sm_G := sm_t3 13 rfl rfl
theorem wiX11_walk : Cond.instanceMethod yX11_walk ∈ sm_G := sm_t3 14 rfl rfl
theorem wvX11_walk : Cond.selects RX11 yX11_walk yX11_walk ∈ sm_G := sm_t3 15 rfl rfl
theorem wcX11_walk : Cond.code mX11_walk.1 mX11_walk.2.1 mX11_walk.2.2.1 mX11_walk.2.2.2 ∈ sm_G := sm_t3 16 rfl rfl
theorem cvL_60 {M : sm_M} (hM : M.1.cls = RL) : sm_cV M mX11_walk 60 1 11 13 RX11 TX11 tyX11 := by
  refine ⟨kX11, rfl, ⟨by decide, by decide, by decide +kernel⟩, ?_, wiX11_walk, wvX11_walk, wIX11, wcX11_walk⟩
  rw [hM]; exact wmL_60
theorem wmL_63 : Cond.methodLink RL 63 yX12_walk ∈ sm_G := sm_t5 237 rfl rfl
theorem wiX12_walk : Cond.instanceMethod yX12_walk ∈ sm_G := sm_t5 238 rfl rfl
theorem wvX12_walk : Cond.selects RX12 yX12_walk yX12_walk ∈ sm_G := sm_t5 239 rfl rfl
theorem wcX12_walk : Cond.code mX12_walk.1 mX12_walk.2.1 mX12_walk.2.2.1 mX12_walk.2.2.2 ∈ sm_G := sm_t6 0 rfl rfl
theorem cvL_63 {M : sm_M} (hM : M.1.cls = RL) : sm_cV M mX12_walk 63 1 12 57 RX12 TX12 tyX12 := by
  refine ⟨kX12, rfl, ⟨by decide, by decide, by decide +kernel⟩, ?_, wiX12_walk, wvX12_walk, wIX12, wcX12_walk⟩
  rw [hM]; exact wmL_63
theorem wmL_64 : Cond.methodLink RL 64 yX11_rest ∈ sm_G := sm_t3 54 rfl rfl
theorem wiX11_rest : Cond.instanceMethod yX11_rest ∈ sm_G := sm_t3 55 rfl rfl
theorem wvX11_rest : Cond.selects RX11 yX11_rest yX11_rest ∈ sm_G := sm_t3 56 rfl rfl
theorem wcX11_rest : Cond.code mX11_rest.1 mX11_rest.2.1 mX11_rest.2.2.1 mX11_rest.2.2.2 ∈ sm_G := sm_t3 57 rfl rfl
theorem cvL_64 {M : sm_M} (hM : M.1.cls = RL) : sm_cV M mX11_rest 64 1 11 13 RX11 TX11 tyX11 := by
  refine ⟨kX11, rfl, ⟨by decide, by decide, by decide +kernel⟩, ?_, wiX11_rest, wvX11_rest, wIX11, wcX11_rest⟩
  rw [hM]; exact wmL_64
theorem wmL_67 : Cond.methodLink RL 67 yX12_rest ∈ sm_G := sm_t6 28 rfl rfl
theorem wiX12_rest : Cond.instanceMethod yX12_rest ∈ sm_G := sm_t6 29 rfl rfl
theorem wvX12_rest : Cond.selects RX12 yX12_rest yX12_rest ∈ sm_G := sm_t6 30 rfl rfl
theorem wcX12_rest : Cond.code mX12_rest.1 mX12_rest.2.1 mX12_rest.2.2.1 mX12_rest.2.2.2 ∈ sm_G := sm_t6 31 rfl rfl
theorem cvL_67 {M : sm_M} (hM : M.1.cls = RL) : sm_cV M mX12_rest 67 1 12 57 RX12 TX12 tyX12 := by
  refine ⟨kX12, rfl, ⟨by decide, by decide, by decide +kernel⟩, ?_, wiX12_rest, wvX12_rest, wIX12, wcX12_rest⟩
  rw [hM]; exact wmL_67
theorem wmL_68 : Cond.methodLink RL 68 yX11_undo ∈ sm_G := sm_t3 58 rfl rfl
theorem wiX11_undo : Cond.instanceMethod yX11_undo ∈ sm_G := sm_t3 59 rfl rfl
theorem wvX11_undo : Cond.selects RX11 yX11_undo yX11_undo ∈ sm_G := sm_t3 60 rfl rfl
theorem wcX11_undo : Cond.code mX11_undo.1 mX11_undo.2.1 mX11_undo.2.2.1 mX11_undo.2.2.2 ∈ sm_G := sm_t3 61 rfl rfl
theorem cvL_68 {M : sm_M} (hM : M.1.cls = RL) : sm_cV M mX11_undo 68 0 11 13 RX11 TX11 tyX11 := by
  refine ⟨kX11, rfl, ⟨by decide, by decide, by decide +kernel⟩, ?_, wiX11_undo, wvX11_undo, wIX11, wcX11_undo⟩
  rw [hM]; exact wmL_68
theorem wmL_71 : Cond.methodLink RL 71 yX12_undo ∈ sm_G := sm_t6 32 rfl rfl
theorem wiX12_undo : Cond.instanceMethod yX12_undo ∈ sm_G := sm_t6 33 rfl rfl
theorem wvX12_undo : Cond.selects RX12 yX12_undo yX12_undo ∈ sm_G := sm_t6 34 rfl rfl
theorem wcX12_undo : Cond.code mX12_undo.1 mX12_undo.2.1 mX12_undo.2.2.1 mX12_undo.2.2.2 ∈ sm_G := sm_t6 35 rfl rfl
theorem cvL_71 {M : sm_M} (hM : M.1.cls = RL) : sm_cV M mX12_undo 71 0 12 57 RX12 TX12 tyX12 := by
  refine ⟨kX12, rfl, ⟨by decide, by decide, by decide +kernel⟩, ?_, wiX12_undo, wvX12_undo, wIX12, wcX12_undo⟩
  rw [hM]; exact wmL_71
theorem wmL_72 : Cond.methodLink RL 72 yX11_go ∈ sm_G := sm_t3 66 rfl rfl
theorem wiX11_go : Cond.instanceMethod yX11_go ∈ sm_G := sm_t3 67 rfl rfl
theorem wvX11_go : Cond.selects RX11 yX11_go yX11_go ∈ sm_G := sm_t3 68 rfl rfl
theorem wcX11_go : Cond.code mX11_go.1 mX11_go.2.1 mX11_go.2.2.1 mX11_go.2.2.2 ∈ sm_G := sm_t3 69 rfl rfl
theorem cvL_72 {M : sm_M} (hM : M.1.cls = RL) : sm_cV M mX11_go 72 1 11 13 RX11 TX11 tyX11 := by
  refine ⟨kX11, rfl, ⟨by decide, by decide, by decide +kernel⟩, ?_, wiX11_go, wvX11_go, wIX11, wcX11_go⟩
  rw [hM]; exact wmL_72
theorem wmL_75 : Cond.methodLink RL 75 yX12_go ∈ sm_G := sm_t6 36 rfl rfl
theorem wiX12_go : Cond.instanceMethod yX12_go ∈ sm_G := sm_t6 37 rfl rfl
theorem wvX12_go : Cond.selects RX12 yX12_go yX12_go ∈ sm_G := sm_t6 38 rfl rfl
theorem wcX12_go : Cond.code mX12_go.1 mX12_go.2.1 mX12_go.2.2.1 mX12_go.2.2.2 ∈ sm_G := sm_t6 39 rfl rfl
theorem cvL_75 {M : sm_M} (hM : M.1.cls = RL) : sm_cV M mX12_go 75 1 12 57 RX12 TX12 tyX12 := by
  refine ⟨kX12, rfl, ⟨by decide, by decide, by decide +kernel⟩, ?_, wiX12_go, wvX12_go, wIX12, wcX12_go⟩
  rw [hM]; exact wmL_75
theorem wmL_76 : Cond.methodLink RL 76 yX11_can ∈ sm_G := sm_t3 74 rfl rfl
theorem wiX11_can : Cond.instanceMethod yX11_can ∈ sm_G := sm_t3 75 rfl rfl
theorem wvX11_can : Cond.selects RX11 yX11_can yX11_can ∈ sm_G := sm_t3 76 rfl rfl
theorem wcX11_can : Cond.code mX11_can.1 mX11_can.2.1 mX11_can.2.2.1 mX11_can.2.2.2 ∈ sm_G := sm_t3 77 rfl rfl
theorem cvL_76 {M : sm_M} (hM : M.1.cls = RL) : sm_cV M mX11_can 76 0 11 13 RX11 TX11 tyX11 := by
  refine ⟨kX11, rfl, ⟨by decide, by decide, by decide +kernel⟩, ?_, wiX11_can, wvX11_can, wIX11, wcX11_can⟩
  rw [hM]; exact wmL_76
theorem wmL_79 : Cond.methodLink RL 79 yX12_can ∈ sm_G := sm_t6 40 rfl rfl
theorem wiX12_can : Cond.instanceMethod yX12_can ∈ sm_G := sm_t6 41 rfl rfl
theorem wvX12_can : Cond.selects RX12 yX12_can yX12_can ∈ sm_G := sm_t6 42 rfl rfl
theorem wcX12_can : Cond.code mX12_can.1 mX12_can.2.1 mX12_can.2.2.1 mX12_can.2.2.2 ∈ sm_G := sm_t6 43 rfl rfl
theorem cvL_79 {M : sm_M} (hM : M.1.cls = RL) : sm_cV M mX12_can 79 0 12 57 RX12 TX12 tyX12 := by
  refine ⟨kX12, rfl, ⟨by decide, by decide, by decide +kernel⟩, ?_, wiX12_can, wvX12_can, wIX12, wcX12_can⟩
  rw [hM]; exact wmL_79
theorem wmL_80 : Cond.methodLink RL 80 yX11_tour ∈ sm_G := sm_t3 78 rfl rfl
theorem wiX11_tour : Cond.instanceMethod yX11_tour ∈ sm_G := sm_t3 79 rfl rfl
theorem wvX11_tour : Cond.selects RX11 yX11_tour yX11_tour ∈ sm_G := sm_t3 80 rfl rfl
theorem wcX11_tour : Cond.code mX11_tour.1 mX11_tour.2.1 mX11_tour.2.2.1 mX11_tour.2.2.2 ∈ sm_G := sm_t3 81 rfl rfl
theorem cvL_80 {M : sm_M} (hM : M.1.cls = RL) : sm_cV M mX11_tour 80 1 11 13 RX11 TX11 tyX11 := by
  refine ⟨kX11, rfl, ⟨by decide, by decide, by decide +kernel⟩, ?_, wiX11_tour, wvX11_tour, wIX11, wcX11_tour⟩
  rw [hM]; exact wmL_80
theorem wmL_83 : Cond.methodLink RL 83 yX12_tour ∈ sm_G := sm_t6 48 rfl rfl
theorem wiX12_tour : Cond.instanceMethod yX12_tour ∈ sm_G := sm_t6 49 rfl rfl
theorem wvX12_tour : Cond.selects RX12 yX12_tour yX12_tour ∈ sm_G := sm_t6 50 rfl rfl
theorem wcX12_tour : Cond.code mX12_tour.1 mX12_tour.2.1 mX12_tour.2.2.1 mX12_tour.2.2.2 ∈ sm_G := sm_t6 51 rfl rfl
theorem cvL_83 {M : sm_M} (hM : M.1.cls = RL) : sm_cV M mX12_tour 83 1 12 57 RX12 TX12 tyX12 := by
  refine ⟨kX12, rfl, ⟨by decide, by decide, by decide +kernel⟩, ?_, wiX12_tour, wvX12_tour, wIX12, wcX12_tour⟩
  rw [hM]; exact wmL_83
theorem wmL_84 : Cond.methodLink RL 84 yX11_look ∈ sm_G := sm_t3 115 rfl rfl
theorem wiX11_look : Cond.instanceMethod yX11_look ∈ sm_G := sm_t3 116 rfl rfl
theorem wvX11_look : Cond.selects RX11 yX11_look yX11_look ∈ sm_G := sm_t3 117 rfl rfl
theorem wcX11_look : Cond.code mX11_look.1 mX11_look.2.1 mX11_look.2.2.1 mX11_look.2.2.2 ∈ sm_G := sm_t3 118 rfl rfl
theorem cvL_84 {M : sm_M} (hM : M.1.cls = RL) : sm_cV M mX11_look 84 1 11 13 RX11 TX11 tyX11 := by
  refine ⟨kX11, rfl, ⟨by decide, by decide, by decide +kernel⟩, ?_, wiX11_look, wvX11_look, wIX11, wcX11_look⟩
  rw [hM]; exact wmL_84
theorem wmL_87 : Cond.methodLink RL 87 yX12_look ∈ sm_G := sm_t6 56 rfl rfl
theorem wiX12_look : Cond.instanceMethod yX12_look ∈ sm_G := sm_t6 57 rfl rfl
theorem wvX12_look : Cond.selects RX12 yX12_look yX12_look ∈ sm_G := sm_t6 58 rfl rfl
theorem wcX12_look : Cond.code mX12_look.1 mX12_look.2.1 mX12_look.2.2.1 mX12_look.2.2.2 ∈ sm_G := sm_t6 59 rfl rfl
theorem cvL_87 {M : sm_M} (hM : M.1.cls = RL) : sm_cV M mX12_look 87 1 12 57 RX12 TX12 tyX12 := by
  refine ⟨kX12, rfl, ⟨by decide, by decide, by decide +kernel⟩, ?_, wiX12_look, wvX12_look, wIX12, wcX12_look⟩
  rw [hM]; exact wmL_87
theorem wmL_88 : Cond.methodLink RL 88 yX11_meets ∈ sm_G := sm_t3 123 rfl rfl
theorem wiX11_meets : Cond.instanceMethod yX11_meets ∈ sm_G := sm_t3 124 rfl rfl
theorem wvX11_meets : Cond.selects RX11 yX11_meets yX11_meets ∈ sm_G := sm_t3 125 rfl rfl
theorem wcX11_meets : Cond.code mX11_meets.1 mX11_meets.2.1 mX11_meets.2.2.1 mX11_meets.2.2.2 ∈ sm_G := sm_t3 126 rfl rfl
theorem cvL_88 {M : sm_M} (hM : M.1.cls = RL) : sm_cV M mX11_meets 88 1 11 13 RX11 TX11 tyX11 := by
  refine ⟨kX11, rfl, ⟨by decide, by decide, by decide +kernel⟩, ?_, wiX11_meets, wvX11_meets, wIX11, wcX11_meets⟩
  rw [hM]; exact wmL_88
theorem wmL_91 : Cond.methodLink RL 91 yX12_meets ∈ sm_G := sm_t6 68 rfl rfl
theorem wiX12_meets : Cond.instanceMethod yX12_meets ∈ sm_G := sm_t6 69 rfl rfl
theorem wvX12_meets : Cond.selects RX12 yX12_meets yX12_meets ∈ sm_G := sm_t6 70 rfl rfl
theorem wcX12_meets : Cond.code mX12_meets.1 mX12_meets.2.1 mX12_meets.2.2.1 mX12_meets.2.2.2 ∈ sm_G := sm_t6 71 rfl rfl
theorem cvL_91 {M : sm_M} (hM : M.1.cls = RL) : sm_cV M mX12_meets 91 1 12 57 RX12 TX12 tyX12 := by
  refine ⟨kX12, rfl, ⟨by decide, by decide, by decide +kernel⟩, ?_, wiX12_meets, wvX12_meets, wIX12, wcX12_meets⟩
  rw [hM]; exact wmL_91
theorem wmL_92 : Cond.methodLink RL 92 yX11_apart ∈ sm_G := sm_t3 140 rfl rfl
theorem wiX11_apart : Cond.instanceMethod yX11_apart ∈ sm_G := sm_t3 141 rfl rfl
theorem wvX11_apart : Cond.selects RX11 yX11_apart yX11_apart ∈ sm_G := sm_t3 142 rfl rfl
theorem wcX11_apart : Cond.code mX11_apart.1 mX11_apart.2.1 mX11_apart.2.2.1 mX11_apart.2.2.2 ∈ sm_G := sm_t3 143 rfl rfl
theorem cvL_92 {M : sm_M} (hM : M.1.cls = RL) : sm_cV M mX11_apart 92 0 11 13 RX11 TX11 tyX11 := by
  refine ⟨kX11, rfl, ⟨by decide, by decide, by decide +kernel⟩, ?_, wiX11_apart, wvX11_apart, wIX11, wcX11_apart⟩
  rw [hM]; exact wmL_92
theorem wmL_95 : Cond.methodLink RL 95 yX12_apart ∈ sm_G := sm_t6 80 rfl rfl
theorem wiX12_apart : Cond.instanceMethod yX12_apart ∈ sm_G := sm_t6 81 rfl rfl
theorem wvX12_apart : Cond.selects RX12 yX12_apart yX12_apart ∈ sm_G := sm_t6 82 rfl rfl
theorem wcX12_apart : Cond.code mX12_apart.1 mX12_apart.2.1 mX12_apart.2.2.1 mX12_apart.2.2.2 ∈ sm_G := sm_t6 83 rfl rfl
theorem cvL_95 {M : sm_M} (hM : M.1.cls = RL) : sm_cV M mX12_apart 95 0 12 57 RX12 TX12 tyX12 := by
  refine ⟨kX12, rfl, ⟨by decide, by decide, by decide +kernel⟩, ?_, wiX12_apart, wvX12_apart, wIX12, wcX12_apart⟩
  rw [hM]; exact wmL_95
theorem wmL_96 : Cond.methodLink RL 96 yX11_season ∈ sm_G := sm_t3 144 rfl rfl
theorem wiX11_season : Cond.instanceMethod yX11_season ∈ sm_G := sm_t3 145 rfl rfl
theorem wvX11_season : Cond.selects RX11 yX11_season yX11_season ∈ sm_G := sm_t3 146 rfl rfl
theorem wcX11_season : Cond.code mX11_season.1 mX11_season.2.1 mX11_season.2.2.1 mX11_season.2.2.2 ∈ sm_G := sm_t3 147 rfl rfl
theorem cvL_96 {M : sm_M} (hM : M.1.cls = RL) : sm_cV M mX11_season 96 1 11 13 RX11 TX11 tyX11 := by
  refine ⟨kX11, rfl, ⟨by decide, by decide, by decide +kernel⟩, ?_, wiX11_season, wvX11_season, wIX11, wcX11_season⟩
  rw [hM]; exact wmL_96
theorem wmL_99 : Cond.methodLink RL 99 yX12_season ∈ sm_G := sm_t6 84 rfl rfl
theorem wiX12_season : Cond.instanceMethod yX12_season ∈ sm_G := sm_t6 85 rfl rfl
theorem wvX12_season : Cond.selects RX12 yX12_season yX12_season ∈ sm_G := sm_t6 86 rfl rfl
theorem wcX12_season : Cond.code mX12_season.1 mX12_season.2.1 mX12_season.2.2.1 mX12_season.2.2.2 ∈ sm_G := sm_t6 87 rfl rfl
theorem cvL_99 {M : sm_M} (hM : M.1.cls = RL) : sm_cV M mX12_season 99 1 12 57 RX12 TX12 tyX12 := by
  refine ⟨kX12, rfl, ⟨by decide, by decide, by decide +kernel⟩, ?_, wiX12_season, wvX12_season, wIX12, wcX12_season⟩
  rw [hM]; exact wmL_99
theorem wmL_100 : Cond.methodLink RL 100 yX11_odd ∈ sm_G := sm_t3 163 rfl rfl
theorem wiX11_odd : Cond.instanceMethod yX11_odd ∈ sm_G := sm_t3 164 rfl rfl
theorem wvX11_odd : Cond.selects RX11 yX11_odd yX11_odd ∈ sm_G := sm_t3 165 rfl rfl
theorem wcX11_odd : Cond.code mX11_odd.1 mX11_odd.2.1 mX11_odd.2.2.1 mX11_odd.2.2.2 ∈ sm_G := sm_t3 166 rfl rfl
theorem cvL_100 {M : sm_M} (hM : M.1.cls = RL) : sm_cV M mX11_odd 100 0 11 13 RX11 TX11 tyX11 := by
  refine ⟨kX11, rfl, ⟨by decide, by decide, by decide +kernel⟩, ?_, wiX11_odd, wvX11_odd, wIX11, wcX11_odd⟩
  rw [hM]; exact wmL_100
theorem wmL_103 : Cond.methodLink RL 103 yX12_odd ∈ sm_G := sm_t6 93 rfl rfl
theorem wiX12_odd : Cond.instanceMethod yX12_odd ∈ sm_G := sm_t6 94 rfl rfl
theorem wvX12_odd : Cond.selects RX12 yX12_odd yX12_odd ∈ sm_G := sm_t6 95 rfl rfl
theorem wcX12_odd : Cond.code mX12_odd.1 mX12_odd.2.1 mX12_odd.2.2.1 mX12_odd.2.2.2 ∈ sm_G := sm_t6 96 rfl rfl
theorem cvL_103 {M : sm_M} (hM : M.1.cls = RL) : sm_cV M mX12_odd 103 0 12 57 RX12 TX12 tyX12 := by
  refine ⟨kX12, rfl, ⟨by decide, by decide, by decide +kernel⟩, ?_, wiX12_odd, wvX12_odd, wIX12, wcX12_odd⟩
  rw [hM]; exact wmL_103
theorem wmL_104 : Cond.methodLink RL 104 yX11_men ∈ sm_G := sm_t3 185 rfl rfl
theorem wiX11_men : Cond.instanceMethod yX11_men ∈ sm_G := sm_t3 186 rfl rfl
theorem wvX11_men : Cond.selects RX11 yX11_men yX11_men ∈ sm_G := sm_t3 187 rfl rfl
theorem wcX11_men : Cond.code mX11_men.1 mX11_men.2.1 mX11_men.2.2.1 mX11_men.2.2.2 ∈ sm_G := sm_t3 188 rfl rfl
theorem cvL_104 {M : sm_M} (hM : M.1.cls = RL) : sm_cV M mX11_men 104 0 11 13 RX11 TX11 tyX11 := by
  refine ⟨kX11, rfl, ⟨by decide, by decide, by decide +kernel⟩, ?_, wiX11_men, wvX11_men, wIX11, wcX11_men⟩
  rw [hM]; exact wmL_104
theorem wmL_107 : Cond.methodLink RL 107 yX12_men ∈ sm_G := sm_t6 106 rfl rfl
theorem wiX12_men : Cond.instanceMethod yX12_men ∈ sm_G := sm_t6 107 rfl rfl
theorem wvX12_men : Cond.selects RX12 yX12_men yX12_men ∈ sm_G := sm_t6 108 rfl rfl
theorem wcX12_men : Cond.code mX12_men.1 mX12_men.2.1 mX12_men.2.2.1 mX12_men.2.2.2 ∈ sm_G := sm_t6 109 rfl rfl
theorem cvL_107 {M : sm_M} (hM : M.1.cls = RL) : sm_cV M mX12_men 107 0 12 57 RX12 TX12 tyX12 := by
  refine ⟨kX12, rfl, ⟨by decide, by decide, by decide +kernel⟩, ?_, wiX12_men, wvX12_men, wIX12, wcX12_men⟩
  rw [hM]; exact wmL_107
theorem wmL_108 : Cond.methodLink RL 108 yX11_trail ∈ sm_G := sm_t3 193 rfl rfl
theorem wiX11_trail : Cond.instanceMethod yX11_trail ∈ sm_G := sm_t3 194 rfl rfl
theorem wvX11_trail : Cond.selects RX11 yX11_trail yX11_trail ∈ sm_G := sm_t3 195 rfl rfl
theorem wcX11_trail : Cond.code mX11_trail.1 mX11_trail.2.1 mX11_trail.2.2.1 mX11_trail.2.2.2 ∈ sm_G := sm_t3 196 rfl rfl
theorem cvL_108 {M : sm_M} (hM : M.1.cls = RL) : sm_cV M mX11_trail 108 1 11 13 RX11 TX11 tyX11 := by
  refine ⟨kX11, rfl, ⟨by decide, by decide, by decide +kernel⟩, ?_, wiX11_trail, wvX11_trail, wIX11, wcX11_trail⟩
  rw [hM]; exact wmL_108
theorem wmL_111 : Cond.methodLink RL 111 yX12_trail ∈ sm_G := sm_t6 118 rfl rfl
theorem wiX12_trail : Cond.instanceMethod yX12_trail ∈ sm_G := sm_t6 119 rfl rfl
theorem wvX12_trail : Cond.selects RX12 yX12_trail yX12_trail ∈ sm_G := sm_t6 120 rfl rfl
theorem wcX12_trail : Cond.code mX12_trail.1 mX12_trail.2.1 mX12_trail.2.2.1 mX12_trail.2.2.2 ∈ sm_G := sm_t6 121 rfl rfl
theorem cvL_111 {M : sm_M} (hM : M.1.cls = RL) : sm_cV M mX12_trail 111 1 12 57 RX12 TX12 tyX12 := by
  refine ⟨kX12, rfl, ⟨by decide, by decide, by decide +kernel⟩, ?_, wiX12_trail, wvX12_trail, wIX12, wcX12_trail⟩
  rw [hM]; exact wmL_111
theorem wmL_112 : Cond.methodLink RL 112 yX11_round ∈ sm_G := sm_t3 222 rfl rfl
theorem wiX11_round : Cond.instanceMethod yX11_round ∈ sm_G := sm_t3 223 rfl rfl
theorem wvX11_round : Cond.selects RX11 yX11_round yX11_round ∈ sm_G := sm_t3 224 rfl rfl
theorem wcX11_round : Cond.code mX11_round.1 mX11_round.2.1 mX11_round.2.2.1 mX11_round.2.2.2 ∈ sm_G := sm_t3 225 rfl rfl
theorem cvL_112 {M : sm_M} (hM : M.1.cls = RL) : sm_cV M mX11_round 112 0 11 13 RX11 TX11 tyX11 := by
  refine ⟨kX11, rfl, ⟨by decide, by decide, by decide +kernel⟩, ?_, wiX11_round, wvX11_round, wIX11, wcX11_round⟩
  rw [hM]; exact wmL_112
theorem wmL_115 : Cond.methodLink RL 115 yX12_round ∈ sm_G := sm_t6 126 rfl rfl
theorem wiX12_round : Cond.instanceMethod yX12_round ∈ sm_G := sm_t6 127 rfl rfl
theorem wvX12_round : Cond.selects RX12 yX12_round yX12_round ∈ sm_G := sm_t6 128 rfl rfl
theorem wcX12_round : Cond.code mX12_round.1 mX12_round.2.1 mX12_round.2.2.1 mX12_round.2.2.2 ∈ sm_G := sm_t6 129 rfl rfl
theorem cvL_115 {M : sm_M} (hM : M.1.cls = RL) : sm_cV M mX12_round 115 0 12 57 RX12 TX12 tyX12 := by
  refine ⟨kX12, rfl, ⟨by decide, by decide, by decide +kernel⟩, ?_, wiX12_round, wvX12_round, wIX12, wcX12_round⟩
  rw [hM]; exact wmL_115
theorem wmL_116 : Cond.methodLink RL 116 yX11_closed ∈ sm_G := sm_t4 10 rfl rfl
theorem wiX11_closed : Cond.instanceMethod yX11_closed ∈ sm_G := sm_t4 11 rfl rfl
theorem wvX11_closed : Cond.selects RX11 yX11_closed yX11_closed ∈ sm_G := sm_t4 12 rfl rfl
theorem wcX11_closed : Cond.code mX11_closed.1 mX11_closed.2.1 mX11_closed.2.2.1 mX11_closed.2.2.2 ∈ sm_G := sm_t4 13 rfl rfl
theorem cvL_116 {M : sm_M} (hM : M.1.cls = RL) : sm_cV M mX11_closed 116 0 11 13 RX11 TX11 tyX11 := by
  refine ⟨kX11, rfl, ⟨by decide, by decide, by decide +kernel⟩, ?_, wiX11_closed, wvX11_closed, wIX11, wcX11_closed⟩
  rw [hM]; exact wmL_116
theorem wmL_119 : Cond.methodLink RL 119 yX12_closed ∈ sm_G := sm_t6 138 rfl rfl
theorem wiX12_closed : Cond.instanceMethod yX12_closed ∈ sm_G := sm_t6 139 rfl rfl
theorem wvX12_closed : Cond.selects RX12 yX12_closed yX12_closed ∈ sm_G := sm_t6 140 rfl rfl
theorem wcX12_closed : Cond.code mX12_closed.1 mX12_closed.2.1 mX12_closed.2.2.1 mX12_closed.2.2.2 ∈ sm_G := sm_t6 141 rfl rfl
theorem cvL_119 {M : sm_M} (hM : M.1.cls = RL) : sm_cV M mX12_closed 119 0 12 57 RX12 TX12 tyX12 := by
  refine ⟨kX12, rfl, ⟨by decide, by decide, by decide +kernel⟩, ?_, wiX12_closed, wvX12_closed, wIX12, wcX12_closed⟩
  rw [hM]; exact wmL_119
theorem wmL_120 : Cond.methodLink RL 120 yX11_open ∈ sm_G := sm_t4 53 rfl rfl
theorem wiX11_open : Cond.instanceMethod yX11_open ∈ sm_G := sm_t4 54 rfl rfl
theorem wvX11_open : Cond.selects RX11 yX11_open yX11_open ∈ sm_G := sm_t4 55 rfl rfl
theorem wcX11_open : Cond.code mX11_open.1 mX11_open.2.1 mX11_open.2.2.1 mX11_open.2.2.2 ∈ sm_G := sm_t4 56 rfl rfl
theorem cvL_120 {M : sm_M} (hM : M.1.cls = RL) : sm_cV M mX11_open 120 0 11 13 RX11 TX11 tyX11 := by
  refine ⟨kX11, rfl, ⟨by decide, by decide, by decide +kernel⟩, ?_, wiX11_open, wvX11_open, wIX11, wcX11_open⟩
  rw [hM]; exact wmL_120
theorem wmL_123 : Cond.methodLink RL 123 yX12_open ∈ sm_G := sm_t6 158 rfl rfl
theorem wiX12_open : Cond.instanceMethod yX12_open ∈ sm_G := sm_t6 159 rfl rfl
theorem wvX12_open : Cond.selects RX12 yX12_open yX12_open ∈ sm_G := sm_t6 160 rfl rfl
theorem wcX12_open : Cond.code mX12_open.1 mX12_open.2.1 mX12_open.2.2.1 mX12_open.2.2.2 ∈ sm_G := sm_t6 161 rfl rfl
theorem cvL_123 {M : sm_M} (hM : M.1.cls = RL) : sm_cV M mX12_open 123 0 12 57 RX12 TX12 tyX12 := by
  refine ⟨kX12, rfl, ⟨by decide, by decide, by decide +kernel⟩, ?_, wiX12_open, wvX12_open, wIX12, wcX12_open⟩
  rw [hM]; exact wmL_123
theorem wmL_124 : Cond.methodLink RL 124 yX11_most ∈ sm_G := sm_t4 57 rfl rfl
theorem wiX11_most : Cond.instanceMethod yX11_most ∈ sm_G := sm_t4 58 rfl rfl
theorem wvX11_most : Cond.selects RX11 yX11_most yX11_most ∈ sm_G := sm_t4 59 rfl rfl
theorem wcX11_most : Cond.code mX11_most.1 mX11_most.2.1 mX11_most.2.2.1 mX11_most.2.2.2 ∈ sm_G := sm_t4 60 rfl rfl
theorem cvL_124 {M : sm_M} (hM : M.1.cls = RL) : sm_cV M mX11_most 124 2 11 13 RX11 TX11 tyX11 := by
  refine ⟨kX11, rfl, ⟨by decide, by decide, by decide +kernel⟩, ?_, wiX11_most, wvX11_most, wIX11, wcX11_most⟩
  rw [hM]; exact wmL_124
theorem wmL_127 : Cond.methodLink RL 127 yX12_most ∈ sm_G := sm_t6 162 rfl rfl
theorem wiX12_most : Cond.instanceMethod yX12_most ∈ sm_G := sm_t6 163 rfl rfl
theorem wvX12_most : Cond.selects RX12 yX12_most yX12_most ∈ sm_G := sm_t6 164 rfl rfl
theorem wcX12_most : Cond.code mX12_most.1 mX12_most.2.1 mX12_most.2.2.1 mX12_most.2.2.2 ∈ sm_G := sm_t6 165 rfl rfl
theorem cvL_127 {M : sm_M} (hM : M.1.cls = RL) : sm_cV M mX12_most 127 2 12 57 RX12 TX12 tyX12 := by
  refine ⟨kX12, rfl, ⟨by decide, by decide, by decide +kernel⟩, ?_, wiX12_most, wvX12_most, wIX12, wcX12_most⟩
  rw [hM]; exact wmL_127
theorem wmL_128 : Cond.methodLink RL 128 yX11_home ∈ sm_G := sm_t4 97 rfl rfl
theorem wiX11_home : Cond.instanceMethod yX11_home ∈ sm_G := sm_t4 98 rfl rfl
theorem wvX11_home : Cond.selects RX11 yX11_home yX11_home ∈ sm_G := sm_t4 99 rfl rfl
theorem wcX11_home : Cond.code mX11_home.1 mX11_home.2.1 mX11_home.2.2.1 mX11_home.2.2.2 ∈ sm_G := sm_t4 100 rfl rfl
theorem cvL_128 {M : sm_M} (hM : M.1.cls = RL) : sm_cV M mX11_home 128 2 11 13 RX11 TX11 tyX11 := by
  refine ⟨kX11, rfl, ⟨by decide, by decide, by decide +kernel⟩, ?_, wiX11_home, wvX11_home, wIX11, wcX11_home⟩
  rw [hM]; exact wmL_128
theorem wmL_131 : Cond.methodLink RL 131 yX12_home ∈ sm_G := sm_t6 183 rfl rfl
theorem wiX12_home : Cond.instanceMethod yX12_home ∈ sm_G := sm_t6 184 rfl rfl
theorem wvX12_home : Cond.selects RX12 yX12_home yX12_home ∈ sm_G := sm_t6 185 rfl rfl
theorem wcX12_home : Cond.code mX12_home.1 mX12_home.2.1 mX12_home.2.2.1 mX12_home.2.2.2 ∈ sm_G := sm_t6 186 rfl rfl
theorem cvL_131 {M : sm_M} (hM : M.1.cls = RL) : sm_cV M mX12_home 131 2 12 57 RX12 TX12 tyX12 := by
  refine ⟨kX12, rfl, ⟨by decide, by decide, by decide +kernel⟩, ?_, wiX12_home, wvX12_home, wIX12, wcX12_home⟩
  rw [hM]; exact wmL_131
theorem wmL_132 : Cond.methodLink RL 132 yX11_soon ∈ sm_G := sm_t4 101 rfl rfl
theorem wiX11_soon : Cond.instanceMethod yX11_soon ∈ sm_G := sm_t4 102 rfl rfl
theorem wvX11_soon : Cond.selects RX11 yX11_soon yX11_soon ∈ sm_G := sm_t4 103 rfl rfl
theorem wcX11_soon : Cond.code mX11_soon.1 mX11_soon.2.1 mX11_soon.2.2.1 mX11_soon.2.2.2 ∈ sm_G := sm_t4 104 rfl rfl
theorem cvL_132 {M : sm_M} (hM : M.1.cls = RL) : sm_cV M mX11_soon 132 2 11 13 RX11 TX11 tyX11 := by
  refine ⟨kX11, rfl, ⟨by decide, by decide, by decide +kernel⟩, ?_, wiX11_soon, wvX11_soon, wIX11, wcX11_soon⟩
  rw [hM]; exact wmL_132
theorem wmL_135 : Cond.methodLink RL 135 yX12_soon ∈ sm_G := sm_t6 187 rfl rfl
theorem wiX12_soon : Cond.instanceMethod yX12_soon ∈ sm_G := sm_t6 188 rfl rfl
theorem wvX12_soon : Cond.selects RX12 yX12_soon yX12_soon ∈ sm_G := sm_t6 189 rfl rfl
theorem wcX12_soon : Cond.code mX12_soon.1 mX12_soon.2.1 mX12_soon.2.2.1 mX12_soon.2.2.2 ∈ sm_G := sm_t6 190 rfl rfl
theorem cvL_135 {M : sm_M} (hM : M.1.cls = RL) : sm_cV M mX12_soon 135 2 12 57 RX12 TX12 tyX12 := by
  refine ⟨kX12, rfl, ⟨by decide, by decide, by decide +kernel⟩, ?_, wiX12_soon, wvX12_soon, wIX12, wcX12_soon⟩
  rw [hM]; exact wmL_135
theorem wmL_136 : Cond.methodLink RL 136 yX11_bridges ∈ sm_G := sm_t4 109 rfl rfl
theorem wiX11_bridges : Cond.instanceMethod yX11_bridges ∈ sm_G := sm_t4 110 rfl rfl
theorem wvX11_bridges : Cond.selects RX11 yX11_bridges yX11_bridges ∈ sm_G := sm_t4 111 rfl rfl
theorem wcX11_bridges : Cond.code mX11_bridges.1 mX11_bridges.2.1 mX11_bridges.2.2.1 mX11_bridges.2.2.2 ∈ sm_G := sm_t4 112 rfl rfl
theorem cvL_136 {M : sm_M} (hM : M.1.cls = RL) : sm_cV M mX11_bridges 136 0 11 13 RX11 TX11 tyX11 := by
  refine ⟨kX11, rfl, ⟨by decide, by decide, by decide +kernel⟩, ?_, wiX11_bridges, wvX11_bridges, wIX11, wcX11_bridges⟩
  rw [hM]; exact wmL_136
theorem wmL_139 : Cond.methodLink RL 139 yX12_bridges ∈ sm_G := sm_t6 192 rfl rfl
theorem wiX12_bridges : Cond.instanceMethod yX12_bridges ∈ sm_G := sm_t6 193 rfl rfl
theorem wvX12_bridges : Cond.selects RX12 yX12_bridges yX12_bridges ∈ sm_G := sm_t6 194 rfl rfl
theorem wcX12_bridges : Cond.code mX12_bridges.1 mX12_bridges.2.1 mX12_bridges.2.2.1 mX12_bridges.2.2.2 ∈ sm_G := sm_t6 195 rfl rfl
theorem cvL_139 {M : sm_M} (hM : M.1.cls = RL) : sm_cV M mX12_bridges 139 0 12 57 RX12 TX12 tyX12 := by
  refine ⟨kX12, rfl, ⟨by decide, by decide, by decide +kernel⟩, ?_, wiX12_bridges, wvX12_bridges, wIX12, wcX12_bridges⟩
  rw [hM]; exact wmL_139
theorem wmL_140 : Cond.methodLink RL 140 yL_reach ∈ sm_G := sm_t5 110 rfl rfl
theorem wsL_reach : Cond.static yL_reach ∈ sm_G := sm_t5 111 rfl rfl
theorem wmL_143 : Cond.methodLink RL 143 yX12_reach ∈ sm_G := sm_t6 196 rfl rfl
theorem wiX12_reach : Cond.instanceMethod yX12_reach ∈ sm_G := sm_t6 197 rfl rfl
theorem wvX12_reach : Cond.selects RX12 yX12_reach yX12_reach ∈ sm_G := sm_t6 198 rfl rfl
theorem wcX12_reach : Cond.code mX12_reach.1 mX12_reach.2.1 mX12_reach.2.2.1 mX12_reach.2.2.2 ∈ sm_G := sm_t6 199 rfl rfl
theorem cvL_143 {M : sm_M} (hM : M.1.cls = RL) : sm_cV M mX12_reach 143 1 12 57 RX12 TX12 tyX12 := by
  refine ⟨kX12, rfl, ⟨by decide, by decide, by decide +kernel⟩, ?_, wiX12_reach, wvX12_reach, wIX12, wcX12_reach⟩
  rw [hM]; exact wmL_143
theorem wmL_144 : Cond.methodLink RL 144 yX11_gates ∈ sm_G := sm_t4 113 rfl rfl
theorem wiX11_gates : Cond.instanceMethod yX11_gates ∈ sm_G := sm_t4 114 rfl rfl
theorem wvX11_gates : Cond.selects RX11 yX11_gates yX11_gates ∈ sm_G := sm_t4 115 rfl rfl
theorem wcX11_gates : Cond.code mX11_gates.1 mX11_gates.2.1 mX11_gates.2.2.1 mX11_gates.2.2.2 ∈ sm_G := sm_t4 116 rfl rfl
theorem cvL_144 {M : sm_M} (hM : M.1.cls = RL) : sm_cV M mX11_gates 144 1 11 13 RX11 TX11 tyX11 := by
  refine ⟨kX11, rfl, ⟨by decide, by decide, by decide +kernel⟩, ?_, wiX11_gates, wvX11_gates, wIX11, wcX11_gates⟩
  rw [hM]; exact wmL_144
theorem wmL_147 : Cond.methodLink RL 147 yX12_gates ∈ sm_G := sm_t6 201 rfl rfl
theorem wiX12_gates : Cond.instanceMethod yX12_gates ∈ sm_G := sm_t6 202 rfl rfl
theorem wvX12_gates : Cond.selects RX12 yX12_gates yX12_gates ∈ sm_G := sm_t6 203 rfl rfl
theorem wcX12_gates : Cond.code mX12_gates.1 mX12_gates.2.1 mX12_gates.2.2.1 mX12_gates.2.2.2 ∈ sm_G := sm_t6 204 rfl rfl
theorem cvL_147 {M : sm_M} (hM : M.1.cls = RL) : sm_cV M mX12_gates 147 1 12 57 RX12 TX12 tyX12 := by
  refine ⟨kX12, rfl, ⟨by decide, by decide, by decide +kernel⟩, ?_, wiX12_gates, wvX12_gates, wIX12, wcX12_gates⟩
  rw [hM]; exact wmL_147
theorem wmL_148 : Cond.methodLink RL 148 yX11_heard ∈ sm_G := sm_t4 170 rfl rfl
theorem wiX11_heard : Cond.instanceMethod yX11_heard ∈ sm_G := sm_t4 171 rfl rfl
theorem wvX11_heard : Cond.selects RX11 yX11_heard yX11_heard ∈ sm_G := sm_t4 172 rfl rfl
theorem wcX11_heard : Cond.code mX11_heard.1 mX11_heard.2.1 mX11_heard.2.2.1 mX11_heard.2.2.2 ∈ sm_G := sm_t4 173 rfl rfl
theorem cvL_148 {M : sm_M} (hM : M.1.cls = RL) : sm_cV M mX11_heard 148 2 11 13 RX11 TX11 tyX11 := by
  refine ⟨kX11, rfl, ⟨by decide, by decide, by decide +kernel⟩, ?_, wiX11_heard, wvX11_heard, wIX11, wcX11_heard⟩
  rw [hM]; exact wmL_148
theorem wmL_151 : Cond.methodLink RL 151 yX12_heard ∈ sm_G := sm_t6 237 rfl rfl
theorem wiX12_heard : Cond.instanceMethod yX12_heard ∈ sm_G := sm_t6 238 rfl rfl
theorem wvX12_heard : Cond.selects RX12 yX12_heard yX12_heard ∈ sm_G := sm_t6 239 rfl rfl
theorem wcX12_heard : Cond.code mX12_heard.1 mX12_heard.2.1 mX12_heard.2.2.1 mX12_heard.2.2.2 ∈ sm_G := sm_t7 0 rfl rfl
theorem cvL_151 {M : sm_M} (hM : M.1.cls = RL) : sm_cV M mX12_heard 151 2 12 57 RX12 TX12 tyX12 := by
  refine ⟨kX12, rfl, ⟨by decide, by decide, by decide +kernel⟩, ?_, wiX12_heard, wvX12_heard, wIX12, wcX12_heard⟩
  rw [hM]; exact wmL_151
theorem wmL_152 : Cond.methodLink RL 152 yX11_forget ∈ sm_G := sm_t4 178 rfl rfl
theorem wiX11_forget : Cond.instanceMethod yX11_forget ∈ sm_G := sm_t4 179 rfl rfl
theorem wvX11_forget : Cond.selects RX11 yX11_forget yX11_forget ∈ sm_G := sm_t4 180 rfl rfl
theorem wcX11_forget : Cond.code mX11_forget.1 mX11_forget.2.1 mX11_forget.2.2.1 mX11_forget.2.2.2 ∈ sm_G := sm_t4 181 rfl rfl
theorem cvL_152 {M : sm_M} (hM : M.1.cls = RL) : sm_cV M mX11_forget 152 0 11 13 RX11 TX11 tyX11 := by
  refine ⟨kX11, rfl, ⟨by decide, by decide, by decide +kernel⟩, ?_, wiX11_forget, wvX11_forget, wIX11, wcX11_forget⟩
  rw [hM]; exact wmL_152
theorem wmL_155 : Cond.methodLink RL 155 yX12_forget ∈ sm_G := sm_t7 2 rfl rfl
theorem wiX12_forget : Cond.instanceMethod yX12_forget ∈ sm_G := sm_t7 3 rfl rfl
theorem wvX12_forget : Cond.selects RX12 yX12_forget yX12_forget ∈ sm_G := sm_t7 4 rfl rfl
theorem wcX12_forget : Cond.code mX12_forget.1 mX12_forget.2.1 mX12_forget.2.2.1 mX12_forget.2.2.2 ∈ sm_G := sm_t7 5 rfl rfl
theorem cvL_155 {M : sm_M} (hM : M.1.cls = RL) : sm_cV M mX12_forget 155 0 12 57 RX12 TX12 tyX12 := by
  refine ⟨kX12, rfl, ⟨by decide, by decide, by decide +kernel⟩, ?_, wiX12_forget, wvX12_forget, wIX12, wcX12_forget⟩
  rw [hM]; exact wmL_155
theorem wmL_156 : Cond.methodLink RL 156 yX11_lands ∈ sm_G := sm_t4 182 rfl rfl
theorem wiX11_lands : Cond.instanceMethod yX11_lands ∈ sm_G := sm_t4 183 rfl rfl
theorem wvX11_lands : Cond.selects RX11 yX11_lands yX11_lands ∈ sm_G := sm_t4 184 rfl rfl
theorem wcX11_lands : Cond.code mX11_lands.1 mX11_lands.2.1 mX11_lands.2.2.1 mX11_lands.2.2.2 ∈ sm_G := sm_t4 185 rfl rfl
theorem cvL_156 {M : sm_M} (hM : M.1.cls = RL) : sm_cV M mX11_lands 156 0 11 13 RX11 TX11 tyX11 := by
  refine ⟨kX11, rfl, ⟨by decide, by decide, by decide +kernel⟩, ?_, wiX11_lands, wvX11_lands, wIX11, wcX11_lands⟩
  rw [hM]; exact wmL_156
theorem wmL_159 : Cond.methodLink RL 159 yX12_lands ∈ sm_G := sm_t7 6 rfl rfl
theorem wiX12_lands : Cond.instanceMethod yX12_lands ∈ sm_G := sm_t7 7 rfl rfl
theorem wvX12_lands : Cond.selects RX12 yX12_lands yX12_lands ∈ sm_G := sm_t7 8 rfl rfl
theorem wcX12_lands : Cond.code mX12_lands.1 mX12_lands.2.1 mX12_lands.2.2.1 mX12_lands.2.2.2 ∈ sm_G := sm_t7 9 rfl rfl
theorem cvL_159 {M : sm_M} (hM : M.1.cls = RL) : sm_cV M mX12_lands 159 0 12 57 RX12 TX12 tyX12 := by
  refine ⟨kX12, rfl, ⟨by decide, by decide, by decide +kernel⟩, ?_, wiX12_lands, wvX12_lands, wIX12, wcX12_lands⟩
  rw [hM]; exact wmL_159
theorem wmL_160 : Cond.methodLink RL 160 yX11_sure ∈ sm_G := sm_t4 212 rfl rfl
theorem wiX11_sure : Cond.instanceMethod yX11_sure ∈ sm_G := sm_t4 213 rfl rfl
theorem wvX11_sure : Cond.selects RX11 yX11_sure yX11_sure ∈ sm_G := sm_t4 214 rfl rfl
theorem wcX11_sure : Cond.code mX11_sure.1 mX11_sure.2.1 mX11_sure.2.2.1 mX11_sure.2.2.2 ∈ sm_G := sm_t4 215 rfl rfl
theorem cvL_160 {M : sm_M} (hM : M.1.cls = RL) : sm_cV M mX11_sure 160 0 11 13 RX11 TX11 tyX11 := by
  refine ⟨kX11, rfl, ⟨by decide, by decide, by decide +kernel⟩, ?_, wiX11_sure, wvX11_sure, wIX11, wcX11_sure⟩
  rw [hM]; exact wmL_160
theorem wmL_163 : Cond.methodLink RL 163 yX12_sure ∈ sm_G := sm_t7 24 rfl rfl
theorem wiX12_sure : Cond.instanceMethod yX12_sure ∈ sm_G := sm_t7 25 rfl rfl
theorem wvX12_sure : Cond.selects RX12 yX12_sure yX12_sure ∈ sm_G := sm_t7 26 rfl rfl
theorem wcX12_sure : Cond.code mX12_sure.1 mX12_sure.2.1 mX12_sure.2.2.1 mX12_sure.2.2.2 ∈ sm_G := sm_t7 27 rfl rfl
theorem cvL_163 {M : sm_M} (hM : M.1.cls = RL) : sm_cV M mX12_sure 163 0 12 57 RX12 TX12 tyX12 := by
  refine ⟨kX12, rfl, ⟨by decide, by decide, by decide +kernel⟩, ?_, wiX12_sure, wvX12_sure, wIX12, wcX12_sure⟩
  rw [hM]; exact wmL_163
theorem wmL_164 : Cond.methodLink RL 164 yX11_next ∈ sm_G := sm_t4 225 rfl rfl
theorem wiX11_next : Cond.instanceMethod yX11_next ∈ sm_G := sm_t4 226 rfl rfl
theorem wvX11_next : Cond.selects RX11 yX11_next yX11_next ∈ sm_G := sm_t4 227 rfl rfl
theorem wcX11_next : Cond.code mX11_next.1 mX11_next.2.1 mX11_next.2.2.1 mX11_next.2.2.2 ∈ sm_G := sm_t4 228 rfl rfl
theorem cvL_164 {M : sm_M} (hM : M.1.cls = RL) : sm_cV M mX11_next 164 0 11 13 RX11 TX11 tyX11 := by
  refine ⟨kX11, rfl, ⟨by decide, by decide, by decide +kernel⟩, ?_, wiX11_next, wvX11_next, wIX11, wcX11_next⟩
  rw [hM]; exact wmL_164
theorem wmL_167 : Cond.methodLink RL 167 yX12_next ∈ sm_G := sm_t7 28 rfl rfl
theorem wiX12_next : Cond.instanceMethod yX12_next ∈ sm_G := sm_t7 29 rfl rfl
theorem wvX12_next : Cond.selects RX12 yX12_next yX12_next ∈ sm_G := sm_t7 30 rfl rfl
theorem wcX12_next : Cond.code mX12_next.1 mX12_next.2.1 mX12_next.2.2.1 mX12_next.2.2.2 ∈ sm_G := sm_t7 31 rfl rfl
theorem cvL_167 {M : sm_M} (hM : M.1.cls = RL) : sm_cV M mX12_next 167 0 12 57 RX12 TX12 tyX12 := by
  refine ⟨kX12, rfl, ⟨by decide, by decide, by decide +kernel⟩, ?_, wiX12_next, wvX12_next, wIX12, wcX12_next⟩
  rw [hM]; exact wmL_167
theorem wmL_168 : Cond.methodLink RL 168 yX11_lies ∈ sm_G := sm_t4 234 rfl rfl
theorem wiX11_lies : Cond.instanceMethod yX11_lies ∈ sm_G := sm_t4 235 rfl rfl
theorem wvX11_lies : Cond.selects RX11 yX11_lies yX11_lies ∈ sm_G := sm_t4 236 rfl rfl
theorem wcX11_lies : Cond.code mX11_lies.1 mX11_lies.2.1 mX11_lies.2.2.1 mX11_lies.2.2.2 ∈ sm_G := sm_t4 237 rfl rfl
theorem cvL_168 {M : sm_M} (hM : M.1.cls = RL) : sm_cV M mX11_lies 168 0 11 13 RX11 TX11 tyX11 := by
  refine ⟨kX11, rfl, ⟨by decide, by decide, by decide +kernel⟩, ?_, wiX11_lies, wvX11_lies, wIX11, wcX11_lies⟩
  rw [hM]; exact wmL_168
theorem wmL_171 : Cond.methodLink RL 171 yX12_lies ∈ sm_G := sm_t7 32 rfl rfl
theorem wiX12_lies : Cond.instanceMethod yX12_lies ∈ sm_G := sm_t7 33 rfl rfl
theorem wvX12_lies : Cond.selects RX12 yX12_lies yX12_lies ∈ sm_G := sm_t7 34 rfl rfl
theorem wcX12_lies : Cond.code mX12_lies.1 mX12_lies.2.1 mX12_lies.2.2.1 mX12_lies.2.2.2 ∈ sm_G := sm_t7 35 rfl rfl
theorem cvL_171 {M : sm_M} (hM : M.1.cls = RL) : sm_cV M mX12_lies 171 0 12 57 RX12 TX12 tyX12 := by
  refine ⟨kX12, rfl, ⟨by decide, by decide, by decide +kernel⟩, ?_, wiX12_lies, wvX12_lies, wIX12, wcX12_lies⟩
  rw [hM]; exact wmL_171
theorem wmL_172 : Cond.methodLink RL 172 yX11_quarrel ∈ sm_G := sm_t5 7 rfl rfl
theorem wiX11_quarrel : Cond.instanceMethod yX11_quarrel ∈ sm_G := sm_t5 8 rfl rfl
theorem wvX11_quarrel : Cond.selects RX11 yX11_quarrel yX11_quarrel ∈ sm_G := sm_t5 9 rfl rfl
theorem wcX11_quarrel : Cond.code mX11_quarrel.1 mX11_quarrel.2.1 mX11_quarrel.2.2.1 mX11_quarrel.2.2.2 ∈ sm_G := sm_t5 10 rfl rfl
theorem cvL_172 {M : sm_M} (hM : M.1.cls = RL) : sm_cV M mX11_quarrel 172 0 11 13 RX11 TX11 tyX11 := by
  refine ⟨kX11, rfl, ⟨by decide, by decide, by decide +kernel⟩, ?_, wiX11_quarrel, wvX11_quarrel, wIX11, wcX11_quarrel⟩
  rw [hM]; exact wmL_172
theorem wmL_175 : Cond.methodLink RL 175 yX12_quarrel ∈ sm_G := sm_t7 36 rfl rfl
theorem wiX12_quarrel : Cond.instanceMethod yX12_quarrel ∈ sm_G := sm_t7 37 rfl rfl
theorem wvX12_quarrel : Cond.selects RX12 yX12_quarrel yX12_quarrel ∈ sm_G := sm_t7 38 rfl rfl
theorem wcX12_quarrel : Cond.code mX12_quarrel.1 mX12_quarrel.2.1 mX12_quarrel.2.2.1 mX12_quarrel.2.2.2 ∈ sm_G := sm_t7 39 rfl rfl
theorem cvL_175 {M : sm_M} (hM : M.1.cls = RL) : sm_cV M mX12_quarrel 175 0 12 57 RX12 TX12 tyX12 := by
  refine ⟨kX12, rfl, ⟨by decide, by decide, by decide +kernel⟩, ?_, wiX12_quarrel, wvX12_quarrel, wIX12, wcX12_quarrel⟩
  rw [hM]; exact wmL_175
theorem wmL_176 : Cond.methodLink RL 176 yX11_keep ∈ sm_G := sm_t5 23 rfl rfl
theorem wiX11_keep : Cond.instanceMethod yX11_keep ∈ sm_G := sm_t5 24 rfl rfl
theorem wvX11_keep : Cond.selects RX11 yX11_keep yX11_keep ∈ sm_G := sm_t5 25 rfl rfl
theorem wcX11_keep : Cond.code mX11_keep.1 mX11_keep.2.1 mX11_keep.2.2.1 mX11_keep.2.2.2 ∈ sm_G := sm_t5 26 rfl rfl
theorem cvL_176 {M : sm_M} (hM : M.1.cls = RL) : sm_cV M mX11_keep 176 1 11 13 RX11 TX11 tyX11 := by
  refine ⟨kX11, rfl, ⟨by decide, by decide, by decide +kernel⟩, ?_, wiX11_keep, wvX11_keep, wIX11, wcX11_keep⟩
  rw [hM]; exact wmL_176
theorem wmL_179 : Cond.methodLink RL 179 yX12_keep ∈ sm_G := sm_t7 44 rfl rfl
theorem wiX12_keep : Cond.instanceMethod yX12_keep ∈ sm_G := sm_t7 45 rfl rfl
theorem wvX12_keep : Cond.selects RX12 yX12_keep yX12_keep ∈ sm_G := sm_t7 46 rfl rfl
theorem wcX12_keep : Cond.code mX12_keep.1 mX12_keep.2.1 mX12_keep.2.2.1 mX12_keep.2.2.2 ∈ sm_G := sm_t7 47 rfl rfl
theorem cvL_179 {M : sm_M} (hM : M.1.cls = RL) : sm_cV M mX12_keep 179 1 12 57 RX12 TX12 tyX12 := by
  refine ⟨kX12, rfl, ⟨by decide, by decide, by decide +kernel⟩, ?_, wiX12_keep, wvX12_keep, wIX12, wcX12_keep⟩
  rw [hM]; exact wmL_179
theorem wmL_180 : Cond.methodLink RL 180 yX11_again ∈ sm_G := sm_t5 27 rfl rfl
theorem wiX11_again : Cond.instanceMethod yX11_again ∈ sm_G := sm_t5 28 rfl rfl
theorem wvX11_again : Cond.selects RX11 yX11_again yX11_again ∈ sm_G := sm_t5 29 rfl rfl
theorem wcX11_again : Cond.code mX11_again.1 mX11_again.2.1 mX11_again.2.2.1 mX11_again.2.2.2 ∈ sm_G := sm_t5 30 rfl rfl
theorem cvL_180 {M : sm_M} (hM : M.1.cls = RL) : sm_cV M mX11_again 180 1 11 13 RX11 TX11 tyX11 := by
  refine ⟨kX11, rfl, ⟨by decide, by decide, by decide +kernel⟩, ?_, wiX11_again, wvX11_again, wIX11, wcX11_again⟩
  rw [hM]; exact wmL_180
theorem wmL_183 : Cond.methodLink RL 183 yX12_again ∈ sm_G := sm_t7 49 rfl rfl
theorem wiX12_again : Cond.instanceMethod yX12_again ∈ sm_G := sm_t7 50 rfl rfl
theorem wvX12_again : Cond.selects RX12 yX12_again yX12_again ∈ sm_G := sm_t7 51 rfl rfl
theorem wcX12_again : Cond.code mX12_again.1 mX12_again.2.1 mX12_again.2.2.1 mX12_again.2.2.2 ∈ sm_G := sm_t7 52 rfl rfl
theorem cvL_183 {M : sm_M} (hM : M.1.cls = RL) : sm_cV M mX12_again 183 1 12 57 RX12 TX12 tyX12 := by
  refine ⟨kX12, rfl, ⟨by decide, by decide, by decide +kernel⟩, ?_, wiX12_again, wvX12_again, wIX12, wcX12_again⟩
  rw [hM]; exact wmL_183
theorem wmL_184 : Cond.methodLink RL 184 yX11_count ∈ sm_G := sm_t5 31 rfl rfl
theorem wiX11_count : Cond.instanceMethod yX11_count ∈ sm_G := sm_t5 32 rfl rfl
theorem wvX11_count : Cond.selects RX11 yX11_count yX11_count ∈ sm_G := sm_t5 33 rfl rfl
theorem wcX11_count : Cond.code mX11_count.1 mX11_count.2.1 mX11_count.2.2.1 mX11_count.2.2.2 ∈ sm_G := sm_t5 34 rfl rfl
theorem cvL_184 {M : sm_M} (hM : M.1.cls = RL) : sm_cV M mX11_count 184 1 11 13 RX11 TX11 tyX11 := by
  refine ⟨kX11, rfl, ⟨by decide, by decide, by decide +kernel⟩, ?_, wiX11_count, wvX11_count, wIX11, wcX11_count⟩
  rw [hM]; exact wmL_184
theorem wmL_187 : Cond.methodLink RL 187 yX12_count ∈ sm_G := sm_t7 53 rfl rfl
theorem wiX12_count : Cond.instanceMethod yX12_count ∈ sm_G := sm_t7 54 rfl rfl
theorem wvX12_count : Cond.selects RX12 yX12_count yX12_count ∈ sm_G := sm_t7 55 rfl rfl
theorem wcX12_count : Cond.code mX12_count.1 mX12_count.2.1 mX12_count.2.2.1 mX12_count.2.2.2 ∈ sm_G := sm_t7 56 rfl rfl
theorem cvL_187 {M : sm_M} (hM : M.1.cls = RL) : sm_cV M mX12_count 187 1 12 57 RX12 TX12 tyX12 := by
  refine ⟨kX12, rfl, ⟨by decide, by decide, by decide +kernel⟩, ?_, wiX12_count, wvX12_count, wIX12, wcX12_count⟩
  rw [hM]; exact wmL_187
theorem wmL_188 : Cond.methodLink RL 188 yL_row ∈ sm_G := sm_t5 118 rfl rfl
theorem wsL_row : Cond.static yL_row ∈ sm_G := sm_t5 119 rfl rfl
theorem wmL_190 : Cond.methodLink RL 190 yX12_row ∈ sm_G := sm_t7 235 rfl rfl
theorem wiX12_row : Cond.instanceMethod yX12_row ∈ sm_G := sm_t7 236 rfl rfl
theorem wvX12_row : Cond.selects RX12 yX12_row yX12_row ∈ sm_G := sm_t7 237 rfl rfl
theorem wcX12_row : Cond.code mX12_row.1 mX12_row.2.1 mX12_row.2.2.1 mX12_row.2.2.2 ∈ sm_G := sm_t7 238 rfl rfl
theorem cvL_190 {M : sm_M} (hM : M.1.cls = RL) : sm_cV M mX12_row 190 1 12 57 RX12 TX12 tyX12 := by
  refine ⟨kX12, rfl, ⟨by decide, by decide, by decide +kernel⟩, ?_, wiX12_row, wvX12_row, wIX12, wcX12_row⟩
  rw [hM]; exact wmL_190
def sm_ML (nm : String) : sm_M := (⟨RL, nm, "([I)Z"⟩, cL_law, 7, some .boolean)
theorem bgX11_hedge_0 : sm_Sd mX11_hedge 8 0 5 (sm_run [i_al 0, i_gfr 11 13 1, i_il 1]) := sm_Sd.cons (sd_aload_n (i := 0) dX11_hedge_0 rfl) (sm_Sd.cons (sd_gfr (k := 1) kX11 dX11_hedge_1 (by decide) rfl wfX11_19) (sm_Sd.cons (sd_iload_n (i := 1) dX11_hedge_4 rfl) (sm_Sd.nil)))
theorem bgX11_hedge_11 : sm_Sd mX11_hedge 8 11 12 (sm_run [i_il 2]) := sm_Sd.cons (sd_iload_n (i := 2) dX11_hedge_11 rfl) (sm_Sd.nil)
theorem bgX11_hedge_15 : sm_Sd mX11_hedge 8 15 18 (sm_run [i_il 2, i_c (.int (8 : Int32))]) := sm_Sd.cons (sd_iload_n (i := 2) dX11_hedge_15 rfl) (sm_Sd.cons (sd_bipush dX11_hedge_16 (by decide)) (sm_Sd.nil))
theorem bgX11_reach_0 : sm_Sd mX11_reach 8 0 7 (sm_run [i_al 0, i_gfr 11 13 1, i_gfi 2 14 0]) := sm_Sd.cons (sd_aload_n (i := 0) dX11_reach_0 rfl) (sm_Sd.cons (sd_gfr (k := 1) kX11 dX11_reach_1 (by decide) rfl wfX11_19) (sm_Sd.cons (sd_gfi (k := 0) kX2 dX11_reach_4 (by decide) rfl wfX11_270) (sm_Sd.nil)))
theorem bgX11_reach_10 : sm_Sd mX11_reach 8 10 12 (sm_run [i_il 1, i_c (.int (-1 : Int32))]) := sm_Sd.cons (sd_iload_n (i := 1) dX11_reach_10 rfl) (sm_Sd.cons (sd_iconst dX11_reach_11 (by decide)) (sm_Sd.nil))
theorem bgX11_reach_15 : sm_Sd mX11_reach 8 15 20 (sm_run [i_al 0, i_gfr 11 13 1, i_il 1]) := sm_Sd.cons (sd_aload_n (i := 0) dX11_reach_15 rfl) (sm_Sd.cons (sd_gfr (k := 1) kX11 dX11_reach_16 (by decide) rfl wfX11_19) (sm_Sd.cons (sd_iload_n (i := 1) dX11_reach_19 rfl) (sm_Sd.nil)))
theorem bgX11_row_0 : sm_Sd mX11_row 8 0 1 (sm_run [i_il 1]) := sm_Sd.cons (sd_iload_n (i := 1) dX11_row_0 rfl) (sm_Sd.nil)
theorem bgX11_row_4 : sm_Sd mX11_row 8 4 12 (sm_run [i_il 1, i_al 0, i_gfr 11 13 2, i_gfi 5 2 1]) := sm_Sd.cons (sd_iload_n (i := 1) dX11_row_4 rfl) (sm_Sd.cons (sd_aload_n (i := 0) dX11_row_5 rfl) (sm_Sd.cons (sd_gfr (k := 2) kX11 dX11_row_6 (by decide) rfl wfX11_26) (sm_Sd.cons (sd_gfi (k := 1) kX5 dX11_row_9 (by decide) rfl wfX11_374) (sm_Sd.nil))))
theorem bL_law_23 {nm : String} : sm_Sd (sm_ML nm) 20 23 26 (sm_run [i_il 4, i_al 0]) := sm_Sd.cons (sd_iload dL_law_23) (sm_Sd.cons (sd_aload_n (i := 0) dL_law_25 rfl) (sm_Sd.nil))
theorem bL_law_27 {nm : String} : sm_Sd (sm_ML nm) 20 27 29 (sm_run [i_c (.int (5 : Int32)), i_o2 (fun x y => x - y)]) := sm_Sd.cons (sd_iconst dL_law_27 (by first | decide | (show _ < 7; decide))) (sm_Sd.cons (sd_isub dL_law_28) (sm_Sd.nil))
theorem bL_law_1167 {nm : String} : sm_Sd (sm_ML nm) 20 1167 1168 (sm_run [i_c (.int (1 : Int32))]) := sm_Sd.cons (sd_iconst dL_law_1167 (by first | decide | (show _ < 7; decide))) (sm_Sd.nil)
theorem bL_law_32 {nm : String} : sm_Sd (sm_ML nm) 20 32 35 (sm_run [i_al 0, i_il 4]) := sm_Sd.cons (sd_aload_n (i := 0) dL_law_32 rfl) (sm_Sd.cons (sd_iload dL_law_33) (sm_Sd.nil))
theorem bL_law_36 {nm : String} : sm_Sd (sm_ML nm) 20 36 39 (sm_run [i_c (.int (63 : Int32)), i_o2 (fun x y => x &&& y)]) := sm_Sd.cons (sd_bipush dL_law_36 (by first | decide | (show _ < 7; decide))) (sm_Sd.cons (sd_iand dL_law_38) (sm_Sd.nil))
theorem bL_law_212 {nm : String} : sm_Sd (sm_ML nm) 20 212 218 (sm_run [i_al 1, i_al 0, i_il 4, i_c (.int (1 : Int32)), i_o2 (fun x y => x + y)]) := sm_Sd.cons (sd_aload_n (i := 1) dL_law_212 rfl) (sm_Sd.cons (sd_aload_n (i := 0) dL_law_213 rfl) (sm_Sd.cons (sd_iload dL_law_214) (sm_Sd.cons (sd_iconst dL_law_216 (by first | decide | (show _ < 7; decide))) (sm_Sd.cons (sd_iadd dL_law_217) (sm_Sd.nil)))))
theorem bL_law_222 {nm : String} : sm_Sd (sm_ML nm) 20 222 229 (sm_run [i_pop, i_al 2, i_al 0, i_il 4, i_c (.int (1 : Int32)), i_o2 (fun x y => x + y)]) := sm_Sd.cons (sd_pop dL_law_222) (sm_Sd.cons (sd_aload_n (i := 2) dL_law_223 rfl) (sm_Sd.cons (sd_aload_n (i := 0) dL_law_224 rfl) (sm_Sd.cons (sd_iload dL_law_225) (sm_Sd.cons (sd_iconst dL_law_227 (by first | decide | (show _ < 7; decide))) (sm_Sd.cons (sd_iadd dL_law_228) (sm_Sd.nil))))))
theorem bL_law_233 {nm : String} : sm_Sd (sm_ML nm) 20 233 234 (sm_run [i_pop]) := sm_Sd.cons (sd_pop dL_law_233) (sm_Sd.nil)
theorem bL_law_1161 {nm : String} : sm_Sd (sm_ML nm) 20 1161 1164 (sm_run [i_inc 4 (5 : Int32)]) := sm_Sd.cons (sd_iinc dL_law_1161 (by first | decide | (show _ < 7; decide)) (by first | decide | (show _ < 7; decide))) (sm_Sd.nil)
theorem bL_law_237 {nm : String} : sm_Sd (sm_ML nm) 20 237 243 (sm_run [i_al 1, i_al 0, i_il 4, i_c (.int (1 : Int32)), i_o2 (fun x y => x + y)]) := sm_Sd.cons (sd_aload_n (i := 1) dL_law_237 rfl) (sm_Sd.cons (sd_aload_n (i := 0) dL_law_238 rfl) (sm_Sd.cons (sd_iload dL_law_239) (sm_Sd.cons (sd_iconst dL_law_241 (by first | decide | (show _ < 7; decide))) (sm_Sd.cons (sd_iadd dL_law_242) (sm_Sd.nil)))))
theorem bL_law_247 {nm : String} : sm_Sd (sm_ML nm) 20 247 254 (sm_run [i_pop, i_al 2, i_al 0, i_il 4, i_c (.int (1 : Int32)), i_o2 (fun x y => x + y)]) := sm_Sd.cons (sd_pop dL_law_247) (sm_Sd.cons (sd_aload_n (i := 2) dL_law_248 rfl) (sm_Sd.cons (sd_aload_n (i := 0) dL_law_249 rfl) (sm_Sd.cons (sd_iload dL_law_250) (sm_Sd.cons (sd_iconst dL_law_252 (by first | decide | (show _ < 7; decide))) (sm_Sd.cons (sd_iadd dL_law_253) (sm_Sd.nil))))))
theorem bL_law_258 {nm : String} : sm_Sd (sm_ML nm) 20 258 259 (sm_run [i_pop]) := sm_Sd.cons (sd_pop dL_law_258) (sm_Sd.nil)
theorem bL_law_262 {nm : String} : sm_Sd (sm_ML nm) 20 262 263 (sm_run [i_al 1]) := sm_Sd.cons (sd_aload_n (i := 1) dL_law_262 rfl) (sm_Sd.nil)
theorem bL_law_266 {nm : String} : sm_Sd (sm_ML nm) 20 266 268 (sm_run [i_pop, i_al 2]) := sm_Sd.cons (sd_pop dL_law_266) (sm_Sd.cons (sd_aload_n (i := 2) dL_law_267 rfl) (sm_Sd.nil))
theorem bL_law_271 {nm : String} : sm_Sd (sm_ML nm) 20 271 272 (sm_run [i_pop]) := sm_Sd.cons (sd_pop dL_law_271) (sm_Sd.nil)
theorem bL_law_275 {nm : String} : sm_Sd (sm_ML nm) 20 275 281 (sm_run [i_al 1, i_al 0, i_il 4, i_c (.int (1 : Int32)), i_o2 (fun x y => x + y)]) := sm_Sd.cons (sd_aload_n (i := 1) dL_law_275 rfl) (sm_Sd.cons (sd_aload_n (i := 0) dL_law_276 rfl) (sm_Sd.cons (sd_iload dL_law_277) (sm_Sd.cons (sd_iconst dL_law_279 (by first | decide | (show _ < 7; decide))) (sm_Sd.cons (sd_iadd dL_law_280) (sm_Sd.nil)))))
theorem bL_law_282 {nm : String} : sm_Sd (sm_ML nm) 20 282 287 (sm_run [i_al 0, i_il 4, i_c (.int (2 : Int32)), i_o2 (fun x y => x + y)]) := sm_Sd.cons (sd_aload_n (i := 0) dL_law_282 rfl) (sm_Sd.cons (sd_iload dL_law_283) (sm_Sd.cons (sd_iconst dL_law_285 (by first | decide | (show _ < 7; decide))) (sm_Sd.cons (sd_iadd dL_law_286) (sm_Sd.nil))))
theorem bL_law_288 {nm : String} : sm_Sd (sm_ML nm) 20 288 289 (sm_run [i_al 3]) := sm_Sd.cons (sd_aload_n (i := 3) dL_law_288 rfl) (sm_Sd.nil)
theorem bL_law_292 {nm : String} : sm_Sd (sm_ML nm) 20 292 300 (sm_run [i_is 5, i_al 2, i_al 0, i_il 4, i_c (.int (1 : Int32)), i_o2 (fun x y => x + y)]) := sm_Sd.cons (sd_istore dL_law_292 (by first | decide | (show _ < 7; decide))) (sm_Sd.cons (sd_aload_n (i := 2) dL_law_294 rfl) (sm_Sd.cons (sd_aload_n (i := 0) dL_law_295 rfl) (sm_Sd.cons (sd_iload dL_law_296) (sm_Sd.cons (sd_iconst dL_law_298 (by first | decide | (show _ < 7; decide))) (sm_Sd.cons (sd_iadd dL_law_299) (sm_Sd.nil))))))
theorem bL_law_301 {nm : String} : sm_Sd (sm_ML nm) 20 301 306 (sm_run [i_al 0, i_il 4, i_c (.int (2 : Int32)), i_o2 (fun x y => x + y)]) := sm_Sd.cons (sd_aload_n (i := 0) dL_law_301 rfl) (sm_Sd.cons (sd_iload dL_law_302) (sm_Sd.cons (sd_iconst dL_law_304 (by first | decide | (show _ < 7; decide))) (sm_Sd.cons (sd_iadd dL_law_305) (sm_Sd.nil))))
theorem bL_law_310 {nm : String} : sm_Sd (sm_ML nm) 20 310 312 (sm_run [i_is 6]) := sm_Sd.cons (sd_istore dL_law_310 (by first | decide | (show _ < 7; decide))) (sm_Sd.nil)
theorem bL_law_315 {nm : String} : sm_Sd (sm_ML nm) 20 315 321 (sm_run [i_al 1, i_al 0, i_il 4, i_c (.int (1 : Int32)), i_o2 (fun x y => x + y)]) := sm_Sd.cons (sd_aload_n (i := 1) dL_law_315 rfl) (sm_Sd.cons (sd_aload_n (i := 0) dL_law_316 rfl) (sm_Sd.cons (sd_iload dL_law_317) (sm_Sd.cons (sd_iconst dL_law_319 (by first | decide | (show _ < 7; decide))) (sm_Sd.cons (sd_iadd dL_law_320) (sm_Sd.nil)))))
theorem bL_law_322 {nm : String} : sm_Sd (sm_ML nm) 20 322 327 (sm_run [i_al 0, i_il 4, i_c (.int (2 : Int32)), i_o2 (fun x y => x + y)]) := sm_Sd.cons (sd_aload_n (i := 0) dL_law_322 rfl) (sm_Sd.cons (sd_iload dL_law_323) (sm_Sd.cons (sd_iconst dL_law_325 (by first | decide | (show _ < 7; decide))) (sm_Sd.cons (sd_iadd dL_law_326) (sm_Sd.nil))))
theorem bL_law_331 {nm : String} : sm_Sd (sm_ML nm) 20 331 338 (sm_run [i_pop, i_al 2, i_al 0, i_il 4, i_c (.int (1 : Int32)), i_o2 (fun x y => x + y)]) := sm_Sd.cons (sd_pop dL_law_331) (sm_Sd.cons (sd_aload_n (i := 2) dL_law_332 rfl) (sm_Sd.cons (sd_aload_n (i := 0) dL_law_333 rfl) (sm_Sd.cons (sd_iload dL_law_334) (sm_Sd.cons (sd_iconst dL_law_336 (by first | decide | (show _ < 7; decide))) (sm_Sd.cons (sd_iadd dL_law_337) (sm_Sd.nil))))))
theorem bL_law_339 {nm : String} : sm_Sd (sm_ML nm) 20 339 344 (sm_run [i_al 0, i_il 4, i_c (.int (2 : Int32)), i_o2 (fun x y => x + y)]) := sm_Sd.cons (sd_aload_n (i := 0) dL_law_339 rfl) (sm_Sd.cons (sd_iload dL_law_340) (sm_Sd.cons (sd_iconst dL_law_342 (by first | decide | (show _ < 7; decide))) (sm_Sd.cons (sd_iadd dL_law_343) (sm_Sd.nil))))
theorem bL_law_348 {nm : String} : sm_Sd (sm_ML nm) 20 348 349 (sm_run [i_pop]) := sm_Sd.cons (sd_pop dL_law_348) (sm_Sd.nil)
theorem bL_law_352 {nm : String} : sm_Sd (sm_ML nm) 20 352 358 (sm_run [i_al 1, i_al 0, i_il 4, i_c (.int (1 : Int32)), i_o2 (fun x y => x + y)]) := sm_Sd.cons (sd_aload_n (i := 1) dL_law_352 rfl) (sm_Sd.cons (sd_aload_n (i := 0) dL_law_353 rfl) (sm_Sd.cons (sd_iload dL_law_354) (sm_Sd.cons (sd_iconst dL_law_356 (by first | decide | (show _ < 7; decide))) (sm_Sd.cons (sd_iadd dL_law_357) (sm_Sd.nil)))))
theorem bL_law_359 {nm : String} : sm_Sd (sm_ML nm) 20 359 364 (sm_run [i_al 0, i_il 4, i_c (.int (2 : Int32)), i_o2 (fun x y => x + y)]) := sm_Sd.cons (sd_aload_n (i := 0) dL_law_359 rfl) (sm_Sd.cons (sd_iload dL_law_360) (sm_Sd.cons (sd_iconst dL_law_362 (by first | decide | (show _ < 7; decide))) (sm_Sd.cons (sd_iadd dL_law_363) (sm_Sd.nil))))
theorem bL_law_365 {nm : String} : sm_Sd (sm_ML nm) 20 365 370 (sm_run [i_al 0, i_il 4, i_c (.int (3 : Int32)), i_o2 (fun x y => x + y)]) := sm_Sd.cons (sd_aload_n (i := 0) dL_law_365 rfl) (sm_Sd.cons (sd_iload dL_law_366) (sm_Sd.cons (sd_iconst dL_law_368 (by first | decide | (show _ < 7; decide))) (sm_Sd.cons (sd_iadd dL_law_369) (sm_Sd.nil))))
theorem bL_law_374 {nm : String} : sm_Sd (sm_ML nm) 20 374 381 (sm_run [i_pop, i_al 2, i_al 0, i_il 4, i_c (.int (1 : Int32)), i_o2 (fun x y => x + y)]) := sm_Sd.cons (sd_pop dL_law_374) (sm_Sd.cons (sd_aload_n (i := 2) dL_law_375 rfl) (sm_Sd.cons (sd_aload_n (i := 0) dL_law_376 rfl) (sm_Sd.cons (sd_iload dL_law_377) (sm_Sd.cons (sd_iconst dL_law_379 (by first | decide | (show _ < 7; decide))) (sm_Sd.cons (sd_iadd dL_law_380) (sm_Sd.nil))))))
theorem bL_law_382 {nm : String} : sm_Sd (sm_ML nm) 20 382 387 (sm_run [i_al 0, i_il 4, i_c (.int (2 : Int32)), i_o2 (fun x y => x + y)]) := sm_Sd.cons (sd_aload_n (i := 0) dL_law_382 rfl) (sm_Sd.cons (sd_iload dL_law_383) (sm_Sd.cons (sd_iconst dL_law_385 (by first | decide | (show _ < 7; decide))) (sm_Sd.cons (sd_iadd dL_law_386) (sm_Sd.nil))))
theorem bL_law_388 {nm : String} : sm_Sd (sm_ML nm) 20 388 393 (sm_run [i_al 0, i_il 4, i_c (.int (3 : Int32)), i_o2 (fun x y => x + y)]) := sm_Sd.cons (sd_aload_n (i := 0) dL_law_388 rfl) (sm_Sd.cons (sd_iload dL_law_389) (sm_Sd.cons (sd_iconst dL_law_391 (by first | decide | (show _ < 7; decide))) (sm_Sd.cons (sd_iadd dL_law_392) (sm_Sd.nil))))
theorem bL_law_397 {nm : String} : sm_Sd (sm_ML nm) 20 397 398 (sm_run [i_pop]) := sm_Sd.cons (sd_pop dL_law_397) (sm_Sd.nil)
theorem bL_law_401 {nm : String} : sm_Sd (sm_ML nm) 20 401 407 (sm_run [i_al 1, i_al 0, i_il 4, i_c (.int (1 : Int32)), i_o2 (fun x y => x + y)]) := sm_Sd.cons (sd_aload_n (i := 1) dL_law_401 rfl) (sm_Sd.cons (sd_aload_n (i := 0) dL_law_402 rfl) (sm_Sd.cons (sd_iload dL_law_403) (sm_Sd.cons (sd_iconst dL_law_405 (by first | decide | (show _ < 7; decide))) (sm_Sd.cons (sd_iadd dL_law_406) (sm_Sd.nil)))))
theorem bL_law_408 {nm : String} : sm_Sd (sm_ML nm) 20 408 413 (sm_run [i_al 0, i_il 4, i_c (.int (2 : Int32)), i_o2 (fun x y => x + y)]) := sm_Sd.cons (sd_aload_n (i := 0) dL_law_408 rfl) (sm_Sd.cons (sd_iload dL_law_409) (sm_Sd.cons (sd_iconst dL_law_411 (by first | decide | (show _ < 7; decide))) (sm_Sd.cons (sd_iadd dL_law_412) (sm_Sd.nil))))
theorem bL_law_414 {nm : String} : sm_Sd (sm_ML nm) 20 414 419 (sm_run [i_al 0, i_il 4, i_c (.int (3 : Int32)), i_o2 (fun x y => x + y)]) := sm_Sd.cons (sd_aload_n (i := 0) dL_law_414 rfl) (sm_Sd.cons (sd_iload dL_law_415) (sm_Sd.cons (sd_iconst dL_law_417 (by first | decide | (show _ < 7; decide))) (sm_Sd.cons (sd_iadd dL_law_418) (sm_Sd.nil))))
theorem bL_law_420 {nm : String} : sm_Sd (sm_ML nm) 20 420 425 (sm_run [i_al 0, i_il 4, i_c (.int (4 : Int32)), i_o2 (fun x y => x + y)]) := sm_Sd.cons (sd_aload_n (i := 0) dL_law_420 rfl) (sm_Sd.cons (sd_iload dL_law_421) (sm_Sd.cons (sd_iconst dL_law_423 (by first | decide | (show _ < 7; decide))) (sm_Sd.cons (sd_iadd dL_law_424) (sm_Sd.nil))))
theorem bL_law_429 {nm : String} : sm_Sd (sm_ML nm) 20 429 436 (sm_run [i_pop, i_al 2, i_al 0, i_il 4, i_c (.int (1 : Int32)), i_o2 (fun x y => x + y)]) := sm_Sd.cons (sd_pop dL_law_429) (sm_Sd.cons (sd_aload_n (i := 2) dL_law_430 rfl) (sm_Sd.cons (sd_aload_n (i := 0) dL_law_431 rfl) (sm_Sd.cons (sd_iload dL_law_432) (sm_Sd.cons (sd_iconst dL_law_434 (by first | decide | (show _ < 7; decide))) (sm_Sd.cons (sd_iadd dL_law_435) (sm_Sd.nil))))))
theorem bL_law_437 {nm : String} : sm_Sd (sm_ML nm) 20 437 442 (sm_run [i_al 0, i_il 4, i_c (.int (2 : Int32)), i_o2 (fun x y => x + y)]) := sm_Sd.cons (sd_aload_n (i := 0) dL_law_437 rfl) (sm_Sd.cons (sd_iload dL_law_438) (sm_Sd.cons (sd_iconst dL_law_440 (by first | decide | (show _ < 7; decide))) (sm_Sd.cons (sd_iadd dL_law_441) (sm_Sd.nil))))
theorem bL_law_443 {nm : String} : sm_Sd (sm_ML nm) 20 443 448 (sm_run [i_al 0, i_il 4, i_c (.int (3 : Int32)), i_o2 (fun x y => x + y)]) := sm_Sd.cons (sd_aload_n (i := 0) dL_law_443 rfl) (sm_Sd.cons (sd_iload dL_law_444) (sm_Sd.cons (sd_iconst dL_law_446 (by first | decide | (show _ < 7; decide))) (sm_Sd.cons (sd_iadd dL_law_447) (sm_Sd.nil))))
theorem bL_law_449 {nm : String} : sm_Sd (sm_ML nm) 20 449 454 (sm_run [i_al 0, i_il 4, i_c (.int (4 : Int32)), i_o2 (fun x y => x + y)]) := sm_Sd.cons (sd_aload_n (i := 0) dL_law_449 rfl) (sm_Sd.cons (sd_iload dL_law_450) (sm_Sd.cons (sd_iconst dL_law_452 (by first | decide | (show _ < 7; decide))) (sm_Sd.cons (sd_iadd dL_law_453) (sm_Sd.nil))))
theorem bL_law_458 {nm : String} : sm_Sd (sm_ML nm) 20 458 459 (sm_run [i_pop]) := sm_Sd.cons (sd_pop dL_law_458) (sm_Sd.nil)
theorem bL_law_462 {nm : String} : sm_Sd (sm_ML nm) 20 462 468 (sm_run [i_al 1, i_al 0, i_il 4, i_c (.int (1 : Int32)), i_o2 (fun x y => x + y)]) := sm_Sd.cons (sd_aload_n (i := 1) dL_law_462 rfl) (sm_Sd.cons (sd_aload_n (i := 0) dL_law_463 rfl) (sm_Sd.cons (sd_iload dL_law_464) (sm_Sd.cons (sd_iconst dL_law_466 (by first | decide | (show _ < 7; decide))) (sm_Sd.cons (sd_iadd dL_law_467) (sm_Sd.nil)))))
theorem bL_law_472 {nm : String} : sm_Sd (sm_ML nm) 20 472 479 (sm_run [i_pop, i_al 2, i_al 0, i_il 4, i_c (.int (1 : Int32)), i_o2 (fun x y => x + y)]) := sm_Sd.cons (sd_pop dL_law_472) (sm_Sd.cons (sd_aload_n (i := 2) dL_law_473 rfl) (sm_Sd.cons (sd_aload_n (i := 0) dL_law_474 rfl) (sm_Sd.cons (sd_iload dL_law_475) (sm_Sd.cons (sd_iconst dL_law_477 (by first | decide | (show _ < 7; decide))) (sm_Sd.cons (sd_iadd dL_law_478) (sm_Sd.nil))))))
theorem bL_law_483 {nm : String} : sm_Sd (sm_ML nm) 20 483 484 (sm_run [i_pop]) := sm_Sd.cons (sd_pop dL_law_483) (sm_Sd.nil)
theorem bL_law_487 {nm : String} : sm_Sd (sm_ML nm) 20 487 493 (sm_run [i_al 1, i_al 0, i_il 4, i_c (.int (1 : Int32)), i_o2 (fun x y => x + y)]) := sm_Sd.cons (sd_aload_n (i := 1) dL_law_487 rfl) (sm_Sd.cons (sd_aload_n (i := 0) dL_law_488 rfl) (sm_Sd.cons (sd_iload dL_law_489) (sm_Sd.cons (sd_iconst dL_law_491 (by first | decide | (show _ < 7; decide))) (sm_Sd.cons (sd_iadd dL_law_492) (sm_Sd.nil)))))
theorem bL_law_497 {nm : String} : sm_Sd (sm_ML nm) 20 497 504 (sm_run [i_pop, i_al 2, i_al 0, i_il 4, i_c (.int (1 : Int32)), i_o2 (fun x y => x + y)]) := sm_Sd.cons (sd_pop dL_law_497) (sm_Sd.cons (sd_aload_n (i := 2) dL_law_498 rfl) (sm_Sd.cons (sd_aload_n (i := 0) dL_law_499 rfl) (sm_Sd.cons (sd_iload dL_law_500) (sm_Sd.cons (sd_iconst dL_law_502 (by first | decide | (show _ < 7; decide))) (sm_Sd.cons (sd_iadd dL_law_503) (sm_Sd.nil))))))
theorem bL_law_508 {nm : String} : sm_Sd (sm_ML nm) 20 508 509 (sm_run [i_pop]) := sm_Sd.cons (sd_pop dL_law_508) (sm_Sd.nil)
theorem bL_law_512 {nm : String} : sm_Sd (sm_ML nm) 20 512 513 (sm_run [i_al 1]) := sm_Sd.cons (sd_aload_n (i := 1) dL_law_512 rfl) (sm_Sd.nil)
theorem bL_law_516 {nm : String} : sm_Sd (sm_ML nm) 20 516 518 (sm_run [i_pop, i_al 2]) := sm_Sd.cons (sd_pop dL_law_516) (sm_Sd.cons (sd_aload_n (i := 2) dL_law_517 rfl) (sm_Sd.nil))
theorem bL_law_521 {nm : String} : sm_Sd (sm_ML nm) 20 521 522 (sm_run [i_pop]) := sm_Sd.cons (sd_pop dL_law_521) (sm_Sd.nil)
theorem bL_law_525 {nm : String} : sm_Sd (sm_ML nm) 20 525 531 (sm_run [i_al 1, i_al 0, i_il 4, i_c (.int (1 : Int32)), i_o2 (fun x y => x + y)]) := sm_Sd.cons (sd_aload_n (i := 1) dL_law_525 rfl) (sm_Sd.cons (sd_aload_n (i := 0) dL_law_526 rfl) (sm_Sd.cons (sd_iload dL_law_527) (sm_Sd.cons (sd_iconst dL_law_529 (by first | decide | (show _ < 7; decide))) (sm_Sd.cons (sd_iadd dL_law_530) (sm_Sd.nil)))))
theorem bL_law_535 {nm : String} : sm_Sd (sm_ML nm) 20 535 542 (sm_run [i_pop, i_al 2, i_al 0, i_il 4, i_c (.int (1 : Int32)), i_o2 (fun x y => x + y)]) := sm_Sd.cons (sd_pop dL_law_535) (sm_Sd.cons (sd_aload_n (i := 2) dL_law_536 rfl) (sm_Sd.cons (sd_aload_n (i := 0) dL_law_537 rfl) (sm_Sd.cons (sd_iload dL_law_538) (sm_Sd.cons (sd_iconst dL_law_540 (by first | decide | (show _ < 7; decide))) (sm_Sd.cons (sd_iadd dL_law_541) (sm_Sd.nil))))))
theorem bL_law_546 {nm : String} : sm_Sd (sm_ML nm) 20 546 547 (sm_run [i_pop]) := sm_Sd.cons (sd_pop dL_law_546) (sm_Sd.nil)
theorem bL_law_550 {nm : String} : sm_Sd (sm_ML nm) 20 550 551 (sm_run [i_al 1]) := sm_Sd.cons (sd_aload_n (i := 1) dL_law_550 rfl) (sm_Sd.nil)
theorem bL_law_554 {nm : String} : sm_Sd (sm_ML nm) 20 554 556 (sm_run [i_pop, i_al 2]) := sm_Sd.cons (sd_pop dL_law_554) (sm_Sd.cons (sd_aload_n (i := 2) dL_law_555 rfl) (sm_Sd.nil))
theorem bL_law_559 {nm : String} : sm_Sd (sm_ML nm) 20 559 560 (sm_run [i_pop]) := sm_Sd.cons (sd_pop dL_law_559) (sm_Sd.nil)
theorem bL_law_563 {nm : String} : sm_Sd (sm_ML nm) 20 563 569 (sm_run [i_al 1, i_al 0, i_il 4, i_c (.int (1 : Int32)), i_o2 (fun x y => x + y)]) := sm_Sd.cons (sd_aload_n (i := 1) dL_law_563 rfl) (sm_Sd.cons (sd_aload_n (i := 0) dL_law_564 rfl) (sm_Sd.cons (sd_iload dL_law_565) (sm_Sd.cons (sd_iconst dL_law_567 (by first | decide | (show _ < 7; decide))) (sm_Sd.cons (sd_iadd dL_law_568) (sm_Sd.nil)))))
theorem bL_law_573 {nm : String} : sm_Sd (sm_ML nm) 20 573 580 (sm_run [i_pop, i_al 2, i_al 0, i_il 4, i_c (.int (1 : Int32)), i_o2 (fun x y => x + y)]) := sm_Sd.cons (sd_pop dL_law_573) (sm_Sd.cons (sd_aload_n (i := 2) dL_law_574 rfl) (sm_Sd.cons (sd_aload_n (i := 0) dL_law_575 rfl) (sm_Sd.cons (sd_iload dL_law_576) (sm_Sd.cons (sd_iconst dL_law_578 (by first | decide | (show _ < 7; decide))) (sm_Sd.cons (sd_iadd dL_law_579) (sm_Sd.nil))))))
theorem bL_law_584 {nm : String} : sm_Sd (sm_ML nm) 20 584 585 (sm_run [i_pop]) := sm_Sd.cons (sd_pop dL_law_584) (sm_Sd.nil)
theorem bL_law_588 {nm : String} : sm_Sd (sm_ML nm) 20 588 594 (sm_run [i_al 1, i_al 0, i_il 4, i_c (.int (1 : Int32)), i_o2 (fun x y => x + y)]) := sm_Sd.cons (sd_aload_n (i := 1) dL_law_588 rfl) (sm_Sd.cons (sd_aload_n (i := 0) dL_law_589 rfl) (sm_Sd.cons (sd_iload dL_law_590) (sm_Sd.cons (sd_iconst dL_law_592 (by first | decide | (show _ < 7; decide))) (sm_Sd.cons (sd_iadd dL_law_593) (sm_Sd.nil)))))
theorem bL_law_598 {nm : String} : sm_Sd (sm_ML nm) 20 598 605 (sm_run [i_pop, i_al 2, i_al 0, i_il 4, i_c (.int (1 : Int32)), i_o2 (fun x y => x + y)]) := sm_Sd.cons (sd_pop dL_law_598) (sm_Sd.cons (sd_aload_n (i := 2) dL_law_599 rfl) (sm_Sd.cons (sd_aload_n (i := 0) dL_law_600 rfl) (sm_Sd.cons (sd_iload dL_law_601) (sm_Sd.cons (sd_iconst dL_law_603 (by first | decide | (show _ < 7; decide))) (sm_Sd.cons (sd_iadd dL_law_604) (sm_Sd.nil))))))
theorem bL_law_609 {nm : String} : sm_Sd (sm_ML nm) 20 609 610 (sm_run [i_pop]) := sm_Sd.cons (sd_pop dL_law_609) (sm_Sd.nil)
theorem bL_law_613 {nm : String} : sm_Sd (sm_ML nm) 20 613 619 (sm_run [i_al 1, i_al 0, i_il 4, i_c (.int (1 : Int32)), i_o2 (fun x y => x + y)]) := sm_Sd.cons (sd_aload_n (i := 1) dL_law_613 rfl) (sm_Sd.cons (sd_aload_n (i := 0) dL_law_614 rfl) (sm_Sd.cons (sd_iload dL_law_615) (sm_Sd.cons (sd_iconst dL_law_617 (by first | decide | (show _ < 7; decide))) (sm_Sd.cons (sd_iadd dL_law_618) (sm_Sd.nil)))))
theorem bL_law_623 {nm : String} : sm_Sd (sm_ML nm) 20 623 630 (sm_run [i_pop, i_al 2, i_al 0, i_il 4, i_c (.int (1 : Int32)), i_o2 (fun x y => x + y)]) := sm_Sd.cons (sd_pop dL_law_623) (sm_Sd.cons (sd_aload_n (i := 2) dL_law_624 rfl) (sm_Sd.cons (sd_aload_n (i := 0) dL_law_625 rfl) (sm_Sd.cons (sd_iload dL_law_626) (sm_Sd.cons (sd_iconst dL_law_628 (by first | decide | (show _ < 7; decide))) (sm_Sd.cons (sd_iadd dL_law_629) (sm_Sd.nil))))))
theorem bL_law_634 {nm : String} : sm_Sd (sm_ML nm) 20 634 635 (sm_run [i_pop]) := sm_Sd.cons (sd_pop dL_law_634) (sm_Sd.nil)
theorem bL_law_638 {nm : String} : sm_Sd (sm_ML nm) 20 638 639 (sm_run [i_al 1]) := sm_Sd.cons (sd_aload_n (i := 1) dL_law_638 rfl) (sm_Sd.nil)
theorem bL_law_642 {nm : String} : sm_Sd (sm_ML nm) 20 642 643 (sm_run [i_al 2]) := sm_Sd.cons (sd_aload_n (i := 2) dL_law_642 rfl) (sm_Sd.nil)
theorem bL_law_649 {nm : String} : sm_Sd (sm_ML nm) 20 649 650 (sm_run [i_c (.int (0 : Int32))]) := sm_Sd.cons (sd_iconst dL_law_649 (by first | decide | (show _ < 7; decide))) (sm_Sd.nil)
theorem bL_law_651 {nm : String} : sm_Sd (sm_ML nm) 20 651 657 (sm_run [i_al 1, i_al 0, i_il 4, i_c (.int (1 : Int32)), i_o2 (fun x y => x + y)]) := sm_Sd.cons (sd_aload_n (i := 1) dL_law_651 rfl) (sm_Sd.cons (sd_aload_n (i := 0) dL_law_652 rfl) (sm_Sd.cons (sd_iload dL_law_653) (sm_Sd.cons (sd_iconst dL_law_655 (by first | decide | (show _ < 7; decide))) (sm_Sd.cons (sd_iadd dL_law_656) (sm_Sd.nil)))))
theorem bL_law_661 {nm : String} : sm_Sd (sm_ML nm) 20 661 668 (sm_run [i_pop, i_al 2, i_al 0, i_il 4, i_c (.int (1 : Int32)), i_o2 (fun x y => x + y)]) := sm_Sd.cons (sd_pop dL_law_661) (sm_Sd.cons (sd_aload_n (i := 2) dL_law_662 rfl) (sm_Sd.cons (sd_aload_n (i := 0) dL_law_663 rfl) (sm_Sd.cons (sd_iload dL_law_664) (sm_Sd.cons (sd_iconst dL_law_666 (by first | decide | (show _ < 7; decide))) (sm_Sd.cons (sd_iadd dL_law_667) (sm_Sd.nil))))))
theorem bL_law_672 {nm : String} : sm_Sd (sm_ML nm) 20 672 673 (sm_run [i_pop]) := sm_Sd.cons (sd_pop dL_law_672) (sm_Sd.nil)
theorem bL_law_676 {nm : String} : sm_Sd (sm_ML nm) 20 676 677 (sm_run [i_al 1]) := sm_Sd.cons (sd_aload_n (i := 1) dL_law_676 rfl) (sm_Sd.nil)
theorem bL_law_680 {nm : String} : sm_Sd (sm_ML nm) 20 680 682 (sm_run [i_pop, i_al 2]) := sm_Sd.cons (sd_pop dL_law_680) (sm_Sd.cons (sd_aload_n (i := 2) dL_law_681 rfl) (sm_Sd.nil))
theorem bL_law_685 {nm : String} : sm_Sd (sm_ML nm) 20 685 686 (sm_run [i_pop]) := sm_Sd.cons (sd_pop dL_law_685) (sm_Sd.nil)
theorem bL_law_689 {nm : String} : sm_Sd (sm_ML nm) 20 689 690 (sm_run [i_al 1]) := sm_Sd.cons (sd_aload_n (i := 1) dL_law_689 rfl) (sm_Sd.nil)
theorem bL_law_693 {nm : String} : sm_Sd (sm_ML nm) 20 693 695 (sm_run [i_pop, i_al 2]) := sm_Sd.cons (sd_pop dL_law_693) (sm_Sd.cons (sd_aload_n (i := 2) dL_law_694 rfl) (sm_Sd.nil))
theorem bL_law_698 {nm : String} : sm_Sd (sm_ML nm) 20 698 699 (sm_run [i_pop]) := sm_Sd.cons (sd_pop dL_law_698) (sm_Sd.nil)
theorem bL_law_702 {nm : String} : sm_Sd (sm_ML nm) 20 702 708 (sm_run [i_al 1, i_al 0, i_il 4, i_c (.int (1 : Int32)), i_o2 (fun x y => x + y)]) := sm_Sd.cons (sd_aload_n (i := 1) dL_law_702 rfl) (sm_Sd.cons (sd_aload_n (i := 0) dL_law_703 rfl) (sm_Sd.cons (sd_iload dL_law_704) (sm_Sd.cons (sd_iconst dL_law_706 (by first | decide | (show _ < 7; decide))) (sm_Sd.cons (sd_iadd dL_law_707) (sm_Sd.nil)))))
theorem bL_law_712 {nm : String} : sm_Sd (sm_ML nm) 20 712 719 (sm_run [i_pop, i_al 2, i_al 0, i_il 4, i_c (.int (1 : Int32)), i_o2 (fun x y => x + y)]) := sm_Sd.cons (sd_pop dL_law_712) (sm_Sd.cons (sd_aload_n (i := 2) dL_law_713 rfl) (sm_Sd.cons (sd_aload_n (i := 0) dL_law_714 rfl) (sm_Sd.cons (sd_iload dL_law_715) (sm_Sd.cons (sd_iconst dL_law_717 (by first | decide | (show _ < 7; decide))) (sm_Sd.cons (sd_iadd dL_law_718) (sm_Sd.nil))))))
theorem bL_law_723 {nm : String} : sm_Sd (sm_ML nm) 20 723 724 (sm_run [i_pop]) := sm_Sd.cons (sd_pop dL_law_723) (sm_Sd.nil)
theorem bL_law_727 {nm : String} : sm_Sd (sm_ML nm) 20 727 728 (sm_run [i_al 1]) := sm_Sd.cons (sd_aload_n (i := 1) dL_law_727 rfl) (sm_Sd.nil)
theorem bL_law_731 {nm : String} : sm_Sd (sm_ML nm) 20 731 733 (sm_run [i_pop, i_al 2]) := sm_Sd.cons (sd_pop dL_law_731) (sm_Sd.cons (sd_aload_n (i := 2) dL_law_732 rfl) (sm_Sd.nil))
theorem bL_law_736 {nm : String} : sm_Sd (sm_ML nm) 20 736 737 (sm_run [i_pop]) := sm_Sd.cons (sd_pop dL_law_736) (sm_Sd.nil)
theorem bL_law_740 {nm : String} : sm_Sd (sm_ML nm) 20 740 741 (sm_run [i_al 1]) := sm_Sd.cons (sd_aload_n (i := 1) dL_law_740 rfl) (sm_Sd.nil)
theorem bL_law_744 {nm : String} : sm_Sd (sm_ML nm) 20 744 746 (sm_run [i_pop, i_al 2]) := sm_Sd.cons (sd_pop dL_law_744) (sm_Sd.cons (sd_aload_n (i := 2) dL_law_745 rfl) (sm_Sd.nil))
theorem bL_law_749 {nm : String} : sm_Sd (sm_ML nm) 20 749 750 (sm_run [i_pop]) := sm_Sd.cons (sd_pop dL_law_749) (sm_Sd.nil)
theorem bL_law_753 {nm : String} : sm_Sd (sm_ML nm) 20 753 754 (sm_run [i_al 1]) := sm_Sd.cons (sd_aload_n (i := 1) dL_law_753 rfl) (sm_Sd.nil)
theorem bL_law_757 {nm : String} : sm_Sd (sm_ML nm) 20 757 759 (sm_run [i_pop, i_al 2]) := sm_Sd.cons (sd_pop dL_law_757) (sm_Sd.cons (sd_aload_n (i := 2) dL_law_758 rfl) (sm_Sd.nil))
theorem bL_law_762 {nm : String} : sm_Sd (sm_ML nm) 20 762 763 (sm_run [i_pop]) := sm_Sd.cons (sd_pop dL_law_762) (sm_Sd.nil)
theorem bL_law_766 {nm : String} : sm_Sd (sm_ML nm) 20 766 772 (sm_run [i_al 1, i_al 0, i_il 4, i_c (.int (1 : Int32)), i_o2 (fun x y => x + y)]) := sm_Sd.cons (sd_aload_n (i := 1) dL_law_766 rfl) (sm_Sd.cons (sd_aload_n (i := 0) dL_law_767 rfl) (sm_Sd.cons (sd_iload dL_law_768) (sm_Sd.cons (sd_iconst dL_law_770 (by first | decide | (show _ < 7; decide))) (sm_Sd.cons (sd_iadd dL_law_771) (sm_Sd.nil)))))
theorem bL_law_773 {nm : String} : sm_Sd (sm_ML nm) 20 773 778 (sm_run [i_al 0, i_il 4, i_c (.int (2 : Int32)), i_o2 (fun x y => x + y)]) := sm_Sd.cons (sd_aload_n (i := 0) dL_law_773 rfl) (sm_Sd.cons (sd_iload dL_law_774) (sm_Sd.cons (sd_iconst dL_law_776 (by first | decide | (show _ < 7; decide))) (sm_Sd.cons (sd_iadd dL_law_777) (sm_Sd.nil))))
theorem bL_law_782 {nm : String} : sm_Sd (sm_ML nm) 20 782 789 (sm_run [i_pop, i_al 2, i_al 0, i_il 4, i_c (.int (1 : Int32)), i_o2 (fun x y => x + y)]) := sm_Sd.cons (sd_pop dL_law_782) (sm_Sd.cons (sd_aload_n (i := 2) dL_law_783 rfl) (sm_Sd.cons (sd_aload_n (i := 0) dL_law_784 rfl) (sm_Sd.cons (sd_iload dL_law_785) (sm_Sd.cons (sd_iconst dL_law_787 (by first | decide | (show _ < 7; decide))) (sm_Sd.cons (sd_iadd dL_law_788) (sm_Sd.nil))))))
theorem bL_law_790 {nm : String} : sm_Sd (sm_ML nm) 20 790 795 (sm_run [i_al 0, i_il 4, i_c (.int (2 : Int32)), i_o2 (fun x y => x + y)]) := sm_Sd.cons (sd_aload_n (i := 0) dL_law_790 rfl) (sm_Sd.cons (sd_iload dL_law_791) (sm_Sd.cons (sd_iconst dL_law_793 (by first | decide | (show _ < 7; decide))) (sm_Sd.cons (sd_iadd dL_law_794) (sm_Sd.nil))))
theorem bL_law_799 {nm : String} : sm_Sd (sm_ML nm) 20 799 800 (sm_run [i_pop]) := sm_Sd.cons (sd_pop dL_law_799) (sm_Sd.nil)
theorem bL_law_803 {nm : String} : sm_Sd (sm_ML nm) 20 803 809 (sm_run [i_al 1, i_al 0, i_il 4, i_c (.int (1 : Int32)), i_o2 (fun x y => x + y)]) := sm_Sd.cons (sd_aload_n (i := 1) dL_law_803 rfl) (sm_Sd.cons (sd_aload_n (i := 0) dL_law_804 rfl) (sm_Sd.cons (sd_iload dL_law_805) (sm_Sd.cons (sd_iconst dL_law_807 (by first | decide | (show _ < 7; decide))) (sm_Sd.cons (sd_iadd dL_law_808) (sm_Sd.nil)))))
theorem bL_law_810 {nm : String} : sm_Sd (sm_ML nm) 20 810 815 (sm_run [i_al 0, i_il 4, i_c (.int (2 : Int32)), i_o2 (fun x y => x + y)]) := sm_Sd.cons (sd_aload_n (i := 0) dL_law_810 rfl) (sm_Sd.cons (sd_iload dL_law_811) (sm_Sd.cons (sd_iconst dL_law_813 (by first | decide | (show _ < 7; decide))) (sm_Sd.cons (sd_iadd dL_law_814) (sm_Sd.nil))))
theorem bL_law_819 {nm : String} : sm_Sd (sm_ML nm) 20 819 826 (sm_run [i_pop, i_al 2, i_al 0, i_il 4, i_c (.int (1 : Int32)), i_o2 (fun x y => x + y)]) := sm_Sd.cons (sd_pop dL_law_819) (sm_Sd.cons (sd_aload_n (i := 2) dL_law_820 rfl) (sm_Sd.cons (sd_aload_n (i := 0) dL_law_821 rfl) (sm_Sd.cons (sd_iload dL_law_822) (sm_Sd.cons (sd_iconst dL_law_824 (by first | decide | (show _ < 7; decide))) (sm_Sd.cons (sd_iadd dL_law_825) (sm_Sd.nil))))))
theorem bL_law_827 {nm : String} : sm_Sd (sm_ML nm) 20 827 832 (sm_run [i_al 0, i_il 4, i_c (.int (2 : Int32)), i_o2 (fun x y => x + y)]) := sm_Sd.cons (sd_aload_n (i := 0) dL_law_827 rfl) (sm_Sd.cons (sd_iload dL_law_828) (sm_Sd.cons (sd_iconst dL_law_830 (by first | decide | (show _ < 7; decide))) (sm_Sd.cons (sd_iadd dL_law_831) (sm_Sd.nil))))
theorem bL_law_836 {nm : String} : sm_Sd (sm_ML nm) 20 836 837 (sm_run [i_pop]) := sm_Sd.cons (sd_pop dL_law_836) (sm_Sd.nil)
theorem bL_law_840 {nm : String} : sm_Sd (sm_ML nm) 20 840 846 (sm_run [i_al 1, i_al 0, i_il 4, i_c (.int (1 : Int32)), i_o2 (fun x y => x + y)]) := sm_Sd.cons (sd_aload_n (i := 1) dL_law_840 rfl) (sm_Sd.cons (sd_aload_n (i := 0) dL_law_841 rfl) (sm_Sd.cons (sd_iload dL_law_842) (sm_Sd.cons (sd_iconst dL_law_844 (by first | decide | (show _ < 7; decide))) (sm_Sd.cons (sd_iadd dL_law_845) (sm_Sd.nil)))))
theorem bL_law_847 {nm : String} : sm_Sd (sm_ML nm) 20 847 852 (sm_run [i_al 0, i_il 4, i_c (.int (2 : Int32)), i_o2 (fun x y => x + y)]) := sm_Sd.cons (sd_aload_n (i := 0) dL_law_847 rfl) (sm_Sd.cons (sd_iload dL_law_848) (sm_Sd.cons (sd_iconst dL_law_850 (by first | decide | (show _ < 7; decide))) (sm_Sd.cons (sd_iadd dL_law_851) (sm_Sd.nil))))
theorem bL_law_856 {nm : String} : sm_Sd (sm_ML nm) 20 856 863 (sm_run [i_pop, i_al 2, i_al 0, i_il 4, i_c (.int (1 : Int32)), i_o2 (fun x y => x + y)]) := sm_Sd.cons (sd_pop dL_law_856) (sm_Sd.cons (sd_aload_n (i := 2) dL_law_857 rfl) (sm_Sd.cons (sd_aload_n (i := 0) dL_law_858 rfl) (sm_Sd.cons (sd_iload dL_law_859) (sm_Sd.cons (sd_iconst dL_law_861 (by first | decide | (show _ < 7; decide))) (sm_Sd.cons (sd_iadd dL_law_862) (sm_Sd.nil))))))
theorem bL_law_864 {nm : String} : sm_Sd (sm_ML nm) 20 864 869 (sm_run [i_al 0, i_il 4, i_c (.int (2 : Int32)), i_o2 (fun x y => x + y)]) := sm_Sd.cons (sd_aload_n (i := 0) dL_law_864 rfl) (sm_Sd.cons (sd_iload dL_law_865) (sm_Sd.cons (sd_iconst dL_law_867 (by first | decide | (show _ < 7; decide))) (sm_Sd.cons (sd_iadd dL_law_868) (sm_Sd.nil))))
theorem bL_law_873 {nm : String} : sm_Sd (sm_ML nm) 20 873 874 (sm_run [i_pop]) := sm_Sd.cons (sd_pop dL_law_873) (sm_Sd.nil)
theorem bL_law_877 {nm : String} : sm_Sd (sm_ML nm) 20 877 878 (sm_run [i_al 1]) := sm_Sd.cons (sd_aload_n (i := 1) dL_law_877 rfl) (sm_Sd.nil)
theorem bL_law_881 {nm : String} : sm_Sd (sm_ML nm) 20 881 883 (sm_run [i_pop, i_al 2]) := sm_Sd.cons (sd_pop dL_law_881) (sm_Sd.cons (sd_aload_n (i := 2) dL_law_882 rfl) (sm_Sd.nil))
theorem bL_law_886 {nm : String} : sm_Sd (sm_ML nm) 20 886 887 (sm_run [i_pop]) := sm_Sd.cons (sd_pop dL_law_886) (sm_Sd.nil)
theorem bL_law_890 {nm : String} : sm_Sd (sm_ML nm) 20 890 896 (sm_run [i_al 1, i_al 0, i_il 4, i_c (.int (1 : Int32)), i_o2 (fun x y => x + y)]) := sm_Sd.cons (sd_aload_n (i := 1) dL_law_890 rfl) (sm_Sd.cons (sd_aload_n (i := 0) dL_law_891 rfl) (sm_Sd.cons (sd_iload dL_law_892) (sm_Sd.cons (sd_iconst dL_law_894 (by first | decide | (show _ < 7; decide))) (sm_Sd.cons (sd_iadd dL_law_895) (sm_Sd.nil)))))
theorem bL_law_897 {nm : String} : sm_Sd (sm_ML nm) 20 897 898 (sm_run [i_al 3]) := sm_Sd.cons (sd_aload_n (i := 3) dL_law_897 rfl) (sm_Sd.nil)
theorem bL_law_901 {nm : String} : sm_Sd (sm_ML nm) 20 901 909 (sm_run [i_is 5, i_al 2, i_al 0, i_il 4, i_c (.int (1 : Int32)), i_o2 (fun x y => x + y)]) := sm_Sd.cons (sd_istore dL_law_901 (by first | decide | (show _ < 7; decide))) (sm_Sd.cons (sd_aload_n (i := 2) dL_law_903 rfl) (sm_Sd.cons (sd_aload_n (i := 0) dL_law_904 rfl) (sm_Sd.cons (sd_iload dL_law_905) (sm_Sd.cons (sd_iconst dL_law_907 (by first | decide | (show _ < 7; decide))) (sm_Sd.cons (sd_iadd dL_law_908) (sm_Sd.nil))))))
theorem bL_law_913 {nm : String} : sm_Sd (sm_ML nm) 20 913 915 (sm_run [i_is 6]) := sm_Sd.cons (sd_istore dL_law_913 (by first | decide | (show _ < 7; decide))) (sm_Sd.nil)
theorem bL_law_918 {nm : String} : sm_Sd (sm_ML nm) 20 918 924 (sm_run [i_al 1, i_al 0, i_il 4, i_c (.int (1 : Int32)), i_o2 (fun x y => x + y)]) := sm_Sd.cons (sd_aload_n (i := 1) dL_law_918 rfl) (sm_Sd.cons (sd_aload_n (i := 0) dL_law_919 rfl) (sm_Sd.cons (sd_iload dL_law_920) (sm_Sd.cons (sd_iconst dL_law_922 (by first | decide | (show _ < 7; decide))) (sm_Sd.cons (sd_iadd dL_law_923) (sm_Sd.nil)))))
theorem bL_law_928 {nm : String} : sm_Sd (sm_ML nm) 20 928 935 (sm_run [i_pop, i_al 2, i_al 0, i_il 4, i_c (.int (1 : Int32)), i_o2 (fun x y => x + y)]) := sm_Sd.cons (sd_pop dL_law_928) (sm_Sd.cons (sd_aload_n (i := 2) dL_law_929 rfl) (sm_Sd.cons (sd_aload_n (i := 0) dL_law_930 rfl) (sm_Sd.cons (sd_iload dL_law_931) (sm_Sd.cons (sd_iconst dL_law_933 (by first | decide | (show _ < 7; decide))) (sm_Sd.cons (sd_iadd dL_law_934) (sm_Sd.nil))))))
theorem bL_law_939 {nm : String} : sm_Sd (sm_ML nm) 20 939 940 (sm_run [i_pop]) := sm_Sd.cons (sd_pop dL_law_939) (sm_Sd.nil)
theorem bL_law_943 {nm : String} : sm_Sd (sm_ML nm) 20 943 949 (sm_run [i_al 1, i_al 0, i_il 4, i_c (.int (1 : Int32)), i_o2 (fun x y => x + y)]) := sm_Sd.cons (sd_aload_n (i := 1) dL_law_943 rfl) (sm_Sd.cons (sd_aload_n (i := 0) dL_law_944 rfl) (sm_Sd.cons (sd_iload dL_law_945) (sm_Sd.cons (sd_iconst dL_law_947 (by first | decide | (show _ < 7; decide))) (sm_Sd.cons (sd_iadd dL_law_948) (sm_Sd.nil)))))
theorem bL_law_950 {nm : String} : sm_Sd (sm_ML nm) 20 950 955 (sm_run [i_al 0, i_il 4, i_c (.int (2 : Int32)), i_o2 (fun x y => x + y)]) := sm_Sd.cons (sd_aload_n (i := 0) dL_law_950 rfl) (sm_Sd.cons (sd_iload dL_law_951) (sm_Sd.cons (sd_iconst dL_law_953 (by first | decide | (show _ < 7; decide))) (sm_Sd.cons (sd_iadd dL_law_954) (sm_Sd.nil))))
theorem bL_law_959 {nm : String} : sm_Sd (sm_ML nm) 20 959 966 (sm_run [i_pop, i_al 2, i_al 0, i_il 4, i_c (.int (1 : Int32)), i_o2 (fun x y => x + y)]) := sm_Sd.cons (sd_pop dL_law_959) (sm_Sd.cons (sd_aload_n (i := 2) dL_law_960 rfl) (sm_Sd.cons (sd_aload_n (i := 0) dL_law_961 rfl) (sm_Sd.cons (sd_iload dL_law_962) (sm_Sd.cons (sd_iconst dL_law_964 (by first | decide | (show _ < 7; decide))) (sm_Sd.cons (sd_iadd dL_law_965) (sm_Sd.nil))))))
theorem bL_law_967 {nm : String} : sm_Sd (sm_ML nm) 20 967 972 (sm_run [i_al 0, i_il 4, i_c (.int (2 : Int32)), i_o2 (fun x y => x + y)]) := sm_Sd.cons (sd_aload_n (i := 0) dL_law_967 rfl) (sm_Sd.cons (sd_iload dL_law_968) (sm_Sd.cons (sd_iconst dL_law_970 (by first | decide | (show _ < 7; decide))) (sm_Sd.cons (sd_iadd dL_law_971) (sm_Sd.nil))))
theorem bL_law_976 {nm : String} : sm_Sd (sm_ML nm) 20 976 977 (sm_run [i_pop]) := sm_Sd.cons (sd_pop dL_law_976) (sm_Sd.nil)
theorem bL_law_980 {nm : String} : sm_Sd (sm_ML nm) 20 980 981 (sm_run [i_al 1]) := sm_Sd.cons (sd_aload_n (i := 1) dL_law_980 rfl) (sm_Sd.nil)
theorem bL_law_984 {nm : String} : sm_Sd (sm_ML nm) 20 984 986 (sm_run [i_pop, i_al 2]) := sm_Sd.cons (sd_pop dL_law_984) (sm_Sd.cons (sd_aload_n (i := 2) dL_law_985 rfl) (sm_Sd.nil))
theorem bL_law_989 {nm : String} : sm_Sd (sm_ML nm) 20 989 990 (sm_run [i_pop]) := sm_Sd.cons (sd_pop dL_law_989) (sm_Sd.nil)
theorem bL_law_993 {nm : String} : sm_Sd (sm_ML nm) 20 993 994 (sm_run [i_al 1]) := sm_Sd.cons (sd_aload_n (i := 1) dL_law_993 rfl) (sm_Sd.nil)
theorem bL_law_997 {nm : String} : sm_Sd (sm_ML nm) 20 997 999 (sm_run [i_pop, i_al 2]) := sm_Sd.cons (sd_pop dL_law_997) (sm_Sd.cons (sd_aload_n (i := 2) dL_law_998 rfl) (sm_Sd.nil))
theorem bL_law_1002 {nm : String} : sm_Sd (sm_ML nm) 20 1002 1003 (sm_run [i_pop]) := sm_Sd.cons (sd_pop dL_law_1002) (sm_Sd.nil)
theorem bL_law_1006 {nm : String} : sm_Sd (sm_ML nm) 20 1006 1007 (sm_run [i_al 1]) := sm_Sd.cons (sd_aload_n (i := 1) dL_law_1006 rfl) (sm_Sd.nil)
theorem bL_law_1010 {nm : String} : sm_Sd (sm_ML nm) 20 1010 1012 (sm_run [i_pop, i_al 2]) := sm_Sd.cons (sd_pop dL_law_1010) (sm_Sd.cons (sd_aload_n (i := 2) dL_law_1011 rfl) (sm_Sd.nil))
theorem bL_law_1015 {nm : String} : sm_Sd (sm_ML nm) 20 1015 1016 (sm_run [i_pop]) := sm_Sd.cons (sd_pop dL_law_1015) (sm_Sd.nil)
theorem bL_law_1019 {nm : String} : sm_Sd (sm_ML nm) 20 1019 1020 (sm_run [i_al 1]) := sm_Sd.cons (sd_aload_n (i := 1) dL_law_1019 rfl) (sm_Sd.nil)
theorem bL_law_1023 {nm : String} : sm_Sd (sm_ML nm) 20 1023 1025 (sm_run [i_pop, i_al 2]) := sm_Sd.cons (sd_pop dL_law_1023) (sm_Sd.cons (sd_aload_n (i := 2) dL_law_1024 rfl) (sm_Sd.nil))
theorem bL_law_1028 {nm : String} : sm_Sd (sm_ML nm) 20 1028 1029 (sm_run [i_pop]) := sm_Sd.cons (sd_pop dL_law_1028) (sm_Sd.nil)
theorem bL_law_1032 {nm : String} : sm_Sd (sm_ML nm) 20 1032 1033 (sm_run [i_al 1]) := sm_Sd.cons (sd_aload_n (i := 1) dL_law_1032 rfl) (sm_Sd.nil)
theorem bL_law_1036 {nm : String} : sm_Sd (sm_ML nm) 20 1036 1038 (sm_run [i_pop, i_al 2]) := sm_Sd.cons (sd_pop dL_law_1036) (sm_Sd.cons (sd_aload_n (i := 2) dL_law_1037 rfl) (sm_Sd.nil))
theorem bL_law_1041 {nm : String} : sm_Sd (sm_ML nm) 20 1041 1042 (sm_run [i_pop]) := sm_Sd.cons (sd_pop dL_law_1041) (sm_Sd.nil)
theorem bL_law_1045 {nm : String} : sm_Sd (sm_ML nm) 20 1045 1046 (sm_run [i_al 1]) := sm_Sd.cons (sd_aload_n (i := 1) dL_law_1045 rfl) (sm_Sd.nil)
theorem bL_law_1049 {nm : String} : sm_Sd (sm_ML nm) 20 1049 1051 (sm_run [i_pop, i_al 2]) := sm_Sd.cons (sd_pop dL_law_1049) (sm_Sd.cons (sd_aload_n (i := 2) dL_law_1050 rfl) (sm_Sd.nil))
theorem bL_law_1054 {nm : String} : sm_Sd (sm_ML nm) 20 1054 1055 (sm_run [i_pop]) := sm_Sd.cons (sd_pop dL_law_1054) (sm_Sd.nil)
theorem bL_law_1058 {nm : String} : sm_Sd (sm_ML nm) 20 1058 1064 (sm_run [i_al 1, i_al 0, i_il 4, i_c (.int (1 : Int32)), i_o2 (fun x y => x + y)]) := sm_Sd.cons (sd_aload_n (i := 1) dL_law_1058 rfl) (sm_Sd.cons (sd_aload_n (i := 0) dL_law_1059 rfl) (sm_Sd.cons (sd_iload dL_law_1060) (sm_Sd.cons (sd_iconst dL_law_1062 (by first | decide | (show _ < 7; decide))) (sm_Sd.cons (sd_iadd dL_law_1063) (sm_Sd.nil)))))
theorem bL_law_1068 {nm : String} : sm_Sd (sm_ML nm) 20 1068 1075 (sm_run [i_pop, i_al 2, i_al 0, i_il 4, i_c (.int (1 : Int32)), i_o2 (fun x y => x + y)]) := sm_Sd.cons (sd_pop dL_law_1068) (sm_Sd.cons (sd_aload_n (i := 2) dL_law_1069 rfl) (sm_Sd.cons (sd_aload_n (i := 0) dL_law_1070 rfl) (sm_Sd.cons (sd_iload dL_law_1071) (sm_Sd.cons (sd_iconst dL_law_1073 (by first | decide | (show _ < 7; decide))) (sm_Sd.cons (sd_iadd dL_law_1074) (sm_Sd.nil))))))
theorem bL_law_1079 {nm : String} : sm_Sd (sm_ML nm) 20 1079 1080 (sm_run [i_pop]) := sm_Sd.cons (sd_pop dL_law_1079) (sm_Sd.nil)
theorem bL_law_1083 {nm : String} : sm_Sd (sm_ML nm) 20 1083 1089 (sm_run [i_al 1, i_al 0, i_il 4, i_c (.int (1 : Int32)), i_o2 (fun x y => x + y)]) := sm_Sd.cons (sd_aload_n (i := 1) dL_law_1083 rfl) (sm_Sd.cons (sd_aload_n (i := 0) dL_law_1084 rfl) (sm_Sd.cons (sd_iload dL_law_1085) (sm_Sd.cons (sd_iconst dL_law_1087 (by first | decide | (show _ < 7; decide))) (sm_Sd.cons (sd_iadd dL_law_1088) (sm_Sd.nil)))))
theorem bL_law_1093 {nm : String} : sm_Sd (sm_ML nm) 20 1093 1100 (sm_run [i_pop, i_al 2, i_al 0, i_il 4, i_c (.int (1 : Int32)), i_o2 (fun x y => x + y)]) := sm_Sd.cons (sd_pop dL_law_1093) (sm_Sd.cons (sd_aload_n (i := 2) dL_law_1094 rfl) (sm_Sd.cons (sd_aload_n (i := 0) dL_law_1095 rfl) (sm_Sd.cons (sd_iload dL_law_1096) (sm_Sd.cons (sd_iconst dL_law_1098 (by first | decide | (show _ < 7; decide))) (sm_Sd.cons (sd_iadd dL_law_1099) (sm_Sd.nil))))))
theorem bL_law_1104 {nm : String} : sm_Sd (sm_ML nm) 20 1104 1105 (sm_run [i_pop]) := sm_Sd.cons (sd_pop dL_law_1104) (sm_Sd.nil)
theorem bL_law_1108 {nm : String} : sm_Sd (sm_ML nm) 20 1108 1114 (sm_run [i_al 1, i_al 0, i_il 4, i_c (.int (1 : Int32)), i_o2 (fun x y => x + y)]) := sm_Sd.cons (sd_aload_n (i := 1) dL_law_1108 rfl) (sm_Sd.cons (sd_aload_n (i := 0) dL_law_1109 rfl) (sm_Sd.cons (sd_iload dL_law_1110) (sm_Sd.cons (sd_iconst dL_law_1112 (by first | decide | (show _ < 7; decide))) (sm_Sd.cons (sd_iadd dL_law_1113) (sm_Sd.nil)))))
theorem bL_law_1118 {nm : String} : sm_Sd (sm_ML nm) 20 1118 1125 (sm_run [i_pop, i_al 2, i_al 0, i_il 4, i_c (.int (1 : Int32)), i_o2 (fun x y => x + y)]) := sm_Sd.cons (sd_pop dL_law_1118) (sm_Sd.cons (sd_aload_n (i := 2) dL_law_1119 rfl) (sm_Sd.cons (sd_aload_n (i := 0) dL_law_1120 rfl) (sm_Sd.cons (sd_iload dL_law_1121) (sm_Sd.cons (sd_iconst dL_law_1123 (by first | decide | (show _ < 7; decide))) (sm_Sd.cons (sd_iadd dL_law_1124) (sm_Sd.nil))))))
theorem bL_law_1129 {nm : String} : sm_Sd (sm_ML nm) 20 1129 1130 (sm_run [i_pop]) := sm_Sd.cons (sd_pop dL_law_1129) (sm_Sd.nil)
theorem bL_law_1133 {nm : String} : sm_Sd (sm_ML nm) 20 1133 1139 (sm_run [i_al 1, i_al 0, i_il 4, i_c (.int (1 : Int32)), i_o2 (fun x y => x + y)]) := sm_Sd.cons (sd_aload_n (i := 1) dL_law_1133 rfl) (sm_Sd.cons (sd_aload_n (i := 0) dL_law_1134 rfl) (sm_Sd.cons (sd_iload dL_law_1135) (sm_Sd.cons (sd_iconst dL_law_1137 (by first | decide | (show _ < 7; decide))) (sm_Sd.cons (sd_iadd dL_law_1138) (sm_Sd.nil)))))
theorem bL_law_1140 {nm : String} : sm_Sd (sm_ML nm) 20 1140 1141 (sm_run [i_al 3]) := sm_Sd.cons (sd_aload_n (i := 3) dL_law_1140 rfl) (sm_Sd.nil)
theorem bL_law_1144 {nm : String} : sm_Sd (sm_ML nm) 20 1144 1152 (sm_run [i_is 5, i_al 2, i_al 0, i_il 4, i_c (.int (1 : Int32)), i_o2 (fun x y => x + y)]) := sm_Sd.cons (sd_istore dL_law_1144 (by first | decide | (show _ < 7; decide))) (sm_Sd.cons (sd_aload_n (i := 2) dL_law_1146 rfl) (sm_Sd.cons (sd_aload_n (i := 0) dL_law_1147 rfl) (sm_Sd.cons (sd_iload dL_law_1148) (sm_Sd.cons (sd_iconst dL_law_1150 (by first | decide | (show _ < 7; decide))) (sm_Sd.cons (sd_iadd dL_law_1151) (sm_Sd.nil))))))
theorem bL_law_1156 {nm : String} : sm_Sd (sm_ML nm) 20 1156 1158 (sm_run [i_is 6]) := sm_Sd.cons (sd_istore dL_law_1156 (by first | decide | (show _ < 7; decide))) (sm_Sd.nil)
def gX11_hedge (x1 : Int32) (x2 : Int32) (m : sm_S) : Option Unit :=
  (fX2_hasHedge x1 m).bind fun r2 => if r2 = 0 then (some ()) else (if x2 < 0 then (some ()) else (if x2 ≤ (8 : Int32) then none else (some ())))
def gX11_reach (x1 : Int32) (m : sm_S) : Option Unit :=
  if (m.1 3 0) = 0 then (some ()) else (if x1 = (-1 : Int32) then none else ((fX2_hasHedge x1 m).bind fun r2 => if r2 = 0 then (some ()) else none))
def gX11_row (x1 : Int32) (m : sm_S) : Option Unit :=
  if x1 < 0 then (some ()) else (if x1 < (m.1 14 1) then none else (some ()))
set_option maxRecDepth 10000 in
theorem tgX11_hedge {l : Launch} (hl : l.stackTraces = false) (x1 : Int32) (x2 : Int32) (m : sm_S) (hf : gX11_hedge x1 x2 m = some ()) : sm_Xt l mX11_hedge 8 [.ref 0, .int x1, .int x2] (sm_hp m) := by
  refine sm_Xt.of (by decide) (Nat.le_of_ble_eq_true rfl) ?_
  intro p e s m₀ args below meth c b ba D dA hC hno hX
  show sm_At p l e (sm_rm 8 1 6) s m₀ args below meth c b ba D dA _ false 1 6 _ 0 [.ref 0, .int x1, .int x2] [] (sm_hp m)
  unfold gX11_hedge at hf
  refine j_blk hC bgX11_hedge_0 [.ref 0, .int x1, .int x2] [.int x1, .ref 3] (sm_hp m) [] rfl (sm_on) ?_
  replace hf := sm_bd hf
  obtain ⟨r2, q1, hf⟩ := hf
  refine j_callV hC [.int x1] [] (tX2_hasHedge x1 m r2 q1) (cvX11_105 rfl) dX11_hedge_5 rfl rfl (by decide) (by decide) rfl (Nat.le_of_ble_eq_true rfl) ?_
  show sm_At p l e (sm_rm 8 1 6) s m₀ args below meth c b ba D dA _ _ _ _ _ 8 [.ref 0, .int x1, .int x2] [.int r2] (sm_hp m)
  refine j_if_eq hC (tgt := 21) dX11_hedge_8 rfl (fun hc => ?_) (fun hc => ?_)
  · replace hf := sm_ift hc hf
    exact sm_thrS hl hC rfl (by decide) hno hX hX.1 dX11_hedge_21 dX11_hedge_24 dX11_hedge_25 dX11_hedge_27 dX11_hedge_30
  · replace hf := sm_iff hc hf
    refine j_blk hC bgX11_hedge_11 [.ref 0, .int x1, .int x2] [.int x2] (sm_hp m) [] rfl (sm_on) ?_
    refine j_if_lt hC (tgt := 21) dX11_hedge_12 rfl (fun hc => ?_) (fun hc => ?_)
    · replace hf := sm_ift hc hf
      exact sm_thrS hl hC rfl (by decide) hno hX hX.1 dX11_hedge_21 dX11_hedge_24 dX11_hedge_25 dX11_hedge_27 dX11_hedge_30
    · replace hf := sm_iff hc hf
      refine j_blk hC bgX11_hedge_15 [.ref 0, .int x1, .int x2] [.int (8 : Int32), .int x2] (sm_hp m) [] rfl (sm_on) ?_
      refine j_icmp_le hC (tgt := 31) dX11_hedge_18 rfl (fun hc => ?_) (fun hc => ?_)
      · replace hf := sm_ift hc hf
        cases hf
      · replace hf := sm_iff hc hf
        exact sm_thrS hl hC rfl (by decide) hno hX hX.1 dX11_hedge_21 dX11_hedge_24 dX11_hedge_25 dX11_hedge_27 dX11_hedge_30
set_option maxRecDepth 10000 in
theorem tgX11_reach {l : Launch} (hl : l.stackTraces = false) (x1 : Int32) (m : sm_S) (hf : gX11_reach x1 m = some ()) : sm_Xt l mX11_reach 8 [.ref 0, .int x1] (sm_hp m) := by
  refine sm_Xt.of (by decide) (Nat.le_of_ble_eq_true rfl) ?_
  intro p e s m₀ args below meth c b ba D dA hC hno hX
  show sm_At p l e (sm_rm 8 1 6) s m₀ args below meth c b ba D dA _ false 1 6 _ 0 [.ref 0, .int x1, .retAddr 0, .retAddr 0] [] (sm_hp m)
  unfold gX11_reach at hf
  refine j_blk hC bgX11_reach_0 [.ref 0, .int x1, .retAddr 0, .retAddr 0] [.int (m.1 3 0)] (sm_hp m) [] rfl (sm_on) ?_
  refine j_if_eq hC (tgt := 26) dX11_reach_7 rfl (fun hc => ?_) (fun hc => ?_)
  · replace hf := sm_ift hc hf
    exact sm_thrSW hl hC rfl (by decide) hno hX hX.2.1 dX11_reach_26 dX11_reach_29 dX11_reach_30 dX11_reach_33 dX11_reach_36
  · replace hf := sm_iff hc hf
    refine j_blk hC bgX11_reach_10 [.ref 0, .int x1, .retAddr 0, .retAddr 0] [.int (-1 : Int32), .int x1] (sm_hp m) [] rfl (sm_on) ?_
    refine j_icmp_eq hC (tgt := 37) dX11_reach_12 rfl (fun hc => ?_) (fun hc => ?_)
    · replace hf := sm_ift hc hf
      cases hf
    · replace hf := sm_iff hc hf
      refine j_blk hC bgX11_reach_15 [.ref 0, .int x1, .retAddr 0, .retAddr 0] [.int x1, .ref 3] (sm_hp m) [] rfl (sm_on) ?_
      replace hf := sm_bd hf
      obtain ⟨r2, q1, hf⟩ := hf
      refine j_callV hC [.int x1] [] (tX2_hasHedge x1 m r2 q1) (cvX11_105 rfl) dX11_reach_20 rfl rfl (by decide) (by decide) rfl (Nat.le_of_ble_eq_true rfl) ?_
      show sm_At p l e (sm_rm 8 1 6) s m₀ args below meth c b ba D dA _ _ _ _ _ 23 [.ref 0, .int x1, .retAddr 0, .retAddr 0] [.int r2] (sm_hp m)
      refine j_if_ne hC (tgt := 37) dX11_reach_23 rfl (fun hc => ?_) (fun hc => ?_)
      · replace hf := sm_iff hc hf
        cases hf
      · replace hf := sm_ift hc hf
        exact sm_thrSW hl hC rfl (by decide) hno hX hX.2.1 dX11_reach_26 dX11_reach_29 dX11_reach_30 dX11_reach_33 dX11_reach_36
set_option maxRecDepth 10000 in
theorem tgX11_row {l : Launch} (hl : l.stackTraces = false) (x1 : Int32) (m : sm_S) (hf : gX11_row x1 m = some ()) : sm_Xt l mX11_row 8 [.ref 0, .int x1] (sm_hp m) := by
  refine sm_Xt.of (by decide) (Nat.le_of_ble_eq_true rfl) ?_
  intro p e s m₀ args below meth c b ba D dA hC hno hX
  show sm_At p l e (sm_rm 8 1 6) s m₀ args below meth c b ba D dA _ false 1 6 _ 0 [.ref 0, .int x1] [] (sm_hp m)
  unfold gX11_row at hf
  refine j_blk hC bgX11_row_0 [.ref 0, .int x1] [.int x1] (sm_hp m) [] rfl (sm_on) ?_
  refine j_if_lt hC (tgt := 15) dX11_row_1 rfl (fun hc => ?_) (fun hc => ?_)
  · replace hf := sm_ift hc hf
    exact sm_thrSW hl hC rfl (by decide) hno hX hX.2.2.1 dX11_row_15 dX11_row_18 dX11_row_19 dX11_row_22 dX11_row_25
  · replace hf := sm_iff hc hf
    refine j_blk hC bgX11_row_4 [.ref 0, .int x1] [.int (m.1 14 1), .int x1] (sm_hp m) [] rfl (sm_on) ?_
    refine j_icmp_lt hC (tgt := 26) dX11_row_12 rfl (fun hc => ?_) (fun hc => ?_)
    · replace hf := sm_ift hc hf
      cases hf
    · replace hf := sm_iff hc hf
      exact sm_thrSW hl hC rfl (by decide) hno hX hX.2.2.1 dX11_row_15 dX11_row_18 dX11_row_19 dX11_row_22 dX11_row_25
def mL_hedge : sm_M := (yL_hedge, cL_hedge, 5, some .int)
theorem wcwL_hedge : Cond.codeWith mL_hedge.1 mL_hedge.2.1 mL_hedge.2.2.1 mL_hedge.2.2.2 [(0, 10, 13, 13)] ∈ sm_G := sm_t5 37 rfl rfl
theorem bL_hedge_0 : sm_Sd mL_hedge 10 0 5 (sm_run [i_al 3, i_c (.int (0 : Int32)), i_al 0, i_il 1, i_il 2]) := sm_Sd.cons (sd_aload_n (i := 3) dL_hedge_0 rfl) (sm_Sd.cons (sd_iconst dL_hedge_1 (by decide)) (sm_Sd.cons (sd_aload_n (i := 0) dL_hedge_2 rfl) (sm_Sd.cons (sd_iload_n (i := 1) dL_hedge_3 rfl) (sm_Sd.cons (sd_iload_n (i := 2) dL_hedge_4 rfl) (sm_Sd.nil)))))
theorem bL_hedge_8 : sm_Sd mL_hedge 10 8 10 (sm_run [i_i2l, i_ls_a]) := sm_Sd.cons (sd_i2l dL_hedge_8) (sm_Sd.cons (sd_lastore (i0 := 1) dL_hedge_9 rfl) (sm_Sd.nil))
theorem bL_hedge_15 : sm_Sd mL_hedge 10 15 16 (sm_run [i_c (.int (1 : Int32))]) := sm_Sd.cons (sd_iconst dL_hedge_15 (by decide)) (sm_Sd.nil)
theorem bL_hedge_17 : sm_Sd mL_hedge 10 17 18 (sm_run [i_c (.int (0 : Int32))]) := sm_Sd.cons (sd_iconst dL_hedge_17 (by decide)) (sm_Sd.nil)
def fL_hedge (x1 : Int32) (x2 : Int32) (m : sm_S) : Option (Int32 × sm_S) :=
  match fX11_hedge x1 x2 m with
  | some r => some (0, sm_w2 m 107 0 r.toInt64)
  | none => match gX11_hedge x1 x2 m with
    | some _ => some (1, m)
    | none => none
set_option maxRecDepth 10000 in
theorem tL_hedge {l : Launch} (hl : l.stackTraces = false) (x1 : Int32) (x2 : Int32) (m : sm_S) (r : Int32 × sm_S) (hf : fL_hedge x1 x2 m = some r) : sm_RtH l mL_hedge [(0, 10, 13, 13)] 10 1 6 [.ref 0, .int x1, .int x2, .ref 107] (sm_hp m) (some (.int r.1), sm_hp r.2) := by
  refine sm_RtH.of (by decide) (Nat.le_of_ble_eq_true rfl) ?_
  intro p e s m₀ args below meth c b ba D dA hC htb hX
  show sm_At p l e (sm_rm 10 1 6) s m₀ args below meth c b ba D dA _ false 1 6 _ 0 [.ref 0, .int x1, .int x2, .ref 107, .retAddr 0] [] (sm_hp m)
  unfold fL_hedge at hf
  cases h1 : fX11_hedge x1 x2 m with
  | some r1 =>
    rw [h1] at hf
    obtain rfl := Option.some.inj hf
    refine j_blk hC bL_hedge_0 [.ref 0, .int x1, .int x2, .ref 107, .retAddr 0] [.int x2, .int x1, .ref 0, .int (0 : Int32), .ref 107] (sm_hp m) [] rfl sm_on ?_
    refine j_callV hC [.int x1, .int x2] [.int (0 : Int32), .ref 107] (tX11_hedge x1 x2 m r1 h1) (cvL_7 rfl) dL_hedge_5 rfl rfl (by decide) (by decide) rfl (Nat.le_of_ble_eq_true rfl) ?_
    show sm_At p l e (sm_rm 10 1 6) s m₀ args below meth c b ba D dA _ _ _ _ _ 8 [.ref 0, .int x1, .int x2, .ref 107, .retAddr 0] [.int r1, .int (0 : Int32), .ref 107] (sm_hp m)
    refine j_blk hC bL_hedge_8 [.ref 0, .int x1, .int x2, .ref 107, .retAddr 0] [] (sm_hp (sm_w2 m 107 0 r1.toInt64)) [((0 : Int32), 1)] rfl (sm_oc (by decide) sm_on) ?_
    refine j_goto hC (tgt := 17) dL_hedge_10 rfl ?_
    refine j_blk hC bL_hedge_17 [.ref 0, .int x1, .int x2, .ref 107, .retAddr 0] [.int (0 : Int32)] (sm_hp (sm_w2 m 107 0 r1.toInt64)) [] rfl sm_on ?_
    exact jm_reti hC dL_hedge_18 rfl rfl (fun q => Bool.noConfusion q)
  | none =>
    rw [h1] at hf
    cases h2 : gX11_hedge x1 x2 m with
    | none => rw [h2] at hf; cases hf
    | some u =>
      rw [h2] at hf
      obtain rfl := Option.some.inj hf
      refine j_blk hC bL_hedge_0 [.ref 0, .int x1, .int x2, .ref 107, .retAddr 0] [.int x2, .int x1, .ref 0, .int (0 : Int32), .ref 107] (sm_hp m) [] rfl sm_on ?_
      refine jm_callX (rc := 0) (rs := 0) [.int x1, .int x2] [.int (0 : Int32), .ref 107] (tgX11_hedge hl x1 x2 m h2) hC hX (htb.trans rfl) rfl (by decide) wL_13 (cvL_7 rfl) dL_hedge_5 rfl rfl (by decide) (by decide) rfl (Nat.le_of_ble_eq_true rfl) ?_
      intro H locs cells slots ls q hP hS hl9 q1 q2
      refine lv_astore hC.1 hC.2.1 dL_hedge_13 hl9 (by decide) rfl (fun ls' hl' => ?_)
      have K : sm_At p l e (sm_rm 10 1 6) s m₀ args below meth c b ba D dA mL_hedge.2.2.1 false 0 0 (MQ below (sm_Qc b ba D dA false (some (.int (1 : Int32)), sm_hp m)) args s 1 6 (fun q => ba ≤ q)) 15 [.ref 0, .int x1, .int x2, .ref 107, .retAddr 0] [] (sm_hp m) := by
        refine j_blk hC bL_hedge_15 [.ref 0, .int x1, .int x2, .ref 107, .retAddr 0] [.int (1 : Int32)] (sm_hp m) [] rfl sm_on ?_
        exact jm_reti hC dL_hedge_16 rfl rfl (fun q => Bool.noConfusion q)
      exact K H locs cells slots ls' hP hS (fun q => Bool.noConfusion q) (sm_has_keep hl' rfl rfl) q1 q2
def mL_reach : sm_M := (yL_reach, cL_reach, 4, some .int)
theorem wcwL_reach : Cond.codeWith mL_reach.1 mL_reach.2.1 mL_reach.2.2.1 mL_reach.2.2.2 [(0, 9, 12, 13)] ∈ sm_G := sm_t5 112 rfl rfl
theorem bL_reach_0 : sm_Sd mL_reach 10 0 4 (sm_run [i_al 2, i_c (.int (0 : Int32)), i_al 0, i_il 1]) := sm_Sd.cons (sd_aload_n (i := 2) dL_reach_0 rfl) (sm_Sd.cons (sd_iconst dL_reach_1 (by decide)) (sm_Sd.cons (sd_aload_n (i := 0) dL_reach_2 rfl) (sm_Sd.cons (sd_iload_n (i := 1) dL_reach_3 rfl) (sm_Sd.nil))))
theorem bL_reach_7 : sm_Sd mL_reach 10 7 9 (sm_run [i_i2l, i_ls_a]) := sm_Sd.cons (sd_i2l dL_reach_7) (sm_Sd.cons (sd_lastore (i0 := 1) dL_reach_8 rfl) (sm_Sd.nil))
theorem bL_reach_13 : sm_Sd mL_reach 10 13 14 (sm_run [i_c (.int (1 : Int32))]) := sm_Sd.cons (sd_iconst dL_reach_13 (by decide)) (sm_Sd.nil)
theorem bL_reach_15 : sm_Sd mL_reach 10 15 16 (sm_run [i_c (.int (0 : Int32))]) := sm_Sd.cons (sd_iconst dL_reach_15 (by decide)) (sm_Sd.nil)
def fL_reach (x1 : Int32) (m : sm_S) : Option (Int32 × sm_S) :=
  match fX11_reach x1 m with
  | some r => some (0, sm_w2 m 107 0 r.toInt64)
  | none => match gX11_reach x1 m with
    | some _ => some (1, m)
    | none => none
set_option maxRecDepth 10000 in
theorem tL_reach {l : Launch} (hl : l.stackTraces = false) (x1 : Int32) (m : sm_S) (r : Int32 × sm_S) (hf : fL_reach x1 m = some r) : sm_RtH l mL_reach [(0, 9, 12, 13)] 10 1 6 [.ref 0, .int x1, .ref 107] (sm_hp m) (some (.int r.1), sm_hp r.2) := by
  refine sm_RtH.of (by decide) (Nat.le_of_ble_eq_true rfl) ?_
  intro p e s m₀ args below meth c b ba D dA hC htb hX
  show sm_At p l e (sm_rm 10 1 6) s m₀ args below meth c b ba D dA _ false 1 6 _ 0 [.ref 0, .int x1, .ref 107, .retAddr 0] [] (sm_hp m)
  unfold fL_reach at hf
  cases h1 : fX11_reach x1 m with
  | some r1 =>
    rw [h1] at hf
    obtain rfl := Option.some.inj hf
    refine j_blk hC bL_reach_0 [.ref 0, .int x1, .ref 107, .retAddr 0] [.int x1, .ref 0, .int (0 : Int32), .ref 107] (sm_hp m) [] rfl sm_on ?_
    refine j_callV hC [.int x1] [.int (0 : Int32), .ref 107] (tX11_reach x1 m r1 h1) (cvL_15 rfl) dL_reach_4 rfl rfl (by decide) (by decide) rfl (Nat.le_of_ble_eq_true rfl) ?_
    show sm_At p l e (sm_rm 10 1 6) s m₀ args below meth c b ba D dA _ _ _ _ _ 7 [.ref 0, .int x1, .ref 107, .retAddr 0] [.int r1, .int (0 : Int32), .ref 107] (sm_hp m)
    refine j_blk hC bL_reach_7 [.ref 0, .int x1, .ref 107, .retAddr 0] [] (sm_hp (sm_w2 m 107 0 r1.toInt64)) [((0 : Int32), 1)] rfl (sm_oc (by decide) sm_on) ?_
    refine j_goto hC (tgt := 15) dL_reach_9 rfl ?_
    refine j_blk hC bL_reach_15 [.ref 0, .int x1, .ref 107, .retAddr 0] [.int (0 : Int32)] (sm_hp (sm_w2 m 107 0 r1.toInt64)) [] rfl sm_on ?_
    exact jm_reti hC dL_reach_16 rfl rfl (fun q => Bool.noConfusion q)
  | none =>
    rw [h1] at hf
    cases h2 : gX11_reach x1 m with
    | none => rw [h2] at hf; cases hf
    | some u =>
      rw [h2] at hf
      obtain rfl := Option.some.inj hf
      refine j_blk hC bL_reach_0 [.ref 0, .int x1, .ref 107, .retAddr 0] [.int x1, .ref 0, .int (0 : Int32), .ref 107] (sm_hp m) [] rfl sm_on ?_
      refine jm_callX (rc := 0) (rs := 0) [.int x1] [.int (0 : Int32), .ref 107] (tgX11_reach hl x1 m h2) hC hX (htb.trans rfl) rfl (by decide) wL_13 (cvL_15 rfl) dL_reach_4 rfl rfl (by decide) (by decide) rfl (Nat.le_of_ble_eq_true rfl) ?_
      intro H locs cells slots ls q hP hS hl9 q1 q2
      refine lv_astore_n hC.1 hC.2.1 dL_reach_12 rfl hl9 (by decide) rfl (fun ls' hl' => ?_)
      have K : sm_At p l e (sm_rm 10 1 6) s m₀ args below meth c b ba D dA mL_reach.2.2.1 false 0 0 (MQ below (sm_Qc b ba D dA false (some (.int (1 : Int32)), sm_hp m)) args s 1 6 (fun q => ba ≤ q)) 13 [.ref 0, .int x1, .ref 107, .retAddr 0] [] (sm_hp m) := by
        refine j_blk hC bL_reach_13 [.ref 0, .int x1, .ref 107, .retAddr 0] [.int (1 : Int32)] (sm_hp m) [] rfl sm_on ?_
        exact jm_reti hC dL_reach_14 rfl rfl (fun q => Bool.noConfusion q)
      exact K H locs cells slots ls' hP hS (fun q => Bool.noConfusion q) (sm_has_keep hl' rfl rfl) q1 q2
def mL_row : sm_M := (yL_row, cL_row, 4, some .int)
theorem wcwL_row : Cond.codeWith mL_row.1 mL_row.2.1 mL_row.2.2.1 mL_row.2.2.2 [(0, 9, 12, 13)] ∈ sm_G := sm_t5 120 rfl rfl
theorem bL_row_0 : sm_Sd mL_row 10 0 4 (sm_run [i_al 2, i_c (.int (0 : Int32)), i_al 0, i_il 1]) := sm_Sd.cons (sd_aload_n (i := 2) dL_row_0 rfl) (sm_Sd.cons (sd_iconst dL_row_1 (by decide)) (sm_Sd.cons (sd_aload_n (i := 0) dL_row_2 rfl) (sm_Sd.cons (sd_iload_n (i := 1) dL_row_3 rfl) (sm_Sd.nil))))
theorem bL_row_7 : sm_Sd mL_row 10 7 9 (sm_run [i_i2l, i_ls_a]) := sm_Sd.cons (sd_i2l dL_row_7) (sm_Sd.cons (sd_lastore (i0 := 1) dL_row_8 rfl) (sm_Sd.nil))
theorem bL_row_13 : sm_Sd mL_row 10 13 14 (sm_run [i_c (.int (1 : Int32))]) := sm_Sd.cons (sd_iconst dL_row_13 (by decide)) (sm_Sd.nil)
theorem bL_row_15 : sm_Sd mL_row 10 15 16 (sm_run [i_c (.int (0 : Int32))]) := sm_Sd.cons (sd_iconst dL_row_15 (by decide)) (sm_Sd.nil)
def fL_row (x1 : Int32) (m : sm_S) : Option (Int32 × sm_S) :=
  match fX11_row x1 m with
  | some r => some (0, sm_w2 m 107 0 r.toInt64)
  | none => match gX11_row x1 m with
    | some _ => some (1, m)
    | none => none
set_option maxRecDepth 10000 in
theorem tL_row {l : Launch} (hl : l.stackTraces = false) (x1 : Int32) (m : sm_S) (r : Int32 × sm_S) (hf : fL_row x1 m = some r) : sm_RtH l mL_row [(0, 9, 12, 13)] 10 1 6 [.ref 0, .int x1, .ref 107] (sm_hp m) (some (.int r.1), sm_hp r.2) := by
  refine sm_RtH.of (by decide) (Nat.le_of_ble_eq_true rfl) ?_
  intro p e s m₀ args below meth c b ba D dA hC htb hX
  show sm_At p l e (sm_rm 10 1 6) s m₀ args below meth c b ba D dA _ false 1 6 _ 0 [.ref 0, .int x1, .ref 107, .retAddr 0] [] (sm_hp m)
  unfold fL_row at hf
  cases h1 : fX11_row x1 m with
  | some r1 =>
    rw [h1] at hf
    obtain rfl := Option.some.inj hf
    refine j_blk hC bL_row_0 [.ref 0, .int x1, .ref 107, .retAddr 0] [.int x1, .ref 0, .int (0 : Int32), .ref 107] (sm_hp m) [] rfl sm_on ?_
    refine j_callV hC [.int x1] [.int (0 : Int32), .ref 107] (tX11_row x1 m r1 h1) (cvL_19 rfl) dL_row_4 rfl rfl (by decide) (by decide) rfl (Nat.le_of_ble_eq_true rfl) ?_
    show sm_At p l e (sm_rm 10 1 6) s m₀ args below meth c b ba D dA _ _ _ _ _ 7 [.ref 0, .int x1, .ref 107, .retAddr 0] [.int r1, .int (0 : Int32), .ref 107] (sm_hp m)
    refine j_blk hC bL_row_7 [.ref 0, .int x1, .ref 107, .retAddr 0] [] (sm_hp (sm_w2 m 107 0 r1.toInt64)) [((0 : Int32), 1)] rfl (sm_oc (by decide) sm_on) ?_
    refine j_goto hC (tgt := 15) dL_row_9 rfl ?_
    refine j_blk hC bL_row_15 [.ref 0, .int x1, .ref 107, .retAddr 0] [.int (0 : Int32)] (sm_hp (sm_w2 m 107 0 r1.toInt64)) [] rfl sm_on ?_
    exact jm_reti hC dL_row_16 rfl rfl (fun q => Bool.noConfusion q)
  | none =>
    rw [h1] at hf
    cases h2 : gX11_row x1 m with
    | none => rw [h2] at hf; cases hf
    | some u =>
      rw [h2] at hf
      obtain rfl := Option.some.inj hf
      refine j_blk hC bL_row_0 [.ref 0, .int x1, .ref 107, .retAddr 0] [.int x1, .ref 0, .int (0 : Int32), .ref 107] (sm_hp m) [] rfl sm_on ?_
      refine jm_callX (rc := 0) (rs := 0) [.int x1] [.int (0 : Int32), .ref 107] (tgX11_row hl x1 m h2) hC hX (htb.trans rfl) rfl (by decide) wL_13 (cvL_19 rfl) dL_row_4 rfl rfl (by decide) (by decide) rfl (Nat.le_of_ble_eq_true rfl) ?_
      intro H locs cells slots ls q hP hS hl9 q1 q2
      refine lv_astore_n hC.1 hC.2.1 dL_row_12 rfl hl9 (by decide) rfl (fun ls' hl' => ?_)
      have K : sm_At p l e (sm_rm 10 1 6) s m₀ args below meth c b ba D dA mL_row.2.2.1 false 0 0 (MQ below (sm_Qc b ba D dA false (some (.int (1 : Int32)), sm_hp m)) args s 1 6 (fun q => ba ≤ q)) 13 [.ref 0, .int x1, .ref 107, .retAddr 0] [] (sm_hp m) := by
        refine j_blk hC bL_row_13 [.ref 0, .int x1, .ref 107, .retAddr 0] [.int (1 : Int32)] (sm_hp m) [] rfl sm_on ?_
        exact jm_reti hC dL_row_14 rfl rfl (fun q => Bool.noConfusion q)
      exact K H locs cells slots ls' hP hS (fun q => Bool.noConfusion q) (sm_has_keep hl' rfl rfl) q1 q2
