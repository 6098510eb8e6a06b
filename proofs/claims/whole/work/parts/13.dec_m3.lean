theorem dc_Model_soonest_173 : decode cd_Model_soonest 173 = .ok (.lshr, 1) := by decide +kernel
theorem dc_Model_soonest_174 : decode cd_Model_soonest 174 = .ok (.lconst 1, 1) := by decide +kernel
theorem dc_Model_soonest_175 : decode cd_Model_soonest 175 = .ok (.land, 1) := by decide +kernel
theorem dc_Model_soonest_176 : decode cd_Model_soonest 176 = .ok (.lconst 1, 1) := by decide +kernel
theorem dc_Model_soonest_177 : decode cd_Model_soonest 177 = .ok (.lcmp, 1) := by decide +kernel
theorem dc_Model_soonest_178 : decode cd_Model_soonest 178 = .ok (.ifCond .ne 6, 3) := by decide +kernel
theorem dc_Model_soonest_181 : decode cd_Model_soonest 181 = .ok (.iload 5, 2) := by decide +kernel
theorem dc_Model_soonest_183 : decode cd_Model_soonest 183 = .ok (.ireturn, 1) := by decide +kernel
theorem dc_Model_soonest_184 : decode cd_Model_soonest 184 = .ok (.iload 5, 2) := by decide +kernel
theorem dc_Model_soonest_186 : decode cd_Model_soonest 186 = .ok (.iconst 1, 1) := by decide +kernel
theorem dc_Model_soonest_187 : decode cd_Model_soonest 187 = .ok (.iadd, 1) := by decide +kernel
theorem dc_Model_soonest_188 : decode cd_Model_soonest 188 = .ok (.sipush 240, 3) := by decide +kernel
theorem dc_Model_soonest_191 : decode cd_Model_soonest 191 = .ok (.if_icmp .ge 23, 3) := by decide +kernel
theorem dc_Model_soonest_194 : decode cd_Model_soonest 194 = .ok (.aload_n 0, 1) := by decide +kernel
theorem dc_Model_soonest_195 : decode cd_Model_soonest 195 = .ok (.getfield 177, 3) := by decide +kernel
theorem dc_Model_soonest_198 : decode cd_Model_soonest 198 = .ok (.bipush 6, 2) := by decide +kernel
theorem dc_Model_soonest_200 : decode cd_Model_soonest 200 = .ok (.iload 5, 2) := by decide +kernel
theorem dc_Model_soonest_202 : decode cd_Model_soonest 202 = .ok (.iconst 1, 1) := by decide +kernel
theorem dc_Model_soonest_203 : decode cd_Model_soonest 203 = .ok (.iadd, 1) := by decide +kernel
theorem dc_Model_soonest_204 : decode cd_Model_soonest 204 = .ok (.imul, 1) := by decide +kernel
theorem dc_Model_soonest_205 : decode cd_Model_soonest 205 = .ok (.iload 6, 2) := by decide +kernel
theorem dc_Model_soonest_207 : decode cd_Model_soonest 207 = .ok (.iadd, 1) := by decide +kernel
theorem dc_Model_soonest_208 : decode cd_Model_soonest 208 = .ok (.dup2, 1) := by decide +kernel
theorem dc_Model_soonest_209 : decode cd_Model_soonest 209 = .ok (.laload, 1) := by decide +kernel
theorem dc_Model_soonest_210 : decode cd_Model_soonest 210 = .ok (.lload 7, 2) := by decide +kernel
theorem dc_Model_soonest_212 : decode cd_Model_soonest 212 = .ok (.lor, 1) := by decide +kernel
theorem dc_Model_soonest_213 : decode cd_Model_soonest 213 = .ok (.lastore, 1) := by decide +kernel
theorem dc_Model_soonest_214 : decode cd_Model_soonest 214 = .ok (.iconst 0, 1) := by decide +kernel
theorem dc_Model_soonest_215 : decode cd_Model_soonest 215 = .ok (.istore 9, 2) := by decide +kernel
theorem dc_Model_soonest_217 : decode cd_Model_soonest 217 = .ok (.iload 9, 2) := by decide +kernel
theorem dc_Model_soonest_219 : decode cd_Model_soonest 219 = .ok (.aload_n 0, 1) := by decide +kernel
theorem dc_Model_soonest_220 : decode cd_Model_soonest 220 = .ok (.getfield 13, 3) := by decide +kernel
theorem dc_Model_soonest_223 : decode cd_Model_soonest 223 = .ok (.iconst 0, 1) := by decide +kernel
theorem dc_Model_soonest_224 : decode cd_Model_soonest 224 = .ok (.iaload, 1) := by decide +kernel
theorem dc_Model_soonest_225 : decode cd_Model_soonest 225 = .ok (.if_icmp .ge 72, 3) := by decide +kernel
theorem dc_Model_soonest_228 : decode cd_Model_soonest 228 = .ok (.iload 5, 2) := by decide +kernel
theorem dc_Model_soonest_230 : decode cd_Model_soonest 230 = .ok (.aload_n 0, 1) := by decide +kernel
theorem dc_Model_soonest_231 : decode cd_Model_soonest 231 = .ok (.getfield 26, 3) := by decide +kernel
theorem dc_Model_soonest_234 : decode cd_Model_soonest 234 = .ok (.bipush 6, 2) := by decide +kernel
theorem dc_Model_soonest_236 : decode cd_Model_soonest 236 = .ok (.iload 6, 2) := by decide +kernel
theorem dc_Model_soonest_238 : decode cd_Model_soonest 238 = .ok (.imul, 1) := by decide +kernel
theorem dc_Model_soonest_239 : decode cd_Model_soonest 239 = .ok (.iload 9, 2) := by decide +kernel
theorem dc_Model_soonest_241 : decode cd_Model_soonest 241 = .ok (.iadd, 1) := by decide +kernel
theorem dc_Model_soonest_242 : decode cd_Model_soonest 242 = .ok (.iaload, 1) := by decide +kernel
theorem dc_Model_soonest_243 : decode cd_Model_soonest 243 = .ok (.iload 4, 2) := by decide +kernel
theorem dc_Model_soonest_245 : decode cd_Model_soonest 245 = .ok (.imul, 1) := by decide +kernel
theorem dc_Model_soonest_246 : decode cd_Model_soonest 246 = .ok (.iadd, 1) := by decide +kernel
theorem dc_Model_soonest_247 : decode cd_Model_soonest 247 = .ok (.istore 10, 2) := by decide +kernel
theorem dc_Model_soonest_249 : decode cd_Model_soonest 249 = .ok (.aload_n 0, 1) := by decide +kernel
theorem dc_Model_soonest_250 : decode cd_Model_soonest 250 = .ok (.getfield 26, 3) := by decide +kernel
theorem dc_Model_soonest_253 : decode cd_Model_soonest 253 = .ok (.bipush 6, 2) := by decide +kernel
theorem dc_Model_soonest_255 : decode cd_Model_soonest 255 = .ok (.iload 6, 2) := by decide +kernel
theorem dc_Model_soonest_257 : decode cd_Model_soonest 257 = .ok (.imul, 1) := by decide +kernel
theorem dc_Model_soonest_258 : decode cd_Model_soonest 258 = .ok (.iload 9, 2) := by decide +kernel
theorem dc_Model_soonest_260 : decode cd_Model_soonest 260 = .ok (.iadd, 1) := by decide +kernel
theorem dc_Model_soonest_261 : decode cd_Model_soonest 261 = .ok (.iaload, 1) := by decide +kernel
theorem dc_Model_soonest_262 : decode cd_Model_soonest 262 = .ok (.ifCond .le 29, 3) := by decide +kernel
theorem dc_Model_soonest_265 : decode cd_Model_soonest 265 = .ok (.iload 10, 2) := by decide +kernel
theorem dc_Model_soonest_267 : decode cd_Model_soonest 267 = .ok (.sipush 240, 3) := by decide +kernel
theorem dc_Model_soonest_270 : decode cd_Model_soonest 270 = .ok (.if_icmp .ge 21, 3) := by decide +kernel
theorem dc_Model_soonest_273 : decode cd_Model_soonest 273 = .ok (.aload_n 0, 1) := by decide +kernel
theorem dc_Model_soonest_274 : decode cd_Model_soonest 274 = .ok (.getfield 177, 3) := by decide +kernel
theorem dc_Model_soonest_277 : decode cd_Model_soonest 277 = .ok (.bipush 6, 2) := by decide +kernel
theorem dc_Model_soonest_279 : decode cd_Model_soonest 279 = .ok (.iload 10, 2) := by decide +kernel
theorem dc_Model_soonest_281 : decode cd_Model_soonest 281 = .ok (.imul, 1) := by decide +kernel
theorem dc_Model_soonest_282 : decode cd_Model_soonest 282 = .ok (.iload 9, 2) := by decide +kernel
theorem dc_Model_soonest_284 : decode cd_Model_soonest 284 = .ok (.iadd, 1) := by decide +kernel
theorem dc_Model_soonest_285 : decode cd_Model_soonest 285 = .ok (.dup2, 1) := by decide +kernel
theorem dc_Model_soonest_286 : decode cd_Model_soonest 286 = .ok (.laload, 1) := by decide +kernel
theorem dc_Model_soonest_287 : decode cd_Model_soonest 287 = .ok (.lload 7, 2) := by decide +kernel
theorem dc_Model_soonest_289 : decode cd_Model_soonest 289 = .ok (.lor, 1) := by decide +kernel
theorem dc_Model_soonest_290 : decode cd_Model_soonest 290 = .ok (.lastore, 1) := by decide +kernel
theorem dc_Model_soonest_291 : decode cd_Model_soonest 291 = .ok (.iinc 9 1, 3) := by decide +kernel
theorem dc_Model_soonest_294 : decode cd_Model_soonest 294 = .ok (.goto (-77), 3) := by decide +kernel
theorem dc_Model_soonest_297 : decode cd_Model_soonest 297 = .ok (.iinc 6 1, 3) := by decide +kernel
theorem dc_Model_soonest_300 : decode cd_Model_soonest 300 = .ok (.goto (-190), 3) := by decide +kernel
theorem dc_Model_soonest_303 : decode cd_Model_soonest 303 = .ok (.iinc 5 1, 3) := by decide +kernel
theorem dc_Model_soonest_306 : decode cd_Model_soonest 306 = .ok (.goto (-207), 3) := by decide +kernel
theorem dc_Model_soonest_309 : decode cd_Model_soonest 309 = .ok (.iconst (-1), 1) := by decide +kernel
theorem dc_Model_soonest_310 : decode cd_Model_soonest 310 = .ok (.ireturn, 1) := by decide +kernel
theorem dc_Model_lonely_0 : decode cd_Model_lonely 0 = .ok (.aload_n 0, 1) := by decide +kernel
theorem dc_Model_lonely_1 : decode cd_Model_lonely 1 = .ok (.iconst 0, 1) := by decide +kernel
theorem dc_Model_lonely_2 : decode cd_Model_lonely 2 = .ok (.putfield 183, 3) := by decide +kernel
theorem dc_Model_lonely_5 : decode cd_Model_lonely 5 = .ok (.iload_n 1, 1) := by decide +kernel
theorem dc_Model_lonely_6 : decode cd_Model_lonely 6 = .ok (.iconst 0, 1) := by decide +kernel
theorem dc_Model_lonely_7 : decode cd_Model_lonely 7 = .ok (.iconst 1, 1) := by decide +kernel
theorem dc_Model_lonely_8 : decode cd_Model_lonely 8 = .ok (.invokestatic 318, 3) := by decide +kernel
theorem dc_Model_lonely_11 : decode cd_Model_lonely 11 = .ok (.ifCond .ne 5, 3) := by decide +kernel
theorem dc_Model_lonely_14 : decode cd_Model_lonely 14 = .ok (.iconst (-1), 1) := by decide +kernel
theorem dc_Model_lonely_15 : decode cd_Model_lonely 15 = .ok (.ireturn, 1) := by decide +kernel
theorem dc_Model_lonely_16 : decode cd_Model_lonely 16 = .ok (.aload_n 0, 1) := by decide +kernel
theorem dc_Model_lonely_17 : decode cd_Model_lonely 17 = .ok (.invokevirtual 470, 3) := by decide +kernel
theorem dc_Model_lonely_20 : decode cd_Model_lonely 20 = .ok (.iconst 0, 1) := by decide +kernel
theorem dc_Model_lonely_21 : decode cd_Model_lonely 21 = .ok (.istore_n 2, 1) := by decide +kernel
theorem dc_Model_lonely_22 : decode cd_Model_lonely 22 = .ok (.iconst (-1), 1) := by decide +kernel
theorem dc_Model_lonely_23 : decode cd_Model_lonely 23 = .ok (.istore_n 3, 1) := by decide +kernel
theorem dc_Model_lonely_24 : decode cd_Model_lonely 24 = .ok (.iconst 0, 1) := by decide +kernel
theorem dc_Model_lonely_25 : decode cd_Model_lonely 25 = .ok (.istore 4, 2) := by decide +kernel
theorem dc_Model_lonely_27 : decode cd_Model_lonely 27 = .ok (.iconst 0, 1) := by decide +kernel
theorem dc_Model_lonely_28 : decode cd_Model_lonely 28 = .ok (.istore 5, 2) := by decide +kernel
theorem dc_Model_lonely_30 : decode cd_Model_lonely 30 = .ok (.iload 5, 2) := by decide +kernel
theorem dc_Model_lonely_32 : decode cd_Model_lonely 32 = .ok (.sipush 240, 3) := by decide +kernel
theorem dc_Model_lonely_35 : decode cd_Model_lonely 35 = .ok (.if_icmp .ge 48, 3) := by decide +kernel
theorem dc_Model_lonely_38 : decode cd_Model_lonely 38 = .ok (.aload_n 0, 1) := by decide +kernel
theorem dc_Model_lonely_39 : decode cd_Model_lonely 39 = .ok (.iload 5, 2) := by decide +kernel
theorem dc_Model_lonely_41 : decode cd_Model_lonely 41 = .ok (.invokevirtual 536, 3) := by decide +kernel
theorem dc_Model_lonely_44 : decode cd_Model_lonely 44 = .ok (.ifCond .eq 7, 3) := by decide +kernel
theorem dc_Model_lonely_47 : decode cd_Model_lonely 47 = .ok (.iconst 0, 1) := by decide +kernel
theorem dc_Model_lonely_48 : decode cd_Model_lonely 48 = .ok (.goto 7, 3) := by decide +kernel
theorem dc_Model_lonely_51 : decode cd_Model_lonely 51 = .ok (.iload 4, 2) := by decide +kernel
theorem dc_Model_lonely_53 : decode cd_Model_lonely 53 = .ok (.iconst 1, 1) := by decide +kernel
theorem dc_Model_lonely_54 : decode cd_Model_lonely 54 = .ok (.iadd, 1) := by decide +kernel
theorem dc_Model_lonely_55 : decode cd_Model_lonely 55 = .ok (.istore 4, 2) := by decide +kernel
theorem dc_Model_lonely_57 : decode cd_Model_lonely 57 = .ok (.iload 4, 2) := by decide +kernel
theorem dc_Model_lonely_59 : decode cd_Model_lonely 59 = .ok (.iload_n 2, 1) := by decide +kernel
theorem dc_Model_lonely_60 : decode cd_Model_lonely 60 = .ok (.if_icmp .gt 6, 3) := by decide +kernel
theorem dc_Model_lonely_63 : decode cd_Model_lonely 63 = .ok (.goto 14, 3) := by decide +kernel
theorem dc_Model_lonely_66 : decode cd_Model_lonely 66 = .ok (.iload 4, 2) := by decide +kernel
theorem dc_Model_lonely_68 : decode cd_Model_lonely 68 = .ok (.istore_n 2, 1) := by decide +kernel
theorem dc_Model_lonely_69 : decode cd_Model_lonely 69 = .ok (.iload 5, 2) := by decide +kernel
theorem dc_Model_lonely_71 : decode cd_Model_lonely 71 = .ok (.iconst 1, 1) := by decide +kernel
theorem dc_Model_lonely_72 : decode cd_Model_lonely 72 = .ok (.iadd, 1) := by decide +kernel
theorem dc_Model_lonely_73 : decode cd_Model_lonely 73 = .ok (.iload 4, 2) := by decide +kernel
theorem dc_Model_lonely_75 : decode cd_Model_lonely 75 = .ok (.isub, 1) := by decide +kernel
theorem dc_Model_lonely_76 : decode cd_Model_lonely 76 = .ok (.istore_n 3, 1) := by decide +kernel
theorem dc_Model_lonely_77 : decode cd_Model_lonely 77 = .ok (.iinc 5 1, 3) := by decide +kernel
theorem dc_Model_lonely_80 : decode cd_Model_lonely 80 = .ok (.goto (-50), 3) := by decide +kernel
theorem dc_Model_lonely_83 : decode cd_Model_lonely 83 = .ok (.iload_n 2, 1) := by decide +kernel
theorem dc_Model_lonely_84 : decode cd_Model_lonely 84 = .ok (.ifCond .ne 7, 3) := by decide +kernel
theorem dc_Model_lonely_87 : decode cd_Model_lonely 87 = .ok (.iconst (-1), 1) := by decide +kernel
theorem dc_Model_lonely_88 : decode cd_Model_lonely 88 = .ok (.goto 12, 3) := by decide +kernel
theorem dc_Model_lonely_91 : decode cd_Model_lonely 91 = .ok (.iload_n 1, 1) := by decide +kernel
theorem dc_Model_lonely_92 : decode cd_Model_lonely 92 = .ok (.ifCond .ne 7, 3) := by decide +kernel
theorem dc_Model_lonely_95 : decode cd_Model_lonely 95 = .ok (.iload_n 2, 1) := by decide +kernel
theorem dc_Model_lonely_96 : decode cd_Model_lonely 96 = .ok (.goto 4, 3) := by decide +kernel
theorem dc_Model_lonely_99 : decode cd_Model_lonely 99 = .ok (.iload_n 3, 1) := by decide +kernel
theorem dc_Model_lonely_100 : decode cd_Model_lonely 100 = .ok (.ireturn, 1) := by decide +kernel
theorem dc_Model_isAsTold_0 : decode cd_Model_isAsTold 0 = .ok (.aload_n 0, 1) := by decide +kernel
theorem dc_Model_isAsTold_1 : decode cd_Model_isAsTold 1 = .ok (.invokevirtual 470, 3) := by decide +kernel
theorem dc_Model_isAsTold_4 : decode cd_Model_isAsTold 4 = .ok (.iconst 0, 1) := by decide +kernel
theorem dc_Model_isAsTold_5 : decode cd_Model_isAsTold 5 = .ok (.istore_n 1, 1) := by decide +kernel
theorem dc_Model_isAsTold_6 : decode cd_Model_isAsTold 6 = .ok (.iload_n 1, 1) := by decide +kernel
theorem dc_Model_isAsTold_7 : decode cd_Model_isAsTold 7 = .ok (.aload_n 0, 1) := by decide +kernel
theorem dc_Model_isAsTold_8 : decode cd_Model_isAsTold 8 = .ok (.getfield 13, 3) := by decide +kernel
theorem dc_Model_isAsTold_11 : decode cd_Model_isAsTold 11 = .ok (.iconst 2, 1) := by decide +kernel
theorem dc_Model_isAsTold_12 : decode cd_Model_isAsTold 12 = .ok (.iaload, 1) := by decide +kernel
theorem dc_Model_isAsTold_13 : decode cd_Model_isAsTold 13 = .ok (.if_icmp .ge 36, 3) := by decide +kernel
theorem dc_Model_isAsTold_16 : decode cd_Model_isAsTold 16 = .ok (.aload_n 0, 1) := by decide +kernel
theorem dc_Model_isAsTold_17 : decode cd_Model_isAsTold 17 = .ok (.getfield 132, 3) := by decide +kernel
theorem dc_Model_isAsTold_20 : decode cd_Model_isAsTold 20 = .ok (.iload_n 1, 1) := by decide +kernel
theorem dc_Model_isAsTold_21 : decode cd_Model_isAsTold 21 = .ok (.iaload, 1) := by decide +kernel
theorem dc_Model_isAsTold_22 : decode cd_Model_isAsTold 22 = .ok (.bipush (-2), 2) := by decide +kernel
theorem dc_Model_isAsTold_24 : decode cd_Model_isAsTold 24 = .ok (.if_icmp .eq 19, 3) := by decide +kernel
theorem dc_Model_isAsTold_27 : decode cd_Model_isAsTold 27 = .ok (.aload_n 0, 1) := by decide +kernel
theorem dc_Model_isAsTold_28 : decode cd_Model_isAsTold 28 = .ok (.iload_n 1, 1) := by decide +kernel
theorem dc_Model_isAsTold_29 : decode cd_Model_isAsTold 29 = .ok (.invokevirtual 454, 3) := by decide +kernel
theorem dc_Model_isAsTold_32 : decode cd_Model_isAsTold 32 = .ok (.aload_n 0, 1) := by decide +kernel
theorem dc_Model_isAsTold_33 : decode cd_Model_isAsTold 33 = .ok (.getfield 132, 3) := by decide +kernel
theorem dc_Model_isAsTold_36 : decode cd_Model_isAsTold 36 = .ok (.iload_n 1, 1) := by decide +kernel
theorem dc_Model_isAsTold_37 : decode cd_Model_isAsTold 37 = .ok (.iaload, 1) := by decide +kernel
theorem dc_Model_isAsTold_38 : decode cd_Model_isAsTold 38 = .ok (.if_icmp .eq 5, 3) := by decide +kernel
theorem dc_Model_isAsTold_41 : decode cd_Model_isAsTold 41 = .ok (.iconst 0, 1) := by decide +kernel
theorem dc_Model_isAsTold_42 : decode cd_Model_isAsTold 42 = .ok (.ireturn, 1) := by decide +kernel
theorem dc_Model_isAsTold_43 : decode cd_Model_isAsTold 43 = .ok (.iinc 1 1, 3) := by decide +kernel
theorem dc_Model_isAsTold_46 : decode cd_Model_isAsTold 46 = .ok (.goto (-40), 3) := by decide +kernel
theorem dc_Model_isAsTold_49 : decode cd_Model_isAsTold 49 = .ok (.iconst 1, 1) := by decide +kernel
theorem dc_Model_isAsTold_50 : decode cd_Model_isAsTold 50 = .ok (.ireturn, 1) := by decide +kernel
theorem dc_Model_readsAll_0 : decode cd_Model_readsAll 0 = .ok (.iconst 5, 1) := by decide +kernel
theorem dc_Model_readsAll_1 : decode cd_Model_readsAll 1 = .ok (.istore_n 1, 1) := by decide +kernel
theorem dc_Model_readsAll_2 : decode cd_Model_readsAll 2 = .ok (.iload_n 1, 1) := by decide +kernel
theorem dc_Model_readsAll_3 : decode cd_Model_readsAll 3 = .ok (.bipush 10, 2) := by decide +kernel
theorem dc_Model_readsAll_5 : decode cd_Model_readsAll 5 = .ok (.if_icmp .ge 16, 3) := by decide +kernel
theorem dc_Model_readsAll_8 : decode cd_Model_readsAll 8 = .ok (.aload_n 0, 1) := by decide +kernel
theorem dc_Model_readsAll_9 : decode cd_Model_readsAll 9 = .ok (.getfield 13, 3) := by decide +kernel
theorem dc_Model_readsAll_12 : decode cd_Model_readsAll 12 = .ok (.iload_n 1, 1) := by decide +kernel
theorem dc_Model_readsAll_13 : decode cd_Model_readsAll 13 = .ok (.iconst 0, 1) := by decide +kernel
theorem dc_Model_readsAll_14 : decode cd_Model_readsAll 14 = .ok (.iastore, 1) := by decide +kernel
theorem dc_Model_readsAll_15 : decode cd_Model_readsAll 15 = .ok (.iinc 1 1, 3) := by decide +kernel
theorem dc_Model_readsAll_18 : decode cd_Model_readsAll 18 = .ok (.goto (-16), 3) := by decide +kernel
theorem dc_Model_readsAll_21 : decode cd_Model_readsAll 21 = .ok (.bipush 36, 2) := by decide +kernel
theorem dc_Model_readsAll_23 : decode cd_Model_readsAll 23 = .ok (.istore_n 1, 1) := by decide +kernel
theorem dc_Model_readsAll_24 : decode cd_Model_readsAll 24 = .ok (.iload_n 1, 1) := by decide +kernel
theorem dc_Model_readsAll_25 : decode cd_Model_readsAll 25 = .ok (.bipush 72, 2) := by decide +kernel
theorem dc_Model_readsAll_27 : decode cd_Model_readsAll 27 = .ok (.if_icmp .ge 16, 3) := by decide +kernel
theorem dc_Model_readsAll_30 : decode cd_Model_readsAll 30 = .ok (.aload_n 0, 1) := by decide +kernel
theorem dc_Model_readsAll_31 : decode cd_Model_readsAll 31 = .ok (.getfield 26, 3) := by decide +kernel
theorem dc_Model_readsAll_34 : decode cd_Model_readsAll 34 = .ok (.iload_n 1, 1) := by decide +kernel
theorem dc_Model_readsAll_35 : decode cd_Model_readsAll 35 = .ok (.iconst 0, 1) := by decide +kernel
theorem dc_Model_readsAll_36 : decode cd_Model_readsAll 36 = .ok (.iastore, 1) := by decide +kernel
theorem dc_Model_readsAll_37 : decode cd_Model_readsAll 37 = .ok (.iinc 1 1, 3) := by decide +kernel
theorem dc_Model_readsAll_40 : decode cd_Model_readsAll 40 = .ok (.goto (-16), 3) := by decide +kernel
theorem dc_Model_readsAll_43 : decode cd_Model_readsAll 43 = .ok (.aload_n 0, 1) := by decide +kernel
theorem dc_Model_readsAll_44 : decode cd_Model_readsAll 44 = .ok (.getfield 62, 3) := by decide +kernel
theorem dc_Model_readsAll_47 : decode cd_Model_readsAll 47 = .ok (.iconst 1, 1) := by decide +kernel
theorem dc_Model_readsAll_48 : decode cd_Model_readsAll 48 = .ok (.sipush 1000, 3) := by decide +kernel
theorem dc_Model_readsAll_51 : decode cd_Model_readsAll 51 = .ok (.iastore, 1) := by decide +kernel
theorem dc_Model_readsAll_52 : decode cd_Model_readsAll 52 = .ok (.aload_n 0, 1) := by decide +kernel
theorem dc_Model_readsAll_53 : decode cd_Model_readsAll 53 = .ok (.getfield 65, 3) := by decide +kernel
theorem dc_Model_readsAll_56 : decode cd_Model_readsAll 56 = .ok (.iconst 1, 1) := by decide +kernel
theorem dc_Model_readsAll_57 : decode cd_Model_readsAll 57 = .ok (.sipush 1000, 3) := by decide +kernel
theorem dc_Model_readsAll_60 : decode cd_Model_readsAll 60 = .ok (.iastore, 1) := by decide +kernel
theorem dc_Model_readsAll_61 : decode cd_Model_readsAll 61 = .ok (.aload_n 0, 1) := by decide +kernel
theorem dc_Model_readsAll_62 : decode cd_Model_readsAll 62 = .ok (.sipush 1000, 3) := by decide +kernel
theorem dc_Model_readsAll_65 : decode cd_Model_readsAll 65 = .ok (.putfield 222, 3) := by decide +kernel
theorem dc_Model_readsAll_68 : decode cd_Model_readsAll 68 = .ok (.aload_n 0, 1) := by decide +kernel
theorem dc_Model_readsAll_69 : decode cd_Model_readsAll 69 = .ok (.invokevirtual 373, 3) := by decide +kernel
theorem dc_Model_readsAll_72 : decode cd_Model_readsAll 72 = .ok (.aload_n 0, 1) := by decide +kernel
theorem dc_Model_readsAll_73 : decode cd_Model_readsAll 73 = .ok (.getfield 208, 3) := by decide +kernel
theorem dc_Model_readsAll_76 : decode cd_Model_readsAll 76 = .ok (.ifCond .eq 120, 3) := by decide +kernel
theorem dc_Model_readsAll_79 : decode cd_Model_readsAll 79 = .ok (.aload_n 0, 1) := by decide +kernel
theorem dc_Model_readsAll_80 : decode cd_Model_readsAll 80 = .ok (.ldc2_w 268, 3) := by decide +kernel
theorem dc_Model_readsAll_83 : decode cd_Model_readsAll 83 = .ok (.invokevirtual 237, 3) := by decide +kernel
theorem dc_Model_readsAll_86 : decode cd_Model_readsAll 86 = .ok (.ifCond .eq 10, 3) := by decide +kernel
theorem dc_Model_readsAll_89 : decode cd_Model_readsAll 89 = .ok (.aload_n 0, 1) := by decide +kernel
theorem dc_Model_readsAll_90 : decode cd_Model_readsAll 90 = .ok (.invokevirtual 376, 3) := by decide +kernel
theorem dc_Model_readsAll_93 : decode cd_Model_readsAll 93 = .ok (.goto 93, 3) := by decide +kernel
theorem dc_Model_readsAll_96 : decode cd_Model_readsAll 96 = .ok (.aload_n 0, 1) := by decide +kernel
theorem dc_Model_readsAll_97 : decode cd_Model_readsAll 97 = .ok (.ldc2_w 270, 3) := by decide +kernel
theorem dc_Model_readsAll_100 : decode cd_Model_readsAll 100 = .ok (.invokevirtual 237, 3) := by decide +kernel
theorem dc_Model_readsAll_103 : decode cd_Model_readsAll 103 = .ok (.ifCond .eq 10, 3) := by decide +kernel
theorem dc_Model_readsAll_106 : decode cd_Model_readsAll 106 = .ok (.aload_n 0, 1) := by decide +kernel
theorem dc_Model_readsAll_107 : decode cd_Model_readsAll 107 = .ok (.invokevirtual 379, 3) := by decide +kernel
theorem dc_Model_readsAll_110 : decode cd_Model_readsAll 110 = .ok (.goto 76, 3) := by decide +kernel
theorem dc_Model_readsAll_113 : decode cd_Model_readsAll 113 = .ok (.aload_n 0, 1) := by decide +kernel
theorem dc_Model_readsAll_114 : decode cd_Model_readsAll 114 = .ok (.ldc2_w 272, 3) := by decide +kernel
theorem dc_Model_readsAll_117 : decode cd_Model_readsAll 117 = .ok (.invokevirtual 237, 3) := by decide +kernel
theorem dc_Model_readsAll_120 : decode cd_Model_readsAll 120 = .ok (.ifCond .eq 10, 3) := by decide +kernel
theorem dc_Model_readsAll_123 : decode cd_Model_readsAll 123 = .ok (.aload_n 0, 1) := by decide +kernel
theorem dc_Model_readsAll_124 : decode cd_Model_readsAll 124 = .ok (.invokevirtual 382, 3) := by decide +kernel
theorem dc_Model_readsAll_127 : decode cd_Model_readsAll 127 = .ok (.goto 59, 3) := by decide +kernel
theorem dc_Model_readsAll_130 : decode cd_Model_readsAll 130 = .ok (.aload_n 0, 1) := by decide +kernel
theorem dc_Model_readsAll_131 : decode cd_Model_readsAll 131 = .ok (.ldc2_w 282, 3) := by decide +kernel
theorem dc_Model_readsAll_134 : decode cd_Model_readsAll 134 = .ok (.invokevirtual 237, 3) := by decide +kernel
theorem dc_Model_readsAll_137 : decode cd_Model_readsAll 137 = .ok (.ifCond .eq 10, 3) := by decide +kernel
theorem dc_Model_readsAll_140 : decode cd_Model_readsAll 140 = .ok (.aload_n 0, 1) := by decide +kernel
theorem dc_Model_readsAll_141 : decode cd_Model_readsAll 141 = .ok (.invokevirtual 385, 3) := by decide +kernel
theorem dc_Model_readsAll_144 : decode cd_Model_readsAll 144 = .ok (.goto 42, 3) := by decide +kernel
theorem dc_Model_readsAll_147 : decode cd_Model_readsAll 147 = .ok (.aload_n 0, 1) := by decide +kernel
theorem dc_Model_readsAll_148 : decode cd_Model_readsAll 148 = .ok (.ldc2_w 288, 3) := by decide +kernel
theorem dc_Model_readsAll_151 : decode cd_Model_readsAll 151 = .ok (.invokevirtual 237, 3) := by decide +kernel
theorem dc_Model_readsAll_154 : decode cd_Model_readsAll 154 = .ok (.ifCond .eq 10, 3) := by decide +kernel
theorem dc_Model_readsAll_157 : decode cd_Model_readsAll 157 = .ok (.aload_n 0, 1) := by decide +kernel
theorem dc_Model_readsAll_158 : decode cd_Model_readsAll 158 = .ok (.invokevirtual 388, 3) := by decide +kernel
theorem dc_Model_readsAll_161 : decode cd_Model_readsAll 161 = .ok (.goto 25, 3) := by decide +kernel
theorem dc_Model_readsAll_164 : decode cd_Model_readsAll 164 = .ok (.aload_n 0, 1) := by decide +kernel
theorem dc_Model_readsAll_165 : decode cd_Model_readsAll 165 = .ok (.ldc2_w 294, 3) := by decide +kernel
theorem dc_Model_readsAll_168 : decode cd_Model_readsAll 168 = .ok (.invokevirtual 237, 3) := by decide +kernel
theorem dc_Model_readsAll_171 : decode cd_Model_readsAll 171 = .ok (.ifCond .eq 10, 3) := by decide +kernel
theorem dc_Model_readsAll_174 : decode cd_Model_readsAll 174 = .ok (.aload_n 0, 1) := by decide +kernel
theorem dc_Model_readsAll_175 : decode cd_Model_readsAll 175 = .ok (.invokevirtual 391, 3) := by decide +kernel
theorem dc_Model_readsAll_178 : decode cd_Model_readsAll 178 = .ok (.goto 8, 3) := by decide +kernel
theorem dc_Model_readsAll_181 : decode cd_Model_readsAll 181 = .ok (.aload_n 0, 1) := by decide +kernel
theorem dc_Model_readsAll_182 : decode cd_Model_readsAll 182 = .ok (.iconst 1, 1) := by decide +kernel
theorem dc_Model_readsAll_183 : decode cd_Model_readsAll 183 = .ok (.invokevirtual 245, 3) := by decide +kernel
theorem dc_Model_readsAll_186 : decode cd_Model_readsAll 186 = .ok (.istore_n 1, 1) := by decide +kernel
theorem dc_Model_readsAll_187 : decode cd_Model_readsAll 187 = .ok (.iload_n 1, 1) := by decide +kernel
theorem dc_Model_readsAll_188 : decode cd_Model_readsAll 188 = .ok (.ifCond .ne 5, 3) := by decide +kernel
theorem dc_Model_readsAll_191 : decode cd_Model_readsAll 191 = .ok (.iconst 0, 1) := by decide +kernel
theorem dc_Model_readsAll_192 : decode cd_Model_readsAll 192 = .ok (.ireturn, 1) := by decide +kernel
theorem dc_Model_readsAll_193 : decode cd_Model_readsAll 193 = .ok (.goto (-121), 3) := by decide +kernel
theorem dc_Model_readsAll_196 : decode cd_Model_readsAll 196 = .ok (.iconst 1, 1) := by decide +kernel
theorem dc_Model_readsAll_197 : decode cd_Model_readsAll 197 = .ok (.ireturn, 1) := by decide +kernel
theorem dc_Model_day_0 : decode cd_Model_day 0 = .ok (.aload_n 0, 1) := by decide +kernel
theorem dc_Model_day_1 : decode cd_Model_day 1 = .ok (.iconst 0, 1) := by decide +kernel
theorem dc_Model_day_2 : decode cd_Model_day 2 = .ok (.putfield 183, 3) := by decide +kernel
theorem dc_Model_day_5 : decode cd_Model_day 5 = .ok (.aload_n 0, 1) := by decide +kernel
theorem dc_Model_day_6 : decode cd_Model_day 6 = .ok (.invokevirtual 486, 3) := by decide +kernel
theorem dc_Model_day_9 : decode cd_Model_day 9 = .ok (.aload_n 0, 1) := by decide +kernel
theorem dc_Model_day_10 : decode cd_Model_day 10 = .ok (.invokevirtual 501, 3) := by decide +kernel
theorem dc_Model_day_13 : decode cd_Model_day 13 = .ok (.ireturn, 1) := by decide +kernel
theorem dc_Model_goes_0 : decode cd_Model_goes 0 = .ok (.aload_n 0, 1) := by decide +kernel
theorem dc_Model_goes_1 : decode cd_Model_goes 1 = .ok (.getfield 111, 3) := by decide +kernel
theorem dc_Model_goes_4 : decode cd_Model_goes 4 = .ok (.iload_n 1, 1) := by decide +kernel
theorem dc_Model_goes_5 : decode cd_Model_goes 5 = .ok (.iaload, 1) := by decide +kernel
theorem dc_Model_goes_6 : decode cd_Model_goes 6 = .ok (.istore_n 2, 1) := by decide +kernel
theorem dc_Model_goes_7 : decode cd_Model_goes 7 = .ok (.aload_n 0, 1) := by decide +kernel
theorem dc_Model_goes_8 : decode cd_Model_goes 8 = .ok (.getfield 114, 3) := by decide +kernel
theorem dc_Model_goes_11 : decode cd_Model_goes 11 = .ok (.iload_n 1, 1) := by decide +kernel
theorem dc_Model_goes_12 : decode cd_Model_goes 12 = .ok (.iaload, 1) := by decide +kernel
theorem dc_Model_goes_13 : decode cd_Model_goes 13 = .ok (.istore_n 3, 1) := by decide +kernel
theorem dc_Model_goes_14 : decode cd_Model_goes 14 = .ok (.aload_n 0, 1) := by decide +kernel
theorem dc_Model_goes_15 : decode cd_Model_goes 15 = .ok (.getfield 117, 3) := by decide +kernel
theorem dc_Model_goes_18 : decode cd_Model_goes 18 = .ok (.iload_n 1, 1) := by decide +kernel
theorem dc_Model_goes_19 : decode cd_Model_goes 19 = .ok (.iaload, 1) := by decide +kernel
theorem dc_Model_goes_20 : decode cd_Model_goes 20 = .ok (.istore 4, 2) := by decide +kernel
theorem dc_Model_goes_22 : decode cd_Model_goes 22 = .ok (.iload_n 2, 1) := by decide +kernel
theorem dc_Model_goes_23 : decode cd_Model_goes 23 = .ok (.ifCond .ne 16, 3) := by decide +kernel
theorem dc_Model_goes_26 : decode cd_Model_goes 26 = .ok (.aload_n 0, 1) := by decide +kernel
theorem dc_Model_goes_27 : decode cd_Model_goes 27 = .ok (.getfield 135, 3) := by decide +kernel
theorem dc_Model_goes_30 : decode cd_Model_goes 30 = .ok (.iconst 4, 1) := by decide +kernel
theorem dc_Model_goes_31 : decode cd_Model_goes 31 = .ok (.iload_n 3, 1) := by decide +kernel
theorem dc_Model_goes_32 : decode cd_Model_goes 32 = .ok (.iadd, 1) := by decide +kernel
theorem dc_Model_goes_33 : decode cd_Model_goes 33 = .ok (.iload 4, 2) := by decide +kernel
theorem dc_Model_goes_35 : decode cd_Model_goes 35 = .ok (.iastore, 1) := by decide +kernel
theorem dc_Model_goes_36 : decode cd_Model_goes 36 = .ok (.goto 112, 3) := by decide +kernel
theorem dc_Model_goes_39 : decode cd_Model_goes 39 = .ok (.iload_n 2, 1) := by decide +kernel
theorem dc_Model_goes_40 : decode cd_Model_goes 40 = .ok (.iconst 1, 1) := by decide +kernel
theorem dc_Model_goes_41 : decode cd_Model_goes 41 = .ok (.if_icmp .ne 30, 3) := by decide +kernel
theorem dc_Model_goes_44 : decode cd_Model_goes 44 = .ok (.aload_n 0, 1) := by decide +kernel
theorem dc_Model_goes_45 : decode cd_Model_goes 45 = .ok (.iload_n 3, 1) := by decide +kernel
theorem dc_Model_goes_46 : decode cd_Model_goes 46 = .ok (.invokevirtual 489, 3) := by decide +kernel
theorem dc_Model_goes_49 : decode cd_Model_goes 49 = .ok (.ifCond .ne 5, 3) := by decide +kernel
theorem dc_Model_goes_52 : decode cd_Model_goes 52 = .ok (.iconst 0, 1) := by decide +kernel
theorem dc_Model_goes_53 : decode cd_Model_goes 53 = .ok (.ireturn, 1) := by decide +kernel
theorem dc_Model_goes_54 : decode cd_Model_goes 54 = .ok (.aload_n 0, 1) := by decide +kernel
theorem dc_Model_goes_55 : decode cd_Model_goes 55 = .ok (.getfield 135, 3) := by decide +kernel
theorem dc_Model_goes_58 : decode cd_Model_goes 58 = .ok (.iconst 2, 1) := by decide +kernel
theorem dc_Model_goes_59 : decode cd_Model_goes 59 = .ok (.dup2, 1) := by decide +kernel
theorem dc_Model_goes_60 : decode cd_Model_goes 60 = .ok (.iaload, 1) := by decide +kernel
theorem dc_Model_goes_61 : decode cd_Model_goes 61 = .ok (.iconst 1, 1) := by decide +kernel
theorem dc_Model_goes_62 : decode cd_Model_goes 62 = .ok (.iload_n 3, 1) := by decide +kernel
theorem dc_Model_goes_63 : decode cd_Model_goes 63 = .ok (.ishl, 1) := by decide +kernel
theorem dc_Model_goes_64 : decode cd_Model_goes 64 = .ok (.iconst (-1), 1) := by decide +kernel
theorem dc_Model_goes_65 : decode cd_Model_goes 65 = .ok (.ixor, 1) := by decide +kernel
theorem dc_Model_goes_66 : decode cd_Model_goes 66 = .ok (.iand, 1) := by decide +kernel
theorem dc_Model_goes_67 : decode cd_Model_goes 67 = .ok (.iastore, 1) := by decide +kernel
theorem dc_Model_goes_68 : decode cd_Model_goes 68 = .ok (.goto 80, 3) := by decide +kernel
theorem dc_Model_goes_71 : decode cd_Model_goes 71 = .ok (.iload_n 2, 1) := by decide +kernel
theorem dc_Model_goes_72 : decode cd_Model_goes 72 = .ok (.iconst 2, 1) := by decide +kernel
theorem dc_Model_goes_73 : decode cd_Model_goes 73 = .ok (.if_icmp .ne 43, 3) := by decide +kernel
theorem dc_Model_goes_76 : decode cd_Model_goes 76 = .ok (.aload_n 0, 1) := by decide +kernel
theorem dc_Model_goes_77 : decode cd_Model_goes 77 = .ok (.getfield 135, 3) := by decide +kernel
theorem dc_Model_goes_80 : decode cd_Model_goes 80 = .ok (.bipush 10, 2) := by decide +kernel
theorem dc_Model_goes_82 : decode cd_Model_goes 82 = .ok (.iload_n 3, 1) := by decide +kernel
theorem dc_Model_goes_83 : decode cd_Model_goes 83 = .ok (.iadd, 1) := by decide +kernel
theorem dc_Model_goes_84 : decode cd_Model_goes 84 = .ok (.iaload, 1) := by decide +kernel
theorem dc_Model_goes_85 : decode cd_Model_goes 85 = .ok (.iload 4, 2) := by decide +kernel
theorem dc_Model_goes_87 : decode cd_Model_goes 87 = .ok (.if_icmp .eq 13, 3) := by decide +kernel
theorem dc_Model_goes_90 : decode cd_Model_goes 90 = .ok (.aload_n 0, 1) := by decide +kernel
theorem dc_Model_goes_91 : decode cd_Model_goes 91 = .ok (.iload_n 3, 1) := by decide +kernel
theorem dc_Model_goes_92 : decode cd_Model_goes 92 = .ok (.iload 4, 2) := by decide +kernel
theorem dc_Model_goes_94 : decode cd_Model_goes 94 = .ok (.invokevirtual 495, 3) := by decide +kernel
theorem dc_Model_goes_97 : decode cd_Model_goes 97 = .ok (.ifCond .ne 5, 3) := by decide +kernel
theorem dc_Model_goes_100 : decode cd_Model_goes 100 = .ok (.iconst 0, 1) := by decide +kernel
theorem dc_Model_goes_101 : decode cd_Model_goes 101 = .ok (.ireturn, 1) := by decide +kernel
theorem dc_Model_goes_102 : decode cd_Model_goes 102 = .ok (.aload_n 0, 1) := by decide +kernel
theorem dc_Model_goes_103 : decode cd_Model_goes 103 = .ok (.getfield 135, 3) := by decide +kernel
theorem dc_Model_goes_106 : decode cd_Model_goes 106 = .ok (.bipush 10, 2) := by decide +kernel
theorem dc_Model_goes_108 : decode cd_Model_goes 108 = .ok (.iload_n 3, 1) := by decide +kernel
theorem dc_Model_goes_109 : decode cd_Model_goes 109 = .ok (.iadd, 1) := by decide +kernel
theorem dc_Model_goes_110 : decode cd_Model_goes 110 = .ok (.iload 4, 2) := by decide +kernel
theorem dc_Model_goes_112 : decode cd_Model_goes 112 = .ok (.iastore, 1) := by decide +kernel
theorem dc_Model_goes_113 : decode cd_Model_goes 113 = .ok (.goto 35, 3) := by decide +kernel
theorem dc_Model_goes_116 : decode cd_Model_goes 116 = .ok (.iload_n 2, 1) := by decide +kernel
theorem dc_Model_goes_117 : decode cd_Model_goes 117 = .ok (.iconst 3, 1) := by decide +kernel
theorem dc_Model_goes_118 : decode cd_Model_goes 118 = .ok (.if_icmp .ne 25, 3) := by decide +kernel
theorem dc_Model_goes_121 : decode cd_Model_goes 121 = .ok (.aload_n 0, 1) := by decide +kernel
theorem dc_Model_goes_122 : decode cd_Model_goes 122 = .ok (.getfield 135, 3) := by decide +kernel
theorem dc_Model_goes_125 : decode cd_Model_goes 125 = .ok (.iconst 3, 1) := by decide +kernel
theorem dc_Model_goes_126 : decode cd_Model_goes 126 = .ok (.iaload, 1) := by decide +kernel
theorem dc_Model_goes_127 : decode cd_Model_goes 127 = .ok (.iconst 1, 1) := by decide +kernel
theorem dc_Model_goes_128 : decode cd_Model_goes 128 = .ok (.if_icmp .ne 5, 3) := by decide +kernel
theorem dc_Model_goes_131 : decode cd_Model_goes 131 = .ok (.iconst 0, 1) := by decide +kernel
theorem dc_Model_goes_132 : decode cd_Model_goes 132 = .ok (.ireturn, 1) := by decide +kernel
theorem dc_Model_goes_133 : decode cd_Model_goes 133 = .ok (.aload_n 0, 1) := by decide +kernel
theorem dc_Model_goes_134 : decode cd_Model_goes 134 = .ok (.getfield 135, 3) := by decide +kernel
theorem dc_Model_goes_137 : decode cd_Model_goes 137 = .ok (.iconst 3, 1) := by decide +kernel
theorem dc_Model_goes_138 : decode cd_Model_goes 138 = .ok (.iconst 1, 1) := by decide +kernel
theorem dc_Model_goes_139 : decode cd_Model_goes 139 = .ok (.iastore, 1) := by decide +kernel
theorem dc_Model_goes_140 : decode cd_Model_goes 140 = .ok (.goto 8, 3) := by decide +kernel
theorem dc_Model_goes_143 : decode cd_Model_goes 143 = .ok (.aload_n 0, 1) := by decide +kernel
theorem dc_Model_goes_144 : decode cd_Model_goes 144 = .ok (.invokevirtual 501, 3) := by decide +kernel
theorem dc_Model_goes_147 : decode cd_Model_goes 147 = .ok (.pop, 1) := by decide +kernel
theorem dc_Model_goes_148 : decode cd_Model_goes 148 = .ok (.iconst 1, 1) := by decide +kernel
theorem dc_Model_goes_149 : decode cd_Model_goes 149 = .ok (.ireturn, 1) := by decide +kernel
theorem dc_Model_look_0 : decode cd_Model_look 0 = .ok (.aload_n 0, 1) := by decide +kernel
theorem dc_Model_look_1 : decode cd_Model_look 1 = .ok (.iconst 0, 1) := by decide +kernel
theorem dc_Model_look_2 : decode cd_Model_look 2 = .ok (.putfield 183, 3) := by decide +kernel
theorem dc_Model_look_5 : decode cd_Model_look 5 = .ok (.aload_n 0, 1) := by decide +kernel
theorem dc_Model_look_6 : decode cd_Model_look 6 = .ok (.iconst 0, 1) := by decide +kernel
theorem dc_Model_look_7 : decode cd_Model_look 7 = .ok (.invokevirtual 516, 3) := by decide +kernel
theorem dc_Model_look_10 : decode cd_Model_look 10 = .ok (.istore_n 1, 1) := by decide +kernel
theorem dc_Model_look_11 : decode cd_Model_look 11 = .ok (.iconst (-1), 1) := by decide +kernel
theorem dc_Model_look_12 : decode cd_Model_look 12 = .ok (.istore_n 2, 1) := by decide +kernel
theorem dc_Model_look_13 : decode cd_Model_look 13 = .ok (.iconst 0, 1) := by decide +kernel
theorem dc_Model_look_14 : decode cd_Model_look 14 = .ok (.istore_n 3, 1) := by decide +kernel
theorem dc_Model_look_15 : decode cd_Model_look 15 = .ok (.iload_n 3, 1) := by decide +kernel
theorem dc_Model_look_16 : decode cd_Model_look 16 = .ok (.aload_n 0, 1) := by decide +kernel
theorem dc_Model_look_17 : decode cd_Model_look 17 = .ok (.getfield 13, 3) := by decide +kernel
theorem dc_Model_look_20 : decode cd_Model_look 20 = .ok (.iconst 0, 1) := by decide +kernel
theorem dc_Model_look_21 : decode cd_Model_look 21 = .ok (.iaload, 1) := by decide +kernel
theorem dc_Model_look_22 : decode cd_Model_look 22 = .ok (.if_icmp .ge 30, 3) := by decide +kernel
theorem dc_Model_look_25 : decode cd_Model_look 25 = .ok (.aload_n 0, 1) := by decide +kernel
theorem dc_Model_look_26 : decode cd_Model_look 26 = .ok (.iload_n 3, 1) := by decide +kernel
theorem dc_Model_look_27 : decode cd_Model_look 27 = .ok (.invokevirtual 519, 3) := by decide +kernel
theorem dc_Model_look_30 : decode cd_Model_look 30 = .ok (.istore 4, 2) := by decide +kernel
theorem dc_Model_look_32 : decode cd_Model_look 32 = .ok (.iload 4, 2) := by decide +kernel
theorem dc_Model_look_34 : decode cd_Model_look 34 = .ok (.iload_n 1, 1) := by decide +kernel
theorem dc_Model_look_35 : decode cd_Model_look 35 = .ok (.if_icmp .lt 6, 3) := by decide +kernel
theorem dc_Model_look_38 : decode cd_Model_look 38 = .ok (.goto 8, 3) := by decide +kernel
theorem dc_Model_look_41 : decode cd_Model_look 41 = .ok (.iload 4, 2) := by decide +kernel
theorem dc_Model_look_43 : decode cd_Model_look 43 = .ok (.istore_n 1, 1) := by decide +kernel
theorem dc_Model_look_44 : decode cd_Model_look 44 = .ok (.iload_n 3, 1) := by decide +kernel
theorem dc_Model_look_45 : decode cd_Model_look 45 = .ok (.istore_n 2, 1) := by decide +kernel
theorem dc_Model_look_46 : decode cd_Model_look 46 = .ok (.iinc 3 1, 3) := by decide +kernel
theorem dc_Model_look_49 : decode cd_Model_look 49 = .ok (.goto (-34), 3) := by decide +kernel
theorem dc_Model_look_52 : decode cd_Model_look 52 = .ok (.iload_n 2, 1) := by decide +kernel
theorem dc_Model_look_53 : decode cd_Model_look 53 = .ok (.ireturn, 1) := by decide +kernel
theorem dc_Model_sets_0 : decode cd_Model_sets 0 = .ok (.aload_n 0, 1) := by decide +kernel
theorem dc_Model_sets_1 : decode cd_Model_sets 1 = .ok (.iconst 0, 1) := by decide +kernel
theorem dc_Model_sets_2 : decode cd_Model_sets 2 = .ok (.putfield 183, 3) := by decide +kernel
theorem dc_Model_sets_5 : decode cd_Model_sets 5 = .ok (.iload_n 1, 1) := by decide +kernel
theorem dc_Model_sets_6 : decode cd_Model_sets 6 = .ok (.iconst 1, 1) := by decide +kernel
theorem dc_Model_sets_7 : decode cd_Model_sets 7 = .ok (.bipush 60, 2) := by decide +kernel
theorem dc_Model_sets_9 : decode cd_Model_sets 9 = .ok (.invokestatic 318, 3) := by decide +kernel
theorem dc_Model_sets_12 : decode cd_Model_sets 12 = .ok (.ifCond .eq 12, 3) := by decide +kernel
theorem dc_Model_sets_15 : decode cd_Model_sets 15 = .ok (.iload_n 2, 1) := by decide +kernel
theorem dc_Model_sets_16 : decode cd_Model_sets 16 = .ok (.iconst 0, 1) := by decide +kernel
theorem dc_Model_sets_17 : decode cd_Model_sets 17 = .ok (.iconst 3, 1) := by decide +kernel
theorem dc_Model_sets_18 : decode cd_Model_sets 18 = .ok (.invokestatic 318, 3) := by decide +kernel
theorem dc_Model_sets_21 : decode cd_Model_sets 21 = .ok (.ifCond .ne 5, 3) := by decide +kernel
theorem dc_Model_sets_24 : decode cd_Model_sets 24 = .ok (.iconst (-1), 1) := by decide +kernel
theorem dc_Model_sets_25 : decode cd_Model_sets 25 = .ok (.ireturn, 1) := by decide +kernel
theorem dc_Model_sets_26 : decode cd_Model_sets 26 = .ok (.aload_n 0, 1) := by decide +kernel
theorem dc_Model_sets_27 : decode cd_Model_sets 27 = .ok (.getfield 135, 3) := by decide +kernel
theorem dc_Model_sets_30 : decode cd_Model_sets 30 = .ok (.iconst 0, 1) := by decide +kernel
theorem dc_Model_sets_31 : decode cd_Model_sets 31 = .ok (.aload_n 0, 1) := by decide +kernel
theorem dc_Model_sets_32 : decode cd_Model_sets 32 = .ok (.getfield 138, 3) := by decide +kernel
theorem dc_Model_sets_35 : decode cd_Model_sets 35 = .ok (.iconst 0, 1) := by decide +kernel
theorem dc_Model_sets_36 : decode cd_Model_sets 36 = .ok (.invokestatic 482, 3) := by decide +kernel
theorem dc_Model_sets_39 : decode cd_Model_sets 39 = .ok (.iconst 0, 1) := by decide +kernel
theorem dc_Model_sets_40 : decode cd_Model_sets 40 = .ok (.istore_n 3, 1) := by decide +kernel
theorem dc_Model_sets_41 : decode cd_Model_sets 41 = .ok (.aload_n 0, 1) := by decide +kernel
theorem dc_Model_sets_42 : decode cd_Model_sets 42 = .ok (.invokevirtual 402, 3) := by decide +kernel
theorem dc_Model_sets_45 : decode cd_Model_sets 45 = .ok (.istore 4, 2) := by decide +kernel
theorem dc_Model_sets_47 : decode cd_Model_sets 47 = .ok (.iconst 0, 1) := by decide +kernel
theorem dc_Model_sets_48 : decode cd_Model_sets 48 = .ok (.istore 5, 2) := by decide +kernel
theorem dc_Model_sets_50 : decode cd_Model_sets 50 = .ok (.iconst (-1), 1) := by decide +kernel
theorem dc_Model_sets_51 : decode cd_Model_sets 51 = .ok (.istore 6, 2) := by decide +kernel
theorem dc_Model_sets_53 : decode cd_Model_sets 53 = .ok (.iconst 0, 1) := by decide +kernel
theorem dc_Model_sets_54 : decode cd_Model_sets 54 = .ok (.istore 7, 2) := by decide +kernel
theorem dc_Model_sets_56 : decode cd_Model_sets 56 = .ok (.iload 7, 2) := by decide +kernel
theorem dc_Model_sets_58 : decode cd_Model_sets 58 = .ok (.aload_n 0, 1) := by decide +kernel
theorem dc_Model_sets_59 : decode cd_Model_sets 59 = .ok (.invokevirtual 402, 3) := by decide +kernel
theorem dc_Model_sets_62 : decode cd_Model_sets 62 = .ok (.if_icmp .gt 123, 3) := by decide +kernel
theorem dc_Model_sets_65 : decode cd_Model_sets 65 = .ok (.iconst 0, 1) := by decide +kernel
theorem dc_Model_sets_66 : decode cd_Model_sets 66 = .ok (.istore 8, 2) := by decide +kernel
theorem dc_Model_sets_68 : decode cd_Model_sets 68 = .ok (.iload 8, 2) := by decide +kernel
theorem dc_Model_sets_70 : decode cd_Model_sets 70 = .ok (.aload_n 0, 1) := by decide +kernel
theorem dc_Model_sets_71 : decode cd_Model_sets 71 = .ok (.getfield 13, 3) := by decide +kernel
theorem dc_Model_sets_74 : decode cd_Model_sets 74 = .ok (.iconst 1, 1) := by decide +kernel
theorem dc_Model_sets_75 : decode cd_Model_sets 75 = .ok (.iaload, 1) := by decide +kernel
theorem dc_Model_sets_76 : decode cd_Model_sets 76 = .ok (.if_icmp .ge 37, 3) := by decide +kernel
theorem dc_Model_sets_79 : decode cd_Model_sets 79 = .ok (.aload_n 0, 1) := by decide +kernel
theorem dc_Model_sets_80 : decode cd_Model_sets 80 = .ok (.getfield 135, 3) := by decide +kernel
theorem dc_Model_sets_83 : decode cd_Model_sets 83 = .ok (.iconst 4, 1) := by decide +kernel
theorem dc_Model_sets_84 : decode cd_Model_sets 84 = .ok (.iload 8, 2) := by decide +kernel
theorem dc_Model_sets_86 : decode cd_Model_sets 86 = .ok (.iadd, 1) := by decide +kernel
theorem dc_Model_sets_87 : decode cd_Model_sets 87 = .ok (.dup2, 1) := by decide +kernel
theorem dc_Model_sets_88 : decode cd_Model_sets 88 = .ok (.iaload, 1) := by decide +kernel
theorem dc_Model_sets_89 : decode cd_Model_sets 89 = .ok (.iload 7, 2) := by decide +kernel
theorem dc_Model_sets_91 : decode cd_Model_sets 91 = .ok (.iload 8, 2) := by decide +kernel
theorem dc_Model_sets_93 : decode cd_Model_sets 93 = .ok (.ishr, 1) := by decide +kernel
theorem dc_Model_sets_94 : decode cd_Model_sets 94 = .ok (.iconst 1, 1) := by decide +kernel
theorem dc_Model_sets_95 : decode cd_Model_sets 95 = .ok (.iand, 1) := by decide +kernel
theorem dc_Model_sets_96 : decode cd_Model_sets 96 = .ok (.iconst 1, 1) := by decide +kernel
theorem dc_Model_sets_97 : decode cd_Model_sets 97 = .ok (.if_icmp .ne 7, 3) := by decide +kernel
theorem dc_Model_sets_100 : decode cd_Model_sets 100 = .ok (.iload_n 1, 1) := by decide +kernel
theorem dc_Model_sets_101 : decode cd_Model_sets 101 = .ok (.goto 4, 3) := by decide +kernel
theorem dc_Model_sets_104 : decode cd_Model_sets 104 = .ok (.iconst 0, 1) := by decide +kernel
theorem dc_Model_sets_105 : decode cd_Model_sets 105 = .ok (.iadd, 1) := by decide +kernel
theorem dc_Model_sets_106 : decode cd_Model_sets 106 = .ok (.iastore, 1) := by decide +kernel
theorem dc_Model_sets_107 : decode cd_Model_sets 107 = .ok (.iinc 8 1, 3) := by decide +kernel
theorem dc_Model_sets_110 : decode cd_Model_sets 110 = .ok (.goto (-42), 3) := by decide +kernel
theorem dc_Model_sets_113 : decode cd_Model_sets 113 = .ok (.aload_n 0, 1) := by decide +kernel
theorem dc_Model_sets_114 : decode cd_Model_sets 114 = .ok (.invokevirtual 539, 3) := by decide +kernel
theorem dc_Model_sets_117 : decode cd_Model_sets 117 = .ok (.istore 8, 2) := by decide +kernel
theorem dc_Model_sets_119 : decode cd_Model_sets 119 = .ok (.aload_n 0, 1) := by decide +kernel
theorem dc_Model_sets_120 : decode cd_Model_sets 120 = .ok (.getfield 138, 3) := by decide +kernel
theorem dc_Model_sets_123 : decode cd_Model_sets 123 = .ok (.iconst 0, 1) := by decide +kernel
theorem dc_Model_sets_124 : decode cd_Model_sets 124 = .ok (.aload_n 0, 1) := by decide +kernel
theorem dc_Model_sets_125 : decode cd_Model_sets 125 = .ok (.getfield 135, 3) := by decide +kernel
theorem dc_Model_sets_128 : decode cd_Model_sets 128 = .ok (.iconst 0, 1) := by decide +kernel
theorem dc_Model_sets_129 : decode cd_Model_sets 129 = .ok (.invokestatic 482, 3) := by decide +kernel
theorem dc_Model_sets_132 : decode cd_Model_sets 132 = .ok (.iload 8, 2) := by decide +kernel
theorem dc_Model_sets_134 : decode cd_Model_sets 134 = .ok (.ifCond .ne 6, 3) := by decide +kernel
theorem dc_Model_sets_137 : decode cd_Model_sets 137 = .ok (.goto 42, 3) := by decide +kernel
theorem dc_Model_sets_140 : decode cd_Model_sets 140 = .ok (.iinc 3 1, 3) := by decide +kernel
theorem dc_Model_sets_143 : decode cd_Model_sets 143 = .ok (.iload 4, 2) := by decide +kernel
theorem dc_Model_sets_145 : decode cd_Model_sets 145 = .ok (.iload 7, 2) := by decide +kernel
theorem dc_Model_sets_147 : decode cd_Model_sets 147 = .ok (.iand, 1) := by decide +kernel
theorem dc_Model_sets_148 : decode cd_Model_sets 148 = .ok (.istore 4, 2) := by decide +kernel
theorem dc_Model_sets_150 : decode cd_Model_sets 150 = .ok (.iload 5, 2) := by decide +kernel
theorem dc_Model_sets_152 : decode cd_Model_sets 152 = .ok (.iload 7, 2) := by decide +kernel
theorem dc_Model_sets_154 : decode cd_Model_sets 154 = .ok (.ior, 1) := by decide +kernel
theorem dc_Model_sets_155 : decode cd_Model_sets 155 = .ok (.istore 5, 2) := by decide +kernel
theorem dc_Model_sets_157 : decode cd_Model_sets 157 = .ok (.iload 6, 2) := by decide +kernel
theorem dc_Model_sets_159 : decode cd_Model_sets 159 = .ok (.ifCond .lt 16, 3) := by decide +kernel
theorem dc_Model_sets_162 : decode cd_Model_sets 162 = .ok (.iload 7, 2) := by decide +kernel
theorem dc_Model_sets_164 : decode cd_Model_sets 164 = .ok (.invokestatic 542, 3) := by decide +kernel
theorem dc_Model_sets_167 : decode cd_Model_sets 167 = .ok (.iload 6, 2) := by decide +kernel
theorem dc_Model_sets_169 : decode cd_Model_sets 169 = .ok (.invokestatic 542, 3) := by decide +kernel
theorem dc_Model_sets_172 : decode cd_Model_sets 172 = .ok (.if_icmp .ge 7, 3) := by decide +kernel
theorem dc_Model_sets_175 : decode cd_Model_sets 175 = .ok (.iload 7, 2) := by decide +kernel
theorem dc_Model_sets_177 : decode cd_Model_sets 177 = .ok (.istore 6, 2) := by decide +kernel
theorem dc_Model_sets_179 : decode cd_Model_sets 179 = .ok (.iinc 7 1, 3) := by decide +kernel
theorem dc_Model_sets_182 : decode cd_Model_sets 182 = .ok (.goto (-126), 3) := by decide +kernel
theorem dc_Model_sets_185 : decode cd_Model_sets 185 = .ok (.iload_n 3, 1) := by decide +kernel
theorem dc_Model_sets_186 : decode cd_Model_sets 186 = .ok (.ifCond .eq 7, 3) := by decide +kernel
theorem dc_Model_sets_189 : decode cd_Model_sets 189 = .ok (.iload_n 2, 1) := by decide +kernel
theorem dc_Model_sets_190 : decode cd_Model_sets 190 = .ok (.ifCond .ne 13, 3) := by decide +kernel
theorem dc_Model_sets_193 : decode cd_Model_sets 193 = .ok (.iload_n 2, 1) := by decide +kernel
theorem dc_Model_sets_194 : decode cd_Model_sets 194 = .ok (.ifCond .ne 7, 3) := by decide +kernel
theorem dc_Model_sets_197 : decode cd_Model_sets 197 = .ok (.iload_n 3, 1) := by decide +kernel
theorem dc_Model_sets_198 : decode cd_Model_sets 198 = .ok (.goto 4, 3) := by decide +kernel
theorem dc_Model_sets_201 : decode cd_Model_sets 201 = .ok (.iconst (-1), 1) := by decide +kernel
theorem dc_Model_sets_202 : decode cd_Model_sets 202 = .ok (.ireturn, 1) := by decide +kernel
theorem dc_Model_sets_203 : decode cd_Model_sets 203 = .ok (.iload_n 2, 1) := by decide +kernel
theorem dc_Model_sets_204 : decode cd_Model_sets 204 = .ok (.iconst 1, 1) := by decide +kernel
theorem dc_Model_sets_205 : decode cd_Model_sets 205 = .ok (.if_icmp .ne 8, 3) := by decide +kernel
theorem dc_Model_sets_208 : decode cd_Model_sets 208 = .ok (.iload 4, 2) := by decide +kernel
theorem dc_Model_sets_210 : decode cd_Model_sets 210 = .ok (.goto 15, 3) := by decide +kernel
theorem dc_Model_sets_213 : decode cd_Model_sets 213 = .ok (.iload_n 2, 1) := by decide +kernel
theorem dc_Model_sets_214 : decode cd_Model_sets 214 = .ok (.iconst 2, 1) := by decide +kernel
theorem dc_Model_sets_215 : decode cd_Model_sets 215 = .ok (.if_icmp .ne 8, 3) := by decide +kernel
theorem dc_Model_sets_218 : decode cd_Model_sets 218 = .ok (.iload 5, 2) := by decide +kernel
theorem dc_Model_sets_220 : decode cd_Model_sets 220 = .ok (.goto 5, 3) := by decide +kernel
theorem dc_Model_sets_223 : decode cd_Model_sets 223 = .ok (.iload 6, 2) := by decide +kernel
theorem dc_Model_sets_225 : decode cd_Model_sets 225 = .ok (.ireturn, 1) := by decide +kernel
theorem dc_Model_years_0 : decode cd_Model_years 0 = .ok (.aload_n 0, 1) := by decide +kernel
theorem dc_Model_years_1 : decode cd_Model_years 1 = .ok (.iconst 0, 1) := by decide +kernel
theorem dc_Model_years_2 : decode cd_Model_years 2 = .ok (.putfield 183, 3) := by decide +kernel
theorem dc_Model_years_5 : decode cd_Model_years 5 = .ok (.iload_n 1, 1) := by decide +kernel
theorem dc_Model_years_6 : decode cd_Model_years 6 = .ok (.iconst 0, 1) := by decide +kernel
theorem dc_Model_years_7 : decode cd_Model_years 7 = .ok (.sipush 9999, 3) := by decide +kernel
theorem dc_Model_years_10 : decode cd_Model_years 10 = .ok (.invokestatic 318, 3) := by decide +kernel
theorem dc_Model_years_13 : decode cd_Model_years 13 = .ok (.ifCond .eq 22, 3) := by decide +kernel
theorem dc_Model_years_16 : decode cd_Model_years 16 = .ok (.iload_n 2, 1) := by decide +kernel
theorem dc_Model_years_17 : decode cd_Model_years 17 = .ok (.iconst 1, 1) := by decide +kernel
theorem dc_Model_years_18 : decode cd_Model_years 18 = .ok (.bipush 20, 2) := by decide +kernel
theorem dc_Model_years_20 : decode cd_Model_years 20 = .ok (.invokestatic 318, 3) := by decide +kernel
theorem dc_Model_years_23 : decode cd_Model_years 23 = .ok (.ifCond .eq 12, 3) := by decide +kernel
theorem dc_Model_years_26 : decode cd_Model_years 26 = .ok (.iload_n 3, 1) := by decide +kernel
theorem dc_Model_years_27 : decode cd_Model_years 27 = .ok (.iconst 0, 1) := by decide +kernel
theorem dc_Model_years_28 : decode cd_Model_years 28 = .ok (.iconst 2, 1) := by decide +kernel
theorem dc_Model_years_29 : decode cd_Model_years 29 = .ok (.invokestatic 318, 3) := by decide +kernel
theorem dc_Model_years_32 : decode cd_Model_years 32 = .ok (.ifCond .ne 5, 3) := by decide +kernel
theorem dc_Model_years_35 : decode cd_Model_years 35 = .ok (.iconst (-1), 1) := by decide +kernel
theorem dc_Model_years_36 : decode cd_Model_years 36 = .ok (.ireturn, 1) := by decide +kernel
theorem dc_Model_years_37 : decode cd_Model_years 37 = .ok (.aload_n 0, 1) := by decide +kernel
theorem dc_Model_years_38 : decode cd_Model_years 38 = .ok (.iload_n 1, 1) := by decide +kernel
theorem dc_Model_years_39 : decode cd_Model_years 39 = .ok (.i2l, 1) := by decide +kernel
theorem dc_Model_years_40 : decode cd_Model_years 40 = .ok (.putfield 553, 3) := by decide +kernel
theorem dc_Model_years_43 : decode cd_Model_years 43 = .ok (.aload_n 0, 1) := by decide +kernel
theorem dc_Model_years_44 : decode cd_Model_years 44 = .ok (.getfield 135, 3) := by decide +kernel
theorem dc_Model_years_47 : decode cd_Model_years 47 = .ok (.iconst 0, 1) := by decide +kernel
theorem dc_Model_years_48 : decode cd_Model_years 48 = .ok (.aload_n 0, 1) := by decide +kernel
theorem dc_Model_years_49 : decode cd_Model_years 49 = .ok (.getfield 138, 3) := by decide +kernel
theorem dc_Model_years_52 : decode cd_Model_years 52 = .ok (.iconst 0, 1) := by decide +kernel
theorem dc_Model_years_53 : decode cd_Model_years 53 = .ok (.invokestatic 482, 3) := by decide +kernel
theorem dc_Model_years_56 : decode cd_Model_years 56 = .ok (.iconst 0, 1) := by decide +kernel
theorem dc_Model_years_57 : decode cd_Model_years 57 = .ok (.istore 4, 2) := by decide +kernel
theorem dc_Model_years_59 : decode cd_Model_years 59 = .ok (.iconst 0, 1) := by decide +kernel
theorem dc_Model_years_60 : decode cd_Model_years 60 = .ok (.istore 5, 2) := by decide +kernel
theorem dc_Model_years_62 : decode cd_Model_years 62 = .ok (.iconst 0, 1) := by decide +kernel
theorem dc_Model_years_63 : decode cd_Model_years 63 = .ok (.istore 6, 2) := by decide +kernel
theorem dc_Model_years_65 : decode cd_Model_years 65 = .ok (.iconst 0, 1) := by decide +kernel
theorem dc_Model_years_66 : decode cd_Model_years 66 = .ok (.istore 7, 2) := by decide +kernel
theorem dc_Model_years_68 : decode cd_Model_years 68 = .ok (.iload 7, 2) := by decide +kernel
theorem dc_Model_years_70 : decode cd_Model_years 70 = .ok (.iload_n 2, 1) := by decide +kernel
theorem dc_Model_years_71 : decode cd_Model_years 71 = .ok (.if_icmp .ge 95, 3) := by decide +kernel
theorem dc_Model_years_74 : decode cd_Model_years 74 = .ok (.aload_n 0, 1) := by decide +kernel
theorem dc_Model_years_75 : decode cd_Model_years 75 = .ok (.bipush 8, 2) := by decide +kernel
theorem dc_Model_years_77 : decode cd_Model_years 77 = .ok (.invokevirtual 564, 3) := by decide +kernel
theorem dc_Model_years_80 : decode cd_Model_years 80 = .ok (.ifCond .ne 10, 3) := by decide +kernel
theorem dc_Model_years_83 : decode cd_Model_years 83 = .ok (.aload_n 0, 1) := by decide +kernel
theorem dc_Model_years_84 : decode cd_Model_years 84 = .ok (.getfield 135, 3) := by decide +kernel
theorem dc_Model_years_87 : decode cd_Model_years 87 = .ok (.iconst 3, 1) := by decide +kernel
theorem dc_Model_years_88 : decode cd_Model_years 88 = .ok (.iconst 1, 1) := by decide +kernel
theorem dc_Model_years_89 : decode cd_Model_years 89 = .ok (.iastore, 1) := by decide +kernel
theorem dc_Model_years_90 : decode cd_Model_years 90 = .ok (.iconst 0, 1) := by decide +kernel
theorem dc_Model_years_91 : decode cd_Model_years 91 = .ok (.istore 8, 2) := by decide +kernel
theorem dc_Model_years_93 : decode cd_Model_years 93 = .ok (.iload 8, 2) := by decide +kernel
theorem dc_Model_years_95 : decode cd_Model_years 95 = .ok (.aload_n 0, 1) := by decide +kernel
theorem dc_Model_years_96 : decode cd_Model_years 96 = .ok (.getfield 13, 3) := by decide +kernel
theorem dc_Model_years_99 : decode cd_Model_years 99 = .ok (.iconst 1, 1) := by decide +kernel
theorem dc_Model_years_100 : decode cd_Model_years 100 = .ok (.iaload, 1) := by decide +kernel
theorem dc_Model_years_101 : decode cd_Model_years 101 = .ok (.if_icmp .ge 32, 3) := by decide +kernel
theorem dc_Model_years_104 : decode cd_Model_years 104 = .ok (.aload_n 0, 1) := by decide +kernel
theorem dc_Model_years_105 : decode cd_Model_years 105 = .ok (.iconst 4, 1) := by decide +kernel
theorem dc_Model_years_106 : decode cd_Model_years 106 = .ok (.invokevirtual 564, 3) := by decide +kernel
theorem dc_Model_years_109 : decode cd_Model_years 109 = .ok (.ifCond .ne 18, 3) := by decide +kernel
theorem dc_Model_years_112 : decode cd_Model_years 112 = .ok (.aload_n 0, 1) := by decide +kernel
theorem dc_Model_years_113 : decode cd_Model_years 113 = .ok (.getfield 135, 3) := by decide +kernel
theorem dc_Model_years_116 : decode cd_Model_years 116 = .ok (.iconst 4, 1) := by decide +kernel
theorem dc_Model_years_117 : decode cd_Model_years 117 = .ok (.iload 8, 2) := by decide +kernel
theorem dc_Model_years_119 : decode cd_Model_years 119 = .ok (.iadd, 1) := by decide +kernel
theorem dc_Model_years_120 : decode cd_Model_years 120 = .ok (.aload_n 0, 1) := by decide +kernel
theorem dc_Model_years_121 : decode cd_Model_years 121 = .ok (.bipush 30, 2) := by decide +kernel
theorem dc_Model_years_123 : decode cd_Model_years 123 = .ok (.invokevirtual 564, 3) := by decide +kernel
theorem dc_Model_years_126 : decode cd_Model_years 126 = .ok (.iastore, 1) := by decide +kernel
theorem dc_Model_years_127 : decode cd_Model_years 127 = .ok (.iinc 8 1, 3) := by decide +kernel
theorem dc_Model_years_130 : decode cd_Model_years 130 = .ok (.goto (-37), 3) := by decide +kernel
theorem dc_Model_years_133 : decode cd_Model_years 133 = .ok (.iload 4, 2) := by decide +kernel
theorem dc_Model_years_135 : decode cd_Model_years 135 = .ok (.aload_n 0, 1) := by decide +kernel
theorem dc_Model_years_136 : decode cd_Model_years 136 = .ok (.invokevirtual 501, 3) := by decide +kernel
theorem dc_Model_years_139 : decode cd_Model_years 139 = .ok (.iadd, 1) := by decide +kernel
theorem dc_Model_years_140 : decode cd_Model_years 140 = .ok (.istore 4, 2) := by decide +kernel
theorem dc_Model_years_142 : decode cd_Model_years 142 = .ok (.iload 5, 2) := by decide +kernel
theorem dc_Model_years_144 : decode cd_Model_years 144 = .ok (.aload_n 0, 1) := by decide +kernel
theorem dc_Model_years_145 : decode cd_Model_years 145 = .ok (.getfield 498, 3) := by decide +kernel
theorem dc_Model_years_148 : decode cd_Model_years 148 = .ok (.iadd, 1) := by decide +kernel
theorem dc_Model_years_149 : decode cd_Model_years 149 = .ok (.istore 5, 2) := by decide +kernel
theorem dc_Model_years_151 : decode cd_Model_years 151 = .ok (.iload 6, 2) := by decide +kernel
theorem dc_Model_years_153 : decode cd_Model_years 153 = .ok (.aload_n 0, 1) := by decide +kernel
theorem dc_Model_years_154 : decode cd_Model_years 154 = .ok (.invokevirtual 567, 3) := by decide +kernel
theorem dc_Model_years_157 : decode cd_Model_years 157 = .ok (.iadd, 1) := by decide +kernel
theorem dc_Model_years_158 : decode cd_Model_years 158 = .ok (.istore 6, 2) := by decide +kernel
theorem dc_Model_years_160 : decode cd_Model_years 160 = .ok (.iinc 7 1, 3) := by decide +kernel
theorem dc_Model_years_163 : decode cd_Model_years 163 = .ok (.goto (-95), 3) := by decide +kernel
theorem dc_Model_years_166 : decode cd_Model_years 166 = .ok (.aload_n 0, 1) := by decide +kernel
theorem dc_Model_years_167 : decode cd_Model_years 167 = .ok (.getfield 138, 3) := by decide +kernel
theorem dc_Model_years_170 : decode cd_Model_years 170 = .ok (.iconst 0, 1) := by decide +kernel
theorem dc_Model_years_171 : decode cd_Model_years 171 = .ok (.aload_n 0, 1) := by decide +kernel
theorem dc_Model_years_172 : decode cd_Model_years 172 = .ok (.getfield 135, 3) := by decide +kernel
theorem dc_Model_years_175 : decode cd_Model_years 175 = .ok (.iconst 0, 1) := by decide +kernel
theorem dc_Model_years_176 : decode cd_Model_years 176 = .ok (.invokestatic 482, 3) := by decide +kernel
theorem dc_Model_years_179 : decode cd_Model_years 179 = .ok (.iload_n 3, 1) := by decide +kernel
theorem dc_Model_years_180 : decode cd_Model_years 180 = .ok (.ifCond .ne 8, 3) := by decide +kernel
theorem dc_Model_years_183 : decode cd_Model_years 183 = .ok (.iload 4, 2) := by decide +kernel
theorem dc_Model_years_185 : decode cd_Model_years 185 = .ok (.goto 15, 3) := by decide +kernel
theorem dc_Model_years_188 : decode cd_Model_years 188 = .ok (.iload_n 3, 1) := by decide +kernel
theorem dc_Model_years_189 : decode cd_Model_years 189 = .ok (.iconst 1, 1) := by decide +kernel
theorem dc_Model_years_190 : decode cd_Model_years 190 = .ok (.if_icmp .ne 8, 3) := by decide +kernel
theorem dc_Model_years_193 : decode cd_Model_years 193 = .ok (.iload 5, 2) := by decide +kernel
theorem dc_Model_years_195 : decode cd_Model_years 195 = .ok (.goto 5, 3) := by decide +kernel
theorem dc_Model_years_198 : decode cd_Model_years 198 = .ok (.iload 6, 2) := by decide +kernel
theorem dc_Model_years_200 : decode cd_Model_years 200 = .ok (.ireturn, 1) := by decide +kernel
theorem dc_Model_hills_0 : decode cd_Model_hills 0 = .ok (.aload_n 0, 1) := by decide +kernel
theorem dc_Model_hills_1 : decode cd_Model_hills 1 = .ok (.iconst 0, 1) := by decide +kernel
theorem dc_Model_hills_2 : decode cd_Model_hills 2 = .ok (.putfield 183, 3) := by decide +kernel
theorem dc_Model_hills_5 : decode cd_Model_hills 5 = .ok (.aload_n 0, 1) := by decide +kernel
theorem dc_Model_hills_6 : decode cd_Model_hills 6 = .ok (.invokevirtual 405, 3) := by decide +kernel
theorem dc_Model_hills_9 : decode cd_Model_hills 9 = .ok (.ifCond .ne 8, 3) := by decide +kernel
theorem dc_Model_hills_12 : decode cd_Model_hills 12 = .ok (.aload_n 0, 1) := by decide +kernel
theorem dc_Model_hills_13 : decode cd_Model_hills 13 = .ok (.getfield 219, 3) := by decide +kernel
theorem dc_Model_hills_16 : decode cd_Model_hills 16 = .ok (.ireturn, 1) := by decide +kernel
theorem dc_Model_hills_17 : decode cd_Model_hills 17 = .ok (.aload_n 0, 1) := by decide +kernel
theorem dc_Model_hills_18 : decode cd_Model_hills 18 = .ok (.invokevirtual 408, 3) := by decide +kernel
theorem dc_Model_hills_21 : decode cd_Model_hills 21 = .ok (.aload_n 0, 1) := by decide +kernel
theorem dc_Model_hills_22 : decode cd_Model_hills 22 = .ok (.invokevirtual 411, 3) := by decide +kernel
theorem dc_Model_hills_25 : decode cd_Model_hills 25 = .ok (.aload_n 0, 1) := by decide +kernel
theorem dc_Model_hills_26 : decode cd_Model_hills 26 = .ok (.invokevirtual 180, 3) := by decide +kernel
theorem dc_Model_hills_29 : decode cd_Model_hills 29 = .ok (.aload_n 0, 1) := by decide +kernel
theorem dc_Model_hills_30 : decode cd_Model_hills 30 = .ok (.invokevirtual 413, 3) := by decide +kernel
theorem dc_Model_hills_33 : decode cd_Model_hills 33 = .ok (.aload_n 0, 1) := by decide +kernel
theorem dc_Model_hills_34 : decode cd_Model_hills 34 = .ok (.getfield 108, 3) := by decide +kernel
theorem dc_Model_hills_37 : decode cd_Model_hills 37 = .ok (.iconst 0, 1) := by decide +kernel
theorem dc_Model_hills_38 : decode cd_Model_hills 38 = .ok (.iconst 0, 1) := by decide +kernel
theorem dc_Model_hills_39 : decode cd_Model_hills 39 = .ok (.iastore, 1) := by decide +kernel
theorem dc_Model_hills_40 : decode cd_Model_hills 40 = .ok (.aload_n 0, 1) := by decide +kernel
theorem dc_Model_hills_41 : decode cd_Model_hills 41 = .ok (.iconst 0, 1) := by decide +kernel
theorem dc_Model_hills_42 : decode cd_Model_hills 42 = .ok (.putfield 416, 3) := by decide +kernel
theorem dc_Model_hills_45 : decode cd_Model_hills 45 = .ok (.iconst 0, 1) := by decide +kernel
theorem dc_Model_hills_46 : decode cd_Model_hills 46 = .ok (.istore_n 1, 1) := by decide +kernel
theorem dc_Model_hills_47 : decode cd_Model_hills 47 = .ok (.iload_n 1, 1) := by decide +kernel
theorem dc_Model_hills_48 : decode cd_Model_hills 48 = .ok (.iconst 4, 1) := by decide +kernel
theorem dc_Model_hills_49 : decode cd_Model_hills 49 = .ok (.if_icmp .ge 16, 3) := by decide +kernel
theorem dc_Model_hills_52 : decode cd_Model_hills 52 = .ok (.aload_n 0, 1) := by decide +kernel
theorem dc_Model_hills_53 : decode cd_Model_hills 53 = .ok (.getfield 147, 3) := by decide +kernel
theorem dc_Model_hills_56 : decode cd_Model_hills 56 = .ok (.iload_n 1, 1) := by decide +kernel
theorem dc_Model_hills_57 : decode cd_Model_hills 57 = .ok (.iconst 0, 1) := by decide +kernel
theorem dc_Model_hills_58 : decode cd_Model_hills 58 = .ok (.bastore, 1) := by decide +kernel
theorem dc_Model_hills_59 : decode cd_Model_hills 59 = .ok (.iinc 1 1, 3) := by decide +kernel
theorem dc_Model_hills_62 : decode cd_Model_hills 62 = .ok (.goto (-15), 3) := by decide +kernel
theorem dc_Model_hills_65 : decode cd_Model_hills 65 = .ok (.iconst 0, 1) := by decide +kernel
theorem dc_Model_hills_66 : decode cd_Model_hills 66 = .ok (.ireturn, 1) := by decide +kernel
theorem dc_Model_judged_0 : decode cd_Model_judged 0 = .ok (.aload_n 0, 1) := by decide +kernel
theorem dc_Model_judged_1 : decode cd_Model_judged 1 = .ok (.iconst 0, 1) := by decide +kernel
theorem dc_Model_judged_2 : decode cd_Model_judged 2 = .ok (.putfield 183, 3) := by decide +kernel
theorem dc_Model_judged_5 : decode cd_Model_judged 5 = .ok (.iload_n 1, 1) := by decide +kernel
theorem dc_Model_judged_6 : decode cd_Model_judged 6 = .ok (.iconst 0, 1) := by decide +kernel
theorem dc_Model_judged_7 : decode cd_Model_judged 7 = .ok (.iconst 2, 1) := by decide +kernel
theorem dc_Model_judged_8 : decode cd_Model_judged 8 = .ok (.invokestatic 318, 3) := by decide +kernel
theorem dc_Model_judged_11 : decode cd_Model_judged 11 = .ok (.ifCond .ne 6, 3) := by decide +kernel
theorem dc_Model_judged_14 : decode cd_Model_judged 14 = .ok (.bipush (-2), 2) := by decide +kernel
theorem dc_Model_judged_16 : decode cd_Model_judged 16 = .ok (.ireturn, 1) := by decide +kernel
theorem dc_Model_judged_17 : decode cd_Model_judged 17 = .ok (.aload_n 0, 1) := by decide +kernel
theorem dc_Model_judged_18 : decode cd_Model_judged 18 = .ok (.getfield 135, 3) := by decide +kernel
theorem dc_Model_judged_21 : decode cd_Model_judged 21 = .ok (.iconst 0, 1) := by decide +kernel
theorem dc_Model_judged_22 : decode cd_Model_judged 22 = .ok (.aload_n 0, 1) := by decide +kernel
theorem dc_Model_judged_23 : decode cd_Model_judged 23 = .ok (.getfield 138, 3) := by decide +kernel
theorem dc_Model_judged_26 : decode cd_Model_judged 26 = .ok (.iconst 0, 1) := by decide +kernel
theorem dc_Model_judged_27 : decode cd_Model_judged 27 = .ok (.invokestatic 482, 3) := by decide +kernel
theorem dc_Model_judged_30 : decode cd_Model_judged 30 = .ok (.aload_n 0, 1) := by decide +kernel
theorem dc_Model_judged_31 : decode cd_Model_judged 31 = .ok (.invokevirtual 411, 3) := by decide +kernel
theorem dc_Model_judged_34 : decode cd_Model_judged 34 = .ok (.iconst (-1), 1) := by decide +kernel
theorem dc_Model_judged_35 : decode cd_Model_judged 35 = .ok (.istore_n 2, 1) := by decide +kernel
theorem dc_Model_judged_36 : decode cd_Model_judged 36 = .ok (.iconst (-1), 1) := by decide +kernel
theorem dc_Model_judged_37 : decode cd_Model_judged 37 = .ok (.istore_n 3, 1) := by decide +kernel
theorem dc_Model_judged_38 : decode cd_Model_judged 38 = .ok (.iconst 0, 1) := by decide +kernel
theorem dc_Model_judged_39 : decode cd_Model_judged 39 = .ok (.istore 4, 2) := by decide +kernel
theorem dc_Model_judged_41 : decode cd_Model_judged 41 = .ok (.iload 4, 2) := by decide +kernel
theorem dc_Model_judged_43 : decode cd_Model_judged 43 = .ok (.aload_n 0, 1) := by decide +kernel
theorem dc_Model_judged_44 : decode cd_Model_judged 44 = .ok (.getfield 108, 3) := by decide +kernel
theorem dc_Model_judged_47 : decode cd_Model_judged 47 = .ok (.iconst 0, 1) := by decide +kernel
theorem dc_Model_judged_48 : decode cd_Model_judged 48 = .ok (.iaload, 1) := by decide +kernel
theorem dc_Model_judged_49 : decode cd_Model_judged 49 = .ok (.if_icmp .ge 50, 3) := by decide +kernel
theorem dc_Model_judged_52 : decode cd_Model_judged 52 = .ok (.aload_n 0, 1) := by decide +kernel
theorem dc_Model_judged_53 : decode cd_Model_judged 53 = .ok (.iload 4, 2) := by decide +kernel
theorem dc_Model_judged_55 : decode cd_Model_judged 55 = .ok (.invokevirtual 504, 3) := by decide +kernel
theorem dc_Model_judged_58 : decode cd_Model_judged 58 = .ok (.ifCond .ne 10, 3) := by decide +kernel
theorem dc_Model_judged_61 : decode cd_Model_judged 61 = .ok (.iload_n 2, 1) := by decide +kernel
theorem dc_Model_judged_62 : decode cd_Model_judged 62 = .ok (.ifCond .ge 6, 3) := by decide +kernel
theorem dc_Model_judged_65 : decode cd_Model_judged 65 = .ok (.iload 4, 2) := by decide +kernel
theorem dc_Model_judged_67 : decode cd_Model_judged 67 = .ok (.istore_n 2, 1) := by decide +kernel
theorem dc_Model_judged_68 : decode cd_Model_judged 68 = .ok (.aload_n 0, 1) := by decide +kernel
theorem dc_Model_judged_69 : decode cd_Model_judged 69 = .ok (.getfield 111, 3) := by decide +kernel
theorem dc_Model_judged_72 : decode cd_Model_judged 72 = .ok (.iload 4, 2) := by decide +kernel
theorem dc_Model_judged_74 : decode cd_Model_judged 74 = .ok (.iaload, 1) := by decide +kernel
theorem dc_Model_judged_75 : decode cd_Model_judged 75 = .ok (.iconst 4, 1) := by decide +kernel
theorem dc_Model_judged_76 : decode cd_Model_judged 76 = .ok (.if_icmp .ne 17, 3) := by decide +kernel
theorem dc_Model_judged_79 : decode cd_Model_judged 79 = .ok (.aload_n 0, 1) := by decide +kernel
theorem dc_Model_judged_80 : decode cd_Model_judged 80 = .ok (.getfield 498, 3) := by decide +kernel
theorem dc_Model_judged_83 : decode cd_Model_judged 83 = .ok (.ifCond .le 10, 3) := by decide +kernel
theorem dc_Model_judged_86 : decode cd_Model_judged 86 = .ok (.iload_n 3, 1) := by decide +kernel
theorem dc_Model_judged_87 : decode cd_Model_judged 87 = .ok (.ifCond .ge 6, 3) := by decide +kernel
theorem dc_Model_judged_90 : decode cd_Model_judged 90 = .ok (.iload 4, 2) := by decide +kernel
theorem dc_Model_judged_92 : decode cd_Model_judged 92 = .ok (.istore_n 3, 1) := by decide +kernel
theorem dc_Model_judged_93 : decode cd_Model_judged 93 = .ok (.iinc 4 1, 3) := by decide +kernel
theorem dc_Model_judged_96 : decode cd_Model_judged 96 = .ok (.goto (-55), 3) := by decide +kernel
theorem dc_Model_judged_99 : decode cd_Model_judged 99 = .ok (.aload_n 0, 1) := by decide +kernel
theorem dc_Model_judged_100 : decode cd_Model_judged 100 = .ok (.getfield 135, 3) := by decide +kernel
theorem dc_Model_judged_103 : decode cd_Model_judged 103 = .ok (.iconst 1, 1) := by decide +kernel
theorem dc_Model_judged_104 : decode cd_Model_judged 104 = .ok (.iaload, 1) := by decide +kernel
theorem dc_Model_judged_105 : decode cd_Model_judged 105 = .ok (.istore 4, 2) := by decide +kernel
theorem dc_Model_judged_107 : decode cd_Model_judged 107 = .ok (.aload_n 0, 1) := by decide +kernel
theorem dc_Model_judged_108 : decode cd_Model_judged 108 = .ok (.getfield 138, 3) := by decide +kernel
theorem dc_Model_judged_111 : decode cd_Model_judged 111 = .ok (.iconst 0, 1) := by decide +kernel
theorem dc_Model_judged_112 : decode cd_Model_judged 112 = .ok (.aload_n 0, 1) := by decide +kernel
theorem dc_Model_judged_113 : decode cd_Model_judged 113 = .ok (.getfield 135, 3) := by decide +kernel
theorem dc_Model_judged_116 : decode cd_Model_judged 116 = .ok (.iconst 0, 1) := by decide +kernel
theorem dc_Model_judged_117 : decode cd_Model_judged 117 = .ok (.invokestatic 482, 3) := by decide +kernel
theorem dc_Model_judged_120 : decode cd_Model_judged 120 = .ok (.iload_n 1, 1) := by decide +kernel
theorem dc_Model_judged_121 : decode cd_Model_judged 121 = .ok (.ifCond .ne 7, 3) := by decide +kernel
theorem dc_Model_judged_124 : decode cd_Model_judged 124 = .ok (.iload_n 2, 1) := by decide +kernel
theorem dc_Model_judged_125 : decode cd_Model_judged 125 = .ok (.goto 14, 3) := by decide +kernel
theorem dc_Model_judged_128 : decode cd_Model_judged 128 = .ok (.iload_n 1, 1) := by decide +kernel
theorem dc_Model_judged_129 : decode cd_Model_judged 129 = .ok (.iconst 1, 1) := by decide +kernel
theorem dc_Model_judged_130 : decode cd_Model_judged 130 = .ok (.if_icmp .ne 7, 3) := by decide +kernel
theorem dc_Model_judged_133 : decode cd_Model_judged 133 = .ok (.iload_n 3, 1) := by decide +kernel
theorem dc_Model_judged_134 : decode cd_Model_judged 134 = .ok (.goto 5, 3) := by decide +kernel
theorem dc_Model_judged_137 : decode cd_Model_judged 137 = .ok (.iload 4, 2) := by decide +kernel
theorem dc_Model_judged_139 : decode cd_Model_judged 139 = .ok (.ireturn, 1) := by decide +kernel
theorem dc_Model_stands_0 : decode cd_Model_stands 0 = .ok (.aload_n 0, 1) := by decide +kernel
theorem dc_Model_stands_1 : decode cd_Model_stands 1 = .ok (.getfield 522, 3) := by decide +kernel
theorem dc_Model_stands_4 : decode cd_Model_stands 4 = .ok (.ifCond .lt 12, 3) := by decide +kernel
theorem dc_Model_stands_7 : decode cd_Model_stands 7 = .ok (.iload_n 3, 1) := by decide +kernel
theorem dc_Model_stands_8 : decode cd_Model_stands 8 = .ok (.aload_n 0, 1) := by decide +kernel
theorem dc_Model_stands_9 : decode cd_Model_stands 9 = .ok (.getfield 522, 3) := by decide +kernel
theorem dc_Model_stands_12 : decode cd_Model_stands 12 = .ok (.if_icmp .lt 4, 3) := by decide +kernel
theorem dc_Model_stands_15 : decode cd_Model_stands 15 = .ok (.return_, 1) := by decide +kernel
theorem dc_Model_stands_16 : decode cd_Model_stands 16 = .ok (.iload_n 1, 1) := by decide +kernel
theorem dc_Model_stands_17 : decode cd_Model_stands 17 = .ok (.aload_n 0, 1) := by decide +kernel
theorem dc_Model_stands_18 : decode cd_Model_stands 18 = .ok (.getfield 13, 3) := by decide +kernel
theorem dc_Model_stands_21 : decode cd_Model_stands 21 = .ok (.iconst 2, 1) := by decide +kernel
theorem dc_Model_stands_22 : decode cd_Model_stands 22 = .ok (.iaload, 1) := by decide +kernel
theorem dc_Model_stands_23 : decode cd_Model_stands 23 = .ok (.if_icmp .ne 38, 3) := by decide +kernel
theorem dc_Model_stands_26 : decode cd_Model_stands 26 = .ok (.aload_n 0, 1) := by decide +kernel
theorem dc_Model_stands_27 : decode cd_Model_stands 27 = .ok (.iload_n 3, 1) := by decide +kernel
theorem dc_Model_stands_28 : decode cd_Model_stands 28 = .ok (.putfield 522, 3) := by decide +kernel
theorem dc_Model_stands_31 : decode cd_Model_stands 31 = .ok (.iconst 0, 1) := by decide +kernel
theorem dc_Model_stands_32 : decode cd_Model_stands 32 = .ok (.istore 4, 2) := by decide +kernel
theorem dc_Model_stands_34 : decode cd_Model_stands 34 = .ok (.iload 4, 2) := by decide +kernel
theorem dc_Model_stands_36 : decode cd_Model_stands 36 = .ok (.iload_n 1, 1) := by decide +kernel
theorem dc_Model_stands_37 : decode cd_Model_stands 37 = .ok (.if_icmp .ge 23, 3) := by decide +kernel
theorem dc_Model_stands_40 : decode cd_Model_stands 40 = .ok (.aload_n 0, 1) := by decide +kernel
theorem dc_Model_stands_41 : decode cd_Model_stands 41 = .ok (.getfield 171, 3) := by decide +kernel
theorem dc_Model_stands_44 : decode cd_Model_stands 44 = .ok (.iload 4, 2) := by decide +kernel
theorem dc_Model_stands_46 : decode cd_Model_stands 46 = .ok (.aload_n 0, 1) := by decide +kernel
theorem dc_Model_stands_47 : decode cd_Model_stands 47 = .ok (.getfield 168, 3) := by decide +kernel
theorem dc_Model_stands_50 : decode cd_Model_stands 50 = .ok (.iload 4, 2) := by decide +kernel
theorem dc_Model_stands_52 : decode cd_Model_stands 52 = .ok (.iaload, 1) := by decide +kernel
theorem dc_Model_stands_53 : decode cd_Model_stands 53 = .ok (.iastore, 1) := by decide +kernel
theorem dc_Model_stands_54 : decode cd_Model_stands 54 = .ok (.iinc 4 1, 3) := by decide +kernel
theorem dc_Model_stands_57 : decode cd_Model_stands 57 = .ok (.goto (-23), 3) := by decide +kernel
theorem dc_Model_stands_60 : decode cd_Model_stands 60 = .ok (.return_, 1) := by decide +kernel
theorem dc_Model_stands_61 : decode cd_Model_stands 61 = .ok (.aload_n 0, 1) := by decide +kernel
theorem dc_Model_stands_62 : decode cd_Model_stands 62 = .ok (.aload_n 0, 1) := by decide +kernel
theorem dc_Model_stands_63 : decode cd_Model_stands 63 = .ok (.getfield 135, 3) := by decide +kernel
theorem dc_Model_stands_66 : decode cd_Model_stands 66 = .ok (.bipush 10, 2) := by decide +kernel
theorem dc_Model_stands_68 : decode cd_Model_stands 68 = .ok (.iload_n 1, 1) := by decide +kernel
theorem dc_Model_stands_69 : decode cd_Model_stands 69 = .ok (.iadd, 1) := by decide +kernel
theorem dc_Model_stands_70 : decode cd_Model_stands 70 = .ok (.iaload, 1) := by decide +kernel
theorem dc_Model_stands_71 : decode cd_Model_stands 71 = .ok (.invokevirtual 489, 3) := by decide +kernel
theorem dc_Model_stands_74 : decode cd_Model_stands 74 = .ok (.ifCond .eq 20, 3) := by decide +kernel
theorem dc_Model_stands_77 : decode cd_Model_stands 77 = .ok (.aload_n 0, 1) := by decide +kernel
theorem dc_Model_stands_78 : decode cd_Model_stands 78 = .ok (.getfield 168, 3) := by decide +kernel
theorem dc_Model_stands_81 : decode cd_Model_stands 81 = .ok (.iload_n 1, 1) := by decide +kernel
theorem dc_Model_stands_82 : decode cd_Model_stands 82 = .ok (.iconst (-1), 1) := by decide +kernel
theorem dc_Model_stands_83 : decode cd_Model_stands 83 = .ok (.iastore, 1) := by decide +kernel
theorem dc_Model_stands_84 : decode cd_Model_stands 84 = .ok (.aload_n 0, 1) := by decide +kernel
theorem dc_Model_stands_85 : decode cd_Model_stands 85 = .ok (.iload_n 1, 1) := by decide +kernel
theorem dc_Model_stands_86 : decode cd_Model_stands 86 = .ok (.iconst 1, 1) := by decide +kernel
theorem dc_Model_stands_87 : decode cd_Model_stands 87 = .ok (.iadd, 1) := by decide +kernel
theorem dc_Model_stands_88 : decode cd_Model_stands 88 = .ok (.iload_n 2, 1) := by decide +kernel
theorem dc_Model_stands_89 : decode cd_Model_stands 89 = .ok (.iload_n 3, 1) := by decide +kernel
theorem dc_Model_stands_90 : decode cd_Model_stands 90 = .ok (.invokevirtual 525, 3) := by decide +kernel
theorem dc_Model_stands_93 : decode cd_Model_stands 93 = .ok (.return_, 1) := by decide +kernel
theorem dc_Model_stands_94 : decode cd_Model_stands 94 = .ok (.iconst 0, 1) := by decide +kernel
theorem dc_Model_stands_95 : decode cd_Model_stands 95 = .ok (.istore 4, 2) := by decide +kernel
theorem dc_Model_stands_97 : decode cd_Model_stands 97 = .ok (.iload 4, 2) := by decide +kernel
theorem dc_Model_stands_99 : decode cd_Model_stands 99 = .ok (.aload_n 0, 1) := by decide +kernel
theorem dc_Model_stands_100 : decode cd_Model_stands 100 = .ok (.getfield 13, 3) := by decide +kernel
theorem dc_Model_stands_103 : decode cd_Model_stands 103 = .ok (.iconst 1, 1) := by decide +kernel
theorem dc_Model_stands_104 : decode cd_Model_stands 104 = .ok (.iaload, 1) := by decide +kernel
theorem dc_Model_stands_105 : decode cd_Model_stands 105 = .ok (.if_icmp .ge 72, 3) := by decide +kernel
theorem dc_Model_stands_108 : decode cd_Model_stands 108 = .ok (.iload_n 2, 1) := by decide +kernel
theorem dc_Model_stands_109 : decode cd_Model_stands 109 = .ok (.iload 4, 2) := by decide +kernel
theorem dc_Model_stands_111 : decode cd_Model_stands 111 = .ok (.ishr, 1) := by decide +kernel
theorem dc_Model_stands_112 : decode cd_Model_stands 112 = .ok (.iconst 1, 1) := by decide +kernel
theorem dc_Model_stands_113 : decode cd_Model_stands 113 = .ok (.iand, 1) := by decide +kernel
theorem dc_Model_stands_114 : decode cd_Model_stands 114 = .ok (.iconst 1, 1) := by decide +kernel
theorem dc_Model_stands_115 : decode cd_Model_stands 115 = .ok (.if_icmp .eq 56, 3) := by decide +kernel
theorem dc_Model_stands_118 : decode cd_Model_stands 118 = .ok (.aload_n 0, 1) := by decide +kernel
theorem dc_Model_stands_119 : decode cd_Model_stands 119 = .ok (.iload_n 1, 1) := by decide +kernel
theorem dc_Model_stands_120 : decode cd_Model_stands 120 = .ok (.iload 4, 2) := by decide +kernel
theorem dc_Model_stands_122 : decode cd_Model_stands 122 = .ok (.invokevirtual 495, 3) := by decide +kernel
theorem dc_Model_stands_125 : decode cd_Model_stands 125 = .ok (.ifCond .ne 6, 3) := by decide +kernel
theorem dc_Model_stands_128 : decode cd_Model_stands 128 = .ok (.goto 43, 3) := by decide +kernel
theorem dc_Model_stands_131 : decode cd_Model_stands 131 = .ok (.aload_n 0, 1) := by decide +kernel
theorem dc_Model_stands_132 : decode cd_Model_stands 132 = .ok (.getfield 168, 3) := by decide +kernel
theorem dc_Model_stands_135 : decode cd_Model_stands 135 = .ok (.iload_n 1, 1) := by decide +kernel
theorem dc_Model_stands_136 : decode cd_Model_stands 136 = .ok (.iload 4, 2) := by decide +kernel
theorem dc_Model_stands_138 : decode cd_Model_stands 138 = .ok (.iastore, 1) := by decide +kernel
theorem dc_Model_stands_139 : decode cd_Model_stands 139 = .ok (.aload_n 0, 1) := by decide +kernel
theorem dc_Model_stands_140 : decode cd_Model_stands 140 = .ok (.iload_n 1, 1) := by decide +kernel
theorem dc_Model_stands_141 : decode cd_Model_stands 141 = .ok (.iconst 1, 1) := by decide +kernel
theorem dc_Model_stands_142 : decode cd_Model_stands 142 = .ok (.iadd, 1) := by decide +kernel
theorem dc_Model_stands_143 : decode cd_Model_stands 143 = .ok (.iload_n 2, 1) := by decide +kernel
theorem dc_Model_stands_144 : decode cd_Model_stands 144 = .ok (.iconst 1, 1) := by decide +kernel
theorem dc_Model_stands_145 : decode cd_Model_stands 145 = .ok (.iload 4, 2) := by decide +kernel
theorem dc_Model_stands_147 : decode cd_Model_stands 147 = .ok (.ishl, 1) := by decide +kernel
theorem dc_Model_stands_148 : decode cd_Model_stands 148 = .ok (.ior, 1) := by decide +kernel
theorem dc_Model_stands_149 : decode cd_Model_stands 149 = .ok (.iload_n 3, 1) := by decide +kernel
theorem dc_Model_stands_150 : decode cd_Model_stands 150 = .ok (.aload_n 0, 1) := by decide +kernel
theorem dc_Model_stands_151 : decode cd_Model_stands 151 = .ok (.iload_n 1, 1) := by decide +kernel
theorem dc_Model_stands_152 : decode cd_Model_stands 152 = .ok (.aload_n 0, 1) := by decide +kernel
theorem dc_Model_stands_153 : decode cd_Model_stands 153 = .ok (.iload 4, 2) := by decide +kernel
theorem dc_Model_stands_155 : decode cd_Model_stands 155 = .ok (.aload_n 0, 1) := by decide +kernel
theorem dc_Model_stands_156 : decode cd_Model_stands 156 = .ok (.getfield 56, 3) := by decide +kernel
theorem dc_Model_stands_159 : decode cd_Model_stands 159 = .ok (.iload_n 1, 1) := by decide +kernel
theorem dc_Model_stands_160 : decode cd_Model_stands 160 = .ok (.iaload, 1) := by decide +kernel
theorem dc_Model_stands_161 : decode cd_Model_stands 161 = .ok (.invokevirtual 448, 3) := by decide +kernel
theorem dc_Model_stands_164 : decode cd_Model_stands 164 = .ok (.invokevirtual 457, 3) := by decide +kernel
theorem dc_Model_stands_167 : decode cd_Model_stands 167 = .ok (.iadd, 1) := by decide +kernel
theorem dc_Model_stands_168 : decode cd_Model_stands 168 = .ok (.invokevirtual 525, 3) := by decide +kernel
theorem dc_Model_stands_171 : decode cd_Model_stands 171 = .ok (.iinc 4 1, 3) := by decide +kernel
theorem dc_Model_stands_174 : decode cd_Model_stands 174 = .ok (.goto (-77), 3) := by decide +kernel
theorem dc_Model_stands_177 : decode cd_Model_stands 177 = .ok (.return_, 1) := by decide +kernel
theorem dc_Model_deputies_0 : decode cd_Model_deputies 0 = .ok (.aload_n 0, 1) := by decide +kernel
theorem dc_Model_deputies_1 : decode cd_Model_deputies 1 = .ok (.iconst 0, 1) := by decide +kernel
theorem dc_Model_deputies_2 : decode cd_Model_deputies 2 = .ok (.putfield 183, 3) := by decide +kernel
theorem dc_Model_deputies_5 : decode cd_Model_deputies 5 = .ok (.iload_n 1, 1) := by decide +kernel
theorem dc_Model_deputies_6 : decode cd_Model_deputies 6 = .ok (.iconst (-1), 1) := by decide +kernel
theorem dc_Model_deputies_7 : decode cd_Model_deputies 7 = .ok (.if_icmp .eq 14, 3) := by decide +kernel
theorem dc_Model_deputies_10 : decode cd_Model_deputies 10 = .ok (.aload_n 0, 1) := by decide +kernel
theorem dc_Model_deputies_11 : decode cd_Model_deputies 11 = .ok (.iload_n 1, 1) := by decide +kernel
theorem dc_Model_deputies_12 : decode cd_Model_deputies 12 = .ok (.invokevirtual 473, 3) := by decide +kernel
theorem dc_Model_deputies_15 : decode cd_Model_deputies 15 = .ok (.ifCond .ne 6, 3) := by decide +kernel
theorem dc_Model_deputies_18 : decode cd_Model_deputies 18 = .ok (.bipush (-2), 2) := by decide +kernel
theorem dc_Model_deputies_20 : decode cd_Model_deputies 20 = .ok (.ireturn, 1) := by decide +kernel
theorem dc_Model_deputies_21 : decode cd_Model_deputies 21 = .ok (.aload_n 0, 1) := by decide +kernel
theorem dc_Model_deputies_22 : decode cd_Model_deputies 22 = .ok (.invokevirtual 470, 3) := by decide +kernel
theorem dc_Model_deputies_25 : decode cd_Model_deputies 25 = .ok (.aload_n 0, 1) := by decide +kernel
theorem dc_Model_deputies_26 : decode cd_Model_deputies 26 = .ok (.iconst (-1), 1) := by decide +kernel
theorem dc_Model_deputies_27 : decode cd_Model_deputies 27 = .ok (.putfield 522, 3) := by decide +kernel
theorem dc_Model_deputies_30 : decode cd_Model_deputies 30 = .ok (.aload_n 0, 1) := by decide +kernel
theorem dc_Model_deputies_31 : decode cd_Model_deputies 31 = .ok (.iconst 0, 1) := by decide +kernel
theorem dc_Model_deputies_32 : decode cd_Model_deputies 32 = .ok (.iconst 0, 1) := by decide +kernel
theorem dc_Model_deputies_33 : decode cd_Model_deputies 33 = .ok (.iconst 0, 1) := by decide +kernel
theorem dc_Model_deputies_34 : decode cd_Model_deputies 34 = .ok (.invokevirtual 525, 3) := by decide +kernel
theorem dc_Model_deputies_37 : decode cd_Model_deputies 37 = .ok (.aload_n 0, 1) := by decide +kernel
theorem dc_Model_deputies_38 : decode cd_Model_deputies 38 = .ok (.getfield 522, 3) := by decide +kernel
theorem dc_Model_deputies_41 : decode cd_Model_deputies 41 = .ok (.ifCond .ge 6, 3) := by decide +kernel
theorem dc_Model_deputies_44 : decode cd_Model_deputies 44 = .ok (.bipush (-2), 2) := by decide +kernel
theorem dc_Model_deputies_46 : decode cd_Model_deputies 46 = .ok (.ireturn, 1) := by decide +kernel
theorem dc_Model_deputies_47 : decode cd_Model_deputies 47 = .ok (.iload_n 1, 1) := by decide +kernel
theorem dc_Model_deputies_48 : decode cd_Model_deputies 48 = .ok (.iconst (-1), 1) := by decide +kernel
theorem dc_Model_deputies_49 : decode cd_Model_deputies 49 = .ok (.if_icmp .ne 10, 3) := by decide +kernel
theorem dc_Model_deputies_52 : decode cd_Model_deputies 52 = .ok (.aload_n 0, 1) := by decide +kernel
theorem dc_Model_deputies_53 : decode cd_Model_deputies 53 = .ok (.getfield 522, 3) := by decide +kernel
theorem dc_Model_deputies_56 : decode cd_Model_deputies 56 = .ok (.goto 9, 3) := by decide +kernel
theorem dc_Model_deputies_59 : decode cd_Model_deputies 59 = .ok (.aload_n 0, 1) := by decide +kernel
theorem dc_Model_deputies_60 : decode cd_Model_deputies 60 = .ok (.getfield 171, 3) := by decide +kernel
theorem dc_Model_deputies_63 : decode cd_Model_deputies 63 = .ok (.iload_n 1, 1) := by decide +kernel
theorem dc_Model_deputies_64 : decode cd_Model_deputies 64 = .ok (.iaload, 1) := by decide +kernel
theorem dc_Model_deputies_65 : decode cd_Model_deputies 65 = .ok (.ireturn, 1) := by decide +kernel
