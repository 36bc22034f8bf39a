theorem dX9_valueOf_140 : decode cX9_valueOf 140 = .ok (.iload_n 1, 1) := by decide +kernel
theorem dX9_valueOf_141 : decode cX9_valueOf 141 = .ok (.iconst 1, 1) := by decide +kernel
theorem dX9_valueOf_142 : decode cX9_valueOf 142 = .ok (.isub, 1) := by decide +kernel
theorem dX9_valueOf_143 : decode cX9_valueOf 143 = .ok (.laload, 1) := by decide +kernel
theorem dX9_valueOf_144 : decode cX9_valueOf 144 = .ok (.lsub, 1) := by decide +kernel
theorem dX9_valueOf_145 : decode cX9_valueOf 145 = .ok (.lastore, 1) := by decide +kernel
theorem dX9_valueOf_146 : decode cX9_valueOf 146 = .ok (.goto 156, 3) := by decide +kernel
theorem dX9_valueOf_149 : decode cX9_valueOf 149 = .ok (.iload_n 3, 1) := by decide +kernel
theorem dX9_valueOf_150 : decode cX9_valueOf 150 = .ok (.bipush 9, 2) := by decide +kernel
theorem dX9_valueOf_152 : decode cX9_valueOf 152 = .ok (.if_icmp .ne 47, 3) := by decide +kernel
theorem dX9_valueOf_155 : decode cX9_valueOf 155 = .ok (.iinc 1 (-2), 3) := by decide +kernel
theorem dX9_valueOf_158 : decode cX9_valueOf 158 = .ok (.aload_n 0, 1) := by decide +kernel
theorem dX9_valueOf_159 : decode cX9_valueOf 159 = .ok (.getfield 37, 3) := by decide +kernel
theorem dX9_valueOf_162 : decode cX9_valueOf 162 = .ok (.iload_n 1, 1) := by decide +kernel
theorem dX9_valueOf_163 : decode cX9_valueOf 163 = .ok (.iconst 1, 1) := by decide +kernel
theorem dX9_valueOf_164 : decode cX9_valueOf 164 = .ok (.isub, 1) := by decide +kernel
theorem dX9_valueOf_165 : decode cX9_valueOf 165 = .ok (.aload_n 0, 1) := by decide +kernel
theorem dX9_valueOf_166 : decode cX9_valueOf 166 = .ok (.getfield 37, 3) := by decide +kernel
theorem dX9_valueOf_169 : decode cX9_valueOf 169 = .ok (.iload_n 1, 1) := by decide +kernel
theorem dX9_valueOf_170 : decode cX9_valueOf 170 = .ok (.iconst 1, 1) := by decide +kernel
theorem dX9_valueOf_171 : decode cX9_valueOf 171 = .ok (.isub, 1) := by decide +kernel
theorem dX9_valueOf_172 : decode cX9_valueOf 172 = .ok (.laload, 1) := by decide +kernel
theorem dX9_valueOf_173 : decode cX9_valueOf 173 = .ok (.lconst 1, 1) := by decide +kernel
theorem dX9_valueOf_174 : decode cX9_valueOf 174 = .ok (.lcmp, 1) := by decide +kernel
theorem dX9_valueOf_175 : decode cX9_valueOf 175 = .ok (.ifCond .ne 12, 3) := by decide +kernel
theorem dX9_valueOf_178 : decode cX9_valueOf 178 = .ok (.aload_n 0, 1) := by decide +kernel
theorem dX9_valueOf_179 : decode cX9_valueOf 179 = .ok (.getfield 37, 3) := by decide +kernel
theorem dX9_valueOf_182 : decode cX9_valueOf 182 = .ok (.iload_n 1, 1) := by decide +kernel
theorem dX9_valueOf_183 : decode cX9_valueOf 183 = .ok (.laload, 1) := by decide +kernel
theorem dX9_valueOf_184 : decode cX9_valueOf 184 = .ok (.goto 11, 3) := by decide +kernel
theorem dX9_valueOf_187 : decode cX9_valueOf 187 = .ok (.aload_n 0, 1) := by decide +kernel
theorem dX9_valueOf_188 : decode cX9_valueOf 188 = .ok (.getfield 37, 3) := by decide +kernel
theorem dX9_valueOf_191 : decode cX9_valueOf 191 = .ok (.iload_n 1, 1) := by decide +kernel
theorem dX9_valueOf_192 : decode cX9_valueOf 192 = .ok (.iconst 1, 1) := by decide +kernel
theorem dX9_valueOf_193 : decode cX9_valueOf 193 = .ok (.iadd, 1) := by decide +kernel
theorem dX9_valueOf_194 : decode cX9_valueOf 194 = .ok (.laload, 1) := by decide +kernel
theorem dX9_valueOf_195 : decode cX9_valueOf 195 = .ok (.lastore, 1) := by decide +kernel
theorem dX9_valueOf_196 : decode cX9_valueOf 196 = .ok (.goto 106, 3) := by decide +kernel
theorem dX9_valueOf_199 : decode cX9_valueOf 199 = .ok (.iinc 1 (-1), 3) := by decide +kernel
theorem dX9_valueOf_202 : decode cX9_valueOf 202 = .ok (.aload_n 0, 1) := by decide +kernel
theorem dX9_valueOf_203 : decode cX9_valueOf 203 = .ok (.getfield 37, 3) := by decide +kernel
theorem dX9_valueOf_206 : decode cX9_valueOf 206 = .ok (.iload_n 1, 1) := by decide +kernel
theorem dX9_valueOf_207 : decode cX9_valueOf 207 = .ok (.iconst 1, 1) := by decide +kernel
theorem dX9_valueOf_208 : decode cX9_valueOf 208 = .ok (.isub, 1) := by decide +kernel
theorem dX9_valueOf_209 : decode cX9_valueOf 209 = .ok (.laload, 1) := by decide +kernel
theorem dX9_valueOf_210 : decode cX9_valueOf 210 = .ok (.lstore 4, 2) := by decide +kernel
theorem dX9_valueOf_212 : decode cX9_valueOf 212 = .ok (.aload_n 0, 1) := by decide +kernel
theorem dX9_valueOf_213 : decode cX9_valueOf 213 = .ok (.getfield 37, 3) := by decide +kernel
theorem dX9_valueOf_216 : decode cX9_valueOf 216 = .ok (.iload_n 1, 1) := by decide +kernel
theorem dX9_valueOf_217 : decode cX9_valueOf 217 = .ok (.laload, 1) := by decide +kernel
theorem dX9_valueOf_218 : decode cX9_valueOf 218 = .ok (.lstore 6, 2) := by decide +kernel
theorem dX9_valueOf_220 : decode cX9_valueOf 220 = .ok (.aload_n 0, 1) := by decide +kernel
theorem dX9_valueOf_221 : decode cX9_valueOf 221 = .ok (.getfield 37, 3) := by decide +kernel
theorem dX9_valueOf_224 : decode cX9_valueOf 224 = .ok (.iload_n 1, 1) := by decide +kernel
theorem dX9_valueOf_225 : decode cX9_valueOf 225 = .ok (.iconst 1, 1) := by decide +kernel
theorem dX9_valueOf_226 : decode cX9_valueOf 226 = .ok (.isub, 1) := by decide +kernel
theorem dX9_valueOf_227 : decode cX9_valueOf 227 = .ok (.iload_n 3, 1) := by decide +kernel
theorem dX9_valueOf_228 : decode cX9_valueOf 228 = .ok (.iconst 2, 1) := by decide +kernel
theorem dX9_valueOf_229 : decode cX9_valueOf 229 = .ok (.if_icmp .ne 11, 3) := by decide +kernel
theorem dX9_valueOf_232 : decode cX9_valueOf 232 = .ok (.lload 4, 2) := by decide +kernel
theorem dX9_valueOf_234 : decode cX9_valueOf 234 = .ok (.lload 6, 2) := by decide +kernel
theorem dX9_valueOf_236 : decode cX9_valueOf 236 = .ok (.ladd, 1) := by decide +kernel
theorem dX9_valueOf_237 : decode cX9_valueOf 237 = .ok (.goto 64, 3) := by decide +kernel
theorem dX9_valueOf_240 : decode cX9_valueOf 240 = .ok (.iload_n 3, 1) := by decide +kernel
theorem dX9_valueOf_241 : decode cX9_valueOf 241 = .ok (.iconst 3, 1) := by decide +kernel
theorem dX9_valueOf_242 : decode cX9_valueOf 242 = .ok (.if_icmp .ne 11, 3) := by decide +kernel
theorem dX9_valueOf_245 : decode cX9_valueOf 245 = .ok (.lload 4, 2) := by decide +kernel
theorem dX9_valueOf_247 : decode cX9_valueOf 247 = .ok (.lload 6, 2) := by decide +kernel
theorem dX9_valueOf_249 : decode cX9_valueOf 249 = .ok (.lsub, 1) := by decide +kernel
theorem dX9_valueOf_250 : decode cX9_valueOf 250 = .ok (.goto 51, 3) := by decide +kernel
theorem dX9_valueOf_253 : decode cX9_valueOf 253 = .ok (.iload_n 3, 1) := by decide +kernel
theorem dX9_valueOf_254 : decode cX9_valueOf 254 = .ok (.iconst 4, 1) := by decide +kernel
theorem dX9_valueOf_255 : decode cX9_valueOf 255 = .ok (.if_icmp .eq 9, 3) := by decide +kernel
theorem dX9_valueOf_258 : decode cX9_valueOf 258 = .ok (.iload_n 3, 1) := by decide +kernel
theorem dX9_valueOf_259 : decode cX9_valueOf 259 = .ok (.bipush 7, 2) := by decide +kernel
theorem dX9_valueOf_261 : decode cX9_valueOf 261 = .ok (.if_icmp .ne 11, 3) := by decide +kernel
theorem dX9_valueOf_264 : decode cX9_valueOf 264 = .ok (.lload 4, 2) := by decide +kernel
theorem dX9_valueOf_266 : decode cX9_valueOf 266 = .ok (.lload 6, 2) := by decide +kernel
theorem dX9_valueOf_268 : decode cX9_valueOf 268 = .ok (.lmul, 1) := by decide +kernel
theorem dX9_valueOf_269 : decode cX9_valueOf 269 = .ok (.goto 32, 3) := by decide +kernel
theorem dX9_valueOf_272 : decode cX9_valueOf 272 = .ok (.iload_n 3, 1) := by decide +kernel
theorem dX9_valueOf_273 : decode cX9_valueOf 273 = .ok (.iconst 5, 1) := by decide +kernel
theorem dX9_valueOf_274 : decode cX9_valueOf 274 = .ok (.if_icmp .ne 14, 3) := by decide +kernel
theorem dX9_valueOf_277 : decode cX9_valueOf 277 = .ok (.lload 4, 2) := by decide +kernel
theorem dX9_valueOf_279 : decode cX9_valueOf 279 = .ok (.lload 6, 2) := by decide +kernel
theorem dX9_valueOf_281 : decode cX9_valueOf 281 = .ok (.lcmp, 1) := by decide +kernel
theorem dX9_valueOf_282 : decode cX9_valueOf 282 = .ok (.ifCond .ge 18, 3) := by decide +kernel
theorem dX9_valueOf_285 : decode cX9_valueOf 285 = .ok (.goto 11, 3) := by decide +kernel
theorem dX9_valueOf_288 : decode cX9_valueOf 288 = .ok (.lload 4, 2) := by decide +kernel
theorem dX9_valueOf_290 : decode cX9_valueOf 290 = .ok (.lload 6, 2) := by decide +kernel
theorem dX9_valueOf_292 : decode cX9_valueOf 292 = .ok (.lcmp, 1) := by decide +kernel
theorem dX9_valueOf_293 : decode cX9_valueOf 293 = .ok (.ifCond .ne 7, 3) := by decide +kernel
theorem dX9_valueOf_296 : decode cX9_valueOf 296 = .ok (.lconst 1, 1) := by decide +kernel
theorem dX9_valueOf_297 : decode cX9_valueOf 297 = .ok (.goto 4, 3) := by decide +kernel
theorem dX9_valueOf_300 : decode cX9_valueOf 300 = .ok (.lconst 0, 1) := by decide +kernel
theorem dX9_valueOf_301 : decode cX9_valueOf 301 = .ok (.lastore, 1) := by decide +kernel
theorem dX9_valueOf_302 : decode cX9_valueOf 302 = .ok (.aload_n 0, 1) := by decide +kernel
theorem dX9_valueOf_303 : decode cX9_valueOf 303 = .ok (.getfield 37, 3) := by decide +kernel
theorem dX9_valueOf_306 : decode cX9_valueOf 306 = .ok (.iload_n 1, 1) := by decide +kernel
theorem dX9_valueOf_307 : decode cX9_valueOf 307 = .ok (.iconst 1, 1) := by decide +kernel
theorem dX9_valueOf_308 : decode cX9_valueOf 308 = .ok (.isub, 1) := by decide +kernel
theorem dX9_valueOf_309 : decode cX9_valueOf 309 = .ok (.laload, 1) := by decide +kernel
theorem dX9_valueOf_310 : decode cX9_valueOf 310 = .ok (.ldc2_w 134, 3) := by decide +kernel
theorem dX9_valueOf_313 : decode cX9_valueOf 313 = .ok (.ldc2_w 136, 3) := by decide +kernel
theorem dX9_valueOf_316 : decode cX9_valueOf 316 = .ok (.invokestatic 77, 3) := by decide +kernel
theorem dX9_valueOf_319 : decode cX9_valueOf 319 = .ok (.ifCond .ne 6, 3) := by decide +kernel
theorem dX9_valueOf_322 : decode cX9_valueOf 322 = .ok (.ldc 138, 2) := by decide +kernel
theorem dX9_valueOf_324 : decode cX9_valueOf 324 = .ok (.ireturn, 1) := by decide +kernel
theorem dX9_valueOf_325 : decode cX9_valueOf 325 = .ok (.iinc 2 1, 3) := by decide +kernel
theorem dX9_valueOf_328 : decode cX9_valueOf 328 = .ok (.goto (-324), 3) := by decide +kernel
theorem dX9_valueOf_331 : decode cX9_valueOf 331 = .ok (.aload_n 0, 1) := by decide +kernel
theorem dX9_valueOf_332 : decode cX9_valueOf 332 = .ok (.getfield 37, 3) := by decide +kernel
theorem dX9_valueOf_335 : decode cX9_valueOf 335 = .ok (.iconst 0, 1) := by decide +kernel
theorem dX9_valueOf_336 : decode cX9_valueOf 336 = .ok (.laload, 1) := by decide +kernel
theorem dX9_valueOf_337 : decode cX9_valueOf 337 = .ok (.l2i, 1) := by decide +kernel
theorem dX9_valueOf_338 : decode cX9_valueOf 338 = .ok (.ireturn, 1) := by decide +kernel
theorem dX9_takeProgram_0 : decode cX9_takeProgram 0 = .ok (.aload_n 0, 1) := by decide +kernel
theorem dX9_takeProgram_1 : decode cX9_takeProgram 1 = .ok (.aload_n 0, 1) := by decide +kernel
theorem dX9_takeProgram_2 : decode cX9_takeProgram 2 = .ok (.getfield 89, 3) := by decide +kernel
theorem dX9_takeProgram_5 : decode cX9_takeProgram 5 = .ok (.putfield 114, 3) := by decide +kernel
theorem dX9_takeProgram_8 : decode cX9_takeProgram 8 = .ok (.iconst 0, 1) := by decide +kernel
theorem dX9_takeProgram_9 : decode cX9_takeProgram 9 = .ok (.istore_n 1, 1) := by decide +kernel
theorem dX9_takeProgram_10 : decode cX9_takeProgram 10 = .ok (.iload_n 1, 1) := by decide +kernel
theorem dX9_takeProgram_11 : decode cX9_takeProgram 11 = .ok (.aload_n 0, 1) := by decide +kernel
theorem dX9_takeProgram_12 : decode cX9_takeProgram 12 = .ok (.getfield 89, 3) := by decide +kernel
theorem dX9_takeProgram_15 : decode cX9_takeProgram 15 = .ok (.if_icmp .ge 21, 3) := by decide +kernel
theorem dX9_takeProgram_18 : decode cX9_takeProgram 18 = .ok (.aload_n 0, 1) := by decide +kernel
theorem dX9_takeProgram_19 : decode cX9_takeProgram 19 = .ok (.getfield 22, 3) := by decide +kernel
theorem dX9_takeProgram_22 : decode cX9_takeProgram 22 = .ok (.iload_n 1, 1) := by decide +kernel
theorem dX9_takeProgram_23 : decode cX9_takeProgram 23 = .ok (.aload_n 0, 1) := by decide +kernel
theorem dX9_takeProgram_24 : decode cX9_takeProgram 24 = .ok (.getfield 7, 3) := by decide +kernel
theorem dX9_takeProgram_27 : decode cX9_takeProgram 27 = .ok (.iload_n 1, 1) := by decide +kernel
theorem dX9_takeProgram_28 : decode cX9_takeProgram 28 = .ok (.iaload, 1) := by decide +kernel
theorem dX9_takeProgram_29 : decode cX9_takeProgram 29 = .ok (.iastore, 1) := by decide +kernel
theorem dX9_takeProgram_30 : decode cX9_takeProgram 30 = .ok (.iinc 1 1, 3) := by decide +kernel
theorem dX9_takeProgram_33 : decode cX9_takeProgram 33 = .ok (.goto (-23), 3) := by decide +kernel
theorem dX9_takeProgram_36 : decode cX9_takeProgram 36 = .ok (.return_, 1) := by decide +kernel
theorem dX9_fault_0 : decode cX9_fault 0 = .ok (.aload_n 0, 1) := by decide +kernel
theorem dX9_fault_1 : decode cX9_fault 1 = .ok (.iconst 0, 1) := by decide +kernel
theorem dX9_fault_2 : decode cX9_fault 2 = .ok (.putfield 69, 3) := by decide +kernel
theorem dX9_fault_5 : decode cX9_fault 5 = .ok (.aload_n 0, 1) := by decide +kernel
theorem dX9_fault_6 : decode cX9_fault 6 = .ok (.invokevirtual 139, 3) := by decide +kernel
theorem dX9_fault_9 : decode cX9_fault 9 = .ok (.aload_n 0, 1) := by decide +kernel
theorem dX9_fault_10 : decode cX9_fault 10 = .ok (.invokevirtual 142, 3) := by decide +kernel
theorem dX9_fault_13 : decode cX9_fault 13 = .ok (.ireturn, 1) := by decide +kernel
theorem dX9_fits_0 : decode cX9_fits 0 = .ok (.aload_n 0, 1) := by decide +kernel
theorem dX9_fits_1 : decode cX9_fits 1 = .ok (.iconst 0, 1) := by decide +kernel
theorem dX9_fits_2 : decode cX9_fits 2 = .ok (.putfield 69, 3) := by decide +kernel
theorem dX9_fits_5 : decode cX9_fits 5 = .ok (.aload_n 0, 1) := by decide +kernel
theorem dX9_fits_6 : decode cX9_fits 6 = .ok (.invokevirtual 139, 3) := by decide +kernel
theorem dX9_fits_9 : decode cX9_fits 9 = .ok (.aload_n 0, 1) := by decide +kernel
theorem dX9_fits_10 : decode cX9_fits 10 = .ok (.invokevirtual 142, 3) := by decide +kernel
theorem dX9_fits_13 : decode cX9_fits 13 = .ok (.iconst (-1), 1) := by decide +kernel
theorem dX9_fits_14 : decode cX9_fits 14 = .ok (.if_icmp .eq 6, 3) := by decide +kernel
theorem dX9_fits_17 : decode cX9_fits 17 = .ok (.bipush (-5), 2) := by decide +kernel
theorem dX9_fits_19 : decode cX9_fits 19 = .ok (.ireturn, 1) := by decide +kernel
theorem dX9_fits_20 : decode cX9_fits 20 = .ok (.aload_n 0, 1) := by decide +kernel
theorem dX9_fits_21 : decode cX9_fits 21 = .ok (.invokevirtual 145, 3) := by decide +kernel
theorem dX9_fits_24 : decode cX9_fits 24 = .ok (.istore_n 1, 1) := by decide +kernel
theorem dX9_fits_25 : decode cX9_fits 25 = .ok (.iload_n 1, 1) := by decide +kernel
theorem dX9_fits_26 : decode cX9_fits 26 = .ok (.ifCond .ge 8, 3) := by decide +kernel
theorem dX9_fits_29 : decode cX9_fits 29 = .ok (.bipush (-6), 2) := by decide +kernel
theorem dX9_fits_31 : decode cX9_fits 31 = .ok (.goto 4, 3) := by decide +kernel
theorem dX9_fits_34 : decode cX9_fits 34 = .ok (.iload_n 1, 1) := by decide +kernel
theorem dX9_fits_35 : decode cX9_fits 35 = .ok (.ireturn, 1) := by decide +kernel
theorem dX9_value_0 : decode cX9_value 0 = .ok (.aload_n 0, 1) := by decide +kernel
theorem dX9_value_1 : decode cX9_value 1 = .ok (.iconst 0, 1) := by decide +kernel
theorem dX9_value_2 : decode cX9_value 2 = .ok (.putfield 69, 3) := by decide +kernel
theorem dX9_value_5 : decode cX9_value 5 = .ok (.aload_n 0, 1) := by decide +kernel
theorem dX9_value_6 : decode cX9_value 6 = .ok (.invokevirtual 139, 3) := by decide +kernel
theorem dX9_value_9 : decode cX9_value 9 = .ok (.aload_n 0, 1) := by decide +kernel
theorem dX9_value_10 : decode cX9_value 10 = .ok (.invokevirtual 142, 3) := by decide +kernel
theorem dX9_value_13 : decode cX9_value 13 = .ok (.iconst (-1), 1) := by decide +kernel
theorem dX9_value_14 : decode cX9_value 14 = .ok (.if_icmp .ne 10, 3) := by decide +kernel
theorem dX9_value_17 : decode cX9_value 17 = .ok (.aload_n 0, 1) := by decide +kernel
theorem dX9_value_18 : decode cX9_value 18 = .ok (.invokevirtual 145, 3) := by decide +kernel
theorem dX9_value_21 : decode cX9_value 21 = .ok (.ifCond .ge 6, 3) := by decide +kernel
theorem dX9_value_24 : decode cX9_value 24 = .ok (.ldc 138, 2) := by decide +kernel
theorem dX9_value_26 : decode cX9_value 26 = .ok (.ireturn, 1) := by decide +kernel
theorem dX9_value_27 : decode cX9_value 27 = .ok (.aload_n 0, 1) := by decide +kernel
theorem dX9_value_28 : decode cX9_value 28 = .ok (.getfield 34, 3) := by decide +kernel
theorem dX9_value_31 : decode cX9_value 31 = .ok (.iconst 0, 1) := by decide +kernel
theorem dX9_value_32 : decode cX9_value 32 = .ok (.iload_n 1, 1) := by decide +kernel
theorem dX9_value_33 : decode cX9_value 33 = .ok (.iastore, 1) := by decide +kernel
theorem dX9_value_34 : decode cX9_value 34 = .ok (.aload_n 0, 1) := by decide +kernel
theorem dX9_value_35 : decode cX9_value 35 = .ok (.getfield 34, 3) := by decide +kernel
theorem dX9_value_38 : decode cX9_value 38 = .ok (.iconst 1, 1) := by decide +kernel
theorem dX9_value_39 : decode cX9_value 39 = .ok (.iload_n 2, 1) := by decide +kernel
theorem dX9_value_40 : decode cX9_value 40 = .ok (.iastore, 1) := by decide +kernel
theorem dX9_value_41 : decode cX9_value 41 = .ok (.aload_n 0, 1) := by decide +kernel
theorem dX9_value_42 : decode cX9_value 42 = .ok (.getfield 34, 3) := by decide +kernel
theorem dX9_value_45 : decode cX9_value 45 = .ok (.iconst 2, 1) := by decide +kernel
theorem dX9_value_46 : decode cX9_value 46 = .ok (.iload_n 3, 1) := by decide +kernel
theorem dX9_value_47 : decode cX9_value 47 = .ok (.iastore, 1) := by decide +kernel
theorem dX9_value_48 : decode cX9_value 48 = .ok (.aload_n 0, 1) := by decide +kernel
theorem dX9_value_49 : decode cX9_value 49 = .ok (.getfield 34, 3) := by decide +kernel
theorem dX9_value_52 : decode cX9_value 52 = .ok (.iconst 3, 1) := by decide +kernel
theorem dX9_value_53 : decode cX9_value 53 = .ok (.iload 4, 2) := by decide +kernel
theorem dX9_value_55 : decode cX9_value 55 = .ok (.iastore, 1) := by decide +kernel
theorem dX9_value_56 : decode cX9_value 56 = .ok (.aload_n 0, 1) := by decide +kernel
theorem dX9_value_57 : decode cX9_value 57 = .ok (.invokevirtual 148, 3) := by decide +kernel
theorem dX9_value_60 : decode cX9_value 60 = .ok (.ireturn, 1) := by decide +kernel
theorem dX9_test_0 : decode cX9_test 0 = .ok (.aload_n 0, 1) := by decide +kernel
theorem dX9_test_1 : decode cX9_test 1 = .ok (.iconst 0, 1) := by decide +kernel
theorem dX9_test_2 : decode cX9_test 2 = .ok (.putfield 69, 3) := by decide +kernel
theorem dX9_test_5 : decode cX9_test 5 = .ok (.iload_n 1, 1) := by decide +kernel
theorem dX9_test_6 : decode cX9_test 6 = .ok (.i2l, 1) := by decide +kernel
theorem dX9_test_7 : decode cX9_test 7 = .ok (.ldc2_w 151, 3) := by decide +kernel
theorem dX9_test_10 : decode cX9_test 10 = .ok (.ldc2_w 153, 3) := by decide +kernel
theorem dX9_test_13 : decode cX9_test 13 = .ok (.invokestatic 77, 3) := by decide +kernel
theorem dX9_test_16 : decode cX9_test 16 = .ok (.ifCond .eq 65, 3) := by decide +kernel
theorem dX9_test_19 : decode cX9_test 19 = .ok (.iload_n 2, 1) := by decide +kernel
theorem dX9_test_20 : decode cX9_test 20 = .ok (.i2l, 1) := by decide +kernel
theorem dX9_test_21 : decode cX9_test 21 = .ok (.ldc2_w 151, 3) := by decide +kernel
theorem dX9_test_24 : decode cX9_test 24 = .ok (.ldc2_w 153, 3) := by decide +kernel
theorem dX9_test_27 : decode cX9_test 27 = .ok (.invokestatic 77, 3) := by decide +kernel
theorem dX9_test_30 : decode cX9_test 30 = .ok (.ifCond .eq 51, 3) := by decide +kernel
theorem dX9_test_33 : decode cX9_test 33 = .ok (.iload_n 3, 1) := by decide +kernel
theorem dX9_test_34 : decode cX9_test 34 = .ok (.i2l, 1) := by decide +kernel
theorem dX9_test_35 : decode cX9_test 35 = .ok (.ldc2_w 151, 3) := by decide +kernel
theorem dX9_test_38 : decode cX9_test 38 = .ok (.ldc2_w 153, 3) := by decide +kernel
theorem dX9_test_41 : decode cX9_test 41 = .ok (.invokestatic 77, 3) := by decide +kernel
theorem dX9_test_44 : decode cX9_test 44 = .ok (.ifCond .eq 37, 3) := by decide +kernel
theorem dX9_test_47 : decode cX9_test 47 = .ok (.iload 4, 2) := by decide +kernel
theorem dX9_test_49 : decode cX9_test 49 = .ok (.i2l, 1) := by decide +kernel
theorem dX9_test_50 : decode cX9_test 50 = .ok (.ldc2_w 151, 3) := by decide +kernel
theorem dX9_test_53 : decode cX9_test 53 = .ok (.ldc2_w 153, 3) := by decide +kernel
theorem dX9_test_56 : decode cX9_test 56 = .ok (.invokestatic 77, 3) := by decide +kernel
theorem dX9_test_59 : decode cX9_test 59 = .ok (.ifCond .eq 22, 3) := by decide +kernel
theorem dX9_test_62 : decode cX9_test 62 = .ok (.iload 5, 2) := by decide +kernel
theorem dX9_test_64 : decode cX9_test 64 = .ok (.i2l, 1) := by decide +kernel
theorem dX9_test_65 : decode cX9_test 65 = .ok (.ldc2_w 134, 3) := by decide +kernel
theorem dX9_test_68 : decode cX9_test 68 = .ok (.ldc2_w 136, 3) := by decide +kernel
theorem dX9_test_71 : decode cX9_test 71 = .ok (.invokestatic 77, 3) := by decide +kernel
theorem dX9_test_74 : decode cX9_test 74 = .ok (.ifCond .eq 7, 3) := by decide +kernel
theorem dX9_test_77 : decode cX9_test 77 = .ok (.iconst 1, 1) := by decide +kernel
theorem dX9_test_78 : decode cX9_test 78 = .ok (.goto 4, 3) := by decide +kernel
theorem dX9_test_81 : decode cX9_test 81 = .ok (.iconst 0, 1) := by decide +kernel
theorem dX9_test_82 : decode cX9_test 82 = .ok (.istore 6, 2) := by decide +kernel
theorem dX9_test_84 : decode cX9_test 84 = .ok (.iload 6, 2) := by decide +kernel
theorem dX9_test_86 : decode cX9_test 86 = .ok (.ifCond .ne 9, 3) := by decide +kernel
theorem dX9_test_89 : decode cX9_test 89 = .ok (.aload_n 0, 1) := by decide +kernel
theorem dX9_test_90 : decode cX9_test 90 = .ok (.iconst (-1), 1) := by decide +kernel
theorem dX9_test_91 : decode cX9_test 91 = .ok (.invokevirtual 85, 3) := by decide +kernel
theorem dX9_test_94 : decode cX9_test 94 = .ok (.ireturn, 1) := by decide +kernel
theorem dX9_test_95 : decode cX9_test 95 = .ok (.aload_n 0, 1) := by decide +kernel
theorem dX9_test_96 : decode cX9_test 96 = .ok (.getfield 155, 3) := by decide +kernel
theorem dX9_test_99 : decode cX9_test 99 = .ok (.bipush 8, 2) := by decide +kernel
theorem dX9_test_101 : decode cX9_test 101 = .ok (.if_icmp .ne 10, 3) := by decide +kernel
theorem dX9_test_104 : decode cX9_test 104 = .ok (.aload_n 0, 1) := by decide +kernel
theorem dX9_test_105 : decode cX9_test 105 = .ok (.bipush (-5), 2) := by decide +kernel
theorem dX9_test_107 : decode cX9_test 107 = .ok (.invokevirtual 85, 3) := by decide +kernel
theorem dX9_test_110 : decode cX9_test 110 = .ok (.ireturn, 1) := by decide +kernel
theorem dX9_test_111 : decode cX9_test 111 = .ok (.aload_n 0, 1) := by decide +kernel
theorem dX9_test_112 : decode cX9_test 112 = .ok (.getfield 16, 3) := by decide +kernel
theorem dX9_test_115 : decode cX9_test 115 = .ok (.iconst 4, 1) := by decide +kernel
theorem dX9_test_116 : decode cX9_test 116 = .ok (.aload_n 0, 1) := by decide +kernel
theorem dX9_test_117 : decode cX9_test 117 = .ok (.getfield 155, 3) := by decide +kernel
theorem dX9_test_120 : decode cX9_test 120 = .ok (.imul, 1) := by decide +kernel
theorem dX9_test_121 : decode cX9_test 121 = .ok (.iload_n 1, 1) := by decide +kernel
theorem dX9_test_122 : decode cX9_test 122 = .ok (.iastore, 1) := by decide +kernel
theorem dX9_test_123 : decode cX9_test 123 = .ok (.aload_n 0, 1) := by decide +kernel
theorem dX9_test_124 : decode cX9_test 124 = .ok (.getfield 16, 3) := by decide +kernel
theorem dX9_test_127 : decode cX9_test 127 = .ok (.iconst 4, 1) := by decide +kernel
theorem dX9_test_128 : decode cX9_test 128 = .ok (.aload_n 0, 1) := by decide +kernel
theorem dX9_test_129 : decode cX9_test 129 = .ok (.getfield 155, 3) := by decide +kernel
theorem dX9_test_132 : decode cX9_test 132 = .ok (.imul, 1) := by decide +kernel
theorem dX9_test_133 : decode cX9_test 133 = .ok (.iconst 1, 1) := by decide +kernel
theorem dX9_test_134 : decode cX9_test 134 = .ok (.iadd, 1) := by decide +kernel
theorem dX9_test_135 : decode cX9_test 135 = .ok (.iload_n 2, 1) := by decide +kernel
theorem dX9_test_136 : decode cX9_test 136 = .ok (.iastore, 1) := by decide +kernel
theorem dX9_test_137 : decode cX9_test 137 = .ok (.aload_n 0, 1) := by decide +kernel
theorem dX9_test_138 : decode cX9_test 138 = .ok (.getfield 16, 3) := by decide +kernel
theorem dX9_test_141 : decode cX9_test 141 = .ok (.iconst 4, 1) := by decide +kernel
theorem dX9_test_142 : decode cX9_test 142 = .ok (.aload_n 0, 1) := by decide +kernel
theorem dX9_test_143 : decode cX9_test 143 = .ok (.getfield 155, 3) := by decide +kernel
theorem dX9_test_146 : decode cX9_test 146 = .ok (.imul, 1) := by decide +kernel
theorem dX9_test_147 : decode cX9_test 147 = .ok (.iconst 2, 1) := by decide +kernel
theorem dX9_test_148 : decode cX9_test 148 = .ok (.iadd, 1) := by decide +kernel
theorem dX9_test_149 : decode cX9_test 149 = .ok (.iload_n 3, 1) := by decide +kernel
theorem dX9_test_150 : decode cX9_test 150 = .ok (.iastore, 1) := by decide +kernel
theorem dX9_test_151 : decode cX9_test 151 = .ok (.aload_n 0, 1) := by decide +kernel
theorem dX9_test_152 : decode cX9_test 152 = .ok (.getfield 16, 3) := by decide +kernel
theorem dX9_test_155 : decode cX9_test 155 = .ok (.iconst 4, 1) := by decide +kernel
theorem dX9_test_156 : decode cX9_test 156 = .ok (.aload_n 0, 1) := by decide +kernel
theorem dX9_test_157 : decode cX9_test 157 = .ok (.getfield 155, 3) := by decide +kernel
theorem dX9_test_160 : decode cX9_test 160 = .ok (.imul, 1) := by decide +kernel
theorem dX9_test_161 : decode cX9_test 161 = .ok (.iconst 3, 1) := by decide +kernel
theorem dX9_test_162 : decode cX9_test 162 = .ok (.iadd, 1) := by decide +kernel
theorem dX9_test_163 : decode cX9_test 163 = .ok (.iload 4, 2) := by decide +kernel
theorem dX9_test_165 : decode cX9_test 165 = .ok (.iastore, 1) := by decide +kernel
theorem dX9_test_166 : decode cX9_test 166 = .ok (.aload_n 0, 1) := by decide +kernel
theorem dX9_test_167 : decode cX9_test 167 = .ok (.getfield 19, 3) := by decide +kernel
theorem dX9_test_170 : decode cX9_test 170 = .ok (.aload_n 0, 1) := by decide +kernel
theorem dX9_test_171 : decode cX9_test 171 = .ok (.getfield 155, 3) := by decide +kernel
theorem dX9_test_174 : decode cX9_test 174 = .ok (.iload 5, 2) := by decide +kernel
theorem dX9_test_176 : decode cX9_test 176 = .ok (.iastore, 1) := by decide +kernel
theorem dX9_test_177 : decode cX9_test 177 = .ok (.aload_n 0, 1) := by decide +kernel
theorem dX9_test_178 : decode cX9_test 178 = .ok (.dup, 1) := by decide +kernel
theorem dX9_test_179 : decode cX9_test 179 = .ok (.getfield 155, 3) := by decide +kernel
theorem dX9_test_182 : decode cX9_test 182 = .ok (.iconst 1, 1) := by decide +kernel
theorem dX9_test_183 : decode cX9_test 183 = .ok (.iadd, 1) := by decide +kernel
theorem dX9_test_184 : decode cX9_test 184 = .ok (.putfield 155, 3) := by decide +kernel
theorem dX9_test_187 : decode cX9_test 187 = .ok (.aload_n 0, 1) := by decide +kernel
theorem dX9_test_188 : decode cX9_test 188 = .ok (.aload_n 0, 1) := by decide +kernel
theorem dX9_test_189 : decode cX9_test 189 = .ok (.getfield 155, 3) := by decide +kernel
theorem dX9_test_192 : decode cX9_test 192 = .ok (.iconst 1, 1) := by decide +kernel
theorem dX9_test_193 : decode cX9_test 193 = .ok (.isub, 1) := by decide +kernel
theorem dX9_test_194 : decode cX9_test 194 = .ok (.invokevirtual 85, 3) := by decide +kernel
theorem dX9_test_197 : decode cX9_test 197 = .ok (.ireturn, 1) := by decide +kernel
theorem dX9_drop_0 : decode cX9_drop 0 = .ok (.aload_n 0, 1) := by decide +kernel
theorem dX9_drop_1 : decode cX9_drop 1 = .ok (.iconst 0, 1) := by decide +kernel
theorem dX9_drop_2 : decode cX9_drop 2 = .ok (.putfield 69, 3) := by decide +kernel
theorem dX9_drop_5 : decode cX9_drop 5 = .ok (.iload_n 1, 1) := by decide +kernel
theorem dX9_drop_6 : decode cX9_drop 6 = .ok (.i2l, 1) := by decide +kernel
theorem dX9_drop_7 : decode cX9_drop 7 = .ok (.lconst 0, 1) := by decide +kernel
theorem dX9_drop_8 : decode cX9_drop 8 = .ok (.aload_n 0, 1) := by decide +kernel
theorem dX9_drop_9 : decode cX9_drop 9 = .ok (.getfield 155, 3) := by decide +kernel
theorem dX9_drop_12 : decode cX9_drop 12 = .ok (.i2l, 1) := by decide +kernel
theorem dX9_drop_13 : decode cX9_drop 13 = .ok (.lconst 1, 1) := by decide +kernel
theorem dX9_drop_14 : decode cX9_drop 14 = .ok (.lsub, 1) := by decide +kernel
theorem dX9_drop_15 : decode cX9_drop 15 = .ok (.invokestatic 77, 3) := by decide +kernel
theorem dX9_drop_18 : decode cX9_drop 18 = .ok (.ifCond .ne 10, 3) := by decide +kernel
theorem dX9_drop_21 : decode cX9_drop 21 = .ok (.aload_n 0, 1) := by decide +kernel
theorem dX9_drop_22 : decode cX9_drop 22 = .ok (.bipush (-2), 2) := by decide +kernel
theorem dX9_drop_24 : decode cX9_drop 24 = .ok (.invokevirtual 85, 3) := by decide +kernel
theorem dX9_drop_27 : decode cX9_drop 27 = .ok (.ireturn, 1) := by decide +kernel
theorem dX9_drop_28 : decode cX9_drop 28 = .ok (.aload_n 0, 1) := by decide +kernel
theorem dX9_drop_29 : decode cX9_drop 29 = .ok (.dup, 1) := by decide +kernel
theorem dX9_drop_30 : decode cX9_drop 30 = .ok (.getfield 155, 3) := by decide +kernel
theorem dX9_drop_33 : decode cX9_drop 33 = .ok (.iconst 1, 1) := by decide +kernel
theorem dX9_drop_34 : decode cX9_drop 34 = .ok (.isub, 1) := by decide +kernel
theorem dX9_drop_35 : decode cX9_drop 35 = .ok (.putfield 155, 3) := by decide +kernel
theorem dX9_drop_38 : decode cX9_drop 38 = .ok (.iload_n 1, 1) := by decide +kernel
theorem dX9_drop_39 : decode cX9_drop 39 = .ok (.istore_n 2, 1) := by decide +kernel
theorem dX9_drop_40 : decode cX9_drop 40 = .ok (.iload_n 2, 1) := by decide +kernel
theorem dX9_drop_41 : decode cX9_drop 41 = .ok (.aload_n 0, 1) := by decide +kernel
theorem dX9_drop_42 : decode cX9_drop 42 = .ok (.getfield 155, 3) := by decide +kernel
theorem dX9_drop_45 : decode cX9_drop 45 = .ok (.if_icmp .ge 58, 3) := by decide +kernel
theorem dX9_drop_48 : decode cX9_drop 48 = .ok (.aload_n 0, 1) := by decide +kernel
theorem dX9_drop_49 : decode cX9_drop 49 = .ok (.getfield 19, 3) := by decide +kernel
theorem dX9_drop_52 : decode cX9_drop 52 = .ok (.iload_n 2, 1) := by decide +kernel
theorem dX9_drop_53 : decode cX9_drop 53 = .ok (.aload_n 0, 1) := by decide +kernel
theorem dX9_drop_54 : decode cX9_drop 54 = .ok (.getfield 19, 3) := by decide +kernel
theorem dX9_drop_57 : decode cX9_drop 57 = .ok (.iload_n 2, 1) := by decide +kernel
theorem dX9_drop_58 : decode cX9_drop 58 = .ok (.iconst 1, 1) := by decide +kernel
theorem dX9_drop_59 : decode cX9_drop 59 = .ok (.iadd, 1) := by decide +kernel
theorem dX9_drop_60 : decode cX9_drop 60 = .ok (.iaload, 1) := by decide +kernel
theorem dX9_drop_61 : decode cX9_drop 61 = .ok (.iastore, 1) := by decide +kernel
theorem dX9_drop_62 : decode cX9_drop 62 = .ok (.iconst 0, 1) := by decide +kernel
theorem dX9_drop_63 : decode cX9_drop 63 = .ok (.istore_n 3, 1) := by decide +kernel
theorem dX9_drop_64 : decode cX9_drop 64 = .ok (.iload_n 3, 1) := by decide +kernel
theorem dX9_drop_65 : decode cX9_drop 65 = .ok (.iconst 4, 1) := by decide +kernel
theorem dX9_drop_66 : decode cX9_drop 66 = .ok (.if_icmp .ge 31, 3) := by decide +kernel
theorem dX9_drop_69 : decode cX9_drop 69 = .ok (.aload_n 0, 1) := by decide +kernel
theorem dX9_drop_70 : decode cX9_drop 70 = .ok (.getfield 16, 3) := by decide +kernel
theorem dX9_drop_73 : decode cX9_drop 73 = .ok (.iconst 4, 1) := by decide +kernel
theorem dX9_drop_74 : decode cX9_drop 74 = .ok (.iload_n 2, 1) := by decide +kernel
theorem dX9_drop_75 : decode cX9_drop 75 = .ok (.imul, 1) := by decide +kernel
theorem dX9_drop_76 : decode cX9_drop 76 = .ok (.iload_n 3, 1) := by decide +kernel
theorem dX9_drop_77 : decode cX9_drop 77 = .ok (.iadd, 1) := by decide +kernel
theorem dX9_drop_78 : decode cX9_drop 78 = .ok (.aload_n 0, 1) := by decide +kernel
theorem dX9_drop_79 : decode cX9_drop 79 = .ok (.getfield 16, 3) := by decide +kernel
theorem dX9_drop_82 : decode cX9_drop 82 = .ok (.iconst 4, 1) := by decide +kernel
theorem dX9_drop_83 : decode cX9_drop 83 = .ok (.iload_n 2, 1) := by decide +kernel
theorem dX9_drop_84 : decode cX9_drop 84 = .ok (.imul, 1) := by decide +kernel
theorem dX9_drop_85 : decode cX9_drop 85 = .ok (.iconst 4, 1) := by decide +kernel
theorem dX9_drop_86 : decode cX9_drop 86 = .ok (.iadd, 1) := by decide +kernel
theorem dX9_drop_87 : decode cX9_drop 87 = .ok (.iload_n 3, 1) := by decide +kernel
theorem dX9_drop_88 : decode cX9_drop 88 = .ok (.iadd, 1) := by decide +kernel
theorem dX9_drop_89 : decode cX9_drop 89 = .ok (.iaload, 1) := by decide +kernel
theorem dX9_drop_90 : decode cX9_drop 90 = .ok (.iastore, 1) := by decide +kernel
theorem dX9_drop_91 : decode cX9_drop 91 = .ok (.iinc 3 1, 3) := by decide +kernel
theorem dX9_drop_94 : decode cX9_drop 94 = .ok (.goto (-30), 3) := by decide +kernel
theorem dX9_drop_97 : decode cX9_drop 97 = .ok (.iinc 2 1, 3) := by decide +kernel
theorem dX9_drop_100 : decode cX9_drop 100 = .ok (.goto (-60), 3) := by decide +kernel
theorem dX9_drop_103 : decode cX9_drop 103 = .ok (.aload_n 0, 1) := by decide +kernel
theorem dX9_drop_104 : decode cX9_drop 104 = .ok (.aload_n 0, 1) := by decide +kernel
theorem dX9_drop_105 : decode cX9_drop 105 = .ok (.getfield 155, 3) := by decide +kernel
theorem dX9_drop_108 : decode cX9_drop 108 = .ok (.invokevirtual 85, 3) := by decide +kernel
theorem dX9_drop_111 : decode cX9_drop 111 = .ok (.ireturn, 1) := by decide +kernel
theorem dX9_kept_0 : decode cX9_kept 0 = .ok (.iconst 0, 1) := by decide +kernel
theorem dX9_kept_1 : decode cX9_kept 1 = .ok (.istore_n 1, 1) := by decide +kernel
theorem dX9_kept_2 : decode cX9_kept 2 = .ok (.iconst 0, 1) := by decide +kernel
theorem dX9_kept_3 : decode cX9_kept 3 = .ok (.istore_n 2, 1) := by decide +kernel
theorem dX9_kept_4 : decode cX9_kept 4 = .ok (.iload_n 2, 1) := by decide +kernel
theorem dX9_kept_5 : decode cX9_kept 5 = .ok (.aload_n 0, 1) := by decide +kernel
theorem dX9_kept_6 : decode cX9_kept 6 = .ok (.getfield 155, 3) := by decide +kernel
theorem dX9_kept_9 : decode cX9_kept 9 = .ok (.if_icmp .ge 59, 3) := by decide +kernel
theorem dX9_kept_12 : decode cX9_kept 12 = .ok (.iconst 0, 1) := by decide +kernel
theorem dX9_kept_13 : decode cX9_kept 13 = .ok (.istore_n 3, 1) := by decide +kernel
theorem dX9_kept_14 : decode cX9_kept 14 = .ok (.iload_n 3, 1) := by decide +kernel
theorem dX9_kept_15 : decode cX9_kept 15 = .ok (.iconst 4, 1) := by decide +kernel
theorem dX9_kept_16 : decode cX9_kept 16 = .ok (.if_icmp .ge 25, 3) := by decide +kernel
theorem dX9_kept_19 : decode cX9_kept 19 = .ok (.aload_n 0, 1) := by decide +kernel
theorem dX9_kept_20 : decode cX9_kept 20 = .ok (.getfield 34, 3) := by decide +kernel
theorem dX9_kept_23 : decode cX9_kept 23 = .ok (.iload_n 3, 1) := by decide +kernel
theorem dX9_kept_24 : decode cX9_kept 24 = .ok (.aload_n 0, 1) := by decide +kernel
theorem dX9_kept_25 : decode cX9_kept 25 = .ok (.getfield 16, 3) := by decide +kernel
theorem dX9_kept_28 : decode cX9_kept 28 = .ok (.iconst 4, 1) := by decide +kernel
theorem dX9_kept_29 : decode cX9_kept 29 = .ok (.iload_n 2, 1) := by decide +kernel
theorem dX9_kept_30 : decode cX9_kept 30 = .ok (.imul, 1) := by decide +kernel
theorem dX9_kept_31 : decode cX9_kept 31 = .ok (.iload_n 3, 1) := by decide +kernel
theorem dX9_kept_32 : decode cX9_kept 32 = .ok (.iadd, 1) := by decide +kernel
theorem dX9_kept_33 : decode cX9_kept 33 = .ok (.iaload, 1) := by decide +kernel
theorem dX9_kept_34 : decode cX9_kept 34 = .ok (.iastore, 1) := by decide +kernel
theorem dX9_kept_35 : decode cX9_kept 35 = .ok (.iinc 3 1, 3) := by decide +kernel
theorem dX9_kept_38 : decode cX9_kept 38 = .ok (.goto (-24), 3) := by decide +kernel
theorem dX9_kept_41 : decode cX9_kept 41 = .ok (.iload_n 1, 1) := by decide +kernel
theorem dX9_kept_42 : decode cX9_kept 42 = .ok (.aload_n 0, 1) := by decide +kernel
theorem dX9_kept_43 : decode cX9_kept 43 = .ok (.invokevirtual 148, 3) := by decide +kernel
theorem dX9_kept_46 : decode cX9_kept 46 = .ok (.aload_n 0, 1) := by decide +kernel
theorem dX9_kept_47 : decode cX9_kept 47 = .ok (.getfield 19, 3) := by decide +kernel
theorem dX9_kept_50 : decode cX9_kept 50 = .ok (.iload_n 2, 1) := by decide +kernel
theorem dX9_kept_51 : decode cX9_kept 51 = .ok (.iaload, 1) := by decide +kernel
theorem dX9_kept_52 : decode cX9_kept 52 = .ok (.if_icmp .ne 7, 3) := by decide +kernel
theorem dX9_kept_55 : decode cX9_kept 55 = .ok (.iconst 1, 1) := by decide +kernel
theorem dX9_kept_56 : decode cX9_kept 56 = .ok (.goto 4, 3) := by decide +kernel
theorem dX9_kept_59 : decode cX9_kept 59 = .ok (.iconst 0, 1) := by decide +kernel
theorem dX9_kept_60 : decode cX9_kept 60 = .ok (.iadd, 1) := by decide +kernel
theorem dX9_kept_61 : decode cX9_kept 61 = .ok (.istore_n 1, 1) := by decide +kernel
theorem dX9_kept_62 : decode cX9_kept 62 = .ok (.iinc 2 1, 3) := by decide +kernel
theorem dX9_kept_65 : decode cX9_kept 65 = .ok (.goto (-61), 3) := by decide +kernel
theorem dX9_kept_68 : decode cX9_kept 68 = .ok (.iload_n 1, 1) := by decide +kernel
theorem dX9_kept_69 : decode cX9_kept 69 = .ok (.ireturn, 1) := by decide +kernel
theorem dX9_keeps_0 : decode cX9_keeps 0 = .ok (.aload_n 0, 1) := by decide +kernel
theorem dX9_keeps_1 : decode cX9_keeps 1 = .ok (.iconst 0, 1) := by decide +kernel
theorem dX9_keeps_2 : decode cX9_keeps 2 = .ok (.putfield 69, 3) := by decide +kernel
theorem dX9_keeps_5 : decode cX9_keeps 5 = .ok (.aload_n 0, 1) := by decide +kernel
theorem dX9_keeps_6 : decode cX9_keeps 6 = .ok (.invokevirtual 139, 3) := by decide +kernel
theorem dX9_keeps_9 : decode cX9_keeps 9 = .ok (.aload_n 0, 1) := by decide +kernel
theorem dX9_keeps_10 : decode cX9_keeps 10 = .ok (.invokevirtual 142, 3) := by decide +kernel
theorem dX9_keeps_13 : decode cX9_keeps 13 = .ok (.iconst (-1), 1) := by decide +kernel
theorem dX9_keeps_14 : decode cX9_keeps 14 = .ok (.if_icmp .ne 10, 3) := by decide +kernel
theorem dX9_keeps_17 : decode cX9_keeps 17 = .ok (.aload_n 0, 1) := by decide +kernel
theorem dX9_keeps_18 : decode cX9_keeps 18 = .ok (.invokevirtual 145, 3) := by decide +kernel
theorem dX9_keeps_21 : decode cX9_keeps 21 = .ok (.ifCond .ge 8, 3) := by decide +kernel
theorem dX9_keeps_24 : decode cX9_keeps 24 = .ok (.bipush (-6), 2) := by decide +kernel
theorem dX9_keeps_26 : decode cX9_keeps 26 = .ok (.goto 7, 3) := by decide +kernel
theorem dX9_keeps_29 : decode cX9_keeps 29 = .ok (.aload_n 0, 1) := by decide +kernel
theorem dX9_keeps_30 : decode cX9_keeps 30 = .ok (.invokevirtual 158, 3) := by decide +kernel
theorem dX9_keeps_33 : decode cX9_keeps 33 = .ok (.ireturn, 1) := by decide +kernel
theorem dX9_isGood_0 : decode cX9_isGood 0 = .ok (.aload_n 0, 1) := by decide +kernel
theorem dX9_isGood_1 : decode cX9_isGood 1 = .ok (.invokevirtual 142, 3) := by decide +kernel
theorem dX9_isGood_4 : decode cX9_isGood 4 = .ok (.iconst (-1), 1) := by decide +kernel
theorem dX9_isGood_5 : decode cX9_isGood 5 = .ok (.if_icmp .eq 5, 3) := by decide +kernel
theorem dX9_isGood_8 : decode cX9_isGood 8 = .ok (.iconst 0, 1) := by decide +kernel
theorem dX9_isGood_9 : decode cX9_isGood 9 = .ok (.ireturn, 1) := by decide +kernel
theorem dX9_isGood_10 : decode cX9_isGood 10 = .ok (.aload_n 0, 1) := by decide +kernel
theorem dX9_isGood_11 : decode cX9_isGood 11 = .ok (.getfield 161, 3) := by decide +kernel
theorem dX9_isGood_14 : decode cX9_isGood 14 = .ok (.ifCond .ne 5, 3) := by decide +kernel
theorem dX9_isGood_17 : decode cX9_isGood 17 = .ok (.iconst 1, 1) := by decide +kernel
theorem dX9_isGood_18 : decode cX9_isGood 18 = .ok (.ireturn, 1) := by decide +kernel
theorem dX9_isGood_19 : decode cX9_isGood 19 = .ok (.aload_n 0, 1) := by decide +kernel
theorem dX9_isGood_20 : decode cX9_isGood 20 = .ok (.invokevirtual 145, 3) := by decide +kernel
theorem dX9_isGood_23 : decode cX9_isGood 23 = .ok (.istore_n 1, 1) := by decide +kernel
theorem dX9_isGood_24 : decode cX9_isGood 24 = .ok (.iload_n 1, 1) := by decide +kernel
theorem dX9_isGood_25 : decode cX9_isGood 25 = .ok (.ifCond .lt 42, 3) := by decide +kernel
theorem dX9_isGood_28 : decode cX9_isGood 28 = .ok (.aload_n 0, 1) := by decide +kernel
theorem dX9_isGood_29 : decode cX9_isGood 29 = .ok (.getfield 164, 3) := by decide +kernel
theorem dX9_isGood_32 : decode cX9_isGood 32 = .ok (.iconst (-1), 1) := by decide +kernel
theorem dX9_isGood_33 : decode cX9_isGood 33 = .ok (.if_icmp .eq 11, 3) := by decide +kernel
theorem dX9_isGood_36 : decode cX9_isGood 36 = .ok (.iload_n 1, 1) := by decide +kernel
theorem dX9_isGood_37 : decode cX9_isGood 37 = .ok (.aload_n 0, 1) := by decide +kernel
theorem dX9_isGood_38 : decode cX9_isGood 38 = .ok (.getfield 164, 3) := by decide +kernel
theorem dX9_isGood_41 : decode cX9_isGood 41 = .ok (.if_icmp .ne 26, 3) := by decide +kernel
theorem dX9_isGood_44 : decode cX9_isGood 44 = .ok (.aload_n 0, 1) := by decide +kernel
theorem dX9_isGood_45 : decode cX9_isGood 45 = .ok (.getfield 161, 3) := by decide +kernel
theorem dX9_isGood_48 : decode cX9_isGood 48 = .ok (.iconst 1, 1) := by decide +kernel
theorem dX9_isGood_49 : decode cX9_isGood 49 = .ok (.if_icmp .eq 14, 3) := by decide +kernel
theorem dX9_isGood_52 : decode cX9_isGood 52 = .ok (.aload_n 0, 1) := by decide +kernel
theorem dX9_isGood_53 : decode cX9_isGood 53 = .ok (.invokevirtual 158, 3) := by decide +kernel
theorem dX9_isGood_56 : decode cX9_isGood 56 = .ok (.aload_n 0, 1) := by decide +kernel
theorem dX9_isGood_57 : decode cX9_isGood 57 = .ok (.getfield 155, 3) := by decide +kernel
theorem dX9_isGood_60 : decode cX9_isGood 60 = .ok (.if_icmp .ne 7, 3) := by decide +kernel
theorem dX9_isGood_63 : decode cX9_isGood 63 = .ok (.iconst 1, 1) := by decide +kernel
theorem dX9_isGood_64 : decode cX9_isGood 64 = .ok (.goto 4, 3) := by decide +kernel
theorem dX9_isGood_67 : decode cX9_isGood 67 = .ok (.iconst 0, 1) := by decide +kernel
theorem dX9_isGood_68 : decode cX9_isGood 68 = .ok (.ireturn, 1) := by decide +kernel
theorem dX9_look_0 : decode cX9_look 0 = .ok (.aload_n 0, 1) := by decide +kernel
theorem dX9_look_1 : decode cX9_look 1 = .ok (.getfield 167, 3) := by decide +kernel
theorem dX9_look_4 : decode cX9_look 4 = .ok (.ifCond .ne 10, 3) := by decide +kernel
theorem dX9_look_7 : decode cX9_look 7 = .ok (.aload_n 0, 1) := by decide +kernel
theorem dX9_look_8 : decode cX9_look 8 = .ok (.invokevirtual 170, 3) := by decide +kernel
theorem dX9_look_11 : decode cX9_look 11 = .ok (.ifCond .ne 4, 3) := by decide +kernel
theorem dX9_look_14 : decode cX9_look 14 = .ok (.return_, 1) := by decide +kernel
theorem dX9_look_15 : decode cX9_look 15 = .ok (.iconst 0, 1) := by decide +kernel
theorem dX9_look_16 : decode cX9_look 16 = .ok (.istore_n 1, 1) := by decide +kernel
theorem dX9_look_17 : decode cX9_look 17 = .ok (.iload_n 1, 1) := by decide +kernel
theorem dX9_look_18 : decode cX9_look 18 = .ok (.aload_n 0, 1) := by decide +kernel
theorem dX9_look_19 : decode cX9_look 19 = .ok (.getfield 174, 3) := by decide +kernel
theorem dX9_look_22 : decode cX9_look 22 = .ok (.if_icmp .ge 79, 3) := by decide +kernel
theorem dX9_look_25 : decode cX9_look 25 = .ok (.aload_n 0, 1) := by decide +kernel
theorem dX9_look_26 : decode cX9_look 26 = .ok (.getfield 50, 3) := by decide +kernel
theorem dX9_look_29 : decode cX9_look 29 = .ok (.iload_n 1, 1) := by decide +kernel
theorem dX9_look_30 : decode cX9_look 30 = .ok (.iaload, 1) := by decide +kernel
theorem dX9_look_31 : decode cX9_look 31 = .ok (.aload_n 0, 1) := by decide +kernel
theorem dX9_look_32 : decode cX9_look 32 = .ok (.getfield 114, 3) := by decide +kernel
theorem dX9_look_35 : decode cX9_look 35 = .ok (.if_icmp .ne 7, 3) := by decide +kernel
theorem dX9_look_38 : decode cX9_look 38 = .ok (.iconst 1, 1) := by decide +kernel
theorem dX9_look_39 : decode cX9_look 39 = .ok (.goto 4, 3) := by decide +kernel
theorem dX9_look_42 : decode cX9_look 42 = .ok (.iconst 0, 1) := by decide +kernel
theorem dX9_look_43 : decode cX9_look 43 = .ok (.istore_n 2, 1) := by decide +kernel
theorem dX9_look_44 : decode cX9_look 44 = .ok (.iconst 0, 1) := by decide +kernel
theorem dX9_look_45 : decode cX9_look 45 = .ok (.istore_n 3, 1) := by decide +kernel
theorem dX9_look_46 : decode cX9_look 46 = .ok (.iload_n 3, 1) := by decide +kernel
theorem dX9_look_47 : decode cX9_look 47 = .ok (.aload_n 0, 1) := by decide +kernel
theorem dX9_look_48 : decode cX9_look 48 = .ok (.getfield 114, 3) := by decide +kernel
theorem dX9_look_51 : decode cX9_look 51 = .ok (.if_icmp .ge 39, 3) := by decide +kernel
theorem dX9_look_54 : decode cX9_look 54 = .ok (.iload_n 2, 1) := by decide +kernel
theorem dX9_look_55 : decode cX9_look 55 = .ok (.ifCond .eq 35, 3) := by decide +kernel
theorem dX9_look_58 : decode cX9_look 58 = .ok (.aload_n 0, 1) := by decide +kernel
theorem dX9_look_59 : decode cX9_look 59 = .ok (.getfield 47, 3) := by decide +kernel
theorem dX9_look_62 : decode cX9_look 62 = .ok (.bipush 12, 2) := by decide +kernel
theorem dX9_look_64 : decode cX9_look 64 = .ok (.iload_n 1, 1) := by decide +kernel
theorem dX9_look_65 : decode cX9_look 65 = .ok (.imul, 1) := by decide +kernel
theorem dX9_look_66 : decode cX9_look 66 = .ok (.iload_n 3, 1) := by decide +kernel
theorem dX9_look_67 : decode cX9_look 67 = .ok (.iadd, 1) := by decide +kernel
theorem dX9_look_68 : decode cX9_look 68 = .ok (.iaload, 1) := by decide +kernel
theorem dX9_look_69 : decode cX9_look 69 = .ok (.aload_n 0, 1) := by decide +kernel
theorem dX9_look_70 : decode cX9_look 70 = .ok (.getfield 22, 3) := by decide +kernel
theorem dX9_look_73 : decode cX9_look 73 = .ok (.iload_n 3, 1) := by decide +kernel
theorem dX9_look_74 : decode cX9_look 74 = .ok (.iaload, 1) := by decide +kernel
theorem dX9_look_75 : decode cX9_look 75 = .ok (.if_icmp .ne 7, 3) := by decide +kernel
theorem dX9_look_78 : decode cX9_look 78 = .ok (.iconst 1, 1) := by decide +kernel
theorem dX9_look_79 : decode cX9_look 79 = .ok (.goto 4, 3) := by decide +kernel
theorem dX9_look_82 : decode cX9_look 82 = .ok (.iconst 0, 1) := by decide +kernel
theorem dX9_look_83 : decode cX9_look 83 = .ok (.istore_n 2, 1) := by decide +kernel
theorem dX9_look_84 : decode cX9_look 84 = .ok (.iinc 3 1, 3) := by decide +kernel
theorem dX9_look_87 : decode cX9_look 87 = .ok (.goto (-41), 3) := by decide +kernel
theorem dX9_look_90 : decode cX9_look 90 = .ok (.iload_n 2, 1) := by decide +kernel
theorem dX9_look_91 : decode cX9_look 91 = .ok (.ifCond .eq 4, 3) := by decide +kernel
theorem dX9_look_94 : decode cX9_look 94 = .ok (.return_, 1) := by decide +kernel
theorem dX9_look_95 : decode cX9_look 95 = .ok (.iinc 1 1, 3) := by decide +kernel
theorem dX9_look_98 : decode cX9_look 98 = .ok (.goto (-81), 3) := by decide +kernel
theorem dX9_look_101 : decode cX9_look 101 = .ok (.aload_n 0, 1) := by decide +kernel
theorem dX9_look_102 : decode cX9_look 102 = .ok (.getfield 174, 3) := by decide +kernel
theorem dX9_look_105 : decode cX9_look 105 = .ok (.sipush 300, 3) := by decide +kernel
theorem dX9_look_108 : decode cX9_look 108 = .ok (.if_icmp .ne 9, 3) := by decide +kernel
theorem dX9_look_111 : decode cX9_look 111 = .ok (.aload_n 0, 1) := by decide +kernel
theorem dX9_look_112 : decode cX9_look 112 = .ok (.iconst 1, 1) := by decide +kernel
theorem dX9_look_113 : decode cX9_look 113 = .ok (.putfield 167, 3) := by decide +kernel
theorem dX9_look_116 : decode cX9_look 116 = .ok (.return_, 1) := by decide +kernel
theorem dX9_look_117 : decode cX9_look 117 = .ok (.iconst 0, 1) := by decide +kernel
theorem dX9_look_118 : decode cX9_look 118 = .ok (.istore_n 1, 1) := by decide +kernel
theorem dX9_look_119 : decode cX9_look 119 = .ok (.iload_n 1, 1) := by decide +kernel
theorem dX9_look_120 : decode cX9_look 120 = .ok (.aload_n 0, 1) := by decide +kernel
theorem dX9_look_121 : decode cX9_look 121 = .ok (.getfield 114, 3) := by decide +kernel
theorem dX9_look_124 : decode cX9_look 124 = .ok (.if_icmp .ge 29, 3) := by decide +kernel
theorem dX9_look_127 : decode cX9_look 127 = .ok (.aload_n 0, 1) := by decide +kernel
theorem dX9_look_128 : decode cX9_look 128 = .ok (.getfield 47, 3) := by decide +kernel
theorem dX9_look_131 : decode cX9_look 131 = .ok (.bipush 12, 2) := by decide +kernel
theorem dX9_look_133 : decode cX9_look 133 = .ok (.aload_n 0, 1) := by decide +kernel
theorem dX9_look_134 : decode cX9_look 134 = .ok (.getfield 174, 3) := by decide +kernel
theorem dX9_look_137 : decode cX9_look 137 = .ok (.imul, 1) := by decide +kernel
theorem dX9_look_138 : decode cX9_look 138 = .ok (.iload_n 1, 1) := by decide +kernel
theorem dX9_look_139 : decode cX9_look 139 = .ok (.iadd, 1) := by decide +kernel
theorem dX9_look_140 : decode cX9_look 140 = .ok (.aload_n 0, 1) := by decide +kernel
theorem dX9_look_141 : decode cX9_look 141 = .ok (.getfield 22, 3) := by decide +kernel
theorem dX9_look_144 : decode cX9_look 144 = .ok (.iload_n 1, 1) := by decide +kernel
theorem dX9_look_145 : decode cX9_look 145 = .ok (.iaload, 1) := by decide +kernel
theorem dX9_look_146 : decode cX9_look 146 = .ok (.iastore, 1) := by decide +kernel
theorem dX9_look_147 : decode cX9_look 147 = .ok (.iinc 1 1, 3) := by decide +kernel
theorem dX9_look_150 : decode cX9_look 150 = .ok (.goto (-31), 3) := by decide +kernel
theorem dX9_look_153 : decode cX9_look 153 = .ok (.aload_n 0, 1) := by decide +kernel
theorem dX9_look_154 : decode cX9_look 154 = .ok (.getfield 50, 3) := by decide +kernel
theorem dX9_look_157 : decode cX9_look 157 = .ok (.aload_n 0, 1) := by decide +kernel
theorem dX9_look_158 : decode cX9_look 158 = .ok (.getfield 174, 3) := by decide +kernel
theorem dX9_look_161 : decode cX9_look 161 = .ok (.aload_n 0, 1) := by decide +kernel
theorem dX9_look_162 : decode cX9_look 162 = .ok (.getfield 114, 3) := by decide +kernel
theorem dX9_look_165 : decode cX9_look 165 = .ok (.iastore, 1) := by decide +kernel
theorem dX9_look_166 : decode cX9_look 166 = .ok (.aload_n 0, 1) := by decide +kernel
theorem dX9_look_167 : decode cX9_look 167 = .ok (.dup, 1) := by decide +kernel
theorem dX9_look_168 : decode cX9_look 168 = .ok (.getfield 174, 3) := by decide +kernel
theorem dX9_look_171 : decode cX9_look 171 = .ok (.iconst 1, 1) := by decide +kernel
theorem dX9_look_172 : decode cX9_look 172 = .ok (.iadd, 1) := by decide +kernel
theorem dX9_look_173 : decode cX9_look 173 = .ok (.putfield 174, 3) := by decide +kernel
theorem dX9_look_176 : decode cX9_look 176 = .ok (.return_, 1) := by decide +kernel
theorem dX9_change_0 : decode cX9_change 0 = .ok (.iload_n 1, 1) := by decide +kernel
theorem dX9_change_1 : decode cX9_change 1 = .ok (.bipush 57, 2) := by decide +kernel
theorem dX9_change_3 : decode cX9_change 3 = .ok (.idiv, 1) := by decide +kernel
theorem dX9_change_4 : decode cX9_change 4 = .ok (.istore_n 2, 1) := by decide +kernel
theorem dX9_change_5 : decode cX9_change 5 = .ok (.iload_n 1, 1) := by decide +kernel
theorem dX9_change_6 : decode cX9_change 6 = .ok (.bipush 57, 2) := by decide +kernel
theorem dX9_change_8 : decode cX9_change 8 = .ok (.irem, 1) := by decide +kernel
theorem dX9_change_9 : decode cX9_change 9 = .ok (.istore_n 3, 1) := by decide +kernel
theorem dX9_change_10 : decode cX9_change 10 = .ok (.iload_n 3, 1) := by decide +kernel
theorem dX9_change_11 : decode cX9_change 11 = .ok (.bipush 28, 2) := by decide +kernel
theorem dX9_change_13 : decode cX9_change 13 = .ok (.if_icmp .ge 7, 3) := by decide +kernel
theorem dX9_change_16 : decode cX9_change 16 = .ok (.iconst 1, 1) := by decide +kernel
theorem dX9_change_17 : decode cX9_change 17 = .ok (.goto 4, 3) := by decide +kernel
theorem dX9_change_20 : decode cX9_change 20 = .ok (.iconst 0, 1) := by decide +kernel
theorem dX9_change_21 : decode cX9_change 21 = .ok (.istore 4, 2) := by decide +kernel
theorem dX9_change_23 : decode cX9_change 23 = .ok (.iload 4, 2) := by decide +kernel
theorem dX9_change_25 : decode cX9_change 25 = .ok (.ifCond .ne 11, 3) := by decide +kernel
theorem dX9_change_28 : decode cX9_change 28 = .ok (.iload_n 2, 1) := by decide +kernel
theorem dX9_change_29 : decode cX9_change 29 = .ok (.aload_n 0, 1) := by decide +kernel
theorem dX9_change_30 : decode cX9_change 30 = .ok (.getfield 177, 3) := by decide +kernel
theorem dX9_change_33 : decode cX9_change 33 = .ok (.if_icmp .eq 28, 3) := by decide +kernel
theorem dX9_change_36 : decode cX9_change 36 = .ok (.iload_n 3, 1) := by decide +kernel
theorem dX9_change_37 : decode cX9_change 37 = .ok (.bipush 28, 2) := by decide +kernel
theorem dX9_change_39 : decode cX9_change 39 = .ok (.if_icmp .lt 24, 3) := by decide +kernel
theorem dX9_change_42 : decode cX9_change 42 = .ok (.iload_n 3, 1) := by decide +kernel
theorem dX9_change_43 : decode cX9_change 43 = .ok (.bipush 56, 2) := by decide +kernel
theorem dX9_change_45 : decode cX9_change 45 = .ok (.if_icmp .ge 18, 3) := by decide +kernel
theorem dX9_change_48 : decode cX9_change 48 = .ok (.aload_n 0, 1) := by decide +kernel
theorem dX9_change_49 : decode cX9_change 49 = .ok (.getfield 63, 3) := by decide +kernel
theorem dX9_change_52 : decode cX9_change 52 = .ok (.iload_n 2, 1) := by decide +kernel
theorem dX9_change_53 : decode cX9_change 53 = .ok (.iaload, 1) := by decide +kernel
theorem dX9_change_54 : decode cX9_change 54 = .ok (.iload_n 3, 1) := by decide +kernel
theorem dX9_change_55 : decode cX9_change 55 = .ok (.bipush 28, 2) := by decide +kernel
theorem dX9_change_57 : decode cX9_change 57 = .ok (.isub, 1) := by decide +kernel
theorem dX9_change_58 : decode cX9_change 58 = .ok (.if_icmp .ne 5, 3) := by decide +kernel
theorem dX9_change_61 : decode cX9_change 61 = .ok (.iconst 0, 1) := by decide +kernel
theorem dX9_change_62 : decode cX9_change 62 = .ok (.ireturn, 1) := by decide +kernel
theorem dX9_change_63 : decode cX9_change 63 = .ok (.aload_n 0, 1) := by decide +kernel
theorem dX9_change_64 : decode cX9_change 64 = .ok (.iconst 0, 1) := by decide +kernel
theorem dX9_change_65 : decode cX9_change 65 = .ok (.putfield 114, 3) := by decide +kernel
theorem dX9_change_68 : decode cX9_change 68 = .ok (.iconst 0, 1) := by decide +kernel
theorem dX9_change_69 : decode cX9_change 69 = .ok (.istore 5, 2) := by decide +kernel
theorem dX9_change_71 : decode cX9_change 71 = .ok (.iload 5, 2) := by decide +kernel
theorem dX9_change_73 : decode cX9_change 73 = .ok (.aload_n 0, 1) := by decide +kernel
theorem dX9_change_74 : decode cX9_change 74 = .ok (.getfield 177, 3) := by decide +kernel
theorem dX9_change_77 : decode cX9_change 77 = .ok (.if_icmp .gt 99, 3) := by decide +kernel
theorem dX9_change_80 : decode cX9_change 80 = .ok (.iload 5, 2) := by decide +kernel
theorem dX9_change_82 : decode cX9_change 82 = .ok (.iload_n 2, 1) := by decide +kernel
theorem dX9_change_83 : decode cX9_change 83 = .ok (.if_icmp .ne 41, 3) := by decide +kernel
theorem dX9_change_86 : decode cX9_change 86 = .ok (.iload_n 3, 1) := by decide +kernel
theorem dX9_change_87 : decode cX9_change 87 = .ok (.bipush 56, 2) := by decide +kernel
theorem dX9_change_89 : decode cX9_change 89 = .ok (.if_icmp .ge 35, 3) := by decide +kernel
theorem dX9_change_92 : decode cX9_change 92 = .ok (.aload_n 0, 1) := by decide +kernel
theorem dX9_change_93 : decode cX9_change 93 = .ok (.getfield 22, 3) := by decide +kernel
theorem dX9_change_96 : decode cX9_change 96 = .ok (.aload_n 0, 1) := by decide +kernel
theorem dX9_change_97 : decode cX9_change 97 = .ok (.getfield 114, 3) := by decide +kernel
theorem dX9_change_100 : decode cX9_change 100 = .ok (.iload 4, 2) := by decide +kernel
theorem dX9_change_102 : decode cX9_change 102 = .ok (.ifCond .eq 7, 3) := by decide +kernel
theorem dX9_change_105 : decode cX9_change 105 = .ok (.iload_n 3, 1) := by decide +kernel
theorem dX9_change_106 : decode cX9_change 106 = .ok (.goto 7, 3) := by decide +kernel
theorem dX9_change_109 : decode cX9_change 109 = .ok (.iload_n 3, 1) := by decide +kernel
theorem dX9_change_110 : decode cX9_change 110 = .ok (.bipush 28, 2) := by decide +kernel
theorem dX9_change_112 : decode cX9_change 112 = .ok (.isub, 1) := by decide +kernel
theorem dX9_change_113 : decode cX9_change 113 = .ok (.iastore, 1) := by decide +kernel
theorem dX9_change_114 : decode cX9_change 114 = .ok (.aload_n 0, 1) := by decide +kernel
theorem dX9_change_115 : decode cX9_change 115 = .ok (.dup, 1) := by decide +kernel
theorem dX9_change_116 : decode cX9_change 116 = .ok (.getfield 114, 3) := by decide +kernel
theorem dX9_change_119 : decode cX9_change 119 = .ok (.iconst 1, 1) := by decide +kernel
theorem dX9_change_120 : decode cX9_change 120 = .ok (.iadd, 1) := by decide +kernel
theorem dX9_change_121 : decode cX9_change 121 = .ok (.putfield 114, 3) := by decide +kernel
theorem dX9_change_124 : decode cX9_change 124 = .ok (.iload 5, 2) := by decide +kernel
theorem dX9_change_126 : decode cX9_change 126 = .ok (.aload_n 0, 1) := by decide +kernel
theorem dX9_change_127 : decode cX9_change 127 = .ok (.getfield 177, 3) := by decide +kernel
theorem dX9_change_130 : decode cX9_change 130 = .ok (.if_icmp .ge 40, 3) := by decide +kernel
theorem dX9_change_133 : decode cX9_change 133 = .ok (.iload 5, 2) := by decide +kernel
theorem dX9_change_135 : decode cX9_change 135 = .ok (.iload_n 2, 1) := by decide +kernel
theorem dX9_change_136 : decode cX9_change 136 = .ok (.if_icmp .ne 8, 3) := by decide +kernel
theorem dX9_change_139 : decode cX9_change 139 = .ok (.iload 4, 2) := by decide +kernel
theorem dX9_change_141 : decode cX9_change 141 = .ok (.ifCond .eq 29, 3) := by decide +kernel
theorem dX9_change_144 : decode cX9_change 144 = .ok (.aload_n 0, 1) := by decide +kernel
theorem dX9_change_145 : decode cX9_change 145 = .ok (.getfield 22, 3) := by decide +kernel
theorem dX9_change_148 : decode cX9_change 148 = .ok (.aload_n 0, 1) := by decide +kernel
theorem dX9_change_149 : decode cX9_change 149 = .ok (.getfield 114, 3) := by decide +kernel
theorem dX9_change_152 : decode cX9_change 152 = .ok (.aload_n 0, 1) := by decide +kernel
theorem dX9_change_153 : decode cX9_change 153 = .ok (.getfield 63, 3) := by decide +kernel
theorem dX9_change_156 : decode cX9_change 156 = .ok (.iload 5, 2) := by decide +kernel
theorem dX9_change_158 : decode cX9_change 158 = .ok (.iaload, 1) := by decide +kernel
theorem dX9_change_159 : decode cX9_change 159 = .ok (.iastore, 1) := by decide +kernel
theorem dX9_change_160 : decode cX9_change 160 = .ok (.aload_n 0, 1) := by decide +kernel
theorem dX9_change_161 : decode cX9_change 161 = .ok (.dup, 1) := by decide +kernel
theorem dX9_change_162 : decode cX9_change 162 = .ok (.getfield 114, 3) := by decide +kernel
theorem dX9_change_165 : decode cX9_change 165 = .ok (.iconst 1, 1) := by decide +kernel
theorem dX9_change_166 : decode cX9_change 166 = .ok (.iadd, 1) := by decide +kernel
theorem dX9_change_167 : decode cX9_change 167 = .ok (.putfield 114, 3) := by decide +kernel
theorem dX9_change_170 : decode cX9_change 170 = .ok (.iinc 5 1, 3) := by decide +kernel
theorem dX9_change_173 : decode cX9_change 173 = .ok (.goto (-102), 3) := by decide +kernel
theorem dX9_change_176 : decode cX9_change 176 = .ok (.iconst 1, 1) := by decide +kernel
theorem dX9_change_177 : decode cX9_change 177 = .ok (.ireturn, 1) := by decide +kernel
theorem dX9_fromBase_0 : decode cX9_fromBase 0 = .ok (.iconst 0, 1) := by decide +kernel
theorem dX9_fromBase_1 : decode cX9_fromBase 1 = .ok (.istore_n 1, 1) := by decide +kernel
theorem dX9_fromBase_2 : decode cX9_fromBase 2 = .ok (.iload_n 1, 1) := by decide +kernel
theorem dX9_fromBase_3 : decode cX9_fromBase 3 = .ok (.bipush 57, 2) := by decide +kernel
theorem dX9_fromBase_5 : decode cX9_fromBase 5 = .ok (.aload_n 0, 1) := by decide +kernel
theorem dX9_fromBase_6 : decode cX9_fromBase 6 = .ok (.getfield 177, 3) := by decide +kernel
theorem dX9_fromBase_9 : decode cX9_fromBase 9 = .ok (.iconst 1, 1) := by decide +kernel
theorem dX9_fromBase_10 : decode cX9_fromBase 10 = .ok (.iadd, 1) := by decide +kernel
theorem dX9_fromBase_11 : decode cX9_fromBase 11 = .ok (.imul, 1) := by decide +kernel
theorem dX9_fromBase_12 : decode cX9_fromBase 12 = .ok (.if_icmp .ge 28, 3) := by decide +kernel
theorem dX9_fromBase_15 : decode cX9_fromBase 15 = .ok (.aload_n 0, 1) := by decide +kernel
theorem dX9_fromBase_16 : decode cX9_fromBase 16 = .ok (.getfield 167, 3) := by decide +kernel
theorem dX9_fromBase_19 : decode cX9_fromBase 19 = .ok (.ifCond .ne 21, 3) := by decide +kernel
theorem dX9_fromBase_22 : decode cX9_fromBase 22 = .ok (.aload_n 0, 1) := by decide +kernel
theorem dX9_fromBase_23 : decode cX9_fromBase 23 = .ok (.iload_n 1, 1) := by decide +kernel
theorem dX9_fromBase_24 : decode cX9_fromBase 24 = .ok (.invokevirtual 180, 3) := by decide +kernel
theorem dX9_fromBase_27 : decode cX9_fromBase 27 = .ok (.ifCond .eq 7, 3) := by decide +kernel
theorem dX9_fromBase_30 : decode cX9_fromBase 30 = .ok (.aload_n 0, 1) := by decide +kernel
theorem dX9_fromBase_31 : decode cX9_fromBase 31 = .ok (.invokevirtual 183, 3) := by decide +kernel
theorem dX9_fromBase_34 : decode cX9_fromBase 34 = .ok (.iinc 1 1, 3) := by decide +kernel
theorem dX9_fromBase_37 : decode cX9_fromBase 37 = .ok (.goto (-35), 3) := by decide +kernel
theorem dX9_fromBase_40 : decode cX9_fromBase 40 = .ok (.return_, 1) := by decide +kernel
theorem dX9_search_0 : decode cX9_search 0 = .ok (.aload_n 0, 1) := by decide +kernel
theorem dX9_search_1 : decode cX9_search 1 = .ok (.iconst 0, 1) := by decide +kernel
theorem dX9_search_2 : decode cX9_search 2 = .ok (.putfield 174, 3) := by decide +kernel
theorem dX9_search_5 : decode cX9_search 5 = .ok (.aload_n 0, 1) := by decide +kernel
theorem dX9_search_6 : decode cX9_search 6 = .ok (.invokevirtual 139, 3) := by decide +kernel
theorem dX9_search_9 : decode cX9_search 9 = .ok (.iload_n 1, 1) := by decide +kernel
theorem dX9_search_10 : decode cX9_search 10 = .ok (.ifCond .ne 8, 3) := by decide +kernel
theorem dX9_search_13 : decode cX9_search 13 = .ok (.aload_n 0, 1) := by decide +kernel
theorem dX9_search_14 : decode cX9_search 14 = .ok (.invokevirtual 183, 3) := by decide +kernel
theorem dX9_search_17 : decode cX9_search 17 = .ok (.return_, 1) := by decide +kernel
theorem dX9_search_18 : decode cX9_search 18 = .ok (.aload_n 0, 1) := by decide +kernel
theorem dX9_search_19 : decode cX9_search 19 = .ok (.aload_n 0, 1) := by decide +kernel
theorem dX9_search_20 : decode cX9_search 20 = .ok (.getfield 89, 3) := by decide +kernel
theorem dX9_search_23 : decode cX9_search 23 = .ok (.putfield 177, 3) := by decide +kernel
theorem dX9_search_26 : decode cX9_search 26 = .ok (.iconst 0, 1) := by decide +kernel
theorem dX9_search_27 : decode cX9_search 27 = .ok (.istore_n 2, 1) := by decide +kernel
theorem dX9_search_28 : decode cX9_search 28 = .ok (.iload_n 2, 1) := by decide +kernel
theorem dX9_search_29 : decode cX9_search 29 = .ok (.aload_n 0, 1) := by decide +kernel
theorem dX9_search_30 : decode cX9_search 30 = .ok (.getfield 89, 3) := by decide +kernel
theorem dX9_search_33 : decode cX9_search 33 = .ok (.if_icmp .ge 21, 3) := by decide +kernel
theorem dX9_search_36 : decode cX9_search 36 = .ok (.aload_n 0, 1) := by decide +kernel
theorem dX9_search_37 : decode cX9_search 37 = .ok (.getfield 63, 3) := by decide +kernel
theorem dX9_search_40 : decode cX9_search 40 = .ok (.iload_n 2, 1) := by decide +kernel
theorem dX9_search_41 : decode cX9_search 41 = .ok (.aload_n 0, 1) := by decide +kernel
theorem dX9_search_42 : decode cX9_search 42 = .ok (.getfield 7, 3) := by decide +kernel
theorem dX9_search_45 : decode cX9_search 45 = .ok (.iload_n 2, 1) := by decide +kernel
theorem dX9_search_46 : decode cX9_search 46 = .ok (.iaload, 1) := by decide +kernel
theorem dX9_search_47 : decode cX9_search 47 = .ok (.iastore, 1) := by decide +kernel
theorem dX9_search_48 : decode cX9_search 48 = .ok (.iinc 2 1, 3) := by decide +kernel
theorem dX9_search_51 : decode cX9_search 51 = .ok (.goto (-23), 3) := by decide +kernel
theorem dX9_search_54 : decode cX9_search 54 = .ok (.iload_n 1, 1) := by decide +kernel
theorem dX9_search_55 : decode cX9_search 55 = .ok (.iconst 1, 1) := by decide +kernel
theorem dX9_search_56 : decode cX9_search 56 = .ok (.if_icmp .ne 8, 3) := by decide +kernel
theorem dX9_search_59 : decode cX9_search 59 = .ok (.aload_n 0, 1) := by decide +kernel
theorem dX9_search_60 : decode cX9_search 60 = .ok (.invokevirtual 186, 3) := by decide +kernel
theorem dX9_search_63 : decode cX9_search 63 = .ok (.return_, 1) := by decide +kernel
theorem dX9_search_64 : decode cX9_search 64 = .ok (.iconst 0, 1) := by decide +kernel
theorem dX9_search_65 : decode cX9_search 65 = .ok (.istore_n 2, 1) := by decide +kernel
theorem dX9_search_66 : decode cX9_search 66 = .ok (.iload_n 2, 1) := by decide +kernel
theorem dX9_search_67 : decode cX9_search 67 = .ok (.bipush 57, 2) := by decide +kernel
theorem dX9_search_69 : decode cX9_search 69 = .ok (.aload_n 0, 1) := by decide +kernel
theorem dX9_search_70 : decode cX9_search 70 = .ok (.getfield 89, 3) := by decide +kernel
theorem dX9_search_73 : decode cX9_search 73 = .ok (.iconst 1, 1) := by decide +kernel
theorem dX9_search_74 : decode cX9_search 74 = .ok (.iadd, 1) := by decide +kernel
theorem dX9_search_75 : decode cX9_search 75 = .ok (.imul, 1) := by decide +kernel
theorem dX9_search_76 : decode cX9_search 76 = .ok (.if_icmp .ge 103, 3) := by decide +kernel
theorem dX9_search_79 : decode cX9_search 79 = .ok (.aload_n 0, 1) := by decide +kernel
theorem dX9_search_80 : decode cX9_search 80 = .ok (.getfield 167, 3) := by decide +kernel
theorem dX9_search_83 : decode cX9_search 83 = .ok (.ifCond .ne 96, 3) := by decide +kernel
theorem dX9_search_86 : decode cX9_search 86 = .ok (.aload_n 0, 1) := by decide +kernel
theorem dX9_search_87 : decode cX9_search 87 = .ok (.aload_n 0, 1) := by decide +kernel
theorem dX9_search_88 : decode cX9_search 88 = .ok (.getfield 89, 3) := by decide +kernel
theorem dX9_search_91 : decode cX9_search 91 = .ok (.putfield 177, 3) := by decide +kernel
theorem dX9_search_94 : decode cX9_search 94 = .ok (.iconst 0, 1) := by decide +kernel
theorem dX9_search_95 : decode cX9_search 95 = .ok (.istore_n 3, 1) := by decide +kernel
theorem dX9_search_96 : decode cX9_search 96 = .ok (.iload_n 3, 1) := by decide +kernel
theorem dX9_search_97 : decode cX9_search 97 = .ok (.aload_n 0, 1) := by decide +kernel
theorem dX9_search_98 : decode cX9_search 98 = .ok (.getfield 89, 3) := by decide +kernel
theorem dX9_search_101 : decode cX9_search 101 = .ok (.if_icmp .ge 21, 3) := by decide +kernel
theorem dX9_search_104 : decode cX9_search 104 = .ok (.aload_n 0, 1) := by decide +kernel
theorem dX9_search_105 : decode cX9_search 105 = .ok (.getfield 63, 3) := by decide +kernel
theorem dX9_search_108 : decode cX9_search 108 = .ok (.iload_n 3, 1) := by decide +kernel
theorem dX9_search_109 : decode cX9_search 109 = .ok (.aload_n 0, 1) := by decide +kernel
theorem dX9_search_110 : decode cX9_search 110 = .ok (.getfield 7, 3) := by decide +kernel
theorem dX9_search_113 : decode cX9_search 113 = .ok (.iload_n 3, 1) := by decide +kernel
theorem dX9_search_114 : decode cX9_search 114 = .ok (.iaload, 1) := by decide +kernel
theorem dX9_search_115 : decode cX9_search 115 = .ok (.iastore, 1) := by decide +kernel
theorem dX9_search_116 : decode cX9_search 116 = .ok (.iinc 3 1, 3) := by decide +kernel
theorem dX9_search_119 : decode cX9_search 119 = .ok (.goto (-23), 3) := by decide +kernel
theorem dX9_search_122 : decode cX9_search 122 = .ok (.aload_n 0, 1) := by decide +kernel
theorem dX9_search_123 : decode cX9_search 123 = .ok (.iload_n 2, 1) := by decide +kernel
theorem dX9_search_124 : decode cX9_search 124 = .ok (.invokevirtual 180, 3) := by decide +kernel
theorem dX9_search_127 : decode cX9_search 127 = .ok (.ifCond .ne 6, 3) := by decide +kernel
theorem dX9_search_130 : decode cX9_search 130 = .ok (.goto 43, 3) := by decide +kernel
theorem dX9_search_133 : decode cX9_search 133 = .ok (.aload_n 0, 1) := by decide +kernel
theorem dX9_search_134 : decode cX9_search 134 = .ok (.aload_n 0, 1) := by decide +kernel
theorem dX9_search_135 : decode cX9_search 135 = .ok (.getfield 114, 3) := by decide +kernel
theorem dX9_search_138 : decode cX9_search 138 = .ok (.putfield 177, 3) := by decide +kernel
theorem dX9_search_141 : decode cX9_search 141 = .ok (.iconst 0, 1) := by decide +kernel
theorem dX9_search_142 : decode cX9_search 142 = .ok (.istore_n 3, 1) := by decide +kernel
theorem dX9_search_143 : decode cX9_search 143 = .ok (.iload_n 3, 1) := by decide +kernel
theorem dX9_search_144 : decode cX9_search 144 = .ok (.aload_n 0, 1) := by decide +kernel
theorem dX9_search_145 : decode cX9_search 145 = .ok (.getfield 114, 3) := by decide +kernel
theorem dX9_search_148 : decode cX9_search 148 = .ok (.if_icmp .ge 21, 3) := by decide +kernel
theorem dX9_search_151 : decode cX9_search 151 = .ok (.aload_n 0, 1) := by decide +kernel
theorem dX9_search_152 : decode cX9_search 152 = .ok (.getfield 63, 3) := by decide +kernel
theorem dX9_search_155 : decode cX9_search 155 = .ok (.iload_n 3, 1) := by decide +kernel
theorem dX9_search_156 : decode cX9_search 156 = .ok (.aload_n 0, 1) := by decide +kernel
theorem dX9_search_157 : decode cX9_search 157 = .ok (.getfield 22, 3) := by decide +kernel
theorem dX9_search_160 : decode cX9_search 160 = .ok (.iload_n 3, 1) := by decide +kernel
theorem dX9_search_161 : decode cX9_search 161 = .ok (.iaload, 1) := by decide +kernel
theorem dX9_search_162 : decode cX9_search 162 = .ok (.iastore, 1) := by decide +kernel
theorem dX9_search_163 : decode cX9_search 163 = .ok (.iinc 3 1, 3) := by decide +kernel
theorem dX9_search_166 : decode cX9_search 166 = .ok (.goto (-23), 3) := by decide +kernel
theorem dX9_search_169 : decode cX9_search 169 = .ok (.aload_n 0, 1) := by decide +kernel
theorem dX9_search_170 : decode cX9_search 170 = .ok (.invokevirtual 186, 3) := by decide +kernel
theorem dX9_search_173 : decode cX9_search 173 = .ok (.iinc 2 1, 3) := by decide +kernel
theorem dX9_search_176 : decode cX9_search 176 = .ok (.goto (-110), 3) := by decide +kernel
theorem dX9_search_179 : decode cX9_search 179 = .ok (.return_, 1) := by decide +kernel
theorem dX9_often_0 : decode cX9_often 0 = .ok (.iconst 0, 1) := by decide +kernel
theorem dX9_often_1 : decode cX9_often 1 = .ok (.istore 4, 2) := by decide +kernel
theorem dX9_often_3 : decode cX9_often 3 = .ok (.iload_n 1, 1) := by decide +kernel
theorem dX9_often_4 : decode cX9_often 4 = .ok (.istore 5, 2) := by decide +kernel
theorem dX9_often_6 : decode cX9_often 6 = .ok (.iload 5, 2) := by decide +kernel
theorem dX9_often_8 : decode cX9_often 8 = .ok (.iload_n 1, 1) := by decide +kernel
theorem dX9_often_9 : decode cX9_often 9 = .ok (.iload_n 2, 1) := by decide +kernel
theorem dX9_often_10 : decode cX9_often 10 = .ok (.iadd, 1) := by decide +kernel
theorem dX9_often_11 : decode cX9_often 11 = .ok (.if_icmp .ge 27, 3) := by decide +kernel
theorem dX9_often_14 : decode cX9_often 14 = .ok (.iload 4, 2) := by decide +kernel
theorem dX9_often_16 : decode cX9_often 16 = .ok (.aload_n 0, 1) := by decide +kernel
theorem dX9_often_17 : decode cX9_often 17 = .ok (.iload 5, 2) := by decide +kernel
theorem dX9_often_19 : decode cX9_often 19 = .ok (.iaload, 1) := by decide +kernel
theorem dX9_often_20 : decode cX9_often 20 = .ok (.iload_n 3, 1) := by decide +kernel
theorem dX9_often_21 : decode cX9_often 21 = .ok (.if_icmp .ne 7, 3) := by decide +kernel
theorem dX9_often_24 : decode cX9_often 24 = .ok (.iconst 1, 1) := by decide +kernel
theorem dX9_often_25 : decode cX9_often 25 = .ok (.goto 4, 3) := by decide +kernel
theorem dX9_often_28 : decode cX9_often 28 = .ok (.iconst 0, 1) := by decide +kernel
theorem dX9_often_29 : decode cX9_often 29 = .ok (.iadd, 1) := by decide +kernel
theorem dX9_often_30 : decode cX9_often 30 = .ok (.istore 4, 2) := by decide +kernel
theorem dX9_often_32 : decode cX9_often 32 = .ok (.iinc 5 1, 3) := by decide +kernel
theorem dX9_often_35 : decode cX9_often 35 = .ok (.goto (-29), 3) := by decide +kernel
theorem dX9_often_38 : decode cX9_often 38 = .ok (.iload 4, 2) := by decide +kernel
theorem dX9_often_40 : decode cX9_often 40 = .ok (.ireturn, 1) := by decide +kernel
theorem dX9_rankOf_0 : decode cX9_rankOf 0 = .ok (.iconst 0, 1) := by decide +kernel
theorem dX9_rankOf_1 : decode cX9_rankOf 1 = .ok (.istore_n 2, 1) := by decide +kernel
theorem dX9_rankOf_2 : decode cX9_rankOf 2 = .ok (.iconst 0, 1) := by decide +kernel
theorem dX9_rankOf_3 : decode cX9_rankOf 3 = .ok (.istore_n 3, 1) := by decide +kernel
theorem dX9_rankOf_4 : decode cX9_rankOf 4 = .ok (.iload_n 3, 1) := by decide +kernel
theorem dX9_rankOf_5 : decode cX9_rankOf 5 = .ok (.bipush 28, 2) := by decide +kernel
theorem dX9_rankOf_7 : decode cX9_rankOf 7 = .ok (.if_icmp .ge 73, 3) := by decide +kernel
theorem dX9_rankOf_10 : decode cX9_rankOf 10 = .ok (.aload_n 0, 1) := by decide +kernel
theorem dX9_rankOf_11 : decode cX9_rankOf 11 = .ok (.getfield 47, 3) := by decide +kernel
theorem dX9_rankOf_14 : decode cX9_rankOf 14 = .ok (.bipush 12, 2) := by decide +kernel
theorem dX9_rankOf_16 : decode cX9_rankOf 16 = .ok (.iload_n 1, 1) := by decide +kernel
theorem dX9_rankOf_17 : decode cX9_rankOf 17 = .ok (.imul, 1) := by decide +kernel
theorem dX9_rankOf_18 : decode cX9_rankOf 18 = .ok (.aload_n 0, 1) := by decide +kernel
theorem dX9_rankOf_19 : decode cX9_rankOf 19 = .ok (.getfield 50, 3) := by decide +kernel
theorem dX9_rankOf_22 : decode cX9_rankOf 22 = .ok (.iload_n 1, 1) := by decide +kernel
theorem dX9_rankOf_23 : decode cX9_rankOf 23 = .ok (.iaload, 1) := by decide +kernel
theorem dX9_rankOf_24 : decode cX9_rankOf 24 = .ok (.iload_n 3, 1) := by decide +kernel
theorem dX9_rankOf_25 : decode cX9_rankOf 25 = .ok (.invokestatic 189, 3) := by decide +kernel
theorem dX9_rankOf_28 : decode cX9_rankOf 28 = .ok (.aload_n 0, 1) := by decide +kernel
theorem dX9_rankOf_29 : decode cX9_rankOf 29 = .ok (.getfield 7, 3) := by decide +kernel
theorem dX9_rankOf_32 : decode cX9_rankOf 32 = .ok (.iconst 0, 1) := by decide +kernel
theorem dX9_rankOf_33 : decode cX9_rankOf 33 = .ok (.aload_n 0, 1) := by decide +kernel
theorem dX9_rankOf_34 : decode cX9_rankOf 34 = .ok (.getfield 89, 3) := by decide +kernel
theorem dX9_rankOf_37 : decode cX9_rankOf 37 = .ok (.iload_n 3, 1) := by decide +kernel
theorem dX9_rankOf_38 : decode cX9_rankOf 38 = .ok (.invokestatic 189, 3) := by decide +kernel
theorem dX9_rankOf_41 : decode cX9_rankOf 41 = .ok (.isub, 1) := by decide +kernel
theorem dX9_rankOf_42 : decode cX9_rankOf 42 = .ok (.istore 4, 2) := by decide +kernel
theorem dX9_rankOf_44 : decode cX9_rankOf 44 = .ok (.iload_n 2, 1) := by decide +kernel
theorem dX9_rankOf_45 : decode cX9_rankOf 45 = .ok (.iload 4, 2) := by decide +kernel
theorem dX9_rankOf_47 : decode cX9_rankOf 47 = .ok (.ifCond .le 15, 3) := by decide +kernel
theorem dX9_rankOf_50 : decode cX9_rankOf 50 = .ok (.iload 4, 2) := by decide +kernel
theorem dX9_rankOf_52 : decode cX9_rankOf 52 = .ok (.aload_n 0, 1) := by decide +kernel
theorem dX9_rankOf_53 : decode cX9_rankOf 53 = .ok (.getfield 41, 3) := by decide +kernel
theorem dX9_rankOf_56 : decode cX9_rankOf 56 = .ok (.iload_n 3, 1) := by decide +kernel
theorem dX9_rankOf_57 : decode cX9_rankOf 57 = .ok (.iaload, 1) := by decide +kernel
theorem dX9_rankOf_58 : decode cX9_rankOf 58 = .ok (.imul, 1) := by decide +kernel
theorem dX9_rankOf_59 : decode cX9_rankOf 59 = .ok (.goto 13, 3) := by decide +kernel
theorem dX9_rankOf_62 : decode cX9_rankOf 62 = .ok (.iload 4, 2) := by decide +kernel
theorem dX9_rankOf_64 : decode cX9_rankOf 64 = .ok (.ineg, 1) := by decide +kernel
theorem dX9_rankOf_65 : decode cX9_rankOf 65 = .ok (.aload_n 0, 1) := by decide +kernel
theorem dX9_rankOf_66 : decode cX9_rankOf 66 = .ok (.getfield 44, 3) := by decide +kernel
theorem dX9_rankOf_69 : decode cX9_rankOf 69 = .ok (.iload_n 3, 1) := by decide +kernel
theorem dX9_rankOf_70 : decode cX9_rankOf 70 = .ok (.iaload, 1) := by decide +kernel
theorem dX9_rankOf_71 : decode cX9_rankOf 71 = .ok (.imul, 1) := by decide +kernel
theorem dX9_rankOf_72 : decode cX9_rankOf 72 = .ok (.iadd, 1) := by decide +kernel
theorem dX9_rankOf_73 : decode cX9_rankOf 73 = .ok (.istore_n 2, 1) := by decide +kernel
theorem dX9_rankOf_74 : decode cX9_rankOf 74 = .ok (.iinc 3 1, 3) := by decide +kernel
theorem dX9_rankOf_77 : decode cX9_rankOf 77 = .ok (.goto (-73), 3) := by decide +kernel
theorem dX9_rankOf_80 : decode cX9_rankOf 80 = .ok (.iload_n 2, 1) := by decide +kernel
theorem dX9_rankOf_81 : decode cX9_rankOf 81 = .ok (.ireturn, 1) := by decide +kernel
theorem dX9_isAhead_0 : decode cX9_isAhead 0 = .ok (.aload_n 0, 1) := by decide +kernel
theorem dX9_isAhead_1 : decode cX9_isAhead 1 = .ok (.getfield 53, 3) := by decide +kernel
theorem dX9_isAhead_4 : decode cX9_isAhead 4 = .ok (.iload_n 1, 1) := by decide +kernel
theorem dX9_isAhead_5 : decode cX9_isAhead 5 = .ok (.iaload, 1) := by decide +kernel
theorem dX9_isAhead_6 : decode cX9_isAhead 6 = .ok (.aload_n 0, 1) := by decide +kernel
theorem dX9_isAhead_7 : decode cX9_isAhead 7 = .ok (.getfield 53, 3) := by decide +kernel
theorem dX9_isAhead_10 : decode cX9_isAhead 10 = .ok (.iload_n 2, 1) := by decide +kernel
theorem dX9_isAhead_11 : decode cX9_isAhead 11 = .ok (.iaload, 1) := by decide +kernel
theorem dX9_isAhead_12 : decode cX9_isAhead 12 = .ok (.if_icmp .eq 24, 3) := by decide +kernel
theorem dX9_isAhead_15 : decode cX9_isAhead 15 = .ok (.aload_n 0, 1) := by decide +kernel
theorem dX9_isAhead_16 : decode cX9_isAhead 16 = .ok (.getfield 53, 3) := by decide +kernel
theorem dX9_isAhead_19 : decode cX9_isAhead 19 = .ok (.iload_n 1, 1) := by decide +kernel
theorem dX9_isAhead_20 : decode cX9_isAhead 20 = .ok (.iaload, 1) := by decide +kernel
theorem dX9_isAhead_21 : decode cX9_isAhead 21 = .ok (.aload_n 0, 1) := by decide +kernel
theorem dX9_isAhead_22 : decode cX9_isAhead 22 = .ok (.getfield 53, 3) := by decide +kernel
theorem dX9_isAhead_25 : decode cX9_isAhead 25 = .ok (.iload_n 2, 1) := by decide +kernel
theorem dX9_isAhead_26 : decode cX9_isAhead 26 = .ok (.iaload, 1) := by decide +kernel
theorem dX9_isAhead_27 : decode cX9_isAhead 27 = .ok (.if_icmp .le 7, 3) := by decide +kernel
theorem dX9_isAhead_30 : decode cX9_isAhead 30 = .ok (.iconst 1, 1) := by decide +kernel
theorem dX9_isAhead_31 : decode cX9_isAhead 31 = .ok (.goto 4, 3) := by decide +kernel
theorem dX9_isAhead_34 : decode cX9_isAhead 34 = .ok (.iconst 0, 1) := by decide +kernel
theorem dX9_isAhead_35 : decode cX9_isAhead 35 = .ok (.ireturn, 1) := by decide +kernel
theorem dX9_isAhead_36 : decode cX9_isAhead 36 = .ok (.aload_n 0, 1) := by decide +kernel
theorem dX9_isAhead_37 : decode cX9_isAhead 37 = .ok (.getfield 50, 3) := by decide +kernel
theorem dX9_isAhead_40 : decode cX9_isAhead 40 = .ok (.iload_n 1, 1) := by decide +kernel
theorem dX9_isAhead_41 : decode cX9_isAhead 41 = .ok (.iaload, 1) := by decide +kernel
theorem dX9_isAhead_42 : decode cX9_isAhead 42 = .ok (.aload_n 0, 1) := by decide +kernel
theorem dX9_isAhead_43 : decode cX9_isAhead 43 = .ok (.getfield 50, 3) := by decide +kernel
theorem dX9_isAhead_46 : decode cX9_isAhead 46 = .ok (.iload_n 2, 1) := by decide +kernel
theorem dX9_isAhead_47 : decode cX9_isAhead 47 = .ok (.iaload, 1) := by decide +kernel
theorem dX9_isAhead_48 : decode cX9_isAhead 48 = .ok (.if_icmp .eq 24, 3) := by decide +kernel
theorem dX9_isAhead_51 : decode cX9_isAhead 51 = .ok (.aload_n 0, 1) := by decide +kernel
theorem dX9_isAhead_52 : decode cX9_isAhead 52 = .ok (.getfield 50, 3) := by decide +kernel
theorem dX9_isAhead_55 : decode cX9_isAhead 55 = .ok (.iload_n 1, 1) := by decide +kernel
theorem dX9_isAhead_56 : decode cX9_isAhead 56 = .ok (.iaload, 1) := by decide +kernel
theorem dX9_isAhead_57 : decode cX9_isAhead 57 = .ok (.aload_n 0, 1) := by decide +kernel
theorem dX9_isAhead_58 : decode cX9_isAhead 58 = .ok (.getfield 50, 3) := by decide +kernel
theorem dX9_isAhead_61 : decode cX9_isAhead 61 = .ok (.iload_n 2, 1) := by decide +kernel
theorem dX9_isAhead_62 : decode cX9_isAhead 62 = .ok (.iaload, 1) := by decide +kernel
theorem dX9_isAhead_63 : decode cX9_isAhead 63 = .ok (.if_icmp .ge 7, 3) := by decide +kernel
theorem dX9_isAhead_66 : decode cX9_isAhead 66 = .ok (.iconst 1, 1) := by decide +kernel
theorem dX9_isAhead_67 : decode cX9_isAhead 67 = .ok (.goto 4, 3) := by decide +kernel
theorem dX9_isAhead_70 : decode cX9_isAhead 70 = .ok (.iconst 0, 1) := by decide +kernel
theorem dX9_isAhead_71 : decode cX9_isAhead 71 = .ok (.ireturn, 1) := by decide +kernel
theorem dX9_isAhead_72 : decode cX9_isAhead 72 = .ok (.iconst 0, 1) := by decide +kernel
theorem dX9_isAhead_73 : decode cX9_isAhead 73 = .ok (.istore_n 3, 1) := by decide +kernel
theorem dX9_isAhead_74 : decode cX9_isAhead 74 = .ok (.iload_n 3, 1) := by decide +kernel
theorem dX9_isAhead_75 : decode cX9_isAhead 75 = .ok (.iconst 1, 1) := by decide +kernel
theorem dX9_isAhead_76 : decode cX9_isAhead 76 = .ok (.iadd, 1) := by decide +kernel
theorem dX9_isAhead_77 : decode cX9_isAhead 77 = .ok (.aload_n 0, 1) := by decide +kernel
theorem dX9_isAhead_78 : decode cX9_isAhead 78 = .ok (.getfield 50, 3) := by decide +kernel
theorem dX9_isAhead_81 : decode cX9_isAhead 81 = .ok (.iload_n 1, 1) := by decide +kernel
theorem dX9_isAhead_82 : decode cX9_isAhead 82 = .ok (.iaload, 1) := by decide +kernel
theorem dX9_isAhead_83 : decode cX9_isAhead 83 = .ok (.if_icmp .ge 34, 3) := by decide +kernel
theorem dX9_isAhead_86 : decode cX9_isAhead 86 = .ok (.aload_n 0, 1) := by decide +kernel
theorem dX9_isAhead_87 : decode cX9_isAhead 87 = .ok (.getfield 47, 3) := by decide +kernel
theorem dX9_isAhead_90 : decode cX9_isAhead 90 = .ok (.bipush 12, 2) := by decide +kernel
theorem dX9_isAhead_92 : decode cX9_isAhead 92 = .ok (.iload_n 1, 1) := by decide +kernel
theorem dX9_isAhead_93 : decode cX9_isAhead 93 = .ok (.imul, 1) := by decide +kernel
theorem dX9_isAhead_94 : decode cX9_isAhead 94 = .ok (.iload_n 3, 1) := by decide +kernel
theorem dX9_isAhead_95 : decode cX9_isAhead 95 = .ok (.iadd, 1) := by decide +kernel
theorem dX9_isAhead_96 : decode cX9_isAhead 96 = .ok (.iaload, 1) := by decide +kernel
theorem dX9_isAhead_97 : decode cX9_isAhead 97 = .ok (.aload_n 0, 1) := by decide +kernel
theorem dX9_isAhead_98 : decode cX9_isAhead 98 = .ok (.getfield 47, 3) := by decide +kernel
theorem dX9_isAhead_101 : decode cX9_isAhead 101 = .ok (.bipush 12, 2) := by decide +kernel
theorem dX9_isAhead_103 : decode cX9_isAhead 103 = .ok (.iload_n 2, 1) := by decide +kernel
theorem dX9_isAhead_104 : decode cX9_isAhead 104 = .ok (.imul, 1) := by decide +kernel
theorem dX9_isAhead_105 : decode cX9_isAhead 105 = .ok (.iload_n 3, 1) := by decide +kernel
theorem dX9_isAhead_106 : decode cX9_isAhead 106 = .ok (.iadd, 1) := by decide +kernel
theorem dX9_isAhead_107 : decode cX9_isAhead 107 = .ok (.iaload, 1) := by decide +kernel
theorem dX9_isAhead_108 : decode cX9_isAhead 108 = .ok (.if_icmp .ne 9, 3) := by decide +kernel
theorem dX9_isAhead_111 : decode cX9_isAhead 111 = .ok (.iinc 3 1, 3) := by decide +kernel
theorem dX9_isAhead_114 : decode cX9_isAhead 114 = .ok (.goto (-40), 3) := by decide +kernel
theorem dX9_isAhead_117 : decode cX9_isAhead 117 = .ok (.aload_n 0, 1) := by decide +kernel
theorem dX9_isAhead_118 : decode cX9_isAhead 118 = .ok (.getfield 50, 3) := by decide +kernel
theorem dX9_isAhead_121 : decode cX9_isAhead 121 = .ok (.iload_n 1, 1) := by decide +kernel
theorem dX9_isAhead_122 : decode cX9_isAhead 122 = .ok (.iaload, 1) := by decide +kernel
theorem dX9_isAhead_123 : decode cX9_isAhead 123 = .ok (.ifCond .le 32, 3) := by decide +kernel
theorem dX9_isAhead_126 : decode cX9_isAhead 126 = .ok (.aload_n 0, 1) := by decide +kernel
theorem dX9_isAhead_127 : decode cX9_isAhead 127 = .ok (.getfield 47, 3) := by decide +kernel
theorem dX9_isAhead_130 : decode cX9_isAhead 130 = .ok (.bipush 12, 2) := by decide +kernel
theorem dX9_isAhead_132 : decode cX9_isAhead 132 = .ok (.iload_n 1, 1) := by decide +kernel
theorem dX9_isAhead_133 : decode cX9_isAhead 133 = .ok (.imul, 1) := by decide +kernel
theorem dX9_isAhead_134 : decode cX9_isAhead 134 = .ok (.iload_n 3, 1) := by decide +kernel
theorem dX9_isAhead_135 : decode cX9_isAhead 135 = .ok (.iadd, 1) := by decide +kernel
theorem dX9_isAhead_136 : decode cX9_isAhead 136 = .ok (.iaload, 1) := by decide +kernel
theorem dX9_isAhead_137 : decode cX9_isAhead 137 = .ok (.aload_n 0, 1) := by decide +kernel
theorem dX9_isAhead_138 : decode cX9_isAhead 138 = .ok (.getfield 47, 3) := by decide +kernel
theorem dX9_isAhead_141 : decode cX9_isAhead 141 = .ok (.bipush 12, 2) := by decide +kernel
theorem dX9_isAhead_143 : decode cX9_isAhead 143 = .ok (.iload_n 2, 1) := by decide +kernel
theorem dX9_isAhead_144 : decode cX9_isAhead 144 = .ok (.imul, 1) := by decide +kernel
theorem dX9_isAhead_145 : decode cX9_isAhead 145 = .ok (.iload_n 3, 1) := by decide +kernel
theorem dX9_isAhead_146 : decode cX9_isAhead 146 = .ok (.iadd, 1) := by decide +kernel
theorem dX9_isAhead_147 : decode cX9_isAhead 147 = .ok (.iaload, 1) := by decide +kernel
theorem dX9_isAhead_148 : decode cX9_isAhead 148 = .ok (.if_icmp .ge 7, 3) := by decide +kernel
theorem dX9_isAhead_151 : decode cX9_isAhead 151 = .ok (.iconst 1, 1) := by decide +kernel
theorem dX9_isAhead_152 : decode cX9_isAhead 152 = .ok (.goto 4, 3) := by decide +kernel
theorem dX9_isAhead_155 : decode cX9_isAhead 155 = .ok (.iconst 0, 1) := by decide +kernel
theorem dX9_isAhead_156 : decode cX9_isAhead 156 = .ok (.ireturn, 1) := by decide +kernel
theorem dX9_swap_0 : decode cX9_swap 0 = .ok (.aload_n 0, 1) := by decide +kernel
theorem dX9_swap_1 : decode cX9_swap 1 = .ok (.getfield 50, 3) := by decide +kernel
theorem dX9_swap_4 : decode cX9_swap 4 = .ok (.iload_n 1, 1) := by decide +kernel
theorem dX9_swap_5 : decode cX9_swap 5 = .ok (.iaload, 1) := by decide +kernel
theorem dX9_swap_6 : decode cX9_swap 6 = .ok (.istore_n 3, 1) := by decide +kernel
theorem dX9_swap_7 : decode cX9_swap 7 = .ok (.aload_n 0, 1) := by decide +kernel
theorem dX9_swap_8 : decode cX9_swap 8 = .ok (.getfield 50, 3) := by decide +kernel
theorem dX9_swap_11 : decode cX9_swap 11 = .ok (.iload_n 1, 1) := by decide +kernel
theorem dX9_swap_12 : decode cX9_swap 12 = .ok (.aload_n 0, 1) := by decide +kernel
theorem dX9_swap_13 : decode cX9_swap 13 = .ok (.getfield 50, 3) := by decide +kernel
theorem dX9_swap_16 : decode cX9_swap 16 = .ok (.iload_n 2, 1) := by decide +kernel
theorem dX9_swap_17 : decode cX9_swap 17 = .ok (.iaload, 1) := by decide +kernel
theorem dX9_swap_18 : decode cX9_swap 18 = .ok (.iastore, 1) := by decide +kernel
theorem dX9_swap_19 : decode cX9_swap 19 = .ok (.aload_n 0, 1) := by decide +kernel
theorem dX9_swap_20 : decode cX9_swap 20 = .ok (.getfield 50, 3) := by decide +kernel
theorem dX9_swap_23 : decode cX9_swap 23 = .ok (.iload_n 2, 1) := by decide +kernel
theorem dX9_swap_24 : decode cX9_swap 24 = .ok (.iload_n 3, 1) := by decide +kernel
theorem dX9_swap_25 : decode cX9_swap 25 = .ok (.iastore, 1) := by decide +kernel
theorem dX9_swap_26 : decode cX9_swap 26 = .ok (.aload_n 0, 1) := by decide +kernel
theorem dX9_swap_27 : decode cX9_swap 27 = .ok (.getfield 53, 3) := by decide +kernel
theorem dX9_swap_30 : decode cX9_swap 30 = .ok (.iload_n 1, 1) := by decide +kernel
theorem dX9_swap_31 : decode cX9_swap 31 = .ok (.iaload, 1) := by decide +kernel
theorem dX9_swap_32 : decode cX9_swap 32 = .ok (.istore_n 3, 1) := by decide +kernel
theorem dX9_swap_33 : decode cX9_swap 33 = .ok (.aload_n 0, 1) := by decide +kernel
theorem dX9_swap_34 : decode cX9_swap 34 = .ok (.getfield 53, 3) := by decide +kernel
theorem dX9_swap_37 : decode cX9_swap 37 = .ok (.iload_n 1, 1) := by decide +kernel
theorem dX9_swap_38 : decode cX9_swap 38 = .ok (.aload_n 0, 1) := by decide +kernel
theorem dX9_swap_39 : decode cX9_swap 39 = .ok (.getfield 53, 3) := by decide +kernel
theorem dX9_swap_42 : decode cX9_swap 42 = .ok (.iload_n 2, 1) := by decide +kernel
theorem dX9_swap_43 : decode cX9_swap 43 = .ok (.iaload, 1) := by decide +kernel
theorem dX9_swap_44 : decode cX9_swap 44 = .ok (.iastore, 1) := by decide +kernel
theorem dX9_swap_45 : decode cX9_swap 45 = .ok (.aload_n 0, 1) := by decide +kernel
theorem dX9_swap_46 : decode cX9_swap 46 = .ok (.getfield 53, 3) := by decide +kernel
theorem dX9_swap_49 : decode cX9_swap 49 = .ok (.iload_n 2, 1) := by decide +kernel
theorem dX9_swap_50 : decode cX9_swap 50 = .ok (.iload_n 3, 1) := by decide +kernel
theorem dX9_swap_51 : decode cX9_swap 51 = .ok (.iastore, 1) := by decide +kernel
theorem dX9_swap_52 : decode cX9_swap 52 = .ok (.iconst 0, 1) := by decide +kernel
theorem dX9_swap_53 : decode cX9_swap 53 = .ok (.istore 4, 2) := by decide +kernel
theorem dX9_swap_55 : decode cX9_swap 55 = .ok (.iload 4, 2) := by decide +kernel
theorem dX9_swap_57 : decode cX9_swap 57 = .ok (.bipush 12, 2) := by decide +kernel
theorem dX9_swap_59 : decode cX9_swap 59 = .ok (.if_icmp .ge 59, 3) := by decide +kernel
theorem dX9_swap_62 : decode cX9_swap 62 = .ok (.aload_n 0, 1) := by decide +kernel
theorem dX9_swap_63 : decode cX9_swap 63 = .ok (.getfield 47, 3) := by decide +kernel
theorem dX9_swap_66 : decode cX9_swap 66 = .ok (.bipush 12, 2) := by decide +kernel
theorem dX9_swap_68 : decode cX9_swap 68 = .ok (.iload_n 1, 1) := by decide +kernel
theorem dX9_swap_69 : decode cX9_swap 69 = .ok (.imul, 1) := by decide +kernel
theorem dX9_swap_70 : decode cX9_swap 70 = .ok (.iload 4, 2) := by decide +kernel
theorem dX9_swap_72 : decode cX9_swap 72 = .ok (.iadd, 1) := by decide +kernel
theorem dX9_swap_73 : decode cX9_swap 73 = .ok (.iaload, 1) := by decide +kernel
theorem dX9_swap_74 : decode cX9_swap 74 = .ok (.istore_n 3, 1) := by decide +kernel
theorem dX9_swap_75 : decode cX9_swap 75 = .ok (.aload_n 0, 1) := by decide +kernel
theorem dX9_swap_76 : decode cX9_swap 76 = .ok (.getfield 47, 3) := by decide +kernel
theorem dX9_swap_79 : decode cX9_swap 79 = .ok (.bipush 12, 2) := by decide +kernel
theorem dX9_swap_81 : decode cX9_swap 81 = .ok (.iload_n 1, 1) := by decide +kernel
theorem dX9_swap_82 : decode cX9_swap 82 = .ok (.imul, 1) := by decide +kernel
theorem dX9_swap_83 : decode cX9_swap 83 = .ok (.iload 4, 2) := by decide +kernel
theorem dX9_swap_85 : decode cX9_swap 85 = .ok (.iadd, 1) := by decide +kernel
theorem dX9_swap_86 : decode cX9_swap 86 = .ok (.aload_n 0, 1) := by decide +kernel
theorem dX9_swap_87 : decode cX9_swap 87 = .ok (.getfield 47, 3) := by decide +kernel
theorem dX9_swap_90 : decode cX9_swap 90 = .ok (.bipush 12, 2) := by decide +kernel
theorem dX9_swap_92 : decode cX9_swap 92 = .ok (.iload_n 2, 1) := by decide +kernel
theorem dX9_swap_93 : decode cX9_swap 93 = .ok (.imul, 1) := by decide +kernel
theorem dX9_swap_94 : decode cX9_swap 94 = .ok (.iload 4, 2) := by decide +kernel
theorem dX9_swap_96 : decode cX9_swap 96 = .ok (.iadd, 1) := by decide +kernel
theorem dX9_swap_97 : decode cX9_swap 97 = .ok (.iaload, 1) := by decide +kernel
theorem dX9_swap_98 : decode cX9_swap 98 = .ok (.iastore, 1) := by decide +kernel
theorem dX9_swap_99 : decode cX9_swap 99 = .ok (.aload_n 0, 1) := by decide +kernel
theorem dX9_swap_100 : decode cX9_swap 100 = .ok (.getfield 47, 3) := by decide +kernel
theorem dX9_swap_103 : decode cX9_swap 103 = .ok (.bipush 12, 2) := by decide +kernel
theorem dX9_swap_105 : decode cX9_swap 105 = .ok (.iload_n 2, 1) := by decide +kernel
theorem dX9_swap_106 : decode cX9_swap 106 = .ok (.imul, 1) := by decide +kernel
theorem dX9_swap_107 : decode cX9_swap 107 = .ok (.iload 4, 2) := by decide +kernel
theorem dX9_swap_109 : decode cX9_swap 109 = .ok (.iadd, 1) := by decide +kernel
theorem dX9_swap_110 : decode cX9_swap 110 = .ok (.iload_n 3, 1) := by decide +kernel
theorem dX9_swap_111 : decode cX9_swap 111 = .ok (.iastore, 1) := by decide +kernel
theorem dX9_swap_112 : decode cX9_swap 112 = .ok (.iinc 4 1, 3) := by decide +kernel
theorem dX9_swap_115 : decode cX9_swap 115 = .ok (.goto (-60), 3) := by decide +kernel
theorem dX9_swap_118 : decode cX9_swap 118 = .ok (.return_, 1) := by decide +kernel
theorem dX9_mend_0 : decode cX9_mend 0 = .ok (.aload_n 0, 1) := by decide +kernel
theorem dX9_mend_1 : decode cX9_mend 1 = .ok (.iconst 0, 1) := by decide +kernel
theorem dX9_mend_2 : decode cX9_mend 2 = .ok (.putfield 69, 3) := by decide +kernel
theorem dX9_mend_5 : decode cX9_mend 5 = .ok (.iload_n 1, 1) := by decide +kernel
theorem dX9_mend_6 : decode cX9_mend 6 = .ok (.i2l, 1) := by decide +kernel
theorem dX9_mend_7 : decode cX9_mend 7 = .ok (.lconst 0, 1) := by decide +kernel
theorem dX9_mend_8 : decode cX9_mend 8 = .ok (.ldc2_w 193, 3) := by decide +kernel
theorem dX9_mend_11 : decode cX9_mend 11 = .ok (.invokestatic 77, 3) := by decide +kernel
theorem dX9_mend_14 : decode cX9_mend 14 = .ok (.ifCond .eq 15, 3) := by decide +kernel
theorem dX9_mend_17 : decode cX9_mend 17 = .ok (.iload_n 2, 1) := by decide +kernel
theorem dX9_mend_18 : decode cX9_mend 18 = .ok (.i2l, 1) := by decide +kernel
theorem dX9_mend_19 : decode cX9_mend 19 = .ok (.ldc2_w 195, 3) := by decide +kernel
theorem dX9_mend_22 : decode cX9_mend 22 = .ok (.lconst 1, 1) := by decide +kernel
theorem dX9_mend_23 : decode cX9_mend 23 = .ok (.invokestatic 77, 3) := by decide +kernel
theorem dX9_mend_26 : decode cX9_mend 26 = .ok (.ifCond .ne 9, 3) := by decide +kernel
theorem dX9_mend_29 : decode cX9_mend 29 = .ok (.aload_n 0, 1) := by decide +kernel
theorem dX9_mend_30 : decode cX9_mend 30 = .ok (.iconst (-1), 1) := by decide +kernel
theorem dX9_mend_31 : decode cX9_mend 31 = .ok (.invokevirtual 85, 3) := by decide +kernel
theorem dX9_mend_34 : decode cX9_mend 34 = .ok (.ireturn, 1) := by decide +kernel
theorem dX9_mend_35 : decode cX9_mend 35 = .ok (.aload_n 0, 1) := by decide +kernel
theorem dX9_mend_36 : decode cX9_mend 36 = .ok (.iload_n 1, 1) := by decide +kernel
theorem dX9_mend_37 : decode cX9_mend 37 = .ok (.putfield 161, 3) := by decide +kernel
theorem dX9_mend_40 : decode cX9_mend 40 = .ok (.aload_n 0, 1) := by decide +kernel
theorem dX9_mend_41 : decode cX9_mend 41 = .ok (.iload_n 2, 1) := by decide +kernel
theorem dX9_mend_42 : decode cX9_mend 42 = .ok (.putfield 164, 3) := by decide +kernel
theorem dX9_mend_45 : decode cX9_mend 45 = .ok (.aload_n 0, 1) := by decide +kernel
theorem dX9_mend_46 : decode cX9_mend 46 = .ok (.iconst 0, 1) := by decide +kernel
theorem dX9_mend_47 : decode cX9_mend 47 = .ok (.putfield 167, 3) := by decide +kernel
theorem dX9_mend_50 : decode cX9_mend 50 = .ok (.aload_n 0, 1) := by decide +kernel
theorem dX9_mend_51 : decode cX9_mend 51 = .ok (.iconst (-1), 1) := by decide +kernel
theorem dX9_mend_52 : decode cX9_mend 52 = .ok (.putfield 59, 3) := by decide +kernel
theorem dX9_mend_55 : decode cX9_mend 55 = .ok (.aload_n 0, 1) := by decide +kernel
theorem dX9_mend_56 : decode cX9_mend 56 = .ok (.iconst 0, 1) := by decide +kernel
theorem dX9_mend_57 : decode cX9_mend 57 = .ok (.putfield 174, 3) := by decide +kernel
theorem dX9_mend_60 : decode cX9_mend 60 = .ok (.iconst 0, 1) := by decide +kernel
theorem dX9_mend_61 : decode cX9_mend 61 = .ok (.istore_n 3, 1) := by decide +kernel
theorem dX9_mend_62 : decode cX9_mend 62 = .ok (.iload_n 3, 1) := by decide +kernel
theorem dX9_mend_63 : decode cX9_mend 63 = .ok (.iconst 3, 1) := by decide +kernel
theorem dX9_mend_64 : decode cX9_mend 64 = .ok (.if_icmp .ge 21, 3) := by decide +kernel
theorem dX9_mend_67 : decode cX9_mend 67 = .ok (.aload_n 0, 1) := by decide +kernel
theorem dX9_mend_68 : decode cX9_mend 68 = .ok (.getfield 174, 3) := by decide +kernel
theorem dX9_mend_71 : decode cX9_mend 71 = .ok (.ifCond .ne 14, 3) := by decide +kernel
theorem dX9_mend_74 : decode cX9_mend 74 = .ok (.aload_n 0, 1) := by decide +kernel
theorem dX9_mend_75 : decode cX9_mend 75 = .ok (.iload_n 3, 1) := by decide +kernel
theorem dX9_mend_76 : decode cX9_mend 76 = .ok (.invokevirtual 197, 3) := by decide +kernel
theorem dX9_mend_79 : decode cX9_mend 79 = .ok (.iinc 3 1, 3) := by decide +kernel
theorem dX9_mend_82 : decode cX9_mend 82 = .ok (.goto (-20), 3) := by decide +kernel
theorem dX9_mend_85 : decode cX9_mend 85 = .ok (.aload_n 0, 1) := by decide +kernel
theorem dX9_mend_86 : decode cX9_mend 86 = .ok (.getfield 167, 3) := by decide +kernel
theorem dX9_mend_89 : decode cX9_mend 89 = .ok (.ifCond .ne 10, 3) := by decide +kernel
theorem dX9_mend_92 : decode cX9_mend 92 = .ok (.aload_n 0, 1) := by decide +kernel
theorem dX9_mend_93 : decode cX9_mend 93 = .ok (.getfield 174, 3) := by decide +kernel
theorem dX9_mend_96 : decode cX9_mend 96 = .ok (.ifCond .ne 27, 3) := by decide +kernel
theorem dX9_mend_99 : decode cX9_mend 99 = .ok (.aload_n 0, 1) := by decide +kernel
theorem dX9_mend_100 : decode cX9_mend 100 = .ok (.iconst 0, 1) := by decide +kernel
theorem dX9_mend_101 : decode cX9_mend 101 = .ok (.putfield 174, 3) := by decide +kernel
theorem dX9_mend_104 : decode cX9_mend 104 = .ok (.aload_n 0, 1) := by decide +kernel
theorem dX9_mend_105 : decode cX9_mend 105 = .ok (.aload_n 0, 1) := by decide +kernel
theorem dX9_mend_106 : decode cX9_mend 106 = .ok (.getfield 167, 3) := by decide +kernel
theorem dX9_mend_109 : decode cX9_mend 109 = .ok (.ifCond .eq 8, 3) := by decide +kernel
theorem dX9_mend_112 : decode cX9_mend 112 = .ok (.bipush (-5), 2) := by decide +kernel
theorem dX9_mend_114 : decode cX9_mend 114 = .ok (.goto 5, 3) := by decide +kernel
theorem dX9_mend_117 : decode cX9_mend 117 = .ok (.bipush (-6), 2) := by decide +kernel
theorem dX9_mend_119 : decode cX9_mend 119 = .ok (.invokevirtual 85, 3) := by decide +kernel
theorem dX9_mend_122 : decode cX9_mend 122 = .ok (.ireturn, 1) := by decide +kernel
theorem dX9_mend_123 : decode cX9_mend 123 = .ok (.aload_n 0, 1) := by decide +kernel
theorem dX9_mend_124 : decode cX9_mend 124 = .ok (.iload_n 3, 1) := by decide +kernel
theorem dX9_mend_125 : decode cX9_mend 125 = .ok (.iconst 1, 1) := by decide +kernel
theorem dX9_mend_126 : decode cX9_mend 126 = .ok (.isub, 1) := by decide +kernel
theorem dX9_mend_127 : decode cX9_mend 127 = .ok (.putfield 59, 3) := by decide +kernel
theorem dX9_mend_130 : decode cX9_mend 130 = .ok (.iconst 0, 1) := by decide +kernel
theorem dX9_mend_131 : decode cX9_mend 131 = .ok (.istore 4, 2) := by decide +kernel
theorem dX9_mend_133 : decode cX9_mend 133 = .ok (.iload 4, 2) := by decide +kernel
theorem dX9_mend_135 : decode cX9_mend 135 = .ok (.bipush 28, 2) := by decide +kernel
theorem dX9_mend_137 : decode cX9_mend 137 = .ok (.if_icmp .ge 30, 3) := by decide +kernel
theorem dX9_mend_140 : decode cX9_mend 140 = .ok (.aload_n 0, 1) := by decide +kernel
theorem dX9_mend_141 : decode cX9_mend 141 = .ok (.getfield 56, 3) := by decide +kernel
theorem dX9_mend_144 : decode cX9_mend 144 = .ok (.iload 4, 2) := by decide +kernel
theorem dX9_mend_146 : decode cX9_mend 146 = .ok (.aload_n 0, 1) := by decide +kernel
theorem dX9_mend_147 : decode cX9_mend 147 = .ok (.getfield 7, 3) := by decide +kernel
theorem dX9_mend_150 : decode cX9_mend 150 = .ok (.iconst 0, 1) := by decide +kernel
theorem dX9_mend_151 : decode cX9_mend 151 = .ok (.aload_n 0, 1) := by decide +kernel
theorem dX9_mend_152 : decode cX9_mend 152 = .ok (.getfield 89, 3) := by decide +kernel
theorem dX9_mend_155 : decode cX9_mend 155 = .ok (.iload 4, 2) := by decide +kernel
theorem dX9_mend_157 : decode cX9_mend 157 = .ok (.invokestatic 189, 3) := by decide +kernel
theorem dX9_mend_160 : decode cX9_mend 160 = .ok (.iastore, 1) := by decide +kernel
theorem dX9_mend_161 : decode cX9_mend 161 = .ok (.iinc 4 1, 3) := by decide +kernel
theorem dX9_mend_164 : decode cX9_mend 164 = .ok (.goto (-31), 3) := by decide +kernel
theorem dX9_mend_167 : decode cX9_mend 167 = .ok (.iconst 0, 1) := by decide +kernel
theorem dX9_mend_168 : decode cX9_mend 168 = .ok (.istore 4, 2) := by decide +kernel
theorem dX9_mend_170 : decode cX9_mend 170 = .ok (.iload 4, 2) := by decide +kernel
theorem dX9_mend_172 : decode cX9_mend 172 = .ok (.aload_n 0, 1) := by decide +kernel
theorem dX9_mend_173 : decode cX9_mend 173 = .ok (.getfield 174, 3) := by decide +kernel
theorem dX9_mend_176 : decode cX9_mend 176 = .ok (.if_icmp .ge 22, 3) := by decide +kernel
theorem dX9_mend_179 : decode cX9_mend 179 = .ok (.aload_n 0, 1) := by decide +kernel
theorem dX9_mend_180 : decode cX9_mend 180 = .ok (.getfield 53, 3) := by decide +kernel
theorem dX9_mend_183 : decode cX9_mend 183 = .ok (.iload 4, 2) := by decide +kernel
theorem dX9_mend_185 : decode cX9_mend 185 = .ok (.aload_n 0, 1) := by decide +kernel
theorem dX9_mend_186 : decode cX9_mend 186 = .ok (.iload 4, 2) := by decide +kernel
theorem dX9_mend_188 : decode cX9_mend 188 = .ok (.invokevirtual 200, 3) := by decide +kernel
theorem dX9_mend_191 : decode cX9_mend 191 = .ok (.iastore, 1) := by decide +kernel
theorem dX9_mend_192 : decode cX9_mend 192 = .ok (.iinc 4 1, 3) := by decide +kernel
theorem dX9_mend_195 : decode cX9_mend 195 = .ok (.goto (-25), 3) := by decide +kernel
theorem dX9_mend_198 : decode cX9_mend 198 = .ok (.iconst 1, 1) := by decide +kernel
theorem dX9_mend_199 : decode cX9_mend 199 = .ok (.istore 4, 2) := by decide +kernel
theorem dX9_mend_201 : decode cX9_mend 201 = .ok (.iload 4, 2) := by decide +kernel
theorem dX9_mend_203 : decode cX9_mend 203 = .ok (.aload_n 0, 1) := by decide +kernel
theorem dX9_mend_204 : decode cX9_mend 204 = .ok (.getfield 174, 3) := by decide +kernel
theorem dX9_mend_207 : decode cX9_mend 207 = .ok (.if_icmp .ge 47, 3) := by decide +kernel
theorem dX9_mend_210 : decode cX9_mend 210 = .ok (.iload 4, 2) := by decide +kernel
theorem dX9_mend_212 : decode cX9_mend 212 = .ok (.istore 5, 2) := by decide +kernel
theorem dX9_mend_214 : decode cX9_mend 214 = .ok (.iload 5, 2) := by decide +kernel
theorem dX9_mend_216 : decode cX9_mend 216 = .ok (.ifCond .le 32, 3) := by decide +kernel
theorem dX9_mend_219 : decode cX9_mend 219 = .ok (.aload_n 0, 1) := by decide +kernel
theorem dX9_mend_220 : decode cX9_mend 220 = .ok (.iload 5, 2) := by decide +kernel
theorem dX9_mend_222 : decode cX9_mend 222 = .ok (.iload 5, 2) := by decide +kernel
theorem dX9_mend_224 : decode cX9_mend 224 = .ok (.iconst 1, 1) := by decide +kernel
theorem dX9_mend_225 : decode cX9_mend 225 = .ok (.isub, 1) := by decide +kernel
theorem dX9_mend_226 : decode cX9_mend 226 = .ok (.invokevirtual 203, 3) := by decide +kernel
theorem dX9_mend_229 : decode cX9_mend 229 = .ok (.ifCond .eq 19, 3) := by decide +kernel
theorem dX9_mend_232 : decode cX9_mend 232 = .ok (.aload_n 0, 1) := by decide +kernel
theorem dX9_mend_233 : decode cX9_mend 233 = .ok (.iload 5, 2) := by decide +kernel
theorem dX9_mend_235 : decode cX9_mend 235 = .ok (.iload 5, 2) := by decide +kernel
theorem dX9_mend_237 : decode cX9_mend 237 = .ok (.iconst 1, 1) := by decide +kernel
theorem dX9_mend_238 : decode cX9_mend 238 = .ok (.isub, 1) := by decide +kernel
theorem dX9_mend_239 : decode cX9_mend 239 = .ok (.invokevirtual 207, 3) := by decide +kernel
theorem dX9_mend_242 : decode cX9_mend 242 = .ok (.iinc 5 (-1), 3) := by decide +kernel
theorem dX9_mend_245 : decode cX9_mend 245 = .ok (.goto (-31), 3) := by decide +kernel
theorem dX9_mend_248 : decode cX9_mend 248 = .ok (.iinc 4 1, 3) := by decide +kernel
theorem dX9_mend_251 : decode cX9_mend 251 = .ok (.goto (-50), 3) := by decide +kernel
theorem dX9_mend_254 : decode cX9_mend 254 = .ok (.aload_n 0, 1) := by decide +kernel
theorem dX9_mend_255 : decode cX9_mend 255 = .ok (.aload_n 0, 1) := by decide +kernel
theorem dX9_mend_256 : decode cX9_mend 256 = .ok (.getfield 174, 3) := by decide +kernel
theorem dX9_mend_259 : decode cX9_mend 259 = .ok (.invokevirtual 85, 3) := by decide +kernel
theorem dX9_mend_262 : decode cX9_mend 262 = .ok (.ireturn, 1) := by decide +kernel
theorem dX9_changes_0 : decode cX9_changes 0 = .ok (.aload_n 0, 1) := by decide +kernel
theorem dX9_changes_1 : decode cX9_changes 1 = .ok (.iconst 0, 1) := by decide +kernel
theorem dX9_changes_2 : decode cX9_changes 2 = .ok (.putfield 69, 3) := by decide +kernel
theorem dX9_changes_5 : decode cX9_changes 5 = .ok (.aload_n 0, 1) := by decide +kernel
theorem dX9_changes_6 : decode cX9_changes 6 = .ok (.getfield 174, 3) := by decide +kernel
theorem dX9_changes_9 : decode cX9_changes 9 = .ok (.ifCond .ne 7, 3) := by decide +kernel
theorem dX9_changes_12 : decode cX9_changes 12 = .ok (.iconst (-1), 1) := by decide +kernel
theorem dX9_changes_13 : decode cX9_changes 13 = .ok (.goto 7, 3) := by decide +kernel
theorem dX9_changes_16 : decode cX9_changes 16 = .ok (.aload_n 0, 1) := by decide +kernel
theorem dX9_changes_17 : decode cX9_changes 17 = .ok (.getfield 59, 3) := by decide +kernel
theorem dX9_changes_20 : decode cX9_changes 20 = .ok (.ireturn, 1) := by decide +kernel
theorem dX9_isMending_0 : decode cX9_isMending 0 = .ok (.iload_n 1, 1) := by decide +kernel
theorem dX9_isMending_1 : decode cX9_isMending 1 = .ok (.i2l, 1) := by decide +kernel
theorem dX9_isMending_2 : decode cX9_isMending 2 = .ok (.lconst 0, 1) := by decide +kernel
theorem dX9_isMending_3 : decode cX9_isMending 3 = .ok (.aload_n 0, 1) := by decide +kernel
theorem dX9_isMending_4 : decode cX9_isMending 4 = .ok (.getfield 174, 3) := by decide +kernel
theorem dX9_isMending_7 : decode cX9_isMending 7 = .ok (.i2l, 1) := by decide +kernel
