theorem dX0_inTrace_0 : decode cX0_inTrace 0 = .ok (.aload_n 0, 1) := by decide +kernel
theorem dX0_inTrace_1 : decode cX0_inTrace 1 = .ok (.getfield 15, 3) := by decide +kernel
theorem dX0_inTrace_4 : decode cX0_inTrace 4 = .ok (.bipush 20, 2) := by decide +kernel
theorem dX0_inTrace_6 : decode cX0_inTrace 6 = .ok (.invokestatic 28, 3) := by decide +kernel
theorem dX0_inTrace_9 : decode cX0_inTrace 9 = .ok (.ireturn, 1) := by decide +kernel
theorem dX0_note_0 : decode cX0_note 0 = .ok (.aload_n 0, 1) := by decide +kernel
theorem dX0_note_1 : decode cX0_note 1 = .ok (.getfield 15, 3) := by decide +kernel
theorem dX0_note_4 : decode cX0_note 4 = .ok (.bipush 20, 2) := by decide +kernel
theorem dX0_note_6 : decode cX0_note 6 = .ok (.if_icmp .ge 13, 3) := by decide +kernel
theorem dX0_note_9 : decode cX0_note 9 = .ok (.aload_n 0, 1) := by decide +kernel
theorem dX0_note_10 : decode cX0_note 10 = .ok (.getfield 11, 3) := by decide +kernel
theorem dX0_note_13 : decode cX0_note 13 = .ok (.aload_n 0, 1) := by decide +kernel
theorem dX0_note_14 : decode cX0_note 14 = .ok (.getfield 15, 3) := by decide +kernel
theorem dX0_note_17 : decode cX0_note 17 = .ok (.iload_n 1, 1) := by decide +kernel
theorem dX0_note_18 : decode cX0_note 18 = .ok (.iastore, 1) := by decide +kernel
theorem dX0_note_19 : decode cX0_note 19 = .ok (.aload_n 0, 1) := by decide +kernel
theorem dX0_note_20 : decode cX0_note 20 = .ok (.dup, 1) := by decide +kernel
theorem dX0_note_21 : decode cX0_note 21 = .ok (.getfield 15, 3) := by decide +kernel
theorem dX0_note_24 : decode cX0_note 24 = .ok (.iconst 1, 1) := by decide +kernel
theorem dX0_note_25 : decode cX0_note 25 = .ok (.iadd, 1) := by decide +kernel
theorem dX0_note_26 : decode cX0_note 26 = .ok (.putfield 15, 3) := by decide +kernel
theorem dX0_note_29 : decode cX0_note 29 = .ok (.return_, 1) := by decide +kernel
theorem dX0_run_0 : decode cX0_run 0 = .ok (.iload 4, 2) := by decide +kernel
theorem dX0_run_2 : decode cX0_run 2 = .ok (.bipush 12, 2) := by decide +kernel
theorem dX0_run_4 : decode cX0_run 4 = .ok (.if_icmp .le 5, 3) := by decide +kernel
theorem dX0_run_7 : decode cX0_run 7 = .ok (.iconst 0, 1) := by decide +kernel
theorem dX0_run_8 : decode cX0_run 8 = .ok (.ireturn, 1) := by decide +kernel
theorem dX0_run_9 : decode cX0_run 9 = .ok (.iload_n 2, 1) := by decide +kernel
theorem dX0_run_10 : decode cX0_run 10 = .ok (.istore 5, 2) := by decide +kernel
theorem dX0_run_12 : decode cX0_run 12 = .ok (.iconst 0, 1) := by decide +kernel
theorem dX0_run_13 : decode cX0_run 13 = .ok (.istore 6, 2) := by decide +kernel
theorem dX0_run_15 : decode cX0_run 15 = .ok (.iload 6, 2) := by decide +kernel
theorem dX0_run_17 : decode cX0_run 17 = .ok (.bipush 7, 2) := by decide +kernel
theorem dX0_run_19 : decode cX0_run 19 = .ok (.if_icmp .ge 30, 3) := by decide +kernel
theorem dX0_run_22 : decode cX0_run 22 = .ok (.getstatic 44, 3) := by decide +kernel
theorem dX0_run_25 : decode cX0_run 25 = .ok (.iload 5, 2) := by decide +kernel
theorem dX0_run_27 : decode cX0_run 27 = .ok (.iconst 3, 1) := by decide +kernel
theorem dX0_run_28 : decode cX0_run 28 = .ok (.imul, 1) := by decide +kernel
theorem dX0_run_29 : decode cX0_run 29 = .ok (.iload_n 1, 1) := by decide +kernel
theorem dX0_run_30 : decode cX0_run 30 = .ok (.iadd, 1) := by decide +kernel
theorem dX0_run_31 : decode cX0_run 31 = .ok (.iaload, 1) := by decide +kernel
theorem dX0_run_32 : decode cX0_run 32 = .ok (.ifCond .ne 17, 3) := by decide +kernel
theorem dX0_run_35 : decode cX0_run 35 = .ok (.getstatic 47, 3) := by decide +kernel
theorem dX0_run_38 : decode cX0_run 38 = .ok (.iload 5, 2) := by decide +kernel
theorem dX0_run_40 : decode cX0_run 40 = .ok (.iaload, 1) := by decide +kernel
theorem dX0_run_41 : decode cX0_run 41 = .ok (.istore 5, 2) := by decide +kernel
theorem dX0_run_43 : decode cX0_run 43 = .ok (.iinc 6 1, 3) := by decide +kernel
theorem dX0_run_46 : decode cX0_run 46 = .ok (.goto (-31), 3) := by decide +kernel
theorem dX0_run_49 : decode cX0_run 49 = .ok (.getstatic 44, 3) := by decide +kernel
theorem dX0_run_52 : decode cX0_run 52 = .ok (.iload 5, 2) := by decide +kernel
theorem dX0_run_54 : decode cX0_run 54 = .ok (.iconst 3, 1) := by decide +kernel
theorem dX0_run_55 : decode cX0_run 55 = .ok (.imul, 1) := by decide +kernel
theorem dX0_run_56 : decode cX0_run 56 = .ok (.iload_n 1, 1) := by decide +kernel
theorem dX0_run_57 : decode cX0_run 57 = .ok (.iadd, 1) := by decide +kernel
theorem dX0_run_58 : decode cX0_run 58 = .ok (.iaload, 1) := by decide +kernel
theorem dX0_run_59 : decode cX0_run 59 = .ok (.istore 6, 2) := by decide +kernel
theorem dX0_run_61 : decode cX0_run 61 = .ok (.aload_n 0, 1) := by decide +kernel
theorem dX0_run_62 : decode cX0_run 62 = .ok (.iload 6, 2) := by decide +kernel
theorem dX0_run_64 : decode cX0_run 64 = .ok (.invokevirtual 50, 3) := by decide +kernel
theorem dX0_run_67 : decode cX0_run 67 = .ok (.iload 6, 2) := by decide +kernel
theorem dX0_run_69 : decode cX0_run 69 = .ok (.lookupswitch 236 #[(1, 75), (2, 82), (3, 102), (11, 119), (21, 138), (31, 156), (41, 176), (51, 214)], 75) := by decide +kernel
theorem dX0_run_144 : decode cX0_run 144 = .ok (.iload_n 3, 1) := by decide +kernel
theorem dX0_run_145 : decode cX0_run 145 = .ok (.aload_n 0, 1) := by decide +kernel
theorem dX0_run_146 : decode cX0_run 146 = .ok (.getfield 25, 3) := by decide +kernel
theorem dX0_run_149 : decode cX0_run 149 = .ok (.iadd, 1) := by decide +kernel
theorem dX0_run_150 : decode cX0_run 150 = .ok (.ireturn, 1) := by decide +kernel
theorem dX0_run_151 : decode cX0_run 151 = .ok (.aload_n 0, 1) := by decide +kernel
theorem dX0_run_152 : decode cX0_run 152 = .ok (.iconst 0, 1) := by decide +kernel
theorem dX0_run_153 : decode cX0_run 153 = .ok (.aload_n 0, 1) := by decide +kernel
theorem dX0_run_154 : decode cX0_run 154 = .ok (.getfield 19, 3) := by decide +kernel
theorem dX0_run_157 : decode cX0_run 157 = .ok (.iload_n 3, 1) := by decide +kernel
theorem dX0_run_158 : decode cX0_run 158 = .ok (.iload 4, 2) := by decide +kernel
theorem dX0_run_160 : decode cX0_run 160 = .ok (.iconst 1, 1) := by decide +kernel
theorem dX0_run_161 : decode cX0_run 161 = .ok (.iadd, 1) := by decide +kernel
theorem dX0_run_162 : decode cX0_run 162 = .ok (.invokevirtual 40, 3) := by decide +kernel
theorem dX0_run_165 : decode cX0_run 165 = .ok (.aload_n 0, 1) := by decide +kernel
theorem dX0_run_166 : decode cX0_run 166 = .ok (.getfield 22, 3) := by decide +kernel
theorem dX0_run_169 : decode cX0_run 169 = .ok (.isub, 1) := by decide +kernel
theorem dX0_run_170 : decode cX0_run 170 = .ok (.ireturn, 1) := by decide +kernel
theorem dX0_run_171 : decode cX0_run 171 = .ok (.aload_n 0, 1) := by decide +kernel
theorem dX0_run_172 : decode cX0_run 172 = .ok (.iconst 1, 1) := by decide +kernel
theorem dX0_run_173 : decode cX0_run 173 = .ok (.aload_n 0, 1) := by decide +kernel
theorem dX0_run_174 : decode cX0_run 174 = .ok (.getfield 19, 3) := by decide +kernel
theorem dX0_run_177 : decode cX0_run 177 = .ok (.iload_n 3, 1) := by decide +kernel
theorem dX0_run_178 : decode cX0_run 178 = .ok (.iload 4, 2) := by decide +kernel
theorem dX0_run_180 : decode cX0_run 180 = .ok (.iconst 1, 1) := by decide +kernel
theorem dX0_run_181 : decode cX0_run 181 = .ok (.iadd, 1) := by decide +kernel
theorem dX0_run_182 : decode cX0_run 182 = .ok (.invokevirtual 40, 3) := by decide +kernel
theorem dX0_run_185 : decode cX0_run 185 = .ok (.iconst 2, 1) := by decide +kernel
theorem dX0_run_186 : decode cX0_run 186 = .ok (.imul, 1) := by decide +kernel
theorem dX0_run_187 : decode cX0_run 187 = .ok (.ireturn, 1) := by decide +kernel
theorem dX0_run_188 : decode cX0_run 188 = .ok (.aload_n 0, 1) := by decide +kernel
theorem dX0_run_189 : decode cX0_run 189 = .ok (.iconst 0, 1) := by decide +kernel
theorem dX0_run_190 : decode cX0_run 190 = .ok (.getstatic 47, 3) := by decide +kernel
theorem dX0_run_193 : decode cX0_run 193 = .ok (.iload 5, 2) := by decide +kernel
theorem dX0_run_195 : decode cX0_run 195 = .ok (.iaload, 1) := by decide +kernel
theorem dX0_run_196 : decode cX0_run 196 = .ok (.iload_n 3, 1) := by decide +kernel
theorem dX0_run_197 : decode cX0_run 197 = .ok (.iconst 3, 1) := by decide +kernel
theorem dX0_run_198 : decode cX0_run 198 = .ok (.imul, 1) := by decide +kernel
theorem dX0_run_199 : decode cX0_run 199 = .ok (.iload 4, 2) := by decide +kernel
theorem dX0_run_201 : decode cX0_run 201 = .ok (.iconst 1, 1) := by decide +kernel
theorem dX0_run_202 : decode cX0_run 202 = .ok (.iadd, 1) := by decide +kernel
theorem dX0_run_203 : decode cX0_run 203 = .ok (.invokevirtual 40, 3) := by decide +kernel
theorem dX0_run_206 : decode cX0_run 206 = .ok (.ireturn, 1) := by decide +kernel
theorem dX0_run_207 : decode cX0_run 207 = .ok (.aload_n 0, 1) := by decide +kernel
theorem dX0_run_208 : decode cX0_run 208 = .ok (.iconst 1, 1) := by decide +kernel
theorem dX0_run_209 : decode cX0_run 209 = .ok (.getstatic 47, 3) := by decide +kernel
theorem dX0_run_212 : decode cX0_run 212 = .ok (.iload 5, 2) := by decide +kernel
theorem dX0_run_214 : decode cX0_run 214 = .ok (.iaload, 1) := by decide +kernel
theorem dX0_run_215 : decode cX0_run 215 = .ok (.iload_n 3, 1) := by decide +kernel
theorem dX0_run_216 : decode cX0_run 216 = .ok (.iload 4, 2) := by decide +kernel
theorem dX0_run_218 : decode cX0_run 218 = .ok (.iconst 1, 1) := by decide +kernel
theorem dX0_run_219 : decode cX0_run 219 = .ok (.iadd, 1) := by decide +kernel
theorem dX0_run_220 : decode cX0_run 220 = .ok (.invokevirtual 40, 3) := by decide +kernel
theorem dX0_run_223 : decode cX0_run 223 = .ok (.ineg, 1) := by decide +kernel
theorem dX0_run_224 : decode cX0_run 224 = .ok (.ireturn, 1) := by decide +kernel
theorem dX0_run_225 : decode cX0_run 225 = .ok (.aload_n 0, 1) := by decide +kernel
theorem dX0_run_226 : decode cX0_run 226 = .ok (.iconst 2, 1) := by decide +kernel
theorem dX0_run_227 : decode cX0_run 227 = .ok (.getstatic 47, 3) := by decide +kernel
theorem dX0_run_230 : decode cX0_run 230 = .ok (.iload 5, 2) := by decide +kernel
theorem dX0_run_232 : decode cX0_run 232 = .ok (.iaload, 1) := by decide +kernel
theorem dX0_run_233 : decode cX0_run 233 = .ok (.iload_n 3, 1) := by decide +kernel
theorem dX0_run_234 : decode cX0_run 234 = .ok (.iload 4, 2) := by decide +kernel
theorem dX0_run_236 : decode cX0_run 236 = .ok (.iconst 1, 1) := by decide +kernel
theorem dX0_run_237 : decode cX0_run 237 = .ok (.iadd, 1) := by decide +kernel
theorem dX0_run_238 : decode cX0_run 238 = .ok (.invokevirtual 40, 3) := by decide +kernel
theorem dX0_run_241 : decode cX0_run 241 = .ok (.bipush 7, 2) := by decide +kernel
theorem dX0_run_243 : decode cX0_run 243 = .ok (.ixor, 1) := by decide +kernel
theorem dX0_run_244 : decode cX0_run 244 = .ok (.ireturn, 1) := by decide +kernel
theorem dX0_run_245 : decode cX0_run 245 = .ok (.aload_n 0, 1) := by decide +kernel
theorem dX0_run_246 : decode cX0_run 246 = .ok (.iconst 2, 1) := by decide +kernel
theorem dX0_run_247 : decode cX0_run 247 = .ok (.getstatic 47, 3) := by decide +kernel
theorem dX0_run_250 : decode cX0_run 250 = .ok (.iload 5, 2) := by decide +kernel
theorem dX0_run_252 : decode cX0_run 252 = .ok (.iaload, 1) := by decide +kernel
theorem dX0_run_253 : decode cX0_run 253 = .ok (.iload_n 3, 1) := by decide +kernel
theorem dX0_run_254 : decode cX0_run 254 = .ok (.iconst 1, 1) := by decide +kernel
theorem dX0_run_255 : decode cX0_run 255 = .ok (.isub, 1) := by decide +kernel
theorem dX0_run_256 : decode cX0_run 256 = .ok (.iload 4, 2) := by decide +kernel
theorem dX0_run_258 : decode cX0_run 258 = .ok (.iconst 1, 1) := by decide +kernel
theorem dX0_run_259 : decode cX0_run 259 = .ok (.iadd, 1) := by decide +kernel
theorem dX0_run_260 : decode cX0_run 260 = .ok (.invokevirtual 40, 3) := by decide +kernel
theorem dX0_run_263 : decode cX0_run 263 = .ok (.istore 7, 2) := by decide +kernel
theorem dX0_run_265 : decode cX0_run 265 = .ok (.iload 7, 2) := by decide +kernel
theorem dX0_run_267 : decode cX0_run 267 = .ok (.aload_n 0, 1) := by decide +kernel
theorem dX0_run_268 : decode cX0_run 268 = .ok (.iconst 0, 1) := by decide +kernel
theorem dX0_run_269 : decode cX0_run 269 = .ok (.aload_n 0, 1) := by decide +kernel
theorem dX0_run_270 : decode cX0_run 270 = .ok (.getfield 19, 3) := by decide +kernel
theorem dX0_run_273 : decode cX0_run 273 = .ok (.iconst 2, 1) := by decide +kernel
theorem dX0_run_274 : decode cX0_run 274 = .ok (.iload 4, 2) := by decide +kernel
theorem dX0_run_276 : decode cX0_run 276 = .ok (.iconst 1, 1) := by decide +kernel
theorem dX0_run_277 : decode cX0_run 277 = .ok (.iadd, 1) := by decide +kernel
theorem dX0_run_278 : decode cX0_run 278 = .ok (.invokevirtual 40, 3) := by decide +kernel
theorem dX0_run_281 : decode cX0_run 281 = .ok (.iadd, 1) := by decide +kernel
theorem dX0_run_282 : decode cX0_run 282 = .ok (.ireturn, 1) := by decide +kernel
theorem dX0_run_283 : decode cX0_run 283 = .ok (.aload_n 0, 1) := by decide +kernel
theorem dX0_run_284 : decode cX0_run 284 = .ok (.iconst 0, 1) := by decide +kernel
theorem dX0_run_285 : decode cX0_run 285 = .ok (.getstatic 47, 3) := by decide +kernel
theorem dX0_run_288 : decode cX0_run 288 = .ok (.iload 5, 2) := by decide +kernel
theorem dX0_run_290 : decode cX0_run 290 = .ok (.iaload, 1) := by decide +kernel
theorem dX0_run_291 : decode cX0_run 291 = .ok (.iload_n 3, 1) := by decide +kernel
theorem dX0_run_292 : decode cX0_run 292 = .ok (.iload 4, 2) := by decide +kernel
theorem dX0_run_294 : decode cX0_run 294 = .ok (.iconst 1, 1) := by decide +kernel
theorem dX0_run_295 : decode cX0_run 295 = .ok (.iadd, 1) := by decide +kernel
theorem dX0_run_296 : decode cX0_run 296 = .ok (.invokevirtual 40, 3) := by decide +kernel
theorem dX0_run_299 : decode cX0_run 299 = .ok (.aload_n 0, 1) := by decide +kernel
theorem dX0_run_300 : decode cX0_run 300 = .ok (.getfield 25, 3) := by decide +kernel
theorem dX0_run_303 : decode cX0_run 303 = .ok (.ixor, 1) := by decide +kernel
theorem dX0_run_304 : decode cX0_run 304 = .ok (.ireturn, 1) := by decide +kernel
theorem dX0_run_305 : decode cX0_run 305 = .ok (.aload_n 0, 1) := by decide +kernel
theorem dX0_run_306 : decode cX0_run 306 = .ok (.iconst 1, 1) := by decide +kernel
theorem dX0_run_307 : decode cX0_run 307 = .ok (.getstatic 47, 3) := by decide +kernel
theorem dX0_run_310 : decode cX0_run 310 = .ok (.iload 5, 2) := by decide +kernel
theorem dX0_run_312 : decode cX0_run 312 = .ok (.iaload, 1) := by decide +kernel
theorem dX0_run_313 : decode cX0_run 313 = .ok (.iload_n 3, 1) := by decide +kernel
theorem dX0_run_314 : decode cX0_run 314 = .ok (.iload 4, 2) := by decide +kernel
theorem dX0_run_316 : decode cX0_run 316 = .ok (.iconst 1, 1) := by decide +kernel
theorem dX0_run_317 : decode cX0_run 317 = .ok (.iadd, 1) := by decide +kernel
theorem dX0_run_318 : decode cX0_run 318 = .ok (.invokevirtual 40, 3) := by decide +kernel
theorem dX0_run_321 : decode cX0_run 321 = .ok (.aload_n 0, 1) := by decide +kernel
theorem dX0_run_322 : decode cX0_run 322 = .ok (.getfield 22, 3) := by decide +kernel
theorem dX0_run_325 : decode cX0_run 325 = .ok (.iadd, 1) := by decide +kernel
theorem dX0_run_326 : decode cX0_run 326 = .ok (.ireturn, 1) := by decide +kernel
theorem dX0_start_0 : decode cX0_start 0 = .ok (.aload_n 0, 1) := by decide +kernel
theorem dX0_start_1 : decode cX0_start 1 = .ok (.aload_n 1, 1) := by decide +kernel
theorem dX0_start_2 : decode cX0_start 2 = .ok (.getfield 34, 3) := by decide +kernel
theorem dX0_start_5 : decode cX0_start 5 = .ok (.iload_n 2, 1) := by decide +kernel
theorem dX0_start_6 : decode cX0_start 6 = .ok (.iaload, 1) := by decide +kernel
theorem dX0_start_7 : decode cX0_start 7 = .ok (.putfield 19, 3) := by decide +kernel
theorem dX0_start_10 : decode cX0_start 10 = .ok (.aload_n 0, 1) := by decide +kernel
theorem dX0_start_11 : decode cX0_start 11 = .ok (.aload_n 1, 1) := by decide +kernel
theorem dX0_start_12 : decode cX0_start 12 = .ok (.getfield 38, 3) := by decide +kernel
theorem dX0_start_15 : decode cX0_start 15 = .ok (.iload_n 2, 1) := by decide +kernel
theorem dX0_start_16 : decode cX0_start 16 = .ok (.iaload, 1) := by decide +kernel
theorem dX0_start_17 : decode cX0_start 17 = .ok (.putfield 22, 3) := by decide +kernel
theorem dX0_start_20 : decode cX0_start 20 = .ok (.aload_n 0, 1) := by decide +kernel
theorem dX0_start_21 : decode cX0_start 21 = .ok (.iload_n 2, 1) := by decide +kernel
theorem dX0_start_22 : decode cX0_start 22 = .ok (.putfield 25, 3) := by decide +kernel
theorem dX0_start_25 : decode cX0_start 25 = .ok (.aload_n 0, 1) := by decide +kernel
theorem dX0_start_26 : decode cX0_start 26 = .ok (.iload_n 3, 1) := by decide +kernel
theorem dX0_start_27 : decode cX0_start 27 = .ok (.aload_n 0, 1) := by decide +kernel
theorem dX0_start_28 : decode cX0_start 28 = .ok (.getfield 19, 3) := by decide +kernel
theorem dX0_start_31 : decode cX0_start 31 = .ok (.iload 4, 2) := by decide +kernel
theorem dX0_start_33 : decode cX0_start 33 = .ok (.iconst 0, 1) := by decide +kernel
theorem dX0_start_34 : decode cX0_start 34 = .ok (.invokevirtual 40, 3) := by decide +kernel
theorem dX0_start_37 : decode cX0_start 37 = .ok (.ireturn, 1) := by decide +kernel
theorem dX1_cellsLainOn_0 : decode cX1_cellsLainOn 0 = .ok (.iconst 0, 1) := by decide +kernel
theorem dX1_cellsLainOn_1 : decode cX1_cellsLainOn 1 = .ok (.istore_n 1, 1) := by decide +kernel
theorem dX1_cellsLainOn_2 : decode cX1_cellsLainOn 2 = .ok (.iconst 0, 1) := by decide +kernel
theorem dX1_cellsLainOn_3 : decode cX1_cellsLainOn 3 = .ok (.istore_n 2, 1) := by decide +kernel
theorem dX1_cellsLainOn_4 : decode cX1_cellsLainOn 4 = .ok (.iload_n 2, 1) := by decide +kernel
theorem dX1_cellsLainOn_5 : decode cX1_cellsLainOn 5 = .ok (.bipush 16, 2) := by decide +kernel
theorem dX1_cellsLainOn_7 : decode cX1_cellsLainOn 7 = .ok (.if_icmp .ge 26, 3) := by decide +kernel
theorem dX1_cellsLainOn_10 : decode cX1_cellsLainOn 10 = .ok (.iload_n 1, 1) := by decide +kernel
theorem dX1_cellsLainOn_11 : decode cX1_cellsLainOn 11 = .ok (.aload_n 0, 1) := by decide +kernel
theorem dX1_cellsLainOn_12 : decode cX1_cellsLainOn 12 = .ok (.getfield 9, 3) := by decide +kernel
theorem dX1_cellsLainOn_15 : decode cX1_cellsLainOn 15 = .ok (.iload_n 2, 1) := by decide +kernel
theorem dX1_cellsLainOn_16 : decode cX1_cellsLainOn 16 = .ok (.iaload, 1) := by decide +kernel
theorem dX1_cellsLainOn_17 : decode cX1_cellsLainOn 17 = .ok (.ifCond .le 7, 3) := by decide +kernel
theorem dX1_cellsLainOn_20 : decode cX1_cellsLainOn 20 = .ok (.iconst 1, 1) := by decide +kernel
theorem dX1_cellsLainOn_21 : decode cX1_cellsLainOn 21 = .ok (.goto 4, 3) := by decide +kernel
theorem dX1_cellsLainOn_24 : decode cX1_cellsLainOn 24 = .ok (.iconst 0, 1) := by decide +kernel
theorem dX1_cellsLainOn_25 : decode cX1_cellsLainOn 25 = .ok (.iadd, 1) := by decide +kernel
theorem dX1_cellsLainOn_26 : decode cX1_cellsLainOn 26 = .ok (.istore_n 1, 1) := by decide +kernel
theorem dX1_cellsLainOn_27 : decode cX1_cellsLainOn 27 = .ok (.iinc 2 1, 3) := by decide +kernel
theorem dX1_cellsLainOn_30 : decode cX1_cellsLainOn 30 = .ok (.goto (-26), 3) := by decide +kernel
theorem dX1_cellsLainOn_33 : decode cX1_cellsLainOn 33 = .ok (.iload_n 1, 1) := by decide +kernel
theorem dX1_cellsLainOn_34 : decode cX1_cellsLainOn 34 = .ok (.ireturn, 1) := by decide +kernel
theorem dX1_copyFrom_0 : decode cX1_copyFrom 0 = .ok (.aload_n 1, 1) := by decide +kernel
theorem dX1_copyFrom_1 : decode cX1_copyFrom 1 = .ok (.getfield 9, 3) := by decide +kernel
theorem dX1_copyFrom_4 : decode cX1_copyFrom 4 = .ok (.iconst 0, 1) := by decide +kernel
theorem dX1_copyFrom_5 : decode cX1_copyFrom 5 = .ok (.aload_n 0, 1) := by decide +kernel
theorem dX1_copyFrom_6 : decode cX1_copyFrom 6 = .ok (.getfield 9, 3) := by decide +kernel
theorem dX1_copyFrom_9 : decode cX1_copyFrom 9 = .ok (.iconst 0, 1) := by decide +kernel
theorem dX1_copyFrom_10 : decode cX1_copyFrom 10 = .ok (.bipush 16, 2) := by decide +kernel
theorem dX1_copyFrom_12 : decode cX1_copyFrom 12 = .ok (.invokestatic 22, 3) := by decide +kernel
theorem dX1_copyFrom_15 : decode cX1_copyFrom 15 = .ok (.aload_n 0, 1) := by decide +kernel
theorem dX1_copyFrom_16 : decode cX1_copyFrom 16 = .ok (.aload_n 1, 1) := by decide +kernel
theorem dX1_copyFrom_17 : decode cX1_copyFrom 17 = .ok (.getfield 15, 3) := by decide +kernel
theorem dX1_copyFrom_20 : decode cX1_copyFrom 20 = .ok (.putfield 15, 3) := by decide +kernel
theorem dX1_copyFrom_23 : decode cX1_copyFrom 23 = .ok (.aload_n 0, 1) := by decide +kernel
theorem dX1_copyFrom_24 : decode cX1_copyFrom 24 = .ok (.aload_n 1, 1) := by decide +kernel
theorem dX1_copyFrom_25 : decode cX1_copyFrom 25 = .ok (.getfield 19, 3) := by decide +kernel
theorem dX1_copyFrom_28 : decode cX1_copyFrom 28 = .ok (.putfield 19, 3) := by decide +kernel
theorem dX1_copyFrom_31 : decode cX1_copyFrom 31 = .ok (.return_, 1) := by decide +kernel
theorem dX3_add_0 : decode cX3_add 0 = .ok (.aload_n 0, 1) := by decide +kernel
theorem dX3_add_1 : decode cX3_add 1 = .ok (.getfield 28, 3) := by decide +kernel
theorem dX3_add_4 : decode cX3_add 4 = .ok (.bipush 6, 2) := by decide +kernel
theorem dX3_add_6 : decode cX3_add 6 = .ok (.if_icmp .lt 6, 3) := by decide +kernel
theorem dX3_add_9 : decode cX3_add 9 = .ok (.bipush (-4), 2) := by decide +kernel
theorem dX3_add_11 : decode cX3_add 11 = .ok (.ireturn, 1) := by decide +kernel
theorem dX3_add_12 : decode cX3_add 12 = .ok (.aload_n 0, 1) := by decide +kernel
theorem dX3_add_13 : decode cX3_add 13 = .ok (.getfield 9, 3) := by decide +kernel
theorem dX3_add_16 : decode cX3_add 16 = .ok (.aload_n 0, 1) := by decide +kernel
theorem dX3_add_17 : decode cX3_add 17 = .ok (.getfield 28, 3) := by decide +kernel
theorem dX3_add_20 : decode cX3_add 20 = .ok (.iload_n 1, 1) := by decide +kernel
theorem dX3_add_21 : decode cX3_add 21 = .ok (.iastore, 1) := by decide +kernel
theorem dX3_add_22 : decode cX3_add 22 = .ok (.aload_n 0, 1) := by decide +kernel
theorem dX3_add_23 : decode cX3_add 23 = .ok (.getfield 15, 3) := by decide +kernel
theorem dX3_add_26 : decode cX3_add 26 = .ok (.aload_n 0, 1) := by decide +kernel
theorem dX3_add_27 : decode cX3_add 27 = .ok (.getfield 28, 3) := by decide +kernel
theorem dX3_add_30 : decode cX3_add 30 = .ok (.iload_n 2, 1) := by decide +kernel
theorem dX3_add_31 : decode cX3_add 31 = .ok (.iastore, 1) := by decide +kernel
theorem dX3_add_32 : decode cX3_add 32 = .ok (.aload_n 0, 1) := by decide +kernel
theorem dX3_add_33 : decode cX3_add 33 = .ok (.getfield 18, 3) := by decide +kernel
theorem dX3_add_36 : decode cX3_add 36 = .ok (.aload_n 0, 1) := by decide +kernel
theorem dX3_add_37 : decode cX3_add 37 = .ok (.getfield 28, 3) := by decide +kernel
theorem dX3_add_40 : decode cX3_add 40 = .ok (.iload_n 3, 1) := by decide +kernel
theorem dX3_add_41 : decode cX3_add 41 = .ok (.iastore, 1) := by decide +kernel
theorem dX3_add_42 : decode cX3_add 42 = .ok (.aload_n 0, 1) := by decide +kernel
theorem dX3_add_43 : decode cX3_add 43 = .ok (.aload_n 0, 1) := by decide +kernel
theorem dX3_add_44 : decode cX3_add 44 = .ok (.getfield 28, 3) := by decide +kernel
theorem dX3_add_47 : decode cX3_add 47 = .ok (.iconst 0, 1) := by decide +kernel
theorem dX3_add_48 : decode cX3_add 48 = .ok (.invokevirtual 31, 3) := by decide +kernel
theorem dX3_add_51 : decode cX3_add 51 = .ok (.iconst 0, 1) := by decide +kernel
theorem dX3_add_52 : decode cX3_add 52 = .ok (.istore 4, 2) := by decide +kernel
theorem dX3_add_54 : decode cX3_add 54 = .ok (.iload 4, 2) := by decide +kernel
theorem dX3_add_56 : decode cX3_add 56 = .ok (.iconst 4, 1) := by decide +kernel
theorem dX3_add_57 : decode cX3_add 57 = .ok (.if_icmp .ge 24, 3) := by decide +kernel
theorem dX3_add_60 : decode cX3_add 60 = .ok (.aload_n 0, 1) := by decide +kernel
theorem dX3_add_61 : decode cX3_add 61 = .ok (.getfield 21, 3) := by decide +kernel
theorem dX3_add_64 : decode cX3_add 64 = .ok (.aload_n 0, 1) := by decide +kernel
theorem dX3_add_65 : decode cX3_add 65 = .ok (.getfield 28, 3) := by decide +kernel
theorem dX3_add_68 : decode cX3_add 68 = .ok (.iconst 4, 1) := by decide +kernel
theorem dX3_add_69 : decode cX3_add 69 = .ok (.imul, 1) := by decide +kernel
theorem dX3_add_70 : decode cX3_add 70 = .ok (.iload 4, 2) := by decide +kernel
theorem dX3_add_72 : decode cX3_add 72 = .ok (.iadd, 1) := by decide +kernel
theorem dX3_add_73 : decode cX3_add 73 = .ok (.iconst 0, 1) := by decide +kernel
theorem dX3_add_74 : decode cX3_add 74 = .ok (.iastore, 1) := by decide +kernel
theorem dX3_add_75 : decode cX3_add 75 = .ok (.iinc 4 1, 3) := by decide +kernel
theorem dX3_add_78 : decode cX3_add 78 = .ok (.goto (-24), 3) := by decide +kernel
theorem dX3_add_81 : decode cX3_add 81 = .ok (.aload_n 0, 1) := by decide +kernel
theorem dX3_add_82 : decode cX3_add 82 = .ok (.dup, 1) := by decide +kernel
theorem dX3_add_83 : decode cX3_add 83 = .ok (.getfield 28, 3) := by decide +kernel
theorem dX3_add_86 : decode cX3_add 86 = .ok (.iconst 1, 1) := by decide +kernel
theorem dX3_add_87 : decode cX3_add 87 = .ok (.iadd, 1) := by decide +kernel
theorem dX3_add_88 : decode cX3_add 88 = .ok (.putfield 28, 3) := by decide +kernel
theorem dX3_add_91 : decode cX3_add 91 = .ok (.aload_n 0, 1) := by decide +kernel
theorem dX3_add_92 : decode cX3_add 92 = .ok (.getfield 28, 3) := by decide +kernel
theorem dX3_add_95 : decode cX3_add 95 = .ok (.iconst 1, 1) := by decide +kernel
theorem dX3_add_96 : decode cX3_add 96 = .ok (.isub, 1) := by decide +kernel
theorem dX3_add_97 : decode cX3_add 97 = .ok (.ireturn, 1) := by decide +kernel
theorem dX3_copyFrom_0 : decode cX3_copyFrom 0 = .ok (.aload_n 1, 1) := by decide +kernel
theorem dX3_copyFrom_1 : decode cX3_copyFrom 1 = .ok (.getfield 9, 3) := by decide +kernel
theorem dX3_copyFrom_4 : decode cX3_copyFrom 4 = .ok (.iconst 0, 1) := by decide +kernel
theorem dX3_copyFrom_5 : decode cX3_copyFrom 5 = .ok (.aload_n 0, 1) := by decide +kernel
theorem dX3_copyFrom_6 : decode cX3_copyFrom 6 = .ok (.getfield 9, 3) := by decide +kernel
theorem dX3_copyFrom_9 : decode cX3_copyFrom 9 = .ok (.iconst 0, 1) := by decide +kernel
theorem dX3_copyFrom_10 : decode cX3_copyFrom 10 = .ok (.bipush 6, 2) := by decide +kernel
theorem dX3_copyFrom_12 : decode cX3_copyFrom 12 = .ok (.invokestatic 35, 3) := by decide +kernel
theorem dX3_copyFrom_15 : decode cX3_copyFrom 15 = .ok (.aload_n 1, 1) := by decide +kernel
theorem dX3_copyFrom_16 : decode cX3_copyFrom 16 = .ok (.getfield 15, 3) := by decide +kernel
theorem dX3_copyFrom_19 : decode cX3_copyFrom 19 = .ok (.iconst 0, 1) := by decide +kernel
theorem dX3_copyFrom_20 : decode cX3_copyFrom 20 = .ok (.aload_n 0, 1) := by decide +kernel
theorem dX3_copyFrom_21 : decode cX3_copyFrom 21 = .ok (.getfield 15, 3) := by decide +kernel
theorem dX3_copyFrom_24 : decode cX3_copyFrom 24 = .ok (.iconst 0, 1) := by decide +kernel
theorem dX3_copyFrom_25 : decode cX3_copyFrom 25 = .ok (.bipush 6, 2) := by decide +kernel
theorem dX3_copyFrom_27 : decode cX3_copyFrom 27 = .ok (.invokestatic 35, 3) := by decide +kernel
theorem dX3_copyFrom_30 : decode cX3_copyFrom 30 = .ok (.aload_n 1, 1) := by decide +kernel
theorem dX3_copyFrom_31 : decode cX3_copyFrom 31 = .ok (.getfield 18, 3) := by decide +kernel
theorem dX3_copyFrom_34 : decode cX3_copyFrom 34 = .ok (.iconst 0, 1) := by decide +kernel
theorem dX3_copyFrom_35 : decode cX3_copyFrom 35 = .ok (.aload_n 0, 1) := by decide +kernel
theorem dX3_copyFrom_36 : decode cX3_copyFrom 36 = .ok (.getfield 18, 3) := by decide +kernel
theorem dX3_copyFrom_39 : decode cX3_copyFrom 39 = .ok (.iconst 0, 1) := by decide +kernel
theorem dX3_copyFrom_40 : decode cX3_copyFrom 40 = .ok (.bipush 6, 2) := by decide +kernel
theorem dX3_copyFrom_42 : decode cX3_copyFrom 42 = .ok (.invokestatic 35, 3) := by decide +kernel
theorem dX3_copyFrom_45 : decode cX3_copyFrom 45 = .ok (.aload_n 1, 1) := by decide +kernel
theorem dX3_copyFrom_46 : decode cX3_copyFrom 46 = .ok (.getfield 21, 3) := by decide +kernel
theorem dX3_copyFrom_49 : decode cX3_copyFrom 49 = .ok (.iconst 0, 1) := by decide +kernel
theorem dX3_copyFrom_50 : decode cX3_copyFrom 50 = .ok (.aload_n 0, 1) := by decide +kernel
theorem dX3_copyFrom_51 : decode cX3_copyFrom 51 = .ok (.getfield 21, 3) := by decide +kernel
theorem dX3_copyFrom_54 : decode cX3_copyFrom 54 = .ok (.iconst 0, 1) := by decide +kernel
theorem dX3_copyFrom_55 : decode cX3_copyFrom 55 = .ok (.bipush 24, 2) := by decide +kernel
theorem dX3_copyFrom_57 : decode cX3_copyFrom 57 = .ok (.invokestatic 35, 3) := by decide +kernel
theorem dX3_copyFrom_60 : decode cX3_copyFrom 60 = .ok (.aload_n 0, 1) := by decide +kernel
theorem dX3_copyFrom_61 : decode cX3_copyFrom 61 = .ok (.aload_n 1, 1) := by decide +kernel
theorem dX3_copyFrom_62 : decode cX3_copyFrom 62 = .ok (.getfield 24, 3) := by decide +kernel
theorem dX3_copyFrom_65 : decode cX3_copyFrom 65 = .ok (.putfield 24, 3) := by decide +kernel
theorem dX3_copyFrom_68 : decode cX3_copyFrom 68 = .ok (.aload_n 0, 1) := by decide +kernel
theorem dX3_copyFrom_69 : decode cX3_copyFrom 69 = .ok (.aload_n 1, 1) := by decide +kernel
theorem dX3_copyFrom_70 : decode cX3_copyFrom 70 = .ok (.getfield 28, 3) := by decide +kernel
theorem dX3_copyFrom_73 : decode cX3_copyFrom 73 = .ok (.putfield 28, 3) := by decide +kernel
theorem dX3_copyFrom_76 : decode cX3_copyFrom 76 = .ok (.return_, 1) := by decide +kernel
theorem dX3_has_0 : decode cX3_has 0 = .ok (.iload_n 1, 1) := by decide +kernel
theorem dX3_has_1 : decode cX3_has 1 = .ok (.ifCond .lt 15, 3) := by decide +kernel
theorem dX3_has_4 : decode cX3_has 4 = .ok (.iload_n 1, 1) := by decide +kernel
theorem dX3_has_5 : decode cX3_has 5 = .ok (.aload_n 0, 1) := by decide +kernel
theorem dX3_has_6 : decode cX3_has 6 = .ok (.getfield 28, 3) := by decide +kernel
theorem dX3_has_9 : decode cX3_has 9 = .ok (.if_icmp .ge 7, 3) := by decide +kernel
theorem dX3_has_12 : decode cX3_has 12 = .ok (.iconst 1, 1) := by decide +kernel
theorem dX3_has_13 : decode cX3_has 13 = .ok (.goto 4, 3) := by decide +kernel
theorem dX3_has_16 : decode cX3_has 16 = .ok (.iconst 0, 1) := by decide +kernel
theorem dX3_has_17 : decode cX3_has 17 = .ok (.ireturn, 1) := by decide +kernel
theorem dX3_isAway_0 : decode cX3_isAway 0 = .ok (.aload_n 0, 1) := by decide +kernel
theorem dX3_isAway_1 : decode cX3_isAway 1 = .ok (.getfield 24, 3) := by decide +kernel
theorem dX3_isAway_4 : decode cX3_isAway 4 = .ok (.iload_n 1, 1) := by decide +kernel
theorem dX3_isAway_5 : decode cX3_isAway 5 = .ok (.ishr, 1) := by decide +kernel
theorem dX3_isAway_6 : decode cX3_isAway 6 = .ok (.iconst 1, 1) := by decide +kernel
theorem dX3_isAway_7 : decode cX3_isAway 7 = .ok (.iand, 1) := by decide +kernel
theorem dX3_isAway_8 : decode cX3_isAway 8 = .ok (.iconst 1, 1) := by decide +kernel
theorem dX3_isAway_9 : decode cX3_isAway 9 = .ok (.if_icmp .ne 7, 3) := by decide +kernel
theorem dX3_isAway_12 : decode cX3_isAway 12 = .ok (.iconst 1, 1) := by decide +kernel
theorem dX3_isAway_13 : decode cX3_isAway 13 = .ok (.goto 4, 3) := by decide +kernel
theorem dX3_isAway_16 : decode cX3_isAway 16 = .ok (.iconst 0, 1) := by decide +kernel
theorem dX3_isAway_17 : decode cX3_isAway 17 = .ok (.ireturn, 1) := by decide +kernel
theorem dX3_setAway_0 : decode cX3_setAway 0 = .ok (.aload_n 0, 1) := by decide +kernel
theorem dX3_setAway_1 : decode cX3_setAway 1 = .ok (.iload_n 2, 1) := by decide +kernel
theorem dX3_setAway_2 : decode cX3_setAway 2 = .ok (.ifCond .eq 14, 3) := by decide +kernel
theorem dX3_setAway_5 : decode cX3_setAway 5 = .ok (.aload_n 0, 1) := by decide +kernel
theorem dX3_setAway_6 : decode cX3_setAway 6 = .ok (.getfield 24, 3) := by decide +kernel
theorem dX3_setAway_9 : decode cX3_setAway 9 = .ok (.iconst 1, 1) := by decide +kernel
theorem dX3_setAway_10 : decode cX3_setAway 10 = .ok (.iload_n 1, 1) := by decide +kernel
theorem dX3_setAway_11 : decode cX3_setAway 11 = .ok (.ishl, 1) := by decide +kernel
theorem dX3_setAway_12 : decode cX3_setAway 12 = .ok (.ior, 1) := by decide +kernel
theorem dX3_setAway_13 : decode cX3_setAway 13 = .ok (.goto 13, 3) := by decide +kernel
theorem dX3_setAway_16 : decode cX3_setAway 16 = .ok (.aload_n 0, 1) := by decide +kernel
theorem dX3_setAway_17 : decode cX3_setAway 17 = .ok (.getfield 24, 3) := by decide +kernel
theorem dX3_setAway_20 : decode cX3_setAway 20 = .ok (.iconst 1, 1) := by decide +kernel
theorem dX3_setAway_21 : decode cX3_setAway 21 = .ok (.iload_n 1, 1) := by decide +kernel
theorem dX3_setAway_22 : decode cX3_setAway 22 = .ok (.ishl, 1) := by decide +kernel
theorem dX3_setAway_23 : decode cX3_setAway 23 = .ok (.iconst (-1), 1) := by decide +kernel
theorem dX3_setAway_24 : decode cX3_setAway 24 = .ok (.ixor, 1) := by decide +kernel
theorem dX3_setAway_25 : decode cX3_setAway 25 = .ok (.iand, 1) := by decide +kernel
theorem dX3_setAway_26 : decode cX3_setAway 26 = .ok (.putfield 24, 3) := by decide +kernel
theorem dX3_setAway_29 : decode cX3_setAway 29 = .ok (.return_, 1) := by decide +kernel
theorem dX5_add_0 : decode cX5_add 0 = .ok (.aload_n 0, 1) := by decide +kernel
theorem dX5_add_1 : decode cX5_add 1 = .ok (.getfield 9, 3) := by decide +kernel
theorem dX5_add_4 : decode cX5_add 4 = .ok (.aload_n 0, 1) := by decide +kernel
theorem dX5_add_5 : decode cX5_add 5 = .ok (.getfield 21, 3) := by decide +kernel
theorem dX5_add_8 : decode cX5_add 8 = .ok (.arraylength, 1) := by decide +kernel
theorem dX5_add_9 : decode cX5_add 9 = .ok (.if_icmp .ge 15, 3) := by decide +kernel
theorem dX5_add_12 : decode cX5_add 12 = .ok (.aload_n 0, 1) := by decide +kernel
theorem dX5_add_13 : decode cX5_add 13 = .ok (.getfield 9, 3) := by decide +kernel
theorem dX5_add_16 : decode cX5_add 16 = .ok (.aload_n 0, 1) := by decide +kernel
theorem dX5_add_17 : decode cX5_add 17 = .ok (.getfield 25, 3) := by decide +kernel
theorem dX5_add_20 : decode cX5_add 20 = .ok (.arraylength, 1) := by decide +kernel
theorem dX5_add_21 : decode cX5_add 21 = .ok (.if_icmp .lt 6, 3) := by decide +kernel
theorem dX5_add_24 : decode cX5_add 24 = .ok (.bipush (-4), 2) := by decide +kernel
theorem dX5_add_26 : decode cX5_add 26 = .ok (.ireturn, 1) := by decide +kernel
theorem dX5_add_27 : decode cX5_add 27 = .ok (.aload_n 0, 1) := by decide +kernel
theorem dX5_add_28 : decode cX5_add 28 = .ok (.getfield 21, 3) := by decide +kernel
theorem dX5_add_31 : decode cX5_add 31 = .ok (.aload_n 0, 1) := by decide +kernel
theorem dX5_add_32 : decode cX5_add 32 = .ok (.getfield 9, 3) := by decide +kernel
theorem dX5_add_35 : decode cX5_add 35 = .ok (.iload_n 1, 1) := by decide +kernel
theorem dX5_add_36 : decode cX5_add 36 = .ok (.iastore, 1) := by decide +kernel
theorem dX5_add_37 : decode cX5_add 37 = .ok (.aload_n 0, 1) := by decide +kernel
theorem dX5_add_38 : decode cX5_add 38 = .ok (.getfield 25, 3) := by decide +kernel
theorem dX5_add_41 : decode cX5_add 41 = .ok (.aload_n 0, 1) := by decide +kernel
theorem dX5_add_42 : decode cX5_add 42 = .ok (.getfield 9, 3) := by decide +kernel
theorem dX5_add_45 : decode cX5_add 45 = .ok (.iload_n 2, 1) := by decide +kernel
theorem dX5_add_46 : decode cX5_add 46 = .ok (.iastore, 1) := by decide +kernel
theorem dX5_add_47 : decode cX5_add 47 = .ok (.aload_n 0, 1) := by decide +kernel
theorem dX5_add_48 : decode cX5_add 48 = .ok (.dup, 1) := by decide +kernel
theorem dX5_add_49 : decode cX5_add 49 = .ok (.getfield 9, 3) := by decide +kernel
theorem dX5_add_52 : decode cX5_add 52 = .ok (.iconst 1, 1) := by decide +kernel
theorem dX5_add_53 : decode cX5_add 53 = .ok (.iadd, 1) := by decide +kernel
theorem dX5_add_54 : decode cX5_add 54 = .ok (.putfield 9, 3) := by decide +kernel
theorem dX5_add_57 : decode cX5_add 57 = .ok (.aload_n 0, 1) := by decide +kernel
theorem dX5_add_58 : decode cX5_add 58 = .ok (.getfield 9, 3) := by decide +kernel
theorem dX5_add_61 : decode cX5_add 61 = .ok (.ireturn, 1) := by decide +kernel
theorem dX5_clear_0 : decode cX5_clear 0 = .ok (.aload_n 0, 1) := by decide +kernel
theorem dX5_clear_1 : decode cX5_clear 1 = .ok (.iconst 0, 1) := by decide +kernel
theorem dX5_clear_2 : decode cX5_clear 2 = .ok (.putfield 9, 3) := by decide +kernel
theorem dX5_clear_5 : decode cX5_clear 5 = .ok (.iconst 0, 1) := by decide +kernel
theorem dX5_clear_6 : decode cX5_clear 6 = .ok (.ireturn, 1) := by decide +kernel
theorem dX5_copyFrom_0 : decode cX5_copyFrom 0 = .ok (.aload_n 0, 1) := by decide +kernel
theorem dX5_copyFrom_1 : decode cX5_copyFrom 1 = .ok (.invokevirtual 28, 3) := by decide +kernel
theorem dX5_copyFrom_4 : decode cX5_copyFrom 4 = .ok (.pop, 1) := by decide +kernel
theorem dX5_copyFrom_5 : decode cX5_copyFrom 5 = .ok (.iconst 0, 1) := by decide +kernel
theorem dX5_copyFrom_6 : decode cX5_copyFrom 6 = .ok (.istore_n 2, 1) := by decide +kernel
theorem dX5_copyFrom_7 : decode cX5_copyFrom 7 = .ok (.iload_n 2, 1) := by decide +kernel
theorem dX5_copyFrom_8 : decode cX5_copyFrom 8 = .ok (.aload_n 1, 1) := by decide +kernel
theorem dX5_copyFrom_9 : decode cX5_copyFrom 9 = .ok (.getfield 9, 3) := by decide +kernel
theorem dX5_copyFrom_12 : decode cX5_copyFrom 12 = .ok (.if_icmp .ge 26, 3) := by decide +kernel
theorem dX5_copyFrom_15 : decode cX5_copyFrom 15 = .ok (.aload_n 0, 1) := by decide +kernel
theorem dX5_copyFrom_16 : decode cX5_copyFrom 16 = .ok (.aload_n 1, 1) := by decide +kernel
theorem dX5_copyFrom_17 : decode cX5_copyFrom 17 = .ok (.getfield 21, 3) := by decide +kernel
theorem dX5_copyFrom_20 : decode cX5_copyFrom 20 = .ok (.iload_n 2, 1) := by decide +kernel
theorem dX5_copyFrom_21 : decode cX5_copyFrom 21 = .ok (.iaload, 1) := by decide +kernel
theorem dX5_copyFrom_22 : decode cX5_copyFrom 22 = .ok (.aload_n 1, 1) := by decide +kernel
theorem dX5_copyFrom_23 : decode cX5_copyFrom 23 = .ok (.getfield 25, 3) := by decide +kernel
theorem dX5_copyFrom_26 : decode cX5_copyFrom 26 = .ok (.iload_n 2, 1) := by decide +kernel
theorem dX5_copyFrom_27 : decode cX5_copyFrom 27 = .ok (.iaload, 1) := by decide +kernel
theorem dX5_copyFrom_28 : decode cX5_copyFrom 28 = .ok (.invokevirtual 32, 3) := by decide +kernel
theorem dX5_copyFrom_31 : decode cX5_copyFrom 31 = .ok (.pop, 1) := by decide +kernel
theorem dX5_copyFrom_32 : decode cX5_copyFrom 32 = .ok (.iinc 2 1, 3) := by decide +kernel
theorem dX5_copyFrom_35 : decode cX5_copyFrom 35 = .ok (.goto (-28), 3) := by decide +kernel
theorem dX5_copyFrom_38 : decode cX5_copyFrom 38 = .ok (.return_, 1) := by decide +kernel
theorem dX8_far_0 : decode cX8_far 0 = .ok (.iload_n 0, 1) := by decide +kernel
theorem dX8_far_1 : decode cX8_far 1 = .ok (.iconst 4, 1) := by decide +kernel
theorem dX8_far_2 : decode cX8_far 2 = .ok (.idiv, 1) := by decide +kernel
theorem dX8_far_3 : decode cX8_far 3 = .ok (.iload_n 1, 1) := by decide +kernel
theorem dX8_far_4 : decode cX8_far 4 = .ok (.iconst 4, 1) := by decide +kernel
theorem dX8_far_5 : decode cX8_far 5 = .ok (.idiv, 1) := by decide +kernel
theorem dX8_far_6 : decode cX8_far 6 = .ok (.isub, 1) := by decide +kernel
theorem dX8_far_7 : decode cX8_far 7 = .ok (.invokestatic 258, 3) := by decide +kernel
theorem dX8_far_10 : decode cX8_far 10 = .ok (.iload_n 0, 1) := by decide +kernel
theorem dX8_far_11 : decode cX8_far 11 = .ok (.iconst 4, 1) := by decide +kernel
theorem dX8_far_12 : decode cX8_far 12 = .ok (.irem, 1) := by decide +kernel
theorem dX8_far_13 : decode cX8_far 13 = .ok (.iload_n 1, 1) := by decide +kernel
theorem dX8_far_14 : decode cX8_far 14 = .ok (.iconst 4, 1) := by decide +kernel
theorem dX8_far_15 : decode cX8_far 15 = .ok (.irem, 1) := by decide +kernel
theorem dX8_far_16 : decode cX8_far 16 = .ok (.isub, 1) := by decide +kernel
theorem dX8_far_17 : decode cX8_far 17 = .ok (.invokestatic 258, 3) := by decide +kernel
theorem dX8_far_20 : decode cX8_far 20 = .ok (.iadd, 1) := by decide +kernel
theorem dX8_far_21 : decode cX8_far 21 = .ok (.ireturn, 1) := by decide +kernel
theorem dX8_inLowestTerms_0 : decode cX8_inLowestTerms 0 = .ok (.iload_n 1, 1) := by decide +kernel
theorem dX8_inLowestTerms_1 : decode cX8_inLowestTerms 1 = .ok (.istore_n 3, 1) := by decide +kernel
theorem dX8_inLowestTerms_2 : decode cX8_inLowestTerms 2 = .ok (.iload_n 0, 1) := by decide +kernel
theorem dX8_inLowestTerms_3 : decode cX8_inLowestTerms 3 = .ok (.istore 4, 2) := by decide +kernel
theorem dX8_inLowestTerms_5 : decode cX8_inLowestTerms 5 = .ok (.iconst 0, 1) := by decide +kernel
theorem dX8_inLowestTerms_6 : decode cX8_inLowestTerms 6 = .ok (.istore 5, 2) := by decide +kernel
theorem dX8_inLowestTerms_8 : decode cX8_inLowestTerms 8 = .ok (.iload 5, 2) := by decide +kernel
theorem dX8_inLowestTerms_10 : decode cX8_inLowestTerms 10 = .ok (.bipush 100, 2) := by decide +kernel
theorem dX8_inLowestTerms_12 : decode cX8_inLowestTerms 12 = .ok (.if_icmp .ge 27, 3) := by decide +kernel
theorem dX8_inLowestTerms_15 : decode cX8_inLowestTerms 15 = .ok (.iload 4, 2) := by decide +kernel
theorem dX8_inLowestTerms_17 : decode cX8_inLowestTerms 17 = .ok (.ifCond .eq 22, 3) := by decide +kernel
theorem dX8_inLowestTerms_20 : decode cX8_inLowestTerms 20 = .ok (.iload_n 3, 1) := by decide +kernel
theorem dX8_inLowestTerms_21 : decode cX8_inLowestTerms 21 = .ok (.iload 4, 2) := by decide +kernel
theorem dX8_inLowestTerms_23 : decode cX8_inLowestTerms 23 = .ok (.irem, 1) := by decide +kernel
theorem dX8_inLowestTerms_24 : decode cX8_inLowestTerms 24 = .ok (.istore 6, 2) := by decide +kernel
theorem dX8_inLowestTerms_26 : decode cX8_inLowestTerms 26 = .ok (.iload 4, 2) := by decide +kernel
theorem dX8_inLowestTerms_28 : decode cX8_inLowestTerms 28 = .ok (.istore_n 3, 1) := by decide +kernel
theorem dX8_inLowestTerms_29 : decode cX8_inLowestTerms 29 = .ok (.iload 6, 2) := by decide +kernel
theorem dX8_inLowestTerms_31 : decode cX8_inLowestTerms 31 = .ok (.istore 4, 2) := by decide +kernel
theorem dX8_inLowestTerms_33 : decode cX8_inLowestTerms 33 = .ok (.iinc 5 1, 3) := by decide +kernel
theorem dX8_inLowestTerms_36 : decode cX8_inLowestTerms 36 = .ok (.goto (-28), 3) := by decide +kernel
theorem dX8_inLowestTerms_39 : decode cX8_inLowestTerms 39 = .ok (.iload_n 3, 1) := by decide +kernel
theorem dX8_inLowestTerms_40 : decode cX8_inLowestTerms 40 = .ok (.ifCond .ne 7, 3) := by decide +kernel
theorem dX8_inLowestTerms_43 : decode cX8_inLowestTerms 43 = .ok (.ldc2_w 219, 3) := by decide +kernel
theorem dX8_inLowestTerms_46 : decode cX8_inLowestTerms 46 = .ok (.lreturn, 1) := by decide +kernel
theorem dX8_inLowestTerms_47 : decode cX8_inLowestTerms 47 = .ok (.iload_n 2, 1) := by decide +kernel
theorem dX8_inLowestTerms_48 : decode cX8_inLowestTerms 48 = .ok (.ifCond .ne 7, 3) := by decide +kernel
theorem dX8_inLowestTerms_51 : decode cX8_inLowestTerms 51 = .ok (.iload_n 0, 1) := by decide +kernel
theorem dX8_inLowestTerms_52 : decode cX8_inLowestTerms 52 = .ok (.goto 4, 3) := by decide +kernel
theorem dX8_inLowestTerms_55 : decode cX8_inLowestTerms 55 = .ok (.iload_n 1, 1) := by decide +kernel
theorem dX8_inLowestTerms_56 : decode cX8_inLowestTerms 56 = .ok (.iload_n 3, 1) := by decide +kernel
theorem dX8_inLowestTerms_57 : decode cX8_inLowestTerms 57 = .ok (.idiv, 1) := by decide +kernel
theorem dX8_inLowestTerms_58 : decode cX8_inLowestTerms 58 = .ok (.i2l, 1) := by decide +kernel
theorem dX8_inLowestTerms_59 : decode cX8_inLowestTerms 59 = .ok (.lreturn, 1) := by decide +kernel
theorem dX8_isCell_0 : decode cX8_isCell 0 = .ok (.iload_n 0, 1) := by decide +kernel
theorem dX8_isCell_1 : decode cX8_isCell 1 = .ok (.ifCond .lt 13, 3) := by decide +kernel
theorem dX8_isCell_4 : decode cX8_isCell 4 = .ok (.iload_n 0, 1) := by decide +kernel
theorem dX8_isCell_5 : decode cX8_isCell 5 = .ok (.bipush 16, 2) := by decide +kernel
theorem dX8_isCell_7 : decode cX8_isCell 7 = .ok (.if_icmp .ge 7, 3) := by decide +kernel
theorem dX8_isCell_10 : decode cX8_isCell 10 = .ok (.iconst 1, 1) := by decide +kernel
theorem dX8_isCell_11 : decode cX8_isCell 11 = .ok (.goto 4, 3) := by decide +kernel
theorem dX8_isCell_14 : decode cX8_isCell 14 = .ok (.iconst 0, 1) := by decide +kernel
theorem dX8_isCell_15 : decode cX8_isCell 15 = .ok (.ireturn, 1) := by decide +kernel
theorem dX8_isDigit_0 : decode cX8_isDigit 0 = .ok (.iload_n 0, 1) := by decide +kernel
theorem dX8_isDigit_1 : decode cX8_isDigit 1 = .ok (.ifCond .lt 13, 3) := by decide +kernel
theorem dX8_isDigit_4 : decode cX8_isDigit 4 = .ok (.iload_n 0, 1) := by decide +kernel
theorem dX8_isDigit_5 : decode cX8_isDigit 5 = .ok (.bipush 9, 2) := by decide +kernel
theorem dX8_isDigit_7 : decode cX8_isDigit 7 = .ok (.if_icmp .gt 7, 3) := by decide +kernel
theorem dX8_isDigit_10 : decode cX8_isDigit 10 = .ok (.iconst 1, 1) := by decide +kernel
theorem dX8_isDigit_11 : decode cX8_isDigit 11 = .ok (.goto 4, 3) := by decide +kernel
theorem dX8_isDigit_14 : decode cX8_isDigit 14 = .ok (.iconst 0, 1) := by decide +kernel
theorem dX8_isDigit_15 : decode cX8_isDigit 15 = .ok (.ireturn, 1) := by decide +kernel
theorem dX8_isEither_0 : decode cX8_isEither 0 = .ok (.iload_n 0, 1) := by decide +kernel
theorem dX8_isEither_1 : decode cX8_isEither 1 = .ok (.ifCond .eq 8, 3) := by decide +kernel
theorem dX8_isEither_4 : decode cX8_isEither 4 = .ok (.iload_n 0, 1) := by decide +kernel
theorem dX8_isEither_5 : decode cX8_isEither 5 = .ok (.iconst 1, 1) := by decide +kernel
theorem dX8_isEither_6 : decode cX8_isEither 6 = .ok (.if_icmp .ne 7, 3) := by decide +kernel
theorem dX8_isEither_9 : decode cX8_isEither 9 = .ok (.iconst 1, 1) := by decide +kernel
theorem dX8_isEither_10 : decode cX8_isEither 10 = .ok (.goto 4, 3) := by decide +kernel
theorem dX8_isEither_13 : decode cX8_isEither 13 = .ok (.iconst 0, 1) := by decide +kernel
theorem dX8_isEither_14 : decode cX8_isEither 14 = .ok (.ireturn, 1) := by decide +kernel
theorem dX8_isFuture_0 : decode cX8_isFuture 0 = .ok (.iload_n 0, 1) := by decide +kernel
theorem dX8_isFuture_1 : decode cX8_isFuture 1 = .ok (.ifCond .lt 13, 3) := by decide +kernel
theorem dX8_isFuture_4 : decode cX8_isFuture 4 = .ok (.iload_n 0, 1) := by decide +kernel
theorem dX8_isFuture_5 : decode cX8_isFuture 5 = .ok (.bipush 60, 2) := by decide +kernel
theorem dX8_isFuture_7 : decode cX8_isFuture 7 = .ok (.if_icmp .gt 7, 3) := by decide +kernel
theorem dX8_isFuture_10 : decode cX8_isFuture 10 = .ok (.iconst 1, 1) := by decide +kernel
theorem dX8_isFuture_11 : decode cX8_isFuture 11 = .ok (.goto 4, 3) := by decide +kernel
theorem dX8_isFuture_14 : decode cX8_isFuture 14 = .ok (.iconst 0, 1) := by decide +kernel
theorem dX8_isFuture_15 : decode cX8_isFuture 15 = .ok (.ireturn, 1) := by decide +kernel
theorem dX8_isKind_0 : decode cX8_isKind 0 = .ok (.iload_n 0, 1) := by decide +kernel
theorem dX8_isKind_1 : decode cX8_isKind 1 = .ok (.ifCond .lt 13, 3) := by decide +kernel
theorem dX8_isKind_4 : decode cX8_isKind 4 = .ok (.iload_n 0, 1) := by decide +kernel
theorem dX8_isKind_5 : decode cX8_isKind 5 = .ok (.bipush 7, 2) := by decide +kernel
theorem dX8_isKind_7 : decode cX8_isKind 7 = .ok (.if_icmp .ge 7, 3) := by decide +kernel
theorem dX8_isKind_10 : decode cX8_isKind 10 = .ok (.iconst 1, 1) := by decide +kernel
theorem dX8_isKind_11 : decode cX8_isKind 11 = .ok (.goto 4, 3) := by decide +kernel
theorem dX8_isKind_14 : decode cX8_isKind 14 = .ok (.iconst 0, 1) := by decide +kernel
theorem dX8_isKind_15 : decode cX8_isKind 15 = .ok (.ireturn, 1) := by decide +kernel
def w_X5_add   (q : Nat) (x1 : Int32) (x2 : Int32) (M : ap_Mem) (K : Int32 → ap_Mem → Prop) : Prop :=
(if (nI (ap_ln (q + 1))) ≤ (M q 2) then (K (-4) M) else ((if (M q 2) < (nI (ap_ln (q + 2))) then (vp_in (M q 2) (ap_ln (q + 1)) ∧ ∀ M_4 : ap_Mem, M_4 = ap_mu M (q + 1) (M q 2).toNatClampNeg x1 → vp_in (M_4 q 2) (ap_ln (q + 2)) ∧ ∀ M_6 : ap_Mem, M_6 = ap_mu M_4 (q + 2) (M_4 q 2).toNatClampNeg x2 → ∀ M_7 : ap_Mem, M_7 = ap_mu M_6 q 2 ((M_6 q 2) + 1) → K (M_7 q 2) M_7) else (K (-4) M))))
theorem bl_X5_add_0 {x : ap_X} {g : ap_G} (hc : ap_Cx x g cX5_add RX5 3) {K : Int32 → ap_Mem → Prop} (hz : ap_Ends x g 0 (some .int) (ap_Qi K))   {q : Nat} (hq : ap_kd q = 5)   {x1 : Int32} {x2 : Int32} {M : ap_Mem}  (h : w_X5_add   q x1 x2 M K) : ap_V x g 3 0 [(0, .ref (ap_ad g q)), (1, .int x1), (2, .int x2)] [] M := by
  unfold w_X5_add at h
  refine ap_aload_n (q := 1) hc dX5_add_0 rfl rfl 0 rfl ?_
  refine ap_getI (q := 4) lg_RX5_9 hq hc dX5_add_1 rfl ?_
  refine ap_aload_n (q := 5) hc dX5_add_4 rfl rfl 0 rfl ?_
  refine ap_getR (q := 8) (r := q + 1) lg_RX5_21 (by decide) hq rfl hc dX5_add_5 rfl ?_
  refine ap_alen (q := 9) (ty_5_1 hq) rfl hc dX5_add_8 rfl ?_
  refine ap_icmp_ge (q := 12) (tgt := 24) hc dX5_add_9 rfl (by decide) (fun z_1 => ?_) (fun z_1 => ?_)
  · have h := Eq.mp (if_pos z_1) h
    refine ap_bipush (q := 26) hc dX5_add_24 rfl bc_m4 ?_
    exact ap_iret hc hz rfl dX5_add_26 h
  · have h := Eq.mp (if_neg z_1) h
    refine ap_aload_n (q := 13) hc dX5_add_12 rfl rfl 0 rfl ?_
    refine ap_getI (q := 16) lg_RX5_9 hq hc dX5_add_13 rfl ?_
    refine ap_aload_n (q := 17) hc dX5_add_16 rfl rfl 0 rfl ?_
    refine ap_getR (q := 20) (r := q + 2) lg_RX5_25 (by decide) hq rfl hc dX5_add_17 rfl ?_
    refine ap_alen (q := 21) (ty_5_2 hq) rfl hc dX5_add_20 rfl ?_
    refine ap_icmp_lt (q := 24) (tgt := 27) hc dX5_add_21 rfl (by decide) (fun z_2 => ?_) (fun z_2 => ?_)
    · have h := Eq.mp (if_pos z_2) h
      refine ap_aload_n (q := 28) hc dX5_add_27 rfl rfl 0 rfl ?_
      refine ap_getR (q := 31) (r := q + 1) lg_RX5_21 (by decide) hq rfl hc dX5_add_28 rfl ?_
      refine ap_aload_n (q := 32) hc dX5_add_31 rfl rfl 0 rfl ?_
      refine ap_getI (q := 35) lg_RX5_9 hq hc dX5_add_32 rfl ?_
      refine ap_iload_n (q := 36) hc dX5_add_35 rfl rfl 1 rfl ?_
      obtain ⟨g_3, h⟩ := h
      obtain ⟨M_4, eM_4, h⟩ := ap_nm h
      refine ap_iast (q := 37) (ty_5_1 hq) rfl g_3 eM_4 hc dX5_add_36 rfl ?_
      refine ap_aload_n (q := 38) hc dX5_add_37 rfl rfl 0 rfl ?_
      refine ap_getR (q := 41) (r := q + 2) lg_RX5_25 (by decide) hq rfl hc dX5_add_38 rfl ?_
      refine ap_aload_n (q := 42) hc dX5_add_41 rfl rfl 0 rfl ?_
      refine ap_getI (q := 45) lg_RX5_9 hq hc dX5_add_42 rfl ?_
      refine ap_iload_n (q := 46) hc dX5_add_45 rfl rfl 2 rfl ?_
      obtain ⟨g_5, h⟩ := h
      obtain ⟨M_6, eM_6, h⟩ := ap_nm h
      refine ap_iast (q := 47) (ty_5_2 hq) rfl g_5 eM_6 hc dX5_add_46 rfl ?_
      refine ap_aload_n (q := 48) hc dX5_add_47 rfl rfl 0 rfl ?_
      refine ap_dup (q := 49) hc dX5_add_48 rfl rfl ?_
      refine ap_getI (q := 52) lg_RX5_9 hq hc dX5_add_49 rfl ?_
      refine ap_iconst (q := 53) hc dX5_add_52 rfl ic_1 ?_
      refine ap_iadd (q := 54) hc dX5_add_53 rfl ?_
      obtain ⟨M_7, eM_7, h⟩ := ap_nm h
      refine ap_putI (q := 57) lp_RX5_9 hq eM_7 hc dX5_add_54 rfl ?_
      refine ap_aload_n (q := 58) hc dX5_add_57 rfl rfl 0 rfl ?_
      refine ap_getI (q := 61) lg_RX5_9 hq hc dX5_add_58 rfl ?_
      exact ap_iret hc hz rfl dX5_add_61 h
    · have h := Eq.mp (if_neg z_2) h
      refine ap_bipush (q := 26) hc dX5_add_24 rfl bc_m4 ?_
      exact ap_iret hc hz rfl dX5_add_26 h
theorem ok_X5_add {l : Launch} {g : ap_G} (hg : ap_GOK g) {q : Nat} (hq : ap_kd q = 5) {x1 : Int32} {x2 : Int32} {M : ap_Mem} {K : Int32 → ap_Mem → Prop} (h : w_X5_add q x1 x2 M K) : ap_Ct l g yX5_add cX5_add 3 (some .int) 0 [.ref (ap_ad g q), .int x1, .int x2] M (ap_Qi K) := by
  refine ap_Ct_of hg (by decide +kernel) (Nat.le_of_ble_eq_true rfl) (fun x hx hc hz => ?_)
  subst hx
  exact bl_X5_add_0 hc hz hq h
def w_X5_clear   (q : Nat)  (M : ap_Mem) (K : Int32 → ap_Mem → Prop) : Prop :=
∀ M_1 : ap_Mem, M_1 = ap_mu M q 2 0 → K 0 M_1
theorem bl_X5_clear_0 {x : ap_X} {g : ap_G} (hc : ap_Cx x g cX5_clear RX5 1) {K : Int32 → ap_Mem → Prop} (hz : ap_Ends x g 0 (some .int) (ap_Qi K))   {q : Nat} (hq : ap_kd q = 5)    {M : ap_Mem}  (h : w_X5_clear   q  M K) : ap_V x g 1 0 [(0, .ref (ap_ad g q))] [] M := by
  unfold w_X5_clear at h
  refine ap_aload_n (q := 1) hc dX5_clear_0 rfl rfl 0 rfl ?_
  refine ap_iconst (q := 2) hc dX5_clear_1 rfl ic_0 ?_
  obtain ⟨M_1, eM_1, h⟩ := ap_nm h
  refine ap_putI (q := 5) lp_RX5_9 hq eM_1 hc dX5_clear_2 rfl ?_
  refine ap_iconst (q := 6) hc dX5_clear_5 rfl ic_0 ?_
  exact ap_iret hc hz rfl dX5_clear_6 h
theorem ok_X5_clear {l : Launch} {g : ap_G} (hg : ap_GOK g) {q : Nat} (hq : ap_kd q = 5)  {M : ap_Mem} {K : Int32 → ap_Mem → Prop} (h : w_X5_clear q  M K) : ap_Ct l g yX5_clear cX5_clear 1 (some .int) 0 [.ref (ap_ad g q)] M (ap_Qi K) := by
  refine ap_Ct_of hg (by decide +kernel) (Nat.le_of_ble_eq_true rfl) (fun x hx hc hz => ?_)
  subst hx
  exact bl_X5_clear_0 hc hz hq h
def w_X5_copyFrom_7_s   (kL7 : Int32 → ap_Mem → Prop) (q : Nat) (o1 : Nat) (x2 : Int32) (M : ap_Mem) (K : ap_Mem → Prop) : Prop :=
(if (M o1 2) ≤ x2 then (K M) else (vp_in x2 (ap_ln (o1 + 1)) ∧ vp_in x2 (ap_ln (o1 + 2)) ∧ w_X5_add q (M (o1 + 1) x2.toNatClampNeg) (M (o1 + 2) x2.toNatClampNeg) M (fun r_4 M_5 => ∀ x2_6 : Int32, x2_6 = x2 + 1 → kL7 x2_6 M_5)))
def w_X5_copyFrom_7   (q : Nat) (o1 : Nat) (K : ap_Mem → Prop) : Nat → Int32 → ap_Mem → Prop
  | 0, _, _ => False
  | n + 1, x2, M => w_X5_copyFrom_7_s   (w_X5_copyFrom_7   q o1 K n) q o1 x2 M K
theorem bl_X5_copyFrom_7 {x : ap_X} {g : ap_G} (hc : ap_Cx x g cX5_copyFrom RX5 3) {K : ap_Mem → Prop} (hz : ap_Ends x g 1 none (ap_Qv K))   {q : Nat} {o1 : Nat} (hq : ap_kd q = 5) (ho1 : ap_kd o1 = 5)   : ∀ (n : Nat) (x2 : Int32) (M : ap_Mem), w_X5_copyFrom_7   q o1 K n x2 M → ap_V x g 3 7 [(0, .ref (ap_ad g q)), (1, .ref (ap_ad g o1)), (2, .int x2)] [] M := by
  have hg := hc.2.2.2.2.2.2.2.1
  intro n
  induction n with
  | zero => intro _ _ h; exact h.elim
  | succ n ih =>
    intro x2 M h
    replace h : w_X5_copyFrom_7_s   (w_X5_copyFrom_7   q o1 K n) q o1 x2 M K := h
    unfold w_X5_copyFrom_7_s at h
    refine ap_iload_n (q := 8) hc dX5_copyFrom_7 rfl rfl 2 rfl ?_
    refine ap_aload_n (q := 9) hc dX5_copyFrom_8 rfl rfl 1 rfl ?_
    refine ap_getI (q := 12) lg_RX5_9 ho1 hc dX5_copyFrom_9 rfl ?_
    refine ap_icmp_ge (q := 15) (tgt := 38) hc dX5_copyFrom_12 rfl (by decide) (fun z_1 => ?_) (fun z_1 => ?_)
    · have h := Eq.mp (if_pos z_1) h
      exact ap_vret hc hz dX5_copyFrom_38 h
    · have h := Eq.mp (if_neg z_1) h
      refine ap_aload_n (q := 16) hc dX5_copyFrom_15 rfl rfl 0 rfl ?_
      refine ap_aload_n (q := 17) hc dX5_copyFrom_16 rfl rfl 1 rfl ?_
      refine ap_getR (q := 20) (r := o1 + 1) lg_RX5_21 (by decide) ho1 rfl hc dX5_copyFrom_17 rfl ?_
      refine ap_iload_n (q := 21) hc dX5_copyFrom_20 rfl rfl 2 rfl ?_
      obtain ⟨g_2, h⟩ := h
      refine ap_iald (q := 22) (ty_5_1 ho1) rfl g_2 hc dX5_copyFrom_21 rfl ?_
      refine ap_aload_n (q := 23) hc dX5_copyFrom_22 rfl rfl 1 rfl ?_
      refine ap_getR (q := 26) (r := o1 + 2) lg_RX5_25 (by decide) ho1 rfl hc dX5_copyFrom_23 rfl ?_
      refine ap_iload_n (q := 27) hc dX5_copyFrom_26 rfl rfl 2 rfl ?_
      obtain ⟨g_3, h⟩ := h
      refine ap_iald (q := 28) (ty_5_2 ho1) rfl g_3 hc dX5_copyFrom_27 rfl ?_
      refine ap_callV (q := 31) (As := [.int (M (o1 + 1) x2.toNatClampNeg), .int (M (o1 + 2) x2.toNatClampNeg)]) hc (ok_X5_add hg hq h) ml_RX5_32 lk_X5_add lv_X5_add hq rfl (ap_RmE hz (by decide)) rfl rfl (Nat.le_of_ble_eq_true rfl) dX5_copyFrom_28 rfl (ap_ki (fun r_4 M_5 h => ?_))
      refine ap_pop (q := 32) hc dX5_copyFrom_31 rfl rfl ?_
      obtain ⟨x2_6, ex2_6, h⟩ := ap_nm h
      refine ap_iinc (q := 35) (lo2 := [(2, .int x2_6), (0, .ref (ap_ad g q)), (1, .ref (ap_ad g o1))]) hc dX5_copyFrom_32 rfl 2 rfl (by rw [ex2_6]; rfl) (by decide) rfl ?_
      refine ap_goto (q := 7) hc dX5_copyFrom_35 (by decide) ?_
      exact ap_sub [1, 2, 0] rfl (ih _ _ h)
def w_X5_copyFrom   (q : Nat) (o1 : Nat)  (M : ap_Mem) (K : ap_Mem → Prop) : Prop :=
w_X5_clear q M (fun r_1 M_2 => w_X5_copyFrom_7   q o1 K 4096 0 M_2)
theorem bl_X5_copyFrom_0 {x : ap_X} {g : ap_G} (hc : ap_Cx x g cX5_copyFrom RX5 3) {K : ap_Mem → Prop} (hz : ap_Ends x g 1 none (ap_Qv K))   {q : Nat} {o1 : Nat} (hq : ap_kd q = 5) (ho1 : ap_kd o1 = 5)    {M : ap_Mem}  (h : w_X5_copyFrom   q o1  M K) : ap_V x g 3 0 [(0, .ref (ap_ad g q)), (1, .ref (ap_ad g o1))] [] M := by
  have hg := hc.2.2.2.2.2.2.2.1
  unfold w_X5_copyFrom at h
  refine ap_aload_n (q := 1) hc dX5_copyFrom_0 rfl rfl 0 rfl ?_
  refine ap_callV (q := 4) (As := []) hc (ok_X5_clear hg hq h) ml_RX5_28 lk_X5_clear lv_X5_clear hq rfl (ap_RmE hz (by decide)) rfl rfl (Nat.le_of_ble_eq_true rfl) dX5_copyFrom_1 rfl (ap_ki (fun r_1 M_2 h => ?_))
  refine ap_pop (q := 5) hc dX5_copyFrom_4 rfl rfl ?_
  refine ap_iconst (q := 6) hc dX5_copyFrom_5 rfl ic_0 ?_
  refine ap_istore_n (q := 7) (lo2 := [(2, .int 0), (0, .ref (ap_ad g q)), (1, .ref (ap_ad g o1))]) hc dX5_copyFrom_6 rfl rfl rfl (by decide) rfl ?_
  exact ap_sub [1, 2, 0] rfl (bl_X5_copyFrom_7 hc hz  hq ho1  _ _ _ h)
theorem ok_X5_copyFrom {l : Launch} {g : ap_G} (hg : ap_GOK g) {q : Nat} {o1 : Nat} (hq : ap_kd q = 5) (ho1 : ap_kd o1 = 5)  {M : ap_Mem} {K : ap_Mem → Prop} (h : w_X5_copyFrom q o1  M K) : ap_Ct l g yX5_copyFrom cX5_copyFrom 3 none 1 [.ref (ap_ad g q), .ref (ap_ad g o1)] M (ap_Qv K) := by
  refine ap_Ct_of hg (by decide +kernel) (Nat.le_of_ble_eq_true rfl) (fun x hx hc hz => ?_)
  subst hx
  exact bl_X5_copyFrom_0 hc hz hq ho1 h
def w_X8_isKind    (x0 : Int32) (M : ap_Mem) (K : Int32 → ap_Mem → Prop) : Prop :=
(if x0 < 0 then (K 0 M) else ((if 7 ≤ x0 then (K 0 M) else (K 1 M))))
theorem bl_X8_isKind_0 {x : ap_X} {g : ap_G} (hc : ap_Cx x g cX8_isKind RX8 1) {K : Int32 → ap_Mem → Prop} (hz : ap_Ends x g 0 (some .boolean) (ap_Qi K))       {x0 : Int32} {M : ap_Mem}  (h : w_X8_isKind    x0 M K) : ap_V x g 1 0 [(0, .int x0)] [] M := by
  unfold w_X8_isKind at h
  refine ap_iload_n (q := 1) hc dX8_isKind_0 rfl rfl 0 rfl ?_
  refine ap_if_lt (q := 4) (tgt := 14) hc dX8_isKind_1 rfl (by decide) (fun z_1 => ?_) (fun z_1 => ?_)
  · have h := Eq.mp (if_pos z_1) h
    refine ap_iconst (q := 15) hc dX8_isKind_14 rfl ic_0 ?_
    exact ap_iret hc hz (ap_Bn ap_B0) dX8_isKind_15 h
  · have h := Eq.mp (if_neg z_1) h
    refine ap_iload_n (q := 5) hc dX8_isKind_4 rfl rfl 0 rfl ?_
    refine ap_bipush (q := 7) hc dX8_isKind_5 rfl bc_7 ?_
    refine ap_icmp_ge (q := 10) (tgt := 14) hc dX8_isKind_7 rfl (by decide) (fun z_2 => ?_) (fun z_2 => ?_)
    · have h := Eq.mp (if_pos z_2) h
      refine ap_iconst (q := 15) hc dX8_isKind_14 rfl ic_0 ?_
      exact ap_iret hc hz (ap_Bn ap_B0) dX8_isKind_15 h
    · have h := Eq.mp (if_neg z_2) h
      refine ap_iconst (q := 11) hc dX8_isKind_10 rfl ic_1 ?_
      refine ap_goto (q := 15) hc dX8_isKind_11 (by decide) ?_
      exact ap_iret hc hz (ap_Bn ap_B1) dX8_isKind_15 h
theorem ok_X8_isKind {l : Launch} {g : ap_G} (hg : ap_GOK g)   {x0 : Int32} {M : ap_Mem} {K : Int32 → ap_Mem → Prop} (h : w_X8_isKind  x0 M K) : ap_Ct l g yX8_isKind cX8_isKind 1 (some .boolean) 0 [.int x0] M (ap_Qi K) := by
  refine ap_Ct_of hg (by decide +kernel) (Nat.le_of_ble_eq_true rfl) (fun x hx hc hz => ?_)
  subst hx
  exact bl_X8_isKind_0 hc hz  h
def w_X8_isCell    (x0 : Int32) (M : ap_Mem) (K : Int32 → ap_Mem → Prop) : Prop :=
(if x0 < 0 then (K 0 M) else ((if 16 ≤ x0 then (K 0 M) else (K 1 M))))
theorem bl_X8_isCell_0 {x : ap_X} {g : ap_G} (hc : ap_Cx x g cX8_isCell RX8 1) {K : Int32 → ap_Mem → Prop} (hz : ap_Ends x g 0 (some .boolean) (ap_Qi K))       {x0 : Int32} {M : ap_Mem}  (h : w_X8_isCell    x0 M K) : ap_V x g 1 0 [(0, .int x0)] [] M := by
  unfold w_X8_isCell at h
  refine ap_iload_n (q := 1) hc dX8_isCell_0 rfl rfl 0 rfl ?_
  refine ap_if_lt (q := 4) (tgt := 14) hc dX8_isCell_1 rfl (by decide) (fun z_1 => ?_) (fun z_1 => ?_)
  · have h := Eq.mp (if_pos z_1) h
    refine ap_iconst (q := 15) hc dX8_isCell_14 rfl ic_0 ?_
    exact ap_iret hc hz (ap_Bn ap_B0) dX8_isCell_15 h
  · have h := Eq.mp (if_neg z_1) h
    refine ap_iload_n (q := 5) hc dX8_isCell_4 rfl rfl 0 rfl ?_
    refine ap_bipush (q := 7) hc dX8_isCell_5 rfl bc_16 ?_
    refine ap_icmp_ge (q := 10) (tgt := 14) hc dX8_isCell_7 rfl (by decide) (fun z_2 => ?_) (fun z_2 => ?_)
    · have h := Eq.mp (if_pos z_2) h
      refine ap_iconst (q := 15) hc dX8_isCell_14 rfl ic_0 ?_
      exact ap_iret hc hz (ap_Bn ap_B0) dX8_isCell_15 h
    · have h := Eq.mp (if_neg z_2) h
      refine ap_iconst (q := 11) hc dX8_isCell_10 rfl ic_1 ?_
      refine ap_goto (q := 15) hc dX8_isCell_11 (by decide) ?_
      exact ap_iret hc hz (ap_Bn ap_B1) dX8_isCell_15 h
theorem ok_X8_isCell {l : Launch} {g : ap_G} (hg : ap_GOK g)   {x0 : Int32} {M : ap_Mem} {K : Int32 → ap_Mem → Prop} (h : w_X8_isCell  x0 M K) : ap_Ct l g yX8_isCell cX8_isCell 1 (some .boolean) 0 [.int x0] M (ap_Qi K) := by
  refine ap_Ct_of hg (by decide +kernel) (Nat.le_of_ble_eq_true rfl) (fun x hx hc hz => ?_)
  subst hx
  exact bl_X8_isCell_0 hc hz  h
def w_X8_isDigit    (x0 : Int32) (M : ap_Mem) (K : Int32 → ap_Mem → Prop) : Prop :=
(if x0 < 0 then (K 0 M) else ((if 9 < x0 then (K 0 M) else (K 1 M))))
theorem bl_X8_isDigit_0 {x : ap_X} {g : ap_G} (hc : ap_Cx x g cX8_isDigit RX8 1) {K : Int32 → ap_Mem → Prop} (hz : ap_Ends x g 0 (some .boolean) (ap_Qi K))       {x0 : Int32} {M : ap_Mem}  (h : w_X8_isDigit    x0 M K) : ap_V x g 1 0 [(0, .int x0)] [] M := by
  unfold w_X8_isDigit at h
  refine ap_iload_n (q := 1) hc dX8_isDigit_0 rfl rfl 0 rfl ?_
  refine ap_if_lt (q := 4) (tgt := 14) hc dX8_isDigit_1 rfl (by decide) (fun z_1 => ?_) (fun z_1 => ?_)
  · have h := Eq.mp (if_pos z_1) h
    refine ap_iconst (q := 15) hc dX8_isDigit_14 rfl ic_0 ?_
    exact ap_iret hc hz (ap_Bn ap_B0) dX8_isDigit_15 h
  · have h := Eq.mp (if_neg z_1) h
    refine ap_iload_n (q := 5) hc dX8_isDigit_4 rfl rfl 0 rfl ?_
    refine ap_bipush (q := 7) hc dX8_isDigit_5 rfl bc_9 ?_
    refine ap_icmp_gt (q := 10) (tgt := 14) hc dX8_isDigit_7 rfl (by decide) (fun z_2 => ?_) (fun z_2 => ?_)
    · have h := Eq.mp (if_pos z_2) h
      refine ap_iconst (q := 15) hc dX8_isDigit_14 rfl ic_0 ?_
      exact ap_iret hc hz (ap_Bn ap_B0) dX8_isDigit_15 h
    · have h := Eq.mp (if_neg z_2) h
      refine ap_iconst (q := 11) hc dX8_isDigit_10 rfl ic_1 ?_
      refine ap_goto (q := 15) hc dX8_isDigit_11 (by decide) ?_
      exact ap_iret hc hz (ap_Bn ap_B1) dX8_isDigit_15 h
theorem ok_X8_isDigit {l : Launch} {g : ap_G} (hg : ap_GOK g)   {x0 : Int32} {M : ap_Mem} {K : Int32 → ap_Mem → Prop} (h : w_X8_isDigit  x0 M K) : ap_Ct l g yX8_isDigit cX8_isDigit 1 (some .boolean) 0 [.int x0] M (ap_Qi K) := by
  refine ap_Ct_of hg (by decide +kernel) (Nat.le_of_ble_eq_true rfl) (fun x hx hc hz => ?_)
  subst hx
  exact bl_X8_isDigit_0 hc hz  h
def w_X3_setAway_26   (q : Nat) (s0 : Int32) (M : ap_Mem) (K : ap_Mem → Prop) : Prop :=
∀ M_1 : ap_Mem, M_1 = ap_mu M q 4 s0 → K M_1
theorem bl_X3_setAway_26 {x : ap_X} {g : ap_G} (hc : ap_Cx x g cX3_setAway RX3 3) {K : ap_Mem → Prop} (hz : ap_Ends x g 0 none (ap_Qv K))   {q : Nat} (hq : ap_kd q = 3)   {s0 : Int32} {M : ap_Mem}  (h : w_X3_setAway_26   q s0 M K) : ap_V x g 3 26 [] [.int s0, .ref (ap_ad g q)] M := by
  unfold w_X3_setAway_26 at h
  obtain ⟨M_1, eM_1, h⟩ := ap_nm h
  refine ap_putI (q := 29) lp_RX3_24 hq eM_1 hc dX3_setAway_26 rfl ?_
  exact ap_vret hc hz dX3_setAway_29 h
def w_X3_setAway   (q : Nat) (x1 : Int32) (x2 : Int32) (M : ap_Mem) (K : ap_Mem → Prop) : Prop :=
(if x2 = 0 then (w_X3_setAway_26   q ((M q 4) &&& ((1 <<< (x1 &&& 31)) ^^^ (-1))) M K) else (w_X3_setAway_26   q ((M q 4) ||| (1 <<< (x1 &&& 31))) M K))
theorem bl_X3_setAway_0 {x : ap_X} {g : ap_G} (hc : ap_Cx x g cX3_setAway RX3 3) {K : ap_Mem → Prop} (hz : ap_Ends x g 0 none (ap_Qv K))   {q : Nat} (hq : ap_kd q = 3)   {x1 : Int32} {x2 : Int32} {M : ap_Mem}  (h : w_X3_setAway   q x1 x2 M K) : ap_V x g 3 0 [(0, .ref (ap_ad g q)), (1, .int x1), (2, .int x2)] [] M := by
  unfold w_X3_setAway at h
  refine ap_aload_n (q := 1) hc dX3_setAway_0 rfl rfl 0 rfl ?_
  refine ap_iload_n (q := 2) hc dX3_setAway_1 rfl rfl 2 rfl ?_
  refine ap_if_eq (q := 5) (tgt := 16) hc dX3_setAway_2 rfl (by decide) (fun z_1 => ?_) (fun z_1 => ?_)
  · have h := Eq.mp (if_pos z_1) h
    refine ap_aload_n (q := 17) hc dX3_setAway_16 rfl rfl 0 rfl ?_
    refine ap_getI (q := 20) lg_RX3_24 hq hc dX3_setAway_17 rfl ?_
    refine ap_iconst (q := 21) hc dX3_setAway_20 rfl ic_1 ?_
    refine ap_iload_n (q := 22) hc dX3_setAway_21 rfl rfl 1 rfl ?_
    refine ap_ishl (q := 23) hc dX3_setAway_22 rfl ?_
    refine ap_iconst (q := 24) hc dX3_setAway_23 rfl ic_m1 ?_
    refine ap_ixor (q := 25) hc dX3_setAway_24 rfl ?_
    refine ap_iand (q := 26) hc dX3_setAway_25 rfl ?_
    exact ap_sub [] rfl (bl_X3_setAway_26 hc hz  hq   h)
  · have h := Eq.mp (if_neg z_1) h
    refine ap_aload_n (q := 6) hc dX3_setAway_5 rfl rfl 0 rfl ?_
    refine ap_getI (q := 9) lg_RX3_24 hq hc dX3_setAway_6 rfl ?_
    refine ap_iconst (q := 10) hc dX3_setAway_9 rfl ic_1 ?_
    refine ap_iload_n (q := 11) hc dX3_setAway_10 rfl rfl 1 rfl ?_
    refine ap_ishl (q := 12) hc dX3_setAway_11 rfl ?_
    refine ap_ior (q := 13) hc dX3_setAway_12 rfl ?_
    refine ap_goto (q := 26) hc dX3_setAway_13 (by decide) ?_
    exact ap_sub [] rfl (bl_X3_setAway_26 hc hz  hq   h)
theorem ok_X3_setAway {l : Launch} {g : ap_G} (hg : ap_GOK g) {q : Nat} (hq : ap_kd q = 3) {x1 : Int32} {x2 : Int32} {M : ap_Mem} {K : ap_Mem → Prop} (h : w_X3_setAway q x1 x2 M K) : ap_Ct l g yX3_setAway cX3_setAway 3 none 0 [.ref (ap_ad g q), .int x1, .int x2] M (ap_Qv K) := by
  refine ap_Ct_of hg (by decide +kernel) (Nat.le_of_ble_eq_true rfl) (fun x hx hc hz => ?_)
  subst hx
  exact bl_X3_setAway_0 hc hz hq h
def w_X3_add_54_s   (kL54 : Int32 → ap_Mem → Prop) (q : Nat) (x4 : Int32) (M : ap_Mem) (K : Int32 → ap_Mem → Prop) : Prop :=
(if 4 ≤ x4 then (∀ M_2 : ap_Mem, M_2 = ap_mu M q 5 ((M q 5) + 1) → K ((M_2 q 5) - 1) M_2) else (vp_in (((M q 5) * 4) + x4) 24 ∧ ∀ M_4 : ap_Mem, M_4 = ap_mu M (q + 4) (((M q 5) * 4) + x4).toNatClampNeg 0 → ∀ x4_5 : Int32, x4_5 = x4 + 1 → kL54 x4_5 M_4))
def w_X3_add_54   (q : Nat) (K : Int32 → ap_Mem → Prop) : Nat → Int32 → ap_Mem → Prop
  | 0, _, _ => False
  | n + 1, x4, M => w_X3_add_54_s   (w_X3_add_54   q K n) q x4 M K
theorem bl_X3_add_54 {x : ap_X} {g : ap_G} (hc : ap_Cx x g cX3_add RX3 5) {K : Int32 → ap_Mem → Prop} (hz : ap_Ends x g 1 (some .int) (ap_Qi K))   {q : Nat} (hq : ap_kd q = 3)   : ∀ (n : Nat) (x4 : Int32) (M : ap_Mem), w_X3_add_54   q K n x4 M → ap_V x g 5 54 [(0, .ref (ap_ad g q)), (4, .int x4)] [] M := by
  intro n
  induction n with
  | zero => intro _ _ h; exact h.elim
  | succ n ih =>
    intro x4 M h
    replace h : w_X3_add_54_s   (w_X3_add_54   q K n) q x4 M K := h
    unfold w_X3_add_54_s at h
    refine ap_iload (q := 56) hc dX3_add_54 rfl 1 rfl ?_
    refine ap_iconst (q := 57) hc dX3_add_56 rfl ic_4 ?_
    refine ap_icmp_ge (q := 60) (tgt := 81) hc dX3_add_57 rfl (by decide) (fun z_1 => ?_) (fun z_1 => ?_)
    · have h := Eq.mp (if_pos z_1) h
      refine ap_aload_n (q := 82) hc dX3_add_81 rfl rfl 0 rfl ?_
      refine ap_dup (q := 83) hc dX3_add_82 rfl rfl ?_
      refine ap_getI (q := 86) lg_RX3_28 hq hc dX3_add_83 rfl ?_
      refine ap_iconst (q := 87) hc dX3_add_86 rfl ic_1 ?_
      refine ap_iadd (q := 88) hc dX3_add_87 rfl ?_
      obtain ⟨M_2, eM_2, h⟩ := ap_nm h
      refine ap_putI (q := 91) lp_RX3_28 hq eM_2 hc dX3_add_88 rfl ?_
      refine ap_aload_n (q := 92) hc dX3_add_91 rfl rfl 0 rfl ?_
      refine ap_getI (q := 95) lg_RX3_28 hq hc dX3_add_92 rfl ?_
      refine ap_iconst (q := 96) hc dX3_add_95 rfl ic_1 ?_
      refine ap_isub (q := 97) hc dX3_add_96 rfl ?_
      exact ap_iret hc hz rfl dX3_add_97 h
    · have h := Eq.mp (if_neg z_1) h
      refine ap_aload_n (q := 61) hc dX3_add_60 rfl rfl 0 rfl ?_
      refine ap_getR (q := 64) (r := q + 4) lg_RX3_21 (by decide) hq rfl hc dX3_add_61 rfl ?_
      refine ap_aload_n (q := 65) hc dX3_add_64 rfl rfl 0 rfl ?_
      refine ap_getI (q := 68) lg_RX3_28 hq hc dX3_add_65 rfl ?_
      refine ap_iconst (q := 69) hc dX3_add_68 rfl ic_4 ?_
      refine ap_imul (q := 70) hc dX3_add_69 rfl ?_
      refine ap_iload (q := 72) hc dX3_add_70 rfl 1 rfl ?_
      refine ap_iadd (q := 73) hc dX3_add_72 rfl ?_
      refine ap_iconst (q := 74) hc dX3_add_73 rfl ic_0 ?_
      obtain ⟨g_3, h⟩ := h
      obtain ⟨M_4, eM_4, h⟩ := ap_nm h
      refine ap_iast (q := 75) (ty_3_4 hq) (tn_3_4 hq) g_3 eM_4 hc dX3_add_74 rfl ?_
      obtain ⟨x4_5, ex4_5, h⟩ := ap_nm h
      refine ap_iinc (q := 78) (lo2 := [(4, .int x4_5), (0, .ref (ap_ad g q))]) hc dX3_add_75 rfl 1 rfl (by rw [ex4_5]; rfl) (by decide) rfl ?_
      refine ap_goto (q := 54) hc dX3_add_78 (by decide) ?_
      exact ap_sub [1, 0] rfl (ih _ _ h)
def w_X3_add   (q : Nat) (x1 : Int32) (x2 : Int32) (x3 : Int32) (M : ap_Mem) (K : Int32 → ap_Mem → Prop) : Prop :=
(if (M q 5) < 6 then (vp_in (M q 5) 6 ∧ ∀ M_3 : ap_Mem, M_3 = ap_mu M (q + 1) (M q 5).toNatClampNeg x1 → vp_in (M_3 q 5) 6 ∧ ∀ M_5 : ap_Mem, M_5 = ap_mu M_3 (q + 2) (M_3 q 5).toNatClampNeg x2 → vp_in (M_5 q 5) 6 ∧ ∀ M_7 : ap_Mem, M_7 = ap_mu M_5 (q + 3) (M_5 q 5).toNatClampNeg x3 → w_X3_setAway q (M_7 q 5) 0 M_7 (fun M_8 => w_X3_add_54   q K 4096 0 M_8)) else (K (-4) M))
theorem bl_X3_add_0 {x : ap_X} {g : ap_G} (hc : ap_Cx x g cX3_add RX3 5) {K : Int32 → ap_Mem → Prop} (hz : ap_Ends x g 1 (some .int) (ap_Qi K))   {q : Nat} (hq : ap_kd q = 3)   {x1 : Int32} {x2 : Int32} {x3 : Int32} {M : ap_Mem}  (h : w_X3_add   q x1 x2 x3 M K) : ap_V x g 5 0 [(0, .ref (ap_ad g q)), (1, .int x1), (2, .int x2), (3, .int x3)] [] M := by
  have hg := hc.2.2.2.2.2.2.2.1
  unfold w_X3_add at h
  refine ap_aload_n (q := 1) hc dX3_add_0 rfl rfl 0 rfl ?_
  refine ap_getI (q := 4) lg_RX3_28 hq hc dX3_add_1 rfl ?_
  refine ap_bipush (q := 6) hc dX3_add_4 rfl bc_6 ?_
  refine ap_icmp_lt (q := 9) (tgt := 12) hc dX3_add_6 rfl (by decide) (fun z_1 => ?_) (fun z_1 => ?_)
  · have h := Eq.mp (if_pos z_1) h
    refine ap_aload_n (q := 13) hc dX3_add_12 rfl rfl 0 rfl ?_
    refine ap_getR (q := 16) (r := q + 1) lg_RX3_9 (by decide) hq rfl hc dX3_add_13 rfl ?_
    refine ap_aload_n (q := 17) hc dX3_add_16 rfl rfl 0 rfl ?_
    refine ap_getI (q := 20) lg_RX3_28 hq hc dX3_add_17 rfl ?_
    refine ap_iload_n (q := 21) hc dX3_add_20 rfl rfl 1 rfl ?_
    obtain ⟨g_2, h⟩ := h
    obtain ⟨M_3, eM_3, h⟩ := ap_nm h
    refine ap_iast (q := 22) (ty_3_1 hq) (tn_3_1 hq) g_2 eM_3 hc dX3_add_21 rfl ?_
    refine ap_aload_n (q := 23) hc dX3_add_22 rfl rfl 0 rfl ?_
    refine ap_getR (q := 26) (r := q + 2) lg_RX3_15 (by decide) hq rfl hc dX3_add_23 rfl ?_
    refine ap_aload_n (q := 27) hc dX3_add_26 rfl rfl 0 rfl ?_
    refine ap_getI (q := 30) lg_RX3_28 hq hc dX3_add_27 rfl ?_
    refine ap_iload_n (q := 31) hc dX3_add_30 rfl rfl 2 rfl ?_
    obtain ⟨g_4, h⟩ := h
    obtain ⟨M_5, eM_5, h⟩ := ap_nm h
    refine ap_iast (q := 32) (ty_3_2 hq) (tn_3_2 hq) g_4 eM_5 hc dX3_add_31 rfl ?_
    refine ap_aload_n (q := 33) hc dX3_add_32 rfl rfl 0 rfl ?_
    refine ap_getR (q := 36) (r := q + 3) lg_RX3_18 (by decide) hq rfl hc dX3_add_33 rfl ?_
    refine ap_aload_n (q := 37) hc dX3_add_36 rfl rfl 0 rfl ?_
    refine ap_getI (q := 40) lg_RX3_28 hq hc dX3_add_37 rfl ?_
    refine ap_iload_n (q := 41) hc dX3_add_40 rfl rfl 3 rfl ?_
    obtain ⟨g_6, h⟩ := h
    obtain ⟨M_7, eM_7, h⟩ := ap_nm h
    refine ap_iast (q := 42) (ty_3_3 hq) (tn_3_3 hq) g_6 eM_7 hc dX3_add_41 rfl ?_
    refine ap_aload_n (q := 43) hc dX3_add_42 rfl rfl 0 rfl ?_
    refine ap_aload_n (q := 44) hc dX3_add_43 rfl rfl 0 rfl ?_
    refine ap_getI (q := 47) lg_RX3_28 hq hc dX3_add_44 rfl ?_
    refine ap_iconst (q := 48) hc dX3_add_47 rfl ic_0 ?_
    refine ap_callV (q := 51) (As := [.int (M_7 q 5), .int 0]) hc (ok_X3_setAway hg hq h) ml_RX3_31 lk_X3_setAway lv_X3_setAway hq rfl (ap_RmE hz (by decide)) rfl rfl (Nat.le_of_ble_eq_true rfl) dX3_add_48 rfl (ap_kv (fun M_8 h => ?_))
    refine ap_iconst (q := 52) hc dX3_add_51 rfl ic_0 ?_
    refine ap_istore (q := 54) (lo2 := [(4, .int 0), (0, .ref (ap_ad g q)), (1, .int x1), (2, .int x2), (3, .int x3)]) hc dX3_add_52 rfl rfl (by decide) rfl ?_
    exact ap_sub [1, 0] rfl (bl_X3_add_54 hc hz  hq  _ _ _ h)
  · have h := Eq.mp (if_neg z_1) h
    refine ap_bipush (q := 11) hc dX3_add_9 rfl bc_m4 ?_
    exact ap_iret hc hz rfl dX3_add_11 h
theorem ok_X3_add {l : Launch} {g : ap_G} (hg : ap_GOK g) {q : Nat} (hq : ap_kd q = 3) {x1 : Int32} {x2 : Int32} {x3 : Int32} {M : ap_Mem} {K : Int32 → ap_Mem → Prop} (h : w_X3_add q x1 x2 x3 M K) : ap_Ct l g yX3_add cX3_add 5 (some .int) 1 [.ref (ap_ad g q), .int x1, .int x2, .int x3] M (ap_Qi K) := by
  refine ap_Ct_of hg (by decide +kernel) (Nat.le_of_ble_eq_true rfl) (fun x hx hc hz => ?_)
  subst hx
  exact bl_X3_add_0 hc hz hq h
def w_X3_has   (q : Nat) (x1 : Int32) (M : ap_Mem) (K : Int32 → ap_Mem → Prop) : Prop :=
(if x1 < 0 then (K 0 M) else ((if (M q 5) ≤ x1 then (K 0 M) else (K 1 M))))
theorem bl_X3_has_0 {x : ap_X} {g : ap_G} (hc : ap_Cx x g cX3_has RX3 2) {K : Int32 → ap_Mem → Prop} (hz : ap_Ends x g 0 (some .boolean) (ap_Qi K))   {q : Nat} (hq : ap_kd q = 3)   {x1 : Int32} {M : ap_Mem}  (h : w_X3_has   q x1 M K) : ap_V x g 2 0 [(0, .ref (ap_ad g q)), (1, .int x1)] [] M := by
  unfold w_X3_has at h
  refine ap_iload_n (q := 1) hc dX3_has_0 rfl rfl 1 rfl ?_
  refine ap_if_lt (q := 4) (tgt := 16) hc dX3_has_1 rfl (by decide) (fun z_1 => ?_) (fun z_1 => ?_)
  · have h := Eq.mp (if_pos z_1) h
    refine ap_iconst (q := 17) hc dX3_has_16 rfl ic_0 ?_
    exact ap_iret hc hz (ap_Bn ap_B0) dX3_has_17 h
  · have h := Eq.mp (if_neg z_1) h
    refine ap_iload_n (q := 5) hc dX3_has_4 rfl rfl 1 rfl ?_
    refine ap_aload_n (q := 6) hc dX3_has_5 rfl rfl 0 rfl ?_
    refine ap_getI (q := 9) lg_RX3_28 hq hc dX3_has_6 rfl ?_
    refine ap_icmp_ge (q := 12) (tgt := 16) hc dX3_has_9 rfl (by decide) (fun z_2 => ?_) (fun z_2 => ?_)
    · have h := Eq.mp (if_pos z_2) h
      refine ap_iconst (q := 17) hc dX3_has_16 rfl ic_0 ?_
      exact ap_iret hc hz (ap_Bn ap_B0) dX3_has_17 h
    · have h := Eq.mp (if_neg z_2) h
      refine ap_iconst (q := 13) hc dX3_has_12 rfl ic_1 ?_
      refine ap_goto (q := 17) hc dX3_has_13 (by decide) ?_
      exact ap_iret hc hz (ap_Bn ap_B1) dX3_has_17 h
theorem ok_X3_has {l : Launch} {g : ap_G} (hg : ap_GOK g) {q : Nat} (hq : ap_kd q = 3) {x1 : Int32} {M : ap_Mem} {K : Int32 → ap_Mem → Prop} (h : w_X3_has q x1 M K) : ap_Ct l g yX3_has cX3_has 2 (some .boolean) 0 [.ref (ap_ad g q), .int x1] M (ap_Qi K) := by
  refine ap_Ct_of hg (by decide +kernel) (Nat.le_of_ble_eq_true rfl) (fun x hx hc hz => ?_)
  subst hx
  exact bl_X3_has_0 hc hz hq h
def w_X3_isAway   (q : Nat) (x1 : Int32) (M : ap_Mem) (K : Int32 → ap_Mem → Prop) : Prop :=
(if (((M q 4) >>> (x1 &&& 31)) &&& 1) = 1 then (K 1 M) else (K 0 M))
theorem bl_X3_isAway_0 {x : ap_X} {g : ap_G} (hc : ap_Cx x g cX3_isAway RX3 2) {K : Int32 → ap_Mem → Prop} (hz : ap_Ends x g 0 (some .boolean) (ap_Qi K))   {q : Nat} (hq : ap_kd q = 3)   {x1 : Int32} {M : ap_Mem}  (h : w_X3_isAway   q x1 M K) : ap_V x g 2 0 [(0, .ref (ap_ad g q)), (1, .int x1)] [] M := by
  unfold w_X3_isAway at h
  refine ap_aload_n (q := 1) hc dX3_isAway_0 rfl rfl 0 rfl ?_
  refine ap_getI (q := 4) lg_RX3_24 hq hc dX3_isAway_1 rfl ?_
  refine ap_iload_n (q := 5) hc dX3_isAway_4 rfl rfl 1 rfl ?_
  refine ap_ishr (q := 6) hc dX3_isAway_5 rfl ?_
  refine ap_iconst (q := 7) hc dX3_isAway_6 rfl ic_1 ?_
  refine ap_iand (q := 8) hc dX3_isAway_7 rfl ?_
  refine ap_iconst (q := 9) hc dX3_isAway_8 rfl ic_1 ?_
  refine ap_icmp_ne (q := 12) (tgt := 16) hc dX3_isAway_9 rfl (by decide) (fun z_1 => ?_) (fun z_1 => ?_)
  · have h := Eq.mp (if_neg z_1) h
    refine ap_iconst (q := 17) hc dX3_isAway_16 rfl ic_0 ?_
    exact ap_iret hc hz (ap_Bn ap_B0) dX3_isAway_17 h
  · have h := Eq.mp (if_pos z_1) h
    refine ap_iconst (q := 13) hc dX3_isAway_12 rfl ic_1 ?_
    refine ap_goto (q := 17) hc dX3_isAway_13 (by decide) ?_
    exact ap_iret hc hz (ap_Bn ap_B1) dX3_isAway_17 h
theorem ok_X3_isAway {l : Launch} {g : ap_G} (hg : ap_GOK g) {q : Nat} (hq : ap_kd q = 3) {x1 : Int32} {M : ap_Mem} {K : Int32 → ap_Mem → Prop} (h : w_X3_isAway q x1 M K) : ap_Ct l g yX3_isAway cX3_isAway 2 (some .boolean) 0 [.ref (ap_ad g q), .int x1] M (ap_Qi K) := by
  refine ap_Ct_of hg (by decide +kernel) (Nat.le_of_ble_eq_true rfl) (fun x hx hc hz => ?_)
  subst hx
  exact bl_X3_isAway_0 hc hz hq h
def w_X3_copyFrom   (q : Nat) (o1 : Nat)  (M : ap_Mem) (K : ap_Mem → Prop) : Prop :=
∀ M_1 : ap_Mem, M_1 = ap_mc M (o1 + 1) (q + 1) 0 0 6 → ∀ M_2 : ap_Mem, M_2 = ap_mc M_1 (o1 + 2) (q + 2) 0 0 6 → ∀ M_3 : ap_Mem, M_3 = ap_mc M_2 (o1 + 3) (q + 3) 0 0 6 → ∀ M_4 : ap_Mem, M_4 = ap_mc M_3 (o1 + 4) (q + 4) 0 0 24 → ∀ M_5 : ap_Mem, M_5 = ap_mu M_4 q 4 (M_4 o1 4) → ∀ M_6 : ap_Mem, M_6 = ap_mu M_5 q 5 (M_5 o1 5) → K M_6
theorem bl_X3_copyFrom_0 {x : ap_X} {g : ap_G} (hc : ap_Cx x g cX3_copyFrom RX3 2) {K : ap_Mem → Prop} (hz : ap_Ends x g 1 none (ap_Qv K))   {q : Nat} {o1 : Nat} (hq : ap_kd q = 3) (ho1 : ap_kd o1 = 3)    {M : ap_Mem}  (h : w_X3_copyFrom   q o1  M K) : ap_V x g 2 0 [(0, .ref (ap_ad g q)), (1, .ref (ap_ad g o1))] [] M := by
  unfold w_X3_copyFrom at h
  refine ap_aload_n (q := 1) hc dX3_copyFrom_0 rfl rfl 1 rfl ?_
  refine ap_getR (q := 4) (r := o1 + 1) lg_RX3_9 (by decide) ho1 rfl hc dX3_copyFrom_1 rfl ?_
  refine ap_iconst (q := 5) hc dX3_copyFrom_4 rfl ic_0 ?_
  refine ap_aload_n (q := 6) hc dX3_copyFrom_5 rfl rfl 0 rfl ?_
  refine ap_getR (q := 9) (r := q + 1) lg_RX3_9 (by decide) hq rfl hc dX3_copyFrom_6 rfl ?_
  refine ap_iconst (q := 10) hc dX3_copyFrom_9 rfl ic_0 ?_
  refine ap_bipush (q := 12) hc dX3_copyFrom_10 rfl bc_6 ?_
  obtain ⟨M_1, eM_1, h⟩ := ap_nm h
  refine ap_copy (q := 15) (n := 6) la_RX3_35 (ap_RmE hz (by decide)) (Nat.le_of_ble_eq_true rfl) (ty_3_1 ho1) (ty_3_1 hq) (tn_3_1 ho1) (tn_3_1 hq) rfl (by decide) (by decide) (by decide) eM_1 hc dX3_copyFrom_12 rfl ?_
  refine ap_aload_n (q := 16) hc dX3_copyFrom_15 rfl rfl 1 rfl ?_
  refine ap_getR (q := 19) (r := o1 + 2) lg_RX3_15 (by decide) ho1 rfl hc dX3_copyFrom_16 rfl ?_
  refine ap_iconst (q := 20) hc dX3_copyFrom_19 rfl ic_0 ?_
  refine ap_aload_n (q := 21) hc dX3_copyFrom_20 rfl rfl 0 rfl ?_
  refine ap_getR (q := 24) (r := q + 2) lg_RX3_15 (by decide) hq rfl hc dX3_copyFrom_21 rfl ?_
  refine ap_iconst (q := 25) hc dX3_copyFrom_24 rfl ic_0 ?_
  refine ap_bipush (q := 27) hc dX3_copyFrom_25 rfl bc_6 ?_
  obtain ⟨M_2, eM_2, h⟩ := ap_nm h
  refine ap_copy (q := 30) (n := 6) la_RX3_35 (ap_RmE hz (by decide)) (Nat.le_of_ble_eq_true rfl) (ty_3_2 ho1) (ty_3_2 hq) (tn_3_2 ho1) (tn_3_2 hq) rfl (by decide) (by decide) (by decide) eM_2 hc dX3_copyFrom_27 rfl ?_
  refine ap_aload_n (q := 31) hc dX3_copyFrom_30 rfl rfl 1 rfl ?_
  refine ap_getR (q := 34) (r := o1 + 3) lg_RX3_18 (by decide) ho1 rfl hc dX3_copyFrom_31 rfl ?_
  refine ap_iconst (q := 35) hc dX3_copyFrom_34 rfl ic_0 ?_
  refine ap_aload_n (q := 36) hc dX3_copyFrom_35 rfl rfl 0 rfl ?_
  refine ap_getR (q := 39) (r := q + 3) lg_RX3_18 (by decide) hq rfl hc dX3_copyFrom_36 rfl ?_
  refine ap_iconst (q := 40) hc dX3_copyFrom_39 rfl ic_0 ?_
  refine ap_bipush (q := 42) hc dX3_copyFrom_40 rfl bc_6 ?_
  obtain ⟨M_3, eM_3, h⟩ := ap_nm h
  refine ap_copy (q := 45) (n := 6) la_RX3_35 (ap_RmE hz (by decide)) (Nat.le_of_ble_eq_true rfl) (ty_3_3 ho1) (ty_3_3 hq) (tn_3_3 ho1) (tn_3_3 hq) rfl (by decide) (by decide) (by decide) eM_3 hc dX3_copyFrom_42 rfl ?_
  refine ap_aload_n (q := 46) hc dX3_copyFrom_45 rfl rfl 1 rfl ?_
  refine ap_getR (q := 49) (r := o1 + 4) lg_RX3_21 (by decide) ho1 rfl hc dX3_copyFrom_46 rfl ?_
  refine ap_iconst (q := 50) hc dX3_copyFrom_49 rfl ic_0 ?_
  refine ap_aload_n (q := 51) hc dX3_copyFrom_50 rfl rfl 0 rfl ?_
  refine ap_getR (q := 54) (r := q + 4) lg_RX3_21 (by decide) hq rfl hc dX3_copyFrom_51 rfl ?_
  refine ap_iconst (q := 55) hc dX3_copyFrom_54 rfl ic_0 ?_
  refine ap_bipush (q := 57) hc dX3_copyFrom_55 rfl bc_24 ?_
  obtain ⟨M_4, eM_4, h⟩ := ap_nm h
  refine ap_copy (q := 60) (n := 24) la_RX3_35 (ap_RmE hz (by decide)) (Nat.le_of_ble_eq_true rfl) (ty_3_4 ho1) (ty_3_4 hq) (tn_3_4 ho1) (tn_3_4 hq) rfl (by decide) (by decide) (by decide) eM_4 hc dX3_copyFrom_57 rfl ?_
  refine ap_aload_n (q := 61) hc dX3_copyFrom_60 rfl rfl 0 rfl ?_
  refine ap_aload_n (q := 62) hc dX3_copyFrom_61 rfl rfl 1 rfl ?_
  refine ap_getI (q := 65) lg_RX3_24 ho1 hc dX3_copyFrom_62 rfl ?_
  obtain ⟨M_5, eM_5, h⟩ := ap_nm h
  refine ap_putI (q := 68) lp_RX3_24 hq eM_5 hc dX3_copyFrom_65 rfl ?_
  refine ap_aload_n (q := 69) hc dX3_copyFrom_68 rfl rfl 0 rfl ?_
  refine ap_aload_n (q := 70) hc dX3_copyFrom_69 rfl rfl 1 rfl ?_
  refine ap_getI (q := 73) lg_RX3_28 ho1 hc dX3_copyFrom_70 rfl ?_
  obtain ⟨M_6, eM_6, h⟩ := ap_nm h
  refine ap_putI (q := 76) lp_RX3_28 hq eM_6 hc dX3_copyFrom_73 rfl ?_
  exact ap_vret hc hz dX3_copyFrom_76 h
theorem ok_X3_copyFrom {l : Launch} {g : ap_G} (hg : ap_GOK g) {q : Nat} {o1 : Nat} (hq : ap_kd q = 3) (ho1 : ap_kd o1 = 3)  {M : ap_Mem} {K : ap_Mem → Prop} (h : w_X3_copyFrom q o1  M K) : ap_Ct l g yX3_copyFrom cX3_copyFrom 2 none 1 [.ref (ap_ad g q), .ref (ap_ad g o1)] M (ap_Qv K) := by
  refine ap_Ct_of hg (by decide +kernel) (Nat.le_of_ble_eq_true rfl) (fun x hx hc hz => ?_)
  subst hx
  exact bl_X3_copyFrom_0 hc hz hq ho1 h
def w_X1_copyFrom   (q : Nat) (o1 : Nat)  (M : ap_Mem) (K : ap_Mem → Prop) : Prop :=
∀ M_1 : ap_Mem, M_1 = ap_mc M (o1 + 1) (q + 1) 0 0 16 → ∀ M_2 : ap_Mem, M_2 = ap_mu M_1 q 1 (M_1 o1 1) → ∀ M_3 : ap_Mem, M_3 = ap_mu M_2 q 2 (M_2 o1 2) → K M_3
theorem bl_X1_copyFrom_0 {x : ap_X} {g : ap_G} (hc : ap_Cx x g cX1_copyFrom RX1 2) {K : ap_Mem → Prop} (hz : ap_Ends x g 1 none (ap_Qv K))   {q : Nat} {o1 : Nat} (hq : ap_kd q = 1) (ho1 : ap_kd o1 = 1)    {M : ap_Mem}  (h : w_X1_copyFrom   q o1  M K) : ap_V x g 2 0 [(0, .ref (ap_ad g q)), (1, .ref (ap_ad g o1))] [] M := by
  unfold w_X1_copyFrom at h
  refine ap_aload_n (q := 1) hc dX1_copyFrom_0 rfl rfl 1 rfl ?_
  refine ap_getR (q := 4) (r := o1 + 1) lg_RX1_9 (by decide) ho1 rfl hc dX1_copyFrom_1 rfl ?_
  refine ap_iconst (q := 5) hc dX1_copyFrom_4 rfl ic_0 ?_
  refine ap_aload_n (q := 6) hc dX1_copyFrom_5 rfl rfl 0 rfl ?_
  refine ap_getR (q := 9) (r := q + 1) lg_RX1_9 (by decide) hq rfl hc dX1_copyFrom_6 rfl ?_
  refine ap_iconst (q := 10) hc dX1_copyFrom_9 rfl ic_0 ?_
  refine ap_bipush (q := 12) hc dX1_copyFrom_10 rfl bc_16 ?_
  obtain ⟨M_1, eM_1, h⟩ := ap_nm h
  refine ap_copy (q := 15) (n := 16) la_RX1_22 (ap_RmE hz (by decide)) (Nat.le_of_ble_eq_true rfl) (ty_1_1 ho1) (ty_1_1 hq) (tn_1_1 ho1) (tn_1_1 hq) rfl (by decide) (by decide) (by decide) eM_1 hc dX1_copyFrom_12 rfl ?_
  refine ap_aload_n (q := 16) hc dX1_copyFrom_15 rfl rfl 0 rfl ?_
  refine ap_aload_n (q := 17) hc dX1_copyFrom_16 rfl rfl 1 rfl ?_
  refine ap_getI (q := 20) lg_RX1_15 ho1 hc dX1_copyFrom_17 rfl ?_
  obtain ⟨M_2, eM_2, h⟩ := ap_nm h
  refine ap_putI (q := 23) lp_RX1_15 hq eM_2 hc dX1_copyFrom_20 rfl ?_
  refine ap_aload_n (q := 24) hc dX1_copyFrom_23 rfl rfl 0 rfl ?_
  refine ap_aload_n (q := 25) hc dX1_copyFrom_24 rfl rfl 1 rfl ?_
  refine ap_getI (q := 28) lg_RX1_19 ho1 hc dX1_copyFrom_25 rfl ?_
  obtain ⟨M_3, eM_3, h⟩ := ap_nm h
  refine ap_putI (q := 31) lp_RX1_19 hq eM_3 hc dX1_copyFrom_28 rfl ?_
  exact ap_vret hc hz dX1_copyFrom_31 h
theorem ok_X1_copyFrom {l : Launch} {g : ap_G} (hg : ap_GOK g) {q : Nat} {o1 : Nat} (hq : ap_kd q = 1) (ho1 : ap_kd o1 = 1)  {M : ap_Mem} {K : ap_Mem → Prop} (h : w_X1_copyFrom q o1  M K) : ap_Ct l g yX1_copyFrom cX1_copyFrom 2 none 1 [.ref (ap_ad g q), .ref (ap_ad g o1)] M (ap_Qv K) := by
  refine ap_Ct_of hg (by decide +kernel) (Nat.le_of_ble_eq_true rfl) (fun x hx hc hz => ?_)
  subst hx
  exact bl_X1_copyFrom_0 hc hz hq ho1 h
def w_X8_far    (x0 : Int32) (x1 : Int32) (M : ap_Mem) (K : Int32 → ap_Mem → Prop) : Prop :=
K ((ap_abs ((x0 / 4) - (x1 / 4))) + (ap_abs ((x0 - x0 / 4 * 4) - (x1 - x1 / 4 * 4)))) M
theorem bl_X8_far_0 {x : ap_X} {g : ap_G} (hc : ap_Cx x g cX8_far RX8 2) {K : Int32 → ap_Mem → Prop} (hz : ap_Ends x g 1 (some .int) (ap_Qi K))       {x0 : Int32} {x1 : Int32} {M : ap_Mem}  (h : w_X8_far    x0 x1 M K) : ap_V x g 2 0 [(0, .int x0), (1, .int x1)] [] M := by
  unfold w_X8_far at h
  refine ap_iload_n (q := 1) hc dX8_far_0 rfl rfl 0 rfl ?_
  refine ap_iconst (q := 2) hc dX8_far_1 rfl ic_4 ?_
  refine ap_idiv (q := 3) hc dX8_far_2 rfl (by decide) ?_
  refine ap_iload_n (q := 4) hc dX8_far_3 rfl rfl 1 rfl ?_
  refine ap_iconst (q := 5) hc dX8_far_4 rfl ic_4 ?_
  refine ap_idiv (q := 6) hc dX8_far_5 rfl (by decide) ?_
  refine ap_isub (q := 7) hc dX8_far_6 rfl ?_
  refine ap_mabs (q := 10) lm_RX8_258 (ap_RmE hz (by decide)) (Nat.le_of_ble_eq_true rfl) hc dX8_far_7 rfl ?_
  refine ap_iload_n (q := 11) hc dX8_far_10 rfl rfl 0 rfl ?_
  refine ap_iconst (q := 12) hc dX8_far_11 rfl ic_4 ?_
  refine ap_irem (q := 13) hc dX8_far_12 rfl (by decide) ?_
  refine ap_iload_n (q := 14) hc dX8_far_13 rfl rfl 1 rfl ?_
  refine ap_iconst (q := 15) hc dX8_far_14 rfl ic_4 ?_
  refine ap_irem (q := 16) hc dX8_far_15 rfl (by decide) ?_
  refine ap_isub (q := 17) hc dX8_far_16 rfl ?_
  refine ap_mabs (q := 20) lm_RX8_258 (ap_RmE hz (by decide)) (Nat.le_of_ble_eq_true rfl) hc dX8_far_17 rfl ?_
  refine ap_iadd (q := 21) hc dX8_far_20 rfl ?_
  exact ap_iret hc hz rfl dX8_far_21 h
theorem ok_X8_far {l : Launch} {g : ap_G} (hg : ap_GOK g)   {x0 : Int32} {x1 : Int32} {M : ap_Mem} {K : Int32 → ap_Mem → Prop} (h : w_X8_far  x0 x1 M K) : ap_Ct l g yX8_far cX8_far 2 (some .int) 1 [.int x0, .int x1] M (ap_Qi K) := by
  refine ap_Ct_of hg (by decide +kernel) (Nat.le_of_ble_eq_true rfl) (fun x hx hc hz => ?_)
  subst hx
  exact bl_X8_far_0 hc hz  h
def w_X1_cellsLainOn_25  (kL4 : Int32 → Int32 → ap_Mem → Prop) (q : Nat) (x2 : Int32) (s0 : Int32) (s1 : Int32) (M : ap_Mem) (K : Int32 → ap_Mem → Prop) : Prop :=
∀ x1_1 : Int32, x1_1 = s1 + s0 → ∀ x2_2 : Int32, x2_2 = x2 + 1 → kL4 x1_1 x2_2 M
theorem bl_X1_cellsLainOn_25 {x : ap_X} {g : ap_G} (hc : ap_Cx x g cX1_cellsLainOn RX1 3) {K : Int32 → ap_Mem → Prop} (hz : ap_Ends x g 0 (some .int) (ap_Qi K))   {q : Nat} (hq : ap_kd q = 1) {kL4 : Int32 → Int32 → ap_Mem → Prop} (hk4 : ∀ (x1 : Int32) (x2 : Int32)  (M : ap_Mem), kL4 x1 x2 M → ap_V x g 3 4 [(0, .ref (ap_ad g q)), (1, .int x1), (2, .int x2)] [] M) {x2 : Int32} {s0 : Int32} {s1 : Int32} {M : ap_Mem}  (h : w_X1_cellsLainOn_25  kL4 q x2 s0 s1 M K) : ap_V x g 3 25 [(0, .ref (ap_ad g q)), (2, .int x2)] [.int s0, .int s1] M := by
  unfold w_X1_cellsLainOn_25 at h
  refine ap_iadd (q := 26) hc dX1_cellsLainOn_25 rfl ?_
  obtain ⟨x1_1, ex1_1, h⟩ := ap_nm h
  refine ap_istore_n (q := 27) (lo2 := [(1, .int x1_1), (0, .ref (ap_ad g q)), (2, .int x2)]) hc dX1_cellsLainOn_26 rfl rfl ex1_1 (by decide) rfl ?_
  obtain ⟨x2_2, ex2_2, h⟩ := ap_nm h
  refine ap_iinc (q := 30) (lo2 := [(2, .int x2_2), (1, .int x1_1), (0, .ref (ap_ad g q))]) hc dX1_cellsLainOn_27 rfl 2 rfl (by rw [ex2_2]; rfl) (by decide) rfl ?_
  refine ap_goto (q := 4) hc dX1_cellsLainOn_30 (by decide) ?_
  exact ap_sub [2, 1, 0] rfl (hk4 _ _ _ h)
def w_X1_cellsLainOn_4_s   (kL4 : Int32 → Int32 → ap_Mem → Prop) (q : Nat) (x1 : Int32) (x2 : Int32) (M : ap_Mem) (K : Int32 → ap_Mem → Prop) : Prop :=
(if 16 ≤ x2 then (K x1 M) else (vp_in x2 16 ∧ (if (M (q + 1) x2.toNatClampNeg) ≤ 0 then (w_X1_cellsLainOn_25  kL4 q x2 0 x1 M K) else (w_X1_cellsLainOn_25  kL4 q x2 1 x1 M K))))
def w_X1_cellsLainOn_4   (q : Nat) (K : Int32 → ap_Mem → Prop) : Nat → Int32 → Int32 → ap_Mem → Prop
  | 0, _, _, _ => False
  | n + 1, x1, x2, M => w_X1_cellsLainOn_4_s   (w_X1_cellsLainOn_4   q K n) q x1 x2 M K
theorem bl_X1_cellsLainOn_4 {x : ap_X} {g : ap_G} (hc : ap_Cx x g cX1_cellsLainOn RX1 3) {K : Int32 → ap_Mem → Prop} (hz : ap_Ends x g 0 (some .int) (ap_Qi K))   {q : Nat} (hq : ap_kd q = 1)   : ∀ (n : Nat) (x1 : Int32) (x2 : Int32) (M : ap_Mem), w_X1_cellsLainOn_4   q K n x1 x2 M → ap_V x g 3 4 [(0, .ref (ap_ad g q)), (1, .int x1), (2, .int x2)] [] M := by
  intro n
  induction n with
  | zero => intro _ _ _ h; exact h.elim
  | succ n ih =>
    intro x1 x2 M h
    replace h : w_X1_cellsLainOn_4_s   (w_X1_cellsLainOn_4   q K n) q x1 x2 M K := h
    unfold w_X1_cellsLainOn_4_s at h
    refine ap_iload_n (q := 5) hc dX1_cellsLainOn_4 rfl rfl 2 rfl ?_
    refine ap_bipush (q := 7) hc dX1_cellsLainOn_5 rfl bc_16 ?_
    refine ap_icmp_ge (q := 10) (tgt := 33) hc dX1_cellsLainOn_7 rfl (by decide) (fun z_1 => ?_) (fun z_1 => ?_)
    · have h := Eq.mp (if_pos z_1) h
      refine ap_iload_n (q := 34) hc dX1_cellsLainOn_33 rfl rfl 1 rfl ?_
      exact ap_iret hc hz rfl dX1_cellsLainOn_34 h
    · have h := Eq.mp (if_neg z_1) h
      refine ap_iload_n (q := 11) hc dX1_cellsLainOn_10 rfl rfl 1 rfl ?_
      refine ap_aload_n (q := 12) hc dX1_cellsLainOn_11 rfl rfl 0 rfl ?_
      refine ap_getR (q := 15) (r := q + 1) lg_RX1_9 (by decide) hq rfl hc dX1_cellsLainOn_12 rfl ?_
      refine ap_iload_n (q := 16) hc dX1_cellsLainOn_15 rfl rfl 2 rfl ?_
      obtain ⟨g_2, h⟩ := h
      refine ap_iald (q := 17) (ty_1_1 hq) (tn_1_1 hq) g_2 hc dX1_cellsLainOn_16 rfl ?_
      refine ap_if_le (q := 20) (tgt := 24) hc dX1_cellsLainOn_17 rfl (by decide) (fun z_3 => ?_) (fun z_3 => ?_)
      · have h := Eq.mp (if_pos z_3) h
        refine ap_iconst (q := 25) hc dX1_cellsLainOn_24 rfl ic_0 ?_
        exact ap_sub [0, 2] rfl (bl_X1_cellsLainOn_25 hc hz  hq ih  h)
      · have h := Eq.mp (if_neg z_3) h
        refine ap_iconst (q := 21) hc dX1_cellsLainOn_20 rfl ic_1 ?_
        refine ap_goto (q := 25) hc dX1_cellsLainOn_21 (by decide) ?_
        exact ap_sub [0, 2] rfl (bl_X1_cellsLainOn_25 hc hz  hq ih  h)
def w_X1_cellsLainOn   (q : Nat)  (M : ap_Mem) (K : Int32 → ap_Mem → Prop) : Prop :=
w_X1_cellsLainOn_4   q K 4096 0 0 M
theorem bl_X1_cellsLainOn_0 {x : ap_X} {g : ap_G} (hc : ap_Cx x g cX1_cellsLainOn RX1 3) {K : Int32 → ap_Mem → Prop} (hz : ap_Ends x g 0 (some .int) (ap_Qi K))   {q : Nat} (hq : ap_kd q = 1)    {M : ap_Mem}  (h : w_X1_cellsLainOn   q  M K) : ap_V x g 3 0 [(0, .ref (ap_ad g q))] [] M := by
  unfold w_X1_cellsLainOn at h
  refine ap_iconst (q := 1) hc dX1_cellsLainOn_0 rfl ic_0 ?_
  refine ap_istore_n (q := 2) (lo2 := [(1, .int 0), (0, .ref (ap_ad g q))]) hc dX1_cellsLainOn_1 rfl rfl rfl (by decide) rfl ?_
  refine ap_iconst (q := 3) hc dX1_cellsLainOn_2 rfl ic_0 ?_
  refine ap_istore_n (q := 4) (lo2 := [(2, .int 0), (1, .int 0), (0, .ref (ap_ad g q))]) hc dX1_cellsLainOn_3 rfl rfl rfl (by decide) rfl ?_
  exact ap_sub [2, 1, 0] rfl (bl_X1_cellsLainOn_4 hc hz  hq  _ _ _ _ h)
theorem ok_X1_cellsLainOn {l : Launch} {g : ap_G} (hg : ap_GOK g) {q : Nat} (hq : ap_kd q = 1)  {M : ap_Mem} {K : Int32 → ap_Mem → Prop} (h : w_X1_cellsLainOn q  M K) : ap_Ct l g yX1_cellsLainOn cX1_cellsLainOn 3 (some .int) 0 [.ref (ap_ad g q)] M (ap_Qi K) := by
  refine ap_Ct_of hg (by decide +kernel) (Nat.le_of_ble_eq_true rfl) (fun x hx hc hz => ?_)
  subst hx
  exact bl_X1_cellsLainOn_0 hc hz hq h
def w_X8_isFuture    (x0 : Int32) (M : ap_Mem) (K : Int32 → ap_Mem → Prop) : Prop :=
(if x0 < 0 then (K 0 M) else ((if 60 < x0 then (K 0 M) else (K 1 M))))
theorem bl_X8_isFuture_0 {x : ap_X} {g : ap_G} (hc : ap_Cx x g cX8_isFuture RX8 1) {K : Int32 → ap_Mem → Prop} (hz : ap_Ends x g 0 (some .boolean) (ap_Qi K))       {x0 : Int32} {M : ap_Mem}  (h : w_X8_isFuture    x0 M K) : ap_V x g 1 0 [(0, .int x0)] [] M := by
  unfold w_X8_isFuture at h
  refine ap_iload_n (q := 1) hc dX8_isFuture_0 rfl rfl 0 rfl ?_
  refine ap_if_lt (q := 4) (tgt := 14) hc dX8_isFuture_1 rfl (by decide) (fun z_1 => ?_) (fun z_1 => ?_)
  · have h := Eq.mp (if_pos z_1) h
    refine ap_iconst (q := 15) hc dX8_isFuture_14 rfl ic_0 ?_
    exact ap_iret hc hz (ap_Bn ap_B0) dX8_isFuture_15 h
  · have h := Eq.mp (if_neg z_1) h
    refine ap_iload_n (q := 5) hc dX8_isFuture_4 rfl rfl 0 rfl ?_
    refine ap_bipush (q := 7) hc dX8_isFuture_5 rfl bc_60 ?_
    refine ap_icmp_gt (q := 10) (tgt := 14) hc dX8_isFuture_7 rfl (by decide) (fun z_2 => ?_) (fun z_2 => ?_)
    · have h := Eq.mp (if_pos z_2) h
      refine ap_iconst (q := 15) hc dX8_isFuture_14 rfl ic_0 ?_
      exact ap_iret hc hz (ap_Bn ap_B0) dX8_isFuture_15 h
    · have h := Eq.mp (if_neg z_2) h
      refine ap_iconst (q := 11) hc dX8_isFuture_10 rfl ic_1 ?_
      refine ap_goto (q := 15) hc dX8_isFuture_11 (by decide) ?_
      exact ap_iret hc hz (ap_Bn ap_B1) dX8_isFuture_15 h
theorem ok_X8_isFuture {l : Launch} {g : ap_G} (hg : ap_GOK g)   {x0 : Int32} {M : ap_Mem} {K : Int32 → ap_Mem → Prop} (h : w_X8_isFuture  x0 M K) : ap_Ct l g yX8_isFuture cX8_isFuture 1 (some .boolean) 0 [.int x0] M (ap_Qi K) := by
  refine ap_Ct_of hg (by decide +kernel) (Nat.le_of_ble_eq_true rfl) (fun x hx hc hz => ?_)
  subst hx
  exact bl_X8_isFuture_0 hc hz  h
def w_X8_isEither    (x0 : Int32) (M : ap_Mem) (K : Int32 → ap_Mem → Prop) : Prop :=
(if x0 = 0 then (K 1 M) else ((if x0 = 1 then (K 1 M) else (K 0 M))))
theorem bl_X8_isEither_0 {x : ap_X} {g : ap_G} (hc : ap_Cx x g cX8_isEither RX8 1) {K : Int32 → ap_Mem → Prop} (hz : ap_Ends x g 0 (some .boolean) (ap_Qi K))       {x0 : Int32} {M : ap_Mem}  (h : w_X8_isEither    x0 M K) : ap_V x g 1 0 [(0, .int x0)] [] M := by
  unfold w_X8_isEither at h
  refine ap_iload_n (q := 1) hc dX8_isEither_0 rfl rfl 0 rfl ?_
  refine ap_if_eq (q := 4) (tgt := 9) hc dX8_isEither_1 rfl (by decide) (fun z_1 => ?_) (fun z_1 => ?_)
  · have h := Eq.mp (if_pos z_1) h
    refine ap_iconst (q := 10) hc dX8_isEither_9 rfl ic_1 ?_
    refine ap_goto (q := 14) hc dX8_isEither_10 (by decide) ?_
    exact ap_iret hc hz (ap_Bn ap_B1) dX8_isEither_14 h
  · have h := Eq.mp (if_neg z_1) h
    refine ap_iload_n (q := 5) hc dX8_isEither_4 rfl rfl 0 rfl ?_
    refine ap_iconst (q := 6) hc dX8_isEither_5 rfl ic_1 ?_
    refine ap_icmp_ne (q := 9) (tgt := 13) hc dX8_isEither_6 rfl (by decide) (fun z_2 => ?_) (fun z_2 => ?_)
    · have h := Eq.mp (if_neg z_2) h
      refine ap_iconst (q := 14) hc dX8_isEither_13 rfl ic_0 ?_
      exact ap_iret hc hz (ap_Bn ap_B0) dX8_isEither_14 h
    · have h := Eq.mp (if_pos z_2) h
      refine ap_iconst (q := 10) hc dX8_isEither_9 rfl ic_1 ?_
      refine ap_goto (q := 14) hc dX8_isEither_10 (by decide) ?_
      exact ap_iret hc hz (ap_Bn ap_B1) dX8_isEither_14 h
theorem ok_X8_isEither {l : Launch} {g : ap_G} (hg : ap_GOK g)   {x0 : Int32} {M : ap_Mem} {K : Int32 → ap_Mem → Prop} (h : w_X8_isEither  x0 M K) : ap_Ct l g yX8_isEither cX8_isEither 1 (some .boolean) 0 [.int x0] M (ap_Qi K) := by
  refine ap_Ct_of hg (by decide +kernel) (Nat.le_of_ble_eq_true rfl) (fun x hx hc hz => ?_)
  subst hx
  exact bl_X8_isEither_0 hc hz  h
def w_X8_inLowestTerms_39    (x0 : Int32) (x1 : Int32) (x2 : Int32) (x3 : Int32) (M : ap_Mem) (K : Int64 → ap_Mem → Prop) : Prop :=
(if x3 = 0 then (K (-9223372036854775808) M) else ((if x2 = 0 then ((¬ x3 = 0) ∧ K (x0 / x3).toInt64 M) else ((¬ x3 = 0) ∧ K (x1 / x3).toInt64 M))))
theorem bl_X8_inLowestTerms_39 {x : ap_X} {g : ap_G} (hc : ap_Cx x g cX8_inLowestTerms RX8 7) {K : Int64 → ap_Mem → Prop} (hz : ap_Ends x g 0 (some .long) (ap_Ql K))       {x0 : Int32} {x1 : Int32} {x2 : Int32} {x3 : Int32} {M : ap_Mem}  (h : w_X8_inLowestTerms_39    x0 x1 x2 x3 M K) : ap_V x g 7 39 [(0, .int x0), (1, .int x1), (2, .int x2), (3, .int x3)] [] M := by
  unfold w_X8_inLowestTerms_39 at h
  refine ap_iload_n (q := 40) hc dX8_inLowestTerms_39 rfl rfl 3 rfl ?_
  refine ap_if_ne (q := 43) (tgt := 47) hc dX8_inLowestTerms_40 rfl (by decide) (fun z_1 => ?_) (fun z_1 => ?_)
  · have h := Eq.mp (if_neg z_1) h
    refine ap_iload_n (q := 48) hc dX8_inLowestTerms_47 rfl rfl 2 rfl ?_
    refine ap_if_ne (q := 51) (tgt := 55) hc dX8_inLowestTerms_48 rfl (by decide) (fun z_2 => ?_) (fun z_2 => ?_)
    · have h := Eq.mp (if_neg z_2) h
      refine ap_iload_n (q := 56) hc dX8_inLowestTerms_55 rfl rfl 1 rfl ?_
      refine ap_iload_n (q := 57) hc dX8_inLowestTerms_56 rfl rfl 3 rfl ?_
      obtain ⟨g_3, h⟩ := h
      refine ap_idiv (q := 58) hc dX8_inLowestTerms_57 rfl g_3 ?_
      refine ap_i2l (q := 59) hc dX8_inLowestTerms_58 rfl ?_
      exact ap_lret hc hz dX8_inLowestTerms_59 h
    · have h := Eq.mp (if_pos z_2) h
      refine ap_iload_n (q := 52) hc dX8_inLowestTerms_51 rfl rfl 0 rfl ?_
      refine ap_goto (q := 56) hc dX8_inLowestTerms_52 (by decide) ?_
      refine ap_iload_n (q := 57) hc dX8_inLowestTerms_56 rfl rfl 3 rfl ?_
      obtain ⟨g_4, h⟩ := h
      refine ap_idiv (q := 58) hc dX8_inLowestTerms_57 rfl g_4 ?_
      refine ap_i2l (q := 59) hc dX8_inLowestTerms_58 rfl ?_
      exact ap_lret hc hz dX8_inLowestTerms_59 h
  · have h := Eq.mp (if_pos z_1) h
    refine ap_ldc2 (q := 46) hc dX8_inLowestTerms_43 rfl ct_RX8_219 ?_
    exact ap_lret hc hz dX8_inLowestTerms_46 h
def w_X8_inLowestTerms_8_s   (kL8 : Int32 → Int32 → Int32 → Int32 → Int32 → Int32 → ap_Mem → Prop)  (x0 : Int32) (x1 : Int32) (x2 : Int32) (x3 : Int32) (x4 : Int32) (x5 : Int32) (M : ap_Mem) (K : Int64 → ap_Mem → Prop) : Prop :=
(if 100 ≤ x5 then (w_X8_inLowestTerms_39    x0 x1 x2 x3 M K) else ((if x4 = 0 then (w_X8_inLowestTerms_39    x0 x1 x2 x3 M K) else ((¬ x4 = 0) ∧ ∀ x6_4 : Int32, x6_4 = x3 - x3 / x4 * x4 → ∀ x5_5 : Int32, x5_5 = x5 + 1 → kL8 x0 x1 x2 x4 x6_4 x5_5 M))))
def w_X8_inLowestTerms_8    (K : Int64 → ap_Mem → Prop) : Nat → Int32 → Int32 → Int32 → Int32 → Int32 → Int32 → ap_Mem → Prop
  | 0, _, _, _, _, _, _, _ => False
  | n + 1, x0, x1, x2, x3, x4, x5, M => w_X8_inLowestTerms_8_s   (w_X8_inLowestTerms_8    K n)  x0 x1 x2 x3 x4 x5 M K
theorem bl_X8_inLowestTerms_8 {x : ap_X} {g : ap_G} (hc : ap_Cx x g cX8_inLowestTerms RX8 7) {K : Int64 → ap_Mem → Prop} (hz : ap_Ends x g 0 (some .long) (ap_Ql K))       : ∀ (n : Nat) (x0 : Int32) (x1 : Int32) (x2 : Int32) (x3 : Int32) (x4 : Int32) (x5 : Int32) (M : ap_Mem), w_X8_inLowestTerms_8    K n x0 x1 x2 x3 x4 x5 M → ap_V x g 7 8 [(0, .int x0), (1, .int x1), (2, .int x2), (3, .int x3), (4, .int x4), (5, .int x5)] [] M := by
  intro n
  induction n with
  | zero => intro _ _ _ _ _ _ _ h; exact h.elim
  | succ n ih =>
    intro x0 x1 x2 x3 x4 x5 M h
    replace h : w_X8_inLowestTerms_8_s   (w_X8_inLowestTerms_8    K n)  x0 x1 x2 x3 x4 x5 M K := h
    unfold w_X8_inLowestTerms_8_s at h
    refine ap_iload (q := 10) hc dX8_inLowestTerms_8 rfl 5 rfl ?_
    refine ap_bipush (q := 12) hc dX8_inLowestTerms_10 rfl bc_100 ?_
    refine ap_icmp_ge (q := 15) (tgt := 39) hc dX8_inLowestTerms_12 rfl (by decide) (fun z_1 => ?_) (fun z_1 => ?_)
    · have h := Eq.mp (if_pos z_1) h
      exact ap_sub [0, 1, 2, 3] rfl (bl_X8_inLowestTerms_39 hc hz     h)
    · have h := Eq.mp (if_neg z_1) h
      refine ap_iload (q := 17) hc dX8_inLowestTerms_15 rfl 4 rfl ?_
      refine ap_if_eq (q := 20) (tgt := 39) hc dX8_inLowestTerms_17 rfl (by decide) (fun z_2 => ?_) (fun z_2 => ?_)
      · have h := Eq.mp (if_pos z_2) h
        exact ap_sub [0, 1, 2, 3] rfl (bl_X8_inLowestTerms_39 hc hz     h)
      · have h := Eq.mp (if_neg z_2) h
        refine ap_iload_n (q := 21) hc dX8_inLowestTerms_20 rfl rfl 3 rfl ?_
        refine ap_iload (q := 23) hc dX8_inLowestTerms_21 rfl 4 rfl ?_
        obtain ⟨g_3, h⟩ := h
        refine ap_irem (q := 24) hc dX8_inLowestTerms_23 rfl g_3 ?_
        obtain ⟨x6_4, ex6_4, h⟩ := ap_nm h
        refine ap_istore (q := 26) (lo2 := [(6, .int x6_4), (0, .int x0), (1, .int x1), (2, .int x2), (3, .int x3), (4, .int x4), (5, .int x5)]) hc dX8_inLowestTerms_24 rfl ex6_4 (by decide) rfl ?_
        refine ap_iload (q := 28) hc dX8_inLowestTerms_26 rfl 5 rfl ?_
        refine ap_istore_n (q := 29) (lo2 := [(3, .int x4), (6, .int x6_4), (0, .int x0), (1, .int x1), (2, .int x2), (4, .int x4), (5, .int x5)]) hc dX8_inLowestTerms_28 rfl rfl rfl (by decide) rfl ?_
        refine ap_iload (q := 31) hc dX8_inLowestTerms_29 rfl 1 rfl ?_
        refine ap_istore (q := 33) (lo2 := [(4, .int x6_4), (3, .int x4), (6, .int x6_4), (0, .int x0), (1, .int x1), (2, .int x2), (5, .int x5)]) hc dX8_inLowestTerms_31 rfl rfl (by decide) rfl ?_
        obtain ⟨x5_5, ex5_5, h⟩ := ap_nm h
        refine ap_iinc (q := 36) (lo2 := [(5, .int x5_5), (4, .int x6_4), (3, .int x4), (6, .int x6_4), (0, .int x0), (1, .int x1), (2, .int x2)]) hc dX8_inLowestTerms_33 rfl 6 rfl (by rw [ex5_5]; rfl) (by decide) rfl ?_
        refine ap_goto (q := 8) hc dX8_inLowestTerms_36 (by decide) ?_
        exact ap_sub [4, 5, 6, 2, 1, 0] rfl (ih _ _ _ _ _ _ _ h)
def w_X8_inLowestTerms    (x0 : Int32) (x1 : Int32) (x2 : Int32) (M : ap_Mem) (K : Int64 → ap_Mem → Prop) : Prop :=
w_X8_inLowestTerms_8    K 4096 x0 x1 x2 x1 x0 0 M
theorem bl_X8_inLowestTerms_0 {x : ap_X} {g : ap_G} (hc : ap_Cx x g cX8_inLowestTerms RX8 7) {K : Int64 → ap_Mem → Prop} (hz : ap_Ends x g 0 (some .long) (ap_Ql K))       {x0 : Int32} {x1 : Int32} {x2 : Int32} {M : ap_Mem}  (h : w_X8_inLowestTerms    x0 x1 x2 M K) : ap_V x g 7 0 [(0, .int x0), (1, .int x1), (2, .int x2)] [] M := by
  unfold w_X8_inLowestTerms at h
  refine ap_iload_n (q := 1) hc dX8_inLowestTerms_0 rfl rfl 1 rfl ?_
  refine ap_istore_n (q := 2) (lo2 := [(3, .int x1), (0, .int x0), (1, .int x1), (2, .int x2)]) hc dX8_inLowestTerms_1 rfl rfl rfl (by decide) rfl ?_
  refine ap_iload_n (q := 3) hc dX8_inLowestTerms_2 rfl rfl 1 rfl ?_
  refine ap_istore (q := 5) (lo2 := [(4, .int x0), (3, .int x1), (0, .int x0), (1, .int x1), (2, .int x2)]) hc dX8_inLowestTerms_3 rfl rfl (by decide) rfl ?_
  refine ap_iconst (q := 6) hc dX8_inLowestTerms_5 rfl ic_0 ?_
  refine ap_istore (q := 8) (lo2 := [(5, .int 0), (4, .int x0), (3, .int x1), (0, .int x0), (1, .int x1), (2, .int x2)]) hc dX8_inLowestTerms_6 rfl rfl (by decide) rfl ?_
  exact ap_sub [3, 4, 5, 2, 1, 0] rfl (bl_X8_inLowestTerms_8 hc hz    _ _ _ _ _ _ _ _ h)
theorem ok_X8_inLowestTerms {l : Launch} {g : ap_G} (hg : ap_GOK g)   {x0 : Int32} {x1 : Int32} {x2 : Int32} {M : ap_Mem} {K : Int64 → ap_Mem → Prop} (h : w_X8_inLowestTerms  x0 x1 x2 M K) : ap_Ct l g yX8_inLowestTerms cX8_inLowestTerms 7 (some .long) 0 [.int x0, .int x1, .int x2] M (ap_Ql K) := by
  refine ap_Ct_of hg (by decide +kernel) (Nat.le_of_ble_eq_true rfl) (fun x hx hc hz => ?_)
  subst hx
  exact bl_X8_inLowestTerms_0 hc hz  h
def w_X0_note_19   (q : Nat)  (M : ap_Mem) (K : ap_Mem → Prop) : Prop :=
∀ M_1 : ap_Mem, M_1 = ap_mu M q 1 ((M q 1) + 1) → K M_1
theorem bl_X0_note_19 {x : ap_X} {g : ap_G} (hc : ap_Cx x g cX0_note RX0 2) {K : ap_Mem → Prop} (hz : ap_Ends x g 0 none (ap_Qv K))   {q : Nat} (hq : ap_kd q = 0)    {M : ap_Mem}  (h : w_X0_note_19   q  M K) : ap_V x g 2 19 [(0, .ref (ap_ad g q))] [] M := by
  unfold w_X0_note_19 at h
  refine ap_aload_n (q := 20) hc dX0_note_19 rfl rfl 0 rfl ?_
  refine ap_dup (q := 21) hc dX0_note_20 rfl rfl ?_
  refine ap_getI (q := 24) lg_RX0_15 hq hc dX0_note_21 rfl ?_
  refine ap_iconst (q := 25) hc dX0_note_24 rfl ic_1 ?_
  refine ap_iadd (q := 26) hc dX0_note_25 rfl ?_
  obtain ⟨M_1, eM_1, h⟩ := ap_nm h
  refine ap_putI (q := 29) lp_RX0_15 hq eM_1 hc dX0_note_26 rfl ?_
  exact ap_vret hc hz dX0_note_29 h
def w_X0_note   (q : Nat) (x1 : Int32) (M : ap_Mem) (K : ap_Mem → Prop) : Prop :=
(if 20 ≤ (M q 1) then (w_X0_note_19   q  M K) else (vp_in (M q 1) 20 ∧ ∀ M_3 : ap_Mem, M_3 = ap_mu M (q + 1) (M q 1).toNatClampNeg x1 → w_X0_note_19   q  M_3 K))
theorem bl_X0_note_0 {x : ap_X} {g : ap_G} (hc : ap_Cx x g cX0_note RX0 2) {K : ap_Mem → Prop} (hz : ap_Ends x g 0 none (ap_Qv K))   {q : Nat} (hq : ap_kd q = 0)   {x1 : Int32} {M : ap_Mem}  (h : w_X0_note   q x1 M K) : ap_V x g 2 0 [(0, .ref (ap_ad g q)), (1, .int x1)] [] M := by
  unfold w_X0_note at h
  refine ap_aload_n (q := 1) hc dX0_note_0 rfl rfl 0 rfl ?_
  refine ap_getI (q := 4) lg_RX0_15 hq hc dX0_note_1 rfl ?_
  refine ap_bipush (q := 6) hc dX0_note_4 rfl bc_20 ?_
  refine ap_icmp_ge (q := 9) (tgt := 19) hc dX0_note_6 rfl (by decide) (fun z_1 => ?_) (fun z_1 => ?_)
  · have h := Eq.mp (if_pos z_1) h
    exact ap_sub [0] rfl (bl_X0_note_19 hc hz  hq   h)
  · have h := Eq.mp (if_neg z_1) h
    refine ap_aload_n (q := 10) hc dX0_note_9 rfl rfl 0 rfl ?_
    refine ap_getR (q := 13) (r := q + 1) lg_RX0_11 (by decide) hq rfl hc dX0_note_10 rfl ?_
    refine ap_aload_n (q := 14) hc dX0_note_13 rfl rfl 0 rfl ?_
    refine ap_getI (q := 17) lg_RX0_15 hq hc dX0_note_14 rfl ?_
    refine ap_iload_n (q := 18) hc dX0_note_17 rfl rfl 1 rfl ?_
    obtain ⟨g_2, h⟩ := h
    obtain ⟨M_3, eM_3, h⟩ := ap_nm h
    refine ap_iast (q := 19) (ty_0_1 hq) (tn_0_1 hq) g_2 eM_3 hc dX0_note_18 rfl ?_
    exact ap_sub [0] rfl (bl_X0_note_19 hc hz  hq   h)
theorem ok_X0_note {l : Launch} {g : ap_G} (hg : ap_GOK g) {q : Nat} (hq : ap_kd q = 0) {x1 : Int32} {M : ap_Mem} {K : ap_Mem → Prop} (h : w_X0_note q x1 M K) : ap_Ct l g yX0_note cX0_note 2 none 0 [.ref (ap_ad g q), .int x1] M (ap_Qv K) := by
  refine ap_Ct_of hg (by decide +kernel) (Nat.le_of_ble_eq_true rfl) (fun x hx hc hz => ?_)
  subst hx
  exact bl_X0_note_0 hc hz hq h
def w_X0_run_49 (c_X0_run : Nat → Int32 → Int32 → Int32 → Int32 → ap_Mem → (Int32 → ap_Mem → Prop) → Prop)  (q : Nat) (x1 : Int32) (x3 : Int32) (x4 : Int32) (x5 : Int32) (M : ap_Mem) (K : Int32 → ap_Mem → Prop) : Prop :=
vp_in ((x5 * 3) + x1) 21 ∧ ∀ x6_2 : Int32, x6_2 = ap_kT 2 ((x5 * 3) + x1).toNatClampNeg → w_X0_note q x6_2 M (fun M_3 => (if x6_2 = 1 then (K (x3 + (M_3 q 4)) M_3) else (if x6_2 = 2 then (c_X0_run q 0 (M_3 q 2) x3 (x4 + 1) M_3 (fun r_6 M_7 => K (r_6 - (M_7 q 3)) M_7)) else (if x6_2 = 3 then (c_X0_run q 1 (M_3 q 2) x3 (x4 + 1) M_3 (fun r_9 M_10 => K (r_9 * 2) M_10)) else (if x6_2 = 11 then (vp_in x5 7 ∧ c_X0_run q 0 (ap_kT 0 x5.toNatClampNeg) (x3 * 3) (x4 + 1) M_3 (fun r_13 M_14 => K r_13 M_14)) else (if x6_2 = 21 then (vp_in x5 7 ∧ c_X0_run q 1 (ap_kT 0 x5.toNatClampNeg) x3 (x4 + 1) M_3 (fun r_17 M_18 => K (-r_17) M_18)) else (if x6_2 = 31 then (vp_in x5 7 ∧ c_X0_run q 2 (ap_kT 0 x5.toNatClampNeg) x3 (x4 + 1) M_3 (fun r_21 M_22 => K (r_21 ^^^ 7) M_22)) else (if x6_2 = 41 then (vp_in x5 7 ∧ c_X0_run q 2 (ap_kT 0 x5.toNatClampNeg) (x3 - 1) (x4 + 1) M_3 (fun r_25 M_26 => c_X0_run q 0 (M_26 q 2) 2 (x4 + 1) M_26 (fun r_27 M_28 => K (r_25 + r_27) M_28))) else (if x6_2 = 51 then (vp_in x5 7 ∧ c_X0_run q 0 (ap_kT 0 x5.toNatClampNeg) x3 (x4 + 1) M_3 (fun r_31 M_32 => K (r_31 ^^^ (M_32 q 4)) M_32)) else (vp_in x5 7 ∧ c_X0_run q 1 (ap_kT 0 x5.toNatClampNeg) x3 (x4 + 1) M_3 (fun r_34 M_35 => K (r_34 + (M_35 q 3)) M_35)))))))))))
theorem bl_X0_run_49 {x : ap_X} {g : ap_G} (hc : ap_Cx x g cX0_run RX0 8) {K : Int32 → ap_Mem → Prop} {kk : Nat} (hkk : 1 ≤ kk) (hz : ap_Ends x g (kk + 1) (some .int) (ap_Qi K)) {c_X0_run : Nat → Int32 → Int32 → Int32 → Int32 → ap_Mem → (Int32 → ap_Mem → Prop) → Prop} (hr_X0_run : ∀ (q : Nat) (x1 : Int32) (x2 : Int32) (x3 : Int32) (x4 : Int32) (M : ap_Mem) (K : Int32 → ap_Mem → Prop), ap_kd q = 0 → c_X0_run q x1 x2 x3 x4 M K → ap_Ct (xL x) g yX0_run cX0_run 8 (some .int) kk [.ref (ap_ad g q), .int x1, .int x2, .int x3, .int x4] M (ap_Qi K)) {q : Nat} (hq : ap_kd q = 0)   {x1 : Int32} {x3 : Int32} {x4 : Int32} {x5 : Int32} {M : ap_Mem}  (h : w_X0_run_49 c_X0_run  q x1 x3 x4 x5 M K) : ap_V x g 8 49 [(0, .ref (ap_ad g q)), (1, .int x1), (3, .int x3), (4, .int x4), (5, .int x5)] [] M := by
  have hg := hc.2.2.2.2.2.2.2.1
  unfold w_X0_run_49 at h
  refine ap_gets2 (q := 52) fl_RX0_44 hc dX0_run_49 rfl ?_
  refine ap_iload (q := 54) hc dX0_run_52 rfl 4 rfl ?_
  refine ap_iconst (q := 55) hc dX0_run_54 rfl ic_3 ?_
  refine ap_imul (q := 56) hc dX0_run_55 rfl ?_
  refine ap_iload_n (q := 57) hc dX0_run_56 rfl rfl 1 rfl ?_
  refine ap_iadd (q := 58) hc dX0_run_57 rfl ?_
  obtain ⟨g_1, h⟩ := h
  refine ap_kald (q := 59) (by decide) rfl g_1 hc dX0_run_58 rfl ?_
  obtain ⟨x6_2, ex6_2, h⟩ := ap_nm h
  refine ap_istore (q := 61) (lo2 := [(6, .int x6_2), (0, .ref (ap_ad g q)), (1, .int x1), (3, .int x3), (4, .int x4), (5, .int x5)]) hc dX0_run_59 rfl ex6_2 (by decide) rfl ?_
  refine ap_aload_n (q := 62) hc dX0_run_61 rfl rfl 1 rfl ?_
  refine ap_iload (q := 64) hc dX0_run_62 rfl 0 rfl ?_
  refine ap_callV (q := 67) (As := [.int x6_2]) hc (ok_X0_note hg hq h) ml_RX0_50 lk_X0_note lv_X0_note hq rfl (ap_RmE hz (by omega)) rfl rfl (Nat.le_of_ble_eq_true rfl) dX0_run_64 rfl (ap_kv (fun M_3 h => ?_))
  refine ap_iload (q := 69) hc dX0_run_67 rfl 0 rfl ?_
  by_cases z_4 : x6_2 = 1
  · have h := Eq.mp (if_pos z_4) h
    refine ap_look (tgt := 144) (off := 75) hc dX0_run_69 (by decide +kernel) (by rw [z_4]; decide +kernel) (by decide) ?_
    refine ap_iload_n (q := 145) hc dX0_run_144 rfl rfl 3 rfl ?_
    refine ap_aload_n (q := 146) hc dX0_run_145 rfl rfl 1 rfl ?_
    refine ap_getI (q := 149) lg_RX0_25 hq hc dX0_run_146 rfl ?_
    refine ap_iadd (q := 150) hc dX0_run_149 rfl ?_
    exact ap_iret hc hz rfl dX0_run_150 h
  · have h := Eq.mp (if_neg z_4) h
    by_cases z_5 : x6_2 = 2
    · have h := Eq.mp (if_pos z_5) h
      refine ap_look (tgt := 151) (off := 82) hc dX0_run_69 (by decide +kernel) (by rw [z_5]; decide +kernel) (by decide) ?_
      refine ap_aload_n (q := 152) hc dX0_run_151 rfl rfl 1 rfl ?_
      refine ap_iconst (q := 153) hc dX0_run_152 rfl ic_0 ?_
      refine ap_aload_n (q := 154) hc dX0_run_153 rfl rfl 1 rfl ?_
      refine ap_getI (q := 157) lg_RX0_19 hq hc dX0_run_154 rfl ?_
      refine ap_iload_n (q := 158) hc dX0_run_157 rfl rfl 3 rfl ?_
      refine ap_iload (q := 160) hc dX0_run_158 rfl 4 rfl ?_
      refine ap_iconst (q := 161) hc dX0_run_160 rfl ic_1 ?_
      refine ap_iadd (q := 162) hc dX0_run_161 rfl ?_
      refine ap_callV (q := 165) (As := [.int 0, .int (M_3 q 2), .int x3, .int (x4 + 1)]) hc (hr_X0_run _ _ _ _ _ _ _ hq h) ml_RX0_40 lk_X0_run lv_X0_run hq rfl (ap_RmE hz (Nat.le_refl _)) rfl rfl (Nat.le_of_ble_eq_true rfl) dX0_run_162 rfl (ap_ki (fun r_6 M_7 h => ?_))
      refine ap_aload_n (q := 166) hc dX0_run_165 rfl rfl 1 rfl ?_
      refine ap_getI (q := 169) lg_RX0_22 hq hc dX0_run_166 rfl ?_
      refine ap_isub (q := 170) hc dX0_run_169 rfl ?_
      exact ap_iret hc hz rfl dX0_run_170 h
    · have h := Eq.mp (if_neg z_5) h
      by_cases z_8 : x6_2 = 3
      · have h := Eq.mp (if_pos z_8) h
        refine ap_look (tgt := 171) (off := 102) hc dX0_run_69 (by decide +kernel) (by rw [z_8]; decide +kernel) (by decide) ?_
        refine ap_aload_n (q := 172) hc dX0_run_171 rfl rfl 1 rfl ?_
        refine ap_iconst (q := 173) hc dX0_run_172 rfl ic_1 ?_
        refine ap_aload_n (q := 174) hc dX0_run_173 rfl rfl 1 rfl ?_
        refine ap_getI (q := 177) lg_RX0_19 hq hc dX0_run_174 rfl ?_
        refine ap_iload_n (q := 178) hc dX0_run_177 rfl rfl 3 rfl ?_
        refine ap_iload (q := 180) hc dX0_run_178 rfl 4 rfl ?_
        refine ap_iconst (q := 181) hc dX0_run_180 rfl ic_1 ?_
        refine ap_iadd (q := 182) hc dX0_run_181 rfl ?_
        refine ap_callV (q := 185) (As := [.int 1, .int (M_3 q 2), .int x3, .int (x4 + 1)]) hc (hr_X0_run _ _ _ _ _ _ _ hq h) ml_RX0_40 lk_X0_run lv_X0_run hq rfl (ap_RmE hz (Nat.le_refl _)) rfl rfl (Nat.le_of_ble_eq_true rfl) dX0_run_182 rfl (ap_ki (fun r_9 M_10 h => ?_))
        refine ap_iconst (q := 186) hc dX0_run_185 rfl ic_2 ?_
        refine ap_imul (q := 187) hc dX0_run_186 rfl ?_
        exact ap_iret hc hz rfl dX0_run_187 h
      · have h := Eq.mp (if_neg z_8) h
        by_cases z_11 : x6_2 = 11
        · have h := Eq.mp (if_pos z_11) h
          refine ap_look (tgt := 188) (off := 119) hc dX0_run_69 (by decide +kernel) (by rw [z_11]; decide +kernel) (by decide) ?_
          refine ap_aload_n (q := 189) hc dX0_run_188 rfl rfl 1 rfl ?_
          refine ap_iconst (q := 190) hc dX0_run_189 rfl ic_0 ?_
          refine ap_gets0N (q := 193) rfl hc dX0_run_190 rfl ?_
          refine ap_iload (q := 195) hc dX0_run_193 rfl 5 rfl ?_
          obtain ⟨g_12, h⟩ := h
          refine ap_kald (q := 196) (by decide) rfl g_12 hc dX0_run_195 rfl ?_
          refine ap_iload_n (q := 197) hc dX0_run_196 rfl rfl 3 rfl ?_
          refine ap_iconst (q := 198) hc dX0_run_197 rfl ic_3 ?_
          refine ap_imul (q := 199) hc dX0_run_198 rfl ?_
          refine ap_iload (q := 201) hc dX0_run_199 rfl 4 rfl ?_
          refine ap_iconst (q := 202) hc dX0_run_201 rfl ic_1 ?_
          refine ap_iadd (q := 203) hc dX0_run_202 rfl ?_
          refine ap_callV (q := 206) (As := [.int 0, .int (ap_kT 0 x5.toNatClampNeg), .int (x3 * 3), .int (x4 + 1)]) hc (hr_X0_run _ _ _ _ _ _ _ hq h) ml_RX0_40 lk_X0_run lv_X0_run hq rfl (ap_RmE hz (Nat.le_refl _)) rfl rfl (Nat.le_of_ble_eq_true rfl) dX0_run_203 rfl (ap_ki (fun r_13 M_14 h => ?_))
          exact ap_iret hc hz rfl dX0_run_206 h
        · have h := Eq.mp (if_neg z_11) h
          by_cases z_15 : x6_2 = 21
          · have h := Eq.mp (if_pos z_15) h
            refine ap_look (tgt := 207) (off := 138) hc dX0_run_69 (by decide +kernel) (by rw [z_15]; decide +kernel) (by decide) ?_
            refine ap_aload_n (q := 208) hc dX0_run_207 rfl rfl 1 rfl ?_
            refine ap_iconst (q := 209) hc dX0_run_208 rfl ic_1 ?_
            refine ap_gets0N (q := 212) rfl hc dX0_run_209 rfl ?_
            refine ap_iload (q := 214) hc dX0_run_212 rfl 5 rfl ?_
            obtain ⟨g_16, h⟩ := h
            refine ap_kald (q := 215) (by decide) rfl g_16 hc dX0_run_214 rfl ?_
            refine ap_iload_n (q := 216) hc dX0_run_215 rfl rfl 3 rfl ?_
            refine ap_iload (q := 218) hc dX0_run_216 rfl 4 rfl ?_
            refine ap_iconst (q := 219) hc dX0_run_218 rfl ic_1 ?_
            refine ap_iadd (q := 220) hc dX0_run_219 rfl ?_
            refine ap_callV (q := 223) (As := [.int 1, .int (ap_kT 0 x5.toNatClampNeg), .int x3, .int (x4 + 1)]) hc (hr_X0_run _ _ _ _ _ _ _ hq h) ml_RX0_40 lk_X0_run lv_X0_run hq rfl (ap_RmE hz (Nat.le_refl _)) rfl rfl (Nat.le_of_ble_eq_true rfl) dX0_run_220 rfl (ap_ki (fun r_17 M_18 h => ?_))
            refine ap_ineg (q := 224) hc dX0_run_223 rfl ?_
            exact ap_iret hc hz rfl dX0_run_224 h
          · have h := Eq.mp (if_neg z_15) h
            by_cases z_19 : x6_2 = 31
            · have h := Eq.mp (if_pos z_19) h
              refine ap_look (tgt := 225) (off := 156) hc dX0_run_69 (by decide +kernel) (by rw [z_19]; decide +kernel) (by decide) ?_
              refine ap_aload_n (q := 226) hc dX0_run_225 rfl rfl 1 rfl ?_
              refine ap_iconst (q := 227) hc dX0_run_226 rfl ic_2 ?_
              refine ap_gets0N (q := 230) rfl hc dX0_run_227 rfl ?_
              refine ap_iload (q := 232) hc dX0_run_230 rfl 5 rfl ?_
              obtain ⟨g_20, h⟩ := h
              refine ap_kald (q := 233) (by decide) rfl g_20 hc dX0_run_232 rfl ?_
              refine ap_iload_n (q := 234) hc dX0_run_233 rfl rfl 3 rfl ?_
              refine ap_iload (q := 236) hc dX0_run_234 rfl 4 rfl ?_
              refine ap_iconst (q := 237) hc dX0_run_236 rfl ic_1 ?_
              refine ap_iadd (q := 238) hc dX0_run_237 rfl ?_
              refine ap_callV (q := 241) (As := [.int 2, .int (ap_kT 0 x5.toNatClampNeg), .int x3, .int (x4 + 1)]) hc (hr_X0_run _ _ _ _ _ _ _ hq h) ml_RX0_40 lk_X0_run lv_X0_run hq rfl (ap_RmE hz (Nat.le_refl _)) rfl rfl (Nat.le_of_ble_eq_true rfl) dX0_run_238 rfl (ap_ki (fun r_21 M_22 h => ?_))
              refine ap_bipush (q := 243) hc dX0_run_241 rfl bc_7 ?_
              refine ap_ixor (q := 244) hc dX0_run_243 rfl ?_
              exact ap_iret hc hz rfl dX0_run_244 h
            · have h := Eq.mp (if_neg z_19) h
              by_cases z_23 : x6_2 = 41
              · have h := Eq.mp (if_pos z_23) h
                refine ap_look (tgt := 245) (off := 176) hc dX0_run_69 (by decide +kernel) (by rw [z_23]; decide +kernel) (by decide) ?_
                refine ap_aload_n (q := 246) hc dX0_run_245 rfl rfl 1 rfl ?_
                refine ap_iconst (q := 247) hc dX0_run_246 rfl ic_2 ?_
                refine ap_gets0N (q := 250) rfl hc dX0_run_247 rfl ?_
                refine ap_iload (q := 252) hc dX0_run_250 rfl 5 rfl ?_
                obtain ⟨g_24, h⟩ := h
                refine ap_kald (q := 253) (by decide) rfl g_24 hc dX0_run_252 rfl ?_
                refine ap_iload_n (q := 254) hc dX0_run_253 rfl rfl 3 rfl ?_
                refine ap_iconst (q := 255) hc dX0_run_254 rfl ic_1 ?_
                refine ap_isub (q := 256) hc dX0_run_255 rfl ?_
                refine ap_iload (q := 258) hc dX0_run_256 rfl 4 rfl ?_
                refine ap_iconst (q := 259) hc dX0_run_258 rfl ic_1 ?_
                refine ap_iadd (q := 260) hc dX0_run_259 rfl ?_
                refine ap_callV (q := 263) (As := [.int 2, .int (ap_kT 0 x5.toNatClampNeg), .int (x3 - 1), .int (x4 + 1)]) hc (hr_X0_run _ _ _ _ _ _ _ hq h) ml_RX0_40 lk_X0_run lv_X0_run hq rfl (ap_RmE hz (Nat.le_refl _)) rfl rfl (Nat.le_of_ble_eq_true rfl) dX0_run_260 rfl (ap_ki (fun r_25 M_26 h => ?_))
                refine ap_istore (q := 265) (lo2 := [(7, .int r_25), (6, .int x6_2), (0, .ref (ap_ad g q)), (1, .int x1), (3, .int x3), (4, .int x4), (5, .int x5)]) hc dX0_run_263 rfl rfl (by decide) rfl ?_
                refine ap_iload (q := 267) hc dX0_run_265 rfl 0 rfl ?_
                refine ap_aload_n (q := 268) hc dX0_run_267 rfl rfl 2 rfl ?_
                refine ap_iconst (q := 269) hc dX0_run_268 rfl ic_0 ?_
                refine ap_aload_n (q := 270) hc dX0_run_269 rfl rfl 2 rfl ?_
                refine ap_getI (q := 273) lg_RX0_19 hq hc dX0_run_270 rfl ?_
                refine ap_iconst (q := 274) hc dX0_run_273 rfl ic_2 ?_
                refine ap_iload (q := 276) hc dX0_run_274 rfl 5 rfl ?_
                refine ap_iconst (q := 277) hc dX0_run_276 rfl ic_1 ?_
                refine ap_iadd (q := 278) hc dX0_run_277 rfl ?_
                refine ap_callV (q := 281) (As := [.int 0, .int (M_26 q 2), .int 2, .int (x4 + 1)]) hc (hr_X0_run _ _ _ _ _ _ _ hq h) ml_RX0_40 lk_X0_run lv_X0_run hq rfl (ap_RmE hz (Nat.le_refl _)) rfl rfl (Nat.le_of_ble_eq_true rfl) dX0_run_278 rfl (ap_ki (fun r_27 M_28 h => ?_))
                refine ap_iadd (q := 282) hc dX0_run_281 rfl ?_
                exact ap_iret hc hz rfl dX0_run_282 h
              · have h := Eq.mp (if_neg z_23) h
                by_cases z_29 : x6_2 = 51
                · have h := Eq.mp (if_pos z_29) h
                  refine ap_look (tgt := 283) (off := 214) hc dX0_run_69 (by decide +kernel) (by rw [z_29]; decide +kernel) (by decide) ?_
                  refine ap_aload_n (q := 284) hc dX0_run_283 rfl rfl 1 rfl ?_
                  refine ap_iconst (q := 285) hc dX0_run_284 rfl ic_0 ?_
                  refine ap_gets0N (q := 288) rfl hc dX0_run_285 rfl ?_
                  refine ap_iload (q := 290) hc dX0_run_288 rfl 5 rfl ?_
                  obtain ⟨g_30, h⟩ := h
                  refine ap_kald (q := 291) (by decide) rfl g_30 hc dX0_run_290 rfl ?_
                  refine ap_iload_n (q := 292) hc dX0_run_291 rfl rfl 3 rfl ?_
                  refine ap_iload (q := 294) hc dX0_run_292 rfl 4 rfl ?_
                  refine ap_iconst (q := 295) hc dX0_run_294 rfl ic_1 ?_
                  refine ap_iadd (q := 296) hc dX0_run_295 rfl ?_
                  refine ap_callV (q := 299) (As := [.int 0, .int (ap_kT 0 x5.toNatClampNeg), .int x3, .int (x4 + 1)]) hc (hr_X0_run _ _ _ _ _ _ _ hq h) ml_RX0_40 lk_X0_run lv_X0_run hq rfl (ap_RmE hz (Nat.le_refl _)) rfl rfl (Nat.le_of_ble_eq_true rfl) dX0_run_296 rfl (ap_ki (fun r_31 M_32 h => ?_))
                  refine ap_aload_n (q := 300) hc dX0_run_299 rfl rfl 1 rfl ?_
                  refine ap_getI (q := 303) lg_RX0_25 hq hc dX0_run_300 rfl ?_
                  refine ap_ixor (q := 304) hc dX0_run_303 rfl ?_
                  exact ap_iret hc hz rfl dX0_run_304 h
                · have h := Eq.mp (if_neg z_29) h
                  refine ap_look (tgt := 305) hc dX0_run_69 (by decide +kernel) (off := 236) (by show Op.lookupswitch.offset [(1, 75), (2, 82), (3, 102), (11, 119), (21, 138), (31, 156), (41, 176), (51, 214)] 236 _ = _; rw [lv_osw z_4 (by decide), lv_osw z_5 (by decide), lv_osw z_8 (by decide), lv_osw z_11 (by decide), lv_osw z_15 (by decide), lv_osw z_19 (by decide), lv_osw z_23 (by decide), lv_osw z_29 (by decide)]; rfl) (by decide) ?_
                  refine ap_aload_n (q := 306) hc dX0_run_305 rfl rfl 1 rfl ?_
                  refine ap_iconst (q := 307) hc dX0_run_306 rfl ic_1 ?_
                  refine ap_gets0N (q := 310) rfl hc dX0_run_307 rfl ?_
                  refine ap_iload (q := 312) hc dX0_run_310 rfl 5 rfl ?_
                  obtain ⟨g_33, h⟩ := h
                  refine ap_kald (q := 313) (by decide) rfl g_33 hc dX0_run_312 rfl ?_
                  refine ap_iload_n (q := 314) hc dX0_run_313 rfl rfl 3 rfl ?_
                  refine ap_iload (q := 316) hc dX0_run_314 rfl 4 rfl ?_
                  refine ap_iconst (q := 317) hc dX0_run_316 rfl ic_1 ?_
                  refine ap_iadd (q := 318) hc dX0_run_317 rfl ?_
                  refine ap_callV (q := 321) (As := [.int 1, .int (ap_kT 0 x5.toNatClampNeg), .int x3, .int (x4 + 1)]) hc (hr_X0_run _ _ _ _ _ _ _ hq h) ml_RX0_40 lk_X0_run lv_X0_run hq rfl (ap_RmE hz (Nat.le_refl _)) rfl rfl (Nat.le_of_ble_eq_true rfl) dX0_run_318 rfl (ap_ki (fun r_34 M_35 h => ?_))
                  refine ap_aload_n (q := 322) hc dX0_run_321 rfl rfl 1 rfl ?_
                  refine ap_getI (q := 325) lg_RX0_22 hq hc dX0_run_322 rfl ?_
                  refine ap_iadd (q := 326) hc dX0_run_325 rfl ?_
                  exact ap_iret hc hz rfl dX0_run_326 h
def w_X0_run_15_s (c_X0_run : Nat → Int32 → Int32 → Int32 → Int32 → ap_Mem → (Int32 → ap_Mem → Prop) → Prop)  (kL15 : Int32 → Int32 → Int32 → Int32 → Int32 → ap_Mem → Prop) (q : Nat) (x1 : Int32) (x3 : Int32) (x4 : Int32) (x5 : Int32) (x6 : Int32) (M : ap_Mem) (K : Int32 → ap_Mem → Prop) : Prop :=
(if 7 ≤ x6 then (w_X0_run_49 c_X0_run  q x1 x3 x4 x5 M K) else (vp_in ((x5 * 3) + x1) 21 ∧ (if (ap_kT 2 ((x5 * 3) + x1).toNatClampNeg) = 0 then (vp_in x5 7 ∧ ∀ x5_5 : Int32, x5_5 = ap_kT 0 x5.toNatClampNeg → ∀ x6_6 : Int32, x6_6 = x6 + 1 → kL15 x1 x3 x4 x5_5 x6_6 M) else (w_X0_run_49 c_X0_run  q x1 x3 x4 x5 M K))))
def w_X0_run_15 (c_X0_run : Nat → Int32 → Int32 → Int32 → Int32 → ap_Mem → (Int32 → ap_Mem → Prop) → Prop)  (q : Nat) (K : Int32 → ap_Mem → Prop) : Nat → Int32 → Int32 → Int32 → Int32 → Int32 → ap_Mem → Prop
  | 0, _, _, _, _, _, _ => False
  | n + 1, x1, x3, x4, x5, x6, M => w_X0_run_15_s c_X0_run  (w_X0_run_15 c_X0_run  q K n) q x1 x3 x4 x5 x6 M K
theorem bl_X0_run_15 {x : ap_X} {g : ap_G} (hc : ap_Cx x g cX0_run RX0 8) {K : Int32 → ap_Mem → Prop} {kk : Nat} (hkk : 1 ≤ kk) (hz : ap_Ends x g (kk + 1) (some .int) (ap_Qi K)) {c_X0_run : Nat → Int32 → Int32 → Int32 → Int32 → ap_Mem → (Int32 → ap_Mem → Prop) → Prop} (hr_X0_run : ∀ (q : Nat) (x1 : Int32) (x2 : Int32) (x3 : Int32) (x4 : Int32) (M : ap_Mem) (K : Int32 → ap_Mem → Prop), ap_kd q = 0 → c_X0_run q x1 x2 x3 x4 M K → ap_Ct (xL x) g yX0_run cX0_run 8 (some .int) kk [.ref (ap_ad g q), .int x1, .int x2, .int x3, .int x4] M (ap_Qi K)) {q : Nat} (hq : ap_kd q = 0)   : ∀ (n : Nat) (x1 : Int32) (x3 : Int32) (x4 : Int32) (x5 : Int32) (x6 : Int32) (M : ap_Mem), w_X0_run_15 c_X0_run  q K n x1 x3 x4 x5 x6 M → ap_V x g 8 15 [(0, .ref (ap_ad g q)), (1, .int x1), (3, .int x3), (4, .int x4), (5, .int x5), (6, .int x6)] [] M := by
  intro n
  induction n with
  | zero => intro _ _ _ _ _ _ h; exact h.elim
  | succ n ih =>
    intro x1 x3 x4 x5 x6 M h
    replace h : w_X0_run_15_s c_X0_run  (w_X0_run_15 c_X0_run  q K n) q x1 x3 x4 x5 x6 M K := h
    unfold w_X0_run_15_s at h
    refine ap_iload (q := 17) hc dX0_run_15 rfl 5 rfl ?_
    refine ap_bipush (q := 19) hc dX0_run_17 rfl bc_7 ?_
    refine ap_icmp_ge (q := 22) (tgt := 49) hc dX0_run_19 rfl (by decide) (fun z_1 => ?_) (fun z_1 => ?_)
    · have h := Eq.mp (if_pos z_1) h
      exact ap_sub [0, 1, 2, 3, 4] rfl (bl_X0_run_49 hc hkk hz hr_X0_run hq   h)
    · have h := Eq.mp (if_neg z_1) h
      refine ap_gets2 (q := 25) fl_RX0_44 hc dX0_run_22 rfl ?_
      refine ap_iload (q := 27) hc dX0_run_25 rfl 4 rfl ?_
      refine ap_iconst (q := 28) hc dX0_run_27 rfl ic_3 ?_
      refine ap_imul (q := 29) hc dX0_run_28 rfl ?_
      refine ap_iload_n (q := 30) hc dX0_run_29 rfl rfl 1 rfl ?_
      refine ap_iadd (q := 31) hc dX0_run_30 rfl ?_
      obtain ⟨g_2, h⟩ := h
      refine ap_kald (q := 32) (by decide) rfl g_2 hc dX0_run_31 rfl ?_
      refine ap_if_ne (q := 35) (tgt := 49) hc dX0_run_32 rfl (by decide) (fun z_3 => ?_) (fun z_3 => ?_)
      · have h := Eq.mp (if_neg z_3) h
        exact ap_sub [0, 1, 2, 3, 4] rfl (bl_X0_run_49 hc hkk hz hr_X0_run hq   h)
      · have h := Eq.mp (if_pos z_3) h
        refine ap_gets0N (q := 38) rfl hc dX0_run_35 rfl ?_
        refine ap_iload (q := 40) hc dX0_run_38 rfl 4 rfl ?_
        obtain ⟨g_4, h⟩ := h
        refine ap_kald (q := 41) (by decide) rfl g_4 hc dX0_run_40 rfl ?_
        obtain ⟨x5_5, ex5_5, h⟩ := ap_nm h
        refine ap_istore (q := 43) (lo2 := [(5, .int x5_5), (0, .ref (ap_ad g q)), (1, .int x1), (3, .int x3), (4, .int x4), (6, .int x6)]) hc dX0_run_41 rfl ex5_5 (by decide) rfl ?_
        obtain ⟨x6_6, ex6_6, h⟩ := ap_nm h
        refine ap_iinc (q := 46) (lo2 := [(6, .int x6_6), (5, .int x5_5), (0, .ref (ap_ad g q)), (1, .int x1), (3, .int x3), (4, .int x4)]) hc dX0_run_43 rfl 5 rfl (by rw [ex6_6]; rfl) (by decide) rfl ?_
        refine ap_goto (q := 15) hc dX0_run_46 (by decide) ?_
        exact ap_sub [2, 3, 4, 5, 1, 0] rfl (ih _ _ _ _ _ _ h)
def wf_X0_run (c_X0_run : Nat → Int32 → Int32 → Int32 → Int32 → ap_Mem → (Int32 → ap_Mem → Prop) → Prop)  (q : Nat) (x1 : Int32) (x2 : Int32) (x3 : Int32) (x4 : Int32) (M : ap_Mem) (K : Int32 → ap_Mem → Prop) : Prop :=
(if x4 ≤ 12 then (w_X0_run_15 c_X0_run  q K 4096 x1 x3 x4 x2 0 M) else (K 0 M))
theorem bl_X0_run_0 {x : ap_X} {g : ap_G} (hc : ap_Cx x g cX0_run RX0 8) {K : Int32 → ap_Mem → Prop} {kk : Nat} (hkk : 1 ≤ kk) (hz : ap_Ends x g (kk + 1) (some .int) (ap_Qi K)) {c_X0_run : Nat → Int32 → Int32 → Int32 → Int32 → ap_Mem → (Int32 → ap_Mem → Prop) → Prop} (hr_X0_run : ∀ (q : Nat) (x1 : Int32) (x2 : Int32) (x3 : Int32) (x4 : Int32) (M : ap_Mem) (K : Int32 → ap_Mem → Prop), ap_kd q = 0 → c_X0_run q x1 x2 x3 x4 M K → ap_Ct (xL x) g yX0_run cX0_run 8 (some .int) kk [.ref (ap_ad g q), .int x1, .int x2, .int x3, .int x4] M (ap_Qi K)) {q : Nat} (hq : ap_kd q = 0)   {x1 : Int32} {x2 : Int32} {x3 : Int32} {x4 : Int32} {M : ap_Mem}  (h : wf_X0_run c_X0_run  q x1 x2 x3 x4 M K) : ap_V x g 8 0 [(0, .ref (ap_ad g q)), (1, .int x1), (2, .int x2), (3, .int x3), (4, .int x4)] [] M := by
  unfold wf_X0_run at h
  refine ap_iload (q := 2) hc dX0_run_0 rfl 4 rfl ?_
  refine ap_bipush (q := 4) hc dX0_run_2 rfl bc_12 ?_
  refine ap_icmp_le (q := 7) (tgt := 9) hc dX0_run_4 rfl (by decide) (fun z_1 => ?_) (fun z_1 => ?_)
  · have h := Eq.mp (if_pos z_1) h
    refine ap_iload_n (q := 10) hc dX0_run_9 rfl rfl 2 rfl ?_
    refine ap_istore (q := 12) (lo2 := [(5, .int x2), (0, .ref (ap_ad g q)), (1, .int x1), (2, .int x2), (3, .int x3), (4, .int x4)]) hc dX0_run_10 rfl rfl (by decide) rfl ?_
    refine ap_iconst (q := 13) hc dX0_run_12 rfl ic_0 ?_
    refine ap_istore (q := 15) (lo2 := [(6, .int 0), (5, .int x2), (0, .ref (ap_ad g q)), (1, .int x1), (2, .int x2), (3, .int x3), (4, .int x4)]) hc dX0_run_13 rfl rfl (by decide) rfl ?_
    exact ap_sub [2, 3, 5, 6, 1, 0] rfl (bl_X0_run_15 hc hkk hz hr_X0_run hq  _ _ _ _ _ _ _ h)
  · have h := Eq.mp (if_neg z_1) h
    refine ap_iconst (q := 8) hc dX0_run_7 rfl ic_0 ?_
    exact ap_iret hc hz rfl dX0_run_8 h
def wr_X0_run : Nat → Nat → Nat → Int32 → Int32 → Int32 → Int32 → ap_Mem → (Int32 → ap_Mem → Prop) → Prop
  | 0 => fun _ _ _ _ _ _ _ _ => False
  | n + 1 => fun sel => wf_X0_run (wr_X0_run n 0)
theorem okr_X0_run {l : Launch} {g : ap_G} (hg : ap_GOK g) : ∀ d : Nat, (∀ (q : Nat) (x1 : Int32) (x2 : Int32) (x3 : Int32) (x4 : Int32) (M : ap_Mem) (K : Int32 → ap_Mem → Prop), ap_kd q = 0 → wr_X0_run d 0 q x1 x2 x3 x4 M K → ap_Ct l g yX0_run cX0_run 8 (some .int) (1 + d) [.ref (ap_ad g q), .int x1, .int x2, .int x3, .int x4] M (ap_Qi K)) := by
  intro d
  induction d with
  | zero => exact fun _ _ _ _ _ _ _ _ h => h.elim
  | succ d ih =>
      intro q x1 x2 x3 x4 M K hq h
      refine ap_Ct_of hg (by decide +kernel) (Nat.le_of_ble_eq_true rfl) (fun x hx hc hz => ?_)
      subst hx
      exact bl_X0_run_0 hc (Nat.le_add_right 1 d) hz ih hq h
def w_X0_run (q : Nat) (x1 : Int32) (x2 : Int32) (x3 : Int32) (x4 : Int32) (M : ap_Mem) (K : Int32 → ap_Mem → Prop) : Prop := wr_X0_run 16 0 q x1 x2 x3 x4 M K
theorem ok_X0_run {l : Launch} {g : ap_G} (hg : ap_GOK g) {q : Nat} (hq : ap_kd q = 0) {x1 : Int32} {x2 : Int32} {x3 : Int32} {x4 : Int32} {M : ap_Mem} {K : Int32 → ap_Mem → Prop} (h : w_X0_run q x1 x2 x3 x4 M K) : ap_Ct l g yX0_run cX0_run 8 (some .int) 17 [.ref (ap_ad g q), .int x1, .int x2, .int x3, .int x4] M (ap_Qi K) := (okr_X0_run hg 16) _ _ _ _ _ _ _ hq h
def w_X0_start   (q : Nat) (o1 : Nat) (x2 : Int32) (x3 : Int32) (x4 : Int32) (M : ap_Mem) (K : Int32 → ap_Mem → Prop) : Prop :=
vp_in x2 6 ∧ ∀ M_2 : ap_Mem, M_2 = ap_mu M q 2 (M (o1 + 1) x2.toNatClampNeg) → vp_in x2 6 ∧ ∀ M_4 : ap_Mem, M_4 = ap_mu M_2 q 3 (M_2 (o1 + 2) x2.toNatClampNeg) → ∀ M_5 : ap_Mem, M_5 = ap_mu M_4 q 4 x2 → w_X0_run q x3 (M_5 q 2) x4 0 M_5 (fun r_6 M_7 => K r_6 M_7)
theorem bl_X0_start_0 {x : ap_X} {g : ap_G} (hc : ap_Cx x g cX0_start RX0 5) {K : Int32 → ap_Mem → Prop} (hz : ap_Ends x g 18 (some .int) (ap_Qi K))   {q : Nat} {o1 : Nat} (hq : ap_kd q = 0) (ho1 : ap_kd o1 = 3)   {x2 : Int32} {x3 : Int32} {x4 : Int32} {M : ap_Mem}  (h : w_X0_start   q o1 x2 x3 x4 M K) : ap_V x g 5 0 [(0, .ref (ap_ad g q)), (1, .ref (ap_ad g o1)), (2, .int x2), (3, .int x3), (4, .int x4)] [] M := by
  have hg := hc.2.2.2.2.2.2.2.1
  unfold w_X0_start at h
  refine ap_aload_n (q := 1) hc dX0_start_0 rfl rfl 0 rfl ?_
  refine ap_aload_n (q := 2) hc dX0_start_1 rfl rfl 1 rfl ?_
  refine ap_getR (q := 5) (r := o1 + 1) lg_RX0_34 (by decide) ho1 rfl hc dX0_start_2 rfl ?_
  refine ap_iload_n (q := 6) hc dX0_start_5 rfl rfl 2 rfl ?_
  obtain ⟨g_1, h⟩ := h
  refine ap_iald (q := 7) (ty_3_1 ho1) (tn_3_1 ho1) g_1 hc dX0_start_6 rfl ?_
  obtain ⟨M_2, eM_2, h⟩ := ap_nm h
  refine ap_putI (q := 10) lp_RX0_19 hq eM_2 hc dX0_start_7 rfl ?_
  refine ap_aload_n (q := 11) hc dX0_start_10 rfl rfl 0 rfl ?_
  refine ap_aload_n (q := 12) hc dX0_start_11 rfl rfl 1 rfl ?_
  refine ap_getR (q := 15) (r := o1 + 2) lg_RX0_38 (by decide) ho1 rfl hc dX0_start_12 rfl ?_
  refine ap_iload_n (q := 16) hc dX0_start_15 rfl rfl 2 rfl ?_
  obtain ⟨g_3, h⟩ := h
  refine ap_iald (q := 17) (ty_3_2 ho1) (tn_3_2 ho1) g_3 hc dX0_start_16 rfl ?_
  obtain ⟨M_4, eM_4, h⟩ := ap_nm h
  refine ap_putI (q := 20) lp_RX0_22 hq eM_4 hc dX0_start_17 rfl ?_
  refine ap_aload_n (q := 21) hc dX0_start_20 rfl rfl 0 rfl ?_
  refine ap_iload_n (q := 22) hc dX0_start_21 rfl rfl 2 rfl ?_
  obtain ⟨M_5, eM_5, h⟩ := ap_nm h
  refine ap_putI (q := 25) lp_RX0_25 hq eM_5 hc dX0_start_22 rfl ?_
  refine ap_aload_n (q := 26) hc dX0_start_25 rfl rfl 0 rfl ?_
  refine ap_iload_n (q := 27) hc dX0_start_26 rfl rfl 3 rfl ?_
  refine ap_aload_n (q := 28) hc dX0_start_27 rfl rfl 0 rfl ?_
  refine ap_getI (q := 31) lg_RX0_19 hq hc dX0_start_28 rfl ?_
  refine ap_iload (q := 33) hc dX0_start_31 rfl 4 rfl ?_
  refine ap_iconst (q := 34) hc dX0_start_33 rfl ic_0 ?_
  refine ap_callV (q := 37) (As := [.int x3, .int (M_5 q 2), .int x4, .int 0]) hc (ok_X0_run hg hq h) ml_RX0_40 lk_X0_run lv_X0_run hq rfl (ap_RmE hz (by decide)) rfl rfl (Nat.le_of_ble_eq_true rfl) dX0_start_34 rfl (ap_ki (fun r_6 M_7 h => ?_))
  exact ap_iret hc hz rfl dX0_start_37 h
theorem ok_X0_start {l : Launch} {g : ap_G} (hg : ap_GOK g) {q : Nat} {o1 : Nat} (hq : ap_kd q = 0) (ho1 : ap_kd o1 = 3) {x2 : Int32} {x3 : Int32} {x4 : Int32} {M : ap_Mem} {K : Int32 → ap_Mem → Prop} (h : w_X0_start q o1 x2 x3 x4 M K) : ap_Ct l g yX0_start cX0_start 5 (some .int) 18 [.ref (ap_ad g q), .ref (ap_ad g o1), .int x2, .int x3, .int x4] M (ap_Qi K) := by
  refine ap_Ct_of hg (by decide +kernel) (Nat.le_of_ble_eq_true rfl) (fun x hx hc hz => ?_)
  subst hx
  exact bl_X0_start_0 hc hz hq ho1 h
def w_X0_inTrace   (q : Nat)  (M : ap_Mem) (K : Int32 → ap_Mem → Prop) : Prop :=
K (ap_min (M q 1) 20) M
theorem bl_X0_inTrace_0 {x : ap_X} {g : ap_G} (hc : ap_Cx x g cX0_inTrace RX0 1) {K : Int32 → ap_Mem → Prop} (hz : ap_Ends x g 1 (some .int) (ap_Qi K))   {q : Nat} (hq : ap_kd q = 0)    {M : ap_Mem}  (h : w_X0_inTrace   q  M K) : ap_V x g 1 0 [(0, .ref (ap_ad g q))] [] M := by
  unfold w_X0_inTrace at h
  refine ap_aload_n (q := 1) hc dX0_inTrace_0 rfl rfl 0 rfl ?_
  refine ap_getI (q := 4) lg_RX0_15 hq hc dX0_inTrace_1 rfl ?_
  refine ap_bipush (q := 6) hc dX0_inTrace_4 rfl bc_20 ?_
  refine ap_mmin (q := 9) lm_RX0_28 (ap_RmE hz (by decide)) (Nat.le_of_ble_eq_true rfl) hc dX0_inTrace_6 rfl ?_
  exact ap_iret hc hz rfl dX0_inTrace_9 h
theorem ok_X0_inTrace {l : Launch} {g : ap_G} (hg : ap_GOK g) {q : Nat} (hq : ap_kd q = 0)  {M : ap_Mem} {K : Int32 → ap_Mem → Prop} (h : w_X0_inTrace q  M K) : ap_Ct l g yX0_inTrace cX0_inTrace 1 (some .int) 1 [.ref (ap_ad g q)] M (ap_Qi K) := by
  refine ap_Ct_of hg (by decide +kernel) (Nat.le_of_ble_eq_true rfl) (fun x hx hc hz => ?_)
  subst hx
  exact bl_X0_inTrace_0 hc hz hq h
