theorem d_KReader_tag_0 : decode b_KReader_tag 0 = .ok (.aload_n 0, 1) := by decide +kernel
theorem d_KReader_tag_1 : decode b_KReader_tag 1 = .ok (.aload_n 0, 1) := by decide +kernel
theorem d_KReader_tag_2 : decode b_KReader_tag 2 = .ok (.getfield 379, 3) := by decide +kernel
theorem d_KReader_tag_5 : decode b_KReader_tag 5 = .ok (.iconst 1, 1) := by decide +kernel
theorem d_KReader_tag_6 : decode b_KReader_tag 6 = .ok (.iadd, 1) := by decide +kernel
theorem d_KReader_tag_7 : decode b_KReader_tag 7 = .ok (.invokevirtual 341, 3) := by decide +kernel
theorem d_KReader_tag_10 : decode b_KReader_tag 10 = .ok (.istore_n 1, 1) := by decide +kernel
theorem d_KReader_tag_11 : decode b_KReader_tag 11 = .ok (.iload_n 1, 1) := by decide +kernel
theorem d_KReader_tag_12 : decode b_KReader_tag 12 = .ok (.istore_n 2, 1) := by decide +kernel
theorem d_KReader_tag_13 : decode b_KReader_tag 13 = .ok (.aload_n 0, 1) := by decide +kernel
theorem d_KReader_tag_14 : decode b_KReader_tag 14 = .ok (.iload_n 1, 1) := by decide +kernel
theorem d_KReader_tag_15 : decode b_KReader_tag 15 = .ok (.invokevirtual 333, 3) := by decide +kernel
theorem d_KReader_tag_18 : decode b_KReader_tag 18 = .ok (.istore_n 3, 1) := by decide +kernel
theorem d_KReader_tag_19 : decode b_KReader_tag 19 = .ok (.iload_n 3, 1) := by decide +kernel
theorem d_KReader_tag_20 : decode b_KReader_tag 20 = .ok (.ifCond .lt 34, 3) := by decide +kernel
theorem d_KReader_tag_23 : decode b_KReader_tag 23 = .ok (.aload_n 0, 1) := by decide +kernel
theorem d_KReader_tag_24 : decode b_KReader_tag 24 = .ok (.iload_n 3, 1) := by decide +kernel
theorem d_KReader_tag_25 : decode b_KReader_tag 25 = .ok (.invokevirtual 341, 3) := by decide +kernel
theorem d_KReader_tag_28 : decode b_KReader_tag 28 = .ok (.ifCond .lt 26, 3) := by decide +kernel
theorem d_KReader_tag_31 : decode b_KReader_tag 31 = .ok (.aload_n 0, 1) := by decide +kernel
theorem d_KReader_tag_32 : decode b_KReader_tag 32 = .ok (.aload_n 0, 1) := by decide +kernel
theorem d_KReader_tag_33 : decode b_KReader_tag 33 = .ok (.aload_n 0, 1) := by decide +kernel
theorem d_KReader_tag_34 : decode b_KReader_tag 34 = .ok (.iload_n 3, 1) := by decide +kernel
theorem d_KReader_tag_35 : decode b_KReader_tag 35 = .ok (.invokevirtual 341, 3) := by decide +kernel
theorem d_KReader_tag_38 : decode b_KReader_tag 38 = .ok (.invokevirtual 432, 3) := by decide +kernel
theorem d_KReader_tag_41 : decode b_KReader_tag 41 = .ok (.invokevirtual 656, 3) := by decide +kernel
theorem d_KReader_tag_44 : decode b_KReader_tag 44 = .ok (.istore_n 2, 1) := by decide +kernel
theorem d_KReader_tag_45 : decode b_KReader_tag 45 = .ok (.aload_n 0, 1) := by decide +kernel
theorem d_KReader_tag_46 : decode b_KReader_tag 46 = .ok (.iload_n 2, 1) := by decide +kernel
theorem d_KReader_tag_47 : decode b_KReader_tag 47 = .ok (.invokevirtual 333, 3) := by decide +kernel
theorem d_KReader_tag_50 : decode b_KReader_tag 50 = .ok (.istore_n 3, 1) := by decide +kernel
theorem d_KReader_tag_51 : decode b_KReader_tag 51 = .ok (.goto (-32), 3) := by decide +kernel
theorem d_KReader_tag_54 : decode b_KReader_tag 54 = .ok (.iload_n 2, 1) := by decide +kernel
theorem d_KReader_tag_55 : decode b_KReader_tag 55 = .ok (.ifCond .ge 7, 3) := by decide +kernel
theorem d_KReader_tag_58 : decode b_KReader_tag 58 = .ok (.iconst (-1), 1) := by decide +kernel
theorem d_KReader_tag_59 : decode b_KReader_tag 59 = .ok (.goto 8, 3) := by decide +kernel
theorem d_KReader_tag_62 : decode b_KReader_tag 62 = .ok (.aload_n 0, 1) := by decide +kernel
theorem d_KReader_tag_63 : decode b_KReader_tag 63 = .ok (.iload_n 2, 1) := by decide +kernel
theorem d_KReader_tag_64 : decode b_KReader_tag 64 = .ok (.invokevirtual 297, 3) := by decide +kernel
theorem d_KReader_tag_67 : decode b_KReader_tag 67 = .ok (.istore_n 2, 1) := by decide +kernel
theorem d_KReader_tag_68 : decode b_KReader_tag 68 = .ok (.iload_n 2, 1) := by decide +kernel
theorem d_KReader_tag_69 : decode b_KReader_tag 69 = .ok (.ifCond .lt 18, 3) := by decide +kernel
theorem d_KReader_tag_72 : decode b_KReader_tag 72 = .ok (.aload_n 0, 1) := by decide +kernel
theorem d_KReader_tag_73 : decode b_KReader_tag 73 = .ok (.iload_n 2, 1) := by decide +kernel
theorem d_KReader_tag_74 : decode b_KReader_tag 74 = .ok (.ldc_w 743, 3) := by decide +kernel
theorem d_KReader_tag_77 : decode b_KReader_tag 77 = .ok (.invokevirtual 290, 3) := by decide +kernel
theorem d_KReader_tag_80 : decode b_KReader_tag 80 = .ok (.ifCond .eq 7, 3) := by decide +kernel
theorem d_KReader_tag_83 : decode b_KReader_tag 83 = .ok (.iconst 1, 1) := by decide +kernel
theorem d_KReader_tag_84 : decode b_KReader_tag 84 = .ok (.goto 4, 3) := by decide +kernel
theorem d_KReader_tag_87 : decode b_KReader_tag 87 = .ok (.iconst 0, 1) := by decide +kernel
theorem d_KReader_tag_88 : decode b_KReader_tag 88 = .ok (.istore 4, 2) := by decide +kernel
theorem d_KReader_tag_90 : decode b_KReader_tag 90 = .ok (.iload 4, 2) := by decide +kernel
theorem d_KReader_tag_92 : decode b_KReader_tag 92 = .ok (.ifCond .eq 9, 3) := by decide +kernel
theorem d_KReader_tag_95 : decode b_KReader_tag 95 = .ok (.iload_n 2, 1) := by decide +kernel
theorem d_KReader_tag_96 : decode b_KReader_tag 96 = .ok (.iconst 2, 1) := by decide +kernel
theorem d_KReader_tag_97 : decode b_KReader_tag 97 = .ok (.iadd, 1) := by decide +kernel
theorem d_KReader_tag_98 : decode b_KReader_tag 98 = .ok (.goto 11, 3) := by decide +kernel
theorem d_KReader_tag_101 : decode b_KReader_tag 101 = .ok (.aload_n 0, 1) := by decide +kernel
theorem d_KReader_tag_102 : decode b_KReader_tag 102 = .ok (.iload_n 2, 1) := by decide +kernel
theorem d_KReader_tag_103 : decode b_KReader_tag 103 = .ok (.ldc_w 527, 3) := by decide +kernel
theorem d_KReader_tag_106 : decode b_KReader_tag 106 = .ok (.invokevirtual 329, 3) := by decide +kernel
theorem d_KReader_tag_109 : decode b_KReader_tag 109 = .ok (.istore_n 2, 1) := by decide +kernel
theorem d_KReader_tag_110 : decode b_KReader_tag 110 = .ok (.aload_n 0, 1) := by decide +kernel
theorem d_KReader_tag_111 : decode b_KReader_tag 111 = .ok (.iload_n 2, 1) := by decide +kernel
theorem d_KReader_tag_112 : decode b_KReader_tag 112 = .ok (.invokevirtual 437, 3) := by decide +kernel
theorem d_KReader_tag_115 : decode b_KReader_tag 115 = .ok (.ifCond .ne 4, 3) := by decide +kernel
theorem d_KReader_tag_118 : decode b_KReader_tag 118 = .ok (.return_, 1) := by decide +kernel
theorem d_KReader_tag_119 : decode b_KReader_tag 119 = .ok (.aload_n 0, 1) := by decide +kernel
theorem d_KReader_tag_120 : decode b_KReader_tag 120 = .ok (.aload_n 0, 1) := by decide +kernel
theorem d_KReader_tag_121 : decode b_KReader_tag 121 = .ok (.getfield 379, 3) := by decide +kernel
theorem d_KReader_tag_124 : decode b_KReader_tag 124 = .ok (.iconst 1, 1) := by decide +kernel
theorem d_KReader_tag_125 : decode b_KReader_tag 125 = .ok (.iadd, 1) := by decide +kernel
theorem d_KReader_tag_126 : decode b_KReader_tag 126 = .ok (.iload_n 1, 1) := by decide +kernel
theorem d_KReader_tag_127 : decode b_KReader_tag 127 = .ok (.aload_n 0, 1) := by decide +kernel
theorem d_KReader_tag_128 : decode b_KReader_tag 128 = .ok (.getfield 379, 3) := by decide +kernel
theorem d_KReader_tag_131 : decode b_KReader_tag 131 = .ok (.isub, 1) := by decide +kernel
theorem d_KReader_tag_132 : decode b_KReader_tag 132 = .ok (.iconst 1, 1) := by decide +kernel
theorem d_KReader_tag_133 : decode b_KReader_tag 133 = .ok (.isub, 1) := by decide +kernel
theorem d_KReader_tag_134 : decode b_KReader_tag 134 = .ok (.invokevirtual 470, 3) := by decide +kernel
theorem d_KReader_tag_137 : decode b_KReader_tag 137 = .ok (.istore 5, 2) := by decide +kernel
theorem d_KReader_tag_139 : decode b_KReader_tag 139 = .ok (.aload_n 0, 1) := by decide +kernel
theorem d_KReader_tag_140 : decode b_KReader_tag 140 = .ok (.getfield 150, 3) := by decide +kernel
theorem d_KReader_tag_143 : decode b_KReader_tag 143 = .ok (.getfield 745, 3) := by decide +kernel
theorem d_KReader_tag_146 : decode b_KReader_tag 146 = .ok (.istore 6, 2) := by decide +kernel
theorem d_KReader_tag_148 : decode b_KReader_tag 148 = .ok (.aload_n 0, 1) := by decide +kernel
theorem d_KReader_tag_149 : decode b_KReader_tag 149 = .ok (.getfield 150, 3) := by decide +kernel
theorem d_KReader_tag_152 : decode b_KReader_tag 152 = .ok (.getfield 748, 3) := by decide +kernel
theorem d_KReader_tag_155 : decode b_KReader_tag 155 = .ok (.istore 7, 2) := by decide +kernel
theorem d_KReader_tag_157 : decode b_KReader_tag 157 = .ok (.aload_n 0, 1) := by decide +kernel
theorem d_KReader_tag_158 : decode b_KReader_tag 158 = .ok (.iload_n 1, 1) := by decide +kernel
theorem d_KReader_tag_159 : decode b_KReader_tag 159 = .ok (.invokevirtual 333, 3) := by decide +kernel
theorem d_KReader_tag_162 : decode b_KReader_tag 162 = .ok (.istore_n 3, 1) := by decide +kernel
theorem d_KReader_tag_163 : decode b_KReader_tag 163 = .ok (.aload_n 0, 1) := by decide +kernel
theorem d_KReader_tag_164 : decode b_KReader_tag 164 = .ok (.getfield 166, 3) := by decide +kernel
theorem d_KReader_tag_167 : decode b_KReader_tag 167 = .ok (.ifCond .ne 67, 3) := by decide +kernel
theorem d_KReader_tag_170 : decode b_KReader_tag 170 = .ok (.iload_n 3, 1) := by decide +kernel
theorem d_KReader_tag_171 : decode b_KReader_tag 171 = .ok (.ifCond .lt 63, 3) := by decide +kernel
theorem d_KReader_tag_174 : decode b_KReader_tag 174 = .ok (.aload_n 0, 1) := by decide +kernel
theorem d_KReader_tag_175 : decode b_KReader_tag 175 = .ok (.iload_n 3, 1) := by decide +kernel
theorem d_KReader_tag_176 : decode b_KReader_tag 176 = .ok (.invokevirtual 341, 3) := by decide +kernel
theorem d_KReader_tag_179 : decode b_KReader_tag 179 = .ok (.ifCond .lt 55, 3) := by decide +kernel
theorem d_KReader_tag_182 : decode b_KReader_tag 182 = .ok (.aload_n 0, 1) := by decide +kernel
theorem d_KReader_tag_183 : decode b_KReader_tag 183 = .ok (.iload_n 3, 1) := by decide +kernel
theorem d_KReader_tag_184 : decode b_KReader_tag 184 = .ok (.invokevirtual 341, 3) := by decide +kernel
theorem d_KReader_tag_187 : decode b_KReader_tag 187 = .ok (.istore 8, 2) := by decide +kernel
theorem d_KReader_tag_189 : decode b_KReader_tag 189 = .ok (.aload_n 0, 1) := by decide +kernel
theorem d_KReader_tag_190 : decode b_KReader_tag 190 = .ok (.iload 8, 2) := by decide +kernel
theorem d_KReader_tag_192 : decode b_KReader_tag 192 = .ok (.invokevirtual 432, 3) := by decide +kernel
theorem d_KReader_tag_195 : decode b_KReader_tag 195 = .ok (.istore 9, 2) := by decide +kernel
theorem d_KReader_tag_197 : decode b_KReader_tag 197 = .ok (.aload_n 0, 1) := by decide +kernel
theorem d_KReader_tag_198 : decode b_KReader_tag 198 = .ok (.iload 9, 2) := by decide +kernel
theorem d_KReader_tag_200 : decode b_KReader_tag 200 = .ok (.invokevirtual 656, 3) := by decide +kernel
theorem d_KReader_tag_203 : decode b_KReader_tag 203 = .ok (.istore 10, 2) := by decide +kernel
theorem d_KReader_tag_205 : decode b_KReader_tag 205 = .ok (.aload_n 0, 1) := by decide +kernel
theorem d_KReader_tag_206 : decode b_KReader_tag 206 = .ok (.iload 5, 2) := by decide +kernel
theorem d_KReader_tag_208 : decode b_KReader_tag 208 = .ok (.iload 7, 2) := by decide +kernel
theorem d_KReader_tag_210 : decode b_KReader_tag 210 = .ok (.aload_n 0, 1) := by decide +kernel
theorem d_KReader_tag_211 : decode b_KReader_tag 211 = .ok (.iload_n 3, 1) := by decide +kernel
theorem d_KReader_tag_212 : decode b_KReader_tag 212 = .ok (.iload 8, 2) := by decide +kernel
theorem d_KReader_tag_214 : decode b_KReader_tag 214 = .ok (.iload_n 3, 1) := by decide +kernel
theorem d_KReader_tag_215 : decode b_KReader_tag 215 = .ok (.isub, 1) := by decide +kernel
theorem d_KReader_tag_216 : decode b_KReader_tag 216 = .ok (.invokevirtual 470, 3) := by decide +kernel
theorem d_KReader_tag_219 : decode b_KReader_tag 219 = .ok (.iload 9, 2) := by decide +kernel
theorem d_KReader_tag_221 : decode b_KReader_tag 221 = .ok (.invokevirtual 750, 3) := by decide +kernel
theorem d_KReader_tag_224 : decode b_KReader_tag 224 = .ok (.aload_n 0, 1) := by decide +kernel
theorem d_KReader_tag_225 : decode b_KReader_tag 225 = .ok (.iload 10, 2) := by decide +kernel
theorem d_KReader_tag_227 : decode b_KReader_tag 227 = .ok (.invokevirtual 333, 3) := by decide +kernel
theorem d_KReader_tag_230 : decode b_KReader_tag 230 = .ok (.istore_n 3, 1) := by decide +kernel
theorem d_KReader_tag_231 : decode b_KReader_tag 231 = .ok (.goto (-68), 3) := by decide +kernel
theorem d_KReader_tag_234 : decode b_KReader_tag 234 = .ok (.aload_n 0, 1) := by decide +kernel
theorem d_KReader_tag_235 : decode b_KReader_tag 235 = .ok (.getfield 166, 3) := by decide +kernel
theorem d_KReader_tag_238 : decode b_KReader_tag 238 = .ok (.ifCond .le 4, 3) := by decide +kernel
theorem d_KReader_tag_241 : decode b_KReader_tag 241 = .ok (.return_, 1) := by decide +kernel
theorem d_KReader_tag_242 : decode b_KReader_tag 242 = .ok (.aload_n 0, 1) := by decide +kernel
theorem d_KReader_tag_243 : decode b_KReader_tag 243 = .ok (.iload 5, 2) := by decide +kernel
theorem d_KReader_tag_245 : decode b_KReader_tag 245 = .ok (.iload 7, 2) := by decide +kernel
theorem d_KReader_tag_247 : decode b_KReader_tag 247 = .ok (.invokevirtual 754, 3) := by decide +kernel
theorem d_KReader_tag_250 : decode b_KReader_tag 250 = .ok (.aload_n 0, 1) := by decide +kernel
theorem d_KReader_tag_251 : decode b_KReader_tag 251 = .ok (.dup, 1) := by decide +kernel
theorem d_KReader_tag_252 : decode b_KReader_tag 252 = .ok (.getfield 200, 3) := by decide +kernel
theorem d_KReader_tag_255 : decode b_KReader_tag 255 = .ok (.iconst 1, 1) := by decide +kernel
theorem d_KReader_tag_256 : decode b_KReader_tag 256 = .ok (.aload_n 0, 1) := by decide +kernel
theorem d_KReader_tag_257 : decode b_KReader_tag 257 = .ok (.getfield 150, 3) := by decide +kernel
theorem d_KReader_tag_260 : decode b_KReader_tag 260 = .ok (.getfield 748, 3) := by decide +kernel
theorem d_KReader_tag_263 : decode b_KReader_tag 263 = .ok (.iadd, 1) := by decide +kernel
theorem d_KReader_tag_264 : decode b_KReader_tag 264 = .ok (.iload 7, 2) := by decide +kernel
theorem d_KReader_tag_266 : decode b_KReader_tag 266 = .ok (.isub, 1) := by decide +kernel
theorem d_KReader_tag_267 : decode b_KReader_tag 267 = .ok (.iadd, 1) := by decide +kernel
theorem d_KReader_tag_268 : decode b_KReader_tag 268 = .ok (.putfield 200, 3) := by decide +kernel
theorem d_KReader_tag_271 : decode b_KReader_tag 271 = .ok (.aload_n 0, 1) := by decide +kernel
theorem d_KReader_tag_272 : decode b_KReader_tag 272 = .ok (.getfield 200, 3) := by decide +kernel
theorem d_KReader_tag_275 : decode b_KReader_tag 275 = .ok (.aload_n 0, 1) := by decide +kernel
theorem d_KReader_tag_276 : decode b_KReader_tag 276 = .ok (.getfield 158, 3) := by decide +kernel
theorem d_KReader_tag_279 : decode b_KReader_tag 279 = .ok (.if_icmp .le 10, 3) := by decide +kernel
theorem d_KReader_tag_282 : decode b_KReader_tag 282 = .ok (.aload_n 0, 1) := by decide +kernel
theorem d_KReader_tag_283 : decode b_KReader_tag 283 = .ok (.iconst 4, 1) := by decide +kernel
theorem d_KReader_tag_284 : decode b_KReader_tag 284 = .ok (.invokevirtual 392, 3) := by decide +kernel
theorem d_KReader_tag_287 : decode b_KReader_tag 287 = .ok (.pop, 1) := by decide +kernel
theorem d_KReader_tag_288 : decode b_KReader_tag 288 = .ok (.return_, 1) := by decide +kernel
theorem d_KReader_tag_289 : decode b_KReader_tag 289 = .ok (.aload_n 0, 1) := by decide +kernel
theorem d_KReader_tag_290 : decode b_KReader_tag 290 = .ok (.getfield 181, 3) := by decide +kernel
theorem d_KReader_tag_293 : decode b_KReader_tag 293 = .ok (.iconst 2, 1) := by decide +kernel
theorem d_KReader_tag_294 : decode b_KReader_tag 294 = .ok (.if_icmp .ne 28, 3) := by decide +kernel
theorem d_KReader_tag_297 : decode b_KReader_tag 297 = .ok (.aload_n 0, 1) := by decide +kernel
theorem d_KReader_tag_298 : decode b_KReader_tag 298 = .ok (.invokevirtual 465, 3) := by decide +kernel
theorem d_KReader_tag_301 : decode b_KReader_tag 301 = .ok (.aload_n 0, 1) := by decide +kernel
theorem d_KReader_tag_302 : decode b_KReader_tag 302 = .ok (.getfield 28, 3) := by decide +kernel
theorem d_KReader_tag_305 : decode b_KReader_tag 305 = .ok (.aload_n 0, 1) := by decide +kernel
theorem d_KReader_tag_306 : decode b_KReader_tag 306 = .ok (.getfield 224, 3) := by decide +kernel
theorem d_KReader_tag_309 : decode b_KReader_tag 309 = .ok (.iload 5, 2) := by decide +kernel
theorem d_KReader_tag_311 : decode b_KReader_tag 311 = .ok (.iastore, 1) := by decide +kernel
theorem d_KReader_tag_312 : decode b_KReader_tag 312 = .ok (.aload_n 0, 1) := by decide +kernel
theorem d_KReader_tag_313 : decode b_KReader_tag 313 = .ok (.dup, 1) := by decide +kernel
theorem d_KReader_tag_314 : decode b_KReader_tag 314 = .ok (.getfield 224, 3) := by decide +kernel
theorem d_KReader_tag_317 : decode b_KReader_tag 317 = .ok (.iconst 1, 1) := by decide +kernel
theorem d_KReader_tag_318 : decode b_KReader_tag 318 = .ok (.iadd, 1) := by decide +kernel
theorem d_KReader_tag_319 : decode b_KReader_tag 319 = .ok (.putfield 224, 3) := by decide +kernel
theorem d_KReader_tag_322 : decode b_KReader_tag 322 = .ok (.aload_n 0, 1) := by decide +kernel
theorem d_KReader_tag_323 : decode b_KReader_tag 323 = .ok (.getfield 150, 3) := by decide +kernel
theorem d_KReader_tag_326 : decode b_KReader_tag 326 = .ok (.getfield 738, 3) := by decide +kernel
theorem d_KReader_tag_329 : decode b_KReader_tag 329 = .ok (.iload 6, 2) := by decide +kernel
theorem d_KReader_tag_331 : decode b_KReader_tag 331 = .ok (.iload 5, 2) := by decide +kernel
theorem d_KReader_tag_333 : decode b_KReader_tag 333 = .ok (.iastore, 1) := by decide +kernel
theorem d_KReader_tag_334 : decode b_KReader_tag 334 = .ok (.aload_n 0, 1) := by decide +kernel
theorem d_KReader_tag_335 : decode b_KReader_tag 335 = .ok (.getfield 150, 3) := by decide +kernel
theorem d_KReader_tag_338 : decode b_KReader_tag 338 = .ok (.getfield 757, 3) := by decide +kernel
theorem d_KReader_tag_341 : decode b_KReader_tag 341 = .ok (.iload 6, 2) := by decide +kernel
theorem d_KReader_tag_343 : decode b_KReader_tag 343 = .ok (.aload_n 0, 1) := by decide +kernel
theorem d_KReader_tag_344 : decode b_KReader_tag 344 = .ok (.getfield 221, 3) := by decide +kernel
theorem d_KReader_tag_347 : decode b_KReader_tag 347 = .ok (.ifCond .le 17, 3) := by decide +kernel
theorem d_KReader_tag_350 : decode b_KReader_tag 350 = .ok (.aload_n 0, 1) := by decide +kernel
theorem d_KReader_tag_351 : decode b_KReader_tag 351 = .ok (.getfield 9, 3) := by decide +kernel
theorem d_KReader_tag_354 : decode b_KReader_tag 354 = .ok (.aload_n 0, 1) := by decide +kernel
theorem d_KReader_tag_355 : decode b_KReader_tag 355 = .ok (.getfield 221, 3) := by decide +kernel
theorem d_KReader_tag_358 : decode b_KReader_tag 358 = .ok (.iconst 1, 1) := by decide +kernel
theorem d_KReader_tag_359 : decode b_KReader_tag 359 = .ok (.isub, 1) := by decide +kernel
theorem d_KReader_tag_360 : decode b_KReader_tag 360 = .ok (.iaload, 1) := by decide +kernel
theorem d_KReader_tag_361 : decode b_KReader_tag 361 = .ok (.goto 4, 3) := by decide +kernel
theorem d_KReader_tag_364 : decode b_KReader_tag 364 = .ok (.iconst (-1), 1) := by decide +kernel
theorem d_KReader_tag_365 : decode b_KReader_tag 365 = .ok (.iastore, 1) := by decide +kernel
theorem d_KReader_tag_366 : decode b_KReader_tag 366 = .ok (.aload_n 0, 1) := by decide +kernel
theorem d_KReader_tag_367 : decode b_KReader_tag 367 = .ok (.getfield 150, 3) := by decide +kernel
theorem d_KReader_tag_370 : decode b_KReader_tag 370 = .ok (.getfield 760, 3) := by decide +kernel
theorem d_KReader_tag_373 : decode b_KReader_tag 373 = .ok (.iload 6, 2) := by decide +kernel
theorem d_KReader_tag_375 : decode b_KReader_tag 375 = .ok (.iload 7, 2) := by decide +kernel
theorem d_KReader_tag_377 : decode b_KReader_tag 377 = .ok (.iastore, 1) := by decide +kernel
theorem d_KReader_tag_378 : decode b_KReader_tag 378 = .ok (.aload_n 0, 1) := by decide +kernel
theorem d_KReader_tag_379 : decode b_KReader_tag 379 = .ok (.getfield 150, 3) := by decide +kernel
theorem d_KReader_tag_382 : decode b_KReader_tag 382 = .ok (.getfield 763, 3) := by decide +kernel
theorem d_KReader_tag_385 : decode b_KReader_tag 385 = .ok (.iload 6, 2) := by decide +kernel
theorem d_KReader_tag_387 : decode b_KReader_tag 387 = .ok (.aload_n 0, 1) := by decide +kernel
theorem d_KReader_tag_388 : decode b_KReader_tag 388 = .ok (.getfield 150, 3) := by decide +kernel
theorem d_KReader_tag_391 : decode b_KReader_tag 391 = .ok (.getfield 748, 3) := by decide +kernel
theorem d_KReader_tag_394 : decode b_KReader_tag 394 = .ok (.iload 7, 2) := by decide +kernel
theorem d_KReader_tag_396 : decode b_KReader_tag 396 = .ok (.isub, 1) := by decide +kernel
theorem d_KReader_tag_397 : decode b_KReader_tag 397 = .ok (.iastore, 1) := by decide +kernel
theorem d_KReader_tag_398 : decode b_KReader_tag 398 = .ok (.aload_n 0, 1) := by decide +kernel
theorem d_KReader_tag_399 : decode b_KReader_tag 399 = .ok (.getfield 150, 3) := by decide +kernel
theorem d_KReader_tag_402 : decode b_KReader_tag 402 = .ok (.dup, 1) := by decide +kernel
theorem d_KReader_tag_403 : decode b_KReader_tag 403 = .ok (.getfield 745, 3) := by decide +kernel
theorem d_KReader_tag_406 : decode b_KReader_tag 406 = .ok (.iconst 1, 1) := by decide +kernel
theorem d_KReader_tag_407 : decode b_KReader_tag 407 = .ok (.iadd, 1) := by decide +kernel
theorem d_KReader_tag_408 : decode b_KReader_tag 408 = .ok (.putfield 745, 3) := by decide +kernel
theorem d_KReader_tag_411 : decode b_KReader_tag 411 = .ok (.aload_n 0, 1) := by decide +kernel
theorem d_KReader_tag_412 : decode b_KReader_tag 412 = .ok (.getfield 150, 3) := by decide +kernel
theorem d_KReader_tag_415 : decode b_KReader_tag 415 = .ok (.iconst 0, 1) := by decide +kernel
theorem d_KReader_tag_416 : decode b_KReader_tag 416 = .ok (.invokevirtual 480, 3) := by decide +kernel
theorem d_KReader_tag_419 : decode b_KReader_tag 419 = .ok (.aload_n 0, 1) := by decide +kernel
theorem d_KReader_tag_420 : decode b_KReader_tag 420 = .ok (.getfield 9, 3) := by decide +kernel
theorem d_KReader_tag_423 : decode b_KReader_tag 423 = .ok (.aload_n 0, 1) := by decide +kernel
theorem d_KReader_tag_424 : decode b_KReader_tag 424 = .ok (.getfield 221, 3) := by decide +kernel
theorem d_KReader_tag_427 : decode b_KReader_tag 427 = .ok (.iload 6, 2) := by decide +kernel
theorem d_KReader_tag_429 : decode b_KReader_tag 429 = .ok (.iastore, 1) := by decide +kernel
theorem d_KReader_tag_430 : decode b_KReader_tag 430 = .ok (.aload_n 0, 1) := by decide +kernel
theorem d_KReader_tag_431 : decode b_KReader_tag 431 = .ok (.getfield 15, 3) := by decide +kernel
theorem d_KReader_tag_434 : decode b_KReader_tag 434 = .ok (.aload_n 0, 1) := by decide +kernel
theorem d_KReader_tag_435 : decode b_KReader_tag 435 = .ok (.getfield 221, 3) := by decide +kernel
theorem d_KReader_tag_438 : decode b_KReader_tag 438 = .ok (.aload_n 0, 1) := by decide +kernel
theorem d_KReader_tag_439 : decode b_KReader_tag 439 = .ok (.getfield 60, 3) := by decide +kernel
theorem d_KReader_tag_442 : decode b_KReader_tag 442 = .ok (.aload_n 0, 1) := by decide +kernel
theorem d_KReader_tag_443 : decode b_KReader_tag 443 = .ok (.getfield 175, 3) := by decide +kernel
theorem d_KReader_tag_446 : decode b_KReader_tag 446 = .ok (.iconst 1, 1) := by decide +kernel
theorem d_KReader_tag_447 : decode b_KReader_tag 447 = .ok (.isub, 1) := by decide +kernel
theorem d_KReader_tag_448 : decode b_KReader_tag 448 = .ok (.iaload, 1) := by decide +kernel
theorem d_KReader_tag_449 : decode b_KReader_tag 449 = .ok (.iastore, 1) := by decide +kernel
theorem d_KReader_tag_450 : decode b_KReader_tag 450 = .ok (.aload_n 0, 1) := by decide +kernel
theorem d_KReader_tag_451 : decode b_KReader_tag 451 = .ok (.getfield 18, 3) := by decide +kernel
theorem d_KReader_tag_454 : decode b_KReader_tag 454 = .ok (.aload_n 0, 1) := by decide +kernel
theorem d_KReader_tag_455 : decode b_KReader_tag 455 = .ok (.getfield 221, 3) := by decide +kernel
theorem d_KReader_tag_458 : decode b_KReader_tag 458 = .ok (.iconst 0, 1) := by decide +kernel
theorem d_KReader_tag_459 : decode b_KReader_tag 459 = .ok (.bastore, 1) := by decide +kernel
theorem d_KReader_tag_460 : decode b_KReader_tag 460 = .ok (.aload_n 0, 1) := by decide +kernel
theorem d_KReader_tag_461 : decode b_KReader_tag 461 = .ok (.getfield 22, 3) := by decide +kernel
theorem d_KReader_tag_464 : decode b_KReader_tag 464 = .ok (.aload_n 0, 1) := by decide +kernel
theorem d_KReader_tag_465 : decode b_KReader_tag 465 = .ok (.getfield 221, 3) := by decide +kernel
theorem d_KReader_tag_468 : decode b_KReader_tag 468 = .ok (.iconst 0, 1) := by decide +kernel
theorem d_KReader_tag_469 : decode b_KReader_tag 469 = .ok (.bastore, 1) := by decide +kernel
theorem d_KReader_tag_470 : decode b_KReader_tag 470 = .ok (.aload_n 0, 1) := by decide +kernel
theorem d_KReader_tag_471 : decode b_KReader_tag 471 = .ok (.getfield 25, 3) := by decide +kernel
theorem d_KReader_tag_474 : decode b_KReader_tag 474 = .ok (.aload_n 0, 1) := by decide +kernel
theorem d_KReader_tag_475 : decode b_KReader_tag 475 = .ok (.getfield 221, 3) := by decide +kernel
theorem d_KReader_tag_478 : decode b_KReader_tag 478 = .ok (.aload_n 0, 1) := by decide +kernel
theorem d_KReader_tag_479 : decode b_KReader_tag 479 = .ok (.getfield 224, 3) := by decide +kernel
theorem d_KReader_tag_482 : decode b_KReader_tag 482 = .ok (.iastore, 1) := by decide +kernel
theorem d_KReader_tag_483 : decode b_KReader_tag 483 = .ok (.aload_n 0, 1) := by decide +kernel
theorem d_KReader_tag_484 : decode b_KReader_tag 484 = .ok (.dup, 1) := by decide +kernel
theorem d_KReader_tag_485 : decode b_KReader_tag 485 = .ok (.getfield 221, 3) := by decide +kernel
theorem d_KReader_tag_488 : decode b_KReader_tag 488 = .ok (.iconst 1, 1) := by decide +kernel
theorem d_KReader_tag_489 : decode b_KReader_tag 489 = .ok (.iadd, 1) := by decide +kernel
theorem d_KReader_tag_490 : decode b_KReader_tag 490 = .ok (.putfield 221, 3) := by decide +kernel
theorem d_KReader_tag_493 : decode b_KReader_tag 493 = .ok (.aload_n 0, 1) := by decide +kernel
theorem d_KReader_tag_494 : decode b_KReader_tag 494 = .ok (.iconst 2, 1) := by decide +kernel
theorem d_KReader_tag_495 : decode b_KReader_tag 495 = .ok (.putfield 181, 3) := by decide +kernel
theorem d_KReader_tag_498 : decode b_KReader_tag 498 = .ok (.aload_n 0, 1) := by decide +kernel
theorem d_KReader_tag_499 : decode b_KReader_tag 499 = .ok (.iload_n 2, 1) := by decide +kernel
theorem d_KReader_tag_500 : decode b_KReader_tag 500 = .ok (.putfield 379, 3) := by decide +kernel
theorem d_KReader_tag_503 : decode b_KReader_tag 503 = .ok (.iload 4, 2) := by decide +kernel
theorem d_KReader_tag_505 : decode b_KReader_tag 505 = .ok (.ifCond .eq 7, 3) := by decide +kernel
theorem d_KReader_tag_508 : decode b_KReader_tag 508 = .ok (.aload_n 0, 1) := by decide +kernel
theorem d_KReader_tag_509 : decode b_KReader_tag 509 = .ok (.invokevirtual 740, 3) := by decide +kernel
theorem d_KReader_tag_512 : decode b_KReader_tag 512 = .ok (.return_, 1) := by decide +kernel
/-- KReader_tag -/
def w_KReader_tag (L : Nat → Nat)  (Q : IS → Prop) (σ : IS) : Prop := inR ((σ.1 16 16) + 1) ∧ w_KReader_name L ((σ.1 16 16) + 1) (fun v2 σ1 => w_KReader_spaces L v2 (fun v4 σ3 => WL (fun (K5 : Int × Int → IS → Prop) (s7 : Int × Int) (σ8 : IS) => WJ (fun (s11 : Unit) (σ12 : IS) => WJ (fun (s15 : Int) (σ16 : IS) => WJ (fun (s19 : Int) (σ20 : IS) => WJ (fun (s23 : Int) (σ24 : IS) => w_KReader_written L s23 (fun v26 σ25 => if v26 = 0 then Q σ25 else inR ((σ25.1 16 16) + 1) ∧ inR (v2 - (σ25.1 16 16)) ∧ inR ((v2 - (σ25.1 16 16)) - 1) ∧ w_KReader_keep L ((σ25.1 16 16) + 1) ((v2 - (σ25.1 16 16)) - 1) (fun v29 σ28 => dyD (σ28.1 16 2) ∧ w_KReader_spaces L v2 (fun v32 σ31 => WL (fun (K33 : Int → IS → Prop) (s35 : Int) (σ36 : IS) => WJ (fun (s39 : Unit) (σ40 : IS) => if 0 < (σ40.1 16 3) then Q σ40 else w_KReader_defaults L v29 (σ28.1 (Int.toNat (σ28.1 16 2)) 14) (fun σ42 => dyD (σ42.1 16 2) ∧ inR (1 + (σ42.1 (Int.toNat (σ42.1 16 2)) 14)) ∧ inR ((1 + (σ42.1 (Int.toNat (σ42.1 16 2)) 14)) - (σ28.1 (Int.toNat (σ28.1 16 2)) 14)) ∧ inR ((σ42.1 16 26) + ((1 + (σ42.1 (Int.toNat (σ42.1 16 2)) 14)) - (σ28.1 (Int.toNat (σ28.1 16 2)) 14))) ∧ if (σ42.1 16 1) < ((σ42.1 16 26) + ((1 + (σ42.1 (Int.toNat (σ42.1 16 2)) 14)) - (σ28.1 (Int.toNat (σ28.1 16 2)) 14))) then w_KReader_fail L 4 (fun v90 σ89 => Q σ89) (pf σ42 16 26 ((σ42.1 16 26) + ((1 + (σ42.1 (Int.toNat (σ42.1 16 2)) 14)) - (σ28.1 (Int.toNat (σ28.1 16 2)) 14)))) else WJ (fun (s48 : Unit) (σ49 : IS) => dyD (σ49.1 16 2) ∧ inL L (rfo (Int.toNat (σ49.1 16 2)) 3) (σ28.1 (Int.toNat (σ28.1 16 2)) 7) ∧ ((0 < (σ49.1 16 64) → (inR ((σ49.1 16 64) - 1) ∧ inL L 166 ((σ49.1 16 64) - 1)))) ∧ inL L (rfo (Int.toNat (σ49.1 16 2)) 4) (σ28.1 (Int.toNat (σ28.1 16 2)) 7) ∧ inL L (rfo (Int.toNat (σ49.1 16 2)) 5) (σ28.1 (Int.toNat (σ28.1 16 2)) 7) ∧ inR ((σ49.1 (Int.toNat (σ49.1 16 2)) 14) - (σ28.1 (Int.toNat (σ28.1 16 2)) 14)) ∧ inL L (rfo (Int.toNat (σ49.1 16 2)) 6) (σ28.1 (Int.toNat (σ28.1 16 2)) 7) ∧ inR ((σ49.1 (Int.toNat (σ49.1 16 2)) 7) + 1) ∧ LETH (pf (pr (pr (pr (pr σ49 (rfo (Int.toNat (σ49.1 16 2)) 3) (Int.toNat (σ28.1 (Int.toNat (σ28.1 16 2)) 7)) v29) (rfo (Int.toNat (σ49.1 16 2)) 4) (Int.toNat (σ28.1 (Int.toNat (σ28.1 16 2)) 7)) (if 0 < (σ49.1 16 64) then ((pr σ49 (rfo (Int.toNat (σ49.1 16 2)) 3) (Int.toNat (σ28.1 (Int.toNat (σ28.1 16 2)) 7)) v29).2 166 (Int.toNat ((σ49.1 16 64) - 1))) else ((-1) : Int))) (rfo (Int.toNat (σ49.1 16 2)) 5) (Int.toNat (σ28.1 (Int.toNat (σ28.1 16 2)) 7)) (σ28.1 (Int.toNat (σ28.1 16 2)) 14)) (rfo (Int.toNat (σ49.1 16 2)) 6) (Int.toNat (σ28.1 (Int.toNat (σ28.1 16 2)) 7)) ((σ49.1 (Int.toNat (σ49.1 16 2)) 14) - (σ28.1 (Int.toNat (σ28.1 16 2)) 14))) (Int.toNat (σ49.1 16 2)) 7 ((σ49.1 (Int.toNat (σ49.1 16 2)) 7) + 1)) (fun σ53 => dyD (σ53.1 16 2) ∧ w_KDoc_event L (Int.toNat (σ53.1 16 2)) 0 (fun σ55 => inL L 166 (σ55.1 16 64) ∧ inR ((σ55.1 16 14) - 1) ∧ inL L 181 ((σ55.1 16 14) - 1) ∧ inL L 167 (σ55.1 16 64) ∧ inL L 168 (σ55.1 16 64) ∧ inL L 169 (σ55.1 16 64) ∧ inL L 170 (σ55.1 16 64) ∧ inR ((σ55.1 16 64) + 1) ∧ WJ (fun (s59 : Unit) (σ60 : IS) => Q σ60) (fun J57 => if s19 = 0 then J57 () (pf (pf (pf (pr (pr (pr (pr (pr σ55 166 (Int.toNat (σ55.1 16 64)) (σ28.1 (Int.toNat (σ28.1 16 2)) 7)) 167 (Int.toNat (σ55.1 16 64)) (σ55.2 181 (Int.toNat ((σ55.1 16 14) - 1)))) 168 (Int.toNat (σ55.1 16 64)) 0) 169 (Int.toNat (σ55.1 16 64)) 0) 170 (Int.toNat (σ55.1 16 64)) (σ55.1 16 66)) 16 64 ((σ55.1 16 64) + 1)) 16 19 2) 16 16 s23) else w_KReader_close L  (fun σ62 => J57 () σ62) (pf (pf (pf (pr (pr (pr (pr (pr σ55 166 (Int.toNat (σ55.1 16 64)) (σ28.1 (Int.toNat (σ28.1 16 2)) 7)) 167 (Int.toNat (σ55.1 16 64)) (σ55.2 181 (Int.toNat ((σ55.1 16 14) - 1)))) 168 (Int.toNat (σ55.1 16 64)) 0) 169 (Int.toNat (σ55.1 16 64)) 0) 170 (Int.toNat (σ55.1 16 64)) (σ55.1 16 66)) 16 64 ((σ55.1 16 64) + 1)) 16 19 2) 16 16 s23))) σ53)) (fun J46 => if (σ42.1 16 19) = 2 then w_KReader_touch L  (fun σ85 => inL L 171 (σ85.1 16 66) ∧ inR ((σ85.1 16 66) + 1) ∧ J46 () (pf (pr σ85 171 (Int.toNat (σ85.1 16 66)) v29) 16 66 ((σ85.1 16 66) + 1))) (pf σ42 16 26 ((σ42.1 16 26) + ((1 + (σ42.1 (Int.toNat (σ42.1 16 2)) 14)) - (σ28.1 (Int.toNat (σ28.1 16 2)) 14)))) else J46 () (pf σ42 16 26 ((σ42.1 16 26) + ((1 + (σ42.1 (Int.toNat (σ42.1 16 2)) 14)) - (σ28.1 (Int.toNat (σ28.1 16 2)) 14)))))) σ40) (fun J37 => if (σ36.1 16 3) = 0 ∧ (¬ s35 < 0) then w_KReader_name L s35 (fun v95 σ94 => if v95 < 0 then J37 () σ94 else w_KReader_name L s35 (fun v98 σ97 => w_KReader_equal L v98 (fun v100 σ99 => w_KReader_value L v100 (fun v102 σ101 => inR (v98 - s35) ∧ w_KReader_keep L s35 (v98 - s35) (fun v104 σ103 => w_KReader_given L v29 (σ28.1 (Int.toNat (σ28.1 16 2)) 14) v104 v100 (fun σ105 => w_KReader_spaces L v102 (fun v108 σ107 => K33 v108 σ107) σ105) σ103) σ101) σ99) σ97) σ94) σ36 else J37 () σ36)) v32 σ31) σ28) σ25) σ24) (fun J21 => if s19 = 0 then w_KReader_word L s15 1124 (fun v120 σ119 => J21 v120 σ119) σ20 else inR (s15 + 2) ∧ J21 (s15 + 2) σ20)) (fun J17 => WJ (fun (s124 : Unit) (σ125 : IS) => J17 0 σ125) (fun J122 => if s15 < 0 then J122 () σ16 else w_KReader_says L s15 1152 (fun v128 σ127 => if v128 = 0 then J122 () σ127 else J17 1 σ127) σ16))) (fun J13 => if s7.1 < 0 then J13 (-1) σ12 else w_KReader_anySpaces L s7.1 (fun v132 σ131 => J13 v132 σ131) σ12)) (fun J9 => if s7.2 < 0 then J9 () σ8 else w_KReader_name L s7.2 (fun v135 σ134 => if v135 < 0 then J9 () σ134 else w_KReader_name L s7.2 (fun v138 σ137 => w_KReader_equal L v138 (fun v140 σ139 => w_KReader_value L v140 (fun v142 σ141 => w_KReader_spaces L v142 (fun v144 σ143 => K5 (v142, v144) σ143) σ141) σ139) σ137) σ134) σ8)) (v2, v4) σ3) σ1) σ
set_option maxHeartbeats 4000000 in
set_option maxRecDepth 20000 in
theorem s_KReader_tag {L : Nat → Nat} (hL : ∀ r, L r < 2147483648) {d : Nat} (hd : 75 ≤ d)  {Q : IS → Prop} {σ : IS}  (h : w_KReader_tag L  Q σ) : OkI BF L d 15 b_KReader_tag 11 0 0 [] [some (.inr 16)] σ (qv Q) := by
  unfold w_KReader_tag at h
  obtain ⟨d, rfl⟩ : ∃ e, d = e + 1 := ⟨d - 1, by omega⟩
  refine k_sb (lv' := [some (.inr 16), none, none, none, none, none, none, none, none, none, none]) (sb_s (sb_e (sb_e (sb_e (sb_e (sb_e (sb_e (sb_e (sb_e (sb_e (sb_e sb_nil))))))))))) ?_
  refine k_aload_n d_KReader_tag_0 rfl ?_
  refine k_aload_n d_KReader_tag_1 rfl ?_
  refine k_getI (x := (σ.1 16 16)) d_KReader_tag_2 fl_15_379 ob_16 rfl rfl ?_
  refine k_iconst d_KReader_tag_5 cI_1 ?_
  obtain ⟨p145, h⟩ := h
  refine k_iadd d_KReader_tag_6 p145 ?_
  refine k_cvi [.inl ((σ.1 16 16) + 1)] d_KReader_tag_7 ml_15_341 rfl rfl ob_16 rfl (s_KReader_name hL (by omega)  h) (fun v2 σ1 h => ?_)
  refine k_istore_n (lv' := [some (.inr 16), some (.inl v2), none, none, none, none, none, none, none, none, none]) d_KReader_tag_10 rfl rfl ?_
  refine k_iload_n d_KReader_tag_11 rfl ?_
  refine k_istore_n (lv' := [some (.inr 16), some (.inl v2), some (.inl v2), none, none, none, none, none, none, none, none]) d_KReader_tag_12 rfl rfl ?_
  refine k_aload_n d_KReader_tag_13 rfl ?_
  refine k_iload_n d_KReader_tag_14 rfl ?_
  refine k_cvi [.inl v2] d_KReader_tag_15 ml_15_333 rfl rfl ob_16 rfl (s_KReader_spaces hL (by omega)  h) (fun v4 σ3 h => ?_)
  refine k_istore_n (lv' := [some (.inr 16), some (.inl v2), some (.inl v2), some (.inl v4), none, none, none, none, none, none, none]) d_KReader_tag_18 rfl rfl ?_
  refine k_sb (lv' := [some (.inr 16), some (.inl v2), some (.inl v2), some (.inl v4), none, none, none, none, none, none, none]) (sb_s (sb_s (sb_s (sb_s (sb_s (sb_s (sb_s (sb_s (sb_s (sb_s (sb_s sb_nil))))))))))) ?_
  refine k_loop (S := Int × Int) (st := fun _ => []) (lv := fun s7 => [some (.inr 16), some (.inl v2), some (.inl s7.1), some (.inl s7.2), none, none, none, none, none, none, none]) (fun K5 hK6 s7 σ8 h => ?_) (v2, v4) _ h
  refine k_iload_n d_KReader_tag_19 rfl ?_
  refine k_join (S := Unit) (pc' := 54) (st' := fun s11 => []) (lv' := fun s11 => [some (.inr 16), some (.inl v2), some (.inl s7.1), none, none, none, none, none, none, none, none]) (fun s11 σ12 h => ?_) (fun J9 hJ10 h => ?_) h
  · refine k_iload_n d_KReader_tag_54 rfl ?_
    refine k_join (S := Int) (pc' := 67) (st' := fun s15 => [.inl s15]) (lv' := fun s15 => [some (.inr 16), some (.inl v2), none, none, none, none, none, none, none, none, none]) (fun s15 σ16 h => ?_) (fun J13 hJ14 h => ?_) h
    · refine k_istore_n (lv' := [some (.inr 16), some (.inl v2), some (.inl s15), none, none, none, none, none, none, none, none]) d_KReader_tag_67 rfl rfl ?_
      refine k_iload_n d_KReader_tag_68 rfl ?_
      refine k_join (S := Int) (pc' := 88) (st' := fun s19 => [.inl s19]) (lv' := fun s19 => [some (.inr 16), some (.inl v2), some (.inl s15), none, none, none, none, none, none, none, none]) (fun s19 σ20 h => ?_) (fun J17 hJ18 h => ?_) h
      · refine k_istore (lv' := [some (.inr 16), some (.inl v2), some (.inl s15), none, some (.inl s19), none, none, none, none, none, none]) d_KReader_tag_88 rfl rfl ?_
        refine k_iload d_KReader_tag_90 rfl ?_
        refine k_join (S := Int) (pc' := 109) (st' := fun s23 => [.inl s23]) (lv' := fun s23 => [some (.inr 16), some (.inl v2), none, none, some (.inl s19), none, none, none, none, none, none]) (fun s23 σ24 h => ?_) (fun J21 hJ22 h => ?_) h
        · refine k_istore_n (lv' := [some (.inr 16), some (.inl v2), some (.inl s23), none, some (.inl s19), none, none, none, none, none, none]) d_KReader_tag_109 rfl rfl ?_
          refine k_aload_n d_KReader_tag_110 rfl ?_
          refine k_iload_n d_KReader_tag_111 rfl ?_
          refine k_cvi [.inl s23] d_KReader_tag_112 ml_15_437 rfl rfl ob_16 rfl (s_KReader_written hL (by omega)  h) (fun v26 σ25 h => ?_)
          refine k_ifne d_KReader_tag_115 rfl (fun c27 => ?_) (fun c27 => ?_)
          · have h := ineg c27 h
            refine k_aload_n d_KReader_tag_119 rfl ?_
            refine k_aload_n d_KReader_tag_120 rfl ?_
            refine k_getI (x := (σ25.1 16 16)) d_KReader_tag_121 fl_15_379 ob_16 rfl rfl ?_
            refine k_iconst d_KReader_tag_124 cI_1 ?_
            obtain ⟨p117, h⟩ := h
            refine k_iadd d_KReader_tag_125 p117 ?_
            refine k_iload_n d_KReader_tag_126 rfl ?_
            refine k_aload_n d_KReader_tag_127 rfl ?_
            refine k_getI (x := (σ25.1 16 16)) d_KReader_tag_128 fl_15_379 ob_16 rfl rfl ?_
            obtain ⟨p116, h⟩ := h
            refine k_isub d_KReader_tag_131 p116 ?_
            refine k_iconst d_KReader_tag_132 cI_1 ?_
            obtain ⟨p115, h⟩ := h
            refine k_isub d_KReader_tag_133 p115 ?_
            refine k_cvi [.inl ((σ25.1 16 16) + 1), .inl ((v2 - (σ25.1 16 16)) - 1)] d_KReader_tag_134 ml_15_470 rfl rfl ob_16 rfl (s_KReader_keep hL (by omega)  h) (fun v29 σ28 h => ?_)
            refine k_istore (lv' := [some (.inr 16), some (.inl v2), some (.inl s23), none, some (.inl s19), some (.inl v29), none, none, none, none, none]) d_KReader_tag_137 rfl rfl ?_
            refine k_aload_n d_KReader_tag_139 rfl ?_
            obtain ⟨y30, h⟩ := h
            refine k_getD (x := (σ28.1 16 2)) d_KReader_tag_140 fl_15_150 ob_16 rfl rfl (dyD_pos y30) ?_
            refine k_getI (x := (σ28.1 (Int.toNat (σ28.1 16 2)) 7)) d_KReader_tag_143 fl_15_745 (doc_ob (dyD_doc y30)) (dfi_7 (dyD_doc y30)) rfl ?_
            refine k_istore (lv' := [some (.inr 16), some (.inl v2), some (.inl s23), none, some (.inl s19), some (.inl v29), some (.inl (σ28.1 (Int.toNat (σ28.1 16 2)) 7)), none, none, none, none]) d_KReader_tag_146 rfl rfl ?_
            refine k_aload_n d_KReader_tag_148 rfl ?_
            refine k_getD (x := (σ28.1 16 2)) d_KReader_tag_149 fl_15_150 ob_16 rfl rfl (dyD_pos y30) ?_
            refine k_getI (x := (σ28.1 (Int.toNat (σ28.1 16 2)) 14)) d_KReader_tag_152 fl_15_748 (doc_ob (dyD_doc y30)) (dfi_14 (dyD_doc y30)) rfl ?_
            refine k_istore (lv' := [some (.inr 16), some (.inl v2), some (.inl s23), none, some (.inl s19), some (.inl v29), some (.inl (σ28.1 (Int.toNat (σ28.1 16 2)) 7)), some (.inl (σ28.1 (Int.toNat (σ28.1 16 2)) 14)), none, none, none]) d_KReader_tag_155 rfl rfl ?_
            refine k_aload_n d_KReader_tag_157 rfl ?_
            refine k_iload_n d_KReader_tag_158 rfl ?_
            refine k_cvi [.inl v2] d_KReader_tag_159 ml_15_333 rfl rfl ob_16 rfl (s_KReader_spaces hL (by omega)  h) (fun v32 σ31 h => ?_)
            refine k_istore_n (lv' := [some (.inr 16), some (.inl v2), some (.inl s23), some (.inl v32), some (.inl s19), some (.inl v29), some (.inl (σ28.1 (Int.toNat (σ28.1 16 2)) 7)), some (.inl (σ28.1 (Int.toNat (σ28.1 16 2)) 14)), none, none, none]) d_KReader_tag_162 rfl rfl ?_
            refine k_sb (lv' := [some (.inr 16), none, some (.inl s23), some (.inl v32), some (.inl s19), some (.inl v29), some (.inl (σ28.1 (Int.toNat (σ28.1 16 2)) 7)), some (.inl (σ28.1 (Int.toNat (σ28.1 16 2)) 14)), none, none, none]) (sb_s (sb_n (sb_s (sb_s (sb_s (sb_s (sb_s (sb_s (sb_s (sb_s (sb_s sb_nil))))))))))) ?_
            refine k_loop (S := Int) (st := fun _ => []) (lv := fun s35 => [some (.inr 16), none, some (.inl s23), some (.inl s35), some (.inl s19), some (.inl v29), some (.inl (σ28.1 (Int.toNat (σ28.1 16 2)) 7)), some (.inl (σ28.1 (Int.toNat (σ28.1 16 2)) 14)), none, none, none]) (fun K33 hK34 s35 σ36 h => ?_) v32 _ h
            refine k_aload_n d_KReader_tag_163 rfl ?_
            refine k_getI (x := (σ36.1 16 3)) d_KReader_tag_164 fl_15_166 ob_16 rfl rfl ?_
            refine k_join (S := Unit) (pc' := 234) (st' := fun s39 => []) (lv' := fun s39 => [some (.inr 16), none, some (.inl s23), none, some (.inl s19), some (.inl v29), some (.inl (σ28.1 (Int.toNat (σ28.1 16 2)) 7)), some (.inl (σ28.1 (Int.toNat (σ28.1 16 2)) 14)), none, none, none]) (fun s39 σ40 h => ?_) (fun J37 hJ38 h => ?_) h
            · refine k_aload_n d_KReader_tag_234 rfl ?_
              refine k_getI (x := (σ40.1 16 3)) d_KReader_tag_235 fl_15_166 ob_16 rfl rfl ?_
              refine k_ifle d_KReader_tag_238 rfl (fun c41 => ?_) (fun c41 => ?_)
              · have h := ineg c41 h
                refine k_aload_n d_KReader_tag_242 rfl ?_
                refine k_iload d_KReader_tag_243 rfl ?_
                refine k_iload d_KReader_tag_245 rfl ?_
                refine k_cvv [.inl v29, .inl (σ28.1 (Int.toNat (σ28.1 16 2)) 14)] d_KReader_tag_247 ml_15_754 rfl rfl ob_16 rfl (s_KReader_defaults hL (by omega)  h) (fun σ42 h => ?_)
                refine k_aload_n d_KReader_tag_250 rfl ?_
                refine k_dup d_KReader_tag_251 ?_
                refine k_getI (x := (σ42.1 16 26)) d_KReader_tag_252 fl_15_200 ob_16 rfl rfl ?_
                refine k_iconst d_KReader_tag_255 cI_1 ?_
                refine k_aload_n d_KReader_tag_256 rfl ?_
                obtain ⟨y44, h⟩ := h
                refine k_getD (x := (σ42.1 16 2)) d_KReader_tag_257 fl_15_150 ob_16 rfl rfl (dyD_pos y44) ?_
                refine k_getI (x := (σ42.1 (Int.toNat (σ42.1 16 2)) 14)) d_KReader_tag_260 fl_15_748 (doc_ob (dyD_doc y44)) (dfi_14 (dyD_doc y44)) rfl ?_
                obtain ⟨p93, h⟩ := h
                refine k_iadd d_KReader_tag_263 p93 ?_
                refine k_iload d_KReader_tag_264 rfl ?_
                obtain ⟨p92, h⟩ := h
                refine k_isub d_KReader_tag_266 p92 ?_
                obtain ⟨p91, h⟩ := h
                refine k_iadd d_KReader_tag_267 p91 ?_
                refine k_putI d_KReader_tag_268 fl_15_200 ob_16 rfl ?_
                refine k_aload_n d_KReader_tag_271 rfl ?_
                refine k_getI (x := ((σ42.1 16 26) + ((1 + (σ42.1 (Int.toNat (σ42.1 16 2)) 14)) - (σ28.1 (Int.toNat (σ28.1 16 2)) 14)))) d_KReader_tag_272 fl_15_200 ob_16 rfl rfl ?_
                refine k_aload_n d_KReader_tag_275 rfl ?_
                refine k_getI (x := (σ42.1 16 1)) d_KReader_tag_276 fl_15_158 ob_16 rfl rfl ?_
                refine k_icle d_KReader_tag_279 rfl (fun c45 => ?_) (fun c45 => ?_)
                · have h := ineg c45 h
                  refine k_aload_n d_KReader_tag_289 rfl ?_
                  refine k_getI (x := (σ42.1 16 19)) d_KReader_tag_290 fl_15_181 ob_16 rfl rfl ?_
                  refine k_iconst d_KReader_tag_293 cI_2 ?_
                  refine k_join (S := Unit) (pc' := 322) (st' := fun s48 => []) (lv' := fun s48 => [some (.inr 16), none, some (.inl s23), none, some (.inl s19), some (.inl v29), some (.inl (σ28.1 (Int.toNat (σ28.1 16 2)) 7)), some (.inl (σ28.1 (Int.toNat (σ28.1 16 2)) 14)), none, none, none]) (fun s48 σ49 h => ?_) (fun J46 hJ47 h => ?_) h
                  · refine k_aload_n d_KReader_tag_322 rfl ?_
                    obtain ⟨y50, h⟩ := h
                    refine k_getD (x := (σ49.1 16 2)) d_KReader_tag_323 fl_15_150 ob_16 rfl rfl (dyD_pos y50) ?_
                    refine k_getR d_KReader_tag_326 fl_15_738 (doc_ob (dyD_doc y50)) (dfr_3 (dyD_doc y50)) ?_
                    refine k_iload d_KReader_tag_329 rfl ?_
                    refine k_iload d_KReader_tag_331 rfl ?_
                    obtain ⟨p83, h⟩ := h
                    refine k_ist d_KReader_tag_333 (drI_3 (dyD_doc y50)) p83 ?_
                    refine k_aload_n d_KReader_tag_334 rfl ?_
                    refine k_getD (x := (σ49.1 16 2)) d_KReader_tag_335 fl_15_150 ob_16 rfl rfl (dyD_pos y50) ?_
                    refine k_getR d_KReader_tag_338 fl_15_757 (doc_ob (dyD_doc y50)) (dfr_4 (dyD_doc y50)) ?_
                    refine k_iload d_KReader_tag_341 rfl ?_
                    refine k_aload_n d_KReader_tag_343 rfl ?_
                    refine k_getI (x := (σ49.1 16 64)) d_KReader_tag_344 fl_15_221 ob_16 rfl rfl ?_
                    obtain ⟨pt78, h⟩ := h
                    have hV77 : OkI BF L (d + 1) 15 b_KReader_tag 11 0 365 [.inl (if 0 < (σ49.1 16 64) then ((pr σ49 (rfo (Int.toNat (σ49.1 16 2)) 3) (Int.toNat (σ28.1 (Int.toNat (σ28.1 16 2)) 7)) v29).2 166 (Int.toNat ((σ49.1 16 64) - 1))) else ((-1) : Int)), .inl (σ28.1 (Int.toNat (σ28.1 16 2)) 7), .inr (rfo (Int.toNat (σ49.1 16 2)) 4)] [some (.inr 16), none, some (.inl s23), none, some (.inl s19), some (.inl v29), some (.inl (σ28.1 (Int.toNat (σ28.1 16 2)) 7)), some (.inl (σ28.1 (Int.toNat (σ28.1 16 2)) 14)), none, none, none] (pr σ49 (rfo (Int.toNat (σ49.1 16 2)) 3) (Int.toNat (σ28.1 (Int.toNat (σ28.1 16 2)) 7)) v29) (qv Q) := by
                      obtain ⟨p76, h⟩ := h
                      refine k_ist d_KReader_tag_365 (drI_4 (dyD_doc y50)) p76 ?_
                      refine k_aload_n d_KReader_tag_366 rfl ?_
                      refine k_getD (x := (σ49.1 16 2)) d_KReader_tag_367 fl_15_150 ob_16 rfl rfl (dyD_pos y50) ?_
                      refine k_getR d_KReader_tag_370 fl_15_760 (doc_ob (dyD_doc y50)) (dfr_5 (dyD_doc y50)) ?_
                      refine k_iload d_KReader_tag_373 rfl ?_
                      refine k_iload d_KReader_tag_375 rfl ?_
                      obtain ⟨p75, h⟩ := h
                      refine k_ist d_KReader_tag_377 (drI_5 (dyD_doc y50)) p75 ?_
                      refine k_aload_n d_KReader_tag_378 rfl ?_
                      refine k_getD (x := (σ49.1 16 2)) d_KReader_tag_379 fl_15_150 ob_16 rfl rfl (dyD_pos y50) ?_
                      refine k_getR d_KReader_tag_382 fl_15_763 (doc_ob (dyD_doc y50)) (dfr_6 (dyD_doc y50)) ?_
                      refine k_iload d_KReader_tag_385 rfl ?_
                      refine k_aload_n d_KReader_tag_387 rfl ?_
                      refine k_getD (x := (σ49.1 16 2)) d_KReader_tag_388 fl_15_150 ob_16 rfl rfl (dyD_pos y50) ?_
                      refine k_getI (x := (σ49.1 (Int.toNat (σ49.1 16 2)) 14)) d_KReader_tag_391 fl_15_748 (doc_ob (dyD_doc y50)) (dfi_14 (dyD_doc y50)) ((rfl).trans ((rfl).trans ((rfl).trans rfl))) ?_
                      refine k_iload d_KReader_tag_394 rfl ?_
                      obtain ⟨p74, h⟩ := h
                      refine k_isub d_KReader_tag_396 p74 ?_
                      obtain ⟨p73, h⟩ := h
                      refine k_ist d_KReader_tag_397 (drI_6 (dyD_doc y50)) p73 ?_
                      refine k_aload_n d_KReader_tag_398 rfl ?_
                      refine k_getD (x := (σ49.1 16 2)) d_KReader_tag_399 fl_15_150 ob_16 rfl rfl (dyD_pos y50) ?_
                      refine k_dup d_KReader_tag_402 ?_
                      refine k_getI (x := (σ49.1 (Int.toNat (σ49.1 16 2)) 7)) d_KReader_tag_403 fl_15_745 (doc_ob (dyD_doc y50)) (dfi_7 (dyD_doc y50)) ((rfl).trans ((rfl).trans ((rfl).trans ((rfl).trans rfl)))) ?_
                      refine k_iconst d_KReader_tag_406 cI_1 ?_
                      obtain ⟨p72, h⟩ := h
                      refine k_iadd d_KReader_tag_407 p72 ?_
                      refine k_putI d_KReader_tag_408 fl_15_745 (doc_ob (dyD_doc y50)) (dfz_7 (dyD_doc y50)) ?_
                      refine k_letH (fun σ53 _ h => ?_) h
                      refine k_aload_n d_KReader_tag_411 rfl ?_
                      obtain ⟨y54, h⟩ := h
                      refine k_getD (x := (σ53.1 16 2)) d_KReader_tag_412 fl_15_150 ob_16 rfl rfl (dyD_pos y54) ?_
                      refine k_iconst d_KReader_tag_415 cI_0 ?_
                      refine k_cvv [.inl 0] d_KReader_tag_416 ml_15_480 rfl rfl (doc_ob (dyD_doc y54)) rfl (s_KDoc_event hL (by omega) (dyD_doc y54) h) (fun σ55 h => ?_)
                      refine k_aload_n d_KReader_tag_419 rfl ?_
                      refine k_getR d_KReader_tag_420 fl_15_9 ob_16 rfl ?_
                      refine k_aload_n d_KReader_tag_423 rfl ?_
                      refine k_getI (x := (σ55.1 16 64)) d_KReader_tag_424 fl_15_221 ob_16 rfl rfl ?_
                      refine k_iload d_KReader_tag_427 rfl ?_
                      obtain ⟨p71, h⟩ := h
                      refine k_ist d_KReader_tag_429 rI_166 p71 ?_
                      refine k_aload_n d_KReader_tag_430 rfl ?_
                      refine k_getR d_KReader_tag_431 fl_15_15 ob_16 rfl ?_
                      refine k_aload_n d_KReader_tag_434 rfl ?_
                      refine k_getI (x := (σ55.1 16 64)) d_KReader_tag_435 fl_15_221 ob_16 rfl rfl ?_
                      refine k_aload_n d_KReader_tag_438 rfl ?_
                      refine k_getR d_KReader_tag_439 fl_15_60 ob_16 rfl ?_
                      refine k_aload_n d_KReader_tag_442 rfl ?_
                      refine k_getI (x := (σ55.1 16 14)) d_KReader_tag_443 fl_15_175 ob_16 rfl rfl ?_
                      refine k_iconst d_KReader_tag_446 cI_1 ?_
                      obtain ⟨p70, h⟩ := h
                      refine k_isub d_KReader_tag_447 p70 ?_
                      obtain ⟨p69, h⟩ := h
                      refine k_ild (x := (σ55.2 181 (Int.toNat ((σ55.1 16 14) - 1)))) d_KReader_tag_448 rI_181 p69 rfl ?_
                      obtain ⟨p68, h⟩ := h
                      refine k_ist d_KReader_tag_449 rI_167 p68 ?_
                      refine k_aload_n d_KReader_tag_450 rfl ?_
                      refine k_getR d_KReader_tag_451 fl_15_18 ob_16 rfl ?_
                      refine k_aload_n d_KReader_tag_454 rfl ?_
                      refine k_getI (x := (σ55.1 16 64)) d_KReader_tag_455 fl_15_221 ob_16 rfl rfl ?_
                      refine k_iconst d_KReader_tag_458 cI_0 ?_
                      obtain ⟨p67, h⟩ := h
                      refine k_zst d_KReader_tag_459 rz_168 p67 (Or.inl rfl) ?_
                      refine k_aload_n d_KReader_tag_460 rfl ?_
                      refine k_getR d_KReader_tag_461 fl_15_22 ob_16 rfl ?_
                      refine k_aload_n d_KReader_tag_464 rfl ?_
                      refine k_getI (x := (σ55.1 16 64)) d_KReader_tag_465 fl_15_221 ob_16 rfl rfl ?_
                      refine k_iconst d_KReader_tag_468 cI_0 ?_
                      obtain ⟨p66, h⟩ := h
                      refine k_zst d_KReader_tag_469 rz_169 p66 (Or.inl rfl) ?_
                      refine k_aload_n d_KReader_tag_470 rfl ?_
                      refine k_getR d_KReader_tag_471 fl_15_25 ob_16 rfl ?_
                      refine k_aload_n d_KReader_tag_474 rfl ?_
                      refine k_getI (x := (σ55.1 16 64)) d_KReader_tag_475 fl_15_221 ob_16 rfl rfl ?_
                      refine k_aload_n d_KReader_tag_478 rfl ?_
                      refine k_getI (x := (σ55.1 16 66)) d_KReader_tag_479 fl_15_224 ob_16 rfl rfl ?_
                      obtain ⟨p65, h⟩ := h
                      refine k_ist d_KReader_tag_482 rI_170 p65 ?_
                      refine k_aload_n d_KReader_tag_483 rfl ?_
                      refine k_dup d_KReader_tag_484 ?_
                      refine k_getI (x := (σ55.1 16 64)) d_KReader_tag_485 fl_15_221 ob_16 rfl rfl ?_
                      refine k_iconst d_KReader_tag_488 cI_1 ?_
                      obtain ⟨p64, h⟩ := h
                      refine k_iadd d_KReader_tag_489 p64 ?_
                      refine k_putI d_KReader_tag_490 fl_15_221 ob_16 rfl ?_
                      refine k_aload_n d_KReader_tag_493 rfl ?_
                      refine k_iconst d_KReader_tag_494 cI_2 ?_
                      refine k_putI d_KReader_tag_495 fl_15_181 ob_16 rfl ?_
                      refine k_aload_n d_KReader_tag_498 rfl ?_
                      refine k_iload_n d_KReader_tag_499 rfl ?_
                      refine k_putI d_KReader_tag_500 fl_15_379 ob_16 rfl ?_
                      refine k_iload d_KReader_tag_503 rfl ?_
                      refine k_join (S := Unit) (pc' := 512) (st' := fun s59 => []) (lv' := fun s59 => [none, none, none, none, none, none, none, none, none, none, none]) (fun s59 σ60 h => ?_) (fun J57 hJ58 h => ?_) h
                      · exact k_ret d_KReader_tag_512 h
                      · refine k_ifeq d_KReader_tag_505 rfl (fun c61 => ?_) (fun c61 => ?_)
                        · have h := ipos c61 h
                          exact k_sb (sb_n (sb_s (sb_n (sb_s (sb_n (sb_n (sb_n (sb_n (sb_s (sb_s (sb_s sb_nil))))))))))) (hJ58 () _ h)
                        · have h := ineg c61 h
                          refine k_aload_n d_KReader_tag_508 rfl ?_
                          refine k_cvv [] d_KReader_tag_509 ml_15_740 rfl rfl ob_16 rfl (s_KReader_close hL (by omega)  h) (fun σ62 h => ?_)
                          exact k_sb (sb_n (sb_s (sb_n (sb_s (sb_n (sb_n (sb_n (sb_n (sb_s (sb_s (sb_s sb_nil))))))))))) (hJ58 () _ h)
                    have pa79 := pt78
                    refine k_ifle d_KReader_tag_347 rfl (fun c80 => ?_) (fun c80 => ?_)
                    · have hV82 := k_eqI (if_neg c80) hV77
                      refine k_iconst d_KReader_tag_364 cI_m1 ?_
                      exact hV82
                    · have pa79 := pa79 c80
                      have hV81 := k_eqI (if_pos c80) hV77
                      obtain ⟨p51, p52⟩ := pa79
                      refine k_aload_n d_KReader_tag_350 rfl ?_
                      refine k_getR d_KReader_tag_351 fl_15_9 ob_16 rfl ?_
                      refine k_aload_n d_KReader_tag_354 rfl ?_
                      refine k_getI (x := (σ49.1 16 64)) d_KReader_tag_355 fl_15_221 ob_16 rfl rfl ?_
                      refine k_iconst d_KReader_tag_358 cI_1 ?_
                      refine k_isub d_KReader_tag_359 p51 ?_
                      refine k_ild (x := ((pr σ49 (rfo (Int.toNat (σ49.1 16 2)) 3) (Int.toNat (σ28.1 (Int.toNat (σ28.1 16 2)) 7)) v29).2 166 (Int.toNat ((σ49.1 16 64) - 1)))) d_KReader_tag_360 rI_166 p52 rfl ?_
                      refine k_goto d_KReader_tag_361 rfl ?_
                      exact hV81
                  · refine k_icne d_KReader_tag_294 rfl (fun c84 => ?_) (fun c84 => ?_)
                    · have h := ineg c84 h
                      exact k_sb (sb_s (sb_s (sb_s (sb_s (sb_s (sb_s (sb_s (sb_s (sb_s (sb_s (sb_s sb_nil))))))))))) (hJ47 () _ h)
                    · have h := ipos c84 h
                      refine k_aload_n d_KReader_tag_297 rfl ?_
                      refine k_cvv [] d_KReader_tag_298 ml_15_465 rfl rfl ob_16 rfl (s_KReader_touch hL (by omega)  h) (fun σ85 h => ?_)
                      refine k_aload_n d_KReader_tag_301 rfl ?_
                      refine k_getR d_KReader_tag_302 fl_15_28 ob_16 rfl ?_
                      refine k_aload_n d_KReader_tag_305 rfl ?_
                      refine k_getI (x := (σ85.1 16 66)) d_KReader_tag_306 fl_15_224 ob_16 rfl rfl ?_
                      refine k_iload d_KReader_tag_309 rfl ?_
                      obtain ⟨p88, h⟩ := h
                      refine k_ist d_KReader_tag_311 rI_171 p88 ?_
                      refine k_aload_n d_KReader_tag_312 rfl ?_
                      refine k_dup d_KReader_tag_313 ?_
                      refine k_getI (x := (σ85.1 16 66)) d_KReader_tag_314 fl_15_224 ob_16 rfl rfl ?_
                      refine k_iconst d_KReader_tag_317 cI_1 ?_
                      obtain ⟨p87, h⟩ := h
                      refine k_iadd d_KReader_tag_318 p87 ?_
                      refine k_putI d_KReader_tag_319 fl_15_224 ob_16 rfl ?_
                      exact k_sb (sb_s (sb_s (sb_s (sb_s (sb_s (sb_s (sb_s (sb_s (sb_s (sb_s (sb_s sb_nil))))))))))) (hJ47 () _ h)
                · have h := ipos c45 h
                  refine k_aload_n d_KReader_tag_282 rfl ?_
                  refine k_iconst d_KReader_tag_283 cI_4 ?_
                  refine k_cvi [.inl 4] d_KReader_tag_284 ml_15_392 rfl rfl ob_16 rfl (s_KReader_fail hL (by omega)  h) (fun v90 σ89 h => ?_)
                  refine k_pop d_KReader_tag_287 ?_
                  exact k_ret d_KReader_tag_288 h
              · have h := ipos c41 h
                exact k_ret d_KReader_tag_241 h
            · have hX110 : ((σ36.1 16 3) = 0 ∧ (¬ s35 < 0)) → OkI BF L (d + 1) 15 b_KReader_tag 11 0 174 [] [some (.inr 16), none, some (.inl s23), some (.inl s35), some (.inl s19), some (.inl v29), some (.inl (σ28.1 (Int.toNat (σ28.1 16 2)) 7)), some (.inl (σ28.1 (Int.toNat (σ28.1 16 2)) 14)), none, none, none] σ36 (qv Q) := fun e112 => by
                have h := ipos e112 h
                refine k_aload_n d_KReader_tag_174 rfl ?_
                refine k_iload_n d_KReader_tag_175 rfl ?_
                refine k_cvi [.inl s35] d_KReader_tag_176 ml_15_341 rfl rfl ob_16 rfl (s_KReader_name hL (by omega)  h) (fun v95 σ94 h => ?_)
                refine k_iflt d_KReader_tag_179 rfl (fun c96 => ?_) (fun c96 => ?_)
                · have h := ipos c96 h
                  exact k_sb (sb_s (sb_s (sb_s (sb_n (sb_s (sb_s (sb_s (sb_s (sb_s (sb_s (sb_s sb_nil))))))))))) (hJ38 () _ h)
                · have h := ineg c96 h
                  refine k_aload_n d_KReader_tag_182 rfl ?_
                  refine k_iload_n d_KReader_tag_183 rfl ?_
                  refine k_cvi [.inl s35] d_KReader_tag_184 ml_15_341 rfl rfl ob_16 rfl (s_KReader_name hL (by omega)  h) (fun v98 σ97 h => ?_)
                  refine k_istore (lv' := [some (.inr 16), none, some (.inl s23), some (.inl s35), some (.inl s19), some (.inl v29), some (.inl (σ28.1 (Int.toNat (σ28.1 16 2)) 7)), some (.inl (σ28.1 (Int.toNat (σ28.1 16 2)) 14)), some (.inl v98), none, none]) d_KReader_tag_187 rfl rfl ?_
                  refine k_aload_n d_KReader_tag_189 rfl ?_
                  refine k_iload d_KReader_tag_190 rfl ?_
                  refine k_cvi [.inl v98] d_KReader_tag_192 ml_15_432 rfl rfl ob_16 rfl (s_KReader_equal hL (by omega)  h) (fun v100 σ99 h => ?_)
                  refine k_istore (lv' := [some (.inr 16), none, some (.inl s23), some (.inl s35), some (.inl s19), some (.inl v29), some (.inl (σ28.1 (Int.toNat (σ28.1 16 2)) 7)), some (.inl (σ28.1 (Int.toNat (σ28.1 16 2)) 14)), some (.inl v98), some (.inl v100), none]) d_KReader_tag_195 rfl rfl ?_
                  refine k_aload_n d_KReader_tag_197 rfl ?_
                  refine k_iload d_KReader_tag_198 rfl ?_
                  refine k_cvi [.inl v100] d_KReader_tag_200 ml_15_656 rfl rfl ob_16 rfl (s_KReader_value hL (by omega)  h) (fun v102 σ101 h => ?_)
                  refine k_istore (lv' := [some (.inr 16), none, some (.inl s23), some (.inl s35), some (.inl s19), some (.inl v29), some (.inl (σ28.1 (Int.toNat (σ28.1 16 2)) 7)), some (.inl (σ28.1 (Int.toNat (σ28.1 16 2)) 14)), some (.inl v98), some (.inl v100), some (.inl v102)]) d_KReader_tag_203 rfl rfl ?_
                  refine k_aload_n d_KReader_tag_205 rfl ?_
                  refine k_iload d_KReader_tag_206 rfl ?_
                  refine k_iload d_KReader_tag_208 rfl ?_
                  refine k_aload_n d_KReader_tag_210 rfl ?_
                  refine k_iload_n d_KReader_tag_211 rfl ?_
                  refine k_iload d_KReader_tag_212 rfl ?_
                  refine k_iload_n d_KReader_tag_214 rfl ?_
                  obtain ⟨p109, h⟩ := h
                  refine k_isub d_KReader_tag_215 p109 ?_
                  refine k_cvi [.inl s35, .inl (v98 - s35)] d_KReader_tag_216 ml_15_470 rfl rfl ob_16 rfl (s_KReader_keep hL (by omega)  h) (fun v104 σ103 h => ?_)
                  refine k_iload d_KReader_tag_219 rfl ?_
                  refine k_cvv [.inl v29, .inl (σ28.1 (Int.toNat (σ28.1 16 2)) 14), .inl v104, .inl v100] d_KReader_tag_221 ml_15_750 rfl rfl ob_16 rfl (s_KReader_given hL (by omega)  h) (fun σ105 h => ?_)
                  refine k_aload_n d_KReader_tag_224 rfl ?_
                  refine k_iload d_KReader_tag_225 rfl ?_
                  refine k_cvi [.inl v102] d_KReader_tag_227 ml_15_333 rfl rfl ob_16 rfl (s_KReader_spaces hL (by omega)  h) (fun v108 σ107 h => ?_)
                  refine k_istore_n (lv' := [some (.inr 16), none, some (.inl s23), some (.inl v108), some (.inl s19), some (.inl v29), some (.inl (σ28.1 (Int.toNat (σ28.1 16 2)) 7)), some (.inl (σ28.1 (Int.toNat (σ28.1 16 2)) 14)), some (.inl v98), some (.inl v100), some (.inl v102)]) d_KReader_tag_230 rfl rfl ?_
                  refine k_goto d_KReader_tag_231 rfl ?_
                  exact k_sb (sb_s (sb_s (sb_s (sb_s (sb_s (sb_s (sb_s (sb_s (sb_n (sb_n (sb_n sb_nil))))))))))) (hK34 v108 _ h)
              have hY111 : ¬ ((σ36.1 16 3) = 0 ∧ (¬ s35 < 0)) → OkI BF L (d + 1) 15 b_KReader_tag 11 0 234 [] [some (.inr 16), none, some (.inl s23), some (.inl s35), some (.inl s19), some (.inl v29), some (.inl (σ28.1 (Int.toNat (σ28.1 16 2)) 7)), some (.inl (σ28.1 (Int.toNat (σ28.1 16 2)) 14)), none, none, none] σ36 (qv Q) := fun e112 => by
                have h := ineg e112 h
                exact k_sb (sb_s (sb_s (sb_s (sb_n (sb_s (sb_s (sb_s (sb_s (sb_s (sb_s (sb_s sb_nil))))))))))) (hJ38 () _ h)
              refine k_ifne d_KReader_tag_167 rfl (fun c113 => ?_) (fun c113 => ?_)
              · exact hY111 (fun z => c113 z.1)
              · refine k_iload_n d_KReader_tag_170 rfl ?_
                refine k_iflt d_KReader_tag_171 rfl (fun c114 => ?_) (fun c114 => ?_)
                · exact hY111 (fun z => (fun z => z c114) z.2)
                · exact hX110 (⟨c113, c114⟩)
          · have h := ipos c27 h
            exact k_ret d_KReader_tag_118 h
        · refine k_ifeq d_KReader_tag_92 rfl (fun c118 => ?_) (fun c118 => ?_)
          · have h := ipos c118 h
            refine k_aload_n d_KReader_tag_101 rfl ?_
            refine k_iload_n d_KReader_tag_102 rfl ?_
            refine k_ldcw d_KReader_tag_103 ks_15_527 rfl ?_
            refine k_cvi [.inl s15, .inr 1124] d_KReader_tag_106 ml_15_329 rfl rfl ob_16 rfl (s_KReader_word hL (by omega) it_1124 h) (fun v120 σ119 h => ?_)
            exact k_sb (sb_s (sb_s (sb_n (sb_s (sb_s (sb_s (sb_s (sb_s (sb_s (sb_s (sb_s sb_nil))))))))))) (hJ22 v120 _ h)
          · have h := ineg c118 h
            refine k_iload_n d_KReader_tag_95 rfl ?_
            refine k_iconst d_KReader_tag_96 cI_2 ?_
            obtain ⟨p121, h⟩ := h
            refine k_iadd d_KReader_tag_97 p121 ?_
            refine k_goto d_KReader_tag_98 rfl ?_
            exact k_sb (sb_s (sb_s (sb_n (sb_s (sb_s (sb_s (sb_s (sb_s (sb_s (sb_s (sb_s sb_nil))))))))))) (hJ22 (s15 + 2) _ h)
      · refine k_join (S := Unit) (pc' := 87) (st' := fun s124 => []) (lv' := fun s124 => [some (.inr 16), some (.inl v2), some (.inl s15), none, none, none, none, none, none, none, none]) (fun s124 σ125 h => ?_) (fun J122 hJ123 h => ?_) h
        · refine k_iconst d_KReader_tag_87 cI_0 ?_
          exact k_sb (sb_s (sb_s (sb_s (sb_s (sb_s (sb_s (sb_s (sb_s (sb_s (sb_s (sb_s sb_nil))))))))))) (hJ18 0 _ h)
        · refine k_iflt d_KReader_tag_69 rfl (fun c126 => ?_) (fun c126 => ?_)
          · have h := ipos c126 h
            exact k_sb (sb_s (sb_s (sb_s (sb_s (sb_s (sb_s (sb_s (sb_s (sb_s (sb_s (sb_s sb_nil))))))))))) (hJ123 () _ h)
          · have h := ineg c126 h
            refine k_aload_n d_KReader_tag_72 rfl ?_
            refine k_iload_n d_KReader_tag_73 rfl ?_
            refine k_ldcw d_KReader_tag_74 ks_15_743 rfl ?_
            refine k_cvi [.inl s15, .inr 1152] d_KReader_tag_77 ml_15_290 rfl rfl ob_16 rfl (s_KReader_says hL (by omega) it_1152 h) (fun v128 σ127 h => ?_)
            refine k_ifeq d_KReader_tag_80 rfl (fun c129 => ?_) (fun c129 => ?_)
            · have h := ipos c129 h
              exact k_sb (sb_s (sb_s (sb_s (sb_s (sb_s (sb_s (sb_s (sb_s (sb_s (sb_s (sb_s sb_nil))))))))))) (hJ123 () _ h)
            · have h := ineg c129 h
              refine k_iconst d_KReader_tag_83 cI_1 ?_
              refine k_goto d_KReader_tag_84 rfl ?_
              exact k_sb (sb_s (sb_s (sb_s (sb_s (sb_s (sb_s (sb_s (sb_s (sb_s (sb_s (sb_s sb_nil))))))))))) (hJ18 1 _ h)
    · refine k_ifge d_KReader_tag_55 rfl (fun c130 => ?_) (fun c130 => ?_)
      · have h := ineg c130 h
        refine k_aload_n d_KReader_tag_62 rfl ?_
        refine k_iload_n d_KReader_tag_63 rfl ?_
        refine k_cvi [.inl s7.1] d_KReader_tag_64 ml_15_297 rfl rfl ob_16 rfl (s_KReader_anySpaces hL (by omega)  h) (fun v132 σ131 h => ?_)
        exact k_sb (sb_s (sb_s (sb_n (sb_s (sb_s (sb_s (sb_s (sb_s (sb_s (sb_s (sb_s sb_nil))))))))))) (hJ14 v132 _ h)
      · have h := ipos c130 h
        refine k_iconst d_KReader_tag_58 cI_m1 ?_
        refine k_goto d_KReader_tag_59 rfl ?_
        exact k_sb (sb_s (sb_s (sb_n (sb_s (sb_s (sb_s (sb_s (sb_s (sb_s (sb_s (sb_s sb_nil))))))))))) (hJ14 (-1) _ h)
  · refine k_iflt d_KReader_tag_20 rfl (fun c133 => ?_) (fun c133 => ?_)
    · have h := ipos c133 h
      exact k_sb (sb_s (sb_s (sb_s (sb_n (sb_s (sb_s (sb_s (sb_s (sb_s (sb_s (sb_s sb_nil))))))))))) (hJ10 () _ h)
    · have h := ineg c133 h
      refine k_aload_n d_KReader_tag_23 rfl ?_
      refine k_iload_n d_KReader_tag_24 rfl ?_
      refine k_cvi [.inl s7.2] d_KReader_tag_25 ml_15_341 rfl rfl ob_16 rfl (s_KReader_name hL (by omega)  h) (fun v135 σ134 h => ?_)
      refine k_iflt d_KReader_tag_28 rfl (fun c136 => ?_) (fun c136 => ?_)
      · have h := ipos c136 h
        exact k_sb (sb_s (sb_s (sb_s (sb_n (sb_s (sb_s (sb_s (sb_s (sb_s (sb_s (sb_s sb_nil))))))))))) (hJ10 () _ h)
      · have h := ineg c136 h
        refine k_aload_n d_KReader_tag_31 rfl ?_
        refine k_aload_n d_KReader_tag_32 rfl ?_
        refine k_aload_n d_KReader_tag_33 rfl ?_
        refine k_iload_n d_KReader_tag_34 rfl ?_
        refine k_cvi [.inl s7.2] d_KReader_tag_35 ml_15_341 rfl rfl ob_16 rfl (s_KReader_name hL (by omega)  h) (fun v138 σ137 h => ?_)
        refine k_cvi [.inl v138] d_KReader_tag_38 ml_15_432 rfl rfl ob_16 rfl (s_KReader_equal hL (by omega)  h) (fun v140 σ139 h => ?_)
        refine k_cvi [.inl v140] d_KReader_tag_41 ml_15_656 rfl rfl ob_16 rfl (s_KReader_value hL (by omega)  h) (fun v142 σ141 h => ?_)
        refine k_istore_n (lv' := [some (.inr 16), some (.inl v2), some (.inl v142), some (.inl s7.2), none, none, none, none, none, none, none]) d_KReader_tag_44 rfl rfl ?_
        refine k_aload_n d_KReader_tag_45 rfl ?_
        refine k_iload_n d_KReader_tag_46 rfl ?_
        refine k_cvi [.inl v142] d_KReader_tag_47 ml_15_333 rfl rfl ob_16 rfl (s_KReader_spaces hL (by omega)  h) (fun v144 σ143 h => ?_)
        refine k_istore_n (lv' := [some (.inr 16), some (.inl v2), some (.inl v142), some (.inl v144), none, none, none, none, none, none, none]) d_KReader_tag_50 rfl rfl ?_
        refine k_goto d_KReader_tag_51 rfl ?_
        exact k_sb (sb_s (sb_s (sb_s (sb_s (sb_s (sb_s (sb_s (sb_s (sb_s (sb_s (sb_s sb_nil))))))))))) (hK6 (v142, v144) _ h)
theorem d_KReader_contentReference_0 : decode b_KReader_contentReference 0 = .ok (.aload_n 0, 1) := by decide +kernel
theorem d_KReader_contentReference_1 : decode b_KReader_contentReference 1 = .ok (.aload_n 0, 1) := by decide +kernel
theorem d_KReader_contentReference_2 : decode b_KReader_contentReference 2 = .ok (.getfield 379, 3) := by decide +kernel
theorem d_KReader_contentReference_5 : decode b_KReader_contentReference 5 = .ok (.invokevirtual 350, 3) := by decide +kernel
theorem d_KReader_contentReference_8 : decode b_KReader_contentReference 8 = .ok (.istore_n 1, 1) := by decide +kernel
theorem d_KReader_contentReference_9 : decode b_KReader_contentReference 9 = .ok (.aload_n 0, 1) := by decide +kernel
theorem d_KReader_contentReference_10 : decode b_KReader_contentReference 10 = .ok (.iload_n 1, 1) := by decide +kernel
theorem d_KReader_contentReference_11 : decode b_KReader_contentReference 11 = .ok (.invokevirtual 437, 3) := by decide +kernel
theorem d_KReader_contentReference_14 : decode b_KReader_contentReference 14 = .ok (.ifCond .ne 4, 3) := by decide +kernel
theorem d_KReader_contentReference_17 : decode b_KReader_contentReference 17 = .ok (.return_, 1) := by decide +kernel
theorem d_KReader_contentReference_18 : decode b_KReader_contentReference 18 = .ok (.aload_n 0, 1) := by decide +kernel
theorem d_KReader_contentReference_19 : decode b_KReader_contentReference 19 = .ok (.invokevirtual 465, 3) := by decide +kernel
theorem d_KReader_contentReference_22 : decode b_KReader_contentReference 22 = .ok (.aload_n 0, 1) := by decide +kernel
theorem d_KReader_contentReference_23 : decode b_KReader_contentReference 23 = .ok (.getfield 45, 3) := by decide +kernel
theorem d_KReader_contentReference_26 : decode b_KReader_contentReference 26 = .ok (.aload_n 0, 1) := by decide +kernel
theorem d_KReader_contentReference_27 : decode b_KReader_contentReference 27 = .ok (.getfield 379, 3) := by decide +kernel
theorem d_KReader_contentReference_30 : decode b_KReader_contentReference 30 = .ok (.iconst 1, 1) := by decide +kernel
theorem d_KReader_contentReference_31 : decode b_KReader_contentReference 31 = .ok (.iadd, 1) := by decide +kernel
theorem d_KReader_contentReference_32 : decode b_KReader_contentReference 32 = .ok (.iaload, 1) := by decide +kernel
theorem d_KReader_contentReference_33 : decode b_KReader_contentReference 33 = .ok (.bipush 35, 2) := by decide +kernel
theorem d_KReader_contentReference_35 : decode b_KReader_contentReference 35 = .ok (.if_icmp .ne 17, 3) := by decide +kernel
theorem d_KReader_contentReference_38 : decode b_KReader_contentReference 38 = .ok (.aload_n 0, 1) := by decide +kernel
theorem d_KReader_contentReference_39 : decode b_KReader_contentReference 39 = .ok (.getfield 45, 3) := by decide +kernel
theorem d_KReader_contentReference_42 : decode b_KReader_contentReference 42 = .ok (.aload_n 0, 1) := by decide +kernel
theorem d_KReader_contentReference_43 : decode b_KReader_contentReference 43 = .ok (.getfield 379, 3) := by decide +kernel
theorem d_KReader_contentReference_46 : decode b_KReader_contentReference 46 = .ok (.invokestatic 692, 3) := by decide +kernel
theorem d_KReader_contentReference_49 : decode b_KReader_contentReference 49 = .ok (.goto 21, 3) := by decide +kernel
theorem d_KReader_contentReference_52 : decode b_KReader_contentReference 52 = .ok (.aload_n 0, 1) := by decide +kernel
theorem d_KReader_contentReference_53 : decode b_KReader_contentReference 53 = .ok (.aload_n 0, 1) := by decide +kernel
theorem d_KReader_contentReference_54 : decode b_KReader_contentReference 54 = .ok (.getfield 379, 3) := by decide +kernel
theorem d_KReader_contentReference_57 : decode b_KReader_contentReference 57 = .ok (.iconst 1, 1) := by decide +kernel
theorem d_KReader_contentReference_58 : decode b_KReader_contentReference 58 = .ok (.iadd, 1) := by decide +kernel
theorem d_KReader_contentReference_59 : decode b_KReader_contentReference 59 = .ok (.iload_n 1, 1) := by decide +kernel
theorem d_KReader_contentReference_60 : decode b_KReader_contentReference 60 = .ok (.aload_n 0, 1) := by decide +kernel
theorem d_KReader_contentReference_61 : decode b_KReader_contentReference 61 = .ok (.getfield 379, 3) := by decide +kernel
theorem d_KReader_contentReference_64 : decode b_KReader_contentReference 64 = .ok (.isub, 1) := by decide +kernel
theorem d_KReader_contentReference_65 : decode b_KReader_contentReference 65 = .ok (.iconst 2, 1) := by decide +kernel
theorem d_KReader_contentReference_66 : decode b_KReader_contentReference 66 = .ok (.isub, 1) := by decide +kernel
theorem d_KReader_contentReference_67 : decode b_KReader_contentReference 67 = .ok (.invokevirtual 732, 3) := by decide +kernel
theorem d_KReader_contentReference_70 : decode b_KReader_contentReference 70 = .ok (.istore_n 2, 1) := by decide +kernel
theorem d_KReader_contentReference_71 : decode b_KReader_contentReference 71 = .ok (.iload_n 2, 1) := by decide +kernel
theorem d_KReader_contentReference_72 : decode b_KReader_contentReference 72 = .ok (.ifCond .ge 27, 3) := by decide +kernel
theorem d_KReader_contentReference_75 : decode b_KReader_contentReference 75 = .ok (.aload_n 0, 1) := by decide +kernel
theorem d_KReader_contentReference_76 : decode b_KReader_contentReference 76 = .ok (.getfield 45, 3) := by decide +kernel
theorem d_KReader_contentReference_79 : decode b_KReader_contentReference 79 = .ok (.aload_n 0, 1) := by decide +kernel
theorem d_KReader_contentReference_80 : decode b_KReader_contentReference 80 = .ok (.getfield 379, 3) := by decide +kernel
theorem d_KReader_contentReference_83 : decode b_KReader_contentReference 83 = .ok (.iconst 1, 1) := by decide +kernel
theorem d_KReader_contentReference_84 : decode b_KReader_contentReference 84 = .ok (.iadd, 1) := by decide +kernel
theorem d_KReader_contentReference_85 : decode b_KReader_contentReference 85 = .ok (.iaload, 1) := by decide +kernel
theorem d_KReader_contentReference_86 : decode b_KReader_contentReference 86 = .ok (.bipush 35, 2) := by decide +kernel
theorem d_KReader_contentReference_88 : decode b_KReader_contentReference 88 = .ok (.if_icmp .ne 11, 3) := by decide +kernel
theorem d_KReader_contentReference_91 : decode b_KReader_contentReference 91 = .ok (.aload_n 0, 1) := by decide +kernel
theorem d_KReader_contentReference_92 : decode b_KReader_contentReference 92 = .ok (.bipush 12, 2) := by decide +kernel
theorem d_KReader_contentReference_94 : decode b_KReader_contentReference 94 = .ok (.invokevirtual 392, 3) := by decide +kernel
theorem d_KReader_contentReference_97 : decode b_KReader_contentReference 97 = .ok (.pop, 1) := by decide +kernel
theorem d_KReader_contentReference_98 : decode b_KReader_contentReference 98 = .ok (.return_, 1) := by decide +kernel
theorem d_KReader_contentReference_99 : decode b_KReader_contentReference 99 = .ok (.iload_n 2, 1) := by decide +kernel
theorem d_KReader_contentReference_100 : decode b_KReader_contentReference 100 = .ok (.ifCond .lt 21, 3) := by decide +kernel
theorem d_KReader_contentReference_103 : decode b_KReader_contentReference 103 = .ok (.aload_n 0, 1) := by decide +kernel
theorem d_KReader_contentReference_104 : decode b_KReader_contentReference 104 = .ok (.invokevirtual 713, 3) := by decide +kernel
theorem d_KReader_contentReference_107 : decode b_KReader_contentReference 107 = .ok (.aload_n 0, 1) := by decide +kernel
theorem d_KReader_contentReference_108 : decode b_KReader_contentReference 108 = .ok (.getfield 150, 3) := by decide +kernel
theorem d_KReader_contentReference_111 : decode b_KReader_contentReference 111 = .ok (.iload_n 2, 1) := by decide +kernel
theorem d_KReader_contentReference_112 : decode b_KReader_contentReference 112 = .ok (.invokevirtual 716, 3) := by decide +kernel
theorem d_KReader_contentReference_115 : decode b_KReader_contentReference 115 = .ok (.aload_n 0, 1) := by decide +kernel
theorem d_KReader_contentReference_116 : decode b_KReader_contentReference 116 = .ok (.iload_n 1, 1) := by decide +kernel
theorem d_KReader_contentReference_117 : decode b_KReader_contentReference 117 = .ok (.putfield 379, 3) := by decide +kernel
theorem d_KReader_contentReference_120 : decode b_KReader_contentReference 120 = .ok (.return_, 1) := by decide +kernel
theorem d_KReader_contentReference_121 : decode b_KReader_contentReference 121 = .ok (.aload_n 0, 1) := by decide +kernel
theorem d_KReader_contentReference_122 : decode b_KReader_contentReference 122 = .ok (.aload_n 0, 1) := by decide +kernel
theorem d_KReader_contentReference_123 : decode b_KReader_contentReference 123 = .ok (.getfield 150, 3) := by decide +kernel
theorem d_KReader_contentReference_126 : decode b_KReader_contentReference 126 = .ok (.getfield 227, 3) := by decide +kernel
theorem d_KReader_contentReference_129 : decode b_KReader_contentReference 129 = .ok (.aload_n 0, 1) := by decide +kernel
theorem d_KReader_contentReference_130 : decode b_KReader_contentReference 130 = .ok (.getfield 45, 3) := by decide +kernel
theorem d_KReader_contentReference_133 : decode b_KReader_contentReference 133 = .ok (.aload_n 0, 1) := by decide +kernel
theorem d_KReader_contentReference_134 : decode b_KReader_contentReference 134 = .ok (.getfield 379, 3) := by decide +kernel
theorem d_KReader_contentReference_137 : decode b_KReader_contentReference 137 = .ok (.iconst 1, 1) := by decide +kernel
theorem d_KReader_contentReference_138 : decode b_KReader_contentReference 138 = .ok (.iadd, 1) := by decide +kernel
theorem d_KReader_contentReference_139 : decode b_KReader_contentReference 139 = .ok (.iload_n 1, 1) := by decide +kernel
theorem d_KReader_contentReference_140 : decode b_KReader_contentReference 140 = .ok (.aload_n 0, 1) := by decide +kernel
theorem d_KReader_contentReference_141 : decode b_KReader_contentReference 141 = .ok (.getfield 379, 3) := by decide +kernel
theorem d_KReader_contentReference_144 : decode b_KReader_contentReference 144 = .ok (.isub, 1) := by decide +kernel
theorem d_KReader_contentReference_145 : decode b_KReader_contentReference 145 = .ok (.iconst 2, 1) := by decide +kernel
theorem d_KReader_contentReference_146 : decode b_KReader_contentReference 146 = .ok (.isub, 1) := by decide +kernel
theorem d_KReader_contentReference_147 : decode b_KReader_contentReference 147 = .ok (.invokevirtual 529, 3) := by decide +kernel
theorem d_KReader_contentReference_150 : decode b_KReader_contentReference 150 = .ok (.iconst 0, 1) := by decide +kernel
theorem d_KReader_contentReference_151 : decode b_KReader_contentReference 151 = .ok (.invokevirtual 532, 3) := by decide +kernel
theorem d_KReader_contentReference_154 : decode b_KReader_contentReference 154 = .ok (.istore_n 3, 1) := by decide +kernel
theorem d_KReader_contentReference_155 : decode b_KReader_contentReference 155 = .ok (.iload_n 3, 1) := by decide +kernel
theorem d_KReader_contentReference_156 : decode b_KReader_contentReference 156 = .ok (.ifCond .ge 16, 3) := by decide +kernel
theorem d_KReader_contentReference_159 : decode b_KReader_contentReference 159 = .ok (.aload_n 0, 1) := by decide +kernel
theorem d_KReader_contentReference_160 : decode b_KReader_contentReference 160 = .ok (.invokevirtual 735, 3) := by decide +kernel
theorem d_KReader_contentReference_163 : decode b_KReader_contentReference 163 = .ok (.ifCond .eq 8, 3) := by decide +kernel
theorem d_KReader_contentReference_166 : decode b_KReader_contentReference 166 = .ok (.aload_n 0, 1) := by decide +kernel
theorem d_KReader_contentReference_167 : decode b_KReader_contentReference 167 = .ok (.iload_n 1, 1) := by decide +kernel
theorem d_KReader_contentReference_168 : decode b_KReader_contentReference 168 = .ok (.putfield 379, 3) := by decide +kernel
theorem d_KReader_contentReference_171 : decode b_KReader_contentReference 171 = .ok (.return_, 1) := by decide +kernel
theorem d_KReader_contentReference_172 : decode b_KReader_contentReference 172 = .ok (.aload_n 0, 1) := by decide +kernel
theorem d_KReader_contentReference_173 : decode b_KReader_contentReference 173 = .ok (.iload_n 3, 1) := by decide +kernel
theorem d_KReader_contentReference_174 : decode b_KReader_contentReference 174 = .ok (.invokevirtual 535, 3) := by decide +kernel
theorem d_KReader_contentReference_177 : decode b_KReader_contentReference 177 = .ok (.ifCond .eq 9, 3) := by decide +kernel
theorem d_KReader_contentReference_180 : decode b_KReader_contentReference 180 = .ok (.aload_n 0, 1) := by decide +kernel
theorem d_KReader_contentReference_181 : decode b_KReader_contentReference 181 = .ok (.iload_n 3, 1) := by decide +kernel
theorem d_KReader_contentReference_182 : decode b_KReader_contentReference 182 = .ok (.iload_n 1, 1) := by decide +kernel
theorem d_KReader_contentReference_183 : decode b_KReader_contentReference 183 = .ok (.invokevirtual 538, 3) := by decide +kernel
theorem d_KReader_contentReference_186 : decode b_KReader_contentReference 186 = .ok (.return_, 1) := by decide +kernel
/-- KReader_contentReference -/
def w_KReader_contentReference (L : Nat → Nat)  (Q : IS → Prop) (σ : IS) : Prop := w_KReader_reference L (σ.1 16 16) (fun v2 σ1 => w_KReader_written L v2 (fun v4 σ3 => if v4 = 0 then Q σ3 else w_KReader_touch L  (fun σ6 => inR ((σ6.1 16 16) + 1) ∧ inL L 176 ((σ6.1 16 16) + 1) ∧ WJ (fun (s10 : Int) (σ11 : IS) => ((s10 < 0 → (inR ((σ11.1 16 16) + 1) ∧ inL L 176 ((σ11.1 16 16) + 1)))) ∧ if s10 < 0 ∧ ((σ11.2 176 (Int.toNat ((σ11.1 16 16) + 1))) = 35) then w_KReader_fail L 12 (fun v15 σ14 => Q σ14) σ11 else if s10 < 0 then dyD (σ11.1 16 2) ∧ inR ((σ11.1 16 16) + 1) ∧ inR (v2 - (σ11.1 16 16)) ∧ inR ((v2 - (σ11.1 16 16)) - 2) ∧ w_KBook_find L 176 ((σ11.1 16 16) + 1) ((v2 - (σ11.1 16 16)) - 2) (fun v19 σ18 => w_KReader_entityOf L v19 0 (fun v21 σ20 => if v21 < 0 then w_KReader_undeclared L  (fun v33 σ32 => WJ (fun (s36 : Unit) (σ37 : IS) => Q σ37) (fun J34 => if v33 = 0 then J34 () σ32 else J34 () (pf σ32 16 16 v2))) σ20 else w_KReader_fits L v21 (fun v24 σ23 => WJ (fun (s27 : Unit) (σ28 : IS) => Q σ28) (fun J25 => if v24 = 0 then J25 () σ23 else w_KReader_goThrough L v21 v2 (fun σ30 => J25 () σ30) σ23)) σ20) σ18) σ11 else w_KReader_spoil L  (fun σ42 => dyD (σ42.1 16 2) ∧ w_KDoc_text L (Int.toNat (σ42.1 16 2)) s10 (fun σ45 => Q (pf σ45 16 16 v2)) σ42) σ11) (fun J8 => if (σ6.2 176 (Int.toNat ((σ6.1 16 16) + 1))) = 35 then w_KReader_meant L 176 (σ6.1 16 16) (fun v61 σ60 => J8 v61 σ60) σ6 else inR ((σ6.1 16 16) + 1) ∧ inR (v2 - (σ6.1 16 16)) ∧ inR ((v2 - (σ6.1 16 16)) - 2) ∧ w_KReader_always L ((σ6.1 16 16) + 1) ((v2 - (σ6.1 16 16)) - 2) (fun v56 σ55 => J8 v56 σ55) σ6)) σ3) σ1) σ
set_option maxHeartbeats 4000000 in
set_option maxRecDepth 20000 in
theorem s_KReader_contentReference {L : Nat → Nat} (hL : ∀ r, L r < 2147483648) {d : Nat} (hd : 6 ≤ d)  {Q : IS → Prop} {σ : IS}  (h : w_KReader_contentReference L  Q σ) : OkI BF L d 15 b_KReader_contentReference 4 0 0 [] [some (.inr 16)] σ (qv Q) := by
  unfold w_KReader_contentReference at h
  obtain ⟨d, rfl⟩ : ∃ e, d = e + 1 := ⟨d - 1, by omega⟩
  refine k_sb (lv' := [some (.inr 16), none, none, none]) (sb_s (sb_e (sb_e (sb_e sb_nil)))) ?_
  refine k_aload_n d_KReader_contentReference_0 rfl ?_
  refine k_aload_n d_KReader_contentReference_1 rfl ?_
  refine k_getI (x := (σ.1 16 16)) d_KReader_contentReference_2 fl_15_379 ob_16 rfl rfl ?_
  refine k_cvi [.inl (σ.1 16 16)] d_KReader_contentReference_5 ml_15_350 rfl rfl ob_16 rfl (s_KReader_reference hL (by omega)  h) (fun v2 σ1 h => ?_)
  refine k_istore_n (lv' := [some (.inr 16), some (.inl v2), none, none]) d_KReader_contentReference_8 rfl rfl ?_
  refine k_aload_n d_KReader_contentReference_9 rfl ?_
  refine k_iload_n d_KReader_contentReference_10 rfl ?_
  refine k_cvi [.inl v2] d_KReader_contentReference_11 ml_15_437 rfl rfl ob_16 rfl (s_KReader_written hL (by omega)  h) (fun v4 σ3 h => ?_)
  refine k_ifne d_KReader_contentReference_14 rfl (fun c5 => ?_) (fun c5 => ?_)
  · have h := ineg c5 h
    refine k_aload_n d_KReader_contentReference_18 rfl ?_
    refine k_cvv [] d_KReader_contentReference_19 ml_15_465 rfl rfl ob_16 rfl (s_KReader_touch hL (by omega)  h) (fun σ6 h => ?_)
    refine k_aload_n d_KReader_contentReference_22 rfl ?_
    refine k_getR d_KReader_contentReference_23 fl_15_45 ob_16 rfl ?_
    refine k_aload_n d_KReader_contentReference_26 rfl ?_
    refine k_getI (x := (σ6.1 16 16)) d_KReader_contentReference_27 fl_15_379 ob_16 rfl rfl ?_
    refine k_iconst d_KReader_contentReference_30 cI_1 ?_
    obtain ⟨p63, h⟩ := h
    refine k_iadd d_KReader_contentReference_31 p63 ?_
    obtain ⟨p62, h⟩ := h
    refine k_ild (x := (σ6.2 176 (Int.toNat ((σ6.1 16 16) + 1)))) d_KReader_contentReference_32 rI_176 p62 rfl ?_
    refine k_bipush d_KReader_contentReference_33 cB_35 ?_
    refine k_join (S := Int) (pc' := 70) (st' := fun s10 => [.inl s10]) (lv' := fun s10 => [some (.inr 16), some (.inl v2), none, none]) (fun s10 σ11 h => ?_) (fun J8 hJ9 h => ?_) h
    · refine k_istore_n (lv' := [some (.inr 16), some (.inl v2), some (.inl s10), none]) d_KReader_contentReference_70 rfl rfl ?_
      refine k_iload_n d_KReader_contentReference_71 rfl ?_
      obtain ⟨pt50, h⟩ := h
      have hX47 : (s10 < 0 ∧ ((σ11.2 176 (Int.toNat ((σ11.1 16 16) + 1))) = 35)) → OkI BF L (d + 1) 15 b_KReader_contentReference 4 0 91 [] [some (.inr 16), some (.inl v2), some (.inl s10), none] σ11 (qv Q) := fun e49 => by
        have h := ipos e49 h
        refine k_aload_n d_KReader_contentReference_91 rfl ?_
        refine k_bipush d_KReader_contentReference_92 cB_12 ?_
        refine k_cvi [.inl 12] d_KReader_contentReference_94 ml_15_392 rfl rfl ob_16 rfl (s_KReader_fail hL (by omega)  h) (fun v15 σ14 h => ?_)
        refine k_pop d_KReader_contentReference_97 ?_
        exact k_ret d_KReader_contentReference_98 h
      have hY48 : ¬ (s10 < 0 ∧ ((σ11.2 176 (Int.toNat ((σ11.1 16 16) + 1))) = 35)) → OkI BF L (d + 1) 15 b_KReader_contentReference 4 0 99 [] [some (.inr 16), some (.inl v2), some (.inl s10), none] σ11 (qv Q) := fun e49 => by
        have h := ineg e49 h
        refine k_iload_n d_KReader_contentReference_99 rfl ?_
        refine k_iflt d_KReader_contentReference_100 rfl (fun c16 => ?_) (fun c16 => ?_)
        · have h := ipos c16 h
          refine k_aload_n d_KReader_contentReference_121 rfl ?_
          refine k_aload_n d_KReader_contentReference_122 rfl ?_
          obtain ⟨y17, h⟩ := h
          refine k_getD (x := (σ11.1 16 2)) d_KReader_contentReference_123 fl_15_150 ob_16 rfl rfl (dyD_pos y17) ?_
          refine k_getR d_KReader_contentReference_126 fl_15_227 (doc_ob (dyD_doc y17)) (dfr_0 (dyD_doc y17)) ?_
          refine k_aload_n d_KReader_contentReference_129 rfl ?_
          refine k_getR d_KReader_contentReference_130 fl_15_45 ob_16 rfl ?_
          refine k_aload_n d_KReader_contentReference_133 rfl ?_
          refine k_getI (x := (σ11.1 16 16)) d_KReader_contentReference_134 fl_15_379 ob_16 rfl rfl ?_
          refine k_iconst d_KReader_contentReference_137 cI_1 ?_
          obtain ⟨p41, h⟩ := h
          refine k_iadd d_KReader_contentReference_138 p41 ?_
          refine k_iload_n d_KReader_contentReference_139 rfl ?_
          refine k_aload_n d_KReader_contentReference_140 rfl ?_
          refine k_getI (x := (σ11.1 16 16)) d_KReader_contentReference_141 fl_15_379 ob_16 rfl rfl ?_
          obtain ⟨p40, h⟩ := h
          refine k_isub d_KReader_contentReference_144 p40 ?_
          refine k_iconst d_KReader_contentReference_145 cI_2 ?_
          obtain ⟨p39, h⟩ := h
          refine k_isub d_KReader_contentReference_146 p39 ?_
          refine k_cvi [.inr 176, .inl ((σ11.1 16 16) + 1), .inl ((v2 - (σ11.1 16 16)) - 2)] d_KReader_contentReference_147 ml_15_529 rfl rfl ob_13 rfl (s_KBook_find hL (by omega) rI_176 h) (fun v19 σ18 h => ?_)
          refine k_iconst d_KReader_contentReference_150 cI_0 ?_
          refine k_cvi [.inl v19, .inl 0] d_KReader_contentReference_151 ml_15_532 rfl rfl ob_16 rfl (s_KReader_entityOf hL (by omega)  h) (fun v21 σ20 h => ?_)
          refine k_istore_n (lv' := [some (.inr 16), some (.inl v2), some (.inl s10), some (.inl v21)]) d_KReader_contentReference_154 rfl rfl ?_
          refine k_iload_n d_KReader_contentReference_155 rfl ?_
          refine k_ifge d_KReader_contentReference_156 rfl (fun c22 => ?_) (fun c22 => ?_)
          · have h := ineg c22 h
            refine k_aload_n d_KReader_contentReference_172 rfl ?_
            refine k_iload_n d_KReader_contentReference_173 rfl ?_
            refine k_cvi [.inl v21] d_KReader_contentReference_174 ml_15_535 rfl rfl ob_16 rfl (s_KReader_fits hL (by omega)  h) (fun v24 σ23 h => ?_)
            refine k_join (S := Unit) (pc' := 186) (st' := fun s27 => []) (lv' := fun s27 => [none, none, none, none]) (fun s27 σ28 h => ?_) (fun J25 hJ26 h => ?_) h
            · exact k_ret d_KReader_contentReference_186 h
            · refine k_ifeq d_KReader_contentReference_177 rfl (fun c29 => ?_) (fun c29 => ?_)
              · have h := ipos c29 h
                exact k_sb (sb_n (sb_n (sb_n (sb_n sb_nil)))) (hJ26 () _ h)
              · have h := ineg c29 h
                refine k_aload_n d_KReader_contentReference_180 rfl ?_
                refine k_iload_n d_KReader_contentReference_181 rfl ?_
                refine k_iload_n d_KReader_contentReference_182 rfl ?_
                refine k_cvv [.inl v21, .inl v2] d_KReader_contentReference_183 ml_15_538 rfl rfl ob_16 rfl (s_KReader_goThrough hL (by omega)  h) (fun σ30 h => ?_)
                exact k_sb (sb_n (sb_n (sb_n (sb_n sb_nil)))) (hJ26 () _ h)
          · have h := ipos c22 h
            refine k_aload_n d_KReader_contentReference_159 rfl ?_
            refine k_cvi [] d_KReader_contentReference_160 ml_15_735 rfl rfl ob_16 rfl (s_KReader_undeclared hL (by omega)  h) (fun v33 σ32 h => ?_)
            refine k_join (S := Unit) (pc' := 171) (st' := fun s36 => []) (lv' := fun s36 => [none, none, none, none]) (fun s36 σ37 h => ?_) (fun J34 hJ35 h => ?_) h
            · exact k_ret d_KReader_contentReference_171 h
            · refine k_ifeq d_KReader_contentReference_163 rfl (fun c38 => ?_) (fun c38 => ?_)
              · have h := ipos c38 h
                exact k_sb (sb_n (sb_n (sb_n (sb_n sb_nil)))) (hJ35 () _ h)
              · have h := ineg c38 h
                refine k_aload_n d_KReader_contentReference_166 rfl ?_
                refine k_iload_n d_KReader_contentReference_167 rfl ?_
                refine k_putI d_KReader_contentReference_168 fl_15_379 ob_16 rfl ?_
                exact k_sb (sb_n (sb_n (sb_n (sb_n sb_nil)))) (hJ35 () _ h)
        · have h := ineg c16 h
          refine k_aload_n d_KReader_contentReference_103 rfl ?_
          refine k_cvv [] d_KReader_contentReference_104 ml_15_713 rfl rfl ob_16 rfl (s_KReader_spoil hL (by omega)  h) (fun σ42 h => ?_)
          refine k_aload_n d_KReader_contentReference_107 rfl ?_
          obtain ⟨y44, h⟩ := h
          refine k_getD (x := (σ42.1 16 2)) d_KReader_contentReference_108 fl_15_150 ob_16 rfl rfl (dyD_pos y44) ?_
          refine k_iload_n d_KReader_contentReference_111 rfl ?_
          refine k_cvv [.inl s10] d_KReader_contentReference_112 ml_15_716 rfl rfl (doc_ob (dyD_doc y44)) rfl (s_KDoc_text hL (by omega) (dyD_doc y44) h) (fun σ45 h => ?_)
          refine k_aload_n d_KReader_contentReference_115 rfl ?_
          refine k_iload_n d_KReader_contentReference_116 rfl ?_
          refine k_putI d_KReader_contentReference_117 fl_15_379 ob_16 rfl ?_
          exact k_ret d_KReader_contentReference_120 h
      have pa51 := pt50
      refine k_ifge d_KReader_contentReference_72 rfl (fun c52 => ?_) (fun c52 => ?_)
      · exact hY48 (fun z => c52 z.1)
      · have pa51 := pa51 c52
        obtain ⟨p12, p13⟩ := pa51
        refine k_aload_n d_KReader_contentReference_75 rfl ?_
        refine k_getR d_KReader_contentReference_76 fl_15_45 ob_16 rfl ?_
        refine k_aload_n d_KReader_contentReference_79 rfl ?_
        refine k_getI (x := (σ11.1 16 16)) d_KReader_contentReference_80 fl_15_379 ob_16 rfl rfl ?_
        refine k_iconst d_KReader_contentReference_83 cI_1 ?_
        refine k_iadd d_KReader_contentReference_84 p12 ?_
        refine k_ild (x := (σ11.2 176 (Int.toNat ((σ11.1 16 16) + 1)))) d_KReader_contentReference_85 rI_176 p13 rfl ?_
        refine k_bipush d_KReader_contentReference_86 cB_35 ?_
        refine k_icne d_KReader_contentReference_88 rfl (fun c53 => ?_) (fun c53 => ?_)
        · exact hY48 (fun z => (c53) z.2)
        · exact hX47 (⟨c52, c53⟩)
    · refine k_icne d_KReader_contentReference_35 rfl (fun c54 => ?_) (fun c54 => ?_)
      · have h := ineg c54 h
        refine k_aload_n d_KReader_contentReference_52 rfl ?_
        refine k_aload_n d_KReader_contentReference_53 rfl ?_
        refine k_getI (x := (σ6.1 16 16)) d_KReader_contentReference_54 fl_15_379 ob_16 rfl rfl ?_
        refine k_iconst d_KReader_contentReference_57 cI_1 ?_
        obtain ⟨p59, h⟩ := h
        refine k_iadd d_KReader_contentReference_58 p59 ?_
        refine k_iload_n d_KReader_contentReference_59 rfl ?_
        refine k_aload_n d_KReader_contentReference_60 rfl ?_
        refine k_getI (x := (σ6.1 16 16)) d_KReader_contentReference_61 fl_15_379 ob_16 rfl rfl ?_
        obtain ⟨p58, h⟩ := h
        refine k_isub d_KReader_contentReference_64 p58 ?_
        refine k_iconst d_KReader_contentReference_65 cI_2 ?_
        obtain ⟨p57, h⟩ := h
        refine k_isub d_KReader_contentReference_66 p57 ?_
        refine k_cvi [.inl ((σ6.1 16 16) + 1), .inl ((v2 - (σ6.1 16 16)) - 2)] d_KReader_contentReference_67 ml_15_732 rfl rfl ob_16 rfl (s_KReader_always hL (by omega)  h) (fun v56 σ55 h => ?_)
        exact k_sb (sb_s (sb_s (sb_s (sb_s sb_nil)))) (hJ9 v56 _ h)
      · have h := ipos c54 h
        refine k_aload_n d_KReader_contentReference_38 rfl ?_
        refine k_getR d_KReader_contentReference_39 fl_15_45 ob_16 rfl ?_
        refine k_aload_n d_KReader_contentReference_42 rfl ?_
        refine k_getI (x := (σ6.1 16 16)) d_KReader_contentReference_43 fl_15_379 ob_16 rfl rfl ?_
        refine k_csi [.inr 176, .inl (σ6.1 16 16)] d_KReader_contentReference_46 ml_15_692 (Or.inl rfl) rfl rfl rfl (s_KReader_meant hL (by omega) rI_176 h) (fun v61 σ60 h => ?_)
        refine k_goto d_KReader_contentReference_49 rfl ?_
        exact k_sb (sb_s (sb_s (sb_s (sb_s sb_nil)))) (hJ9 v61 _ h)
  · have h := ipos c5 h
    exact k_ret d_KReader_contentReference_17 h
theorem d_KReader_run_0 : decode b_KReader_run 0 = .ok (.aload_n 0, 1) := by decide +kernel
theorem d_KReader_run_1 : decode b_KReader_run 1 = .ok (.getfield 379, 3) := by decide +kernel
theorem d_KReader_run_4 : decode b_KReader_run 4 = .ok (.istore_n 1, 1) := by decide +kernel
theorem d_KReader_run_5 : decode b_KReader_run 5 = .ok (.iconst 1, 1) := by decide +kernel
theorem d_KReader_run_6 : decode b_KReader_run 6 = .ok (.istore_n 2, 1) := by decide +kernel
theorem d_KReader_run_7 : decode b_KReader_run 7 = .ok (.iload_n 1, 1) := by decide +kernel
theorem d_KReader_run_8 : decode b_KReader_run 8 = .ok (.aload_n 0, 1) := by decide +kernel
theorem d_KReader_run_9 : decode b_KReader_run 9 = .ok (.getfield 273, 3) := by decide +kernel
theorem d_KReader_run_12 : decode b_KReader_run 12 = .ok (.if_icmp .ge 52, 3) := by decide +kernel
theorem d_KReader_run_15 : decode b_KReader_run 15 = .ok (.aload_n 0, 1) := by decide +kernel
theorem d_KReader_run_16 : decode b_KReader_run 16 = .ok (.getfield 45, 3) := by decide +kernel
theorem d_KReader_run_19 : decode b_KReader_run 19 = .ok (.iload_n 1, 1) := by decide +kernel
theorem d_KReader_run_20 : decode b_KReader_run 20 = .ok (.iaload, 1) := by decide +kernel
theorem d_KReader_run_21 : decode b_KReader_run 21 = .ok (.bipush 60, 2) := by decide +kernel
theorem d_KReader_run_23 : decode b_KReader_run 23 = .ok (.if_icmp .eq 41, 3) := by decide +kernel
theorem d_KReader_run_26 : decode b_KReader_run 26 = .ok (.aload_n 0, 1) := by decide +kernel
theorem d_KReader_run_27 : decode b_KReader_run 27 = .ok (.getfield 45, 3) := by decide +kernel
theorem d_KReader_run_30 : decode b_KReader_run 30 = .ok (.iload_n 1, 1) := by decide +kernel
theorem d_KReader_run_31 : decode b_KReader_run 31 = .ok (.iaload, 1) := by decide +kernel
theorem d_KReader_run_32 : decode b_KReader_run 32 = .ok (.bipush 38, 2) := by decide +kernel
theorem d_KReader_run_34 : decode b_KReader_run 34 = .ok (.if_icmp .eq 30, 3) := by decide +kernel
theorem d_KReader_run_37 : decode b_KReader_run 37 = .ok (.iload_n 2, 1) := by decide +kernel
theorem d_KReader_run_38 : decode b_KReader_run 38 = .ok (.ifCond .eq 18, 3) := by decide +kernel
theorem d_KReader_run_41 : decode b_KReader_run 41 = .ok (.aload_n 0, 1) := by decide +kernel
theorem d_KReader_run_42 : decode b_KReader_run 42 = .ok (.iload_n 1, 1) := by decide +kernel
theorem d_KReader_run_43 : decode b_KReader_run 43 = .ok (.ldc_w 711, 3) := by decide +kernel
theorem d_KReader_run_46 : decode b_KReader_run 46 = .ok (.invokevirtual 290, 3) := by decide +kernel
theorem d_KReader_run_49 : decode b_KReader_run 49 = .ok (.ifCond .ne 7, 3) := by decide +kernel
theorem d_KReader_run_52 : decode b_KReader_run 52 = .ok (.iconst 1, 1) := by decide +kernel
theorem d_KReader_run_53 : decode b_KReader_run 53 = .ok (.goto 4, 3) := by decide +kernel
theorem d_KReader_run_56 : decode b_KReader_run 56 = .ok (.iconst 0, 1) := by decide +kernel
theorem d_KReader_run_57 : decode b_KReader_run 57 = .ok (.istore_n 2, 1) := by decide +kernel
theorem d_KReader_run_58 : decode b_KReader_run 58 = .ok (.iinc 1 1, 3) := by decide +kernel
theorem d_KReader_run_61 : decode b_KReader_run 61 = .ok (.goto (-54), 3) := by decide +kernel
theorem d_KReader_run_64 : decode b_KReader_run 64 = .ok (.aload_n 0, 1) := by decide +kernel
theorem d_KReader_run_65 : decode b_KReader_run 65 = .ok (.iload_n 2, 1) := by decide +kernel
theorem d_KReader_run_66 : decode b_KReader_run 66 = .ok (.ifCond .eq 7, 3) := by decide +kernel
theorem d_KReader_run_69 : decode b_KReader_run 69 = .ok (.iload_n 1, 1) := by decide +kernel
theorem d_KReader_run_70 : decode b_KReader_run 70 = .ok (.goto 4, 3) := by decide +kernel
theorem d_KReader_run_73 : decode b_KReader_run 73 = .ok (.iconst (-1), 1) := by decide +kernel
theorem d_KReader_run_74 : decode b_KReader_run 74 = .ok (.invokevirtual 437, 3) := by decide +kernel
theorem d_KReader_run_77 : decode b_KReader_run 77 = .ok (.ifCond .ne 4, 3) := by decide +kernel
theorem d_KReader_run_80 : decode b_KReader_run 80 = .ok (.return_, 1) := by decide +kernel
theorem d_KReader_run_81 : decode b_KReader_run 81 = .ok (.aload_n 0, 1) := by decide +kernel
theorem d_KReader_run_82 : decode b_KReader_run 82 = .ok (.invokevirtual 465, 3) := by decide +kernel
theorem d_KReader_run_85 : decode b_KReader_run 85 = .ok (.aload_n 0, 1) := by decide +kernel
theorem d_KReader_run_86 : decode b_KReader_run 86 = .ok (.getfield 379, 3) := by decide +kernel
theorem d_KReader_run_89 : decode b_KReader_run 89 = .ok (.istore_n 3, 1) := by decide +kernel
theorem d_KReader_run_90 : decode b_KReader_run 90 = .ok (.iload_n 3, 1) := by decide +kernel
theorem d_KReader_run_91 : decode b_KReader_run 91 = .ok (.iload_n 1, 1) := by decide +kernel
theorem d_KReader_run_92 : decode b_KReader_run 92 = .ok (.if_icmp .ge 38, 3) := by decide +kernel
theorem d_KReader_run_95 : decode b_KReader_run 95 = .ok (.aload_n 0, 1) := by decide +kernel
theorem d_KReader_run_96 : decode b_KReader_run 96 = .ok (.getfield 150, 3) := by decide +kernel
theorem d_KReader_run_99 : decode b_KReader_run 99 = .ok (.aload_n 0, 1) := by decide +kernel
theorem d_KReader_run_100 : decode b_KReader_run 100 = .ok (.getfield 45, 3) := by decide +kernel
theorem d_KReader_run_103 : decode b_KReader_run 103 = .ok (.iload_n 3, 1) := by decide +kernel
theorem d_KReader_run_104 : decode b_KReader_run 104 = .ok (.iaload, 1) := by decide +kernel
theorem d_KReader_run_105 : decode b_KReader_run 105 = .ok (.invokevirtual 716, 3) := by decide +kernel
theorem d_KReader_run_108 : decode b_KReader_run 108 = .ok (.aload_n 0, 1) := by decide +kernel
theorem d_KReader_run_109 : decode b_KReader_run 109 = .ok (.getfield 45, 3) := by decide +kernel
theorem d_KReader_run_112 : decode b_KReader_run 112 = .ok (.iload_n 3, 1) := by decide +kernel
theorem d_KReader_run_113 : decode b_KReader_run 113 = .ok (.iaload, 1) := by decide +kernel
theorem d_KReader_run_114 : decode b_KReader_run 114 = .ok (.invokestatic 294, 3) := by decide +kernel
theorem d_KReader_run_117 : decode b_KReader_run 117 = .ok (.ifCond .ne 7, 3) := by decide +kernel
theorem d_KReader_run_120 : decode b_KReader_run 120 = .ok (.aload_n 0, 1) := by decide +kernel
theorem d_KReader_run_121 : decode b_KReader_run 121 = .ok (.invokevirtual 713, 3) := by decide +kernel
theorem d_KReader_run_124 : decode b_KReader_run 124 = .ok (.iinc 3 1, 3) := by decide +kernel
theorem d_KReader_run_127 : decode b_KReader_run 127 = .ok (.goto (-37), 3) := by decide +kernel
theorem d_KReader_run_130 : decode b_KReader_run 130 = .ok (.aload_n 0, 1) := by decide +kernel
theorem d_KReader_run_131 : decode b_KReader_run 131 = .ok (.iload_n 1, 1) := by decide +kernel
theorem d_KReader_run_132 : decode b_KReader_run 132 = .ok (.putfield 379, 3) := by decide +kernel
theorem d_KReader_run_135 : decode b_KReader_run 135 = .ok (.return_, 1) := by decide +kernel
/-- KReader_run -/
def w_KReader_run (L : Nat → Nat)  (Q : IS → Prop) (σ : IS) : Prop := WL (fun (K1 : Int × Int → IS → Prop) (s3 : Int × Int) (σ4 : IS) => ((s3.1 < (σ4.1 16 17) → (inL L 176 s3.1 ∧ (¬ (σ4.2 176 (Int.toNat s3.1)) = 60 → inL L 176 s3.1)))) ∧ if s3.1 < (σ4.1 16 17) ∧ (¬ (σ4.2 176 (Int.toNat s3.1)) = 60 ∧ (¬ (σ4.2 176 (Int.toNat s3.1)) = 38)) then WJ (fun (s9 : Int) (σ10 : IS) => inR (s3.1 + 1) ∧ K1 ((s3.1 + 1), s9) σ10) (fun J7 => WJ (fun (s14 : Unit) (σ15 : IS) => J7 0 σ15) (fun J12 => if s3.2 = 0 then J12 () σ4 else w_KReader_says L s3.1 1146 (fun v18 σ17 => if v18 = 0 then J7 1 σ17 else J12 () σ17) σ4)) else w_KReader_written L (if s3.2 = 0 then ((-1) : Int) else s3.1) (fun v21 σ20 => if v21 = 0 then Q σ20 else w_KReader_touch L  (fun σ23 => WL (fun (K25 : Int → IS → Prop) (s27 : Int) (σ28 : IS) => if s27 < s3.1 then dyD (σ28.1 16 2) ∧ inL L 176 s27 ∧ w_KDoc_text L (Int.toNat (σ28.1 16 2)) (σ28.2 176 (Int.toNat s27)) (fun σ31 => inL L 176 s27 ∧ w_K_isSpace L (σ31.2 176 (Int.toNat s27)) (fun v34 σ33 => WJ (fun (s37 : Unit) (σ38 : IS) => inR (s27 + 1) ∧ K25 (s27 + 1) σ38) (fun J35 => if v34 = 0 then w_KReader_spoil L  (fun σ41 => J35 () σ41) σ33 else J35 () σ33)) σ31) σ28 else Q (pf σ28 16 16 s3.1)) (σ23.1 16 16) σ23) σ20) σ4) ((σ.1 16 16), 1) σ
set_option maxHeartbeats 4000000 in
set_option maxRecDepth 20000 in
theorem s_KReader_run {L : Nat → Nat} (hL : ∀ r, L r < 2147483648) {d : Nat} (hd : 2 ≤ d)  {Q : IS → Prop} {σ : IS}  (h : w_KReader_run L  Q σ) : OkI BF L d 15 b_KReader_run 4 0 0 [] [some (.inr 16)] σ (qv Q) := by
  unfold w_KReader_run at h
  obtain ⟨d, rfl⟩ : ∃ e, d = e + 1 := ⟨d - 1, by omega⟩
  refine k_sb (lv' := [some (.inr 16), none, none, none]) (sb_s (sb_e (sb_e (sb_e sb_nil)))) ?_
  refine k_aload_n d_KReader_run_0 rfl ?_
  refine k_getI (x := (σ.1 16 16)) d_KReader_run_1 fl_15_379 ob_16 rfl rfl ?_
  refine k_istore_n (lv' := [some (.inr 16), some (.inl (σ.1 16 16)), none, none]) d_KReader_run_4 rfl rfl ?_
  refine k_iconst d_KReader_run_5 cI_1 ?_
  refine k_istore_n (lv' := [some (.inr 16), some (.inl (σ.1 16 16)), some (.inl 1), none]) d_KReader_run_6 rfl rfl ?_
  refine k_sb (lv' := [some (.inr 16), some (.inl (σ.1 16 16)), some (.inl 1), none]) (sb_s (sb_s (sb_s (sb_s sb_nil)))) ?_
  refine k_loop (S := Int × Int) (st := fun _ => []) (lv := fun s3 => [some (.inr 16), some (.inl s3.1), some (.inl s3.2), none]) (fun K1 hK2 s3 σ4 h => ?_) ((σ.1 16 16), 1) _ h
  refine k_iload_n d_KReader_run_7 rfl ?_
  refine k_aload_n d_KReader_run_8 rfl ?_
  refine k_getI (x := (σ4.1 16 17)) d_KReader_run_9 fl_15_273 ob_16 rfl rfl ?_
  obtain ⟨pt52, h⟩ := h
  have hX49 : (s3.1 < (σ4.1 16 17) ∧ (¬ (σ4.2 176 (Int.toNat s3.1)) = 60 ∧ (¬ (σ4.2 176 (Int.toNat s3.1)) = 38))) → OkI BF L (d + 1) 15 b_KReader_run 4 0 37 [] [some (.inr 16), some (.inl s3.1), some (.inl s3.2), none] σ4 (qv Q) := fun e51 => by
    have h := ipos e51 h
    refine k_iload_n d_KReader_run_37 rfl ?_
    refine k_join (S := Int) (pc' := 57) (st' := fun s9 => [.inl s9]) (lv' := fun s9 => [some (.inr 16), some (.inl s3.1), none, none]) (fun s9 σ10 h => ?_) (fun J7 hJ8 h => ?_) h
    · refine k_istore_n (lv' := [some (.inr 16), some (.inl s3.1), some (.inl s9), none]) d_KReader_run_57 rfl rfl ?_
      obtain ⟨p11, h⟩ := h
      refine k_iinc (lv' := [some (.inr 16), some (.inl (s3.1 + 1)), some (.inl s9), none]) d_KReader_run_58 cI_1 rfl rfl p11 rfl ?_
      refine k_goto d_KReader_run_61 rfl ?_
      exact k_sb (sb_s (sb_s (sb_s (sb_s sb_nil)))) (hK2 ((s3.1 + 1), s9) _ h)
    · refine k_join (S := Unit) (pc' := 56) (st' := fun s14 => []) (lv' := fun s14 => [some (.inr 16), some (.inl s3.1), none, none]) (fun s14 σ15 h => ?_) (fun J12 hJ13 h => ?_) h
      · refine k_iconst d_KReader_run_56 cI_0 ?_
        exact k_sb (sb_s (sb_s (sb_s (sb_s sb_nil)))) (hJ8 0 _ h)
      · refine k_ifeq d_KReader_run_38 rfl (fun c16 => ?_) (fun c16 => ?_)
        · have h := ipos c16 h
          exact k_sb (sb_s (sb_s (sb_n (sb_s sb_nil)))) (hJ13 () _ h)
        · have h := ineg c16 h
          refine k_aload_n d_KReader_run_41 rfl ?_
          refine k_iload_n d_KReader_run_42 rfl ?_
          refine k_ldcw d_KReader_run_43 ks_15_711 rfl ?_
          refine k_cvi [.inl s3.1, .inr 1146] d_KReader_run_46 ml_15_290 rfl rfl ob_16 rfl (s_KReader_says hL (by omega) it_1146 h) (fun v18 σ17 h => ?_)
          refine k_ifne d_KReader_run_49 rfl (fun c19 => ?_) (fun c19 => ?_)
          · have h := ineg c19 h
            exact k_sb (sb_s (sb_s (sb_n (sb_s sb_nil)))) (hJ13 () _ h)
          · have h := ipos c19 h
            refine k_iconst d_KReader_run_52 cI_1 ?_
            refine k_goto d_KReader_run_53 rfl ?_
            exact k_sb (sb_s (sb_s (sb_n (sb_s sb_nil)))) (hJ8 1 _ h)
  have hY50 : ¬ (s3.1 < (σ4.1 16 17) ∧ (¬ (σ4.2 176 (Int.toNat s3.1)) = 60 ∧ (¬ (σ4.2 176 (Int.toNat s3.1)) = 38))) → OkI BF L (d + 1) 15 b_KReader_run 4 0 64 [] [some (.inr 16), some (.inl s3.1), some (.inl s3.2), none] σ4 (qv Q) := fun e51 => by
    have h := ineg e51 h
    refine k_aload_n d_KReader_run_64 rfl ?_
    refine k_iload_n d_KReader_run_65 rfl ?_
    have hV45 : OkI BF L (d + 1) 15 b_KReader_run 4 0 74 [.inl (if s3.2 = 0 then ((-1) : Int) else s3.1), .inr 16] [some (.inr 16), some (.inl s3.1), some (.inl s3.2), none] σ4 (qv Q) := by
      refine k_cvi [.inl (if s3.2 = 0 then ((-1) : Int) else s3.1)] d_KReader_run_74 ml_15_437 rfl rfl ob_16 rfl (s_KReader_written hL (by omega)  h) (fun v21 σ20 h => ?_)
      refine k_ifne d_KReader_run_77 rfl (fun c22 => ?_) (fun c22 => ?_)
      · have h := ineg c22 h
        refine k_aload_n d_KReader_run_81 rfl ?_
        refine k_cvv [] d_KReader_run_82 ml_15_465 rfl rfl ob_16 rfl (s_KReader_touch hL (by omega)  h) (fun σ23 h => ?_)
        refine k_aload_n d_KReader_run_85 rfl ?_
        refine k_getI (x := (σ23.1 16 16)) d_KReader_run_86 fl_15_379 ob_16 rfl rfl ?_
        refine k_istore_n (lv' := [some (.inr 16), some (.inl s3.1), some (.inl s3.2), some (.inl (σ23.1 16 16))]) d_KReader_run_89 rfl rfl ?_
        refine k_sb (lv' := [some (.inr 16), some (.inl s3.1), none, some (.inl (σ23.1 16 16))]) (sb_s (sb_s (sb_n (sb_s sb_nil)))) ?_
        refine k_loop (S := Int) (st := fun _ => []) (lv := fun s27 => [some (.inr 16), some (.inl s3.1), none, some (.inl s27)]) (fun K25 hK26 s27 σ28 h => ?_) (σ23.1 16 16) _ h
        refine k_iload_n d_KReader_run_90 rfl ?_
        refine k_iload_n d_KReader_run_91 rfl ?_
        refine k_icge d_KReader_run_92 rfl (fun c29 => ?_) (fun c29 => ?_)
        · have h := ineg c29 h
          refine k_aload_n d_KReader_run_130 rfl ?_
          refine k_iload_n d_KReader_run_131 rfl ?_
          refine k_putI d_KReader_run_132 fl_15_379 ob_16 rfl ?_
          exact k_ret d_KReader_run_135 h
        · have h := ipos c29 h
          refine k_aload_n d_KReader_run_95 rfl ?_
          obtain ⟨y30, h⟩ := h
          refine k_getD (x := (σ28.1 16 2)) d_KReader_run_96 fl_15_150 ob_16 rfl rfl (dyD_pos y30) ?_
          refine k_aload_n d_KReader_run_99 rfl ?_
          refine k_getR d_KReader_run_100 fl_15_45 ob_16 rfl ?_
          refine k_iload_n d_KReader_run_103 rfl ?_
          obtain ⟨p44, h⟩ := h
          refine k_ild (x := (σ28.2 176 (Int.toNat s27))) d_KReader_run_104 rI_176 p44 rfl ?_
          refine k_cvv [.inl (σ28.2 176 (Int.toNat s27))] d_KReader_run_105 ml_15_716 rfl rfl (doc_ob (dyD_doc y30)) rfl (s_KDoc_text hL (by omega) (dyD_doc y30) h) (fun σ31 h => ?_)
          refine k_aload_n d_KReader_run_108 rfl ?_
          refine k_getR d_KReader_run_109 fl_15_45 ob_16 rfl ?_
          refine k_iload_n d_KReader_run_112 rfl ?_
          obtain ⟨p43, h⟩ := h
          refine k_ild (x := (σ31.2 176 (Int.toNat s27))) d_KReader_run_113 rI_176 p43 rfl ?_
          refine k_csi [.inl (σ31.2 176 (Int.toNat s27))] d_KReader_run_114 ml_15_294 (Or.inr rfl) rfl rfl rfl (s_K_isSpace hL (by omega)  h) (fun v34 σ33 h => ?_)
          refine k_join (S := Unit) (pc' := 124) (st' := fun s37 => []) (lv' := fun s37 => [some (.inr 16), some (.inl s3.1), none, some (.inl s27)]) (fun s37 σ38 h => ?_) (fun J35 hJ36 h => ?_) h
          · obtain ⟨p39, h⟩ := h
            refine k_iinc (lv' := [some (.inr 16), some (.inl s3.1), none, some (.inl (s27 + 1))]) d_KReader_run_124 cI_1 rfl rfl p39 rfl ?_
            refine k_goto d_KReader_run_127 rfl ?_
            exact k_sb (sb_s (sb_s (sb_s (sb_s sb_nil)))) (hK26 (s27 + 1) _ h)
          · refine k_ifne d_KReader_run_117 rfl (fun c40 => ?_) (fun c40 => ?_)
            · have h := ineg c40 h
              exact k_sb (sb_s (sb_s (sb_s (sb_s sb_nil)))) (hJ36 () _ h)
            · have h := ipos c40 h
              refine k_aload_n d_KReader_run_120 rfl ?_
              refine k_cvv [] d_KReader_run_121 ml_15_713 rfl rfl ob_16 rfl (s_KReader_spoil hL (by omega)  h) (fun σ41 h => ?_)
              exact k_sb (sb_s (sb_s (sb_s (sb_s sb_nil)))) (hJ36 () _ h)
      · have h := ipos c22 h
        exact k_ret d_KReader_run_80 h
    refine k_ifeq d_KReader_run_66 rfl (fun c46 => ?_) (fun c46 => ?_)
    · have hV47 := k_eqI (if_pos c46) hV45
      refine k_iconst d_KReader_run_73 cI_m1 ?_
      exact hV47
    · have hV48 := k_eqI (if_neg c46) hV45
      refine k_iload_n d_KReader_run_69 rfl ?_
      refine k_goto d_KReader_run_70 rfl ?_
      exact hV48
  have pa53 := pt52
  refine k_icge d_KReader_run_12 rfl (fun c54 => ?_) (fun c54 => ?_)
  · exact hY50 (fun z => c54 z.1)
  · have pa53 := pa53 c54
    obtain ⟨p5, pb55⟩ := pa53
    refine k_aload_n d_KReader_run_15 rfl ?_
    refine k_getR d_KReader_run_16 fl_15_45 ob_16 rfl ?_
    refine k_iload_n d_KReader_run_19 rfl ?_
    refine k_ild (x := (σ4.2 176 (Int.toNat s3.1))) d_KReader_run_20 rI_176 p5 rfl ?_
    refine k_bipush d_KReader_run_21 cB_60 ?_
    refine k_iceq d_KReader_run_23 rfl (fun c56 => ?_) (fun c56 => ?_)
    · exact hY50 (fun z => (fun z => z.1 c56) z.2)
    · have pb55 := pb55 c56
      have p6 := pb55
      refine k_aload_n d_KReader_run_26 rfl ?_
      refine k_getR d_KReader_run_27 fl_15_45 ob_16 rfl ?_
      refine k_iload_n d_KReader_run_30 rfl ?_
      refine k_ild (x := (σ4.2 176 (Int.toNat s3.1))) d_KReader_run_31 rI_176 p6 rfl ?_
      refine k_bipush d_KReader_run_32 cB_38 ?_
      refine k_iceq d_KReader_run_34 rfl (fun c57 => ?_) (fun c57 => ?_)
      · exact hY50 (fun z => (fun z => (fun z => z c57) z.2) z.2)
      · exact hX49 (⟨c54, ⟨c56, c57⟩⟩)
theorem d_KReader_contentItem_0 : decode b_KReader_contentItem 0 = .ok (.aload_n 0, 1) := by decide +kernel
theorem d_KReader_contentItem_1 : decode b_KReader_contentItem 1 = .ok (.aload_n 0, 1) := by decide +kernel
theorem d_KReader_contentItem_2 : decode b_KReader_contentItem 2 = .ok (.getfield 379, 3) := by decide +kernel
theorem d_KReader_contentItem_5 : decode b_KReader_contentItem 5 = .ok (.ldc_w 407, 3) := by decide +kernel
theorem d_KReader_contentItem_8 : decode b_KReader_contentItem 8 = .ok (.invokevirtual 290, 3) := by decide +kernel
theorem d_KReader_contentItem_11 : decode b_KReader_contentItem 11 = .ok (.ifCond .eq 10, 3) := by decide +kernel
theorem d_KReader_contentItem_14 : decode b_KReader_contentItem 14 = .ok (.aload_n 0, 1) := by decide +kernel
theorem d_KReader_contentItem_15 : decode b_KReader_contentItem 15 = .ok (.invokevirtual 409, 3) := by decide +kernel
theorem d_KReader_contentItem_18 : decode b_KReader_contentItem 18 = .ok (.goto 135, 3) := by decide +kernel
theorem d_KReader_contentItem_21 : decode b_KReader_contentItem 21 = .ok (.aload_n 0, 1) := by decide +kernel
theorem d_KReader_contentItem_22 : decode b_KReader_contentItem 22 = .ok (.aload_n 0, 1) := by decide +kernel
theorem d_KReader_contentItem_23 : decode b_KReader_contentItem 23 = .ok (.getfield 379, 3) := by decide +kernel
theorem d_KReader_contentItem_26 : decode b_KReader_contentItem 26 = .ok (.ldc_w 417, 3) := by decide +kernel
theorem d_KReader_contentItem_29 : decode b_KReader_contentItem 29 = .ok (.invokevirtual 290, 3) := by decide +kernel
theorem d_KReader_contentItem_32 : decode b_KReader_contentItem 32 = .ok (.ifCond .eq 10, 3) := by decide +kernel
theorem d_KReader_contentItem_35 : decode b_KReader_contentItem 35 = .ok (.aload_n 0, 1) := by decide +kernel
theorem d_KReader_contentItem_36 : decode b_KReader_contentItem 36 = .ok (.invokevirtual 699, 3) := by decide +kernel
theorem d_KReader_contentItem_39 : decode b_KReader_contentItem 39 = .ok (.goto 114, 3) := by decide +kernel
theorem d_KReader_contentItem_42 : decode b_KReader_contentItem 42 = .ok (.aload_n 0, 1) := by decide +kernel
theorem d_KReader_contentItem_43 : decode b_KReader_contentItem 43 = .ok (.aload_n 0, 1) := by decide +kernel
theorem d_KReader_contentItem_44 : decode b_KReader_contentItem 44 = .ok (.getfield 379, 3) := by decide +kernel
theorem d_KReader_contentItem_47 : decode b_KReader_contentItem 47 = .ok (.ldc_w 412, 3) := by decide +kernel
theorem d_KReader_contentItem_50 : decode b_KReader_contentItem 50 = .ok (.invokevirtual 290, 3) := by decide +kernel
theorem d_KReader_contentItem_53 : decode b_KReader_contentItem 53 = .ok (.ifCond .eq 13, 3) := by decide +kernel
theorem d_KReader_contentItem_56 : decode b_KReader_contentItem 56 = .ok (.aload_n 0, 1) := by decide +kernel
theorem d_KReader_contentItem_57 : decode b_KReader_contentItem 57 = .ok (.bipush 6, 2) := by decide +kernel
theorem d_KReader_contentItem_59 : decode b_KReader_contentItem 59 = .ok (.invokevirtual 392, 3) := by decide +kernel
theorem d_KReader_contentItem_62 : decode b_KReader_contentItem 62 = .ok (.pop, 1) := by decide +kernel
theorem d_KReader_contentItem_63 : decode b_KReader_contentItem 63 = .ok (.goto 90, 3) := by decide +kernel
theorem d_KReader_contentItem_66 : decode b_KReader_contentItem 66 = .ok (.aload_n 0, 1) := by decide +kernel
theorem d_KReader_contentItem_67 : decode b_KReader_contentItem 67 = .ok (.aload_n 0, 1) := by decide +kernel
theorem d_KReader_contentItem_68 : decode b_KReader_contentItem 68 = .ok (.getfield 379, 3) := by decide +kernel
theorem d_KReader_contentItem_71 : decode b_KReader_contentItem 71 = .ok (.ldc_w 419, 3) := by decide +kernel
theorem d_KReader_contentItem_74 : decode b_KReader_contentItem 74 = .ok (.invokevirtual 290, 3) := by decide +kernel
theorem d_KReader_contentItem_77 : decode b_KReader_contentItem 77 = .ok (.ifCond .eq 10, 3) := by decide +kernel
theorem d_KReader_contentItem_80 : decode b_KReader_contentItem 80 = .ok (.aload_n 0, 1) := by decide +kernel
theorem d_KReader_contentItem_81 : decode b_KReader_contentItem 81 = .ok (.invokevirtual 702, 3) := by decide +kernel
theorem d_KReader_contentItem_84 : decode b_KReader_contentItem 84 = .ok (.goto 69, 3) := by decide +kernel
theorem d_KReader_contentItem_87 : decode b_KReader_contentItem 87 = .ok (.aload_n 0, 1) := by decide +kernel
theorem d_KReader_contentItem_88 : decode b_KReader_contentItem 88 = .ok (.aload_n 0, 1) := by decide +kernel
theorem d_KReader_contentItem_89 : decode b_KReader_contentItem 89 = .ok (.getfield 379, 3) := by decide +kernel
theorem d_KReader_contentItem_92 : decode b_KReader_contentItem 92 = .ok (.ldc_w 421, 3) := by decide +kernel
theorem d_KReader_contentItem_95 : decode b_KReader_contentItem 95 = .ok (.invokevirtual 290, 3) := by decide +kernel
theorem d_KReader_contentItem_98 : decode b_KReader_contentItem 98 = .ok (.ifCond .eq 11, 3) := by decide +kernel
theorem d_KReader_contentItem_101 : decode b_KReader_contentItem 101 = .ok (.aload_n 0, 1) := by decide +kernel
theorem d_KReader_contentItem_102 : decode b_KReader_contentItem 102 = .ok (.iconst 1, 1) := by decide +kernel
theorem d_KReader_contentItem_103 : decode b_KReader_contentItem 103 = .ok (.invokevirtual 423, 3) := by decide +kernel
theorem d_KReader_contentItem_106 : decode b_KReader_contentItem 106 = .ok (.goto 47, 3) := by decide +kernel
theorem d_KReader_contentItem_109 : decode b_KReader_contentItem 109 = .ok (.aload_n 0, 1) := by decide +kernel
theorem d_KReader_contentItem_110 : decode b_KReader_contentItem 110 = .ok (.aload_n 0, 1) := by decide +kernel
theorem d_KReader_contentItem_111 : decode b_KReader_contentItem 111 = .ok (.getfield 379, 3) := by decide +kernel
theorem d_KReader_contentItem_114 : decode b_KReader_contentItem 114 = .ok (.invokevirtual 282, 3) := by decide +kernel
theorem d_KReader_contentItem_117 : decode b_KReader_contentItem 117 = .ok (.bipush 60, 2) := by decide +kernel
theorem d_KReader_contentItem_119 : decode b_KReader_contentItem 119 = .ok (.if_icmp .ne 10, 3) := by decide +kernel
theorem d_KReader_contentItem_122 : decode b_KReader_contentItem 122 = .ok (.aload_n 0, 1) := by decide +kernel
theorem d_KReader_contentItem_123 : decode b_KReader_contentItem 123 = .ok (.invokevirtual 427, 3) := by decide +kernel
theorem d_KReader_contentItem_126 : decode b_KReader_contentItem 126 = .ok (.goto 27, 3) := by decide +kernel
theorem d_KReader_contentItem_129 : decode b_KReader_contentItem 129 = .ok (.aload_n 0, 1) := by decide +kernel
theorem d_KReader_contentItem_130 : decode b_KReader_contentItem 130 = .ok (.aload_n 0, 1) := by decide +kernel
theorem d_KReader_contentItem_131 : decode b_KReader_contentItem 131 = .ok (.getfield 379, 3) := by decide +kernel
theorem d_KReader_contentItem_134 : decode b_KReader_contentItem 134 = .ok (.invokevirtual 282, 3) := by decide +kernel
theorem d_KReader_contentItem_137 : decode b_KReader_contentItem 137 = .ok (.bipush 38, 2) := by decide +kernel
theorem d_KReader_contentItem_139 : decode b_KReader_contentItem 139 = .ok (.if_icmp .ne 10, 3) := by decide +kernel
theorem d_KReader_contentItem_142 : decode b_KReader_contentItem 142 = .ok (.aload_n 0, 1) := by decide +kernel
theorem d_KReader_contentItem_143 : decode b_KReader_contentItem 143 = .ok (.invokevirtual 705, 3) := by decide +kernel
theorem d_KReader_contentItem_146 : decode b_KReader_contentItem 146 = .ok (.goto 7, 3) := by decide +kernel
theorem d_KReader_contentItem_149 : decode b_KReader_contentItem 149 = .ok (.aload_n 0, 1) := by decide +kernel
theorem d_KReader_contentItem_150 : decode b_KReader_contentItem 150 = .ok (.invokevirtual 708, 3) := by decide +kernel
theorem d_KReader_contentItem_153 : decode b_KReader_contentItem 153 = .ok (.return_, 1) := by decide +kernel
/-- KReader_contentItem -/
def w_KReader_contentItem (L : Nat → Nat)  (Q : IS → Prop) (σ : IS) : Prop := w_KReader_says L (σ.1 16 16) 1103 (fun v2 σ1 => WJ (fun (s5 : Unit) (σ6 : IS) => Q σ6) (fun J3 => if v2 = 0 then w_KReader_says L (σ1.1 16 16) 1105 (fun v9 σ8 => if v9 = 0 then w_KReader_says L (σ8.1 16 16) 1104 (fun v12 σ11 => if v12 = 0 then w_KReader_says L (σ11.1 16 16) 1106 (fun v15 σ14 => if v15 = 0 then w_KReader_says L (σ14.1 16 16) 1107 (fun v18 σ17 => if v18 = 0 then w_KReader_look L (σ17.1 16 16) (fun v21 σ20 => if v21 = 60 then w_KReader_tag L  (fun σ30 => J3 () σ30) σ20 else w_KReader_look L (σ20.1 16 16) (fun v24 σ23 => if v24 = 38 then w_KReader_contentReference L  (fun σ28 => J3 () σ28) σ23 else w_KReader_run L  (fun σ26 => J3 () σ26) σ23) σ20) σ17 else w_KReader_instruction L 1 (fun σ32 => J3 () σ32) σ17) σ14 else w_KReader_endTag L  (fun σ34 => J3 () σ34) σ14) σ11 else w_KReader_fail L 6 (fun v37 σ36 => J3 () σ36) σ11) σ8 else w_KReader_section L  (fun σ38 => J3 () σ38) σ8) σ1 else w_KReader_comment L  (fun σ40 => J3 () σ40) σ1)) σ
set_option maxHeartbeats 4000000 in
set_option maxRecDepth 20000 in
theorem s_KReader_contentItem {L : Nat → Nat} (hL : ∀ r, L r < 2147483648) {d : Nat} (hd : 76 ≤ d)  {Q : IS → Prop} {σ : IS}  (h : w_KReader_contentItem L  Q σ) : OkI BF L d 15 b_KReader_contentItem 1 0 0 [] [some (.inr 16)] σ (qv Q) := by
  unfold w_KReader_contentItem at h
  obtain ⟨d, rfl⟩ : ∃ e, d = e + 1 := ⟨d - 1, by omega⟩
  refine k_sb (lv' := [some (.inr 16)]) (sb_s sb_nil) ?_
  refine k_aload_n d_KReader_contentItem_0 rfl ?_
  refine k_aload_n d_KReader_contentItem_1 rfl ?_
  refine k_getI (x := (σ.1 16 16)) d_KReader_contentItem_2 fl_15_379 ob_16 rfl rfl ?_
  refine k_ldcw d_KReader_contentItem_5 ks_15_407 rfl ?_
  refine k_cvi [.inl (σ.1 16 16), .inr 1103] d_KReader_contentItem_8 ml_15_290 rfl rfl ob_16 rfl (s_KReader_says hL (by omega) it_1103 h) (fun v2 σ1 h => ?_)
  refine k_join (S := Unit) (pc' := 153) (st' := fun s5 => []) (lv' := fun s5 => [none]) (fun s5 σ6 h => ?_) (fun J3 hJ4 h => ?_) h
  · exact k_ret d_KReader_contentItem_153 h
  · refine k_ifeq d_KReader_contentItem_11 rfl (fun c7 => ?_) (fun c7 => ?_)
    · have h := ipos c7 h
      refine k_aload_n d_KReader_contentItem_21 rfl ?_
      refine k_aload_n d_KReader_contentItem_22 rfl ?_
      refine k_getI (x := (σ1.1 16 16)) d_KReader_contentItem_23 fl_15_379 ob_16 rfl rfl ?_
      refine k_ldcw d_KReader_contentItem_26 ks_15_417 rfl ?_
      refine k_cvi [.inl (σ1.1 16 16), .inr 1105] d_KReader_contentItem_29 ml_15_290 rfl rfl ob_16 rfl (s_KReader_says hL (by omega) it_1105 h) (fun v9 σ8 h => ?_)
      refine k_ifeq d_KReader_contentItem_32 rfl (fun c10 => ?_) (fun c10 => ?_)
      · have h := ipos c10 h
        refine k_aload_n d_KReader_contentItem_42 rfl ?_
        refine k_aload_n d_KReader_contentItem_43 rfl ?_
        refine k_getI (x := (σ8.1 16 16)) d_KReader_contentItem_44 fl_15_379 ob_16 rfl rfl ?_
        refine k_ldcw d_KReader_contentItem_47 ks_15_412 rfl ?_
        refine k_cvi [.inl (σ8.1 16 16), .inr 1104] d_KReader_contentItem_50 ml_15_290 rfl rfl ob_16 rfl (s_KReader_says hL (by omega) it_1104 h) (fun v12 σ11 h => ?_)
        refine k_ifeq d_KReader_contentItem_53 rfl (fun c13 => ?_) (fun c13 => ?_)
        · have h := ipos c13 h
          refine k_aload_n d_KReader_contentItem_66 rfl ?_
          refine k_aload_n d_KReader_contentItem_67 rfl ?_
          refine k_getI (x := (σ11.1 16 16)) d_KReader_contentItem_68 fl_15_379 ob_16 rfl rfl ?_
          refine k_ldcw d_KReader_contentItem_71 ks_15_419 rfl ?_
          refine k_cvi [.inl (σ11.1 16 16), .inr 1106] d_KReader_contentItem_74 ml_15_290 rfl rfl ob_16 rfl (s_KReader_says hL (by omega) it_1106 h) (fun v15 σ14 h => ?_)
          refine k_ifeq d_KReader_contentItem_77 rfl (fun c16 => ?_) (fun c16 => ?_)
          · have h := ipos c16 h
            refine k_aload_n d_KReader_contentItem_87 rfl ?_
            refine k_aload_n d_KReader_contentItem_88 rfl ?_
            refine k_getI (x := (σ14.1 16 16)) d_KReader_contentItem_89 fl_15_379 ob_16 rfl rfl ?_
            refine k_ldcw d_KReader_contentItem_92 ks_15_421 rfl ?_
            refine k_cvi [.inl (σ14.1 16 16), .inr 1107] d_KReader_contentItem_95 ml_15_290 rfl rfl ob_16 rfl (s_KReader_says hL (by omega) it_1107 h) (fun v18 σ17 h => ?_)
            refine k_ifeq d_KReader_contentItem_98 rfl (fun c19 => ?_) (fun c19 => ?_)
            · have h := ipos c19 h
              refine k_aload_n d_KReader_contentItem_109 rfl ?_
              refine k_aload_n d_KReader_contentItem_110 rfl ?_
              refine k_getI (x := (σ17.1 16 16)) d_KReader_contentItem_111 fl_15_379 ob_16 rfl rfl ?_
              refine k_cvi [.inl (σ17.1 16 16)] d_KReader_contentItem_114 ml_15_282 rfl rfl ob_16 rfl (s_KReader_look hL (by omega)  h) (fun v21 σ20 h => ?_)
              refine k_bipush d_KReader_contentItem_117 cB_60 ?_
              refine k_icne d_KReader_contentItem_119 rfl (fun c22 => ?_) (fun c22 => ?_)
              · have h := ineg c22 h
                refine k_aload_n d_KReader_contentItem_129 rfl ?_
                refine k_aload_n d_KReader_contentItem_130 rfl ?_
                refine k_getI (x := (σ20.1 16 16)) d_KReader_contentItem_131 fl_15_379 ob_16 rfl rfl ?_
                refine k_cvi [.inl (σ20.1 16 16)] d_KReader_contentItem_134 ml_15_282 rfl rfl ob_16 rfl (s_KReader_look hL (by omega)  h) (fun v24 σ23 h => ?_)
                refine k_bipush d_KReader_contentItem_137 cB_38 ?_
                refine k_icne d_KReader_contentItem_139 rfl (fun c25 => ?_) (fun c25 => ?_)
                · have h := ineg c25 h
                  refine k_aload_n d_KReader_contentItem_149 rfl ?_
                  refine k_cvv [] d_KReader_contentItem_150 ml_15_708 rfl rfl ob_16 rfl (s_KReader_run hL (by omega)  h) (fun σ26 h => ?_)
                  exact k_sb (sb_n sb_nil) (hJ4 () _ h)
                · have h := ipos c25 h
                  refine k_aload_n d_KReader_contentItem_142 rfl ?_
                  refine k_cvv [] d_KReader_contentItem_143 ml_15_705 rfl rfl ob_16 rfl (s_KReader_contentReference hL (by omega)  h) (fun σ28 h => ?_)
                  refine k_goto d_KReader_contentItem_146 rfl ?_
                  exact k_sb (sb_n sb_nil) (hJ4 () _ h)
              · have h := ipos c22 h
                refine k_aload_n d_KReader_contentItem_122 rfl ?_
                refine k_cvv [] d_KReader_contentItem_123 ml_15_427 rfl rfl ob_16 rfl (s_KReader_tag hL (by omega)  h) (fun σ30 h => ?_)
                refine k_goto d_KReader_contentItem_126 rfl ?_
                exact k_sb (sb_n sb_nil) (hJ4 () _ h)
            · have h := ineg c19 h
              refine k_aload_n d_KReader_contentItem_101 rfl ?_
              refine k_iconst d_KReader_contentItem_102 cI_1 ?_
              refine k_cvv [.inl 1] d_KReader_contentItem_103 ml_15_423 rfl rfl ob_16 rfl (s_KReader_instruction hL (by omega)  h) (fun σ32 h => ?_)
              refine k_goto d_KReader_contentItem_106 rfl ?_
              exact k_sb (sb_n sb_nil) (hJ4 () _ h)
          · have h := ineg c16 h
            refine k_aload_n d_KReader_contentItem_80 rfl ?_
            refine k_cvv [] d_KReader_contentItem_81 ml_15_702 rfl rfl ob_16 rfl (s_KReader_endTag hL (by omega)  h) (fun σ34 h => ?_)
            refine k_goto d_KReader_contentItem_84 rfl ?_
            exact k_sb (sb_n sb_nil) (hJ4 () _ h)
        · have h := ineg c13 h
          refine k_aload_n d_KReader_contentItem_56 rfl ?_
          refine k_bipush d_KReader_contentItem_57 cB_6 ?_
          refine k_cvi [.inl 6] d_KReader_contentItem_59 ml_15_392 rfl rfl ob_16 rfl (s_KReader_fail hL (by omega)  h) (fun v37 σ36 h => ?_)
          refine k_pop d_KReader_contentItem_62 ?_
          refine k_goto d_KReader_contentItem_63 rfl ?_
          exact k_sb (sb_n sb_nil) (hJ4 () _ h)
      · have h := ineg c10 h
        refine k_aload_n d_KReader_contentItem_35 rfl ?_
        refine k_cvv [] d_KReader_contentItem_36 ml_15_699 rfl rfl ob_16 rfl (s_KReader_section hL (by omega)  h) (fun σ38 h => ?_)
        refine k_goto d_KReader_contentItem_39 rfl ?_
        exact k_sb (sb_n sb_nil) (hJ4 () _ h)
    · have h := ineg c7 h
      refine k_aload_n d_KReader_contentItem_14 rfl ?_
      refine k_cvv [] d_KReader_contentItem_15 ml_15_409 rfl rfl ob_16 rfl (s_KReader_comment hL (by omega)  h) (fun σ40 h => ?_)
      refine k_goto d_KReader_contentItem_18 rfl ?_
      exact k_sb (sb_n sb_nil) (hJ4 () _ h)
theorem d_KReader_declaration_0 : decode b_KReader_declaration 0 = .ok (.aload_n 0, 1) := by decide +kernel
theorem d_KReader_declaration_1 : decode b_KReader_declaration 1 = .ok (.aload_n 0, 1) := by decide +kernel
theorem d_KReader_declaration_2 : decode b_KReader_declaration 2 = .ok (.aload_n 0, 1) := by decide +kernel
theorem d_KReader_declaration_3 : decode b_KReader_declaration 3 = .ok (.getfield 379, 3) := by decide +kernel
theorem d_KReader_declaration_6 : decode b_KReader_declaration 6 = .ok (.bipush 9, 2) := by decide +kernel
theorem d_KReader_declaration_8 : decode b_KReader_declaration 8 = .ok (.iadd, 1) := by decide +kernel
theorem d_KReader_declaration_9 : decode b_KReader_declaration 9 = .ok (.invokevirtual 333, 3) := by decide +kernel
theorem d_KReader_declaration_12 : decode b_KReader_declaration 12 = .ok (.invokevirtual 341, 3) := by decide +kernel
theorem d_KReader_declaration_15 : decode b_KReader_declaration 15 = .ok (.istore_n 1, 1) := by decide +kernel
theorem d_KReader_declaration_16 : decode b_KReader_declaration 16 = .ok (.iload_n 1, 1) := by decide +kernel
theorem d_KReader_declaration_17 : decode b_KReader_declaration 17 = .ok (.ifCond .ge 7, 3) := by decide +kernel
theorem d_KReader_declaration_20 : decode b_KReader_declaration 20 = .ok (.iconst 0, 1) := by decide +kernel
theorem d_KReader_declaration_21 : decode b_KReader_declaration 21 = .ok (.goto 14, 3) := by decide +kernel
theorem d_KReader_declaration_24 : decode b_KReader_declaration 24 = .ok (.aload_n 0, 1) := by decide +kernel
theorem d_KReader_declaration_25 : decode b_KReader_declaration 25 = .ok (.aload_n 0, 1) := by decide +kernel
theorem d_KReader_declaration_26 : decode b_KReader_declaration 26 = .ok (.getfield 379, 3) := by decide +kernel
theorem d_KReader_declaration_29 : decode b_KReader_declaration 29 = .ok (.bipush 9, 2) := by decide +kernel
theorem d_KReader_declaration_31 : decode b_KReader_declaration 31 = .ok (.iadd, 1) := by decide +kernel
theorem d_KReader_declaration_32 : decode b_KReader_declaration 32 = .ok (.invokevirtual 333, 3) := by decide +kernel
theorem d_KReader_declaration_35 : decode b_KReader_declaration 35 = .ok (.istore_n 2, 1) := by decide +kernel
theorem d_KReader_declaration_36 : decode b_KReader_declaration 36 = .ok (.aload_n 0, 1) := by decide +kernel
theorem d_KReader_declaration_37 : decode b_KReader_declaration 37 = .ok (.aload_n 0, 1) := by decide +kernel
theorem d_KReader_declaration_38 : decode b_KReader_declaration 38 = .ok (.iload_n 1, 1) := by decide +kernel
theorem d_KReader_declaration_39 : decode b_KReader_declaration 39 = .ok (.invokevirtual 333, 3) := by decide +kernel
theorem d_KReader_declaration_42 : decode b_KReader_declaration 42 = .ok (.invokevirtual 501, 3) := by decide +kernel
theorem d_KReader_declaration_45 : decode b_KReader_declaration 45 = .ok (.istore_n 3, 1) := by decide +kernel
theorem d_KReader_declaration_46 : decode b_KReader_declaration 46 = .ok (.aload_n 0, 1) := by decide +kernel
theorem d_KReader_declaration_47 : decode b_KReader_declaration 47 = .ok (.iload_n 3, 1) := by decide +kernel
theorem d_KReader_declaration_48 : decode b_KReader_declaration 48 = .ok (.ifCond .lt 7, 3) := by decide +kernel
theorem d_KReader_declaration_51 : decode b_KReader_declaration 51 = .ok (.iload_n 3, 1) := by decide +kernel
theorem d_KReader_declaration_52 : decode b_KReader_declaration 52 = .ok (.goto 4, 3) := by decide +kernel
theorem d_KReader_declaration_55 : decode b_KReader_declaration 55 = .ok (.iload_n 1, 1) := by decide +kernel
theorem d_KReader_declaration_56 : decode b_KReader_declaration 56 = .ok (.invokevirtual 297, 3) := by decide +kernel
theorem d_KReader_declaration_59 : decode b_KReader_declaration 59 = .ok (.istore 4, 2) := by decide +kernel
theorem d_KReader_declaration_61 : decode b_KReader_declaration 61 = .ok (.iload 4, 2) := by decide +kernel
theorem d_KReader_declaration_63 : decode b_KReader_declaration 63 = .ok (.ifCond .lt 18, 3) := by decide +kernel
theorem d_KReader_declaration_66 : decode b_KReader_declaration 66 = .ok (.aload_n 0, 1) := by decide +kernel
theorem d_KReader_declaration_67 : decode b_KReader_declaration 67 = .ok (.iload 4, 2) := by decide +kernel
theorem d_KReader_declaration_69 : decode b_KReader_declaration 69 = .ok (.invokevirtual 282, 3) := by decide +kernel
theorem d_KReader_declaration_72 : decode b_KReader_declaration 72 = .ok (.bipush 91, 2) := by decide +kernel
theorem d_KReader_declaration_74 : decode b_KReader_declaration 74 = .ok (.if_icmp .ne 7, 3) := by decide +kernel
theorem d_KReader_declaration_77 : decode b_KReader_declaration 77 = .ok (.iconst 1, 1) := by decide +kernel
theorem d_KReader_declaration_78 : decode b_KReader_declaration 78 = .ok (.goto 4, 3) := by decide +kernel
theorem d_KReader_declaration_81 : decode b_KReader_declaration 81 = .ok (.iconst 0, 1) := by decide +kernel
theorem d_KReader_declaration_82 : decode b_KReader_declaration 82 = .ok (.istore 5, 2) := by decide +kernel
theorem d_KReader_declaration_84 : decode b_KReader_declaration 84 = .ok (.aload_n 0, 1) := by decide +kernel
theorem d_KReader_declaration_85 : decode b_KReader_declaration 85 = .ok (.iload 4, 2) := by decide +kernel
theorem d_KReader_declaration_87 : decode b_KReader_declaration 87 = .ok (.ifCond .lt 19, 3) := by decide +kernel
theorem d_KReader_declaration_90 : decode b_KReader_declaration 90 = .ok (.iload 5, 2) := by decide +kernel
theorem d_KReader_declaration_92 : decode b_KReader_declaration 92 = .ok (.ifCond .ne 18, 3) := by decide +kernel
theorem d_KReader_declaration_95 : decode b_KReader_declaration 95 = .ok (.aload_n 0, 1) := by decide +kernel
theorem d_KReader_declaration_96 : decode b_KReader_declaration 96 = .ok (.iload 4, 2) := by decide +kernel
theorem d_KReader_declaration_98 : decode b_KReader_declaration 98 = .ok (.invokevirtual 282, 3) := by decide +kernel
theorem d_KReader_declaration_101 : decode b_KReader_declaration 101 = .ok (.bipush 62, 2) := by decide +kernel
theorem d_KReader_declaration_103 : decode b_KReader_declaration 103 = .ok (.if_icmp .eq 7, 3) := by decide +kernel
theorem d_KReader_declaration_106 : decode b_KReader_declaration 106 = .ok (.iconst (-1), 1) := by decide +kernel
theorem d_KReader_declaration_107 : decode b_KReader_declaration 107 = .ok (.goto 5, 3) := by decide +kernel
theorem d_KReader_declaration_110 : decode b_KReader_declaration 110 = .ok (.iload 4, 2) := by decide +kernel
theorem d_KReader_declaration_112 : decode b_KReader_declaration 112 = .ok (.invokevirtual 437, 3) := by decide +kernel
theorem d_KReader_declaration_115 : decode b_KReader_declaration 115 = .ok (.ifCond .ne 4, 3) := by decide +kernel
theorem d_KReader_declaration_118 : decode b_KReader_declaration 118 = .ok (.return_, 1) := by decide +kernel
theorem d_KReader_declaration_119 : decode b_KReader_declaration 119 = .ok (.iload_n 3, 1) := by decide +kernel
theorem d_KReader_declaration_120 : decode b_KReader_declaration 120 = .ok (.ifCond .lt 10, 3) := by decide +kernel
theorem d_KReader_declaration_123 : decode b_KReader_declaration 123 = .ok (.aload_n 0, 1) := by decide +kernel
theorem d_KReader_declaration_124 : decode b_KReader_declaration 124 = .ok (.iconst 3, 1) := by decide +kernel
theorem d_KReader_declaration_125 : decode b_KReader_declaration 125 = .ok (.invokevirtual 392, 3) := by decide +kernel
theorem d_KReader_declaration_128 : decode b_KReader_declaration 128 = .ok (.pop, 1) := by decide +kernel
theorem d_KReader_declaration_129 : decode b_KReader_declaration 129 = .ok (.return_, 1) := by decide +kernel
theorem d_KReader_declaration_130 : decode b_KReader_declaration 130 = .ok (.aload_n 0, 1) := by decide +kernel
theorem d_KReader_declaration_131 : decode b_KReader_declaration 131 = .ok (.iconst 1, 1) := by decide +kernel
theorem d_KReader_declaration_132 : decode b_KReader_declaration 132 = .ok (.putfield 184, 3) := by decide +kernel
theorem d_KReader_declaration_135 : decode b_KReader_declaration 135 = .ok (.aload_n 0, 1) := by decide +kernel
theorem d_KReader_declaration_136 : decode b_KReader_declaration 136 = .ok (.aload_n 0, 1) := by decide +kernel
theorem d_KReader_declaration_137 : decode b_KReader_declaration 137 = .ok (.iload_n 2, 1) := by decide +kernel
theorem d_KReader_declaration_138 : decode b_KReader_declaration 138 = .ok (.iload_n 1, 1) := by decide +kernel
theorem d_KReader_declaration_139 : decode b_KReader_declaration 139 = .ok (.iload_n 2, 1) := by decide +kernel
theorem d_KReader_declaration_140 : decode b_KReader_declaration 140 = .ok (.isub, 1) := by decide +kernel
theorem d_KReader_declaration_141 : decode b_KReader_declaration 141 = .ok (.invokevirtual 470, 3) := by decide +kernel
theorem d_KReader_declaration_144 : decode b_KReader_declaration 144 = .ok (.putfield 197, 3) := by decide +kernel
theorem d_KReader_declaration_147 : decode b_KReader_declaration 147 = .ok (.aload_n 0, 1) := by decide +kernel
theorem d_KReader_declaration_148 : decode b_KReader_declaration 148 = .ok (.iload 4, 2) := by decide +kernel
theorem d_KReader_declaration_150 : decode b_KReader_declaration 150 = .ok (.iconst 1, 1) := by decide +kernel
theorem d_KReader_declaration_151 : decode b_KReader_declaration 151 = .ok (.iadd, 1) := by decide +kernel
theorem d_KReader_declaration_152 : decode b_KReader_declaration 152 = .ok (.putfield 379, 3) := by decide +kernel
theorem d_KReader_declaration_155 : decode b_KReader_declaration 155 = .ok (.aload_n 0, 1) := by decide +kernel
theorem d_KReader_declaration_156 : decode b_KReader_declaration 156 = .ok (.iload 5, 2) := by decide +kernel
theorem d_KReader_declaration_158 : decode b_KReader_declaration 158 = .ok (.ifCond .eq 7, 3) := by decide +kernel
theorem d_KReader_declaration_161 : decode b_KReader_declaration 161 = .ok (.iconst 1, 1) := by decide +kernel
theorem d_KReader_declaration_162 : decode b_KReader_declaration 162 = .ok (.goto 4, 3) := by decide +kernel
theorem d_KReader_declaration_165 : decode b_KReader_declaration 165 = .ok (.iconst 0, 1) := by decide +kernel
theorem d_KReader_declaration_166 : decode b_KReader_declaration 166 = .ok (.putfield 181, 3) := by decide +kernel
theorem d_KReader_declaration_169 : decode b_KReader_declaration 169 = .ok (.return_, 1) := by decide +kernel
/-- KReader_declaration -/
def w_KReader_declaration (L : Nat → Nat)  (Q : IS → Prop) (σ : IS) : Prop := inR ((σ.1 16 16) + 9) ∧ w_KReader_spaces L ((σ.1 16 16) + 9) (fun v2 σ1 => w_KReader_name L v2 (fun v4 σ3 => WJ (fun (s7 : Int) (σ8 : IS) => w_KReader_spaces L v4 (fun v10 σ9 => w_KReader_outside L v10 (fun v12 σ11 => w_KReader_anySpaces L (if v12 < 0 then v4 else v12) (fun v14 σ13 => WJ (fun (s17 : Int) (σ18 : IS) => WJ (fun (s21 : Int) (σ22 : IS) => w_KReader_written L s21 (fun v24 σ23 => if v24 = 0 then Q σ23 else if v12 < 0 then inR (v4 - s7) ∧ w_KReader_keep L s7 (v4 - s7) (fun v28 σ27 => inR (v14 + 1) ∧ Q (pf (pf (pf σ27 16 24 v28) 16 16 (v14 + 1)) 16 19 (if s17 = 0 then (0 : Int) else (1 : Int)))) (pf σ23 16 20 1) else w_KReader_fail L 3 (fun v36 σ35 => Q σ35) σ23) σ22) (fun J19 => WJ (fun (s39 : Unit) (σ40 : IS) => J19 (-1) σ40) (fun J37 => if v14 < 0 then J37 () σ18 else WJ (fun (s44 : Unit) (σ45 : IS) => J19 v14 σ45) (fun J42 => if s17 = 0 then w_KReader_look L v14 (fun v48 σ47 => if v48 = 62 then J42 () σ47 else J37 () σ47) σ18 else J42 () σ18)))) (fun J15 => WJ (fun (s52 : Unit) (σ53 : IS) => J15 0 σ53) (fun J50 => if v14 < 0 then J50 () σ13 else w_KReader_look L v14 (fun v56 σ55 => if v56 = 91 then J15 1 σ55 else J50 () σ55) σ13))) σ11) σ9) σ8) (fun J5 => if v4 < 0 then J5 0 σ3 else inR ((σ3.1 16 16) + 9) ∧ w_KReader_spaces L ((σ3.1 16 16) + 9) (fun v64 σ63 => J5 v64 σ63) σ3)) σ1) σ
set_option maxHeartbeats 4000000 in
set_option maxRecDepth 20000 in
theorem s_KReader_declaration {L : Nat → Nat} (hL : ∀ r, L r < 2147483648) {d : Nat} (hd : 5 ≤ d)  {Q : IS → Prop} {σ : IS}  (h : w_KReader_declaration L  Q σ) : OkI BF L d 15 b_KReader_declaration 6 0 0 [] [some (.inr 16)] σ (qv Q) := by
  unfold w_KReader_declaration at h
  obtain ⟨d, rfl⟩ : ∃ e, d = e + 1 := ⟨d - 1, by omega⟩
  refine k_sb (lv' := [some (.inr 16), none, none, none, none, none]) (sb_s (sb_e (sb_e (sb_e (sb_e (sb_e sb_nil)))))) ?_
  refine k_aload_n d_KReader_declaration_0 rfl ?_
  refine k_aload_n d_KReader_declaration_1 rfl ?_
  refine k_aload_n d_KReader_declaration_2 rfl ?_
  refine k_getI (x := (σ.1 16 16)) d_KReader_declaration_3 fl_15_379 ob_16 rfl rfl ?_
  refine k_bipush d_KReader_declaration_6 cB_9 ?_
  obtain ⟨p66, h⟩ := h
  refine k_iadd d_KReader_declaration_8 p66 ?_
  refine k_cvi [.inl ((σ.1 16 16) + 9)] d_KReader_declaration_9 ml_15_333 rfl rfl ob_16 rfl (s_KReader_spaces hL (by omega)  h) (fun v2 σ1 h => ?_)
  refine k_cvi [.inl v2] d_KReader_declaration_12 ml_15_341 rfl rfl ob_16 rfl (s_KReader_name hL (by omega)  h) (fun v4 σ3 h => ?_)
  refine k_istore_n (lv' := [some (.inr 16), some (.inl v4), none, none, none, none]) d_KReader_declaration_15 rfl rfl ?_
  refine k_iload_n d_KReader_declaration_16 rfl ?_
  refine k_join (S := Int) (pc' := 35) (st' := fun s7 => [.inl s7]) (lv' := fun s7 => [some (.inr 16), some (.inl v4), none, none, none, none]) (fun s7 σ8 h => ?_) (fun J5 hJ6 h => ?_) h
  · refine k_istore_n (lv' := [some (.inr 16), some (.inl v4), some (.inl s7), none, none, none]) d_KReader_declaration_35 rfl rfl ?_
    refine k_aload_n d_KReader_declaration_36 rfl ?_
    refine k_aload_n d_KReader_declaration_37 rfl ?_
    refine k_iload_n d_KReader_declaration_38 rfl ?_
    refine k_cvi [.inl v4] d_KReader_declaration_39 ml_15_333 rfl rfl ob_16 rfl (s_KReader_spaces hL (by omega)  h) (fun v10 σ9 h => ?_)
    refine k_cvi [.inl v10] d_KReader_declaration_42 ml_15_501 rfl rfl ob_16 rfl (s_KReader_outside hL (by omega)  h) (fun v12 σ11 h => ?_)
    refine k_istore_n (lv' := [some (.inr 16), some (.inl v4), some (.inl s7), some (.inl v12), none, none]) d_KReader_declaration_45 rfl rfl ?_
    refine k_aload_n d_KReader_declaration_46 rfl ?_
    refine k_iload_n d_KReader_declaration_47 rfl ?_
    have hV58 : OkI BF L (d + 1) 15 b_KReader_declaration 6 0 56 [.inl (if v12 < 0 then v4 else v12), .inr 16] [some (.inr 16), some (.inl v4), some (.inl s7), some (.inl v12), none, none] σ11 (qv Q) := by
      refine k_cvi [.inl (if v12 < 0 then v4 else v12)] d_KReader_declaration_56 ml_15_297 rfl rfl ob_16 rfl (s_KReader_anySpaces hL (by omega)  h) (fun v14 σ13 h => ?_)
      refine k_istore (lv' := [some (.inr 16), some (.inl v4), some (.inl s7), some (.inl v12), some (.inl v14), none]) d_KReader_declaration_59 rfl rfl ?_
      refine k_iload d_KReader_declaration_61 rfl ?_
      refine k_join (S := Int) (pc' := 82) (st' := fun s17 => [.inl s17]) (lv' := fun s17 => [some (.inr 16), some (.inl v4), some (.inl s7), some (.inl v12), some (.inl v14), none]) (fun s17 σ18 h => ?_) (fun J15 hJ16 h => ?_) h
      · refine k_istore (lv' := [some (.inr 16), some (.inl v4), some (.inl s7), some (.inl v12), some (.inl v14), some (.inl s17)]) d_KReader_declaration_82 rfl rfl ?_
        refine k_aload_n d_KReader_declaration_84 rfl ?_
        refine k_iload d_KReader_declaration_85 rfl ?_
        refine k_join (S := Int) (pc' := 112) (st' := fun s21 => [.inl s21, .inr 16]) (lv' := fun s21 => [some (.inr 16), some (.inl v4), some (.inl s7), some (.inl v12), some (.inl v14), some (.inl s17)]) (fun s21 σ22 h => ?_) (fun J19 hJ20 h => ?_) h
        · refine k_cvi [.inl s21] d_KReader_declaration_112 ml_15_437 rfl rfl ob_16 rfl (s_KReader_written hL (by omega)  h) (fun v24 σ23 h => ?_)
          refine k_ifne d_KReader_declaration_115 rfl (fun c25 => ?_) (fun c25 => ?_)
          · have h := ineg c25 h
            refine k_iload_n d_KReader_declaration_119 rfl ?_
            refine k_iflt d_KReader_declaration_120 rfl (fun c26 => ?_) (fun c26 => ?_)
            · have h := ipos c26 h
              refine k_aload_n d_KReader_declaration_130 rfl ?_
              refine k_iconst d_KReader_declaration_131 cI_1 ?_
              refine k_putZ d_KReader_declaration_132 fl_15_184 ob_16 rfl (Or.inr rfl) ?_
              refine k_aload_n d_KReader_declaration_135 rfl ?_
              refine k_aload_n d_KReader_declaration_136 rfl ?_
              refine k_iload_n d_KReader_declaration_137 rfl ?_
              refine k_iload_n d_KReader_declaration_138 rfl ?_
              refine k_iload_n d_KReader_declaration_139 rfl ?_
              obtain ⟨p34, h⟩ := h
              refine k_isub d_KReader_declaration_140 p34 ?_
              refine k_cvi [.inl s7, .inl (v4 - s7)] d_KReader_declaration_141 ml_15_470 rfl rfl ob_16 rfl (s_KReader_keep hL (by omega)  h) (fun v28 σ27 h => ?_)
              refine k_putI d_KReader_declaration_144 fl_15_197 ob_16 rfl ?_
              refine k_aload_n d_KReader_declaration_147 rfl ?_
              refine k_iload d_KReader_declaration_148 rfl ?_
              refine k_iconst d_KReader_declaration_150 cI_1 ?_
              obtain ⟨p33, h⟩ := h
              refine k_iadd d_KReader_declaration_151 p33 ?_
              refine k_putI d_KReader_declaration_152 fl_15_379 ob_16 rfl ?_
              refine k_aload_n d_KReader_declaration_155 rfl ?_
              refine k_iload d_KReader_declaration_156 rfl ?_
              have hV29 : OkI BF L (d + 1) 15 b_KReader_declaration 6 0 166 [.inl (if s17 = 0 then (0 : Int) else (1 : Int)), .inr 16] [some (.inr 16), some (.inl v4), some (.inl s7), some (.inl v12), some (.inl v14), some (.inl s17)] (pf (pf σ27 16 24 v28) 16 16 (v14 + 1)) (qv Q) := by
                refine k_putI d_KReader_declaration_166 fl_15_181 ob_16 rfl ?_
                exact k_ret d_KReader_declaration_169 h
              refine k_ifeq d_KReader_declaration_158 rfl (fun c30 => ?_) (fun c30 => ?_)
              · have hV31 := k_eqI (if_pos c30) hV29
                refine k_iconst d_KReader_declaration_165 cI_0 ?_
                exact hV31
              · have hV32 := k_eqI (if_neg c30) hV29
                refine k_iconst d_KReader_declaration_161 cI_1 ?_
                refine k_goto d_KReader_declaration_162 rfl ?_
                exact hV32
            · have h := ineg c26 h
              refine k_aload_n d_KReader_declaration_123 rfl ?_
              refine k_iconst d_KReader_declaration_124 cI_3 ?_
              refine k_cvi [.inl 3] d_KReader_declaration_125 ml_15_392 rfl rfl ob_16 rfl (s_KReader_fail hL (by omega)  h) (fun v36 σ35 h => ?_)
              refine k_pop d_KReader_declaration_128 ?_
              exact k_ret d_KReader_declaration_129 h
          · have h := ipos c25 h
            exact k_ret d_KReader_declaration_118 h
        · refine k_join (S := Unit) (pc' := 106) (st' := fun s39 => [.inr 16]) (lv' := fun s39 => [some (.inr 16), some (.inl v4), some (.inl s7), some (.inl v12), some (.inl v14), some (.inl s17)]) (fun s39 σ40 h => ?_) (fun J37 hJ38 h => ?_) h
          · refine k_iconst d_KReader_declaration_106 cI_m1 ?_
            refine k_goto d_KReader_declaration_107 rfl ?_
            exact k_sb (sb_s (sb_s (sb_s (sb_s (sb_s (sb_s sb_nil)))))) (hJ20 (-1) _ h)
          · refine k_iflt d_KReader_declaration_87 rfl (fun c41 => ?_) (fun c41 => ?_)
            · have h := ipos c41 h
              exact k_sb (sb_s (sb_s (sb_s (sb_s (sb_s (sb_s sb_nil)))))) (hJ38 () _ h)
            · have h := ineg c41 h
              refine k_iload d_KReader_declaration_90 rfl ?_
              refine k_join (S := Unit) (pc' := 110) (st' := fun s44 => [.inr 16]) (lv' := fun s44 => [some (.inr 16), some (.inl v4), some (.inl s7), some (.inl v12), some (.inl v14), some (.inl s17)]) (fun s44 σ45 h => ?_) (fun J42 hJ43 h => ?_) h
              · refine k_iload d_KReader_declaration_110 rfl ?_
                exact k_sb (sb_s (sb_s (sb_s (sb_s (sb_s (sb_s sb_nil)))))) (hJ20 v14 _ h)
              · refine k_ifne d_KReader_declaration_92 rfl (fun c46 => ?_) (fun c46 => ?_)
                · have h := ineg c46 h
                  exact k_sb (sb_s (sb_s (sb_s (sb_s (sb_s (sb_s sb_nil)))))) (hJ43 () _ h)
                · have h := ipos c46 h
                  refine k_aload_n d_KReader_declaration_95 rfl ?_
                  refine k_iload d_KReader_declaration_96 rfl ?_
                  refine k_cvi [.inl v14] d_KReader_declaration_98 ml_15_282 rfl rfl ob_16 rfl (s_KReader_look hL (by omega)  h) (fun v48 σ47 h => ?_)
                  refine k_bipush d_KReader_declaration_101 cB_62 ?_
                  refine k_iceq d_KReader_declaration_103 rfl (fun c49 => ?_) (fun c49 => ?_)
                  · have h := ipos c49 h
                    exact k_sb (sb_s (sb_s (sb_s (sb_s (sb_s (sb_s sb_nil)))))) (hJ43 () _ h)
                  · have h := ineg c49 h
                    exact k_sb (sb_s (sb_s (sb_s (sb_s (sb_s (sb_s sb_nil)))))) (hJ38 () _ h)
      · refine k_join (S := Unit) (pc' := 81) (st' := fun s52 => []) (lv' := fun s52 => [some (.inr 16), some (.inl v4), some (.inl s7), some (.inl v12), some (.inl v14), none]) (fun s52 σ53 h => ?_) (fun J50 hJ51 h => ?_) h
        · refine k_iconst d_KReader_declaration_81 cI_0 ?_
          exact k_sb (sb_s (sb_s (sb_s (sb_s (sb_s (sb_s sb_nil)))))) (hJ16 0 _ h)
        · refine k_iflt d_KReader_declaration_63 rfl (fun c54 => ?_) (fun c54 => ?_)
          · have h := ipos c54 h
            exact k_sb (sb_s (sb_s (sb_s (sb_s (sb_s (sb_s sb_nil)))))) (hJ51 () _ h)
          · have h := ineg c54 h
            refine k_aload_n d_KReader_declaration_66 rfl ?_
            refine k_iload d_KReader_declaration_67 rfl ?_
            refine k_cvi [.inl v14] d_KReader_declaration_69 ml_15_282 rfl rfl ob_16 rfl (s_KReader_look hL (by omega)  h) (fun v56 σ55 h => ?_)
            refine k_bipush d_KReader_declaration_72 cB_91 ?_
            refine k_icne d_KReader_declaration_74 rfl (fun c57 => ?_) (fun c57 => ?_)
            · have h := ineg c57 h
              exact k_sb (sb_s (sb_s (sb_s (sb_s (sb_s (sb_s sb_nil)))))) (hJ51 () _ h)
            · have h := ipos c57 h
              refine k_iconst d_KReader_declaration_77 cI_1 ?_
              refine k_goto d_KReader_declaration_78 rfl ?_
              exact k_sb (sb_s (sb_s (sb_s (sb_s (sb_s (sb_s sb_nil)))))) (hJ16 1 _ h)
    refine k_iflt d_KReader_declaration_48 rfl (fun c59 => ?_) (fun c59 => ?_)
    · have hV60 := k_eqI (if_pos c59) hV58
      refine k_iload_n d_KReader_declaration_55 rfl ?_
      exact hV60
    · have hV61 := k_eqI (if_neg c59) hV58
      refine k_iload_n d_KReader_declaration_51 rfl ?_
      refine k_goto d_KReader_declaration_52 rfl ?_
      exact hV61
  · refine k_ifge d_KReader_declaration_17 rfl (fun c62 => ?_) (fun c62 => ?_)
    · have h := ineg c62 h
      refine k_aload_n d_KReader_declaration_24 rfl ?_
      refine k_aload_n d_KReader_declaration_25 rfl ?_
      refine k_getI (x := (σ3.1 16 16)) d_KReader_declaration_26 fl_15_379 ob_16 rfl rfl ?_
      refine k_bipush d_KReader_declaration_29 cB_9 ?_
      obtain ⟨p65, h⟩ := h
      refine k_iadd d_KReader_declaration_31 p65 ?_
      refine k_cvi [.inl ((σ3.1 16 16) + 9)] d_KReader_declaration_32 ml_15_333 rfl rfl ob_16 rfl (s_KReader_spaces hL (by omega)  h) (fun v64 σ63 h => ?_)
      exact k_sb (sb_s (sb_s (sb_s (sb_s (sb_s (sb_s sb_nil)))))) (hJ6 v64 _ h)
    · have h := ipos c62 h
      refine k_iconst d_KReader_declaration_20 cI_0 ?_
      refine k_goto d_KReader_declaration_21 rfl ?_
      exact k_sb (sb_s (sb_s (sb_s (sb_s (sb_s (sb_s sb_nil)))))) (hJ6 0 _ h)
theorem d_KReader_outerItem_0 : decode b_KReader_outerItem 0 = .ok (.aload_n 0, 1) := by decide +kernel
theorem d_KReader_outerItem_1 : decode b_KReader_outerItem 1 = .ok (.aload_n 0, 1) := by decide +kernel
theorem d_KReader_outerItem_2 : decode b_KReader_outerItem 2 = .ok (.getfield 379, 3) := by decide +kernel
theorem d_KReader_outerItem_5 : decode b_KReader_outerItem 5 = .ok (.invokevirtual 282, 3) := by decide +kernel
theorem d_KReader_outerItem_8 : decode b_KReader_outerItem 8 = .ok (.invokestatic 294, 3) := by decide +kernel
theorem d_KReader_outerItem_11 : decode b_KReader_outerItem 11 = .ok (.ifCond .eq 18, 3) := by decide +kernel
theorem d_KReader_outerItem_14 : decode b_KReader_outerItem 14 = .ok (.aload_n 0, 1) := by decide +kernel
theorem d_KReader_outerItem_15 : decode b_KReader_outerItem 15 = .ok (.aload_n 0, 1) := by decide +kernel
theorem d_KReader_outerItem_16 : decode b_KReader_outerItem 16 = .ok (.aload_n 0, 1) := by decide +kernel
theorem d_KReader_outerItem_17 : decode b_KReader_outerItem 17 = .ok (.getfield 379, 3) := by decide +kernel
theorem d_KReader_outerItem_20 : decode b_KReader_outerItem 20 = .ok (.invokevirtual 297, 3) := by decide +kernel
theorem d_KReader_outerItem_23 : decode b_KReader_outerItem 23 = .ok (.putfield 379, 3) := by decide +kernel
theorem d_KReader_outerItem_26 : decode b_KReader_outerItem 26 = .ok (.goto 165, 3) := by decide +kernel
theorem d_KReader_outerItem_29 : decode b_KReader_outerItem 29 = .ok (.aload_n 0, 1) := by decide +kernel
theorem d_KReader_outerItem_30 : decode b_KReader_outerItem 30 = .ok (.aload_n 0, 1) := by decide +kernel
theorem d_KReader_outerItem_31 : decode b_KReader_outerItem 31 = .ok (.getfield 379, 3) := by decide +kernel
theorem d_KReader_outerItem_34 : decode b_KReader_outerItem 34 = .ok (.ldc_w 407, 3) := by decide +kernel
theorem d_KReader_outerItem_37 : decode b_KReader_outerItem 37 = .ok (.invokevirtual 290, 3) := by decide +kernel
theorem d_KReader_outerItem_40 : decode b_KReader_outerItem 40 = .ok (.ifCond .eq 10, 3) := by decide +kernel
theorem d_KReader_outerItem_43 : decode b_KReader_outerItem 43 = .ok (.aload_n 0, 1) := by decide +kernel
theorem d_KReader_outerItem_44 : decode b_KReader_outerItem 44 = .ok (.invokevirtual 409, 3) := by decide +kernel
theorem d_KReader_outerItem_47 : decode b_KReader_outerItem 47 = .ok (.goto 144, 3) := by decide +kernel
theorem d_KReader_outerItem_50 : decode b_KReader_outerItem 50 = .ok (.aload_n 0, 1) := by decide +kernel
theorem d_KReader_outerItem_51 : decode b_KReader_outerItem 51 = .ok (.aload_n 0, 1) := by decide +kernel
theorem d_KReader_outerItem_52 : decode b_KReader_outerItem 52 = .ok (.getfield 379, 3) := by decide +kernel
theorem d_KReader_outerItem_55 : decode b_KReader_outerItem 55 = .ok (.ldc_w 412, 3) := by decide +kernel
theorem d_KReader_outerItem_58 : decode b_KReader_outerItem 58 = .ok (.invokevirtual 290, 3) := by decide +kernel
theorem d_KReader_outerItem_61 : decode b_KReader_outerItem 61 = .ok (.ifCond .eq 35, 3) := by decide +kernel
theorem d_KReader_outerItem_64 : decode b_KReader_outerItem 64 = .ok (.aload_n 0, 1) := by decide +kernel
theorem d_KReader_outerItem_65 : decode b_KReader_outerItem 65 = .ok (.getfield 181, 3) := by decide +kernel
theorem d_KReader_outerItem_68 : decode b_KReader_outerItem 68 = .ok (.iconst 3, 1) := by decide +kernel
theorem d_KReader_outerItem_69 : decode b_KReader_outerItem 69 = .ok (.if_icmp .eq 10, 3) := by decide +kernel
theorem d_KReader_outerItem_72 : decode b_KReader_outerItem 72 = .ok (.aload_n 0, 1) := by decide +kernel
theorem d_KReader_outerItem_73 : decode b_KReader_outerItem 73 = .ok (.getfield 184, 3) := by decide +kernel
theorem d_KReader_outerItem_76 : decode b_KReader_outerItem 76 = .ok (.ifCond .eq 13, 3) := by decide +kernel
theorem d_KReader_outerItem_79 : decode b_KReader_outerItem 79 = .ok (.aload_n 0, 1) := by decide +kernel
theorem d_KReader_outerItem_80 : decode b_KReader_outerItem 80 = .ok (.bipush 6, 2) := by decide +kernel
theorem d_KReader_outerItem_82 : decode b_KReader_outerItem 82 = .ok (.invokevirtual 392, 3) := by decide +kernel
theorem d_KReader_outerItem_85 : decode b_KReader_outerItem 85 = .ok (.pop, 1) := by decide +kernel
theorem d_KReader_outerItem_86 : decode b_KReader_outerItem 86 = .ok (.goto 105, 3) := by decide +kernel
theorem d_KReader_outerItem_89 : decode b_KReader_outerItem 89 = .ok (.aload_n 0, 1) := by decide +kernel
theorem d_KReader_outerItem_90 : decode b_KReader_outerItem 90 = .ok (.invokevirtual 414, 3) := by decide +kernel
theorem d_KReader_outerItem_93 : decode b_KReader_outerItem 93 = .ok (.goto 98, 3) := by decide +kernel
theorem d_KReader_outerItem_96 : decode b_KReader_outerItem 96 = .ok (.aload_n 0, 1) := by decide +kernel
theorem d_KReader_outerItem_97 : decode b_KReader_outerItem 97 = .ok (.aload_n 0, 1) := by decide +kernel
theorem d_KReader_outerItem_98 : decode b_KReader_outerItem 98 = .ok (.getfield 379, 3) := by decide +kernel
theorem d_KReader_outerItem_101 : decode b_KReader_outerItem 101 = .ok (.ldc_w 417, 3) := by decide +kernel
theorem d_KReader_outerItem_104 : decode b_KReader_outerItem 104 = .ok (.invokevirtual 290, 3) := by decide +kernel
theorem d_KReader_outerItem_107 : decode b_KReader_outerItem 107 = .ok (.ifCond .ne 30, 3) := by decide +kernel
theorem d_KReader_outerItem_110 : decode b_KReader_outerItem 110 = .ok (.aload_n 0, 1) := by decide +kernel
theorem d_KReader_outerItem_111 : decode b_KReader_outerItem 111 = .ok (.aload_n 0, 1) := by decide +kernel
theorem d_KReader_outerItem_112 : decode b_KReader_outerItem 112 = .ok (.getfield 379, 3) := by decide +kernel
theorem d_KReader_outerItem_115 : decode b_KReader_outerItem 115 = .ok (.ldc_w 419, 3) := by decide +kernel
theorem d_KReader_outerItem_118 : decode b_KReader_outerItem 118 = .ok (.invokevirtual 290, 3) := by decide +kernel
theorem d_KReader_outerItem_121 : decode b_KReader_outerItem 121 = .ok (.ifCond .ne 16, 3) := by decide +kernel
theorem d_KReader_outerItem_124 : decode b_KReader_outerItem 124 = .ok (.aload_n 0, 1) := by decide +kernel
theorem d_KReader_outerItem_125 : decode b_KReader_outerItem 125 = .ok (.aload_n 0, 1) := by decide +kernel
theorem d_KReader_outerItem_126 : decode b_KReader_outerItem 126 = .ok (.getfield 379, 3) := by decide +kernel
theorem d_KReader_outerItem_129 : decode b_KReader_outerItem 129 = .ok (.invokevirtual 282, 3) := by decide +kernel
theorem d_KReader_outerItem_132 : decode b_KReader_outerItem 132 = .ok (.bipush 60, 2) := by decide +kernel
theorem d_KReader_outerItem_134 : decode b_KReader_outerItem 134 = .ok (.if_icmp .eq 13, 3) := by decide +kernel
theorem d_KReader_outerItem_137 : decode b_KReader_outerItem 137 = .ok (.aload_n 0, 1) := by decide +kernel
theorem d_KReader_outerItem_138 : decode b_KReader_outerItem 138 = .ok (.bipush 6, 2) := by decide +kernel
theorem d_KReader_outerItem_140 : decode b_KReader_outerItem 140 = .ok (.invokevirtual 392, 3) := by decide +kernel
theorem d_KReader_outerItem_143 : decode b_KReader_outerItem 143 = .ok (.pop, 1) := by decide +kernel
theorem d_KReader_outerItem_144 : decode b_KReader_outerItem 144 = .ok (.goto 47, 3) := by decide +kernel
theorem d_KReader_outerItem_147 : decode b_KReader_outerItem 147 = .ok (.aload_n 0, 1) := by decide +kernel
theorem d_KReader_outerItem_148 : decode b_KReader_outerItem 148 = .ok (.aload_n 0, 1) := by decide +kernel
theorem d_KReader_outerItem_149 : decode b_KReader_outerItem 149 = .ok (.getfield 379, 3) := by decide +kernel
theorem d_KReader_outerItem_152 : decode b_KReader_outerItem 152 = .ok (.ldc_w 421, 3) := by decide +kernel
theorem d_KReader_outerItem_155 : decode b_KReader_outerItem 155 = .ok (.invokevirtual 290, 3) := by decide +kernel
theorem d_KReader_outerItem_158 : decode b_KReader_outerItem 158 = .ok (.ifCond .eq 11, 3) := by decide +kernel
theorem d_KReader_outerItem_161 : decode b_KReader_outerItem 161 = .ok (.aload_n 0, 1) := by decide +kernel
theorem d_KReader_outerItem_162 : decode b_KReader_outerItem 162 = .ok (.iconst 1, 1) := by decide +kernel
theorem d_KReader_outerItem_163 : decode b_KReader_outerItem 163 = .ok (.invokevirtual 423, 3) := by decide +kernel
theorem d_KReader_outerItem_166 : decode b_KReader_outerItem 166 = .ok (.goto 25, 3) := by decide +kernel
theorem d_KReader_outerItem_169 : decode b_KReader_outerItem 169 = .ok (.aload_n 0, 1) := by decide +kernel
theorem d_KReader_outerItem_170 : decode b_KReader_outerItem 170 = .ok (.getfield 181, 3) := by decide +kernel
theorem d_KReader_outerItem_173 : decode b_KReader_outerItem 173 = .ok (.iconst 3, 1) := by decide +kernel
theorem d_KReader_outerItem_174 : decode b_KReader_outerItem 174 = .ok (.if_icmp .ne 13, 3) := by decide +kernel
theorem d_KReader_outerItem_177 : decode b_KReader_outerItem 177 = .ok (.aload_n 0, 1) := by decide +kernel
theorem d_KReader_outerItem_178 : decode b_KReader_outerItem 178 = .ok (.bipush 6, 2) := by decide +kernel
theorem d_KReader_outerItem_180 : decode b_KReader_outerItem 180 = .ok (.invokevirtual 392, 3) := by decide +kernel
theorem d_KReader_outerItem_183 : decode b_KReader_outerItem 183 = .ok (.pop, 1) := by decide +kernel
theorem d_KReader_outerItem_184 : decode b_KReader_outerItem 184 = .ok (.goto 7, 3) := by decide +kernel
theorem d_KReader_outerItem_187 : decode b_KReader_outerItem 187 = .ok (.aload_n 0, 1) := by decide +kernel
theorem d_KReader_outerItem_188 : decode b_KReader_outerItem 188 = .ok (.invokevirtual 427, 3) := by decide +kernel
theorem d_KReader_outerItem_191 : decode b_KReader_outerItem 191 = .ok (.return_, 1) := by decide +kernel
/-- KReader_outerItem -/
def w_KReader_outerItem (L : Nat → Nat)  (Q : IS → Prop) (σ : IS) : Prop := w_KReader_look L (σ.1 16 16) (fun v2 σ1 => w_K_isSpace L v2 (fun v4 σ3 => WJ (fun (s7 : Unit) (σ8 : IS) => Q σ8) (fun J5 => if v4 = 0 then w_KReader_says L (σ3.1 16 16) 1103 (fun v11 σ10 => if v11 = 0 then w_KReader_says L (σ10.1 16 16) 1104 (fun v14 σ13 => if v14 = 0 then w_KReader_says L (σ13.1 16 16) 1105 (fun v17 σ16 => WJ (fun (s20 : Unit) (σ21 : IS) => w_KReader_fail L 6 (fun v23 σ22 => J5 () σ22) σ21) (fun J18 => if v17 = 0 then w_KReader_says L (σ16.1 16 16) 1106 (fun v26 σ25 => if v26 = 0 then w_KReader_look L (σ25.1 16 16) (fun v29 σ28 => if v29 = 60 then w_KReader_says L (σ28.1 16 16) 1107 (fun v32 σ31 => if v32 = 0 then if (σ31.1 16 19) = 3 then w_KReader_fail L 6 (fun v38 σ37 => J5 () σ37) σ31 else w_KReader_tag L  (fun σ35 => J5 () σ35) σ31 else w_KReader_instruction L 1 (fun σ39 => J5 () σ39) σ31) σ28 else J18 () σ28) σ25 else J18 () σ25) σ16 else J18 () σ16)) σ13 else if ¬ (σ13.1 16 19) = 3 ∧ ((σ13.1 16 20) = 0) then w_KReader_declaration L  (fun σ41 => J5 () σ41) σ13 else w_KReader_fail L 6 (fun v44 σ43 => J5 () σ43) σ13) σ10 else w_KReader_comment L  (fun σ50 => J5 () σ50) σ10) σ3 else w_KReader_anySpaces L (σ3.1 16 16) (fun v53 σ52 => J5 () (pf σ52 16 16 v53)) σ3)) σ1) σ
set_option maxHeartbeats 4000000 in
set_option maxRecDepth 20000 in
theorem s_KReader_outerItem {L : Nat → Nat} (hL : ∀ r, L r < 2147483648) {d : Nat} (hd : 76 ≤ d)  {Q : IS → Prop} {σ : IS}  (h : w_KReader_outerItem L  Q σ) : OkI BF L d 15 b_KReader_outerItem 1 0 0 [] [some (.inr 16)] σ (qv Q) := by
  unfold w_KReader_outerItem at h
  obtain ⟨d, rfl⟩ : ∃ e, d = e + 1 := ⟨d - 1, by omega⟩
  refine k_sb (lv' := [some (.inr 16)]) (sb_s sb_nil) ?_
  refine k_aload_n d_KReader_outerItem_0 rfl ?_
  refine k_aload_n d_KReader_outerItem_1 rfl ?_
  refine k_getI (x := (σ.1 16 16)) d_KReader_outerItem_2 fl_15_379 ob_16 rfl rfl ?_
  refine k_cvi [.inl (σ.1 16 16)] d_KReader_outerItem_5 ml_15_282 rfl rfl ob_16 rfl (s_KReader_look hL (by omega)  h) (fun v2 σ1 h => ?_)
  refine k_csi [.inl v2] d_KReader_outerItem_8 ml_15_294 (Or.inr rfl) rfl rfl rfl (s_K_isSpace hL (by omega)  h) (fun v4 σ3 h => ?_)
  refine k_join (S := Unit) (pc' := 191) (st' := fun s7 => []) (lv' := fun s7 => [none]) (fun s7 σ8 h => ?_) (fun J5 hJ6 h => ?_) h
  · exact k_ret d_KReader_outerItem_191 h
  · refine k_ifeq d_KReader_outerItem_11 rfl (fun c9 => ?_) (fun c9 => ?_)
    · have h := ipos c9 h
      refine k_aload_n d_KReader_outerItem_29 rfl ?_
      refine k_aload_n d_KReader_outerItem_30 rfl ?_
      refine k_getI (x := (σ3.1 16 16)) d_KReader_outerItem_31 fl_15_379 ob_16 rfl rfl ?_
      refine k_ldcw d_KReader_outerItem_34 ks_15_407 rfl ?_
      refine k_cvi [.inl (σ3.1 16 16), .inr 1103] d_KReader_outerItem_37 ml_15_290 rfl rfl ob_16 rfl (s_KReader_says hL (by omega) it_1103 h) (fun v11 σ10 h => ?_)
      refine k_ifeq d_KReader_outerItem_40 rfl (fun c12 => ?_) (fun c12 => ?_)
      · have h := ipos c12 h
        refine k_aload_n d_KReader_outerItem_50 rfl ?_
        refine k_aload_n d_KReader_outerItem_51 rfl ?_
        refine k_getI (x := (σ10.1 16 16)) d_KReader_outerItem_52 fl_15_379 ob_16 rfl rfl ?_
        refine k_ldcw d_KReader_outerItem_55 ks_15_412 rfl ?_
        refine k_cvi [.inl (σ10.1 16 16), .inr 1104] d_KReader_outerItem_58 ml_15_290 rfl rfl ob_16 rfl (s_KReader_says hL (by omega) it_1104 h) (fun v14 σ13 h => ?_)
        refine k_ifeq d_KReader_outerItem_61 rfl (fun c15 => ?_) (fun c15 => ?_)
        · have h := ipos c15 h
          refine k_aload_n d_KReader_outerItem_96 rfl ?_
          refine k_aload_n d_KReader_outerItem_97 rfl ?_
          refine k_getI (x := (σ13.1 16 16)) d_KReader_outerItem_98 fl_15_379 ob_16 rfl rfl ?_
          refine k_ldcw d_KReader_outerItem_101 ks_15_417 rfl ?_
          refine k_cvi [.inl (σ13.1 16 16), .inr 1105] d_KReader_outerItem_104 ml_15_290 rfl rfl ob_16 rfl (s_KReader_says hL (by omega) it_1105 h) (fun v17 σ16 h => ?_)
          refine k_join (S := Unit) (pc' := 137) (st' := fun s20 => []) (lv' := fun s20 => [some (.inr 16)]) (fun s20 σ21 h => ?_) (fun J18 hJ19 h => ?_) h
          · refine k_aload_n d_KReader_outerItem_137 rfl ?_
            refine k_bipush d_KReader_outerItem_138 cB_6 ?_
            refine k_cvi [.inl 6] d_KReader_outerItem_140 ml_15_392 rfl rfl ob_16 rfl (s_KReader_fail hL (by omega)  h) (fun v23 σ22 h => ?_)
            refine k_pop d_KReader_outerItem_143 ?_
            refine k_goto d_KReader_outerItem_144 rfl ?_
            exact k_sb (sb_n sb_nil) (hJ6 () _ h)
          · refine k_ifne d_KReader_outerItem_107 rfl (fun c24 => ?_) (fun c24 => ?_)
            · have h := ineg c24 h
              exact k_sb (sb_s sb_nil) (hJ19 () _ h)
            · have h := ipos c24 h
              refine k_aload_n d_KReader_outerItem_110 rfl ?_
              refine k_aload_n d_KReader_outerItem_111 rfl ?_
              refine k_getI (x := (σ16.1 16 16)) d_KReader_outerItem_112 fl_15_379 ob_16 rfl rfl ?_
              refine k_ldcw d_KReader_outerItem_115 ks_15_419 rfl ?_
              refine k_cvi [.inl (σ16.1 16 16), .inr 1106] d_KReader_outerItem_118 ml_15_290 rfl rfl ob_16 rfl (s_KReader_says hL (by omega) it_1106 h) (fun v26 σ25 h => ?_)
              refine k_ifne d_KReader_outerItem_121 rfl (fun c27 => ?_) (fun c27 => ?_)
              · have h := ineg c27 h
                exact k_sb (sb_s sb_nil) (hJ19 () _ h)
              · have h := ipos c27 h
                refine k_aload_n d_KReader_outerItem_124 rfl ?_
                refine k_aload_n d_KReader_outerItem_125 rfl ?_
                refine k_getI (x := (σ25.1 16 16)) d_KReader_outerItem_126 fl_15_379 ob_16 rfl rfl ?_
                refine k_cvi [.inl (σ25.1 16 16)] d_KReader_outerItem_129 ml_15_282 rfl rfl ob_16 rfl (s_KReader_look hL (by omega)  h) (fun v29 σ28 h => ?_)
                refine k_bipush d_KReader_outerItem_132 cB_60 ?_
                refine k_iceq d_KReader_outerItem_134 rfl (fun c30 => ?_) (fun c30 => ?_)
                · have h := ipos c30 h
                  refine k_aload_n d_KReader_outerItem_147 rfl ?_
                  refine k_aload_n d_KReader_outerItem_148 rfl ?_
                  refine k_getI (x := (σ28.1 16 16)) d_KReader_outerItem_149 fl_15_379 ob_16 rfl rfl ?_
                  refine k_ldcw d_KReader_outerItem_152 ks_15_421 rfl ?_
                  refine k_cvi [.inl (σ28.1 16 16), .inr 1107] d_KReader_outerItem_155 ml_15_290 rfl rfl ob_16 rfl (s_KReader_says hL (by omega) it_1107 h) (fun v32 σ31 h => ?_)
                  refine k_ifeq d_KReader_outerItem_158 rfl (fun c33 => ?_) (fun c33 => ?_)
                  · have h := ipos c33 h
                    refine k_aload_n d_KReader_outerItem_169 rfl ?_
                    refine k_getI (x := (σ31.1 16 19)) d_KReader_outerItem_170 fl_15_181 ob_16 rfl rfl ?_
                    refine k_iconst d_KReader_outerItem_173 cI_3 ?_
                    refine k_icne d_KReader_outerItem_174 rfl (fun c34 => ?_) (fun c34 => ?_)
                    · have h := ineg c34 h
                      refine k_aload_n d_KReader_outerItem_187 rfl ?_
                      refine k_cvv [] d_KReader_outerItem_188 ml_15_427 rfl rfl ob_16 rfl (s_KReader_tag hL (by omega)  h) (fun σ35 h => ?_)
                      exact k_sb (sb_n sb_nil) (hJ6 () _ h)
                    · have h := ipos c34 h
                      refine k_aload_n d_KReader_outerItem_177 rfl ?_
                      refine k_bipush d_KReader_outerItem_178 cB_6 ?_
                      refine k_cvi [.inl 6] d_KReader_outerItem_180 ml_15_392 rfl rfl ob_16 rfl (s_KReader_fail hL (by omega)  h) (fun v38 σ37 h => ?_)
                      refine k_pop d_KReader_outerItem_183 ?_
                      refine k_goto d_KReader_outerItem_184 rfl ?_
                      exact k_sb (sb_n sb_nil) (hJ6 () _ h)
                  · have h := ineg c33 h
                    refine k_aload_n d_KReader_outerItem_161 rfl ?_
                    refine k_iconst d_KReader_outerItem_162 cI_1 ?_
                    refine k_cvv [.inl 1] d_KReader_outerItem_163 ml_15_423 rfl rfl ob_16 rfl (s_KReader_instruction hL (by omega)  h) (fun σ39 h => ?_)
                    refine k_goto d_KReader_outerItem_166 rfl ?_
                    exact k_sb (sb_n sb_nil) (hJ6 () _ h)
                · have h := ineg c30 h
                  exact k_sb (sb_s sb_nil) (hJ19 () _ h)
        · have h := ineg c15 h
          refine k_aload_n d_KReader_outerItem_64 rfl ?_
          refine k_getI (x := (σ13.1 16 19)) d_KReader_outerItem_65 fl_15_181 ob_16 rfl rfl ?_
          refine k_iconst d_KReader_outerItem_68 cI_3 ?_
          have hX45 : (¬ (σ13.1 16 19) = 3 ∧ ((σ13.1 16 20) = 0)) → OkI BF L (d + 1) 15 b_KReader_outerItem 1 0 89 [] [some (.inr 16)] σ13 (qv Q) := fun e47 => by
            have h := ipos e47 h
            refine k_aload_n d_KReader_outerItem_89 rfl ?_
            refine k_cvv [] d_KReader_outerItem_90 ml_15_414 rfl rfl ob_16 rfl (s_KReader_declaration hL (by omega)  h) (fun σ41 h => ?_)
            refine k_goto d_KReader_outerItem_93 rfl ?_
            exact k_sb (sb_n sb_nil) (hJ6 () _ h)
          have hY46 : ¬ (¬ (σ13.1 16 19) = 3 ∧ ((σ13.1 16 20) = 0)) → OkI BF L (d + 1) 15 b_KReader_outerItem 1 0 79 [] [some (.inr 16)] σ13 (qv Q) := fun e47 => by
            have h := ineg e47 h
            refine k_aload_n d_KReader_outerItem_79 rfl ?_
            refine k_bipush d_KReader_outerItem_80 cB_6 ?_
            refine k_cvi [.inl 6] d_KReader_outerItem_82 ml_15_392 rfl rfl ob_16 rfl (s_KReader_fail hL (by omega)  h) (fun v44 σ43 h => ?_)
            refine k_pop d_KReader_outerItem_85 ?_
            refine k_goto d_KReader_outerItem_86 rfl ?_
            exact k_sb (sb_n sb_nil) (hJ6 () _ h)
          refine k_iceq d_KReader_outerItem_69 rfl (fun c48 => ?_) (fun c48 => ?_)
          · exact hY46 (fun z => z.1 c48)
          · refine k_aload_n d_KReader_outerItem_72 rfl ?_
            refine k_getI (x := (σ13.1 16 20)) d_KReader_outerItem_73 fl_15_184 ob_16 rfl rfl ?_
            refine k_ifeq d_KReader_outerItem_76 rfl (fun c49 => ?_) (fun c49 => ?_)
            · exact hX45 (⟨c48, c49⟩)
            · exact hY46 (fun z => (c49) z.2)
      · have h := ineg c12 h
        refine k_aload_n d_KReader_outerItem_43 rfl ?_
        refine k_cvv [] d_KReader_outerItem_44 ml_15_409 rfl rfl ob_16 rfl (s_KReader_comment hL (by omega)  h) (fun σ50 h => ?_)
        refine k_goto d_KReader_outerItem_47 rfl ?_
        exact k_sb (sb_n sb_nil) (hJ6 () _ h)
    · have h := ineg c9 h
      refine k_aload_n d_KReader_outerItem_14 rfl ?_
      refine k_aload_n d_KReader_outerItem_15 rfl ?_
      refine k_aload_n d_KReader_outerItem_16 rfl ?_
      refine k_getI (x := (σ3.1 16 16)) d_KReader_outerItem_17 fl_15_379 ob_16 rfl rfl ?_
      refine k_cvi [.inl (σ3.1 16 16)] d_KReader_outerItem_20 ml_15_297 rfl rfl ob_16 rfl (s_KReader_anySpaces hL (by omega)  h) (fun v53 σ52 h => ?_)
      refine k_putI d_KReader_outerItem_23 fl_15_379 ob_16 rfl ?_
      refine k_goto d_KReader_outerItem_26 rfl ?_
      exact k_sb (sb_n sb_nil) (hJ6 () _ h)
theorem d_KReader_item_29 : decode b_KReader_item 29 = .ok (.aload_n 0, 1) := by decide +kernel
theorem d_KReader_item_30 : decode b_KReader_item 30 = .ok (.getfield 181, 3) := by decide +kernel
theorem d_KReader_item_33 : decode b_KReader_item 33 = .ok (.iconst 2, 1) := by decide +kernel
theorem d_KReader_item_34 : decode b_KReader_item 34 = .ok (.if_icmp .ne 31, 3) := by decide +kernel
theorem d_KReader_item_37 : decode b_KReader_item 37 = .ok (.aload_n 0, 1) := by decide +kernel
theorem d_KReader_item_38 : decode b_KReader_item 38 = .ok (.getfield 221, 3) := by decide +kernel
theorem d_KReader_item_41 : decode b_KReader_item 41 = .ok (.aload_n 0, 1) := by decide +kernel
theorem d_KReader_item_42 : decode b_KReader_item 42 = .ok (.getfield 57, 3) := by decide +kernel
theorem d_KReader_item_45 : decode b_KReader_item 45 = .ok (.aload_n 0, 1) := by decide +kernel
theorem d_KReader_item_46 : decode b_KReader_item 46 = .ok (.getfield 175, 3) := by decide +kernel
theorem d_KReader_item_49 : decode b_KReader_item 49 = .ok (.iconst 1, 1) := by decide +kernel
theorem d_KReader_item_50 : decode b_KReader_item 50 = .ok (.isub, 1) := by decide +kernel
theorem d_KReader_item_51 : decode b_KReader_item 51 = .ok (.iaload, 1) := by decide +kernel
theorem d_KReader_item_52 : decode b_KReader_item 52 = .ok (.if_icmp .eq 13, 3) := by decide +kernel
theorem d_KReader_item_55 : decode b_KReader_item 55 = .ok (.aload_n 0, 1) := by decide +kernel
theorem d_KReader_item_56 : decode b_KReader_item 56 = .ok (.bipush 14, 2) := by decide +kernel
theorem d_KReader_item_58 : decode b_KReader_item 58 = .ok (.invokevirtual 392, 3) := by decide +kernel
theorem d_KReader_item_61 : decode b_KReader_item 61 = .ok (.pop, 1) := by decide +kernel
theorem d_KReader_item_62 : decode b_KReader_item 62 = .ok (.goto 7, 3) := by decide +kernel
theorem d_KReader_item_65 : decode b_KReader_item 65 = .ok (.aload_n 0, 1) := by decide +kernel
theorem d_KReader_item_66 : decode b_KReader_item 66 = .ok (.invokevirtual 395, 3) := by decide +kernel
theorem d_KReader_item_70 : decode b_KReader_item 70 = .ok (.aload_n 0, 1) := by decide +kernel
theorem d_KReader_item_71 : decode b_KReader_item 71 = .ok (.getfield 181, 3) := by decide +kernel
theorem d_KReader_item_74 : decode b_KReader_item 74 = .ok (.iconst 1, 1) := by decide +kernel
theorem d_KReader_item_75 : decode b_KReader_item 75 = .ok (.if_icmp .ne 10, 3) := by decide +kernel
theorem d_KReader_item_78 : decode b_KReader_item 78 = .ok (.aload_n 0, 1) := by decide +kernel
theorem d_KReader_item_79 : decode b_KReader_item 79 = .ok (.invokevirtual 398, 3) := by decide +kernel
theorem d_KReader_item_82 : decode b_KReader_item 82 = .ok (.goto 22, 3) := by decide +kernel
theorem d_KReader_item_85 : decode b_KReader_item 85 = .ok (.aload_n 0, 1) := by decide +kernel
theorem d_KReader_item_86 : decode b_KReader_item 86 = .ok (.getfield 181, 3) := by decide +kernel
theorem d_KReader_item_89 : decode b_KReader_item 89 = .ok (.iconst 2, 1) := by decide +kernel
theorem d_KReader_item_90 : decode b_KReader_item 90 = .ok (.if_icmp .ne 10, 3) := by decide +kernel
theorem d_KReader_item_93 : decode b_KReader_item 93 = .ok (.aload_n 0, 1) := by decide +kernel
theorem d_KReader_item_94 : decode b_KReader_item 94 = .ok (.invokevirtual 401, 3) := by decide +kernel
theorem d_KReader_item_97 : decode b_KReader_item 97 = .ok (.goto 7, 3) := by decide +kernel
theorem d_KReader_item_100 : decode b_KReader_item 100 = .ok (.aload_n 0, 1) := by decide +kernel
theorem d_KReader_item_101 : decode b_KReader_item 101 = .ok (.invokevirtual 404, 3) := by decide +kernel
theorem d_KReader_item_104 : decode b_KReader_item 104 = .ok (.return_, 1) := by decide +kernel
/-- KReader_item -/
def w_KReader_item (L : Nat → Nat)  (Q : IS → Prop) (σ : IS) : Prop := if (σ.1 16 16) = (σ.1 16 17) then WJ (fun (s16 : Unit) (σ17 : IS) => Q σ17) (fun J14 => if (σ.1 16 14) = 1 then w_KReader_fail L 6 (fun v33 σ32 => J14 () σ32) σ else (((σ.1 16 19) = 2 → (inR ((σ.1 16 14) - 1) ∧ inL L 180 ((σ.1 16 14) - 1)))) ∧ if (σ.1 16 19) = 2 ∧ (¬ (σ.1 16 64) = (σ.2 180 (Int.toNat ((σ.1 16 14) - 1)))) then w_KReader_fail L 14 (fun v22 σ21 => J14 () σ21) σ else w_KReader_pop L  (fun σ23 => J14 () σ23) σ) else WJ (fun (s4 : Unit) (σ5 : IS) => Q σ5) (fun J2 => if (σ.1 16 19) = 1 then w_KReader_subsetItem L  (fun σ12 => J2 () σ12) σ else if (σ.1 16 19) = 2 then w_KReader_contentItem L  (fun σ10 => J2 () σ10) σ else w_KReader_outerItem L  (fun σ8 => J2 () σ8) σ)
set_option maxHeartbeats 4000000 in
set_option maxRecDepth 20000 in
theorem s_KReader_item {L : Nat → Nat} (hL : ∀ r, L r < 2147483648) {d : Nat} (hd : 77 ≤ d)  {Q : IS → Prop} {σ : IS}  (h : w_KReader_item L  Q σ) : OkI BF L d 15 b_KReader_item 1 0 0 [] [some (.inr 16)] σ (qv Q) := by
  unfold w_KReader_item at h
  obtain ⟨d, rfl⟩ : ∃ e, d = e + 1 := ⟨d - 1, by omega⟩
  refine k_sb (lv' := [some (.inr 16)]) (sb_s sb_nil) ?_
  refine k_aload_n d_KReader_item_0 rfl ?_
  refine k_getI (x := (σ.1 16 16)) d_KReader_item_1 fl_15_379 ob_16 rfl rfl ?_
  refine k_aload_n d_KReader_item_4 rfl ?_
  refine k_getI (x := (σ.1 16 17)) d_KReader_item_5 fl_15_273 ob_16 rfl rfl ?_
  refine k_icne d_KReader_item_8 rfl (fun c1 => ?_) (fun c1 => ?_)
  · have h := ineg c1 h
    refine k_aload_n d_KReader_item_70 rfl ?_
    refine k_getI (x := (σ.1 16 19)) d_KReader_item_71 fl_15_181 ob_16 rfl rfl ?_
    refine k_iconst d_KReader_item_74 cI_1 ?_
    refine k_join (S := Unit) (pc' := 104) (st' := fun s4 => []) (lv' := fun s4 => [none]) (fun s4 σ5 h => ?_) (fun J2 hJ3 h => ?_) h
    · exact k_ret d_KReader_item_104 h
    · refine k_icne d_KReader_item_75 rfl (fun c6 => ?_) (fun c6 => ?_)
      · have h := ineg c6 h
        refine k_aload_n d_KReader_item_85 rfl ?_
        refine k_getI (x := (σ.1 16 19)) d_KReader_item_86 fl_15_181 ob_16 rfl rfl ?_
        refine k_iconst d_KReader_item_89 cI_2 ?_
        refine k_icne d_KReader_item_90 rfl (fun c7 => ?_) (fun c7 => ?_)
        · have h := ineg c7 h
          refine k_aload_n d_KReader_item_100 rfl ?_
          refine k_cvv [] d_KReader_item_101 ml_15_404 rfl rfl ob_16 rfl (s_KReader_outerItem hL (by omega)  h) (fun σ8 h => ?_)
          exact k_sb (sb_n sb_nil) (hJ3 () _ h)
        · have h := ipos c7 h
          refine k_aload_n d_KReader_item_93 rfl ?_
          refine k_cvv [] d_KReader_item_94 ml_15_401 rfl rfl ob_16 rfl (s_KReader_contentItem hL (by omega)  h) (fun σ10 h => ?_)
          refine k_goto d_KReader_item_97 rfl ?_
          exact k_sb (sb_n sb_nil) (hJ3 () _ h)
      · have h := ipos c6 h
        refine k_aload_n d_KReader_item_78 rfl ?_
        refine k_cvv [] d_KReader_item_79 ml_15_398 rfl rfl ob_16 rfl (s_KReader_subsetItem hL (by omega)  h) (fun σ12 h => ?_)
        refine k_goto d_KReader_item_82 rfl ?_
        exact k_sb (sb_n sb_nil) (hJ3 () _ h)
  · have h := ipos c1 h
    refine k_aload_n d_KReader_item_11 rfl ?_
    refine k_getI (x := (σ.1 16 14)) d_KReader_item_12 fl_15_175 ob_16 rfl rfl ?_
    refine k_iconst d_KReader_item_15 cI_1 ?_
    refine k_join (S := Unit) (pc' := 69) (st' := fun s16 => []) (lv' := fun s16 => [none]) (fun s16 σ17 h => ?_) (fun J14 hJ15 h => ?_) h
    · exact k_ret d_KReader_item_69 h
    · refine k_icne d_KReader_item_16 rfl (fun c18 => ?_) (fun c18 => ?_)
      · have h := ineg c18 h
        refine k_aload_n d_KReader_item_29 rfl ?_
        refine k_getI (x := (σ.1 16 19)) d_KReader_item_30 fl_15_181 ob_16 rfl rfl ?_
        refine k_iconst d_KReader_item_33 cI_2 ?_
        obtain ⟨pt28, h⟩ := h
        have hX25 : ((σ.1 16 19) = 2 ∧ (¬ (σ.1 16 64) = (σ.2 180 (Int.toNat ((σ.1 16 14) - 1))))) → OkI BF L (d + 1) 15 b_KReader_item 1 0 55 [] [some (.inr 16)] σ (qv Q) := fun e27 => by
          have h := ipos e27 h
          refine k_aload_n d_KReader_item_55 rfl ?_
          refine k_bipush d_KReader_item_56 cB_14 ?_
          refine k_cvi [.inl 14] d_KReader_item_58 ml_15_392 rfl rfl ob_16 rfl (s_KReader_fail hL (by omega)  h) (fun v22 σ21 h => ?_)
          refine k_pop d_KReader_item_61 ?_
          refine k_goto d_KReader_item_62 rfl ?_
          exact k_sb (sb_n sb_nil) (hJ15 () _ h)
        have hY26 : ¬ ((σ.1 16 19) = 2 ∧ (¬ (σ.1 16 64) = (σ.2 180 (Int.toNat ((σ.1 16 14) - 1))))) → OkI BF L (d + 1) 15 b_KReader_item 1 0 65 [] [some (.inr 16)] σ (qv Q) := fun e27 => by
          have h := ineg e27 h
          refine k_aload_n d_KReader_item_65 rfl ?_
          refine k_cvv [] d_KReader_item_66 ml_15_395 rfl rfl ob_16 rfl (s_KReader_pop hL (by omega)  h) (fun σ23 h => ?_)
          exact k_sb (sb_n sb_nil) (hJ15 () _ h)
        have pa29 := pt28
        refine k_icne d_KReader_item_34 rfl (fun c30 => ?_) (fun c30 => ?_)
        · exact hY26 (fun z => c30 z.1)
        · have pa29 := pa29 c30
          obtain ⟨p19, p20⟩ := pa29
          refine k_aload_n d_KReader_item_37 rfl ?_
          refine k_getI (x := (σ.1 16 64)) d_KReader_item_38 fl_15_221 ob_16 rfl rfl ?_
          refine k_aload_n d_KReader_item_41 rfl ?_
          refine k_getR d_KReader_item_42 fl_15_57 ob_16 rfl ?_
          refine k_aload_n d_KReader_item_45 rfl ?_
          refine k_getI (x := (σ.1 16 14)) d_KReader_item_46 fl_15_175 ob_16 rfl rfl ?_
          refine k_iconst d_KReader_item_49 cI_1 ?_
          refine k_isub d_KReader_item_50 p19 ?_
          refine k_ild (x := (σ.2 180 (Int.toNat ((σ.1 16 14) - 1)))) d_KReader_item_51 rI_180 p20 rfl ?_
          refine k_iceq d_KReader_item_52 rfl (fun c31 => ?_) (fun c31 => ?_)
          · exact hY26 (fun z => (fun z => z c31) z.2)
          · exact hX25 (⟨c30, c31⟩)
      · have h := ipos c18 h
        refine k_aload_n d_KReader_item_19 rfl ?_
        refine k_bipush d_KReader_item_20 cB_6 ?_
        refine k_cvi [.inl 6] d_KReader_item_22 ml_15_392 rfl rfl ob_16 rfl (s_KReader_fail hL (by omega)  h) (fun v33 σ32 h => ?_)
        refine k_pop d_KReader_item_25 ?_
        refine k_goto d_KReader_item_26 rfl ?_
        exact k_sb (sb_n sb_nil) (hJ15 () _ h)
theorem d_KReader_lists_0 : decode b_KReader_lists 0 = .ok (.iconst 0, 1) := by decide +kernel
theorem d_KReader_lists_1 : decode b_KReader_lists 1 = .ok (.istore_n 1, 1) := by decide +kernel
theorem d_KReader_lists_2 : decode b_KReader_lists 2 = .ok (.iload_n 1, 1) := by decide +kernel
theorem d_KReader_lists_3 : decode b_KReader_lists 3 = .ok (.aload_n 0, 1) := by decide +kernel
theorem d_KReader_lists_4 : decode b_KReader_lists 4 = .ok (.getfield 215, 3) := by decide +kernel
theorem d_KReader_lists_7 : decode b_KReader_lists 7 = .ok (.if_icmp .ge 119, 3) := by decide +kernel
theorem d_KReader_lists_10 : decode b_KReader_lists 10 = .ok (.aload_n 0, 1) := by decide +kernel
theorem d_KReader_lists_11 : decode b_KReader_lists 11 = .ok (.getfield 120, 3) := by decide +kernel
theorem d_KReader_lists_14 : decode b_KReader_lists 14 = .ok (.iload_n 1, 1) := by decide +kernel
theorem d_KReader_lists_15 : decode b_KReader_lists 15 = .ok (.baload, 1) := by decide +kernel
theorem d_KReader_lists_16 : decode b_KReader_lists 16 = .ok (.bipush 8, 2) := by decide +kernel
theorem d_KReader_lists_18 : decode b_KReader_lists 18 = .ok (.if_icmp .ne 102, 3) := by decide +kernel
theorem d_KReader_lists_21 : decode b_KReader_lists 21 = .ok (.iconst 0, 1) := by decide +kernel
theorem d_KReader_lists_22 : decode b_KReader_lists 22 = .ok (.istore_n 2, 1) := by decide +kernel
theorem d_KReader_lists_23 : decode b_KReader_lists 23 = .ok (.iload_n 2, 1) := by decide +kernel
theorem d_KReader_lists_24 : decode b_KReader_lists 24 = .ok (.aload_n 0, 1) := by decide +kernel
theorem d_KReader_lists_25 : decode b_KReader_lists 25 = .ok (.getfield 135, 3) := by decide +kernel
theorem d_KReader_lists_28 : decode b_KReader_lists 28 = .ok (.iload_n 1, 1) := by decide +kernel
theorem d_KReader_lists_29 : decode b_KReader_lists 29 = .ok (.iaload, 1) := by decide +kernel
theorem d_KReader_lists_30 : decode b_KReader_lists 30 = .ok (.if_icmp .ge 47, 3) := by decide +kernel
theorem d_KReader_lists_33 : decode b_KReader_lists 33 = .ok (.aload_n 0, 1) := by decide +kernel
theorem d_KReader_lists_34 : decode b_KReader_lists 34 = .ok (.getfield 150, 3) := by decide +kernel
theorem d_KReader_lists_37 : decode b_KReader_lists 37 = .ok (.getfield 561, 3) := by decide +kernel
theorem d_KReader_lists_40 : decode b_KReader_lists 40 = .ok (.bipush 16, 2) := by decide +kernel
theorem d_KReader_lists_42 : decode b_KReader_lists 42 = .ok (.dup2, 1) := by decide +kernel
theorem d_KReader_lists_43 : decode b_KReader_lists 43 = .ok (.iaload, 1) := by decide +kernel
theorem d_KReader_lists_44 : decode b_KReader_lists 44 = .ok (.aload_n 0, 1) := by decide +kernel
theorem d_KReader_lists_45 : decode b_KReader_lists 45 = .ok (.aload_n 0, 1) := by decide +kernel
theorem d_KReader_lists_46 : decode b_KReader_lists 46 = .ok (.getfield 138, 3) := by decide +kernel
theorem d_KReader_lists_49 : decode b_KReader_lists 49 = .ok (.aload_n 0, 1) := by decide +kernel
theorem d_KReader_lists_50 : decode b_KReader_lists 50 = .ok (.getfield 132, 3) := by decide +kernel
theorem d_KReader_lists_53 : decode b_KReader_lists 53 = .ok (.iload_n 1, 1) := by decide +kernel
theorem d_KReader_lists_54 : decode b_KReader_lists 54 = .ok (.iaload, 1) := by decide +kernel
theorem d_KReader_lists_55 : decode b_KReader_lists 55 = .ok (.iload_n 2, 1) := by decide +kernel
theorem d_KReader_lists_56 : decode b_KReader_lists 56 = .ok (.iadd, 1) := by decide +kernel
theorem d_KReader_lists_57 : decode b_KReader_lists 57 = .ok (.iaload, 1) := by decide +kernel
theorem d_KReader_lists_58 : decode b_KReader_lists 58 = .ok (.invokevirtual 696, 3) := by decide +kernel
theorem d_KReader_lists_61 : decode b_KReader_lists 61 = .ok (.ifCond .eq 7, 3) := by decide +kernel
theorem d_KReader_lists_64 : decode b_KReader_lists 64 = .ok (.iconst 0, 1) := by decide +kernel
theorem d_KReader_lists_65 : decode b_KReader_lists 65 = .ok (.goto 4, 3) := by decide +kernel
theorem d_KReader_lists_68 : decode b_KReader_lists 68 = .ok (.iconst 1, 1) := by decide +kernel
theorem d_KReader_lists_69 : decode b_KReader_lists 69 = .ok (.iadd, 1) := by decide +kernel
theorem d_KReader_lists_70 : decode b_KReader_lists 70 = .ok (.iastore, 1) := by decide +kernel
theorem d_KReader_lists_71 : decode b_KReader_lists 71 = .ok (.iinc 2 1, 3) := by decide +kernel
theorem d_KReader_lists_74 : decode b_KReader_lists 74 = .ok (.goto (-51), 3) := by decide +kernel
theorem d_KReader_lists_77 : decode b_KReader_lists 77 = .ok (.aload_n 0, 1) := by decide +kernel
theorem d_KReader_lists_78 : decode b_KReader_lists 78 = .ok (.aload_n 0, 1) := by decide +kernel
theorem d_KReader_lists_79 : decode b_KReader_lists 79 = .ok (.getfield 114, 3) := by decide +kernel
theorem d_KReader_lists_82 : decode b_KReader_lists 82 = .ok (.iload_n 1, 1) := by decide +kernel
theorem d_KReader_lists_83 : decode b_KReader_lists 83 = .ok (.iaload, 1) := by decide +kernel
theorem d_KReader_lists_84 : decode b_KReader_lists 84 = .ok (.invokevirtual 558, 3) := by decide +kernel
theorem d_KReader_lists_87 : decode b_KReader_lists 87 = .ok (.istore_n 2, 1) := by decide +kernel
theorem d_KReader_lists_88 : decode b_KReader_lists 88 = .ok (.aload_n 0, 1) := by decide +kernel
theorem d_KReader_lists_89 : decode b_KReader_lists 89 = .ok (.getfield 150, 3) := by decide +kernel
theorem d_KReader_lists_92 : decode b_KReader_lists 92 = .ok (.getfield 561, 3) := by decide +kernel
theorem d_KReader_lists_95 : decode b_KReader_lists 95 = .ok (.bipush 18, 2) := by decide +kernel
theorem d_KReader_lists_97 : decode b_KReader_lists 97 = .ok (.dup2, 1) := by decide +kernel
theorem d_KReader_lists_98 : decode b_KReader_lists 98 = .ok (.iaload, 1) := by decide +kernel
theorem d_KReader_lists_99 : decode b_KReader_lists 99 = .ok (.iload_n 2, 1) := by decide +kernel
theorem d_KReader_lists_100 : decode b_KReader_lists 100 = .ok (.ifCond .lt 17, 3) := by decide +kernel
theorem d_KReader_lists_103 : decode b_KReader_lists 103 = .ok (.aload_n 0, 1) := by decide +kernel
theorem d_KReader_lists_104 : decode b_KReader_lists 104 = .ok (.getfield 87, 3) := by decide +kernel
theorem d_KReader_lists_107 : decode b_KReader_lists 107 = .ok (.iload_n 2, 1) := by decide +kernel
theorem d_KReader_lists_108 : decode b_KReader_lists 108 = .ok (.baload, 1) := by decide +kernel
theorem d_KReader_lists_109 : decode b_KReader_lists 109 = .ok (.iconst 1, 1) := by decide +kernel
theorem d_KReader_lists_110 : decode b_KReader_lists 110 = .ok (.if_icmp .ne 7, 3) := by decide +kernel
theorem d_KReader_lists_113 : decode b_KReader_lists 113 = .ok (.iconst 1, 1) := by decide +kernel
theorem d_KReader_lists_114 : decode b_KReader_lists 114 = .ok (.goto 4, 3) := by decide +kernel
theorem d_KReader_lists_117 : decode b_KReader_lists 117 = .ok (.iconst 0, 1) := by decide +kernel
theorem d_KReader_lists_118 : decode b_KReader_lists 118 = .ok (.iadd, 1) := by decide +kernel
theorem d_KReader_lists_119 : decode b_KReader_lists 119 = .ok (.iastore, 1) := by decide +kernel
theorem d_KReader_lists_120 : decode b_KReader_lists 120 = .ok (.iinc 1 1, 3) := by decide +kernel
theorem d_KReader_lists_123 : decode b_KReader_lists 123 = .ok (.goto (-121), 3) := by decide +kernel
theorem d_KReader_lists_126 : decode b_KReader_lists 126 = .ok (.return_, 1) := by decide +kernel
/-- KReader_lists -/
def w_KReader_lists (L : Nat → Nat)  (Q : IS → Prop) (σ : IS) : Prop := WL (fun (K1 : Int → IS → Prop) (s3 : Int) (σ4 : IS) => if s3 < (σ4.1 16 56) then inL L 201 s3 ∧ WJ (fun (s8 : Unit) (σ9 : IS) => inR (s3 + 1) ∧ K1 (s3 + 1) σ9) (fun J6 => if (σ4.2 201 (Int.toNat s3)) = 8 then WL (fun (K12 : Int → IS → Prop) (s14 : Int) (σ15 : IS) => inL L 206 s3 ∧ if s14 < (σ15.2 206 (Int.toNat s3)) then dyD (σ15.1 16 2) ∧ inL L (rfo (Int.toNat (σ15.1 16 2)) 18) 16 ∧ inL L 205 s3 ∧ inR ((σ15.2 205 (Int.toNat s3)) + s14) ∧ inL L 207 ((σ15.2 205 (Int.toNat s3)) + s14) ∧ w_KReader_isNotation L (σ15.2 207 (Int.toNat ((σ15.2 205 (Int.toNat s3)) + s14))) (fun v36 σ35 => inR ((σ15.2 (rfo (Int.toNat (σ15.1 16 2)) 18) (Int.toNat 16)) + (if v36 = 0 then (1 : Int) else (0 : Int))) ∧ inL L (rfo (Int.toNat (σ15.1 16 2)) 18) 16 ∧ inR (s14 + 1) ∧ K12 (s14 + 1) (pr σ35 (rfo (Int.toNat (σ15.1 16 2)) 18) (Int.toNat 16) ((σ15.2 (rfo (Int.toNat (σ15.1 16 2)) 18) (Int.toNat 16)) + (if v36 = 0 then (1 : Int) else (0 : Int))))) σ15 else inL L 199 s3 ∧ w_KReader_contentOf L (σ15.2 199 (Int.toNat s3)) (fun v18 σ17 => dyD (σ17.1 16 2) ∧ inL L (rfo (Int.toNat (σ17.1 16 2)) 18) 18 ∧ ((¬ v18 < 0 → inL L 190 v18)) ∧ inR ((σ17.2 (rfo (Int.toNat (σ17.1 16 2)) 18) (Int.toNat 18)) + (if v18 < 0 then (0 : Int) else (if (σ17.2 190 (Int.toNat v18)) = 1 then (1 : Int) else (0 : Int)))) ∧ inL L (rfo (Int.toNat (σ17.1 16 2)) 18) 18 ∧ J6 () (pr σ17 (rfo (Int.toNat (σ17.1 16 2)) 18) (Int.toNat 18) ((σ17.2 (rfo (Int.toNat (σ17.1 16 2)) 18) (Int.toNat 18)) + (if v18 < 0 then (0 : Int) else (if (σ17.2 190 (Int.toNat v18)) = 1 then (1 : Int) else (0 : Int)))))) σ15) 0 σ4 else J6 () σ4) else Q σ4) 0 σ
set_option maxHeartbeats 4000000 in
set_option maxRecDepth 20000 in
theorem s_KReader_lists {L : Nat → Nat} (hL : ∀ r, L r < 2147483648) {d : Nat} (hd : 1 ≤ d)  {Q : IS → Prop} {σ : IS}  (h : w_KReader_lists L  Q σ) : OkI BF L d 15 b_KReader_lists 3 0 0 [] [some (.inr 16)] σ (qv Q) := by
  unfold w_KReader_lists at h
  obtain ⟨d, rfl⟩ : ∃ e, d = e + 1 := ⟨d - 1, by omega⟩
  refine k_sb (lv' := [some (.inr 16), none, none]) (sb_s (sb_e (sb_e sb_nil))) ?_
  refine k_iconst d_KReader_lists_0 cI_0 ?_
  refine k_istore_n (lv' := [some (.inr 16), some (.inl 0), none]) d_KReader_lists_1 rfl rfl ?_
  refine k_sb (lv' := [some (.inr 16), some (.inl 0), none]) (sb_s (sb_s (sb_s sb_nil))) ?_
  refine k_loop (S := Int) (st := fun _ => []) (lv := fun s3 => [some (.inr 16), some (.inl s3), none]) (fun K1 hK2 s3 σ4 h => ?_) 0 _ h
  refine k_iload_n d_KReader_lists_2 rfl ?_
  refine k_aload_n d_KReader_lists_3 rfl ?_
  refine k_getI (x := (σ4.1 16 56)) d_KReader_lists_4 fl_15_215 ob_16 rfl rfl ?_
  refine k_icge d_KReader_lists_7 rfl (fun c5 => ?_) (fun c5 => ?_)
  · have h := ineg c5 h
    exact k_ret d_KReader_lists_126 h
  · have h := ipos c5 h
    refine k_aload_n d_KReader_lists_10 rfl ?_
    refine k_getR d_KReader_lists_11 fl_15_120 ob_16 rfl ?_
    refine k_iload_n d_KReader_lists_14 rfl ?_
    obtain ⟨p49, h⟩ := h
    refine k_bld (x := (σ4.2 201 (Int.toNat s3))) d_KReader_lists_15 rB_201 p49 rfl ?_
    refine k_bipush d_KReader_lists_16 cB_8 ?_
    refine k_join (S := Unit) (pc' := 120) (st' := fun s8 => []) (lv' := fun s8 => [some (.inr 16), some (.inl s3), none]) (fun s8 σ9 h => ?_) (fun J6 hJ7 h => ?_) h
    · obtain ⟨p10, h⟩ := h
      refine k_iinc (lv' := [some (.inr 16), some (.inl (s3 + 1)), none]) d_KReader_lists_120 cI_1 rfl rfl p10 rfl ?_
      refine k_goto d_KReader_lists_123 rfl ?_
      exact k_sb (sb_s (sb_s (sb_s sb_nil))) (hK2 (s3 + 1) _ h)
    · refine k_icne d_KReader_lists_18 rfl (fun c11 => ?_) (fun c11 => ?_)
      · have h := ineg c11 h
        exact k_sb (sb_s (sb_s (sb_s sb_nil))) (hJ7 () _ h)
      · have h := ipos c11 h
        refine k_iconst d_KReader_lists_21 cI_0 ?_
        refine k_istore_n (lv' := [some (.inr 16), some (.inl s3), some (.inl 0)]) d_KReader_lists_22 rfl rfl ?_
        refine k_sb (lv' := [some (.inr 16), some (.inl s3), some (.inl 0)]) (sb_s (sb_s (sb_s sb_nil))) ?_
        refine k_loop (S := Int) (st := fun _ => []) (lv := fun s14 => [some (.inr 16), some (.inl s3), some (.inl s14)]) (fun K12 hK13 s14 σ15 h => ?_) 0 _ h
        refine k_iload_n d_KReader_lists_23 rfl ?_
        refine k_aload_n d_KReader_lists_24 rfl ?_
        refine k_getR d_KReader_lists_25 fl_15_135 ob_16 rfl ?_
        refine k_iload_n d_KReader_lists_28 rfl ?_
        obtain ⟨p48, h⟩ := h
        refine k_ild (x := (σ15.2 206 (Int.toNat s3))) d_KReader_lists_29 rI_206 p48 rfl ?_
        refine k_icge d_KReader_lists_30 rfl (fun c16 => ?_) (fun c16 => ?_)
        · have h := ineg c16 h
          refine k_aload_n d_KReader_lists_77 rfl ?_
          refine k_aload_n d_KReader_lists_78 rfl ?_
          refine k_getR d_KReader_lists_79 fl_15_114 ob_16 rfl ?_
          refine k_iload_n d_KReader_lists_82 rfl ?_
          obtain ⟨p33, h⟩ := h
          refine k_ild (x := (σ15.2 199 (Int.toNat s3))) d_KReader_lists_83 rI_199 p33 rfl ?_
          refine k_cvi [.inl (σ15.2 199 (Int.toNat s3))] d_KReader_lists_84 ml_15_558 rfl rfl ob_16 rfl (s_KReader_contentOf hL (by omega)  h) (fun v18 σ17 h => ?_)
          refine k_istore_n (lv' := [some (.inr 16), some (.inl s3), some (.inl v18)]) d_KReader_lists_87 rfl rfl ?_
          refine k_aload_n d_KReader_lists_88 rfl ?_
          obtain ⟨y19, h⟩ := h
          refine k_getD (x := (σ17.1 16 2)) d_KReader_lists_89 fl_15_150 ob_16 rfl rfl (dyD_pos y19) ?_
          refine k_getR d_KReader_lists_92 fl_15_561 (doc_ob (dyD_doc y19)) (dfr_18 (dyD_doc y19)) ?_
          refine k_bipush d_KReader_lists_95 cB_18 ?_
          refine k_dup2 d_KReader_lists_97 ?_
          obtain ⟨p32, h⟩ := h
          refine k_ild (x := (σ17.2 (rfo (Int.toNat (σ17.1 16 2)) 18) (Int.toNat 18))) d_KReader_lists_98 (drI_18 (dyD_doc y19)) p32 rfl ?_
          refine k_iload_n d_KReader_lists_99 rfl ?_
          obtain ⟨pt24, h⟩ := h
          have hV23 : OkI BF L (d + 1) 15 b_KReader_lists 3 0 118 [.inl (if v18 < 0 then (0 : Int) else (if (σ17.2 190 (Int.toNat v18)) = 1 then (1 : Int) else (0 : Int))), .inl (σ17.2 (rfo (Int.toNat (σ17.1 16 2)) 18) (Int.toNat 18)), .inl 18, .inr (rfo (Int.toNat (σ17.1 16 2)) 18)] [some (.inr 16), some (.inl s3), some (.inl v18)] σ17 (qv Q) := by
            obtain ⟨p22, h⟩ := h
            refine k_iadd d_KReader_lists_118 p22 ?_
            obtain ⟨p21, h⟩ := h
            refine k_ist d_KReader_lists_119 (drI_18 (dyD_doc y19)) p21 ?_
            exact k_sb (sb_s (sb_s (sb_n sb_nil))) (hJ7 () _ h)
          have pb25 := pt24
          refine k_iflt d_KReader_lists_100 rfl (fun c26 => ?_) (fun c26 => ?_)
          · have hV27 := k_eqI (if_pos c26) hV23
            refine k_iconst d_KReader_lists_117 cI_0 ?_
            exact hV27
          · have pb25 := pb25 c26
            have hV28 := k_eqI (if_neg c26) hV23
            have p20 := pb25
            refine k_aload_n d_KReader_lists_103 rfl ?_
            refine k_getR d_KReader_lists_104 fl_15_87 ob_16 rfl ?_
            refine k_iload_n d_KReader_lists_107 rfl ?_
            refine k_bld (x := (σ17.2 190 (Int.toNat v18))) d_KReader_lists_108 rB_190 p20 rfl ?_
            refine k_iconst d_KReader_lists_109 cI_1 ?_
            refine k_icne d_KReader_lists_110 rfl (fun c29 => ?_) (fun c29 => ?_)
            · have hV31 := k_eqI (if_neg c29) hV28
              refine k_iconst d_KReader_lists_117 cI_0 ?_
              exact hV31
            · have hV30 := k_eqI (if_pos c29) hV28
              refine k_iconst d_KReader_lists_113 cI_1 ?_
              refine k_goto d_KReader_lists_114 rfl ?_
              exact hV30
        · have h := ipos c16 h
          refine k_aload_n d_KReader_lists_33 rfl ?_
          obtain ⟨y34, h⟩ := h
          refine k_getD (x := (σ15.1 16 2)) d_KReader_lists_34 fl_15_150 ob_16 rfl rfl (dyD_pos y34) ?_
          refine k_getR d_KReader_lists_37 fl_15_561 (doc_ob (dyD_doc y34)) (dfr_18 (dyD_doc y34)) ?_
          refine k_bipush d_KReader_lists_40 cB_16 ?_
          refine k_dup2 d_KReader_lists_42 ?_
          obtain ⟨p47, h⟩ := h
          refine k_ild (x := (σ15.2 (rfo (Int.toNat (σ15.1 16 2)) 18) (Int.toNat 16))) d_KReader_lists_43 (drI_18 (dyD_doc y34)) p47 rfl ?_
          refine k_aload_n d_KReader_lists_44 rfl ?_
          refine k_aload_n d_KReader_lists_45 rfl ?_
          refine k_getR d_KReader_lists_46 fl_15_138 ob_16 rfl ?_
          refine k_aload_n d_KReader_lists_49 rfl ?_
          refine k_getR d_KReader_lists_50 fl_15_132 ob_16 rfl ?_
          refine k_iload_n d_KReader_lists_53 rfl ?_
          obtain ⟨p46, h⟩ := h
          refine k_ild (x := (σ15.2 205 (Int.toNat s3))) d_KReader_lists_54 rI_205 p46 rfl ?_
          refine k_iload_n d_KReader_lists_55 rfl ?_
          obtain ⟨p45, h⟩ := h
          refine k_iadd d_KReader_lists_56 p45 ?_
          obtain ⟨p44, h⟩ := h
          refine k_ild (x := (σ15.2 207 (Int.toNat ((σ15.2 205 (Int.toNat s3)) + s14)))) d_KReader_lists_57 rI_207 p44 rfl ?_
          refine k_cvi [.inl (σ15.2 207 (Int.toNat ((σ15.2 205 (Int.toNat s3)) + s14)))] d_KReader_lists_58 ml_15_696 rfl rfl ob_16 rfl (s_KReader_isNotation hL (by omega)  h) (fun v36 σ35 h => ?_)
          have hV40 : OkI BF L (d + 1) 15 b_KReader_lists 3 0 69 [.inl (if v36 = 0 then (1 : Int) else (0 : Int)), .inl (σ15.2 (rfo (Int.toNat (σ15.1 16 2)) 18) (Int.toNat 16)), .inl 16, .inr (rfo (Int.toNat (σ15.1 16 2)) 18)] [some (.inr 16), some (.inl s3), some (.inl s14)] σ35 (qv Q) := by
            obtain ⟨p39, h⟩ := h
            refine k_iadd d_KReader_lists_69 p39 ?_
            obtain ⟨p38, h⟩ := h
            refine k_ist d_KReader_lists_70 (drI_18 (dyD_doc y34)) p38 ?_
            obtain ⟨p37, h⟩ := h
            refine k_iinc (lv' := [some (.inr 16), some (.inl s3), some (.inl (s14 + 1))]) d_KReader_lists_71 cI_1 rfl rfl p37 rfl ?_
            refine k_goto d_KReader_lists_74 rfl ?_
            exact k_sb (sb_s (sb_s (sb_s sb_nil))) (hK13 (s14 + 1) _ h)
          refine k_ifeq d_KReader_lists_61 rfl (fun c41 => ?_) (fun c41 => ?_)
          · have hV42 := k_eqI (if_pos c41) hV40
            refine k_iconst d_KReader_lists_68 cI_1 ?_
            exact hV42
          · have hV43 := k_eqI (if_neg c41) hV40
            refine k_iconst d_KReader_lists_64 cI_0 ?_
            refine k_goto d_KReader_lists_65 rfl ?_
            exact hV43
theorem d_KReader_wordsOf_0 : decode b_KReader_wordsOf 0 = .ok (.aload_n 0, 1) := by decide +kernel
theorem d_KReader_wordsOf_1 : decode b_KReader_wordsOf 1 = .ok (.getfield 150, 3) := by decide +kernel
theorem d_KReader_wordsOf_4 : decode b_KReader_wordsOf 4 = .ok (.getfield 775, 3) := by decide +kernel
theorem d_KReader_wordsOf_7 : decode b_KReader_wordsOf 7 = .ok (.iload_n 1, 1) := by decide +kernel
theorem d_KReader_wordsOf_8 : decode b_KReader_wordsOf 8 = .ok (.iaload, 1) := by decide +kernel
theorem d_KReader_wordsOf_9 : decode b_KReader_wordsOf 9 = .ok (.istore_n 3, 1) := by decide +kernel
theorem d_KReader_wordsOf_10 : decode b_KReader_wordsOf 10 = .ok (.iload_n 3, 1) := by decide +kernel
theorem d_KReader_wordsOf_11 : decode b_KReader_wordsOf 11 = .ok (.aload_n 0, 1) := by decide +kernel
theorem d_KReader_wordsOf_12 : decode b_KReader_wordsOf 12 = .ok (.getfield 150, 3) := by decide +kernel
theorem d_KReader_wordsOf_15 : decode b_KReader_wordsOf 15 = .ok (.getfield 778, 3) := by decide +kernel
theorem d_KReader_wordsOf_18 : decode b_KReader_wordsOf 18 = .ok (.iload_n 1, 1) := by decide +kernel
theorem d_KReader_wordsOf_19 : decode b_KReader_wordsOf 19 = .ok (.iaload, 1) := by decide +kernel
theorem d_KReader_wordsOf_20 : decode b_KReader_wordsOf 20 = .ok (.iadd, 1) := by decide +kernel
theorem d_KReader_wordsOf_21 : decode b_KReader_wordsOf 21 = .ok (.istore 4, 2) := by decide +kernel
theorem d_KReader_wordsOf_23 : decode b_KReader_wordsOf 23 = .ok (.iload_n 3, 1) := by decide +kernel
theorem d_KReader_wordsOf_24 : decode b_KReader_wordsOf 24 = .ok (.istore 5, 2) := by decide +kernel
theorem d_KReader_wordsOf_26 : decode b_KReader_wordsOf 26 = .ok (.iload 5, 2) := by decide +kernel
theorem d_KReader_wordsOf_28 : decode b_KReader_wordsOf 28 = .ok (.iload 4, 2) := by decide +kernel
theorem d_KReader_wordsOf_30 : decode b_KReader_wordsOf 30 = .ok (.if_icmp .gt 116, 3) := by decide +kernel
theorem d_KReader_wordsOf_33 : decode b_KReader_wordsOf 33 = .ok (.iload 5, 2) := by decide +kernel
theorem d_KReader_wordsOf_35 : decode b_KReader_wordsOf 35 = .ok (.iload 4, 2) := by decide +kernel
theorem d_KReader_wordsOf_37 : decode b_KReader_wordsOf 37 = .ok (.if_icmp .eq 18, 3) := by decide +kernel
theorem d_KReader_wordsOf_40 : decode b_KReader_wordsOf 40 = .ok (.aload_n 0, 1) := by decide +kernel
theorem d_KReader_wordsOf_41 : decode b_KReader_wordsOf 41 = .ok (.getfield 150, 3) := by decide +kernel
theorem d_KReader_wordsOf_44 : decode b_KReader_wordsOf 44 = .ok (.getfield 806, 3) := by decide +kernel
theorem d_KReader_wordsOf_47 : decode b_KReader_wordsOf 47 = .ok (.iload 5, 2) := by decide +kernel
theorem d_KReader_wordsOf_49 : decode b_KReader_wordsOf 49 = .ok (.iaload, 1) := by decide +kernel
theorem d_KReader_wordsOf_50 : decode b_KReader_wordsOf 50 = .ok (.bipush 32, 2) := by decide +kernel
theorem d_KReader_wordsOf_52 : decode b_KReader_wordsOf 52 = .ok (.if_icmp .ne 88, 3) := by decide +kernel
theorem d_KReader_wordsOf_55 : decode b_KReader_wordsOf 55 = .ok (.iload 5, 2) := by decide +kernel
theorem d_KReader_wordsOf_57 : decode b_KReader_wordsOf 57 = .ok (.iload_n 3, 1) := by decide +kernel
theorem d_KReader_wordsOf_58 : decode b_KReader_wordsOf 58 = .ok (.if_icmp .le 77, 3) := by decide +kernel
theorem d_KReader_wordsOf_61 : decode b_KReader_wordsOf 61 = .ok (.iload_n 2, 1) := by decide +kernel
theorem d_KReader_wordsOf_62 : decode b_KReader_wordsOf 62 = .ok (.ifCond .eq 7, 3) := by decide +kernel
theorem d_KReader_wordsOf_65 : decode b_KReader_wordsOf 65 = .ok (.iconst (-1), 1) := by decide +kernel
theorem d_KReader_wordsOf_66 : decode b_KReader_wordsOf 66 = .ok (.goto 25, 3) := by decide +kernel
theorem d_KReader_wordsOf_69 : decode b_KReader_wordsOf 69 = .ok (.aload_n 0, 1) := by decide +kernel
theorem d_KReader_wordsOf_70 : decode b_KReader_wordsOf 70 = .ok (.getfield 150, 3) := by decide +kernel
theorem d_KReader_wordsOf_73 : decode b_KReader_wordsOf 73 = .ok (.getfield 227, 3) := by decide +kernel
theorem d_KReader_wordsOf_76 : decode b_KReader_wordsOf 76 = .ok (.aload_n 0, 1) := by decide +kernel
theorem d_KReader_wordsOf_77 : decode b_KReader_wordsOf 77 = .ok (.getfield 150, 3) := by decide +kernel
theorem d_KReader_wordsOf_80 : decode b_KReader_wordsOf 80 = .ok (.getfield 806, 3) := by decide +kernel
theorem d_KReader_wordsOf_83 : decode b_KReader_wordsOf 83 = .ok (.iload_n 3, 1) := by decide +kernel
theorem d_KReader_wordsOf_84 : decode b_KReader_wordsOf 84 = .ok (.iload 5, 2) := by decide +kernel
theorem d_KReader_wordsOf_86 : decode b_KReader_wordsOf 86 = .ok (.iload_n 3, 1) := by decide +kernel
theorem d_KReader_wordsOf_87 : decode b_KReader_wordsOf 87 = .ok (.isub, 1) := by decide +kernel
theorem d_KReader_wordsOf_88 : decode b_KReader_wordsOf 88 = .ok (.invokevirtual 529, 3) := by decide +kernel
theorem d_KReader_wordsOf_91 : decode b_KReader_wordsOf 91 = .ok (.istore 6, 2) := by decide +kernel
theorem d_KReader_wordsOf_93 : decode b_KReader_wordsOf 93 = .ok (.aload_n 0, 1) := by decide +kernel
theorem d_KReader_wordsOf_94 : decode b_KReader_wordsOf 94 = .ok (.getfield 150, 3) := by decide +kernel
theorem d_KReader_wordsOf_97 : decode b_KReader_wordsOf 97 = .ok (.getfield 561, 3) := by decide +kernel
theorem d_KReader_wordsOf_100 : decode b_KReader_wordsOf 100 = .ok (.iload_n 2, 1) := by decide +kernel
theorem d_KReader_wordsOf_101 : decode b_KReader_wordsOf 101 = .ok (.ifCond .eq 8, 3) := by decide +kernel
theorem d_KReader_wordsOf_104 : decode b_KReader_wordsOf 104 = .ok (.bipush 21, 2) := by decide +kernel
theorem d_KReader_wordsOf_106 : decode b_KReader_wordsOf 106 = .ok (.goto 5, 3) := by decide +kernel
theorem d_KReader_wordsOf_109 : decode b_KReader_wordsOf 109 = .ok (.bipush 12, 2) := by decide +kernel
theorem d_KReader_wordsOf_111 : decode b_KReader_wordsOf 111 = .ok (.dup2, 1) := by decide +kernel
theorem d_KReader_wordsOf_112 : decode b_KReader_wordsOf 112 = .ok (.iaload, 1) := by decide +kernel
theorem d_KReader_wordsOf_113 : decode b_KReader_wordsOf 113 = .ok (.iload 6, 2) := by decide +kernel
theorem d_KReader_wordsOf_115 : decode b_KReader_wordsOf 115 = .ok (.ifCond .lt 13, 3) := by decide +kernel
theorem d_KReader_wordsOf_118 : decode b_KReader_wordsOf 118 = .ok (.aload_n 0, 1) := by decide +kernel
theorem d_KReader_wordsOf_119 : decode b_KReader_wordsOf 119 = .ok (.getfield 81, 3) := by decide +kernel
theorem d_KReader_wordsOf_122 : decode b_KReader_wordsOf 122 = .ok (.iload 6, 2) := by decide +kernel
theorem d_KReader_wordsOf_124 : decode b_KReader_wordsOf 124 = .ok (.baload, 1) := by decide +kernel
theorem d_KReader_wordsOf_125 : decode b_KReader_wordsOf 125 = .ok (.ifCond .ne 7, 3) := by decide +kernel
theorem d_KReader_wordsOf_128 : decode b_KReader_wordsOf 128 = .ok (.iconst 1, 1) := by decide +kernel
theorem d_KReader_wordsOf_129 : decode b_KReader_wordsOf 129 = .ok (.goto 4, 3) := by decide +kernel
theorem d_KReader_wordsOf_132 : decode b_KReader_wordsOf 132 = .ok (.iconst 0, 1) := by decide +kernel
theorem d_KReader_wordsOf_133 : decode b_KReader_wordsOf 133 = .ok (.iadd, 1) := by decide +kernel
theorem d_KReader_wordsOf_134 : decode b_KReader_wordsOf 134 = .ok (.iastore, 1) := by decide +kernel
theorem d_KReader_wordsOf_135 : decode b_KReader_wordsOf 135 = .ok (.iload 5, 2) := by decide +kernel
theorem d_KReader_wordsOf_137 : decode b_KReader_wordsOf 137 = .ok (.iconst 1, 1) := by decide +kernel
theorem d_KReader_wordsOf_138 : decode b_KReader_wordsOf 138 = .ok (.iadd, 1) := by decide +kernel
theorem d_KReader_wordsOf_139 : decode b_KReader_wordsOf 139 = .ok (.istore_n 3, 1) := by decide +kernel
theorem d_KReader_wordsOf_140 : decode b_KReader_wordsOf 140 = .ok (.iinc 5 1, 3) := by decide +kernel
theorem d_KReader_wordsOf_143 : decode b_KReader_wordsOf 143 = .ok (.goto (-117), 3) := by decide +kernel
theorem d_KReader_wordsOf_146 : decode b_KReader_wordsOf 146 = .ok (.return_, 1) := by decide +kernel
/-- KReader_wordsOf -/
def w_KReader_wordsOf (L : Nat → Nat) (a1 : Int) (a2 : Int) (Q : IS → Prop) (σ : IS) : Prop := dyD (σ.1 16 2) ∧ inL L (rfo (Int.toNat (σ.1 16 2)) 9) a1 ∧ inL L (rfo (Int.toNat (σ.1 16 2)) 10) a1 ∧ inR ((σ.2 (rfo (Int.toNat (σ.1 16 2)) 9) (Int.toNat a1)) + (σ.2 (rfo (Int.toNat (σ.1 16 2)) 10) (Int.toNat a1))) ∧ WL (fun (K2 : Int × Int → IS → Prop) (s4 : Int × Int) (σ5 : IS) => if ((σ.2 (rfo (Int.toNat (σ.1 16 2)) 9) (Int.toNat a1)) + (σ.2 (rfo (Int.toNat (σ.1 16 2)) 10) (Int.toNat a1))) < s4.2 then Q σ5 else WJ (fun (s9 : Int) (σ10 : IS) => inR (s4.2 + 1) ∧ K2 (s9, (s4.2 + 1)) σ10) (fun J7 => ((¬ s4.2 = ((σ.2 (rfo (Int.toNat (σ.1 16 2)) 9) (Int.toNat a1)) + (σ.2 (rfo (Int.toNat (σ.1 16 2)) 10) (Int.toNat a1))) → (dyD (σ5.1 16 2) ∧ inL L (rfo (Int.toNat (σ5.1 16 2)) 1) s4.2))) ∧ if s4.2 = ((σ.2 (rfo (Int.toNat (σ.1 16 2)) 9) (Int.toNat a1)) + (σ.2 (rfo (Int.toNat (σ.1 16 2)) 10) (Int.toNat a1))) ∨ ((σ5.2 (rfo (Int.toNat (σ5.1 16 2)) 1) (Int.toNat s4.2)) = 32) then WJ (fun (s16 : Unit) (σ17 : IS) => inR (s4.2 + 1) ∧ J7 (s4.2 + 1) σ17) (fun J14 => if s4.1 < s4.2 then WJ (fun (s22 : Int) (σ23 : IS) => dyD (σ23.1 16 2) ∧ inL L (rfo (Int.toNat (σ23.1 16 2)) 18) (if a2 = 0 then (12 : Int) else (21 : Int)) ∧ ((¬ s22 < 0 → inL L 188 s22)) ∧ inR ((σ23.2 (rfo (Int.toNat (σ23.1 16 2)) 18) (Int.toNat (if a2 = 0 then (12 : Int) else (21 : Int)))) + (if s22 < 0 then (1 : Int) else (if (σ23.2 188 (Int.toNat s22)) = 0 then (1 : Int) else (0 : Int)))) ∧ inL L (rfo (Int.toNat (σ23.1 16 2)) 18) (if a2 = 0 then (12 : Int) else (21 : Int)) ∧ J14 () (pr σ23 (rfo (Int.toNat (σ23.1 16 2)) 18) (Int.toNat (if a2 = 0 then (12 : Int) else (21 : Int))) ((σ23.2 (rfo (Int.toNat (σ23.1 16 2)) 18) (Int.toNat (if a2 = 0 then (12 : Int) else (21 : Int)))) + (if s22 < 0 then (1 : Int) else (if (σ23.2 188 (Int.toNat s22)) = 0 then (1 : Int) else (0 : Int)))))) (fun J20 => if a2 = 0 then dyD (σ5.1 16 2) ∧ inR (s4.2 - s4.1) ∧ w_KBook_find L (rfo (Int.toNat (σ5.1 16 2)) 1) s4.1 (s4.2 - s4.1) (fun v45 σ44 => J20 v45 σ44) σ5 else J20 (-1) σ5) else J14 () σ5) else J7 s4.1 σ5)) ((σ.2 (rfo (Int.toNat (σ.1 16 2)) 9) (Int.toNat a1)), (σ.2 (rfo (Int.toNat (σ.1 16 2)) 9) (Int.toNat a1))) σ
set_option maxHeartbeats 4000000 in
set_option maxRecDepth 20000 in
theorem s_KReader_wordsOf {L : Nat → Nat} (hL : ∀ r, L r < 2147483648) {d : Nat} (hd : 2 ≤ d) {a1 : Int} {a2 : Int} {Q : IS → Prop} {σ : IS}  (h : w_KReader_wordsOf L a1 a2 Q σ) : OkI BF L d 15 b_KReader_wordsOf 7 0 0 [] [some (.inr 16), some (.inl a1), some (.inl a2)] σ (qv Q) := by
  unfold w_KReader_wordsOf at h
  obtain ⟨d, rfl⟩ : ∃ e, d = e + 1 := ⟨d - 1, by omega⟩
  refine k_sb (lv' := [some (.inr 16), some (.inl a1), some (.inl a2), none, none, none, none]) (sb_s (sb_s (sb_s (sb_e (sb_e (sb_e (sb_e sb_nil))))))) ?_
  refine k_aload_n d_KReader_wordsOf_0 rfl ?_
  obtain ⟨y1, h⟩ := h
  refine k_getD (x := (σ.1 16 2)) d_KReader_wordsOf_1 fl_15_150 ob_16 rfl rfl (dyD_pos y1) ?_
  refine k_getR d_KReader_wordsOf_4 fl_15_775 (doc_ob (dyD_doc y1)) (dfr_9 (dyD_doc y1)) ?_
  refine k_iload_n d_KReader_wordsOf_7 rfl ?_
  obtain ⟨p56, h⟩ := h
  refine k_ild (x := (σ.2 (rfo (Int.toNat (σ.1 16 2)) 9) (Int.toNat a1))) d_KReader_wordsOf_8 (drI_9 (dyD_doc y1)) p56 rfl ?_
  refine k_istore_n (lv' := [some (.inr 16), some (.inl a1), some (.inl a2), some (.inl (σ.2 (rfo (Int.toNat (σ.1 16 2)) 9) (Int.toNat a1))), none, none, none]) d_KReader_wordsOf_9 rfl rfl ?_
  refine k_iload_n d_KReader_wordsOf_10 rfl ?_
  refine k_aload_n d_KReader_wordsOf_11 rfl ?_
  refine k_getD (x := (σ.1 16 2)) d_KReader_wordsOf_12 fl_15_150 ob_16 rfl rfl (dyD_pos y1) ?_
  refine k_getR d_KReader_wordsOf_15 fl_15_778 (doc_ob (dyD_doc y1)) (dfr_10 (dyD_doc y1)) ?_
  refine k_iload_n d_KReader_wordsOf_18 rfl ?_
  obtain ⟨p55, h⟩ := h
  refine k_ild (x := (σ.2 (rfo (Int.toNat (σ.1 16 2)) 10) (Int.toNat a1))) d_KReader_wordsOf_19 (drI_10 (dyD_doc y1)) p55 rfl ?_
  obtain ⟨p54, h⟩ := h
  refine k_iadd d_KReader_wordsOf_20 p54 ?_
  refine k_istore (lv' := [some (.inr 16), some (.inl a1), some (.inl a2), some (.inl (σ.2 (rfo (Int.toNat (σ.1 16 2)) 9) (Int.toNat a1))), some (.inl ((σ.2 (rfo (Int.toNat (σ.1 16 2)) 9) (Int.toNat a1)) + (σ.2 (rfo (Int.toNat (σ.1 16 2)) 10) (Int.toNat a1)))), none, none]) d_KReader_wordsOf_21 rfl rfl ?_
  refine k_iload_n d_KReader_wordsOf_23 rfl ?_
  refine k_istore (lv' := [some (.inr 16), some (.inl a1), some (.inl a2), some (.inl (σ.2 (rfo (Int.toNat (σ.1 16 2)) 9) (Int.toNat a1))), some (.inl ((σ.2 (rfo (Int.toNat (σ.1 16 2)) 9) (Int.toNat a1)) + (σ.2 (rfo (Int.toNat (σ.1 16 2)) 10) (Int.toNat a1)))), some (.inl (σ.2 (rfo (Int.toNat (σ.1 16 2)) 9) (Int.toNat a1))), none]) d_KReader_wordsOf_24 rfl rfl ?_
  refine k_sb (lv' := [some (.inr 16), none, some (.inl a2), some (.inl (σ.2 (rfo (Int.toNat (σ.1 16 2)) 9) (Int.toNat a1))), some (.inl ((σ.2 (rfo (Int.toNat (σ.1 16 2)) 9) (Int.toNat a1)) + (σ.2 (rfo (Int.toNat (σ.1 16 2)) 10) (Int.toNat a1)))), some (.inl (σ.2 (rfo (Int.toNat (σ.1 16 2)) 9) (Int.toNat a1))), none]) (sb_s (sb_n (sb_s (sb_s (sb_s (sb_s (sb_s sb_nil))))))) ?_
  refine k_loop (S := Int × Int) (st := fun _ => []) (lv := fun s4 => [some (.inr 16), none, some (.inl a2), some (.inl s4.1), some (.inl ((σ.2 (rfo (Int.toNat (σ.1 16 2)) 9) (Int.toNat a1)) + (σ.2 (rfo (Int.toNat (σ.1 16 2)) 10) (Int.toNat a1)))), some (.inl s4.2), none]) (fun K2 hK3 s4 σ5 h => ?_) ((σ.2 (rfo (Int.toNat (σ.1 16 2)) 9) (Int.toNat a1)), (σ.2 (rfo (Int.toNat (σ.1 16 2)) 9) (Int.toNat a1))) _ h
  refine k_iload d_KReader_wordsOf_26 rfl ?_
  refine k_iload d_KReader_wordsOf_28 rfl ?_
  refine k_icgt d_KReader_wordsOf_30 rfl (fun c6 => ?_) (fun c6 => ?_)
  · have h := ipos c6 h
    exact k_ret d_KReader_wordsOf_146 h
  · have h := ineg c6 h
    refine k_iload d_KReader_wordsOf_33 rfl ?_
    refine k_iload d_KReader_wordsOf_35 rfl ?_
    refine k_join (S := Int) (pc' := 140) (st' := fun s9 => []) (lv' := fun s9 => [some (.inr 16), none, some (.inl a2), some (.inl s9), some (.inl ((σ.2 (rfo (Int.toNat (σ.1 16 2)) 9) (Int.toNat a1)) + (σ.2 (rfo (Int.toNat (σ.1 16 2)) 10) (Int.toNat a1)))), some (.inl s4.2), none]) (fun s9 σ10 h => ?_) (fun J7 hJ8 h => ?_) h
    · obtain ⟨p11, h⟩ := h
      refine k_iinc (lv' := [some (.inr 16), none, some (.inl a2), some (.inl s9), some (.inl ((σ.2 (rfo (Int.toNat (σ.1 16 2)) 9) (Int.toNat a1)) + (σ.2 (rfo (Int.toNat (σ.1 16 2)) 10) (Int.toNat a1)))), some (.inl (s4.2 + 1)), none]) d_KReader_wordsOf_140 cI_1 rfl rfl p11 rfl ?_
      refine k_goto d_KReader_wordsOf_143 rfl ?_
      exact k_sb (sb_s (sb_s (sb_s (sb_s (sb_s (sb_s (sb_s sb_nil))))))) (hK3 (s9, (s4.2 + 1)) _ h)
    · obtain ⟨pt50, h⟩ := h
      have hX47 : (s4.2 = ((σ.2 (rfo (Int.toNat (σ.1 16 2)) 9) (Int.toNat a1)) + (σ.2 (rfo (Int.toNat (σ.1 16 2)) 10) (Int.toNat a1))) ∨ ((σ5.2 (rfo (Int.toNat (σ5.1 16 2)) 1) (Int.toNat s4.2)) = 32)) → OkI BF L (d + 1) 15 b_KReader_wordsOf 7 0 55 [] [some (.inr 16), none, some (.inl a2), some (.inl s4.1), some (.inl ((σ.2 (rfo (Int.toNat (σ.1 16 2)) 9) (Int.toNat a1)) + (σ.2 (rfo (Int.toNat (σ.1 16 2)) 10) (Int.toNat a1)))), some (.inl s4.2), none] σ5 (qv Q) := fun e49 => by
        have h := ipos e49 h
        refine k_iload d_KReader_wordsOf_55 rfl ?_
        refine k_iload_n d_KReader_wordsOf_57 rfl ?_
        refine k_join (S := Unit) (pc' := 135) (st' := fun s16 => []) (lv' := fun s16 => [some (.inr 16), none, some (.inl a2), none, some (.inl ((σ.2 (rfo (Int.toNat (σ.1 16 2)) 9) (Int.toNat a1)) + (σ.2 (rfo (Int.toNat (σ.1 16 2)) 10) (Int.toNat a1)))), some (.inl s4.2), none]) (fun s16 σ17 h => ?_) (fun J14 hJ15 h => ?_) h
        · refine k_iload d_KReader_wordsOf_135 rfl ?_
          refine k_iconst d_KReader_wordsOf_137 cI_1 ?_
          obtain ⟨p18, h⟩ := h
          refine k_iadd d_KReader_wordsOf_138 p18 ?_
          refine k_istore_n (lv' := [some (.inr 16), none, some (.inl a2), some (.inl (s4.2 + 1)), some (.inl ((σ.2 (rfo (Int.toNat (σ.1 16 2)) 9) (Int.toNat a1)) + (σ.2 (rfo (Int.toNat (σ.1 16 2)) 10) (Int.toNat a1)))), some (.inl s4.2), none]) d_KReader_wordsOf_139 rfl rfl ?_
          exact k_sb (sb_s (sb_s (sb_s (sb_s (sb_s (sb_s (sb_s sb_nil))))))) (hJ8 (s4.2 + 1) _ h)
        · refine k_icle d_KReader_wordsOf_58 rfl (fun c19 => ?_) (fun c19 => ?_)
          · have h := ineg c19 h
            exact k_sb (sb_s (sb_s (sb_s (sb_n (sb_s (sb_s (sb_s sb_nil))))))) (hJ15 () _ h)
          · have h := ipos c19 h
            refine k_iload_n d_KReader_wordsOf_61 rfl ?_
            refine k_join (S := Int) (pc' := 91) (st' := fun s22 => [.inl s22]) (lv' := fun s22 => [some (.inr 16), none, some (.inl a2), none, some (.inl ((σ.2 (rfo (Int.toNat (σ.1 16 2)) 9) (Int.toNat a1)) + (σ.2 (rfo (Int.toNat (σ.1 16 2)) 10) (Int.toNat a1)))), some (.inl s4.2), none]) (fun s22 σ23 h => ?_) (fun J20 hJ21 h => ?_) h
            · refine k_istore (lv' := [some (.inr 16), none, some (.inl a2), none, some (.inl ((σ.2 (rfo (Int.toNat (σ.1 16 2)) 9) (Int.toNat a1)) + (σ.2 (rfo (Int.toNat (σ.1 16 2)) 10) (Int.toNat a1)))), some (.inl s4.2), some (.inl s22)]) d_KReader_wordsOf_91 rfl rfl ?_
              refine k_aload_n d_KReader_wordsOf_93 rfl ?_
              obtain ⟨y24, h⟩ := h
              refine k_getD (x := (σ23.1 16 2)) d_KReader_wordsOf_94 fl_15_150 ob_16 rfl rfl (dyD_pos y24) ?_
              refine k_getR d_KReader_wordsOf_97 fl_15_561 (doc_ob (dyD_doc y24)) (dfr_18 (dyD_doc y24)) ?_
              refine k_iload_n d_KReader_wordsOf_100 rfl ?_
              have hV38 : OkI BF L (d + 1) 15 b_KReader_wordsOf 7 0 111 [.inl (if a2 = 0 then (12 : Int) else (21 : Int)), .inr (rfo (Int.toNat (σ23.1 16 2)) 18)] [some (.inr 16), none, some (.inl a2), none, some (.inl ((σ.2 (rfo (Int.toNat (σ.1 16 2)) 9) (Int.toNat a1)) + (σ.2 (rfo (Int.toNat (σ.1 16 2)) 10) (Int.toNat a1)))), some (.inl s4.2), some (.inl s22)] σ23 (qv Q) := by
                refine k_dup2 d_KReader_wordsOf_111 ?_
                obtain ⟨p37, h⟩ := h
                refine k_ild (x := (σ23.2 (rfo (Int.toNat (σ23.1 16 2)) 18) (Int.toNat (if a2 = 0 then (12 : Int) else (21 : Int))))) d_KReader_wordsOf_112 (drI_18 (dyD_doc y24)) p37 rfl ?_
                refine k_iload d_KReader_wordsOf_113 rfl ?_
                obtain ⟨pt29, h⟩ := h
                have hV28 : OkI BF L (d + 1) 15 b_KReader_wordsOf 7 0 133 [.inl (if s22 < 0 then (1 : Int) else (if (σ23.2 188 (Int.toNat s22)) = 0 then (1 : Int) else (0 : Int))), .inl (σ23.2 (rfo (Int.toNat (σ23.1 16 2)) 18) (Int.toNat (if a2 = 0 then (12 : Int) else (21 : Int)))), .inl (if a2 = 0 then (12 : Int) else (21 : Int)), .inr (rfo (Int.toNat (σ23.1 16 2)) 18)] [some (.inr 16), none, some (.inl a2), none, some (.inl ((σ.2 (rfo (Int.toNat (σ.1 16 2)) 9) (Int.toNat a1)) + (σ.2 (rfo (Int.toNat (σ.1 16 2)) 10) (Int.toNat a1)))), some (.inl s4.2), some (.inl s22)] σ23 (qv Q) := by
                  obtain ⟨p27, h⟩ := h
                  refine k_iadd d_KReader_wordsOf_133 p27 ?_
                  obtain ⟨p26, h⟩ := h
                  refine k_ist d_KReader_wordsOf_134 (drI_18 (dyD_doc y24)) p26 ?_
                  exact k_sb (sb_s (sb_s (sb_s (sb_s (sb_s (sb_s (sb_n sb_nil))))))) (hJ15 () _ h)
                have pb30 := pt29
                refine k_iflt d_KReader_wordsOf_115 rfl (fun c31 => ?_) (fun c31 => ?_)
                · have hV32 := k_eqI (if_pos c31) hV28
                  refine k_iconst d_KReader_wordsOf_128 cI_1 ?_
                  refine k_goto d_KReader_wordsOf_129 rfl ?_
                  exact hV32
                · have pb30 := pb30 c31
                  have hV33 := k_eqI (if_neg c31) hV28
                  have p25 := pb30
                  refine k_aload_n d_KReader_wordsOf_118 rfl ?_
                  refine k_getR d_KReader_wordsOf_119 fl_15_81 ob_16 rfl ?_
                  refine k_iload d_KReader_wordsOf_122 rfl ?_
                  refine k_bld (x := (σ23.2 188 (Int.toNat s22))) d_KReader_wordsOf_124 rB_188 p25 rfl ?_
                  refine k_ifne d_KReader_wordsOf_125 rfl (fun c34 => ?_) (fun c34 => ?_)
                  · have hV36 := k_eqI (if_neg c34) hV33
                    refine k_iconst d_KReader_wordsOf_132 cI_0 ?_
                    exact hV36
                  · have hV35 := k_eqI (if_pos c34) hV33
                    refine k_iconst d_KReader_wordsOf_128 cI_1 ?_
                    refine k_goto d_KReader_wordsOf_129 rfl ?_
                    exact hV35
              refine k_ifeq d_KReader_wordsOf_101 rfl (fun c39 => ?_) (fun c39 => ?_)
              · have hV40 := k_eqI (if_pos c39) hV38
                refine k_bipush d_KReader_wordsOf_109 cB_12 ?_
                exact hV40
              · have hV41 := k_eqI (if_neg c39) hV38
                refine k_bipush d_KReader_wordsOf_104 cB_21 ?_
                refine k_goto d_KReader_wordsOf_106 rfl ?_
                exact hV41
            · refine k_ifeq d_KReader_wordsOf_62 rfl (fun c42 => ?_) (fun c42 => ?_)
              · have h := ipos c42 h
                refine k_aload_n d_KReader_wordsOf_69 rfl ?_
                obtain ⟨y43, h⟩ := h
                refine k_getD (x := (σ5.1 16 2)) d_KReader_wordsOf_70 fl_15_150 ob_16 rfl rfl (dyD_pos y43) ?_
                refine k_getR d_KReader_wordsOf_73 fl_15_227 (doc_ob (dyD_doc y43)) (dfr_0 (dyD_doc y43)) ?_
                refine k_aload_n d_KReader_wordsOf_76 rfl ?_
                refine k_getD (x := (σ5.1 16 2)) d_KReader_wordsOf_77 fl_15_150 ob_16 rfl rfl (dyD_pos y43) ?_
                refine k_getR d_KReader_wordsOf_80 fl_15_806 (doc_ob (dyD_doc y43)) (dfr_1 (dyD_doc y43)) ?_
                refine k_iload_n d_KReader_wordsOf_83 rfl ?_
                refine k_iload d_KReader_wordsOf_84 rfl ?_
                refine k_iload_n d_KReader_wordsOf_86 rfl ?_
                obtain ⟨p46, h⟩ := h
                refine k_isub d_KReader_wordsOf_87 p46 ?_
                refine k_cvi [.inr (rfo (Int.toNat (σ5.1 16 2)) 1), .inl s4.1, .inl (s4.2 - s4.1)] d_KReader_wordsOf_88 ml_15_529 rfl rfl ob_13 rfl (s_KBook_find hL (by omega) (drI_1 (dyD_doc y43)) h) (fun v45 σ44 h => ?_)
                exact k_sb (sb_s (sb_s (sb_s (sb_n (sb_s (sb_s (sb_s sb_nil))))))) (hJ21 v45 _ h)
              · have h := ineg c42 h
                refine k_iconst d_KReader_wordsOf_65 cI_m1 ?_
                refine k_goto d_KReader_wordsOf_66 rfl ?_
                exact k_sb (sb_s (sb_s (sb_s (sb_n (sb_s (sb_s (sb_s sb_nil))))))) (hJ21 (-1) _ h)
      have hY48 : ¬ (s4.2 = ((σ.2 (rfo (Int.toNat (σ.1 16 2)) 9) (Int.toNat a1)) + (σ.2 (rfo (Int.toNat (σ.1 16 2)) 10) (Int.toNat a1))) ∨ ((σ5.2 (rfo (Int.toNat (σ5.1 16 2)) 1) (Int.toNat s4.2)) = 32)) → OkI BF L (d + 1) 15 b_KReader_wordsOf 7 0 140 [] [some (.inr 16), none, some (.inl a2), some (.inl s4.1), some (.inl ((σ.2 (rfo (Int.toNat (σ.1 16 2)) 9) (Int.toNat a1)) + (σ.2 (rfo (Int.toNat (σ.1 16 2)) 10) (Int.toNat a1)))), some (.inl s4.2), none] σ5 (qv Q) := fun e49 => by
        have h := ineg e49 h
        exact k_sb (sb_s (sb_s (sb_s (sb_s (sb_s (sb_s (sb_s sb_nil))))))) (hJ8 s4.1 _ h)
      have pb51 := pt50
      refine k_iceq d_KReader_wordsOf_37 rfl (fun c52 => ?_) (fun c52 => ?_)
      · exact hX47 (Or.inl c52)
      · have pb51 := pb51 c52
        obtain ⟨y12, p13⟩ := pb51
        refine k_aload_n d_KReader_wordsOf_40 rfl ?_
        refine k_getD (x := (σ5.1 16 2)) d_KReader_wordsOf_41 fl_15_150 ob_16 rfl rfl (dyD_pos y12) ?_
        refine k_getR d_KReader_wordsOf_44 fl_15_806 (doc_ob (dyD_doc y12)) (dfr_1 (dyD_doc y12)) ?_
        refine k_iload d_KReader_wordsOf_47 rfl ?_
        refine k_ild (x := (σ5.2 (rfo (Int.toNat (σ5.1 16 2)) 1) (Int.toNat s4.2))) d_KReader_wordsOf_49 (drI_1 (dyD_doc y12)) p13 rfl ?_
        refine k_bipush d_KReader_wordsOf_50 cB_32 ?_
        refine k_icne d_KReader_wordsOf_52 rfl (fun c53 => ?_) (fun c53 => ?_)
        · exact hY48 (fun z => z.elim c52 (c53))
        · exact hX47 (Or.inr (c53))
theorem d_KReader_identities_0 : decode b_KReader_identities 0 = .ok (.aload_n 0, 1) := by decide +kernel
theorem d_KReader_identities_1 : decode b_KReader_identities 1 = .ok (.getfield 150, 3) := by decide +kernel
theorem d_KReader_identities_4 : decode b_KReader_identities 4 = .ok (.getfield 227, 3) := by decide +kernel
theorem d_KReader_identities_7 : decode b_KReader_identities 7 = .ok (.getfield 821, 3) := by decide +kernel
theorem d_KReader_identities_10 : decode b_KReader_identities 10 = .ok (.istore_n 1, 1) := by decide +kernel
theorem d_KReader_identities_11 : decode b_KReader_identities 11 = .ok (.iconst 0, 1) := by decide +kernel
theorem d_KReader_identities_12 : decode b_KReader_identities 12 = .ok (.istore_n 2, 1) := by decide +kernel
theorem d_KReader_identities_13 : decode b_KReader_identities 13 = .ok (.iload_n 2, 1) := by decide +kernel
theorem d_KReader_identities_14 : decode b_KReader_identities 14 = .ok (.iload_n 1, 1) := by decide +kernel
theorem d_KReader_identities_15 : decode b_KReader_identities 15 = .ok (.if_icmp .ge 16, 3) := by decide +kernel
theorem d_KReader_identities_18 : decode b_KReader_identities 18 = .ok (.aload_n 0, 1) := by decide +kernel
theorem d_KReader_identities_19 : decode b_KReader_identities 19 = .ok (.getfield 81, 3) := by decide +kernel
theorem d_KReader_identities_22 : decode b_KReader_identities 22 = .ok (.iload_n 2, 1) := by decide +kernel
theorem d_KReader_identities_23 : decode b_KReader_identities 23 = .ok (.iconst 0, 1) := by decide +kernel
theorem d_KReader_identities_24 : decode b_KReader_identities 24 = .ok (.bastore, 1) := by decide +kernel
theorem d_KReader_identities_25 : decode b_KReader_identities 25 = .ok (.iinc 2 1, 3) := by decide +kernel
theorem d_KReader_identities_28 : decode b_KReader_identities 28 = .ok (.goto (-15), 3) := by decide +kernel
theorem d_KReader_identities_31 : decode b_KReader_identities 31 = .ok (.iconst 0, 1) := by decide +kernel
theorem d_KReader_identities_32 : decode b_KReader_identities 32 = .ok (.istore_n 2, 1) := by decide +kernel
theorem d_KReader_identities_33 : decode b_KReader_identities 33 = .ok (.iload_n 2, 1) := by decide +kernel
theorem d_KReader_identities_34 : decode b_KReader_identities 34 = .ok (.aload_n 0, 1) := by decide +kernel
theorem d_KReader_identities_35 : decode b_KReader_identities 35 = .ok (.getfield 150, 3) := by decide +kernel
theorem d_KReader_identities_38 : decode b_KReader_identities 38 = .ok (.getfield 748, 3) := by decide +kernel
theorem d_KReader_identities_41 : decode b_KReader_identities 41 = .ok (.if_icmp .ge 108, 3) := by decide +kernel
theorem d_KReader_identities_44 : decode b_KReader_identities 44 = .ok (.aload_n 0, 1) := by decide +kernel
theorem d_KReader_identities_45 : decode b_KReader_identities 45 = .ok (.getfield 150, 3) := by decide +kernel
theorem d_KReader_identities_48 : decode b_KReader_identities 48 = .ok (.getfield 781, 3) := by decide +kernel
theorem d_KReader_identities_51 : decode b_KReader_identities 51 = .ok (.iload_n 2, 1) := by decide +kernel
theorem d_KReader_identities_52 : decode b_KReader_identities 52 = .ok (.baload, 1) := by decide +kernel
theorem d_KReader_identities_53 : decode b_KReader_identities 53 = .ok (.iconst 1, 1) := by decide +kernel
theorem d_KReader_identities_54 : decode b_KReader_identities 54 = .ok (.if_icmp .ne 89, 3) := by decide +kernel
theorem d_KReader_identities_57 : decode b_KReader_identities 57 = .ok (.aload_n 0, 1) := by decide +kernel
theorem d_KReader_identities_58 : decode b_KReader_identities 58 = .ok (.getfield 150, 3) := by decide +kernel
theorem d_KReader_identities_61 : decode b_KReader_identities 61 = .ok (.getfield 227, 3) := by decide +kernel
theorem d_KReader_identities_64 : decode b_KReader_identities 64 = .ok (.aload_n 0, 1) := by decide +kernel
theorem d_KReader_identities_65 : decode b_KReader_identities 65 = .ok (.getfield 150, 3) := by decide +kernel
theorem d_KReader_identities_68 : decode b_KReader_identities 68 = .ok (.getfield 806, 3) := by decide +kernel
theorem d_KReader_identities_71 : decode b_KReader_identities 71 = .ok (.aload_n 0, 1) := by decide +kernel
theorem d_KReader_identities_72 : decode b_KReader_identities 72 = .ok (.getfield 150, 3) := by decide +kernel
theorem d_KReader_identities_75 : decode b_KReader_identities 75 = .ok (.getfield 775, 3) := by decide +kernel
theorem d_KReader_identities_78 : decode b_KReader_identities 78 = .ok (.iload_n 2, 1) := by decide +kernel
theorem d_KReader_identities_79 : decode b_KReader_identities 79 = .ok (.iaload, 1) := by decide +kernel
theorem d_KReader_identities_80 : decode b_KReader_identities 80 = .ok (.aload_n 0, 1) := by decide +kernel
theorem d_KReader_identities_81 : decode b_KReader_identities 81 = .ok (.getfield 150, 3) := by decide +kernel
theorem d_KReader_identities_84 : decode b_KReader_identities 84 = .ok (.getfield 778, 3) := by decide +kernel
theorem d_KReader_identities_87 : decode b_KReader_identities 87 = .ok (.iload_n 2, 1) := by decide +kernel
theorem d_KReader_identities_88 : decode b_KReader_identities 88 = .ok (.iaload, 1) := by decide +kernel
theorem d_KReader_identities_89 : decode b_KReader_identities 89 = .ok (.invokevirtual 231, 3) := by decide +kernel
theorem d_KReader_identities_92 : decode b_KReader_identities 92 = .ok (.istore_n 3, 1) := by decide +kernel
theorem d_KReader_identities_93 : decode b_KReader_identities 93 = .ok (.iload_n 3, 1) := by decide +kernel
theorem d_KReader_identities_94 : decode b_KReader_identities 94 = .ok (.iload_n 1, 1) := by decide +kernel
theorem d_KReader_identities_95 : decode b_KReader_identities 95 = .ok (.if_icmp .lt 14, 3) := by decide +kernel
theorem d_KReader_identities_98 : decode b_KReader_identities 98 = .ok (.iload_n 3, 1) := by decide +kernel
theorem d_KReader_identities_99 : decode b_KReader_identities 99 = .ok (.iconst 1, 1) := by decide +kernel
theorem d_KReader_identities_100 : decode b_KReader_identities 100 = .ok (.iadd, 1) := by decide +kernel
theorem d_KReader_identities_101 : decode b_KReader_identities 101 = .ok (.istore_n 1, 1) := by decide +kernel
theorem d_KReader_identities_102 : decode b_KReader_identities 102 = .ok (.aload_n 0, 1) := by decide +kernel
theorem d_KReader_identities_103 : decode b_KReader_identities 103 = .ok (.getfield 81, 3) := by decide +kernel
theorem d_KReader_identities_106 : decode b_KReader_identities 106 = .ok (.iload_n 3, 1) := by decide +kernel
theorem d_KReader_identities_107 : decode b_KReader_identities 107 = .ok (.iconst 0, 1) := by decide +kernel
theorem d_KReader_identities_108 : decode b_KReader_identities 108 = .ok (.bastore, 1) := by decide +kernel
theorem d_KReader_identities_109 : decode b_KReader_identities 109 = .ok (.aload_n 0, 1) := by decide +kernel
theorem d_KReader_identities_110 : decode b_KReader_identities 110 = .ok (.getfield 150, 3) := by decide +kernel
theorem d_KReader_identities_113 : decode b_KReader_identities 113 = .ok (.getfield 561, 3) := by decide +kernel
theorem d_KReader_identities_116 : decode b_KReader_identities 116 = .ok (.bipush 11, 2) := by decide +kernel
theorem d_KReader_identities_118 : decode b_KReader_identities 118 = .ok (.dup2, 1) := by decide +kernel
theorem d_KReader_identities_119 : decode b_KReader_identities 119 = .ok (.iaload, 1) := by decide +kernel
theorem d_KReader_identities_120 : decode b_KReader_identities 120 = .ok (.aload_n 0, 1) := by decide +kernel
theorem d_KReader_identities_121 : decode b_KReader_identities 121 = .ok (.getfield 81, 3) := by decide +kernel
theorem d_KReader_identities_124 : decode b_KReader_identities 124 = .ok (.iload_n 3, 1) := by decide +kernel
theorem d_KReader_identities_125 : decode b_KReader_identities 125 = .ok (.baload, 1) := by decide +kernel
theorem d_KReader_identities_126 : decode b_KReader_identities 126 = .ok (.ifCond .eq 7, 3) := by decide +kernel
theorem d_KReader_identities_129 : decode b_KReader_identities 129 = .ok (.iconst 1, 1) := by decide +kernel
theorem d_KReader_identities_130 : decode b_KReader_identities 130 = .ok (.goto 4, 3) := by decide +kernel
theorem d_KReader_identities_133 : decode b_KReader_identities 133 = .ok (.iconst 0, 1) := by decide +kernel
theorem d_KReader_identities_134 : decode b_KReader_identities 134 = .ok (.iadd, 1) := by decide +kernel
theorem d_KReader_identities_135 : decode b_KReader_identities 135 = .ok (.iastore, 1) := by decide +kernel
theorem d_KReader_identities_136 : decode b_KReader_identities 136 = .ok (.aload_n 0, 1) := by decide +kernel
theorem d_KReader_identities_137 : decode b_KReader_identities 137 = .ok (.getfield 81, 3) := by decide +kernel
theorem d_KReader_identities_140 : decode b_KReader_identities 140 = .ok (.iload_n 3, 1) := by decide +kernel
theorem d_KReader_identities_141 : decode b_KReader_identities 141 = .ok (.iconst 1, 1) := by decide +kernel
theorem d_KReader_identities_142 : decode b_KReader_identities 142 = .ok (.bastore, 1) := by decide +kernel
theorem d_KReader_identities_143 : decode b_KReader_identities 143 = .ok (.iinc 2 1, 3) := by decide +kernel
theorem d_KReader_identities_146 : decode b_KReader_identities 146 = .ok (.goto (-113), 3) := by decide +kernel
theorem d_KReader_identities_149 : decode b_KReader_identities 149 = .ok (.iconst 0, 1) := by decide +kernel
theorem d_KReader_identities_150 : decode b_KReader_identities 150 = .ok (.istore_n 2, 1) := by decide +kernel
theorem d_KReader_identities_151 : decode b_KReader_identities 151 = .ok (.iload_n 2, 1) := by decide +kernel
theorem d_KReader_identities_152 : decode b_KReader_identities 152 = .ok (.aload_n 0, 1) := by decide +kernel
theorem d_KReader_identities_153 : decode b_KReader_identities 153 = .ok (.getfield 150, 3) := by decide +kernel
theorem d_KReader_identities_156 : decode b_KReader_identities 156 = .ok (.getfield 748, 3) := by decide +kernel
theorem d_KReader_identities_159 : decode b_KReader_identities 159 = .ok (.if_icmp .ge 49, 3) := by decide +kernel
theorem d_KReader_identities_162 : decode b_KReader_identities 162 = .ok (.aload_n 0, 1) := by decide +kernel
theorem d_KReader_identities_163 : decode b_KReader_identities 163 = .ok (.getfield 150, 3) := by decide +kernel
theorem d_KReader_identities_166 : decode b_KReader_identities 166 = .ok (.getfield 781, 3) := by decide +kernel
theorem d_KReader_identities_169 : decode b_KReader_identities 169 = .ok (.iload_n 2, 1) := by decide +kernel
theorem d_KReader_identities_170 : decode b_KReader_identities 170 = .ok (.baload, 1) := by decide +kernel
theorem d_KReader_identities_171 : decode b_KReader_identities 171 = .ok (.istore_n 3, 1) := by decide +kernel
theorem d_KReader_identities_172 : decode b_KReader_identities 172 = .ok (.iload_n 3, 1) := by decide +kernel
theorem d_KReader_identities_173 : decode b_KReader_identities 173 = .ok (.iconst 2, 1) := by decide +kernel
theorem d_KReader_identities_174 : decode b_KReader_identities 174 = .ok (.if_icmp .lt 28, 3) := by decide +kernel
theorem d_KReader_identities_177 : decode b_KReader_identities 177 = .ok (.iload_n 3, 1) := by decide +kernel
theorem d_KReader_identities_178 : decode b_KReader_identities 178 = .ok (.iconst 5, 1) := by decide +kernel
theorem d_KReader_identities_179 : decode b_KReader_identities 179 = .ok (.if_icmp .gt 23, 3) := by decide +kernel
theorem d_KReader_identities_182 : decode b_KReader_identities 182 = .ok (.aload_n 0, 1) := by decide +kernel
theorem d_KReader_identities_183 : decode b_KReader_identities 183 = .ok (.iload_n 2, 1) := by decide +kernel
theorem d_KReader_identities_184 : decode b_KReader_identities 184 = .ok (.iload_n 3, 1) := by decide +kernel
theorem d_KReader_identities_185 : decode b_KReader_identities 185 = .ok (.iconst 4, 1) := by decide +kernel
theorem d_KReader_identities_186 : decode b_KReader_identities 186 = .ok (.if_icmp .eq 8, 3) := by decide +kernel
theorem d_KReader_identities_189 : decode b_KReader_identities 189 = .ok (.iload_n 3, 1) := by decide +kernel
theorem d_KReader_identities_190 : decode b_KReader_identities 190 = .ok (.iconst 5, 1) := by decide +kernel
theorem d_KReader_identities_191 : decode b_KReader_identities 191 = .ok (.if_icmp .ne 7, 3) := by decide +kernel
theorem d_KReader_identities_194 : decode b_KReader_identities 194 = .ok (.iconst 1, 1) := by decide +kernel
theorem d_KReader_identities_195 : decode b_KReader_identities 195 = .ok (.goto 4, 3) := by decide +kernel
theorem d_KReader_identities_198 : decode b_KReader_identities 198 = .ok (.iconst 0, 1) := by decide +kernel
theorem d_KReader_identities_199 : decode b_KReader_identities 199 = .ok (.invokevirtual 824, 3) := by decide +kernel
theorem d_KReader_identities_202 : decode b_KReader_identities 202 = .ok (.iinc 2 1, 3) := by decide +kernel
theorem d_KReader_identities_205 : decode b_KReader_identities 205 = .ok (.goto (-54), 3) := by decide +kernel
theorem d_KReader_identities_208 : decode b_KReader_identities 208 = .ok (.return_, 1) := by decide +kernel
/-- KReader_identities -/
def w_KReader_identities (L : Nat → Nat)  (Q : IS → Prop) (σ : IS) : Prop := dyD (σ.1 16 2) ∧ WL (fun (K2 : Int → IS → Prop) (s4 : Int) (σ5 : IS) => if s4 < (σ.1 13 6) then inL L 188 s4 ∧ inR (s4 + 1) ∧ K2 (s4 + 1) (pr σ5 188 (Int.toNat s4) 0) else WL (fun (K7 : Int × Int → IS → Prop) (s9 : Int × Int) (σ10 : IS) => dyD (σ10.1 16 2) ∧ if s9.2 < (σ10.1 (Int.toNat (σ10.1 16 2)) 14) then inL L (rfo (Int.toNat (σ10.1 16 2)) 11) s9.2 ∧ WJ (fun (s41 : Int) (σ42 : IS) => inR (s9.2 + 1) ∧ K7 (s41, (s9.2 + 1)) σ42) (fun J39 => if (σ10.2 (rfo (Int.toNat (σ10.1 16 2)) 11) (Int.toNat s9.2)) = 1 then inL L (rfo (Int.toNat (σ10.1 16 2)) 9) s9.2 ∧ inL L (rfo (Int.toNat (σ10.1 16 2)) 10) s9.2 ∧ w_KBook_keep L (rfo (Int.toNat (σ10.1 16 2)) 1) (σ10.2 (rfo (Int.toNat (σ10.1 16 2)) 9) (Int.toNat s9.2)) (σ10.2 (rfo (Int.toNat (σ10.1 16 2)) 10) (Int.toNat s9.2)) (fun v46 σ45 => WJ (fun (s49 : Int) (σ50 : IS) => dyD (σ50.1 16 2) ∧ inL L (rfo (Int.toNat (σ50.1 16 2)) 18) 11 ∧ inL L 188 v46 ∧ inR ((σ50.2 (rfo (Int.toNat (σ50.1 16 2)) 18) (Int.toNat 11)) + (if (σ50.2 188 (Int.toNat v46)) = 0 then (0 : Int) else (1 : Int))) ∧ inL L (rfo (Int.toNat (σ50.1 16 2)) 18) 11 ∧ inL L 188 v46 ∧ J39 s49 (pr (pr σ50 (rfo (Int.toNat (σ50.1 16 2)) 18) (Int.toNat 11) ((σ50.2 (rfo (Int.toNat (σ50.1 16 2)) 18) (Int.toNat 11)) + (if (σ50.2 188 (Int.toNat v46)) = 0 then (0 : Int) else (1 : Int)))) 188 (Int.toNat v46) 1)) (fun J47 => if v46 < s9.1 then J47 s9.1 σ45 else inR (v46 + 1) ∧ inL L 188 v46 ∧ J47 (v46 + 1) (pr σ45 188 (Int.toNat v46) 0))) σ10 else J39 s9.1 σ10) else WL (fun (K13 : Int → IS → Prop) (s15 : Int) (σ16 : IS) => dyD (σ16.1 16 2) ∧ if s15 < (σ16.1 (Int.toNat (σ16.1 16 2)) 14) then inL L (rfo (Int.toNat (σ16.1 16 2)) 11) s15 ∧ WJ (fun (s21 : Unit) (σ22 : IS) => inR (s15 + 1) ∧ K13 (s15 + 1) σ22) (fun J19 => if ¬ (σ16.2 (rfo (Int.toNat (σ16.1 16 2)) 11) (Int.toNat s15)) < 2 ∧ (¬ 5 < (σ16.2 (rfo (Int.toNat (σ16.1 16 2)) 11) (Int.toNat s15))) then w_KReader_wordsOf L s15 (if (σ16.2 (rfo (Int.toNat (σ16.1 16 2)) 11) (Int.toNat s15)) = 4 then (1 : Int) else (if (σ16.2 (rfo (Int.toNat (σ16.1 16 2)) 11) (Int.toNat s15)) = 5 then (1 : Int) else (0 : Int))) (fun σ24 => J19 () σ24) σ16 else J19 () σ16) else Q σ16) 0 σ10) ((σ.1 13 6), 0) σ5) 0 σ
set_option maxHeartbeats 4000000 in
set_option maxRecDepth 20000 in
theorem s_KReader_identities {L : Nat → Nat} (hL : ∀ r, L r < 2147483648) {d : Nat} (hd : 3 ≤ d)  {Q : IS → Prop} {σ : IS}  (h : w_KReader_identities L  Q σ) : OkI BF L d 15 b_KReader_identities 4 0 0 [] [some (.inr 16)] σ (qv Q) := by
  unfold w_KReader_identities at h
  obtain ⟨d, rfl⟩ : ∃ e, d = e + 1 := ⟨d - 1, by omega⟩
  refine k_sb (lv' := [some (.inr 16), none, none, none]) (sb_s (sb_e (sb_e (sb_e sb_nil)))) ?_
  refine k_aload_n d_KReader_identities_0 rfl ?_
  obtain ⟨y1, h⟩ := h
  refine k_getD (x := (σ.1 16 2)) d_KReader_identities_1 fl_15_150 ob_16 rfl rfl (dyD_pos y1) ?_
  refine k_getR d_KReader_identities_4 fl_15_227 (doc_ob (dyD_doc y1)) (dfr_0 (dyD_doc y1)) ?_
  refine k_getI (x := (σ.1 13 6)) d_KReader_identities_7 fl_15_821 ob_13 rfl rfl ?_
  refine k_istore_n (lv' := [some (.inr 16), some (.inl (σ.1 13 6)), none, none]) d_KReader_identities_10 rfl rfl ?_
  refine k_iconst d_KReader_identities_11 cI_0 ?_
  refine k_istore_n (lv' := [some (.inr 16), some (.inl (σ.1 13 6)), some (.inl 0), none]) d_KReader_identities_12 rfl rfl ?_
  refine k_sb (lv' := [some (.inr 16), some (.inl (σ.1 13 6)), some (.inl 0), none]) (sb_s (sb_s (sb_s (sb_s sb_nil)))) ?_
  refine k_loop (S := Int) (st := fun _ => []) (lv := fun s4 => [some (.inr 16), some (.inl (σ.1 13 6)), some (.inl s4), none]) (fun K2 hK3 s4 σ5 h => ?_) 0 _ h
  refine k_iload_n d_KReader_identities_13 rfl ?_
  refine k_iload_n d_KReader_identities_14 rfl ?_
  refine k_icge d_KReader_identities_15 rfl (fun c6 => ?_) (fun c6 => ?_)
  · have h := ineg c6 h
    refine k_iconst d_KReader_identities_31 cI_0 ?_
    refine k_istore_n (lv' := [some (.inr 16), some (.inl (σ.1 13 6)), some (.inl 0), none]) d_KReader_identities_32 rfl rfl ?_
    refine k_sb (lv' := [some (.inr 16), some (.inl (σ.1 13 6)), some (.inl 0), none]) (sb_s (sb_s (sb_s (sb_s sb_nil)))) ?_
    refine k_loop (S := Int × Int) (st := fun _ => []) (lv := fun s9 => [some (.inr 16), some (.inl s9.1), some (.inl s9.2), none]) (fun K7 hK8 s9 σ10 h => ?_) ((σ.1 13 6), 0) _ h
    refine k_iload_n d_KReader_identities_33 rfl ?_
    refine k_aload_n d_KReader_identities_34 rfl ?_
    obtain ⟨y11, h⟩ := h
    refine k_getD (x := (σ10.1 16 2)) d_KReader_identities_35 fl_15_150 ob_16 rfl rfl (dyD_pos y11) ?_
    refine k_getI (x := (σ10.1 (Int.toNat (σ10.1 16 2)) 14)) d_KReader_identities_38 fl_15_748 (doc_ob (dyD_doc y11)) (dfi_14 (dyD_doc y11)) rfl ?_
    refine k_icge d_KReader_identities_41 rfl (fun c12 => ?_) (fun c12 => ?_)
    · have h := ineg c12 h
      refine k_iconst d_KReader_identities_149 cI_0 ?_
      refine k_istore_n (lv' := [some (.inr 16), some (.inl s9.1), some (.inl 0), none]) d_KReader_identities_150 rfl rfl ?_
      refine k_sb (lv' := [some (.inr 16), none, some (.inl 0), none]) (sb_s (sb_n (sb_s (sb_s sb_nil)))) ?_
      refine k_loop (S := Int) (st := fun _ => []) (lv := fun s15 => [some (.inr 16), none, some (.inl s15), none]) (fun K13 hK14 s15 σ16 h => ?_) 0 _ h
      refine k_iload_n d_KReader_identities_151 rfl ?_
      refine k_aload_n d_KReader_identities_152 rfl ?_
      obtain ⟨y17, h⟩ := h
      refine k_getD (x := (σ16.1 16 2)) d_KReader_identities_153 fl_15_150 ob_16 rfl rfl (dyD_pos y17) ?_
      refine k_getI (x := (σ16.1 (Int.toNat (σ16.1 16 2)) 14)) d_KReader_identities_156 fl_15_748 (doc_ob (dyD_doc y17)) (dfi_14 (dyD_doc y17)) rfl ?_
      refine k_icge d_KReader_identities_159 rfl (fun c18 => ?_) (fun c18 => ?_)
      · have h := ineg c18 h
        exact k_ret d_KReader_identities_208 h
      · have h := ipos c18 h
        refine k_aload_n d_KReader_identities_162 rfl ?_
        refine k_getD (x := (σ16.1 16 2)) d_KReader_identities_163 fl_15_150 ob_16 rfl rfl (dyD_pos y17) ?_
        refine k_getR d_KReader_identities_166 fl_15_781 (doc_ob (dyD_doc y17)) (dfr_11 (dyD_doc y17)) ?_
        refine k_iload_n d_KReader_identities_169 rfl ?_
        obtain ⟨p38, h⟩ := h
        refine k_bld (x := (σ16.2 (rfo (Int.toNat (σ16.1 16 2)) 11) (Int.toNat s15))) d_KReader_identities_170 (drB_11 (dyD_doc y17)) p38 rfl ?_
        refine k_istore_n (lv' := [some (.inr 16), none, some (.inl s15), some (.inl (σ16.2 (rfo (Int.toNat (σ16.1 16 2)) 11) (Int.toNat s15)))]) d_KReader_identities_171 rfl rfl ?_
        refine k_iload_n d_KReader_identities_172 rfl ?_
        refine k_iconst d_KReader_identities_173 cI_2 ?_
        refine k_join (S := Unit) (pc' := 202) (st' := fun s21 => []) (lv' := fun s21 => [some (.inr 16), none, some (.inl s15), none]) (fun s21 σ22 h => ?_) (fun J19 hJ20 h => ?_) h
        · obtain ⟨p23, h⟩ := h
          refine k_iinc (lv' := [some (.inr 16), none, some (.inl (s15 + 1)), none]) d_KReader_identities_202 cI_1 rfl rfl p23 rfl ?_
          refine k_goto d_KReader_identities_205 rfl ?_
          exact k_sb (sb_s (sb_s (sb_s (sb_s sb_nil)))) (hK14 (s15 + 1) _ h)
        · have hX33 : (¬ (σ16.2 (rfo (Int.toNat (σ16.1 16 2)) 11) (Int.toNat s15)) < 2 ∧ (¬ 5 < (σ16.2 (rfo (Int.toNat (σ16.1 16 2)) 11) (Int.toNat s15)))) → OkI BF L (d + 1) 15 b_KReader_identities 4 0 182 [] [some (.inr 16), none, some (.inl s15), some (.inl (σ16.2 (rfo (Int.toNat (σ16.1 16 2)) 11) (Int.toNat s15)))] σ16 (qv Q) := fun e35 => by
            have h := ipos e35 h
            refine k_aload_n d_KReader_identities_182 rfl ?_
            refine k_iload_n d_KReader_identities_183 rfl ?_
            refine k_iload_n d_KReader_identities_184 rfl ?_
            refine k_iconst d_KReader_identities_185 cI_4 ?_
            have hV26 : OkI BF L (d + 1) 15 b_KReader_identities 4 0 199 [.inl (if (σ16.2 (rfo (Int.toNat (σ16.1 16 2)) 11) (Int.toNat s15)) = 4 then (1 : Int) else (if (σ16.2 (rfo (Int.toNat (σ16.1 16 2)) 11) (Int.toNat s15)) = 5 then (1 : Int) else (0 : Int))), .inl s15, .inr 16] [some (.inr 16), none, some (.inl s15), some (.inl (σ16.2 (rfo (Int.toNat (σ16.1 16 2)) 11) (Int.toNat s15)))] σ16 (qv Q) := by
              refine k_cvv [.inl s15, .inl (if (σ16.2 (rfo (Int.toNat (σ16.1 16 2)) 11) (Int.toNat s15)) = 4 then (1 : Int) else (if (σ16.2 (rfo (Int.toNat (σ16.1 16 2)) 11) (Int.toNat s15)) = 5 then (1 : Int) else (0 : Int)))] d_KReader_identities_199 ml_15_824 rfl rfl ob_16 rfl (s_KReader_wordsOf hL (by omega)  h) (fun σ24 h => ?_)
              exact k_sb (sb_s (sb_s (sb_s (sb_n sb_nil)))) (hJ20 () _ h)
            refine k_iceq d_KReader_identities_186 rfl (fun c27 => ?_) (fun c27 => ?_)
            · have hV28 := k_eqI (if_pos c27) hV26
              refine k_iconst d_KReader_identities_194 cI_1 ?_
              refine k_goto d_KReader_identities_195 rfl ?_
              exact hV28
            · have hV29 := k_eqI (if_neg c27) hV26
              refine k_iload_n d_KReader_identities_189 rfl ?_
              refine k_iconst d_KReader_identities_190 cI_5 ?_
              refine k_icne d_KReader_identities_191 rfl (fun c30 => ?_) (fun c30 => ?_)
              · have hV32 := k_eqI (if_neg c30) hV29
                refine k_iconst d_KReader_identities_198 cI_0 ?_
                exact hV32
              · have hV31 := k_eqI (if_pos c30) hV29
                refine k_iconst d_KReader_identities_194 cI_1 ?_
                refine k_goto d_KReader_identities_195 rfl ?_
                exact hV31
          have hY34 : ¬ (¬ (σ16.2 (rfo (Int.toNat (σ16.1 16 2)) 11) (Int.toNat s15)) < 2 ∧ (¬ 5 < (σ16.2 (rfo (Int.toNat (σ16.1 16 2)) 11) (Int.toNat s15)))) → OkI BF L (d + 1) 15 b_KReader_identities 4 0 202 [] [some (.inr 16), none, some (.inl s15), some (.inl (σ16.2 (rfo (Int.toNat (σ16.1 16 2)) 11) (Int.toNat s15)))] σ16 (qv Q) := fun e35 => by
            have h := ineg e35 h
            exact k_sb (sb_s (sb_s (sb_s (sb_n sb_nil)))) (hJ20 () _ h)
          refine k_iclt d_KReader_identities_174 rfl (fun c36 => ?_) (fun c36 => ?_)
          · exact hY34 (fun z => z.1 c36)
          · refine k_iload_n d_KReader_identities_177 rfl ?_
            refine k_iconst d_KReader_identities_178 cI_5 ?_
            refine k_icgt d_KReader_identities_179 rfl (fun c37 => ?_) (fun c37 => ?_)
            · exact hY34 (fun z => (fun z => z c37) z.2)
            · exact hX33 (⟨c36, c37⟩)
    · have h := ipos c12 h
      refine k_aload_n d_KReader_identities_44 rfl ?_
      refine k_getD (x := (σ10.1 16 2)) d_KReader_identities_45 fl_15_150 ob_16 rfl rfl (dyD_pos y11) ?_
      refine k_getR d_KReader_identities_48 fl_15_781 (doc_ob (dyD_doc y11)) (dfr_11 (dyD_doc y11)) ?_
      refine k_iload_n d_KReader_identities_51 rfl ?_
      obtain ⟨p66, h⟩ := h
      refine k_bld (x := (σ10.2 (rfo (Int.toNat (σ10.1 16 2)) 11) (Int.toNat s9.2))) d_KReader_identities_52 (drB_11 (dyD_doc y11)) p66 rfl ?_
      refine k_iconst d_KReader_identities_53 cI_1 ?_
      refine k_join (S := Int) (pc' := 143) (st' := fun s41 => []) (lv' := fun s41 => [some (.inr 16), some (.inl s41), some (.inl s9.2), none]) (fun s41 σ42 h => ?_) (fun J39 hJ40 h => ?_) h
      · obtain ⟨p43, h⟩ := h
        refine k_iinc (lv' := [some (.inr 16), some (.inl s41), some (.inl (s9.2 + 1)), none]) d_KReader_identities_143 cI_1 rfl rfl p43 rfl ?_
        refine k_goto d_KReader_identities_146 rfl ?_
        exact k_sb (sb_s (sb_s (sb_s (sb_s sb_nil)))) (hK8 (s41, (s9.2 + 1)) _ h)
      · refine k_icne d_KReader_identities_54 rfl (fun c44 => ?_) (fun c44 => ?_)
        · have h := ineg c44 h
          exact k_sb (sb_s (sb_s (sb_s (sb_s sb_nil)))) (hJ40 s9.1 _ h)
        · have h := ipos c44 h
          refine k_aload_n d_KReader_identities_57 rfl ?_
          refine k_getD (x := (σ10.1 16 2)) d_KReader_identities_58 fl_15_150 ob_16 rfl rfl (dyD_pos y11) ?_
          refine k_getR d_KReader_identities_61 fl_15_227 (doc_ob (dyD_doc y11)) (dfr_0 (dyD_doc y11)) ?_
          refine k_aload_n d_KReader_identities_64 rfl ?_
          refine k_getD (x := (σ10.1 16 2)) d_KReader_identities_65 fl_15_150 ob_16 rfl rfl (dyD_pos y11) ?_
          refine k_getR d_KReader_identities_68 fl_15_806 (doc_ob (dyD_doc y11)) (dfr_1 (dyD_doc y11)) ?_
          refine k_aload_n d_KReader_identities_71 rfl ?_
          refine k_getD (x := (σ10.1 16 2)) d_KReader_identities_72 fl_15_150 ob_16 rfl rfl (dyD_pos y11) ?_
          refine k_getR d_KReader_identities_75 fl_15_775 (doc_ob (dyD_doc y11)) (dfr_9 (dyD_doc y11)) ?_
          refine k_iload_n d_KReader_identities_78 rfl ?_
          obtain ⟨p65, h⟩ := h
          refine k_ild (x := (σ10.2 (rfo (Int.toNat (σ10.1 16 2)) 9) (Int.toNat s9.2))) d_KReader_identities_79 (drI_9 (dyD_doc y11)) p65 rfl ?_
          refine k_aload_n d_KReader_identities_80 rfl ?_
          refine k_getD (x := (σ10.1 16 2)) d_KReader_identities_81 fl_15_150 ob_16 rfl rfl (dyD_pos y11) ?_
          refine k_getR d_KReader_identities_84 fl_15_778 (doc_ob (dyD_doc y11)) (dfr_10 (dyD_doc y11)) ?_
          refine k_iload_n d_KReader_identities_87 rfl ?_
          obtain ⟨p64, h⟩ := h
          refine k_ild (x := (σ10.2 (rfo (Int.toNat (σ10.1 16 2)) 10) (Int.toNat s9.2))) d_KReader_identities_88 (drI_10 (dyD_doc y11)) p64 rfl ?_
          refine k_cvi [.inr (rfo (Int.toNat (σ10.1 16 2)) 1), .inl (σ10.2 (rfo (Int.toNat (σ10.1 16 2)) 9) (Int.toNat s9.2)), .inl (σ10.2 (rfo (Int.toNat (σ10.1 16 2)) 10) (Int.toNat s9.2))] d_KReader_identities_89 ml_15_231 rfl rfl ob_13 rfl (s_KBook_keep hL (by omega) (drI_1 (dyD_doc y11)) h) (fun v46 σ45 h => ?_)
          refine k_istore_n (lv' := [some (.inr 16), some (.inl s9.1), some (.inl s9.2), some (.inl v46)]) d_KReader_identities_92 rfl rfl ?_
          refine k_iload_n d_KReader_identities_93 rfl ?_
          refine k_iload_n d_KReader_identities_94 rfl ?_
          refine k_join (S := Int) (pc' := 109) (st' := fun s49 => []) (lv' := fun s49 => [some (.inr 16), some (.inl s49), some (.inl s9.2), some (.inl v46)]) (fun s49 σ50 h => ?_) (fun J47 hJ48 h => ?_) h
          · refine k_aload_n d_KReader_identities_109 rfl ?_
            obtain ⟨y51, h⟩ := h
            refine k_getD (x := (σ50.1 16 2)) d_KReader_identities_110 fl_15_150 ob_16 rfl rfl (dyD_pos y51) ?_
            refine k_getR d_KReader_identities_113 fl_15_561 (doc_ob (dyD_doc y51)) (dfr_18 (dyD_doc y51)) ?_
            refine k_bipush d_KReader_identities_116 cB_11 ?_
            refine k_dup2 d_KReader_identities_118 ?_
            obtain ⟨p60, h⟩ := h
            refine k_ild (x := (σ50.2 (rfo (Int.toNat (σ50.1 16 2)) 18) (Int.toNat 11))) d_KReader_identities_119 (drI_18 (dyD_doc y51)) p60 rfl ?_
            refine k_aload_n d_KReader_identities_120 rfl ?_
            refine k_getR d_KReader_identities_121 fl_15_81 ob_16 rfl ?_
            refine k_iload_n d_KReader_identities_124 rfl ?_
            obtain ⟨p59, h⟩ := h
            refine k_bld (x := (σ50.2 188 (Int.toNat v46))) d_KReader_identities_125 rB_188 p59 rfl ?_
            have hV55 : OkI BF L (d + 1) 15 b_KReader_identities 4 0 134 [.inl (if (σ50.2 188 (Int.toNat v46)) = 0 then (0 : Int) else (1 : Int)), .inl (σ50.2 (rfo (Int.toNat (σ50.1 16 2)) 18) (Int.toNat 11)), .inl 11, .inr (rfo (Int.toNat (σ50.1 16 2)) 18)] [some (.inr 16), some (.inl s49), some (.inl s9.2), some (.inl v46)] σ50 (qv Q) := by
              obtain ⟨p54, h⟩ := h
              refine k_iadd d_KReader_identities_134 p54 ?_
              obtain ⟨p53, h⟩ := h
              refine k_ist d_KReader_identities_135 (drI_18 (dyD_doc y51)) p53 ?_
              refine k_aload_n d_KReader_identities_136 rfl ?_
              refine k_getR d_KReader_identities_137 fl_15_81 ob_16 rfl ?_
              refine k_iload_n d_KReader_identities_140 rfl ?_
              refine k_iconst d_KReader_identities_141 cI_1 ?_
              obtain ⟨p52, h⟩ := h
              refine k_zst d_KReader_identities_142 rz_188 p52 (Or.inr rfl) ?_
              exact k_sb (sb_s (sb_s (sb_s (sb_n sb_nil)))) (hJ40 s49 _ h)
            refine k_ifeq d_KReader_identities_126 rfl (fun c56 => ?_) (fun c56 => ?_)
            · have hV57 := k_eqI (if_pos c56) hV55
              refine k_iconst d_KReader_identities_133 cI_0 ?_
              exact hV57
            · have hV58 := k_eqI (if_neg c56) hV55
              refine k_iconst d_KReader_identities_129 cI_1 ?_
              refine k_goto d_KReader_identities_130 rfl ?_
              exact hV58
          · refine k_iclt d_KReader_identities_95 rfl (fun c61 => ?_) (fun c61 => ?_)
            · have h := ipos c61 h
              exact k_sb (sb_s (sb_s (sb_s (sb_s sb_nil)))) (hJ48 s9.1 _ h)
            · have h := ineg c61 h
              refine k_iload_n d_KReader_identities_98 rfl ?_
              refine k_iconst d_KReader_identities_99 cI_1 ?_
              obtain ⟨p63, h⟩ := h
              refine k_iadd d_KReader_identities_100 p63 ?_
              refine k_istore_n (lv' := [some (.inr 16), some (.inl (v46 + 1)), some (.inl s9.2), some (.inl v46)]) d_KReader_identities_101 rfl rfl ?_
              refine k_aload_n d_KReader_identities_102 rfl ?_
              refine k_getR d_KReader_identities_103 fl_15_81 ob_16 rfl ?_
              refine k_iload_n d_KReader_identities_106 rfl ?_
              refine k_iconst d_KReader_identities_107 cI_0 ?_
              obtain ⟨p62, h⟩ := h
              refine k_zst d_KReader_identities_108 rz_188 p62 (Or.inl rfl) ?_
              exact k_sb (sb_s (sb_s (sb_s (sb_s sb_nil)))) (hJ48 (v46 + 1) _ h)
  · have h := ipos c6 h
    refine k_aload_n d_KReader_identities_18 rfl ?_
    refine k_getR d_KReader_identities_19 fl_15_81 ob_16 rfl ?_
    refine k_iload_n d_KReader_identities_22 rfl ?_
    refine k_iconst d_KReader_identities_23 cI_0 ?_
    obtain ⟨p68, h⟩ := h
    refine k_zst d_KReader_identities_24 rz_188 p68 (Or.inl rfl) ?_
    obtain ⟨p67, h⟩ := h
    refine k_iinc (lv' := [some (.inr 16), some (.inl (σ.1 13 6)), some (.inl (s4 + 1)), none]) d_KReader_identities_25 cI_1 rfl rfl p67 rfl ?_
    refine k_goto d_KReader_identities_28 rfl ?_
    exact k_sb (sb_s (sb_s (sb_s (sb_s sb_nil)))) (hK3 (s4 + 1) _ h)
theorem d_KReader_means_0 : decode b_KReader_means 0 = .ok (.aload_n 0, 1) := by decide +kernel
theorem d_KReader_means_1 : decode b_KReader_means 1 = .ok (.getfield 150, 3) := by decide +kernel
theorem d_KReader_means_4 : decode b_KReader_means 4 = .ok (.getfield 227, 3) := by decide +kernel
theorem d_KReader_means_7 : decode b_KReader_means 7 = .ok (.iload_n 2, 1) := by decide +kernel
theorem d_KReader_means_8 : decode b_KReader_means 8 = .ok (.ldc_w 468, 3) := by decide +kernel
theorem d_KReader_means_11 : decode b_KReader_means 11 = .ok (.invokevirtual 828, 3) := by decide +kernel
theorem d_KReader_means_14 : decode b_KReader_means 14 = .ok (.ifCond .eq 5, 3) := by decide +kernel
theorem d_KReader_means_17 : decode b_KReader_means 17 = .ok (.iconst 1, 1) := by decide +kernel
theorem d_KReader_means_18 : decode b_KReader_means 18 = .ok (.ireturn, 1) := by decide +kernel
theorem d_KReader_means_19 : decode b_KReader_means 19 = .ok (.aload_n 0, 1) := by decide +kernel
theorem d_KReader_means_20 : decode b_KReader_means 20 = .ok (.getfield 150, 3) := by decide +kernel
theorem d_KReader_means_23 : decode b_KReader_means 23 = .ok (.getfield 227, 3) := by decide +kernel
theorem d_KReader_means_26 : decode b_KReader_means 26 = .ok (.iload_n 2, 1) := by decide +kernel
theorem d_KReader_means_27 : decode b_KReader_means 27 = .ok (.ldc_w 829, 3) := by decide +kernel
theorem d_KReader_means_30 : decode b_KReader_means 30 = .ok (.invokevirtual 828, 3) := by decide +kernel
theorem d_KReader_means_33 : decode b_KReader_means 33 = .ok (.ifCond .eq 5, 3) := by decide +kernel
theorem d_KReader_means_36 : decode b_KReader_means 36 = .ok (.iconst 0, 1) := by decide +kernel
theorem d_KReader_means_37 : decode b_KReader_means 37 = .ok (.ireturn, 1) := by decide +kernel
theorem d_KReader_means_38 : decode b_KReader_means 38 = .ok (.aload_n 0, 1) := by decide +kernel
theorem d_KReader_means_39 : decode b_KReader_means 39 = .ok (.getfield 150, 3) := by decide +kernel
theorem d_KReader_means_42 : decode b_KReader_means 42 = .ok (.iload_n 1, 1) := by decide +kernel
theorem d_KReader_means_43 : decode b_KReader_means 43 = .ok (.iload_n 2, 1) := by decide +kernel
theorem d_KReader_means_44 : decode b_KReader_means 44 = .ok (.invokevirtual 831, 3) := by decide +kernel
theorem d_KReader_means_47 : decode b_KReader_means 47 = .ok (.istore_n 3, 1) := by decide +kernel
theorem d_KReader_means_48 : decode b_KReader_means 48 = .ok (.iload_n 3, 1) := by decide +kernel
theorem d_KReader_means_49 : decode b_KReader_means 49 = .ok (.ifCond .lt 19, 3) := by decide +kernel
theorem d_KReader_means_52 : decode b_KReader_means 52 = .ok (.aload_n 0, 1) := by decide +kernel
theorem d_KReader_means_53 : decode b_KReader_means 53 = .ok (.getfield 150, 3) := by decide +kernel
theorem d_KReader_means_56 : decode b_KReader_means 56 = .ok (.getfield 778, 3) := by decide +kernel
theorem d_KReader_means_59 : decode b_KReader_means 59 = .ok (.iload_n 3, 1) := by decide +kernel
theorem d_KReader_means_60 : decode b_KReader_means 60 = .ok (.iaload, 1) := by decide +kernel
theorem d_KReader_means_61 : decode b_KReader_means 61 = .ok (.ifCond .le 7, 3) := by decide +kernel
theorem d_KReader_means_64 : decode b_KReader_means 64 = .ok (.iconst 1, 1) := by decide +kernel
theorem d_KReader_means_65 : decode b_KReader_means 65 = .ok (.goto 4, 3) := by decide +kernel
theorem d_KReader_means_68 : decode b_KReader_means 68 = .ok (.iconst 0, 1) := by decide +kernel
theorem d_KReader_means_69 : decode b_KReader_means 69 = .ok (.ireturn, 1) := by decide +kernel
/-- KReader_means -/
def w_KReader_means (L : Nat → Nat) (a1 : Int) (a2 : Int) (Q : Int → IS → Prop) (σ : IS) : Prop := dyD (σ.1 16 2) ∧ w_KBook_says L a2 1119 (fun v3 σ2 => if v3 = 0 then dyD (σ2.1 16 2) ∧ w_KBook_says L a2 1153 (fun v7 σ6 => if v7 = 0 then dyD (σ6.1 16 2) ∧ w_KDoc_saying L (Int.toNat (σ6.1 16 2)) a1 a2 (fun v11 σ10 => ((¬ v11 < 0 → (dyD (σ10.1 16 2) ∧ inL L (rfo (Int.toNat (σ10.1 16 2)) 10) v11))) ∧ Q (if v11 < 0 then (0 : Int) else (if 0 < (σ10.2 (rfo (Int.toNat (σ10.1 16 2)) 10) (Int.toNat v11)) then (1 : Int) else (0 : Int))) σ10) σ6 else Q 0 σ6) σ2 else Q 1 σ2) σ
set_option maxHeartbeats 4000000 in
set_option maxRecDepth 20000 in
theorem s_KReader_means {L : Nat → Nat} (hL : ∀ r, L r < 2147483648) {d : Nat} (hd : 5 ≤ d) {a1 : Int} {a2 : Int} {Q : Int → IS → Prop} {σ : IS}  (h : w_KReader_means L a1 a2 Q σ) : OkI BF L d 15 b_KReader_means 4 2 0 [] [some (.inr 16), some (.inl a1), some (.inl a2)] σ (qi Q) := by
  unfold w_KReader_means at h
  obtain ⟨d, rfl⟩ : ∃ e, d = e + 1 := ⟨d - 1, by omega⟩
  refine k_sb (lv' := [some (.inr 16), some (.inl a1), some (.inl a2), none]) (sb_s (sb_s (sb_s (sb_e sb_nil)))) ?_
  refine k_aload_n d_KReader_means_0 rfl ?_
  obtain ⟨y1, h⟩ := h
  refine k_getD (x := (σ.1 16 2)) d_KReader_means_1 fl_15_150 ob_16 rfl rfl (dyD_pos y1) ?_
  refine k_getR d_KReader_means_4 fl_15_227 (doc_ob (dyD_doc y1)) (dfr_0 (dyD_doc y1)) ?_
  refine k_iload_n d_KReader_means_7 rfl ?_
  refine k_ldcw d_KReader_means_8 ks_15_468 rfl ?_
  refine k_cvi [.inl a2, .inr 1119] d_KReader_means_11 ml_15_828 rfl rfl ob_13 rfl (s_KBook_says hL (by omega) it_1119 h) (fun v3 σ2 h => ?_)
  refine k_ifeq d_KReader_means_14 rfl (fun c4 => ?_) (fun c4 => ?_)
  · have h := ipos c4 h
    refine k_aload_n d_KReader_means_19 rfl ?_
    obtain ⟨y5, h⟩ := h
    refine k_getD (x := (σ2.1 16 2)) d_KReader_means_20 fl_15_150 ob_16 rfl rfl (dyD_pos y5) ?_
    refine k_getR d_KReader_means_23 fl_15_227 (doc_ob (dyD_doc y5)) (dfr_0 (dyD_doc y5)) ?_
    refine k_iload_n d_KReader_means_26 rfl ?_
    refine k_ldcw d_KReader_means_27 ks_15_829 rfl ?_
    refine k_cvi [.inl a2, .inr 1153] d_KReader_means_30 ml_15_828 rfl rfl ob_13 rfl (s_KBook_says hL (by omega) it_1153 h) (fun v7 σ6 h => ?_)
    refine k_ifeq d_KReader_means_33 rfl (fun c8 => ?_) (fun c8 => ?_)
    · have h := ipos c8 h
      refine k_aload_n d_KReader_means_38 rfl ?_
      obtain ⟨y9, h⟩ := h
      refine k_getD (x := (σ6.1 16 2)) d_KReader_means_39 fl_15_150 ob_16 rfl rfl (dyD_pos y9) ?_
      refine k_iload_n d_KReader_means_42 rfl ?_
      refine k_iload_n d_KReader_means_43 rfl ?_
      refine k_cvi [.inl a1, .inl a2] d_KReader_means_44 ml_15_831 rfl rfl (doc_ob (dyD_doc y9)) rfl (s_KDoc_saying hL (by omega) (dyD_doc y9) h) (fun v11 σ10 h => ?_)
      refine k_istore_n (lv' := [some (.inr 16), some (.inl a1), some (.inl a2), some (.inl v11)]) d_KReader_means_47 rfl rfl ?_
      refine k_iload_n d_KReader_means_48 rfl ?_
      obtain ⟨pt15, h⟩ := h
      have hV14 : OkI BF L (d + 1) 15 b_KReader_means 4 2 69 [.inl (if v11 < 0 then (0 : Int) else (if 0 < (σ10.2 (rfo (Int.toNat (σ10.1 16 2)) 10) (Int.toNat v11)) then (1 : Int) else (0 : Int)))] [some (.inr 16), some (.inl a1), some (.inl a2), some (.inl v11)] σ10 (qi Q) := by
        exact k_iret d_KReader_means_69 (Or.inr ⟨rfl, it01 (Or.inl rfl) (it01 (Or.inr rfl) (Or.inl rfl))⟩) h
      have pb16 := pt15
      refine k_iflt d_KReader_means_49 rfl (fun c17 => ?_) (fun c17 => ?_)
      · have hV18 := k_eqI (if_pos c17) hV14
        refine k_iconst d_KReader_means_68 cI_0 ?_
        exact hV18
      · have pb16 := pb16 c17
        have hV19 := k_eqI (if_neg c17) hV14
        obtain ⟨y12, p13⟩ := pb16
        refine k_aload_n d_KReader_means_52 rfl ?_
        refine k_getD (x := (σ10.1 16 2)) d_KReader_means_53 fl_15_150 ob_16 rfl rfl (dyD_pos y12) ?_
        refine k_getR d_KReader_means_56 fl_15_778 (doc_ob (dyD_doc y12)) (dfr_10 (dyD_doc y12)) ?_
        refine k_iload_n d_KReader_means_59 rfl ?_
        refine k_ild (x := (σ10.2 (rfo (Int.toNat (σ10.1 16 2)) 10) (Int.toNat v11))) d_KReader_means_60 (drI_10 (dyD_doc y12)) p13 rfl ?_
        refine k_ifle d_KReader_means_61 rfl (fun c20 => ?_) (fun c20 => ?_)
        · have hV22 := k_eqI (if_neg c20) hV19
          refine k_iconst d_KReader_means_68 cI_0 ?_
          exact hV22
        · have hV21 := k_eqI (if_pos c20) hV19
          refine k_iconst d_KReader_means_64 cI_1 ?_
          refine k_goto d_KReader_means_65 rfl ?_
          exact hV21
    · have h := ineg c8 h
      refine k_iconst d_KReader_means_36 cI_0 ?_
      exact k_iret d_KReader_means_37 (Or.inr ⟨rfl, Or.inl rfl⟩) h
  · have h := ineg c4 h
    refine k_iconst d_KReader_means_17 cI_1 ?_
    exact k_iret d_KReader_means_18 (Or.inr ⟨rfl, Or.inr rfl⟩) h
