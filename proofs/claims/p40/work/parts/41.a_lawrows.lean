/-! the law's body: its instructions (gen_lw.py) -/
theorem d_L_law_30 : decode m_L_law.2.1 30 = .ok (.aload_n 1, 1) := by decide +kernel
theorem d_L_law_31 : decode m_L_law.2.1 31 = .ok (.iconst 0, 1) := by decide +kernel
theorem d_L_law_32 : decode m_L_law.2.1 32 = .ok (.invokevirtual 90, 3) := by decide +kernel
theorem d_L_law_35 : decode m_L_law.2.1 35 = .ok (.ifCond .ne 131, 3) := by decide +kernel
theorem d_L_law_38 : decode m_L_law.2.1 38 = .ok (.aload_n 1, 1) := by decide +kernel
theorem d_L_law_39 : decode m_L_law.2.1 39 = .ok (.iconst 3, 1) := by decide +kernel
theorem d_L_law_40 : decode m_L_law.2.1 40 = .ok (.invokevirtual 90, 3) := by decide +kernel
theorem d_L_law_43 : decode m_L_law.2.1 43 = .ok (.iconst 1, 1) := by decide +kernel
theorem d_L_law_44 : decode m_L_law.2.1 44 = .ok (.if_icmp .ne 122, 3) := by decide +kernel
theorem d_L_law_47 : decode m_L_law.2.1 47 = .ok (.aload_n 1, 1) := by decide +kernel
theorem d_L_law_48 : decode m_L_law.2.1 48 = .ok (.bipush 6, 2) := by decide +kernel
theorem d_L_law_50 : decode m_L_law.2.1 50 = .ok (.invokevirtual 90, 3) := by decide +kernel
theorem d_L_law_53 : decode m_L_law.2.1 53 = .ok (.ifCond .ne 113, 3) := by decide +kernel
theorem d_L_law_56 : decode m_L_law.2.1 56 = .ok (.aload_n 1, 1) := by decide +kernel
theorem d_L_law_57 : decode m_L_law.2.1 57 = .ok (.invokevirtual 105, 3) := by decide +kernel
theorem d_L_law_60 : decode m_L_law.2.1 60 = .ok (.ifCond .ne 106, 3) := by decide +kernel
theorem d_L_law_63 : decode m_L_law.2.1 63 = .ok (.aload_n 1, 1) := by decide +kernel
theorem d_L_law_64 : decode m_L_law.2.1 64 = .ok (.invokevirtual 108, 3) := by decide +kernel
theorem d_L_law_67 : decode m_L_law.2.1 67 = .ok (.iconst (-1), 1) := by decide +kernel
theorem d_L_law_68 : decode m_L_law.2.1 68 = .ok (.if_icmp .ne 98, 3) := by decide +kernel
theorem d_L_law_71 : decode m_L_law.2.1 71 = .ok (.aload_n 1, 1) := by decide +kernel
theorem d_L_law_72 : decode m_L_law.2.1 72 = .ok (.iconst 0, 1) := by decide +kernel
theorem d_L_law_73 : decode m_L_law.2.1 73 = .ok (.iconst 0, 1) := by decide +kernel
theorem d_L_law_74 : decode m_L_law.2.1 74 = .ok (.invokevirtual 101, 3) := by decide +kernel
theorem d_L_law_77 : decode m_L_law.2.1 77 = .ok (.iconst (-1), 1) := by decide +kernel
theorem d_L_law_78 : decode m_L_law.2.1 78 = .ok (.if_icmp .ne 88, 3) := by decide +kernel
theorem d_L_law_81 : decode m_L_law.2.1 81 = .ok (.aload_n 1, 1) := by decide +kernel
theorem d_L_law_82 : decode m_L_law.2.1 82 = .ok (.iconst 0, 1) := by decide +kernel
theorem d_L_law_83 : decode m_L_law.2.1 83 = .ok (.invokevirtual 111, 3) := by decide +kernel
theorem d_L_law_86 : decode m_L_law.2.1 86 = .ok (.iconst (-1), 1) := by decide +kernel
theorem d_L_law_87 : decode m_L_law.2.1 87 = .ok (.if_icmp .ne 79, 3) := by decide +kernel
theorem d_L_law_90 : decode m_L_law.2.1 90 = .ok (.aload_n 1, 1) := by decide +kernel
theorem d_L_law_91 : decode m_L_law.2.1 91 = .ok (.invokevirtual 114, 3) := by decide +kernel
theorem d_L_law_94 : decode m_L_law.2.1 94 = .ok (.ifCond .ne 72, 3) := by decide +kernel
theorem d_L_law_97 : decode m_L_law.2.1 97 = .ok (.aload_n 1, 1) := by decide +kernel
theorem d_L_law_98 : decode m_L_law.2.1 98 = .ok (.iconst 0, 1) := by decide +kernel
theorem d_L_law_99 : decode m_L_law.2.1 99 = .ok (.invokevirtual 117, 3) := by decide +kernel
theorem d_L_law_102 : decode m_L_law.2.1 102 = .ok (.iconst 1, 1) := by decide +kernel
theorem d_L_law_103 : decode m_L_law.2.1 103 = .ok (.if_icmp .ne 63, 3) := by decide +kernel
theorem d_L_law_106 : decode m_L_law.2.1 106 = .ok (.aload_n 1, 1) := by decide +kernel
theorem d_L_law_107 : decode m_L_law.2.1 107 = .ok (.iconst 1, 1) := by decide +kernel
theorem d_L_law_108 : decode m_L_law.2.1 108 = .ok (.invokevirtual 117, 3) := by decide +kernel
theorem d_L_law_111 : decode m_L_law.2.1 111 = .ok (.ifCond .ne 55, 3) := by decide +kernel
theorem d_L_law_114 : decode m_L_law.2.1 114 = .ok (.aload_n 1, 1) := by decide +kernel
theorem d_L_law_115 : decode m_L_law.2.1 115 = .ok (.iconst 3, 1) := by decide +kernel
theorem d_L_law_116 : decode m_L_law.2.1 116 = .ok (.invokevirtual 117, 3) := by decide +kernel
theorem d_L_law_119 : decode m_L_law.2.1 119 = .ok (.iconst (-1), 1) := by decide +kernel
theorem d_L_law_120 : decode m_L_law.2.1 120 = .ok (.if_icmp .ne 46, 3) := by decide +kernel
theorem d_L_law_123 : decode m_L_law.2.1 123 = .ok (.aload_n 1, 1) := by decide +kernel
theorem d_L_law_124 : decode m_L_law.2.1 124 = .ok (.invokevirtual 120, 3) := by decide +kernel
theorem d_L_law_127 : decode m_L_law.2.1 127 = .ok (.iconst (-1), 1) := by decide +kernel
theorem d_L_law_128 : decode m_L_law.2.1 128 = .ok (.if_icmp .ne 38, 3) := by decide +kernel
theorem d_L_law_131 : decode m_L_law.2.1 131 = .ok (.aload_n 1, 1) := by decide +kernel
theorem d_L_law_132 : decode m_L_law.2.1 132 = .ok (.invokevirtual 123, 3) := by decide +kernel
theorem d_L_law_135 : decode m_L_law.2.1 135 = .ok (.iconst 1, 1) := by decide +kernel
theorem d_L_law_136 : decode m_L_law.2.1 136 = .ok (.if_icmp .ne 30, 3) := by decide +kernel
theorem d_L_law_139 : decode m_L_law.2.1 139 = .ok (.aload_n 1, 1) := by decide +kernel
theorem d_L_law_140 : decode m_L_law.2.1 140 = .ok (.iconst (-1), 1) := by decide +kernel
theorem d_L_law_141 : decode m_L_law.2.1 141 = .ok (.invokevirtual 126, 3) := by decide +kernel
theorem d_L_law_144 : decode m_L_law.2.1 144 = .ok (.iconst (-1), 1) := by decide +kernel
theorem d_L_law_145 : decode m_L_law.2.1 145 = .ok (.if_icmp .ne 21, 3) := by decide +kernel
theorem d_L_law_148 : decode m_L_law.2.1 148 = .ok (.aload_n 1, 1) := by decide +kernel
theorem d_L_law_149 : decode m_L_law.2.1 149 = .ok (.iconst (-1), 1) := by decide +kernel
theorem d_L_law_150 : decode m_L_law.2.1 150 = .ok (.iconst (-1), 1) := by decide +kernel
theorem d_L_law_151 : decode m_L_law.2.1 151 = .ok (.invokevirtual 129, 3) := by decide +kernel
theorem d_L_law_154 : decode m_L_law.2.1 154 = .ok (.ifCond .ne 12, 3) := by decide +kernel
theorem d_L_law_157 : decode m_L_law.2.1 157 = .ok (.aload_n 1, 1) := by decide +kernel
theorem d_L_law_158 : decode m_L_law.2.1 158 = .ok (.iconst 5, 1) := by decide +kernel
theorem d_L_law_159 : decode m_L_law.2.1 159 = .ok (.iconst 1, 1) := by decide +kernel
theorem d_L_law_160 : decode m_L_law.2.1 160 = .ok (.invokevirtual 132, 3) := by decide +kernel
theorem d_L_law_163 : decode m_L_law.2.1 163 = .ok (.ifCond .eq 5, 3) := by decide +kernel
theorem d_L_law_166 : decode m_L_law.2.1 166 = .ok (.iconst 0, 1) := by decide +kernel
theorem d_L_law_167 : decode m_L_law.2.1 167 = .ok (.ireturn, 1) := by decide +kernel
theorem d_L_law_168 : decode m_L_law.2.1 168 = .ok (.aload_n 1, 1) := by decide +kernel
theorem d_L_law_169 : decode m_L_law.2.1 169 = .ok (.aload_n 2, 1) := by decide +kernel
theorem d_L_law_170 : decode m_L_law.2.1 170 = .ok (.aload_n 3, 1) := by decide +kernel
theorem d_L_law_171 : decode m_L_law.2.1 171 = .ok (.aload_n 0, 1) := by decide +kernel
theorem d_L_law_172 : decode m_L_law.2.1 172 = .ok (.arraylength, 1) := by decide +kernel
theorem d_L_law_173 : decode m_L_law.2.1 173 = .ok (.ifCond .le 9, 3) := by decide +kernel
theorem d_L_law_176 : decode m_L_law.2.1 176 = .ok (.aload_n 0, 1) := by decide +kernel
theorem d_L_law_177 : decode m_L_law.2.1 177 = .ok (.iconst 0, 1) := by decide +kernel
theorem d_L_law_178 : decode m_L_law.2.1 178 = .ok (.iaload, 1) := by decide +kernel
theorem d_L_law_179 : decode m_L_law.2.1 179 = .ok (.goto 6, 3) := by decide +kernel
theorem d_L_law_182 : decode m_L_law.2.1 182 = .ok (.sipush 16417, 3) := by decide +kernel
theorem d_L_law_185 : decode m_L_law.2.1 185 = .ok (.aload_n 0, 1) := by decide +kernel
theorem d_L_law_186 : decode m_L_law.2.1 186 = .ok (.arraylength, 1) := by decide +kernel
theorem d_L_law_187 : decode m_L_law.2.1 187 = .ok (.iconst 1, 1) := by decide +kernel
theorem d_L_law_188 : decode m_L_law.2.1 188 = .ok (.if_icmp .le 9, 3) := by decide +kernel
theorem d_L_law_191 : decode m_L_law.2.1 191 = .ok (.aload_n 0, 1) := by decide +kernel
theorem d_L_law_192 : decode m_L_law.2.1 192 = .ok (.iconst 1, 1) := by decide +kernel
theorem d_L_law_193 : decode m_L_law.2.1 193 = .ok (.iaload, 1) := by decide +kernel
theorem d_L_law_194 : decode m_L_law.2.1 194 = .ok (.goto 5, 3) := by decide +kernel
theorem d_L_law_197 : decode m_L_law.2.1 197 = .ok (.ldc 135, 2) := by decide +kernel
theorem d_L_law_199 : decode m_L_law.2.1 199 = .ok (.invokestatic 136, 3) := by decide +kernel
theorem d_L_law_202 : decode m_L_law.2.1 202 = .ok (.ifCond .ne 5, 3) := by decide +kernel
theorem d_L_law_205 : decode m_L_law.2.1 205 = .ok (.iconst 0, 1) := by decide +kernel
theorem d_L_law_206 : decode m_L_law.2.1 206 = .ok (.ireturn, 1) := by decide +kernel
theorem d_L_law_207 : decode m_L_law.2.1 207 = .ok (.iconst 0, 1) := by decide +kernel
theorem d_L_law_208 : decode m_L_law.2.1 208 = .ok (.istore 6, 2) := by decide +kernel
theorem d_L_law_210 : decode m_L_law.2.1 210 = .ok (.iload 6, 2) := by decide +kernel
theorem d_L_law_212 : decode m_L_law.2.1 212 = .ok (.aload_n 3, 1) := by decide +kernel
theorem d_L_law_213 : decode m_L_law.2.1 213 = .ok (.iconst 0, 1) := by decide +kernel
theorem d_L_law_214 : decode m_L_law.2.1 214 = .ok (.iaload, 1) := by decide +kernel
theorem d_L_law_215 : decode m_L_law.2.1 215 = .ok (.if_icmp .ge 27, 3) := by decide +kernel
theorem d_L_law_218 : decode m_L_law.2.1 218 = .ok (.aload_n 1, 1) := by decide +kernel
theorem d_L_law_219 : decode m_L_law.2.1 219 = .ok (.iload 6, 2) := by decide +kernel
theorem d_L_law_221 : decode m_L_law.2.1 221 = .ok (.invokevirtual 140, 3) := by decide +kernel
theorem d_L_law_224 : decode m_L_law.2.1 224 = .ok (.aload_n 3, 1) := by decide +kernel
theorem d_L_law_225 : decode m_L_law.2.1 225 = .ok (.bipush 8, 2) := by decide +kernel
theorem d_L_law_227 : decode m_L_law.2.1 227 = .ok (.iload 6, 2) := by decide +kernel
theorem d_L_law_229 : decode m_L_law.2.1 229 = .ok (.iadd, 1) := by decide +kernel
theorem d_L_law_230 : decode m_L_law.2.1 230 = .ok (.iaload, 1) := by decide +kernel
theorem d_L_law_231 : decode m_L_law.2.1 231 = .ok (.if_icmp .eq 5, 3) := by decide +kernel
theorem d_L_law_234 : decode m_L_law.2.1 234 = .ok (.iconst 0, 1) := by decide +kernel
theorem d_L_law_235 : decode m_L_law.2.1 235 = .ok (.ireturn, 1) := by decide +kernel
theorem d_L_law_236 : decode m_L_law.2.1 236 = .ok (.iinc 6 1, 3) := by decide +kernel
theorem d_L_law_239 : decode m_L_law.2.1 239 = .ok (.goto (-29), 3) := by decide +kernel
theorem d_L_law_242 : decode m_L_law.2.1 242 = .ok (.iconst 0, 1) := by decide +kernel
theorem d_L_law_243 : decode m_L_law.2.1 243 = .ok (.istore 6, 2) := by decide +kernel
theorem d_L_law_245 : decode m_L_law.2.1 245 = .ok (.iload 6, 2) := by decide +kernel
theorem d_L_law_247 : decode m_L_law.2.1 247 = .ok (.bipush 7, 2) := by decide +kernel
theorem d_L_law_249 : decode m_L_law.2.1 249 = .ok (.if_icmp .ge 94, 3) := by decide +kernel
theorem d_L_law_252 : decode m_L_law.2.1 252 = .ok (.aload_n 1, 1) := by decide +kernel
theorem d_L_law_253 : decode m_L_law.2.1 253 = .ok (.iload 6, 2) := by decide +kernel
theorem d_L_law_255 : decode m_L_law.2.1 255 = .ok (.iconst 0, 1) := by decide +kernel
theorem d_L_law_256 : decode m_L_law.2.1 256 = .ok (.invokestatic 143, 3) := by decide +kernel
theorem d_L_law_259 : decode m_L_law.2.1 259 = .ok (.aload_n 3, 1) := by decide +kernel
theorem d_L_law_260 : decode m_L_law.2.1 260 = .ok (.bipush 12, 2) := by decide +kernel
theorem d_L_law_262 : decode m_L_law.2.1 262 = .ok (.iload 6, 2) := by decide +kernel
theorem d_L_law_264 : decode m_L_law.2.1 264 = .ok (.iadd, 1) := by decide +kernel
theorem d_L_law_265 : decode m_L_law.2.1 265 = .ok (.iaload, 1) := by decide +kernel
theorem d_L_law_266 : decode m_L_law.2.1 266 = .ok (.if_icmp .ne 69, 3) := by decide +kernel
theorem d_L_law_269 : decode m_L_law.2.1 269 = .ok (.aload_n 1, 1) := by decide +kernel
theorem d_L_law_270 : decode m_L_law.2.1 270 = .ok (.iload 6, 2) := by decide +kernel
theorem d_L_law_272 : decode m_L_law.2.1 272 = .ok (.iconst 1, 1) := by decide +kernel
theorem d_L_law_273 : decode m_L_law.2.1 273 = .ok (.invokestatic 143, 3) := by decide +kernel
theorem d_L_law_276 : decode m_L_law.2.1 276 = .ok (.iload 6, 2) := by decide +kernel
theorem d_L_law_278 : decode m_L_law.2.1 278 = .ok (.bipush 6, 2) := by decide +kernel
theorem d_L_law_280 : decode m_L_law.2.1 280 = .ok (.if_icmp .ge 10, 3) := by decide +kernel
theorem d_L_law_283 : decode m_L_law.2.1 283 = .ok (.iload 6, 2) := by decide +kernel
theorem d_L_law_285 : decode m_L_law.2.1 285 = .ok (.iconst 1, 1) := by decide +kernel
theorem d_L_law_286 : decode m_L_law.2.1 286 = .ok (.iadd, 1) := by decide +kernel
theorem d_L_law_287 : decode m_L_law.2.1 287 = .ok (.goto 4, 3) := by decide +kernel
theorem d_L_law_290 : decode m_L_law.2.1 290 = .ok (.iconst 0, 1) := by decide +kernel
theorem d_L_law_291 : decode m_L_law.2.1 291 = .ok (.if_icmp .ne 44, 3) := by decide +kernel
theorem d_L_law_294 : decode m_L_law.2.1 294 = .ok (.aload_n 1, 1) := by decide +kernel
theorem d_L_law_295 : decode m_L_law.2.1 295 = .ok (.iload 6, 2) := by decide +kernel
theorem d_L_law_297 : decode m_L_law.2.1 297 = .ok (.iconst 2, 1) := by decide +kernel
theorem d_L_law_298 : decode m_L_law.2.1 298 = .ok (.invokestatic 143, 3) := by decide +kernel
theorem d_L_law_301 : decode m_L_law.2.1 301 = .ok (.iload 6, 2) := by decide +kernel
theorem d_L_law_303 : decode m_L_law.2.1 303 = .ok (.iconst 1, 1) := by decide +kernel
theorem d_L_law_304 : decode m_L_law.2.1 304 = .ok (.if_icmp .ne 10, 3) := by decide +kernel
theorem d_L_law_307 : decode m_L_law.2.1 307 = .ok (.aload_n 3, 1) := by decide +kernel
theorem d_L_law_308 : decode m_L_law.2.1 308 = .ok (.bipush 11, 2) := by decide +kernel
theorem d_L_law_310 : decode m_L_law.2.1 310 = .ok (.iaload, 1) := by decide +kernel
theorem d_L_law_311 : decode m_L_law.2.1 311 = .ok (.goto 4, 3) := by decide +kernel
theorem d_L_law_314 : decode m_L_law.2.1 314 = .ok (.iconst 0, 1) := by decide +kernel
theorem d_L_law_315 : decode m_L_law.2.1 315 = .ok (.if_icmp .ne 20, 3) := by decide +kernel
theorem d_L_law_318 : decode m_L_law.2.1 318 = .ok (.aload_n 1, 1) := by decide +kernel
theorem d_L_law_319 : decode m_L_law.2.1 319 = .ok (.iload 6, 2) := by decide +kernel
theorem d_L_law_321 : decode m_L_law.2.1 321 = .ok (.iconst 3, 1) := by decide +kernel
theorem d_L_law_322 : decode m_L_law.2.1 322 = .ok (.invokestatic 143, 3) := by decide +kernel
theorem d_L_law_325 : decode m_L_law.2.1 325 = .ok (.aload_n 3, 1) := by decide +kernel
theorem d_L_law_326 : decode m_L_law.2.1 326 = .ok (.bipush 20, 2) := by decide +kernel
theorem d_L_law_328 : decode m_L_law.2.1 328 = .ok (.iload 6, 2) := by decide +kernel
theorem d_L_law_330 : decode m_L_law.2.1 330 = .ok (.iadd, 1) := by decide +kernel
theorem d_L_law_331 : decode m_L_law.2.1 331 = .ok (.iaload, 1) := by decide +kernel
theorem d_L_law_332 : decode m_L_law.2.1 332 = .ok (.if_icmp .eq 5, 3) := by decide +kernel
theorem d_L_law_335 : decode m_L_law.2.1 335 = .ok (.iconst 0, 1) := by decide +kernel
theorem d_L_law_336 : decode m_L_law.2.1 336 = .ok (.ireturn, 1) := by decide +kernel
theorem d_L_law_337 : decode m_L_law.2.1 337 = .ok (.iinc 6 1, 3) := by decide +kernel
theorem d_L_law_340 : decode m_L_law.2.1 340 = .ok (.goto (-95), 3) := by decide +kernel
theorem d_L_law_343 : decode m_L_law.2.1 343 = .ok (.bipush 60, 2) := by decide +kernel
theorem d_L_law_345 : decode m_L_law.2.1 345 = .ok (.newarray .int, 2) := by decide +kernel
theorem d_L_law_347 : decode m_L_law.2.1 347 = .ok (.astore 6, 2) := by decide +kernel
theorem d_L_law_349 : decode m_L_law.2.1 349 = .ok (.iconst 0, 1) := by decide +kernel
theorem d_L_law_350 : decode m_L_law.2.1 350 = .ok (.istore 7, 2) := by decide +kernel
theorem d_L_law_352 : decode m_L_law.2.1 352 = .ok (.iconst 2, 1) := by decide +kernel
theorem d_L_law_353 : decode m_L_law.2.1 353 = .ok (.istore 8, 2) := by decide +kernel
theorem d_L_law_355 : decode m_L_law.2.1 355 = .ok (.iload 8, 2) := by decide +kernel
theorem d_L_law_357 : decode m_L_law.2.1 357 = .ok (.aload_n 0, 1) := by decide +kernel
theorem d_L_law_358 : decode m_L_law.2.1 358 = .ok (.arraylength, 1) := by decide +kernel
theorem d_L_law_359 : decode m_L_law.2.1 359 = .ok (.if_icmp .ge 31, 3) := by decide +kernel
theorem d_L_law_362 : decode m_L_law.2.1 362 = .ok (.iload 7, 2) := by decide +kernel
theorem d_L_law_364 : decode m_L_law.2.1 364 = .ok (.bipush 60, 2) := by decide +kernel
theorem d_L_law_366 : decode m_L_law.2.1 366 = .ok (.if_icmp .ge 24, 3) := by decide +kernel
theorem d_L_law_369 : decode m_L_law.2.1 369 = .ok (.aload 6, 2) := by decide +kernel
theorem d_L_law_371 : decode m_L_law.2.1 371 = .ok (.iload 7, 2) := by decide +kernel
theorem d_L_law_373 : decode m_L_law.2.1 373 = .ok (.aload_n 0, 1) := by decide +kernel
theorem d_L_law_374 : decode m_L_law.2.1 374 = .ok (.iload 8, 2) := by decide +kernel
theorem d_L_law_376 : decode m_L_law.2.1 376 = .ok (.iaload, 1) := by decide +kernel
theorem d_L_law_377 : decode m_L_law.2.1 377 = .ok (.ldc 147, 2) := by decide +kernel
theorem d_L_law_379 : decode m_L_law.2.1 379 = .ok (.ior, 1) := by decide +kernel
theorem d_L_law_380 : decode m_L_law.2.1 380 = .ok (.iastore, 1) := by decide +kernel
theorem d_L_law_381 : decode m_L_law.2.1 381 = .ok (.iinc 7 1, 3) := by decide +kernel
theorem d_L_law_384 : decode m_L_law.2.1 384 = .ok (.iinc 8 1, 3) := by decide +kernel
theorem d_L_law_387 : decode m_L_law.2.1 387 = .ok (.goto (-32), 3) := by decide +kernel
theorem d_L_law_390 : decode m_L_law.2.1 390 = .ok (.aload_n 1, 1) := by decide +kernel
theorem d_L_law_391 : decode m_L_law.2.1 391 = .ok (.aload_n 3, 1) := by decide +kernel
theorem d_L_law_392 : decode m_L_law.2.1 392 = .ok (.aload 4, 2) := by decide +kernel
theorem d_L_law_394 : decode m_L_law.2.1 394 = .ok (.aload 5, 2) := by decide +kernel
theorem d_L_law_396 : decode m_L_law.2.1 396 = .ok (.aload 6, 2) := by decide +kernel
theorem d_L_law_398 : decode m_L_law.2.1 398 = .ok (.bipush 11, 2) := by decide +kernel
theorem d_L_law_400 : decode m_L_law.2.1 400 = .ok (.invokestatic 148, 3) := by decide +kernel
theorem d_L_law_403 : decode m_L_law.2.1 403 = .ok (.istore 8, 2) := by decide +kernel
theorem d_L_law_405 : decode m_L_law.2.1 405 = .ok (.iload 8, 2) := by decide +kernel
theorem d_L_law_407 : decode m_L_law.2.1 407 = .ok (.ifCond .lt 15, 3) := by decide +kernel
theorem d_L_law_410 : decode m_L_law.2.1 410 = .ok (.aload_n 1, 1) := by decide +kernel
theorem d_L_law_411 : decode m_L_law.2.1 411 = .ok (.invokevirtual 105, 3) := by decide +kernel
theorem d_L_law_414 : decode m_L_law.2.1 414 = .ok (.aload 5, 2) := by decide +kernel
theorem d_L_law_416 : decode m_L_law.2.1 416 = .ok (.bipush 49, 2) := by decide +kernel
theorem d_L_law_418 : decode m_L_law.2.1 418 = .ok (.iaload, 1) := by decide +kernel
theorem d_L_law_419 : decode m_L_law.2.1 419 = .ok (.if_icmp .eq 5, 3) := by decide +kernel
theorem d_L_law_422 : decode m_L_law.2.1 422 = .ok (.iconst 0, 1) := by decide +kernel
theorem d_L_law_423 : decode m_L_law.2.1 423 = .ok (.ireturn, 1) := by decide +kernel
theorem d_L_law_424 : decode m_L_law.2.1 424 = .ok (.iload 8, 2) := by decide +kernel
theorem d_L_law_426 : decode m_L_law.2.1 426 = .ok (.istore 9, 2) := by decide +kernel
theorem d_L_law_428 : decode m_L_law.2.1 428 = .ok (.iload 9, 2) := by decide +kernel
theorem d_L_law_430 : decode m_L_law.2.1 430 = .ok (.ifCond .lt 404, 3) := by decide +kernel
theorem d_L_law_433 : decode m_L_law.2.1 433 = .ok (.aload_n 3, 1) := by decide +kernel
theorem d_L_law_434 : decode m_L_law.2.1 434 = .ok (.aload 4, 2) := by decide +kernel
theorem d_L_law_436 : decode m_L_law.2.1 436 = .ok (.iload 9, 2) := by decide +kernel
theorem d_L_law_438 : decode m_L_law.2.1 438 = .ok (.aload 5, 2) := by decide +kernel
theorem d_L_law_440 : decode m_L_law.2.1 440 = .ok (.invokestatic 93, 3) := by decide +kernel
theorem d_L_law_443 : decode m_L_law.2.1 443 = .ok (.ifCond .lt 5, 3) := by decide +kernel
theorem d_L_law_446 : decode m_L_law.2.1 446 = .ok (.iconst 0, 1) := by decide +kernel
theorem d_L_law_447 : decode m_L_law.2.1 447 = .ok (.ireturn, 1) := by decide +kernel
theorem d_L_law_448 : decode m_L_law.2.1 448 = .ok (.iconst 0, 1) := by decide +kernel
theorem d_L_law_449 : decode m_L_law.2.1 449 = .ok (.istore 10, 2) := by decide +kernel
theorem d_L_law_451 : decode m_L_law.2.1 451 = .ok (.iload 10, 2) := by decide +kernel
theorem d_L_law_453 : decode m_L_law.2.1 453 = .ok (.iload 9, 2) := by decide +kernel
theorem d_L_law_455 : decode m_L_law.2.1 455 = .ok (.if_icmp .ge 193, 3) := by decide +kernel
theorem d_L_law_458 : decode m_L_law.2.1 458 = .ok (.aload 4, 2) := by decide +kernel
theorem d_L_law_460 : decode m_L_law.2.1 460 = .ok (.iload 10, 2) := by decide +kernel
theorem d_L_law_462 : decode m_L_law.2.1 462 = .ok (.iaload, 1) := by decide +kernel
theorem d_L_law_463 : decode m_L_law.2.1 463 = .ok (.bipush 15, 2) := by decide +kernel
theorem d_L_law_465 : decode m_L_law.2.1 465 = .ok (.iand, 1) := by decide +kernel
theorem d_L_law_466 : decode m_L_law.2.1 466 = .ok (.iconst 1, 1) := by decide +kernel
theorem d_L_law_467 : decode m_L_law.2.1 467 = .ok (.if_icmp .ne 7, 3) := by decide +kernel
theorem d_L_law_470 : decode m_L_law.2.1 470 = .ok (.iconst 1, 1) := by decide +kernel
theorem d_L_law_471 : decode m_L_law.2.1 471 = .ok (.goto 4, 3) := by decide +kernel
theorem d_L_law_474 : decode m_L_law.2.1 474 = .ok (.iconst 0, 1) := by decide +kernel
theorem d_L_law_475 : decode m_L_law.2.1 475 = .ok (.istore 11, 2) := by decide +kernel
theorem d_L_law_477 : decode m_L_law.2.1 477 = .ok (.aload_n 1, 1) := by decide +kernel
theorem d_L_law_478 : decode m_L_law.2.1 478 = .ok (.iload 10, 2) := by decide +kernel
theorem d_L_law_480 : decode m_L_law.2.1 480 = .ok (.iconst 0, 1) := by decide +kernel
theorem d_L_law_481 : decode m_L_law.2.1 481 = .ok (.invokestatic 152, 3) := by decide +kernel
theorem d_L_law_484 : decode m_L_law.2.1 484 = .ok (.aload 4, 2) := by decide +kernel
theorem d_L_law_486 : decode m_L_law.2.1 486 = .ok (.iload 10, 2) := by decide +kernel
theorem d_L_law_488 : decode m_L_law.2.1 488 = .ok (.iaload, 1) := by decide +kernel
theorem d_L_law_489 : decode m_L_law.2.1 489 = .ok (.iconst 4, 1) := by decide +kernel
theorem d_L_law_490 : decode m_L_law.2.1 490 = .ok (.ishr, 1) := by decide +kernel
theorem d_L_law_491 : decode m_L_law.2.1 491 = .ok (.if_icmp .ne 149, 3) := by decide +kernel
theorem d_L_law_494 : decode m_L_law.2.1 494 = .ok (.aload_n 1, 1) := by decide +kernel
theorem d_L_law_495 : decode m_L_law.2.1 495 = .ok (.iload 10, 2) := by decide +kernel
theorem d_L_law_497 : decode m_L_law.2.1 497 = .ok (.iconst 1, 1) := by decide +kernel
theorem d_L_law_498 : decode m_L_law.2.1 498 = .ok (.invokestatic 152, 3) := by decide +kernel
theorem d_L_law_501 : decode m_L_law.2.1 501 = .ok (.aload 4, 2) := by decide +kernel
theorem d_L_law_503 : decode m_L_law.2.1 503 = .ok (.iload 10, 2) := by decide +kernel
theorem d_L_law_505 : decode m_L_law.2.1 505 = .ok (.iaload, 1) := by decide +kernel
theorem d_L_law_506 : decode m_L_law.2.1 506 = .ok (.bipush 15, 2) := by decide +kernel
theorem d_L_law_508 : decode m_L_law.2.1 508 = .ok (.iand, 1) := by decide +kernel
theorem d_L_law_509 : decode m_L_law.2.1 509 = .ok (.if_icmp .ne 131, 3) := by decide +kernel
theorem d_L_law_512 : decode m_L_law.2.1 512 = .ok (.aload_n 1, 1) := by decide +kernel
theorem d_L_law_513 : decode m_L_law.2.1 513 = .ok (.iload 10, 2) := by decide +kernel
theorem d_L_law_515 : decode m_L_law.2.1 515 = .ok (.iconst 2, 1) := by decide +kernel
theorem d_L_law_516 : decode m_L_law.2.1 516 = .ok (.invokestatic 152, 3) := by decide +kernel
theorem d_L_law_519 : decode m_L_law.2.1 519 = .ok (.aload 5, 2) := by decide +kernel
theorem d_L_law_521 : decode m_L_law.2.1 521 = .ok (.iload 10, 2) := by decide +kernel
theorem d_L_law_523 : decode m_L_law.2.1 523 = .ok (.iaload, 1) := by decide +kernel
theorem d_L_law_524 : decode m_L_law.2.1 524 = .ok (.if_icmp .ne 116, 3) := by decide +kernel
theorem d_L_law_527 : decode m_L_law.2.1 527 = .ok (.aload_n 1, 1) := by decide +kernel
theorem d_L_law_528 : decode m_L_law.2.1 528 = .ok (.iload 10, 2) := by decide +kernel
theorem d_L_law_530 : decode m_L_law.2.1 530 = .ok (.iconst 3, 1) := by decide +kernel
theorem d_L_law_531 : decode m_L_law.2.1 531 = .ok (.invokestatic 152, 3) := by decide +kernel
theorem d_L_law_534 : decode m_L_law.2.1 534 = .ok (.aload 5, 2) := by decide +kernel
theorem d_L_law_536 : decode m_L_law.2.1 536 = .ok (.bipush 12, 2) := by decide +kernel
theorem d_L_law_538 : decode m_L_law.2.1 538 = .ok (.iload 10, 2) := by decide +kernel
theorem d_L_law_540 : decode m_L_law.2.1 540 = .ok (.iadd, 1) := by decide +kernel
theorem d_L_law_541 : decode m_L_law.2.1 541 = .ok (.iaload, 1) := by decide +kernel
theorem d_L_law_542 : decode m_L_law.2.1 542 = .ok (.if_icmp .ne 98, 3) := by decide +kernel
theorem d_L_law_545 : decode m_L_law.2.1 545 = .ok (.aload_n 1, 1) := by decide +kernel
theorem d_L_law_546 : decode m_L_law.2.1 546 = .ok (.iload 10, 2) := by decide +kernel
theorem d_L_law_548 : decode m_L_law.2.1 548 = .ok (.iconst 4, 1) := by decide +kernel
theorem d_L_law_549 : decode m_L_law.2.1 549 = .ok (.invokestatic 152, 3) := by decide +kernel
theorem d_L_law_552 : decode m_L_law.2.1 552 = .ok (.aload 5, 2) := by decide +kernel
theorem d_L_law_554 : decode m_L_law.2.1 554 = .ok (.bipush 24, 2) := by decide +kernel
theorem d_L_law_556 : decode m_L_law.2.1 556 = .ok (.iload 10, 2) := by decide +kernel
theorem d_L_law_558 : decode m_L_law.2.1 558 = .ok (.iadd, 1) := by decide +kernel
theorem d_L_law_559 : decode m_L_law.2.1 559 = .ok (.iaload, 1) := by decide +kernel
theorem d_L_law_560 : decode m_L_law.2.1 560 = .ok (.if_icmp .ne 80, 3) := by decide +kernel
theorem d_L_law_563 : decode m_L_law.2.1 563 = .ok (.aload_n 1, 1) := by decide +kernel
theorem d_L_law_564 : decode m_L_law.2.1 564 = .ok (.iload 10, 2) := by decide +kernel
theorem d_L_law_566 : decode m_L_law.2.1 566 = .ok (.iconst 5, 1) := by decide +kernel
theorem d_L_law_567 : decode m_L_law.2.1 567 = .ok (.invokestatic 152, 3) := by decide +kernel
theorem d_L_law_570 : decode m_L_law.2.1 570 = .ok (.aload_n 3, 1) := by decide +kernel
theorem d_L_law_571 : decode m_L_law.2.1 571 = .ok (.aload 5, 2) := by decide +kernel
theorem d_L_law_573 : decode m_L_law.2.1 573 = .ok (.iload 10, 2) := by decide +kernel
theorem d_L_law_575 : decode m_L_law.2.1 575 = .ok (.iload 9, 2) := by decide +kernel
theorem d_L_law_577 : decode m_L_law.2.1 577 = .ok (.invokestatic 155, 3) := by decide +kernel
theorem d_L_law_580 : decode m_L_law.2.1 580 = .ok (.if_icmp .ne 60, 3) := by decide +kernel
theorem d_L_law_583 : decode m_L_law.2.1 583 = .ok (.aload_n 1, 1) := by decide +kernel
theorem d_L_law_584 : decode m_L_law.2.1 584 = .ok (.iload 10, 2) := by decide +kernel
theorem d_L_law_586 : decode m_L_law.2.1 586 = .ok (.bipush 6, 2) := by decide +kernel
theorem d_L_law_588 : decode m_L_law.2.1 588 = .ok (.invokestatic 152, 3) := by decide +kernel
theorem d_L_law_591 : decode m_L_law.2.1 591 = .ok (.iload 11, 2) := by decide +kernel
theorem d_L_law_593 : decode m_L_law.2.1 593 = .ok (.ifCond .eq 16, 3) := by decide +kernel
theorem d_L_law_596 : decode m_L_law.2.1 596 = .ok (.aload 4, 2) := by decide +kernel
theorem d_L_law_598 : decode m_L_law.2.1 598 = .ok (.aload 5, 2) := by decide +kernel
theorem d_L_law_600 : decode m_L_law.2.1 600 = .ok (.iload 10, 2) := by decide +kernel
theorem d_L_law_602 : decode m_L_law.2.1 602 = .ok (.iaload, 1) := by decide +kernel
theorem d_L_law_603 : decode m_L_law.2.1 603 = .ok (.iaload, 1) := by decide +kernel
theorem d_L_law_604 : decode m_L_law.2.1 604 = .ok (.iconst 4, 1) := by decide +kernel
theorem d_L_law_605 : decode m_L_law.2.1 605 = .ok (.ishr, 1) := by decide +kernel
theorem d_L_law_606 : decode m_L_law.2.1 606 = .ok (.goto 4, 3) := by decide +kernel
theorem d_L_law_609 : decode m_L_law.2.1 609 = .ok (.iconst (-1), 1) := by decide +kernel
theorem d_L_law_610 : decode m_L_law.2.1 610 = .ok (.if_icmp .ne 30, 3) := by decide +kernel
theorem d_L_law_613 : decode m_L_law.2.1 613 = .ok (.aload_n 1, 1) := by decide +kernel
theorem d_L_law_614 : decode m_L_law.2.1 614 = .ok (.iload 10, 2) := by decide +kernel
theorem d_L_law_616 : decode m_L_law.2.1 616 = .ok (.bipush 7, 2) := by decide +kernel
theorem d_L_law_618 : decode m_L_law.2.1 618 = .ok (.invokestatic 152, 3) := by decide +kernel
theorem d_L_law_621 : decode m_L_law.2.1 621 = .ok (.iload 11, 2) := by decide +kernel
theorem d_L_law_623 : decode m_L_law.2.1 623 = .ok (.ifCond .eq 13, 3) := by decide +kernel
theorem d_L_law_626 : decode m_L_law.2.1 626 = .ok (.iload 10, 2) := by decide +kernel
theorem d_L_law_628 : decode m_L_law.2.1 628 = .ok (.aload_n 3, 1) := by decide +kernel
theorem d_L_law_629 : decode m_L_law.2.1 629 = .ok (.bipush 11, 2) := by decide +kernel
theorem d_L_law_631 : decode m_L_law.2.1 631 = .ok (.iaload, 1) := by decide +kernel
theorem d_L_law_632 : decode m_L_law.2.1 632 = .ok (.iadd, 1) := by decide +kernel
theorem d_L_law_633 : decode m_L_law.2.1 633 = .ok (.goto 4, 3) := by decide +kernel
theorem d_L_law_636 : decode m_L_law.2.1 636 = .ok (.iconst (-1), 1) := by decide +kernel
theorem d_L_law_637 : decode m_L_law.2.1 637 = .ok (.if_icmp .eq 5, 3) := by decide +kernel
theorem d_L_law_640 : decode m_L_law.2.1 640 = .ok (.iconst 0, 1) := by decide +kernel
theorem d_L_law_641 : decode m_L_law.2.1 641 = .ok (.ireturn, 1) := by decide +kernel
theorem d_L_law_642 : decode m_L_law.2.1 642 = .ok (.iinc 10 1, 3) := by decide +kernel
theorem d_L_law_645 : decode m_L_law.2.1 645 = .ok (.goto (-194), 3) := by decide +kernel
theorem d_L_law_648 : decode m_L_law.2.1 648 = .ok (.aload_n 1, 1) := by decide +kernel
theorem d_L_law_649 : decode m_L_law.2.1 649 = .ok (.iload 9, 2) := by decide +kernel
theorem d_L_law_651 : decode m_L_law.2.1 651 = .ok (.iconst 0, 1) := by decide +kernel
theorem d_L_law_652 : decode m_L_law.2.1 652 = .ok (.invokestatic 152, 3) := by decide +kernel
theorem d_L_law_655 : decode m_L_law.2.1 655 = .ok (.bipush (-7), 2) := by decide +kernel
theorem d_L_law_657 : decode m_L_law.2.1 657 = .ok (.if_icmp .ne 26, 3) := by decide +kernel
theorem d_L_law_660 : decode m_L_law.2.1 660 = .ok (.aload_n 1, 1) := by decide +kernel
theorem d_L_law_661 : decode m_L_law.2.1 661 = .ok (.iconst 0, 1) := by decide +kernel
theorem d_L_law_662 : decode m_L_law.2.1 662 = .ok (.bipush 8, 2) := by decide +kernel
theorem d_L_law_664 : decode m_L_law.2.1 664 = .ok (.invokestatic 152, 3) := by decide +kernel
theorem d_L_law_667 : decode m_L_law.2.1 667 = .ok (.bipush (-7), 2) := by decide +kernel
theorem d_L_law_669 : decode m_L_law.2.1 669 = .ok (.if_icmp .ne 14, 3) := by decide +kernel
theorem d_L_law_672 : decode m_L_law.2.1 672 = .ok (.aload_n 1, 1) := by decide +kernel
theorem d_L_law_673 : decode m_L_law.2.1 673 = .ok (.iconst (-1), 1) := by decide +kernel
theorem d_L_law_674 : decode m_L_law.2.1 674 = .ok (.iconst 0, 1) := by decide +kernel
theorem d_L_law_675 : decode m_L_law.2.1 675 = .ok (.invokestatic 152, 3) := by decide +kernel
theorem d_L_law_678 : decode m_L_law.2.1 678 = .ok (.bipush (-7), 2) := by decide +kernel
theorem d_L_law_680 : decode m_L_law.2.1 680 = .ok (.if_icmp .eq 5, 3) := by decide +kernel
theorem d_L_law_683 : decode m_L_law.2.1 683 = .ok (.iconst 0, 1) := by decide +kernel
theorem d_L_law_684 : decode m_L_law.2.1 684 = .ok (.ireturn, 1) := by decide +kernel
theorem d_L_law_685 : decode m_L_law.2.1 685 = .ok (.iconst 0, 1) := by decide +kernel
theorem d_L_law_686 : decode m_L_law.2.1 686 = .ok (.istore 10, 2) := by decide +kernel
theorem d_L_law_688 : decode m_L_law.2.1 688 = .ok (.iload 10, 2) := by decide +kernel
theorem d_L_law_690 : decode m_L_law.2.1 690 = .ok (.aload_n 3, 1) := by decide +kernel
theorem d_L_law_691 : decode m_L_law.2.1 691 = .ok (.iconst 0, 1) := by decide +kernel
theorem d_L_law_692 : decode m_L_law.2.1 692 = .ok (.iaload, 1) := by decide +kernel
theorem d_L_law_693 : decode m_L_law.2.1 693 = .ok (.if_icmp .ge 122, 3) := by decide +kernel
theorem d_L_law_696 : decode m_L_law.2.1 696 = .ok (.iconst 0, 1) := by decide +kernel
theorem d_L_law_697 : decode m_L_law.2.1 697 = .ok (.istore 11, 2) := by decide +kernel
theorem d_L_law_699 : decode m_L_law.2.1 699 = .ok (.iconst 0, 1) := by decide +kernel
theorem d_L_law_700 : decode m_L_law.2.1 700 = .ok (.istore 12, 2) := by decide +kernel
theorem d_L_law_702 : decode m_L_law.2.1 702 = .ok (.iload 12, 2) := by decide +kernel
theorem d_L_law_704 : decode m_L_law.2.1 704 = .ok (.bipush 7, 2) := by decide +kernel
theorem d_L_law_706 : decode m_L_law.2.1 706 = .ok (.if_icmp .ge 90, 3) := by decide +kernel
theorem d_L_law_709 : decode m_L_law.2.1 709 = .ok (.aload 4, 2) := by decide +kernel
theorem d_L_law_711 : decode m_L_law.2.1 711 = .ok (.iload 9, 2) := by decide +kernel
theorem d_L_law_713 : decode m_L_law.2.1 713 = .ok (.iaload, 1) := by decide +kernel
theorem d_L_law_714 : decode m_L_law.2.1 714 = .ok (.istore 13, 2) := by decide +kernel
theorem d_L_law_716 : decode m_L_law.2.1 716 = .ok (.aload 4, 2) := by decide +kernel
theorem d_L_law_718 : decode m_L_law.2.1 718 = .ok (.iload 9, 2) := by decide +kernel
theorem d_L_law_720 : decode m_L_law.2.1 720 = .ok (.bipush 16, 2) := by decide +kernel
theorem d_L_law_722 : decode m_L_law.2.1 722 = .ok (.iload 10, 2) := by decide +kernel
theorem d_L_law_724 : decode m_L_law.2.1 724 = .ok (.imul, 1) := by decide +kernel
theorem d_L_law_725 : decode m_L_law.2.1 725 = .ok (.iload 12, 2) := by decide +kernel
theorem d_L_law_727 : decode m_L_law.2.1 727 = .ok (.iadd, 1) := by decide +kernel
theorem d_L_law_728 : decode m_L_law.2.1 728 = .ok (.iastore, 1) := by decide +kernel
theorem d_L_law_729 : decode m_L_law.2.1 729 = .ok (.aload_n 3, 1) := by decide +kernel
theorem d_L_law_730 : decode m_L_law.2.1 730 = .ok (.aload 4, 2) := by decide +kernel
theorem d_L_law_732 : decode m_L_law.2.1 732 = .ok (.iload 9, 2) := by decide +kernel
theorem d_L_law_734 : decode m_L_law.2.1 734 = .ok (.iconst 1, 1) := by decide +kernel
theorem d_L_law_735 : decode m_L_law.2.1 735 = .ok (.iadd, 1) := by decide +kernel
theorem d_L_law_736 : decode m_L_law.2.1 736 = .ok (.aload 5, 2) := by decide +kernel
theorem d_L_law_738 : decode m_L_law.2.1 738 = .ok (.invokestatic 93, 3) := by decide +kernel
theorem d_L_law_741 : decode m_L_law.2.1 741 = .ok (.ifCond .ge 7, 3) := by decide +kernel
theorem d_L_law_744 : decode m_L_law.2.1 744 = .ok (.iconst 1, 1) := by decide +kernel
theorem d_L_law_745 : decode m_L_law.2.1 745 = .ok (.goto 4, 3) := by decide +kernel
theorem d_L_law_748 : decode m_L_law.2.1 748 = .ok (.iconst 0, 1) := by decide +kernel
theorem d_L_law_749 : decode m_L_law.2.1 749 = .ok (.istore 14, 2) := by decide +kernel
theorem d_L_law_751 : decode m_L_law.2.1 751 = .ok (.aload_n 1, 1) := by decide +kernel
theorem d_L_law_752 : decode m_L_law.2.1 752 = .ok (.iload 10, 2) := by decide +kernel
theorem d_L_law_754 : decode m_L_law.2.1 754 = .ok (.iload 12, 2) := by decide +kernel
theorem d_L_law_756 : decode m_L_law.2.1 756 = .ok (.invokevirtual 97, 3) := by decide +kernel
theorem d_L_law_759 : decode m_L_law.2.1 759 = .ok (.aload 5, 2) := by decide +kernel
theorem d_L_law_761 : decode m_L_law.2.1 761 = .ok (.bipush 48, 2) := by decide +kernel
theorem d_L_law_763 : decode m_L_law.2.1 763 = .ok (.iaload, 1) := by decide +kernel
theorem d_L_law_764 : decode m_L_law.2.1 764 = .ok (.if_icmp .eq 5, 3) := by decide +kernel
theorem d_L_law_767 : decode m_L_law.2.1 767 = .ok (.iconst 0, 1) := by decide +kernel
theorem d_L_law_768 : decode m_L_law.2.1 768 = .ok (.ireturn, 1) := by decide +kernel
theorem d_L_law_769 : decode m_L_law.2.1 769 = .ok (.iload 14, 2) := by decide +kernel
theorem d_L_law_771 : decode m_L_law.2.1 771 = .ok (.ifCond .eq 12, 3) := by decide +kernel
theorem d_L_law_774 : decode m_L_law.2.1 774 = .ok (.iload 11, 2) := by decide +kernel
theorem d_L_law_776 : decode m_L_law.2.1 776 = .ok (.iconst 1, 1) := by decide +kernel
theorem d_L_law_777 : decode m_L_law.2.1 777 = .ok (.iload 12, 2) := by decide +kernel
theorem d_L_law_779 : decode m_L_law.2.1 779 = .ok (.ishl, 1) := by decide +kernel
theorem d_L_law_780 : decode m_L_law.2.1 780 = .ok (.ior, 1) := by decide +kernel
theorem d_L_law_781 : decode m_L_law.2.1 781 = .ok (.istore 11, 2) := by decide +kernel
theorem d_L_law_783 : decode m_L_law.2.1 783 = .ok (.aload 4, 2) := by decide +kernel
theorem d_L_law_785 : decode m_L_law.2.1 785 = .ok (.iload 9, 2) := by decide +kernel
theorem d_L_law_787 : decode m_L_law.2.1 787 = .ok (.iload 13, 2) := by decide +kernel
theorem d_L_law_789 : decode m_L_law.2.1 789 = .ok (.iastore, 1) := by decide +kernel
theorem d_L_law_790 : decode m_L_law.2.1 790 = .ok (.iinc 12 1, 3) := by decide +kernel
theorem d_L_law_793 : decode m_L_law.2.1 793 = .ok (.goto (-91), 3) := by decide +kernel
theorem d_L_law_796 : decode m_L_law.2.1 796 = .ok (.aload_n 1, 1) := by decide +kernel
theorem d_L_law_797 : decode m_L_law.2.1 797 = .ok (.iload 10, 2) := by decide +kernel
theorem d_L_law_799 : decode m_L_law.2.1 799 = .ok (.invokevirtual 111, 3) := by decide +kernel
theorem d_L_law_802 : decode m_L_law.2.1 802 = .ok (.iload 11, 2) := by decide +kernel
theorem d_L_law_804 : decode m_L_law.2.1 804 = .ok (.if_icmp .eq 5, 3) := by decide +kernel
theorem d_L_law_807 : decode m_L_law.2.1 807 = .ok (.iconst 0, 1) := by decide +kernel
theorem d_L_law_808 : decode m_L_law.2.1 808 = .ok (.ireturn, 1) := by decide +kernel
theorem d_L_law_809 : decode m_L_law.2.1 809 = .ok (.iinc 10 1, 3) := by decide +kernel
theorem d_L_law_812 : decode m_L_law.2.1 812 = .ok (.goto (-124), 3) := by decide +kernel
theorem d_L_law_815 : decode m_L_law.2.1 815 = .ok (.aload_n 1, 1) := by decide +kernel
theorem d_L_law_816 : decode m_L_law.2.1 816 = .ok (.invokevirtual 108, 3) := by decide +kernel
theorem d_L_law_819 : decode m_L_law.2.1 819 = .ok (.iload 9, 2) := by decide +kernel
theorem d_L_law_821 : decode m_L_law.2.1 821 = .ok (.iconst 1, 1) := by decide +kernel
theorem d_L_law_822 : decode m_L_law.2.1 822 = .ok (.isub, 1) := by decide +kernel
theorem d_L_law_823 : decode m_L_law.2.1 823 = .ok (.if_icmp .eq 5, 3) := by decide +kernel
theorem d_L_law_826 : decode m_L_law.2.1 826 = .ok (.iconst 0, 1) := by decide +kernel
theorem d_L_law_827 : decode m_L_law.2.1 827 = .ok (.ireturn, 1) := by decide +kernel
theorem d_L_law_828 : decode m_L_law.2.1 828 = .ok (.iinc 9 (-1), 3) := by decide +kernel
theorem d_L_law_831 : decode m_L_law.2.1 831 = .ok (.goto (-403), 3) := by decide +kernel
theorem d_L_law_834 : decode m_L_law.2.1 834 = .ok (.aload_n 1, 1) := by decide +kernel
theorem d_L_law_835 : decode m_L_law.2.1 835 = .ok (.aload_n 3, 1) := by decide +kernel
theorem d_L_law_836 : decode m_L_law.2.1 836 = .ok (.iconst 0, 1) := by decide +kernel
theorem d_L_law_837 : decode m_L_law.2.1 837 = .ok (.iaload, 1) := by decide +kernel
theorem d_L_law_838 : decode m_L_law.2.1 838 = .ok (.invokevirtual 140, 3) := by decide +kernel
theorem d_L_law_841 : decode m_L_law.2.1 841 = .ok (.iconst (-1), 1) := by decide +kernel
theorem d_L_law_842 : decode m_L_law.2.1 842 = .ok (.if_icmp .ne 71, 3) := by decide +kernel
theorem d_L_law_845 : decode m_L_law.2.1 845 = .ok (.aload_n 1, 1) := by decide +kernel
theorem d_L_law_846 : decode m_L_law.2.1 846 = .ok (.bipush 7, 2) := by decide +kernel
theorem d_L_law_848 : decode m_L_law.2.1 848 = .ok (.iconst 0, 1) := by decide +kernel
theorem d_L_law_849 : decode m_L_law.2.1 849 = .ok (.invokestatic 143, 3) := by decide +kernel
theorem d_L_law_852 : decode m_L_law.2.1 852 = .ok (.bipush (-7), 2) := by decide +kernel
theorem d_L_law_854 : decode m_L_law.2.1 854 = .ok (.if_icmp .ne 59, 3) := by decide +kernel
theorem d_L_law_857 : decode m_L_law.2.1 857 = .ok (.aload_n 1, 1) := by decide +kernel
theorem d_L_law_858 : decode m_L_law.2.1 858 = .ok (.iconst 0, 1) := by decide +kernel
theorem d_L_law_859 : decode m_L_law.2.1 859 = .ok (.iconst 4, 1) := by decide +kernel
theorem d_L_law_860 : decode m_L_law.2.1 860 = .ok (.invokestatic 143, 3) := by decide +kernel
theorem d_L_law_863 : decode m_L_law.2.1 863 = .ok (.bipush (-7), 2) := by decide +kernel
theorem d_L_law_865 : decode m_L_law.2.1 865 = .ok (.if_icmp .ne 48, 3) := by decide +kernel
theorem d_L_law_868 : decode m_L_law.2.1 868 = .ok (.aload_n 1, 1) := by decide +kernel
theorem d_L_law_869 : decode m_L_law.2.1 869 = .ok (.aload_n 3, 1) := by decide +kernel
theorem d_L_law_870 : decode m_L_law.2.1 870 = .ok (.iconst 0, 1) := by decide +kernel
theorem d_L_law_871 : decode m_L_law.2.1 871 = .ok (.iaload, 1) := by decide +kernel
theorem d_L_law_872 : decode m_L_law.2.1 872 = .ok (.iconst 0, 1) := by decide +kernel
theorem d_L_law_873 : decode m_L_law.2.1 873 = .ok (.invokevirtual 101, 3) := by decide +kernel
theorem d_L_law_876 : decode m_L_law.2.1 876 = .ok (.iconst (-1), 1) := by decide +kernel
theorem d_L_law_877 : decode m_L_law.2.1 877 = .ok (.if_icmp .ne 36, 3) := by decide +kernel
theorem d_L_law_880 : decode m_L_law.2.1 880 = .ok (.aload_n 1, 1) := by decide +kernel
theorem d_L_law_881 : decode m_L_law.2.1 881 = .ok (.iconst 0, 1) := by decide +kernel
theorem d_L_law_882 : decode m_L_law.2.1 882 = .ok (.bipush 7, 2) := by decide +kernel
theorem d_L_law_884 : decode m_L_law.2.1 884 = .ok (.invokevirtual 97, 3) := by decide +kernel
theorem d_L_law_887 : decode m_L_law.2.1 887 = .ok (.iconst (-1), 1) := by decide +kernel
theorem d_L_law_888 : decode m_L_law.2.1 888 = .ok (.if_icmp .ne 25, 3) := by decide +kernel
theorem d_L_law_891 : decode m_L_law.2.1 891 = .ok (.aload_n 1, 1) := by decide +kernel
theorem d_L_law_892 : decode m_L_law.2.1 892 = .ok (.iconst (-1), 1) := by decide +kernel
theorem d_L_law_893 : decode m_L_law.2.1 893 = .ok (.invokevirtual 111, 3) := by decide +kernel
theorem d_L_law_896 : decode m_L_law.2.1 896 = .ok (.iconst (-1), 1) := by decide +kernel
theorem d_L_law_897 : decode m_L_law.2.1 897 = .ok (.if_icmp .ne 16, 3) := by decide +kernel
theorem d_L_law_900 : decode m_L_law.2.1 900 = .ok (.aload_n 1, 1) := by decide +kernel
theorem d_L_law_901 : decode m_L_law.2.1 901 = .ok (.bipush 6, 2) := by decide +kernel
theorem d_L_law_903 : decode m_L_law.2.1 903 = .ok (.invokevirtual 90, 3) := by decide +kernel
theorem d_L_law_906 : decode m_L_law.2.1 906 = .ok (.ifCond .ne 7, 3) := by decide +kernel
theorem d_L_law_909 : decode m_L_law.2.1 909 = .ok (.iconst 1, 1) := by decide +kernel
theorem d_L_law_910 : decode m_L_law.2.1 910 = .ok (.goto 4, 3) := by decide +kernel
theorem d_L_law_913 : decode m_L_law.2.1 913 = .ok (.iconst 0, 1) := by decide +kernel
theorem d_L_law_914 : decode m_L_law.2.1 914 = .ok (.ireturn, 1) := by decide +kernel
