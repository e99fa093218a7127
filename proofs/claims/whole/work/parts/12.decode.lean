theorem d7_becomeFurther_0 : decode y7_becomeFurther.2.1 0 = .ok (.iconst 1, 1) := by decide +kernel
theorem d7_becomeFurther_1 : decode y7_becomeFurther.2.1 1 = .ok (.aload_n 1, 1) := by decide +kernel
theorem d7_becomeFurther_2 : decode y7_becomeFurther.2.1 2 = .ok (.getfield 32, 3) := by decide +kernel
theorem d7_becomeFurther_5 : decode y7_becomeFurther.2.1 5 = .ok (.iadd, 1) := by decide +kernel
theorem d7_becomeFurther_6 : decode y7_becomeFurther.2.1 6 = .ok (.istore 4, 2) := by decide +kernel
theorem d7_becomeFurther_8 : decode y7_becomeFurther.2.1 8 = .ok (.iconst 1, 1) := by decide +kernel
theorem d7_becomeFurther_9 : decode y7_becomeFurther.2.1 9 = .ok (.aload_n 1, 1) := by decide +kernel
theorem d7_becomeFurther_10 : decode y7_becomeFurther.2.1 10 = .ok (.getfield 47, 3) := by decide +kernel
theorem d7_becomeFurther_13 : decode y7_becomeFurther.2.1 13 = .ok (.iadd, 1) := by decide +kernel
theorem d7_becomeFurther_14 : decode y7_becomeFurther.2.1 14 = .ok (.istore 5, 2) := by decide +kernel
theorem d7_becomeFurther_16 : decode y7_becomeFurther.2.1 16 = .ok (.aload_n 1, 1) := by decide +kernel
theorem d7_becomeFurther_17 : decode y7_becomeFurther.2.1 17 = .ok (.getfield 44, 3) := by decide +kernel
theorem d7_becomeFurther_20 : decode y7_becomeFurther.2.1 20 = .ok (.i2l, 1) := by decide +kernel
theorem d7_becomeFurther_21 : decode y7_becomeFurther.2.1 21 = .ok (.lstore 6, 2) := by decide +kernel
theorem d7_becomeFurther_23 : decode y7_becomeFurther.2.1 23 = .ok (.aload_n 1, 1) := by decide +kernel
theorem d7_becomeFurther_24 : decode y7_becomeFurther.2.1 24 = .ok (.getfield 41, 3) := by decide +kernel
theorem d7_becomeFurther_27 : decode y7_becomeFurther.2.1 27 = .ok (.tableswitch 328 1 16 #[77, 91, 328, 328, 118, 144, 156, 177, 190, 328, 177, 328, 328, 203, 253, 297], 77) := by decide +kernel
theorem d7_becomeFurther_104 : decode y7_becomeFurther.2.1 104 = .ok (.aload_n 0, 1) := by decide +kernel
theorem d7_becomeFurther_105 : decode y7_becomeFurther.2.1 105 = .ok (.iload_n 3, 1) := by decide +kernel
theorem d7_becomeFurther_106 : decode y7_becomeFurther.2.1 106 = .ok (.iload 4, 2) := by decide +kernel
theorem d7_becomeFurther_108 : decode y7_becomeFurther.2.1 108 = .ok (.iconst 0, 1) := by decide +kernel
theorem d7_becomeFurther_109 : decode y7_becomeFurther.2.1 109 = .ok (.lload 6, 2) := by decide +kernel
theorem d7_becomeFurther_111 : decode y7_becomeFurther.2.1 111 = .ok (.lload 6, 2) := by decide +kernel
theorem d7_becomeFurther_113 : decode y7_becomeFurther.2.1 113 = .ok (.lneg, 1) := by decide +kernel
theorem d7_becomeFurther_114 : decode y7_becomeFurther.2.1 114 = .ok (.invokevirtual 22, 3) := by decide +kernel
theorem d7_becomeFurther_117 : decode y7_becomeFurther.2.1 117 = .ok (.ireturn, 1) := by decide +kernel
theorem d7_becomeFurther_118 : decode y7_becomeFurther.2.1 118 = .ok (.iload 4, 2) := by decide +kernel
theorem d7_becomeFurther_120 : decode y7_becomeFurther.2.1 120 = .ok (.iload 5, 2) := by decide +kernel
theorem d7_becomeFurther_122 : decode y7_becomeFurther.2.1 122 = .ok (.if_icmp .eq 21, 3) := by decide +kernel
theorem d7_becomeFurther_125 : decode y7_becomeFurther.2.1 125 = .ok (.aload_n 0, 1) := by decide +kernel
theorem d7_becomeFurther_126 : decode y7_becomeFurther.2.1 126 = .ok (.iload_n 3, 1) := by decide +kernel
theorem d7_becomeFurther_127 : decode y7_becomeFurther.2.1 127 = .ok (.iload 4, 2) := by decide +kernel
theorem d7_becomeFurther_129 : decode y7_becomeFurther.2.1 129 = .ok (.iload 5, 2) := by decide +kernel
theorem d7_becomeFurther_131 : decode y7_becomeFurther.2.1 131 = .ok (.lconst 0, 1) := by decide +kernel
theorem d7_becomeFurther_132 : decode y7_becomeFurther.2.1 132 = .ok (.lconst 0, 1) := by decide +kernel
theorem d7_becomeFurther_133 : decode y7_becomeFurther.2.1 133 = .ok (.invokevirtual 22, 3) := by decide +kernel
theorem d7_becomeFurther_136 : decode y7_becomeFurther.2.1 136 = .ok (.ifCond .eq 7, 3) := by decide +kernel
theorem d7_becomeFurther_139 : decode y7_becomeFurther.2.1 139 = .ok (.iconst 1, 1) := by decide +kernel
theorem d7_becomeFurther_140 : decode y7_becomeFurther.2.1 140 = .ok (.goto 4, 3) := by decide +kernel
theorem d7_becomeFurther_143 : decode y7_becomeFurther.2.1 143 = .ok (.iconst 0, 1) := by decide +kernel
theorem d7_becomeFurther_144 : decode y7_becomeFurther.2.1 144 = .ok (.ireturn, 1) := by decide +kernel
theorem d7_becomeFurther_145 : decode y7_becomeFurther.2.1 145 = .ok (.iload 4, 2) := by decide +kernel
theorem d7_becomeFurther_147 : decode y7_becomeFurther.2.1 147 = .ok (.iload 5, 2) := by decide +kernel
theorem d7_becomeFurther_149 : decode y7_becomeFurther.2.1 149 = .ok (.if_icmp .ne 20, 3) := by decide +kernel
theorem d7_becomeFurther_152 : decode y7_becomeFurther.2.1 152 = .ok (.aload_n 0, 1) := by decide +kernel
theorem d7_becomeFurther_153 : decode y7_becomeFurther.2.1 153 = .ok (.iload_n 3, 1) := by decide +kernel
theorem d7_becomeFurther_154 : decode y7_becomeFurther.2.1 154 = .ok (.iload 4, 2) := by decide +kernel
theorem d7_becomeFurther_156 : decode y7_becomeFurther.2.1 156 = .ok (.iconst 0, 1) := by decide +kernel
theorem d7_becomeFurther_157 : decode y7_becomeFurther.2.1 157 = .ok (.lconst 0, 1) := by decide +kernel
theorem d7_becomeFurther_158 : decode y7_becomeFurther.2.1 158 = .ok (.lconst 0, 1) := by decide +kernel
theorem d7_becomeFurther_159 : decode y7_becomeFurther.2.1 159 = .ok (.invokevirtual 22, 3) := by decide +kernel
theorem d7_becomeFurther_162 : decode y7_becomeFurther.2.1 162 = .ok (.ifCond .eq 7, 3) := by decide +kernel
theorem d7_becomeFurther_165 : decode y7_becomeFurther.2.1 165 = .ok (.iconst 1, 1) := by decide +kernel
theorem d7_becomeFurther_166 : decode y7_becomeFurther.2.1 166 = .ok (.goto 4, 3) := by decide +kernel
theorem d7_becomeFurther_169 : decode y7_becomeFurther.2.1 169 = .ok (.iconst 0, 1) := by decide +kernel
theorem d7_becomeFurther_170 : decode y7_becomeFurther.2.1 170 = .ok (.ireturn, 1) := by decide +kernel
theorem d7_becomeFurther_171 : decode y7_becomeFurther.2.1 171 = .ok (.aload_n 0, 1) := by decide +kernel
theorem d7_becomeFurther_172 : decode y7_becomeFurther.2.1 172 = .ok (.iload_n 3, 1) := by decide +kernel
theorem d7_becomeFurther_173 : decode y7_becomeFurther.2.1 173 = .ok (.iload 4, 2) := by decide +kernel
theorem d7_becomeFurther_175 : decode y7_becomeFurther.2.1 175 = .ok (.iconst 0, 1) := by decide +kernel
theorem d7_becomeFurther_176 : decode y7_becomeFurther.2.1 176 = .ok (.lload 6, 2) := by decide +kernel
theorem d7_becomeFurther_178 : decode y7_becomeFurther.2.1 178 = .ok (.lconst 0, 1) := by decide +kernel
theorem d7_becomeFurther_179 : decode y7_becomeFurther.2.1 179 = .ok (.invokevirtual 22, 3) := by decide +kernel
theorem d7_becomeFurther_182 : decode y7_becomeFurther.2.1 182 = .ok (.ireturn, 1) := by decide +kernel
theorem d7_becomeFurther_183 : decode y7_becomeFurther.2.1 183 = .ok (.aload_n 0, 1) := by decide +kernel
theorem d7_becomeFurther_184 : decode y7_becomeFurther.2.1 184 = .ok (.iload_n 3, 1) := by decide +kernel
theorem d7_becomeFurther_185 : decode y7_becomeFurther.2.1 185 = .ok (.iload 4, 2) := by decide +kernel
theorem d7_becomeFurther_187 : decode y7_becomeFurther.2.1 187 = .ok (.iconst 0, 1) := by decide +kernel
theorem d7_becomeFurther_188 : decode y7_becomeFurther.2.1 188 = .ok (.lconst 1, 1) := by decide +kernel
theorem d7_becomeFurther_189 : decode y7_becomeFurther.2.1 189 = .ok (.bipush 32, 2) := by decide +kernel
theorem d7_becomeFurther_191 : decode y7_becomeFurther.2.1 191 = .ok (.aload_n 1, 1) := by decide +kernel
theorem d7_becomeFurther_192 : decode y7_becomeFurther.2.1 192 = .ok (.getfield 44, 3) := by decide +kernel
theorem d7_becomeFurther_195 : decode y7_becomeFurther.2.1 195 = .ok (.isub, 1) := by decide +kernel
theorem d7_becomeFurther_196 : decode y7_becomeFurther.2.1 196 = .ok (.lshl, 1) := by decide +kernel
theorem d7_becomeFurther_197 : decode y7_becomeFurther.2.1 197 = .ok (.lconst 1, 1) := by decide +kernel
theorem d7_becomeFurther_198 : decode y7_becomeFurther.2.1 198 = .ok (.lsub, 1) := by decide +kernel
theorem d7_becomeFurther_199 : decode y7_becomeFurther.2.1 199 = .ok (.lconst 0, 1) := by decide +kernel
theorem d7_becomeFurther_200 : decode y7_becomeFurther.2.1 200 = .ok (.invokevirtual 22, 3) := by decide +kernel
theorem d7_becomeFurther_203 : decode y7_becomeFurther.2.1 203 = .ok (.ireturn, 1) := by decide +kernel
theorem d7_becomeFurther_204 : decode y7_becomeFurther.2.1 204 = .ok (.aload_n 0, 1) := by decide +kernel
theorem d7_becomeFurther_205 : decode y7_becomeFurther.2.1 205 = .ok (.iload_n 3, 1) := by decide +kernel
theorem d7_becomeFurther_206 : decode y7_becomeFurther.2.1 206 = .ok (.iload 4, 2) := by decide +kernel
theorem d7_becomeFurther_208 : decode y7_becomeFurther.2.1 208 = .ok (.iconst 0, 1) := by decide +kernel
theorem d7_becomeFurther_209 : decode y7_becomeFurther.2.1 209 = .ok (.ldc2_w 50, 3) := by decide +kernel
theorem d7_becomeFurther_212 : decode y7_becomeFurther.2.1 212 = .ok (.lconst 0, 1) := by decide +kernel
theorem d7_becomeFurther_213 : decode y7_becomeFurther.2.1 213 = .ok (.invokevirtual 22, 3) := by decide +kernel
theorem d7_becomeFurther_216 : decode y7_becomeFurther.2.1 216 = .ok (.ireturn, 1) := by decide +kernel
theorem d7_becomeFurther_217 : decode y7_becomeFurther.2.1 217 = .ok (.aload_n 0, 1) := by decide +kernel
theorem d7_becomeFurther_218 : decode y7_becomeFurther.2.1 218 = .ok (.iload_n 3, 1) := by decide +kernel
theorem d7_becomeFurther_219 : decode y7_becomeFurther.2.1 219 = .ok (.iload 4, 2) := by decide +kernel
theorem d7_becomeFurther_221 : decode y7_becomeFurther.2.1 221 = .ok (.iconst 0, 1) := by decide +kernel
theorem d7_becomeFurther_222 : decode y7_becomeFurther.2.1 222 = .ok (.ldc2_w 52, 3) := by decide +kernel
theorem d7_becomeFurther_225 : decode y7_becomeFurther.2.1 225 = .ok (.lconst 0, 1) := by decide +kernel
theorem d7_becomeFurther_226 : decode y7_becomeFurther.2.1 226 = .ok (.invokevirtual 22, 3) := by decide +kernel
theorem d7_becomeFurther_229 : decode y7_becomeFurther.2.1 229 = .ok (.ireturn, 1) := by decide +kernel
theorem d7_becomeFurther_230 : decode y7_becomeFurther.2.1 230 = .ok (.iload 4, 2) := by decide +kernel
theorem d7_becomeFurther_232 : decode y7_becomeFurther.2.1 232 = .ok (.iload 5, 2) := by decide +kernel
theorem d7_becomeFurther_234 : decode y7_becomeFurther.2.1 234 = .ok (.if_icmp .eq 44, 3) := by decide +kernel
theorem d7_becomeFurther_237 : decode y7_becomeFurther.2.1 237 = .ok (.iload_n 3, 1) := by decide +kernel
theorem d7_becomeFurther_238 : decode y7_becomeFurther.2.1 238 = .ok (.ifCond .ne 40, 3) := by decide +kernel
theorem d7_becomeFurther_241 : decode y7_becomeFurther.2.1 241 = .ok (.iload_n 2, 1) := by decide +kernel
theorem d7_becomeFurther_242 : decode y7_becomeFurther.2.1 242 = .ok (.ifCond .eq 20, 3) := by decide +kernel
theorem d7_becomeFurther_245 : decode y7_becomeFurther.2.1 245 = .ok (.aload_n 0, 1) := by decide +kernel
theorem d7_becomeFurther_246 : decode y7_becomeFurther.2.1 246 = .ok (.iload 4, 2) := by decide +kernel
theorem d7_becomeFurther_248 : decode y7_becomeFurther.2.1 248 = .ok (.iload 5, 2) := by decide +kernel
theorem d7_becomeFurther_250 : decode y7_becomeFurther.2.1 250 = .ok (.ldc2_w 54, 3) := by decide +kernel
theorem d7_becomeFurther_253 : decode y7_becomeFurther.2.1 253 = .ok (.invokevirtual 26, 3) := by decide +kernel
theorem d7_becomeFurther_256 : decode y7_becomeFurther.2.1 256 = .ok (.ifCond .eq 22, 3) := by decide +kernel
theorem d7_becomeFurther_259 : decode y7_becomeFurther.2.1 259 = .ok (.goto 15, 3) := by decide +kernel
theorem d7_becomeFurther_262 : decode y7_becomeFurther.2.1 262 = .ok (.aload_n 0, 1) := by decide +kernel
theorem d7_becomeFurther_263 : decode y7_becomeFurther.2.1 263 = .ok (.iload 5, 2) := by decide +kernel
theorem d7_becomeFurther_265 : decode y7_becomeFurther.2.1 265 = .ok (.iload 4, 2) := by decide +kernel
theorem d7_becomeFurther_267 : decode y7_becomeFurther.2.1 267 = .ok (.lconst 0, 1) := by decide +kernel
theorem d7_becomeFurther_268 : decode y7_becomeFurther.2.1 268 = .ok (.invokevirtual 26, 3) := by decide +kernel
theorem d7_becomeFurther_271 : decode y7_becomeFurther.2.1 271 = .ok (.ifCond .eq 7, 3) := by decide +kernel
theorem d7_becomeFurther_274 : decode y7_becomeFurther.2.1 274 = .ok (.iconst 1, 1) := by decide +kernel
theorem d7_becomeFurther_275 : decode y7_becomeFurther.2.1 275 = .ok (.goto 4, 3) := by decide +kernel
theorem d7_becomeFurther_278 : decode y7_becomeFurther.2.1 278 = .ok (.iconst 0, 1) := by decide +kernel
theorem d7_becomeFurther_279 : decode y7_becomeFurther.2.1 279 = .ok (.ireturn, 1) := by decide +kernel
theorem d7_becomeFurther_280 : decode y7_becomeFurther.2.1 280 = .ok (.iload_n 3, 1) := by decide +kernel
theorem d7_becomeFurther_281 : decode y7_becomeFurther.2.1 281 = .ok (.ifCond .ne 41, 3) := by decide +kernel
theorem d7_becomeFurther_284 : decode y7_becomeFurther.2.1 284 = .ok (.iload_n 2, 1) := by decide +kernel
theorem d7_becomeFurther_285 : decode y7_becomeFurther.2.1 285 = .ok (.ifCond .eq 20, 3) := by decide +kernel
theorem d7_becomeFurther_288 : decode y7_becomeFurther.2.1 288 = .ok (.aload_n 0, 1) := by decide +kernel
theorem d7_becomeFurther_289 : decode y7_becomeFurther.2.1 289 = .ok (.iload 4, 2) := by decide +kernel
theorem d7_becomeFurther_291 : decode y7_becomeFurther.2.1 291 = .ok (.iconst 0, 1) := by decide +kernel
theorem d7_becomeFurther_292 : decode y7_becomeFurther.2.1 292 = .ok (.lload 6, 2) := by decide +kernel
theorem d7_becomeFurther_294 : decode y7_becomeFurther.2.1 294 = .ok (.lconst 1, 1) := by decide +kernel
theorem d7_becomeFurther_295 : decode y7_becomeFurther.2.1 295 = .ok (.lsub, 1) := by decide +kernel
theorem d7_becomeFurther_296 : decode y7_becomeFurther.2.1 296 = .ok (.invokevirtual 26, 3) := by decide +kernel
theorem d7_becomeFurther_299 : decode y7_becomeFurther.2.1 299 = .ok (.ifCond .eq 23, 3) := by decide +kernel
theorem d7_becomeFurther_302 : decode y7_becomeFurther.2.1 302 = .ok (.goto 16, 3) := by decide +kernel
theorem d7_becomeFurther_305 : decode y7_becomeFurther.2.1 305 = .ok (.aload_n 0, 1) := by decide +kernel
theorem d7_becomeFurther_306 : decode y7_becomeFurther.2.1 306 = .ok (.iconst 0, 1) := by decide +kernel
theorem d7_becomeFurther_307 : decode y7_becomeFurther.2.1 307 = .ok (.iload 4, 2) := by decide +kernel
theorem d7_becomeFurther_309 : decode y7_becomeFurther.2.1 309 = .ok (.lload 6, 2) := by decide +kernel
theorem d7_becomeFurther_311 : decode y7_becomeFurther.2.1 311 = .ok (.lneg, 1) := by decide +kernel
theorem d7_becomeFurther_312 : decode y7_becomeFurther.2.1 312 = .ok (.invokevirtual 26, 3) := by decide +kernel
theorem d7_becomeFurther_315 : decode y7_becomeFurther.2.1 315 = .ok (.ifCond .eq 7, 3) := by decide +kernel
theorem d7_becomeFurther_318 : decode y7_becomeFurther.2.1 318 = .ok (.iconst 1, 1) := by decide +kernel
theorem d7_becomeFurther_319 : decode y7_becomeFurther.2.1 319 = .ok (.goto 4, 3) := by decide +kernel
theorem d7_becomeFurther_322 : decode y7_becomeFurther.2.1 322 = .ok (.iconst 0, 1) := by decide +kernel
theorem d7_becomeFurther_323 : decode y7_becomeFurther.2.1 323 = .ok (.ireturn, 1) := by decide +kernel
theorem d7_becomeFurther_324 : decode y7_becomeFurther.2.1 324 = .ok (.iload_n 2, 1) := by decide +kernel
theorem d7_becomeFurther_325 : decode y7_becomeFurther.2.1 325 = .ok (.ifCond .eq 28, 3) := by decide +kernel
theorem d7_becomeFurther_328 : decode y7_becomeFurther.2.1 328 = .ok (.iload 4, 2) := by decide +kernel
theorem d7_becomeFurther_330 : decode y7_becomeFurther.2.1 330 = .ok (.iload 5, 2) := by decide +kernel
theorem d7_becomeFurther_332 : decode y7_becomeFurther.2.1 332 = .ok (.if_icmp .eq 21, 3) := by decide +kernel
theorem d7_becomeFurther_335 : decode y7_becomeFurther.2.1 335 = .ok (.aload_n 0, 1) := by decide +kernel
theorem d7_becomeFurther_336 : decode y7_becomeFurther.2.1 336 = .ok (.iload_n 3, 1) := by decide +kernel
theorem d7_becomeFurther_337 : decode y7_becomeFurther.2.1 337 = .ok (.iload 4, 2) := by decide +kernel
theorem d7_becomeFurther_339 : decode y7_becomeFurther.2.1 339 = .ok (.iload 5, 2) := by decide +kernel
theorem d7_becomeFurther_341 : decode y7_becomeFurther.2.1 341 = .ok (.lconst 0, 1) := by decide +kernel
theorem d7_becomeFurther_342 : decode y7_becomeFurther.2.1 342 = .ok (.lconst 0, 1) := by decide +kernel
theorem d7_becomeFurther_343 : decode y7_becomeFurther.2.1 343 = .ok (.invokevirtual 22, 3) := by decide +kernel
theorem d7_becomeFurther_346 : decode y7_becomeFurther.2.1 346 = .ok (.ifCond .eq 7, 3) := by decide +kernel
theorem d7_becomeFurther_349 : decode y7_becomeFurther.2.1 349 = .ok (.iconst 1, 1) := by decide +kernel
theorem d7_becomeFurther_350 : decode y7_becomeFurther.2.1 350 = .ok (.goto 4, 3) := by decide +kernel
theorem d7_becomeFurther_353 : decode y7_becomeFurther.2.1 353 = .ok (.iconst 0, 1) := by decide +kernel
theorem d7_becomeFurther_354 : decode y7_becomeFurther.2.1 354 = .ok (.ireturn, 1) := by decide +kernel
theorem d7_becomeFurther_355 : decode y7_becomeFurther.2.1 355 = .ok (.iconst 0, 1) := by decide +kernel
theorem d7_becomeFurther_356 : decode y7_becomeFurther.2.1 356 = .ok (.ireturn, 1) := by decide +kernel
theorem d2_edgeEnd_0 : decode y2_edgeEnd.2.1 0 = .ok (.aload_n 0, 1) := by decide +kernel
theorem d2_edgeEnd_1 : decode y2_edgeEnd.2.1 1 = .ok (.iload_n 2, 1) := by decide +kernel
theorem d2_edgeEnd_2 : decode y2_edgeEnd.2.1 2 = .ok (.invokevirtual 39, 3) := by decide +kernel
theorem d2_edgeEnd_5 : decode y2_edgeEnd.2.1 5 = .ok (.ifCond .eq 10, 3) := by decide +kernel
theorem d2_edgeEnd_8 : decode y2_edgeEnd.2.1 8 = .ok (.aload_n 0, 1) := by decide +kernel
theorem d2_edgeEnd_9 : decode y2_edgeEnd.2.1 9 = .ok (.getfield 36, 3) := by decide +kernel
theorem d2_edgeEnd_12 : decode y2_edgeEnd.2.1 12 = .ok (.goto 6, 3) := by decide +kernel
theorem d2_edgeEnd_15 : decode y2_edgeEnd.2.1 15 = .ok (.iload_n 1, 1) := by decide +kernel
theorem d2_edgeEnd_16 : decode y2_edgeEnd.2.1 16 = .ok (.iconst 1, 1) := by decide +kernel
theorem d2_edgeEnd_17 : decode y2_edgeEnd.2.1 17 = .ok (.iadd, 1) := by decide +kernel
theorem d2_edgeEnd_18 : decode y2_edgeEnd.2.1 18 = .ok (.ireturn, 1) := by decide +kernel
theorem d5_forgetNeeds_0 : decode y5_forgetNeeds.2.1 0 = .ok (.iconst 0, 1) := by decide +kernel
theorem d5_forgetNeeds_1 : decode y5_forgetNeeds.2.1 1 = .ok (.istore_n 2, 1) := by decide +kernel
theorem d5_forgetNeeds_2 : decode y5_forgetNeeds.2.1 2 = .ok (.iload_n 2, 1) := by decide +kernel
theorem d5_forgetNeeds_3 : decode y5_forgetNeeds.2.1 3 = .ok (.bipush 100, 2) := by decide +kernel
theorem d5_forgetNeeds_5 : decode y5_forgetNeeds.2.1 5 = .ok (.if_icmp .ge 21, 3) := by decide +kernel
theorem d5_forgetNeeds_8 : decode y5_forgetNeeds.2.1 8 = .ok (.aload_n 0, 1) := by decide +kernel
theorem d5_forgetNeeds_9 : decode y5_forgetNeeds.2.1 9 = .ok (.getfield 23, 3) := by decide +kernel
theorem d5_forgetNeeds_12 : decode y5_forgetNeeds.2.1 12 = .ok (.bipush 100, 2) := by decide +kernel
theorem d5_forgetNeeds_14 : decode y5_forgetNeeds.2.1 14 = .ok (.iload_n 1, 1) := by decide +kernel
theorem d5_forgetNeeds_15 : decode y5_forgetNeeds.2.1 15 = .ok (.imul, 1) := by decide +kernel
theorem d5_forgetNeeds_16 : decode y5_forgetNeeds.2.1 16 = .ok (.iload_n 2, 1) := by decide +kernel
theorem d5_forgetNeeds_17 : decode y5_forgetNeeds.2.1 17 = .ok (.iadd, 1) := by decide +kernel
theorem d5_forgetNeeds_18 : decode y5_forgetNeeds.2.1 18 = .ok (.iconst 0, 1) := by decide +kernel
theorem d5_forgetNeeds_19 : decode y5_forgetNeeds.2.1 19 = .ok (.bastore, 1) := by decide +kernel
theorem d5_forgetNeeds_20 : decode y5_forgetNeeds.2.1 20 = .ok (.iinc 2 1, 3) := by decide +kernel
theorem d5_forgetNeeds_23 : decode y5_forgetNeeds.2.1 23 = .ok (.goto (-21), 3) := by decide +kernel
theorem d5_forgetNeeds_26 : decode y5_forgetNeeds.2.1 26 = .ok (.aload_n 0, 1) := by decide +kernel
theorem d5_forgetNeeds_27 : decode y5_forgetNeeds.2.1 27 = .ok (.getfield 26, 3) := by decide +kernel
theorem d5_forgetNeeds_30 : decode y5_forgetNeeds.2.1 30 = .ok (.iload_n 1, 1) := by decide +kernel
theorem d5_forgetNeeds_31 : decode y5_forgetNeeds.2.1 31 = .ok (.iconst 0, 1) := by decide +kernel
theorem d5_forgetNeeds_32 : decode y5_forgetNeeds.2.1 32 = .ok (.iastore, 1) := by decide +kernel
theorem d5_forgetNeeds_33 : decode y5_forgetNeeds.2.1 33 = .ok (.return_, 1) := by decide +kernel
theorem d5_giveAccess_0 : decode y5_giveAccess.2.1 0 = .ok (.aload_n 0, 1) := by decide +kernel
theorem d5_giveAccess_1 : decode y5_giveAccess.2.1 1 = .ok (.getfield 55, 3) := by decide +kernel
theorem d5_giveAccess_4 : decode y5_giveAccess.2.1 4 = .ok (.getfield 113, 3) := by decide +kernel
theorem d5_giveAccess_7 : decode y5_giveAccess.2.1 7 = .ok (.iload_n 1, 1) := by decide +kernel
theorem d5_giveAccess_8 : decode y5_giveAccess.2.1 8 = .ok (.aaload, 1) := by decide +kernel
theorem d5_giveAccess_9 : decode y5_giveAccess.2.1 9 = .ok (.astore_n 2, 1) := by decide +kernel
theorem d5_giveAccess_10 : decode y5_giveAccess.2.1 10 = .ok (.aload_n 2, 1) := by decide +kernel
theorem d5_giveAccess_11 : decode y5_giveAccess.2.1 11 = .ok (.invokevirtual 141, 3) := by decide +kernel
theorem d5_giveAccess_14 : decode y5_giveAccess.2.1 14 = .ok (.ifCond .ne 5, 3) := by decide +kernel
theorem d5_giveAccess_17 : decode y5_giveAccess.2.1 17 = .ok (.iconst 1, 1) := by decide +kernel
theorem d5_giveAccess_18 : decode y5_giveAccess.2.1 18 = .ok (.ireturn, 1) := by decide +kernel
theorem d5_giveAccess_19 : decode y5_giveAccess.2.1 19 = .ok (.aload_n 0, 1) := by decide +kernel
theorem d5_giveAccess_20 : decode y5_giveAccess.2.1 20 = .ok (.getfield 36, 3) := by decide +kernel
theorem d5_giveAccess_23 : decode y5_giveAccess.2.1 23 = .ok (.aload_n 0, 1) := by decide +kernel
theorem d5_giveAccess_24 : decode y5_giveAccess.2.1 24 = .ok (.getfield 11, 3) := by decide +kernel
theorem d5_giveAccess_27 : decode y5_giveAccess.2.1 27 = .ok (.iload_n 1, 1) := by decide +kernel
theorem d5_giveAccess_28 : decode y5_giveAccess.2.1 28 = .ok (.aaload, 1) := by decide +kernel
theorem d5_giveAccess_29 : decode y5_giveAccess.2.1 29 = .ok (.invokevirtual 144, 3) := by decide +kernel
theorem d5_giveAccess_32 : decode y5_giveAccess.2.1 32 = .ok (.iconst 1, 1) := by decide +kernel
theorem d5_giveAccess_33 : decode y5_giveAccess.2.1 33 = .ok (.aload_n 2, 1) := by decide +kernel
theorem d5_giveAccess_34 : decode y5_giveAccess.2.1 34 = .ok (.getfield 148, 3) := by decide +kernel
theorem d5_giveAccess_37 : decode y5_giveAccess.2.1 37 = .ok (.iadd, 1) := by decide +kernel
theorem d5_giveAccess_38 : decode y5_giveAccess.2.1 38 = .ok (.istore_n 3, 1) := by decide +kernel
theorem d5_giveAccess_39 : decode y5_giveAccess.2.1 39 = .ok (.aload_n 0, 1) := by decide +kernel
theorem d5_giveAccess_40 : decode y5_giveAccess.2.1 40 = .ok (.getfield 43, 3) := by decide +kernel
theorem d5_giveAccess_43 : decode y5_giveAccess.2.1 43 = .ok (.aload_n 0, 1) := by decide +kernel
theorem d5_giveAccess_44 : decode y5_giveAccess.2.1 44 = .ok (.getfield 36, 3) := by decide +kernel
theorem d5_giveAccess_47 : decode y5_giveAccess.2.1 47 = .ok (.iconst 0, 1) := by decide +kernel
theorem d5_giveAccess_48 : decode y5_giveAccess.2.1 48 = .ok (.iload_n 3, 1) := by decide +kernel
theorem d5_giveAccess_49 : decode y5_giveAccess.2.1 49 = .ok (.aload_n 2, 1) := by decide +kernel
theorem d5_giveAccess_50 : decode y5_giveAccess.2.1 50 = .ok (.getfield 151, 3) := by decide +kernel
theorem d5_giveAccess_53 : decode y5_giveAccess.2.1 53 = .ok (.i2l, 1) := by decide +kernel
theorem d5_giveAccess_54 : decode y5_giveAccess.2.1 54 = .ok (.invokevirtual 154, 3) := by decide +kernel
theorem d5_giveAccess_57 : decode y5_giveAccess.2.1 57 = .ok (.ifCond .eq 46, 3) := by decide +kernel
theorem d5_giveAccess_60 : decode y5_giveAccess.2.1 60 = .ok (.aload_n 0, 1) := by decide +kernel
theorem d5_giveAccess_61 : decode y5_giveAccess.2.1 61 = .ok (.iload_n 1, 1) := by decide +kernel
theorem d5_giveAccess_62 : decode y5_giveAccess.2.1 62 = .ok (.invokevirtual 158, 3) := by decide +kernel
theorem d5_giveAccess_65 : decode y5_giveAccess.2.1 65 = .ok (.ifCond .eq 38, 3) := by decide +kernel
theorem d5_giveAccess_68 : decode y5_giveAccess.2.1 68 = .ok (.aload_n 0, 1) := by decide +kernel
theorem d5_giveAccess_69 : decode y5_giveAccess.2.1 69 = .ok (.getfield 43, 3) := by decide +kernel
theorem d5_giveAccess_72 : decode y5_giveAccess.2.1 72 = .ok (.aload_n 0, 1) := by decide +kernel
theorem d5_giveAccess_73 : decode y5_giveAccess.2.1 73 = .ok (.getfield 36, 3) := by decide +kernel
theorem d5_giveAccess_76 : decode y5_giveAccess.2.1 76 = .ok (.iload_n 3, 1) := by decide +kernel
theorem d5_giveAccess_77 : decode y5_giveAccess.2.1 77 = .ok (.aload_n 2, 1) := by decide +kernel
theorem d5_giveAccess_78 : decode y5_giveAccess.2.1 78 = .ok (.invokevirtual 161, 3) := by decide +kernel
theorem d5_giveAccess_81 : decode y5_giveAccess.2.1 81 = .ok (.aload_n 2, 1) := by decide +kernel
theorem d5_giveAccess_82 : decode y5_giveAccess.2.1 82 = .ok (.invokevirtual 164, 3) := by decide +kernel
theorem d5_giveAccess_85 : decode y5_giveAccess.2.1 85 = .ok (.invokevirtual 154, 3) := by decide +kernel
theorem d5_giveAccess_88 : decode y5_giveAccess.2.1 88 = .ok (.ifCond .eq 15, 3) := by decide +kernel
theorem d5_giveAccess_91 : decode y5_giveAccess.2.1 91 = .ok (.aload_n 0, 1) := by decide +kernel
theorem d5_giveAccess_92 : decode y5_giveAccess.2.1 92 = .ok (.iload_n 1, 1) := by decide +kernel
theorem d5_giveAccess_93 : decode y5_giveAccess.2.1 93 = .ok (.invokevirtual 158, 3) := by decide +kernel
theorem d5_giveAccess_96 : decode y5_giveAccess.2.1 96 = .ok (.ifCond .eq 7, 3) := by decide +kernel
theorem d5_giveAccess_99 : decode y5_giveAccess.2.1 99 = .ok (.iconst 1, 1) := by decide +kernel
theorem d5_giveAccess_100 : decode y5_giveAccess.2.1 100 = .ok (.goto 4, 3) := by decide +kernel
theorem d5_giveAccess_103 : decode y5_giveAccess.2.1 103 = .ok (.iconst 0, 1) := by decide +kernel
theorem d5_giveAccess_104 : decode y5_giveAccess.2.1 104 = .ok (.ireturn, 1) := by decide +kernel
theorem d2_isAccess_0 : decode y2_isAccess.2.1 0 = .ok (.aload_n 0, 1) := by decide +kernel
theorem d2_isAccess_1 : decode y2_isAccess.2.1 1 = .ok (.getfield 30, 3) := by decide +kernel
theorem d2_isAccess_4 : decode y2_isAccess.2.1 4 = .ok (.bipush 8, 2) := by decide +kernel
theorem d2_isAccess_6 : decode y2_isAccess.2.1 6 = .ok (.if_icmp .lt 16, 3) := by decide +kernel
theorem d2_isAccess_9 : decode y2_isAccess.2.1 9 = .ok (.aload_n 0, 1) := by decide +kernel
theorem d2_isAccess_10 : decode y2_isAccess.2.1 10 = .ok (.getfield 30, 3) := by decide +kernel
theorem d2_isAccess_13 : decode y2_isAccess.2.1 13 = .ok (.bipush 12, 2) := by decide +kernel
theorem d2_isAccess_15 : decode y2_isAccess.2.1 15 = .ok (.if_icmp .gt 7, 3) := by decide +kernel
theorem d2_isAccess_18 : decode y2_isAccess.2.1 18 = .ok (.iconst 1, 1) := by decide +kernel
theorem d2_isAccess_19 : decode y2_isAccess.2.1 19 = .ok (.goto 4, 3) := by decide +kernel
theorem d2_isAccess_22 : decode y2_isAccess.2.1 22 = .ok (.iconst 0, 1) := by decide +kernel
theorem d2_isAccess_23 : decode y2_isAccess.2.1 23 = .ok (.ireturn, 1) := by decide +kernel
theorem d6_takeFacts_0 : decode y6_takeFacts.2.1 0 = .ok (.aload_n 0, 1) := by decide +kernel
theorem d6_takeFacts_1 : decode y6_takeFacts.2.1 1 = .ok (.invokevirtual 71, 3) := by decide +kernel
theorem d6_takeFacts_4 : decode y6_takeFacts.2.1 4 = .ok (.iconst 0, 1) := by decide +kernel
theorem d6_takeFacts_5 : decode y6_takeFacts.2.1 5 = .ok (.istore_n 2, 1) := by decide +kernel
theorem d6_takeFacts_6 : decode y6_takeFacts.2.1 6 = .ok (.iload_n 2, 1) := by decide +kernel
theorem d6_takeFacts_7 : decode y6_takeFacts.2.1 7 = .ok (.bipush 100, 2) := by decide +kernel
theorem d6_takeFacts_9 : decode y6_takeFacts.2.1 9 = .ok (.if_icmp .ge 26, 3) := by decide +kernel
theorem d6_takeFacts_12 : decode y6_takeFacts.2.1 12 = .ok (.aload_n 0, 1) := by decide +kernel
theorem d6_takeFacts_13 : decode y6_takeFacts.2.1 13 = .ok (.getfield 33, 3) := by decide +kernel
theorem d6_takeFacts_16 : decode y6_takeFacts.2.1 16 = .ok (.aload_n 1, 1) := by decide +kernel
theorem d6_takeFacts_17 : decode y6_takeFacts.2.1 17 = .ok (.iload_n 2, 1) := by decide +kernel
theorem d6_takeFacts_18 : decode y6_takeFacts.2.1 18 = .ok (.invokestatic 82, 3) := by decide +kernel
theorem d6_takeFacts_21 : decode y6_takeFacts.2.1 21 = .ok (.ifCond .eq 8, 3) := by decide +kernel
theorem d6_takeFacts_24 : decode y6_takeFacts.2.1 24 = .ok (.aload_n 0, 1) := by decide +kernel
theorem d6_takeFacts_25 : decode y6_takeFacts.2.1 25 = .ok (.iload_n 2, 1) := by decide +kernel
theorem d6_takeFacts_26 : decode y6_takeFacts.2.1 26 = .ok (.invokevirtual 78, 3) := by decide +kernel
theorem d6_takeFacts_29 : decode y6_takeFacts.2.1 29 = .ok (.iinc 2 1, 3) := by decide +kernel
theorem d6_takeFacts_32 : decode y6_takeFacts.2.1 32 = .ok (.goto (-26), 3) := by decide +kernel
theorem d6_takeFacts_35 : decode y6_takeFacts.2.1 35 = .ok (.return_, 1) := by decide +kernel
theorem d8_find_0 : decode y8_find.2.1 0 = .ok (.aload_n 0, 1) := by decide +kernel
theorem d8_find_1 : decode y8_find.2.1 1 = .ok (.getfield 11, 3) := by decide +kernel
theorem d8_find_4 : decode y8_find.2.1 4 = .ok (.iconst 0, 1) := by decide +kernel
theorem d8_find_5 : decode y8_find.2.1 5 = .ok (.aaload, 1) := by decide +kernel
theorem d8_find_6 : decode y8_find.2.1 6 = .ok (.ldc2_w 20, 3) := by decide +kernel
theorem d8_find_9 : decode y8_find.2.1 9 = .ok (.invokestatic 22, 3) := by decide +kernel
theorem d8_find_12 : decode y8_find.2.1 12 = .ok (.aload_n 0, 1) := by decide +kernel
theorem d8_find_13 : decode y8_find.2.1 13 = .ok (.getfield 11, 3) := by decide +kernel
theorem d8_find_16 : decode y8_find.2.1 16 = .ok (.iconst 0, 1) := by decide +kernel
theorem d8_find_17 : decode y8_find.2.1 17 = .ok (.aaload, 1) := by decide +kernel
theorem d8_find_18 : decode y8_find.2.1 18 = .ok (.iload_n 3, 1) := by decide +kernel
theorem d8_find_19 : decode y8_find.2.1 19 = .ok (.lconst 0, 1) := by decide +kernel
theorem d8_find_20 : decode y8_find.2.1 20 = .ok (.lastore, 1) := by decide +kernel
theorem d8_find_21 : decode y8_find.2.1 21 = .ok (.iconst 1, 1) := by decide +kernel
theorem d8_find_22 : decode y8_find.2.1 22 = .ok (.istore 6, 2) := by decide +kernel
theorem d8_find_24 : decode y8_find.2.1 24 = .ok (.iload 6, 2) := by decide +kernel
theorem d8_find_26 : decode y8_find.2.1 26 = .ok (.bipush 12, 2) := by decide +kernel
theorem d8_find_28 : decode y8_find.2.1 28 = .ok (.if_icmp .gt 47, 3) := by decide +kernel
theorem d8_find_31 : decode y8_find.2.1 31 = .ok (.aload_n 0, 1) := by decide +kernel
theorem d8_find_32 : decode y8_find.2.1 32 = .ok (.aload_n 1, 1) := by decide +kernel
theorem d8_find_33 : decode y8_find.2.1 33 = .ok (.iload 6, 2) := by decide +kernel
theorem d8_find_35 : decode y8_find.2.1 35 = .ok (.invokevirtual 28, 3) := by decide +kernel
theorem d8_find_38 : decode y8_find.2.1 38 = .ok (.aload_n 0, 1) := by decide +kernel
theorem d8_find_39 : decode y8_find.2.1 39 = .ok (.getfield 11, 3) := by decide +kernel
theorem d8_find_42 : decode y8_find.2.1 42 = .ok (.iload 6, 2) := by decide +kernel
theorem d8_find_44 : decode y8_find.2.1 44 = .ok (.aaload, 1) := by decide +kernel
theorem d8_find_45 : decode y8_find.2.1 45 = .ok (.iload_n 2, 1) := by decide +kernel
theorem d8_find_46 : decode y8_find.2.1 46 = .ok (.laload, 1) := by decide +kernel
theorem d8_find_47 : decode y8_find.2.1 47 = .ok (.lload 4, 2) := by decide +kernel
theorem d8_find_49 : decode y8_find.2.1 49 = .ok (.lcmp, 1) := by decide +kernel
theorem d8_find_50 : decode y8_find.2.1 50 = .ok (.ifCond .gt 19, 3) := by decide +kernel
theorem d8_find_53 : decode y8_find.2.1 53 = .ok (.aload_n 0, 1) := by decide +kernel
theorem d8_find_54 : decode y8_find.2.1 54 = .ok (.iload 6, 2) := by decide +kernel
theorem d8_find_56 : decode y8_find.2.1 56 = .ok (.putfield 32, 3) := by decide +kernel
theorem d8_find_59 : decode y8_find.2.1 59 = .ok (.aload_n 0, 1) := by decide +kernel
theorem d8_find_60 : decode y8_find.2.1 60 = .ok (.aload_n 1, 1) := by decide +kernel
theorem d8_find_61 : decode y8_find.2.1 61 = .ok (.iload_n 2, 1) := by decide +kernel
theorem d8_find_62 : decode y8_find.2.1 62 = .ok (.lload 4, 2) := by decide +kernel
theorem d8_find_64 : decode y8_find.2.1 64 = .ok (.invokevirtual 36, 3) := by decide +kernel
theorem d8_find_67 : decode y8_find.2.1 67 = .ok (.iconst 1, 1) := by decide +kernel
theorem d8_find_68 : decode y8_find.2.1 68 = .ok (.ireturn, 1) := by decide +kernel
theorem d8_find_69 : decode y8_find.2.1 69 = .ok (.iinc 6 1, 3) := by decide +kernel
theorem d8_find_72 : decode y8_find.2.1 72 = .ok (.goto (-48), 3) := by decide +kernel
theorem d8_find_75 : decode y8_find.2.1 75 = .ok (.iconst 0, 1) := by decide +kernel
theorem d8_find_76 : decode y8_find.2.1 76 = .ok (.ireturn, 1) := by decide +kernel
theorem d8_lengthenRows_0 : decode y8_lengthenRows.2.1 0 = .ok (.aload_n 0, 1) := by decide +kernel
theorem d8_lengthenRows_1 : decode y8_lengthenRows.2.1 1 = .ok (.getfield 11, 3) := by decide +kernel
theorem d8_lengthenRows_4 : decode y8_lengthenRows.2.1 4 = .ok (.iload_n 2, 1) := by decide +kernel
theorem d8_lengthenRows_5 : decode y8_lengthenRows.2.1 5 = .ok (.iconst 1, 1) := by decide +kernel
theorem d8_lengthenRows_6 : decode y8_lengthenRows.2.1 6 = .ok (.isub, 1) := by decide +kernel
theorem d8_lengthenRows_7 : decode y8_lengthenRows.2.1 7 = .ok (.aaload, 1) := by decide +kernel
theorem d8_lengthenRows_8 : decode y8_lengthenRows.2.1 8 = .ok (.astore_n 3, 1) := by decide +kernel
theorem d8_lengthenRows_9 : decode y8_lengthenRows.2.1 9 = .ok (.iconst 0, 1) := by decide +kernel
theorem d8_lengthenRows_10 : decode y8_lengthenRows.2.1 10 = .ok (.istore 4, 2) := by decide +kernel
theorem d8_lengthenRows_12 : decode y8_lengthenRows.2.1 12 = .ok (.iload 4, 2) := by decide +kernel
theorem d8_lengthenRows_14 : decode y8_lengthenRows.2.1 14 = .ok (.bipush 10, 2) := by decide +kernel
theorem d8_lengthenRows_16 : decode y8_lengthenRows.2.1 16 = .ok (.if_icmp .ge 91, 3) := by decide +kernel
theorem d8_lengthenRows_19 : decode y8_lengthenRows.2.1 19 = .ok (.ldc2_w 20, 3) := by decide +kernel
theorem d8_lengthenRows_22 : decode y8_lengthenRows.2.1 22 = .ok (.lstore 5, 2) := by decide +kernel
theorem d8_lengthenRows_24 : decode y8_lengthenRows.2.1 24 = .ok (.iconst 0, 1) := by decide +kernel
theorem d8_lengthenRows_25 : decode y8_lengthenRows.2.1 25 = .ok (.istore 7, 2) := by decide +kernel
theorem d8_lengthenRows_27 : decode y8_lengthenRows.2.1 27 = .ok (.iload 7, 2) := by decide +kernel
theorem d8_lengthenRows_29 : decode y8_lengthenRows.2.1 29 = .ok (.bipush 10, 2) := by decide +kernel
theorem d8_lengthenRows_31 : decode y8_lengthenRows.2.1 31 = .ok (.if_icmp .ge 59, 3) := by decide +kernel
theorem d8_lengthenRows_34 : decode y8_lengthenRows.2.1 34 = .ok (.aload_n 3, 1) := by decide +kernel
theorem d8_lengthenRows_35 : decode y8_lengthenRows.2.1 35 = .ok (.iload 7, 2) := by decide +kernel
theorem d8_lengthenRows_37 : decode y8_lengthenRows.2.1 37 = .ok (.laload, 1) := by decide +kernel
theorem d8_lengthenRows_38 : decode y8_lengthenRows.2.1 38 = .ok (.ldc2_w 20, 3) := by decide +kernel
theorem d8_lengthenRows_41 : decode y8_lengthenRows.2.1 41 = .ok (.lcmp, 1) := by decide +kernel
theorem d8_lengthenRows_42 : decode y8_lengthenRows.2.1 42 = .ok (.ifCond .eq 42, 3) := by decide +kernel
theorem d8_lengthenRows_45 : decode y8_lengthenRows.2.1 45 = .ok (.aload_n 1, 1) := by decide +kernel
theorem d8_lengthenRows_46 : decode y8_lengthenRows.2.1 46 = .ok (.getfield 40, 3) := by decide +kernel
theorem d8_lengthenRows_49 : decode y8_lengthenRows.2.1 49 = .ok (.iload 4, 2) := by decide +kernel
theorem d8_lengthenRows_51 : decode y8_lengthenRows.2.1 51 = .ok (.aaload, 1) := by decide +kernel
theorem d8_lengthenRows_52 : decode y8_lengthenRows.2.1 52 = .ok (.iload 7, 2) := by decide +kernel
theorem d8_lengthenRows_54 : decode y8_lengthenRows.2.1 54 = .ok (.laload, 1) := by decide +kernel
theorem d8_lengthenRows_55 : decode y8_lengthenRows.2.1 55 = .ok (.ldc2_w 20, 3) := by decide +kernel
theorem d8_lengthenRows_58 : decode y8_lengthenRows.2.1 58 = .ok (.lcmp, 1) := by decide +kernel
theorem d8_lengthenRows_59 : decode y8_lengthenRows.2.1 59 = .ok (.ifCond .eq 25, 3) := by decide +kernel
theorem d8_lengthenRows_62 : decode y8_lengthenRows.2.1 62 = .ok (.lload 5, 2) := by decide +kernel
theorem d8_lengthenRows_64 : decode y8_lengthenRows.2.1 64 = .ok (.aload_n 1, 1) := by decide +kernel
theorem d8_lengthenRows_65 : decode y8_lengthenRows.2.1 65 = .ok (.getfield 40, 3) := by decide +kernel
theorem d8_lengthenRows_68 : decode y8_lengthenRows.2.1 68 = .ok (.iload 4, 2) := by decide +kernel
theorem d8_lengthenRows_70 : decode y8_lengthenRows.2.1 70 = .ok (.aaload, 1) := by decide +kernel
theorem d8_lengthenRows_71 : decode y8_lengthenRows.2.1 71 = .ok (.iload 7, 2) := by decide +kernel
theorem d8_lengthenRows_73 : decode y8_lengthenRows.2.1 73 = .ok (.laload, 1) := by decide +kernel
theorem d8_lengthenRows_74 : decode y8_lengthenRows.2.1 74 = .ok (.aload_n 3, 1) := by decide +kernel
theorem d8_lengthenRows_75 : decode y8_lengthenRows.2.1 75 = .ok (.iload 7, 2) := by decide +kernel
theorem d8_lengthenRows_77 : decode y8_lengthenRows.2.1 77 = .ok (.laload, 1) := by decide +kernel
theorem d8_lengthenRows_78 : decode y8_lengthenRows.2.1 78 = .ok (.ladd, 1) := by decide +kernel
theorem d8_lengthenRows_79 : decode y8_lengthenRows.2.1 79 = .ok (.invokestatic 45, 3) := by decide +kernel
theorem d8_lengthenRows_82 : decode y8_lengthenRows.2.1 82 = .ok (.lstore 5, 2) := by decide +kernel
theorem d8_lengthenRows_84 : decode y8_lengthenRows.2.1 84 = .ok (.iinc 7 1, 3) := by decide +kernel
theorem d8_lengthenRows_87 : decode y8_lengthenRows.2.1 87 = .ok (.goto (-60), 3) := by decide +kernel
theorem d8_lengthenRows_90 : decode y8_lengthenRows.2.1 90 = .ok (.aload_n 0, 1) := by decide +kernel
theorem d8_lengthenRows_91 : decode y8_lengthenRows.2.1 91 = .ok (.getfield 11, 3) := by decide +kernel
theorem d8_lengthenRows_94 : decode y8_lengthenRows.2.1 94 = .ok (.iload_n 2, 1) := by decide +kernel
theorem d8_lengthenRows_95 : decode y8_lengthenRows.2.1 95 = .ok (.aaload, 1) := by decide +kernel
theorem d8_lengthenRows_96 : decode y8_lengthenRows.2.1 96 = .ok (.iload 4, 2) := by decide +kernel
theorem d8_lengthenRows_98 : decode y8_lengthenRows.2.1 98 = .ok (.lload 5, 2) := by decide +kernel
theorem d8_lengthenRows_100 : decode y8_lengthenRows.2.1 100 = .ok (.lastore, 1) := by decide +kernel
theorem d8_lengthenRows_101 : decode y8_lengthenRows.2.1 101 = .ok (.iinc 4 1, 3) := by decide +kernel
theorem d8_lengthenRows_104 : decode y8_lengthenRows.2.1 104 = .ok (.goto (-92), 3) := by decide +kernel
theorem d8_lengthenRows_107 : decode y8_lengthenRows.2.1 107 = .ok (.return_, 1) := by decide +kernel
theorem d8_chooseSteps_0 : decode y8_chooseSteps.2.1 0 = .ok (.iload_n 2, 1) := by decide +kernel
theorem d8_chooseSteps_1 : decode y8_chooseSteps.2.1 1 = .ok (.istore 5, 2) := by decide +kernel
theorem d8_chooseSteps_3 : decode y8_chooseSteps.2.1 3 = .ok (.lload_n 3, 1) := by decide +kernel
theorem d8_chooseSteps_4 : decode y8_chooseSteps.2.1 4 = .ok (.lstore 6, 2) := by decide +kernel
theorem d8_chooseSteps_6 : decode y8_chooseSteps.2.1 6 = .ok (.iconst 0, 1) := by decide +kernel
theorem d8_chooseSteps_7 : decode y8_chooseSteps.2.1 7 = .ok (.istore 8, 2) := by decide +kernel
theorem d8_chooseSteps_9 : decode y8_chooseSteps.2.1 9 = .ok (.iload 8, 2) := by decide +kernel
theorem d8_chooseSteps_11 : decode y8_chooseSteps.2.1 11 = .ok (.aload_n 0, 1) := by decide +kernel
theorem d8_chooseSteps_12 : decode y8_chooseSteps.2.1 12 = .ok (.getfield 32, 3) := by decide +kernel
theorem d8_chooseSteps_15 : decode y8_chooseSteps.2.1 15 = .ok (.if_icmp .ge 68, 3) := by decide +kernel
theorem d8_chooseSteps_18 : decode y8_chooseSteps.2.1 18 = .ok (.aload_n 1, 1) := by decide +kernel
theorem d8_chooseSteps_19 : decode y8_chooseSteps.2.1 19 = .ok (.iload 5, 2) := by decide +kernel
theorem d8_chooseSteps_21 : decode y8_chooseSteps.2.1 21 = .ok (.lload 6, 2) := by decide +kernel
theorem d8_chooseSteps_23 : decode y8_chooseSteps.2.1 23 = .ok (.aload_n 0, 1) := by decide +kernel
theorem d8_chooseSteps_24 : decode y8_chooseSteps.2.1 24 = .ok (.getfield 11, 3) := by decide +kernel
theorem d8_chooseSteps_27 : decode y8_chooseSteps.2.1 27 = .ok (.aload_n 0, 1) := by decide +kernel
theorem d8_chooseSteps_28 : decode y8_chooseSteps.2.1 28 = .ok (.getfield 32, 3) := by decide +kernel
theorem d8_chooseSteps_31 : decode y8_chooseSteps.2.1 31 = .ok (.iload 8, 2) := by decide +kernel
theorem d8_chooseSteps_33 : decode y8_chooseSteps.2.1 33 = .ok (.isub, 1) := by decide +kernel
theorem d8_chooseSteps_34 : decode y8_chooseSteps.2.1 34 = .ok (.iconst 1, 1) := by decide +kernel
theorem d8_chooseSteps_35 : decode y8_chooseSteps.2.1 35 = .ok (.isub, 1) := by decide +kernel
theorem d8_chooseSteps_36 : decode y8_chooseSteps.2.1 36 = .ok (.aaload, 1) := by decide +kernel
theorem d8_chooseSteps_37 : decode y8_chooseSteps.2.1 37 = .ok (.invokestatic 51, 3) := by decide +kernel
theorem d8_chooseSteps_40 : decode y8_chooseSteps.2.1 40 = .ok (.istore 9, 2) := by decide +kernel
theorem d8_chooseSteps_42 : decode y8_chooseSteps.2.1 42 = .ok (.aload_n 0, 1) := by decide +kernel
theorem d8_chooseSteps_43 : decode y8_chooseSteps.2.1 43 = .ok (.getfield 16, 3) := by decide +kernel
theorem d8_chooseSteps_46 : decode y8_chooseSteps.2.1 46 = .ok (.iload 8, 2) := by decide +kernel
theorem d8_chooseSteps_48 : decode y8_chooseSteps.2.1 48 = .ok (.aload_n 1, 1) := by decide +kernel
theorem d8_chooseSteps_49 : decode y8_chooseSteps.2.1 49 = .ok (.getfield 55, 3) := by decide +kernel
theorem d8_chooseSteps_52 : decode y8_chooseSteps.2.1 52 = .ok (.iload 9, 2) := by decide +kernel
theorem d8_chooseSteps_54 : decode y8_chooseSteps.2.1 54 = .ok (.iaload, 1) := by decide +kernel
theorem d8_chooseSteps_55 : decode y8_chooseSteps.2.1 55 = .ok (.iastore, 1) := by decide +kernel
theorem d8_chooseSteps_56 : decode y8_chooseSteps.2.1 56 = .ok (.aload_n 1, 1) := by decide +kernel
theorem d8_chooseSteps_57 : decode y8_chooseSteps.2.1 57 = .ok (.getfield 58, 3) := by decide +kernel
theorem d8_chooseSteps_60 : decode y8_chooseSteps.2.1 60 = .ok (.iload 9, 2) := by decide +kernel
theorem d8_chooseSteps_62 : decode y8_chooseSteps.2.1 62 = .ok (.iaload, 1) := by decide +kernel
theorem d8_chooseSteps_63 : decode y8_chooseSteps.2.1 63 = .ok (.istore 5, 2) := by decide +kernel
theorem d8_chooseSteps_65 : decode y8_chooseSteps.2.1 65 = .ok (.lload 6, 2) := by decide +kernel
theorem d8_chooseSteps_67 : decode y8_chooseSteps.2.1 67 = .ok (.aload_n 1, 1) := by decide +kernel
theorem d8_chooseSteps_68 : decode y8_chooseSteps.2.1 68 = .ok (.getfield 61, 3) := by decide +kernel
theorem d8_chooseSteps_71 : decode y8_chooseSteps.2.1 71 = .ok (.iload 9, 2) := by decide +kernel
theorem d8_chooseSteps_73 : decode y8_chooseSteps.2.1 73 = .ok (.laload, 1) := by decide +kernel
theorem d8_chooseSteps_74 : decode y8_chooseSteps.2.1 74 = .ok (.lsub, 1) := by decide +kernel
theorem d8_chooseSteps_75 : decode y8_chooseSteps.2.1 75 = .ok (.lstore 6, 2) := by decide +kernel
theorem d8_chooseSteps_77 : decode y8_chooseSteps.2.1 77 = .ok (.iinc 8 1, 3) := by decide +kernel
theorem d8_chooseSteps_80 : decode y8_chooseSteps.2.1 80 = .ok (.goto (-71), 3) := by decide +kernel
theorem d8_chooseSteps_83 : decode y8_chooseSteps.2.1 83 = .ok (.return_, 1) := by decide +kernel
theorem d8_firstFitting_0 : decode y8_firstFitting.2.1 0 = .ok (.iconst 0, 1) := by decide +kernel
theorem d8_firstFitting_1 : decode y8_firstFitting.2.1 1 = .ok (.istore 5, 2) := by decide +kernel
theorem d8_firstFitting_3 : decode y8_firstFitting.2.1 3 = .ok (.iload 5, 2) := by decide +kernel
theorem d8_firstFitting_5 : decode y8_firstFitting.2.1 5 = .ok (.aload_n 0, 1) := by decide +kernel
theorem d8_firstFitting_6 : decode y8_firstFitting.2.1 6 = .ok (.getfield 65, 3) := by decide +kernel
theorem d8_firstFitting_9 : decode y8_firstFitting.2.1 9 = .ok (.if_icmp .ge 59, 3) := by decide +kernel
theorem d8_firstFitting_12 : decode y8_firstFitting.2.1 12 = .ok (.aload 4, 2) := by decide +kernel
theorem d8_firstFitting_14 : decode y8_firstFitting.2.1 14 = .ok (.aload_n 0, 1) := by decide +kernel
theorem d8_firstFitting_15 : decode y8_firstFitting.2.1 15 = .ok (.getfield 58, 3) := by decide +kernel
theorem d8_firstFitting_18 : decode y8_firstFitting.2.1 18 = .ok (.iload 5, 2) := by decide +kernel
theorem d8_firstFitting_20 : decode y8_firstFitting.2.1 20 = .ok (.iaload, 1) := by decide +kernel
theorem d8_firstFitting_21 : decode y8_firstFitting.2.1 21 = .ok (.laload, 1) := by decide +kernel
theorem d8_firstFitting_22 : decode y8_firstFitting.2.1 22 = .ok (.lstore 6, 2) := by decide +kernel
theorem d8_firstFitting_24 : decode y8_firstFitting.2.1 24 = .ok (.aload_n 0, 1) := by decide +kernel
theorem d8_firstFitting_25 : decode y8_firstFitting.2.1 25 = .ok (.getfield 68, 3) := by decide +kernel
theorem d8_firstFitting_28 : decode y8_firstFitting.2.1 28 = .ok (.iload 5, 2) := by decide +kernel
theorem d8_firstFitting_30 : decode y8_firstFitting.2.1 30 = .ok (.iaload, 1) := by decide +kernel
theorem d8_firstFitting_31 : decode y8_firstFitting.2.1 31 = .ok (.iload_n 1, 1) := by decide +kernel
theorem d8_firstFitting_32 : decode y8_firstFitting.2.1 32 = .ok (.if_icmp .ne 30, 3) := by decide +kernel
theorem d8_firstFitting_35 : decode y8_firstFitting.2.1 35 = .ok (.lload 6, 2) := by decide +kernel
theorem d8_firstFitting_37 : decode y8_firstFitting.2.1 37 = .ok (.ldc2_w 20, 3) := by decide +kernel
theorem d8_firstFitting_40 : decode y8_firstFitting.2.1 40 = .ok (.lcmp, 1) := by decide +kernel
theorem d8_firstFitting_41 : decode y8_firstFitting.2.1 41 = .ok (.ifCond .eq 21, 3) := by decide +kernel
theorem d8_firstFitting_44 : decode y8_firstFitting.2.1 44 = .ok (.aload_n 0, 1) := by decide +kernel
theorem d8_firstFitting_45 : decode y8_firstFitting.2.1 45 = .ok (.getfield 61, 3) := by decide +kernel
theorem d8_firstFitting_48 : decode y8_firstFitting.2.1 48 = .ok (.iload 5, 2) := by decide +kernel
theorem d8_firstFitting_50 : decode y8_firstFitting.2.1 50 = .ok (.laload, 1) := by decide +kernel
theorem d8_firstFitting_51 : decode y8_firstFitting.2.1 51 = .ok (.lload 6, 2) := by decide +kernel
theorem d8_firstFitting_53 : decode y8_firstFitting.2.1 53 = .ok (.ladd, 1) := by decide +kernel
theorem d8_firstFitting_54 : decode y8_firstFitting.2.1 54 = .ok (.lload_n 2, 1) := by decide +kernel
theorem d8_firstFitting_55 : decode y8_firstFitting.2.1 55 = .ok (.lcmp, 1) := by decide +kernel
theorem d8_firstFitting_56 : decode y8_firstFitting.2.1 56 = .ok (.ifCond .gt 6, 3) := by decide +kernel
theorem d8_firstFitting_59 : decode y8_firstFitting.2.1 59 = .ok (.iload 5, 2) := by decide +kernel
theorem d8_firstFitting_61 : decode y8_firstFitting.2.1 61 = .ok (.ireturn, 1) := by decide +kernel
theorem d8_firstFitting_62 : decode y8_firstFitting.2.1 62 = .ok (.iinc 5 1, 3) := by decide +kernel
theorem d8_firstFitting_65 : decode y8_firstFitting.2.1 65 = .ok (.goto (-62), 3) := by decide +kernel
theorem d8_firstFitting_68 : decode y8_firstFitting.2.1 68 = .ok (.iconst 0, 1) := by decide +kernel
theorem d8_firstFitting_69 : decode y8_firstFitting.2.1 69 = .ok (.ireturn, 1) := by decide +kernel
theorem d5_giveRow_0 : decode y5_giveRow.2.1 0 = .ok (.aload_n 0, 1) := by decide +kernel
theorem d5_giveRow_1 : decode y5_giveRow.2.1 1 = .ok (.aload_n 0, 1) := by decide +kernel
theorem d5_giveRow_2 : decode y5_giveRow.2.1 2 = .ok (.getfield 43, 3) := by decide +kernel
theorem d5_giveRow_5 : decode y5_giveRow.2.1 5 = .ok (.getfield 176, 3) := by decide +kernel
theorem d5_giveRow_8 : decode y5_giveRow.2.1 8 = .ok (.invokevirtual 168, 3) := by decide +kernel
theorem d5_giveRow_11 : decode y5_giveRow.2.1 11 = .ok (.iconst 0, 1) := by decide +kernel
theorem d5_giveRow_12 : decode y5_giveRow.2.1 12 = .ok (.istore_n 2, 1) := by decide +kernel
theorem d5_giveRow_13 : decode y5_giveRow.2.1 13 = .ok (.iload_n 2, 1) := by decide +kernel
theorem d5_giveRow_14 : decode y5_giveRow.2.1 14 = .ok (.aload_n 0, 1) := by decide +kernel
theorem d5_giveRow_15 : decode y5_giveRow.2.1 15 = .ok (.getfield 43, 3) := by decide +kernel
theorem d5_giveRow_18 : decode y5_giveRow.2.1 18 = .ok (.getfield 176, 3) := by decide +kernel
theorem d5_giveRow_21 : decode y5_giveRow.2.1 21 = .ok (.if_icmp .ge 51, 3) := by decide +kernel
theorem d5_giveRow_24 : decode y5_giveRow.2.1 24 = .ok (.aload_n 0, 1) := by decide +kernel
theorem d5_giveRow_25 : decode y5_giveRow.2.1 25 = .ok (.getfield 63, 3) := by decide +kernel
theorem d5_giveRow_28 : decode y5_giveRow.2.1 28 = .ok (.ifCond .eq 24, 3) := by decide +kernel
theorem d5_giveRow_31 : decode y5_giveRow.2.1 31 = .ok (.aload_n 0, 1) := by decide +kernel
theorem d5_giveRow_32 : decode y5_giveRow.2.1 32 = .ok (.aload_n 0, 1) := by decide +kernel
theorem d5_giveRow_33 : decode y5_giveRow.2.1 33 = .ok (.iload_n 1, 1) := by decide +kernel
theorem d5_giveRow_34 : decode y5_giveRow.2.1 34 = .ok (.aload_n 0, 1) := by decide +kernel
theorem d5_giveRow_35 : decode y5_giveRow.2.1 35 = .ok (.getfield 43, 3) := by decide +kernel
theorem d5_giveRow_38 : decode y5_giveRow.2.1 38 = .ok (.getfield 179, 3) := by decide +kernel
theorem d5_giveRow_41 : decode y5_giveRow.2.1 41 = .ok (.iload_n 2, 1) := by decide +kernel
theorem d5_giveRow_42 : decode y5_giveRow.2.1 42 = .ok (.iaload, 1) := by decide +kernel
theorem d5_giveRow_43 : decode y5_giveRow.2.1 43 = .ok (.invokevirtual 182, 3) := by decide +kernel
theorem d5_giveRow_46 : decode y5_giveRow.2.1 46 = .ok (.invokevirtual 168, 3) := by decide +kernel
theorem d5_giveRow_49 : decode y5_giveRow.2.1 49 = .ok (.goto 17, 3) := by decide +kernel
theorem d5_giveRow_52 : decode y5_giveRow.2.1 52 = .ok (.aload_n 0, 1) := by decide +kernel
theorem d5_giveRow_53 : decode y5_giveRow.2.1 53 = .ok (.iload_n 1, 1) := by decide +kernel
theorem d5_giveRow_54 : decode y5_giveRow.2.1 54 = .ok (.aload_n 0, 1) := by decide +kernel
theorem d5_giveRow_55 : decode y5_giveRow.2.1 55 = .ok (.getfield 43, 3) := by decide +kernel
theorem d5_giveRow_58 : decode y5_giveRow.2.1 58 = .ok (.getfield 179, 3) := by decide +kernel
theorem d5_giveRow_61 : decode y5_giveRow.2.1 61 = .ok (.iload_n 2, 1) := by decide +kernel
theorem d5_giveRow_62 : decode y5_giveRow.2.1 62 = .ok (.iaload, 1) := by decide +kernel
theorem d5_giveRow_63 : decode y5_giveRow.2.1 63 = .ok (.invokevirtual 185, 3) := by decide +kernel
theorem d5_giveRow_66 : decode y5_giveRow.2.1 66 = .ok (.iinc 2 1, 3) := by decide +kernel
theorem d5_giveRow_69 : decode y5_giveRow.2.1 69 = .ok (.goto (-56), 3) := by decide +kernel
theorem d5_giveRow_72 : decode y5_giveRow.2.1 72 = .ok (.iconst 1, 1) := by decide +kernel
theorem d5_giveRow_73 : decode y5_giveRow.2.1 73 = .ok (.ireturn, 1) := by decide +kernel
theorem d5_put_0 : decode y5_put.2.1 0 = .ok (.aload_n 0, 1) := by decide +kernel
theorem d5_put_1 : decode y5_put.2.1 1 = .ok (.getfield 63, 3) := by decide +kernel
theorem d5_put_4 : decode y5_put.2.1 4 = .ok (.ifCond .eq 19, 3) := by decide +kernel
theorem d5_put_7 : decode y5_put.2.1 7 = .ok (.aload_n 0, 1) := by decide +kernel
theorem d5_put_8 : decode y5_put.2.1 8 = .ok (.getfield 59, 3) := by decide +kernel
theorem d5_put_11 : decode y5_put.2.1 11 = .ok (.iload_n 1, 1) := by decide +kernel
theorem d5_put_12 : decode y5_put.2.1 12 = .ok (.invokevirtual 195, 3) := by decide +kernel
theorem d5_put_15 : decode y5_put.2.1 15 = .ok (.ifCond .ne 8, 3) := by decide +kernel
theorem d5_put_18 : decode y5_put.2.1 18 = .ok (.aload_n 0, 1) := by decide +kernel
theorem d5_put_19 : decode y5_put.2.1 19 = .ok (.iconst 0, 1) := by decide +kernel
theorem d5_put_20 : decode y5_put.2.1 20 = .ok (.putfield 67, 3) := by decide +kernel
theorem d5_put_23 : decode y5_put.2.1 23 = .ok (.return_, 1) := by decide +kernel
theorem d3_append_0 : decode y3_append.2.1 0 = .ok (.aload_n 0, 1) := by decide +kernel
theorem d3_append_1 : decode y3_append.2.1 1 = .ok (.getfield 15, 3) := by decide +kernel
theorem d3_append_4 : decode y3_append.2.1 4 = .ok (.sipush 20000, 3) := by decide +kernel
theorem d3_append_7 : decode y3_append.2.1 7 = .ok (.if_icmp .lt 5, 3) := by decide +kernel
theorem d3_append_10 : decode y3_append.2.1 10 = .ok (.iconst 0, 1) := by decide +kernel
theorem d3_append_11 : decode y3_append.2.1 11 = .ok (.ireturn, 1) := by decide +kernel
theorem d3_append_12 : decode y3_append.2.1 12 = .ok (.aload_n 0, 1) := by decide +kernel
theorem d3_append_13 : decode y3_append.2.1 13 = .ok (.getfield 9, 3) := by decide +kernel
theorem d3_append_16 : decode y3_append.2.1 16 = .ok (.aload_n 0, 1) := by decide +kernel
theorem d3_append_17 : decode y3_append.2.1 17 = .ok (.getfield 15, 3) := by decide +kernel
theorem d3_append_20 : decode y3_append.2.1 20 = .ok (.iload_n 1, 1) := by decide +kernel
theorem d3_append_21 : decode y3_append.2.1 21 = .ok (.iastore, 1) := by decide +kernel
theorem d3_append_22 : decode y3_append.2.1 22 = .ok (.aload_n 0, 1) := by decide +kernel
theorem d3_append_23 : decode y3_append.2.1 23 = .ok (.dup, 1) := by decide +kernel
theorem d3_append_24 : decode y3_append.2.1 24 = .ok (.getfield 15, 3) := by decide +kernel
theorem d3_append_27 : decode y3_append.2.1 27 = .ok (.iconst 1, 1) := by decide +kernel
theorem d3_append_28 : decode y3_append.2.1 28 = .ok (.iadd, 1) := by decide +kernel
theorem d3_append_29 : decode y3_append.2.1 29 = .ok (.putfield 15, 3) := by decide +kernel
theorem d3_append_32 : decode y3_append.2.1 32 = .ok (.iconst 1, 1) := by decide +kernel
theorem d3_append_33 : decode y3_append.2.1 33 = .ok (.ireturn, 1) := by decide +kernel
theorem d5_numberInProof_0 : decode y5_numberInProof.2.1 0 = .ok (.iload_n 1, 1) := by decide +kernel
theorem d5_numberInProof_1 : decode y5_numberInProof.2.1 1 = .ok (.iconst (-1), 1) := by decide +kernel
theorem d5_numberInProof_2 : decode y5_numberInProof.2.1 2 = .ok (.if_icmp .ne 5, 3) := by decide +kernel
theorem d5_numberInProof_5 : decode y5_numberInProof.2.1 5 = .ok (.iload_n 2, 1) := by decide +kernel
theorem d5_numberInProof_6 : decode y5_numberInProof.2.1 6 = .ok (.ireturn, 1) := by decide +kernel
theorem d5_numberInProof_7 : decode y5_numberInProof.2.1 7 = .ok (.iload_n 2, 1) := by decide +kernel
theorem d5_numberInProof_8 : decode y5_numberInProof.2.1 8 = .ok (.bipush 100, 2) := by decide +kernel
theorem d5_numberInProof_10 : decode y5_numberInProof.2.1 10 = .ok (.if_icmp .ge 10, 3) := by decide +kernel
theorem d5_numberInProof_13 : decode y5_numberInProof.2.1 13 = .ok (.aload_n 0, 1) := by decide +kernel
theorem d5_numberInProof_14 : decode y5_numberInProof.2.1 14 = .ok (.getfield 30, 3) := by decide +kernel
theorem d5_numberInProof_17 : decode y5_numberInProof.2.1 17 = .ok (.iload_n 2, 1) := by decide +kernel
theorem d5_numberInProof_18 : decode y5_numberInProof.2.1 18 = .ok (.iaload, 1) := by decide +kernel
theorem d5_numberInProof_19 : decode y5_numberInProof.2.1 19 = .ok (.ireturn, 1) := by decide +kernel
theorem d5_numberInProof_20 : decode y5_numberInProof.2.1 20 = .ok (.aload_n 0, 1) := by decide +kernel
theorem d5_numberInProof_21 : decode y5_numberInProof.2.1 21 = .ok (.getfield 26, 3) := by decide +kernel
theorem d5_numberInProof_24 : decode y5_numberInProof.2.1 24 = .ok (.iload_n 1, 1) := by decide +kernel
theorem d5_numberInProof_25 : decode y5_numberInProof.2.1 25 = .ok (.iaload, 1) := by decide +kernel
theorem d5_numberInProof_26 : decode y5_numberInProof.2.1 26 = .ok (.istore_n 3, 1) := by decide +kernel
theorem d5_numberInProof_27 : decode y5_numberInProof.2.1 27 = .ok (.iload_n 2, 1) := by decide +kernel
theorem d5_numberInProof_28 : decode y5_numberInProof.2.1 28 = .ok (.bipush 100, 2) := by decide +kernel
theorem d5_numberInProof_30 : decode y5_numberInProof.2.1 30 = .ok (.isub, 1) := by decide +kernel
theorem d5_numberInProof_31 : decode y5_numberInProof.2.1 31 = .ok (.istore 4, 2) := by decide +kernel
theorem d5_numberInProof_33 : decode y5_numberInProof.2.1 33 = .ok (.aload_n 0, 1) := by decide +kernel
theorem d5_numberInProof_34 : decode y5_numberInProof.2.1 34 = .ok (.getfield 55, 3) := by decide +kernel
theorem d5_numberInProof_37 : decode y5_numberInProof.2.1 37 = .ok (.getfield 113, 3) := by decide +kernel
theorem d5_numberInProof_40 : decode y5_numberInProof.2.1 40 = .ok (.iload_n 1, 1) := by decide +kernel
theorem d5_numberInProof_41 : decode y5_numberInProof.2.1 41 = .ok (.aaload, 1) := by decide +kernel
theorem d5_numberInProof_42 : decode y5_numberInProof.2.1 42 = .ok (.getfield 192, 3) := by decide +kernel
theorem d5_numberInProof_45 : decode y5_numberInProof.2.1 45 = .ok (.iconst 4, 1) := by decide +kernel
theorem d5_numberInProof_46 : decode y5_numberInProof.2.1 46 = .ok (.if_icmp .eq 8, 3) := by decide +kernel
theorem d5_numberInProof_49 : decode y5_numberInProof.2.1 49 = .ok (.iload_n 3, 1) := by decide +kernel
theorem d5_numberInProof_50 : decode y5_numberInProof.2.1 50 = .ok (.iload 4, 2) := by decide +kernel
theorem d5_numberInProof_52 : decode y5_numberInProof.2.1 52 = .ok (.iadd, 1) := by decide +kernel
theorem d5_numberInProof_53 : decode y5_numberInProof.2.1 53 = .ok (.ireturn, 1) := by decide +kernel
theorem d5_numberInProof_54 : decode y5_numberInProof.2.1 54 = .ok (.iload_n 3, 1) := by decide +kernel
theorem d5_numberInProof_55 : decode y5_numberInProof.2.1 55 = .ok (.iload_n 3, 1) := by decide +kernel
theorem d5_numberInProof_56 : decode y5_numberInProof.2.1 56 = .ok (.aload_n 0, 1) := by decide +kernel
theorem d5_numberInProof_57 : decode y5_numberInProof.2.1 57 = .ok (.getfield 30, 3) := by decide +kernel
theorem d5_numberInProof_60 : decode y5_numberInProof.2.1 60 = .ok (.iload 4, 2) := by decide +kernel
theorem d5_numberInProof_62 : decode y5_numberInProof.2.1 62 = .ok (.bipush 100, 2) := by decide +kernel
theorem d5_numberInProof_64 : decode y5_numberInProof.2.1 64 = .ok (.idiv, 1) := by decide +kernel
theorem d5_numberInProof_65 : decode y5_numberInProof.2.1 65 = .ok (.iaload, 1) := by decide +kernel
theorem d5_numberInProof_66 : decode y5_numberInProof.2.1 66 = .ok (.imul, 1) := by decide +kernel
theorem d5_numberInProof_67 : decode y5_numberInProof.2.1 67 = .ok (.iadd, 1) := by decide +kernel
theorem d5_numberInProof_68 : decode y5_numberInProof.2.1 68 = .ok (.aload_n 0, 1) := by decide +kernel
theorem d5_numberInProof_69 : decode y5_numberInProof.2.1 69 = .ok (.getfield 30, 3) := by decide +kernel
theorem d5_numberInProof_72 : decode y5_numberInProof.2.1 72 = .ok (.iload 4, 2) := by decide +kernel
theorem d5_numberInProof_74 : decode y5_numberInProof.2.1 74 = .ok (.bipush 100, 2) := by decide +kernel
theorem d5_numberInProof_76 : decode y5_numberInProof.2.1 76 = .ok (.irem, 1) := by decide +kernel
theorem d5_numberInProof_77 : decode y5_numberInProof.2.1 77 = .ok (.iaload, 1) := by decide +kernel
theorem d5_numberInProof_78 : decode y5_numberInProof.2.1 78 = .ok (.iadd, 1) := by decide +kernel
theorem d5_numberInProof_79 : decode y5_numberInProof.2.1 79 = .ok (.ireturn, 1) := by decide +kernel
theorem d5_needPartsOf_0 : decode y5_needPartsOf.2.1 0 = .ok (.iload_n 2, 1) := by decide +kernel
theorem d5_needPartsOf_1 : decode y5_needPartsOf.2.1 1 = .ok (.bipush 100, 2) := by decide +kernel
theorem d5_needPartsOf_3 : decode y5_needPartsOf.2.1 3 = .ok (.if_icmp .ge 12, 3) := by decide +kernel
theorem d5_needPartsOf_6 : decode y5_needPartsOf.2.1 6 = .ok (.aload_n 0, 1) := by decide +kernel
theorem d5_needPartsOf_7 : decode y5_needPartsOf.2.1 7 = .ok (.iload_n 1, 1) := by decide +kernel
theorem d5_needPartsOf_8 : decode y5_needPartsOf.2.1 8 = .ok (.iload_n 2, 1) := by decide +kernel
theorem d5_needPartsOf_9 : decode y5_needPartsOf.2.1 9 = .ok (.invokevirtual 189, 3) := by decide +kernel
theorem d5_needPartsOf_12 : decode y5_needPartsOf.2.1 12 = .ok (.goto 43, 3) := by decide +kernel
theorem d5_needPartsOf_15 : decode y5_needPartsOf.2.1 15 = .ok (.aload_n 0, 1) := by decide +kernel
theorem d5_needPartsOf_16 : decode y5_needPartsOf.2.1 16 = .ok (.getfield 55, 3) := by decide +kernel
theorem d5_needPartsOf_19 : decode y5_needPartsOf.2.1 19 = .ok (.getfield 113, 3) := by decide +kernel
theorem d5_needPartsOf_22 : decode y5_needPartsOf.2.1 22 = .ok (.iload_n 1, 1) := by decide +kernel
theorem d5_needPartsOf_23 : decode y5_needPartsOf.2.1 23 = .ok (.aaload, 1) := by decide +kernel
theorem d5_needPartsOf_24 : decode y5_needPartsOf.2.1 24 = .ok (.getfield 192, 3) := by decide +kernel
theorem d5_needPartsOf_27 : decode y5_needPartsOf.2.1 27 = .ok (.iconst 4, 1) := by decide +kernel
theorem d5_needPartsOf_28 : decode y5_needPartsOf.2.1 28 = .ok (.if_icmp .ne 27, 3) := by decide +kernel
theorem d5_needPartsOf_31 : decode y5_needPartsOf.2.1 31 = .ok (.aload_n 0, 1) := by decide +kernel
theorem d5_needPartsOf_32 : decode y5_needPartsOf.2.1 32 = .ok (.iload_n 1, 1) := by decide +kernel
theorem d5_needPartsOf_33 : decode y5_needPartsOf.2.1 33 = .ok (.iload_n 2, 1) := by decide +kernel
theorem d5_needPartsOf_34 : decode y5_needPartsOf.2.1 34 = .ok (.bipush 100, 2) := by decide +kernel
theorem d5_needPartsOf_36 : decode y5_needPartsOf.2.1 36 = .ok (.isub, 1) := by decide +kernel
theorem d5_needPartsOf_37 : decode y5_needPartsOf.2.1 37 = .ok (.bipush 100, 2) := by decide +kernel
theorem d5_needPartsOf_39 : decode y5_needPartsOf.2.1 39 = .ok (.idiv, 1) := by decide +kernel
theorem d5_needPartsOf_40 : decode y5_needPartsOf.2.1 40 = .ok (.invokevirtual 189, 3) := by decide +kernel
theorem d5_needPartsOf_43 : decode y5_needPartsOf.2.1 43 = .ok (.aload_n 0, 1) := by decide +kernel
theorem d5_needPartsOf_44 : decode y5_needPartsOf.2.1 44 = .ok (.iload_n 1, 1) := by decide +kernel
theorem d5_needPartsOf_45 : decode y5_needPartsOf.2.1 45 = .ok (.iload_n 2, 1) := by decide +kernel
theorem d5_needPartsOf_46 : decode y5_needPartsOf.2.1 46 = .ok (.bipush 100, 2) := by decide +kernel
theorem d5_needPartsOf_48 : decode y5_needPartsOf.2.1 48 = .ok (.isub, 1) := by decide +kernel
theorem d5_needPartsOf_49 : decode y5_needPartsOf.2.1 49 = .ok (.bipush 100, 2) := by decide +kernel
theorem d5_needPartsOf_51 : decode y5_needPartsOf.2.1 51 = .ok (.irem, 1) := by decide +kernel
theorem d5_needPartsOf_52 : decode y5_needPartsOf.2.1 52 = .ok (.invokevirtual 189, 3) := by decide +kernel
theorem d5_needPartsOf_55 : decode y5_needPartsOf.2.1 55 = .ok (.return_, 1) := by decide +kernel
theorem d5_need_0 : decode y5_need.2.1 0 = .ok (.aload_n 0, 1) := by decide +kernel
theorem d5_need_1 : decode y5_need.2.1 1 = .ok (.getfield 23, 3) := by decide +kernel
theorem d5_need_4 : decode y5_need.2.1 4 = .ok (.bipush 100, 2) := by decide +kernel
theorem d5_need_6 : decode y5_need.2.1 6 = .ok (.iload_n 1, 1) := by decide +kernel
theorem d5_need_7 : decode y5_need.2.1 7 = .ok (.imul, 1) := by decide +kernel
theorem d5_need_8 : decode y5_need.2.1 8 = .ok (.iload_n 2, 1) := by decide +kernel
theorem d5_need_9 : decode y5_need.2.1 9 = .ok (.iadd, 1) := by decide +kernel
theorem d5_need_10 : decode y5_need.2.1 10 = .ok (.baload, 1) := by decide +kernel
theorem d5_need_11 : decode y5_need.2.1 11 = .ok (.ifCond .ne 25, 3) := by decide +kernel
theorem d5_need_14 : decode y5_need.2.1 14 = .ok (.aload_n 0, 1) := by decide +kernel
theorem d5_need_15 : decode y5_need.2.1 15 = .ok (.getfield 23, 3) := by decide +kernel
theorem d5_need_18 : decode y5_need.2.1 18 = .ok (.bipush 100, 2) := by decide +kernel
theorem d5_need_20 : decode y5_need.2.1 20 = .ok (.iload_n 1, 1) := by decide +kernel
theorem d5_need_21 : decode y5_need.2.1 21 = .ok (.imul, 1) := by decide +kernel
theorem d5_need_22 : decode y5_need.2.1 22 = .ok (.iload_n 2, 1) := by decide +kernel
theorem d5_need_23 : decode y5_need.2.1 23 = .ok (.iadd, 1) := by decide +kernel
theorem d5_need_24 : decode y5_need.2.1 24 = .ok (.iconst 1, 1) := by decide +kernel
theorem d5_need_25 : decode y5_need.2.1 25 = .ok (.bastore, 1) := by decide +kernel
theorem d5_need_26 : decode y5_need.2.1 26 = .ok (.aload_n 0, 1) := by decide +kernel
theorem d5_need_27 : decode y5_need.2.1 27 = .ok (.getfield 26, 3) := by decide +kernel
theorem d5_need_30 : decode y5_need.2.1 30 = .ok (.iload_n 1, 1) := by decide +kernel
theorem d5_need_31 : decode y5_need.2.1 31 = .ok (.dup2, 1) := by decide +kernel
theorem d5_need_32 : decode y5_need.2.1 32 = .ok (.iaload, 1) := by decide +kernel
theorem d5_need_33 : decode y5_need.2.1 33 = .ok (.iconst 1, 1) := by decide +kernel
theorem d5_need_34 : decode y5_need.2.1 34 = .ok (.iadd, 1) := by decide +kernel
theorem d5_need_35 : decode y5_need.2.1 35 = .ok (.iastore, 1) := by decide +kernel
theorem d5_need_36 : decode y5_need.2.1 36 = .ok (.return_, 1) := by decide +kernel
theorem d2_accessTop_0 : decode y2_accessTop.2.1 0 = .ok (.aload_n 0, 1) := by decide +kernel
theorem d2_accessTop_1 : decode y2_accessTop.2.1 1 = .ok (.invokevirtual 42, 3) := by decide +kernel
theorem d2_accessTop_4 : decode y2_accessTop.2.1 4 = .ok (.ifCond .eq 7, 3) := by decide +kernel
theorem d2_accessTop_7 : decode y2_accessTop.2.1 7 = .ok (.iconst 0, 1) := by decide +kernel
theorem d2_accessTop_8 : decode y2_accessTop.2.1 8 = .ok (.goto 5, 3) := by decide +kernel
theorem d2_accessTop_11 : decode y2_accessTop.2.1 11 = .ok (.bipush 9, 2) := by decide +kernel
theorem d2_accessTop_13 : decode y2_accessTop.2.1 13 = .ok (.ireturn, 1) := by decide +kernel
theorem d2_isScratchAccess_0 : decode y2_isScratchAccess.2.1 0 = .ok (.aload_n 0, 1) := by decide +kernel
theorem d2_isScratchAccess_1 : decode y2_isScratchAccess.2.1 1 = .ok (.getfield 30, 3) := by decide +kernel
theorem d2_isScratchAccess_4 : decode y2_isScratchAccess.2.1 4 = .ok (.bipush 11, 2) := by decide +kernel
theorem d2_isScratchAccess_6 : decode y2_isScratchAccess.2.1 6 = .ok (.if_icmp .eq 12, 3) := by decide +kernel
theorem d2_isScratchAccess_9 : decode y2_isScratchAccess.2.1 9 = .ok (.aload_n 0, 1) := by decide +kernel
theorem d2_isScratchAccess_10 : decode y2_isScratchAccess.2.1 10 = .ok (.getfield 30, 3) := by decide +kernel
theorem d2_isScratchAccess_13 : decode y2_isScratchAccess.2.1 13 = .ok (.bipush 12, 2) := by decide +kernel
theorem d2_isScratchAccess_15 : decode y2_isScratchAccess.2.1 15 = .ok (.if_icmp .ne 7, 3) := by decide +kernel
theorem d2_isScratchAccess_18 : decode y2_isScratchAccess.2.1 18 = .ok (.iconst 1, 1) := by decide +kernel
theorem d2_isScratchAccess_19 : decode y2_isScratchAccess.2.1 19 = .ok (.goto 4, 3) := by decide +kernel
theorem d2_isScratchAccess_22 : decode y2_isScratchAccess.2.1 22 = .ok (.iconst 0, 1) := by decide +kernel
theorem d2_isScratchAccess_23 : decode y2_isScratchAccess.2.1 23 = .ok (.ireturn, 1) := by decide +kernel
theorem d2_accessMost_0 : decode y2_accessMost.2.1 0 = .ok (.aload_n 0, 1) := by decide +kernel
theorem d2_accessMost_1 : decode y2_accessMost.2.1 1 = .ok (.invokevirtual 42, 3) := by decide +kernel
theorem d2_accessMost_4 : decode y2_accessMost.2.1 4 = .ok (.ifCond .eq 15, 3) := by decide +kernel
theorem d2_accessMost_7 : decode y2_accessMost.2.1 7 = .ok (.ldc2_w 45, 3) := by decide +kernel
theorem d2_accessMost_10 : decode y2_accessMost.2.1 10 = .ok (.aload_n 0, 1) := by decide +kernel
theorem d2_accessMost_11 : decode y2_accessMost.2.1 11 = .ok (.getfield 33, 3) := by decide +kernel
theorem d2_accessMost_14 : decode y2_accessMost.2.1 14 = .ok (.i2l, 1) := by decide +kernel
theorem d2_accessMost_15 : decode y2_accessMost.2.1 15 = .ok (.lsub, 1) := by decide +kernel
theorem d2_accessMost_16 : decode y2_accessMost.2.1 16 = .ok (.goto 15, 3) := by decide +kernel
theorem d2_accessMost_19 : decode y2_accessMost.2.1 19 = .ok (.aload_n 0, 1) := by decide +kernel
theorem d2_accessMost_20 : decode y2_accessMost.2.1 20 = .ok (.getfield 33, 3) := by decide +kernel
theorem d2_accessMost_23 : decode y2_accessMost.2.1 23 = .ok (.i2l, 1) := by decide +kernel
theorem d2_accessMost_24 : decode y2_accessMost.2.1 24 = .ok (.lneg, 1) := by decide +kernel
theorem d2_accessMost_25 : decode y2_accessMost.2.1 25 = .ok (.aload_n 0, 1) := by decide +kernel
theorem d2_accessMost_26 : decode y2_accessMost.2.1 26 = .ok (.invokevirtual 47, 3) := by decide +kernel
theorem d2_accessMost_29 : decode y2_accessMost.2.1 29 = .ok (.i2l, 1) := by decide +kernel
theorem d2_accessMost_30 : decode y2_accessMost.2.1 30 = .ok (.lsub, 1) := by decide +kernel
theorem d2_accessMost_31 : decode y2_accessMost.2.1 31 = .ok (.lreturn, 1) := by decide +kernel
theorem d2_loadSize_0 : decode y2_loadSize.2.1 0 = .ok (.aload_n 0, 1) := by decide +kernel
theorem d2_loadSize_1 : decode y2_loadSize.2.1 1 = .ok (.getfield 30, 3) := by decide +kernel
theorem d2_loadSize_4 : decode y2_loadSize.2.1 4 = .ok (.bipush 10, 2) := by decide +kernel
theorem d2_loadSize_6 : decode y2_loadSize.2.1 6 = .ok (.if_icmp .ne 5, 3) := by decide +kernel
theorem d2_loadSize_9 : decode y2_loadSize.2.1 9 = .ok (.iconst 4, 1) := by decide +kernel
theorem d2_loadSize_10 : decode y2_loadSize.2.1 10 = .ok (.ireturn, 1) := by decide +kernel
theorem d2_loadSize_11 : decode y2_loadSize.2.1 11 = .ok (.aload_n 0, 1) := by decide +kernel
theorem d2_loadSize_12 : decode y2_loadSize.2.1 12 = .ok (.getfield 30, 3) := by decide +kernel
theorem d2_loadSize_15 : decode y2_loadSize.2.1 15 = .ok (.bipush 9, 2) := by decide +kernel
theorem d2_loadSize_17 : decode y2_loadSize.2.1 17 = .ok (.if_icmp .ne 7, 3) := by decide +kernel
theorem d2_loadSize_20 : decode y2_loadSize.2.1 20 = .ok (.iconst 2, 1) := by decide +kernel
theorem d2_loadSize_21 : decode y2_loadSize.2.1 21 = .ok (.goto 4, 3) := by decide +kernel
theorem d2_loadSize_24 : decode y2_loadSize.2.1 24 = .ok (.iconst 1, 1) := by decide +kernel
theorem d2_loadSize_25 : decode y2_loadSize.2.1 25 = .ok (.ireturn, 1) := by decide +kernel
