def yL_law : xm_Y := (⟨"FilterProofLaw", "law", "([I)Z"⟩, code, 4, some .boolean)
abbrev rmL_law : Room := room_1
theorem dL_law_0 : decode yL_law.2.1 0 = .ok (.new 7, 3) := by decide +kernel
theorem dL_law_3 : decode yL_law.2.1 3 = .ok (.dup, 1) := by decide +kernel
theorem dL_law_4 : decode yL_law.2.1 4 = .ok (.aload_n 0, 1) := by decide +kernel
theorem dL_law_5 : decode yL_law.2.1 5 = .ok (.iconst 0, 1) := by decide +kernel
theorem dL_law_6 : decode yL_law.2.1 6 = .ok (.invokestatic 9, 3) := by decide +kernel
theorem dL_law_9 : decode yL_law.2.1 9 = .ok (.invokespecial 15, 3) := by decide +kernel
theorem dL_law_12 : decode yL_law.2.1 12 = .ok (.astore_n 1, 1) := by decide +kernel
theorem dL_law_13 : decode yL_law.2.1 13 = .ok (.new 18, 3) := by decide +kernel
theorem dL_law_16 : decode yL_law.2.1 16 = .ok (.dup, 1) := by decide +kernel
theorem dL_law_17 : decode yL_law.2.1 17 = .ok (.aload_n 0, 1) := by decide +kernel
theorem dL_law_18 : decode yL_law.2.1 18 = .ok (.iconst 0, 1) := by decide +kernel
theorem dL_law_19 : decode yL_law.2.1 19 = .ok (.invokestatic 9, 3) := by decide +kernel
theorem dL_law_22 : decode yL_law.2.1 22 = .ok (.invokespecial 20, 3) := by decide +kernel
theorem dL_law_25 : decode yL_law.2.1 25 = .ok (.astore_n 2, 1) := by decide +kernel
theorem dL_law_26 : decode yL_law.2.1 26 = .ok (.iconst 1, 1) := by decide +kernel
theorem dL_law_27 : decode yL_law.2.1 27 = .ok (.istore_n 3, 1) := by decide +kernel
theorem dL_law_28 : decode yL_law.2.1 28 = .ok (.iload_n 3, 1) := by decide +kernel
theorem dL_law_29 : decode yL_law.2.1 29 = .ok (.aload_n 0, 1) := by decide +kernel
theorem dL_law_30 : decode yL_law.2.1 30 = .ok (.arraylength, 1) := by decide +kernel
theorem dL_law_31 : decode yL_law.2.1 31 = .ok (.bipush 6, 2) := by decide +kernel
theorem dL_law_33 : decode yL_law.2.1 33 = .ok (.isub, 1) := by decide +kernel
theorem dL_law_34 : decode yL_law.2.1 34 = .ok (.if_icmp .gt 433, 3) := by decide +kernel
theorem dL_law_37 : decode yL_law.2.1 37 = .ok (.aload_n 0, 1) := by decide +kernel
theorem dL_law_38 : decode yL_law.2.1 38 = .ok (.iload_n 3, 1) := by decide +kernel
theorem dL_law_39 : decode yL_law.2.1 39 = .ok (.iaload, 1) := by decide +kernel
theorem dL_law_40 : decode yL_law.2.1 40 = .ok (.bipush 15, 2) := by decide +kernel
theorem dL_law_42 : decode yL_law.2.1 42 = .ok (.iand, 1) := by decide +kernel
theorem dL_law_43 : decode yL_law.2.1 43 = .ok (.tableswitch 418 0 14 #[73, 136, 149, 162, 185, 208, 241, 254, 277, 290, 303, 366, 379, 392, 405], 73) := by decide +kernel
theorem dL_law_116 : decode yL_law.2.1 116 = .ok (.aload_n 1, 1) := by decide +kernel
theorem dL_law_117 : decode yL_law.2.1 117 = .ok (.aload_n 0, 1) := by decide +kernel
theorem dL_law_118 : decode yL_law.2.1 118 = .ok (.iload_n 3, 1) := by decide +kernel
theorem dL_law_119 : decode yL_law.2.1 119 = .ok (.iconst 1, 1) := by decide +kernel
theorem dL_law_120 : decode yL_law.2.1 120 = .ok (.iadd, 1) := by decide +kernel
theorem dL_law_121 : decode yL_law.2.1 121 = .ok (.iaload, 1) := by decide +kernel
theorem dL_law_122 : decode yL_law.2.1 122 = .ok (.aload_n 0, 1) := by decide +kernel
theorem dL_law_123 : decode yL_law.2.1 123 = .ok (.iload_n 3, 1) := by decide +kernel
theorem dL_law_124 : decode yL_law.2.1 124 = .ok (.iconst 2, 1) := by decide +kernel
theorem dL_law_125 : decode yL_law.2.1 125 = .ok (.iadd, 1) := by decide +kernel
theorem dL_law_126 : decode yL_law.2.1 126 = .ok (.iaload, 1) := by decide +kernel
theorem dL_law_127 : decode yL_law.2.1 127 = .ok (.aload_n 0, 1) := by decide +kernel
theorem dL_law_128 : decode yL_law.2.1 128 = .ok (.iload_n 3, 1) := by decide +kernel
theorem dL_law_129 : decode yL_law.2.1 129 = .ok (.iconst 3, 1) := by decide +kernel
theorem dL_law_130 : decode yL_law.2.1 130 = .ok (.iadd, 1) := by decide +kernel
theorem dL_law_131 : decode yL_law.2.1 131 = .ok (.iaload, 1) := by decide +kernel
theorem dL_law_132 : decode yL_law.2.1 132 = .ok (.aload_n 0, 1) := by decide +kernel
theorem dL_law_133 : decode yL_law.2.1 133 = .ok (.iload_n 3, 1) := by decide +kernel
theorem dL_law_134 : decode yL_law.2.1 134 = .ok (.iconst 4, 1) := by decide +kernel
theorem dL_law_135 : decode yL_law.2.1 135 = .ok (.iadd, 1) := by decide +kernel
theorem dL_law_136 : decode yL_law.2.1 136 = .ok (.iaload, 1) := by decide +kernel
theorem dL_law_137 : decode yL_law.2.1 137 = .ok (.aload_n 0, 1) := by decide +kernel
theorem dL_law_138 : decode yL_law.2.1 138 = .ok (.iload_n 3, 1) := by decide +kernel
theorem dL_law_139 : decode yL_law.2.1 139 = .ok (.iconst 5, 1) := by decide +kernel
theorem dL_law_140 : decode yL_law.2.1 140 = .ok (.iadd, 1) := by decide +kernel
theorem dL_law_141 : decode yL_law.2.1 141 = .ok (.iaload, 1) := by decide +kernel
theorem dL_law_142 : decode yL_law.2.1 142 = .ok (.invokevirtual 21, 3) := by decide +kernel
theorem dL_law_145 : decode yL_law.2.1 145 = .ok (.aload_n 2, 1) := by decide +kernel
theorem dL_law_146 : decode yL_law.2.1 146 = .ok (.aload_n 0, 1) := by decide +kernel
theorem dL_law_147 : decode yL_law.2.1 147 = .ok (.iload_n 3, 1) := by decide +kernel
theorem dL_law_148 : decode yL_law.2.1 148 = .ok (.iconst 1, 1) := by decide +kernel
theorem dL_law_149 : decode yL_law.2.1 149 = .ok (.iadd, 1) := by decide +kernel
theorem dL_law_150 : decode yL_law.2.1 150 = .ok (.iaload, 1) := by decide +kernel
theorem dL_law_151 : decode yL_law.2.1 151 = .ok (.aload_n 0, 1) := by decide +kernel
theorem dL_law_152 : decode yL_law.2.1 152 = .ok (.iload_n 3, 1) := by decide +kernel
theorem dL_law_153 : decode yL_law.2.1 153 = .ok (.iconst 2, 1) := by decide +kernel
theorem dL_law_154 : decode yL_law.2.1 154 = .ok (.iadd, 1) := by decide +kernel
theorem dL_law_155 : decode yL_law.2.1 155 = .ok (.iaload, 1) := by decide +kernel
theorem dL_law_156 : decode yL_law.2.1 156 = .ok (.aload_n 0, 1) := by decide +kernel
theorem dL_law_157 : decode yL_law.2.1 157 = .ok (.iload_n 3, 1) := by decide +kernel
theorem dL_law_158 : decode yL_law.2.1 158 = .ok (.iconst 3, 1) := by decide +kernel
theorem dL_law_159 : decode yL_law.2.1 159 = .ok (.iadd, 1) := by decide +kernel
theorem dL_law_160 : decode yL_law.2.1 160 = .ok (.iaload, 1) := by decide +kernel
theorem dL_law_161 : decode yL_law.2.1 161 = .ok (.aload_n 0, 1) := by decide +kernel
theorem dL_law_162 : decode yL_law.2.1 162 = .ok (.iload_n 3, 1) := by decide +kernel
theorem dL_law_163 : decode yL_law.2.1 163 = .ok (.iconst 4, 1) := by decide +kernel
theorem dL_law_164 : decode yL_law.2.1 164 = .ok (.iadd, 1) := by decide +kernel
theorem dL_law_165 : decode yL_law.2.1 165 = .ok (.iaload, 1) := by decide +kernel
theorem dL_law_166 : decode yL_law.2.1 166 = .ok (.aload_n 0, 1) := by decide +kernel
theorem dL_law_167 : decode yL_law.2.1 167 = .ok (.iload_n 3, 1) := by decide +kernel
theorem dL_law_168 : decode yL_law.2.1 168 = .ok (.iconst 5, 1) := by decide +kernel
theorem dL_law_169 : decode yL_law.2.1 169 = .ok (.iadd, 1) := by decide +kernel
theorem dL_law_170 : decode yL_law.2.1 170 = .ok (.iaload, 1) := by decide +kernel
theorem dL_law_171 : decode yL_law.2.1 171 = .ok (.invokevirtual 25, 3) := by decide +kernel
theorem dL_law_174 : decode yL_law.2.1 174 = .ok (.if_icmp .eq 287, 3) := by decide +kernel
theorem dL_law_177 : decode yL_law.2.1 177 = .ok (.iconst 0, 1) := by decide +kernel
theorem dL_law_178 : decode yL_law.2.1 178 = .ok (.ireturn, 1) := by decide +kernel
theorem dL_law_179 : decode yL_law.2.1 179 = .ok (.aload_n 1, 1) := by decide +kernel
theorem dL_law_180 : decode yL_law.2.1 180 = .ok (.invokevirtual 26, 3) := by decide +kernel
theorem dL_law_183 : decode yL_law.2.1 183 = .ok (.aload_n 2, 1) := by decide +kernel
theorem dL_law_184 : decode yL_law.2.1 184 = .ok (.invokevirtual 30, 3) := by decide +kernel
theorem dL_law_187 : decode yL_law.2.1 187 = .ok (.if_icmp .eq 274, 3) := by decide +kernel
theorem dL_law_190 : decode yL_law.2.1 190 = .ok (.iconst 0, 1) := by decide +kernel
theorem dL_law_191 : decode yL_law.2.1 191 = .ok (.ireturn, 1) := by decide +kernel
theorem dL_law_192 : decode yL_law.2.1 192 = .ok (.aload_n 1, 1) := by decide +kernel
theorem dL_law_193 : decode yL_law.2.1 193 = .ok (.invokevirtual 31, 3) := by decide +kernel
theorem dL_law_196 : decode yL_law.2.1 196 = .ok (.aload_n 2, 1) := by decide +kernel
theorem dL_law_197 : decode yL_law.2.1 197 = .ok (.invokevirtual 34, 3) := by decide +kernel
theorem dL_law_200 : decode yL_law.2.1 200 = .ok (.if_icmp .eq 261, 3) := by decide +kernel
theorem dL_law_203 : decode yL_law.2.1 203 = .ok (.iconst 0, 1) := by decide +kernel
theorem dL_law_204 : decode yL_law.2.1 204 = .ok (.ireturn, 1) := by decide +kernel
theorem dL_law_205 : decode yL_law.2.1 205 = .ok (.aload_n 1, 1) := by decide +kernel
theorem dL_law_206 : decode yL_law.2.1 206 = .ok (.aload_n 0, 1) := by decide +kernel
theorem dL_law_207 : decode yL_law.2.1 207 = .ok (.iload_n 3, 1) := by decide +kernel
theorem dL_law_208 : decode yL_law.2.1 208 = .ok (.iconst 1, 1) := by decide +kernel
theorem dL_law_209 : decode yL_law.2.1 209 = .ok (.iadd, 1) := by decide +kernel
theorem dL_law_210 : decode yL_law.2.1 210 = .ok (.iaload, 1) := by decide +kernel
theorem dL_law_211 : decode yL_law.2.1 211 = .ok (.invokevirtual 35, 3) := by decide +kernel
theorem dL_law_214 : decode yL_law.2.1 214 = .ok (.aload_n 2, 1) := by decide +kernel
theorem dL_law_215 : decode yL_law.2.1 215 = .ok (.aload_n 0, 1) := by decide +kernel
theorem dL_law_216 : decode yL_law.2.1 216 = .ok (.iload_n 3, 1) := by decide +kernel
theorem dL_law_217 : decode yL_law.2.1 217 = .ok (.iconst 1, 1) := by decide +kernel
theorem dL_law_218 : decode yL_law.2.1 218 = .ok (.iadd, 1) := by decide +kernel
theorem dL_law_219 : decode yL_law.2.1 219 = .ok (.iaload, 1) := by decide +kernel
theorem dL_law_220 : decode yL_law.2.1 220 = .ok (.invokevirtual 39, 3) := by decide +kernel
theorem dL_law_223 : decode yL_law.2.1 223 = .ok (.if_icmp .eq 238, 3) := by decide +kernel
theorem dL_law_226 : decode yL_law.2.1 226 = .ok (.iconst 0, 1) := by decide +kernel
theorem dL_law_227 : decode yL_law.2.1 227 = .ok (.ireturn, 1) := by decide +kernel
theorem dL_law_228 : decode yL_law.2.1 228 = .ok (.aload_n 1, 1) := by decide +kernel
theorem dL_law_229 : decode yL_law.2.1 229 = .ok (.aload_n 0, 1) := by decide +kernel
theorem dL_law_230 : decode yL_law.2.1 230 = .ok (.iload_n 3, 1) := by decide +kernel
theorem dL_law_231 : decode yL_law.2.1 231 = .ok (.iconst 1, 1) := by decide +kernel
theorem dL_law_232 : decode yL_law.2.1 232 = .ok (.iadd, 1) := by decide +kernel
theorem dL_law_233 : decode yL_law.2.1 233 = .ok (.iaload, 1) := by decide +kernel
theorem dL_law_234 : decode yL_law.2.1 234 = .ok (.invokevirtual 40, 3) := by decide +kernel
theorem dL_law_237 : decode yL_law.2.1 237 = .ok (.aload_n 2, 1) := by decide +kernel
theorem dL_law_238 : decode yL_law.2.1 238 = .ok (.aload_n 0, 1) := by decide +kernel
theorem dL_law_239 : decode yL_law.2.1 239 = .ok (.iload_n 3, 1) := by decide +kernel
theorem dL_law_240 : decode yL_law.2.1 240 = .ok (.iconst 1, 1) := by decide +kernel
theorem dL_law_241 : decode yL_law.2.1 241 = .ok (.iadd, 1) := by decide +kernel
theorem dL_law_242 : decode yL_law.2.1 242 = .ok (.iaload, 1) := by decide +kernel
theorem dL_law_243 : decode yL_law.2.1 243 = .ok (.invokevirtual 44, 3) := by decide +kernel
theorem dL_law_246 : decode yL_law.2.1 246 = .ok (.if_icmp .eq 215, 3) := by decide +kernel
theorem dL_law_249 : decode yL_law.2.1 249 = .ok (.iconst 0, 1) := by decide +kernel
theorem dL_law_250 : decode yL_law.2.1 250 = .ok (.ireturn, 1) := by decide +kernel
theorem dL_law_251 : decode yL_law.2.1 251 = .ok (.aload_n 1, 1) := by decide +kernel
theorem dL_law_252 : decode yL_law.2.1 252 = .ok (.aload_n 0, 1) := by decide +kernel
theorem dL_law_253 : decode yL_law.2.1 253 = .ok (.iload_n 3, 1) := by decide +kernel
theorem dL_law_254 : decode yL_law.2.1 254 = .ok (.iconst 1, 1) := by decide +kernel
theorem dL_law_255 : decode yL_law.2.1 255 = .ok (.iadd, 1) := by decide +kernel
theorem dL_law_256 : decode yL_law.2.1 256 = .ok (.iaload, 1) := by decide +kernel
theorem dL_law_257 : decode yL_law.2.1 257 = .ok (.aload_n 0, 1) := by decide +kernel
theorem dL_law_258 : decode yL_law.2.1 258 = .ok (.iload_n 3, 1) := by decide +kernel
theorem dL_law_259 : decode yL_law.2.1 259 = .ok (.iconst 2, 1) := by decide +kernel
theorem dL_law_260 : decode yL_law.2.1 260 = .ok (.iadd, 1) := by decide +kernel
theorem dL_law_261 : decode yL_law.2.1 261 = .ok (.iaload, 1) := by decide +kernel
theorem dL_law_262 : decode yL_law.2.1 262 = .ok (.invokevirtual 45, 3) := by decide +kernel
theorem dL_law_265 : decode yL_law.2.1 265 = .ok (.aload_n 2, 1) := by decide +kernel
theorem dL_law_266 : decode yL_law.2.1 266 = .ok (.aload_n 0, 1) := by decide +kernel
theorem dL_law_267 : decode yL_law.2.1 267 = .ok (.iload_n 3, 1) := by decide +kernel
theorem dL_law_268 : decode yL_law.2.1 268 = .ok (.iconst 1, 1) := by decide +kernel
theorem dL_law_269 : decode yL_law.2.1 269 = .ok (.iadd, 1) := by decide +kernel
theorem dL_law_270 : decode yL_law.2.1 270 = .ok (.iaload, 1) := by decide +kernel
theorem dL_law_271 : decode yL_law.2.1 271 = .ok (.aload_n 0, 1) := by decide +kernel
theorem dL_law_272 : decode yL_law.2.1 272 = .ok (.iload_n 3, 1) := by decide +kernel
theorem dL_law_273 : decode yL_law.2.1 273 = .ok (.iconst 2, 1) := by decide +kernel
theorem dL_law_274 : decode yL_law.2.1 274 = .ok (.iadd, 1) := by decide +kernel
theorem dL_law_275 : decode yL_law.2.1 275 = .ok (.iaload, 1) := by decide +kernel
theorem dL_law_276 : decode yL_law.2.1 276 = .ok (.invokevirtual 49, 3) := by decide +kernel
theorem dL_law_279 : decode yL_law.2.1 279 = .ok (.if_icmp .eq 182, 3) := by decide +kernel
theorem dL_law_282 : decode yL_law.2.1 282 = .ok (.iconst 0, 1) := by decide +kernel
theorem dL_law_283 : decode yL_law.2.1 283 = .ok (.ireturn, 1) := by decide +kernel
theorem dL_law_284 : decode yL_law.2.1 284 = .ok (.aload_n 1, 1) := by decide +kernel
theorem dL_law_285 : decode yL_law.2.1 285 = .ok (.invokevirtual 50, 3) := by decide +kernel
theorem dL_law_288 : decode yL_law.2.1 288 = .ok (.aload_n 2, 1) := by decide +kernel
theorem dL_law_289 : decode yL_law.2.1 289 = .ok (.invokevirtual 53, 3) := by decide +kernel
theorem dL_law_292 : decode yL_law.2.1 292 = .ok (.if_icmp .eq 169, 3) := by decide +kernel
theorem dL_law_295 : decode yL_law.2.1 295 = .ok (.iconst 0, 1) := by decide +kernel
theorem dL_law_296 : decode yL_law.2.1 296 = .ok (.ireturn, 1) := by decide +kernel
theorem dL_law_297 : decode yL_law.2.1 297 = .ok (.aload_n 1, 1) := by decide +kernel
theorem dL_law_298 : decode yL_law.2.1 298 = .ok (.aload_n 0, 1) := by decide +kernel
theorem dL_law_299 : decode yL_law.2.1 299 = .ok (.iload_n 3, 1) := by decide +kernel
theorem dL_law_300 : decode yL_law.2.1 300 = .ok (.iconst 1, 1) := by decide +kernel
theorem dL_law_301 : decode yL_law.2.1 301 = .ok (.iadd, 1) := by decide +kernel
theorem dL_law_302 : decode yL_law.2.1 302 = .ok (.iaload, 1) := by decide +kernel
theorem dL_law_303 : decode yL_law.2.1 303 = .ok (.invokevirtual 54, 3) := by decide +kernel
theorem dL_law_306 : decode yL_law.2.1 306 = .ok (.aload_n 2, 1) := by decide +kernel
theorem dL_law_307 : decode yL_law.2.1 307 = .ok (.aload_n 0, 1) := by decide +kernel
theorem dL_law_308 : decode yL_law.2.1 308 = .ok (.iload_n 3, 1) := by decide +kernel
theorem dL_law_309 : decode yL_law.2.1 309 = .ok (.iconst 1, 1) := by decide +kernel
theorem dL_law_310 : decode yL_law.2.1 310 = .ok (.iadd, 1) := by decide +kernel
theorem dL_law_311 : decode yL_law.2.1 311 = .ok (.iaload, 1) := by decide +kernel
theorem dL_law_312 : decode yL_law.2.1 312 = .ok (.invokevirtual 57, 3) := by decide +kernel
theorem dL_law_315 : decode yL_law.2.1 315 = .ok (.if_icmp .eq 146, 3) := by decide +kernel
theorem dL_law_318 : decode yL_law.2.1 318 = .ok (.iconst 0, 1) := by decide +kernel
theorem dL_law_319 : decode yL_law.2.1 319 = .ok (.ireturn, 1) := by decide +kernel
theorem dL_law_320 : decode yL_law.2.1 320 = .ok (.aload_n 1, 1) := by decide +kernel
theorem dL_law_321 : decode yL_law.2.1 321 = .ok (.invokevirtual 58, 3) := by decide +kernel
theorem dL_law_324 : decode yL_law.2.1 324 = .ok (.aload_n 2, 1) := by decide +kernel
theorem dL_law_325 : decode yL_law.2.1 325 = .ok (.invokevirtual 61, 3) := by decide +kernel
theorem dL_law_328 : decode yL_law.2.1 328 = .ok (.if_icmp .eq 133, 3) := by decide +kernel
theorem dL_law_331 : decode yL_law.2.1 331 = .ok (.iconst 0, 1) := by decide +kernel
theorem dL_law_332 : decode yL_law.2.1 332 = .ok (.ireturn, 1) := by decide +kernel
theorem dL_law_333 : decode yL_law.2.1 333 = .ok (.aload_n 1, 1) := by decide +kernel
theorem dL_law_334 : decode yL_law.2.1 334 = .ok (.invokevirtual 62, 3) := by decide +kernel
theorem dL_law_337 : decode yL_law.2.1 337 = .ok (.aload_n 2, 1) := by decide +kernel
theorem dL_law_338 : decode yL_law.2.1 338 = .ok (.invokevirtual 65, 3) := by decide +kernel
theorem dL_law_341 : decode yL_law.2.1 341 = .ok (.if_icmp .eq 120, 3) := by decide +kernel
theorem dL_law_344 : decode yL_law.2.1 344 = .ok (.iconst 0, 1) := by decide +kernel
theorem dL_law_345 : decode yL_law.2.1 345 = .ok (.ireturn, 1) := by decide +kernel
theorem dL_law_346 : decode yL_law.2.1 346 = .ok (.aload_n 1, 1) := by decide +kernel
theorem dL_law_347 : decode yL_law.2.1 347 = .ok (.aload_n 0, 1) := by decide +kernel
theorem dL_law_348 : decode yL_law.2.1 348 = .ok (.iload_n 3, 1) := by decide +kernel
theorem dL_law_349 : decode yL_law.2.1 349 = .ok (.iconst 1, 1) := by decide +kernel
theorem dL_law_350 : decode yL_law.2.1 350 = .ok (.iadd, 1) := by decide +kernel
theorem dL_law_351 : decode yL_law.2.1 351 = .ok (.iaload, 1) := by decide +kernel
theorem dL_law_352 : decode yL_law.2.1 352 = .ok (.i2l, 1) := by decide +kernel
theorem dL_law_353 : decode yL_law.2.1 353 = .ok (.bipush 32, 2) := by decide +kernel
theorem dL_law_355 : decode yL_law.2.1 355 = .ok (.lshl, 1) := by decide +kernel
theorem dL_law_356 : decode yL_law.2.1 356 = .ok (.aload_n 0, 1) := by decide +kernel
theorem dL_law_357 : decode yL_law.2.1 357 = .ok (.iload_n 3, 1) := by decide +kernel
theorem dL_law_358 : decode yL_law.2.1 358 = .ok (.iconst 2, 1) := by decide +kernel
theorem dL_law_359 : decode yL_law.2.1 359 = .ok (.iadd, 1) := by decide +kernel
theorem dL_law_360 : decode yL_law.2.1 360 = .ok (.iaload, 1) := by decide +kernel
theorem dL_law_361 : decode yL_law.2.1 361 = .ok (.i2l, 1) := by decide +kernel
theorem dL_law_362 : decode yL_law.2.1 362 = .ok (.ldc2_w 66, 3) := by decide +kernel
theorem dL_law_365 : decode yL_law.2.1 365 = .ok (.land, 1) := by decide +kernel
theorem dL_law_366 : decode yL_law.2.1 366 = .ok (.lor, 1) := by decide +kernel
theorem dL_law_367 : decode yL_law.2.1 367 = .ok (.aload_n 0, 1) := by decide +kernel
theorem dL_law_368 : decode yL_law.2.1 368 = .ok (.iload_n 3, 1) := by decide +kernel
theorem dL_law_369 : decode yL_law.2.1 369 = .ok (.iconst 3, 1) := by decide +kernel
theorem dL_law_370 : decode yL_law.2.1 370 = .ok (.iadd, 1) := by decide +kernel
theorem dL_law_371 : decode yL_law.2.1 371 = .ok (.iaload, 1) := by decide +kernel
theorem dL_law_372 : decode yL_law.2.1 372 = .ok (.invokevirtual 68, 3) := by decide +kernel
theorem dL_law_375 : decode yL_law.2.1 375 = .ok (.aload_n 2, 1) := by decide +kernel
theorem dL_law_376 : decode yL_law.2.1 376 = .ok (.aload_n 0, 1) := by decide +kernel
theorem dL_law_377 : decode yL_law.2.1 377 = .ok (.iload_n 3, 1) := by decide +kernel
theorem dL_law_378 : decode yL_law.2.1 378 = .ok (.iconst 1, 1) := by decide +kernel
theorem dL_law_379 : decode yL_law.2.1 379 = .ok (.iadd, 1) := by decide +kernel
theorem dL_law_380 : decode yL_law.2.1 380 = .ok (.iaload, 1) := by decide +kernel
theorem dL_law_381 : decode yL_law.2.1 381 = .ok (.i2l, 1) := by decide +kernel
theorem dL_law_382 : decode yL_law.2.1 382 = .ok (.bipush 32, 2) := by decide +kernel
theorem dL_law_384 : decode yL_law.2.1 384 = .ok (.lshl, 1) := by decide +kernel
theorem dL_law_385 : decode yL_law.2.1 385 = .ok (.aload_n 0, 1) := by decide +kernel
theorem dL_law_386 : decode yL_law.2.1 386 = .ok (.iload_n 3, 1) := by decide +kernel
theorem dL_law_387 : decode yL_law.2.1 387 = .ok (.iconst 2, 1) := by decide +kernel
theorem dL_law_388 : decode yL_law.2.1 388 = .ok (.iadd, 1) := by decide +kernel
theorem dL_law_389 : decode yL_law.2.1 389 = .ok (.iaload, 1) := by decide +kernel
theorem dL_law_390 : decode yL_law.2.1 390 = .ok (.i2l, 1) := by decide +kernel
theorem dL_law_391 : decode yL_law.2.1 391 = .ok (.ldc2_w 66, 3) := by decide +kernel
theorem dL_law_394 : decode yL_law.2.1 394 = .ok (.land, 1) := by decide +kernel
theorem dL_law_395 : decode yL_law.2.1 395 = .ok (.lor, 1) := by decide +kernel
theorem dL_law_396 : decode yL_law.2.1 396 = .ok (.aload_n 0, 1) := by decide +kernel
theorem dL_law_397 : decode yL_law.2.1 397 = .ok (.iload_n 3, 1) := by decide +kernel
theorem dL_law_398 : decode yL_law.2.1 398 = .ok (.iconst 3, 1) := by decide +kernel
theorem dL_law_399 : decode yL_law.2.1 399 = .ok (.iadd, 1) := by decide +kernel
theorem dL_law_400 : decode yL_law.2.1 400 = .ok (.iaload, 1) := by decide +kernel
theorem dL_law_401 : decode yL_law.2.1 401 = .ok (.invokevirtual 72, 3) := by decide +kernel
theorem dL_law_404 : decode yL_law.2.1 404 = .ok (.if_icmp .eq 57, 3) := by decide +kernel
theorem dL_law_407 : decode yL_law.2.1 407 = .ok (.iconst 0, 1) := by decide +kernel
theorem dL_law_408 : decode yL_law.2.1 408 = .ok (.ireturn, 1) := by decide +kernel
theorem dL_law_409 : decode yL_law.2.1 409 = .ok (.aload_n 1, 1) := by decide +kernel
theorem dL_law_410 : decode yL_law.2.1 410 = .ok (.invokevirtual 73, 3) := by decide +kernel
theorem dL_law_413 : decode yL_law.2.1 413 = .ok (.aload_n 2, 1) := by decide +kernel
theorem dL_law_414 : decode yL_law.2.1 414 = .ok (.invokevirtual 76, 3) := by decide +kernel
theorem dL_law_417 : decode yL_law.2.1 417 = .ok (.if_icmp .eq 44, 3) := by decide +kernel
theorem dL_law_420 : decode yL_law.2.1 420 = .ok (.iconst 0, 1) := by decide +kernel
theorem dL_law_421 : decode yL_law.2.1 421 = .ok (.ireturn, 1) := by decide +kernel
theorem dL_law_422 : decode yL_law.2.1 422 = .ok (.aload_n 1, 1) := by decide +kernel
theorem dL_law_423 : decode yL_law.2.1 423 = .ok (.invokevirtual 77, 3) := by decide +kernel
theorem dL_law_426 : decode yL_law.2.1 426 = .ok (.aload_n 2, 1) := by decide +kernel
theorem dL_law_427 : decode yL_law.2.1 427 = .ok (.invokevirtual 80, 3) := by decide +kernel
theorem dL_law_430 : decode yL_law.2.1 430 = .ok (.if_icmp .eq 31, 3) := by decide +kernel
theorem dL_law_433 : decode yL_law.2.1 433 = .ok (.iconst 0, 1) := by decide +kernel
theorem dL_law_434 : decode yL_law.2.1 434 = .ok (.ireturn, 1) := by decide +kernel
theorem dL_law_435 : decode yL_law.2.1 435 = .ok (.aload_n 1, 1) := by decide +kernel
theorem dL_law_436 : decode yL_law.2.1 436 = .ok (.invokevirtual 81, 3) := by decide +kernel
theorem dL_law_439 : decode yL_law.2.1 439 = .ok (.aload_n 2, 1) := by decide +kernel
theorem dL_law_440 : decode yL_law.2.1 440 = .ok (.invokevirtual 84, 3) := by decide +kernel
theorem dL_law_443 : decode yL_law.2.1 443 = .ok (.if_icmp .eq 18, 3) := by decide +kernel
theorem dL_law_446 : decode yL_law.2.1 446 = .ok (.iconst 0, 1) := by decide +kernel
theorem dL_law_447 : decode yL_law.2.1 447 = .ok (.ireturn, 1) := by decide +kernel
theorem dL_law_448 : decode yL_law.2.1 448 = .ok (.aload_n 1, 1) := by decide +kernel
theorem dL_law_449 : decode yL_law.2.1 449 = .ok (.invokevirtual 85, 3) := by decide +kernel
theorem dL_law_452 : decode yL_law.2.1 452 = .ok (.aload_n 2, 1) := by decide +kernel
theorem dL_law_453 : decode yL_law.2.1 453 = .ok (.invokevirtual 88, 3) := by decide +kernel
theorem dL_law_456 : decode yL_law.2.1 456 = .ok (.if_icmp .eq 5, 3) := by decide +kernel
theorem dL_law_459 : decode yL_law.2.1 459 = .ok (.iconst 0, 1) := by decide +kernel
theorem dL_law_460 : decode yL_law.2.1 460 = .ok (.ireturn, 1) := by decide +kernel
theorem dL_law_461 : decode yL_law.2.1 461 = .ok (.iinc 3 6, 3) := by decide +kernel
theorem dL_law_464 : decode yL_law.2.1 464 = .ok (.goto (-436), 3) := by decide +kernel
theorem dL_law_467 : decode yL_law.2.1 467 = .ok (.iconst 1, 1) := by decide +kernel
theorem dL_law_468 : decode yL_law.2.1 468 = .ok (.ireturn, 1) := by decide +kernel
