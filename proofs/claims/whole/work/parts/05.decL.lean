theorem dL_cell_0 : decode bL_cell 0 = .ok (.iload_n 1, 1) := by decide +kernel
theorem dL_cell_1 : decode bL_cell 1 = .ok (.aload_n 0, 1) := by decide +kernel
theorem dL_cell_2 : decode bL_cell 2 = .ok (.arraylength, 1) := by decide +kernel
theorem dL_cell_3 : decode bL_cell 3 = .ok (.if_icmp .ge 9, 3) := by decide +kernel
theorem dL_cell_6 : decode bL_cell 6 = .ok (.aload_n 0, 1) := by decide +kernel
theorem dL_cell_7 : decode bL_cell 7 = .ok (.iload_n 1, 1) := by decide +kernel
theorem dL_cell_8 : decode bL_cell 8 = .ok (.iaload, 1) := by decide +kernel
theorem dL_cell_9 : decode bL_cell 9 = .ok (.goto 4, 3) := by decide +kernel
theorem dL_cell_12 : decode bL_cell 12 = .ok (.iconst 0, 1) := by decide +kernel
theorem dL_cell_13 : decode bL_cell 13 = .ok (.ireturn, 1) := by decide +kernel
theorem dL_law_0 : decode bL_law 0 = .ok (.new 7, 3) := by decide +kernel
theorem dL_law_3 : decode bL_law 3 = .ok (.dup, 1) := by decide +kernel
theorem dL_law_4 : decode bL_law 4 = .ok (.aload_n 0, 1) := by decide +kernel
theorem dL_law_5 : decode bL_law 5 = .ok (.iconst 0, 1) := by decide +kernel
theorem dL_law_6 : decode bL_law 6 = .ok (.invokestatic 9, 3) := by decide +kernel
theorem dL_law_9 : decode bL_law 9 = .ok (.aload_n 0, 1) := by decide +kernel
theorem dL_law_10 : decode bL_law 10 = .ok (.iconst 1, 1) := by decide +kernel
theorem dL_law_11 : decode bL_law 11 = .ok (.invokestatic 9, 3) := by decide +kernel
theorem dL_law_14 : decode bL_law 14 = .ok (.invokespecial 15, 3) := by decide +kernel
theorem dL_law_17 : decode bL_law 17 = .ok (.astore_n 1, 1) := by decide +kernel
theorem dL_law_18 : decode bL_law 18 = .ok (.new 18, 3) := by decide +kernel
theorem dL_law_21 : decode bL_law 21 = .ok (.dup, 1) := by decide +kernel
theorem dL_law_22 : decode bL_law 22 = .ok (.aload_n 0, 1) := by decide +kernel
theorem dL_law_23 : decode bL_law 23 = .ok (.iconst 0, 1) := by decide +kernel
theorem dL_law_24 : decode bL_law 24 = .ok (.invokestatic 9, 3) := by decide +kernel
theorem dL_law_27 : decode bL_law 27 = .ok (.aload_n 0, 1) := by decide +kernel
theorem dL_law_28 : decode bL_law 28 = .ok (.iconst 1, 1) := by decide +kernel
theorem dL_law_29 : decode bL_law 29 = .ok (.invokestatic 9, 3) := by decide +kernel
theorem dL_law_32 : decode bL_law 32 = .ok (.invokespecial 20, 3) := by decide +kernel
theorem dL_law_35 : decode bL_law 35 = .ok (.astore_n 2, 1) := by decide +kernel
theorem dL_law_36 : decode bL_law 36 = .ok (.iconst 2, 1) := by decide +kernel
theorem dL_law_37 : decode bL_law 37 = .ok (.istore_n 3, 1) := by decide +kernel
theorem dL_law_38 : decode bL_law 38 = .ok (.iload_n 3, 1) := by decide +kernel
theorem dL_law_39 : decode bL_law 39 = .ok (.aload_n 0, 1) := by decide +kernel
theorem dL_law_40 : decode bL_law 40 = .ok (.arraylength, 1) := by decide +kernel
theorem dL_law_41 : decode bL_law 41 = .ok (.iconst 4, 1) := by decide +kernel
theorem dL_law_42 : decode bL_law 42 = .ok (.isub, 1) := by decide +kernel
theorem dL_law_43 : decode bL_law 43 = .ok (.if_icmp .gt 433, 3) := by decide +kernel
theorem dL_law_46 : decode bL_law 46 = .ok (.aload_n 0, 1) := by decide +kernel
theorem dL_law_47 : decode bL_law 47 = .ok (.iload_n 3, 1) := by decide +kernel
theorem dL_law_48 : decode bL_law 48 = .ok (.iaload, 1) := by decide +kernel
theorem dL_law_49 : decode bL_law 49 = .ok (.bipush 15, 2) := by decide +kernel
theorem dL_law_51 : decode bL_law 51 = .ok (.iand, 1) := by decide +kernel
theorem dL_law_52 : decode bL_law 52 = .ok (.tableswitch 418 0 12 #[68, 101, 144, 178, 201, 214, 247, 270, 283, 306, 329, 362, 395], 68) := by decide +kernel
theorem dL_law_120 : decode bL_law 120 = .ok (.aload_n 1, 1) := by decide +kernel
theorem dL_law_121 : decode bL_law 121 = .ok (.aload_n 0, 1) := by decide +kernel
theorem dL_law_122 : decode bL_law 122 = .ok (.iload_n 3, 1) := by decide +kernel
theorem dL_law_123 : decode bL_law 123 = .ok (.iconst 1, 1) := by decide +kernel
theorem dL_law_124 : decode bL_law 124 = .ok (.iadd, 1) := by decide +kernel
theorem dL_law_125 : decode bL_law 125 = .ok (.iaload, 1) := by decide +kernel
theorem dL_law_126 : decode bL_law 126 = .ok (.aload_n 0, 1) := by decide +kernel
theorem dL_law_127 : decode bL_law 127 = .ok (.iload_n 3, 1) := by decide +kernel
theorem dL_law_128 : decode bL_law 128 = .ok (.iconst 2, 1) := by decide +kernel
theorem dL_law_129 : decode bL_law 129 = .ok (.iadd, 1) := by decide +kernel
theorem dL_law_130 : decode bL_law 130 = .ok (.iaload, 1) := by decide +kernel
theorem dL_law_131 : decode bL_law 131 = .ok (.invokevirtual 21, 3) := by decide +kernel
theorem dL_law_134 : decode bL_law 134 = .ok (.aload_n 2, 1) := by decide +kernel
theorem dL_law_135 : decode bL_law 135 = .ok (.aload_n 0, 1) := by decide +kernel
theorem dL_law_136 : decode bL_law 136 = .ok (.iload_n 3, 1) := by decide +kernel
theorem dL_law_137 : decode bL_law 137 = .ok (.iconst 1, 1) := by decide +kernel
theorem dL_law_138 : decode bL_law 138 = .ok (.iadd, 1) := by decide +kernel
theorem dL_law_139 : decode bL_law 139 = .ok (.iaload, 1) := by decide +kernel
theorem dL_law_140 : decode bL_law 140 = .ok (.aload_n 0, 1) := by decide +kernel
theorem dL_law_141 : decode bL_law 141 = .ok (.iload_n 3, 1) := by decide +kernel
theorem dL_law_142 : decode bL_law 142 = .ok (.iconst 2, 1) := by decide +kernel
theorem dL_law_143 : decode bL_law 143 = .ok (.iadd, 1) := by decide +kernel
theorem dL_law_144 : decode bL_law 144 = .ok (.iaload, 1) := by decide +kernel
theorem dL_law_145 : decode bL_law 145 = .ok (.invokevirtual 25, 3) := by decide +kernel
theorem dL_law_148 : decode bL_law 148 = .ok (.if_icmp .eq 322, 3) := by decide +kernel
theorem dL_law_151 : decode bL_law 151 = .ok (.iconst 0, 1) := by decide +kernel
theorem dL_law_152 : decode bL_law 152 = .ok (.ireturn, 1) := by decide +kernel
theorem dL_law_153 : decode bL_law 153 = .ok (.aload_n 1, 1) := by decide +kernel
theorem dL_law_154 : decode bL_law 154 = .ok (.aload_n 0, 1) := by decide +kernel
theorem dL_law_155 : decode bL_law 155 = .ok (.iload_n 3, 1) := by decide +kernel
theorem dL_law_156 : decode bL_law 156 = .ok (.iconst 1, 1) := by decide +kernel
theorem dL_law_157 : decode bL_law 157 = .ok (.iadd, 1) := by decide +kernel
theorem dL_law_158 : decode bL_law 158 = .ok (.iaload, 1) := by decide +kernel
theorem dL_law_159 : decode bL_law 159 = .ok (.aload_n 0, 1) := by decide +kernel
theorem dL_law_160 : decode bL_law 160 = .ok (.iload_n 3, 1) := by decide +kernel
theorem dL_law_161 : decode bL_law 161 = .ok (.iconst 2, 1) := by decide +kernel
theorem dL_law_162 : decode bL_law 162 = .ok (.iadd, 1) := by decide +kernel
theorem dL_law_163 : decode bL_law 163 = .ok (.iaload, 1) := by decide +kernel
theorem dL_law_164 : decode bL_law 164 = .ok (.aload_n 0, 1) := by decide +kernel
theorem dL_law_165 : decode bL_law 165 = .ok (.iload_n 3, 1) := by decide +kernel
theorem dL_law_166 : decode bL_law 166 = .ok (.iconst 3, 1) := by decide +kernel
theorem dL_law_167 : decode bL_law 167 = .ok (.iadd, 1) := by decide +kernel
theorem dL_law_168 : decode bL_law 168 = .ok (.iaload, 1) := by decide +kernel
theorem dL_law_169 : decode bL_law 169 = .ok (.invokevirtual 26, 3) := by decide +kernel
theorem dL_law_172 : decode bL_law 172 = .ok (.aload_n 2, 1) := by decide +kernel
theorem dL_law_173 : decode bL_law 173 = .ok (.aload_n 0, 1) := by decide +kernel
theorem dL_law_174 : decode bL_law 174 = .ok (.iload_n 3, 1) := by decide +kernel
theorem dL_law_175 : decode bL_law 175 = .ok (.iconst 1, 1) := by decide +kernel
theorem dL_law_176 : decode bL_law 176 = .ok (.iadd, 1) := by decide +kernel
theorem dL_law_177 : decode bL_law 177 = .ok (.iaload, 1) := by decide +kernel
theorem dL_law_178 : decode bL_law 178 = .ok (.aload_n 0, 1) := by decide +kernel
theorem dL_law_179 : decode bL_law 179 = .ok (.iload_n 3, 1) := by decide +kernel
theorem dL_law_180 : decode bL_law 180 = .ok (.iconst 2, 1) := by decide +kernel
theorem dL_law_181 : decode bL_law 181 = .ok (.iadd, 1) := by decide +kernel
theorem dL_law_182 : decode bL_law 182 = .ok (.iaload, 1) := by decide +kernel
theorem dL_law_183 : decode bL_law 183 = .ok (.aload_n 0, 1) := by decide +kernel
theorem dL_law_184 : decode bL_law 184 = .ok (.iload_n 3, 1) := by decide +kernel
theorem dL_law_185 : decode bL_law 185 = .ok (.iconst 3, 1) := by decide +kernel
theorem dL_law_186 : decode bL_law 186 = .ok (.iadd, 1) := by decide +kernel
theorem dL_law_187 : decode bL_law 187 = .ok (.iaload, 1) := by decide +kernel
theorem dL_law_188 : decode bL_law 188 = .ok (.invokevirtual 30, 3) := by decide +kernel
theorem dL_law_191 : decode bL_law 191 = .ok (.if_icmp .eq 279, 3) := by decide +kernel
theorem dL_law_194 : decode bL_law 194 = .ok (.iconst 0, 1) := by decide +kernel
theorem dL_law_195 : decode bL_law 195 = .ok (.ireturn, 1) := by decide +kernel
theorem dL_law_196 : decode bL_law 196 = .ok (.aload_n 1, 1) := by decide +kernel
theorem dL_law_197 : decode bL_law 197 = .ok (.aload_n 0, 1) := by decide +kernel
theorem dL_law_198 : decode bL_law 198 = .ok (.iload_n 3, 1) := by decide +kernel
theorem dL_law_199 : decode bL_law 199 = .ok (.iconst 1, 1) := by decide +kernel
theorem dL_law_200 : decode bL_law 200 = .ok (.iadd, 1) := by decide +kernel
theorem dL_law_201 : decode bL_law 201 = .ok (.iaload, 1) := by decide +kernel
theorem dL_law_202 : decode bL_law 202 = .ok (.aload_n 0, 1) := by decide +kernel
theorem dL_law_203 : decode bL_law 203 = .ok (.iload_n 3, 1) := by decide +kernel
theorem dL_law_204 : decode bL_law 204 = .ok (.iconst 2, 1) := by decide +kernel
theorem dL_law_205 : decode bL_law 205 = .ok (.iadd, 1) := by decide +kernel
theorem dL_law_206 : decode bL_law 206 = .ok (.iaload, 1) := by decide +kernel
theorem dL_law_207 : decode bL_law 207 = .ok (.invokevirtual 31, 3) := by decide +kernel
theorem dL_law_210 : decode bL_law 210 = .ok (.aload_n 2, 1) := by decide +kernel
theorem dL_law_211 : decode bL_law 211 = .ok (.aload_n 0, 1) := by decide +kernel
theorem dL_law_212 : decode bL_law 212 = .ok (.iload_n 3, 1) := by decide +kernel
theorem dL_law_213 : decode bL_law 213 = .ok (.iconst 1, 1) := by decide +kernel
theorem dL_law_214 : decode bL_law 214 = .ok (.iadd, 1) := by decide +kernel
theorem dL_law_215 : decode bL_law 215 = .ok (.iaload, 1) := by decide +kernel
theorem dL_law_216 : decode bL_law 216 = .ok (.aload_n 0, 1) := by decide +kernel
theorem dL_law_217 : decode bL_law 217 = .ok (.iload_n 3, 1) := by decide +kernel
theorem dL_law_218 : decode bL_law 218 = .ok (.iconst 2, 1) := by decide +kernel
theorem dL_law_219 : decode bL_law 219 = .ok (.iadd, 1) := by decide +kernel
theorem dL_law_220 : decode bL_law 220 = .ok (.iaload, 1) := by decide +kernel
theorem dL_law_221 : decode bL_law 221 = .ok (.invokevirtual 35, 3) := by decide +kernel
theorem dL_law_224 : decode bL_law 224 = .ok (.lcmp, 1) := by decide +kernel
theorem dL_law_225 : decode bL_law 225 = .ok (.ifCond .eq 245, 3) := by decide +kernel
theorem dL_law_228 : decode bL_law 228 = .ok (.iconst 0, 1) := by decide +kernel
theorem dL_law_229 : decode bL_law 229 = .ok (.ireturn, 1) := by decide +kernel
theorem dL_law_230 : decode bL_law 230 = .ok (.aload_n 1, 1) := by decide +kernel
theorem dL_law_231 : decode bL_law 231 = .ok (.aload_n 0, 1) := by decide +kernel
theorem dL_law_232 : decode bL_law 232 = .ok (.iload_n 3, 1) := by decide +kernel
theorem dL_law_233 : decode bL_law 233 = .ok (.iconst 1, 1) := by decide +kernel
theorem dL_law_234 : decode bL_law 234 = .ok (.iadd, 1) := by decide +kernel
theorem dL_law_235 : decode bL_law 235 = .ok (.iaload, 1) := by decide +kernel
theorem dL_law_236 : decode bL_law 236 = .ok (.invokevirtual 36, 3) := by decide +kernel
theorem dL_law_239 : decode bL_law 239 = .ok (.aload_n 2, 1) := by decide +kernel
theorem dL_law_240 : decode bL_law 240 = .ok (.aload_n 0, 1) := by decide +kernel
theorem dL_law_241 : decode bL_law 241 = .ok (.iload_n 3, 1) := by decide +kernel
theorem dL_law_242 : decode bL_law 242 = .ok (.iconst 1, 1) := by decide +kernel
theorem dL_law_243 : decode bL_law 243 = .ok (.iadd, 1) := by decide +kernel
theorem dL_law_244 : decode bL_law 244 = .ok (.iaload, 1) := by decide +kernel
theorem dL_law_245 : decode bL_law 245 = .ok (.invokevirtual 40, 3) := by decide +kernel
theorem dL_law_248 : decode bL_law 248 = .ok (.if_icmp .eq 222, 3) := by decide +kernel
theorem dL_law_251 : decode bL_law 251 = .ok (.iconst 0, 1) := by decide +kernel
theorem dL_law_252 : decode bL_law 252 = .ok (.ireturn, 1) := by decide +kernel
theorem dL_law_253 : decode bL_law 253 = .ok (.aload_n 1, 1) := by decide +kernel
theorem dL_law_254 : decode bL_law 254 = .ok (.invokevirtual 41, 3) := by decide +kernel
theorem dL_law_257 : decode bL_law 257 = .ok (.aload_n 2, 1) := by decide +kernel
theorem dL_law_258 : decode bL_law 258 = .ok (.invokevirtual 45, 3) := by decide +kernel
theorem dL_law_261 : decode bL_law 261 = .ok (.if_icmp .eq 209, 3) := by decide +kernel
theorem dL_law_264 : decode bL_law 264 = .ok (.iconst 0, 1) := by decide +kernel
theorem dL_law_265 : decode bL_law 265 = .ok (.ireturn, 1) := by decide +kernel
theorem dL_law_266 : decode bL_law 266 = .ok (.aload_n 1, 1) := by decide +kernel
theorem dL_law_267 : decode bL_law 267 = .ok (.aload_n 0, 1) := by decide +kernel
theorem dL_law_268 : decode bL_law 268 = .ok (.iload_n 3, 1) := by decide +kernel
theorem dL_law_269 : decode bL_law 269 = .ok (.iconst 1, 1) := by decide +kernel
theorem dL_law_270 : decode bL_law 270 = .ok (.iadd, 1) := by decide +kernel
theorem dL_law_271 : decode bL_law 271 = .ok (.iaload, 1) := by decide +kernel
theorem dL_law_272 : decode bL_law 272 = .ok (.aload_n 0, 1) := by decide +kernel
theorem dL_law_273 : decode bL_law 273 = .ok (.iload_n 3, 1) := by decide +kernel
theorem dL_law_274 : decode bL_law 274 = .ok (.iconst 2, 1) := by decide +kernel
theorem dL_law_275 : decode bL_law 275 = .ok (.iadd, 1) := by decide +kernel
theorem dL_law_276 : decode bL_law 276 = .ok (.iaload, 1) := by decide +kernel
theorem dL_law_277 : decode bL_law 277 = .ok (.invokevirtual 46, 3) := by decide +kernel
theorem dL_law_280 : decode bL_law 280 = .ok (.aload_n 2, 1) := by decide +kernel
theorem dL_law_281 : decode bL_law 281 = .ok (.aload_n 0, 1) := by decide +kernel
theorem dL_law_282 : decode bL_law 282 = .ok (.iload_n 3, 1) := by decide +kernel
theorem dL_law_283 : decode bL_law 283 = .ok (.iconst 1, 1) := by decide +kernel
theorem dL_law_284 : decode bL_law 284 = .ok (.iadd, 1) := by decide +kernel
theorem dL_law_285 : decode bL_law 285 = .ok (.iaload, 1) := by decide +kernel
theorem dL_law_286 : decode bL_law 286 = .ok (.aload_n 0, 1) := by decide +kernel
theorem dL_law_287 : decode bL_law 287 = .ok (.iload_n 3, 1) := by decide +kernel
theorem dL_law_288 : decode bL_law 288 = .ok (.iconst 2, 1) := by decide +kernel
theorem dL_law_289 : decode bL_law 289 = .ok (.iadd, 1) := by decide +kernel
theorem dL_law_290 : decode bL_law 290 = .ok (.iaload, 1) := by decide +kernel
theorem dL_law_291 : decode bL_law 291 = .ok (.invokevirtual 49, 3) := by decide +kernel
theorem dL_law_294 : decode bL_law 294 = .ok (.if_icmp .eq 176, 3) := by decide +kernel
theorem dL_law_297 : decode bL_law 297 = .ok (.iconst 0, 1) := by decide +kernel
theorem dL_law_298 : decode bL_law 298 = .ok (.ireturn, 1) := by decide +kernel
theorem dL_law_299 : decode bL_law 299 = .ok (.aload_n 1, 1) := by decide +kernel
theorem dL_law_300 : decode bL_law 300 = .ok (.aload_n 0, 1) := by decide +kernel
theorem dL_law_301 : decode bL_law 301 = .ok (.iload_n 3, 1) := by decide +kernel
theorem dL_law_302 : decode bL_law 302 = .ok (.iconst 1, 1) := by decide +kernel
theorem dL_law_303 : decode bL_law 303 = .ok (.iadd, 1) := by decide +kernel
theorem dL_law_304 : decode bL_law 304 = .ok (.iaload, 1) := by decide +kernel
theorem dL_law_305 : decode bL_law 305 = .ok (.invokevirtual 50, 3) := by decide +kernel
theorem dL_law_308 : decode bL_law 308 = .ok (.aload_n 2, 1) := by decide +kernel
theorem dL_law_309 : decode bL_law 309 = .ok (.aload_n 0, 1) := by decide +kernel
theorem dL_law_310 : decode bL_law 310 = .ok (.iload_n 3, 1) := by decide +kernel
theorem dL_law_311 : decode bL_law 311 = .ok (.iconst 1, 1) := by decide +kernel
theorem dL_law_312 : decode bL_law 312 = .ok (.iadd, 1) := by decide +kernel
theorem dL_law_313 : decode bL_law 313 = .ok (.iaload, 1) := by decide +kernel
theorem dL_law_314 : decode bL_law 314 = .ok (.invokevirtual 53, 3) := by decide +kernel
theorem dL_law_317 : decode bL_law 317 = .ok (.if_icmp .eq 153, 3) := by decide +kernel
theorem dL_law_320 : decode bL_law 320 = .ok (.iconst 0, 1) := by decide +kernel
theorem dL_law_321 : decode bL_law 321 = .ok (.ireturn, 1) := by decide +kernel
theorem dL_law_322 : decode bL_law 322 = .ok (.aload_n 1, 1) := by decide +kernel
theorem dL_law_323 : decode bL_law 323 = .ok (.invokevirtual 54, 3) := by decide +kernel
theorem dL_law_326 : decode bL_law 326 = .ok (.aload_n 2, 1) := by decide +kernel
theorem dL_law_327 : decode bL_law 327 = .ok (.invokevirtual 57, 3) := by decide +kernel
theorem dL_law_330 : decode bL_law 330 = .ok (.if_icmp .eq 140, 3) := by decide +kernel
theorem dL_law_333 : decode bL_law 333 = .ok (.iconst 0, 1) := by decide +kernel
theorem dL_law_334 : decode bL_law 334 = .ok (.ireturn, 1) := by decide +kernel
theorem dL_law_335 : decode bL_law 335 = .ok (.aload_n 1, 1) := by decide +kernel
theorem dL_law_336 : decode bL_law 336 = .ok (.aload_n 0, 1) := by decide +kernel
theorem dL_law_337 : decode bL_law 337 = .ok (.iload_n 3, 1) := by decide +kernel
theorem dL_law_338 : decode bL_law 338 = .ok (.iconst 1, 1) := by decide +kernel
theorem dL_law_339 : decode bL_law 339 = .ok (.iadd, 1) := by decide +kernel
theorem dL_law_340 : decode bL_law 340 = .ok (.iaload, 1) := by decide +kernel
theorem dL_law_341 : decode bL_law 341 = .ok (.invokevirtual 58, 3) := by decide +kernel
theorem dL_law_344 : decode bL_law 344 = .ok (.aload_n 2, 1) := by decide +kernel
theorem dL_law_345 : decode bL_law 345 = .ok (.aload_n 0, 1) := by decide +kernel
theorem dL_law_346 : decode bL_law 346 = .ok (.iload_n 3, 1) := by decide +kernel
theorem dL_law_347 : decode bL_law 347 = .ok (.iconst 1, 1) := by decide +kernel
theorem dL_law_348 : decode bL_law 348 = .ok (.iadd, 1) := by decide +kernel
theorem dL_law_349 : decode bL_law 349 = .ok (.iaload, 1) := by decide +kernel
theorem dL_law_350 : decode bL_law 350 = .ok (.invokevirtual 61, 3) := by decide +kernel
theorem dL_law_353 : decode bL_law 353 = .ok (.if_icmp .eq 117, 3) := by decide +kernel
theorem dL_law_356 : decode bL_law 356 = .ok (.iconst 0, 1) := by decide +kernel
theorem dL_law_357 : decode bL_law 357 = .ok (.ireturn, 1) := by decide +kernel
theorem dL_law_358 : decode bL_law 358 = .ok (.aload_n 1, 1) := by decide +kernel
theorem dL_law_359 : decode bL_law 359 = .ok (.aload_n 0, 1) := by decide +kernel
theorem dL_law_360 : decode bL_law 360 = .ok (.iload_n 3, 1) := by decide +kernel
theorem dL_law_361 : decode bL_law 361 = .ok (.iconst 1, 1) := by decide +kernel
theorem dL_law_362 : decode bL_law 362 = .ok (.iadd, 1) := by decide +kernel
theorem dL_law_363 : decode bL_law 363 = .ok (.iaload, 1) := by decide +kernel
theorem dL_law_364 : decode bL_law 364 = .ok (.invokevirtual 62, 3) := by decide +kernel
theorem dL_law_367 : decode bL_law 367 = .ok (.aload_n 2, 1) := by decide +kernel
theorem dL_law_368 : decode bL_law 368 = .ok (.aload_n 0, 1) := by decide +kernel
theorem dL_law_369 : decode bL_law 369 = .ok (.iload_n 3, 1) := by decide +kernel
theorem dL_law_370 : decode bL_law 370 = .ok (.iconst 1, 1) := by decide +kernel
theorem dL_law_371 : decode bL_law 371 = .ok (.iadd, 1) := by decide +kernel
theorem dL_law_372 : decode bL_law 372 = .ok (.iaload, 1) := by decide +kernel
theorem dL_law_373 : decode bL_law 373 = .ok (.invokevirtual 65, 3) := by decide +kernel
theorem dL_law_376 : decode bL_law 376 = .ok (.if_icmp .eq 94, 3) := by decide +kernel
theorem dL_law_379 : decode bL_law 379 = .ok (.iconst 0, 1) := by decide +kernel
theorem dL_law_380 : decode bL_law 380 = .ok (.ireturn, 1) := by decide +kernel
theorem dL_law_381 : decode bL_law 381 = .ok (.aload_n 1, 1) := by decide +kernel
theorem dL_law_382 : decode bL_law 382 = .ok (.aload_n 0, 1) := by decide +kernel
theorem dL_law_383 : decode bL_law 383 = .ok (.iload_n 3, 1) := by decide +kernel
theorem dL_law_384 : decode bL_law 384 = .ok (.iconst 1, 1) := by decide +kernel
theorem dL_law_385 : decode bL_law 385 = .ok (.iadd, 1) := by decide +kernel
theorem dL_law_386 : decode bL_law 386 = .ok (.iaload, 1) := by decide +kernel
theorem dL_law_387 : decode bL_law 387 = .ok (.aload_n 0, 1) := by decide +kernel
theorem dL_law_388 : decode bL_law 388 = .ok (.iload_n 3, 1) := by decide +kernel
theorem dL_law_389 : decode bL_law 389 = .ok (.iconst 2, 1) := by decide +kernel
theorem dL_law_390 : decode bL_law 390 = .ok (.iadd, 1) := by decide +kernel
theorem dL_law_391 : decode bL_law 391 = .ok (.iaload, 1) := by decide +kernel
theorem dL_law_392 : decode bL_law 392 = .ok (.invokevirtual 66, 3) := by decide +kernel
theorem dL_law_395 : decode bL_law 395 = .ok (.aload_n 2, 1) := by decide +kernel
theorem dL_law_396 : decode bL_law 396 = .ok (.aload_n 0, 1) := by decide +kernel
theorem dL_law_397 : decode bL_law 397 = .ok (.iload_n 3, 1) := by decide +kernel
theorem dL_law_398 : decode bL_law 398 = .ok (.iconst 1, 1) := by decide +kernel
theorem dL_law_399 : decode bL_law 399 = .ok (.iadd, 1) := by decide +kernel
theorem dL_law_400 : decode bL_law 400 = .ok (.iaload, 1) := by decide +kernel
theorem dL_law_401 : decode bL_law 401 = .ok (.aload_n 0, 1) := by decide +kernel
theorem dL_law_402 : decode bL_law 402 = .ok (.iload_n 3, 1) := by decide +kernel
theorem dL_law_403 : decode bL_law 403 = .ok (.iconst 2, 1) := by decide +kernel
theorem dL_law_404 : decode bL_law 404 = .ok (.iadd, 1) := by decide +kernel
theorem dL_law_405 : decode bL_law 405 = .ok (.iaload, 1) := by decide +kernel
theorem dL_law_406 : decode bL_law 406 = .ok (.invokevirtual 69, 3) := by decide +kernel
theorem dL_law_409 : decode bL_law 409 = .ok (.if_icmp .eq 61, 3) := by decide +kernel
theorem dL_law_412 : decode bL_law 412 = .ok (.iconst 0, 1) := by decide +kernel
theorem dL_law_413 : decode bL_law 413 = .ok (.ireturn, 1) := by decide +kernel
theorem dL_law_414 : decode bL_law 414 = .ok (.aload_n 1, 1) := by decide +kernel
theorem dL_law_415 : decode bL_law 415 = .ok (.aload_n 0, 1) := by decide +kernel
theorem dL_law_416 : decode bL_law 416 = .ok (.iload_n 3, 1) := by decide +kernel
theorem dL_law_417 : decode bL_law 417 = .ok (.iconst 1, 1) := by decide +kernel
theorem dL_law_418 : decode bL_law 418 = .ok (.iadd, 1) := by decide +kernel
theorem dL_law_419 : decode bL_law 419 = .ok (.iaload, 1) := by decide +kernel
theorem dL_law_420 : decode bL_law 420 = .ok (.aload_n 0, 1) := by decide +kernel
theorem dL_law_421 : decode bL_law 421 = .ok (.iload_n 3, 1) := by decide +kernel
theorem dL_law_422 : decode bL_law 422 = .ok (.iconst 2, 1) := by decide +kernel
theorem dL_law_423 : decode bL_law 423 = .ok (.iadd, 1) := by decide +kernel
theorem dL_law_424 : decode bL_law 424 = .ok (.iaload, 1) := by decide +kernel
theorem dL_law_425 : decode bL_law 425 = .ok (.invokevirtual 70, 3) := by decide +kernel
theorem dL_law_428 : decode bL_law 428 = .ok (.aload_n 2, 1) := by decide +kernel
theorem dL_law_429 : decode bL_law 429 = .ok (.aload_n 0, 1) := by decide +kernel
theorem dL_law_430 : decode bL_law 430 = .ok (.iload_n 3, 1) := by decide +kernel
theorem dL_law_431 : decode bL_law 431 = .ok (.iconst 1, 1) := by decide +kernel
theorem dL_law_432 : decode bL_law 432 = .ok (.iadd, 1) := by decide +kernel
theorem dL_law_433 : decode bL_law 433 = .ok (.iaload, 1) := by decide +kernel
theorem dL_law_434 : decode bL_law 434 = .ok (.aload_n 0, 1) := by decide +kernel
theorem dL_law_435 : decode bL_law 435 = .ok (.iload_n 3, 1) := by decide +kernel
theorem dL_law_436 : decode bL_law 436 = .ok (.iconst 2, 1) := by decide +kernel
theorem dL_law_437 : decode bL_law 437 = .ok (.iadd, 1) := by decide +kernel
theorem dL_law_438 : decode bL_law 438 = .ok (.iaload, 1) := by decide +kernel
theorem dL_law_439 : decode bL_law 439 = .ok (.invokevirtual 73, 3) := by decide +kernel
theorem dL_law_442 : decode bL_law 442 = .ok (.if_icmp .eq 28, 3) := by decide +kernel
theorem dL_law_445 : decode bL_law 445 = .ok (.iconst 0, 1) := by decide +kernel
theorem dL_law_446 : decode bL_law 446 = .ok (.ireturn, 1) := by decide +kernel
theorem dL_law_447 : decode bL_law 447 = .ok (.aload_n 1, 1) := by decide +kernel
theorem dL_law_448 : decode bL_law 448 = .ok (.aload_n 0, 1) := by decide +kernel
theorem dL_law_449 : decode bL_law 449 = .ok (.iload_n 3, 1) := by decide +kernel
theorem dL_law_450 : decode bL_law 450 = .ok (.iconst 1, 1) := by decide +kernel
theorem dL_law_451 : decode bL_law 451 = .ok (.iadd, 1) := by decide +kernel
theorem dL_law_452 : decode bL_law 452 = .ok (.iaload, 1) := by decide +kernel
theorem dL_law_453 : decode bL_law 453 = .ok (.invokevirtual 74, 3) := by decide +kernel
theorem dL_law_456 : decode bL_law 456 = .ok (.aload_n 2, 1) := by decide +kernel
theorem dL_law_457 : decode bL_law 457 = .ok (.aload_n 0, 1) := by decide +kernel
theorem dL_law_458 : decode bL_law 458 = .ok (.iload_n 3, 1) := by decide +kernel
theorem dL_law_459 : decode bL_law 459 = .ok (.iconst 1, 1) := by decide +kernel
theorem dL_law_460 : decode bL_law 460 = .ok (.iadd, 1) := by decide +kernel
theorem dL_law_461 : decode bL_law 461 = .ok (.iaload, 1) := by decide +kernel
theorem dL_law_462 : decode bL_law 462 = .ok (.invokevirtual 77, 3) := by decide +kernel
theorem dL_law_465 : decode bL_law 465 = .ok (.if_icmp .eq 5, 3) := by decide +kernel
theorem dL_law_468 : decode bL_law 468 = .ok (.iconst 0, 1) := by decide +kernel
theorem dL_law_469 : decode bL_law 469 = .ok (.ireturn, 1) := by decide +kernel
theorem dL_law_470 : decode bL_law 470 = .ok (.iinc 3 4, 3) := by decide +kernel
theorem dL_law_473 : decode bL_law 473 = .ok (.goto (-435), 3) := by decide +kernel
theorem dL_law_476 : decode bL_law 476 = .ok (.iconst 1, 1) := by decide +kernel
theorem dL_law_477 : decode bL_law 477 = .ok (.ireturn, 1) := by decide +kernel
