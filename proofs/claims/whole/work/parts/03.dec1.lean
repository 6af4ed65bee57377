theorem dJ9_floorMod_7cf53_0 : decode cJ9_floorMod_7cf53 0 = .ok (.iload_n 0, 1) := by decide +kernel
theorem dJ9_floorMod_7cf53_1 : decode cJ9_floorMod_7cf53 1 = .ok (.iload_n 1, 1) := by decide +kernel
theorem dJ9_floorMod_7cf53_2 : decode cJ9_floorMod_7cf53 2 = .ok (.irem, 1) := by decide +kernel
theorem dJ9_floorMod_7cf53_3 : decode cJ9_floorMod_7cf53 3 = .ok (.istore_n 2, 1) := by decide +kernel
theorem dJ9_floorMod_7cf53_4 : decode cJ9_floorMod_7cf53 4 = .ok (.iload_n 0, 1) := by decide +kernel
theorem dJ9_floorMod_7cf53_5 : decode cJ9_floorMod_7cf53 5 = .ok (.iload_n 1, 1) := by decide +kernel
theorem dJ9_floorMod_7cf53_6 : decode cJ9_floorMod_7cf53 6 = .ok (.ixor, 1) := by decide +kernel
theorem dJ9_floorMod_7cf53_7 : decode cJ9_floorMod_7cf53 7 = .ok (.ifCond .ge 11, 3) := by decide +kernel
theorem dJ9_floorMod_7cf53_10 : decode cJ9_floorMod_7cf53 10 = .ok (.iload_n 2, 1) := by decide +kernel
theorem dJ9_floorMod_7cf53_11 : decode cJ9_floorMod_7cf53 11 = .ok (.ifCond .eq 7, 3) := by decide +kernel
theorem dJ9_floorMod_7cf53_14 : decode cJ9_floorMod_7cf53 14 = .ok (.iload_n 2, 1) := by decide +kernel
theorem dJ9_floorMod_7cf53_15 : decode cJ9_floorMod_7cf53 15 = .ok (.iload_n 1, 1) := by decide +kernel
theorem dJ9_floorMod_7cf53_16 : decode cJ9_floorMod_7cf53 16 = .ok (.iadd, 1) := by decide +kernel
theorem dJ9_floorMod_7cf53_17 : decode cJ9_floorMod_7cf53 17 = .ok (.ireturn, 1) := by decide +kernel
theorem dJ9_floorMod_7cf53_18 : decode cJ9_floorMod_7cf53 18 = .ok (.iload_n 2, 1) := by decide +kernel
theorem dJ9_floorMod_7cf53_19 : decode cJ9_floorMod_7cf53 19 = .ok (.ireturn, 1) := by decide +kernel
theorem dJ9_abs_067f4_0 : decode cJ9_abs_067f4 0 = .ok (.lload_n 0, 1) := by decide +kernel
theorem dJ9_abs_067f4_1 : decode cJ9_abs_067f4 1 = .ok (.lconst 0, 1) := by decide +kernel
theorem dJ9_abs_067f4_2 : decode cJ9_abs_067f4 2 = .ok (.lcmp, 1) := by decide +kernel
theorem dJ9_abs_067f4_3 : decode cJ9_abs_067f4 3 = .ok (.ifCond .ge 8, 3) := by decide +kernel
theorem dJ9_abs_067f4_6 : decode cJ9_abs_067f4 6 = .ok (.lload_n 0, 1) := by decide +kernel
theorem dJ9_abs_067f4_7 : decode cJ9_abs_067f4 7 = .ok (.lneg, 1) := by decide +kernel
theorem dJ9_abs_067f4_8 : decode cJ9_abs_067f4 8 = .ok (.goto 4, 3) := by decide +kernel
theorem dJ9_abs_067f4_11 : decode cJ9_abs_067f4 11 = .ok (.lload_n 0, 1) := by decide +kernel
theorem dJ9_abs_067f4_12 : decode cJ9_abs_067f4 12 = .ok (.lreturn, 1) := by decide +kernel
theorem dJ9_min_f86c9_0 : decode cJ9_min_f86c9 0 = .ok (.lload_n 0, 1) := by decide +kernel
theorem dJ9_min_f86c9_1 : decode cJ9_min_f86c9 1 = .ok (.lload_n 2, 1) := by decide +kernel
theorem dJ9_min_f86c9_2 : decode cJ9_min_f86c9 2 = .ok (.lcmp, 1) := by decide +kernel
theorem dJ9_min_f86c9_3 : decode cJ9_min_f86c9 3 = .ok (.ifCond .gt 7, 3) := by decide +kernel
theorem dJ9_min_f86c9_6 : decode cJ9_min_f86c9 6 = .ok (.lload_n 0, 1) := by decide +kernel
theorem dJ9_min_f86c9_7 : decode cJ9_min_f86c9 7 = .ok (.goto 4, 3) := by decide +kernel
theorem dJ9_min_f86c9_10 : decode cJ9_min_f86c9 10 = .ok (.lload_n 2, 1) := by decide +kernel
theorem dJ9_min_f86c9_11 : decode cJ9_min_f86c9 11 = .ok (.lreturn, 1) := by decide +kernel
theorem dL_law_0 : decode cL_law 0 = .ok (.new 7, 3) := by decide +kernel
theorem dL_law_3 : decode cL_law 3 = .ok (.dup, 1) := by decide +kernel
theorem dL_law_4 : decode cL_law 4 = .ok (.invokespecial 9, 3) := by decide +kernel
theorem dL_law_7 : decode cL_law 7 = .ok (.astore_n 1, 1) := by decide +kernel
theorem dL_law_8 : decode cL_law 8 = .ok (.new 10, 3) := by decide +kernel
theorem dL_law_11 : decode cL_law 11 = .ok (.dup, 1) := by decide +kernel
theorem dL_law_12 : decode cL_law 12 = .ok (.invokespecial 12, 3) := by decide +kernel
theorem dL_law_15 : decode cL_law 15 = .ok (.astore_n 2, 1) := by decide +kernel
theorem dL_law_16 : decode cL_law 16 = .ok (.iconst 0, 1) := by decide +kernel
theorem dL_law_17 : decode cL_law 17 = .ok (.istore_n 3, 1) := by decide +kernel
theorem dL_law_18 : decode cL_law 18 = .ok (.iload_n 3, 1) := by decide +kernel
theorem dL_law_19 : decode cL_law 19 = .ok (.aload_n 0, 1) := by decide +kernel
theorem dL_law_20 : decode cL_law 20 = .ok (.arraylength, 1) := by decide +kernel
theorem dL_law_21 : decode cL_law 21 = .ok (.bipush 6, 2) := by decide +kernel
theorem dL_law_23 : decode cL_law 23 = .ok (.isub, 1) := by decide +kernel
theorem dL_law_24 : decode cL_law 24 = .ok (.if_icmp .gt 806, 3) := by decide +kernel
theorem dL_law_27 : decode cL_law 27 = .ok (.aload_n 0, 1) := by decide +kernel
theorem dL_law_28 : decode cL_law 28 = .ok (.iload_n 3, 1) := by decide +kernel
theorem dL_law_29 : decode cL_law 29 = .ok (.iaload, 1) := by decide +kernel
theorem dL_law_30 : decode cL_law 30 = .ok (.bipush 31, 2) := by decide +kernel
theorem dL_law_32 : decode cL_law 32 = .ok (.iand, 1) := by decide +kernel
theorem dL_law_33 : decode cL_law 33 = .ok (.tableswitch 791 0 20 #[99, 158, 191, 254, 287, 300, 343, 376, 389, 422, 465, 498, 521, 544, 567, 616, 649, 672, 711, 755, 768], 99) := by decide +kernel
theorem dL_law_132 : decode cL_law 132 = .ok (.aload_n 1, 1) := by decide +kernel
theorem dL_law_133 : decode cL_law 133 = .ok (.aload_n 0, 1) := by decide +kernel
theorem dL_law_134 : decode cL_law 134 = .ok (.iload_n 3, 1) := by decide +kernel
theorem dL_law_135 : decode cL_law 135 = .ok (.iconst 1, 1) := by decide +kernel
theorem dL_law_136 : decode cL_law 136 = .ok (.iadd, 1) := by decide +kernel
theorem dL_law_137 : decode cL_law 137 = .ok (.iaload, 1) := by decide +kernel
theorem dL_law_138 : decode cL_law 138 = .ok (.ifCond .eq 7, 3) := by decide +kernel
theorem dL_law_141 : decode cL_law 141 = .ok (.iconst 1, 1) := by decide +kernel
theorem dL_law_142 : decode cL_law 142 = .ok (.goto 4, 3) := by decide +kernel
theorem dL_law_145 : decode cL_law 145 = .ok (.iconst 0, 1) := by decide +kernel
theorem dL_law_146 : decode cL_law 146 = .ok (.aload_n 0, 1) := by decide +kernel
theorem dL_law_147 : decode cL_law 147 = .ok (.iload_n 3, 1) := by decide +kernel
theorem dL_law_148 : decode cL_law 148 = .ok (.iconst 2, 1) := by decide +kernel
theorem dL_law_149 : decode cL_law 149 = .ok (.iadd, 1) := by decide +kernel
theorem dL_law_150 : decode cL_law 150 = .ok (.iaload, 1) := by decide +kernel
theorem dL_law_151 : decode cL_law 151 = .ok (.aload_n 0, 1) := by decide +kernel
theorem dL_law_152 : decode cL_law 152 = .ok (.iload_n 3, 1) := by decide +kernel
theorem dL_law_153 : decode cL_law 153 = .ok (.iconst 3, 1) := by decide +kernel
theorem dL_law_154 : decode cL_law 154 = .ok (.iadd, 1) := by decide +kernel
theorem dL_law_155 : decode cL_law 155 = .ok (.iaload, 1) := by decide +kernel
theorem dL_law_156 : decode cL_law 156 = .ok (.invokevirtual 13, 3) := by decide +kernel
theorem dL_law_159 : decode cL_law 159 = .ok (.aload_n 2, 1) := by decide +kernel
theorem dL_law_160 : decode cL_law 160 = .ok (.aload_n 0, 1) := by decide +kernel
theorem dL_law_161 : decode cL_law 161 = .ok (.iload_n 3, 1) := by decide +kernel
theorem dL_law_162 : decode cL_law 162 = .ok (.iconst 1, 1) := by decide +kernel
theorem dL_law_163 : decode cL_law 163 = .ok (.iadd, 1) := by decide +kernel
theorem dL_law_164 : decode cL_law 164 = .ok (.iaload, 1) := by decide +kernel
theorem dL_law_165 : decode cL_law 165 = .ok (.ifCond .eq 7, 3) := by decide +kernel
theorem dL_law_168 : decode cL_law 168 = .ok (.iconst 1, 1) := by decide +kernel
theorem dL_law_169 : decode cL_law 169 = .ok (.goto 4, 3) := by decide +kernel
theorem dL_law_172 : decode cL_law 172 = .ok (.iconst 0, 1) := by decide +kernel
theorem dL_law_173 : decode cL_law 173 = .ok (.aload_n 0, 1) := by decide +kernel
theorem dL_law_174 : decode cL_law 174 = .ok (.iload_n 3, 1) := by decide +kernel
theorem dL_law_175 : decode cL_law 175 = .ok (.iconst 2, 1) := by decide +kernel
theorem dL_law_176 : decode cL_law 176 = .ok (.iadd, 1) := by decide +kernel
theorem dL_law_177 : decode cL_law 177 = .ok (.iaload, 1) := by decide +kernel
theorem dL_law_178 : decode cL_law 178 = .ok (.aload_n 0, 1) := by decide +kernel
theorem dL_law_179 : decode cL_law 179 = .ok (.iload_n 3, 1) := by decide +kernel
theorem dL_law_180 : decode cL_law 180 = .ok (.iconst 3, 1) := by decide +kernel
theorem dL_law_181 : decode cL_law 181 = .ok (.iadd, 1) := by decide +kernel
theorem dL_law_182 : decode cL_law 182 = .ok (.iaload, 1) := by decide +kernel
theorem dL_law_183 : decode cL_law 183 = .ok (.invokevirtual 17, 3) := by decide +kernel
theorem dL_law_186 : decode cL_law 186 = .ok (.if_icmp .eq 638, 3) := by decide +kernel
theorem dL_law_189 : decode cL_law 189 = .ok (.iconst 0, 1) := by decide +kernel
theorem dL_law_190 : decode cL_law 190 = .ok (.ireturn, 1) := by decide +kernel
theorem dL_law_191 : decode cL_law 191 = .ok (.aload_n 1, 1) := by decide +kernel
theorem dL_law_192 : decode cL_law 192 = .ok (.aload_n 0, 1) := by decide +kernel
theorem dL_law_193 : decode cL_law 193 = .ok (.iload_n 3, 1) := by decide +kernel
theorem dL_law_194 : decode cL_law 194 = .ok (.iconst 1, 1) := by decide +kernel
theorem dL_law_195 : decode cL_law 195 = .ok (.iadd, 1) := by decide +kernel
theorem dL_law_196 : decode cL_law 196 = .ok (.iaload, 1) := by decide +kernel
theorem dL_law_197 : decode cL_law 197 = .ok (.aload_n 0, 1) := by decide +kernel
theorem dL_law_198 : decode cL_law 198 = .ok (.iload_n 3, 1) := by decide +kernel
theorem dL_law_199 : decode cL_law 199 = .ok (.iconst 2, 1) := by decide +kernel
theorem dL_law_200 : decode cL_law 200 = .ok (.iadd, 1) := by decide +kernel
theorem dL_law_201 : decode cL_law 201 = .ok (.iaload, 1) := by decide +kernel
theorem dL_law_202 : decode cL_law 202 = .ok (.invokevirtual 18, 3) := by decide +kernel
theorem dL_law_205 : decode cL_law 205 = .ok (.aload_n 2, 1) := by decide +kernel
theorem dL_law_206 : decode cL_law 206 = .ok (.aload_n 0, 1) := by decide +kernel
theorem dL_law_207 : decode cL_law 207 = .ok (.iload_n 3, 1) := by decide +kernel
theorem dL_law_208 : decode cL_law 208 = .ok (.iconst 1, 1) := by decide +kernel
theorem dL_law_209 : decode cL_law 209 = .ok (.iadd, 1) := by decide +kernel
theorem dL_law_210 : decode cL_law 210 = .ok (.iaload, 1) := by decide +kernel
theorem dL_law_211 : decode cL_law 211 = .ok (.aload_n 0, 1) := by decide +kernel
theorem dL_law_212 : decode cL_law 212 = .ok (.iload_n 3, 1) := by decide +kernel
theorem dL_law_213 : decode cL_law 213 = .ok (.iconst 2, 1) := by decide +kernel
theorem dL_law_214 : decode cL_law 214 = .ok (.iadd, 1) := by decide +kernel
theorem dL_law_215 : decode cL_law 215 = .ok (.iaload, 1) := by decide +kernel
theorem dL_law_216 : decode cL_law 216 = .ok (.invokevirtual 22, 3) := by decide +kernel
theorem dL_law_219 : decode cL_law 219 = .ok (.if_icmp .eq 605, 3) := by decide +kernel
theorem dL_law_222 : decode cL_law 222 = .ok (.iconst 0, 1) := by decide +kernel
theorem dL_law_223 : decode cL_law 223 = .ok (.ireturn, 1) := by decide +kernel
theorem dL_law_224 : decode cL_law 224 = .ok (.aload_n 1, 1) := by decide +kernel
theorem dL_law_225 : decode cL_law 225 = .ok (.aload_n 0, 1) := by decide +kernel
theorem dL_law_226 : decode cL_law 226 = .ok (.iload_n 3, 1) := by decide +kernel
theorem dL_law_227 : decode cL_law 227 = .ok (.iconst 1, 1) := by decide +kernel
theorem dL_law_228 : decode cL_law 228 = .ok (.iadd, 1) := by decide +kernel
theorem dL_law_229 : decode cL_law 229 = .ok (.iaload, 1) := by decide +kernel
theorem dL_law_230 : decode cL_law 230 = .ok (.aload_n 0, 1) := by decide +kernel
theorem dL_law_231 : decode cL_law 231 = .ok (.iload_n 3, 1) := by decide +kernel
theorem dL_law_232 : decode cL_law 232 = .ok (.iconst 2, 1) := by decide +kernel
theorem dL_law_233 : decode cL_law 233 = .ok (.iadd, 1) := by decide +kernel
theorem dL_law_234 : decode cL_law 234 = .ok (.iaload, 1) := by decide +kernel
theorem dL_law_235 : decode cL_law 235 = .ok (.aload_n 0, 1) := by decide +kernel
theorem dL_law_236 : decode cL_law 236 = .ok (.iload_n 3, 1) := by decide +kernel
theorem dL_law_237 : decode cL_law 237 = .ok (.iconst 3, 1) := by decide +kernel
theorem dL_law_238 : decode cL_law 238 = .ok (.iadd, 1) := by decide +kernel
theorem dL_law_239 : decode cL_law 239 = .ok (.iaload, 1) := by decide +kernel
theorem dL_law_240 : decode cL_law 240 = .ok (.aload_n 0, 1) := by decide +kernel
theorem dL_law_241 : decode cL_law 241 = .ok (.iload_n 3, 1) := by decide +kernel
theorem dL_law_242 : decode cL_law 242 = .ok (.iconst 4, 1) := by decide +kernel
theorem dL_law_243 : decode cL_law 243 = .ok (.iadd, 1) := by decide +kernel
theorem dL_law_244 : decode cL_law 244 = .ok (.iaload, 1) := by decide +kernel
theorem dL_law_245 : decode cL_law 245 = .ok (.aload_n 0, 1) := by decide +kernel
theorem dL_law_246 : decode cL_law 246 = .ok (.iload_n 3, 1) := by decide +kernel
theorem dL_law_247 : decode cL_law 247 = .ok (.iconst 5, 1) := by decide +kernel
theorem dL_law_248 : decode cL_law 248 = .ok (.iadd, 1) := by decide +kernel
theorem dL_law_249 : decode cL_law 249 = .ok (.iaload, 1) := by decide +kernel
theorem dL_law_250 : decode cL_law 250 = .ok (.invokevirtual 23, 3) := by decide +kernel
theorem dL_law_253 : decode cL_law 253 = .ok (.aload_n 2, 1) := by decide +kernel
theorem dL_law_254 : decode cL_law 254 = .ok (.aload_n 0, 1) := by decide +kernel
theorem dL_law_255 : decode cL_law 255 = .ok (.iload_n 3, 1) := by decide +kernel
theorem dL_law_256 : decode cL_law 256 = .ok (.iconst 1, 1) := by decide +kernel
theorem dL_law_257 : decode cL_law 257 = .ok (.iadd, 1) := by decide +kernel
theorem dL_law_258 : decode cL_law 258 = .ok (.iaload, 1) := by decide +kernel
theorem dL_law_259 : decode cL_law 259 = .ok (.aload_n 0, 1) := by decide +kernel
theorem dL_law_260 : decode cL_law 260 = .ok (.iload_n 3, 1) := by decide +kernel
theorem dL_law_261 : decode cL_law 261 = .ok (.iconst 2, 1) := by decide +kernel
theorem dL_law_262 : decode cL_law 262 = .ok (.iadd, 1) := by decide +kernel
theorem dL_law_263 : decode cL_law 263 = .ok (.iaload, 1) := by decide +kernel
theorem dL_law_264 : decode cL_law 264 = .ok (.aload_n 0, 1) := by decide +kernel
theorem dL_law_265 : decode cL_law 265 = .ok (.iload_n 3, 1) := by decide +kernel
theorem dL_law_266 : decode cL_law 266 = .ok (.iconst 3, 1) := by decide +kernel
theorem dL_law_267 : decode cL_law 267 = .ok (.iadd, 1) := by decide +kernel
theorem dL_law_268 : decode cL_law 268 = .ok (.iaload, 1) := by decide +kernel
theorem dL_law_269 : decode cL_law 269 = .ok (.aload_n 0, 1) := by decide +kernel
theorem dL_law_270 : decode cL_law 270 = .ok (.iload_n 3, 1) := by decide +kernel
theorem dL_law_271 : decode cL_law 271 = .ok (.iconst 4, 1) := by decide +kernel
theorem dL_law_272 : decode cL_law 272 = .ok (.iadd, 1) := by decide +kernel
theorem dL_law_273 : decode cL_law 273 = .ok (.iaload, 1) := by decide +kernel
theorem dL_law_274 : decode cL_law 274 = .ok (.aload_n 0, 1) := by decide +kernel
theorem dL_law_275 : decode cL_law 275 = .ok (.iload_n 3, 1) := by decide +kernel
theorem dL_law_276 : decode cL_law 276 = .ok (.iconst 5, 1) := by decide +kernel
theorem dL_law_277 : decode cL_law 277 = .ok (.iadd, 1) := by decide +kernel
theorem dL_law_278 : decode cL_law 278 = .ok (.iaload, 1) := by decide +kernel
theorem dL_law_279 : decode cL_law 279 = .ok (.invokevirtual 27, 3) := by decide +kernel
theorem dL_law_282 : decode cL_law 282 = .ok (.if_icmp .eq 542, 3) := by decide +kernel
theorem dL_law_285 : decode cL_law 285 = .ok (.iconst 0, 1) := by decide +kernel
theorem dL_law_286 : decode cL_law 286 = .ok (.ireturn, 1) := by decide +kernel
theorem dL_law_287 : decode cL_law 287 = .ok (.aload_n 1, 1) := by decide +kernel
theorem dL_law_288 : decode cL_law 288 = .ok (.aload_n 0, 1) := by decide +kernel
theorem dL_law_289 : decode cL_law 289 = .ok (.iload_n 3, 1) := by decide +kernel
theorem dL_law_290 : decode cL_law 290 = .ok (.iconst 1, 1) := by decide +kernel
theorem dL_law_291 : decode cL_law 291 = .ok (.iadd, 1) := by decide +kernel
theorem dL_law_292 : decode cL_law 292 = .ok (.iaload, 1) := by decide +kernel
theorem dL_law_293 : decode cL_law 293 = .ok (.aload_n 0, 1) := by decide +kernel
theorem dL_law_294 : decode cL_law 294 = .ok (.iload_n 3, 1) := by decide +kernel
theorem dL_law_295 : decode cL_law 295 = .ok (.iconst 2, 1) := by decide +kernel
theorem dL_law_296 : decode cL_law 296 = .ok (.iadd, 1) := by decide +kernel
theorem dL_law_297 : decode cL_law 297 = .ok (.iaload, 1) := by decide +kernel
theorem dL_law_298 : decode cL_law 298 = .ok (.invokevirtual 28, 3) := by decide +kernel
theorem dL_law_301 : decode cL_law 301 = .ok (.aload_n 2, 1) := by decide +kernel
theorem dL_law_302 : decode cL_law 302 = .ok (.aload_n 0, 1) := by decide +kernel
theorem dL_law_303 : decode cL_law 303 = .ok (.iload_n 3, 1) := by decide +kernel
theorem dL_law_304 : decode cL_law 304 = .ok (.iconst 1, 1) := by decide +kernel
theorem dL_law_305 : decode cL_law 305 = .ok (.iadd, 1) := by decide +kernel
theorem dL_law_306 : decode cL_law 306 = .ok (.iaload, 1) := by decide +kernel
theorem dL_law_307 : decode cL_law 307 = .ok (.aload_n 0, 1) := by decide +kernel
theorem dL_law_308 : decode cL_law 308 = .ok (.iload_n 3, 1) := by decide +kernel
theorem dL_law_309 : decode cL_law 309 = .ok (.iconst 2, 1) := by decide +kernel
theorem dL_law_310 : decode cL_law 310 = .ok (.iadd, 1) := by decide +kernel
theorem dL_law_311 : decode cL_law 311 = .ok (.iaload, 1) := by decide +kernel
theorem dL_law_312 : decode cL_law 312 = .ok (.invokevirtual 32, 3) := by decide +kernel
theorem dL_law_315 : decode cL_law 315 = .ok (.if_icmp .eq 509, 3) := by decide +kernel
theorem dL_law_318 : decode cL_law 318 = .ok (.iconst 0, 1) := by decide +kernel
theorem dL_law_319 : decode cL_law 319 = .ok (.ireturn, 1) := by decide +kernel
theorem dL_law_320 : decode cL_law 320 = .ok (.aload_n 1, 1) := by decide +kernel
theorem dL_law_321 : decode cL_law 321 = .ok (.invokevirtual 33, 3) := by decide +kernel
theorem dL_law_324 : decode cL_law 324 = .ok (.aload_n 2, 1) := by decide +kernel
theorem dL_law_325 : decode cL_law 325 = .ok (.invokevirtual 37, 3) := by decide +kernel
theorem dL_law_328 : decode cL_law 328 = .ok (.if_icmp .eq 496, 3) := by decide +kernel
theorem dL_law_331 : decode cL_law 331 = .ok (.iconst 0, 1) := by decide +kernel
theorem dL_law_332 : decode cL_law 332 = .ok (.ireturn, 1) := by decide +kernel
theorem dL_law_333 : decode cL_law 333 = .ok (.aload_n 1, 1) := by decide +kernel
theorem dL_law_334 : decode cL_law 334 = .ok (.aload_n 0, 1) := by decide +kernel
theorem dL_law_335 : decode cL_law 335 = .ok (.iload_n 3, 1) := by decide +kernel
theorem dL_law_336 : decode cL_law 336 = .ok (.iconst 1, 1) := by decide +kernel
theorem dL_law_337 : decode cL_law 337 = .ok (.iadd, 1) := by decide +kernel
theorem dL_law_338 : decode cL_law 338 = .ok (.iaload, 1) := by decide +kernel
theorem dL_law_339 : decode cL_law 339 = .ok (.aload_n 0, 1) := by decide +kernel
theorem dL_law_340 : decode cL_law 340 = .ok (.iload_n 3, 1) := by decide +kernel
theorem dL_law_341 : decode cL_law 341 = .ok (.iconst 2, 1) := by decide +kernel
theorem dL_law_342 : decode cL_law 342 = .ok (.iadd, 1) := by decide +kernel
theorem dL_law_343 : decode cL_law 343 = .ok (.iaload, 1) := by decide +kernel
theorem dL_law_344 : decode cL_law 344 = .ok (.aload_n 0, 1) := by decide +kernel
theorem dL_law_345 : decode cL_law 345 = .ok (.iload_n 3, 1) := by decide +kernel
theorem dL_law_346 : decode cL_law 346 = .ok (.iconst 3, 1) := by decide +kernel
theorem dL_law_347 : decode cL_law 347 = .ok (.iadd, 1) := by decide +kernel
theorem dL_law_348 : decode cL_law 348 = .ok (.iaload, 1) := by decide +kernel
theorem dL_law_349 : decode cL_law 349 = .ok (.invokevirtual 38, 3) := by decide +kernel
theorem dL_law_352 : decode cL_law 352 = .ok (.aload_n 2, 1) := by decide +kernel
theorem dL_law_353 : decode cL_law 353 = .ok (.aload_n 0, 1) := by decide +kernel
theorem dL_law_354 : decode cL_law 354 = .ok (.iload_n 3, 1) := by decide +kernel
theorem dL_law_355 : decode cL_law 355 = .ok (.iconst 1, 1) := by decide +kernel
theorem dL_law_356 : decode cL_law 356 = .ok (.iadd, 1) := by decide +kernel
theorem dL_law_357 : decode cL_law 357 = .ok (.iaload, 1) := by decide +kernel
theorem dL_law_358 : decode cL_law 358 = .ok (.aload_n 0, 1) := by decide +kernel
theorem dL_law_359 : decode cL_law 359 = .ok (.iload_n 3, 1) := by decide +kernel
theorem dL_law_360 : decode cL_law 360 = .ok (.iconst 2, 1) := by decide +kernel
theorem dL_law_361 : decode cL_law 361 = .ok (.iadd, 1) := by decide +kernel
theorem dL_law_362 : decode cL_law 362 = .ok (.iaload, 1) := by decide +kernel
theorem dL_law_363 : decode cL_law 363 = .ok (.aload_n 0, 1) := by decide +kernel
theorem dL_law_364 : decode cL_law 364 = .ok (.iload_n 3, 1) := by decide +kernel
theorem dL_law_365 : decode cL_law 365 = .ok (.iconst 3, 1) := by decide +kernel
theorem dL_law_366 : decode cL_law 366 = .ok (.iadd, 1) := by decide +kernel
theorem dL_law_367 : decode cL_law 367 = .ok (.iaload, 1) := by decide +kernel
theorem dL_law_368 : decode cL_law 368 = .ok (.invokevirtual 42, 3) := by decide +kernel
theorem dL_law_371 : decode cL_law 371 = .ok (.if_icmp .eq 453, 3) := by decide +kernel
theorem dL_law_374 : decode cL_law 374 = .ok (.iconst 0, 1) := by decide +kernel
theorem dL_law_375 : decode cL_law 375 = .ok (.ireturn, 1) := by decide +kernel
theorem dL_law_376 : decode cL_law 376 = .ok (.aload_n 1, 1) := by decide +kernel
theorem dL_law_377 : decode cL_law 377 = .ok (.aload_n 0, 1) := by decide +kernel
theorem dL_law_378 : decode cL_law 378 = .ok (.iload_n 3, 1) := by decide +kernel
theorem dL_law_379 : decode cL_law 379 = .ok (.iconst 1, 1) := by decide +kernel
theorem dL_law_380 : decode cL_law 380 = .ok (.iadd, 1) := by decide +kernel
theorem dL_law_381 : decode cL_law 381 = .ok (.iaload, 1) := by decide +kernel
theorem dL_law_382 : decode cL_law 382 = .ok (.aload_n 0, 1) := by decide +kernel
theorem dL_law_383 : decode cL_law 383 = .ok (.iload_n 3, 1) := by decide +kernel
theorem dL_law_384 : decode cL_law 384 = .ok (.iconst 2, 1) := by decide +kernel
theorem dL_law_385 : decode cL_law 385 = .ok (.iadd, 1) := by decide +kernel
theorem dL_law_386 : decode cL_law 386 = .ok (.iaload, 1) := by decide +kernel
theorem dL_law_387 : decode cL_law 387 = .ok (.invokevirtual 43, 3) := by decide +kernel
theorem dL_law_390 : decode cL_law 390 = .ok (.aload_n 2, 1) := by decide +kernel
theorem dL_law_391 : decode cL_law 391 = .ok (.aload_n 0, 1) := by decide +kernel
theorem dL_law_392 : decode cL_law 392 = .ok (.iload_n 3, 1) := by decide +kernel
theorem dL_law_393 : decode cL_law 393 = .ok (.iconst 1, 1) := by decide +kernel
theorem dL_law_394 : decode cL_law 394 = .ok (.iadd, 1) := by decide +kernel
theorem dL_law_395 : decode cL_law 395 = .ok (.iaload, 1) := by decide +kernel
theorem dL_law_396 : decode cL_law 396 = .ok (.aload_n 0, 1) := by decide +kernel
theorem dL_law_397 : decode cL_law 397 = .ok (.iload_n 3, 1) := by decide +kernel
theorem dL_law_398 : decode cL_law 398 = .ok (.iconst 2, 1) := by decide +kernel
theorem dL_law_399 : decode cL_law 399 = .ok (.iadd, 1) := by decide +kernel
theorem dL_law_400 : decode cL_law 400 = .ok (.iaload, 1) := by decide +kernel
theorem dL_law_401 : decode cL_law 401 = .ok (.invokevirtual 46, 3) := by decide +kernel
theorem dL_law_404 : decode cL_law 404 = .ok (.if_icmp .eq 420, 3) := by decide +kernel
theorem dL_law_407 : decode cL_law 407 = .ok (.iconst 0, 1) := by decide +kernel
theorem dL_law_408 : decode cL_law 408 = .ok (.ireturn, 1) := by decide +kernel
theorem dL_law_409 : decode cL_law 409 = .ok (.aload_n 1, 1) := by decide +kernel
theorem dL_law_410 : decode cL_law 410 = .ok (.invokevirtual 47, 3) := by decide +kernel
theorem dL_law_413 : decode cL_law 413 = .ok (.aload_n 2, 1) := by decide +kernel
theorem dL_law_414 : decode cL_law 414 = .ok (.invokevirtual 50, 3) := by decide +kernel
theorem dL_law_417 : decode cL_law 417 = .ok (.if_icmp .eq 407, 3) := by decide +kernel
theorem dL_law_420 : decode cL_law 420 = .ok (.iconst 0, 1) := by decide +kernel
theorem dL_law_421 : decode cL_law 421 = .ok (.ireturn, 1) := by decide +kernel
theorem dL_law_422 : decode cL_law 422 = .ok (.aload_n 1, 1) := by decide +kernel
theorem dL_law_423 : decode cL_law 423 = .ok (.aload_n 0, 1) := by decide +kernel
theorem dL_law_424 : decode cL_law 424 = .ok (.iload_n 3, 1) := by decide +kernel
theorem dL_law_425 : decode cL_law 425 = .ok (.iconst 1, 1) := by decide +kernel
theorem dL_law_426 : decode cL_law 426 = .ok (.iadd, 1) := by decide +kernel
theorem dL_law_427 : decode cL_law 427 = .ok (.iaload, 1) := by decide +kernel
theorem dL_law_428 : decode cL_law 428 = .ok (.aload_n 0, 1) := by decide +kernel
theorem dL_law_429 : decode cL_law 429 = .ok (.iload_n 3, 1) := by decide +kernel
theorem dL_law_430 : decode cL_law 430 = .ok (.iconst 2, 1) := by decide +kernel
theorem dL_law_431 : decode cL_law 431 = .ok (.iadd, 1) := by decide +kernel
theorem dL_law_432 : decode cL_law 432 = .ok (.iaload, 1) := by decide +kernel
theorem dL_law_433 : decode cL_law 433 = .ok (.invokevirtual 51, 3) := by decide +kernel
theorem dL_law_436 : decode cL_law 436 = .ok (.aload_n 2, 1) := by decide +kernel
theorem dL_law_437 : decode cL_law 437 = .ok (.aload_n 0, 1) := by decide +kernel
theorem dL_law_438 : decode cL_law 438 = .ok (.iload_n 3, 1) := by decide +kernel
theorem dL_law_439 : decode cL_law 439 = .ok (.iconst 1, 1) := by decide +kernel
theorem dL_law_440 : decode cL_law 440 = .ok (.iadd, 1) := by decide +kernel
theorem dL_law_441 : decode cL_law 441 = .ok (.iaload, 1) := by decide +kernel
theorem dL_law_442 : decode cL_law 442 = .ok (.aload_n 0, 1) := by decide +kernel
theorem dL_law_443 : decode cL_law 443 = .ok (.iload_n 3, 1) := by decide +kernel
theorem dL_law_444 : decode cL_law 444 = .ok (.iconst 2, 1) := by decide +kernel
theorem dL_law_445 : decode cL_law 445 = .ok (.iadd, 1) := by decide +kernel
theorem dL_law_446 : decode cL_law 446 = .ok (.iaload, 1) := by decide +kernel
theorem dL_law_447 : decode cL_law 447 = .ok (.invokevirtual 54, 3) := by decide +kernel
theorem dL_law_450 : decode cL_law 450 = .ok (.if_icmp .eq 374, 3) := by decide +kernel
theorem dL_law_453 : decode cL_law 453 = .ok (.iconst 0, 1) := by decide +kernel
theorem dL_law_454 : decode cL_law 454 = .ok (.ireturn, 1) := by decide +kernel
theorem dL_law_455 : decode cL_law 455 = .ok (.aload_n 1, 1) := by decide +kernel
theorem dL_law_456 : decode cL_law 456 = .ok (.aload_n 0, 1) := by decide +kernel
theorem dL_law_457 : decode cL_law 457 = .ok (.iload_n 3, 1) := by decide +kernel
theorem dL_law_458 : decode cL_law 458 = .ok (.iconst 1, 1) := by decide +kernel
theorem dL_law_459 : decode cL_law 459 = .ok (.iadd, 1) := by decide +kernel
theorem dL_law_460 : decode cL_law 460 = .ok (.iaload, 1) := by decide +kernel
theorem dL_law_461 : decode cL_law 461 = .ok (.aload_n 0, 1) := by decide +kernel
theorem dL_law_462 : decode cL_law 462 = .ok (.iload_n 3, 1) := by decide +kernel
theorem dL_law_463 : decode cL_law 463 = .ok (.iconst 2, 1) := by decide +kernel
theorem dL_law_464 : decode cL_law 464 = .ok (.iadd, 1) := by decide +kernel
theorem dL_law_465 : decode cL_law 465 = .ok (.iaload, 1) := by decide +kernel
theorem dL_law_466 : decode cL_law 466 = .ok (.aload_n 0, 1) := by decide +kernel
theorem dL_law_467 : decode cL_law 467 = .ok (.iload_n 3, 1) := by decide +kernel
theorem dL_law_468 : decode cL_law 468 = .ok (.iconst 3, 1) := by decide +kernel
theorem dL_law_469 : decode cL_law 469 = .ok (.iadd, 1) := by decide +kernel
theorem dL_law_470 : decode cL_law 470 = .ok (.iaload, 1) := by decide +kernel
theorem dL_law_471 : decode cL_law 471 = .ok (.invokevirtual 55, 3) := by decide +kernel
theorem dL_law_474 : decode cL_law 474 = .ok (.aload_n 2, 1) := by decide +kernel
theorem dL_law_475 : decode cL_law 475 = .ok (.aload_n 0, 1) := by decide +kernel
theorem dL_law_476 : decode cL_law 476 = .ok (.iload_n 3, 1) := by decide +kernel
theorem dL_law_477 : decode cL_law 477 = .ok (.iconst 1, 1) := by decide +kernel
theorem dL_law_478 : decode cL_law 478 = .ok (.iadd, 1) := by decide +kernel
theorem dL_law_479 : decode cL_law 479 = .ok (.iaload, 1) := by decide +kernel
theorem dL_law_480 : decode cL_law 480 = .ok (.aload_n 0, 1) := by decide +kernel
theorem dL_law_481 : decode cL_law 481 = .ok (.iload_n 3, 1) := by decide +kernel
theorem dL_law_482 : decode cL_law 482 = .ok (.iconst 2, 1) := by decide +kernel
theorem dL_law_483 : decode cL_law 483 = .ok (.iadd, 1) := by decide +kernel
theorem dL_law_484 : decode cL_law 484 = .ok (.iaload, 1) := by decide +kernel
theorem dL_law_485 : decode cL_law 485 = .ok (.aload_n 0, 1) := by decide +kernel
theorem dL_law_486 : decode cL_law 486 = .ok (.iload_n 3, 1) := by decide +kernel
theorem dL_law_487 : decode cL_law 487 = .ok (.iconst 3, 1) := by decide +kernel
theorem dL_law_488 : decode cL_law 488 = .ok (.iadd, 1) := by decide +kernel
theorem dL_law_489 : decode cL_law 489 = .ok (.iaload, 1) := by decide +kernel
theorem dL_law_490 : decode cL_law 490 = .ok (.invokevirtual 59, 3) := by decide +kernel
theorem dL_law_493 : decode cL_law 493 = .ok (.if_icmp .eq 331, 3) := by decide +kernel
theorem dL_law_496 : decode cL_law 496 = .ok (.iconst 0, 1) := by decide +kernel
theorem dL_law_497 : decode cL_law 497 = .ok (.ireturn, 1) := by decide +kernel
theorem dL_law_498 : decode cL_law 498 = .ok (.aload_n 1, 1) := by decide +kernel
theorem dL_law_499 : decode cL_law 499 = .ok (.aload_n 0, 1) := by decide +kernel
theorem dL_law_500 : decode cL_law 500 = .ok (.iload_n 3, 1) := by decide +kernel
theorem dL_law_501 : decode cL_law 501 = .ok (.iconst 1, 1) := by decide +kernel
theorem dL_law_502 : decode cL_law 502 = .ok (.iadd, 1) := by decide +kernel
theorem dL_law_503 : decode cL_law 503 = .ok (.iaload, 1) := by decide +kernel
theorem dL_law_504 : decode cL_law 504 = .ok (.aload_n 0, 1) := by decide +kernel
theorem dL_law_505 : decode cL_law 505 = .ok (.iload_n 3, 1) := by decide +kernel
theorem dL_law_506 : decode cL_law 506 = .ok (.iconst 2, 1) := by decide +kernel
theorem dL_law_507 : decode cL_law 507 = .ok (.iadd, 1) := by decide +kernel
theorem dL_law_508 : decode cL_law 508 = .ok (.iaload, 1) := by decide +kernel
theorem dL_law_509 : decode cL_law 509 = .ok (.invokevirtual 60, 3) := by decide +kernel
theorem dL_law_512 : decode cL_law 512 = .ok (.aload_n 2, 1) := by decide +kernel
theorem dL_law_513 : decode cL_law 513 = .ok (.aload_n 0, 1) := by decide +kernel
theorem dL_law_514 : decode cL_law 514 = .ok (.iload_n 3, 1) := by decide +kernel
theorem dL_law_515 : decode cL_law 515 = .ok (.iconst 1, 1) := by decide +kernel
theorem dL_law_516 : decode cL_law 516 = .ok (.iadd, 1) := by decide +kernel
theorem dL_law_517 : decode cL_law 517 = .ok (.iaload, 1) := by decide +kernel
theorem dL_law_518 : decode cL_law 518 = .ok (.aload_n 0, 1) := by decide +kernel
theorem dL_law_519 : decode cL_law 519 = .ok (.iload_n 3, 1) := by decide +kernel
theorem dL_law_520 : decode cL_law 520 = .ok (.iconst 2, 1) := by decide +kernel
theorem dL_law_521 : decode cL_law 521 = .ok (.iadd, 1) := by decide +kernel
theorem dL_law_522 : decode cL_law 522 = .ok (.iaload, 1) := by decide +kernel
theorem dL_law_523 : decode cL_law 523 = .ok (.invokevirtual 63, 3) := by decide +kernel
theorem dL_law_526 : decode cL_law 526 = .ok (.if_icmp .eq 298, 3) := by decide +kernel
theorem dL_law_529 : decode cL_law 529 = .ok (.iconst 0, 1) := by decide +kernel
theorem dL_law_530 : decode cL_law 530 = .ok (.ireturn, 1) := by decide +kernel
theorem dL_law_531 : decode cL_law 531 = .ok (.aload_n 1, 1) := by decide +kernel
theorem dL_law_532 : decode cL_law 532 = .ok (.aload_n 0, 1) := by decide +kernel
theorem dL_law_533 : decode cL_law 533 = .ok (.iload_n 3, 1) := by decide +kernel
theorem dL_law_534 : decode cL_law 534 = .ok (.iconst 1, 1) := by decide +kernel
theorem dL_law_535 : decode cL_law 535 = .ok (.iadd, 1) := by decide +kernel
theorem dL_law_536 : decode cL_law 536 = .ok (.iaload, 1) := by decide +kernel
theorem dL_law_537 : decode cL_law 537 = .ok (.invokevirtual 64, 3) := by decide +kernel
theorem dL_law_540 : decode cL_law 540 = .ok (.aload_n 2, 1) := by decide +kernel
theorem dL_law_541 : decode cL_law 541 = .ok (.aload_n 0, 1) := by decide +kernel
theorem dL_law_542 : decode cL_law 542 = .ok (.iload_n 3, 1) := by decide +kernel
theorem dL_law_543 : decode cL_law 543 = .ok (.iconst 1, 1) := by decide +kernel
theorem dL_law_544 : decode cL_law 544 = .ok (.iadd, 1) := by decide +kernel
theorem dL_law_545 : decode cL_law 545 = .ok (.iaload, 1) := by decide +kernel
theorem dL_law_546 : decode cL_law 546 = .ok (.invokevirtual 68, 3) := by decide +kernel
theorem dL_law_549 : decode cL_law 549 = .ok (.if_icmp .eq 275, 3) := by decide +kernel
theorem dL_law_552 : decode cL_law 552 = .ok (.iconst 0, 1) := by decide +kernel
theorem dL_law_553 : decode cL_law 553 = .ok (.ireturn, 1) := by decide +kernel
theorem dL_law_554 : decode cL_law 554 = .ok (.aload_n 1, 1) := by decide +kernel
theorem dL_law_555 : decode cL_law 555 = .ok (.aload_n 0, 1) := by decide +kernel
theorem dL_law_556 : decode cL_law 556 = .ok (.iload_n 3, 1) := by decide +kernel
theorem dL_law_557 : decode cL_law 557 = .ok (.iconst 1, 1) := by decide +kernel
theorem dL_law_558 : decode cL_law 558 = .ok (.iadd, 1) := by decide +kernel
theorem dL_law_559 : decode cL_law 559 = .ok (.iaload, 1) := by decide +kernel
theorem dL_law_560 : decode cL_law 560 = .ok (.invokevirtual 69, 3) := by decide +kernel
theorem dL_law_563 : decode cL_law 563 = .ok (.aload_n 2, 1) := by decide +kernel
theorem dL_law_564 : decode cL_law 564 = .ok (.aload_n 0, 1) := by decide +kernel
theorem dL_law_565 : decode cL_law 565 = .ok (.iload_n 3, 1) := by decide +kernel
theorem dL_law_566 : decode cL_law 566 = .ok (.iconst 1, 1) := by decide +kernel
theorem dL_law_567 : decode cL_law 567 = .ok (.iadd, 1) := by decide +kernel
theorem dL_law_568 : decode cL_law 568 = .ok (.iaload, 1) := by decide +kernel
theorem dL_law_569 : decode cL_law 569 = .ok (.invokevirtual 72, 3) := by decide +kernel
theorem dL_law_572 : decode cL_law 572 = .ok (.if_icmp .eq 252, 3) := by decide +kernel
theorem dL_law_575 : decode cL_law 575 = .ok (.iconst 0, 1) := by decide +kernel
theorem dL_law_576 : decode cL_law 576 = .ok (.ireturn, 1) := by decide +kernel
theorem dL_law_577 : decode cL_law 577 = .ok (.aload_n 1, 1) := by decide +kernel
theorem dL_law_578 : decode cL_law 578 = .ok (.aload_n 0, 1) := by decide +kernel
theorem dL_law_579 : decode cL_law 579 = .ok (.iload_n 3, 1) := by decide +kernel
theorem dL_law_580 : decode cL_law 580 = .ok (.iconst 1, 1) := by decide +kernel
theorem dL_law_581 : decode cL_law 581 = .ok (.iadd, 1) := by decide +kernel
theorem dL_law_582 : decode cL_law 582 = .ok (.iaload, 1) := by decide +kernel
theorem dL_law_583 : decode cL_law 583 = .ok (.invokevirtual 73, 3) := by decide +kernel
theorem dL_law_586 : decode cL_law 586 = .ok (.aload_n 2, 1) := by decide +kernel
theorem dL_law_587 : decode cL_law 587 = .ok (.aload_n 0, 1) := by decide +kernel
theorem dL_law_588 : decode cL_law 588 = .ok (.iload_n 3, 1) := by decide +kernel
theorem dL_law_589 : decode cL_law 589 = .ok (.iconst 1, 1) := by decide +kernel
theorem dL_law_590 : decode cL_law 590 = .ok (.iadd, 1) := by decide +kernel
theorem dL_law_591 : decode cL_law 591 = .ok (.iaload, 1) := by decide +kernel
theorem dL_law_592 : decode cL_law 592 = .ok (.invokevirtual 76, 3) := by decide +kernel
theorem dL_law_595 : decode cL_law 595 = .ok (.if_icmp .eq 229, 3) := by decide +kernel
theorem dL_law_598 : decode cL_law 598 = .ok (.iconst 0, 1) := by decide +kernel
theorem dL_law_599 : decode cL_law 599 = .ok (.ireturn, 1) := by decide +kernel
theorem dL_law_600 : decode cL_law 600 = .ok (.aload_n 1, 1) := by decide +kernel
theorem dL_law_601 : decode cL_law 601 = .ok (.aload_n 0, 1) := by decide +kernel
theorem dL_law_602 : decode cL_law 602 = .ok (.iload_n 3, 1) := by decide +kernel
theorem dL_law_603 : decode cL_law 603 = .ok (.iconst 1, 1) := by decide +kernel
theorem dL_law_604 : decode cL_law 604 = .ok (.iadd, 1) := by decide +kernel
theorem dL_law_605 : decode cL_law 605 = .ok (.iaload, 1) := by decide +kernel
theorem dL_law_606 : decode cL_law 606 = .ok (.aload_n 0, 1) := by decide +kernel
theorem dL_law_607 : decode cL_law 607 = .ok (.iload_n 3, 1) := by decide +kernel
theorem dL_law_608 : decode cL_law 608 = .ok (.iconst 2, 1) := by decide +kernel
theorem dL_law_609 : decode cL_law 609 = .ok (.iadd, 1) := by decide +kernel
theorem dL_law_610 : decode cL_law 610 = .ok (.iaload, 1) := by decide +kernel
theorem dL_law_611 : decode cL_law 611 = .ok (.ifCond .eq 7, 3) := by decide +kernel
theorem dL_law_614 : decode cL_law 614 = .ok (.iconst 1, 1) := by decide +kernel
theorem dL_law_615 : decode cL_law 615 = .ok (.goto 4, 3) := by decide +kernel
theorem dL_law_618 : decode cL_law 618 = .ok (.iconst 0, 1) := by decide +kernel
theorem dL_law_619 : decode cL_law 619 = .ok (.invokevirtual 77, 3) := by decide +kernel
theorem dL_law_622 : decode cL_law 622 = .ok (.aload_n 2, 1) := by decide +kernel
theorem dL_law_623 : decode cL_law 623 = .ok (.aload_n 0, 1) := by decide +kernel
theorem dL_law_624 : decode cL_law 624 = .ok (.iload_n 3, 1) := by decide +kernel
theorem dL_law_625 : decode cL_law 625 = .ok (.iconst 1, 1) := by decide +kernel
theorem dL_law_626 : decode cL_law 626 = .ok (.iadd, 1) := by decide +kernel
theorem dL_law_627 : decode cL_law 627 = .ok (.iaload, 1) := by decide +kernel
theorem dL_law_628 : decode cL_law 628 = .ok (.aload_n 0, 1) := by decide +kernel
theorem dL_law_629 : decode cL_law 629 = .ok (.iload_n 3, 1) := by decide +kernel
theorem dL_law_630 : decode cL_law 630 = .ok (.iconst 2, 1) := by decide +kernel
theorem dL_law_631 : decode cL_law 631 = .ok (.iadd, 1) := by decide +kernel
theorem dL_law_632 : decode cL_law 632 = .ok (.iaload, 1) := by decide +kernel
theorem dL_law_633 : decode cL_law 633 = .ok (.ifCond .eq 7, 3) := by decide +kernel
theorem dL_law_636 : decode cL_law 636 = .ok (.iconst 1, 1) := by decide +kernel
theorem dL_law_637 : decode cL_law 637 = .ok (.goto 4, 3) := by decide +kernel
theorem dL_law_640 : decode cL_law 640 = .ok (.iconst 0, 1) := by decide +kernel
theorem dL_law_641 : decode cL_law 641 = .ok (.invokevirtual 81, 3) := by decide +kernel
theorem dL_law_644 : decode cL_law 644 = .ok (.if_icmp .eq 180, 3) := by decide +kernel
theorem dL_law_647 : decode cL_law 647 = .ok (.iconst 0, 1) := by decide +kernel
theorem dL_law_648 : decode cL_law 648 = .ok (.ireturn, 1) := by decide +kernel
theorem dL_law_649 : decode cL_law 649 = .ok (.aload_n 1, 1) := by decide +kernel
theorem dL_law_650 : decode cL_law 650 = .ok (.aload_n 0, 1) := by decide +kernel
theorem dL_law_651 : decode cL_law 651 = .ok (.iload_n 3, 1) := by decide +kernel
theorem dL_law_652 : decode cL_law 652 = .ok (.iconst 1, 1) := by decide +kernel
theorem dL_law_653 : decode cL_law 653 = .ok (.iadd, 1) := by decide +kernel
theorem dL_law_654 : decode cL_law 654 = .ok (.iaload, 1) := by decide +kernel
theorem dL_law_655 : decode cL_law 655 = .ok (.aload_n 0, 1) := by decide +kernel
theorem dL_law_656 : decode cL_law 656 = .ok (.iload_n 3, 1) := by decide +kernel
theorem dL_law_657 : decode cL_law 657 = .ok (.iconst 2, 1) := by decide +kernel
theorem dL_law_658 : decode cL_law 658 = .ok (.iadd, 1) := by decide +kernel
theorem dL_law_659 : decode cL_law 659 = .ok (.iaload, 1) := by decide +kernel
theorem dL_law_660 : decode cL_law 660 = .ok (.invokevirtual 82, 3) := by decide +kernel
theorem dL_law_663 : decode cL_law 663 = .ok (.aload_n 2, 1) := by decide +kernel
theorem dL_law_664 : decode cL_law 664 = .ok (.aload_n 0, 1) := by decide +kernel
theorem dL_law_665 : decode cL_law 665 = .ok (.iload_n 3, 1) := by decide +kernel
theorem dL_law_666 : decode cL_law 666 = .ok (.iconst 1, 1) := by decide +kernel
theorem dL_law_667 : decode cL_law 667 = .ok (.iadd, 1) := by decide +kernel
theorem dL_law_668 : decode cL_law 668 = .ok (.iaload, 1) := by decide +kernel
theorem dL_law_669 : decode cL_law 669 = .ok (.aload_n 0, 1) := by decide +kernel
theorem dL_law_670 : decode cL_law 670 = .ok (.iload_n 3, 1) := by decide +kernel
theorem dL_law_671 : decode cL_law 671 = .ok (.iconst 2, 1) := by decide +kernel
theorem dL_law_672 : decode cL_law 672 = .ok (.iadd, 1) := by decide +kernel
theorem dL_law_673 : decode cL_law 673 = .ok (.iaload, 1) := by decide +kernel
theorem dL_law_674 : decode cL_law 674 = .ok (.invokevirtual 85, 3) := by decide +kernel
theorem dL_law_677 : decode cL_law 677 = .ok (.if_icmp .eq 147, 3) := by decide +kernel
theorem dL_law_680 : decode cL_law 680 = .ok (.iconst 0, 1) := by decide +kernel
theorem dL_law_681 : decode cL_law 681 = .ok (.ireturn, 1) := by decide +kernel
theorem dL_law_682 : decode cL_law 682 = .ok (.aload_n 1, 1) := by decide +kernel
theorem dL_law_683 : decode cL_law 683 = .ok (.aload_n 0, 1) := by decide +kernel
theorem dL_law_684 : decode cL_law 684 = .ok (.iload_n 3, 1) := by decide +kernel
theorem dL_law_685 : decode cL_law 685 = .ok (.iconst 1, 1) := by decide +kernel
theorem dL_law_686 : decode cL_law 686 = .ok (.iadd, 1) := by decide +kernel
theorem dL_law_687 : decode cL_law 687 = .ok (.iaload, 1) := by decide +kernel
theorem dL_law_688 : decode cL_law 688 = .ok (.invokevirtual 86, 3) := by decide +kernel
theorem dL_law_691 : decode cL_law 691 = .ok (.aload_n 2, 1) := by decide +kernel
theorem dL_law_692 : decode cL_law 692 = .ok (.aload_n 0, 1) := by decide +kernel
theorem dL_law_693 : decode cL_law 693 = .ok (.iload_n 3, 1) := by decide +kernel
theorem dL_law_694 : decode cL_law 694 = .ok (.iconst 1, 1) := by decide +kernel
theorem dL_law_695 : decode cL_law 695 = .ok (.iadd, 1) := by decide +kernel
theorem dL_law_696 : decode cL_law 696 = .ok (.iaload, 1) := by decide +kernel
theorem dL_law_697 : decode cL_law 697 = .ok (.invokevirtual 89, 3) := by decide +kernel
theorem dL_law_700 : decode cL_law 700 = .ok (.if_icmp .eq 124, 3) := by decide +kernel
theorem dL_law_703 : decode cL_law 703 = .ok (.iconst 0, 1) := by decide +kernel
theorem dL_law_704 : decode cL_law 704 = .ok (.ireturn, 1) := by decide +kernel
theorem dL_law_705 : decode cL_law 705 = .ok (.aload_n 1, 1) := by decide +kernel
theorem dL_law_706 : decode cL_law 706 = .ok (.aload_n 0, 1) := by decide +kernel
theorem dL_law_707 : decode cL_law 707 = .ok (.iload_n 3, 1) := by decide +kernel
theorem dL_law_708 : decode cL_law 708 = .ok (.iconst 1, 1) := by decide +kernel
theorem dL_law_709 : decode cL_law 709 = .ok (.iadd, 1) := by decide +kernel
theorem dL_law_710 : decode cL_law 710 = .ok (.iaload, 1) := by decide +kernel
theorem dL_law_711 : decode cL_law 711 = .ok (.ifCond .eq 7, 3) := by decide +kernel
theorem dL_law_714 : decode cL_law 714 = .ok (.iconst 1, 1) := by decide +kernel
theorem dL_law_715 : decode cL_law 715 = .ok (.goto 4, 3) := by decide +kernel
theorem dL_law_718 : decode cL_law 718 = .ok (.iconst 0, 1) := by decide +kernel
theorem dL_law_719 : decode cL_law 719 = .ok (.invokevirtual 90, 3) := by decide +kernel
theorem dL_law_722 : decode cL_law 722 = .ok (.aload_n 2, 1) := by decide +kernel
theorem dL_law_723 : decode cL_law 723 = .ok (.aload_n 0, 1) := by decide +kernel
theorem dL_law_724 : decode cL_law 724 = .ok (.iload_n 3, 1) := by decide +kernel
theorem dL_law_725 : decode cL_law 725 = .ok (.iconst 1, 1) := by decide +kernel
theorem dL_law_726 : decode cL_law 726 = .ok (.iadd, 1) := by decide +kernel
theorem dL_law_727 : decode cL_law 727 = .ok (.iaload, 1) := by decide +kernel
theorem dL_law_728 : decode cL_law 728 = .ok (.ifCond .eq 7, 3) := by decide +kernel
theorem dL_law_731 : decode cL_law 731 = .ok (.iconst 1, 1) := by decide +kernel
theorem dL_law_732 : decode cL_law 732 = .ok (.goto 4, 3) := by decide +kernel
theorem dL_law_735 : decode cL_law 735 = .ok (.iconst 0, 1) := by decide +kernel
theorem dL_law_736 : decode cL_law 736 = .ok (.invokevirtual 94, 3) := by decide +kernel
theorem dL_law_739 : decode cL_law 739 = .ok (.if_icmp .eq 85, 3) := by decide +kernel
theorem dL_law_742 : decode cL_law 742 = .ok (.iconst 0, 1) := by decide +kernel
theorem dL_law_743 : decode cL_law 743 = .ok (.ireturn, 1) := by decide +kernel
theorem dL_law_744 : decode cL_law 744 = .ok (.aload_n 1, 1) := by decide +kernel
theorem dL_law_745 : decode cL_law 745 = .ok (.aload_n 0, 1) := by decide +kernel
theorem dL_law_746 : decode cL_law 746 = .ok (.iload_n 3, 1) := by decide +kernel
theorem dL_law_747 : decode cL_law 747 = .ok (.iconst 1, 1) := by decide +kernel
theorem dL_law_748 : decode cL_law 748 = .ok (.iadd, 1) := by decide +kernel
theorem dL_law_749 : decode cL_law 749 = .ok (.iaload, 1) := by decide +kernel
theorem dL_law_750 : decode cL_law 750 = .ok (.aload_n 0, 1) := by decide +kernel
theorem dL_law_751 : decode cL_law 751 = .ok (.iload_n 3, 1) := by decide +kernel
theorem dL_law_752 : decode cL_law 752 = .ok (.iconst 2, 1) := by decide +kernel
theorem dL_law_753 : decode cL_law 753 = .ok (.iadd, 1) := by decide +kernel
theorem dL_law_754 : decode cL_law 754 = .ok (.iaload, 1) := by decide +kernel
theorem dL_law_755 : decode cL_law 755 = .ok (.aload_n 0, 1) := by decide +kernel
theorem dL_law_756 : decode cL_law 756 = .ok (.iload_n 3, 1) := by decide +kernel
theorem dL_law_757 : decode cL_law 757 = .ok (.iconst 3, 1) := by decide +kernel
theorem dL_law_758 : decode cL_law 758 = .ok (.iadd, 1) := by decide +kernel
theorem dL_law_759 : decode cL_law 759 = .ok (.iaload, 1) := by decide +kernel
theorem dL_law_760 : decode cL_law 760 = .ok (.invokevirtual 95, 3) := by decide +kernel
theorem dL_law_763 : decode cL_law 763 = .ok (.aload_n 2, 1) := by decide +kernel
theorem dL_law_764 : decode cL_law 764 = .ok (.aload_n 0, 1) := by decide +kernel
theorem dL_law_765 : decode cL_law 765 = .ok (.iload_n 3, 1) := by decide +kernel
theorem dL_law_766 : decode cL_law 766 = .ok (.iconst 1, 1) := by decide +kernel
theorem dL_law_767 : decode cL_law 767 = .ok (.iadd, 1) := by decide +kernel
theorem dL_law_768 : decode cL_law 768 = .ok (.iaload, 1) := by decide +kernel
theorem dL_law_769 : decode cL_law 769 = .ok (.aload_n 0, 1) := by decide +kernel
theorem dL_law_770 : decode cL_law 770 = .ok (.iload_n 3, 1) := by decide +kernel
theorem dL_law_771 : decode cL_law 771 = .ok (.iconst 2, 1) := by decide +kernel
theorem dL_law_772 : decode cL_law 772 = .ok (.iadd, 1) := by decide +kernel
theorem dL_law_773 : decode cL_law 773 = .ok (.iaload, 1) := by decide +kernel
theorem dL_law_774 : decode cL_law 774 = .ok (.aload_n 0, 1) := by decide +kernel
theorem dL_law_775 : decode cL_law 775 = .ok (.iload_n 3, 1) := by decide +kernel
theorem dL_law_776 : decode cL_law 776 = .ok (.iconst 3, 1) := by decide +kernel
theorem dL_law_777 : decode cL_law 777 = .ok (.iadd, 1) := by decide +kernel
theorem dL_law_778 : decode cL_law 778 = .ok (.iaload, 1) := by decide +kernel
theorem dL_law_779 : decode cL_law 779 = .ok (.invokevirtual 99, 3) := by decide +kernel
theorem dL_law_782 : decode cL_law 782 = .ok (.lcmp, 1) := by decide +kernel
theorem dL_law_783 : decode cL_law 783 = .ok (.ifCond .eq 41, 3) := by decide +kernel
theorem dL_law_786 : decode cL_law 786 = .ok (.iconst 0, 1) := by decide +kernel
theorem dL_law_787 : decode cL_law 787 = .ok (.ireturn, 1) := by decide +kernel
theorem dL_law_788 : decode cL_law 788 = .ok (.aload_n 1, 1) := by decide +kernel
theorem dL_law_789 : decode cL_law 789 = .ok (.invokevirtual 100, 3) := by decide +kernel
theorem dL_law_792 : decode cL_law 792 = .ok (.aload_n 2, 1) := by decide +kernel
theorem dL_law_793 : decode cL_law 793 = .ok (.invokevirtual 103, 3) := by decide +kernel
theorem dL_law_796 : decode cL_law 796 = .ok (.if_icmp .eq 28, 3) := by decide +kernel
theorem dL_law_799 : decode cL_law 799 = .ok (.iconst 0, 1) := by decide +kernel
theorem dL_law_800 : decode cL_law 800 = .ok (.ireturn, 1) := by decide +kernel
theorem dL_law_801 : decode cL_law 801 = .ok (.aload_n 1, 1) := by decide +kernel
theorem dL_law_802 : decode cL_law 802 = .ok (.aload_n 0, 1) := by decide +kernel
theorem dL_law_803 : decode cL_law 803 = .ok (.iload_n 3, 1) := by decide +kernel
theorem dL_law_804 : decode cL_law 804 = .ok (.iconst 1, 1) := by decide +kernel
theorem dL_law_805 : decode cL_law 805 = .ok (.iadd, 1) := by decide +kernel
theorem dL_law_806 : decode cL_law 806 = .ok (.iaload, 1) := by decide +kernel
theorem dL_law_807 : decode cL_law 807 = .ok (.invokevirtual 104, 3) := by decide +kernel
theorem dL_law_810 : decode cL_law 810 = .ok (.aload_n 2, 1) := by decide +kernel
theorem dL_law_811 : decode cL_law 811 = .ok (.aload_n 0, 1) := by decide +kernel
theorem dL_law_812 : decode cL_law 812 = .ok (.iload_n 3, 1) := by decide +kernel
theorem dL_law_813 : decode cL_law 813 = .ok (.iconst 1, 1) := by decide +kernel
theorem dL_law_814 : decode cL_law 814 = .ok (.iadd, 1) := by decide +kernel
theorem dL_law_815 : decode cL_law 815 = .ok (.iaload, 1) := by decide +kernel
theorem dL_law_816 : decode cL_law 816 = .ok (.invokevirtual 107, 3) := by decide +kernel
theorem dL_law_819 : decode cL_law 819 = .ok (.if_icmp .eq 5, 3) := by decide +kernel
theorem dL_law_822 : decode cL_law 822 = .ok (.iconst 0, 1) := by decide +kernel
theorem dL_law_823 : decode cL_law 823 = .ok (.ireturn, 1) := by decide +kernel
theorem dL_law_824 : decode cL_law 824 = .ok (.iinc 3 6, 3) := by decide +kernel
theorem dL_law_827 : decode cL_law 827 = .ok (.goto (-809), 3) := by decide +kernel
theorem dL_law_830 : decode cL_law 830 = .ok (.iconst 1, 1) := by decide +kernel
theorem dL_law_831 : decode cL_law 831 = .ok (.ireturn, 1) := by decide +kernel
theorem dX0_init_0 : decode cX0_init 0 = .ok (.aload_n 0, 1) := by decide +kernel
theorem dX0_init_1 : decode cX0_init 1 = .ok (.invokespecial 3, 3) := by decide +kernel
theorem dX0_init_4 : decode cX0_init 4 = .ok (.aload_n 0, 1) := by decide +kernel
theorem dX0_init_5 : decode cX0_init 5 = .ok (.lconst 0, 1) := by decide +kernel
theorem dX0_init_6 : decode cX0_init 6 = .ok (.putfield 9, 3) := by decide +kernel
theorem dX0_init_9 : decode cX0_init 9 = .ok (.aload_n 0, 1) := by decide +kernel
theorem dX0_init_10 : decode cX0_init 10 = .ok (.lconst 0, 1) := by decide +kernel
theorem dX0_init_11 : decode cX0_init 11 = .ok (.putfield 15, 3) := by decide +kernel
theorem dX0_init_14 : decode cX0_init 14 = .ok (.aload_n 0, 1) := by decide +kernel
theorem dX0_init_15 : decode cX0_init 15 = .ok (.lconst 0, 1) := by decide +kernel
theorem dX0_init_16 : decode cX0_init 16 = .ok (.putfield 18, 3) := by decide +kernel
theorem dX0_init_19 : decode cX0_init 19 = .ok (.aload_n 0, 1) := by decide +kernel
theorem dX0_init_20 : decode cX0_init 20 = .ok (.lconst 0, 1) := by decide +kernel
theorem dX0_init_21 : decode cX0_init 21 = .ok (.putfield 21, 3) := by decide +kernel
theorem dX0_init_24 : decode cX0_init 24 = .ok (.aload_n 0, 1) := by decide +kernel
theorem dX0_init_25 : decode cX0_init 25 = .ok (.iconst 0, 1) := by decide +kernel
theorem dX0_init_26 : decode cX0_init 26 = .ok (.putfield 24, 3) := by decide +kernel
theorem dX0_init_29 : decode cX0_init 29 = .ok (.aload_n 0, 1) := by decide +kernel
theorem dX0_init_30 : decode cX0_init 30 = .ok (.iconst 0, 1) := by decide +kernel
theorem dX0_init_31 : decode cX0_init 31 = .ok (.putfield 28, 3) := by decide +kernel
theorem dX0_init_34 : decode cX0_init 34 = .ok (.return_, 1) := by decide +kernel
theorem dX0_begin_0 : decode cX0_begin 0 = .ok (.aload_n 0, 1) := by decide +kernel
theorem dX0_begin_1 : decode cX0_begin 1 = .ok (.aload_n 1, 1) := by decide +kernel
theorem dX0_begin_2 : decode cX0_begin 2 = .ok (.getfield 32, 3) := by decide +kernel
theorem dX0_begin_5 : decode cX0_begin 5 = .ok (.i2l, 1) := by decide +kernel
theorem dX0_begin_6 : decode cX0_begin 6 = .ok (.putfield 9, 3) := by decide +kernel
theorem dX0_begin_9 : decode cX0_begin 9 = .ok (.aload_n 0, 1) := by decide +kernel
theorem dX0_begin_10 : decode cX0_begin 10 = .ok (.aload_n 1, 1) := by decide +kernel
theorem dX0_begin_11 : decode cX0_begin 11 = .ok (.getfield 36, 3) := by decide +kernel
theorem dX0_begin_14 : decode cX0_begin 14 = .ok (.i2l, 1) := by decide +kernel
theorem dX0_begin_15 : decode cX0_begin 15 = .ok (.putfield 15, 3) := by decide +kernel
theorem dX0_begin_18 : decode cX0_begin 18 = .ok (.aload_n 0, 1) := by decide +kernel
theorem dX0_begin_19 : decode cX0_begin 19 = .ok (.aload_n 1, 1) := by decide +kernel
theorem dX0_begin_20 : decode cX0_begin 20 = .ok (.getfield 38, 3) := by decide +kernel
theorem dX0_begin_23 : decode cX0_begin 23 = .ok (.i2l, 1) := by decide +kernel
theorem dX0_begin_24 : decode cX0_begin 24 = .ok (.putfield 18, 3) := by decide +kernel
theorem dX0_begin_27 : decode cX0_begin 27 = .ok (.aload_n 0, 1) := by decide +kernel
theorem dX0_begin_28 : decode cX0_begin 28 = .ok (.aload_n 1, 1) := by decide +kernel
theorem dX0_begin_29 : decode cX0_begin 29 = .ok (.getfield 40, 3) := by decide +kernel
theorem dX0_begin_32 : decode cX0_begin 32 = .ok (.i2l, 1) := by decide +kernel
theorem dX0_begin_33 : decode cX0_begin 33 = .ok (.putfield 21, 3) := by decide +kernel
theorem dX0_begin_36 : decode cX0_begin 36 = .ok (.aload_n 0, 1) := by decide +kernel
theorem dX0_begin_37 : decode cX0_begin 37 = .ok (.aload_n 1, 1) := by decide +kernel
theorem dX0_begin_38 : decode cX0_begin 38 = .ok (.getfield 42, 3) := by decide +kernel
theorem dX0_begin_41 : decode cX0_begin 41 = .ok (.putfield 24, 3) := by decide +kernel
theorem dX0_begin_44 : decode cX0_begin 44 = .ok (.aload_n 0, 1) := by decide +kernel
theorem dX0_begin_45 : decode cX0_begin 45 = .ok (.aload_n 0, 1) := by decide +kernel
theorem dX0_begin_46 : decode cX0_begin 46 = .ok (.invokevirtual 43, 3) := by decide +kernel
theorem dX0_begin_49 : decode cX0_begin 49 = .ok (.putfield 28, 3) := by decide +kernel
theorem dX0_begin_52 : decode cX0_begin 52 = .ok (.return_, 1) := by decide +kernel
theorem dX0_go_0 : decode cX0_go 0 = .ok (.aload_n 0, 1) := by decide +kernel
theorem dX0_go_1 : decode cX0_go 1 = .ok (.getfield 24, 3) := by decide +kernel
theorem dX0_go_4 : decode cX0_go 4 = .ok (.istore_n 3, 1) := by decide +kernel
theorem dX0_go_5 : decode cX0_go 5 = .ok (.iload_n 3, 1) := by decide +kernel
theorem dX0_go_6 : decode cX0_go 6 = .ok (.iload_n 2, 1) := by decide +kernel
theorem dX0_go_7 : decode cX0_go 7 = .ok (.if_icmp .ge 73, 3) := by decide +kernel
theorem dX0_go_10 : decode cX0_go 10 = .ok (.aload_n 0, 1) := by decide +kernel
theorem dX0_go_11 : decode cX0_go 11 = .ok (.getfield 28, 3) := by decide +kernel
theorem dX0_go_14 : decode cX0_go 14 = .ok (.ifCond .ne 66, 3) := by decide +kernel
theorem dX0_go_17 : decode cX0_go 17 = .ok (.aload_n 0, 1) := by decide +kernel
theorem dX0_go_18 : decode cX0_go 18 = .ok (.dup, 1) := by decide +kernel
theorem dX0_go_19 : decode cX0_go 19 = .ok (.getfield 9, 3) := by decide +kernel
theorem dX0_go_22 : decode cX0_go 22 = .ok (.aload_n 0, 1) := by decide +kernel
theorem dX0_go_23 : decode cX0_go 23 = .ok (.getfield 18, 3) := by decide +kernel
theorem dX0_go_26 : decode cX0_go 26 = .ok (.ladd, 1) := by decide +kernel
theorem dX0_go_27 : decode cX0_go 27 = .ok (.putfield 9, 3) := by decide +kernel
theorem dX0_go_30 : decode cX0_go 30 = .ok (.aload_n 0, 1) := by decide +kernel
theorem dX0_go_31 : decode cX0_go 31 = .ok (.dup, 1) := by decide +kernel
theorem dX0_go_32 : decode cX0_go 32 = .ok (.getfield 15, 3) := by decide +kernel
theorem dX0_go_35 : decode cX0_go 35 = .ok (.aload_n 0, 1) := by decide +kernel
theorem dX0_go_36 : decode cX0_go 36 = .ok (.getfield 21, 3) := by decide +kernel
theorem dX0_go_39 : decode cX0_go 39 = .ok (.ladd, 1) := by decide +kernel
theorem dX0_go_40 : decode cX0_go 40 = .ok (.putfield 15, 3) := by decide +kernel
theorem dX0_go_43 : decode cX0_go 43 = .ok (.aload_n 0, 1) := by decide +kernel
theorem dX0_go_44 : decode cX0_go 44 = .ok (.dup, 1) := by decide +kernel
theorem dX0_go_45 : decode cX0_go 45 = .ok (.getfield 24, 3) := by decide +kernel
theorem dX0_go_48 : decode cX0_go 48 = .ok (.iconst 1, 1) := by decide +kernel
theorem dX0_go_49 : decode cX0_go 49 = .ok (.iadd, 1) := by decide +kernel
theorem dX0_go_50 : decode cX0_go 50 = .ok (.putfield 24, 3) := by decide +kernel
theorem dX0_go_53 : decode cX0_go 53 = .ok (.aload_n 0, 1) := by decide +kernel
theorem dX0_go_54 : decode cX0_go 54 = .ok (.aload_n 0, 1) := by decide +kernel
theorem dX0_go_55 : decode cX0_go 55 = .ok (.invokevirtual 43, 3) := by decide +kernel
theorem dX0_go_58 : decode cX0_go 58 = .ok (.putfield 28, 3) := by decide +kernel
theorem dX0_go_61 : decode cX0_go 61 = .ok (.aload_n 0, 1) := by decide +kernel
theorem dX0_go_62 : decode cX0_go 62 = .ok (.getfield 28, 3) := by decide +kernel
theorem dX0_go_65 : decode cX0_go 65 = .ok (.ifCond .ne 9, 3) := by decide +kernel
theorem dX0_go_68 : decode cX0_go 68 = .ok (.aload_n 0, 1) := by decide +kernel
theorem dX0_go_69 : decode cX0_go 69 = .ok (.aload_n 1, 1) := by decide +kernel
theorem dX0_go_70 : decode cX0_go 70 = .ok (.iconst 1, 1) := by decide +kernel
theorem dX0_go_71 : decode cX0_go 71 = .ok (.invokevirtual 47, 3) := by decide +kernel
theorem dX0_go_74 : decode cX0_go 74 = .ok (.iinc 3 1, 3) := by decide +kernel
theorem dX0_go_77 : decode cX0_go 77 = .ok (.goto (-72), 3) := by decide +kernel
theorem dX0_go_80 : decode cX0_go 80 = .ok (.aload_n 0, 1) := by decide +kernel
theorem dX0_go_81 : decode cX0_go 81 = .ok (.getfield 24, 3) := by decide +kernel
theorem dX0_go_84 : decode cX0_go 84 = .ok (.istore_n 3, 1) := by decide +kernel
theorem dX0_go_85 : decode cX0_go 85 = .ok (.iload_n 3, 1) := by decide +kernel
theorem dX0_go_86 : decode cX0_go 86 = .ok (.iload_n 2, 1) := by decide +kernel
theorem dX0_go_87 : decode cX0_go 87 = .ok (.if_icmp .le 66, 3) := by decide +kernel
theorem dX0_go_90 : decode cX0_go 90 = .ok (.aload_n 0, 1) := by decide +kernel
theorem dX0_go_91 : decode cX0_go 91 = .ok (.getfield 28, 3) := by decide +kernel
theorem dX0_go_94 : decode cX0_go 94 = .ok (.ifCond .ne 59, 3) := by decide +kernel
theorem dX0_go_97 : decode cX0_go 97 = .ok (.aload_n 0, 1) := by decide +kernel
theorem dX0_go_98 : decode cX0_go 98 = .ok (.aload_n 1, 1) := by decide +kernel
theorem dX0_go_99 : decode cX0_go 99 = .ok (.iconst (-1), 1) := by decide +kernel
theorem dX0_go_100 : decode cX0_go 100 = .ok (.invokevirtual 47, 3) := by decide +kernel
theorem dX0_go_103 : decode cX0_go 103 = .ok (.aload_n 0, 1) := by decide +kernel
theorem dX0_go_104 : decode cX0_go 104 = .ok (.dup, 1) := by decide +kernel
theorem dX0_go_105 : decode cX0_go 105 = .ok (.getfield 9, 3) := by decide +kernel
theorem dX0_go_108 : decode cX0_go 108 = .ok (.aload_n 0, 1) := by decide +kernel
theorem dX0_go_109 : decode cX0_go 109 = .ok (.getfield 18, 3) := by decide +kernel
theorem dX0_go_112 : decode cX0_go 112 = .ok (.lsub, 1) := by decide +kernel
theorem dX0_go_113 : decode cX0_go 113 = .ok (.putfield 9, 3) := by decide +kernel
theorem dX0_go_116 : decode cX0_go 116 = .ok (.aload_n 0, 1) := by decide +kernel
theorem dX0_go_117 : decode cX0_go 117 = .ok (.dup, 1) := by decide +kernel
theorem dX0_go_118 : decode cX0_go 118 = .ok (.getfield 15, 3) := by decide +kernel
theorem dX0_go_121 : decode cX0_go 121 = .ok (.aload_n 0, 1) := by decide +kernel
theorem dX0_go_122 : decode cX0_go 122 = .ok (.getfield 21, 3) := by decide +kernel
theorem dX0_go_125 : decode cX0_go 125 = .ok (.lsub, 1) := by decide +kernel
theorem dX0_go_126 : decode cX0_go 126 = .ok (.putfield 15, 3) := by decide +kernel
theorem dX0_go_129 : decode cX0_go 129 = .ok (.aload_n 0, 1) := by decide +kernel
theorem dX0_go_130 : decode cX0_go 130 = .ok (.dup, 1) := by decide +kernel
theorem dX0_go_131 : decode cX0_go 131 = .ok (.getfield 24, 3) := by decide +kernel
theorem dX0_go_134 : decode cX0_go 134 = .ok (.iconst 1, 1) := by decide +kernel
theorem dX0_go_135 : decode cX0_go 135 = .ok (.isub, 1) := by decide +kernel
theorem dX0_go_136 : decode cX0_go 136 = .ok (.putfield 24, 3) := by decide +kernel
theorem dX0_go_139 : decode cX0_go 139 = .ok (.aload_n 0, 1) := by decide +kernel
theorem dX0_go_140 : decode cX0_go 140 = .ok (.aload_n 0, 1) := by decide +kernel
theorem dX0_go_141 : decode cX0_go 141 = .ok (.invokevirtual 43, 3) := by decide +kernel
theorem dX0_go_144 : decode cX0_go 144 = .ok (.putfield 28, 3) := by decide +kernel
theorem dX0_go_147 : decode cX0_go 147 = .ok (.iinc 3 (-1), 3) := by decide +kernel
theorem dX0_go_150 : decode cX0_go 150 = .ok (.goto (-65), 3) := by decide +kernel
theorem dX0_go_153 : decode cX0_go 153 = .ok (.return_, 1) := by decide +kernel
theorem dX0_isOutside_0 : decode cX0_isOutside 0 = .ok (.aload_n 0, 1) := by decide +kernel
theorem dX0_isOutside_1 : decode cX0_isOutside 1 = .ok (.getfield 9, 3) := by decide +kernel
theorem dX0_isOutside_4 : decode cX0_isOutside 4 = .ok (.ldc2_w 51, 3) := by decide +kernel
theorem dX0_isOutside_7 : decode cX0_isOutside 7 = .ok (.lcmp, 1) := by decide +kernel
theorem dX0_isOutside_8 : decode cX0_isOutside 8 = .ok (.ifCond .lt 62, 3) := by decide +kernel
theorem dX0_isOutside_11 : decode cX0_isOutside 11 = .ok (.aload_n 0, 1) := by decide +kernel
theorem dX0_isOutside_12 : decode cX0_isOutside 12 = .ok (.getfield 9, 3) := by decide +kernel
theorem dX0_isOutside_15 : decode cX0_isOutside 15 = .ok (.ldc2_w 53, 3) := by decide +kernel
theorem dX0_isOutside_18 : decode cX0_isOutside 18 = .ok (.lcmp, 1) := by decide +kernel
theorem dX0_isOutside_19 : decode cX0_isOutside 19 = .ok (.ifCond .gt 51, 3) := by decide +kernel
theorem dX0_isOutside_22 : decode cX0_isOutside 22 = .ok (.aload_n 0, 1) := by decide +kernel
theorem dX0_isOutside_23 : decode cX0_isOutside 23 = .ok (.getfield 15, 3) := by decide +kernel
theorem dX0_isOutside_26 : decode cX0_isOutside 26 = .ok (.ldc2_w 51, 3) := by decide +kernel
theorem dX0_isOutside_29 : decode cX0_isOutside 29 = .ok (.lcmp, 1) := by decide +kernel
theorem dX0_isOutside_30 : decode cX0_isOutside 30 = .ok (.ifCond .lt 40, 3) := by decide +kernel
theorem dX0_isOutside_33 : decode cX0_isOutside 33 = .ok (.aload_n 0, 1) := by decide +kernel
theorem dX0_isOutside_34 : decode cX0_isOutside 34 = .ok (.getfield 15, 3) := by decide +kernel
theorem dX0_isOutside_37 : decode cX0_isOutside 37 = .ok (.ldc2_w 53, 3) := by decide +kernel
theorem dX0_isOutside_40 : decode cX0_isOutside 40 = .ok (.lcmp, 1) := by decide +kernel
theorem dX0_isOutside_41 : decode cX0_isOutside 41 = .ok (.ifCond .gt 29, 3) := by decide +kernel
theorem dX0_isOutside_44 : decode cX0_isOutside 44 = .ok (.aload_n 0, 1) := by decide +kernel
theorem dX0_isOutside_45 : decode cX0_isOutside 45 = .ok (.getfield 9, 3) := by decide +kernel
theorem dX0_isOutside_48 : decode cX0_isOutside 48 = .ok (.aload_n 0, 1) := by decide +kernel
theorem dX0_isOutside_49 : decode cX0_isOutside 49 = .ok (.getfield 9, 3) := by decide +kernel
theorem dX0_isOutside_52 : decode cX0_isOutside 52 = .ok (.lmul, 1) := by decide +kernel
theorem dX0_isOutside_53 : decode cX0_isOutside 53 = .ok (.aload_n 0, 1) := by decide +kernel
theorem dX0_isOutside_54 : decode cX0_isOutside 54 = .ok (.getfield 15, 3) := by decide +kernel
theorem dX0_isOutside_57 : decode cX0_isOutside 57 = .ok (.aload_n 0, 1) := by decide +kernel
theorem dX0_isOutside_58 : decode cX0_isOutside 58 = .ok (.getfield 15, 3) := by decide +kernel
theorem dX0_isOutside_61 : decode cX0_isOutside 61 = .ok (.lmul, 1) := by decide +kernel
theorem dX0_isOutside_62 : decode cX0_isOutside 62 = .ok (.ladd, 1) := by decide +kernel
theorem dX0_isOutside_63 : decode cX0_isOutside 63 = .ok (.ldc2_w 55, 3) := by decide +kernel
theorem dX0_isOutside_66 : decode cX0_isOutside 66 = .ok (.lcmp, 1) := by decide +kernel
theorem dX0_isOutside_67 : decode cX0_isOutside 67 = .ok (.ifCond .ge 7, 3) := by decide +kernel
theorem dX0_isOutside_70 : decode cX0_isOutside 70 = .ok (.iconst 1, 1) := by decide +kernel
theorem dX0_isOutside_71 : decode cX0_isOutside 71 = .ok (.goto 4, 3) := by decide +kernel
theorem dX0_isOutside_74 : decode cX0_isOutside 74 = .ok (.iconst 0, 1) := by decide +kernel
theorem dX0_isOutside_75 : decode cX0_isOutside 75 = .ok (.ireturn, 1) := by decide +kernel
theorem dX0_pullAll_0 : decode cX0_pullAll 0 = .ok (.aload_n 0, 1) := by decide +kernel
theorem dX0_pullAll_1 : decode cX0_pullAll 1 = .ok (.aload_n 1, 1) := by decide +kernel
theorem dX0_pullAll_2 : decode cX0_pullAll 2 = .ok (.getfield 57, 3) := by decide +kernel
theorem dX0_pullAll_5 : decode cX0_pullAll 5 = .ok (.aload_n 0, 1) := by decide +kernel
theorem dX0_pullAll_6 : decode cX0_pullAll 6 = .ok (.getfield 9, 3) := by decide +kernel
theorem dX0_pullAll_9 : decode cX0_pullAll 9 = .ok (.lneg, 1) := by decide +kernel
theorem dX0_pullAll_10 : decode cX0_pullAll 10 = .ok (.aload_n 0, 1) := by decide +kernel
theorem dX0_pullAll_11 : decode cX0_pullAll 11 = .ok (.getfield 15, 3) := by decide +kernel
theorem dX0_pullAll_14 : decode cX0_pullAll 14 = .ok (.lneg, 1) := by decide +kernel
theorem dX0_pullAll_15 : decode cX0_pullAll 15 = .ok (.iload_n 2, 1) := by decide +kernel
theorem dX0_pullAll_16 : decode cX0_pullAll 16 = .ok (.invokevirtual 62, 3) := by decide +kernel
theorem dX0_pullAll_19 : decode cX0_pullAll 19 = .ok (.aload_n 1, 1) := by decide +kernel
theorem dX0_pullAll_20 : decode cX0_pullAll 20 = .ok (.getfield 66, 3) := by decide +kernel
theorem dX0_pullAll_23 : decode cX0_pullAll 23 = .ok (.lconst 0, 1) := by decide +kernel
theorem dX0_pullAll_24 : decode cX0_pullAll 24 = .ok (.lcmp, 1) := by decide +kernel
theorem dX0_pullAll_25 : decode cX0_pullAll 25 = .ok (.ifCond .eq 46, 3) := by decide +kernel
theorem dX0_pullAll_28 : decode cX0_pullAll 28 = .ok (.aload_n 0, 1) := by decide +kernel
theorem dX0_pullAll_29 : decode cX0_pullAll 29 = .ok (.aload_n 1, 1) := by decide +kernel
theorem dX0_pullAll_30 : decode cX0_pullAll 30 = .ok (.getfield 66, 3) := by decide +kernel
theorem dX0_pullAll_33 : decode cX0_pullAll 33 = .ok (.aload_n 1, 1) := by decide +kernel
theorem dX0_pullAll_34 : decode cX0_pullAll 34 = .ok (.getfield 69, 3) := by decide +kernel
theorem dX0_pullAll_37 : decode cX0_pullAll 37 = .ok (.aload_n 0, 1) := by decide +kernel
theorem dX0_pullAll_38 : decode cX0_pullAll 38 = .ok (.getfield 24, 3) := by decide +kernel
theorem dX0_pullAll_41 : decode cX0_pullAll 41 = .ok (.invokevirtual 73, 3) := by decide +kernel
theorem dX0_pullAll_44 : decode cX0_pullAll 44 = .ok (.i2l, 1) := by decide +kernel
theorem dX0_pullAll_45 : decode cX0_pullAll 45 = .ok (.aload_n 0, 1) := by decide +kernel
theorem dX0_pullAll_46 : decode cX0_pullAll 46 = .ok (.getfield 9, 3) := by decide +kernel
theorem dX0_pullAll_49 : decode cX0_pullAll 49 = .ok (.lsub, 1) := by decide +kernel
theorem dX0_pullAll_50 : decode cX0_pullAll 50 = .ok (.aload_n 1, 1) := by decide +kernel
theorem dX0_pullAll_51 : decode cX0_pullAll 51 = .ok (.getfield 69, 3) := by decide +kernel
theorem dX0_pullAll_54 : decode cX0_pullAll 54 = .ok (.aload_n 0, 1) := by decide +kernel
theorem dX0_pullAll_55 : decode cX0_pullAll 55 = .ok (.getfield 24, 3) := by decide +kernel
theorem dX0_pullAll_58 : decode cX0_pullAll 58 = .ok (.invokevirtual 79, 3) := by decide +kernel
theorem dX0_pullAll_61 : decode cX0_pullAll 61 = .ok (.i2l, 1) := by decide +kernel
theorem dX0_pullAll_62 : decode cX0_pullAll 62 = .ok (.aload_n 0, 1) := by decide +kernel
theorem dX0_pullAll_63 : decode cX0_pullAll 63 = .ok (.getfield 15, 3) := by decide +kernel
theorem dX0_pullAll_66 : decode cX0_pullAll 66 = .ok (.lsub, 1) := by decide +kernel
theorem dX0_pullAll_67 : decode cX0_pullAll 67 = .ok (.iload_n 2, 1) := by decide +kernel
theorem dX0_pullAll_68 : decode cX0_pullAll 68 = .ok (.invokevirtual 62, 3) := by decide +kernel
theorem dX0_pullAll_71 : decode cX0_pullAll 71 = .ok (.return_, 1) := by decide +kernel
theorem dX0_pull_0 : decode cX0_pull 0 = .ok (.lload_n 3, 1) := by decide +kernel
theorem dX0_pull_1 : decode cX0_pull 1 = .ok (.lload_n 3, 1) := by decide +kernel
theorem dX0_pull_2 : decode cX0_pull 2 = .ok (.lmul, 1) := by decide +kernel
theorem dX0_pull_3 : decode cX0_pull 3 = .ok (.lload 5, 2) := by decide +kernel
theorem dX0_pull_5 : decode cX0_pull 5 = .ok (.lload 5, 2) := by decide +kernel
theorem dX0_pull_7 : decode cX0_pull 7 = .ok (.lmul, 1) := by decide +kernel
theorem dX0_pull_8 : decode cX0_pull 8 = .ok (.ladd, 1) := by decide +kernel
theorem dX0_pull_9 : decode cX0_pull 9 = .ok (.lload_n 3, 1) := by decide +kernel
theorem dX0_pull_10 : decode cX0_pull 10 = .ok (.lload 5, 2) := by decide +kernel
theorem dX0_pull_12 : decode cX0_pull 12 = .ok (.invokestatic 82, 3) := by decide +kernel
theorem dX0_pull_15 : decode cX0_pull 15 = .ok (.lmul, 1) := by decide +kernel
theorem dX0_pull_16 : decode cX0_pull 16 = .ok (.lstore 8, 2) := by decide +kernel
theorem dX0_pull_18 : decode cX0_pull 18 = .ok (.lload 8, 2) := by decide +kernel
theorem dX0_pull_20 : decode cX0_pull 20 = .ok (.lconst 0, 1) := by decide +kernel
theorem dX0_pull_21 : decode cX0_pull 21 = .ok (.lcmp, 1) := by decide +kernel
theorem dX0_pull_22 : decode cX0_pull 22 = .ok (.ifCond .eq 42, 3) := by decide +kernel
theorem dX0_pull_25 : decode cX0_pull 25 = .ok (.aload_n 0, 1) := by decide +kernel
theorem dX0_pull_26 : decode cX0_pull 26 = .ok (.dup, 1) := by decide +kernel
theorem dX0_pull_27 : decode cX0_pull 27 = .ok (.getfield 18, 3) := by decide +kernel
theorem dX0_pull_30 : decode cX0_pull 30 = .ok (.iload 7, 2) := by decide +kernel
theorem dX0_pull_32 : decode cX0_pull 32 = .ok (.i2l, 1) := by decide +kernel
theorem dX0_pull_33 : decode cX0_pull 33 = .ok (.lload_n 1, 1) := by decide +kernel
theorem dX0_pull_34 : decode cX0_pull 34 = .ok (.lload_n 3, 1) := by decide +kernel
theorem dX0_pull_35 : decode cX0_pull 35 = .ok (.lmul, 1) := by decide +kernel
theorem dX0_pull_36 : decode cX0_pull 36 = .ok (.lload 8, 2) := by decide +kernel
theorem dX0_pull_38 : decode cX0_pull 38 = .ok (.ldiv, 1) := by decide +kernel
theorem dX0_pull_39 : decode cX0_pull 39 = .ok (.lmul, 1) := by decide +kernel
theorem dX0_pull_40 : decode cX0_pull 40 = .ok (.ladd, 1) := by decide +kernel
theorem dX0_pull_41 : decode cX0_pull 41 = .ok (.putfield 18, 3) := by decide +kernel
theorem dX0_pull_44 : decode cX0_pull 44 = .ok (.aload_n 0, 1) := by decide +kernel
theorem dX0_pull_45 : decode cX0_pull 45 = .ok (.dup, 1) := by decide +kernel
theorem dX0_pull_46 : decode cX0_pull 46 = .ok (.getfield 21, 3) := by decide +kernel
theorem dX0_pull_49 : decode cX0_pull 49 = .ok (.iload 7, 2) := by decide +kernel
theorem dX0_pull_51 : decode cX0_pull 51 = .ok (.i2l, 1) := by decide +kernel
theorem dX0_pull_52 : decode cX0_pull 52 = .ok (.lload_n 1, 1) := by decide +kernel
theorem dX0_pull_53 : decode cX0_pull 53 = .ok (.lload 5, 2) := by decide +kernel
theorem dX0_pull_55 : decode cX0_pull 55 = .ok (.lmul, 1) := by decide +kernel
theorem dX0_pull_56 : decode cX0_pull 56 = .ok (.lload 8, 2) := by decide +kernel
theorem dX0_pull_58 : decode cX0_pull 58 = .ok (.ldiv, 1) := by decide +kernel
theorem dX0_pull_59 : decode cX0_pull 59 = .ok (.lmul, 1) := by decide +kernel
theorem dX0_pull_60 : decode cX0_pull 60 = .ok (.ladd, 1) := by decide +kernel
theorem dX0_pull_61 : decode cX0_pull 61 = .ok (.putfield 21, 3) := by decide +kernel
theorem dX0_pull_64 : decode cX0_pull 64 = .ok (.return_, 1) := by decide +kernel
theorem dX1_init_0 : decode cX1_init 0 = .ok (.aload_n 0, 1) := by decide +kernel
theorem dX1_init_1 : decode cX1_init 1 = .ok (.invokespecial 3, 3) := by decide +kernel
theorem dX1_init_4 : decode cX1_init 4 = .ok (.aload_n 0, 1) := by decide +kernel
theorem dX1_init_5 : decode cX1_init 5 = .ok (.bipush 100, 2) := by decide +kernel
theorem dX1_init_7 : decode cX1_init 7 = .ok (.newarray .int, 2) := by decide +kernel
theorem dX1_init_9 : decode cX1_init 9 = .ok (.putfield 9, 3) := by decide +kernel
theorem dX1_init_12 : decode cX1_init 12 = .ok (.aload_n 0, 1) := by decide +kernel
theorem dX1_init_13 : decode cX1_init 13 = .ok (.bipush 100, 2) := by decide +kernel
theorem dX1_init_15 : decode cX1_init 15 = .ok (.newarray .long, 2) := by decide +kernel
theorem dX1_init_17 : decode cX1_init 17 = .ok (.putfield 15, 3) := by decide +kernel
theorem dX1_init_20 : decode cX1_init 20 = .ok (.aload_n 0, 1) := by decide +kernel
theorem dX1_init_21 : decode cX1_init 21 = .ok (.bipush 100, 2) := by decide +kernel
theorem dX1_init_23 : decode cX1_init 23 = .ok (.newarray .long, 2) := by decide +kernel
theorem dX1_init_25 : decode cX1_init 25 = .ok (.putfield 19, 3) := by decide +kernel
theorem dX1_init_28 : decode cX1_init 28 = .ok (.aload_n 0, 1) := by decide +kernel
theorem dX1_init_29 : decode cX1_init 29 = .ok (.iconst 0, 1) := by decide +kernel
theorem dX1_init_30 : decode cX1_init 30 = .ok (.putfield 22, 3) := by decide +kernel
theorem dX1_init_33 : decode cX1_init 33 = .ok (.return_, 1) := by decide +kernel
theorem dX1_take_0 : decode cX1_take 0 = .ok (.aload_n 0, 1) := by decide +kernel
theorem dX1_take_1 : decode cX1_take 1 = .ok (.getfield 22, 3) := by decide +kernel
theorem dX1_take_4 : decode cX1_take 4 = .ok (.ifCond .lt 53, 3) := by decide +kernel
theorem dX1_take_7 : decode cX1_take 7 = .ok (.aload_n 0, 1) := by decide +kernel
theorem dX1_take_8 : decode cX1_take 8 = .ok (.getfield 22, 3) := by decide +kernel
theorem dX1_take_11 : decode cX1_take 11 = .ok (.bipush 100, 2) := by decide +kernel
theorem dX1_take_13 : decode cX1_take 13 = .ok (.if_icmp .ge 44, 3) := by decide +kernel
theorem dX1_take_16 : decode cX1_take 16 = .ok (.aload_n 0, 1) := by decide +kernel
theorem dX1_take_17 : decode cX1_take 17 = .ok (.getfield 9, 3) := by decide +kernel
theorem dX1_take_20 : decode cX1_take 20 = .ok (.aload_n 0, 1) := by decide +kernel
theorem dX1_take_21 : decode cX1_take 21 = .ok (.getfield 22, 3) := by decide +kernel
theorem dX1_take_24 : decode cX1_take 24 = .ok (.iload_n 1, 1) := by decide +kernel
theorem dX1_take_25 : decode cX1_take 25 = .ok (.iastore, 1) := by decide +kernel
theorem dX1_take_26 : decode cX1_take 26 = .ok (.aload_n 0, 1) := by decide +kernel
theorem dX1_take_27 : decode cX1_take 27 = .ok (.getfield 15, 3) := by decide +kernel
theorem dX1_take_30 : decode cX1_take 30 = .ok (.aload_n 0, 1) := by decide +kernel
theorem dX1_take_31 : decode cX1_take 31 = .ok (.getfield 22, 3) := by decide +kernel
theorem dX1_take_34 : decode cX1_take 34 = .ok (.lload_n 2, 1) := by decide +kernel
theorem dX1_take_35 : decode cX1_take 35 = .ok (.lastore, 1) := by decide +kernel
theorem dX1_take_36 : decode cX1_take 36 = .ok (.aload_n 0, 1) := by decide +kernel
theorem dX1_take_37 : decode cX1_take 37 = .ok (.getfield 19, 3) := by decide +kernel
theorem dX1_take_40 : decode cX1_take 40 = .ok (.aload_n 0, 1) := by decide +kernel
theorem dX1_take_41 : decode cX1_take 41 = .ok (.getfield 22, 3) := by decide +kernel
theorem dX1_take_44 : decode cX1_take 44 = .ok (.lload 4, 2) := by decide +kernel
theorem dX1_take_46 : decode cX1_take 46 = .ok (.lastore, 1) := by decide +kernel
theorem dX1_take_47 : decode cX1_take 47 = .ok (.aload_n 0, 1) := by decide +kernel
theorem dX1_take_48 : decode cX1_take 48 = .ok (.dup, 1) := by decide +kernel
theorem dX1_take_49 : decode cX1_take 49 = .ok (.getfield 22, 3) := by decide +kernel
theorem dX1_take_52 : decode cX1_take 52 = .ok (.iconst 1, 1) := by decide +kernel
theorem dX1_take_53 : decode cX1_take 53 = .ok (.iadd, 1) := by decide +kernel
theorem dX1_take_54 : decode cX1_take 54 = .ok (.putfield 22, 3) := by decide +kernel
theorem dX1_take_57 : decode cX1_take 57 = .ok (.return_, 1) := by decide +kernel
theorem dX1_isHeld_0 : decode cX1_isHeld 0 = .ok (.iload_n 1, 1) := by decide +kernel
theorem dX1_isHeld_1 : decode cX1_isHeld 1 = .ok (.ifCond .lt 21, 3) := by decide +kernel
theorem dX1_isHeld_4 : decode cX1_isHeld 4 = .ok (.iload_n 1, 1) := by decide +kernel
theorem dX1_isHeld_5 : decode cX1_isHeld 5 = .ok (.aload_n 0, 1) := by decide +kernel
theorem dX1_isHeld_6 : decode cX1_isHeld 6 = .ok (.getfield 22, 3) := by decide +kernel
theorem dX1_isHeld_9 : decode cX1_isHeld 9 = .ok (.if_icmp .ge 13, 3) := by decide +kernel
theorem dX1_isHeld_12 : decode cX1_isHeld 12 = .ok (.iload_n 1, 1) := by decide +kernel
theorem dX1_isHeld_13 : decode cX1_isHeld 13 = .ok (.bipush 100, 2) := by decide +kernel
theorem dX1_isHeld_15 : decode cX1_isHeld 15 = .ok (.if_icmp .ge 7, 3) := by decide +kernel
theorem dX1_isHeld_18 : decode cX1_isHeld 18 = .ok (.iconst 1, 1) := by decide +kernel
theorem dX1_isHeld_19 : decode cX1_isHeld 19 = .ok (.goto 4, 3) := by decide +kernel
theorem dX1_isHeld_22 : decode cX1_isHeld 22 = .ok (.iconst 0, 1) := by decide +kernel
theorem dX1_isHeld_23 : decode cX1_isHeld 23 = .ok (.ireturn, 1) := by decide +kernel
theorem dX1_wayOf_0 : decode cX1_wayOf 0 = .ok (.aload_n 0, 1) := by decide +kernel
theorem dX1_wayOf_1 : decode cX1_wayOf 1 = .ok (.iload_n 1, 1) := by decide +kernel
theorem dX1_wayOf_2 : decode cX1_wayOf 2 = .ok (.invokevirtual 26, 3) := by decide +kernel
theorem dX1_wayOf_5 : decode cX1_wayOf 5 = .ok (.ifCond .eq 12, 3) := by decide +kernel
theorem dX1_wayOf_8 : decode cX1_wayOf 8 = .ok (.aload_n 0, 1) := by decide +kernel
theorem dX1_wayOf_9 : decode cX1_wayOf 9 = .ok (.getfield 9, 3) := by decide +kernel
theorem dX1_wayOf_12 : decode cX1_wayOf 12 = .ok (.iload_n 1, 1) := by decide +kernel
theorem dX1_wayOf_13 : decode cX1_wayOf 13 = .ok (.iaload, 1) := by decide +kernel
theorem dX1_wayOf_14 : decode cX1_wayOf 14 = .ok (.goto 4, 3) := by decide +kernel
theorem dX1_wayOf_17 : decode cX1_wayOf 17 = .ok (.iconst (-1), 1) := by decide +kernel
theorem dX1_wayOf_18 : decode cX1_wayOf 18 = .ok (.ireturn, 1) := by decide +kernel
theorem dX1_cross_0 : decode cX1_cross 0 = .ok (.aload_n 0, 1) := by decide +kernel
theorem dX1_cross_1 : decode cX1_cross 1 = .ok (.iload_n 1, 1) := by decide +kernel
theorem dX1_cross_2 : decode cX1_cross 2 = .ok (.invokevirtual 26, 3) := by decide +kernel
theorem dX1_cross_5 : decode cX1_cross 5 = .ok (.ifCond .eq 41, 3) := by decide +kernel
theorem dX1_cross_8 : decode cX1_cross 8 = .ok (.aload_n 0, 1) := by decide +kernel
theorem dX1_cross_9 : decode cX1_cross 9 = .ok (.iload_n 2, 1) := by decide +kernel
theorem dX1_cross_10 : decode cX1_cross 10 = .ok (.invokevirtual 26, 3) := by decide +kernel
theorem dX1_cross_13 : decode cX1_cross 13 = .ok (.ifCond .eq 33, 3) := by decide +kernel
theorem dX1_cross_16 : decode cX1_cross 16 = .ok (.aload_n 0, 1) := by decide +kernel
theorem dX1_cross_17 : decode cX1_cross 17 = .ok (.getfield 15, 3) := by decide +kernel
theorem dX1_cross_20 : decode cX1_cross 20 = .ok (.iload_n 1, 1) := by decide +kernel
theorem dX1_cross_21 : decode cX1_cross 21 = .ok (.laload, 1) := by decide +kernel
theorem dX1_cross_22 : decode cX1_cross 22 = .ok (.aload_n 0, 1) := by decide +kernel
theorem dX1_cross_23 : decode cX1_cross 23 = .ok (.getfield 19, 3) := by decide +kernel
theorem dX1_cross_26 : decode cX1_cross 26 = .ok (.iload_n 2, 1) := by decide +kernel
theorem dX1_cross_27 : decode cX1_cross 27 = .ok (.laload, 1) := by decide +kernel
theorem dX1_cross_28 : decode cX1_cross 28 = .ok (.lmul, 1) := by decide +kernel
theorem dX1_cross_29 : decode cX1_cross 29 = .ok (.aload_n 0, 1) := by decide +kernel
theorem dX1_cross_30 : decode cX1_cross 30 = .ok (.getfield 19, 3) := by decide +kernel
theorem dX1_cross_33 : decode cX1_cross 33 = .ok (.iload_n 1, 1) := by decide +kernel
theorem dX1_cross_34 : decode cX1_cross 34 = .ok (.laload, 1) := by decide +kernel
theorem dX1_cross_35 : decode cX1_cross 35 = .ok (.aload_n 0, 1) := by decide +kernel
theorem dX1_cross_36 : decode cX1_cross 36 = .ok (.getfield 15, 3) := by decide +kernel
theorem dX1_cross_39 : decode cX1_cross 39 = .ok (.iload_n 2, 1) := by decide +kernel
theorem dX1_cross_40 : decode cX1_cross 40 = .ok (.laload, 1) := by decide +kernel
theorem dX1_cross_41 : decode cX1_cross 41 = .ok (.lmul, 1) := by decide +kernel
theorem dX1_cross_42 : decode cX1_cross 42 = .ok (.lsub, 1) := by decide +kernel
theorem dX1_cross_43 : decode cX1_cross 43 = .ok (.goto 4, 3) := by decide +kernel
theorem dX1_cross_46 : decode cX1_cross 46 = .ok (.lconst 0, 1) := by decide +kernel
theorem dX1_cross_47 : decode cX1_cross 47 = .ok (.lreturn, 1) := by decide +kernel
theorem dX1_findFarther_0 : decode cX1_findFarther 0 = .ok (.iconst 0, 1) := by decide +kernel
theorem dX1_findFarther_1 : decode cX1_findFarther 1 = .ok (.istore_n 3, 1) := by decide +kernel
theorem dX1_findFarther_2 : decode cX1_findFarther 2 = .ok (.iload_n 3, 1) := by decide +kernel
theorem dX1_findFarther_3 : decode cX1_findFarther 3 = .ok (.aload_n 0, 1) := by decide +kernel
theorem dX1_findFarther_4 : decode cX1_findFarther 4 = .ok (.getfield 22, 3) := by decide +kernel
theorem dX1_findFarther_7 : decode cX1_findFarther 7 = .ok (.if_icmp .ge 25, 3) := by decide +kernel
theorem dX1_findFarther_10 : decode cX1_findFarther 10 = .ok (.iload_n 2, 1) := by decide +kernel
theorem dX1_findFarther_11 : decode cX1_findFarther 11 = .ok (.i2l, 1) := by decide +kernel
theorem dX1_findFarther_12 : decode cX1_findFarther 12 = .ok (.aload_n 0, 1) := by decide +kernel
theorem dX1_findFarther_13 : decode cX1_findFarther 13 = .ok (.iload_n 3, 1) := by decide +kernel
theorem dX1_findFarther_14 : decode cX1_findFarther 14 = .ok (.iload_n 1, 1) := by decide +kernel
theorem dX1_findFarther_15 : decode cX1_findFarther 15 = .ok (.invokevirtual 30, 3) := by decide +kernel
theorem dX1_findFarther_18 : decode cX1_findFarther 18 = .ok (.lmul, 1) := by decide +kernel
theorem dX1_findFarther_19 : decode cX1_findFarther 19 = .ok (.lconst 0, 1) := by decide +kernel
theorem dX1_findFarther_20 : decode cX1_findFarther 20 = .ok (.lcmp, 1) := by decide +kernel
theorem dX1_findFarther_21 : decode cX1_findFarther 21 = .ok (.ifCond .ge 5, 3) := by decide +kernel
theorem dX1_findFarther_24 : decode cX1_findFarther 24 = .ok (.iload_n 3, 1) := by decide +kernel
theorem dX1_findFarther_25 : decode cX1_findFarther 25 = .ok (.ireturn, 1) := by decide +kernel
theorem dX1_findFarther_26 : decode cX1_findFarther 26 = .ok (.iinc 3 1, 3) := by decide +kernel
theorem dX1_findFarther_29 : decode cX1_findFarther 29 = .ok (.goto (-27), 3) := by decide +kernel
theorem dX1_findFarther_32 : decode cX1_findFarther 32 = .ok (.iconst (-1), 1) := by decide +kernel
theorem dX1_findFarther_33 : decode cX1_findFarther 33 = .ok (.ireturn, 1) := by decide +kernel
theorem dX1_edge_0 : decode cX1_edge 0 = .ok (.iload_n 1, 1) := by decide +kernel
theorem dX1_edge_1 : decode cX1_edge 1 = .ok (.ifCond .eq 7, 3) := by decide +kernel
theorem dX1_edge_4 : decode cX1_edge 4 = .ok (.iconst 1, 1) := by decide +kernel
theorem dX1_edge_5 : decode cX1_edge 5 = .ok (.goto 4, 3) := by decide +kernel
theorem dX1_edge_8 : decode cX1_edge 8 = .ok (.iconst (-1), 1) := by decide +kernel
theorem dX1_edge_9 : decode cX1_edge 9 = .ok (.istore_n 2, 1) := by decide +kernel
theorem dX1_edge_10 : decode cX1_edge 10 = .ok (.iconst 0, 1) := by decide +kernel
theorem dX1_edge_11 : decode cX1_edge 11 = .ok (.istore_n 3, 1) := by decide +kernel
theorem dX1_edge_12 : decode cX1_edge 12 = .ok (.iconst 0, 1) := by decide +kernel
theorem dX1_edge_13 : decode cX1_edge 13 = .ok (.istore 4, 2) := by decide +kernel
theorem dX1_edge_15 : decode cX1_edge 15 = .ok (.iload 4, 2) := by decide +kernel
theorem dX1_edge_17 : decode cX1_edge 17 = .ok (.aload_n 0, 1) := by decide +kernel
theorem dX1_edge_18 : decode cX1_edge 18 = .ok (.getfield 22, 3) := by decide +kernel
theorem dX1_edge_21 : decode cX1_edge 21 = .ok (.if_icmp .ge 43, 3) := by decide +kernel
theorem dX1_edge_24 : decode cX1_edge 24 = .ok (.iload_n 2, 1) := by decide +kernel
theorem dX1_edge_25 : decode cX1_edge 25 = .ok (.i2l, 1) := by decide +kernel
theorem dX1_edge_26 : decode cX1_edge 26 = .ok (.aload_n 0, 1) := by decide +kernel
theorem dX1_edge_27 : decode cX1_edge 27 = .ok (.iload_n 3, 1) := by decide +kernel
theorem dX1_edge_28 : decode cX1_edge 28 = .ok (.iload 4, 2) := by decide +kernel
theorem dX1_edge_30 : decode cX1_edge 30 = .ok (.invokevirtual 30, 3) := by decide +kernel
theorem dX1_edge_33 : decode cX1_edge 33 = .ok (.lmul, 1) := by decide +kernel
theorem dX1_edge_34 : decode cX1_edge 34 = .ok (.lconst 0, 1) := by decide +kernel
theorem dX1_edge_35 : decode cX1_edge 35 = .ok (.lcmp, 1) := by decide +kernel
theorem dX1_edge_36 : decode cX1_edge 36 = .ok (.ifCond .ge 6, 3) := by decide +kernel
theorem dX1_edge_39 : decode cX1_edge 39 = .ok (.goto 19, 3) := by decide +kernel
theorem dX1_edge_42 : decode cX1_edge 42 = .ok (.aload_n 0, 1) := by decide +kernel
theorem dX1_edge_43 : decode cX1_edge 43 = .ok (.iload 4, 2) := by decide +kernel
theorem dX1_edge_45 : decode cX1_edge 45 = .ok (.iload_n 2, 1) := by decide +kernel
theorem dX1_edge_46 : decode cX1_edge 46 = .ok (.invokevirtual 34, 3) := by decide +kernel
theorem dX1_edge_49 : decode cX1_edge 49 = .ok (.istore_n 3, 1) := by decide +kernel
theorem dX1_edge_50 : decode cX1_edge 50 = .ok (.iload_n 3, 1) := by decide +kernel
theorem dX1_edge_51 : decode cX1_edge 51 = .ok (.iconst (-1), 1) := by decide +kernel
theorem dX1_edge_52 : decode cX1_edge 52 = .ok (.if_icmp .ne 6, 3) := by decide +kernel
theorem dX1_edge_55 : decode cX1_edge 55 = .ok (.iload 4, 2) := by decide +kernel
theorem dX1_edge_57 : decode cX1_edge 57 = .ok (.ireturn, 1) := by decide +kernel
theorem dX1_edge_58 : decode cX1_edge 58 = .ok (.iinc 4 1, 3) := by decide +kernel
theorem dX1_edge_61 : decode cX1_edge 61 = .ok (.goto (-46), 3) := by decide +kernel
theorem dX1_edge_64 : decode cX1_edge 64 = .ok (.iconst (-1), 1) := by decide +kernel
theorem dX1_edge_65 : decode cX1_edge 65 = .ok (.ireturn, 1) := by decide +kernel
theorem dX1_width_0 : decode cX1_width 0 = .ok (.aload_n 0, 1) := by decide +kernel
theorem dX1_width_1 : decode cX1_width 1 = .ok (.getfield 22, 3) := by decide +kernel
theorem dX1_width_4 : decode cX1_width 4 = .ok (.iconst 1, 1) := by decide +kernel
theorem dX1_width_5 : decode cX1_width 5 = .ok (.if_icmp .ge 5, 3) := by decide +kernel
theorem dX1_width_8 : decode cX1_width 8 = .ok (.iconst (-1), 1) := by decide +kernel
theorem dX1_width_9 : decode cX1_width 9 = .ok (.ireturn, 1) := by decide +kernel
theorem dX1_width_10 : decode cX1_width 10 = .ok (.aload_n 0, 1) := by decide +kernel
theorem dX1_width_11 : decode cX1_width 11 = .ok (.iconst 1, 1) := by decide +kernel
theorem dX1_width_12 : decode cX1_width 12 = .ok (.invokevirtual 38, 3) := by decide +kernel
theorem dX1_width_15 : decode cX1_width 15 = .ok (.istore_n 1, 1) := by decide +kernel
theorem dX1_width_16 : decode cX1_width 16 = .ok (.aload_n 0, 1) := by decide +kernel
theorem dX1_width_17 : decode cX1_width 17 = .ok (.iconst 0, 1) := by decide +kernel
theorem dX1_width_18 : decode cX1_width 18 = .ok (.invokevirtual 38, 3) := by decide +kernel
theorem dX1_width_21 : decode cX1_width 21 = .ok (.istore_n 2, 1) := by decide +kernel
theorem dX1_width_22 : decode cX1_width 22 = .ok (.aload_n 0, 1) := by decide +kernel
theorem dX1_width_23 : decode cX1_width 23 = .ok (.iload_n 1, 1) := by decide +kernel
theorem dX1_width_24 : decode cX1_width 24 = .ok (.invokevirtual 26, 3) := by decide +kernel
theorem dX1_width_27 : decode cX1_width 27 = .ok (.ifCond .eq 11, 3) := by decide +kernel
theorem dX1_width_30 : decode cX1_width 30 = .ok (.aload_n 0, 1) := by decide +kernel
theorem dX1_width_31 : decode cX1_width 31 = .ok (.iload_n 2, 1) := by decide +kernel
theorem dX1_width_32 : decode cX1_width 32 = .ok (.invokevirtual 26, 3) := by decide +kernel
theorem dX1_width_35 : decode cX1_width 35 = .ok (.ifCond .ne 6, 3) := by decide +kernel
theorem dX1_width_38 : decode cX1_width 38 = .ok (.bipush (-2), 2) := by decide +kernel
theorem dX1_width_40 : decode cX1_width 40 = .ok (.ireturn, 1) := by decide +kernel
theorem dX1_width_41 : decode cX1_width 41 = .ok (.aload_n 0, 1) := by decide +kernel
theorem dX1_width_42 : decode cX1_width 42 = .ok (.getfield 15, 3) := by decide +kernel
theorem dX1_width_45 : decode cX1_width 45 = .ok (.iload_n 1, 1) := by decide +kernel
theorem dX1_width_46 : decode cX1_width 46 = .ok (.laload, 1) := by decide +kernel
theorem dX1_width_47 : decode cX1_width 47 = .ok (.aload_n 0, 1) := by decide +kernel
theorem dX1_width_48 : decode cX1_width 48 = .ok (.getfield 15, 3) := by decide +kernel
theorem dX1_width_51 : decode cX1_width 51 = .ok (.iload_n 2, 1) := by decide +kernel
theorem dX1_width_52 : decode cX1_width 52 = .ok (.laload, 1) := by decide +kernel
theorem dX1_width_53 : decode cX1_width 53 = .ok (.lmul, 1) := by decide +kernel
theorem dX1_width_54 : decode cX1_width 54 = .ok (.aload_n 0, 1) := by decide +kernel
theorem dX1_width_55 : decode cX1_width 55 = .ok (.getfield 19, 3) := by decide +kernel
theorem dX1_width_58 : decode cX1_width 58 = .ok (.iload_n 1, 1) := by decide +kernel
theorem dX1_width_59 : decode cX1_width 59 = .ok (.laload, 1) := by decide +kernel
theorem dX1_width_60 : decode cX1_width 60 = .ok (.aload_n 0, 1) := by decide +kernel
theorem dX1_width_61 : decode cX1_width 61 = .ok (.getfield 19, 3) := by decide +kernel
theorem dX1_width_64 : decode cX1_width 64 = .ok (.iload_n 2, 1) := by decide +kernel
theorem dX1_width_65 : decode cX1_width 65 = .ok (.laload, 1) := by decide +kernel
theorem dX1_width_66 : decode cX1_width 66 = .ok (.lmul, 1) := by decide +kernel
theorem dX1_width_67 : decode cX1_width 67 = .ok (.ladd, 1) := by decide +kernel
theorem dX1_width_68 : decode cX1_width 68 = .ok (.lstore_n 3, 1) := by decide +kernel
theorem dX1_width_69 : decode cX1_width 69 = .ok (.lload_n 3, 1) := by decide +kernel
theorem dX1_width_70 : decode cX1_width 70 = .ok (.lconst 0, 1) := by decide +kernel
theorem dX1_width_71 : decode cX1_width 71 = .ok (.lcmp, 1) := by decide +kernel
theorem dX1_width_72 : decode cX1_width 72 = .ok (.ifCond .gt 6, 3) := by decide +kernel
theorem dX1_width_75 : decode cX1_width 75 = .ok (.bipush (-2), 2) := by decide +kernel
theorem dX1_width_77 : decode cX1_width 77 = .ok (.ireturn, 1) := by decide +kernel
theorem dX1_width_78 : decode cX1_width 78 = .ok (.ldc2_w 42, 3) := by decide +kernel
theorem dX1_width_81 : decode cX1_width 81 = .ok (.ldc2_w 44, 3) := by decide +kernel
theorem dX1_width_84 : decode cX1_width 84 = .ok (.aload_n 0, 1) := by decide +kernel
theorem dX1_width_85 : decode cX1_width 85 = .ok (.iload_n 1, 1) := by decide +kernel
theorem dX1_width_86 : decode cX1_width 86 = .ok (.iload_n 2, 1) := by decide +kernel
theorem dX1_width_87 : decode cX1_width 87 = .ok (.invokevirtual 30, 3) := by decide +kernel
theorem dX1_width_90 : decode cX1_width 90 = .ok (.invokestatic 46, 3) := by decide +kernel
theorem dX1_width_93 : decode cX1_width 93 = .ok (.lmul, 1) := by decide +kernel
theorem dX1_width_94 : decode cX1_width 94 = .ok (.lload_n 3, 1) := by decide +kernel
theorem dX1_width_95 : decode cX1_width 95 = .ok (.ldiv, 1) := by decide +kernel
theorem dX1_width_96 : decode cX1_width 96 = .ok (.invokestatic 52, 3) := by decide +kernel
theorem dX1_width_99 : decode cX1_width 99 = .ok (.l2i, 1) := by decide +kernel
theorem dX1_width_100 : decode cX1_width 100 = .ok (.ireturn, 1) := by decide +kernel
theorem dX2_init_0 : decode cX2_init 0 = .ok (.aload_n 0, 1) := by decide +kernel
theorem dX2_init_1 : decode cX2_init 1 = .ok (.invokespecial 3, 3) := by decide +kernel
theorem dX2_init_4 : decode cX2_init 4 = .ok (.aload_n 0, 1) := by decide +kernel
theorem dX2_init_5 : decode cX2_init 5 = .ok (.iconst 0, 1) := by decide +kernel
theorem dX2_init_6 : decode cX2_init 6 = .ok (.putfield 9, 3) := by decide +kernel
theorem dX2_init_9 : decode cX2_init 9 = .ok (.aload_n 0, 1) := by decide +kernel
theorem dX2_init_10 : decode cX2_init 10 = .ok (.iconst 0, 1) := by decide +kernel
theorem dX2_init_11 : decode cX2_init 11 = .ok (.putfield 15, 3) := by decide +kernel
theorem dX2_init_14 : decode cX2_init 14 = .ok (.aload_n 0, 1) := by decide +kernel
theorem dX2_init_15 : decode cX2_init 15 = .ok (.iconst 0, 1) := by decide +kernel
theorem dX2_init_16 : decode cX2_init 16 = .ok (.putfield 18, 3) := by decide +kernel
theorem dX2_init_19 : decode cX2_init 19 = .ok (.aload_n 0, 1) := by decide +kernel
theorem dX2_init_20 : decode cX2_init 20 = .ok (.iconst 0, 1) := by decide +kernel
theorem dX2_init_21 : decode cX2_init 21 = .ok (.putfield 21, 3) := by decide +kernel
theorem dX2_init_24 : decode cX2_init 24 = .ok (.aload_n 0, 1) := by decide +kernel
theorem dX2_init_25 : decode cX2_init 25 = .ok (.iconst 0, 1) := by decide +kernel
theorem dX2_init_26 : decode cX2_init 26 = .ok (.putfield 24, 3) := by decide +kernel
theorem dX2_init_29 : decode cX2_init 29 = .ok (.return_, 1) := by decide +kernel
theorem dX2_part_0 : decode cX2_part 0 = .ok (.aload_n 0, 1) := by decide +kernel
theorem dX2_part_1 : decode cX2_part 1 = .ok (.getfield 18, 3) := by decide +kernel
theorem dX2_part_4 : decode cX2_part 4 = .ok (.i2l, 1) := by decide +kernel
theorem dX2_part_5 : decode cX2_part 5 = .ok (.aload_n 0, 1) := by decide +kernel
theorem dX2_part_6 : decode cX2_part 6 = .ok (.getfield 21, 3) := by decide +kernel
theorem dX2_part_9 : decode cX2_part 9 = .ok (.i2l, 1) := by decide +kernel
theorem dX2_part_10 : decode cX2_part 10 = .ok (.invokestatic 27, 3) := by decide +kernel
theorem dX2_part_13 : decode cX2_part 13 = .ok (.lstore_n 3, 1) := by decide +kernel
theorem dX2_part_14 : decode cX2_part 14 = .ok (.lload_n 3, 1) := by decide +kernel
theorem dX2_part_15 : decode cX2_part 15 = .ok (.lconst 1, 1) := by decide +kernel
theorem dX2_part_16 : decode cX2_part 16 = .ok (.lcmp, 1) := by decide +kernel
theorem dX2_part_17 : decode cX2_part 17 = .ok (.ifCond .ge 7, 3) := by decide +kernel
theorem dX2_part_20 : decode cX2_part 20 = .ok (.iconst 0, 1) := by decide +kernel
theorem dX2_part_21 : decode cX2_part 21 = .ok (.goto 11, 3) := by decide +kernel
theorem dX2_part_24 : decode cX2_part 24 = .ok (.iload_n 1, 1) := by decide +kernel
theorem dX2_part_25 : decode cX2_part 25 = .ok (.i2l, 1) := by decide +kernel
theorem dX2_part_26 : decode cX2_part 26 = .ok (.iload_n 2, 1) := by decide +kernel
theorem dX2_part_27 : decode cX2_part 27 = .ok (.i2l, 1) := by decide +kernel
theorem dX2_part_28 : decode cX2_part 28 = .ok (.lmul, 1) := by decide +kernel
theorem dX2_part_29 : decode cX2_part 29 = .ok (.lload_n 3, 1) := by decide +kernel
theorem dX2_part_30 : decode cX2_part 30 = .ok (.ldiv, 1) := by decide +kernel
theorem dX2_part_31 : decode cX2_part 31 = .ok (.l2i, 1) := by decide +kernel
theorem dX2_part_32 : decode cX2_part 32 = .ok (.ireturn, 1) := by decide +kernel
theorem dX2_takes_0 : decode cX2_takes 0 = .ok (.aload_n 0, 1) := by decide +kernel
theorem dX2_takes_1 : decode cX2_takes 1 = .ok (.getfield 9, 3) := by decide +kernel
theorem dX2_takes_4 : decode cX2_takes 4 = .ok (.iconst 1, 1) := by decide +kernel
theorem dX2_takes_5 : decode cX2_takes 5 = .ok (.if_icmp .ne 7, 3) := by decide +kernel
theorem dX2_takes_8 : decode cX2_takes 8 = .ok (.lload_n 2, 1) := by decide +kernel
theorem dX2_takes_9 : decode cX2_takes 9 = .ok (.goto 14, 3) := by decide +kernel
theorem dX2_takes_12 : decode cX2_takes 12 = .ok (.lload_n 2, 1) := by decide +kernel
theorem dX2_takes_13 : decode cX2_takes 13 = .ok (.aload_n 1, 1) := by decide +kernel
theorem dX2_takes_14 : decode cX2_takes 14 = .ok (.aload_n 0, 1) := by decide +kernel
theorem dX2_takes_15 : decode cX2_takes 15 = .ok (.getfield 15, 3) := by decide +kernel
theorem dX2_takes_18 : decode cX2_takes 18 = .ok (.invokevirtual 31, 3) := by decide +kernel
theorem dX2_takes_21 : decode cX2_takes 21 = .ok (.i2l, 1) := by decide +kernel
theorem dX2_takes_22 : decode cX2_takes 22 = .ok (.lsub, 1) := by decide +kernel
theorem dX2_takes_23 : decode cX2_takes 23 = .ok (.lstore 6, 2) := by decide +kernel
theorem dX2_takes_25 : decode cX2_takes 25 = .ok (.aload_n 0, 1) := by decide +kernel
theorem dX2_takes_26 : decode cX2_takes 26 = .ok (.getfield 9, 3) := by decide +kernel
theorem dX2_takes_29 : decode cX2_takes 29 = .ok (.iconst 1, 1) := by decide +kernel
theorem dX2_takes_30 : decode cX2_takes 30 = .ok (.if_icmp .ne 8, 3) := by decide +kernel
theorem dX2_takes_33 : decode cX2_takes 33 = .ok (.lload 4, 2) := by decide +kernel
theorem dX2_takes_35 : decode cX2_takes 35 = .ok (.goto 15, 3) := by decide +kernel
theorem dX2_takes_38 : decode cX2_takes 38 = .ok (.lload 4, 2) := by decide +kernel
theorem dX2_takes_40 : decode cX2_takes 40 = .ok (.aload_n 1, 1) := by decide +kernel
theorem dX2_takes_41 : decode cX2_takes 41 = .ok (.aload_n 0, 1) := by decide +kernel
theorem dX2_takes_42 : decode cX2_takes 42 = .ok (.getfield 15, 3) := by decide +kernel
theorem dX2_takes_45 : decode cX2_takes 45 = .ok (.invokevirtual 37, 3) := by decide +kernel
theorem dX2_takes_48 : decode cX2_takes 48 = .ok (.i2l, 1) := by decide +kernel
theorem dX2_takes_49 : decode cX2_takes 49 = .ok (.lsub, 1) := by decide +kernel
theorem dX2_takes_50 : decode cX2_takes 50 = .ok (.lstore 8, 2) := by decide +kernel
theorem dX2_takes_52 : decode cX2_takes 52 = .ok (.aload_n 0, 1) := by decide +kernel
theorem dX2_takes_53 : decode cX2_takes 53 = .ok (.getfield 18, 3) := by decide +kernel
theorem dX2_takes_56 : decode cX2_takes 56 = .ok (.i2l, 1) := by decide +kernel
theorem dX2_takes_57 : decode cX2_takes 57 = .ok (.lload 6, 2) := by decide +kernel
theorem dX2_takes_59 : decode cX2_takes 59 = .ok (.lmul, 1) := by decide +kernel
theorem dX2_takes_60 : decode cX2_takes 60 = .ok (.aload_n 0, 1) := by decide +kernel
theorem dX2_takes_61 : decode cX2_takes 61 = .ok (.getfield 21, 3) := by decide +kernel
theorem dX2_takes_64 : decode cX2_takes 64 = .ok (.i2l, 1) := by decide +kernel
theorem dX2_takes_65 : decode cX2_takes 65 = .ok (.lload 8, 2) := by decide +kernel
theorem dX2_takes_67 : decode cX2_takes 67 = .ok (.lmul, 1) := by decide +kernel
theorem dX2_takes_68 : decode cX2_takes 68 = .ok (.ladd, 1) := by decide +kernel
theorem dX2_takes_69 : decode cX2_takes 69 = .ok (.lstore 10, 2) := by decide +kernel
theorem dX2_takes_71 : decode cX2_takes 71 = .ok (.aload_n 0, 1) := by decide +kernel
theorem dX2_takes_72 : decode cX2_takes 72 = .ok (.getfield 18, 3) := by decide +kernel
theorem dX2_takes_75 : decode cX2_takes 75 = .ok (.i2l, 1) := by decide +kernel
theorem dX2_takes_76 : decode cX2_takes 76 = .ok (.lload 8, 2) := by decide +kernel
theorem dX2_takes_78 : decode cX2_takes 78 = .ok (.lmul, 1) := by decide +kernel
theorem dX2_takes_79 : decode cX2_takes 79 = .ok (.aload_n 0, 1) := by decide +kernel
theorem dX2_takes_80 : decode cX2_takes 80 = .ok (.getfield 21, 3) := by decide +kernel
theorem dX2_takes_83 : decode cX2_takes 83 = .ok (.i2l, 1) := by decide +kernel
theorem dX2_takes_84 : decode cX2_takes 84 = .ok (.lload 6, 2) := by decide +kernel
theorem dX2_takes_86 : decode cX2_takes 86 = .ok (.lmul, 1) := by decide +kernel
theorem dX2_takes_87 : decode cX2_takes 87 = .ok (.lsub, 1) := by decide +kernel
theorem dX2_takes_88 : decode cX2_takes 88 = .ok (.invokestatic 40, 3) := by decide +kernel
theorem dX2_takes_91 : decode cX2_takes 91 = .ok (.lstore 12, 2) := by decide +kernel
theorem dX2_takes_93 : decode cX2_takes 93 = .ok (.lload 10, 2) := by decide +kernel
theorem dX2_takes_95 : decode cX2_takes 95 = .ok (.lconst 0, 1) := by decide +kernel
theorem dX2_takes_96 : decode cX2_takes 96 = .ok (.lcmp, 1) := by decide +kernel
theorem dX2_takes_97 : decode cX2_takes 97 = .ok (.ifCond .le 25, 3) := by decide +kernel
theorem dX2_takes_100 : decode cX2_takes 100 = .ok (.ldc2_w 46, 3) := by decide +kernel
theorem dX2_takes_103 : decode cX2_takes 103 = .ok (.lload 12, 2) := by decide +kernel
theorem dX2_takes_105 : decode cX2_takes 105 = .ok (.lmul, 1) := by decide +kernel
theorem dX2_takes_106 : decode cX2_takes 106 = .ok (.aload_n 0, 1) := by decide +kernel
theorem dX2_takes_107 : decode cX2_takes 107 = .ok (.getfield 24, 3) := by decide +kernel
theorem dX2_takes_110 : decode cX2_takes 110 = .ok (.i2l, 1) := by decide +kernel
theorem dX2_takes_111 : decode cX2_takes 111 = .ok (.lload 10, 2) := by decide +kernel
theorem dX2_takes_113 : decode cX2_takes 113 = .ok (.lmul, 1) := by decide +kernel
theorem dX2_takes_114 : decode cX2_takes 114 = .ok (.lcmp, 1) := by decide +kernel
theorem dX2_takes_115 : decode cX2_takes 115 = .ok (.ifCond .gt 7, 3) := by decide +kernel
theorem dX2_takes_118 : decode cX2_takes 118 = .ok (.iconst 1, 1) := by decide +kernel
theorem dX2_takes_119 : decode cX2_takes 119 = .ok (.goto 4, 3) := by decide +kernel
theorem dX2_takes_122 : decode cX2_takes 122 = .ok (.iconst 0, 1) := by decide +kernel
theorem dX2_takes_123 : decode cX2_takes 123 = .ok (.ireturn, 1) := by decide +kernel
theorem dX3_init_0 : decode cX3_init 0 = .ok (.aload_n 0, 1) := by decide +kernel
theorem dX3_init_1 : decode cX3_init 1 = .ok (.invokespecial 1, 3) := by decide +kernel
theorem dX3_init_4 : decode cX3_init 4 = .ok (.aload_n 0, 1) := by decide +kernel
theorem dX3_init_5 : decode cX3_init 5 = .ok (.new 7, 3) := by decide +kernel
theorem dX3_init_8 : decode cX3_init 8 = .ok (.dup, 1) := by decide +kernel
theorem dX3_init_9 : decode cX3_init 9 = .ok (.invokespecial 9, 3) := by decide +kernel
theorem dX3_init_12 : decode cX3_init 12 = .ok (.putfield 10, 3) := by decide +kernel
theorem dX3_init_15 : decode cX3_init 15 = .ok (.aload_n 0, 1) := by decide +kernel
theorem dX3_init_16 : decode cX3_init 16 = .ok (.new 7, 3) := by decide +kernel
theorem dX3_init_19 : decode cX3_init 19 = .ok (.dup, 1) := by decide +kernel
theorem dX3_init_20 : decode cX3_init 20 = .ok (.invokespecial 9, 3) := by decide +kernel
theorem dX3_init_23 : decode cX3_init 23 = .ok (.putfield 16, 3) := by decide +kernel
theorem dX3_init_26 : decode cX3_init 26 = .ok (.aload_n 0, 1) := by decide +kernel
theorem dX3_init_27 : decode cX3_init 27 = .ok (.ldc2_w 19, 3) := by decide +kernel
theorem dX3_init_30 : decode cX3_init 30 = .ok (.putfield 21, 3) := by decide +kernel
theorem dX3_init_33 : decode cX3_init 33 = .ok (.aload_n 0, 1) := by decide +kernel
theorem dX3_init_34 : decode cX3_init 34 = .ok (.lconst 0, 1) := by decide +kernel
theorem dX3_init_35 : decode cX3_init 35 = .ok (.putfield 25, 3) := by decide +kernel
theorem dX3_init_38 : decode cX3_init 38 = .ok (.return_, 1) := by decide +kernel
theorem dX3_become_0 : decode cX3_become 0 = .ok (.aload_n 0, 1) := by decide +kernel
theorem dX3_become_1 : decode cX3_become 1 = .ok (.getfield 10, 3) := by decide +kernel
theorem dX3_become_4 : decode cX3_become 4 = .ok (.aload_n 1, 1) := by decide +kernel
theorem dX3_become_5 : decode cX3_become 5 = .ok (.getfield 10, 3) := by decide +kernel
theorem dX3_become_8 : decode cX3_become 8 = .ok (.invokevirtual 28, 3) := by decide +kernel
theorem dX3_become_11 : decode cX3_become 11 = .ok (.aload_n 0, 1) := by decide +kernel
theorem dX3_become_12 : decode cX3_become 12 = .ok (.getfield 16, 3) := by decide +kernel
theorem dX3_become_15 : decode cX3_become 15 = .ok (.aload_n 1, 1) := by decide +kernel
theorem dX3_become_16 : decode cX3_become 16 = .ok (.getfield 16, 3) := by decide +kernel
theorem dX3_become_19 : decode cX3_become 19 = .ok (.invokevirtual 28, 3) := by decide +kernel
theorem dX3_become_22 : decode cX3_become 22 = .ok (.aload_n 0, 1) := by decide +kernel
theorem dX3_become_23 : decode cX3_become 23 = .ok (.aload_n 1, 1) := by decide +kernel
theorem dX3_become_24 : decode cX3_become 24 = .ok (.getfield 21, 3) := by decide +kernel
theorem dX3_become_27 : decode cX3_become 27 = .ok (.putfield 21, 3) := by decide +kernel
theorem dX3_become_30 : decode cX3_become 30 = .ok (.aload_n 0, 1) := by decide +kernel
theorem dX3_become_31 : decode cX3_become 31 = .ok (.aload_n 1, 1) := by decide +kernel
theorem dX3_become_32 : decode cX3_become 32 = .ok (.getfield 25, 3) := by decide +kernel
theorem dX3_become_35 : decode cX3_become 35 = .ok (.putfield 25, 3) := by decide +kernel
theorem dX3_become_38 : decode cX3_become 38 = .ok (.return_, 1) := by decide +kernel
theorem dX4_init_0 : decode cX4_init 0 = .ok (.aload_n 0, 1) := by decide +kernel
theorem dX4_init_1 : decode cX4_init 1 = .ok (.invokespecial 3, 3) := by decide +kernel
theorem dX4_init_4 : decode cX4_init 4 = .ok (.aload_n 0, 1) := by decide +kernel
theorem dX4_init_5 : decode cX4_init 5 = .ok (.bipush 40, 2) := by decide +kernel
theorem dX4_init_7 : decode cX4_init 7 = .ok (.newarray .int, 2) := by decide +kernel
theorem dX4_init_9 : decode cX4_init 9 = .ok (.putfield 9, 3) := by decide +kernel
theorem dX4_init_12 : decode cX4_init 12 = .ok (.aload_n 0, 1) := by decide +kernel
theorem dX4_init_13 : decode cX4_init 13 = .ok (.bipush 40, 2) := by decide +kernel
theorem dX4_init_15 : decode cX4_init 15 = .ok (.newarray .int, 2) := by decide +kernel
theorem dX4_init_17 : decode cX4_init 17 = .ok (.putfield 15, 3) := by decide +kernel
theorem dX4_init_20 : decode cX4_init 20 = .ok (.aload_n 0, 1) := by decide +kernel
theorem dX4_init_21 : decode cX4_init 21 = .ok (.iconst 0, 1) := by decide +kernel
theorem dX4_init_22 : decode cX4_init 22 = .ok (.putfield 18, 3) := by decide +kernel
theorem dX4_init_25 : decode cX4_init 25 = .ok (.return_, 1) := by decide +kernel
theorem dX4_grow_0 : decode cX4_grow 0 = .ok (.aload_n 0, 1) := by decide +kernel
theorem dX4_grow_1 : decode cX4_grow 1 = .ok (.getfield 18, 3) := by decide +kernel
theorem dX4_grow_4 : decode cX4_grow 4 = .ok (.ifCond .lt 12, 3) := by decide +kernel
theorem dX4_grow_7 : decode cX4_grow 7 = .ok (.aload_n 0, 1) := by decide +kernel
theorem dX4_grow_8 : decode cX4_grow 8 = .ok (.getfield 18, 3) := by decide +kernel
theorem dX4_grow_11 : decode cX4_grow 11 = .ok (.bipush 40, 2) := by decide +kernel
theorem dX4_grow_13 : decode cX4_grow 13 = .ok (.if_icmp .lt 5, 3) := by decide +kernel
theorem dX4_grow_16 : decode cX4_grow 16 = .ok (.iconst (-1), 1) := by decide +kernel
theorem dX4_grow_17 : decode cX4_grow 17 = .ok (.ireturn, 1) := by decide +kernel
theorem dX4_grow_18 : decode cX4_grow 18 = .ok (.aload_n 0, 1) := by decide +kernel
theorem dX4_grow_19 : decode cX4_grow 19 = .ok (.getfield 9, 3) := by decide +kernel
theorem dX4_grow_22 : decode cX4_grow 22 = .ok (.aload_n 0, 1) := by decide +kernel
theorem dX4_grow_23 : decode cX4_grow 23 = .ok (.getfield 18, 3) := by decide +kernel
theorem dX4_grow_26 : decode cX4_grow 26 = .ok (.iload_n 1, 1) := by decide +kernel
theorem dX4_grow_27 : decode cX4_grow 27 = .ok (.iastore, 1) := by decide +kernel
theorem dX4_grow_28 : decode cX4_grow 28 = .ok (.aload_n 0, 1) := by decide +kernel
theorem dX4_grow_29 : decode cX4_grow 29 = .ok (.getfield 15, 3) := by decide +kernel
theorem dX4_grow_32 : decode cX4_grow 32 = .ok (.aload_n 0, 1) := by decide +kernel
theorem dX4_grow_33 : decode cX4_grow 33 = .ok (.getfield 18, 3) := by decide +kernel
theorem dX4_grow_36 : decode cX4_grow 36 = .ok (.iload_n 2, 1) := by decide +kernel
theorem dX4_grow_37 : decode cX4_grow 37 = .ok (.iastore, 1) := by decide +kernel
theorem dX4_grow_38 : decode cX4_grow 38 = .ok (.aload_n 0, 1) := by decide +kernel
theorem dX4_grow_39 : decode cX4_grow 39 = .ok (.dup, 1) := by decide +kernel
theorem dX4_grow_40 : decode cX4_grow 40 = .ok (.getfield 18, 3) := by decide +kernel
theorem dX4_grow_43 : decode cX4_grow 43 = .ok (.iconst 1, 1) := by decide +kernel
theorem dX4_grow_44 : decode cX4_grow 44 = .ok (.iadd, 1) := by decide +kernel
theorem dX4_grow_45 : decode cX4_grow 45 = .ok (.putfield 18, 3) := by decide +kernel
theorem dX4_grow_48 : decode cX4_grow 48 = .ok (.aload_n 0, 1) := by decide +kernel
theorem dX4_grow_49 : decode cX4_grow 49 = .ok (.getfield 18, 3) := by decide +kernel
theorem dX4_grow_52 : decode cX4_grow 52 = .ok (.ireturn, 1) := by decide +kernel
theorem dX4_xAt_0 : decode cX4_xAt 0 = .ok (.aload_n 0, 1) := by decide +kernel
theorem dX4_xAt_1 : decode cX4_xAt 1 = .ok (.getfield 18, 3) := by decide +kernel
theorem dX4_xAt_4 : decode cX4_xAt 4 = .ok (.iconst 1, 1) := by decide +kernel
theorem dX4_xAt_5 : decode cX4_xAt 5 = .ok (.if_icmp .lt 12, 3) := by decide +kernel
theorem dX4_xAt_8 : decode cX4_xAt 8 = .ok (.aload_n 0, 1) := by decide +kernel
theorem dX4_xAt_9 : decode cX4_xAt 9 = .ok (.getfield 18, 3) := by decide +kernel
theorem dX4_xAt_12 : decode cX4_xAt 12 = .ok (.bipush 40, 2) := by decide +kernel
theorem dX4_xAt_14 : decode cX4_xAt 14 = .ok (.if_icmp .le 7, 3) := by decide +kernel
theorem dX4_xAt_17 : decode cX4_xAt 17 = .ok (.iconst 0, 1) := by decide +kernel
theorem dX4_xAt_18 : decode cX4_xAt 18 = .ok (.goto 16, 3) := by decide +kernel
theorem dX4_xAt_21 : decode cX4_xAt 21 = .ok (.aload_n 0, 1) := by decide +kernel
theorem dX4_xAt_22 : decode cX4_xAt 22 = .ok (.getfield 9, 3) := by decide +kernel
theorem dX4_xAt_25 : decode cX4_xAt 25 = .ok (.iload_n 1, 1) := by decide +kernel
theorem dX4_xAt_26 : decode cX4_xAt 26 = .ok (.aload_n 0, 1) := by decide +kernel
theorem dX4_xAt_27 : decode cX4_xAt 27 = .ok (.getfield 18, 3) := by decide +kernel
theorem dX4_xAt_30 : decode cX4_xAt 30 = .ok (.invokestatic 22, 3) := by decide +kernel
theorem dX4_xAt_33 : decode cX4_xAt 33 = .ok (.iaload, 1) := by decide +kernel
theorem dX4_xAt_34 : decode cX4_xAt 34 = .ok (.ireturn, 1) := by decide +kernel
theorem dX4_yAt_0 : decode cX4_yAt 0 = .ok (.aload_n 0, 1) := by decide +kernel
theorem dX4_yAt_1 : decode cX4_yAt 1 = .ok (.getfield 18, 3) := by decide +kernel
theorem dX4_yAt_4 : decode cX4_yAt 4 = .ok (.iconst 1, 1) := by decide +kernel
theorem dX4_yAt_5 : decode cX4_yAt 5 = .ok (.if_icmp .lt 12, 3) := by decide +kernel
theorem dX4_yAt_8 : decode cX4_yAt 8 = .ok (.aload_n 0, 1) := by decide +kernel
theorem dX4_yAt_9 : decode cX4_yAt 9 = .ok (.getfield 18, 3) := by decide +kernel
theorem dX4_yAt_12 : decode cX4_yAt 12 = .ok (.bipush 40, 2) := by decide +kernel
theorem dX4_yAt_14 : decode cX4_yAt 14 = .ok (.if_icmp .le 7, 3) := by decide +kernel
theorem dX4_yAt_17 : decode cX4_yAt 17 = .ok (.iconst 0, 1) := by decide +kernel
theorem dX4_yAt_18 : decode cX4_yAt 18 = .ok (.goto 16, 3) := by decide +kernel
theorem dX4_yAt_21 : decode cX4_yAt 21 = .ok (.aload_n 0, 1) := by decide +kernel
theorem dX4_yAt_22 : decode cX4_yAt 22 = .ok (.getfield 15, 3) := by decide +kernel
theorem dX4_yAt_25 : decode cX4_yAt 25 = .ok (.iload_n 1, 1) := by decide +kernel
theorem dX4_yAt_26 : decode cX4_yAt 26 = .ok (.aload_n 0, 1) := by decide +kernel
theorem dX4_yAt_27 : decode cX4_yAt 27 = .ok (.getfield 18, 3) := by decide +kernel
theorem dX4_yAt_30 : decode cX4_yAt 30 = .ok (.invokestatic 22, 3) := by decide +kernel
theorem dX4_yAt_33 : decode cX4_yAt 33 = .ok (.iaload, 1) := by decide +kernel
theorem dX4_yAt_34 : decode cX4_yAt 34 = .ok (.ireturn, 1) := by decide +kernel
theorem dX4_become_0 : decode cX4_become 0 = .ok (.aload_n 1, 1) := by decide +kernel
theorem dX4_become_1 : decode cX4_become 1 = .ok (.getfield 9, 3) := by decide +kernel
theorem dX4_become_4 : decode cX4_become 4 = .ok (.iconst 0, 1) := by decide +kernel
theorem dX4_become_5 : decode cX4_become 5 = .ok (.aload_n 0, 1) := by decide +kernel
theorem dX4_become_6 : decode cX4_become 6 = .ok (.getfield 9, 3) := by decide +kernel
theorem dX4_become_9 : decode cX4_become 9 = .ok (.iconst 0, 1) := by decide +kernel
theorem dX4_become_10 : decode cX4_become 10 = .ok (.bipush 40, 2) := by decide +kernel
theorem dX4_become_12 : decode cX4_become 12 = .ok (.invokestatic 28, 3) := by decide +kernel
theorem dX4_become_15 : decode cX4_become 15 = .ok (.aload_n 1, 1) := by decide +kernel
theorem dX4_become_16 : decode cX4_become 16 = .ok (.getfield 15, 3) := by decide +kernel
theorem dX4_become_19 : decode cX4_become 19 = .ok (.iconst 0, 1) := by decide +kernel
theorem dX4_become_20 : decode cX4_become 20 = .ok (.aload_n 0, 1) := by decide +kernel
theorem dX4_become_21 : decode cX4_become 21 = .ok (.getfield 15, 3) := by decide +kernel
theorem dX4_become_24 : decode cX4_become 24 = .ok (.iconst 0, 1) := by decide +kernel
theorem dX4_become_25 : decode cX4_become 25 = .ok (.bipush 40, 2) := by decide +kernel
theorem dX4_become_27 : decode cX4_become 27 = .ok (.invokestatic 28, 3) := by decide +kernel
theorem dX4_become_30 : decode cX4_become 30 = .ok (.aload_n 0, 1) := by decide +kernel
theorem dX4_become_31 : decode cX4_become 31 = .ok (.aload_n 1, 1) := by decide +kernel
theorem dX4_become_32 : decode cX4_become 32 = .ok (.getfield 18, 3) := by decide +kernel
theorem dX4_become_35 : decode cX4_become 35 = .ok (.putfield 18, 3) := by decide +kernel
theorem dX4_become_38 : decode cX4_become 38 = .ok (.return_, 1) := by decide +kernel
theorem dX5_init_0 : decode cX5_init 0 = .ok (.aload_n 0, 1) := by decide +kernel
theorem dX5_init_1 : decode cX5_init 1 = .ok (.invokespecial 3, 3) := by decide +kernel
theorem dX5_init_4 : decode cX5_init 4 = .ok (.aload_n 0, 1) := by decide +kernel
theorem dX5_init_5 : decode cX5_init 5 = .ok (.iconst 0, 1) := by decide +kernel
theorem dX5_init_6 : decode cX5_init 6 = .ok (.putfield 9, 3) := by decide +kernel
theorem dX5_init_9 : decode cX5_init 9 = .ok (.aload_n 0, 1) := by decide +kernel
theorem dX5_init_10 : decode cX5_init 10 = .ok (.iconst 0, 1) := by decide +kernel
theorem dX5_init_11 : decode cX5_init 11 = .ok (.putfield 15, 3) := by decide +kernel
theorem dX5_init_14 : decode cX5_init 14 = .ok (.aload_n 0, 1) := by decide +kernel
theorem dX5_init_15 : decode cX5_init 15 = .ok (.iconst 0, 1) := by decide +kernel
theorem dX5_init_16 : decode cX5_init 16 = .ok (.putfield 18, 3) := by decide +kernel
theorem dX5_init_19 : decode cX5_init 19 = .ok (.aload_n 0, 1) := by decide +kernel
theorem dX5_init_20 : decode cX5_init 20 = .ok (.iconst 0, 1) := by decide +kernel
theorem dX5_init_21 : decode cX5_init 21 = .ok (.putfield 21, 3) := by decide +kernel
theorem dX5_init_24 : decode cX5_init 24 = .ok (.aload_n 0, 1) := by decide +kernel
theorem dX5_init_25 : decode cX5_init 25 = .ok (.iconst 0, 1) := by decide +kernel
theorem dX5_init_26 : decode cX5_init 26 = .ok (.putfield 24, 3) := by decide +kernel
theorem dX5_init_29 : decode cX5_init 29 = .ok (.aload_n 0, 1) := by decide +kernel
theorem dX5_init_30 : decode cX5_init 30 = .ok (.iconst 0, 1) := by decide +kernel
theorem dX5_init_31 : decode cX5_init 31 = .ok (.putfield 27, 3) := by decide +kernel
theorem dX5_init_34 : decode cX5_init 34 = .ok (.aload_n 0, 1) := by decide +kernel
theorem dX5_init_35 : decode cX5_init 35 = .ok (.iconst 0, 1) := by decide +kernel
theorem dX5_init_36 : decode cX5_init 36 = .ok (.putfield 30, 3) := by decide +kernel
theorem dX5_init_39 : decode cX5_init 39 = .ok (.aload_n 0, 1) := by decide +kernel
theorem dX5_init_40 : decode cX5_init 40 = .ok (.iconst 0, 1) := by decide +kernel
theorem dX5_init_41 : decode cX5_init 41 = .ok (.putfield 33, 3) := by decide +kernel
theorem dX5_init_44 : decode cX5_init 44 = .ok (.aload_n 0, 1) := by decide +kernel
theorem dX5_init_45 : decode cX5_init 45 = .ok (.iconst 0, 1) := by decide +kernel
theorem dX5_init_46 : decode cX5_init 46 = .ok (.putfield 37, 3) := by decide +kernel
theorem dX5_init_49 : decode cX5_init 49 = .ok (.aload_n 0, 1) := by decide +kernel
theorem dX5_init_50 : decode cX5_init 50 = .ok (.iconst (-1), 1) := by decide +kernel
theorem dX5_init_51 : decode cX5_init 51 = .ok (.putfield 40, 3) := by decide +kernel
theorem dX5_init_54 : decode cX5_init 54 = .ok (.aload_n 0, 1) := by decide +kernel
theorem dX5_init_55 : decode cX5_init 55 = .ok (.aconst_null, 1) := by decide +kernel
theorem dX5_init_56 : decode cX5_init 56 = .ok (.putfield 43, 3) := by decide +kernel
theorem dX5_init_59 : decode cX5_init 59 = .ok (.return_, 1) := by decide +kernel
theorem dX5_become_0 : decode cX5_become 0 = .ok (.aload_n 0, 1) := by decide +kernel
theorem dX5_become_1 : decode cX5_become 1 = .ok (.aload_n 1, 1) := by decide +kernel
theorem dX5_become_2 : decode cX5_become 2 = .ok (.getfield 9, 3) := by decide +kernel
theorem dX5_become_5 : decode cX5_become 5 = .ok (.putfield 9, 3) := by decide +kernel
theorem dX5_become_8 : decode cX5_become 8 = .ok (.aload_n 0, 1) := by decide +kernel
theorem dX5_become_9 : decode cX5_become 9 = .ok (.aload_n 1, 1) := by decide +kernel
theorem dX5_become_10 : decode cX5_become 10 = .ok (.getfield 15, 3) := by decide +kernel
theorem dX5_become_13 : decode cX5_become 13 = .ok (.putfield 15, 3) := by decide +kernel
theorem dX5_become_16 : decode cX5_become 16 = .ok (.aload_n 0, 1) := by decide +kernel
theorem dX5_become_17 : decode cX5_become 17 = .ok (.aload_n 1, 1) := by decide +kernel
theorem dX5_become_18 : decode cX5_become 18 = .ok (.getfield 18, 3) := by decide +kernel
theorem dX5_become_21 : decode cX5_become 21 = .ok (.putfield 18, 3) := by decide +kernel
theorem dX5_become_24 : decode cX5_become 24 = .ok (.aload_n 0, 1) := by decide +kernel
theorem dX5_become_25 : decode cX5_become 25 = .ok (.aload_n 1, 1) := by decide +kernel
theorem dX5_become_26 : decode cX5_become 26 = .ok (.getfield 21, 3) := by decide +kernel
theorem dX5_become_29 : decode cX5_become 29 = .ok (.putfield 21, 3) := by decide +kernel
theorem dX5_become_32 : decode cX5_become 32 = .ok (.aload_n 0, 1) := by decide +kernel
theorem dX5_become_33 : decode cX5_become 33 = .ok (.aload_n 1, 1) := by decide +kernel
theorem dX5_become_34 : decode cX5_become 34 = .ok (.getfield 24, 3) := by decide +kernel
theorem dX5_become_37 : decode cX5_become 37 = .ok (.putfield 24, 3) := by decide +kernel
theorem dX5_become_40 : decode cX5_become 40 = .ok (.aload_n 0, 1) := by decide +kernel
theorem dX5_become_41 : decode cX5_become 41 = .ok (.aload_n 1, 1) := by decide +kernel
theorem dX5_become_42 : decode cX5_become 42 = .ok (.getfield 27, 3) := by decide +kernel
theorem dX5_become_45 : decode cX5_become 45 = .ok (.putfield 27, 3) := by decide +kernel
theorem dX5_become_48 : decode cX5_become 48 = .ok (.aload_n 0, 1) := by decide +kernel
theorem dX5_become_49 : decode cX5_become 49 = .ok (.aload_n 1, 1) := by decide +kernel
theorem dX5_become_50 : decode cX5_become 50 = .ok (.getfield 30, 3) := by decide +kernel
theorem dX5_become_53 : decode cX5_become 53 = .ok (.putfield 30, 3) := by decide +kernel
theorem dX5_become_56 : decode cX5_become 56 = .ok (.aload_n 0, 1) := by decide +kernel
theorem dX5_become_57 : decode cX5_become 57 = .ok (.iconst 0, 1) := by decide +kernel
theorem dX5_become_58 : decode cX5_become 58 = .ok (.putfield 33, 3) := by decide +kernel
