theorem d_law_0 : decode code 0 = .ok (.new 8, 3) := by decide +kernel
theorem d_law_3 : decode code 3 = .ok (.dup, 1) := by decide +kernel
theorem d_law_4 : decode code 4 = .ok (.invokespecial 63, 3) := by decide +kernel
theorem d_law_7 : decode code 7 = .ok (.astore_n 1, 1) := by decide +kernel
theorem d_law_8 : decode code 8 = .ok (.new 64, 3) := by decide +kernel
theorem d_law_11 : decode code 11 = .ok (.dup, 1) := by decide +kernel
theorem d_law_12 : decode code 12 = .ok (.invokespecial 66, 3) := by decide +kernel
theorem d_law_15 : decode code 15 = .ok (.astore_n 2, 1) := by decide +kernel
theorem d_law_16 : decode code 16 = .ok (.iconst 1, 1) := by decide +kernel
theorem d_law_17 : decode code 17 = .ok (.newarray .long, 2) := by decide +kernel
theorem d_law_19 : decode code 19 = .ok (.astore_n 3, 1) := by decide +kernel
theorem d_law_20 : decode code 20 = .ok (.iconst 0, 1) := by decide +kernel
theorem d_law_21 : decode code 21 = .ok (.istore 4, 2) := by decide +kernel
theorem d_law_23 : decode code 23 = .ok (.iload 4, 2) := by decide +kernel
theorem d_law_25 : decode code 25 = .ok (.aload_n 0, 1) := by decide +kernel
theorem d_law_26 : decode code 26 = .ok (.arraylength, 1) := by decide +kernel
theorem d_law_27 : decode code 27 = .ok (.iconst 4, 1) := by decide +kernel
theorem d_law_28 : decode code 28 = .ok (.isub, 1) := by decide +kernel
theorem d_law_29 : decode code 29 = .ok (.if_icmp .gt 1027, 3) := by decide +kernel
theorem d_law_32 : decode code 32 = .ok (.aload_n 0, 1) := by decide +kernel
theorem d_law_33 : decode code 33 = .ok (.iload 4, 2) := by decide +kernel
theorem d_law_35 : decode code 35 = .ok (.iaload, 1) := by decide +kernel
theorem d_law_36 : decode code 36 = .ok (.bipush 15, 2) := by decide +kernel
theorem d_law_38 : decode code 38 = .ok (.iand, 1) := by decide +kernel
theorem d_law_39 : decode code 39 = .ok (.tableswitch 1011 0 14 #[73, 148, 223, 236, 292, 348, 404, 460, 535, 603, 683, 751, 819, 887, 955], 73) := by decide +kernel
theorem d_law_112 : decode code 112 = .ok (.aload_n 1, 1) := by decide +kernel
theorem d_law_113 : decode code 113 = .ok (.aload_n 0, 1) := by decide +kernel
theorem d_law_114 : decode code 114 = .ok (.iload 4, 2) := by decide +kernel
theorem d_law_116 : decode code 116 = .ok (.iconst 1, 1) := by decide +kernel
theorem d_law_117 : decode code 117 = .ok (.iadd, 1) := by decide +kernel
theorem d_law_118 : decode code 118 = .ok (.iaload, 1) := by decide +kernel
theorem d_law_119 : decode code 119 = .ok (.aload_n 0, 1) := by decide +kernel
theorem d_law_120 : decode code 120 = .ok (.iload 4, 2) := by decide +kernel
theorem d_law_122 : decode code 122 = .ok (.iconst 2, 1) := by decide +kernel
theorem d_law_123 : decode code 123 = .ok (.iadd, 1) := by decide +kernel
theorem d_law_124 : decode code 124 = .ok (.iaload, 1) := by decide +kernel
theorem d_law_125 : decode code 125 = .ok (.aload_n 3, 1) := by decide +kernel
theorem d_law_126 : decode code 126 = .ok (.invokestatic 67, 3) := by decide +kernel
theorem d_law_129 : decode code 129 = .ok (.istore 5, 2) := by decide +kernel
theorem d_law_131 : decode code 131 = .ok (.aload_n 2, 1) := by decide +kernel
theorem d_law_132 : decode code 132 = .ok (.aload_n 0, 1) := by decide +kernel
theorem d_law_133 : decode code 133 = .ok (.iload 4, 2) := by decide +kernel
theorem d_law_135 : decode code 135 = .ok (.iconst 1, 1) := by decide +kernel
theorem d_law_136 : decode code 136 = .ok (.iadd, 1) := by decide +kernel
theorem d_law_137 : decode code 137 = .ok (.iaload, 1) := by decide +kernel
theorem d_law_138 : decode code 138 = .ok (.aload_n 0, 1) := by decide +kernel
theorem d_law_139 : decode code 139 = .ok (.iload 4, 2) := by decide +kernel
theorem d_law_141 : decode code 141 = .ok (.iconst 2, 1) := by decide +kernel
theorem d_law_142 : decode code 142 = .ok (.iadd, 1) := by decide +kernel
theorem d_law_143 : decode code 143 = .ok (.iaload, 1) := by decide +kernel
theorem d_law_144 : decode code 144 = .ok (.invokevirtual 72, 3) := by decide +kernel
theorem d_law_147 : decode code 147 = .ok (.istore 6, 2) := by decide +kernel
theorem d_law_149 : decode code 149 = .ok (.aload_n 2, 1) := by decide +kernel
theorem d_law_150 : decode code 150 = .ok (.invokevirtual 73, 3) := by decide +kernel
theorem d_law_153 : decode code 153 = .ok (.iload 5, 2) := by decide +kernel
theorem d_law_155 : decode code 155 = .ok (.if_icmp .eq 5, 3) := by decide +kernel
theorem d_law_158 : decode code 158 = .ok (.iconst 0, 1) := by decide +kernel
theorem d_law_159 : decode code 159 = .ok (.ireturn, 1) := by decide +kernel
theorem d_law_160 : decode code 160 = .ok (.iload 5, 2) := by decide +kernel
theorem d_law_162 : decode code 162 = .ok (.ifCond .ne 22, 3) := by decide +kernel
theorem d_law_165 : decode code 165 = .ok (.aload_n 3, 1) := by decide +kernel
theorem d_law_166 : decode code 166 = .ok (.iconst 0, 1) := by decide +kernel
theorem d_law_167 : decode code 167 = .ok (.laload, 1) := by decide +kernel
theorem d_law_168 : decode code 168 = .ok (.iload 6, 2) := by decide +kernel
theorem d_law_170 : decode code 170 = .ok (.ifCond .eq 7, 3) := by decide +kernel
theorem d_law_173 : decode code 173 = .ok (.lconst 1, 1) := by decide +kernel
theorem d_law_174 : decode code 174 = .ok (.goto 4, 3) := by decide +kernel
theorem d_law_177 : decode code 177 = .ok (.lconst 0, 1) := by decide +kernel
theorem d_law_178 : decode code 178 = .ok (.lcmp, 1) := by decide +kernel
theorem d_law_179 : decode code 179 = .ok (.ifCond .eq 5, 3) := by decide +kernel
theorem d_law_182 : decode code 182 = .ok (.iconst 0, 1) := by decide +kernel
theorem d_law_183 : decode code 183 = .ok (.ireturn, 1) := by decide +kernel
theorem d_law_184 : decode code 184 = .ok (.goto 866, 3) := by decide +kernel
theorem d_law_187 : decode code 187 = .ok (.aload_n 1, 1) := by decide +kernel
theorem d_law_188 : decode code 188 = .ok (.aload_n 0, 1) := by decide +kernel
theorem d_law_189 : decode code 189 = .ok (.iload 4, 2) := by decide +kernel
theorem d_law_191 : decode code 191 = .ok (.iconst 1, 1) := by decide +kernel
theorem d_law_192 : decode code 192 = .ok (.iadd, 1) := by decide +kernel
theorem d_law_193 : decode code 193 = .ok (.iaload, 1) := by decide +kernel
theorem d_law_194 : decode code 194 = .ok (.aload_n 0, 1) := by decide +kernel
theorem d_law_195 : decode code 195 = .ok (.iload 4, 2) := by decide +kernel
theorem d_law_197 : decode code 197 = .ok (.iconst 2, 1) := by decide +kernel
theorem d_law_198 : decode code 198 = .ok (.iadd, 1) := by decide +kernel
theorem d_law_199 : decode code 199 = .ok (.iaload, 1) := by decide +kernel
theorem d_law_200 : decode code 200 = .ok (.aload_n 3, 1) := by decide +kernel
theorem d_law_201 : decode code 201 = .ok (.invokestatic 77, 3) := by decide +kernel
theorem d_law_204 : decode code 204 = .ok (.istore 5, 2) := by decide +kernel
theorem d_law_206 : decode code 206 = .ok (.aload_n 2, 1) := by decide +kernel
theorem d_law_207 : decode code 207 = .ok (.aload_n 0, 1) := by decide +kernel
theorem d_law_208 : decode code 208 = .ok (.iload 4, 2) := by decide +kernel
theorem d_law_210 : decode code 210 = .ok (.iconst 1, 1) := by decide +kernel
theorem d_law_211 : decode code 211 = .ok (.iadd, 1) := by decide +kernel
theorem d_law_212 : decode code 212 = .ok (.iaload, 1) := by decide +kernel
theorem d_law_213 : decode code 213 = .ok (.aload_n 0, 1) := by decide +kernel
theorem d_law_214 : decode code 214 = .ok (.iload 4, 2) := by decide +kernel
theorem d_law_216 : decode code 216 = .ok (.iconst 2, 1) := by decide +kernel
theorem d_law_217 : decode code 217 = .ok (.iadd, 1) := by decide +kernel
theorem d_law_218 : decode code 218 = .ok (.iaload, 1) := by decide +kernel
theorem d_law_219 : decode code 219 = .ok (.invokevirtual 79, 3) := by decide +kernel
theorem d_law_222 : decode code 222 = .ok (.istore 6, 2) := by decide +kernel
theorem d_law_224 : decode code 224 = .ok (.aload_n 2, 1) := by decide +kernel
theorem d_law_225 : decode code 225 = .ok (.invokevirtual 73, 3) := by decide +kernel
theorem d_law_228 : decode code 228 = .ok (.iload 5, 2) := by decide +kernel
theorem d_law_230 : decode code 230 = .ok (.if_icmp .eq 5, 3) := by decide +kernel
theorem d_law_233 : decode code 233 = .ok (.iconst 0, 1) := by decide +kernel
theorem d_law_234 : decode code 234 = .ok (.ireturn, 1) := by decide +kernel
theorem d_law_235 : decode code 235 = .ok (.iload 5, 2) := by decide +kernel
theorem d_law_237 : decode code 237 = .ok (.ifCond .ne 22, 3) := by decide +kernel
theorem d_law_240 : decode code 240 = .ok (.aload_n 3, 1) := by decide +kernel
theorem d_law_241 : decode code 241 = .ok (.iconst 0, 1) := by decide +kernel
theorem d_law_242 : decode code 242 = .ok (.laload, 1) := by decide +kernel
theorem d_law_243 : decode code 243 = .ok (.iload 6, 2) := by decide +kernel
theorem d_law_245 : decode code 245 = .ok (.ifCond .eq 7, 3) := by decide +kernel
theorem d_law_248 : decode code 248 = .ok (.lconst 1, 1) := by decide +kernel
theorem d_law_249 : decode code 249 = .ok (.goto 4, 3) := by decide +kernel
theorem d_law_252 : decode code 252 = .ok (.lconst 0, 1) := by decide +kernel
theorem d_law_253 : decode code 253 = .ok (.lcmp, 1) := by decide +kernel
theorem d_law_254 : decode code 254 = .ok (.ifCond .eq 5, 3) := by decide +kernel
theorem d_law_257 : decode code 257 = .ok (.iconst 0, 1) := by decide +kernel
theorem d_law_258 : decode code 258 = .ok (.ireturn, 1) := by decide +kernel
theorem d_law_259 : decode code 259 = .ok (.goto 791, 3) := by decide +kernel
theorem d_law_262 : decode code 262 = .ok (.aload_n 1, 1) := by decide +kernel
theorem d_law_263 : decode code 263 = .ok (.invokevirtual 80, 3) := by decide +kernel
theorem d_law_266 : decode code 266 = .ok (.aload_n 2, 1) := by decide +kernel
theorem d_law_267 : decode code 267 = .ok (.invokevirtual 83, 3) := by decide +kernel
theorem d_law_270 : decode code 270 = .ok (.if_icmp .eq 780, 3) := by decide +kernel
theorem d_law_273 : decode code 273 = .ok (.iconst 0, 1) := by decide +kernel
theorem d_law_274 : decode code 274 = .ok (.ireturn, 1) := by decide +kernel
theorem d_law_275 : decode code 275 = .ok (.aload_n 1, 1) := by decide +kernel
theorem d_law_276 : decode code 276 = .ok (.aload_n 0, 1) := by decide +kernel
theorem d_law_277 : decode code 277 = .ok (.iload 4, 2) := by decide +kernel
theorem d_law_279 : decode code 279 = .ok (.iconst 1, 1) := by decide +kernel
theorem d_law_280 : decode code 280 = .ok (.iadd, 1) := by decide +kernel
theorem d_law_281 : decode code 281 = .ok (.iaload, 1) := by decide +kernel
theorem d_law_282 : decode code 282 = .ok (.aload_n 3, 1) := by decide +kernel
theorem d_law_283 : decode code 283 = .ok (.invokestatic 84, 3) := by decide +kernel
theorem d_law_286 : decode code 286 = .ok (.istore 5, 2) := by decide +kernel
theorem d_law_288 : decode code 288 = .ok (.aload_n 2, 1) := by decide +kernel
theorem d_law_289 : decode code 289 = .ok (.aload_n 0, 1) := by decide +kernel
theorem d_law_290 : decode code 290 = .ok (.iload 4, 2) := by decide +kernel
theorem d_law_292 : decode code 292 = .ok (.iconst 1, 1) := by decide +kernel
theorem d_law_293 : decode code 293 = .ok (.iadd, 1) := by decide +kernel
theorem d_law_294 : decode code 294 = .ok (.iaload, 1) := by decide +kernel
theorem d_law_295 : decode code 295 = .ok (.invokevirtual 87, 3) := by decide +kernel
theorem d_law_298 : decode code 298 = .ok (.istore 6, 2) := by decide +kernel
theorem d_law_300 : decode code 300 = .ok (.aload_n 2, 1) := by decide +kernel
theorem d_law_301 : decode code 301 = .ok (.invokevirtual 73, 3) := by decide +kernel
theorem d_law_304 : decode code 304 = .ok (.iload 5, 2) := by decide +kernel
theorem d_law_306 : decode code 306 = .ok (.if_icmp .eq 5, 3) := by decide +kernel
theorem d_law_309 : decode code 309 = .ok (.iconst 0, 1) := by decide +kernel
theorem d_law_310 : decode code 310 = .ok (.ireturn, 1) := by decide +kernel
theorem d_law_311 : decode code 311 = .ok (.iload 5, 2) := by decide +kernel
theorem d_law_313 : decode code 313 = .ok (.ifCond .ne 15, 3) := by decide +kernel
theorem d_law_316 : decode code 316 = .ok (.aload_n 3, 1) := by decide +kernel
theorem d_law_317 : decode code 317 = .ok (.iconst 0, 1) := by decide +kernel
theorem d_law_318 : decode code 318 = .ok (.laload, 1) := by decide +kernel
theorem d_law_319 : decode code 319 = .ok (.iload 6, 2) := by decide +kernel
theorem d_law_321 : decode code 321 = .ok (.i2l, 1) := by decide +kernel
theorem d_law_322 : decode code 322 = .ok (.lcmp, 1) := by decide +kernel
theorem d_law_323 : decode code 323 = .ok (.ifCond .eq 5, 3) := by decide +kernel
