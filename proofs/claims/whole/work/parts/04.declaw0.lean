theorem d_LA_law_0 : decode b_LA_law 0 = .ok (.new 8, 3) := by decide +kernel
theorem d_LA_law_3 : decode b_LA_law 3 = .ok (.dup, 1) := by decide +kernel
theorem d_LA_law_4 : decode b_LA_law 4 = .ok (.aload_n 0, 1) := by decide +kernel
theorem d_LA_law_5 : decode b_LA_law 5 = .ok (.iconst 0, 1) := by decide +kernel
theorem d_LA_law_6 : decode b_LA_law 6 = .ok (.invokestatic 65, 3) := by decide +kernel
theorem d_LA_law_9 : decode b_LA_law 9 = .ok (.invokespecial 71, 3) := by decide +kernel
theorem d_LA_law_12 : decode b_LA_law 12 = .ok (.astore_n 1, 1) := by decide +kernel
theorem d_LA_law_13 : decode b_LA_law 13 = .ok (.new 73, 3) := by decide +kernel
theorem d_LA_law_16 : decode b_LA_law 16 = .ok (.dup, 1) := by decide +kernel
theorem d_LA_law_17 : decode b_LA_law 17 = .ok (.aload_n 0, 1) := by decide +kernel
theorem d_LA_law_18 : decode b_LA_law 18 = .ok (.iconst 0, 1) := by decide +kernel
theorem d_LA_law_19 : decode b_LA_law 19 = .ok (.invokestatic 65, 3) := by decide +kernel
theorem d_LA_law_22 : decode b_LA_law 22 = .ok (.invokespecial 75, 3) := by decide +kernel
theorem d_LA_law_25 : decode b_LA_law 25 = .ok (.astore_n 2, 1) := by decide +kernel
theorem d_LA_law_26 : decode b_LA_law 26 = .ok (.iconst 1, 1) := by decide +kernel
theorem d_LA_law_27 : decode b_LA_law 27 = .ok (.newarray .long, 2) := by decide +kernel
theorem d_LA_law_29 : decode b_LA_law 29 = .ok (.astore_n 3, 1) := by decide +kernel
theorem d_LA_law_30 : decode b_LA_law 30 = .ok (.iconst 1, 1) := by decide +kernel
theorem d_LA_law_31 : decode b_LA_law 31 = .ok (.istore 4, 2) := by decide +kernel
theorem d_LA_law_33 : decode b_LA_law 33 = .ok (.iload 4, 2) := by decide +kernel
theorem d_LA_law_35 : decode b_LA_law 35 = .ok (.aload_n 0, 1) := by decide +kernel
theorem d_LA_law_36 : decode b_LA_law 36 = .ok (.arraylength, 1) := by decide +kernel
theorem d_LA_law_37 : decode b_LA_law 37 = .ok (.iconst 4, 1) := by decide +kernel
theorem d_LA_law_38 : decode b_LA_law 38 = .ok (.isub, 1) := by decide +kernel
theorem d_LA_law_39 : decode b_LA_law 39 = .ok (.if_icmp .gt 979, 3) := by decide +kernel
theorem d_LA_law_42 : decode b_LA_law 42 = .ok (.aload_n 0, 1) := by decide +kernel
theorem d_LA_law_43 : decode b_LA_law 43 = .ok (.iload 4, 2) := by decide +kernel
theorem d_LA_law_45 : decode b_LA_law 45 = .ok (.iaload, 1) := by decide +kernel
theorem d_LA_law_46 : decode b_LA_law 46 = .ok (.bipush 31, 2) := by decide +kernel
theorem d_LA_law_48 : decode b_LA_law 48 = .ok (.iand, 1) := by decide +kernel
theorem d_LA_law_49 : decode b_LA_law 49 = .ok (.tableswitch 963 0 16 #[83, 151, 207, 251, 306, 350, 394, 461, 529, 585, 641, 677, 690, 703, 771, 851, 907], 83) := by decide +kernel
theorem d_LA_law_132 : decode b_LA_law 132 = .ok (.aload_n 1, 1) := by decide +kernel
theorem d_LA_law_133 : decode b_LA_law 133 = .ok (.aload_n 0, 1) := by decide +kernel
theorem d_LA_law_134 : decode b_LA_law 134 = .ok (.iload 4, 2) := by decide +kernel
theorem d_LA_law_136 : decode b_LA_law 136 = .ok (.iconst 1, 1) := by decide +kernel
theorem d_LA_law_137 : decode b_LA_law 137 = .ok (.iadd, 1) := by decide +kernel
theorem d_LA_law_138 : decode b_LA_law 138 = .ok (.iaload, 1) := by decide +kernel
theorem d_LA_law_139 : decode b_LA_law 139 = .ok (.aload_n 0, 1) := by decide +kernel
theorem d_LA_law_140 : decode b_LA_law 140 = .ok (.iload 4, 2) := by decide +kernel
theorem d_LA_law_142 : decode b_LA_law 142 = .ok (.iconst 2, 1) := by decide +kernel
theorem d_LA_law_143 : decode b_LA_law 143 = .ok (.iadd, 1) := by decide +kernel
theorem d_LA_law_144 : decode b_LA_law 144 = .ok (.iaload, 1) := by decide +kernel
theorem d_LA_law_145 : decode b_LA_law 145 = .ok (.aload_n 3, 1) := by decide +kernel
theorem d_LA_law_146 : decode b_LA_law 146 = .ok (.invokestatic 76, 3) := by decide +kernel
theorem d_LA_law_149 : decode b_LA_law 149 = .ok (.istore 5, 2) := by decide +kernel
theorem d_LA_law_151 : decode b_LA_law 151 = .ok (.aload_n 2, 1) := by decide +kernel
theorem d_LA_law_152 : decode b_LA_law 152 = .ok (.aload_n 0, 1) := by decide +kernel
theorem d_LA_law_153 : decode b_LA_law 153 = .ok (.iload 4, 2) := by decide +kernel
theorem d_LA_law_155 : decode b_LA_law 155 = .ok (.iconst 1, 1) := by decide +kernel
theorem d_LA_law_156 : decode b_LA_law 156 = .ok (.iadd, 1) := by decide +kernel
theorem d_LA_law_157 : decode b_LA_law 157 = .ok (.iaload, 1) := by decide +kernel
theorem d_LA_law_158 : decode b_LA_law 158 = .ok (.aload_n 0, 1) := by decide +kernel
theorem d_LA_law_159 : decode b_LA_law 159 = .ok (.iload 4, 2) := by decide +kernel
theorem d_LA_law_161 : decode b_LA_law 161 = .ok (.iconst 2, 1) := by decide +kernel
theorem d_LA_law_162 : decode b_LA_law 162 = .ok (.iadd, 1) := by decide +kernel
theorem d_LA_law_163 : decode b_LA_law 163 = .ok (.iaload, 1) := by decide +kernel
theorem d_LA_law_164 : decode b_LA_law 164 = .ok (.invokevirtual 79, 3) := by decide +kernel
theorem d_LA_law_167 : decode b_LA_law 167 = .ok (.istore 6, 2) := by decide +kernel
theorem d_LA_law_169 : decode b_LA_law 169 = .ok (.aload_n 2, 1) := by decide +kernel
theorem d_LA_law_170 : decode b_LA_law 170 = .ok (.invokevirtual 80, 3) := by decide +kernel
theorem d_LA_law_173 : decode b_LA_law 173 = .ok (.iload 5, 2) := by decide +kernel
theorem d_LA_law_175 : decode b_LA_law 175 = .ok (.if_icmp .eq 5, 3) := by decide +kernel
theorem d_LA_law_178 : decode b_LA_law 178 = .ok (.iconst 0, 1) := by decide +kernel
theorem d_LA_law_179 : decode b_LA_law 179 = .ok (.ireturn, 1) := by decide +kernel
theorem d_LA_law_180 : decode b_LA_law 180 = .ok (.iload 5, 2) := by decide +kernel
theorem d_LA_law_182 : decode b_LA_law 182 = .ok (.ifCond .ne 15, 3) := by decide +kernel
theorem d_LA_law_185 : decode b_LA_law 185 = .ok (.aload_n 3, 1) := by decide +kernel
theorem d_LA_law_186 : decode b_LA_law 186 = .ok (.iconst 0, 1) := by decide +kernel
theorem d_LA_law_187 : decode b_LA_law 187 = .ok (.laload, 1) := by decide +kernel
theorem d_LA_law_188 : decode b_LA_law 188 = .ok (.iload 6, 2) := by decide +kernel
theorem d_LA_law_190 : decode b_LA_law 190 = .ok (.i2l, 1) := by decide +kernel
theorem d_LA_law_191 : decode b_LA_law 191 = .ok (.lcmp, 1) := by decide +kernel
theorem d_LA_law_192 : decode b_LA_law 192 = .ok (.ifCond .eq 5, 3) := by decide +kernel
theorem d_LA_law_195 : decode b_LA_law 195 = .ok (.iconst 0, 1) := by decide +kernel
theorem d_LA_law_196 : decode b_LA_law 196 = .ok (.ireturn, 1) := by decide +kernel
theorem d_LA_law_197 : decode b_LA_law 197 = .ok (.goto 815, 3) := by decide +kernel
theorem d_LA_law_200 : decode b_LA_law 200 = .ok (.aload_n 1, 1) := by decide +kernel
theorem d_LA_law_201 : decode b_LA_law 201 = .ok (.aload_n 0, 1) := by decide +kernel
theorem d_LA_law_202 : decode b_LA_law 202 = .ok (.iload 4, 2) := by decide +kernel
theorem d_LA_law_204 : decode b_LA_law 204 = .ok (.iconst 1, 1) := by decide +kernel
theorem d_LA_law_205 : decode b_LA_law 205 = .ok (.iadd, 1) := by decide +kernel
theorem d_LA_law_206 : decode b_LA_law 206 = .ok (.iaload, 1) := by decide +kernel
theorem d_LA_law_207 : decode b_LA_law 207 = .ok (.aload_n 3, 1) := by decide +kernel
theorem d_LA_law_208 : decode b_LA_law 208 = .ok (.invokestatic 83, 3) := by decide +kernel
theorem d_LA_law_211 : decode b_LA_law 211 = .ok (.istore 5, 2) := by decide +kernel
theorem d_LA_law_213 : decode b_LA_law 213 = .ok (.aload_n 2, 1) := by decide +kernel
theorem d_LA_law_214 : decode b_LA_law 214 = .ok (.aload_n 0, 1) := by decide +kernel
theorem d_LA_law_215 : decode b_LA_law 215 = .ok (.iload 4, 2) := by decide +kernel
theorem d_LA_law_217 : decode b_LA_law 217 = .ok (.iconst 1, 1) := by decide +kernel
theorem d_LA_law_218 : decode b_LA_law 218 = .ok (.iadd, 1) := by decide +kernel
theorem d_LA_law_219 : decode b_LA_law 219 = .ok (.iaload, 1) := by decide +kernel
theorem d_LA_law_220 : decode b_LA_law 220 = .ok (.invokevirtual 86, 3) := by decide +kernel
theorem d_LA_law_223 : decode b_LA_law 223 = .ok (.istore 6, 2) := by decide +kernel
theorem d_LA_law_225 : decode b_LA_law 225 = .ok (.aload_n 2, 1) := by decide +kernel
theorem d_LA_law_226 : decode b_LA_law 226 = .ok (.invokevirtual 80, 3) := by decide +kernel
theorem d_LA_law_229 : decode b_LA_law 229 = .ok (.iload 5, 2) := by decide +kernel
theorem d_LA_law_231 : decode b_LA_law 231 = .ok (.if_icmp .eq 5, 3) := by decide +kernel
theorem d_LA_law_234 : decode b_LA_law 234 = .ok (.iconst 0, 1) := by decide +kernel
theorem d_LA_law_235 : decode b_LA_law 235 = .ok (.ireturn, 1) := by decide +kernel
theorem d_LA_law_236 : decode b_LA_law 236 = .ok (.iload 5, 2) := by decide +kernel
theorem d_LA_law_238 : decode b_LA_law 238 = .ok (.ifCond .ne 15, 3) := by decide +kernel
theorem d_LA_law_241 : decode b_LA_law 241 = .ok (.aload_n 3, 1) := by decide +kernel
theorem d_LA_law_242 : decode b_LA_law 242 = .ok (.iconst 0, 1) := by decide +kernel
theorem d_LA_law_243 : decode b_LA_law 243 = .ok (.laload, 1) := by decide +kernel
theorem d_LA_law_244 : decode b_LA_law 244 = .ok (.iload 6, 2) := by decide +kernel
theorem d_LA_law_246 : decode b_LA_law 246 = .ok (.i2l, 1) := by decide +kernel
theorem d_LA_law_247 : decode b_LA_law 247 = .ok (.lcmp, 1) := by decide +kernel
theorem d_LA_law_248 : decode b_LA_law 248 = .ok (.ifCond .eq 5, 3) := by decide +kernel
theorem d_LA_law_251 : decode b_LA_law 251 = .ok (.iconst 0, 1) := by decide +kernel
theorem d_LA_law_252 : decode b_LA_law 252 = .ok (.ireturn, 1) := by decide +kernel
theorem d_LA_law_253 : decode b_LA_law 253 = .ok (.goto 759, 3) := by decide +kernel
theorem d_LA_law_256 : decode b_LA_law 256 = .ok (.aload_n 1, 1) := by decide +kernel
theorem d_LA_law_257 : decode b_LA_law 257 = .ok (.aload_n 3, 1) := by decide +kernel
theorem d_LA_law_258 : decode b_LA_law 258 = .ok (.invokestatic 87, 3) := by decide +kernel
theorem d_LA_law_261 : decode b_LA_law 261 = .ok (.istore 5, 2) := by decide +kernel
theorem d_LA_law_263 : decode b_LA_law 263 = .ok (.aload_n 2, 1) := by decide +kernel
theorem d_LA_law_264 : decode b_LA_law 264 = .ok (.invokevirtual 90, 3) := by decide +kernel
theorem d_LA_law_267 : decode b_LA_law 267 = .ok (.istore 6, 2) := by decide +kernel
theorem d_LA_law_269 : decode b_LA_law 269 = .ok (.aload_n 2, 1) := by decide +kernel
theorem d_LA_law_270 : decode b_LA_law 270 = .ok (.invokevirtual 80, 3) := by decide +kernel
theorem d_LA_law_273 : decode b_LA_law 273 = .ok (.iload 5, 2) := by decide +kernel
theorem d_LA_law_275 : decode b_LA_law 275 = .ok (.if_icmp .eq 5, 3) := by decide +kernel
theorem d_LA_law_278 : decode b_LA_law 278 = .ok (.iconst 0, 1) := by decide +kernel
theorem d_LA_law_279 : decode b_LA_law 279 = .ok (.ireturn, 1) := by decide +kernel
theorem d_LA_law_280 : decode b_LA_law 280 = .ok (.iload 5, 2) := by decide +kernel
theorem d_LA_law_282 : decode b_LA_law 282 = .ok (.ifCond .ne 15, 3) := by decide +kernel
theorem d_LA_law_285 : decode b_LA_law 285 = .ok (.aload_n 3, 1) := by decide +kernel
theorem d_LA_law_286 : decode b_LA_law 286 = .ok (.iconst 0, 1) := by decide +kernel
theorem d_LA_law_287 : decode b_LA_law 287 = .ok (.laload, 1) := by decide +kernel
theorem d_LA_law_288 : decode b_LA_law 288 = .ok (.iload 6, 2) := by decide +kernel
theorem d_LA_law_290 : decode b_LA_law 290 = .ok (.i2l, 1) := by decide +kernel
theorem d_LA_law_291 : decode b_LA_law 291 = .ok (.lcmp, 1) := by decide +kernel
theorem d_LA_law_292 : decode b_LA_law 292 = .ok (.ifCond .eq 5, 3) := by decide +kernel
theorem d_LA_law_295 : decode b_LA_law 295 = .ok (.iconst 0, 1) := by decide +kernel
theorem d_LA_law_296 : decode b_LA_law 296 = .ok (.ireturn, 1) := by decide +kernel
theorem d_LA_law_297 : decode b_LA_law 297 = .ok (.goto 715, 3) := by decide +kernel
theorem d_LA_law_300 : decode b_LA_law 300 = .ok (.aload_n 1, 1) := by decide +kernel
theorem d_LA_law_301 : decode b_LA_law 301 = .ok (.aload_n 0, 1) := by decide +kernel
theorem d_LA_law_302 : decode b_LA_law 302 = .ok (.iload 4, 2) := by decide +kernel
theorem d_LA_law_304 : decode b_LA_law 304 = .ok (.iconst 1, 1) := by decide +kernel
theorem d_LA_law_305 : decode b_LA_law 305 = .ok (.iadd, 1) := by decide +kernel
theorem d_LA_law_306 : decode b_LA_law 306 = .ok (.iaload, 1) := by decide +kernel
theorem d_LA_law_307 : decode b_LA_law 307 = .ok (.aload_n 3, 1) := by decide +kernel
theorem d_LA_law_308 : decode b_LA_law 308 = .ok (.invokestatic 91, 3) := by decide +kernel
theorem d_LA_law_311 : decode b_LA_law 311 = .ok (.istore 5, 2) := by decide +kernel
theorem d_LA_law_313 : decode b_LA_law 313 = .ok (.aload_n 2, 1) := by decide +kernel
theorem d_LA_law_314 : decode b_LA_law 314 = .ok (.aload_n 0, 1) := by decide +kernel
theorem d_LA_law_315 : decode b_LA_law 315 = .ok (.iload 4, 2) := by decide +kernel
theorem d_LA_law_317 : decode b_LA_law 317 = .ok (.iconst 1, 1) := by decide +kernel
theorem d_LA_law_318 : decode b_LA_law 318 = .ok (.iadd, 1) := by decide +kernel
