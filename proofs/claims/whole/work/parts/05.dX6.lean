theorem dX6_init_0 : decode cX6_init 0 = .ok (.aload_n 0, 1) := by decide +kernel
theorem dX6_init_1 : decode cX6_init 1 = .ok (.invokespecial 1, 3) := by decide +kernel
theorem dX6_init_4 : decode cX6_init 4 = .ok (.aload_n 0, 1) := by decide +kernel
theorem dX6_init_5 : decode cX6_init 5 = .ok (.bipush 58, 2) := by decide +kernel
theorem dX6_init_7 : decode cX6_init 7 = .ok (.newarray .int, 2) := by decide +kernel
theorem dX6_init_9 : decode cX6_init 9 = .ok (.putfield 7, 3) := by decide +kernel
theorem dX6_init_12 : decode cX6_init 12 = .ok (.aload_n 0, 1) := by decide +kernel
theorem dX6_init_13 : decode cX6_init 13 = .ok (.sipush 464, 3) := by decide +kernel
theorem dX6_init_16 : decode cX6_init 16 = .ok (.newarray .int, 2) := by decide +kernel
theorem dX6_init_18 : decode cX6_init 18 = .ok (.putfield 13, 3) := by decide +kernel
theorem dX6_init_21 : decode cX6_init 21 = .ok (.aload_n 0, 1) := by decide +kernel
theorem dX6_init_22 : decode cX6_init 22 = .ok (.bipush 58, 2) := by decide +kernel
theorem dX6_init_24 : decode cX6_init 24 = .ok (.newarray .int, 2) := by decide +kernel
theorem dX6_init_26 : decode cX6_init 26 = .ok (.putfield 16, 3) := by decide +kernel
theorem dX6_init_29 : decode cX6_init 29 = .ok (.aload_n 0, 1) := by decide +kernel
theorem dX6_init_30 : decode cX6_init 30 = .ok (.iconst 3, 1) := by decide +kernel
theorem dX6_init_31 : decode cX6_init 31 = .ok (.newarray .int, 2) := by decide +kernel
theorem dX6_init_33 : decode cX6_init 33 = .ok (.putfield 19, 3) := by decide +kernel
theorem dX6_init_36 : decode cX6_init 36 = .ok (.aload_n 0, 1) := by decide +kernel
theorem dX6_init_37 : decode cX6_init 37 = .ok (.bipush 120, 2) := by decide +kernel
theorem dX6_init_39 : decode cX6_init 39 = .ok (.newarray .int, 2) := by decide +kernel
theorem dX6_init_41 : decode cX6_init 41 = .ok (.putfield 22, 3) := by decide +kernel
theorem dX6_init_44 : decode cX6_init 44 = .ok (.aload_n 0, 1) := by decide +kernel
theorem dX6_init_45 : decode cX6_init 45 = .ok (.bipush 6, 2) := by decide +kernel
theorem dX6_init_47 : decode cX6_init 47 = .ok (.newarray .long, 2) := by decide +kernel
theorem dX6_init_49 : decode cX6_init 49 = .ok (.putfield 25, 3) := by decide +kernel
theorem dX6_init_52 : decode cX6_init 52 = .ok (.aload_n 0, 1) := by decide +kernel
theorem dX6_init_53 : decode cX6_init 53 = .ok (.bipush 6, 2) := by decide +kernel
theorem dX6_init_55 : decode cX6_init 55 = .ok (.newarray .int, 2) := by decide +kernel
theorem dX6_init_57 : decode cX6_init 57 = .ok (.putfield 29, 3) := by decide +kernel
theorem dX6_init_60 : decode cX6_init 60 = .ok (.aload_n 0, 1) := by decide +kernel
theorem dX6_init_61 : decode cX6_init 61 = .ok (.bipush 6, 2) := by decide +kernel
theorem dX6_init_63 : decode cX6_init 63 = .ok (.newarray .long, 2) := by decide +kernel
theorem dX6_init_65 : decode cX6_init 65 = .ok (.putfield 32, 3) := by decide +kernel
theorem dX6_init_68 : decode cX6_init 68 = .ok (.aload_n 0, 1) := by decide +kernel
theorem dX6_init_69 : decode cX6_init 69 = .ok (.bipush 6, 2) := by decide +kernel
theorem dX6_init_71 : decode cX6_init 71 = .ok (.newarray .long, 2) := by decide +kernel
theorem dX6_init_73 : decode cX6_init 73 = .ok (.putfield 35, 3) := by decide +kernel
theorem dX6_init_76 : decode cX6_init 76 = .ok (.aload_n 0, 1) := by decide +kernel
theorem dX6_init_77 : decode cX6_init 77 = .ok (.bipush 36, 2) := by decide +kernel
theorem dX6_init_79 : decode cX6_init 79 = .ok (.newarray .long, 2) := by decide +kernel
theorem dX6_init_81 : decode cX6_init 81 = .ok (.putfield 38, 3) := by decide +kernel
theorem dX6_init_84 : decode cX6_init 84 = .ok (.aload_n 0, 1) := by decide +kernel
theorem dX6_init_85 : decode cX6_init 85 = .ok (.bipush 6, 2) := by decide +kernel
theorem dX6_init_87 : decode cX6_init 87 = .ok (.newarray .int, 2) := by decide +kernel
theorem dX6_init_89 : decode cX6_init 89 = .ok (.putfield 41, 3) := by decide +kernel
theorem dX6_init_92 : decode cX6_init 92 = .ok (.aload_n 0, 1) := by decide +kernel
theorem dX6_init_93 : decode cX6_init 93 = .ok (.bipush 45, 2) := by decide +kernel
theorem dX6_init_95 : decode cX6_init 95 = .ok (.newarray .int, 2) := by decide +kernel
theorem dX6_init_97 : decode cX6_init 97 = .ok (.putfield 44, 3) := by decide +kernel
theorem dX6_init_100 : decode cX6_init 100 = .ok (.aload_n 0, 1) := by decide +kernel
theorem dX6_init_101 : decode cX6_init 101 = .ok (.bipush 45, 2) := by decide +kernel
theorem dX6_init_103 : decode cX6_init 103 = .ok (.newarray .int, 2) := by decide +kernel
theorem dX6_init_105 : decode cX6_init 105 = .ok (.putfield 47, 3) := by decide +kernel
theorem dX6_init_108 : decode cX6_init 108 = .ok (.aload_n 0, 1) := by decide +kernel
theorem dX6_init_109 : decode cX6_init 109 = .ok (.bipush 45, 2) := by decide +kernel
theorem dX6_init_111 : decode cX6_init 111 = .ok (.newarray .long, 2) := by decide +kernel
theorem dX6_init_113 : decode cX6_init 113 = .ok (.putfield 50, 3) := by decide +kernel
theorem dX6_init_116 : decode cX6_init 116 = .ok (.aload_n 0, 1) := by decide +kernel
theorem dX6_init_117 : decode cX6_init 117 = .ok (.bipush 45, 2) := by decide +kernel
theorem dX6_init_119 : decode cX6_init 119 = .ok (.newarray .long, 2) := by decide +kernel
theorem dX6_init_121 : decode cX6_init 121 = .ok (.putfield 53, 3) := by decide +kernel
theorem dX6_init_124 : decode cX6_init 124 = .ok (.aload_n 0, 1) := by decide +kernel
theorem dX6_init_125 : decode cX6_init 125 = .ok (.bipush 10, 2) := by decide +kernel
theorem dX6_init_127 : decode cX6_init 127 = .ok (.newarray .long, 2) := by decide +kernel
theorem dX6_init_129 : decode cX6_init 129 = .ok (.putfield 56, 3) := by decide +kernel
theorem dX6_init_132 : decode cX6_init 132 = .ok (.aload_n 0, 1) := by decide +kernel
theorem dX6_init_133 : decode cX6_init 133 = .ok (.bipush 64, 2) := by decide +kernel
theorem dX6_init_135 : decode cX6_init 135 = .ok (.newarray .int, 2) := by decide +kernel
theorem dX6_init_137 : decode cX6_init 137 = .ok (.dup, 1) := by decide +kernel
theorem dX6_init_138 : decode cX6_init 138 = .ok (.iconst 0, 1) := by decide +kernel
theorem dX6_init_139 : decode cX6_init 139 = .ok (.bipush 98, 2) := by decide +kernel
theorem dX6_init_141 : decode cX6_init 141 = .ok (.iastore, 1) := by decide +kernel
theorem dX6_init_142 : decode cX6_init 142 = .ok (.dup, 1) := by decide +kernel
theorem dX6_init_143 : decode cX6_init 143 = .ok (.iconst 1, 1) := by decide +kernel
theorem dX6_init_144 : decode cX6_init 144 = .ok (.bipush 117, 2) := by decide +kernel
theorem dX6_init_146 : decode cX6_init 146 = .ok (.iastore, 1) := by decide +kernel
theorem dX6_init_147 : decode cX6_init 147 = .ok (.dup, 1) := by decide +kernel
theorem dX6_init_148 : decode cX6_init 148 = .ok (.iconst 2, 1) := by decide +kernel
theorem dX6_init_149 : decode cX6_init 149 = .ok (.bipush 115, 2) := by decide +kernel
theorem dX6_init_151 : decode cX6_init 151 = .ok (.iastore, 1) := by decide +kernel
theorem dX6_init_152 : decode cX6_init 152 = .ok (.dup, 1) := by decide +kernel
theorem dX6_init_153 : decode cX6_init 153 = .ok (.iconst 3, 1) := by decide +kernel
theorem dX6_init_154 : decode cX6_init 154 = .ok (.iconst 0, 1) := by decide +kernel
theorem dX6_init_155 : decode cX6_init 155 = .ok (.iastore, 1) := by decide +kernel
theorem dX6_init_156 : decode cX6_init 156 = .ok (.dup, 1) := by decide +kernel
theorem dX6_init_157 : decode cX6_init 157 = .ok (.iconst 4, 1) := by decide +kernel
theorem dX6_init_158 : decode cX6_init 158 = .ok (.iconst 0, 1) := by decide +kernel
theorem dX6_init_159 : decode cX6_init 159 = .ok (.iastore, 1) := by decide +kernel
theorem dX6_init_160 : decode cX6_init 160 = .ok (.dup, 1) := by decide +kernel
theorem dX6_init_161 : decode cX6_init 161 = .ok (.iconst 5, 1) := by decide +kernel
theorem dX6_init_162 : decode cX6_init 162 = .ok (.iconst 0, 1) := by decide +kernel
theorem dX6_init_163 : decode cX6_init 163 = .ok (.iastore, 1) := by decide +kernel
theorem dX6_init_164 : decode cX6_init 164 = .ok (.dup, 1) := by decide +kernel
theorem dX6_init_165 : decode cX6_init 165 = .ok (.bipush 6, 2) := by decide +kernel
theorem dX6_init_167 : decode cX6_init 167 = .ok (.iconst 0, 1) := by decide +kernel
theorem dX6_init_168 : decode cX6_init 168 = .ok (.iastore, 1) := by decide +kernel
theorem dX6_init_169 : decode cX6_init 169 = .ok (.dup, 1) := by decide +kernel
theorem dX6_init_170 : decode cX6_init 170 = .ok (.bipush 7, 2) := by decide +kernel
theorem dX6_init_172 : decode cX6_init 172 = .ok (.iconst 0, 1) := by decide +kernel
theorem dX6_init_173 : decode cX6_init 173 = .ok (.iastore, 1) := by decide +kernel
theorem dX6_init_174 : decode cX6_init 174 = .ok (.dup, 1) := by decide +kernel
theorem dX6_init_175 : decode cX6_init 175 = .ok (.bipush 8, 2) := by decide +kernel
theorem dX6_init_177 : decode cX6_init 177 = .ok (.bipush 108, 2) := by decide +kernel
theorem dX6_init_179 : decode cX6_init 179 = .ok (.iastore, 1) := by decide +kernel
theorem dX6_init_180 : decode cX6_init 180 = .ok (.dup, 1) := by decide +kernel
theorem dX6_init_181 : decode cX6_init 181 = .ok (.bipush 9, 2) := by decide +kernel
theorem dX6_init_183 : decode cX6_init 183 = .ok (.bipush 105, 2) := by decide +kernel
theorem dX6_init_185 : decode cX6_init 185 = .ok (.iastore, 1) := by decide +kernel
theorem dX6_init_186 : decode cX6_init 186 = .ok (.dup, 1) := by decide +kernel
theorem dX6_init_187 : decode cX6_init 187 = .ok (.bipush 10, 2) := by decide +kernel
theorem dX6_init_189 : decode cX6_init 189 = .ok (.bipush 110, 2) := by decide +kernel
theorem dX6_init_191 : decode cX6_init 191 = .ok (.iastore, 1) := by decide +kernel
theorem dX6_init_192 : decode cX6_init 192 = .ok (.dup, 1) := by decide +kernel
theorem dX6_init_193 : decode cX6_init 193 = .ok (.bipush 11, 2) := by decide +kernel
theorem dX6_init_195 : decode cX6_init 195 = .ok (.bipush 101, 2) := by decide +kernel
theorem dX6_init_197 : decode cX6_init 197 = .ok (.iastore, 1) := by decide +kernel
theorem dX6_init_198 : decode cX6_init 198 = .ok (.dup, 1) := by decide +kernel
theorem dX6_init_199 : decode cX6_init 199 = .ok (.bipush 12, 2) := by decide +kernel
theorem dX6_init_201 : decode cX6_init 201 = .ok (.iconst 0, 1) := by decide +kernel
theorem dX6_init_202 : decode cX6_init 202 = .ok (.iastore, 1) := by decide +kernel
theorem dX6_init_203 : decode cX6_init 203 = .ok (.dup, 1) := by decide +kernel
theorem dX6_init_204 : decode cX6_init 204 = .ok (.bipush 13, 2) := by decide +kernel
theorem dX6_init_206 : decode cX6_init 206 = .ok (.iconst 0, 1) := by decide +kernel
theorem dX6_init_207 : decode cX6_init 207 = .ok (.iastore, 1) := by decide +kernel
theorem dX6_init_208 : decode cX6_init 208 = .ok (.dup, 1) := by decide +kernel
theorem dX6_init_209 : decode cX6_init 209 = .ok (.bipush 14, 2) := by decide +kernel
theorem dX6_init_211 : decode cX6_init 211 = .ok (.iconst 0, 1) := by decide +kernel
theorem dX6_init_212 : decode cX6_init 212 = .ok (.iastore, 1) := by decide +kernel
theorem dX6_init_213 : decode cX6_init 213 = .ok (.dup, 1) := by decide +kernel
theorem dX6_init_214 : decode cX6_init 214 = .ok (.bipush 15, 2) := by decide +kernel
theorem dX6_init_216 : decode cX6_init 216 = .ok (.iconst 0, 1) := by decide +kernel
theorem dX6_init_217 : decode cX6_init 217 = .ok (.iastore, 1) := by decide +kernel
theorem dX6_init_218 : decode cX6_init 218 = .ok (.dup, 1) := by decide +kernel
theorem dX6_init_219 : decode cX6_init 219 = .ok (.bipush 16, 2) := by decide +kernel
theorem dX6_init_221 : decode cX6_init 221 = .ok (.bipush 111, 2) := by decide +kernel
theorem dX6_init_223 : decode cX6_init 223 = .ok (.iastore, 1) := by decide +kernel
theorem dX6_init_224 : decode cX6_init 224 = .ok (.dup, 1) := by decide +kernel
theorem dX6_init_225 : decode cX6_init 225 = .ok (.bipush 17, 2) := by decide +kernel
theorem dX6_init_227 : decode cX6_init 227 = .ok (.bipush 112, 2) := by decide +kernel
theorem dX6_init_229 : decode cX6_init 229 = .ok (.iastore, 1) := by decide +kernel
theorem dX6_init_230 : decode cX6_init 230 = .ok (.dup, 1) := by decide +kernel
theorem dX6_init_231 : decode cX6_init 231 = .ok (.bipush 18, 2) := by decide +kernel
theorem dX6_init_233 : decode cX6_init 233 = .ok (.bipush 101, 2) := by decide +kernel
theorem dX6_init_235 : decode cX6_init 235 = .ok (.iastore, 1) := by decide +kernel
theorem dX6_init_236 : decode cX6_init 236 = .ok (.dup, 1) := by decide +kernel
theorem dX6_init_237 : decode cX6_init 237 = .ok (.bipush 19, 2) := by decide +kernel
theorem dX6_init_239 : decode cX6_init 239 = .ok (.bipush 110, 2) := by decide +kernel
theorem dX6_init_241 : decode cX6_init 241 = .ok (.iastore, 1) := by decide +kernel
theorem dX6_init_242 : decode cX6_init 242 = .ok (.dup, 1) := by decide +kernel
theorem dX6_init_243 : decode cX6_init 243 = .ok (.bipush 20, 2) := by decide +kernel
theorem dX6_init_245 : decode cX6_init 245 = .ok (.iconst 0, 1) := by decide +kernel
theorem dX6_init_246 : decode cX6_init 246 = .ok (.iastore, 1) := by decide +kernel
theorem dX6_init_247 : decode cX6_init 247 = .ok (.dup, 1) := by decide +kernel
theorem dX6_init_248 : decode cX6_init 248 = .ok (.bipush 21, 2) := by decide +kernel
theorem dX6_init_250 : decode cX6_init 250 = .ok (.iconst 0, 1) := by decide +kernel
theorem dX6_init_251 : decode cX6_init 251 = .ok (.iastore, 1) := by decide +kernel
theorem dX6_init_252 : decode cX6_init 252 = .ok (.dup, 1) := by decide +kernel
theorem dX6_init_253 : decode cX6_init 253 = .ok (.bipush 22, 2) := by decide +kernel
theorem dX6_init_255 : decode cX6_init 255 = .ok (.iconst 0, 1) := by decide +kernel
theorem dX6_init_256 : decode cX6_init 256 = .ok (.iastore, 1) := by decide +kernel
theorem dX6_init_257 : decode cX6_init 257 = .ok (.dup, 1) := by decide +kernel
theorem dX6_init_258 : decode cX6_init 258 = .ok (.bipush 23, 2) := by decide +kernel
theorem dX6_init_260 : decode cX6_init 260 = .ok (.iconst 0, 1) := by decide +kernel
theorem dX6_init_261 : decode cX6_init 261 = .ok (.iastore, 1) := by decide +kernel
theorem dX6_init_262 : decode cX6_init 262 = .ok (.dup, 1) := by decide +kernel
theorem dX6_init_263 : decode cX6_init 263 = .ok (.bipush 24, 2) := by decide +kernel
theorem dX6_init_265 : decode cX6_init 265 = .ok (.bipush 99, 2) := by decide +kernel
theorem dX6_init_267 : decode cX6_init 267 = .ok (.iastore, 1) := by decide +kernel
theorem dX6_init_268 : decode cX6_init 268 = .ok (.dup, 1) := by decide +kernel
theorem dX6_init_269 : decode cX6_init 269 = .ok (.bipush 25, 2) := by decide +kernel
theorem dX6_init_271 : decode cX6_init 271 = .ok (.bipush 108, 2) := by decide +kernel
theorem dX6_init_273 : decode cX6_init 273 = .ok (.iastore, 1) := by decide +kernel
theorem dX6_init_274 : decode cX6_init 274 = .ok (.dup, 1) := by decide +kernel
theorem dX6_init_275 : decode cX6_init 275 = .ok (.bipush 26, 2) := by decide +kernel
theorem dX6_init_277 : decode cX6_init 277 = .ok (.bipush 111, 2) := by decide +kernel
theorem dX6_init_279 : decode cX6_init 279 = .ok (.iastore, 1) := by decide +kernel
theorem dX6_init_280 : decode cX6_init 280 = .ok (.dup, 1) := by decide +kernel
theorem dX6_init_281 : decode cX6_init 281 = .ok (.bipush 27, 2) := by decide +kernel
theorem dX6_init_283 : decode cX6_init 283 = .ok (.bipush 115, 2) := by decide +kernel
theorem dX6_init_285 : decode cX6_init 285 = .ok (.iastore, 1) := by decide +kernel
theorem dX6_init_286 : decode cX6_init 286 = .ok (.dup, 1) := by decide +kernel
theorem dX6_init_287 : decode cX6_init 287 = .ok (.bipush 28, 2) := by decide +kernel
theorem dX6_init_289 : decode cX6_init 289 = .ok (.bipush 101, 2) := by decide +kernel
theorem dX6_init_291 : decode cX6_init 291 = .ok (.iastore, 1) := by decide +kernel
theorem dX6_init_292 : decode cX6_init 292 = .ok (.dup, 1) := by decide +kernel
theorem dX6_init_293 : decode cX6_init 293 = .ok (.bipush 29, 2) := by decide +kernel
theorem dX6_init_295 : decode cX6_init 295 = .ok (.iconst 0, 1) := by decide +kernel
theorem dX6_init_296 : decode cX6_init 296 = .ok (.iastore, 1) := by decide +kernel
theorem dX6_init_297 : decode cX6_init 297 = .ok (.dup, 1) := by decide +kernel
theorem dX6_init_298 : decode cX6_init 298 = .ok (.bipush 30, 2) := by decide +kernel
theorem dX6_init_300 : decode cX6_init 300 = .ok (.iconst 0, 1) := by decide +kernel
theorem dX6_init_301 : decode cX6_init 301 = .ok (.iastore, 1) := by decide +kernel
theorem dX6_init_302 : decode cX6_init 302 = .ok (.dup, 1) := by decide +kernel
theorem dX6_init_303 : decode cX6_init 303 = .ok (.bipush 31, 2) := by decide +kernel
theorem dX6_init_305 : decode cX6_init 305 = .ok (.iconst 0, 1) := by decide +kernel
theorem dX6_init_306 : decode cX6_init 306 = .ok (.iastore, 1) := by decide +kernel
theorem dX6_init_307 : decode cX6_init 307 = .ok (.dup, 1) := by decide +kernel
theorem dX6_init_308 : decode cX6_init 308 = .ok (.bipush 32, 2) := by decide +kernel
theorem dX6_init_310 : decode cX6_init 310 = .ok (.bipush 108, 2) := by decide +kernel
theorem dX6_init_312 : decode cX6_init 312 = .ok (.iastore, 1) := by decide +kernel
theorem dX6_init_313 : decode cX6_init 313 = .ok (.dup, 1) := by decide +kernel
theorem dX6_init_314 : decode cX6_init 314 = .ok (.bipush 33, 2) := by decide +kernel
theorem dX6_init_316 : decode cX6_init 316 = .ok (.bipush 105, 2) := by decide +kernel
theorem dX6_init_318 : decode cX6_init 318 = .ok (.iastore, 1) := by decide +kernel
theorem dX6_init_319 : decode cX6_init 319 = .ok (.dup, 1) := by decide +kernel
theorem dX6_init_320 : decode cX6_init 320 = .ok (.bipush 34, 2) := by decide +kernel
theorem dX6_init_322 : decode cX6_init 322 = .ok (.bipush 109, 2) := by decide +kernel
theorem dX6_init_324 : decode cX6_init 324 = .ok (.iastore, 1) := by decide +kernel
theorem dX6_init_325 : decode cX6_init 325 = .ok (.dup, 1) := by decide +kernel
theorem dX6_init_326 : decode cX6_init 326 = .ok (.bipush 35, 2) := by decide +kernel
theorem dX6_init_328 : decode cX6_init 328 = .ok (.bipush 105, 2) := by decide +kernel
theorem dX6_init_330 : decode cX6_init 330 = .ok (.iastore, 1) := by decide +kernel
theorem dX6_init_331 : decode cX6_init 331 = .ok (.dup, 1) := by decide +kernel
theorem dX6_init_332 : decode cX6_init 332 = .ok (.bipush 36, 2) := by decide +kernel
theorem dX6_init_334 : decode cX6_init 334 = .ok (.bipush 116, 2) := by decide +kernel
theorem dX6_init_336 : decode cX6_init 336 = .ok (.iastore, 1) := by decide +kernel
theorem dX6_init_337 : decode cX6_init 337 = .ok (.dup, 1) := by decide +kernel
theorem dX6_init_338 : decode cX6_init 338 = .ok (.bipush 37, 2) := by decide +kernel
theorem dX6_init_340 : decode cX6_init 340 = .ok (.iconst 0, 1) := by decide +kernel
theorem dX6_init_341 : decode cX6_init 341 = .ok (.iastore, 1) := by decide +kernel
theorem dX6_init_342 : decode cX6_init 342 = .ok (.dup, 1) := by decide +kernel
theorem dX6_init_343 : decode cX6_init 343 = .ok (.bipush 38, 2) := by decide +kernel
theorem dX6_init_345 : decode cX6_init 345 = .ok (.iconst 0, 1) := by decide +kernel
theorem dX6_init_346 : decode cX6_init 346 = .ok (.iastore, 1) := by decide +kernel
theorem dX6_init_347 : decode cX6_init 347 = .ok (.dup, 1) := by decide +kernel
theorem dX6_init_348 : decode cX6_init 348 = .ok (.bipush 39, 2) := by decide +kernel
theorem dX6_init_350 : decode cX6_init 350 = .ok (.iconst 0, 1) := by decide +kernel
theorem dX6_init_351 : decode cX6_init 351 = .ok (.iastore, 1) := by decide +kernel
theorem dX6_init_352 : decode cX6_init 352 = .ok (.dup, 1) := by decide +kernel
theorem dX6_init_353 : decode cX6_init 353 = .ok (.bipush 40, 2) := by decide +kernel
theorem dX6_init_355 : decode cX6_init 355 = .ok (.bipush 115, 2) := by decide +kernel
theorem dX6_init_357 : decode cX6_init 357 = .ok (.iastore, 1) := by decide +kernel
theorem dX6_init_358 : decode cX6_init 358 = .ok (.dup, 1) := by decide +kernel
theorem dX6_init_359 : decode cX6_init 359 = .ok (.bipush 41, 2) := by decide +kernel
theorem dX6_init_361 : decode cX6_init 361 = .ok (.bipush 116, 2) := by decide +kernel
theorem dX6_init_363 : decode cX6_init 363 = .ok (.iastore, 1) := by decide +kernel
theorem dX6_init_364 : decode cX6_init 364 = .ok (.dup, 1) := by decide +kernel
theorem dX6_init_365 : decode cX6_init 365 = .ok (.bipush 42, 2) := by decide +kernel
theorem dX6_init_367 : decode cX6_init 367 = .ok (.bipush 114, 2) := by decide +kernel
theorem dX6_init_369 : decode cX6_init 369 = .ok (.iastore, 1) := by decide +kernel
theorem dX6_init_370 : decode cX6_init 370 = .ok (.dup, 1) := by decide +kernel
theorem dX6_init_371 : decode cX6_init 371 = .ok (.bipush 43, 2) := by decide +kernel
theorem dX6_init_373 : decode cX6_init 373 = .ok (.bipush 101, 2) := by decide +kernel
theorem dX6_init_375 : decode cX6_init 375 = .ok (.iastore, 1) := by decide +kernel
theorem dX6_init_376 : decode cX6_init 376 = .ok (.dup, 1) := by decide +kernel
theorem dX6_init_377 : decode cX6_init 377 = .ok (.bipush 44, 2) := by decide +kernel
theorem dX6_init_379 : decode cX6_init 379 = .ok (.bipush 110, 2) := by decide +kernel
theorem dX6_init_381 : decode cX6_init 381 = .ok (.iastore, 1) := by decide +kernel
theorem dX6_init_382 : decode cX6_init 382 = .ok (.dup, 1) := by decide +kernel
theorem dX6_init_383 : decode cX6_init 383 = .ok (.bipush 45, 2) := by decide +kernel
theorem dX6_init_385 : decode cX6_init 385 = .ok (.bipush 103, 2) := by decide +kernel
theorem dX6_init_387 : decode cX6_init 387 = .ok (.iastore, 1) := by decide +kernel
theorem dX6_init_388 : decode cX6_init 388 = .ok (.dup, 1) := by decide +kernel
theorem dX6_init_389 : decode cX6_init 389 = .ok (.bipush 46, 2) := by decide +kernel
theorem dX6_init_391 : decode cX6_init 391 = .ok (.bipush 116, 2) := by decide +kernel
theorem dX6_init_393 : decode cX6_init 393 = .ok (.iastore, 1) := by decide +kernel
theorem dX6_init_394 : decode cX6_init 394 = .ok (.dup, 1) := by decide +kernel
theorem dX6_init_395 : decode cX6_init 395 = .ok (.bipush 47, 2) := by decide +kernel
theorem dX6_init_397 : decode cX6_init 397 = .ok (.bipush 104, 2) := by decide +kernel
theorem dX6_init_399 : decode cX6_init 399 = .ok (.iastore, 1) := by decide +kernel
theorem dX6_init_400 : decode cX6_init 400 = .ok (.dup, 1) := by decide +kernel
theorem dX6_init_401 : decode cX6_init 401 = .ok (.bipush 48, 2) := by decide +kernel
theorem dX6_init_403 : decode cX6_init 403 = .ok (.bipush 100, 2) := by decide +kernel
theorem dX6_init_405 : decode cX6_init 405 = .ok (.iastore, 1) := by decide +kernel
theorem dX6_init_406 : decode cX6_init 406 = .ok (.dup, 1) := by decide +kernel
theorem dX6_init_407 : decode cX6_init 407 = .ok (.bipush 49, 2) := by decide +kernel
theorem dX6_init_409 : decode cX6_init 409 = .ok (.bipush 114, 2) := by decide +kernel
theorem dX6_init_411 : decode cX6_init 411 = .ok (.iastore, 1) := by decide +kernel
theorem dX6_init_412 : decode cX6_init 412 = .ok (.dup, 1) := by decide +kernel
theorem dX6_init_413 : decode cX6_init 413 = .ok (.bipush 50, 2) := by decide +kernel
theorem dX6_init_415 : decode cX6_init 415 = .ok (.bipush 111, 2) := by decide +kernel
theorem dX6_init_417 : decode cX6_init 417 = .ok (.iastore, 1) := by decide +kernel
theorem dX6_init_418 : decode cX6_init 418 = .ok (.dup, 1) := by decide +kernel
theorem dX6_init_419 : decode cX6_init 419 = .ok (.bipush 51, 2) := by decide +kernel
theorem dX6_init_421 : decode cX6_init 421 = .ok (.bipush 112, 2) := by decide +kernel
theorem dX6_init_423 : decode cX6_init 423 = .ok (.iastore, 1) := by decide +kernel
theorem dX6_init_424 : decode cX6_init 424 = .ok (.dup, 1) := by decide +kernel
theorem dX6_init_425 : decode cX6_init 425 = .ok (.bipush 52, 2) := by decide +kernel
theorem dX6_init_427 : decode cX6_init 427 = .ok (.iconst 0, 1) := by decide +kernel
theorem dX6_init_428 : decode cX6_init 428 = .ok (.iastore, 1) := by decide +kernel
theorem dX6_init_429 : decode cX6_init 429 = .ok (.dup, 1) := by decide +kernel
theorem dX6_init_430 : decode cX6_init 430 = .ok (.bipush 53, 2) := by decide +kernel
theorem dX6_init_432 : decode cX6_init 432 = .ok (.iconst 0, 1) := by decide +kernel
theorem dX6_init_433 : decode cX6_init 433 = .ok (.iastore, 1) := by decide +kernel
theorem dX6_init_434 : decode cX6_init 434 = .ok (.dup, 1) := by decide +kernel
theorem dX6_init_435 : decode cX6_init 435 = .ok (.bipush 54, 2) := by decide +kernel
theorem dX6_init_437 : decode cX6_init 437 = .ok (.iconst 0, 1) := by decide +kernel
theorem dX6_init_438 : decode cX6_init 438 = .ok (.iastore, 1) := by decide +kernel
theorem dX6_init_439 : decode cX6_init 439 = .ok (.dup, 1) := by decide +kernel
theorem dX6_init_440 : decode cX6_init 440 = .ok (.bipush 55, 2) := by decide +kernel
theorem dX6_init_442 : decode cX6_init 442 = .ok (.iconst 0, 1) := by decide +kernel
theorem dX6_init_443 : decode cX6_init 443 = .ok (.iastore, 1) := by decide +kernel
theorem dX6_init_444 : decode cX6_init 444 = .ok (.dup, 1) := by decide +kernel
theorem dX6_init_445 : decode cX6_init 445 = .ok (.bipush 56, 2) := by decide +kernel
theorem dX6_init_447 : decode cX6_init 447 = .ok (.bipush 98, 2) := by decide +kernel
theorem dX6_init_449 : decode cX6_init 449 = .ok (.iastore, 1) := by decide +kernel
theorem dX6_init_450 : decode cX6_init 450 = .ok (.dup, 1) := by decide +kernel
theorem dX6_init_451 : decode cX6_init 451 = .ok (.bipush 57, 2) := by decide +kernel
theorem dX6_init_453 : decode cX6_init 453 = .ok (.bipush 101, 2) := by decide +kernel
theorem dX6_init_455 : decode cX6_init 455 = .ok (.iastore, 1) := by decide +kernel
theorem dX6_init_456 : decode cX6_init 456 = .ok (.dup, 1) := by decide +kernel
theorem dX6_init_457 : decode cX6_init 457 = .ok (.bipush 58, 2) := by decide +kernel
theorem dX6_init_459 : decode cX6_init 459 = .ok (.bipush 103, 2) := by decide +kernel
theorem dX6_init_461 : decode cX6_init 461 = .ok (.iastore, 1) := by decide +kernel
theorem dX6_init_462 : decode cX6_init 462 = .ok (.dup, 1) := by decide +kernel
theorem dX6_init_463 : decode cX6_init 463 = .ok (.bipush 59, 2) := by decide +kernel
theorem dX6_init_465 : decode cX6_init 465 = .ok (.bipush 105, 2) := by decide +kernel
theorem dX6_init_467 : decode cX6_init 467 = .ok (.iastore, 1) := by decide +kernel
theorem dX6_init_468 : decode cX6_init 468 = .ok (.dup, 1) := by decide +kernel
theorem dX6_init_469 : decode cX6_init 469 = .ok (.bipush 60, 2) := by decide +kernel
theorem dX6_init_471 : decode cX6_init 471 = .ok (.bipush 110, 2) := by decide +kernel
theorem dX6_init_473 : decode cX6_init 473 = .ok (.iastore, 1) := by decide +kernel
theorem dX6_init_474 : decode cX6_init 474 = .ok (.dup, 1) := by decide +kernel
theorem dX6_init_475 : decode cX6_init 475 = .ok (.bipush 61, 2) := by decide +kernel
theorem dX6_init_477 : decode cX6_init 477 = .ok (.iconst 0, 1) := by decide +kernel
theorem dX6_init_478 : decode cX6_init 478 = .ok (.iastore, 1) := by decide +kernel
theorem dX6_init_479 : decode cX6_init 479 = .ok (.dup, 1) := by decide +kernel
theorem dX6_init_480 : decode cX6_init 480 = .ok (.bipush 62, 2) := by decide +kernel
theorem dX6_init_482 : decode cX6_init 482 = .ok (.iconst 0, 1) := by decide +kernel
theorem dX6_init_483 : decode cX6_init 483 = .ok (.iastore, 1) := by decide +kernel
theorem dX6_init_484 : decode cX6_init 484 = .ok (.dup, 1) := by decide +kernel
theorem dX6_init_485 : decode cX6_init 485 = .ok (.bipush 63, 2) := by decide +kernel
theorem dX6_init_487 : decode cX6_init 487 = .ok (.iconst 0, 1) := by decide +kernel
theorem dX6_init_488 : decode cX6_init 488 = .ok (.iastore, 1) := by decide +kernel
theorem dX6_init_489 : decode cX6_init 489 = .ok (.putfield 59, 3) := by decide +kernel
theorem dX6_init_492 : decode cX6_init 492 = .ok (.aload_n 0, 1) := by decide +kernel
theorem dX6_init_493 : decode cX6_init 493 = .ok (.iconst 4, 1) := by decide +kernel
theorem dX6_init_494 : decode cX6_init 494 = .ok (.newarray .int, 2) := by decide +kernel
theorem dX6_init_496 : decode cX6_init 496 = .ok (.putfield 62, 3) := by decide +kernel
theorem dX6_init_499 : decode cX6_init 499 = .ok (.aload_n 0, 1) := by decide +kernel
theorem dX6_init_500 : decode cX6_init 500 = .ok (.getfield 7, 3) := by decide +kernel
theorem dX6_init_503 : decode cX6_init 503 = .ok (.iconst 0, 1) := by decide +kernel
theorem dX6_init_504 : decode cX6_init 504 = .ok (.iconst 4, 1) := by decide +kernel
theorem dX6_init_505 : decode cX6_init 505 = .ok (.iastore, 1) := by decide +kernel
theorem dX6_init_506 : decode cX6_init 506 = .ok (.return_, 1) := by decide +kernel
theorem dX6_in_0 : decode cX6_in 0 = .ok (.lload_n 0, 1) := by decide +kernel
theorem dX6_in_1 : decode cX6_in 1 = .ok (.lload_n 2, 1) := by decide +kernel
theorem dX6_in_2 : decode cX6_in 2 = .ok (.lcmp, 1) := by decide +kernel
theorem dX6_in_3 : decode cX6_in 3 = .ok (.ifCond .lt 14, 3) := by decide +kernel
theorem dX6_in_6 : decode cX6_in 6 = .ok (.lload_n 0, 1) := by decide +kernel
theorem dX6_in_7 : decode cX6_in 7 = .ok (.lload 4, 2) := by decide +kernel
theorem dX6_in_9 : decode cX6_in 9 = .ok (.lcmp, 1) := by decide +kernel
theorem dX6_in_10 : decode cX6_in 10 = .ok (.ifCond .gt 7, 3) := by decide +kernel
theorem dX6_in_13 : decode cX6_in 13 = .ok (.iconst 1, 1) := by decide +kernel
theorem dX6_in_14 : decode cX6_in 14 = .ok (.goto 4, 3) := by decide +kernel
theorem dX6_in_17 : decode cX6_in 17 = .ok (.iconst 0, 1) := by decide +kernel
theorem dX6_in_18 : decode cX6_in 18 = .ok (.ireturn, 1) := by decide +kernel
theorem dX6_refuses_0 : decode cX6_refuses 0 = .ok (.aload_n 0, 1) := by decide +kernel
theorem dX6_refuses_1 : decode cX6_refuses 1 = .ok (.getfield 19, 3) := by decide +kernel
theorem dX6_refuses_4 : decode cX6_refuses 4 = .ok (.bipush (-2), 2) := by decide +kernel
theorem dX6_refuses_6 : decode cX6_refuses 6 = .ok (.iload_n 1, 1) := by decide +kernel
theorem dX6_refuses_7 : decode cX6_refuses 7 = .ok (.isub, 1) := by decide +kernel
theorem dX6_refuses_8 : decode cX6_refuses 8 = .ok (.dup2, 1) := by decide +kernel
theorem dX6_refuses_9 : decode cX6_refuses 9 = .ok (.iaload, 1) := by decide +kernel
theorem dX6_refuses_10 : decode cX6_refuses 10 = .ok (.iconst 1, 1) := by decide +kernel
theorem dX6_refuses_11 : decode cX6_refuses 11 = .ok (.iadd, 1) := by decide +kernel
theorem dX6_refuses_12 : decode cX6_refuses 12 = .ok (.iastore, 1) := by decide +kernel
theorem dX6_refuses_13 : decode cX6_refuses 13 = .ok (.iload_n 1, 1) := by decide +kernel
theorem dX6_refuses_14 : decode cX6_refuses 14 = .ok (.ireturn, 1) := by decide +kernel
theorem dX6_lineAt_0 : decode cX6_lineAt 0 = .ok (.aload_n 0, 1) := by decide +kernel
theorem dX6_lineAt_1 : decode cX6_lineAt 1 = .ok (.getfield 7, 3) := by decide +kernel
theorem dX6_lineAt_4 : decode cX6_lineAt 4 = .ok (.bipush 8, 2) := by decide +kernel
theorem dX6_lineAt_6 : decode cX6_lineAt 6 = .ok (.iconst 5, 1) := by decide +kernel
theorem dX6_lineAt_7 : decode cX6_lineAt 7 = .ok (.iload_n 1, 1) := by decide +kernel
theorem dX6_lineAt_8 : decode cX6_lineAt 8 = .ok (.imul, 1) := by decide +kernel
theorem dX6_lineAt_9 : decode cX6_lineAt 9 = .ok (.iadd, 1) := by decide +kernel
theorem dX6_lineAt_10 : decode cX6_lineAt 10 = .ok (.iload_n 2, 1) := by decide +kernel
theorem dX6_lineAt_11 : decode cX6_lineAt 11 = .ok (.iadd, 1) := by decide +kernel
theorem dX6_lineAt_12 : decode cX6_lineAt 12 = .ok (.iaload, 1) := by decide +kernel
theorem dX6_lineAt_13 : decode cX6_lineAt 13 = .ok (.ireturn, 1) := by decide +kernel
theorem dX6_isBus_0 : decode cX6_isBus 0 = .ok (.iload_n 1, 1) := by decide +kernel
theorem dX6_isBus_1 : decode cX6_isBus 1 = .ok (.i2l, 1) := by decide +kernel
theorem dX6_isBus_2 : decode cX6_isBus 2 = .ok (.lconst 0, 1) := by decide +kernel
theorem dX6_isBus_3 : decode cX6_isBus 3 = .ok (.aload_n 0, 1) := by decide +kernel
theorem dX6_isBus_4 : decode cX6_isBus 4 = .ok (.getfield 7, 3) := by decide +kernel
theorem dX6_isBus_7 : decode cX6_isBus 7 = .ok (.iconst 0, 1) := by decide +kernel
theorem dX6_isBus_8 : decode cX6_isBus 8 = .ok (.iaload, 1) := by decide +kernel
theorem dX6_isBus_9 : decode cX6_isBus 9 = .ok (.iconst 1, 1) := by decide +kernel
theorem dX6_isBus_10 : decode cX6_isBus 10 = .ok (.isub, 1) := by decide +kernel
theorem dX6_isBus_11 : decode cX6_isBus 11 = .ok (.i2l, 1) := by decide +kernel
theorem dX6_isBus_12 : decode cX6_isBus 12 = .ok (.invokestatic 65, 3) := by decide +kernel
theorem dX6_isBus_15 : decode cX6_isBus 15 = .ok (.ireturn, 1) := by decide +kernel
theorem dX6_isLine_0 : decode cX6_isLine 0 = .ok (.iload_n 1, 1) := by decide +kernel
theorem dX6_isLine_1 : decode cX6_isLine 1 = .ok (.i2l, 1) := by decide +kernel
theorem dX6_isLine_2 : decode cX6_isLine 2 = .ok (.lconst 0, 1) := by decide +kernel
theorem dX6_isLine_3 : decode cX6_isLine 3 = .ok (.aload_n 0, 1) := by decide +kernel
theorem dX6_isLine_4 : decode cX6_isLine 4 = .ok (.getfield 7, 3) := by decide +kernel
theorem dX6_isLine_7 : decode cX6_isLine 7 = .ok (.iconst 1, 1) := by decide +kernel
theorem dX6_isLine_8 : decode cX6_isLine 8 = .ok (.iaload, 1) := by decide +kernel
theorem dX6_isLine_9 : decode cX6_isLine 9 = .ok (.iconst 1, 1) := by decide +kernel
theorem dX6_isLine_10 : decode cX6_isLine 10 = .ok (.isub, 1) := by decide +kernel
theorem dX6_isLine_11 : decode cX6_isLine 11 = .ok (.i2l, 1) := by decide +kernel
theorem dX6_isLine_12 : decode cX6_isLine 12 = .ok (.invokestatic 65, 3) := by decide +kernel
theorem dX6_isLine_15 : decode cX6_isLine 15 = .ok (.ireturn, 1) := by decide +kernel
theorem dX6_isIn_0 : decode cX6_isIn 0 = .ok (.aload_n 0, 1) := by decide +kernel
theorem dX6_isIn_1 : decode cX6_isIn 1 = .ok (.iload_n 1, 1) := by decide +kernel
theorem dX6_isIn_2 : decode cX6_isIn 2 = .ok (.iconst 4, 1) := by decide +kernel
theorem dX6_isIn_3 : decode cX6_isIn 3 = .ok (.invokevirtual 69, 3) := by decide +kernel
theorem dX6_isIn_6 : decode cX6_isIn 6 = .ok (.iconst 1, 1) := by decide +kernel
theorem dX6_isIn_7 : decode cX6_isIn 7 = .ok (.if_icmp .ne 7, 3) := by decide +kernel
theorem dX6_isIn_10 : decode cX6_isIn 10 = .ok (.iconst 1, 1) := by decide +kernel
theorem dX6_isIn_11 : decode cX6_isIn 11 = .ok (.goto 4, 3) := by decide +kernel
theorem dX6_isIn_14 : decode cX6_isIn 14 = .ok (.iconst 0, 1) := by decide +kernel
theorem dX6_isIn_15 : decode cX6_isIn 15 = .ok (.ireturn, 1) := by decide +kernel
theorem dX6_has_0 : decode cX6_has 0 = .ok (.iload_n 0, 1) := by decide +kernel
theorem dX6_has_1 : decode cX6_has 1 = .ok (.iload_n 1, 1) := by decide +kernel
theorem dX6_has_2 : decode cX6_has 2 = .ok (.ishr, 1) := by decide +kernel
theorem dX6_has_3 : decode cX6_has 3 = .ok (.iconst 1, 1) := by decide +kernel
theorem dX6_has_4 : decode cX6_has 4 = .ok (.iand, 1) := by decide +kernel
theorem dX6_has_5 : decode cX6_has 5 = .ok (.iconst 1, 1) := by decide +kernel
theorem dX6_has_6 : decode cX6_has 6 = .ok (.if_icmp .ne 7, 3) := by decide +kernel
theorem dX6_has_9 : decode cX6_has 9 = .ok (.iconst 1, 1) := by decide +kernel
theorem dX6_has_10 : decode cX6_has 10 = .ok (.goto 4, 3) := by decide +kernel
theorem dX6_has_13 : decode cX6_has 13 = .ok (.iconst 0, 1) := by decide +kernel
theorem dX6_has_14 : decode cX6_has 14 = .ok (.ireturn, 1) := by decide +kernel
theorem dX6_inSet_0 : decode cX6_inSet 0 = .ok (.iconst 0, 1) := by decide +kernel
theorem dX6_inSet_1 : decode cX6_inSet 1 = .ok (.istore_n 1, 1) := by decide +kernel
theorem dX6_inSet_2 : decode cX6_inSet 2 = .ok (.iconst 0, 1) := by decide +kernel
theorem dX6_inSet_3 : decode cX6_inSet 3 = .ok (.istore_n 2, 1) := by decide +kernel
theorem dX6_inSet_4 : decode cX6_inSet 4 = .ok (.iload_n 2, 1) := by decide +kernel
theorem dX6_inSet_5 : decode cX6_inSet 5 = .ok (.aload_n 0, 1) := by decide +kernel
theorem dX6_inSet_6 : decode cX6_inSet 6 = .ok (.getfield 7, 3) := by decide +kernel
theorem dX6_inSet_9 : decode cX6_inSet 9 = .ok (.iconst 1, 1) := by decide +kernel
theorem dX6_inSet_10 : decode cX6_inSet 10 = .ok (.iaload, 1) := by decide +kernel
theorem dX6_inSet_11 : decode cX6_inSet 11 = .ok (.if_icmp .ge 27, 3) := by decide +kernel
theorem dX6_inSet_14 : decode cX6_inSet 14 = .ok (.iload_n 1, 1) := by decide +kernel
theorem dX6_inSet_15 : decode cX6_inSet 15 = .ok (.aload_n 0, 1) := by decide +kernel
theorem dX6_inSet_16 : decode cX6_inSet 16 = .ok (.iload_n 2, 1) := by decide +kernel
theorem dX6_inSet_17 : decode cX6_inSet 17 = .ok (.invokevirtual 73, 3) := by decide +kernel
theorem dX6_inSet_20 : decode cX6_inSet 20 = .ok (.ifCond .eq 9, 3) := by decide +kernel
theorem dX6_inSet_23 : decode cX6_inSet 23 = .ok (.iconst 1, 1) := by decide +kernel
theorem dX6_inSet_24 : decode cX6_inSet 24 = .ok (.iload_n 2, 1) := by decide +kernel
theorem dX6_inSet_25 : decode cX6_inSet 25 = .ok (.ishl, 1) := by decide +kernel
theorem dX6_inSet_26 : decode cX6_inSet 26 = .ok (.goto 4, 3) := by decide +kernel
theorem dX6_inSet_29 : decode cX6_inSet 29 = .ok (.iconst 0, 1) := by decide +kernel
theorem dX6_inSet_30 : decode cX6_inSet 30 = .ok (.ior, 1) := by decide +kernel
theorem dX6_inSet_31 : decode cX6_inSet 31 = .ok (.istore_n 1, 1) := by decide +kernel
theorem dX6_inSet_32 : decode cX6_inSet 32 = .ok (.iinc 2 1, 3) := by decide +kernel
theorem dX6_inSet_35 : decode cX6_inSet 35 = .ok (.goto (-31), 3) := by decide +kernel
theorem dX6_inSet_38 : decode cX6_inSet 38 = .ok (.iload_n 1, 1) := by decide +kernel
theorem dX6_inSet_39 : decode cX6_inSet 39 = .ok (.ireturn, 1) := by decide +kernel
theorem dX6_common_0 : decode cX6_common 0 = .ok (.lload_n 0, 1) := by decide +kernel
theorem dX6_common_1 : decode cX6_common 1 = .ok (.lconst 0, 1) := by decide +kernel
theorem dX6_common_2 : decode cX6_common 2 = .ok (.lcmp, 1) := by decide +kernel
theorem dX6_common_3 : decode cX6_common 3 = .ok (.ifCond .ge 8, 3) := by decide +kernel
theorem dX6_common_6 : decode cX6_common 6 = .ok (.lload_n 0, 1) := by decide +kernel
theorem dX6_common_7 : decode cX6_common 7 = .ok (.lneg, 1) := by decide +kernel
theorem dX6_common_8 : decode cX6_common 8 = .ok (.goto 4, 3) := by decide +kernel
theorem dX6_common_11 : decode cX6_common 11 = .ok (.lload_n 0, 1) := by decide +kernel
theorem dX6_common_12 : decode cX6_common 12 = .ok (.lstore 4, 2) := by decide +kernel
theorem dX6_common_14 : decode cX6_common 14 = .ok (.lload_n 2, 1) := by decide +kernel
theorem dX6_common_15 : decode cX6_common 15 = .ok (.lconst 0, 1) := by decide +kernel
theorem dX6_common_16 : decode cX6_common 16 = .ok (.lcmp, 1) := by decide +kernel
theorem dX6_common_17 : decode cX6_common 17 = .ok (.ifCond .ge 8, 3) := by decide +kernel
theorem dX6_common_20 : decode cX6_common 20 = .ok (.lload_n 2, 1) := by decide +kernel
theorem dX6_common_21 : decode cX6_common 21 = .ok (.lneg, 1) := by decide +kernel
theorem dX6_common_22 : decode cX6_common 22 = .ok (.goto 4, 3) := by decide +kernel
theorem dX6_common_25 : decode cX6_common 25 = .ok (.lload_n 2, 1) := by decide +kernel
theorem dX6_common_26 : decode cX6_common 26 = .ok (.lstore 6, 2) := by decide +kernel
theorem dX6_common_28 : decode cX6_common 28 = .ok (.lload 6, 2) := by decide +kernel
theorem dX6_common_30 : decode cX6_common 30 = .ok (.lconst 0, 1) := by decide +kernel
theorem dX6_common_31 : decode cX6_common 31 = .ok (.lcmp, 1) := by decide +kernel
theorem dX6_common_32 : decode cX6_common 32 = .ok (.ifCond .eq 21, 3) := by decide +kernel
theorem dX6_common_35 : decode cX6_common 35 = .ok (.lload 4, 2) := by decide +kernel
theorem dX6_common_37 : decode cX6_common 37 = .ok (.lload 6, 2) := by decide +kernel
theorem dX6_common_39 : decode cX6_common 39 = .ok (.lrem, 1) := by decide +kernel
theorem dX6_common_40 : decode cX6_common 40 = .ok (.lstore 8, 2) := by decide +kernel
theorem dX6_common_42 : decode cX6_common 42 = .ok (.lload 6, 2) := by decide +kernel
theorem dX6_common_44 : decode cX6_common 44 = .ok (.lstore 4, 2) := by decide +kernel
theorem dX6_common_46 : decode cX6_common 46 = .ok (.lload 8, 2) := by decide +kernel
theorem dX6_common_48 : decode cX6_common 48 = .ok (.lstore 6, 2) := by decide +kernel
theorem dX6_common_50 : decode cX6_common 50 = .ok (.goto (-22), 3) := by decide +kernel
theorem dX6_common_53 : decode cX6_common 53 = .ok (.lload 4, 2) := by decide +kernel
theorem dX6_common_55 : decode cX6_common 55 = .ok (.lreturn, 1) := by decide +kernel
theorem dX6_part_0 : decode cX6_part 0 = .ok (.lload_n 0, 1) := by decide +kernel
theorem dX6_part_1 : decode cX6_part 1 = .ok (.lload_n 2, 1) := by decide +kernel
theorem dX6_part_2 : decode cX6_part 2 = .ok (.invokestatic 77, 3) := by decide +kernel
theorem dX6_part_5 : decode cX6_part 5 = .ok (.lstore 5, 2) := by decide +kernel
theorem dX6_part_7 : decode cX6_part 7 = .ok (.iload 4, 2) := by decide +kernel
theorem dX6_part_9 : decode cX6_part 9 = .ok (.ifCond .ne 7, 3) := by decide +kernel
theorem dX6_part_12 : decode cX6_part 12 = .ok (.lload_n 0, 1) := by decide +kernel
theorem dX6_part_13 : decode cX6_part 13 = .ok (.goto 4, 3) := by decide +kernel
theorem dX6_part_16 : decode cX6_part 16 = .ok (.lload_n 2, 1) := by decide +kernel
theorem dX6_part_17 : decode cX6_part 17 = .ok (.lload 5, 2) := by decide +kernel
theorem dX6_part_19 : decode cX6_part 19 = .ok (.ldiv, 1) := by decide +kernel
theorem dX6_part_20 : decode cX6_part 20 = .ok (.lreturn, 1) := by decide +kernel
theorem dX6_parts_0 : decode cX6_parts 0 = .ok (.iconst 0, 1) := by decide +kernel
theorem dX6_parts_1 : decode cX6_parts 1 = .ok (.istore_n 2, 1) := by decide +kernel
theorem dX6_parts_2 : decode cX6_parts 2 = .ok (.iload_n 2, 1) := by decide +kernel
theorem dX6_parts_3 : decode cX6_parts 3 = .ok (.aload_n 0, 1) := by decide +kernel
theorem dX6_parts_4 : decode cX6_parts 4 = .ok (.getfield 7, 3) := by decide +kernel
theorem dX6_parts_7 : decode cX6_parts 7 = .ok (.iconst 0, 1) := by decide +kernel
theorem dX6_parts_8 : decode cX6_parts 8 = .ok (.iaload, 1) := by decide +kernel
theorem dX6_parts_9 : decode cX6_parts 9 = .ok (.if_icmp .ge 16, 3) := by decide +kernel
theorem dX6_parts_12 : decode cX6_parts 12 = .ok (.aload_n 0, 1) := by decide +kernel
theorem dX6_parts_13 : decode cX6_parts 13 = .ok (.getfield 29, 3) := by decide +kernel
theorem dX6_parts_16 : decode cX6_parts 16 = .ok (.iload_n 2, 1) := by decide +kernel
theorem dX6_parts_17 : decode cX6_parts 17 = .ok (.iload_n 2, 1) := by decide +kernel
theorem dX6_parts_18 : decode cX6_parts 18 = .ok (.iastore, 1) := by decide +kernel
theorem dX6_parts_19 : decode cX6_parts 19 = .ok (.iinc 2 1, 3) := by decide +kernel
theorem dX6_parts_22 : decode cX6_parts 22 = .ok (.goto (-20), 3) := by decide +kernel
theorem dX6_parts_25 : decode cX6_parts 25 = .ok (.iconst 0, 1) := by decide +kernel
theorem dX6_parts_26 : decode cX6_parts 26 = .ok (.istore_n 2, 1) := by decide +kernel
theorem dX6_parts_27 : decode cX6_parts 27 = .ok (.iload_n 2, 1) := by decide +kernel
theorem dX6_parts_28 : decode cX6_parts 28 = .ok (.aload_n 0, 1) := by decide +kernel
theorem dX6_parts_29 : decode cX6_parts 29 = .ok (.getfield 7, 3) := by decide +kernel
theorem dX6_parts_32 : decode cX6_parts 32 = .ok (.iconst 0, 1) := by decide +kernel
theorem dX6_parts_33 : decode cX6_parts 33 = .ok (.iaload, 1) := by decide +kernel
theorem dX6_parts_34 : decode cX6_parts 34 = .ok (.aload_n 0, 1) := by decide +kernel
theorem dX6_parts_35 : decode cX6_parts 35 = .ok (.getfield 7, 3) := by decide +kernel
theorem dX6_parts_38 : decode cX6_parts 38 = .ok (.iconst 1, 1) := by decide +kernel
theorem dX6_parts_39 : decode cX6_parts 39 = .ok (.iaload, 1) := by decide +kernel
theorem dX6_parts_40 : decode cX6_parts 40 = .ok (.imul, 1) := by decide +kernel
theorem dX6_parts_41 : decode cX6_parts 41 = .ok (.if_icmp .ge 96, 3) := by decide +kernel
theorem dX6_parts_44 : decode cX6_parts 44 = .ok (.iload_n 2, 1) := by decide +kernel
theorem dX6_parts_45 : decode cX6_parts 45 = .ok (.aload_n 0, 1) := by decide +kernel
theorem dX6_parts_46 : decode cX6_parts 46 = .ok (.getfield 7, 3) := by decide +kernel
theorem dX6_parts_49 : decode cX6_parts 49 = .ok (.iconst 1, 1) := by decide +kernel
theorem dX6_parts_50 : decode cX6_parts 50 = .ok (.iaload, 1) := by decide +kernel
theorem dX6_parts_51 : decode cX6_parts 51 = .ok (.irem, 1) := by decide +kernel
theorem dX6_parts_52 : decode cX6_parts 52 = .ok (.istore_n 3, 1) := by decide +kernel
theorem dX6_parts_53 : decode cX6_parts 53 = .ok (.aload_n 0, 1) := by decide +kernel
theorem dX6_parts_54 : decode cX6_parts 54 = .ok (.iload_n 3, 1) := by decide +kernel
theorem dX6_parts_55 : decode cX6_parts 55 = .ok (.iconst 0, 1) := by decide +kernel
theorem dX6_parts_56 : decode cX6_parts 56 = .ok (.invokevirtual 69, 3) := by decide +kernel
theorem dX6_parts_59 : decode cX6_parts 59 = .ok (.istore 4, 2) := by decide +kernel
theorem dX6_parts_61 : decode cX6_parts 61 = .ok (.aload_n 0, 1) := by decide +kernel
theorem dX6_parts_62 : decode cX6_parts 62 = .ok (.iload_n 3, 1) := by decide +kernel
theorem dX6_parts_63 : decode cX6_parts 63 = .ok (.iconst 1, 1) := by decide +kernel
theorem dX6_parts_64 : decode cX6_parts 64 = .ok (.invokevirtual 69, 3) := by decide +kernel
theorem dX6_parts_67 : decode cX6_parts 67 = .ok (.istore 5, 2) := by decide +kernel
theorem dX6_parts_69 : decode cX6_parts 69 = .ok (.iload_n 1, 1) := by decide +kernel
theorem dX6_parts_70 : decode cX6_parts 70 = .ok (.iload_n 3, 1) := by decide +kernel
theorem dX6_parts_71 : decode cX6_parts 71 = .ok (.invokestatic 81, 3) := by decide +kernel
theorem dX6_parts_74 : decode cX6_parts 74 = .ok (.ifCond .eq 57, 3) := by decide +kernel
theorem dX6_parts_77 : decode cX6_parts 77 = .ok (.aload_n 0, 1) := by decide +kernel
theorem dX6_parts_78 : decode cX6_parts 78 = .ok (.getfield 29, 3) := by decide +kernel
theorem dX6_parts_81 : decode cX6_parts 81 = .ok (.iload 4, 2) := by decide +kernel
theorem dX6_parts_83 : decode cX6_parts 83 = .ok (.iaload, 1) := by decide +kernel
theorem dX6_parts_84 : decode cX6_parts 84 = .ok (.aload_n 0, 1) := by decide +kernel
theorem dX6_parts_85 : decode cX6_parts 85 = .ok (.getfield 29, 3) := by decide +kernel
theorem dX6_parts_88 : decode cX6_parts 88 = .ok (.iload 5, 2) := by decide +kernel
theorem dX6_parts_90 : decode cX6_parts 90 = .ok (.iaload, 1) := by decide +kernel
theorem dX6_parts_91 : decode cX6_parts 91 = .ok (.if_icmp .ge 13, 3) := by decide +kernel
theorem dX6_parts_94 : decode cX6_parts 94 = .ok (.aload_n 0, 1) := by decide +kernel
theorem dX6_parts_95 : decode cX6_parts 95 = .ok (.getfield 29, 3) := by decide +kernel
theorem dX6_parts_98 : decode cX6_parts 98 = .ok (.iload 4, 2) := by decide +kernel
theorem dX6_parts_100 : decode cX6_parts 100 = .ok (.iaload, 1) := by decide +kernel
theorem dX6_parts_101 : decode cX6_parts 101 = .ok (.goto 10, 3) := by decide +kernel
theorem dX6_parts_104 : decode cX6_parts 104 = .ok (.aload_n 0, 1) := by decide +kernel
theorem dX6_parts_105 : decode cX6_parts 105 = .ok (.getfield 29, 3) := by decide +kernel
theorem dX6_parts_108 : decode cX6_parts 108 = .ok (.iload 5, 2) := by decide +kernel
theorem dX6_parts_110 : decode cX6_parts 110 = .ok (.iaload, 1) := by decide +kernel
theorem dX6_parts_111 : decode cX6_parts 111 = .ok (.istore 6, 2) := by decide +kernel
theorem dX6_parts_113 : decode cX6_parts 113 = .ok (.aload_n 0, 1) := by decide +kernel
theorem dX6_parts_114 : decode cX6_parts 114 = .ok (.getfield 29, 3) := by decide +kernel
theorem dX6_parts_117 : decode cX6_parts 117 = .ok (.iload 4, 2) := by decide +kernel
theorem dX6_parts_119 : decode cX6_parts 119 = .ok (.iload 6, 2) := by decide +kernel
theorem dX6_parts_121 : decode cX6_parts 121 = .ok (.iastore, 1) := by decide +kernel
theorem dX6_parts_122 : decode cX6_parts 122 = .ok (.aload_n 0, 1) := by decide +kernel
theorem dX6_parts_123 : decode cX6_parts 123 = .ok (.getfield 29, 3) := by decide +kernel
theorem dX6_parts_126 : decode cX6_parts 126 = .ok (.iload 5, 2) := by decide +kernel
theorem dX6_parts_128 : decode cX6_parts 128 = .ok (.iload 6, 2) := by decide +kernel
theorem dX6_parts_130 : decode cX6_parts 130 = .ok (.iastore, 1) := by decide +kernel
theorem dX6_parts_131 : decode cX6_parts 131 = .ok (.iinc 2 1, 3) := by decide +kernel
theorem dX6_parts_134 : decode cX6_parts 134 = .ok (.goto (-107), 3) := by decide +kernel
theorem dX6_parts_137 : decode cX6_parts 137 = .ok (.return_, 1) := by decide +kernel
theorem dX6_gathers_0 : decode cX6_gathers 0 = .ok (.aload_n 0, 1) := by decide +kernel
theorem dX6_gathers_1 : decode cX6_gathers 1 = .ok (.iconst 0, 1) := by decide +kernel
theorem dX6_gathers_2 : decode cX6_gathers 2 = .ok (.putfield 85, 3) := by decide +kernel
theorem dX6_gathers_5 : decode cX6_gathers 5 = .ok (.iload_n 1, 1) := by decide +kernel
theorem dX6_gathers_6 : decode cX6_gathers 6 = .ok (.iconst 1, 1) := by decide +kernel
theorem dX6_gathers_7 : decode cX6_gathers 7 = .ok (.iadd, 1) := by decide +kernel
theorem dX6_gathers_8 : decode cX6_gathers 8 = .ok (.istore_n 2, 1) := by decide +kernel
theorem dX6_gathers_9 : decode cX6_gathers 9 = .ok (.iload_n 2, 1) := by decide +kernel
theorem dX6_gathers_10 : decode cX6_gathers 10 = .ok (.aload_n 0, 1) := by decide +kernel
theorem dX6_gathers_11 : decode cX6_gathers 11 = .ok (.getfield 7, 3) := by decide +kernel
theorem dX6_gathers_14 : decode cX6_gathers 14 = .ok (.iconst 0, 1) := by decide +kernel
theorem dX6_gathers_15 : decode cX6_gathers 15 = .ok (.iaload, 1) := by decide +kernel
theorem dX6_gathers_16 : decode cX6_gathers 16 = .ok (.if_icmp .ge 39, 3) := by decide +kernel
theorem dX6_gathers_19 : decode cX6_gathers 19 = .ok (.aload_n 0, 1) := by decide +kernel
theorem dX6_gathers_20 : decode cX6_gathers 20 = .ok (.getfield 29, 3) := by decide +kernel
theorem dX6_gathers_23 : decode cX6_gathers 23 = .ok (.iload_n 2, 1) := by decide +kernel
theorem dX6_gathers_24 : decode cX6_gathers 24 = .ok (.iaload, 1) := by decide +kernel
theorem dX6_gathers_25 : decode cX6_gathers 25 = .ok (.iload_n 1, 1) := by decide +kernel
theorem dX6_gathers_26 : decode cX6_gathers 26 = .ok (.if_icmp .ne 23, 3) := by decide +kernel
theorem dX6_gathers_29 : decode cX6_gathers 29 = .ok (.aload_n 0, 1) := by decide +kernel
theorem dX6_gathers_30 : decode cX6_gathers 30 = .ok (.getfield 41, 3) := by decide +kernel
theorem dX6_gathers_33 : decode cX6_gathers 33 = .ok (.aload_n 0, 1) := by decide +kernel
theorem dX6_gathers_34 : decode cX6_gathers 34 = .ok (.getfield 85, 3) := by decide +kernel
theorem dX6_gathers_37 : decode cX6_gathers 37 = .ok (.iload_n 2, 1) := by decide +kernel
theorem dX6_gathers_38 : decode cX6_gathers 38 = .ok (.iastore, 1) := by decide +kernel
theorem dX6_gathers_39 : decode cX6_gathers 39 = .ok (.aload_n 0, 1) := by decide +kernel
theorem dX6_gathers_40 : decode cX6_gathers 40 = .ok (.dup, 1) := by decide +kernel
theorem dX6_gathers_41 : decode cX6_gathers 41 = .ok (.getfield 85, 3) := by decide +kernel
theorem dX6_gathers_44 : decode cX6_gathers 44 = .ok (.iconst 1, 1) := by decide +kernel
theorem dX6_gathers_45 : decode cX6_gathers 45 = .ok (.iadd, 1) := by decide +kernel
theorem dX6_gathers_46 : decode cX6_gathers 46 = .ok (.putfield 85, 3) := by decide +kernel
theorem dX6_gathers_49 : decode cX6_gathers 49 = .ok (.iinc 2 1, 3) := by decide +kernel
theorem dX6_gathers_52 : decode cX6_gathers 52 = .ok (.goto (-43), 3) := by decide +kernel
theorem dX6_gathers_55 : decode cX6_gathers 55 = .ok (.return_, 1) := by decide +kernel
theorem dX6_laysSquare_0 : decode cX6_laysSquare 0 = .ok (.iconst 0, 1) := by decide +kernel
theorem dX6_laysSquare_1 : decode cX6_laysSquare 1 = .ok (.istore_n 3, 1) := by decide +kernel
theorem dX6_laysSquare_2 : decode cX6_laysSquare 2 = .ok (.iload_n 3, 1) := by decide +kernel
theorem dX6_laysSquare_3 : decode cX6_laysSquare 3 = .ok (.aload_n 0, 1) := by decide +kernel
theorem dX6_laysSquare_4 : decode cX6_laysSquare 4 = .ok (.getfield 85, 3) := by decide +kernel
theorem dX6_laysSquare_7 : decode cX6_laysSquare 7 = .ok (.if_icmp .ge 237, 3) := by decide +kernel
theorem dX6_laysSquare_10 : decode cX6_laysSquare 10 = .ok (.iconst 0, 1) := by decide +kernel
theorem dX6_laysSquare_11 : decode cX6_laysSquare 11 = .ok (.istore 4, 2) := by decide +kernel
theorem dX6_laysSquare_13 : decode cX6_laysSquare 13 = .ok (.iload 4, 2) := by decide +kernel
theorem dX6_laysSquare_15 : decode cX6_laysSquare 15 = .ok (.aload_n 0, 1) := by decide +kernel
theorem dX6_laysSquare_16 : decode cX6_laysSquare 16 = .ok (.getfield 85, 3) := by decide +kernel
theorem dX6_laysSquare_19 : decode cX6_laysSquare 19 = .ok (.if_icmp .ge 219, 3) := by decide +kernel
theorem dX6_laysSquare_22 : decode cX6_laysSquare 22 = .ok (.lconst 0, 1) := by decide +kernel
theorem dX6_laysSquare_23 : decode cX6_laysSquare 23 = .ok (.lstore 5, 2) := by decide +kernel
theorem dX6_laysSquare_25 : decode cX6_laysSquare 25 = .ok (.iconst 0, 1) := by decide +kernel
theorem dX6_laysSquare_26 : decode cX6_laysSquare 26 = .ok (.istore 7, 2) := by decide +kernel
theorem dX6_laysSquare_28 : decode cX6_laysSquare 28 = .ok (.iload 7, 2) := by decide +kernel
theorem dX6_laysSquare_30 : decode cX6_laysSquare 30 = .ok (.aload_n 0, 1) := by decide +kernel
theorem dX6_laysSquare_31 : decode cX6_laysSquare 31 = .ok (.getfield 7, 3) := by decide +kernel
theorem dX6_laysSquare_34 : decode cX6_laysSquare 34 = .ok (.iconst 1, 1) := by decide +kernel
theorem dX6_laysSquare_35 : decode cX6_laysSquare 35 = .ok (.iaload, 1) := by decide +kernel
theorem dX6_laysSquare_36 : decode cX6_laysSquare 36 = .ok (.if_icmp .ge 162, 3) := by decide +kernel
theorem dX6_laysSquare_39 : decode cX6_laysSquare 39 = .ok (.aload_n 0, 1) := by decide +kernel
theorem dX6_laysSquare_40 : decode cX6_laysSquare 40 = .ok (.iload 7, 2) := by decide +kernel
theorem dX6_laysSquare_42 : decode cX6_laysSquare 42 = .ok (.iconst 0, 1) := by decide +kernel
theorem dX6_laysSquare_43 : decode cX6_laysSquare 43 = .ok (.invokevirtual 69, 3) := by decide +kernel
theorem dX6_laysSquare_46 : decode cX6_laysSquare 46 = .ok (.aload_n 0, 1) := by decide +kernel
theorem dX6_laysSquare_47 : decode cX6_laysSquare 47 = .ok (.getfield 41, 3) := by decide +kernel
theorem dX6_laysSquare_50 : decode cX6_laysSquare 50 = .ok (.iload_n 3, 1) := by decide +kernel
theorem dX6_laysSquare_51 : decode cX6_laysSquare 51 = .ok (.iaload, 1) := by decide +kernel
theorem dX6_laysSquare_52 : decode cX6_laysSquare 52 = .ok (.if_icmp .ne 7, 3) := by decide +kernel
theorem dX6_laysSquare_55 : decode cX6_laysSquare 55 = .ok (.iconst 1, 1) := by decide +kernel
theorem dX6_laysSquare_56 : decode cX6_laysSquare 56 = .ok (.goto 4, 3) := by decide +kernel
theorem dX6_laysSquare_59 : decode cX6_laysSquare 59 = .ok (.iconst 0, 1) := by decide +kernel
theorem dX6_laysSquare_60 : decode cX6_laysSquare 60 = .ok (.istore 8, 2) := by decide +kernel
theorem dX6_laysSquare_62 : decode cX6_laysSquare 62 = .ok (.aload_n 0, 1) := by decide +kernel
theorem dX6_laysSquare_63 : decode cX6_laysSquare 63 = .ok (.iload 7, 2) := by decide +kernel
theorem dX6_laysSquare_65 : decode cX6_laysSquare 65 = .ok (.iconst 1, 1) := by decide +kernel
theorem dX6_laysSquare_66 : decode cX6_laysSquare 66 = .ok (.invokevirtual 69, 3) := by decide +kernel
theorem dX6_laysSquare_69 : decode cX6_laysSquare 69 = .ok (.aload_n 0, 1) := by decide +kernel
theorem dX6_laysSquare_70 : decode cX6_laysSquare 70 = .ok (.getfield 41, 3) := by decide +kernel
theorem dX6_laysSquare_73 : decode cX6_laysSquare 73 = .ok (.iload_n 3, 1) := by decide +kernel
theorem dX6_laysSquare_74 : decode cX6_laysSquare 74 = .ok (.iaload, 1) := by decide +kernel
theorem dX6_laysSquare_75 : decode cX6_laysSquare 75 = .ok (.if_icmp .ne 7, 3) := by decide +kernel
theorem dX6_laysSquare_78 : decode cX6_laysSquare 78 = .ok (.iconst 1, 1) := by decide +kernel
theorem dX6_laysSquare_79 : decode cX6_laysSquare 79 = .ok (.goto 4, 3) := by decide +kernel
theorem dX6_laysSquare_82 : decode cX6_laysSquare 82 = .ok (.iconst 0, 1) := by decide +kernel
theorem dX6_laysSquare_83 : decode cX6_laysSquare 83 = .ok (.istore 9, 2) := by decide +kernel
theorem dX6_laysSquare_85 : decode cX6_laysSquare 85 = .ok (.iload 8, 2) := by decide +kernel
theorem dX6_laysSquare_87 : decode cX6_laysSquare 87 = .ok (.ifCond .eq 13, 3) := by decide +kernel
theorem dX6_laysSquare_90 : decode cX6_laysSquare 90 = .ok (.aload_n 0, 1) := by decide +kernel
theorem dX6_laysSquare_91 : decode cX6_laysSquare 91 = .ok (.iload 7, 2) := by decide +kernel
theorem dX6_laysSquare_93 : decode cX6_laysSquare 93 = .ok (.iconst 1, 1) := by decide +kernel
theorem dX6_laysSquare_94 : decode cX6_laysSquare 94 = .ok (.invokevirtual 69, 3) := by decide +kernel
theorem dX6_laysSquare_97 : decode cX6_laysSquare 97 = .ok (.goto 10, 3) := by decide +kernel
theorem dX6_laysSquare_100 : decode cX6_laysSquare 100 = .ok (.aload_n 0, 1) := by decide +kernel
theorem dX6_laysSquare_101 : decode cX6_laysSquare 101 = .ok (.iload 7, 2) := by decide +kernel
theorem dX6_laysSquare_103 : decode cX6_laysSquare 103 = .ok (.iconst 0, 1) := by decide +kernel
theorem dX6_laysSquare_104 : decode cX6_laysSquare 104 = .ok (.invokevirtual 69, 3) := by decide +kernel
theorem dX6_laysSquare_107 : decode cX6_laysSquare 107 = .ok (.istore 10, 2) := by decide +kernel
theorem dX6_laysSquare_109 : decode cX6_laysSquare 109 = .ok (.iload_n 1, 1) := by decide +kernel
theorem dX6_laysSquare_110 : decode cX6_laysSquare 110 = .ok (.iload 7, 2) := by decide +kernel
theorem dX6_laysSquare_112 : decode cX6_laysSquare 112 = .ok (.invokestatic 81, 3) := by decide +kernel
theorem dX6_laysSquare_115 : decode cX6_laysSquare 115 = .ok (.ifCond .eq 17, 3) := by decide +kernel
theorem dX6_laysSquare_118 : decode cX6_laysSquare 118 = .ok (.iload 8, 2) := by decide +kernel
theorem dX6_laysSquare_120 : decode cX6_laysSquare 120 = .ok (.ifCond .ne 8, 3) := by decide +kernel
theorem dX6_laysSquare_123 : decode cX6_laysSquare 123 = .ok (.iload 9, 2) := by decide +kernel
theorem dX6_laysSquare_125 : decode cX6_laysSquare 125 = .ok (.ifCond .eq 7, 3) := by decide +kernel
theorem dX6_laysSquare_128 : decode cX6_laysSquare 128 = .ok (.iconst 1, 1) := by decide +kernel
theorem dX6_laysSquare_129 : decode cX6_laysSquare 129 = .ok (.goto 4, 3) := by decide +kernel
theorem dX6_laysSquare_132 : decode cX6_laysSquare 132 = .ok (.iconst 0, 1) := by decide +kernel
theorem dX6_laysSquare_133 : decode cX6_laysSquare 133 = .ok (.istore 11, 2) := by decide +kernel
theorem dX6_laysSquare_135 : decode cX6_laysSquare 135 = .ok (.lload 5, 2) := by decide +kernel
theorem dX6_laysSquare_137 : decode cX6_laysSquare 137 = .ok (.iload 11, 2) := by decide +kernel
theorem dX6_laysSquare_139 : decode cX6_laysSquare 139 = .ok (.ifCond .eq 20, 3) := by decide +kernel
theorem dX6_laysSquare_142 : decode cX6_laysSquare 142 = .ok (.iload_n 3, 1) := by decide +kernel
theorem dX6_laysSquare_143 : decode cX6_laysSquare 143 = .ok (.iload 4, 2) := by decide +kernel
theorem dX6_laysSquare_145 : decode cX6_laysSquare 145 = .ok (.if_icmp .ne 14, 3) := by decide +kernel
theorem dX6_laysSquare_148 : decode cX6_laysSquare 148 = .ok (.aload_n 0, 1) := by decide +kernel
theorem dX6_laysSquare_149 : decode cX6_laysSquare 149 = .ok (.iload 7, 2) := by decide +kernel
theorem dX6_laysSquare_151 : decode cX6_laysSquare 151 = .ok (.iconst 2, 1) := by decide +kernel
theorem dX6_laysSquare_152 : decode cX6_laysSquare 152 = .ok (.invokevirtual 69, 3) := by decide +kernel
theorem dX6_laysSquare_155 : decode cX6_laysSquare 155 = .ok (.i2l, 1) := by decide +kernel
theorem dX6_laysSquare_156 : decode cX6_laysSquare 156 = .ok (.goto 33, 3) := by decide +kernel
theorem dX6_laysSquare_159 : decode cX6_laysSquare 159 = .ok (.iload 11, 2) := by decide +kernel
theorem dX6_laysSquare_161 : decode cX6_laysSquare 161 = .ok (.ifCond .eq 27, 3) := by decide +kernel
theorem dX6_laysSquare_164 : decode cX6_laysSquare 164 = .ok (.iload 10, 2) := by decide +kernel
theorem dX6_laysSquare_166 : decode cX6_laysSquare 166 = .ok (.aload_n 0, 1) := by decide +kernel
theorem dX6_laysSquare_167 : decode cX6_laysSquare 167 = .ok (.getfield 41, 3) := by decide +kernel
theorem dX6_laysSquare_170 : decode cX6_laysSquare 170 = .ok (.iload 4, 2) := by decide +kernel
theorem dX6_laysSquare_172 : decode cX6_laysSquare 172 = .ok (.iaload, 1) := by decide +kernel
theorem dX6_laysSquare_173 : decode cX6_laysSquare 173 = .ok (.if_icmp .ne 15, 3) := by decide +kernel
theorem dX6_laysSquare_176 : decode cX6_laysSquare 176 = .ok (.aload_n 0, 1) := by decide +kernel
theorem dX6_laysSquare_177 : decode cX6_laysSquare 177 = .ok (.iload 7, 2) := by decide +kernel
theorem dX6_laysSquare_179 : decode cX6_laysSquare 179 = .ok (.iconst 2, 1) := by decide +kernel
theorem dX6_laysSquare_180 : decode cX6_laysSquare 180 = .ok (.invokevirtual 69, 3) := by decide +kernel
theorem dX6_laysSquare_183 : decode cX6_laysSquare 183 = .ok (.ineg, 1) := by decide +kernel
theorem dX6_laysSquare_184 : decode cX6_laysSquare 184 = .ok (.i2l, 1) := by decide +kernel
theorem dX6_laysSquare_185 : decode cX6_laysSquare 185 = .ok (.goto 4, 3) := by decide +kernel
theorem dX6_laysSquare_188 : decode cX6_laysSquare 188 = .ok (.lconst 0, 1) := by decide +kernel
theorem dX6_laysSquare_189 : decode cX6_laysSquare 189 = .ok (.ladd, 1) := by decide +kernel
theorem dX6_laysSquare_190 : decode cX6_laysSquare 190 = .ok (.lstore 5, 2) := by decide +kernel
theorem dX6_laysSquare_192 : decode cX6_laysSquare 192 = .ok (.iinc 7 1, 3) := by decide +kernel
theorem dX6_laysSquare_195 : decode cX6_laysSquare 195 = .ok (.goto (-167), 3) := by decide +kernel
theorem dX6_laysSquare_198 : decode cX6_laysSquare 198 = .ok (.aload_n 0, 1) := by decide +kernel
theorem dX6_laysSquare_199 : decode cX6_laysSquare 199 = .ok (.getfield 38, 3) := by decide +kernel
theorem dX6_laysSquare_202 : decode cX6_laysSquare 202 = .ok (.bipush 6, 2) := by decide +kernel
theorem dX6_laysSquare_204 : decode cX6_laysSquare 204 = .ok (.iload_n 3, 1) := by decide +kernel
theorem dX6_laysSquare_205 : decode cX6_laysSquare 205 = .ok (.imul, 1) := by decide +kernel
theorem dX6_laysSquare_206 : decode cX6_laysSquare 206 = .ok (.iload 4, 2) := by decide +kernel
theorem dX6_laysSquare_208 : decode cX6_laysSquare 208 = .ok (.iadd, 1) := by decide +kernel
theorem dX6_laysSquare_209 : decode cX6_laysSquare 209 = .ok (.iload 4, 2) := by decide +kernel
theorem dX6_laysSquare_211 : decode cX6_laysSquare 211 = .ok (.iload_n 2, 1) := by decide +kernel
theorem dX6_laysSquare_212 : decode cX6_laysSquare 212 = .ok (.if_icmp .ne 17, 3) := by decide +kernel
theorem dX6_laysSquare_215 : decode cX6_laysSquare 215 = .ok (.aload_n 0, 1) := by decide +kernel
theorem dX6_laysSquare_216 : decode cX6_laysSquare 216 = .ok (.getfield 25, 3) := by decide +kernel
theorem dX6_laysSquare_219 : decode cX6_laysSquare 219 = .ok (.aload_n 0, 1) := by decide +kernel
theorem dX6_laysSquare_220 : decode cX6_laysSquare 220 = .ok (.getfield 41, 3) := by decide +kernel
theorem dX6_laysSquare_223 : decode cX6_laysSquare 223 = .ok (.iload_n 3, 1) := by decide +kernel
theorem dX6_laysSquare_224 : decode cX6_laysSquare 224 = .ok (.iaload, 1) := by decide +kernel
theorem dX6_laysSquare_225 : decode cX6_laysSquare 225 = .ok (.laload, 1) := by decide +kernel
theorem dX6_laysSquare_226 : decode cX6_laysSquare 226 = .ok (.goto 5, 3) := by decide +kernel
theorem dX6_laysSquare_229 : decode cX6_laysSquare 229 = .ok (.lload 5, 2) := by decide +kernel
theorem dX6_laysSquare_231 : decode cX6_laysSquare 231 = .ok (.lastore, 1) := by decide +kernel
theorem dX6_laysSquare_232 : decode cX6_laysSquare 232 = .ok (.iinc 4 1, 3) := by decide +kernel
theorem dX6_laysSquare_235 : decode cX6_laysSquare 235 = .ok (.goto (-222), 3) := by decide +kernel
theorem dX6_laysSquare_238 : decode cX6_laysSquare 238 = .ok (.iinc 3 1, 3) := by decide +kernel
theorem dX6_laysSquare_241 : decode cX6_laysSquare 241 = .ok (.goto (-239), 3) := by decide +kernel
theorem dX6_laysSquare_244 : decode cX6_laysSquare 244 = .ok (.return_, 1) := by decide +kernel
theorem dX6_swapsRows_0 : decode cX6_swapsRows 0 = .ok (.iconst 0, 1) := by decide +kernel
theorem dX6_swapsRows_1 : decode cX6_swapsRows 1 = .ok (.istore_n 3, 1) := by decide +kernel
theorem dX6_swapsRows_2 : decode cX6_swapsRows 2 = .ok (.iload_n 3, 1) := by decide +kernel
theorem dX6_swapsRows_3 : decode cX6_swapsRows 3 = .ok (.aload_n 0, 1) := by decide +kernel
theorem dX6_swapsRows_4 : decode cX6_swapsRows 4 = .ok (.getfield 85, 3) := by decide +kernel
theorem dX6_swapsRows_7 : decode cX6_swapsRows 7 = .ok (.if_icmp .ge 57, 3) := by decide +kernel
theorem dX6_swapsRows_10 : decode cX6_swapsRows 10 = .ok (.aload_n 0, 1) := by decide +kernel
theorem dX6_swapsRows_11 : decode cX6_swapsRows 11 = .ok (.getfield 38, 3) := by decide +kernel
theorem dX6_swapsRows_14 : decode cX6_swapsRows 14 = .ok (.bipush 6, 2) := by decide +kernel
theorem dX6_swapsRows_16 : decode cX6_swapsRows 16 = .ok (.iload_n 1, 1) := by decide +kernel
theorem dX6_swapsRows_17 : decode cX6_swapsRows 17 = .ok (.imul, 1) := by decide +kernel
theorem dX6_swapsRows_18 : decode cX6_swapsRows 18 = .ok (.iload_n 3, 1) := by decide +kernel
theorem dX6_swapsRows_19 : decode cX6_swapsRows 19 = .ok (.iadd, 1) := by decide +kernel
theorem dX6_swapsRows_20 : decode cX6_swapsRows 20 = .ok (.laload, 1) := by decide +kernel
theorem dX6_swapsRows_21 : decode cX6_swapsRows 21 = .ok (.lstore 4, 2) := by decide +kernel
theorem dX6_swapsRows_23 : decode cX6_swapsRows 23 = .ok (.aload_n 0, 1) := by decide +kernel
theorem dX6_swapsRows_24 : decode cX6_swapsRows 24 = .ok (.getfield 38, 3) := by decide +kernel
theorem dX6_swapsRows_27 : decode cX6_swapsRows 27 = .ok (.bipush 6, 2) := by decide +kernel
theorem dX6_swapsRows_29 : decode cX6_swapsRows 29 = .ok (.iload_n 1, 1) := by decide +kernel
theorem dX6_swapsRows_30 : decode cX6_swapsRows 30 = .ok (.imul, 1) := by decide +kernel
theorem dX6_swapsRows_31 : decode cX6_swapsRows 31 = .ok (.iload_n 3, 1) := by decide +kernel
theorem dX6_swapsRows_32 : decode cX6_swapsRows 32 = .ok (.iadd, 1) := by decide +kernel
theorem dX6_swapsRows_33 : decode cX6_swapsRows 33 = .ok (.aload_n 0, 1) := by decide +kernel
theorem dX6_swapsRows_34 : decode cX6_swapsRows 34 = .ok (.getfield 38, 3) := by decide +kernel
theorem dX6_swapsRows_37 : decode cX6_swapsRows 37 = .ok (.bipush 6, 2) := by decide +kernel
theorem dX6_swapsRows_39 : decode cX6_swapsRows 39 = .ok (.iload_n 2, 1) := by decide +kernel
theorem dX6_swapsRows_40 : decode cX6_swapsRows 40 = .ok (.imul, 1) := by decide +kernel
theorem dX6_swapsRows_41 : decode cX6_swapsRows 41 = .ok (.iload_n 3, 1) := by decide +kernel
theorem dX6_swapsRows_42 : decode cX6_swapsRows 42 = .ok (.iadd, 1) := by decide +kernel
theorem dX6_swapsRows_43 : decode cX6_swapsRows 43 = .ok (.laload, 1) := by decide +kernel
theorem dX6_swapsRows_44 : decode cX6_swapsRows 44 = .ok (.lastore, 1) := by decide +kernel
theorem dX6_swapsRows_45 : decode cX6_swapsRows 45 = .ok (.aload_n 0, 1) := by decide +kernel
theorem dX6_swapsRows_46 : decode cX6_swapsRows 46 = .ok (.getfield 38, 3) := by decide +kernel
theorem dX6_swapsRows_49 : decode cX6_swapsRows 49 = .ok (.bipush 6, 2) := by decide +kernel
theorem dX6_swapsRows_51 : decode cX6_swapsRows 51 = .ok (.iload_n 2, 1) := by decide +kernel
theorem dX6_swapsRows_52 : decode cX6_swapsRows 52 = .ok (.imul, 1) := by decide +kernel
theorem dX6_swapsRows_53 : decode cX6_swapsRows 53 = .ok (.iload_n 3, 1) := by decide +kernel
theorem dX6_swapsRows_54 : decode cX6_swapsRows 54 = .ok (.iadd, 1) := by decide +kernel
theorem dX6_swapsRows_55 : decode cX6_swapsRows 55 = .ok (.lload 4, 2) := by decide +kernel
theorem dX6_swapsRows_57 : decode cX6_swapsRows 57 = .ok (.lastore, 1) := by decide +kernel
theorem dX6_swapsRows_58 : decode cX6_swapsRows 58 = .ok (.iinc 3 1, 3) := by decide +kernel
theorem dX6_swapsRows_61 : decode cX6_swapsRows 61 = .ok (.goto (-59), 3) := by decide +kernel
theorem dX6_swapsRows_64 : decode cX6_swapsRows 64 = .ok (.return_, 1) := by decide +kernel
theorem dX6_determinant_0 : decode cX6_determinant 0 = .ok (.lconst 1, 1) := by decide +kernel
theorem dX6_determinant_1 : decode cX6_determinant 1 = .ok (.lstore_n 1, 1) := by decide +kernel
theorem dX6_determinant_2 : decode cX6_determinant 2 = .ok (.lconst 1, 1) := by decide +kernel
theorem dX6_determinant_3 : decode cX6_determinant 3 = .ok (.lstore_n 3, 1) := by decide +kernel
theorem dX6_determinant_4 : decode cX6_determinant 4 = .ok (.iconst 0, 1) := by decide +kernel
theorem dX6_determinant_5 : decode cX6_determinant 5 = .ok (.istore 5, 2) := by decide +kernel
theorem dX6_determinant_7 : decode cX6_determinant 7 = .ok (.iload 5, 2) := by decide +kernel
theorem dX6_determinant_9 : decode cX6_determinant 9 = .ok (.aload_n 0, 1) := by decide +kernel
theorem dX6_determinant_10 : decode cX6_determinant 10 = .ok (.getfield 85, 3) := by decide +kernel
theorem dX6_determinant_13 : decode cX6_determinant 13 = .ok (.if_icmp .ge 195, 3) := by decide +kernel
theorem dX6_determinant_16 : decode cX6_determinant 16 = .ok (.iload 5, 2) := by decide +kernel
theorem dX6_determinant_18 : decode cX6_determinant 18 = .ok (.istore 6, 2) := by decide +kernel
theorem dX6_determinant_20 : decode cX6_determinant 20 = .ok (.iload 6, 2) := by decide +kernel
theorem dX6_determinant_22 : decode cX6_determinant 22 = .ok (.aload_n 0, 1) := by decide +kernel
theorem dX6_determinant_23 : decode cX6_determinant 23 = .ok (.getfield 85, 3) := by decide +kernel
theorem dX6_determinant_26 : decode cX6_determinant 26 = .ok (.if_icmp .ge 27, 3) := by decide +kernel
theorem dX6_determinant_29 : decode cX6_determinant 29 = .ok (.aload_n 0, 1) := by decide +kernel
theorem dX6_determinant_30 : decode cX6_determinant 30 = .ok (.getfield 38, 3) := by decide +kernel
theorem dX6_determinant_33 : decode cX6_determinant 33 = .ok (.bipush 6, 2) := by decide +kernel
theorem dX6_determinant_35 : decode cX6_determinant 35 = .ok (.iload 6, 2) := by decide +kernel
theorem dX6_determinant_37 : decode cX6_determinant 37 = .ok (.imul, 1) := by decide +kernel
theorem dX6_determinant_38 : decode cX6_determinant 38 = .ok (.iload 5, 2) := by decide +kernel
theorem dX6_determinant_40 : decode cX6_determinant 40 = .ok (.iadd, 1) := by decide +kernel
theorem dX6_determinant_41 : decode cX6_determinant 41 = .ok (.laload, 1) := by decide +kernel
theorem dX6_determinant_42 : decode cX6_determinant 42 = .ok (.lconst 0, 1) := by decide +kernel
theorem dX6_determinant_43 : decode cX6_determinant 43 = .ok (.lcmp, 1) := by decide +kernel
theorem dX6_determinant_44 : decode cX6_determinant 44 = .ok (.ifCond .ne 9, 3) := by decide +kernel
theorem dX6_determinant_47 : decode cX6_determinant 47 = .ok (.iinc 6 1, 3) := by decide +kernel
theorem dX6_determinant_50 : decode cX6_determinant 50 = .ok (.goto (-30), 3) := by decide +kernel
theorem dX6_determinant_53 : decode cX6_determinant 53 = .ok (.iload 6, 2) := by decide +kernel
theorem dX6_determinant_55 : decode cX6_determinant 55 = .ok (.aload_n 0, 1) := by decide +kernel
theorem dX6_determinant_56 : decode cX6_determinant 56 = .ok (.getfield 85, 3) := by decide +kernel
theorem dX6_determinant_59 : decode cX6_determinant 59 = .ok (.if_icmp .ne 5, 3) := by decide +kernel
theorem dX6_determinant_62 : decode cX6_determinant 62 = .ok (.lconst 0, 1) := by decide +kernel
theorem dX6_determinant_63 : decode cX6_determinant 63 = .ok (.lreturn, 1) := by decide +kernel
theorem dX6_determinant_64 : decode cX6_determinant 64 = .ok (.iload 6, 2) := by decide +kernel
theorem dX6_determinant_66 : decode cX6_determinant 66 = .ok (.iload 5, 2) := by decide +kernel
theorem dX6_determinant_68 : decode cX6_determinant 68 = .ok (.if_icmp .le 14, 3) := by decide +kernel
theorem dX6_determinant_71 : decode cX6_determinant 71 = .ok (.aload_n 0, 1) := by decide +kernel
theorem dX6_determinant_72 : decode cX6_determinant 72 = .ok (.iload 6, 2) := by decide +kernel
theorem dX6_determinant_74 : decode cX6_determinant 74 = .ok (.iload 5, 2) := by decide +kernel
theorem dX6_determinant_76 : decode cX6_determinant 76 = .ok (.invokevirtual 89, 3) := by decide +kernel
theorem dX6_determinant_79 : decode cX6_determinant 79 = .ok (.lload_n 3, 1) := by decide +kernel
theorem dX6_determinant_80 : decode cX6_determinant 80 = .ok (.lneg, 1) := by decide +kernel
theorem dX6_determinant_81 : decode cX6_determinant 81 = .ok (.lstore_n 3, 1) := by decide +kernel
theorem dX6_determinant_82 : decode cX6_determinant 82 = .ok (.iload 5, 2) := by decide +kernel
theorem dX6_determinant_84 : decode cX6_determinant 84 = .ok (.iconst 1, 1) := by decide +kernel
theorem dX6_determinant_85 : decode cX6_determinant 85 = .ok (.iadd, 1) := by decide +kernel
theorem dX6_determinant_86 : decode cX6_determinant 86 = .ok (.istore 7, 2) := by decide +kernel
theorem dX6_determinant_88 : decode cX6_determinant 88 = .ok (.iload 7, 2) := by decide +kernel
theorem dX6_determinant_90 : decode cX6_determinant 90 = .ok (.aload_n 0, 1) := by decide +kernel
theorem dX6_determinant_91 : decode cX6_determinant 91 = .ok (.getfield 85, 3) := by decide +kernel
theorem dX6_determinant_94 : decode cX6_determinant 94 = .ok (.if_icmp .ge 97, 3) := by decide +kernel
theorem dX6_determinant_97 : decode cX6_determinant 97 = .ok (.iload 5, 2) := by decide +kernel
theorem dX6_determinant_99 : decode cX6_determinant 99 = .ok (.iconst 1, 1) := by decide +kernel
theorem dX6_determinant_100 : decode cX6_determinant 100 = .ok (.iadd, 1) := by decide +kernel
theorem dX6_determinant_101 : decode cX6_determinant 101 = .ok (.istore 8, 2) := by decide +kernel
theorem dX6_determinant_103 : decode cX6_determinant 103 = .ok (.iload 8, 2) := by decide +kernel
theorem dX6_determinant_105 : decode cX6_determinant 105 = .ok (.aload_n 0, 1) := by decide +kernel
theorem dX6_determinant_106 : decode cX6_determinant 106 = .ok (.getfield 85, 3) := by decide +kernel
theorem dX6_determinant_109 : decode cX6_determinant 109 = .ok (.if_icmp .ge 76, 3) := by decide +kernel
theorem dX6_determinant_112 : decode cX6_determinant 112 = .ok (.aload_n 0, 1) := by decide +kernel
theorem dX6_determinant_113 : decode cX6_determinant 113 = .ok (.getfield 38, 3) := by decide +kernel
theorem dX6_determinant_116 : decode cX6_determinant 116 = .ok (.bipush 6, 2) := by decide +kernel
theorem dX6_determinant_118 : decode cX6_determinant 118 = .ok (.iload 7, 2) := by decide +kernel
theorem dX6_determinant_120 : decode cX6_determinant 120 = .ok (.imul, 1) := by decide +kernel
theorem dX6_determinant_121 : decode cX6_determinant 121 = .ok (.iload 8, 2) := by decide +kernel
theorem dX6_determinant_123 : decode cX6_determinant 123 = .ok (.iadd, 1) := by decide +kernel
theorem dX6_determinant_124 : decode cX6_determinant 124 = .ok (.aload_n 0, 1) := by decide +kernel
theorem dX6_determinant_125 : decode cX6_determinant 125 = .ok (.getfield 38, 3) := by decide +kernel
theorem dX6_determinant_128 : decode cX6_determinant 128 = .ok (.bipush 6, 2) := by decide +kernel
theorem dX6_determinant_130 : decode cX6_determinant 130 = .ok (.iload 7, 2) := by decide +kernel
theorem dX6_determinant_132 : decode cX6_determinant 132 = .ok (.imul, 1) := by decide +kernel
theorem dX6_determinant_133 : decode cX6_determinant 133 = .ok (.iload 8, 2) := by decide +kernel
theorem dX6_determinant_135 : decode cX6_determinant 135 = .ok (.iadd, 1) := by decide +kernel
theorem dX6_determinant_136 : decode cX6_determinant 136 = .ok (.laload, 1) := by decide +kernel
theorem dX6_determinant_137 : decode cX6_determinant 137 = .ok (.aload_n 0, 1) := by decide +kernel
theorem dX6_determinant_138 : decode cX6_determinant 138 = .ok (.getfield 38, 3) := by decide +kernel
theorem dX6_determinant_141 : decode cX6_determinant 141 = .ok (.bipush 7, 2) := by decide +kernel
theorem dX6_determinant_143 : decode cX6_determinant 143 = .ok (.iload 5, 2) := by decide +kernel
theorem dX6_determinant_145 : decode cX6_determinant 145 = .ok (.imul, 1) := by decide +kernel
theorem dX6_determinant_146 : decode cX6_determinant 146 = .ok (.laload, 1) := by decide +kernel
theorem dX6_determinant_147 : decode cX6_determinant 147 = .ok (.lmul, 1) := by decide +kernel
theorem dX6_determinant_148 : decode cX6_determinant 148 = .ok (.aload_n 0, 1) := by decide +kernel
theorem dX6_determinant_149 : decode cX6_determinant 149 = .ok (.getfield 38, 3) := by decide +kernel
theorem dX6_determinant_152 : decode cX6_determinant 152 = .ok (.bipush 6, 2) := by decide +kernel
theorem dX6_determinant_154 : decode cX6_determinant 154 = .ok (.iload 7, 2) := by decide +kernel
theorem dX6_determinant_156 : decode cX6_determinant 156 = .ok (.imul, 1) := by decide +kernel
theorem dX6_determinant_157 : decode cX6_determinant 157 = .ok (.iload 5, 2) := by decide +kernel
theorem dX6_determinant_159 : decode cX6_determinant 159 = .ok (.iadd, 1) := by decide +kernel
theorem dX6_determinant_160 : decode cX6_determinant 160 = .ok (.laload, 1) := by decide +kernel
theorem dX6_determinant_161 : decode cX6_determinant 161 = .ok (.aload_n 0, 1) := by decide +kernel
theorem dX6_determinant_162 : decode cX6_determinant 162 = .ok (.getfield 38, 3) := by decide +kernel
theorem dX6_determinant_165 : decode cX6_determinant 165 = .ok (.bipush 6, 2) := by decide +kernel
theorem dX6_determinant_167 : decode cX6_determinant 167 = .ok (.iload 5, 2) := by decide +kernel
theorem dX6_determinant_169 : decode cX6_determinant 169 = .ok (.imul, 1) := by decide +kernel
theorem dX6_determinant_170 : decode cX6_determinant 170 = .ok (.iload 8, 2) := by decide +kernel
theorem dX6_determinant_172 : decode cX6_determinant 172 = .ok (.iadd, 1) := by decide +kernel
theorem dX6_determinant_173 : decode cX6_determinant 173 = .ok (.laload, 1) := by decide +kernel
theorem dX6_determinant_174 : decode cX6_determinant 174 = .ok (.lmul, 1) := by decide +kernel
theorem dX6_determinant_175 : decode cX6_determinant 175 = .ok (.lsub, 1) := by decide +kernel
theorem dX6_determinant_176 : decode cX6_determinant 176 = .ok (.lload_n 1, 1) := by decide +kernel
theorem dX6_determinant_177 : decode cX6_determinant 177 = .ok (.ldiv, 1) := by decide +kernel
theorem dX6_determinant_178 : decode cX6_determinant 178 = .ok (.lastore, 1) := by decide +kernel
theorem dX6_determinant_179 : decode cX6_determinant 179 = .ok (.iinc 8 1, 3) := by decide +kernel
theorem dX6_determinant_182 : decode cX6_determinant 182 = .ok (.goto (-79), 3) := by decide +kernel
theorem dX6_determinant_185 : decode cX6_determinant 185 = .ok (.iinc 7 1, 3) := by decide +kernel
theorem dX6_determinant_188 : decode cX6_determinant 188 = .ok (.goto (-100), 3) := by decide +kernel
theorem dX6_determinant_191 : decode cX6_determinant 191 = .ok (.aload_n 0, 1) := by decide +kernel
theorem dX6_determinant_192 : decode cX6_determinant 192 = .ok (.getfield 38, 3) := by decide +kernel
theorem dX6_determinant_195 : decode cX6_determinant 195 = .ok (.bipush 7, 2) := by decide +kernel
theorem dX6_determinant_197 : decode cX6_determinant 197 = .ok (.iload 5, 2) := by decide +kernel
theorem dX6_determinant_199 : decode cX6_determinant 199 = .ok (.imul, 1) := by decide +kernel
theorem dX6_determinant_200 : decode cX6_determinant 200 = .ok (.laload, 1) := by decide +kernel
theorem dX6_determinant_201 : decode cX6_determinant 201 = .ok (.lstore_n 1, 1) := by decide +kernel
theorem dX6_determinant_202 : decode cX6_determinant 202 = .ok (.iinc 5 1, 3) := by decide +kernel
theorem dX6_determinant_205 : decode cX6_determinant 205 = .ok (.goto (-198), 3) := by decide +kernel
theorem dX6_determinant_208 : decode cX6_determinant 208 = .ok (.lload_n 3, 1) := by decide +kernel
theorem dX6_determinant_209 : decode cX6_determinant 209 = .ok (.lload_n 1, 1) := by decide +kernel
theorem dX6_determinant_210 : decode cX6_determinant 210 = .ok (.lmul, 1) := by decide +kernel
theorem dX6_determinant_211 : decode cX6_determinant 211 = .ok (.lreturn, 1) := by decide +kernel
theorem dX6_treesOf_0 : decode cX6_treesOf 0 = .ok (.aload_n 0, 1) := by decide +kernel
theorem dX6_treesOf_1 : decode cX6_treesOf 1 = .ok (.iload_n 2, 1) := by decide +kernel
theorem dX6_treesOf_2 : decode cX6_treesOf 2 = .ok (.invokevirtual 93, 3) := by decide +kernel
theorem dX6_treesOf_5 : decode cX6_treesOf 5 = .ok (.aload_n 0, 1) := by decide +kernel
theorem dX6_treesOf_6 : decode cX6_treesOf 6 = .ok (.iload_n 1, 1) := by decide +kernel
theorem dX6_treesOf_7 : decode cX6_treesOf 7 = .ok (.iconst (-1), 1) := by decide +kernel
theorem dX6_treesOf_8 : decode cX6_treesOf 8 = .ok (.invokevirtual 97, 3) := by decide +kernel
theorem dX6_treesOf_11 : decode cX6_treesOf 11 = .ok (.aload_n 0, 1) := by decide +kernel
theorem dX6_treesOf_12 : decode cX6_treesOf 12 = .ok (.invokevirtual 100, 3) := by decide +kernel
theorem dX6_treesOf_15 : decode cX6_treesOf 15 = .ok (.lreturn, 1) := by decide +kernel
theorem dX6_solves_0 : decode cX6_solves 0 = .ok (.aload_n 0, 1) := by decide +kernel
theorem dX6_solves_1 : decode cX6_solves 1 = .ok (.iload_n 1, 1) := by decide +kernel
theorem dX6_solves_2 : decode cX6_solves 2 = .ok (.invokevirtual 104, 3) := by decide +kernel
theorem dX6_solves_5 : decode cX6_solves 5 = .ok (.iconst 0, 1) := by decide +kernel
theorem dX6_solves_6 : decode cX6_solves 6 = .ok (.istore_n 2, 1) := by decide +kernel
theorem dX6_solves_7 : decode cX6_solves 7 = .ok (.iload_n 2, 1) := by decide +kernel
theorem dX6_solves_8 : decode cX6_solves 8 = .ok (.aload_n 0, 1) := by decide +kernel
theorem dX6_solves_9 : decode cX6_solves 9 = .ok (.getfield 7, 3) := by decide +kernel
theorem dX6_solves_12 : decode cX6_solves 12 = .ok (.iconst 0, 1) := by decide +kernel
theorem dX6_solves_13 : decode cX6_solves 13 = .ok (.iaload, 1) := by decide +kernel
theorem dX6_solves_14 : decode cX6_solves 14 = .ok (.if_icmp .ge 94, 3) := by decide +kernel
theorem dX6_solves_17 : decode cX6_solves 17 = .ok (.aload_n 0, 1) := by decide +kernel
theorem dX6_solves_18 : decode cX6_solves 18 = .ok (.getfield 29, 3) := by decide +kernel
theorem dX6_solves_21 : decode cX6_solves 21 = .ok (.iload_n 2, 1) := by decide +kernel
theorem dX6_solves_22 : decode cX6_solves 22 = .ok (.iaload, 1) := by decide +kernel
theorem dX6_solves_23 : decode cX6_solves 23 = .ok (.iload_n 2, 1) := by decide +kernel
theorem dX6_solves_24 : decode cX6_solves 24 = .ok (.if_icmp .ne 78, 3) := by decide +kernel
theorem dX6_solves_27 : decode cX6_solves 27 = .ok (.aload_n 0, 1) := by decide +kernel
theorem dX6_solves_28 : decode cX6_solves 28 = .ok (.iload_n 1, 1) := by decide +kernel
theorem dX6_solves_29 : decode cX6_solves 29 = .ok (.iload_n 2, 1) := by decide +kernel
theorem dX6_solves_30 : decode cX6_solves 30 = .ok (.invokevirtual 107, 3) := by decide +kernel
theorem dX6_solves_33 : decode cX6_solves 33 = .ok (.lstore_n 3, 1) := by decide +kernel
theorem dX6_solves_34 : decode cX6_solves 34 = .ok (.aload_n 0, 1) := by decide +kernel
theorem dX6_solves_35 : decode cX6_solves 35 = .ok (.getfield 32, 3) := by decide +kernel
theorem dX6_solves_38 : decode cX6_solves 38 = .ok (.iload_n 2, 1) := by decide +kernel
theorem dX6_solves_39 : decode cX6_solves 39 = .ok (.lconst 0, 1) := by decide +kernel
theorem dX6_solves_40 : decode cX6_solves 40 = .ok (.lastore, 1) := by decide +kernel
theorem dX6_solves_41 : decode cX6_solves 41 = .ok (.aload_n 0, 1) := by decide +kernel
theorem dX6_solves_42 : decode cX6_solves 42 = .ok (.getfield 35, 3) := by decide +kernel
theorem dX6_solves_45 : decode cX6_solves 45 = .ok (.iload_n 2, 1) := by decide +kernel
theorem dX6_solves_46 : decode cX6_solves 46 = .ok (.lload_n 3, 1) := by decide +kernel
theorem dX6_solves_47 : decode cX6_solves 47 = .ok (.lastore, 1) := by decide +kernel
theorem dX6_solves_48 : decode cX6_solves 48 = .ok (.iconst 0, 1) := by decide +kernel
theorem dX6_solves_49 : decode cX6_solves 49 = .ok (.istore 5, 2) := by decide +kernel
theorem dX6_solves_51 : decode cX6_solves 51 = .ok (.iload 5, 2) := by decide +kernel
theorem dX6_solves_53 : decode cX6_solves 53 = .ok (.aload_n 0, 1) := by decide +kernel
theorem dX6_solves_54 : decode cX6_solves 54 = .ok (.getfield 85, 3) := by decide +kernel
theorem dX6_solves_57 : decode cX6_solves 57 = .ok (.if_icmp .ge 45, 3) := by decide +kernel
theorem dX6_solves_60 : decode cX6_solves 60 = .ok (.aload_n 0, 1) := by decide +kernel
theorem dX6_solves_61 : decode cX6_solves 61 = .ok (.iload_n 1, 1) := by decide +kernel
theorem dX6_solves_62 : decode cX6_solves 62 = .ok (.iload 5, 2) := by decide +kernel
theorem dX6_solves_64 : decode cX6_solves 64 = .ok (.invokevirtual 97, 3) := by decide +kernel
theorem dX6_solves_67 : decode cX6_solves 67 = .ok (.aload_n 0, 1) := by decide +kernel
theorem dX6_solves_68 : decode cX6_solves 68 = .ok (.getfield 32, 3) := by decide +kernel
theorem dX6_solves_71 : decode cX6_solves 71 = .ok (.aload_n 0, 1) := by decide +kernel
theorem dX6_solves_72 : decode cX6_solves 72 = .ok (.getfield 41, 3) := by decide +kernel
theorem dX6_solves_75 : decode cX6_solves 75 = .ok (.iload 5, 2) := by decide +kernel
theorem dX6_solves_77 : decode cX6_solves 77 = .ok (.iaload, 1) := by decide +kernel
theorem dX6_solves_78 : decode cX6_solves 78 = .ok (.aload_n 0, 1) := by decide +kernel
theorem dX6_solves_79 : decode cX6_solves 79 = .ok (.invokevirtual 100, 3) := by decide +kernel
theorem dX6_solves_82 : decode cX6_solves 82 = .ok (.lastore, 1) := by decide +kernel
theorem dX6_solves_83 : decode cX6_solves 83 = .ok (.aload_n 0, 1) := by decide +kernel
theorem dX6_solves_84 : decode cX6_solves 84 = .ok (.getfield 35, 3) := by decide +kernel
theorem dX6_solves_87 : decode cX6_solves 87 = .ok (.aload_n 0, 1) := by decide +kernel
theorem dX6_solves_88 : decode cX6_solves 88 = .ok (.getfield 41, 3) := by decide +kernel
theorem dX6_solves_91 : decode cX6_solves 91 = .ok (.iload 5, 2) := by decide +kernel
theorem dX6_solves_93 : decode cX6_solves 93 = .ok (.iaload, 1) := by decide +kernel
theorem dX6_solves_94 : decode cX6_solves 94 = .ok (.lload_n 3, 1) := by decide +kernel
theorem dX6_solves_95 : decode cX6_solves 95 = .ok (.lastore, 1) := by decide +kernel
theorem dX6_solves_96 : decode cX6_solves 96 = .ok (.iinc 5 1, 3) := by decide +kernel
theorem dX6_solves_99 : decode cX6_solves 99 = .ok (.goto (-48), 3) := by decide +kernel
theorem dX6_solves_102 : decode cX6_solves 102 = .ok (.iinc 2 1, 3) := by decide +kernel
theorem dX6_solves_105 : decode cX6_solves 105 = .ok (.goto (-98), 3) := by decide +kernel
theorem dX6_solves_108 : decode cX6_solves 108 = .ok (.return_, 1) := by decide +kernel
theorem dX6_asTold_0 : decode cX6_asTold 0 = .ok (.iconst 0, 1) := by decide +kernel
theorem dX6_asTold_1 : decode cX6_asTold 1 = .ok (.istore_n 1, 1) := by decide +kernel
theorem dX6_asTold_2 : decode cX6_asTold 2 = .ok (.iload_n 1, 1) := by decide +kernel
theorem dX6_asTold_3 : decode cX6_asTold 3 = .ok (.bipush 6, 2) := by decide +kernel
theorem dX6_asTold_5 : decode cX6_asTold 5 = .ok (.if_icmp .ge 24, 3) := by decide +kernel
theorem dX6_asTold_8 : decode cX6_asTold 8 = .ok (.aload_n 0, 1) := by decide +kernel
theorem dX6_asTold_9 : decode cX6_asTold 9 = .ok (.getfield 25, 3) := by decide +kernel
theorem dX6_asTold_12 : decode cX6_asTold 12 = .ok (.iload_n 1, 1) := by decide +kernel
theorem dX6_asTold_13 : decode cX6_asTold 13 = .ok (.aload_n 0, 1) := by decide +kernel
theorem dX6_asTold_14 : decode cX6_asTold 14 = .ok (.getfield 7, 3) := by decide +kernel
theorem dX6_asTold_17 : decode cX6_asTold 17 = .ok (.iconst 2, 1) := by decide +kernel
theorem dX6_asTold_18 : decode cX6_asTold 18 = .ok (.iload_n 1, 1) := by decide +kernel
theorem dX6_asTold_19 : decode cX6_asTold 19 = .ok (.iadd, 1) := by decide +kernel
theorem dX6_asTold_20 : decode cX6_asTold 20 = .ok (.iaload, 1) := by decide +kernel
theorem dX6_asTold_21 : decode cX6_asTold 21 = .ok (.i2l, 1) := by decide +kernel
theorem dX6_asTold_22 : decode cX6_asTold 22 = .ok (.lastore, 1) := by decide +kernel
theorem dX6_asTold_23 : decode cX6_asTold 23 = .ok (.iinc 1 1, 3) := by decide +kernel
theorem dX6_asTold_26 : decode cX6_asTold 26 = .ok (.goto (-24), 3) := by decide +kernel
theorem dX6_asTold_29 : decode cX6_asTold 29 = .ok (.return_, 1) := by decide +kernel
theorem dX6_oneOf_0 : decode cX6_oneOf 0 = .ok (.iconst 0, 1) := by decide +kernel
theorem dX6_oneOf_1 : decode cX6_oneOf 1 = .ok (.istore_n 3, 1) := by decide +kernel
theorem dX6_oneOf_2 : decode cX6_oneOf 2 = .ok (.iload_n 3, 1) := by decide +kernel
theorem dX6_oneOf_3 : decode cX6_oneOf 3 = .ok (.bipush 6, 2) := by decide +kernel
theorem dX6_oneOf_5 : decode cX6_oneOf 5 = .ok (.if_icmp .ge 36, 3) := by decide +kernel
theorem dX6_oneOf_8 : decode cX6_oneOf 8 = .ok (.aload_n 0, 1) := by decide +kernel
theorem dX6_oneOf_9 : decode cX6_oneOf 9 = .ok (.getfield 25, 3) := by decide +kernel
theorem dX6_oneOf_12 : decode cX6_oneOf 12 = .ok (.iload_n 3, 1) := by decide +kernel
theorem dX6_oneOf_13 : decode cX6_oneOf 13 = .ok (.iload_n 3, 1) := by decide +kernel
theorem dX6_oneOf_14 : decode cX6_oneOf 14 = .ok (.iload_n 1, 1) := by decide +kernel
theorem dX6_oneOf_15 : decode cX6_oneOf 15 = .ok (.if_icmp .ne 7, 3) := by decide +kernel
theorem dX6_oneOf_18 : decode cX6_oneOf 18 = .ok (.lconst 1, 1) := by decide +kernel
theorem dX6_oneOf_19 : decode cX6_oneOf 19 = .ok (.goto 15, 3) := by decide +kernel
theorem dX6_oneOf_22 : decode cX6_oneOf 22 = .ok (.iload_n 3, 1) := by decide +kernel
theorem dX6_oneOf_23 : decode cX6_oneOf 23 = .ok (.iload_n 2, 1) := by decide +kernel
theorem dX6_oneOf_24 : decode cX6_oneOf 24 = .ok (.if_icmp .ne 9, 3) := by decide +kernel
theorem dX6_oneOf_27 : decode cX6_oneOf 27 = .ok (.ldc2_w 111, 3) := by decide +kernel
theorem dX6_oneOf_30 : decode cX6_oneOf 30 = .ok (.goto 4, 3) := by decide +kernel
theorem dX6_oneOf_33 : decode cX6_oneOf 33 = .ok (.lconst 0, 1) := by decide +kernel
theorem dX6_oneOf_34 : decode cX6_oneOf 34 = .ok (.lastore, 1) := by decide +kernel
theorem dX6_oneOf_35 : decode cX6_oneOf 35 = .ok (.iinc 3 1, 3) := by decide +kernel
theorem dX6_oneOf_38 : decode cX6_oneOf 38 = .ok (.goto (-36), 3) := by decide +kernel
theorem dX6_oneOf_41 : decode cX6_oneOf 41 = .ok (.return_, 1) := by decide +kernel
theorem dX6_flowOf_0 : decode cX6_flowOf 0 = .ok (.iload_n 2, 1) := by decide +kernel
theorem dX6_flowOf_1 : decode cX6_flowOf 1 = .ok (.iload_n 1, 1) := by decide +kernel
theorem dX6_flowOf_2 : decode cX6_flowOf 2 = .ok (.invokestatic 81, 3) := by decide +kernel
theorem dX6_flowOf_5 : decode cX6_flowOf 5 = .ok (.ifCond .eq 37, 3) := by decide +kernel
theorem dX6_flowOf_8 : decode cX6_flowOf 8 = .ok (.aload_n 0, 1) := by decide +kernel
theorem dX6_flowOf_9 : decode cX6_flowOf 9 = .ok (.iload_n 1, 1) := by decide +kernel
theorem dX6_flowOf_10 : decode cX6_flowOf 10 = .ok (.iconst 2, 1) := by decide +kernel
theorem dX6_flowOf_11 : decode cX6_flowOf 11 = .ok (.invokevirtual 69, 3) := by decide +kernel
theorem dX6_flowOf_14 : decode cX6_flowOf 14 = .ok (.i2l, 1) := by decide +kernel
theorem dX6_flowOf_15 : decode cX6_flowOf 15 = .ok (.aload_n 0, 1) := by decide +kernel
theorem dX6_flowOf_16 : decode cX6_flowOf 16 = .ok (.getfield 32, 3) := by decide +kernel
theorem dX6_flowOf_19 : decode cX6_flowOf 19 = .ok (.aload_n 0, 1) := by decide +kernel
theorem dX6_flowOf_20 : decode cX6_flowOf 20 = .ok (.iload_n 1, 1) := by decide +kernel
theorem dX6_flowOf_21 : decode cX6_flowOf 21 = .ok (.iconst 0, 1) := by decide +kernel
theorem dX6_flowOf_22 : decode cX6_flowOf 22 = .ok (.invokevirtual 69, 3) := by decide +kernel
theorem dX6_flowOf_25 : decode cX6_flowOf 25 = .ok (.laload, 1) := by decide +kernel
theorem dX6_flowOf_26 : decode cX6_flowOf 26 = .ok (.aload_n 0, 1) := by decide +kernel
theorem dX6_flowOf_27 : decode cX6_flowOf 27 = .ok (.getfield 32, 3) := by decide +kernel
theorem dX6_flowOf_30 : decode cX6_flowOf 30 = .ok (.aload_n 0, 1) := by decide +kernel
theorem dX6_flowOf_31 : decode cX6_flowOf 31 = .ok (.iload_n 1, 1) := by decide +kernel
theorem dX6_flowOf_32 : decode cX6_flowOf 32 = .ok (.iconst 1, 1) := by decide +kernel
theorem dX6_flowOf_33 : decode cX6_flowOf 33 = .ok (.invokevirtual 69, 3) := by decide +kernel
theorem dX6_flowOf_36 : decode cX6_flowOf 36 = .ok (.laload, 1) := by decide +kernel
theorem dX6_flowOf_37 : decode cX6_flowOf 37 = .ok (.lsub, 1) := by decide +kernel
theorem dX6_flowOf_38 : decode cX6_flowOf 38 = .ok (.lmul, 1) := by decide +kernel
theorem dX6_flowOf_39 : decode cX6_flowOf 39 = .ok (.goto 4, 3) := by decide +kernel
theorem dX6_flowOf_42 : decode cX6_flowOf 42 = .ok (.lconst 0, 1) := by decide +kernel
theorem dX6_flowOf_43 : decode cX6_flowOf 43 = .ok (.lreturn, 1) := by decide +kernel
theorem dX6_flowTold_0 : decode cX6_flowTold 0 = .ok (.aload_n 0, 1) := by decide +kernel
theorem dX6_flowTold_1 : decode cX6_flowTold 1 = .ok (.iload_n 1, 1) := by decide +kernel
theorem dX6_flowTold_2 : decode cX6_flowTold 2 = .ok (.iload_n 2, 1) := by decide +kernel
theorem dX6_flowTold_3 : decode cX6_flowTold 3 = .ok (.invokevirtual 113, 3) := by decide +kernel
theorem dX6_flowTold_6 : decode cX6_flowTold 6 = .ok (.aload_n 0, 1) := by decide +kernel
theorem dX6_flowTold_7 : decode cX6_flowTold 7 = .ok (.getfield 35, 3) := by decide +kernel
theorem dX6_flowTold_10 : decode cX6_flowTold 10 = .ok (.aload_n 0, 1) := by decide +kernel
theorem dX6_flowTold_11 : decode cX6_flowTold 11 = .ok (.iload_n 1, 1) := by decide +kernel
theorem dX6_flowTold_12 : decode cX6_flowTold 12 = .ok (.iconst 0, 1) := by decide +kernel
theorem dX6_flowTold_13 : decode cX6_flowTold 13 = .ok (.invokevirtual 69, 3) := by decide +kernel
theorem dX6_flowTold_16 : decode cX6_flowTold 16 = .ok (.laload, 1) := by decide +kernel
theorem dX6_flowTold_17 : decode cX6_flowTold 17 = .ok (.iload_n 3, 1) := by decide +kernel
theorem dX6_flowTold_18 : decode cX6_flowTold 18 = .ok (.invokestatic 116, 3) := by decide +kernel
theorem dX6_flowTold_21 : decode cX6_flowTold 21 = .ok (.lreturn, 1) := by decide +kernel
theorem dX6_aside_0 : decode cX6_aside 0 = .ok (.iconst 0, 1) := by decide +kernel
theorem dX6_aside_1 : decode cX6_aside 1 = .ok (.istore_n 1, 1) := by decide +kernel
theorem dX6_aside_2 : decode cX6_aside 2 = .ok (.iload_n 1, 1) := by decide +kernel
theorem dX6_aside_3 : decode cX6_aside 3 = .ok (.bipush 58, 2) := by decide +kernel
theorem dX6_aside_5 : decode cX6_aside 5 = .ok (.if_icmp .ge 21, 3) := by decide +kernel
theorem dX6_aside_8 : decode cX6_aside 8 = .ok (.aload_n 0, 1) := by decide +kernel
theorem dX6_aside_9 : decode cX6_aside 9 = .ok (.getfield 16, 3) := by decide +kernel
theorem dX6_aside_12 : decode cX6_aside 12 = .ok (.iload_n 1, 1) := by decide +kernel
theorem dX6_aside_13 : decode cX6_aside 13 = .ok (.aload_n 0, 1) := by decide +kernel
theorem dX6_aside_14 : decode cX6_aside 14 = .ok (.getfield 7, 3) := by decide +kernel
theorem dX6_aside_17 : decode cX6_aside 17 = .ok (.iload_n 1, 1) := by decide +kernel
theorem dX6_aside_18 : decode cX6_aside 18 = .ok (.iaload, 1) := by decide +kernel
theorem dX6_aside_19 : decode cX6_aside 19 = .ok (.iastore, 1) := by decide +kernel
theorem dX6_aside_20 : decode cX6_aside 20 = .ok (.iinc 1 1, 3) := by decide +kernel
theorem dX6_aside_23 : decode cX6_aside 23 = .ok (.goto (-21), 3) := by decide +kernel
theorem dX6_aside_26 : decode cX6_aside 26 = .ok (.return_, 1) := by decide +kernel
theorem dX6_keeps_0 : decode cX6_keeps 0 = .ok (.aload_n 0, 1) := by decide +kernel
theorem dX6_keeps_1 : decode cX6_keeps 1 = .ok (.getfield 120, 3) := by decide +kernel
theorem dX6_keeps_4 : decode cX6_keeps 4 = .ok (.bipush 8, 2) := by decide +kernel
theorem dX6_keeps_6 : decode cX6_keeps 6 = .ok (.if_icmp .ne 43, 3) := by decide +kernel
theorem dX6_keeps_9 : decode cX6_keeps 9 = .ok (.iconst 0, 1) := by decide +kernel
theorem dX6_keeps_10 : decode cX6_keeps 10 = .ok (.istore_n 1, 1) := by decide +kernel
theorem dX6_keeps_11 : decode cX6_keeps 11 = .ok (.iload_n 1, 1) := by decide +kernel
theorem dX6_keeps_12 : decode cX6_keeps 12 = .ok (.sipush 406, 3) := by decide +kernel
theorem dX6_keeps_15 : decode cX6_keeps 15 = .ok (.if_icmp .ge 24, 3) := by decide +kernel
theorem dX6_keeps_18 : decode cX6_keeps 18 = .ok (.aload_n 0, 1) := by decide +kernel
theorem dX6_keeps_19 : decode cX6_keeps 19 = .ok (.getfield 13, 3) := by decide +kernel
theorem dX6_keeps_22 : decode cX6_keeps 22 = .ok (.iload_n 1, 1) := by decide +kernel
theorem dX6_keeps_23 : decode cX6_keeps 23 = .ok (.aload_n 0, 1) := by decide +kernel
theorem dX6_keeps_24 : decode cX6_keeps 24 = .ok (.getfield 13, 3) := by decide +kernel
theorem dX6_keeps_27 : decode cX6_keeps 27 = .ok (.iload_n 1, 1) := by decide +kernel
theorem dX6_keeps_28 : decode cX6_keeps 28 = .ok (.bipush 58, 2) := by decide +kernel
theorem dX6_keeps_30 : decode cX6_keeps 30 = .ok (.iadd, 1) := by decide +kernel
theorem dX6_keeps_31 : decode cX6_keeps 31 = .ok (.iaload, 1) := by decide +kernel
theorem dX6_keeps_32 : decode cX6_keeps 32 = .ok (.iastore, 1) := by decide +kernel
theorem dX6_keeps_33 : decode cX6_keeps 33 = .ok (.iinc 1 1, 3) := by decide +kernel
theorem dX6_keeps_36 : decode cX6_keeps 36 = .ok (.goto (-25), 3) := by decide +kernel
theorem dX6_keeps_39 : decode cX6_keeps 39 = .ok (.aload_n 0, 1) := by decide +kernel
theorem dX6_keeps_40 : decode cX6_keeps 40 = .ok (.dup, 1) := by decide +kernel
theorem dX6_keeps_41 : decode cX6_keeps 41 = .ok (.getfield 120, 3) := by decide +kernel
theorem dX6_keeps_44 : decode cX6_keeps 44 = .ok (.iconst 1, 1) := by decide +kernel
theorem dX6_keeps_45 : decode cX6_keeps 45 = .ok (.isub, 1) := by decide +kernel
theorem dX6_keeps_46 : decode cX6_keeps 46 = .ok (.putfield 120, 3) := by decide +kernel
theorem dX6_keeps_49 : decode cX6_keeps 49 = .ok (.iconst 0, 1) := by decide +kernel
theorem dX6_keeps_50 : decode cX6_keeps 50 = .ok (.istore_n 1, 1) := by decide +kernel
theorem dX6_keeps_51 : decode cX6_keeps 51 = .ok (.iload_n 1, 1) := by decide +kernel
theorem dX6_keeps_52 : decode cX6_keeps 52 = .ok (.bipush 58, 2) := by decide +kernel
theorem dX6_keeps_54 : decode cX6_keeps 54 = .ok (.if_icmp .ge 29, 3) := by decide +kernel
theorem dX6_keeps_57 : decode cX6_keeps 57 = .ok (.aload_n 0, 1) := by decide +kernel
theorem dX6_keeps_58 : decode cX6_keeps 58 = .ok (.getfield 13, 3) := by decide +kernel
theorem dX6_keeps_61 : decode cX6_keeps 61 = .ok (.bipush 58, 2) := by decide +kernel
theorem dX6_keeps_63 : decode cX6_keeps 63 = .ok (.aload_n 0, 1) := by decide +kernel
theorem dX6_keeps_64 : decode cX6_keeps 64 = .ok (.getfield 120, 3) := by decide +kernel
theorem dX6_keeps_67 : decode cX6_keeps 67 = .ok (.imul, 1) := by decide +kernel
theorem dX6_keeps_68 : decode cX6_keeps 68 = .ok (.iload_n 1, 1) := by decide +kernel
theorem dX6_keeps_69 : decode cX6_keeps 69 = .ok (.iadd, 1) := by decide +kernel
theorem dX6_keeps_70 : decode cX6_keeps 70 = .ok (.aload_n 0, 1) := by decide +kernel
theorem dX6_keeps_71 : decode cX6_keeps 71 = .ok (.getfield 16, 3) := by decide +kernel
theorem dX6_keeps_74 : decode cX6_keeps 74 = .ok (.iload_n 1, 1) := by decide +kernel
theorem dX6_keeps_75 : decode cX6_keeps 75 = .ok (.iaload, 1) := by decide +kernel
theorem dX6_keeps_76 : decode cX6_keeps 76 = .ok (.iastore, 1) := by decide +kernel
theorem dX6_keeps_77 : decode cX6_keeps 77 = .ok (.iinc 1 1, 3) := by decide +kernel
theorem dX6_keeps_80 : decode cX6_keeps 80 = .ok (.goto (-29), 3) := by decide +kernel
theorem dX6_keeps_83 : decode cX6_keeps 83 = .ok (.aload_n 0, 1) := by decide +kernel
theorem dX6_keeps_84 : decode cX6_keeps 84 = .ok (.dup, 1) := by decide +kernel
theorem dX6_keeps_85 : decode cX6_keeps 85 = .ok (.getfield 120, 3) := by decide +kernel
theorem dX6_keeps_88 : decode cX6_keeps 88 = .ok (.iconst 1, 1) := by decide +kernel
theorem dX6_keeps_89 : decode cX6_keeps 89 = .ok (.iadd, 1) := by decide +kernel
theorem dX6_keeps_90 : decode cX6_keeps 90 = .ok (.putfield 120, 3) := by decide +kernel
theorem dX6_keeps_93 : decode cX6_keeps 93 = .ok (.return_, 1) := by decide +kernel
theorem dX6_areBuses_0 : decode cX6_areBuses 0 = .ok (.iload_n 0, 1) := by decide +kernel
theorem dX6_areBuses_1 : decode cX6_areBuses 1 = .ok (.i2l, 1) := by decide +kernel
theorem dX6_areBuses_2 : decode cX6_areBuses 2 = .ok (.ldc2_w 123, 3) := by decide +kernel
theorem dX6_areBuses_5 : decode cX6_areBuses 5 = .ok (.ldc2_w 125, 3) := by decide +kernel
theorem dX6_areBuses_8 : decode cX6_areBuses 8 = .ok (.invokestatic 65, 3) := by decide +kernel
theorem dX6_areBuses_11 : decode cX6_areBuses 11 = .ok (.ireturn, 1) := by decide +kernel
theorem dX6_beginsNow_0 : decode cX6_beginsNow 0 = .ok (.aload_n 0, 1) := by decide +kernel
theorem dX6_beginsNow_1 : decode cX6_beginsNow 1 = .ok (.getfield 7, 3) := by decide +kernel
theorem dX6_beginsNow_4 : decode cX6_beginsNow 4 = .ok (.iconst 0, 1) := by decide +kernel
theorem dX6_beginsNow_5 : decode cX6_beginsNow 5 = .ok (.iaload, 1) := by decide +kernel
theorem dX6_beginsNow_6 : decode cX6_beginsNow 6 = .ok (.istore_n 2, 1) := by decide +kernel
theorem dX6_beginsNow_7 : decode cX6_beginsNow 7 = .ok (.aload_n 0, 1) := by decide +kernel
theorem dX6_beginsNow_8 : decode cX6_beginsNow 8 = .ok (.getfield 7, 3) := by decide +kernel
theorem dX6_beginsNow_11 : decode cX6_beginsNow 11 = .ok (.iconst 0, 1) := by decide +kernel
theorem dX6_beginsNow_12 : decode cX6_beginsNow 12 = .ok (.iload_n 1, 1) := by decide +kernel
theorem dX6_beginsNow_13 : decode cX6_beginsNow 13 = .ok (.iastore, 1) := by decide +kernel
theorem dX6_beginsNow_14 : decode cX6_beginsNow 14 = .ok (.aload_n 0, 1) := by decide +kernel
theorem dX6_beginsNow_15 : decode cX6_beginsNow 15 = .ok (.getfield 7, 3) := by decide +kernel
theorem dX6_beginsNow_18 : decode cX6_beginsNow 18 = .ok (.iconst 1, 1) := by decide +kernel
theorem dX6_beginsNow_19 : decode cX6_beginsNow 19 = .ok (.iconst 0, 1) := by decide +kernel
theorem dX6_beginsNow_20 : decode cX6_beginsNow 20 = .ok (.iastore, 1) := by decide +kernel
theorem dX6_beginsNow_21 : decode cX6_beginsNow 21 = .ok (.iconst 0, 1) := by decide +kernel
theorem dX6_beginsNow_22 : decode cX6_beginsNow 22 = .ok (.istore_n 3, 1) := by decide +kernel
theorem dX6_beginsNow_23 : decode cX6_beginsNow 23 = .ok (.iload_n 3, 1) := by decide +kernel
theorem dX6_beginsNow_24 : decode cX6_beginsNow 24 = .ok (.bipush 6, 2) := by decide +kernel
theorem dX6_beginsNow_26 : decode cX6_beginsNow 26 = .ok (.if_icmp .ge 18, 3) := by decide +kernel
theorem dX6_beginsNow_29 : decode cX6_beginsNow 29 = .ok (.aload_n 0, 1) := by decide +kernel
theorem dX6_beginsNow_30 : decode cX6_beginsNow 30 = .ok (.getfield 7, 3) := by decide +kernel
theorem dX6_beginsNow_33 : decode cX6_beginsNow 33 = .ok (.iconst 2, 1) := by decide +kernel
theorem dX6_beginsNow_34 : decode cX6_beginsNow 34 = .ok (.iload_n 3, 1) := by decide +kernel
theorem dX6_beginsNow_35 : decode cX6_beginsNow 35 = .ok (.iadd, 1) := by decide +kernel
theorem dX6_beginsNow_36 : decode cX6_beginsNow 36 = .ok (.iconst 0, 1) := by decide +kernel
theorem dX6_beginsNow_37 : decode cX6_beginsNow 37 = .ok (.iastore, 1) := by decide +kernel
theorem dX6_beginsNow_38 : decode cX6_beginsNow 38 = .ok (.iinc 3 1, 3) := by decide +kernel
theorem dX6_beginsNow_41 : decode cX6_beginsNow 41 = .ok (.goto (-18), 3) := by decide +kernel
theorem dX6_beginsNow_44 : decode cX6_beginsNow 44 = .ok (.iload_n 2, 1) := by decide +kernel
theorem dX6_beginsNow_45 : decode cX6_beginsNow 45 = .ok (.ireturn, 1) := by decide +kernel
theorem dX6_begins_0 : decode cX6_begins 0 = .ok (.iload_n 1, 1) := by decide +kernel
theorem dX6_begins_1 : decode cX6_begins 1 = .ok (.invokestatic 127, 3) := by decide +kernel
theorem dX6_begins_4 : decode cX6_begins 4 = .ok (.ifCond .ne 10, 3) := by decide +kernel
theorem dX6_begins_7 : decode cX6_begins 7 = .ok (.aload_n 0, 1) := by decide +kernel
theorem dX6_begins_8 : decode cX6_begins 8 = .ok (.bipush (-2), 2) := by decide +kernel
theorem dX6_begins_10 : decode cX6_begins 10 = .ok (.invokevirtual 130, 3) := by decide +kernel
theorem dX6_begins_13 : decode cX6_begins 13 = .ok (.ireturn, 1) := by decide +kernel
theorem dX6_begins_14 : decode cX6_begins 14 = .ok (.aload_n 0, 1) := by decide +kernel
theorem dX6_begins_15 : decode cX6_begins 15 = .ok (.invokevirtual 134, 3) := by decide +kernel
theorem dX6_begins_18 : decode cX6_begins 18 = .ok (.aload_n 0, 1) := by decide +kernel
theorem dX6_begins_19 : decode cX6_begins 19 = .ok (.invokevirtual 137, 3) := by decide +kernel
theorem dX6_begins_22 : decode cX6_begins 22 = .ok (.aload_n 0, 1) := by decide +kernel
theorem dX6_begins_23 : decode cX6_begins 23 = .ok (.iload_n 1, 1) := by decide +kernel
theorem dX6_begins_24 : decode cX6_begins 24 = .ok (.invokevirtual 140, 3) := by decide +kernel
theorem dX6_begins_27 : decode cX6_begins 27 = .ok (.ireturn, 1) := by decide +kernel
theorem dX6_mayFeed_0 : decode cX6_mayFeed 0 = .ok (.aload_n 0, 1) := by decide +kernel
theorem dX6_mayFeed_1 : decode cX6_mayFeed 1 = .ok (.iload_n 1, 1) := by decide +kernel
theorem dX6_mayFeed_2 : decode cX6_mayFeed 2 = .ok (.invokevirtual 143, 3) := by decide +kernel
theorem dX6_mayFeed_5 : decode cX6_mayFeed 5 = .ok (.ifCond .eq 21, 3) := by decide +kernel
theorem dX6_mayFeed_8 : decode cX6_mayFeed 8 = .ok (.iload_n 2, 1) := by decide +kernel
theorem dX6_mayFeed_9 : decode cX6_mayFeed 9 = .ok (.i2l, 1) := by decide +kernel
theorem dX6_mayFeed_10 : decode cX6_mayFeed 10 = .ok (.ldc2_w 146, 3) := by decide +kernel
theorem dX6_mayFeed_13 : decode cX6_mayFeed 13 = .ok (.ldc2_w 148, 3) := by decide +kernel
theorem dX6_mayFeed_16 : decode cX6_mayFeed 16 = .ok (.invokestatic 65, 3) := by decide +kernel
theorem dX6_mayFeed_19 : decode cX6_mayFeed 19 = .ok (.ifCond .eq 7, 3) := by decide +kernel
theorem dX6_mayFeed_22 : decode cX6_mayFeed 22 = .ok (.iconst 1, 1) := by decide +kernel
theorem dX6_mayFeed_23 : decode cX6_mayFeed 23 = .ok (.goto 4, 3) := by decide +kernel
theorem dX6_mayFeed_26 : decode cX6_mayFeed 26 = .ok (.iconst 0, 1) := by decide +kernel
theorem dX6_mayFeed_27 : decode cX6_mayFeed 27 = .ok (.ireturn, 1) := by decide +kernel
theorem dX6_feeds_0 : decode cX6_feeds 0 = .ok (.aload_n 0, 1) := by decide +kernel
theorem dX6_feeds_1 : decode cX6_feeds 1 = .ok (.iload_n 1, 1) := by decide +kernel
theorem dX6_feeds_2 : decode cX6_feeds 2 = .ok (.iload_n 2, 1) := by decide +kernel
theorem dX6_feeds_3 : decode cX6_feeds 3 = .ok (.invokevirtual 150, 3) := by decide +kernel
theorem dX6_feeds_6 : decode cX6_feeds 6 = .ok (.ifCond .ne 10, 3) := by decide +kernel
theorem dX6_feeds_9 : decode cX6_feeds 9 = .ok (.aload_n 0, 1) := by decide +kernel
theorem dX6_feeds_10 : decode cX6_feeds 10 = .ok (.bipush (-2), 2) := by decide +kernel
theorem dX6_feeds_12 : decode cX6_feeds 12 = .ok (.invokevirtual 130, 3) := by decide +kernel
theorem dX6_feeds_15 : decode cX6_feeds 15 = .ok (.ireturn, 1) := by decide +kernel
theorem dX6_feeds_16 : decode cX6_feeds 16 = .ok (.aload_n 0, 1) := by decide +kernel
theorem dX6_feeds_17 : decode cX6_feeds 17 = .ok (.invokevirtual 134, 3) := by decide +kernel
theorem dX6_feeds_20 : decode cX6_feeds 20 = .ok (.aload_n 0, 1) := by decide +kernel
theorem dX6_feeds_21 : decode cX6_feeds 21 = .ok (.invokevirtual 137, 3) := by decide +kernel
theorem dX6_feeds_24 : decode cX6_feeds 24 = .ok (.aload_n 0, 1) := by decide +kernel
theorem dX6_feeds_25 : decode cX6_feeds 25 = .ok (.getfield 7, 3) := by decide +kernel
theorem dX6_feeds_28 : decode cX6_feeds 28 = .ok (.iconst 2, 1) := by decide +kernel
theorem dX6_feeds_29 : decode cX6_feeds 29 = .ok (.iload_n 1, 1) := by decide +kernel
theorem dX6_feeds_30 : decode cX6_feeds 30 = .ok (.iadd, 1) := by decide +kernel
theorem dX6_feeds_31 : decode cX6_feeds 31 = .ok (.iaload, 1) := by decide +kernel
theorem dX6_feeds_32 : decode cX6_feeds 32 = .ok (.istore_n 3, 1) := by decide +kernel
theorem dX6_feeds_33 : decode cX6_feeds 33 = .ok (.aload_n 0, 1) := by decide +kernel
theorem dX6_feeds_34 : decode cX6_feeds 34 = .ok (.getfield 7, 3) := by decide +kernel
theorem dX6_feeds_37 : decode cX6_feeds 37 = .ok (.iconst 2, 1) := by decide +kernel
theorem dX6_feeds_38 : decode cX6_feeds 38 = .ok (.iload_n 1, 1) := by decide +kernel
theorem dX6_feeds_39 : decode cX6_feeds 39 = .ok (.iadd, 1) := by decide +kernel
theorem dX6_feeds_40 : decode cX6_feeds 40 = .ok (.iload_n 2, 1) := by decide +kernel
theorem dX6_feeds_41 : decode cX6_feeds 41 = .ok (.iastore, 1) := by decide +kernel
theorem dX6_feeds_42 : decode cX6_feeds 42 = .ok (.iload_n 3, 1) := by decide +kernel
theorem dX6_feeds_43 : decode cX6_feeds 43 = .ok (.ireturn, 1) := by decide +kernel
theorem dX6_isLineTold_0 : decode cX6_isLineTold 0 = .ok (.aload_n 0, 1) := by decide +kernel
theorem dX6_isLineTold_1 : decode cX6_isLineTold 1 = .ok (.iload_n 1, 1) := by decide +kernel
theorem dX6_isLineTold_2 : decode cX6_isLineTold 2 = .ok (.invokevirtual 143, 3) := by decide +kernel
theorem dX6_isLineTold_5 : decode cX6_isLineTold 5 = .ok (.ifCond .eq 45, 3) := by decide +kernel
theorem dX6_isLineTold_8 : decode cX6_isLineTold 8 = .ok (.aload_n 0, 1) := by decide +kernel
theorem dX6_isLineTold_9 : decode cX6_isLineTold 9 = .ok (.iload_n 2, 1) := by decide +kernel
theorem dX6_isLineTold_10 : decode cX6_isLineTold 10 = .ok (.invokevirtual 143, 3) := by decide +kernel
theorem dX6_isLineTold_13 : decode cX6_isLineTold 13 = .ok (.ifCond .eq 37, 3) := by decide +kernel
theorem dX6_isLineTold_16 : decode cX6_isLineTold 16 = .ok (.iload_n 1, 1) := by decide +kernel
theorem dX6_isLineTold_17 : decode cX6_isLineTold 17 = .ok (.iload_n 2, 1) := by decide +kernel
theorem dX6_isLineTold_18 : decode cX6_isLineTold 18 = .ok (.if_icmp .eq 32, 3) := by decide +kernel
theorem dX6_isLineTold_21 : decode cX6_isLineTold 21 = .ok (.iload_n 3, 1) := by decide +kernel
theorem dX6_isLineTold_22 : decode cX6_isLineTold 22 = .ok (.i2l, 1) := by decide +kernel
theorem dX6_isLineTold_23 : decode cX6_isLineTold 23 = .ok (.lconst 1, 1) := by decide +kernel
theorem dX6_isLineTold_24 : decode cX6_isLineTold 24 = .ok (.ldc2_w 153, 3) := by decide +kernel
theorem dX6_isLineTold_27 : decode cX6_isLineTold 27 = .ok (.invokestatic 65, 3) := by decide +kernel
theorem dX6_isLineTold_30 : decode cX6_isLineTold 30 = .ok (.ifCond .eq 20, 3) := by decide +kernel
theorem dX6_isLineTold_33 : decode cX6_isLineTold 33 = .ok (.iload 4, 2) := by decide +kernel
theorem dX6_isLineTold_35 : decode cX6_isLineTold 35 = .ok (.i2l, 1) := by decide +kernel
theorem dX6_isLineTold_36 : decode cX6_isLineTold 36 = .ok (.lconst 1, 1) := by decide +kernel
theorem dX6_isLineTold_37 : decode cX6_isLineTold 37 = .ok (.ldc2_w 155, 3) := by decide +kernel
theorem dX6_isLineTold_40 : decode cX6_isLineTold 40 = .ok (.invokestatic 65, 3) := by decide +kernel
theorem dX6_isLineTold_43 : decode cX6_isLineTold 43 = .ok (.ifCond .eq 7, 3) := by decide +kernel
theorem dX6_isLineTold_46 : decode cX6_isLineTold 46 = .ok (.iconst 1, 1) := by decide +kernel
theorem dX6_isLineTold_47 : decode cX6_isLineTold 47 = .ok (.goto 4, 3) := by decide +kernel
theorem dX6_isLineTold_50 : decode cX6_isLineTold 50 = .ok (.iconst 0, 1) := by decide +kernel
theorem dX6_isLineTold_51 : decode cX6_isLineTold 51 = .ok (.ireturn, 1) := by decide +kernel
theorem dX6_lineNow_0 : decode cX6_lineNow 0 = .ok (.bipush 8, 2) := by decide +kernel
theorem dX6_lineNow_2 : decode cX6_lineNow 2 = .ok (.iconst 5, 1) := by decide +kernel
theorem dX6_lineNow_3 : decode cX6_lineNow 3 = .ok (.aload_n 0, 1) := by decide +kernel
theorem dX6_lineNow_4 : decode cX6_lineNow 4 = .ok (.getfield 7, 3) := by decide +kernel
theorem dX6_lineNow_7 : decode cX6_lineNow 7 = .ok (.iconst 1, 1) := by decide +kernel
theorem dX6_lineNow_8 : decode cX6_lineNow 8 = .ok (.iaload, 1) := by decide +kernel
theorem dX6_lineNow_9 : decode cX6_lineNow 9 = .ok (.imul, 1) := by decide +kernel
theorem dX6_lineNow_10 : decode cX6_lineNow 10 = .ok (.iadd, 1) := by decide +kernel
theorem dX6_lineNow_11 : decode cX6_lineNow 11 = .ok (.istore 5, 2) := by decide +kernel
theorem dX6_lineNow_13 : decode cX6_lineNow 13 = .ok (.aload_n 0, 1) := by decide +kernel
theorem dX6_lineNow_14 : decode cX6_lineNow 14 = .ok (.getfield 7, 3) := by decide +kernel
theorem dX6_lineNow_17 : decode cX6_lineNow 17 = .ok (.iload 5, 2) := by decide +kernel
theorem dX6_lineNow_19 : decode cX6_lineNow 19 = .ok (.iconst 0, 1) := by decide +kernel
theorem dX6_lineNow_20 : decode cX6_lineNow 20 = .ok (.iadd, 1) := by decide +kernel
theorem dX6_lineNow_21 : decode cX6_lineNow 21 = .ok (.iload_n 1, 1) := by decide +kernel
theorem dX6_lineNow_22 : decode cX6_lineNow 22 = .ok (.iastore, 1) := by decide +kernel
theorem dX6_lineNow_23 : decode cX6_lineNow 23 = .ok (.aload_n 0, 1) := by decide +kernel
theorem dX6_lineNow_24 : decode cX6_lineNow 24 = .ok (.getfield 7, 3) := by decide +kernel
theorem dX6_lineNow_27 : decode cX6_lineNow 27 = .ok (.iload 5, 2) := by decide +kernel
theorem dX6_lineNow_29 : decode cX6_lineNow 29 = .ok (.iconst 1, 1) := by decide +kernel
theorem dX6_lineNow_30 : decode cX6_lineNow 30 = .ok (.iadd, 1) := by decide +kernel
theorem dX6_lineNow_31 : decode cX6_lineNow 31 = .ok (.iload_n 2, 1) := by decide +kernel
theorem dX6_lineNow_32 : decode cX6_lineNow 32 = .ok (.iastore, 1) := by decide +kernel
theorem dX6_lineNow_33 : decode cX6_lineNow 33 = .ok (.aload_n 0, 1) := by decide +kernel
theorem dX6_lineNow_34 : decode cX6_lineNow 34 = .ok (.getfield 7, 3) := by decide +kernel
theorem dX6_lineNow_37 : decode cX6_lineNow 37 = .ok (.iload 5, 2) := by decide +kernel
theorem dX6_lineNow_39 : decode cX6_lineNow 39 = .ok (.iconst 2, 1) := by decide +kernel
theorem dX6_lineNow_40 : decode cX6_lineNow 40 = .ok (.iadd, 1) := by decide +kernel
theorem dX6_lineNow_41 : decode cX6_lineNow 41 = .ok (.iload_n 3, 1) := by decide +kernel
theorem dX6_lineNow_42 : decode cX6_lineNow 42 = .ok (.iastore, 1) := by decide +kernel
theorem dX6_lineNow_43 : decode cX6_lineNow 43 = .ok (.aload_n 0, 1) := by decide +kernel
theorem dX6_lineNow_44 : decode cX6_lineNow 44 = .ok (.getfield 7, 3) := by decide +kernel
theorem dX6_lineNow_47 : decode cX6_lineNow 47 = .ok (.iload 5, 2) := by decide +kernel
theorem dX6_lineNow_49 : decode cX6_lineNow 49 = .ok (.iconst 3, 1) := by decide +kernel
theorem dX6_lineNow_50 : decode cX6_lineNow 50 = .ok (.iadd, 1) := by decide +kernel
theorem dX6_lineNow_51 : decode cX6_lineNow 51 = .ok (.iload 4, 2) := by decide +kernel
theorem dX6_lineNow_53 : decode cX6_lineNow 53 = .ok (.iastore, 1) := by decide +kernel
theorem dX6_lineNow_54 : decode cX6_lineNow 54 = .ok (.aload_n 0, 1) := by decide +kernel
theorem dX6_lineNow_55 : decode cX6_lineNow 55 = .ok (.getfield 7, 3) := by decide +kernel
theorem dX6_lineNow_58 : decode cX6_lineNow 58 = .ok (.iload 5, 2) := by decide +kernel
theorem dX6_lineNow_60 : decode cX6_lineNow 60 = .ok (.iconst 4, 1) := by decide +kernel
theorem dX6_lineNow_61 : decode cX6_lineNow 61 = .ok (.iadd, 1) := by decide +kernel
theorem dX6_lineNow_62 : decode cX6_lineNow 62 = .ok (.iconst 1, 1) := by decide +kernel
theorem dX6_lineNow_63 : decode cX6_lineNow 63 = .ok (.iastore, 1) := by decide +kernel
theorem dX6_lineNow_64 : decode cX6_lineNow 64 = .ok (.aload_n 0, 1) := by decide +kernel
theorem dX6_lineNow_65 : decode cX6_lineNow 65 = .ok (.getfield 7, 3) := by decide +kernel
theorem dX6_lineNow_68 : decode cX6_lineNow 68 = .ok (.iconst 1, 1) := by decide +kernel
theorem dX6_lineNow_69 : decode cX6_lineNow 69 = .ok (.dup2, 1) := by decide +kernel
theorem dX6_lineNow_70 : decode cX6_lineNow 70 = .ok (.iaload, 1) := by decide +kernel
theorem dX6_lineNow_71 : decode cX6_lineNow 71 = .ok (.iconst 1, 1) := by decide +kernel
theorem dX6_lineNow_72 : decode cX6_lineNow 72 = .ok (.iadd, 1) := by decide +kernel
theorem dX6_lineNow_73 : decode cX6_lineNow 73 = .ok (.iastore, 1) := by decide +kernel
theorem dX6_lineNow_74 : decode cX6_lineNow 74 = .ok (.aload_n 0, 1) := by decide +kernel
theorem dX6_lineNow_75 : decode cX6_lineNow 75 = .ok (.getfield 7, 3) := by decide +kernel
theorem dX6_lineNow_78 : decode cX6_lineNow 78 = .ok (.iconst 1, 1) := by decide +kernel
theorem dX6_lineNow_79 : decode cX6_lineNow 79 = .ok (.iaload, 1) := by decide +kernel
theorem dX6_lineNow_80 : decode cX6_lineNow 80 = .ok (.iconst 1, 1) := by decide +kernel
theorem dX6_lineNow_81 : decode cX6_lineNow 81 = .ok (.isub, 1) := by decide +kernel
theorem dX6_lineNow_82 : decode cX6_lineNow 82 = .ok (.ireturn, 1) := by decide +kernel
theorem dX6_line_0 : decode cX6_line 0 = .ok (.aload_n 0, 1) := by decide +kernel
theorem dX6_line_1 : decode cX6_line 1 = .ok (.iload_n 1, 1) := by decide +kernel
theorem dX6_line_2 : decode cX6_line 2 = .ok (.iload_n 2, 1) := by decide +kernel
theorem dX6_line_3 : decode cX6_line 3 = .ok (.iload_n 3, 1) := by decide +kernel
theorem dX6_line_4 : decode cX6_line 4 = .ok (.iload 4, 2) := by decide +kernel
theorem dX6_line_6 : decode cX6_line 6 = .ok (.invokevirtual 157, 3) := by decide +kernel
theorem dX6_line_9 : decode cX6_line 9 = .ok (.ifCond .ne 10, 3) := by decide +kernel
theorem dX6_line_12 : decode cX6_line 12 = .ok (.aload_n 0, 1) := by decide +kernel
theorem dX6_line_13 : decode cX6_line 13 = .ok (.bipush (-2), 2) := by decide +kernel
theorem dX6_line_15 : decode cX6_line 15 = .ok (.invokevirtual 130, 3) := by decide +kernel
theorem dX6_line_18 : decode cX6_line 18 = .ok (.ireturn, 1) := by decide +kernel
theorem dX6_line_19 : decode cX6_line 19 = .ok (.aload_n 0, 1) := by decide +kernel
theorem dX6_line_20 : decode cX6_line 20 = .ok (.getfield 7, 3) := by decide +kernel
theorem dX6_line_23 : decode cX6_line 23 = .ok (.iconst 1, 1) := by decide +kernel
theorem dX6_line_24 : decode cX6_line 24 = .ok (.iaload, 1) := by decide +kernel
theorem dX6_line_25 : decode cX6_line 25 = .ok (.bipush 10, 2) := by decide +kernel
theorem dX6_line_27 : decode cX6_line 27 = .ok (.if_icmp .ne 10, 3) := by decide +kernel
theorem dX6_line_30 : decode cX6_line 30 = .ok (.aload_n 0, 1) := by decide +kernel
theorem dX6_line_31 : decode cX6_line 31 = .ok (.bipush (-4), 2) := by decide +kernel
theorem dX6_line_33 : decode cX6_line 33 = .ok (.invokevirtual 130, 3) := by decide +kernel
theorem dX6_line_36 : decode cX6_line 36 = .ok (.ireturn, 1) := by decide +kernel
theorem dX6_line_37 : decode cX6_line 37 = .ok (.aload_n 0, 1) := by decide +kernel
theorem dX6_line_38 : decode cX6_line 38 = .ok (.invokevirtual 134, 3) := by decide +kernel
theorem dX6_line_41 : decode cX6_line 41 = .ok (.aload_n 0, 1) := by decide +kernel
theorem dX6_line_42 : decode cX6_line 42 = .ok (.invokevirtual 137, 3) := by decide +kernel
theorem dX6_line_45 : decode cX6_line 45 = .ok (.aload_n 0, 1) := by decide +kernel
theorem dX6_line_46 : decode cX6_line 46 = .ok (.iload_n 1, 1) := by decide +kernel
theorem dX6_line_47 : decode cX6_line 47 = .ok (.iload_n 2, 1) := by decide +kernel
theorem dX6_line_48 : decode cX6_line 48 = .ok (.iload_n 3, 1) := by decide +kernel
theorem dX6_line_49 : decode cX6_line 49 = .ok (.iload 4, 2) := by decide +kernel
theorem dX6_line_51 : decode cX6_line 51 = .ok (.invokevirtual 161, 3) := by decide +kernel
theorem dX6_line_54 : decode cX6_line 54 = .ok (.ireturn, 1) := by decide +kernel
theorem dX6_dropsNow_0 : decode cX6_dropsNow 0 = .ok (.aload_n 0, 1) := by decide +kernel
theorem dX6_dropsNow_1 : decode cX6_dropsNow 1 = .ok (.getfield 7, 3) := by decide +kernel
theorem dX6_dropsNow_4 : decode cX6_dropsNow 4 = .ok (.iconst 1, 1) := by decide +kernel
theorem dX6_dropsNow_5 : decode cX6_dropsNow 5 = .ok (.dup2, 1) := by decide +kernel
theorem dX6_dropsNow_6 : decode cX6_dropsNow 6 = .ok (.iaload, 1) := by decide +kernel
theorem dX6_dropsNow_7 : decode cX6_dropsNow 7 = .ok (.iconst 1, 1) := by decide +kernel
theorem dX6_dropsNow_8 : decode cX6_dropsNow 8 = .ok (.isub, 1) := by decide +kernel
theorem dX6_dropsNow_9 : decode cX6_dropsNow 9 = .ok (.iastore, 1) := by decide +kernel
theorem dX6_dropsNow_10 : decode cX6_dropsNow 10 = .ok (.bipush 8, 2) := by decide +kernel
theorem dX6_dropsNow_12 : decode cX6_dropsNow 12 = .ok (.iconst 5, 1) := by decide +kernel
theorem dX6_dropsNow_13 : decode cX6_dropsNow 13 = .ok (.iload_n 1, 1) := by decide +kernel
theorem dX6_dropsNow_14 : decode cX6_dropsNow 14 = .ok (.imul, 1) := by decide +kernel
theorem dX6_dropsNow_15 : decode cX6_dropsNow 15 = .ok (.iadd, 1) := by decide +kernel
theorem dX6_dropsNow_16 : decode cX6_dropsNow 16 = .ok (.istore_n 2, 1) := by decide +kernel
theorem dX6_dropsNow_17 : decode cX6_dropsNow 17 = .ok (.iload_n 2, 1) := by decide +kernel
theorem dX6_dropsNow_18 : decode cX6_dropsNow 18 = .ok (.bipush 8, 2) := by decide +kernel
theorem dX6_dropsNow_20 : decode cX6_dropsNow 20 = .ok (.iconst 5, 1) := by decide +kernel
theorem dX6_dropsNow_21 : decode cX6_dropsNow 21 = .ok (.aload_n 0, 1) := by decide +kernel
theorem dX6_dropsNow_22 : decode cX6_dropsNow 22 = .ok (.getfield 7, 3) := by decide +kernel
theorem dX6_dropsNow_25 : decode cX6_dropsNow 25 = .ok (.iconst 1, 1) := by decide +kernel
theorem dX6_dropsNow_26 : decode cX6_dropsNow 26 = .ok (.iaload, 1) := by decide +kernel
theorem dX6_dropsNow_27 : decode cX6_dropsNow 27 = .ok (.imul, 1) := by decide +kernel
theorem dX6_dropsNow_28 : decode cX6_dropsNow 28 = .ok (.iadd, 1) := by decide +kernel
theorem dX6_dropsNow_29 : decode cX6_dropsNow 29 = .ok (.if_icmp .ge 23, 3) := by decide +kernel
theorem dX6_dropsNow_32 : decode cX6_dropsNow 32 = .ok (.aload_n 0, 1) := by decide +kernel
theorem dX6_dropsNow_33 : decode cX6_dropsNow 33 = .ok (.getfield 7, 3) := by decide +kernel
theorem dX6_dropsNow_36 : decode cX6_dropsNow 36 = .ok (.iload_n 2, 1) := by decide +kernel
theorem dX6_dropsNow_37 : decode cX6_dropsNow 37 = .ok (.aload_n 0, 1) := by decide +kernel
theorem dX6_dropsNow_38 : decode cX6_dropsNow 38 = .ok (.getfield 7, 3) := by decide +kernel
theorem dX6_dropsNow_41 : decode cX6_dropsNow 41 = .ok (.iload_n 2, 1) := by decide +kernel
theorem dX6_dropsNow_42 : decode cX6_dropsNow 42 = .ok (.iconst 5, 1) := by decide +kernel
theorem dX6_dropsNow_43 : decode cX6_dropsNow 43 = .ok (.iadd, 1) := by decide +kernel
theorem dX6_dropsNow_44 : decode cX6_dropsNow 44 = .ok (.iaload, 1) := by decide +kernel
theorem dX6_dropsNow_45 : decode cX6_dropsNow 45 = .ok (.iastore, 1) := by decide +kernel
theorem dX6_dropsNow_46 : decode cX6_dropsNow 46 = .ok (.iinc 2 1, 3) := by decide +kernel
theorem dX6_dropsNow_49 : decode cX6_dropsNow 49 = .ok (.goto (-32), 3) := by decide +kernel
theorem dX6_dropsNow_52 : decode cX6_dropsNow 52 = .ok (.aload_n 0, 1) := by decide +kernel
theorem dX6_dropsNow_53 : decode cX6_dropsNow 53 = .ok (.getfield 7, 3) := by decide +kernel
theorem dX6_dropsNow_56 : decode cX6_dropsNow 56 = .ok (.iconst 1, 1) := by decide +kernel
theorem dX6_dropsNow_57 : decode cX6_dropsNow 57 = .ok (.iaload, 1) := by decide +kernel
theorem dX6_dropsNow_58 : decode cX6_dropsNow 58 = .ok (.ireturn, 1) := by decide +kernel
theorem dX6_drops_0 : decode cX6_drops 0 = .ok (.aload_n 0, 1) := by decide +kernel
theorem dX6_drops_1 : decode cX6_drops 1 = .ok (.iload_n 1, 1) := by decide +kernel
theorem dX6_drops_2 : decode cX6_drops 2 = .ok (.invokevirtual 165, 3) := by decide +kernel
theorem dX6_drops_5 : decode cX6_drops 5 = .ok (.ifCond .ne 10, 3) := by decide +kernel
theorem dX6_drops_8 : decode cX6_drops 8 = .ok (.aload_n 0, 1) := by decide +kernel
theorem dX6_drops_9 : decode cX6_drops 9 = .ok (.bipush (-2), 2) := by decide +kernel
theorem dX6_drops_11 : decode cX6_drops 11 = .ok (.invokevirtual 130, 3) := by decide +kernel
theorem dX6_drops_14 : decode cX6_drops 14 = .ok (.ireturn, 1) := by decide +kernel
theorem dX6_drops_15 : decode cX6_drops 15 = .ok (.aload_n 0, 1) := by decide +kernel
theorem dX6_drops_16 : decode cX6_drops 16 = .ok (.invokevirtual 134, 3) := by decide +kernel
theorem dX6_drops_19 : decode cX6_drops 19 = .ok (.aload_n 0, 1) := by decide +kernel
theorem dX6_drops_20 : decode cX6_drops 20 = .ok (.invokevirtual 137, 3) := by decide +kernel
theorem dX6_drops_23 : decode cX6_drops 23 = .ok (.aload_n 0, 1) := by decide +kernel
theorem dX6_drops_24 : decode cX6_drops 24 = .ok (.iload_n 1, 1) := by decide +kernel
theorem dX6_drops_25 : decode cX6_drops 25 = .ok (.invokevirtual 168, 3) := by decide +kernel
theorem dX6_drops_28 : decode cX6_drops 28 = .ok (.ireturn, 1) := by decide +kernel
theorem dX6_becomes_0 : decode cX6_becomes 0 = .ok (.aload_n 0, 1) := by decide +kernel
theorem dX6_becomes_1 : decode cX6_becomes 1 = .ok (.iload_n 1, 1) := by decide +kernel
theorem dX6_becomes_2 : decode cX6_becomes 2 = .ok (.iload_n 2, 1) := by decide +kernel
theorem dX6_becomes_3 : decode cX6_becomes 3 = .ok (.invokevirtual 69, 3) := by decide +kernel
theorem dX6_becomes_6 : decode cX6_becomes 6 = .ok (.istore 4, 2) := by decide +kernel
theorem dX6_becomes_8 : decode cX6_becomes 8 = .ok (.aload_n 0, 1) := by decide +kernel
theorem dX6_becomes_9 : decode cX6_becomes 9 = .ok (.getfield 7, 3) := by decide +kernel
theorem dX6_becomes_12 : decode cX6_becomes 12 = .ok (.bipush 8, 2) := by decide +kernel
theorem dX6_becomes_14 : decode cX6_becomes 14 = .ok (.iconst 5, 1) := by decide +kernel
theorem dX6_becomes_15 : decode cX6_becomes 15 = .ok (.iload_n 1, 1) := by decide +kernel
theorem dX6_becomes_16 : decode cX6_becomes 16 = .ok (.imul, 1) := by decide +kernel
theorem dX6_becomes_17 : decode cX6_becomes 17 = .ok (.iadd, 1) := by decide +kernel
theorem dX6_becomes_18 : decode cX6_becomes 18 = .ok (.iload_n 2, 1) := by decide +kernel
theorem dX6_becomes_19 : decode cX6_becomes 19 = .ok (.iadd, 1) := by decide +kernel
theorem dX6_becomes_20 : decode cX6_becomes 20 = .ok (.iload_n 3, 1) := by decide +kernel
theorem dX6_becomes_21 : decode cX6_becomes 21 = .ok (.iastore, 1) := by decide +kernel
theorem dX6_becomes_22 : decode cX6_becomes 22 = .ok (.iload 4, 2) := by decide +kernel
theorem dX6_becomes_24 : decode cX6_becomes 24 = .ok (.ireturn, 1) := by decide +kernel
theorem dX6_switches_0 : decode cX6_switches 0 = .ok (.aload_n 0, 1) := by decide +kernel
theorem dX6_switches_1 : decode cX6_switches 1 = .ok (.iload_n 1, 1) := by decide +kernel
theorem dX6_switches_2 : decode cX6_switches 2 = .ok (.invokevirtual 165, 3) := by decide +kernel
theorem dX6_switches_5 : decode cX6_switches 5 = .ok (.ifCond .eq 13, 3) := by decide +kernel
theorem dX6_switches_8 : decode cX6_switches 8 = .ok (.iload_n 2, 1) := by decide +kernel
theorem dX6_switches_9 : decode cX6_switches 9 = .ok (.i2l, 1) := by decide +kernel
theorem dX6_switches_10 : decode cX6_switches 10 = .ok (.lconst 0, 1) := by decide +kernel
theorem dX6_switches_11 : decode cX6_switches 11 = .ok (.lconst 1, 1) := by decide +kernel
theorem dX6_switches_12 : decode cX6_switches 12 = .ok (.invokestatic 65, 3) := by decide +kernel
theorem dX6_switches_15 : decode cX6_switches 15 = .ok (.ifCond .ne 10, 3) := by decide +kernel
theorem dX6_switches_18 : decode cX6_switches 18 = .ok (.aload_n 0, 1) := by decide +kernel
theorem dX6_switches_19 : decode cX6_switches 19 = .ok (.bipush (-2), 2) := by decide +kernel
theorem dX6_switches_21 : decode cX6_switches 21 = .ok (.invokevirtual 130, 3) := by decide +kernel
theorem dX6_switches_24 : decode cX6_switches 24 = .ok (.ireturn, 1) := by decide +kernel
theorem dX6_switches_25 : decode cX6_switches 25 = .ok (.aload_n 0, 1) := by decide +kernel
theorem dX6_switches_26 : decode cX6_switches 26 = .ok (.invokevirtual 134, 3) := by decide +kernel
theorem dX6_switches_29 : decode cX6_switches 29 = .ok (.aload_n 0, 1) := by decide +kernel
theorem dX6_switches_30 : decode cX6_switches 30 = .ok (.invokevirtual 137, 3) := by decide +kernel
theorem dX6_switches_33 : decode cX6_switches 33 = .ok (.aload_n 0, 1) := by decide +kernel
theorem dX6_switches_34 : decode cX6_switches 34 = .ok (.iload_n 1, 1) := by decide +kernel
theorem dX6_switches_35 : decode cX6_switches 35 = .ok (.iconst 4, 1) := by decide +kernel
theorem dX6_switches_36 : decode cX6_switches 36 = .ok (.iload_n 2, 1) := by decide +kernel
theorem dX6_switches_37 : decode cX6_switches 37 = .ok (.invokevirtual 171, 3) := by decide +kernel
theorem dX6_switches_40 : decode cX6_switches 40 = .ok (.ireturn, 1) := by decide +kernel
theorem dX6_maySet_0 : decode cX6_maySet 0 = .ok (.aload_n 0, 1) := by decide +kernel
theorem dX6_maySet_1 : decode cX6_maySet 1 = .ok (.iload_n 1, 1) := by decide +kernel
theorem dX6_maySet_2 : decode cX6_maySet 2 = .ok (.invokevirtual 165, 3) := by decide +kernel
theorem dX6_maySet_5 : decode cX6_maySet 5 = .ok (.ifCond .eq 39, 3) := by decide +kernel
theorem dX6_maySet_8 : decode cX6_maySet 8 = .ok (.iload_n 2, 1) := by decide +kernel
theorem dX6_maySet_9 : decode cX6_maySet 9 = .ok (.i2l, 1) := by decide +kernel
theorem dX6_maySet_10 : decode cX6_maySet 10 = .ok (.lconst 0, 1) := by decide +kernel
theorem dX6_maySet_11 : decode cX6_maySet 11 = .ok (.lconst 1, 1) := by decide +kernel
theorem dX6_maySet_12 : decode cX6_maySet 12 = .ok (.invokestatic 65, 3) := by decide +kernel
theorem dX6_maySet_15 : decode cX6_maySet 15 = .ok (.ifCond .eq 29, 3) := by decide +kernel
theorem dX6_maySet_18 : decode cX6_maySet 18 = .ok (.iload_n 3, 1) := by decide +kernel
theorem dX6_maySet_19 : decode cX6_maySet 19 = .ok (.i2l, 1) := by decide +kernel
theorem dX6_maySet_20 : decode cX6_maySet 20 = .ok (.lconst 1, 1) := by decide +kernel
theorem dX6_maySet_21 : decode cX6_maySet 21 = .ok (.iload_n 2, 1) := by decide +kernel
theorem dX6_maySet_22 : decode cX6_maySet 22 = .ok (.ifCond .ne 9, 3) := by decide +kernel
theorem dX6_maySet_25 : decode cX6_maySet 25 = .ok (.ldc2_w 153, 3) := by decide +kernel
theorem dX6_maySet_28 : decode cX6_maySet 28 = .ok (.goto 6, 3) := by decide +kernel
theorem dX6_maySet_31 : decode cX6_maySet 31 = .ok (.ldc2_w 155, 3) := by decide +kernel
theorem dX6_maySet_34 : decode cX6_maySet 34 = .ok (.invokestatic 65, 3) := by decide +kernel
theorem dX6_maySet_37 : decode cX6_maySet 37 = .ok (.ifCond .eq 7, 3) := by decide +kernel
theorem dX6_maySet_40 : decode cX6_maySet 40 = .ok (.iconst 1, 1) := by decide +kernel
theorem dX6_maySet_41 : decode cX6_maySet 41 = .ok (.goto 4, 3) := by decide +kernel
theorem dX6_maySet_44 : decode cX6_maySet 44 = .ok (.iconst 0, 1) := by decide +kernel
theorem dX6_maySet_45 : decode cX6_maySet 45 = .ok (.ireturn, 1) := by decide +kernel
theorem dX6_sets_0 : decode cX6_sets 0 = .ok (.aload_n 0, 1) := by decide +kernel
theorem dX6_sets_1 : decode cX6_sets 1 = .ok (.iload_n 1, 1) := by decide +kernel
theorem dX6_sets_2 : decode cX6_sets 2 = .ok (.iload_n 2, 1) := by decide +kernel
theorem dX6_sets_3 : decode cX6_sets 3 = .ok (.iload_n 3, 1) := by decide +kernel
theorem dX6_sets_4 : decode cX6_sets 4 = .ok (.invokevirtual 175, 3) := by decide +kernel
theorem dX6_sets_7 : decode cX6_sets 7 = .ok (.ifCond .ne 10, 3) := by decide +kernel
theorem dX6_sets_10 : decode cX6_sets 10 = .ok (.aload_n 0, 1) := by decide +kernel
theorem dX6_sets_11 : decode cX6_sets 11 = .ok (.bipush (-2), 2) := by decide +kernel
theorem dX6_sets_13 : decode cX6_sets 13 = .ok (.invokevirtual 130, 3) := by decide +kernel
theorem dX6_sets_16 : decode cX6_sets 16 = .ok (.ireturn, 1) := by decide +kernel
theorem dX6_sets_17 : decode cX6_sets 17 = .ok (.aload_n 0, 1) := by decide +kernel
theorem dX6_sets_18 : decode cX6_sets 18 = .ok (.invokevirtual 134, 3) := by decide +kernel
theorem dX6_sets_21 : decode cX6_sets 21 = .ok (.aload_n 0, 1) := by decide +kernel
theorem dX6_sets_22 : decode cX6_sets 22 = .ok (.invokevirtual 137, 3) := by decide +kernel
theorem dX6_sets_25 : decode cX6_sets 25 = .ok (.aload_n 0, 1) := by decide +kernel
theorem dX6_sets_26 : decode cX6_sets 26 = .ok (.iload_n 1, 1) := by decide +kernel
theorem dX6_sets_27 : decode cX6_sets 27 = .ok (.iconst 2, 1) := by decide +kernel
theorem dX6_sets_28 : decode cX6_sets 28 = .ok (.iload_n 2, 1) := by decide +kernel
theorem dX6_sets_29 : decode cX6_sets 29 = .ok (.iadd, 1) := by decide +kernel
theorem dX6_sets_30 : decode cX6_sets 30 = .ok (.iload_n 3, 1) := by decide +kernel
theorem dX6_sets_31 : decode cX6_sets 31 = .ok (.invokevirtual 171, 3) := by decide +kernel
theorem dX6_sets_34 : decode cX6_sets 34 = .ok (.ireturn, 1) := by decide +kernel
theorem dX6_isBridge_0 : decode cX6_isBridge 0 = .ok (.aload_n 0, 1) := by decide +kernel
theorem dX6_isBridge_1 : decode cX6_isBridge 1 = .ok (.iload_n 1, 1) := by decide +kernel
theorem dX6_isBridge_2 : decode cX6_isBridge 2 = .ok (.invokevirtual 73, 3) := by decide +kernel
theorem dX6_isBridge_5 : decode cX6_isBridge 5 = .ok (.ifCond .ne 5, 3) := by decide +kernel
theorem dX6_isBridge_8 : decode cX6_isBridge 8 = .ok (.iconst 0, 1) := by decide +kernel
theorem dX6_isBridge_9 : decode cX6_isBridge 9 = .ok (.ireturn, 1) := by decide +kernel
theorem dX6_isBridge_10 : decode cX6_isBridge 10 = .ok (.aload_n 0, 1) := by decide +kernel
theorem dX6_isBridge_11 : decode cX6_isBridge 11 = .ok (.aload_n 0, 1) := by decide +kernel
theorem dX6_isBridge_12 : decode cX6_isBridge 12 = .ok (.invokevirtual 179, 3) := by decide +kernel
theorem dX6_isBridge_15 : decode cX6_isBridge 15 = .ok (.iconst 1, 1) := by decide +kernel
theorem dX6_isBridge_16 : decode cX6_isBridge 16 = .ok (.iload_n 1, 1) := by decide +kernel
theorem dX6_isBridge_17 : decode cX6_isBridge 17 = .ok (.ishl, 1) := by decide +kernel
theorem dX6_isBridge_18 : decode cX6_isBridge 18 = .ok (.iconst (-1), 1) := by decide +kernel
theorem dX6_isBridge_19 : decode cX6_isBridge 19 = .ok (.ixor, 1) := by decide +kernel
theorem dX6_isBridge_20 : decode cX6_isBridge 20 = .ok (.iand, 1) := by decide +kernel
theorem dX6_isBridge_21 : decode cX6_isBridge 21 = .ok (.invokevirtual 104, 3) := by decide +kernel
theorem dX6_isBridge_24 : decode cX6_isBridge 24 = .ok (.aload_n 0, 1) := by decide +kernel
theorem dX6_isBridge_25 : decode cX6_isBridge 25 = .ok (.getfield 29, 3) := by decide +kernel
theorem dX6_isBridge_28 : decode cX6_isBridge 28 = .ok (.aload_n 0, 1) := by decide +kernel
theorem dX6_isBridge_29 : decode cX6_isBridge 29 = .ok (.iload_n 1, 1) := by decide +kernel
theorem dX6_isBridge_30 : decode cX6_isBridge 30 = .ok (.iconst 0, 1) := by decide +kernel
theorem dX6_isBridge_31 : decode cX6_isBridge 31 = .ok (.invokevirtual 69, 3) := by decide +kernel
theorem dX6_isBridge_34 : decode cX6_isBridge 34 = .ok (.iaload, 1) := by decide +kernel
theorem dX6_isBridge_35 : decode cX6_isBridge 35 = .ok (.aload_n 0, 1) := by decide +kernel
theorem dX6_isBridge_36 : decode cX6_isBridge 36 = .ok (.getfield 29, 3) := by decide +kernel
theorem dX6_isBridge_39 : decode cX6_isBridge 39 = .ok (.aload_n 0, 1) := by decide +kernel
theorem dX6_isBridge_40 : decode cX6_isBridge 40 = .ok (.iload_n 1, 1) := by decide +kernel
theorem dX6_isBridge_41 : decode cX6_isBridge 41 = .ok (.iconst 1, 1) := by decide +kernel
theorem dX6_isBridge_42 : decode cX6_isBridge 42 = .ok (.invokevirtual 69, 3) := by decide +kernel
theorem dX6_isBridge_45 : decode cX6_isBridge 45 = .ok (.iaload, 1) := by decide +kernel
theorem dX6_isBridge_46 : decode cX6_isBridge 46 = .ok (.if_icmp .eq 7, 3) := by decide +kernel
theorem dX6_isBridge_49 : decode cX6_isBridge 49 = .ok (.iconst 1, 1) := by decide +kernel
theorem dX6_isBridge_50 : decode cX6_isBridge 50 = .ok (.goto 4, 3) := by decide +kernel
theorem dX6_isBridge_53 : decode cX6_isBridge 53 = .ok (.iconst 0, 1) := by decide +kernel
theorem dX6_isBridge_54 : decode cX6_isBridge 54 = .ok (.ireturn, 1) := by decide +kernel
theorem dX6_of_0 : decode cX6_of 0 = .ok (.aload_n 0, 1) := by decide +kernel
theorem dX6_of_1 : decode cX6_of 1 = .ok (.iload_n 1, 1) := by decide +kernel
theorem dX6_of_2 : decode cX6_of 2 = .ok (.invokevirtual 165, 3) := by decide +kernel
theorem dX6_of_5 : decode cX6_of 5 = .ok (.ifCond .eq 15, 3) := by decide +kernel
theorem dX6_of_8 : decode cX6_of 8 = .ok (.iload_n 2, 1) := by decide +kernel
theorem dX6_of_9 : decode cX6_of 9 = .ok (.i2l, 1) := by decide +kernel
theorem dX6_of_10 : decode cX6_of 10 = .ok (.lconst 0, 1) := by decide +kernel
theorem dX6_of_11 : decode cX6_of 11 = .ok (.ldc2_w 153, 3) := by decide +kernel
theorem dX6_of_14 : decode cX6_of 14 = .ok (.invokestatic 65, 3) := by decide +kernel
theorem dX6_of_17 : decode cX6_of 17 = .ok (.ifCond .ne 10, 3) := by decide +kernel
theorem dX6_of_20 : decode cX6_of 20 = .ok (.aload_n 0, 1) := by decide +kernel
theorem dX6_of_21 : decode cX6_of 21 = .ok (.bipush (-2), 2) := by decide +kernel
theorem dX6_of_23 : decode cX6_of 23 = .ok (.invokevirtual 130, 3) := by decide +kernel
theorem dX6_of_26 : decode cX6_of 26 = .ok (.ireturn, 1) := by decide +kernel
theorem dX6_of_27 : decode cX6_of 27 = .ok (.iload_n 2, 1) := by decide +kernel
theorem dX6_of_28 : decode cX6_of 28 = .ok (.iconst 5, 1) := by decide +kernel
theorem dX6_of_29 : decode cX6_of 29 = .ok (.if_icmp .ge 12, 3) := by decide +kernel
theorem dX6_of_32 : decode cX6_of 32 = .ok (.aload_n 0, 1) := by decide +kernel
theorem dX6_of_33 : decode cX6_of 33 = .ok (.iload_n 1, 1) := by decide +kernel
theorem dX6_of_34 : decode cX6_of 34 = .ok (.iload_n 2, 1) := by decide +kernel
theorem dX6_of_35 : decode cX6_of 35 = .ok (.invokevirtual 69, 3) := by decide +kernel
theorem dX6_of_38 : decode cX6_of 38 = .ok (.goto 16, 3) := by decide +kernel
theorem dX6_of_41 : decode cX6_of 41 = .ok (.aload_n 0, 1) := by decide +kernel
theorem dX6_of_42 : decode cX6_of 42 = .ok (.iload_n 1, 1) := by decide +kernel
theorem dX6_of_43 : decode cX6_of 43 = .ok (.invokevirtual 183, 3) := by decide +kernel
theorem dX6_of_46 : decode cX6_of 46 = .ok (.ifCond .eq 7, 3) := by decide +kernel
theorem dX6_of_49 : decode cX6_of 49 = .ok (.iconst 1, 1) := by decide +kernel
theorem dX6_of_50 : decode cX6_of 50 = .ok (.goto 4, 3) := by decide +kernel
theorem dX6_of_53 : decode cX6_of 53 = .ok (.iconst 0, 1) := by decide +kernel
theorem dX6_of_54 : decode cX6_of 54 = .ok (.ireturn, 1) := by decide +kernel
theorem dX6_flow_0 : decode cX6_flow 0 = .ok (.aload_n 0, 1) := by decide +kernel
theorem dX6_flow_1 : decode cX6_flow 1 = .ok (.iload_n 1, 1) := by decide +kernel
theorem dX6_flow_2 : decode cX6_flow 2 = .ok (.invokevirtual 165, 3) := by decide +kernel
theorem dX6_flow_5 : decode cX6_flow 5 = .ok (.ifCond .eq 13, 3) := by decide +kernel
theorem dX6_flow_8 : decode cX6_flow 8 = .ok (.iload_n 2, 1) := by decide +kernel
theorem dX6_flow_9 : decode cX6_flow 9 = .ok (.i2l, 1) := by decide +kernel
theorem dX6_flow_10 : decode cX6_flow 10 = .ok (.lconst 0, 1) := by decide +kernel
theorem dX6_flow_11 : decode cX6_flow 11 = .ok (.lconst 1, 1) := by decide +kernel
theorem dX6_flow_12 : decode cX6_flow 12 = .ok (.invokestatic 65, 3) := by decide +kernel
theorem dX6_flow_15 : decode cX6_flow 15 = .ok (.ifCond .ne 11, 3) := by decide +kernel
theorem dX6_flow_18 : decode cX6_flow 18 = .ok (.aload_n 0, 1) := by decide +kernel
theorem dX6_flow_19 : decode cX6_flow 19 = .ok (.bipush (-2), 2) := by decide +kernel
theorem dX6_flow_21 : decode cX6_flow 21 = .ok (.invokevirtual 130, 3) := by decide +kernel
theorem dX6_flow_24 : decode cX6_flow 24 = .ok (.i2l, 1) := by decide +kernel
theorem dX6_flow_25 : decode cX6_flow 25 = .ok (.lreturn, 1) := by decide +kernel
theorem dX6_flow_26 : decode cX6_flow 26 = .ok (.aload_n 0, 1) := by decide +kernel
theorem dX6_flow_27 : decode cX6_flow 27 = .ok (.invokevirtual 186, 3) := by decide +kernel
theorem dX6_flow_30 : decode cX6_flow 30 = .ok (.aload_n 0, 1) := by decide +kernel
theorem dX6_flow_31 : decode cX6_flow 31 = .ok (.aload_n 0, 1) := by decide +kernel
theorem dX6_flow_32 : decode cX6_flow 32 = .ok (.invokevirtual 179, 3) := by decide +kernel
theorem dX6_flow_35 : decode cX6_flow 35 = .ok (.invokevirtual 189, 3) := by decide +kernel
theorem dX6_flow_38 : decode cX6_flow 38 = .ok (.aload_n 0, 1) := by decide +kernel
theorem dX6_flow_39 : decode cX6_flow 39 = .ok (.iload_n 1, 1) := by decide +kernel
theorem dX6_flow_40 : decode cX6_flow 40 = .ok (.aload_n 0, 1) := by decide +kernel
theorem dX6_flow_41 : decode cX6_flow 41 = .ok (.invokevirtual 179, 3) := by decide +kernel
theorem dX6_flow_44 : decode cX6_flow 44 = .ok (.iload_n 2, 1) := by decide +kernel
theorem dX6_flow_45 : decode cX6_flow 45 = .ok (.invokevirtual 192, 3) := by decide +kernel
theorem dX6_flow_48 : decode cX6_flow 48 = .ok (.lreturn, 1) := by decide +kernel
theorem dX6_angle_0 : decode cX6_angle 0 = .ok (.aload_n 0, 1) := by decide +kernel
theorem dX6_angle_1 : decode cX6_angle 1 = .ok (.iload_n 1, 1) := by decide +kernel
theorem dX6_angle_2 : decode cX6_angle 2 = .ok (.invokevirtual 143, 3) := by decide +kernel
theorem dX6_angle_5 : decode cX6_angle 5 = .ok (.ifCond .eq 13, 3) := by decide +kernel
theorem dX6_angle_8 : decode cX6_angle 8 = .ok (.iload_n 2, 1) := by decide +kernel
theorem dX6_angle_9 : decode cX6_angle 9 = .ok (.i2l, 1) := by decide +kernel
theorem dX6_angle_10 : decode cX6_angle 10 = .ok (.lconst 0, 1) := by decide +kernel
theorem dX6_angle_11 : decode cX6_angle 11 = .ok (.lconst 1, 1) := by decide +kernel
theorem dX6_angle_12 : decode cX6_angle 12 = .ok (.invokestatic 65, 3) := by decide +kernel
theorem dX6_angle_15 : decode cX6_angle 15 = .ok (.ifCond .ne 11, 3) := by decide +kernel
theorem dX6_angle_18 : decode cX6_angle 18 = .ok (.aload_n 0, 1) := by decide +kernel
theorem dX6_angle_19 : decode cX6_angle 19 = .ok (.bipush (-2), 2) := by decide +kernel
theorem dX6_angle_21 : decode cX6_angle 21 = .ok (.invokevirtual 130, 3) := by decide +kernel
theorem dX6_angle_24 : decode cX6_angle 24 = .ok (.i2l, 1) := by decide +kernel
theorem dX6_angle_25 : decode cX6_angle 25 = .ok (.lreturn, 1) := by decide +kernel
theorem dX6_angle_26 : decode cX6_angle 26 = .ok (.aload_n 0, 1) := by decide +kernel
theorem dX6_angle_27 : decode cX6_angle 27 = .ok (.invokevirtual 186, 3) := by decide +kernel
theorem dX6_angle_30 : decode cX6_angle 30 = .ok (.aload_n 0, 1) := by decide +kernel
theorem dX6_angle_31 : decode cX6_angle 31 = .ok (.aload_n 0, 1) := by decide +kernel
theorem dX6_angle_32 : decode cX6_angle 32 = .ok (.invokevirtual 179, 3) := by decide +kernel
theorem dX6_angle_35 : decode cX6_angle 35 = .ok (.invokevirtual 189, 3) := by decide +kernel
theorem dX6_angle_38 : decode cX6_angle 38 = .ok (.aload_n 0, 1) := by decide +kernel
theorem dX6_angle_39 : decode cX6_angle 39 = .ok (.getfield 32, 3) := by decide +kernel
theorem dX6_angle_42 : decode cX6_angle 42 = .ok (.iload_n 1, 1) := by decide +kernel
theorem dX6_angle_43 : decode cX6_angle 43 = .ok (.laload, 1) := by decide +kernel
theorem dX6_angle_44 : decode cX6_angle 44 = .ok (.aload_n 0, 1) := by decide +kernel
theorem dX6_angle_45 : decode cX6_angle 45 = .ok (.getfield 35, 3) := by decide +kernel
theorem dX6_angle_48 : decode cX6_angle 48 = .ok (.iload_n 1, 1) := by decide +kernel
theorem dX6_angle_49 : decode cX6_angle 49 = .ok (.laload, 1) := by decide +kernel
theorem dX6_angle_50 : decode cX6_angle 50 = .ok (.iload_n 2, 1) := by decide +kernel
theorem dX6_angle_51 : decode cX6_angle 51 = .ok (.invokestatic 116, 3) := by decide +kernel
theorem dX6_angle_54 : decode cX6_angle 54 = .ok (.lreturn, 1) := by decide +kernel
theorem dX6_factor_0 : decode cX6_factor 0 = .ok (.aload_n 0, 1) := by decide +kernel
theorem dX6_factor_1 : decode cX6_factor 1 = .ok (.iload_n 1, 1) := by decide +kernel
theorem dX6_factor_2 : decode cX6_factor 2 = .ok (.invokevirtual 165, 3) := by decide +kernel
theorem dX6_factor_5 : decode cX6_factor 5 = .ok (.ifCond .eq 21, 3) := by decide +kernel
theorem dX6_factor_8 : decode cX6_factor 8 = .ok (.aload_n 0, 1) := by decide +kernel
theorem dX6_factor_9 : decode cX6_factor 9 = .ok (.iload_n 2, 1) := by decide +kernel
theorem dX6_factor_10 : decode cX6_factor 10 = .ok (.invokevirtual 143, 3) := by decide +kernel
theorem dX6_factor_13 : decode cX6_factor 13 = .ok (.ifCond .eq 13, 3) := by decide +kernel
theorem dX6_factor_16 : decode cX6_factor 16 = .ok (.iload_n 3, 1) := by decide +kernel
theorem dX6_factor_17 : decode cX6_factor 17 = .ok (.i2l, 1) := by decide +kernel
theorem dX6_factor_18 : decode cX6_factor 18 = .ok (.lconst 0, 1) := by decide +kernel
theorem dX6_factor_19 : decode cX6_factor 19 = .ok (.lconst 1, 1) := by decide +kernel
theorem dX6_factor_20 : decode cX6_factor 20 = .ok (.invokestatic 65, 3) := by decide +kernel
theorem dX6_factor_23 : decode cX6_factor 23 = .ok (.ifCond .ne 11, 3) := by decide +kernel
theorem dX6_factor_26 : decode cX6_factor 26 = .ok (.aload_n 0, 1) := by decide +kernel
theorem dX6_factor_27 : decode cX6_factor 27 = .ok (.bipush (-2), 2) := by decide +kernel
theorem dX6_factor_29 : decode cX6_factor 29 = .ok (.invokevirtual 130, 3) := by decide +kernel
theorem dX6_factor_32 : decode cX6_factor 32 = .ok (.i2l, 1) := by decide +kernel
theorem dX6_factor_33 : decode cX6_factor 33 = .ok (.lreturn, 1) := by decide +kernel
theorem dX6_factor_34 : decode cX6_factor 34 = .ok (.aload_n 0, 1) := by decide +kernel
theorem dX6_factor_35 : decode cX6_factor 35 = .ok (.iload_n 2, 1) := by decide +kernel
theorem dX6_factor_36 : decode cX6_factor 36 = .ok (.iconst (-1), 1) := by decide +kernel
theorem dX6_factor_37 : decode cX6_factor 37 = .ok (.invokevirtual 196, 3) := by decide +kernel
theorem dX6_factor_40 : decode cX6_factor 40 = .ok (.aload_n 0, 1) := by decide +kernel
theorem dX6_factor_41 : decode cX6_factor 41 = .ok (.aload_n 0, 1) := by decide +kernel
theorem dX6_factor_42 : decode cX6_factor 42 = .ok (.invokevirtual 179, 3) := by decide +kernel
theorem dX6_factor_45 : decode cX6_factor 45 = .ok (.invokevirtual 189, 3) := by decide +kernel
theorem dX6_factor_48 : decode cX6_factor 48 = .ok (.aload_n 0, 1) := by decide +kernel
theorem dX6_factor_49 : decode cX6_factor 49 = .ok (.iload_n 1, 1) := by decide +kernel
theorem dX6_factor_50 : decode cX6_factor 50 = .ok (.aload_n 0, 1) := by decide +kernel
theorem dX6_factor_51 : decode cX6_factor 51 = .ok (.invokevirtual 179, 3) := by decide +kernel
theorem dX6_factor_54 : decode cX6_factor 54 = .ok (.iload_n 3, 1) := by decide +kernel
theorem dX6_factor_55 : decode cX6_factor 55 = .ok (.invokevirtual 192, 3) := by decide +kernel
theorem dX6_factor_58 : decode cX6_factor 58 = .ok (.lreturn, 1) := by decide +kernel
theorem dX6_island_0 : decode cX6_island 0 = .ok (.aload_n 0, 1) := by decide +kernel
theorem dX6_island_1 : decode cX6_island 1 = .ok (.iload_n 1, 1) := by decide +kernel
theorem dX6_island_2 : decode cX6_island 2 = .ok (.invokevirtual 143, 3) := by decide +kernel
theorem dX6_island_5 : decode cX6_island 5 = .ok (.ifCond .ne 10, 3) := by decide +kernel
theorem dX6_island_8 : decode cX6_island 8 = .ok (.aload_n 0, 1) := by decide +kernel
theorem dX6_island_9 : decode cX6_island 9 = .ok (.bipush (-2), 2) := by decide +kernel
theorem dX6_island_11 : decode cX6_island 11 = .ok (.invokevirtual 130, 3) := by decide +kernel
theorem dX6_island_14 : decode cX6_island 14 = .ok (.ireturn, 1) := by decide +kernel
theorem dX6_island_15 : decode cX6_island 15 = .ok (.aload_n 0, 1) := by decide +kernel
theorem dX6_island_16 : decode cX6_island 16 = .ok (.aload_n 0, 1) := by decide +kernel
theorem dX6_island_17 : decode cX6_island 17 = .ok (.invokevirtual 179, 3) := by decide +kernel
theorem dX6_island_20 : decode cX6_island 20 = .ok (.invokevirtual 104, 3) := by decide +kernel
theorem dX6_island_23 : decode cX6_island 23 = .ok (.aload_n 0, 1) := by decide +kernel
theorem dX6_island_24 : decode cX6_island 24 = .ok (.getfield 29, 3) := by decide +kernel
theorem dX6_island_27 : decode cX6_island 27 = .ok (.iload_n 1, 1) := by decide +kernel
theorem dX6_island_28 : decode cX6_island 28 = .ok (.iaload, 1) := by decide +kernel
theorem dX6_island_29 : decode cX6_island 29 = .ok (.ireturn, 1) := by decide +kernel
theorem dX6_trees_0 : decode cX6_trees 0 = .ok (.aload_n 0, 1) := by decide +kernel
theorem dX6_trees_1 : decode cX6_trees 1 = .ok (.iload_n 1, 1) := by decide +kernel
theorem dX6_trees_2 : decode cX6_trees 2 = .ok (.invokevirtual 143, 3) := by decide +kernel
theorem dX6_trees_5 : decode cX6_trees 5 = .ok (.ifCond .ne 11, 3) := by decide +kernel
theorem dX6_trees_8 : decode cX6_trees 8 = .ok (.aload_n 0, 1) := by decide +kernel
theorem dX6_trees_9 : decode cX6_trees 9 = .ok (.bipush (-2), 2) := by decide +kernel
theorem dX6_trees_11 : decode cX6_trees 11 = .ok (.invokevirtual 130, 3) := by decide +kernel
theorem dX6_trees_14 : decode cX6_trees 14 = .ok (.i2l, 1) := by decide +kernel
theorem dX6_trees_15 : decode cX6_trees 15 = .ok (.lreturn, 1) := by decide +kernel
theorem dX6_trees_16 : decode cX6_trees 16 = .ok (.aload_n 0, 1) := by decide +kernel
theorem dX6_trees_17 : decode cX6_trees 17 = .ok (.aload_n 0, 1) := by decide +kernel
theorem dX6_trees_18 : decode cX6_trees 18 = .ok (.invokevirtual 179, 3) := by decide +kernel
theorem dX6_trees_21 : decode cX6_trees 21 = .ok (.invokevirtual 104, 3) := by decide +kernel
theorem dX6_trees_24 : decode cX6_trees 24 = .ok (.aload_n 0, 1) := by decide +kernel
theorem dX6_trees_25 : decode cX6_trees 25 = .ok (.aload_n 0, 1) := by decide +kernel
theorem dX6_trees_26 : decode cX6_trees 26 = .ok (.invokevirtual 179, 3) := by decide +kernel
theorem dX6_trees_29 : decode cX6_trees 29 = .ok (.aload_n 0, 1) := by decide +kernel
theorem dX6_trees_30 : decode cX6_trees 30 = .ok (.getfield 29, 3) := by decide +kernel
theorem dX6_trees_33 : decode cX6_trees 33 = .ok (.iload_n 1, 1) := by decide +kernel
theorem dX6_trees_34 : decode cX6_trees 34 = .ok (.iaload, 1) := by decide +kernel
theorem dX6_trees_35 : decode cX6_trees 35 = .ok (.invokevirtual 107, 3) := by decide +kernel
theorem dX6_trees_38 : decode cX6_trees 38 = .ok (.lreturn, 1) := by decide +kernel
theorem dX6_fed_0 : decode cX6_fed 0 = .ok (.aload_n 0, 1) := by decide +kernel
theorem dX6_fed_1 : decode cX6_fed 1 = .ok (.iload_n 1, 1) := by decide +kernel
theorem dX6_fed_2 : decode cX6_fed 2 = .ok (.invokevirtual 143, 3) := by decide +kernel
theorem dX6_fed_5 : decode cX6_fed 5 = .ok (.ifCond .ne 13, 3) := by decide +kernel
theorem dX6_fed_8 : decode cX6_fed 8 = .ok (.aload_n 0, 1) := by decide +kernel
theorem dX6_fed_9 : decode cX6_fed 9 = .ok (.bipush (-2), 2) := by decide +kernel
theorem dX6_fed_11 : decode cX6_fed 11 = .ok (.invokevirtual 130, 3) := by decide +kernel
theorem dX6_fed_14 : decode cX6_fed 14 = .ok (.pop, 1) := by decide +kernel
theorem dX6_fed_15 : decode cX6_fed 15 = .ok (.ldc 199, 2) := by decide +kernel
theorem dX6_fed_17 : decode cX6_fed 17 = .ok (.ireturn, 1) := by decide +kernel
theorem dX6_fed_18 : decode cX6_fed 18 = .ok (.aload_n 0, 1) := by decide +kernel
theorem dX6_fed_19 : decode cX6_fed 19 = .ok (.aload_n 0, 1) := by decide +kernel
theorem dX6_fed_20 : decode cX6_fed 20 = .ok (.invokevirtual 179, 3) := by decide +kernel
theorem dX6_fed_23 : decode cX6_fed 23 = .ok (.invokevirtual 104, 3) := by decide +kernel
theorem dX6_fed_26 : decode cX6_fed 26 = .ok (.iconst 0, 1) := by decide +kernel
theorem dX6_fed_27 : decode cX6_fed 27 = .ok (.istore_n 2, 1) := by decide +kernel
theorem dX6_fed_28 : decode cX6_fed 28 = .ok (.iconst 0, 1) := by decide +kernel
theorem dX6_fed_29 : decode cX6_fed 29 = .ok (.istore_n 3, 1) := by decide +kernel
theorem dX6_fed_30 : decode cX6_fed 30 = .ok (.iload_n 3, 1) := by decide +kernel
theorem dX6_fed_31 : decode cX6_fed 31 = .ok (.aload_n 0, 1) := by decide +kernel
theorem dX6_fed_32 : decode cX6_fed 32 = .ok (.getfield 7, 3) := by decide +kernel
theorem dX6_fed_35 : decode cX6_fed 35 = .ok (.iconst 0, 1) := by decide +kernel
theorem dX6_fed_36 : decode cX6_fed 36 = .ok (.iaload, 1) := by decide +kernel
theorem dX6_fed_37 : decode cX6_fed 37 = .ok (.if_icmp .ge 39, 3) := by decide +kernel
theorem dX6_fed_40 : decode cX6_fed 40 = .ok (.iload_n 2, 1) := by decide +kernel
theorem dX6_fed_41 : decode cX6_fed 41 = .ok (.iload_n 3, 1) := by decide +kernel
theorem dX6_fed_42 : decode cX6_fed 42 = .ok (.iload_n 1, 1) := by decide +kernel
theorem dX6_fed_43 : decode cX6_fed 43 = .ok (.if_icmp .eq 24, 3) := by decide +kernel
theorem dX6_fed_46 : decode cX6_fed 46 = .ok (.aload_n 0, 1) := by decide +kernel
theorem dX6_fed_47 : decode cX6_fed 47 = .ok (.getfield 29, 3) := by decide +kernel
theorem dX6_fed_50 : decode cX6_fed 50 = .ok (.iload_n 3, 1) := by decide +kernel
theorem dX6_fed_51 : decode cX6_fed 51 = .ok (.iaload, 1) := by decide +kernel
theorem dX6_fed_52 : decode cX6_fed 52 = .ok (.iload_n 1, 1) := by decide +kernel
theorem dX6_fed_53 : decode cX6_fed 53 = .ok (.if_icmp .ne 14, 3) := by decide +kernel
theorem dX6_fed_56 : decode cX6_fed 56 = .ok (.aload_n 0, 1) := by decide +kernel
theorem dX6_fed_57 : decode cX6_fed 57 = .ok (.getfield 7, 3) := by decide +kernel
theorem dX6_fed_60 : decode cX6_fed 60 = .ok (.iconst 2, 1) := by decide +kernel
theorem dX6_fed_61 : decode cX6_fed 61 = .ok (.iload_n 3, 1) := by decide +kernel
theorem dX6_fed_62 : decode cX6_fed 62 = .ok (.iadd, 1) := by decide +kernel
theorem dX6_fed_63 : decode cX6_fed 63 = .ok (.iaload, 1) := by decide +kernel
theorem dX6_fed_64 : decode cX6_fed 64 = .ok (.goto 4, 3) := by decide +kernel
theorem dX6_fed_67 : decode cX6_fed 67 = .ok (.iconst 0, 1) := by decide +kernel
theorem dX6_fed_68 : decode cX6_fed 68 = .ok (.iadd, 1) := by decide +kernel
theorem dX6_fed_69 : decode cX6_fed 69 = .ok (.istore_n 2, 1) := by decide +kernel
theorem dX6_fed_70 : decode cX6_fed 70 = .ok (.iinc 3 1, 3) := by decide +kernel
theorem dX6_fed_73 : decode cX6_fed 73 = .ok (.goto (-43), 3) := by decide +kernel
theorem dX6_fed_76 : decode cX6_fed 76 = .ok (.aload_n 0, 1) := by decide +kernel
theorem dX6_fed_77 : decode cX6_fed 77 = .ok (.getfield 29, 3) := by decide +kernel
theorem dX6_fed_80 : decode cX6_fed 80 = .ok (.iload_n 1, 1) := by decide +kernel
theorem dX6_fed_81 : decode cX6_fed 81 = .ok (.iaload, 1) := by decide +kernel
theorem dX6_fed_82 : decode cX6_fed 82 = .ok (.iload_n 1, 1) := by decide +kernel
theorem dX6_fed_83 : decode cX6_fed 83 = .ok (.if_icmp .ne 8, 3) := by decide +kernel
theorem dX6_fed_86 : decode cX6_fed 86 = .ok (.iload_n 2, 1) := by decide +kernel
theorem dX6_fed_87 : decode cX6_fed 87 = .ok (.ineg, 1) := by decide +kernel
theorem dX6_fed_88 : decode cX6_fed 88 = .ok (.goto 11, 3) := by decide +kernel
theorem dX6_fed_91 : decode cX6_fed 91 = .ok (.aload_n 0, 1) := by decide +kernel
theorem dX6_fed_92 : decode cX6_fed 92 = .ok (.getfield 7, 3) := by decide +kernel
theorem dX6_fed_95 : decode cX6_fed 95 = .ok (.iconst 2, 1) := by decide +kernel
theorem dX6_fed_96 : decode cX6_fed 96 = .ok (.iload_n 1, 1) := by decide +kernel
theorem dX6_fed_97 : decode cX6_fed 97 = .ok (.iadd, 1) := by decide +kernel
theorem dX6_fed_98 : decode cX6_fed 98 = .ok (.iaload, 1) := by decide +kernel
theorem dX6_fed_99 : decode cX6_fed 99 = .ok (.ireturn, 1) := by decide +kernel
theorem dX6_outage_0 : decode cX6_outage 0 = .ok (.aload_n 0, 1) := by decide +kernel
theorem dX6_outage_1 : decode cX6_outage 1 = .ok (.iload_n 1, 1) := by decide +kernel
theorem dX6_outage_2 : decode cX6_outage 2 = .ok (.invokevirtual 165, 3) := by decide +kernel
theorem dX6_outage_5 : decode cX6_outage 5 = .ok (.ifCond .eq 21, 3) := by decide +kernel
theorem dX6_outage_8 : decode cX6_outage 8 = .ok (.aload_n 0, 1) := by decide +kernel
theorem dX6_outage_9 : decode cX6_outage 9 = .ok (.iload_n 2, 1) := by decide +kernel
theorem dX6_outage_10 : decode cX6_outage 10 = .ok (.invokevirtual 165, 3) := by decide +kernel
theorem dX6_outage_13 : decode cX6_outage 13 = .ok (.ifCond .eq 13, 3) := by decide +kernel
theorem dX6_outage_16 : decode cX6_outage 16 = .ok (.iload_n 3, 1) := by decide +kernel
