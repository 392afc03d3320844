/-! ===== all boards of five sides (1) ===== -/
def lm3 : List Nat := [1073741789, 536870909, 268435399, 134217689, 67108859, 33554393, 16777213, 8388593]
def lm4 : List Nat := [1999999973, 1444444447, 777777799, 333333337, 1222222253, 888888883, 555555557, 1666666669]
def at5 : List (List Nat × Nat × Nat) := [(lm1, 6, 13), (lm2, 6, 13), (lm3, 6, 13), (lm4, 6, 13), (lm1, 7, 15), (lm2, 7, 15), (lm3, 7, 15)]
noncomputable def bl5 (i : Nat) : Bool := allB (fun k => ckb at5 5 (Nat.add (Nat.mul 9 i) k)) 9
theorem ck5_0 : bl5 0 = true := by decide +kernel
theorem ck5_1 : bl5 1 = true := by decide +kernel
theorem ck5_2 : bl5 2 = true := by decide +kernel
theorem ck5_3 : bl5 3 = true := by decide +kernel
theorem ck5_4 : bl5 4 = true := by decide +kernel
theorem ck5_5 : bl5 5 = true := by decide +kernel
theorem ck5_6 : bl5 6 = true := by decide +kernel
theorem ck5_7 : bl5 7 = true := by decide +kernel
theorem ck5_8 : bl5 8 = true := by decide +kernel
theorem ck5_9 : bl5 9 = true := by decide +kernel
theorem ck5_10 : bl5 10 = true := by decide +kernel
theorem ck5_11 : bl5 11 = true := by decide +kernel
theorem ck5_12 : bl5 12 = true := by decide +kernel
theorem ck5_13 : bl5 13 = true := by decide +kernel
theorem ck5_14 : bl5 14 = true := by decide +kernel
theorem ck5_15 : bl5 15 = true := by decide +kernel
theorem ck5_16 : bl5 16 = true := by decide +kernel
theorem ck5_17 : bl5 17 = true := by decide +kernel
theorem ck5_18 : bl5 18 = true := by decide +kernel
theorem ck5_19 : bl5 19 = true := by decide +kernel
theorem ck5_20 : bl5 20 = true := by decide +kernel
theorem ck5_21 : bl5 21 = true := by decide +kernel
theorem ck5_22 : bl5 22 = true := by decide +kernel
theorem ck5_23 : bl5 23 = true := by decide +kernel
theorem ck5_24 : bl5 24 = true := by decide +kernel
theorem ck5_25 : bl5 25 = true := by decide +kernel
theorem ck5_26 : bl5 26 = true := by decide +kernel
theorem ck5_27 : bl5 27 = true := by decide +kernel
theorem ck5_28 : bl5 28 = true := by decide +kernel
theorem ck5_29 : bl5 29 = true := by decide +kernel
theorem ck5_30 : bl5 30 = true := by decide +kernel
theorem ck5_31 : bl5 31 = true := by decide +kernel
theorem ck5_32 : bl5 32 = true := by decide +kernel
theorem ck5_33 : bl5 33 = true := by decide +kernel
theorem ck5_34 : bl5 34 = true := by decide +kernel
theorem ck5_35 : bl5 35 = true := by decide +kernel
theorem ck5_36 : bl5 36 = true := by decide +kernel
theorem ck5_37 : bl5 37 = true := by decide +kernel
theorem ck5_38 : bl5 38 = true := by decide +kernel
theorem ck5_39 : bl5 39 = true := by decide +kernel
theorem ck5_40 : bl5 40 = true := by decide +kernel
theorem ck5_41 : bl5 41 = true := by decide +kernel
theorem ck5_42 : bl5 42 = true := by decide +kernel
theorem ck5_43 : bl5 43 = true := by decide +kernel
theorem ck5_44 : bl5 44 = true := by decide +kernel
theorem ck5_45 : bl5 45 = true := by decide +kernel
theorem ck5_46 : bl5 46 = true := by decide +kernel
theorem ck5_47 : bl5 47 = true := by decide +kernel
theorem ck5_48 : bl5 48 = true := by decide +kernel
theorem ck5_49 : bl5 49 = true := by decide +kernel
theorem ck5_50 : bl5 50 = true := by decide +kernel
theorem ck5_51 : bl5 51 = true := by decide +kernel
theorem ck5_52 : bl5 52 = true := by decide +kernel
theorem ck5_53 : bl5 53 = true := by decide +kernel
theorem ck5_54 : bl5 54 = true := by decide +kernel
theorem ck5_55 : bl5 55 = true := by decide +kernel
theorem ck5_56 : bl5 56 = true := by decide +kernel
theorem ck5_57 : bl5 57 = true := by decide +kernel
theorem ck5_58 : bl5 58 = true := by decide +kernel
theorem ck5_59 : bl5 59 = true := by decide +kernel
theorem ck5_60 : bl5 60 = true := by decide +kernel
theorem ck5_61 : bl5 61 = true := by decide +kernel
theorem ck5_62 : bl5 62 = true := by decide +kernel
theorem ck5_63 : bl5 63 = true := by decide +kernel
theorem ck5_64 : bl5 64 = true := by decide +kernel
theorem ck5_65 : bl5 65 = true := by decide +kernel
theorem ck5_66 : bl5 66 = true := by decide +kernel
theorem ck5_67 : bl5 67 = true := by decide +kernel
theorem ck5_68 : bl5 68 = true := by decide +kernel
theorem ck5_69 : bl5 69 = true := by decide +kernel
theorem ck5_70 : bl5 70 = true := by decide +kernel
theorem ck5_71 : bl5 71 = true := by decide +kernel
theorem ck5_72 : bl5 72 = true := by decide +kernel
theorem ck5_73 : bl5 73 = true := by decide +kernel
theorem ck5_74 : bl5 74 = true := by decide +kernel
theorem ck5_75 : bl5 75 = true := by decide +kernel
theorem ck5_76 : bl5 76 = true := by decide +kernel
theorem ck5_77 : bl5 77 = true := by decide +kernel
theorem ck5_78 : bl5 78 = true := by decide +kernel
theorem ck5_79 : bl5 79 = true := by decide +kernel
theorem ck5_80 : bl5 80 = true := by decide +kernel
theorem ck5_81 : bl5 81 = true := by decide +kernel
theorem ck5_82 : bl5 82 = true := by decide +kernel
theorem ck5_83 : bl5 83 = true := by decide +kernel
theorem ck5_84 : bl5 84 = true := by decide +kernel
theorem ck5_85 : bl5 85 = true := by decide +kernel
theorem ck5_86 : bl5 86 = true := by decide +kernel
theorem ck5_87 : bl5 87 = true := by decide +kernel
theorem ck5_88 : bl5 88 = true := by decide +kernel
theorem ck5_89 : bl5 89 = true := by decide +kernel
theorem ck5_90 : bl5 90 = true := by decide +kernel
theorem ck5_91 : bl5 91 = true := by decide +kernel
theorem ck5_92 : bl5 92 = true := by decide +kernel
theorem ck5_93 : bl5 93 = true := by decide +kernel
theorem ck5_94 : bl5 94 = true := by decide +kernel
theorem ck5_95 : bl5 95 = true := by decide +kernel
theorem ck5_96 : bl5 96 = true := by decide +kernel
theorem ck5_97 : bl5 97 = true := by decide +kernel
theorem ck5_98 : bl5 98 = true := by decide +kernel
theorem ck5_99 : bl5 99 = true := by decide +kernel
theorem ck5_100 : bl5 100 = true := by decide +kernel
theorem ck5_101 : bl5 101 = true := by decide +kernel
theorem ck5_102 : bl5 102 = true := by decide +kernel
theorem ck5_103 : bl5 103 = true := by decide +kernel
theorem ck5_104 : bl5 104 = true := by decide +kernel
theorem ck5_105 : bl5 105 = true := by decide +kernel
theorem ck5_106 : bl5 106 = true := by decide +kernel
theorem ck5_107 : bl5 107 = true := by decide +kernel
theorem ck5_108 : bl5 108 = true := by decide +kernel
theorem ck5_109 : bl5 109 = true := by decide +kernel
theorem ck5_110 : bl5 110 = true := by decide +kernel
theorem ck5_111 : bl5 111 = true := by decide +kernel
theorem ck5_112 : bl5 112 = true := by decide +kernel
theorem ck5_113 : bl5 113 = true := by decide +kernel
theorem ck5_114 : bl5 114 = true := by decide +kernel
theorem ck5_115 : bl5 115 = true := by decide +kernel
theorem ck5_116 : bl5 116 = true := by decide +kernel
theorem ck5_117 : bl5 117 = true := by decide +kernel
theorem ck5_118 : bl5 118 = true := by decide +kernel
theorem ck5_119 : bl5 119 = true := by decide +kernel
theorem ck5_120 : bl5 120 = true := by decide +kernel
theorem ck5_121 : bl5 121 = true := by decide +kernel
theorem ck5_122 : bl5 122 = true := by decide +kernel
theorem ck5_123 : bl5 123 = true := by decide +kernel
theorem ck5_124 : bl5 124 = true := by decide +kernel
theorem ck5_125 : bl5 125 = true := by decide +kernel
theorem ck5_126 : bl5 126 = true := by decide +kernel
theorem ck5_127 : bl5 127 = true := by decide +kernel
theorem ck5_128 : bl5 128 = true := by decide +kernel
theorem ck5_129 : bl5 129 = true := by decide +kernel
theorem ck5_130 : bl5 130 = true := by decide +kernel
theorem ck5_131 : bl5 131 = true := by decide +kernel
theorem ck5_132 : bl5 132 = true := by decide +kernel
theorem ck5_133 : bl5 133 = true := by decide +kernel
theorem ck5_134 : bl5 134 = true := by decide +kernel
theorem ck5_135 : bl5 135 = true := by decide +kernel
theorem ck5_136 : bl5 136 = true := by decide +kernel
theorem ck5_137 : bl5 137 = true := by decide +kernel
theorem ck5_138 : bl5 138 = true := by decide +kernel
theorem ck5_139 : bl5 139 = true := by decide +kernel
theorem ck5_140 : bl5 140 = true := by decide +kernel
theorem ck5_141 : bl5 141 = true := by decide +kernel
theorem ck5_142 : bl5 142 = true := by decide +kernel
theorem ck5_143 : bl5 143 = true := by decide +kernel
theorem ck5_144 : bl5 144 = true := by decide +kernel
theorem ck5_145 : bl5 145 = true := by decide +kernel
theorem ck5_146 : bl5 146 = true := by decide +kernel
theorem ck5_147 : bl5 147 = true := by decide +kernel
theorem ck5_148 : bl5 148 = true := by decide +kernel
theorem ck5_149 : bl5 149 = true := by decide +kernel
theorem ck5_150 : bl5 150 = true := by decide +kernel
theorem ck5_151 : bl5 151 = true := by decide +kernel
theorem ck5_152 : bl5 152 = true := by decide +kernel
theorem ck5_153 : bl5 153 = true := by decide +kernel
theorem ck5_154 : bl5 154 = true := by decide +kernel
theorem ck5_155 : bl5 155 = true := by decide +kernel
theorem ck5_156 : bl5 156 = true := by decide +kernel
theorem ck5_157 : bl5 157 = true := by decide +kernel
theorem ck5_158 : bl5 158 = true := by decide +kernel
theorem ck5_159 : bl5 159 = true := by decide +kernel
theorem ck5_160 : bl5 160 = true := by decide +kernel
theorem ck5_161 : bl5 161 = true := by decide +kernel
theorem ck5_162 : bl5 162 = true := by decide +kernel
theorem ck5_163 : bl5 163 = true := by decide +kernel
theorem ck5_164 : bl5 164 = true := by decide +kernel
theorem ck5_165 : bl5 165 = true := by decide +kernel
theorem ck5_166 : bl5 166 = true := by decide +kernel
theorem ck5_167 : bl5 167 = true := by decide +kernel
theorem ck5_168 : bl5 168 = true := by decide +kernel
theorem ck5_169 : bl5 169 = true := by decide +kernel
theorem ck5_170 : bl5 170 = true := by decide +kernel
theorem ck5_171 : bl5 171 = true := by decide +kernel
theorem ck5_172 : bl5 172 = true := by decide +kernel
theorem ck5_173 : bl5 173 = true := by decide +kernel
theorem ck5_174 : bl5 174 = true := by decide +kernel
theorem ck5_175 : bl5 175 = true := by decide +kernel
theorem ck5_176 : bl5 176 = true := by decide +kernel
theorem ck5_177 : bl5 177 = true := by decide +kernel
theorem ck5_178 : bl5 178 = true := by decide +kernel
theorem ck5_179 : bl5 179 = true := by decide +kernel
theorem ck5_180 : bl5 180 = true := by decide +kernel
theorem ck5_181 : bl5 181 = true := by decide +kernel
theorem ck5_182 : bl5 182 = true := by decide +kernel
theorem ck5_183 : bl5 183 = true := by decide +kernel
theorem ck5_184 : bl5 184 = true := by decide +kernel
theorem ck5_185 : bl5 185 = true := by decide +kernel
theorem ck5_186 : bl5 186 = true := by decide +kernel
theorem ck5_187 : bl5 187 = true := by decide +kernel
theorem ck5_188 : bl5 188 = true := by decide +kernel
theorem ck5_189 : bl5 189 = true := by decide +kernel
theorem ck5_190 : bl5 190 = true := by decide +kernel
theorem ck5_191 : bl5 191 = true := by decide +kernel
theorem ck5_192 : bl5 192 = true := by decide +kernel
theorem ck5_193 : bl5 193 = true := by decide +kernel
theorem ck5_194 : bl5 194 = true := by decide +kernel
theorem ck5_195 : bl5 195 = true := by decide +kernel
theorem ck5_196 : bl5 196 = true := by decide +kernel
theorem ck5_197 : bl5 197 = true := by decide +kernel
theorem ck5_198 : bl5 198 = true := by decide +kernel
theorem ck5_199 : bl5 199 = true := by decide +kernel
theorem ck5_200 : bl5 200 = true := by decide +kernel
theorem ck5_201 : bl5 201 = true := by decide +kernel
theorem ck5_202 : bl5 202 = true := by decide +kernel
theorem ck5_203 : bl5 203 = true := by decide +kernel
theorem ck5_204 : bl5 204 = true := by decide +kernel
theorem ck5_205 : bl5 205 = true := by decide +kernel
theorem ck5_206 : bl5 206 = true := by decide +kernel
theorem ck5_207 : bl5 207 = true := by decide +kernel
theorem ck5_208 : bl5 208 = true := by decide +kernel
theorem ck5_209 : bl5 209 = true := by decide +kernel
theorem ck5_210 : bl5 210 = true := by decide +kernel
theorem ck5_211 : bl5 211 = true := by decide +kernel
theorem ck5_212 : bl5 212 = true := by decide +kernel
theorem ck5_213 : bl5 213 = true := by decide +kernel
theorem ck5_214 : bl5 214 = true := by decide +kernel
theorem ck5_215 : bl5 215 = true := by decide +kernel
theorem ck5_216 : bl5 216 = true := by decide +kernel
theorem ck5_217 : bl5 217 = true := by decide +kernel
theorem ck5_218 : bl5 218 = true := by decide +kernel
theorem ck5_219 : bl5 219 = true := by decide +kernel
theorem ck5_220 : bl5 220 = true := by decide +kernel
theorem ck5_221 : bl5 221 = true := by decide +kernel
theorem ck5_222 : bl5 222 = true := by decide +kernel
theorem ck5_223 : bl5 223 = true := by decide +kernel
theorem ck5_224 : bl5 224 = true := by decide +kernel
theorem ck5_225 : bl5 225 = true := by decide +kernel
theorem ck5_226 : bl5 226 = true := by decide +kernel
theorem ck5_227 : bl5 227 = true := by decide +kernel
theorem ck5_228 : bl5 228 = true := by decide +kernel
theorem ck5_229 : bl5 229 = true := by decide +kernel
theorem ck5_230 : bl5 230 = true := by decide +kernel
theorem ck5_231 : bl5 231 = true := by decide +kernel
theorem ck5_232 : bl5 232 = true := by decide +kernel
theorem ck5_233 : bl5 233 = true := by decide +kernel
theorem ck5_234 : bl5 234 = true := by decide +kernel
theorem ck5_235 : bl5 235 = true := by decide +kernel
theorem ck5_236 : bl5 236 = true := by decide +kernel
theorem ck5_237 : bl5 237 = true := by decide +kernel
theorem ck5_238 : bl5 238 = true := by decide +kernel
theorem ck5_239 : bl5 239 = true := by decide +kernel
theorem ck5_240 : bl5 240 = true := by decide +kernel
theorem ck5_241 : bl5 241 = true := by decide +kernel
theorem ck5_242 : bl5 242 = true := by decide +kernel
theorem ck5_243 : bl5 243 = true := by decide +kernel
theorem ck5_244 : bl5 244 = true := by decide +kernel
theorem ck5_245 : bl5 245 = true := by decide +kernel
theorem ck5_246 : bl5 246 = true := by decide +kernel
theorem ck5_247 : bl5 247 = true := by decide +kernel
theorem ck5_248 : bl5 248 = true := by decide +kernel
theorem ck5_249 : bl5 249 = true := by decide +kernel
theorem ck5_250 : bl5 250 = true := by decide +kernel
theorem ck5_251 : bl5 251 = true := by decide +kernel
theorem ck5_252 : bl5 252 = true := by decide +kernel
theorem ck5_253 : bl5 253 = true := by decide +kernel
theorem ck5_254 : bl5 254 = true := by decide +kernel
theorem ck5_255 : bl5 255 = true := by decide +kernel
theorem ck5_256 : bl5 256 = true := by decide +kernel
theorem ck5_257 : bl5 257 = true := by decide +kernel
theorem ck5_258 : bl5 258 = true := by decide +kernel
theorem ck5_259 : bl5 259 = true := by decide +kernel
theorem ck5_260 : bl5 260 = true := by decide +kernel
theorem ck5_261 : bl5 261 = true := by decide +kernel
theorem ck5_262 : bl5 262 = true := by decide +kernel
theorem ck5_263 : bl5 263 = true := by decide +kernel
theorem ck5_264 : bl5 264 = true := by decide +kernel
theorem ck5_265 : bl5 265 = true := by decide +kernel
theorem ck5_266 : bl5 266 = true := by decide +kernel
theorem ck5_267 : bl5 267 = true := by decide +kernel
theorem ck5_268 : bl5 268 = true := by decide +kernel
theorem ck5_269 : bl5 269 = true := by decide +kernel
theorem ck5_270 : bl5 270 = true := by decide +kernel
theorem ck5_271 : bl5 271 = true := by decide +kernel
theorem ck5_272 : bl5 272 = true := by decide +kernel
theorem ck5_273 : bl5 273 = true := by decide +kernel
theorem ck5_274 : bl5 274 = true := by decide +kernel
theorem ck5_275 : bl5 275 = true := by decide +kernel
theorem ck5_276 : bl5 276 = true := by decide +kernel
theorem ck5_277 : bl5 277 = true := by decide +kernel
theorem ck5_278 : bl5 278 = true := by decide +kernel
theorem ck5_279 : bl5 279 = true := by decide +kernel
theorem ck5_280 : bl5 280 = true := by decide +kernel
theorem ck5_281 : bl5 281 = true := by decide +kernel
theorem ck5_282 : bl5 282 = true := by decide +kernel
theorem ck5_283 : bl5 283 = true := by decide +kernel
theorem ck5_284 : bl5 284 = true := by decide +kernel
theorem ck5_285 : bl5 285 = true := by decide +kernel
theorem ck5_286 : bl5 286 = true := by decide +kernel
theorem ck5_287 : bl5 287 = true := by decide +kernel
theorem ck5_288 : bl5 288 = true := by decide +kernel
theorem ck5_289 : bl5 289 = true := by decide +kernel
theorem ck5_290 : bl5 290 = true := by decide +kernel
theorem ck5_291 : bl5 291 = true := by decide +kernel
theorem ck5_292 : bl5 292 = true := by decide +kernel
theorem ck5_293 : bl5 293 = true := by decide +kernel
theorem ck5_294 : bl5 294 = true := by decide +kernel
theorem ck5_295 : bl5 295 = true := by decide +kernel
theorem ck5_296 : bl5 296 = true := by decide +kernel
theorem ck5_297 : bl5 297 = true := by decide +kernel
theorem ck5_298 : bl5 298 = true := by decide +kernel
theorem ck5_299 : bl5 299 = true := by decide +kernel
theorem ck5_300 : bl5 300 = true := by decide +kernel
theorem ck5_301 : bl5 301 = true := by decide +kernel
theorem ck5_302 : bl5 302 = true := by decide +kernel
theorem ck5_303 : bl5 303 = true := by decide +kernel
theorem ck5_304 : bl5 304 = true := by decide +kernel
theorem ck5_305 : bl5 305 = true := by decide +kernel
theorem ck5_306 : bl5 306 = true := by decide +kernel
theorem ck5_307 : bl5 307 = true := by decide +kernel
theorem ck5_308 : bl5 308 = true := by decide +kernel
theorem ck5_309 : bl5 309 = true := by decide +kernel
theorem ck5_310 : bl5 310 = true := by decide +kernel
theorem ck5_311 : bl5 311 = true := by decide +kernel
theorem ck5_312 : bl5 312 = true := by decide +kernel
theorem ck5_313 : bl5 313 = true := by decide +kernel
theorem ck5_314 : bl5 314 = true := by decide +kernel
theorem ck5_315 : bl5 315 = true := by decide +kernel
theorem ck5_316 : bl5 316 = true := by decide +kernel
theorem ck5_317 : bl5 317 = true := by decide +kernel
theorem ck5_318 : bl5 318 = true := by decide +kernel
theorem ck5_319 : bl5 319 = true := by decide +kernel
theorem ck5_320 : bl5 320 = true := by decide +kernel
theorem ck5_321 : bl5 321 = true := by decide +kernel
theorem ck5_322 : bl5 322 = true := by decide +kernel
theorem ck5_323 : bl5 323 = true := by decide +kernel
theorem ck5_324 : bl5 324 = true := by decide +kernel
theorem ck5_325 : bl5 325 = true := by decide +kernel
theorem ck5_326 : bl5 326 = true := by decide +kernel
theorem ck5_327 : bl5 327 = true := by decide +kernel
theorem ck5_328 : bl5 328 = true := by decide +kernel
theorem ck5_329 : bl5 329 = true := by decide +kernel
theorem ck5_330 : bl5 330 = true := by decide +kernel
theorem ck5_331 : bl5 331 = true := by decide +kernel
theorem ck5_332 : bl5 332 = true := by decide +kernel
theorem ck5_333 : bl5 333 = true := by decide +kernel
theorem ck5_334 : bl5 334 = true := by decide +kernel
theorem ck5_335 : bl5 335 = true := by decide +kernel
theorem ck5_336 : bl5 336 = true := by decide +kernel
theorem ck5_337 : bl5 337 = true := by decide +kernel
theorem ck5_338 : bl5 338 = true := by decide +kernel
theorem ck5_339 : bl5 339 = true := by decide +kernel
theorem ck5_340 : bl5 340 = true := by decide +kernel
theorem ck5_341 : bl5 341 = true := by decide +kernel
theorem ck5_342 : bl5 342 = true := by decide +kernel
theorem ck5_343 : bl5 343 = true := by decide +kernel
theorem ck5_344 : bl5 344 = true := by decide +kernel
theorem ck5_345 : bl5 345 = true := by decide +kernel
theorem ck5_346 : bl5 346 = true := by decide +kernel
theorem ck5_347 : bl5 347 = true := by decide +kernel
theorem ck5_348 : bl5 348 = true := by decide +kernel
theorem ck5_349 : bl5 349 = true := by decide +kernel
theorem ck5_350 : bl5 350 = true := by decide +kernel
theorem ck5_351 : bl5 351 = true := by decide +kernel
theorem ck5_352 : bl5 352 = true := by decide +kernel
theorem ck5_353 : bl5 353 = true := by decide +kernel
theorem ck5_354 : bl5 354 = true := by decide +kernel
theorem ck5_355 : bl5 355 = true := by decide +kernel
theorem ck5_356 : bl5 356 = true := by decide +kernel
theorem ck5_357 : bl5 357 = true := by decide +kernel
theorem ck5_358 : bl5 358 = true := by decide +kernel
theorem ck5_359 : bl5 359 = true := by decide +kernel
theorem ck5_360 : bl5 360 = true := by decide +kernel
theorem ck5_361 : bl5 361 = true := by decide +kernel
theorem ck5_362 : bl5 362 = true := by decide +kernel
theorem ck5_363 : bl5 363 = true := by decide +kernel
theorem ck5_364 : bl5 364 = true := by decide +kernel
theorem ck5_365 : bl5 365 = true := by decide +kernel
theorem ck5_366 : bl5 366 = true := by decide +kernel
theorem ck5_367 : bl5 367 = true := by decide +kernel
theorem ck5_368 : bl5 368 = true := by decide +kernel
theorem ck5_369 : bl5 369 = true := by decide +kernel
theorem ck5_370 : bl5 370 = true := by decide +kernel
theorem ck5_371 : bl5 371 = true := by decide +kernel
theorem ck5_372 : bl5 372 = true := by decide +kernel
theorem ck5_373 : bl5 373 = true := by decide +kernel
theorem ck5_374 : bl5 374 = true := by decide +kernel
theorem ck5_375 : bl5 375 = true := by decide +kernel
theorem ck5_376 : bl5 376 = true := by decide +kernel
theorem ck5_377 : bl5 377 = true := by decide +kernel
theorem ck5_378 : bl5 378 = true := by decide +kernel
theorem ck5_379 : bl5 379 = true := by decide +kernel
theorem ck5_380 : bl5 380 = true := by decide +kernel
theorem ck5_381 : bl5 381 = true := by decide +kernel
theorem ck5_382 : bl5 382 = true := by decide +kernel
theorem ck5_383 : bl5 383 = true := by decide +kernel
theorem ck5_384 : bl5 384 = true := by decide +kernel
theorem ck5_385 : bl5 385 = true := by decide +kernel
theorem ck5_386 : bl5 386 = true := by decide +kernel
theorem ck5_387 : bl5 387 = true := by decide +kernel
theorem ck5_388 : bl5 388 = true := by decide +kernel
theorem ck5_389 : bl5 389 = true := by decide +kernel
theorem ck5_390 : bl5 390 = true := by decide +kernel
theorem ck5_391 : bl5 391 = true := by decide +kernel
theorem ck5_392 : bl5 392 = true := by decide +kernel
theorem ck5_393 : bl5 393 = true := by decide +kernel
theorem ck5_394 : bl5 394 = true := by decide +kernel
theorem ck5_395 : bl5 395 = true := by decide +kernel
theorem ck5_396 : bl5 396 = true := by decide +kernel
theorem ck5_397 : bl5 397 = true := by decide +kernel
theorem ck5_398 : bl5 398 = true := by decide +kernel
theorem ck5_399 : bl5 399 = true := by decide +kernel
theorem ck5_400 : bl5 400 = true := by decide +kernel
theorem ck5_401 : bl5 401 = true := by decide +kernel
theorem ck5_402 : bl5 402 = true := by decide +kernel
theorem ck5_403 : bl5 403 = true := by decide +kernel
theorem ck5_404 : bl5 404 = true := by decide +kernel
theorem ck5_405 : bl5 405 = true := by decide +kernel
theorem ck5_406 : bl5 406 = true := by decide +kernel
theorem ck5_407 : bl5 407 = true := by decide +kernel
theorem ck5_408 : bl5 408 = true := by decide +kernel
theorem ck5_409 : bl5 409 = true := by decide +kernel
theorem ck5_410 : bl5 410 = true := by decide +kernel
theorem ck5_411 : bl5 411 = true := by decide +kernel
theorem ck5_412 : bl5 412 = true := by decide +kernel
theorem ck5_413 : bl5 413 = true := by decide +kernel
theorem ck5_414 : bl5 414 = true := by decide +kernel
theorem ck5_415 : bl5 415 = true := by decide +kernel
theorem ck5_416 : bl5 416 = true := by decide +kernel
theorem ck5_417 : bl5 417 = true := by decide +kernel
theorem ck5_418 : bl5 418 = true := by decide +kernel
theorem ck5_419 : bl5 419 = true := by decide +kernel
theorem ck5_420 : bl5 420 = true := by decide +kernel
theorem ck5_421 : bl5 421 = true := by decide +kernel
theorem ck5_422 : bl5 422 = true := by decide +kernel
theorem ck5_423 : bl5 423 = true := by decide +kernel
theorem ck5_424 : bl5 424 = true := by decide +kernel
theorem ck5_425 : bl5 425 = true := by decide +kernel
theorem ck5_426 : bl5 426 = true := by decide +kernel
theorem ck5_427 : bl5 427 = true := by decide +kernel
theorem ck5_428 : bl5 428 = true := by decide +kernel
theorem ck5_429 : bl5 429 = true := by decide +kernel
theorem ck5_430 : bl5 430 = true := by decide +kernel
theorem ck5_431 : bl5 431 = true := by decide +kernel
theorem ck5_432 : bl5 432 = true := by decide +kernel
theorem ck5_433 : bl5 433 = true := by decide +kernel
theorem ck5_434 : bl5 434 = true := by decide +kernel
theorem ck5_435 : bl5 435 = true := by decide +kernel
theorem ck5_436 : bl5 436 = true := by decide +kernel
theorem ck5_437 : bl5 437 = true := by decide +kernel
theorem ck5_438 : bl5 438 = true := by decide +kernel
theorem ck5_439 : bl5 439 = true := by decide +kernel
theorem ck5_440 : bl5 440 = true := by decide +kernel
theorem ck5_441 : bl5 441 = true := by decide +kernel
theorem ck5_442 : bl5 442 = true := by decide +kernel
theorem ck5_443 : bl5 443 = true := by decide +kernel
theorem ck5_444 : bl5 444 = true := by decide +kernel
theorem ck5_445 : bl5 445 = true := by decide +kernel
theorem ck5_446 : bl5 446 = true := by decide +kernel
theorem ck5_447 : bl5 447 = true := by decide +kernel
theorem ck5_448 : bl5 448 = true := by decide +kernel
theorem ck5_449 : bl5 449 = true := by decide +kernel
theorem ck5_450 : bl5 450 = true := by decide +kernel
theorem ck5_451 : bl5 451 = true := by decide +kernel
theorem ck5_452 : bl5 452 = true := by decide +kernel
theorem ck5_453 : bl5 453 = true := by decide +kernel
theorem ck5_454 : bl5 454 = true := by decide +kernel
theorem ck5_455 : bl5 455 = true := by decide +kernel
theorem ck5_456 : bl5 456 = true := by decide +kernel
theorem ck5_457 : bl5 457 = true := by decide +kernel
theorem ck5_458 : bl5 458 = true := by decide +kernel
theorem ck5_459 : bl5 459 = true := by decide +kernel
theorem ck5_460 : bl5 460 = true := by decide +kernel
theorem ck5_461 : bl5 461 = true := by decide +kernel
theorem ck5_462 : bl5 462 = true := by decide +kernel
theorem ck5_463 : bl5 463 = true := by decide +kernel
theorem ck5_464 : bl5 464 = true := by decide +kernel
theorem ck5_465 : bl5 465 = true := by decide +kernel
theorem ck5_466 : bl5 466 = true := by decide +kernel
theorem ck5_467 : bl5 467 = true := by decide +kernel
theorem ck5_468 : bl5 468 = true := by decide +kernel
theorem ck5_469 : bl5 469 = true := by decide +kernel
theorem ck5_470 : bl5 470 = true := by decide +kernel
theorem ck5_471 : bl5 471 = true := by decide +kernel
theorem ck5_472 : bl5 472 = true := by decide +kernel
theorem ck5_473 : bl5 473 = true := by decide +kernel
theorem ck5_474 : bl5 474 = true := by decide +kernel
theorem ck5_475 : bl5 475 = true := by decide +kernel
theorem ck5_476 : bl5 476 = true := by decide +kernel
theorem ck5_477 : bl5 477 = true := by decide +kernel
theorem ck5_478 : bl5 478 = true := by decide +kernel
theorem ck5_479 : bl5 479 = true := by decide +kernel
theorem ck5_480 : bl5 480 = true := by decide +kernel
theorem ck5_481 : bl5 481 = true := by decide +kernel
theorem ck5_482 : bl5 482 = true := by decide +kernel
theorem ck5_483 : bl5 483 = true := by decide +kernel
theorem ck5_484 : bl5 484 = true := by decide +kernel
theorem ck5_485 : bl5 485 = true := by decide +kernel
theorem ck5_486 : bl5 486 = true := by decide +kernel
theorem ck5_487 : bl5 487 = true := by decide +kernel
theorem ck5_488 : bl5 488 = true := by decide +kernel
theorem ck5_489 : bl5 489 = true := by decide +kernel
theorem ck5_490 : bl5 490 = true := by decide +kernel
theorem ck5_491 : bl5 491 = true := by decide +kernel
theorem ck5_492 : bl5 492 = true := by decide +kernel
theorem ck5_493 : bl5 493 = true := by decide +kernel
theorem ck5_494 : bl5 494 = true := by decide +kernel
theorem ck5_495 : bl5 495 = true := by decide +kernel
theorem ck5_496 : bl5 496 = true := by decide +kernel
theorem ck5_497 : bl5 497 = true := by decide +kernel
theorem ck5_498 : bl5 498 = true := by decide +kernel
theorem ck5_499 : bl5 499 = true := by decide +kernel
theorem ck5_500 : bl5 500 = true := by decide +kernel
theorem ck5_501 : bl5 501 = true := by decide +kernel
theorem ck5_502 : bl5 502 = true := by decide +kernel
theorem ck5_503 : bl5 503 = true := by decide +kernel
theorem ck5_504 : bl5 504 = true := by decide +kernel
theorem ck5_505 : bl5 505 = true := by decide +kernel
theorem ck5_506 : bl5 506 = true := by decide +kernel
theorem ck5_507 : bl5 507 = true := by decide +kernel
theorem ck5_508 : bl5 508 = true := by decide +kernel
theorem ck5_509 : bl5 509 = true := by decide +kernel
theorem ck5_510 : bl5 510 = true := by decide +kernel
theorem ck5_511 : bl5 511 = true := by decide +kernel
theorem ck5_512 : bl5 512 = true := by decide +kernel
theorem ck5_513 : bl5 513 = true := by decide +kernel
theorem ck5_514 : bl5 514 = true := by decide +kernel
theorem ck5_515 : bl5 515 = true := by decide +kernel
theorem ck5_516 : bl5 516 = true := by decide +kernel
theorem ck5_517 : bl5 517 = true := by decide +kernel
theorem ck5_518 : bl5 518 = true := by decide +kernel
theorem ck5_519 : bl5 519 = true := by decide +kernel
theorem ck5_520 : bl5 520 = true := by decide +kernel
theorem ck5_521 : bl5 521 = true := by decide +kernel
theorem ck5_522 : bl5 522 = true := by decide +kernel
theorem ck5_523 : bl5 523 = true := by decide +kernel
theorem ck5_524 : bl5 524 = true := by decide +kernel
theorem ck5_525 : bl5 525 = true := by decide +kernel
theorem ck5_526 : bl5 526 = true := by decide +kernel
theorem ck5_527 : bl5 527 = true := by decide +kernel
theorem ck5_528 : bl5 528 = true := by decide +kernel
theorem ck5_529 : bl5 529 = true := by decide +kernel
theorem ck5_530 : bl5 530 = true := by decide +kernel
theorem ck5_531 : bl5 531 = true := by decide +kernel
theorem ck5_532 : bl5 532 = true := by decide +kernel
theorem ck5_533 : bl5 533 = true := by decide +kernel
theorem ck5_534 : bl5 534 = true := by decide +kernel
theorem ck5_535 : bl5 535 = true := by decide +kernel
theorem ck5_536 : bl5 536 = true := by decide +kernel
theorem ck5_537 : bl5 537 = true := by decide +kernel
theorem ck5_538 : bl5 538 = true := by decide +kernel
theorem ck5_539 : bl5 539 = true := by decide +kernel
theorem ck5_540 : bl5 540 = true := by decide +kernel
theorem ck5_541 : bl5 541 = true := by decide +kernel
theorem ck5_542 : bl5 542 = true := by decide +kernel
theorem ck5_543 : bl5 543 = true := by decide +kernel
theorem ck5_544 : bl5 544 = true := by decide +kernel
theorem ck5_545 : bl5 545 = true := by decide +kernel
theorem ck5_546 : bl5 546 = true := by decide +kernel
theorem ck5_547 : bl5 547 = true := by decide +kernel
theorem ck5_548 : bl5 548 = true := by decide +kernel
theorem ck5_549 : bl5 549 = true := by decide +kernel
theorem ck5_550 : bl5 550 = true := by decide +kernel
theorem ck5_551 : bl5 551 = true := by decide +kernel
theorem ck5_552 : bl5 552 = true := by decide +kernel
theorem ck5_553 : bl5 553 = true := by decide +kernel
theorem ck5_554 : bl5 554 = true := by decide +kernel
theorem ck5_555 : bl5 555 = true := by decide +kernel
theorem ck5_556 : bl5 556 = true := by decide +kernel
theorem ck5_557 : bl5 557 = true := by decide +kernel
theorem ck5_558 : bl5 558 = true := by decide +kernel
theorem ck5_559 : bl5 559 = true := by decide +kernel
theorem ck5_560 : bl5 560 = true := by decide +kernel
theorem ck5_561 : bl5 561 = true := by decide +kernel
theorem ck5_562 : bl5 562 = true := by decide +kernel
theorem ck5_563 : bl5 563 = true := by decide +kernel
theorem ck5_564 : bl5 564 = true := by decide +kernel
theorem ck5_565 : bl5 565 = true := by decide +kernel
theorem ck5_566 : bl5 566 = true := by decide +kernel
theorem ck5_567 : bl5 567 = true := by decide +kernel
theorem ck5_568 : bl5 568 = true := by decide +kernel
theorem ck5_569 : bl5 569 = true := by decide +kernel
theorem ck5_570 : bl5 570 = true := by decide +kernel
theorem ck5_571 : bl5 571 = true := by decide +kernel
theorem ck5_572 : bl5 572 = true := by decide +kernel
theorem ck5_573 : bl5 573 = true := by decide +kernel
theorem ck5_574 : bl5 574 = true := by decide +kernel
theorem ck5_575 : bl5 575 = true := by decide +kernel
theorem ck5_576 : bl5 576 = true := by decide +kernel
theorem ck5_577 : bl5 577 = true := by decide +kernel
theorem ck5_578 : bl5 578 = true := by decide +kernel
theorem ck5_579 : bl5 579 = true := by decide +kernel
theorem ck5_580 : bl5 580 = true := by decide +kernel
theorem ck5_581 : bl5 581 = true := by decide +kernel
theorem ck5_582 : bl5 582 = true := by decide +kernel
theorem ck5_583 : bl5 583 = true := by decide +kernel
theorem ck5_584 : bl5 584 = true := by decide +kernel
theorem ck5_585 : bl5 585 = true := by decide +kernel
theorem ck5_586 : bl5 586 = true := by decide +kernel
theorem ck5_587 : bl5 587 = true := by decide +kernel
theorem ck5_588 : bl5 588 = true := by decide +kernel
theorem ck5_589 : bl5 589 = true := by decide +kernel
theorem ck5_590 : bl5 590 = true := by decide +kernel
theorem ck5_591 : bl5 591 = true := by decide +kernel
theorem ck5_592 : bl5 592 = true := by decide +kernel
theorem ck5_593 : bl5 593 = true := by decide +kernel
theorem ck5_594 : bl5 594 = true := by decide +kernel
theorem ck5_595 : bl5 595 = true := by decide +kernel
theorem ck5_596 : bl5 596 = true := by decide +kernel
theorem ck5_597 : bl5 597 = true := by decide +kernel
theorem ck5_598 : bl5 598 = true := by decide +kernel
theorem ck5_599 : bl5 599 = true := by decide +kernel
theorem ck5_600 : bl5 600 = true := by decide +kernel
theorem ck5_601 : bl5 601 = true := by decide +kernel
theorem ck5_602 : bl5 602 = true := by decide +kernel
theorem ck5_603 : bl5 603 = true := by decide +kernel
theorem ck5_604 : bl5 604 = true := by decide +kernel
theorem ck5_605 : bl5 605 = true := by decide +kernel
theorem ck5_606 : bl5 606 = true := by decide +kernel
theorem ck5_607 : bl5 607 = true := by decide +kernel
theorem ck5_608 : bl5 608 = true := by decide +kernel
theorem ck5_609 : bl5 609 = true := by decide +kernel
theorem ck5_610 : bl5 610 = true := by decide +kernel
theorem ck5_611 : bl5 611 = true := by decide +kernel
theorem ck5_612 : bl5 612 = true := by decide +kernel
theorem ck5_613 : bl5 613 = true := by decide +kernel
theorem ck5_614 : bl5 614 = true := by decide +kernel
theorem ck5_615 : bl5 615 = true := by decide +kernel
theorem ck5_616 : bl5 616 = true := by decide +kernel
theorem ck5_617 : bl5 617 = true := by decide +kernel
theorem ck5_618 : bl5 618 = true := by decide +kernel
theorem ck5_619 : bl5 619 = true := by decide +kernel
theorem ck5_620 : bl5 620 = true := by decide +kernel
theorem ck5_621 : bl5 621 = true := by decide +kernel
theorem ck5_622 : bl5 622 = true := by decide +kernel
theorem ck5_623 : bl5 623 = true := by decide +kernel
theorem ck5_624 : bl5 624 = true := by decide +kernel
theorem ck5_625 : bl5 625 = true := by decide +kernel
theorem ck5_626 : bl5 626 = true := by decide +kernel
theorem ck5_627 : bl5 627 = true := by decide +kernel
theorem ck5_628 : bl5 628 = true := by decide +kernel
theorem ck5_629 : bl5 629 = true := by decide +kernel
theorem ck5_630 : bl5 630 = true := by decide +kernel
theorem ck5_631 : bl5 631 = true := by decide +kernel
theorem ck5_632 : bl5 632 = true := by decide +kernel
theorem ck5_633 : bl5 633 = true := by decide +kernel
theorem ck5_634 : bl5 634 = true := by decide +kernel
theorem ck5_635 : bl5 635 = true := by decide +kernel
theorem ck5_636 : bl5 636 = true := by decide +kernel
theorem ck5_637 : bl5 637 = true := by decide +kernel
theorem ck5_638 : bl5 638 = true := by decide +kernel
theorem ck5_639 : bl5 639 = true := by decide +kernel
theorem ck5_640 : bl5 640 = true := by decide +kernel
theorem ck5_641 : bl5 641 = true := by decide +kernel
theorem ck5_642 : bl5 642 = true := by decide +kernel
theorem ck5_643 : bl5 643 = true := by decide +kernel
theorem ck5_644 : bl5 644 = true := by decide +kernel
theorem ck5_645 : bl5 645 = true := by decide +kernel
theorem ck5_646 : bl5 646 = true := by decide +kernel
theorem ck5_647 : bl5 647 = true := by decide +kernel
theorem ck5_648 : bl5 648 = true := by decide +kernel
theorem ck5_649 : bl5 649 = true := by decide +kernel
theorem ck5_650 : bl5 650 = true := by decide +kernel
theorem ck5_651 : bl5 651 = true := by decide +kernel
theorem ck5_652 : bl5 652 = true := by decide +kernel
theorem ck5_653 : bl5 653 = true := by decide +kernel
theorem ck5_654 : bl5 654 = true := by decide +kernel
theorem ck5_655 : bl5 655 = true := by decide +kernel
theorem ck5_656 : bl5 656 = true := by decide +kernel
theorem ck5_657 : bl5 657 = true := by decide +kernel
theorem ck5_658 : bl5 658 = true := by decide +kernel
theorem ck5_659 : bl5 659 = true := by decide +kernel
theorem ck5_660 : bl5 660 = true := by decide +kernel
theorem ck5_661 : bl5 661 = true := by decide +kernel
theorem ck5_662 : bl5 662 = true := by decide +kernel
theorem ck5_663 : bl5 663 = true := by decide +kernel
theorem ck5_664 : bl5 664 = true := by decide +kernel
theorem ck5_665 : bl5 665 = true := by decide +kernel
theorem ck5_666 : bl5 666 = true := by decide +kernel
theorem ck5_667 : bl5 667 = true := by decide +kernel
theorem ck5_668 : bl5 668 = true := by decide +kernel
theorem ck5_669 : bl5 669 = true := by decide +kernel
theorem ck5_670 : bl5 670 = true := by decide +kernel
theorem ck5_671 : bl5 671 = true := by decide +kernel
theorem ck5_672 : bl5 672 = true := by decide +kernel
theorem ck5_673 : bl5 673 = true := by decide +kernel
theorem ck5_674 : bl5 674 = true := by decide +kernel
theorem ck5_675 : bl5 675 = true := by decide +kernel
theorem ck5_676 : bl5 676 = true := by decide +kernel
theorem ck5_677 : bl5 677 = true := by decide +kernel
theorem ck5_678 : bl5 678 = true := by decide +kernel
theorem ck5_679 : bl5 679 = true := by decide +kernel
theorem ck5_680 : bl5 680 = true := by decide +kernel
theorem ck5_681 : bl5 681 = true := by decide +kernel
theorem ck5_682 : bl5 682 = true := by decide +kernel
theorem ck5_683 : bl5 683 = true := by decide +kernel
theorem ck5_684 : bl5 684 = true := by decide +kernel
theorem ck5_685 : bl5 685 = true := by decide +kernel
theorem ck5_686 : bl5 686 = true := by decide +kernel
theorem ck5_687 : bl5 687 = true := by decide +kernel
theorem ck5_688 : bl5 688 = true := by decide +kernel
theorem ck5_689 : bl5 689 = true := by decide +kernel
theorem ck5_690 : bl5 690 = true := by decide +kernel
theorem ck5_691 : bl5 691 = true := by decide +kernel
theorem ck5_692 : bl5 692 = true := by decide +kernel
theorem ck5_693 : bl5 693 = true := by decide +kernel
theorem ck5_694 : bl5 694 = true := by decide +kernel
theorem ck5_695 : bl5 695 = true := by decide +kernel
theorem ck5_696 : bl5 696 = true := by decide +kernel
theorem ck5_697 : bl5 697 = true := by decide +kernel
theorem ck5_698 : bl5 698 = true := by decide +kernel
theorem ck5_699 : bl5 699 = true := by decide +kernel
theorem ck5_700 : bl5 700 = true := by decide +kernel
theorem ck5_701 : bl5 701 = true := by decide +kernel
theorem ck5_702 : bl5 702 = true := by decide +kernel
theorem ck5_703 : bl5 703 = true := by decide +kernel
theorem ck5_704 : bl5 704 = true := by decide +kernel
theorem ck5_705 : bl5 705 = true := by decide +kernel
theorem ck5_706 : bl5 706 = true := by decide +kernel
theorem ck5_707 : bl5 707 = true := by decide +kernel
theorem ck5_708 : bl5 708 = true := by decide +kernel
theorem ck5_709 : bl5 709 = true := by decide +kernel
theorem ck5_710 : bl5 710 = true := by decide +kernel
theorem ck5_711 : bl5 711 = true := by decide +kernel
theorem ck5_712 : bl5 712 = true := by decide +kernel
theorem ck5_713 : bl5 713 = true := by decide +kernel
theorem ck5_714 : bl5 714 = true := by decide +kernel
theorem ck5_715 : bl5 715 = true := by decide +kernel
theorem ck5_716 : bl5 716 = true := by decide +kernel
theorem ck5_717 : bl5 717 = true := by decide +kernel
theorem ck5_718 : bl5 718 = true := by decide +kernel
theorem ck5_719 : bl5 719 = true := by decide +kernel
theorem ck5_720 : bl5 720 = true := by decide +kernel
theorem ck5_721 : bl5 721 = true := by decide +kernel
theorem ck5_722 : bl5 722 = true := by decide +kernel
theorem ck5_723 : bl5 723 = true := by decide +kernel
theorem ck5_724 : bl5 724 = true := by decide +kernel
theorem ck5_725 : bl5 725 = true := by decide +kernel
theorem ck5_726 : bl5 726 = true := by decide +kernel
theorem ck5_727 : bl5 727 = true := by decide +kernel
theorem ck5_728 : bl5 728 = true := by decide +kernel
theorem ck5g_0 : ∀ k, k < 27 → bl5 (0 + k) = true := fun k hk => match k with
  | 0 => ck5_0
  | 1 => ck5_1
  | 2 => ck5_2
  | 3 => ck5_3
  | 4 => ck5_4
  | 5 => ck5_5
  | 6 => ck5_6
  | 7 => ck5_7
  | 8 => ck5_8
  | 9 => ck5_9
  | 10 => ck5_10
  | 11 => ck5_11
  | 12 => ck5_12
  | 13 => ck5_13
  | 14 => ck5_14
  | 15 => ck5_15
  | 16 => ck5_16
  | 17 => ck5_17
  | 18 => ck5_18
  | 19 => ck5_19
  | 20 => ck5_20
  | 21 => ck5_21
  | 22 => ck5_22
  | 23 => ck5_23
  | 24 => ck5_24
  | 25 => ck5_25
  | 26 => ck5_26
  | n + 27 => absurd hk (by omega)
theorem ck5g_1 : ∀ k, k < 27 → bl5 (27 + k) = true := fun k hk => match k with
  | 0 => ck5_27
  | 1 => ck5_28
  | 2 => ck5_29
  | 3 => ck5_30
  | 4 => ck5_31
  | 5 => ck5_32
  | 6 => ck5_33
  | 7 => ck5_34
  | 8 => ck5_35
  | 9 => ck5_36
  | 10 => ck5_37
  | 11 => ck5_38
  | 12 => ck5_39
  | 13 => ck5_40
  | 14 => ck5_41
  | 15 => ck5_42
  | 16 => ck5_43
  | 17 => ck5_44
  | 18 => ck5_45
  | 19 => ck5_46
  | 20 => ck5_47
  | 21 => ck5_48
  | 22 => ck5_49
  | 23 => ck5_50
  | 24 => ck5_51
  | 25 => ck5_52
  | 26 => ck5_53
  | n + 27 => absurd hk (by omega)
theorem ck5g_2 : ∀ k, k < 27 → bl5 (54 + k) = true := fun k hk => match k with
  | 0 => ck5_54
  | 1 => ck5_55
  | 2 => ck5_56
  | 3 => ck5_57
  | 4 => ck5_58
  | 5 => ck5_59
  | 6 => ck5_60
  | 7 => ck5_61
  | 8 => ck5_62
  | 9 => ck5_63
  | 10 => ck5_64
  | 11 => ck5_65
  | 12 => ck5_66
  | 13 => ck5_67
  | 14 => ck5_68
  | 15 => ck5_69
  | 16 => ck5_70
  | 17 => ck5_71
  | 18 => ck5_72
  | 19 => ck5_73
  | 20 => ck5_74
  | 21 => ck5_75
  | 22 => ck5_76
  | 23 => ck5_77
  | 24 => ck5_78
  | 25 => ck5_79
  | 26 => ck5_80
  | n + 27 => absurd hk (by omega)
theorem ck5g_3 : ∀ k, k < 27 → bl5 (81 + k) = true := fun k hk => match k with
  | 0 => ck5_81
  | 1 => ck5_82
  | 2 => ck5_83
  | 3 => ck5_84
  | 4 => ck5_85
  | 5 => ck5_86
  | 6 => ck5_87
  | 7 => ck5_88
  | 8 => ck5_89
  | 9 => ck5_90
  | 10 => ck5_91
  | 11 => ck5_92
  | 12 => ck5_93
  | 13 => ck5_94
  | 14 => ck5_95
  | 15 => ck5_96
  | 16 => ck5_97
  | 17 => ck5_98
  | 18 => ck5_99
  | 19 => ck5_100
  | 20 => ck5_101
  | 21 => ck5_102
  | 22 => ck5_103
  | 23 => ck5_104
  | 24 => ck5_105
  | 25 => ck5_106
  | 26 => ck5_107
  | n + 27 => absurd hk (by omega)
theorem ck5g_4 : ∀ k, k < 27 → bl5 (108 + k) = true := fun k hk => match k with
  | 0 => ck5_108
  | 1 => ck5_109
  | 2 => ck5_110
  | 3 => ck5_111
  | 4 => ck5_112
  | 5 => ck5_113
  | 6 => ck5_114
  | 7 => ck5_115
  | 8 => ck5_116
  | 9 => ck5_117
  | 10 => ck5_118
  | 11 => ck5_119
  | 12 => ck5_120
  | 13 => ck5_121
  | 14 => ck5_122
  | 15 => ck5_123
  | 16 => ck5_124
  | 17 => ck5_125
  | 18 => ck5_126
  | 19 => ck5_127
  | 20 => ck5_128
  | 21 => ck5_129
  | 22 => ck5_130
  | 23 => ck5_131
  | 24 => ck5_132
  | 25 => ck5_133
  | 26 => ck5_134
  | n + 27 => absurd hk (by omega)
theorem ck5g_5 : ∀ k, k < 27 → bl5 (135 + k) = true := fun k hk => match k with
  | 0 => ck5_135
  | 1 => ck5_136
  | 2 => ck5_137
  | 3 => ck5_138
  | 4 => ck5_139
  | 5 => ck5_140
  | 6 => ck5_141
  | 7 => ck5_142
  | 8 => ck5_143
  | 9 => ck5_144
  | 10 => ck5_145
  | 11 => ck5_146
  | 12 => ck5_147
  | 13 => ck5_148
  | 14 => ck5_149
  | 15 => ck5_150
  | 16 => ck5_151
  | 17 => ck5_152
  | 18 => ck5_153
  | 19 => ck5_154
  | 20 => ck5_155
  | 21 => ck5_156
  | 22 => ck5_157
  | 23 => ck5_158
  | 24 => ck5_159
  | 25 => ck5_160
  | 26 => ck5_161
  | n + 27 => absurd hk (by omega)
theorem ck5g_6 : ∀ k, k < 27 → bl5 (162 + k) = true := fun k hk => match k with
  | 0 => ck5_162
  | 1 => ck5_163
  | 2 => ck5_164
  | 3 => ck5_165
  | 4 => ck5_166
  | 5 => ck5_167
  | 6 => ck5_168
  | 7 => ck5_169
  | 8 => ck5_170
  | 9 => ck5_171
  | 10 => ck5_172
  | 11 => ck5_173
  | 12 => ck5_174
  | 13 => ck5_175
  | 14 => ck5_176
  | 15 => ck5_177
  | 16 => ck5_178
  | 17 => ck5_179
  | 18 => ck5_180
  | 19 => ck5_181
  | 20 => ck5_182
  | 21 => ck5_183
  | 22 => ck5_184
  | 23 => ck5_185
  | 24 => ck5_186
  | 25 => ck5_187
  | 26 => ck5_188
  | n + 27 => absurd hk (by omega)
theorem ck5g_7 : ∀ k, k < 27 → bl5 (189 + k) = true := fun k hk => match k with
  | 0 => ck5_189
  | 1 => ck5_190
  | 2 => ck5_191
  | 3 => ck5_192
  | 4 => ck5_193
  | 5 => ck5_194
  | 6 => ck5_195
  | 7 => ck5_196
  | 8 => ck5_197
  | 9 => ck5_198
  | 10 => ck5_199
  | 11 => ck5_200
  | 12 => ck5_201
  | 13 => ck5_202
  | 14 => ck5_203
  | 15 => ck5_204
  | 16 => ck5_205
  | 17 => ck5_206
  | 18 => ck5_207
  | 19 => ck5_208
  | 20 => ck5_209
  | 21 => ck5_210
  | 22 => ck5_211
  | 23 => ck5_212
  | 24 => ck5_213
  | 25 => ck5_214
  | 26 => ck5_215
  | n + 27 => absurd hk (by omega)
theorem ck5g_8 : ∀ k, k < 27 → bl5 (216 + k) = true := fun k hk => match k with
  | 0 => ck5_216
  | 1 => ck5_217
  | 2 => ck5_218
  | 3 => ck5_219
  | 4 => ck5_220
  | 5 => ck5_221
  | 6 => ck5_222
  | 7 => ck5_223
  | 8 => ck5_224
  | 9 => ck5_225
  | 10 => ck5_226
  | 11 => ck5_227
  | 12 => ck5_228
  | 13 => ck5_229
  | 14 => ck5_230
  | 15 => ck5_231
  | 16 => ck5_232
  | 17 => ck5_233
  | 18 => ck5_234
  | 19 => ck5_235
  | 20 => ck5_236
  | 21 => ck5_237
  | 22 => ck5_238
  | 23 => ck5_239
  | 24 => ck5_240
  | 25 => ck5_241
  | 26 => ck5_242
  | n + 27 => absurd hk (by omega)
theorem ck5g_9 : ∀ k, k < 27 → bl5 (243 + k) = true := fun k hk => match k with
  | 0 => ck5_243
  | 1 => ck5_244
  | 2 => ck5_245
  | 3 => ck5_246
  | 4 => ck5_247
  | 5 => ck5_248
  | 6 => ck5_249
  | 7 => ck5_250
  | 8 => ck5_251
  | 9 => ck5_252
  | 10 => ck5_253
  | 11 => ck5_254
  | 12 => ck5_255
  | 13 => ck5_256
  | 14 => ck5_257
  | 15 => ck5_258
  | 16 => ck5_259
  | 17 => ck5_260
  | 18 => ck5_261
  | 19 => ck5_262
  | 20 => ck5_263
  | 21 => ck5_264
  | 22 => ck5_265
  | 23 => ck5_266
  | 24 => ck5_267
  | 25 => ck5_268
  | 26 => ck5_269
  | n + 27 => absurd hk (by omega)
theorem ck5g_10 : ∀ k, k < 27 → bl5 (270 + k) = true := fun k hk => match k with
  | 0 => ck5_270
  | 1 => ck5_271
  | 2 => ck5_272
  | 3 => ck5_273
  | 4 => ck5_274
  | 5 => ck5_275
  | 6 => ck5_276
  | 7 => ck5_277
  | 8 => ck5_278
  | 9 => ck5_279
  | 10 => ck5_280
  | 11 => ck5_281
  | 12 => ck5_282
  | 13 => ck5_283
  | 14 => ck5_284
  | 15 => ck5_285
  | 16 => ck5_286
  | 17 => ck5_287
  | 18 => ck5_288
  | 19 => ck5_289
  | 20 => ck5_290
  | 21 => ck5_291
  | 22 => ck5_292
  | 23 => ck5_293
  | 24 => ck5_294
  | 25 => ck5_295
  | 26 => ck5_296
  | n + 27 => absurd hk (by omega)
theorem ck5g_11 : ∀ k, k < 27 → bl5 (297 + k) = true := fun k hk => match k with
  | 0 => ck5_297
  | 1 => ck5_298
  | 2 => ck5_299
  | 3 => ck5_300
  | 4 => ck5_301
  | 5 => ck5_302
  | 6 => ck5_303
  | 7 => ck5_304
  | 8 => ck5_305
  | 9 => ck5_306
  | 10 => ck5_307
  | 11 => ck5_308
  | 12 => ck5_309
  | 13 => ck5_310
  | 14 => ck5_311
  | 15 => ck5_312
  | 16 => ck5_313
  | 17 => ck5_314
  | 18 => ck5_315
  | 19 => ck5_316
  | 20 => ck5_317
  | 21 => ck5_318
  | 22 => ck5_319
  | 23 => ck5_320
  | 24 => ck5_321
  | 25 => ck5_322
  | 26 => ck5_323
  | n + 27 => absurd hk (by omega)
theorem ck5g_12 : ∀ k, k < 27 → bl5 (324 + k) = true := fun k hk => match k with
  | 0 => ck5_324
  | 1 => ck5_325
  | 2 => ck5_326
  | 3 => ck5_327
  | 4 => ck5_328
  | 5 => ck5_329
  | 6 => ck5_330
  | 7 => ck5_331
  | 8 => ck5_332
  | 9 => ck5_333
  | 10 => ck5_334
  | 11 => ck5_335
  | 12 => ck5_336
  | 13 => ck5_337
  | 14 => ck5_338
  | 15 => ck5_339
  | 16 => ck5_340
  | 17 => ck5_341
  | 18 => ck5_342
  | 19 => ck5_343
  | 20 => ck5_344
  | 21 => ck5_345
  | 22 => ck5_346
  | 23 => ck5_347
  | 24 => ck5_348
  | 25 => ck5_349
  | 26 => ck5_350
  | n + 27 => absurd hk (by omega)
theorem ck5g_13 : ∀ k, k < 27 → bl5 (351 + k) = true := fun k hk => match k with
  | 0 => ck5_351
  | 1 => ck5_352
  | 2 => ck5_353
  | 3 => ck5_354
  | 4 => ck5_355
  | 5 => ck5_356
  | 6 => ck5_357
  | 7 => ck5_358
  | 8 => ck5_359
  | 9 => ck5_360
  | 10 => ck5_361
  | 11 => ck5_362
  | 12 => ck5_363
  | 13 => ck5_364
  | 14 => ck5_365
  | 15 => ck5_366
  | 16 => ck5_367
  | 17 => ck5_368
  | 18 => ck5_369
  | 19 => ck5_370
  | 20 => ck5_371
  | 21 => ck5_372
  | 22 => ck5_373
  | 23 => ck5_374
  | 24 => ck5_375
  | 25 => ck5_376
  | 26 => ck5_377
  | n + 27 => absurd hk (by omega)
theorem ck5g_14 : ∀ k, k < 27 → bl5 (378 + k) = true := fun k hk => match k with
  | 0 => ck5_378
  | 1 => ck5_379
  | 2 => ck5_380
  | 3 => ck5_381
  | 4 => ck5_382
  | 5 => ck5_383
  | 6 => ck5_384
  | 7 => ck5_385
  | 8 => ck5_386
  | 9 => ck5_387
  | 10 => ck5_388
  | 11 => ck5_389
  | 12 => ck5_390
  | 13 => ck5_391
  | 14 => ck5_392
  | 15 => ck5_393
  | 16 => ck5_394
  | 17 => ck5_395
  | 18 => ck5_396
  | 19 => ck5_397
  | 20 => ck5_398
  | 21 => ck5_399
  | 22 => ck5_400
  | 23 => ck5_401
  | 24 => ck5_402
  | 25 => ck5_403
  | 26 => ck5_404
  | n + 27 => absurd hk (by omega)
theorem ck5g_15 : ∀ k, k < 27 → bl5 (405 + k) = true := fun k hk => match k with
  | 0 => ck5_405
  | 1 => ck5_406
  | 2 => ck5_407
  | 3 => ck5_408
  | 4 => ck5_409
  | 5 => ck5_410
  | 6 => ck5_411
  | 7 => ck5_412
  | 8 => ck5_413
  | 9 => ck5_414
  | 10 => ck5_415
  | 11 => ck5_416
  | 12 => ck5_417
  | 13 => ck5_418
  | 14 => ck5_419
  | 15 => ck5_420
  | 16 => ck5_421
  | 17 => ck5_422
  | 18 => ck5_423
  | 19 => ck5_424
  | 20 => ck5_425
  | 21 => ck5_426
  | 22 => ck5_427
  | 23 => ck5_428
  | 24 => ck5_429
  | 25 => ck5_430
  | 26 => ck5_431
  | n + 27 => absurd hk (by omega)
theorem ck5g_16 : ∀ k, k < 27 → bl5 (432 + k) = true := fun k hk => match k with
  | 0 => ck5_432
  | 1 => ck5_433
  | 2 => ck5_434
  | 3 => ck5_435
  | 4 => ck5_436
  | 5 => ck5_437
  | 6 => ck5_438
  | 7 => ck5_439
  | 8 => ck5_440
  | 9 => ck5_441
  | 10 => ck5_442
  | 11 => ck5_443
  | 12 => ck5_444
  | 13 => ck5_445
  | 14 => ck5_446
  | 15 => ck5_447
  | 16 => ck5_448
  | 17 => ck5_449
  | 18 => ck5_450
  | 19 => ck5_451
  | 20 => ck5_452
  | 21 => ck5_453
  | 22 => ck5_454
  | 23 => ck5_455
  | 24 => ck5_456
  | 25 => ck5_457
  | 26 => ck5_458
  | n + 27 => absurd hk (by omega)
theorem ck5g_17 : ∀ k, k < 27 → bl5 (459 + k) = true := fun k hk => match k with
  | 0 => ck5_459
  | 1 => ck5_460
  | 2 => ck5_461
  | 3 => ck5_462
  | 4 => ck5_463
  | 5 => ck5_464
  | 6 => ck5_465
  | 7 => ck5_466
  | 8 => ck5_467
  | 9 => ck5_468
  | 10 => ck5_469
  | 11 => ck5_470
  | 12 => ck5_471
  | 13 => ck5_472
  | 14 => ck5_473
  | 15 => ck5_474
  | 16 => ck5_475
  | 17 => ck5_476
  | 18 => ck5_477
  | 19 => ck5_478
  | 20 => ck5_479
  | 21 => ck5_480
  | 22 => ck5_481
  | 23 => ck5_482
  | 24 => ck5_483
  | 25 => ck5_484
  | 26 => ck5_485
  | n + 27 => absurd hk (by omega)
theorem ck5g_18 : ∀ k, k < 27 → bl5 (486 + k) = true := fun k hk => match k with
  | 0 => ck5_486
  | 1 => ck5_487
  | 2 => ck5_488
  | 3 => ck5_489
  | 4 => ck5_490
  | 5 => ck5_491
  | 6 => ck5_492
  | 7 => ck5_493
  | 8 => ck5_494
  | 9 => ck5_495
  | 10 => ck5_496
  | 11 => ck5_497
  | 12 => ck5_498
  | 13 => ck5_499
  | 14 => ck5_500
  | 15 => ck5_501
  | 16 => ck5_502
  | 17 => ck5_503
  | 18 => ck5_504
  | 19 => ck5_505
  | 20 => ck5_506
  | 21 => ck5_507
  | 22 => ck5_508
  | 23 => ck5_509
  | 24 => ck5_510
  | 25 => ck5_511
  | 26 => ck5_512
  | n + 27 => absurd hk (by omega)
theorem ck5g_19 : ∀ k, k < 27 → bl5 (513 + k) = true := fun k hk => match k with
  | 0 => ck5_513
  | 1 => ck5_514
  | 2 => ck5_515
  | 3 => ck5_516
  | 4 => ck5_517
  | 5 => ck5_518
  | 6 => ck5_519
  | 7 => ck5_520
  | 8 => ck5_521
  | 9 => ck5_522
  | 10 => ck5_523
  | 11 => ck5_524
  | 12 => ck5_525
  | 13 => ck5_526
  | 14 => ck5_527
  | 15 => ck5_528
  | 16 => ck5_529
  | 17 => ck5_530
  | 18 => ck5_531
  | 19 => ck5_532
  | 20 => ck5_533
  | 21 => ck5_534
  | 22 => ck5_535
  | 23 => ck5_536
  | 24 => ck5_537
  | 25 => ck5_538
  | 26 => ck5_539
  | n + 27 => absurd hk (by omega)
theorem ck5g_20 : ∀ k, k < 27 → bl5 (540 + k) = true := fun k hk => match k with
  | 0 => ck5_540
  | 1 => ck5_541
  | 2 => ck5_542
  | 3 => ck5_543
  | 4 => ck5_544
  | 5 => ck5_545
  | 6 => ck5_546
  | 7 => ck5_547
  | 8 => ck5_548
  | 9 => ck5_549
  | 10 => ck5_550
  | 11 => ck5_551
  | 12 => ck5_552
  | 13 => ck5_553
  | 14 => ck5_554
  | 15 => ck5_555
  | 16 => ck5_556
  | 17 => ck5_557
  | 18 => ck5_558
  | 19 => ck5_559
  | 20 => ck5_560
  | 21 => ck5_561
  | 22 => ck5_562
  | 23 => ck5_563
  | 24 => ck5_564
  | 25 => ck5_565
  | 26 => ck5_566
  | n + 27 => absurd hk (by omega)
theorem ck5g_21 : ∀ k, k < 27 → bl5 (567 + k) = true := fun k hk => match k with
  | 0 => ck5_567
  | 1 => ck5_568
  | 2 => ck5_569
  | 3 => ck5_570
  | 4 => ck5_571
  | 5 => ck5_572
  | 6 => ck5_573
  | 7 => ck5_574
  | 8 => ck5_575
  | 9 => ck5_576
  | 10 => ck5_577
  | 11 => ck5_578
  | 12 => ck5_579
  | 13 => ck5_580
  | 14 => ck5_581
  | 15 => ck5_582
  | 16 => ck5_583
  | 17 => ck5_584
  | 18 => ck5_585
  | 19 => ck5_586
  | 20 => ck5_587
  | 21 => ck5_588
  | 22 => ck5_589
  | 23 => ck5_590
  | 24 => ck5_591
  | 25 => ck5_592
  | 26 => ck5_593
  | n + 27 => absurd hk (by omega)
theorem ck5g_22 : ∀ k, k < 27 → bl5 (594 + k) = true := fun k hk => match k with
  | 0 => ck5_594
  | 1 => ck5_595
  | 2 => ck5_596
  | 3 => ck5_597
  | 4 => ck5_598
  | 5 => ck5_599
  | 6 => ck5_600
  | 7 => ck5_601
  | 8 => ck5_602
  | 9 => ck5_603
  | 10 => ck5_604
  | 11 => ck5_605
  | 12 => ck5_606
  | 13 => ck5_607
  | 14 => ck5_608
  | 15 => ck5_609
  | 16 => ck5_610
  | 17 => ck5_611
  | 18 => ck5_612
  | 19 => ck5_613
  | 20 => ck5_614
  | 21 => ck5_615
  | 22 => ck5_616
  | 23 => ck5_617
  | 24 => ck5_618
  | 25 => ck5_619
  | 26 => ck5_620
  | n + 27 => absurd hk (by omega)
theorem ck5g_23 : ∀ k, k < 27 → bl5 (621 + k) = true := fun k hk => match k with
  | 0 => ck5_621
  | 1 => ck5_622
  | 2 => ck5_623
  | 3 => ck5_624
  | 4 => ck5_625
  | 5 => ck5_626
  | 6 => ck5_627
  | 7 => ck5_628
  | 8 => ck5_629
  | 9 => ck5_630
  | 10 => ck5_631
  | 11 => ck5_632
  | 12 => ck5_633
  | 13 => ck5_634
  | 14 => ck5_635
  | 15 => ck5_636
  | 16 => ck5_637
  | 17 => ck5_638
  | 18 => ck5_639
  | 19 => ck5_640
  | 20 => ck5_641
  | 21 => ck5_642
  | 22 => ck5_643
  | 23 => ck5_644
  | 24 => ck5_645
  | 25 => ck5_646
  | 26 => ck5_647
  | n + 27 => absurd hk (by omega)
theorem ck5g_24 : ∀ k, k < 27 → bl5 (648 + k) = true := fun k hk => match k with
  | 0 => ck5_648
  | 1 => ck5_649
  | 2 => ck5_650
  | 3 => ck5_651
  | 4 => ck5_652
  | 5 => ck5_653
  | 6 => ck5_654
  | 7 => ck5_655
  | 8 => ck5_656
  | 9 => ck5_657
  | 10 => ck5_658
  | 11 => ck5_659
  | 12 => ck5_660
  | 13 => ck5_661
  | 14 => ck5_662
  | 15 => ck5_663
  | 16 => ck5_664
  | 17 => ck5_665
  | 18 => ck5_666
  | 19 => ck5_667
  | 20 => ck5_668
  | 21 => ck5_669
  | 22 => ck5_670
  | 23 => ck5_671
  | 24 => ck5_672
  | 25 => ck5_673
  | 26 => ck5_674
  | n + 27 => absurd hk (by omega)
theorem ck5g_25 : ∀ k, k < 27 → bl5 (675 + k) = true := fun k hk => match k with
  | 0 => ck5_675
  | 1 => ck5_676
  | 2 => ck5_677
  | 3 => ck5_678
  | 4 => ck5_679
  | 5 => ck5_680
  | 6 => ck5_681
  | 7 => ck5_682
  | 8 => ck5_683
  | 9 => ck5_684
  | 10 => ck5_685
  | 11 => ck5_686
  | 12 => ck5_687
  | 13 => ck5_688
  | 14 => ck5_689
  | 15 => ck5_690
  | 16 => ck5_691
  | 17 => ck5_692
  | 18 => ck5_693
  | 19 => ck5_694
  | 20 => ck5_695
  | 21 => ck5_696
  | 22 => ck5_697
  | 23 => ck5_698
  | 24 => ck5_699
  | 25 => ck5_700
  | 26 => ck5_701
  | n + 27 => absurd hk (by omega)
theorem ck5g_26 : ∀ k, k < 27 → bl5 (702 + k) = true := fun k hk => match k with
  | 0 => ck5_702
  | 1 => ck5_703
  | 2 => ck5_704
  | 3 => ck5_705
  | 4 => ck5_706
  | 5 => ck5_707
  | 6 => ck5_708
  | 7 => ck5_709
  | 8 => ck5_710
  | 9 => ck5_711
  | 10 => ck5_712
  | 11 => ck5_713
  | 12 => ck5_714
  | 13 => ck5_715
  | 14 => ck5_716
  | 15 => ck5_717
  | 16 => ck5_718
  | 17 => ck5_719
  | 18 => ck5_720
  | 19 => ck5_721
  | 20 => ck5_722
  | 21 => ck5_723
  | 22 => ck5_724
  | 23 => ck5_725
  | 24 => ck5_726
  | 25 => ck5_727
  | 26 => ck5_728
  | n + 27 => absurd hk (by omega)
