/-! ===== all boards of four sides, but (2, 2, 2, 2) and (2, 2, 2, 3) ===== -/
def at4 : List (List Nat × Nat × Nat) := [(lm1, 7, 13), (lm2, 7, 13), (lm1, 8, 14), (lm2, 8, 14), (lm1, 9, 16), (lm2, 9, 16), (lm1, 10, 17)]
noncomputable def f4 (i k : Nat) : Bool := (Nat.beq (Nat.add (Nat.mul 9 i) k) 820 || Nat.beq (Nat.add (Nat.mul 9 i) k) 821) || ckb at4 4 (Nat.add (Nat.mul 9 i) k)
noncomputable def bl4 (i : Nat) : Bool := allB (f4 i) 9
theorem allB_of {f : Nat → Bool} : ∀ {n : Nat}, (∀ k, k < n → f k = true) → allB f n = true := by
  intro n
  induction n with
  | zero => intro _; rfl
  | succ n ih =>
    intro h
    show (f n && allB f n) = true
    rw [h n (by omega), ih (fun k hk => h k (by omega))]; rfl
theorem ck4_0 : bl4 0 = true := by decide +kernel
theorem ck4_1 : bl4 1 = true := by decide +kernel
theorem ck4_2 : bl4 2 = true := by decide +kernel
theorem ck4_3 : bl4 3 = true := by decide +kernel
theorem ck4_4 : bl4 4 = true := by decide +kernel
theorem ck4_5 : bl4 5 = true := by decide +kernel
theorem ck4_6 : bl4 6 = true := by decide +kernel
theorem ck4_7 : bl4 7 = true := by decide +kernel
theorem ck4_8 : bl4 8 = true := by decide +kernel
theorem ck4_9 : bl4 9 = true := by decide +kernel
theorem ck4_10 : bl4 10 = true := by decide +kernel
theorem ck4_11 : bl4 11 = true := by decide +kernel
theorem ck4_12 : bl4 12 = true := by decide +kernel
theorem ck4_13 : bl4 13 = true := by decide +kernel
theorem ck4_14 : bl4 14 = true := by decide +kernel
theorem ck4_15 : bl4 15 = true := by decide +kernel
theorem ck4_16 : bl4 16 = true := by decide +kernel
theorem ck4_17 : bl4 17 = true := by decide +kernel
theorem ck4_18 : bl4 18 = true := by decide +kernel
theorem ck4_19 : bl4 19 = true := by decide +kernel
theorem ck4_20 : bl4 20 = true := by decide +kernel
theorem ck4_21 : bl4 21 = true := by decide +kernel
theorem ck4_22 : bl4 22 = true := by decide +kernel
theorem ck4_23 : bl4 23 = true := by decide +kernel
theorem ck4_24 : bl4 24 = true := by decide +kernel
theorem ck4_25 : bl4 25 = true := by decide +kernel
theorem ck4_26 : bl4 26 = true := by decide +kernel
theorem ck4_27 : bl4 27 = true := by decide +kernel
theorem ck4_28 : bl4 28 = true := by decide +kernel
theorem ck4_29 : bl4 29 = true := by decide +kernel
theorem ck4_30 : bl4 30 = true := by decide +kernel
theorem ck4_31 : bl4 31 = true := by decide +kernel
theorem ck4_32 : bl4 32 = true := by decide +kernel
theorem ck4_33 : bl4 33 = true := by decide +kernel
theorem ck4_34 : bl4 34 = true := by decide +kernel
theorem ck4_35 : bl4 35 = true := by decide +kernel
theorem ck4_36 : bl4 36 = true := by decide +kernel
theorem ck4_37 : bl4 37 = true := by decide +kernel
theorem ck4_38 : bl4 38 = true := by decide +kernel
theorem ck4_39 : bl4 39 = true := by decide +kernel
theorem ck4_40 : bl4 40 = true := by decide +kernel
theorem ck4_41 : bl4 41 = true := by decide +kernel
theorem ck4_42 : bl4 42 = true := by decide +kernel
theorem ck4_43 : bl4 43 = true := by decide +kernel
theorem ck4_44 : bl4 44 = true := by decide +kernel
theorem ck4_45 : bl4 45 = true := by decide +kernel
theorem ck4_46 : bl4 46 = true := by decide +kernel
theorem ck4_47 : bl4 47 = true := by decide +kernel
theorem ck4_48 : bl4 48 = true := by decide +kernel
theorem ck4_49 : bl4 49 = true := by decide +kernel
theorem ck4_50 : bl4 50 = true := by decide +kernel
theorem ck4_51 : bl4 51 = true := by decide +kernel
theorem ck4_52 : bl4 52 = true := by decide +kernel
theorem ck4_53 : bl4 53 = true := by decide +kernel
theorem ck4_54 : bl4 54 = true := by decide +kernel
theorem ck4_55 : bl4 55 = true := by decide +kernel
theorem ck4_56 : bl4 56 = true := by decide +kernel
theorem ck4_57 : bl4 57 = true := by decide +kernel
theorem ck4_58 : bl4 58 = true := by decide +kernel
theorem ck4_59 : bl4 59 = true := by decide +kernel
theorem ck4_60 : bl4 60 = true := by decide +kernel
theorem ck4_61 : bl4 61 = true := by decide +kernel
theorem ck4_62 : bl4 62 = true := by decide +kernel
theorem ck4_63 : bl4 63 = true := by decide +kernel
theorem ck4_64 : bl4 64 = true := by decide +kernel
theorem ck4_65 : bl4 65 = true := by decide +kernel
theorem ck4_66 : bl4 66 = true := by decide +kernel
theorem ck4_67 : bl4 67 = true := by decide +kernel
theorem ck4_68 : bl4 68 = true := by decide +kernel
theorem ck4_69 : bl4 69 = true := by decide +kernel
theorem ck4_70 : bl4 70 = true := by decide +kernel
theorem ck4_71 : bl4 71 = true := by decide +kernel
theorem ck4_72 : bl4 72 = true := by decide +kernel
theorem ck4_73 : bl4 73 = true := by decide +kernel
theorem ck4_74 : bl4 74 = true := by decide +kernel
theorem ck4_75 : bl4 75 = true := by decide +kernel
theorem ck4_76 : bl4 76 = true := by decide +kernel
theorem ck4_77 : bl4 77 = true := by decide +kernel
theorem ck4_78 : bl4 78 = true := by decide +kernel
theorem ck4_79 : bl4 79 = true := by decide +kernel
theorem ck4_80 : bl4 80 = true := by decide +kernel
theorem ck4_81 : bl4 81 = true := by decide +kernel
theorem ck4_82 : bl4 82 = true := by decide +kernel
theorem ck4_83 : bl4 83 = true := by decide +kernel
theorem ck4_84 : bl4 84 = true := by decide +kernel
theorem ck4_85 : bl4 85 = true := by decide +kernel
theorem ck4_86 : bl4 86 = true := by decide +kernel
theorem ck4_87 : bl4 87 = true := by decide +kernel
theorem ck4_88 : bl4 88 = true := by decide +kernel
theorem ck4_89 : bl4 89 = true := by decide +kernel
theorem ck4_90 : bl4 90 = true := by decide +kernel
theorem ck4_91_0 : f4 91 0 = true := by decide +kernel
theorem ck4_91_1 : f4 91 1 = true := by decide +kernel
theorem ck4_91_2 : f4 91 2 = true := by decide +kernel
theorem ck4_91_3 : f4 91 3 = true := by decide +kernel
theorem ck4_91_4 : f4 91 4 = true := by decide +kernel
theorem ck4_91_5 : f4 91 5 = true := by decide +kernel
theorem ck4_91_6 : f4 91 6 = true := by decide +kernel
theorem ck4_91_7 : f4 91 7 = true := by decide +kernel
theorem ck4_91_8 : f4 91 8 = true := by decide +kernel
theorem ck4_91 : bl4 91 = true := allB_of (fun k hk => match k with
  | 0 => ck4_91_0
  | 1 => ck4_91_1
  | 2 => ck4_91_2
  | 3 => ck4_91_3
  | 4 => ck4_91_4
  | 5 => ck4_91_5
  | 6 => ck4_91_6
  | 7 => ck4_91_7
  | 8 => ck4_91_8
  | n + 9 => absurd hk (by omega))
theorem ck4_92 : bl4 92 = true := by decide +kernel
theorem ck4_93 : bl4 93 = true := by decide +kernel
theorem ck4_94 : bl4 94 = true := by decide +kernel
theorem ck4_95 : bl4 95 = true := by decide +kernel
theorem ck4_96 : bl4 96 = true := by decide +kernel
theorem ck4_97 : bl4 97 = true := by decide +kernel
theorem ck4_98 : bl4 98 = true := by decide +kernel
theorem ck4_99 : bl4 99 = true := by decide +kernel
theorem ck4_100 : bl4 100 = true := by decide +kernel
theorem ck4_101 : bl4 101 = true := by decide +kernel
theorem ck4_102 : bl4 102 = true := by decide +kernel
theorem ck4_103 : bl4 103 = true := by decide +kernel
theorem ck4_104 : bl4 104 = true := by decide +kernel
theorem ck4_105 : bl4 105 = true := by decide +kernel
theorem ck4_106 : bl4 106 = true := by decide +kernel
theorem ck4_107 : bl4 107 = true := by decide +kernel
theorem ck4_108 : bl4 108 = true := by decide +kernel
theorem ck4_109 : bl4 109 = true := by decide +kernel
theorem ck4_110 : bl4 110 = true := by decide +kernel
theorem ck4_111 : bl4 111 = true := by decide +kernel
theorem ck4_112 : bl4 112 = true := by decide +kernel
theorem ck4_113 : bl4 113 = true := by decide +kernel
theorem ck4_114 : bl4 114 = true := by decide +kernel
theorem ck4_115 : bl4 115 = true := by decide +kernel
theorem ck4_116 : bl4 116 = true := by decide +kernel
theorem ck4_117 : bl4 117 = true := by decide +kernel
theorem ck4_118 : bl4 118 = true := by decide +kernel
theorem ck4_119 : bl4 119 = true := by decide +kernel
theorem ck4_120 : bl4 120 = true := by decide +kernel
theorem ck4_121 : bl4 121 = true := by decide +kernel
theorem ck4_122 : bl4 122 = true := by decide +kernel
theorem ck4_123 : bl4 123 = true := by decide +kernel
theorem ck4_124 : bl4 124 = true := by decide +kernel
theorem ck4_125 : bl4 125 = true := by decide +kernel
theorem ck4_126 : bl4 126 = true := by decide +kernel
theorem ck4_127 : bl4 127 = true := by decide +kernel
theorem ck4_128 : bl4 128 = true := by decide +kernel
theorem ck4_129 : bl4 129 = true := by decide +kernel
theorem ck4_130 : bl4 130 = true := by decide +kernel
theorem ck4_131 : bl4 131 = true := by decide +kernel
theorem ck4_132 : bl4 132 = true := by decide +kernel
theorem ck4_133 : bl4 133 = true := by decide +kernel
theorem ck4_134 : bl4 134 = true := by decide +kernel
theorem ck4_135 : bl4 135 = true := by decide +kernel
theorem ck4_136 : bl4 136 = true := by decide +kernel
theorem ck4_137 : bl4 137 = true := by decide +kernel
theorem ck4_138 : bl4 138 = true := by decide +kernel
theorem ck4_139 : bl4 139 = true := by decide +kernel
theorem ck4_140 : bl4 140 = true := by decide +kernel
theorem ck4_141 : bl4 141 = true := by decide +kernel
theorem ck4_142 : bl4 142 = true := by decide +kernel
theorem ck4_143 : bl4 143 = true := by decide +kernel
theorem ck4_144 : bl4 144 = true := by decide +kernel
theorem ck4_145 : bl4 145 = true := by decide +kernel
theorem ck4_146 : bl4 146 = true := by decide +kernel
theorem ck4_147 : bl4 147 = true := by decide +kernel
theorem ck4_148 : bl4 148 = true := by decide +kernel
theorem ck4_149 : bl4 149 = true := by decide +kernel
theorem ck4_150 : bl4 150 = true := by decide +kernel
theorem ck4_151 : bl4 151 = true := by decide +kernel
theorem ck4_152 : bl4 152 = true := by decide +kernel
theorem ck4_153 : bl4 153 = true := by decide +kernel
theorem ck4_154 : bl4 154 = true := by decide +kernel
theorem ck4_155 : bl4 155 = true := by decide +kernel
theorem ck4_156 : bl4 156 = true := by decide +kernel
theorem ck4_157 : bl4 157 = true := by decide +kernel
theorem ck4_158 : bl4 158 = true := by decide +kernel
theorem ck4_159 : bl4 159 = true := by decide +kernel
theorem ck4_160 : bl4 160 = true := by decide +kernel
theorem ck4_161 : bl4 161 = true := by decide +kernel
theorem ck4_162 : bl4 162 = true := by decide +kernel
theorem ck4_163 : bl4 163 = true := by decide +kernel
theorem ck4_164 : bl4 164 = true := by decide +kernel
theorem ck4_165 : bl4 165 = true := by decide +kernel
theorem ck4_166 : bl4 166 = true := by decide +kernel
theorem ck4_167 : bl4 167 = true := by decide +kernel
theorem ck4_168 : bl4 168 = true := by decide +kernel
theorem ck4_169 : bl4 169 = true := by decide +kernel
theorem ck4_170 : bl4 170 = true := by decide +kernel
theorem ck4_171 : bl4 171 = true := by decide +kernel
theorem ck4_172 : bl4 172 = true := by decide +kernel
theorem ck4_173 : bl4 173 = true := by decide +kernel
theorem ck4_174 : bl4 174 = true := by decide +kernel
theorem ck4_175 : bl4 175 = true := by decide +kernel
theorem ck4_176 : bl4 176 = true := by decide +kernel
theorem ck4_177 : bl4 177 = true := by decide +kernel
theorem ck4_178 : bl4 178 = true := by decide +kernel
theorem ck4_179 : bl4 179 = true := by decide +kernel
theorem ck4_180 : bl4 180 = true := by decide +kernel
theorem ck4_181 : bl4 181 = true := by decide +kernel
theorem ck4_182 : bl4 182 = true := by decide +kernel
theorem ck4_183 : bl4 183 = true := by decide +kernel
theorem ck4_184 : bl4 184 = true := by decide +kernel
theorem ck4_185 : bl4 185 = true := by decide +kernel
theorem ck4_186 : bl4 186 = true := by decide +kernel
theorem ck4_187 : bl4 187 = true := by decide +kernel
theorem ck4_188 : bl4 188 = true := by decide +kernel
theorem ck4_189 : bl4 189 = true := by decide +kernel
theorem ck4_190 : bl4 190 = true := by decide +kernel
theorem ck4_191 : bl4 191 = true := by decide +kernel
theorem ck4_192 : bl4 192 = true := by decide +kernel
theorem ck4_193 : bl4 193 = true := by decide +kernel
theorem ck4_194 : bl4 194 = true := by decide +kernel
theorem ck4_195 : bl4 195 = true := by decide +kernel
theorem ck4_196 : bl4 196 = true := by decide +kernel
theorem ck4_197 : bl4 197 = true := by decide +kernel
theorem ck4_198 : bl4 198 = true := by decide +kernel
theorem ck4_199 : bl4 199 = true := by decide +kernel
theorem ck4_200 : bl4 200 = true := by decide +kernel
theorem ck4_201 : bl4 201 = true := by decide +kernel
theorem ck4_202 : bl4 202 = true := by decide +kernel
theorem ck4_203 : bl4 203 = true := by decide +kernel
theorem ck4_204 : bl4 204 = true := by decide +kernel
theorem ck4_205 : bl4 205 = true := by decide +kernel
theorem ck4_206 : bl4 206 = true := by decide +kernel
theorem ck4_207 : bl4 207 = true := by decide +kernel
theorem ck4_208 : bl4 208 = true := by decide +kernel
theorem ck4_209 : bl4 209 = true := by decide +kernel
theorem ck4_210 : bl4 210 = true := by decide +kernel
theorem ck4_211 : bl4 211 = true := by decide +kernel
theorem ck4_212 : bl4 212 = true := by decide +kernel
theorem ck4_213 : bl4 213 = true := by decide +kernel
theorem ck4_214 : bl4 214 = true := by decide +kernel
theorem ck4_215 : bl4 215 = true := by decide +kernel
theorem ck4_216 : bl4 216 = true := by decide +kernel
theorem ck4_217 : bl4 217 = true := by decide +kernel
theorem ck4_218 : bl4 218 = true := by decide +kernel
theorem ck4_219 : bl4 219 = true := by decide +kernel
theorem ck4_220 : bl4 220 = true := by decide +kernel
theorem ck4_221 : bl4 221 = true := by decide +kernel
theorem ck4_222 : bl4 222 = true := by decide +kernel
theorem ck4_223 : bl4 223 = true := by decide +kernel
theorem ck4_224 : bl4 224 = true := by decide +kernel
theorem ck4_225 : bl4 225 = true := by decide +kernel
theorem ck4_226 : bl4 226 = true := by decide +kernel
theorem ck4_227 : bl4 227 = true := by decide +kernel
theorem ck4_228 : bl4 228 = true := by decide +kernel
theorem ck4_229 : bl4 229 = true := by decide +kernel
theorem ck4_230 : bl4 230 = true := by decide +kernel
theorem ck4_231 : bl4 231 = true := by decide +kernel
theorem ck4_232 : bl4 232 = true := by decide +kernel
theorem ck4_233 : bl4 233 = true := by decide +kernel
theorem ck4_234 : bl4 234 = true := by decide +kernel
theorem ck4_235 : bl4 235 = true := by decide +kernel
theorem ck4_236 : bl4 236 = true := by decide +kernel
theorem ck4_237 : bl4 237 = true := by decide +kernel
theorem ck4_238 : bl4 238 = true := by decide +kernel
theorem ck4_239 : bl4 239 = true := by decide +kernel
theorem ck4_240 : bl4 240 = true := by decide +kernel
theorem ck4_241 : bl4 241 = true := by decide +kernel
theorem ck4_242 : bl4 242 = true := by decide +kernel
theorem ck4_243 : bl4 243 = true := by decide +kernel
theorem ck4_244 : bl4 244 = true := by decide +kernel
theorem ck4_245 : bl4 245 = true := by decide +kernel
theorem ck4_246 : bl4 246 = true := by decide +kernel
theorem ck4_247 : bl4 247 = true := by decide +kernel
theorem ck4_248 : bl4 248 = true := by decide +kernel
theorem ck4_249 : bl4 249 = true := by decide +kernel
theorem ck4_250 : bl4 250 = true := by decide +kernel
theorem ck4_251 : bl4 251 = true := by decide +kernel
theorem ck4_252 : bl4 252 = true := by decide +kernel
theorem ck4_253 : bl4 253 = true := by decide +kernel
theorem ck4_254 : bl4 254 = true := by decide +kernel
theorem ck4_255 : bl4 255 = true := by decide +kernel
theorem ck4_256 : bl4 256 = true := by decide +kernel
theorem ck4_257 : bl4 257 = true := by decide +kernel
theorem ck4_258 : bl4 258 = true := by decide +kernel
theorem ck4_259 : bl4 259 = true := by decide +kernel
theorem ck4_260 : bl4 260 = true := by decide +kernel
theorem ck4_261 : bl4 261 = true := by decide +kernel
theorem ck4_262 : bl4 262 = true := by decide +kernel
theorem ck4_263 : bl4 263 = true := by decide +kernel
theorem ck4_264 : bl4 264 = true := by decide +kernel
theorem ck4_265 : bl4 265 = true := by decide +kernel
theorem ck4_266 : bl4 266 = true := by decide +kernel
theorem ck4_267 : bl4 267 = true := by decide +kernel
theorem ck4_268 : bl4 268 = true := by decide +kernel
theorem ck4_269 : bl4 269 = true := by decide +kernel
theorem ck4_270 : bl4 270 = true := by decide +kernel
theorem ck4_271 : bl4 271 = true := by decide +kernel
theorem ck4_272 : bl4 272 = true := by decide +kernel
theorem ck4_273 : bl4 273 = true := by decide +kernel
theorem ck4_274 : bl4 274 = true := by decide +kernel
theorem ck4_275 : bl4 275 = true := by decide +kernel
theorem ck4_276 : bl4 276 = true := by decide +kernel
theorem ck4_277 : bl4 277 = true := by decide +kernel
theorem ck4_278 : bl4 278 = true := by decide +kernel
theorem ck4_279 : bl4 279 = true := by decide +kernel
theorem ck4_280 : bl4 280 = true := by decide +kernel
theorem ck4_281 : bl4 281 = true := by decide +kernel
theorem ck4_282 : bl4 282 = true := by decide +kernel
theorem ck4_283 : bl4 283 = true := by decide +kernel
theorem ck4_284 : bl4 284 = true := by decide +kernel
theorem ck4_285 : bl4 285 = true := by decide +kernel
theorem ck4_286 : bl4 286 = true := by decide +kernel
theorem ck4_287 : bl4 287 = true := by decide +kernel
theorem ck4_288 : bl4 288 = true := by decide +kernel
theorem ck4_289 : bl4 289 = true := by decide +kernel
theorem ck4_290 : bl4 290 = true := by decide +kernel
theorem ck4_291 : bl4 291 = true := by decide +kernel
theorem ck4_292 : bl4 292 = true := by decide +kernel
theorem ck4_293 : bl4 293 = true := by decide +kernel
theorem ck4_294 : bl4 294 = true := by decide +kernel
theorem ck4_295 : bl4 295 = true := by decide +kernel
theorem ck4_296 : bl4 296 = true := by decide +kernel
theorem ck4_297 : bl4 297 = true := by decide +kernel
theorem ck4_298 : bl4 298 = true := by decide +kernel
theorem ck4_299 : bl4 299 = true := by decide +kernel
theorem ck4_300 : bl4 300 = true := by decide +kernel
theorem ck4_301 : bl4 301 = true := by decide +kernel
theorem ck4_302 : bl4 302 = true := by decide +kernel
theorem ck4_303 : bl4 303 = true := by decide +kernel
theorem ck4_304 : bl4 304 = true := by decide +kernel
theorem ck4_305 : bl4 305 = true := by decide +kernel
theorem ck4_306 : bl4 306 = true := by decide +kernel
theorem ck4_307 : bl4 307 = true := by decide +kernel
theorem ck4_308 : bl4 308 = true := by decide +kernel
theorem ck4_309 : bl4 309 = true := by decide +kernel
theorem ck4_310 : bl4 310 = true := by decide +kernel
theorem ck4_311 : bl4 311 = true := by decide +kernel
theorem ck4_312 : bl4 312 = true := by decide +kernel
theorem ck4_313 : bl4 313 = true := by decide +kernel
theorem ck4_314 : bl4 314 = true := by decide +kernel
theorem ck4_315 : bl4 315 = true := by decide +kernel
theorem ck4_316 : bl4 316 = true := by decide +kernel
theorem ck4_317 : bl4 317 = true := by decide +kernel
theorem ck4_318 : bl4 318 = true := by decide +kernel
theorem ck4_319 : bl4 319 = true := by decide +kernel
theorem ck4_320 : bl4 320 = true := by decide +kernel
theorem ck4_321 : bl4 321 = true := by decide +kernel
theorem ck4_322 : bl4 322 = true := by decide +kernel
theorem ck4_323 : bl4 323 = true := by decide +kernel
theorem ck4_324 : bl4 324 = true := by decide +kernel
theorem ck4_325 : bl4 325 = true := by decide +kernel
theorem ck4_326 : bl4 326 = true := by decide +kernel
theorem ck4_327 : bl4 327 = true := by decide +kernel
theorem ck4_328 : bl4 328 = true := by decide +kernel
theorem ck4_329 : bl4 329 = true := by decide +kernel
theorem ck4_330 : bl4 330 = true := by decide +kernel
theorem ck4_331 : bl4 331 = true := by decide +kernel
theorem ck4_332 : bl4 332 = true := by decide +kernel
theorem ck4_333 : bl4 333 = true := by decide +kernel
theorem ck4_334 : bl4 334 = true := by decide +kernel
theorem ck4_335 : bl4 335 = true := by decide +kernel
theorem ck4_336 : bl4 336 = true := by decide +kernel
theorem ck4_337 : bl4 337 = true := by decide +kernel
theorem ck4_338 : bl4 338 = true := by decide +kernel
theorem ck4_339 : bl4 339 = true := by decide +kernel
theorem ck4_340 : bl4 340 = true := by decide +kernel
theorem ck4_341 : bl4 341 = true := by decide +kernel
theorem ck4_342 : bl4 342 = true := by decide +kernel
theorem ck4_343 : bl4 343 = true := by decide +kernel
theorem ck4_344 : bl4 344 = true := by decide +kernel
theorem ck4_345 : bl4 345 = true := by decide +kernel
theorem ck4_346 : bl4 346 = true := by decide +kernel
theorem ck4_347 : bl4 347 = true := by decide +kernel
theorem ck4_348 : bl4 348 = true := by decide +kernel
theorem ck4_349 : bl4 349 = true := by decide +kernel
theorem ck4_350 : bl4 350 = true := by decide +kernel
theorem ck4_351 : bl4 351 = true := by decide +kernel
theorem ck4_352 : bl4 352 = true := by decide +kernel
theorem ck4_353 : bl4 353 = true := by decide +kernel
theorem ck4_354 : bl4 354 = true := by decide +kernel
theorem ck4_355 : bl4 355 = true := by decide +kernel
theorem ck4_356 : bl4 356 = true := by decide +kernel
theorem ck4_357 : bl4 357 = true := by decide +kernel
theorem ck4_358 : bl4 358 = true := by decide +kernel
theorem ck4_359 : bl4 359 = true := by decide +kernel
theorem ck4_360 : bl4 360 = true := by decide +kernel
theorem ck4_361 : bl4 361 = true := by decide +kernel
theorem ck4_362 : bl4 362 = true := by decide +kernel
theorem ck4_363 : bl4 363 = true := by decide +kernel
theorem ck4_364 : bl4 364 = true := by decide +kernel
theorem ck4_365 : bl4 365 = true := by decide +kernel
theorem ck4_366 : bl4 366 = true := by decide +kernel
theorem ck4_367 : bl4 367 = true := by decide +kernel
theorem ck4_368 : bl4 368 = true := by decide +kernel
theorem ck4_369 : bl4 369 = true := by decide +kernel
theorem ck4_370 : bl4 370 = true := by decide +kernel
theorem ck4_371 : bl4 371 = true := by decide +kernel
theorem ck4_372 : bl4 372 = true := by decide +kernel
theorem ck4_373 : bl4 373 = true := by decide +kernel
theorem ck4_374 : bl4 374 = true := by decide +kernel
theorem ck4_375 : bl4 375 = true := by decide +kernel
theorem ck4_376 : bl4 376 = true := by decide +kernel
theorem ck4_377 : bl4 377 = true := by decide +kernel
theorem ck4_378 : bl4 378 = true := by decide +kernel
theorem ck4_379 : bl4 379 = true := by decide +kernel
theorem ck4_380 : bl4 380 = true := by decide +kernel
theorem ck4_381 : bl4 381 = true := by decide +kernel
theorem ck4_382 : bl4 382 = true := by decide +kernel
theorem ck4_383 : bl4 383 = true := by decide +kernel
theorem ck4_384 : bl4 384 = true := by decide +kernel
theorem ck4_385 : bl4 385 = true := by decide +kernel
theorem ck4_386 : bl4 386 = true := by decide +kernel
theorem ck4_387 : bl4 387 = true := by decide +kernel
theorem ck4_388 : bl4 388 = true := by decide +kernel
theorem ck4_389 : bl4 389 = true := by decide +kernel
theorem ck4_390 : bl4 390 = true := by decide +kernel
theorem ck4_391 : bl4 391 = true := by decide +kernel
theorem ck4_392 : bl4 392 = true := by decide +kernel
theorem ck4_393 : bl4 393 = true := by decide +kernel
theorem ck4_394 : bl4 394 = true := by decide +kernel
theorem ck4_395 : bl4 395 = true := by decide +kernel
theorem ck4_396 : bl4 396 = true := by decide +kernel
theorem ck4_397 : bl4 397 = true := by decide +kernel
theorem ck4_398 : bl4 398 = true := by decide +kernel
theorem ck4_399 : bl4 399 = true := by decide +kernel
theorem ck4_400 : bl4 400 = true := by decide +kernel
theorem ck4_401 : bl4 401 = true := by decide +kernel
theorem ck4_402 : bl4 402 = true := by decide +kernel
theorem ck4_403 : bl4 403 = true := by decide +kernel
theorem ck4_404 : bl4 404 = true := by decide +kernel
theorem ck4_405 : bl4 405 = true := by decide +kernel
theorem ck4_406 : bl4 406 = true := by decide +kernel
theorem ck4_407 : bl4 407 = true := by decide +kernel
theorem ck4_408 : bl4 408 = true := by decide +kernel
theorem ck4_409 : bl4 409 = true := by decide +kernel
theorem ck4_410 : bl4 410 = true := by decide +kernel
theorem ck4_411 : bl4 411 = true := by decide +kernel
theorem ck4_412 : bl4 412 = true := by decide +kernel
theorem ck4_413 : bl4 413 = true := by decide +kernel
theorem ck4_414 : bl4 414 = true := by decide +kernel
theorem ck4_415 : bl4 415 = true := by decide +kernel
theorem ck4_416 : bl4 416 = true := by decide +kernel
theorem ck4_417 : bl4 417 = true := by decide +kernel
theorem ck4_418 : bl4 418 = true := by decide +kernel
theorem ck4_419 : bl4 419 = true := by decide +kernel
theorem ck4_420 : bl4 420 = true := by decide +kernel
theorem ck4_421 : bl4 421 = true := by decide +kernel
theorem ck4_422 : bl4 422 = true := by decide +kernel
theorem ck4_423 : bl4 423 = true := by decide +kernel
theorem ck4_424 : bl4 424 = true := by decide +kernel
theorem ck4_425 : bl4 425 = true := by decide +kernel
theorem ck4_426 : bl4 426 = true := by decide +kernel
theorem ck4_427 : bl4 427 = true := by decide +kernel
theorem ck4_428 : bl4 428 = true := by decide +kernel
theorem ck4_429 : bl4 429 = true := by decide +kernel
theorem ck4_430 : bl4 430 = true := by decide +kernel
theorem ck4_431 : bl4 431 = true := by decide +kernel
theorem ck4_432 : bl4 432 = true := by decide +kernel
theorem ck4_433 : bl4 433 = true := by decide +kernel
theorem ck4_434 : bl4 434 = true := by decide +kernel
theorem ck4_435 : bl4 435 = true := by decide +kernel
theorem ck4_436 : bl4 436 = true := by decide +kernel
theorem ck4_437 : bl4 437 = true := by decide +kernel
theorem ck4_438 : bl4 438 = true := by decide +kernel
theorem ck4_439 : bl4 439 = true := by decide +kernel
theorem ck4_440 : bl4 440 = true := by decide +kernel
theorem ck4_441 : bl4 441 = true := by decide +kernel
theorem ck4_442 : bl4 442 = true := by decide +kernel
theorem ck4_443 : bl4 443 = true := by decide +kernel
theorem ck4_444 : bl4 444 = true := by decide +kernel
theorem ck4_445 : bl4 445 = true := by decide +kernel
theorem ck4_446 : bl4 446 = true := by decide +kernel
theorem ck4_447 : bl4 447 = true := by decide +kernel
theorem ck4_448 : bl4 448 = true := by decide +kernel
theorem ck4_449 : bl4 449 = true := by decide +kernel
theorem ck4_450 : bl4 450 = true := by decide +kernel
theorem ck4_451 : bl4 451 = true := by decide +kernel
theorem ck4_452 : bl4 452 = true := by decide +kernel
theorem ck4_453 : bl4 453 = true := by decide +kernel
theorem ck4_454 : bl4 454 = true := by decide +kernel
theorem ck4_455 : bl4 455 = true := by decide +kernel
theorem ck4_456 : bl4 456 = true := by decide +kernel
theorem ck4_457 : bl4 457 = true := by decide +kernel
theorem ck4_458 : bl4 458 = true := by decide +kernel
theorem ck4_459 : bl4 459 = true := by decide +kernel
theorem ck4_460 : bl4 460 = true := by decide +kernel
theorem ck4_461 : bl4 461 = true := by decide +kernel
theorem ck4_462 : bl4 462 = true := by decide +kernel
theorem ck4_463 : bl4 463 = true := by decide +kernel
theorem ck4_464 : bl4 464 = true := by decide +kernel
theorem ck4_465 : bl4 465 = true := by decide +kernel
theorem ck4_466 : bl4 466 = true := by decide +kernel
theorem ck4_467 : bl4 467 = true := by decide +kernel
theorem ck4_468 : bl4 468 = true := by decide +kernel
theorem ck4_469 : bl4 469 = true := by decide +kernel
theorem ck4_470 : bl4 470 = true := by decide +kernel
theorem ck4_471 : bl4 471 = true := by decide +kernel
theorem ck4_472 : bl4 472 = true := by decide +kernel
theorem ck4_473 : bl4 473 = true := by decide +kernel
theorem ck4_474 : bl4 474 = true := by decide +kernel
theorem ck4_475 : bl4 475 = true := by decide +kernel
theorem ck4_476 : bl4 476 = true := by decide +kernel
theorem ck4_477 : bl4 477 = true := by decide +kernel
theorem ck4_478 : bl4 478 = true := by decide +kernel
theorem ck4_479 : bl4 479 = true := by decide +kernel
theorem ck4_480 : bl4 480 = true := by decide +kernel
theorem ck4_481 : bl4 481 = true := by decide +kernel
theorem ck4_482 : bl4 482 = true := by decide +kernel
theorem ck4_483 : bl4 483 = true := by decide +kernel
theorem ck4_484 : bl4 484 = true := by decide +kernel
theorem ck4_485 : bl4 485 = true := by decide +kernel
theorem ck4_486 : bl4 486 = true := by decide +kernel
theorem ck4_487 : bl4 487 = true := by decide +kernel
theorem ck4_488 : bl4 488 = true := by decide +kernel
theorem ck4_489 : bl4 489 = true := by decide +kernel
theorem ck4_490 : bl4 490 = true := by decide +kernel
theorem ck4_491 : bl4 491 = true := by decide +kernel
theorem ck4_492 : bl4 492 = true := by decide +kernel
theorem ck4_493 : bl4 493 = true := by decide +kernel
theorem ck4_494 : bl4 494 = true := by decide +kernel
theorem ck4_495 : bl4 495 = true := by decide +kernel
theorem ck4_496 : bl4 496 = true := by decide +kernel
theorem ck4_497 : bl4 497 = true := by decide +kernel
theorem ck4_498 : bl4 498 = true := by decide +kernel
theorem ck4_499 : bl4 499 = true := by decide +kernel
theorem ck4_500 : bl4 500 = true := by decide +kernel
theorem ck4_501 : bl4 501 = true := by decide +kernel
theorem ck4_502 : bl4 502 = true := by decide +kernel
theorem ck4_503 : bl4 503 = true := by decide +kernel
theorem ck4_504 : bl4 504 = true := by decide +kernel
theorem ck4_505 : bl4 505 = true := by decide +kernel
theorem ck4_506 : bl4 506 = true := by decide +kernel
theorem ck4_507 : bl4 507 = true := by decide +kernel
theorem ck4_508 : bl4 508 = true := by decide +kernel
theorem ck4_509 : bl4 509 = true := by decide +kernel
theorem ck4_510 : bl4 510 = true := by decide +kernel
theorem ck4_511 : bl4 511 = true := by decide +kernel
theorem ck4_512 : bl4 512 = true := by decide +kernel
theorem ck4_513 : bl4 513 = true := by decide +kernel
theorem ck4_514 : bl4 514 = true := by decide +kernel
theorem ck4_515 : bl4 515 = true := by decide +kernel
theorem ck4_516 : bl4 516 = true := by decide +kernel
theorem ck4_517 : bl4 517 = true := by decide +kernel
theorem ck4_518 : bl4 518 = true := by decide +kernel
theorem ck4_519 : bl4 519 = true := by decide +kernel
theorem ck4_520 : bl4 520 = true := by decide +kernel
theorem ck4_521 : bl4 521 = true := by decide +kernel
theorem ck4_522 : bl4 522 = true := by decide +kernel
theorem ck4_523 : bl4 523 = true := by decide +kernel
theorem ck4_524 : bl4 524 = true := by decide +kernel
theorem ck4_525 : bl4 525 = true := by decide +kernel
theorem ck4_526 : bl4 526 = true := by decide +kernel
theorem ck4_527 : bl4 527 = true := by decide +kernel
theorem ck4_528 : bl4 528 = true := by decide +kernel
theorem ck4_529 : bl4 529 = true := by decide +kernel
theorem ck4_530 : bl4 530 = true := by decide +kernel
theorem ck4_531 : bl4 531 = true := by decide +kernel
theorem ck4_532 : bl4 532 = true := by decide +kernel
theorem ck4_533 : bl4 533 = true := by decide +kernel
theorem ck4_534 : bl4 534 = true := by decide +kernel
theorem ck4_535 : bl4 535 = true := by decide +kernel
theorem ck4_536 : bl4 536 = true := by decide +kernel
theorem ck4_537 : bl4 537 = true := by decide +kernel
theorem ck4_538 : bl4 538 = true := by decide +kernel
theorem ck4_539 : bl4 539 = true := by decide +kernel
theorem ck4_540 : bl4 540 = true := by decide +kernel
theorem ck4_541 : bl4 541 = true := by decide +kernel
theorem ck4_542 : bl4 542 = true := by decide +kernel
theorem ck4_543 : bl4 543 = true := by decide +kernel
theorem ck4_544 : bl4 544 = true := by decide +kernel
theorem ck4_545 : bl4 545 = true := by decide +kernel
theorem ck4_546 : bl4 546 = true := by decide +kernel
theorem ck4_547 : bl4 547 = true := by decide +kernel
theorem ck4_548 : bl4 548 = true := by decide +kernel
theorem ck4_549 : bl4 549 = true := by decide +kernel
theorem ck4_550 : bl4 550 = true := by decide +kernel
theorem ck4_551 : bl4 551 = true := by decide +kernel
theorem ck4_552 : bl4 552 = true := by decide +kernel
theorem ck4_553 : bl4 553 = true := by decide +kernel
theorem ck4_554 : bl4 554 = true := by decide +kernel
theorem ck4_555 : bl4 555 = true := by decide +kernel
theorem ck4_556 : bl4 556 = true := by decide +kernel
theorem ck4_557 : bl4 557 = true := by decide +kernel
theorem ck4_558 : bl4 558 = true := by decide +kernel
theorem ck4_559 : bl4 559 = true := by decide +kernel
theorem ck4_560 : bl4 560 = true := by decide +kernel
theorem ck4_561 : bl4 561 = true := by decide +kernel
theorem ck4_562 : bl4 562 = true := by decide +kernel
theorem ck4_563 : bl4 563 = true := by decide +kernel
theorem ck4_564 : bl4 564 = true := by decide +kernel
theorem ck4_565 : bl4 565 = true := by decide +kernel
theorem ck4_566 : bl4 566 = true := by decide +kernel
theorem ck4_567 : bl4 567 = true := by decide +kernel
theorem ck4_568 : bl4 568 = true := by decide +kernel
theorem ck4_569 : bl4 569 = true := by decide +kernel
theorem ck4_570 : bl4 570 = true := by decide +kernel
theorem ck4_571 : bl4 571 = true := by decide +kernel
theorem ck4_572 : bl4 572 = true := by decide +kernel
theorem ck4_573 : bl4 573 = true := by decide +kernel
theorem ck4_574 : bl4 574 = true := by decide +kernel
theorem ck4_575 : bl4 575 = true := by decide +kernel
theorem ck4_576 : bl4 576 = true := by decide +kernel
theorem ck4_577 : bl4 577 = true := by decide +kernel
theorem ck4_578 : bl4 578 = true := by decide +kernel
theorem ck4_579 : bl4 579 = true := by decide +kernel
theorem ck4_580 : bl4 580 = true := by decide +kernel
theorem ck4_581 : bl4 581 = true := by decide +kernel
theorem ck4_582 : bl4 582 = true := by decide +kernel
theorem ck4_583 : bl4 583 = true := by decide +kernel
theorem ck4_584 : bl4 584 = true := by decide +kernel
theorem ck4_585 : bl4 585 = true := by decide +kernel
theorem ck4_586 : bl4 586 = true := by decide +kernel
theorem ck4_587 : bl4 587 = true := by decide +kernel
theorem ck4_588 : bl4 588 = true := by decide +kernel
theorem ck4_589 : bl4 589 = true := by decide +kernel
theorem ck4_590 : bl4 590 = true := by decide +kernel
theorem ck4_591 : bl4 591 = true := by decide +kernel
theorem ck4_592 : bl4 592 = true := by decide +kernel
theorem ck4_593 : bl4 593 = true := by decide +kernel
theorem ck4_594 : bl4 594 = true := by decide +kernel
theorem ck4_595 : bl4 595 = true := by decide +kernel
theorem ck4_596 : bl4 596 = true := by decide +kernel
theorem ck4_597 : bl4 597 = true := by decide +kernel
theorem ck4_598 : bl4 598 = true := by decide +kernel
theorem ck4_599 : bl4 599 = true := by decide +kernel
theorem ck4_600 : bl4 600 = true := by decide +kernel
theorem ck4_601 : bl4 601 = true := by decide +kernel
theorem ck4_602 : bl4 602 = true := by decide +kernel
theorem ck4_603 : bl4 603 = true := by decide +kernel
theorem ck4_604 : bl4 604 = true := by decide +kernel
theorem ck4_605 : bl4 605 = true := by decide +kernel
theorem ck4_606 : bl4 606 = true := by decide +kernel
theorem ck4_607 : bl4 607 = true := by decide +kernel
theorem ck4_608 : bl4 608 = true := by decide +kernel
theorem ck4_609 : bl4 609 = true := by decide +kernel
theorem ck4_610 : bl4 610 = true := by decide +kernel
theorem ck4_611 : bl4 611 = true := by decide +kernel
theorem ck4_612 : bl4 612 = true := by decide +kernel
theorem ck4_613 : bl4 613 = true := by decide +kernel
theorem ck4_614 : bl4 614 = true := by decide +kernel
theorem ck4_615 : bl4 615 = true := by decide +kernel
theorem ck4_616 : bl4 616 = true := by decide +kernel
theorem ck4_617 : bl4 617 = true := by decide +kernel
theorem ck4_618 : bl4 618 = true := by decide +kernel
theorem ck4_619 : bl4 619 = true := by decide +kernel
theorem ck4_620 : bl4 620 = true := by decide +kernel
theorem ck4_621 : bl4 621 = true := by decide +kernel
theorem ck4_622 : bl4 622 = true := by decide +kernel
theorem ck4_623 : bl4 623 = true := by decide +kernel
theorem ck4_624 : bl4 624 = true := by decide +kernel
theorem ck4_625 : bl4 625 = true := by decide +kernel
theorem ck4_626 : bl4 626 = true := by decide +kernel
theorem ck4_627 : bl4 627 = true := by decide +kernel
theorem ck4_628 : bl4 628 = true := by decide +kernel
theorem ck4_629 : bl4 629 = true := by decide +kernel
theorem ck4_630 : bl4 630 = true := by decide +kernel
theorem ck4_631 : bl4 631 = true := by decide +kernel
theorem ck4_632 : bl4 632 = true := by decide +kernel
theorem ck4_633 : bl4 633 = true := by decide +kernel
theorem ck4_634 : bl4 634 = true := by decide +kernel
theorem ck4_635 : bl4 635 = true := by decide +kernel
theorem ck4_636 : bl4 636 = true := by decide +kernel
theorem ck4_637 : bl4 637 = true := by decide +kernel
theorem ck4_638 : bl4 638 = true := by decide +kernel
theorem ck4_639 : bl4 639 = true := by decide +kernel
theorem ck4_640 : bl4 640 = true := by decide +kernel
theorem ck4_641 : bl4 641 = true := by decide +kernel
theorem ck4_642 : bl4 642 = true := by decide +kernel
theorem ck4_643 : bl4 643 = true := by decide +kernel
theorem ck4_644 : bl4 644 = true := by decide +kernel
theorem ck4_645 : bl4 645 = true := by decide +kernel
theorem ck4_646 : bl4 646 = true := by decide +kernel
theorem ck4_647 : bl4 647 = true := by decide +kernel
theorem ck4_648 : bl4 648 = true := by decide +kernel
theorem ck4_649 : bl4 649 = true := by decide +kernel
theorem ck4_650 : bl4 650 = true := by decide +kernel
theorem ck4_651 : bl4 651 = true := by decide +kernel
theorem ck4_652 : bl4 652 = true := by decide +kernel
theorem ck4_653 : bl4 653 = true := by decide +kernel
theorem ck4_654 : bl4 654 = true := by decide +kernel
theorem ck4_655 : bl4 655 = true := by decide +kernel
theorem ck4_656 : bl4 656 = true := by decide +kernel
theorem ck4_657 : bl4 657 = true := by decide +kernel
theorem ck4_658 : bl4 658 = true := by decide +kernel
theorem ck4_659 : bl4 659 = true := by decide +kernel
theorem ck4_660 : bl4 660 = true := by decide +kernel
theorem ck4_661 : bl4 661 = true := by decide +kernel
theorem ck4_662 : bl4 662 = true := by decide +kernel
theorem ck4_663 : bl4 663 = true := by decide +kernel
theorem ck4_664 : bl4 664 = true := by decide +kernel
theorem ck4_665 : bl4 665 = true := by decide +kernel
theorem ck4_666 : bl4 666 = true := by decide +kernel
theorem ck4_667 : bl4 667 = true := by decide +kernel
theorem ck4_668 : bl4 668 = true := by decide +kernel
theorem ck4_669 : bl4 669 = true := by decide +kernel
theorem ck4_670 : bl4 670 = true := by decide +kernel
theorem ck4_671 : bl4 671 = true := by decide +kernel
theorem ck4_672 : bl4 672 = true := by decide +kernel
theorem ck4_673 : bl4 673 = true := by decide +kernel
theorem ck4_674 : bl4 674 = true := by decide +kernel
theorem ck4_675 : bl4 675 = true := by decide +kernel
theorem ck4_676 : bl4 676 = true := by decide +kernel
theorem ck4_677 : bl4 677 = true := by decide +kernel
theorem ck4_678 : bl4 678 = true := by decide +kernel
theorem ck4_679 : bl4 679 = true := by decide +kernel
theorem ck4_680 : bl4 680 = true := by decide +kernel
theorem ck4_681 : bl4 681 = true := by decide +kernel
theorem ck4_682 : bl4 682 = true := by decide +kernel
theorem ck4_683 : bl4 683 = true := by decide +kernel
theorem ck4_684 : bl4 684 = true := by decide +kernel
theorem ck4_685 : bl4 685 = true := by decide +kernel
theorem ck4_686 : bl4 686 = true := by decide +kernel
theorem ck4_687 : bl4 687 = true := by decide +kernel
theorem ck4_688 : bl4 688 = true := by decide +kernel
theorem ck4_689 : bl4 689 = true := by decide +kernel
theorem ck4_690 : bl4 690 = true := by decide +kernel
theorem ck4_691 : bl4 691 = true := by decide +kernel
theorem ck4_692 : bl4 692 = true := by decide +kernel
theorem ck4_693 : bl4 693 = true := by decide +kernel
theorem ck4_694 : bl4 694 = true := by decide +kernel
theorem ck4_695 : bl4 695 = true := by decide +kernel
theorem ck4_696 : bl4 696 = true := by decide +kernel
theorem ck4_697 : bl4 697 = true := by decide +kernel
theorem ck4_698 : bl4 698 = true := by decide +kernel
theorem ck4_699 : bl4 699 = true := by decide +kernel
theorem ck4_700 : bl4 700 = true := by decide +kernel
theorem ck4_701 : bl4 701 = true := by decide +kernel
theorem ck4_702 : bl4 702 = true := by decide +kernel
theorem ck4_703 : bl4 703 = true := by decide +kernel
theorem ck4_704 : bl4 704 = true := by decide +kernel
theorem ck4_705 : bl4 705 = true := by decide +kernel
theorem ck4_706 : bl4 706 = true := by decide +kernel
theorem ck4_707 : bl4 707 = true := by decide +kernel
theorem ck4_708 : bl4 708 = true := by decide +kernel
theorem ck4_709 : bl4 709 = true := by decide +kernel
theorem ck4_710 : bl4 710 = true := by decide +kernel
theorem ck4_711 : bl4 711 = true := by decide +kernel
theorem ck4_712 : bl4 712 = true := by decide +kernel
theorem ck4_713 : bl4 713 = true := by decide +kernel
theorem ck4_714 : bl4 714 = true := by decide +kernel
theorem ck4_715 : bl4 715 = true := by decide +kernel
theorem ck4_716 : bl4 716 = true := by decide +kernel
theorem ck4_717 : bl4 717 = true := by decide +kernel
theorem ck4_718 : bl4 718 = true := by decide +kernel
theorem ck4_719 : bl4 719 = true := by decide +kernel
theorem ck4_720 : bl4 720 = true := by decide +kernel
theorem ck4_721 : bl4 721 = true := by decide +kernel
theorem ck4_722 : bl4 722 = true := by decide +kernel
theorem ck4_723 : bl4 723 = true := by decide +kernel
theorem ck4_724 : bl4 724 = true := by decide +kernel
theorem ck4_725 : bl4 725 = true := by decide +kernel
theorem ck4_726 : bl4 726 = true := by decide +kernel
theorem ck4_727 : bl4 727 = true := by decide +kernel
theorem ck4_728 : bl4 728 = true := by decide +kernel
theorem ck4g_0 : ∀ k, k < 27 → bl4 (0 + k) = true := fun k hk => match k with
  | 0 => ck4_0
  | 1 => ck4_1
  | 2 => ck4_2
  | 3 => ck4_3
  | 4 => ck4_4
  | 5 => ck4_5
  | 6 => ck4_6
  | 7 => ck4_7
  | 8 => ck4_8
  | 9 => ck4_9
  | 10 => ck4_10
  | 11 => ck4_11
  | 12 => ck4_12
  | 13 => ck4_13
  | 14 => ck4_14
  | 15 => ck4_15
  | 16 => ck4_16
  | 17 => ck4_17
  | 18 => ck4_18
  | 19 => ck4_19
  | 20 => ck4_20
  | 21 => ck4_21
  | 22 => ck4_22
  | 23 => ck4_23
  | 24 => ck4_24
  | 25 => ck4_25
  | 26 => ck4_26
  | n + 27 => absurd hk (by omega)
theorem ck4g_1 : ∀ k, k < 27 → bl4 (27 + k) = true := fun k hk => match k with
  | 0 => ck4_27
  | 1 => ck4_28
  | 2 => ck4_29
  | 3 => ck4_30
  | 4 => ck4_31
  | 5 => ck4_32
  | 6 => ck4_33
  | 7 => ck4_34
  | 8 => ck4_35
  | 9 => ck4_36
  | 10 => ck4_37
  | 11 => ck4_38
  | 12 => ck4_39
  | 13 => ck4_40
  | 14 => ck4_41
  | 15 => ck4_42
  | 16 => ck4_43
  | 17 => ck4_44
  | 18 => ck4_45
  | 19 => ck4_46
  | 20 => ck4_47
  | 21 => ck4_48
  | 22 => ck4_49
  | 23 => ck4_50
  | 24 => ck4_51
  | 25 => ck4_52
  | 26 => ck4_53
  | n + 27 => absurd hk (by omega)
theorem ck4g_2 : ∀ k, k < 27 → bl4 (54 + k) = true := fun k hk => match k with
  | 0 => ck4_54
  | 1 => ck4_55
  | 2 => ck4_56
  | 3 => ck4_57
  | 4 => ck4_58
  | 5 => ck4_59
  | 6 => ck4_60
  | 7 => ck4_61
  | 8 => ck4_62
  | 9 => ck4_63
  | 10 => ck4_64
  | 11 => ck4_65
  | 12 => ck4_66
  | 13 => ck4_67
  | 14 => ck4_68
  | 15 => ck4_69
  | 16 => ck4_70
  | 17 => ck4_71
  | 18 => ck4_72
  | 19 => ck4_73
  | 20 => ck4_74
  | 21 => ck4_75
  | 22 => ck4_76
  | 23 => ck4_77
  | 24 => ck4_78
  | 25 => ck4_79
  | 26 => ck4_80
  | n + 27 => absurd hk (by omega)
theorem ck4g_3 : ∀ k, k < 27 → bl4 (81 + k) = true := fun k hk => match k with
  | 0 => ck4_81
  | 1 => ck4_82
  | 2 => ck4_83
  | 3 => ck4_84
  | 4 => ck4_85
  | 5 => ck4_86
  | 6 => ck4_87
  | 7 => ck4_88
  | 8 => ck4_89
  | 9 => ck4_90
  | 10 => ck4_91
  | 11 => ck4_92
  | 12 => ck4_93
  | 13 => ck4_94
  | 14 => ck4_95
  | 15 => ck4_96
  | 16 => ck4_97
  | 17 => ck4_98
  | 18 => ck4_99
  | 19 => ck4_100
  | 20 => ck4_101
  | 21 => ck4_102
  | 22 => ck4_103
  | 23 => ck4_104
  | 24 => ck4_105
  | 25 => ck4_106
  | 26 => ck4_107
  | n + 27 => absurd hk (by omega)
theorem ck4g_4 : ∀ k, k < 27 → bl4 (108 + k) = true := fun k hk => match k with
  | 0 => ck4_108
  | 1 => ck4_109
  | 2 => ck4_110
  | 3 => ck4_111
  | 4 => ck4_112
  | 5 => ck4_113
  | 6 => ck4_114
  | 7 => ck4_115
  | 8 => ck4_116
  | 9 => ck4_117
  | 10 => ck4_118
  | 11 => ck4_119
  | 12 => ck4_120
  | 13 => ck4_121
  | 14 => ck4_122
  | 15 => ck4_123
  | 16 => ck4_124
  | 17 => ck4_125
  | 18 => ck4_126
  | 19 => ck4_127
  | 20 => ck4_128
  | 21 => ck4_129
  | 22 => ck4_130
  | 23 => ck4_131
  | 24 => ck4_132
  | 25 => ck4_133
  | 26 => ck4_134
  | n + 27 => absurd hk (by omega)
theorem ck4g_5 : ∀ k, k < 27 → bl4 (135 + k) = true := fun k hk => match k with
  | 0 => ck4_135
  | 1 => ck4_136
  | 2 => ck4_137
  | 3 => ck4_138
  | 4 => ck4_139
  | 5 => ck4_140
  | 6 => ck4_141
  | 7 => ck4_142
  | 8 => ck4_143
  | 9 => ck4_144
  | 10 => ck4_145
  | 11 => ck4_146
  | 12 => ck4_147
  | 13 => ck4_148
  | 14 => ck4_149
  | 15 => ck4_150
  | 16 => ck4_151
  | 17 => ck4_152
  | 18 => ck4_153
  | 19 => ck4_154
  | 20 => ck4_155
  | 21 => ck4_156
  | 22 => ck4_157
  | 23 => ck4_158
  | 24 => ck4_159
  | 25 => ck4_160
  | 26 => ck4_161
  | n + 27 => absurd hk (by omega)
theorem ck4g_6 : ∀ k, k < 27 → bl4 (162 + k) = true := fun k hk => match k with
  | 0 => ck4_162
  | 1 => ck4_163
  | 2 => ck4_164
  | 3 => ck4_165
  | 4 => ck4_166
  | 5 => ck4_167
  | 6 => ck4_168
  | 7 => ck4_169
  | 8 => ck4_170
  | 9 => ck4_171
  | 10 => ck4_172
  | 11 => ck4_173
  | 12 => ck4_174
  | 13 => ck4_175
  | 14 => ck4_176
  | 15 => ck4_177
  | 16 => ck4_178
  | 17 => ck4_179
  | 18 => ck4_180
  | 19 => ck4_181
  | 20 => ck4_182
  | 21 => ck4_183
  | 22 => ck4_184
  | 23 => ck4_185
  | 24 => ck4_186
  | 25 => ck4_187
  | 26 => ck4_188
  | n + 27 => absurd hk (by omega)
theorem ck4g_7 : ∀ k, k < 27 → bl4 (189 + k) = true := fun k hk => match k with
  | 0 => ck4_189
  | 1 => ck4_190
  | 2 => ck4_191
  | 3 => ck4_192
  | 4 => ck4_193
  | 5 => ck4_194
  | 6 => ck4_195
  | 7 => ck4_196
  | 8 => ck4_197
  | 9 => ck4_198
  | 10 => ck4_199
  | 11 => ck4_200
  | 12 => ck4_201
  | 13 => ck4_202
  | 14 => ck4_203
  | 15 => ck4_204
  | 16 => ck4_205
  | 17 => ck4_206
  | 18 => ck4_207
  | 19 => ck4_208
  | 20 => ck4_209
  | 21 => ck4_210
  | 22 => ck4_211
  | 23 => ck4_212
  | 24 => ck4_213
  | 25 => ck4_214
  | 26 => ck4_215
  | n + 27 => absurd hk (by omega)
theorem ck4g_8 : ∀ k, k < 27 → bl4 (216 + k) = true := fun k hk => match k with
  | 0 => ck4_216
  | 1 => ck4_217
  | 2 => ck4_218
  | 3 => ck4_219
  | 4 => ck4_220
  | 5 => ck4_221
  | 6 => ck4_222
  | 7 => ck4_223
  | 8 => ck4_224
  | 9 => ck4_225
  | 10 => ck4_226
  | 11 => ck4_227
  | 12 => ck4_228
  | 13 => ck4_229
  | 14 => ck4_230
  | 15 => ck4_231
  | 16 => ck4_232
  | 17 => ck4_233
  | 18 => ck4_234
  | 19 => ck4_235
  | 20 => ck4_236
  | 21 => ck4_237
  | 22 => ck4_238
  | 23 => ck4_239
  | 24 => ck4_240
  | 25 => ck4_241
  | 26 => ck4_242
  | n + 27 => absurd hk (by omega)
theorem ck4g_9 : ∀ k, k < 27 → bl4 (243 + k) = true := fun k hk => match k with
  | 0 => ck4_243
  | 1 => ck4_244
  | 2 => ck4_245
  | 3 => ck4_246
  | 4 => ck4_247
  | 5 => ck4_248
  | 6 => ck4_249
  | 7 => ck4_250
  | 8 => ck4_251
  | 9 => ck4_252
  | 10 => ck4_253
  | 11 => ck4_254
  | 12 => ck4_255
  | 13 => ck4_256
  | 14 => ck4_257
  | 15 => ck4_258
  | 16 => ck4_259
  | 17 => ck4_260
  | 18 => ck4_261
  | 19 => ck4_262
  | 20 => ck4_263
  | 21 => ck4_264
  | 22 => ck4_265
  | 23 => ck4_266
  | 24 => ck4_267
  | 25 => ck4_268
  | 26 => ck4_269
  | n + 27 => absurd hk (by omega)
theorem ck4g_10 : ∀ k, k < 27 → bl4 (270 + k) = true := fun k hk => match k with
  | 0 => ck4_270
  | 1 => ck4_271
  | 2 => ck4_272
  | 3 => ck4_273
  | 4 => ck4_274
  | 5 => ck4_275
  | 6 => ck4_276
  | 7 => ck4_277
  | 8 => ck4_278
  | 9 => ck4_279
  | 10 => ck4_280
  | 11 => ck4_281
  | 12 => ck4_282
  | 13 => ck4_283
  | 14 => ck4_284
  | 15 => ck4_285
  | 16 => ck4_286
  | 17 => ck4_287
  | 18 => ck4_288
  | 19 => ck4_289
  | 20 => ck4_290
  | 21 => ck4_291
  | 22 => ck4_292
  | 23 => ck4_293
  | 24 => ck4_294
  | 25 => ck4_295
  | 26 => ck4_296
  | n + 27 => absurd hk (by omega)
theorem ck4g_11 : ∀ k, k < 27 → bl4 (297 + k) = true := fun k hk => match k with
  | 0 => ck4_297
  | 1 => ck4_298
  | 2 => ck4_299
  | 3 => ck4_300
  | 4 => ck4_301
  | 5 => ck4_302
  | 6 => ck4_303
  | 7 => ck4_304
  | 8 => ck4_305
  | 9 => ck4_306
  | 10 => ck4_307
  | 11 => ck4_308
  | 12 => ck4_309
  | 13 => ck4_310
  | 14 => ck4_311
  | 15 => ck4_312
  | 16 => ck4_313
  | 17 => ck4_314
  | 18 => ck4_315
  | 19 => ck4_316
  | 20 => ck4_317
  | 21 => ck4_318
  | 22 => ck4_319
  | 23 => ck4_320
  | 24 => ck4_321
  | 25 => ck4_322
  | 26 => ck4_323
  | n + 27 => absurd hk (by omega)
theorem ck4g_12 : ∀ k, k < 27 → bl4 (324 + k) = true := fun k hk => match k with
  | 0 => ck4_324
  | 1 => ck4_325
  | 2 => ck4_326
  | 3 => ck4_327
  | 4 => ck4_328
  | 5 => ck4_329
  | 6 => ck4_330
  | 7 => ck4_331
  | 8 => ck4_332
  | 9 => ck4_333
  | 10 => ck4_334
  | 11 => ck4_335
  | 12 => ck4_336
  | 13 => ck4_337
  | 14 => ck4_338
  | 15 => ck4_339
  | 16 => ck4_340
  | 17 => ck4_341
  | 18 => ck4_342
  | 19 => ck4_343
  | 20 => ck4_344
  | 21 => ck4_345
  | 22 => ck4_346
  | 23 => ck4_347
  | 24 => ck4_348
  | 25 => ck4_349
  | 26 => ck4_350
  | n + 27 => absurd hk (by omega)
theorem ck4g_13 : ∀ k, k < 27 → bl4 (351 + k) = true := fun k hk => match k with
  | 0 => ck4_351
  | 1 => ck4_352
  | 2 => ck4_353
  | 3 => ck4_354
  | 4 => ck4_355
  | 5 => ck4_356
  | 6 => ck4_357
  | 7 => ck4_358
  | 8 => ck4_359
  | 9 => ck4_360
  | 10 => ck4_361
  | 11 => ck4_362
  | 12 => ck4_363
  | 13 => ck4_364
  | 14 => ck4_365
  | 15 => ck4_366
  | 16 => ck4_367
  | 17 => ck4_368
  | 18 => ck4_369
  | 19 => ck4_370
  | 20 => ck4_371
  | 21 => ck4_372
  | 22 => ck4_373
  | 23 => ck4_374
  | 24 => ck4_375
  | 25 => ck4_376
  | 26 => ck4_377
  | n + 27 => absurd hk (by omega)
theorem ck4g_14 : ∀ k, k < 27 → bl4 (378 + k) = true := fun k hk => match k with
  | 0 => ck4_378
  | 1 => ck4_379
  | 2 => ck4_380
  | 3 => ck4_381
  | 4 => ck4_382
  | 5 => ck4_383
  | 6 => ck4_384
  | 7 => ck4_385
  | 8 => ck4_386
  | 9 => ck4_387
  | 10 => ck4_388
  | 11 => ck4_389
  | 12 => ck4_390
  | 13 => ck4_391
  | 14 => ck4_392
  | 15 => ck4_393
  | 16 => ck4_394
  | 17 => ck4_395
  | 18 => ck4_396
  | 19 => ck4_397
  | 20 => ck4_398
  | 21 => ck4_399
  | 22 => ck4_400
  | 23 => ck4_401
  | 24 => ck4_402
  | 25 => ck4_403
  | 26 => ck4_404
  | n + 27 => absurd hk (by omega)
theorem ck4g_15 : ∀ k, k < 27 → bl4 (405 + k) = true := fun k hk => match k with
  | 0 => ck4_405
  | 1 => ck4_406
  | 2 => ck4_407
  | 3 => ck4_408
  | 4 => ck4_409
  | 5 => ck4_410
  | 6 => ck4_411
  | 7 => ck4_412
  | 8 => ck4_413
  | 9 => ck4_414
  | 10 => ck4_415
  | 11 => ck4_416
  | 12 => ck4_417
  | 13 => ck4_418
  | 14 => ck4_419
  | 15 => ck4_420
  | 16 => ck4_421
  | 17 => ck4_422
  | 18 => ck4_423
  | 19 => ck4_424
  | 20 => ck4_425
  | 21 => ck4_426
  | 22 => ck4_427
  | 23 => ck4_428
  | 24 => ck4_429
  | 25 => ck4_430
  | 26 => ck4_431
  | n + 27 => absurd hk (by omega)
theorem ck4g_16 : ∀ k, k < 27 → bl4 (432 + k) = true := fun k hk => match k with
  | 0 => ck4_432
  | 1 => ck4_433
  | 2 => ck4_434
  | 3 => ck4_435
  | 4 => ck4_436
  | 5 => ck4_437
  | 6 => ck4_438
  | 7 => ck4_439
  | 8 => ck4_440
  | 9 => ck4_441
  | 10 => ck4_442
  | 11 => ck4_443
  | 12 => ck4_444
  | 13 => ck4_445
  | 14 => ck4_446
  | 15 => ck4_447
  | 16 => ck4_448
  | 17 => ck4_449
  | 18 => ck4_450
  | 19 => ck4_451
  | 20 => ck4_452
  | 21 => ck4_453
  | 22 => ck4_454
  | 23 => ck4_455
  | 24 => ck4_456
  | 25 => ck4_457
  | 26 => ck4_458
  | n + 27 => absurd hk (by omega)
theorem ck4g_17 : ∀ k, k < 27 → bl4 (459 + k) = true := fun k hk => match k with
  | 0 => ck4_459
  | 1 => ck4_460
  | 2 => ck4_461
  | 3 => ck4_462
  | 4 => ck4_463
  | 5 => ck4_464
  | 6 => ck4_465
  | 7 => ck4_466
  | 8 => ck4_467
  | 9 => ck4_468
  | 10 => ck4_469
  | 11 => ck4_470
  | 12 => ck4_471
  | 13 => ck4_472
  | 14 => ck4_473
  | 15 => ck4_474
  | 16 => ck4_475
  | 17 => ck4_476
  | 18 => ck4_477
  | 19 => ck4_478
  | 20 => ck4_479
  | 21 => ck4_480
  | 22 => ck4_481
  | 23 => ck4_482
  | 24 => ck4_483
  | 25 => ck4_484
  | 26 => ck4_485
  | n + 27 => absurd hk (by omega)
theorem ck4g_18 : ∀ k, k < 27 → bl4 (486 + k) = true := fun k hk => match k with
  | 0 => ck4_486
  | 1 => ck4_487
  | 2 => ck4_488
  | 3 => ck4_489
  | 4 => ck4_490
  | 5 => ck4_491
  | 6 => ck4_492
  | 7 => ck4_493
  | 8 => ck4_494
  | 9 => ck4_495
  | 10 => ck4_496
  | 11 => ck4_497
  | 12 => ck4_498
  | 13 => ck4_499
  | 14 => ck4_500
  | 15 => ck4_501
  | 16 => ck4_502
  | 17 => ck4_503
  | 18 => ck4_504
  | 19 => ck4_505
  | 20 => ck4_506
  | 21 => ck4_507
  | 22 => ck4_508
  | 23 => ck4_509
  | 24 => ck4_510
  | 25 => ck4_511
  | 26 => ck4_512
  | n + 27 => absurd hk (by omega)
theorem ck4g_19 : ∀ k, k < 27 → bl4 (513 + k) = true := fun k hk => match k with
  | 0 => ck4_513
  | 1 => ck4_514
  | 2 => ck4_515
  | 3 => ck4_516
  | 4 => ck4_517
  | 5 => ck4_518
  | 6 => ck4_519
  | 7 => ck4_520
  | 8 => ck4_521
  | 9 => ck4_522
  | 10 => ck4_523
  | 11 => ck4_524
  | 12 => ck4_525
  | 13 => ck4_526
  | 14 => ck4_527
  | 15 => ck4_528
  | 16 => ck4_529
  | 17 => ck4_530
  | 18 => ck4_531
  | 19 => ck4_532
  | 20 => ck4_533
  | 21 => ck4_534
  | 22 => ck4_535
  | 23 => ck4_536
  | 24 => ck4_537
  | 25 => ck4_538
  | 26 => ck4_539
  | n + 27 => absurd hk (by omega)
theorem ck4g_20 : ∀ k, k < 27 → bl4 (540 + k) = true := fun k hk => match k with
  | 0 => ck4_540
  | 1 => ck4_541
  | 2 => ck4_542
  | 3 => ck4_543
  | 4 => ck4_544
  | 5 => ck4_545
  | 6 => ck4_546
  | 7 => ck4_547
  | 8 => ck4_548
  | 9 => ck4_549
  | 10 => ck4_550
  | 11 => ck4_551
  | 12 => ck4_552
  | 13 => ck4_553
  | 14 => ck4_554
  | 15 => ck4_555
  | 16 => ck4_556
  | 17 => ck4_557
  | 18 => ck4_558
  | 19 => ck4_559
  | 20 => ck4_560
  | 21 => ck4_561
  | 22 => ck4_562
  | 23 => ck4_563
  | 24 => ck4_564
  | 25 => ck4_565
  | 26 => ck4_566
  | n + 27 => absurd hk (by omega)
theorem ck4g_21 : ∀ k, k < 27 → bl4 (567 + k) = true := fun k hk => match k with
  | 0 => ck4_567
  | 1 => ck4_568
  | 2 => ck4_569
  | 3 => ck4_570
  | 4 => ck4_571
  | 5 => ck4_572
  | 6 => ck4_573
  | 7 => ck4_574
  | 8 => ck4_575
  | 9 => ck4_576
  | 10 => ck4_577
  | 11 => ck4_578
  | 12 => ck4_579
  | 13 => ck4_580
  | 14 => ck4_581
  | 15 => ck4_582
  | 16 => ck4_583
  | 17 => ck4_584
  | 18 => ck4_585
  | 19 => ck4_586
  | 20 => ck4_587
  | 21 => ck4_588
  | 22 => ck4_589
  | 23 => ck4_590
  | 24 => ck4_591
  | 25 => ck4_592
  | 26 => ck4_593
  | n + 27 => absurd hk (by omega)
theorem ck4g_22 : ∀ k, k < 27 → bl4 (594 + k) = true := fun k hk => match k with
  | 0 => ck4_594
  | 1 => ck4_595
  | 2 => ck4_596
  | 3 => ck4_597
  | 4 => ck4_598
  | 5 => ck4_599
  | 6 => ck4_600
  | 7 => ck4_601
  | 8 => ck4_602
  | 9 => ck4_603
  | 10 => ck4_604
  | 11 => ck4_605
  | 12 => ck4_606
  | 13 => ck4_607
  | 14 => ck4_608
  | 15 => ck4_609
  | 16 => ck4_610
  | 17 => ck4_611
  | 18 => ck4_612
  | 19 => ck4_613
  | 20 => ck4_614
  | 21 => ck4_615
  | 22 => ck4_616
  | 23 => ck4_617
  | 24 => ck4_618
  | 25 => ck4_619
  | 26 => ck4_620
  | n + 27 => absurd hk (by omega)
theorem ck4g_23 : ∀ k, k < 27 → bl4 (621 + k) = true := fun k hk => match k with
  | 0 => ck4_621
  | 1 => ck4_622
  | 2 => ck4_623
  | 3 => ck4_624
  | 4 => ck4_625
  | 5 => ck4_626
  | 6 => ck4_627
  | 7 => ck4_628
  | 8 => ck4_629
  | 9 => ck4_630
  | 10 => ck4_631
  | 11 => ck4_632
  | 12 => ck4_633
  | 13 => ck4_634
  | 14 => ck4_635
  | 15 => ck4_636
  | 16 => ck4_637
  | 17 => ck4_638
  | 18 => ck4_639
  | 19 => ck4_640
  | 20 => ck4_641
  | 21 => ck4_642
  | 22 => ck4_643
  | 23 => ck4_644
  | 24 => ck4_645
  | 25 => ck4_646
  | 26 => ck4_647
  | n + 27 => absurd hk (by omega)
theorem ck4g_24 : ∀ k, k < 27 → bl4 (648 + k) = true := fun k hk => match k with
  | 0 => ck4_648
  | 1 => ck4_649
  | 2 => ck4_650
  | 3 => ck4_651
  | 4 => ck4_652
  | 5 => ck4_653
  | 6 => ck4_654
  | 7 => ck4_655
  | 8 => ck4_656
  | 9 => ck4_657
  | 10 => ck4_658
  | 11 => ck4_659
  | 12 => ck4_660
  | 13 => ck4_661
  | 14 => ck4_662
  | 15 => ck4_663
  | 16 => ck4_664
  | 17 => ck4_665
  | 18 => ck4_666
  | 19 => ck4_667
  | 20 => ck4_668
  | 21 => ck4_669
  | 22 => ck4_670
  | 23 => ck4_671
  | 24 => ck4_672
  | 25 => ck4_673
  | 26 => ck4_674
  | n + 27 => absurd hk (by omega)
theorem ck4g_25 : ∀ k, k < 27 → bl4 (675 + k) = true := fun k hk => match k with
  | 0 => ck4_675
  | 1 => ck4_676
  | 2 => ck4_677
  | 3 => ck4_678
  | 4 => ck4_679
  | 5 => ck4_680
  | 6 => ck4_681
  | 7 => ck4_682
  | 8 => ck4_683
  | 9 => ck4_684
  | 10 => ck4_685
  | 11 => ck4_686
  | 12 => ck4_687
  | 13 => ck4_688
  | 14 => ck4_689
  | 15 => ck4_690
  | 16 => ck4_691
  | 17 => ck4_692
  | 18 => ck4_693
  | 19 => ck4_694
  | 20 => ck4_695
  | 21 => ck4_696
  | 22 => ck4_697
  | 23 => ck4_698
  | 24 => ck4_699
  | 25 => ck4_700
  | 26 => ck4_701
  | n + 27 => absurd hk (by omega)
theorem ck4g_26 : ∀ k, k < 27 → bl4 (702 + k) = true := fun k hk => match k with
  | 0 => ck4_702
  | 1 => ck4_703
  | 2 => ck4_704
  | 3 => ck4_705
  | 4 => ck4_706
  | 5 => ck4_707
  | 6 => ck4_708
  | 7 => ck4_709
  | 8 => ck4_710
  | 9 => ck4_711
  | 10 => ck4_712
  | 11 => ck4_713
  | 12 => ck4_714
  | 13 => ck4_715
  | 14 => ck4_716
  | 15 => ck4_717
  | 16 => ck4_718
  | 17 => ck4_719
  | 18 => ck4_720
  | 19 => ck4_721
  | 20 => ck4_722
  | 21 => ck4_723
  | 22 => ck4_724
  | 23 => ck4_725
  | 24 => ck4_726
  | 25 => ck4_727
  | 26 => ck4_728
  | n + 27 => absurd hk (by omega)
theorem ck4 : ∀ j, j < 27 → ∀ k, k < 27 → bl4 (27 * j + k) = true := fun j hj => match j with
  | 0 => ck4g_0
  | 1 => ck4g_1
  | 2 => ck4g_2
  | 3 => ck4g_3
  | 4 => ck4g_4
  | 5 => ck4g_5
  | 6 => ck4g_6
  | 7 => ck4g_7
  | 8 => ck4g_8
  | 9 => ck4g_9
  | 10 => ck4g_10
  | 11 => ck4g_11
  | 12 => ck4g_12
  | 13 => ck4g_13
  | 14 => ck4g_14
  | 15 => ck4g_15
  | 16 => ck4g_16
  | 17 => ck4g_17
  | 18 => ck4g_18
  | 19 => ck4g_19
  | 20 => ck4g_20
  | 21 => ck4g_21
  | 22 => ck4g_22
  | 23 => ck4g_23
  | 24 => ck4g_24
  | 25 => ck4g_25
  | 26 => ck4g_26
  | n + 27 => absurd hj (by omega)
