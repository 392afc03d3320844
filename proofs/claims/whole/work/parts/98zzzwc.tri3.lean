/-! ===== all boards of three sides (3) ===== -/
theorem tk_162 : b3 162 = true := by decide +kernel
theorem tk_163 : b3 163 = true := by decide +kernel
theorem tk_164 : b3 164 = true := by decide +kernel
theorem tk_165 : b3 165 = true := by decide +kernel
theorem tk_166 : b3 166 = true := by decide +kernel
theorem tk_167 : b3 167 = true := by decide +kernel
theorem tk_168 : b3 168 = true := by decide +kernel
theorem tk_169 : b3 169 = true := by decide +kernel
theorem tk_170 : b3 170 = true := by decide +kernel
theorem tk_171 : b3 171 = true := by decide +kernel
theorem tk_172 : b3 172 = true := by decide +kernel
theorem tk_173 : b3 173 = true := by decide +kernel
theorem tk_174 : b3 174 = true := by decide +kernel
theorem tk_175 : b3 175 = true := by decide +kernel
theorem tk_176 : b3 176 = true := by decide +kernel
theorem tk_177 : b3 177 = true := by decide +kernel
theorem tk_178 : b3 178 = true := by decide +kernel
theorem tk_179 : b3 179 = true := by decide +kernel
theorem tk_180 : b3 180 = true := by decide +kernel
theorem tk_181 : b3 181 = true := by decide +kernel
theorem tk_182 : b3 182 = true := by decide +kernel
theorem tk_183 : b3 183 = true := by decide +kernel
theorem tk_184 : b3 184 = true := by decide +kernel
theorem tk_185 : b3 185 = true := by decide +kernel
theorem tk_186 : b3 186 = true := by decide +kernel
theorem tk_187 : b3 187 = true := by decide +kernel
theorem tk_188 : b3 188 = true := by decide +kernel
theorem tk_189 : b3 189 = true := by decide +kernel
theorem tk_190 : b3 190 = true := by decide +kernel
theorem tk_191 : b3 191 = true := by decide +kernel
theorem tk_192 : b3 192 = true := by decide +kernel
theorem tk_193 : b3 193 = true := by decide +kernel
theorem tk_194 : b3 194 = true := by decide +kernel
theorem tk_195 : b3 195 = true := by decide +kernel
theorem tk_196 : b3 196 = true := by decide +kernel
theorem tk_197 : b3 197 = true := by decide +kernel
theorem tk_198 : b3 198 = true := by decide +kernel
theorem tk_199 : b3 199 = true := by decide +kernel
theorem tk_200 : b3 200 = true := by decide +kernel
theorem tk_201 : b3 201 = true := by decide +kernel
theorem tk_202 : b3 202 = true := by decide +kernel
theorem tk_203 : b3 203 = true := by decide +kernel
theorem tk_204 : b3 204 = true := by decide +kernel
theorem tk_205 : b3 205 = true := by decide +kernel
theorem tk_206 : b3 206 = true := by decide +kernel
theorem tk_207 : b3 207 = true := by decide +kernel
theorem tk_208 : b3 208 = true := by decide +kernel
theorem tk_209 : b3 209 = true := by decide +kernel
theorem tk_210 : b3 210 = true := by decide +kernel
theorem tk_211 : b3 211 = true := by decide +kernel
theorem tk_212 : b3 212 = true := by decide +kernel
theorem tk_213 : b3 213 = true := by decide +kernel
theorem tk_214 : b3 214 = true := by decide +kernel
theorem tk_215 : b3 215 = true := by decide +kernel
theorem tk_216 : b3 216 = true := by decide +kernel
theorem tk_217 : b3 217 = true := by decide +kernel
theorem tk_218 : b3 218 = true := by decide +kernel
theorem tk_219 : b3 219 = true := by decide +kernel
theorem tk_220 : b3 220 = true := by decide +kernel
theorem tk_221 : b3 221 = true := by decide +kernel
theorem tk_222 : b3 222 = true := by decide +kernel
theorem tk_223 : b3 223 = true := by decide +kernel
theorem tk_224 : b3 224 = true := by decide +kernel
theorem tk_225 : b3 225 = true := by decide +kernel
theorem tk_226 : b3 226 = true := by decide +kernel
theorem tk_227 : b3 227 = true := by decide +kernel
theorem tk_228 : b3 228 = true := by decide +kernel
theorem tk_229 : b3 229 = true := by decide +kernel
theorem tk_230 : b3 230 = true := by decide +kernel
theorem tk_231 : b3 231 = true := by decide +kernel
theorem tk_232 : b3 232 = true := by decide +kernel
theorem tk_233 : b3 233 = true := by decide +kernel
theorem tk_234 : b3 234 = true := by decide +kernel
theorem tk_235 : b3 235 = true := by decide +kernel
theorem tk_236 : b3 236 = true := by decide +kernel
theorem tk_237 : b3 237 = true := by decide +kernel
theorem tk_238 : b3 238 = true := by decide +kernel
theorem tk_239 : b3 239 = true := by decide +kernel
theorem tk_240 : b3 240 = true := by decide +kernel
theorem tk_241 : b3 241 = true := by decide +kernel
theorem tk_242 : b3 242 = true := by decide +kernel
theorem tkg_6 : ∀ k, k < 27 → b3 (162 + k) = true := fun k hk => match k with
  | 0 => tk_162
  | 1 => tk_163
  | 2 => tk_164
  | 3 => tk_165
  | 4 => tk_166
  | 5 => tk_167
  | 6 => tk_168
  | 7 => tk_169
  | 8 => tk_170
  | 9 => tk_171
  | 10 => tk_172
  | 11 => tk_173
  | 12 => tk_174
  | 13 => tk_175
  | 14 => tk_176
  | 15 => tk_177
  | 16 => tk_178
  | 17 => tk_179
  | 18 => tk_180
  | 19 => tk_181
  | 20 => tk_182
  | 21 => tk_183
  | 22 => tk_184
  | 23 => tk_185
  | 24 => tk_186
  | 25 => tk_187
  | 26 => tk_188
  | n + 27 => absurd hk (by omega)
theorem tkg_7 : ∀ k, k < 27 → b3 (189 + k) = true := fun k hk => match k with
  | 0 => tk_189
  | 1 => tk_190
  | 2 => tk_191
  | 3 => tk_192
  | 4 => tk_193
  | 5 => tk_194
  | 6 => tk_195
  | 7 => tk_196
  | 8 => tk_197
  | 9 => tk_198
  | 10 => tk_199
  | 11 => tk_200
  | 12 => tk_201
  | 13 => tk_202
  | 14 => tk_203
  | 15 => tk_204
  | 16 => tk_205
  | 17 => tk_206
  | 18 => tk_207
  | 19 => tk_208
  | 20 => tk_209
  | 21 => tk_210
  | 22 => tk_211
  | 23 => tk_212
  | 24 => tk_213
  | 25 => tk_214
  | 26 => tk_215
  | n + 27 => absurd hk (by omega)
theorem tkg_8 : ∀ k, k < 27 → b3 (216 + k) = true := fun k hk => match k with
  | 0 => tk_216
  | 1 => tk_217
  | 2 => tk_218
  | 3 => tk_219
  | 4 => tk_220
  | 5 => tk_221
  | 6 => tk_222
  | 7 => tk_223
  | 8 => tk_224
  | 9 => tk_225
  | 10 => tk_226
  | 11 => tk_227
  | 12 => tk_228
  | 13 => tk_229
  | 14 => tk_230
  | 15 => tk_231
  | 16 => tk_232
  | 17 => tk_233
  | 18 => tk_234
  | 19 => tk_235
  | 20 => tk_236
  | 21 => tk_237
  | 22 => tk_238
  | 23 => tk_239
  | 24 => tk_240
  | 25 => tk_241
  | 26 => tk_242
  | n + 27 => absurd hk (by omega)
