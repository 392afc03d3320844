/-! ===== five sides, the last corner without a label: all boards ===== -/
noncomputable def bl5c (i : Nat) : Bool := c5b (Nat.mul 27 i) 27
theorem cp5_0 : bl5c 0 = true := by decide +kernel
theorem cp5_1 : bl5c 1 = true := by decide +kernel
theorem cp5_2 : bl5c 2 = true := by decide +kernel
theorem cp5_3 : bl5c 3 = true := by decide +kernel
theorem cp5_4 : bl5c 4 = true := by decide +kernel
theorem cp5_5 : bl5c 5 = true := by decide +kernel
theorem cp5_6 : bl5c 6 = true := by decide +kernel
theorem cp5_7 : bl5c 7 = true := by decide +kernel
theorem cp5_8 : bl5c 8 = true := by decide +kernel
theorem cp5_9 : bl5c 9 = true := by decide +kernel
theorem cp5_10 : bl5c 10 = true := by decide +kernel
theorem cp5_11 : bl5c 11 = true := by decide +kernel
theorem cp5_12 : bl5c 12 = true := by decide +kernel
theorem cp5_13 : bl5c 13 = true := by decide +kernel
theorem cp5_14 : bl5c 14 = true := by decide +kernel
theorem cp5_15 : bl5c 15 = true := by decide +kernel
theorem cp5_16 : bl5c 16 = true := by decide +kernel
theorem cp5_17 : bl5c 17 = true := by decide +kernel
theorem cp5_18 : bl5c 18 = true := by decide +kernel
theorem cp5_19 : bl5c 19 = true := by decide +kernel
theorem cp5_20 : bl5c 20 = true := by decide +kernel
theorem cp5_21 : bl5c 21 = true := by decide +kernel
theorem cp5_22 : bl5c 22 = true := by decide +kernel
theorem cp5_23 : bl5c 23 = true := by decide +kernel
theorem cp5_24 : bl5c 24 = true := by decide +kernel
theorem cp5_25 : bl5c 25 = true := by decide +kernel
theorem cp5_26 : bl5c 26 = true := by decide +kernel
theorem cp5_27 : bl5c 27 = true := by decide +kernel
theorem cp5_28 : bl5c 28 = true := by decide +kernel
theorem cp5_29 : bl5c 29 = true := by decide +kernel
theorem cp5_30 : bl5c 30 = true := by decide +kernel
theorem cp5_31 : bl5c 31 = true := by decide +kernel
theorem cp5_32 : bl5c 32 = true := by decide +kernel
theorem cp5_33 : bl5c 33 = true := by decide +kernel
theorem cp5_34 : bl5c 34 = true := by decide +kernel
theorem cp5_35 : bl5c 35 = true := by decide +kernel
theorem cp5_36 : bl5c 36 = true := by decide +kernel
theorem cp5_37 : bl5c 37 = true := by decide +kernel
theorem cp5_38 : bl5c 38 = true := by decide +kernel
theorem cp5_39 : bl5c 39 = true := by decide +kernel
theorem cp5_40 : bl5c 40 = true := by decide +kernel
theorem cp5_41 : bl5c 41 = true := by decide +kernel
theorem cp5_42 : bl5c 42 = true := by decide +kernel
theorem cp5_43 : bl5c 43 = true := by decide +kernel
theorem cp5_44 : bl5c 44 = true := by decide +kernel
theorem cp5_45 : bl5c 45 = true := by decide +kernel
theorem cp5_46 : bl5c 46 = true := by decide +kernel
theorem cp5_47 : bl5c 47 = true := by decide +kernel
theorem cp5_48 : bl5c 48 = true := by decide +kernel
theorem cp5_49 : bl5c 49 = true := by decide +kernel
theorem cp5_50 : bl5c 50 = true := by decide +kernel
theorem cp5_51 : bl5c 51 = true := by decide +kernel
theorem cp5_52 : bl5c 52 = true := by decide +kernel
theorem cp5_53 : bl5c 53 = true := by decide +kernel
theorem cp5_54 : bl5c 54 = true := by decide +kernel
theorem cp5_55 : bl5c 55 = true := by decide +kernel
theorem cp5_56 : bl5c 56 = true := by decide +kernel
theorem cp5_57 : bl5c 57 = true := by decide +kernel
theorem cp5_58 : bl5c 58 = true := by decide +kernel
theorem cp5_59 : bl5c 59 = true := by decide +kernel
theorem cp5_60 : bl5c 60 = true := by decide +kernel
theorem cp5_61 : bl5c 61 = true := by decide +kernel
theorem cp5_62 : bl5c 62 = true := by decide +kernel
theorem cp5_63 : bl5c 63 = true := by decide +kernel
theorem cp5_64 : bl5c 64 = true := by decide +kernel
theorem cp5_65 : bl5c 65 = true := by decide +kernel
theorem cp5_66 : bl5c 66 = true := by decide +kernel
theorem cp5_67 : bl5c 67 = true := by decide +kernel
theorem cp5_68 : bl5c 68 = true := by decide +kernel
theorem cp5_69 : bl5c 69 = true := by decide +kernel
theorem cp5_70 : bl5c 70 = true := by decide +kernel
theorem cp5_71 : bl5c 71 = true := by decide +kernel
theorem cp5_72 : bl5c 72 = true := by decide +kernel
theorem cp5_73 : bl5c 73 = true := by decide +kernel
theorem cp5_74 : bl5c 74 = true := by decide +kernel
theorem cp5_75 : bl5c 75 = true := by decide +kernel
theorem cp5_76 : bl5c 76 = true := by decide +kernel
theorem cp5_77 : bl5c 77 = true := by decide +kernel
theorem cp5_78 : bl5c 78 = true := by decide +kernel
theorem cp5_79 : bl5c 79 = true := by decide +kernel
theorem cp5_80 : bl5c 80 = true := by decide +kernel
theorem cp5_81 : bl5c 81 = true := by decide +kernel
theorem cp5_82 : bl5c 82 = true := by decide +kernel
theorem cp5_83 : bl5c 83 = true := by decide +kernel
theorem cp5_84 : bl5c 84 = true := by decide +kernel
theorem cp5_85 : bl5c 85 = true := by decide +kernel
theorem cp5_86 : bl5c 86 = true := by decide +kernel
theorem cp5_87 : bl5c 87 = true := by decide +kernel
theorem cp5_88 : bl5c 88 = true := by decide +kernel
theorem cp5_89 : bl5c 89 = true := by decide +kernel
theorem cp5_90 : bl5c 90 = true := by decide +kernel
theorem cp5_91 : bl5c 91 = true := by decide +kernel
theorem cp5_92 : bl5c 92 = true := by decide +kernel
theorem cp5_93 : bl5c 93 = true := by decide +kernel
theorem cp5_94 : bl5c 94 = true := by decide +kernel
theorem cp5_95 : bl5c 95 = true := by decide +kernel
theorem cp5_96 : bl5c 96 = true := by decide +kernel
theorem cp5_97 : bl5c 97 = true := by decide +kernel
theorem cp5_98 : bl5c 98 = true := by decide +kernel
theorem cp5_99 : bl5c 99 = true := by decide +kernel
theorem cp5_100 : bl5c 100 = true := by decide +kernel
theorem cp5_101 : bl5c 101 = true := by decide +kernel
theorem cp5_102 : bl5c 102 = true := by decide +kernel
theorem cp5_103 : bl5c 103 = true := by decide +kernel
theorem cp5_104 : bl5c 104 = true := by decide +kernel
theorem cp5_105 : bl5c 105 = true := by decide +kernel
theorem cp5_106 : bl5c 106 = true := by decide +kernel
theorem cp5_107 : bl5c 107 = true := by decide +kernel
theorem cp5_108 : bl5c 108 = true := by decide +kernel
theorem cp5_109 : bl5c 109 = true := by decide +kernel
theorem cp5_110 : bl5c 110 = true := by decide +kernel
theorem cp5_111 : bl5c 111 = true := by decide +kernel
theorem cp5_112 : bl5c 112 = true := by decide +kernel
theorem cp5_113 : bl5c 113 = true := by decide +kernel
theorem cp5_114 : bl5c 114 = true := by decide +kernel
theorem cp5_115 : bl5c 115 = true := by decide +kernel
theorem cp5_116 : bl5c 116 = true := by decide +kernel
theorem cp5_117 : bl5c 117 = true := by decide +kernel
theorem cp5_118 : bl5c 118 = true := by decide +kernel
theorem cp5_119 : bl5c 119 = true := by decide +kernel
theorem cp5_120 : bl5c 120 = true := by decide +kernel
theorem cp5_121 : bl5c 121 = true := by decide +kernel
theorem cp5_122 : bl5c 122 = true := by decide +kernel
theorem cp5_123 : bl5c 123 = true := by decide +kernel
theorem cp5_124 : bl5c 124 = true := by decide +kernel
theorem cp5_125 : bl5c 125 = true := by decide +kernel
theorem cp5_126 : bl5c 126 = true := by decide +kernel
theorem cp5_127 : bl5c 127 = true := by decide +kernel
theorem cp5_128 : bl5c 128 = true := by decide +kernel
theorem cp5_129 : bl5c 129 = true := by decide +kernel
theorem cp5_130 : bl5c 130 = true := by decide +kernel
theorem cp5_131 : bl5c 131 = true := by decide +kernel
theorem cp5_132 : bl5c 132 = true := by decide +kernel
theorem cp5_133 : bl5c 133 = true := by decide +kernel
theorem cp5_134 : bl5c 134 = true := by decide +kernel
theorem cp5_135 : bl5c 135 = true := by decide +kernel
theorem cp5_136 : bl5c 136 = true := by decide +kernel
theorem cp5_137 : bl5c 137 = true := by decide +kernel
theorem cp5_138 : bl5c 138 = true := by decide +kernel
theorem cp5_139 : bl5c 139 = true := by decide +kernel
theorem cp5_140 : bl5c 140 = true := by decide +kernel
theorem cp5_141 : bl5c 141 = true := by decide +kernel
theorem cp5_142 : bl5c 142 = true := by decide +kernel
theorem cp5_143 : bl5c 143 = true := by decide +kernel
theorem cp5_144 : bl5c 144 = true := by decide +kernel
theorem cp5_145 : bl5c 145 = true := by decide +kernel
theorem cp5_146 : bl5c 146 = true := by decide +kernel
theorem cp5_147 : bl5c 147 = true := by decide +kernel
theorem cp5_148 : bl5c 148 = true := by decide +kernel
theorem cp5_149 : bl5c 149 = true := by decide +kernel
theorem cp5_150 : bl5c 150 = true := by decide +kernel
theorem cp5_151 : bl5c 151 = true := by decide +kernel
theorem cp5_152 : bl5c 152 = true := by decide +kernel
theorem cp5_153 : bl5c 153 = true := by decide +kernel
theorem cp5_154 : bl5c 154 = true := by decide +kernel
theorem cp5_155 : bl5c 155 = true := by decide +kernel
theorem cp5_156 : bl5c 156 = true := by decide +kernel
theorem cp5_157 : bl5c 157 = true := by decide +kernel
theorem cp5_158 : bl5c 158 = true := by decide +kernel
theorem cp5_159 : bl5c 159 = true := by decide +kernel
theorem cp5_160 : bl5c 160 = true := by decide +kernel
theorem cp5_161 : bl5c 161 = true := by decide +kernel
theorem cp5_162 : bl5c 162 = true := by decide +kernel
theorem cp5_163 : bl5c 163 = true := by decide +kernel
theorem cp5_164 : bl5c 164 = true := by decide +kernel
theorem cp5_165 : bl5c 165 = true := by decide +kernel
theorem cp5_166 : bl5c 166 = true := by decide +kernel
theorem cp5_167 : bl5c 167 = true := by decide +kernel
theorem cp5_168 : bl5c 168 = true := by decide +kernel
theorem cp5_169 : bl5c 169 = true := by decide +kernel
theorem cp5_170 : bl5c 170 = true := by decide +kernel
theorem cp5_171 : bl5c 171 = true := by decide +kernel
theorem cp5_172 : bl5c 172 = true := by decide +kernel
theorem cp5_173 : bl5c 173 = true := by decide +kernel
theorem cp5_174 : bl5c 174 = true := by decide +kernel
theorem cp5_175 : bl5c 175 = true := by decide +kernel
theorem cp5_176 : bl5c 176 = true := by decide +kernel
theorem cp5_177 : bl5c 177 = true := by decide +kernel
theorem cp5_178 : bl5c 178 = true := by decide +kernel
theorem cp5_179 : bl5c 179 = true := by decide +kernel
theorem cp5_180 : bl5c 180 = true := by decide +kernel
theorem cp5_181 : bl5c 181 = true := by decide +kernel
theorem cp5_182 : bl5c 182 = true := by decide +kernel
theorem cp5_183 : bl5c 183 = true := by decide +kernel
theorem cp5_184 : bl5c 184 = true := by decide +kernel
theorem cp5_185 : bl5c 185 = true := by decide +kernel
theorem cp5_186 : bl5c 186 = true := by decide +kernel
theorem cp5_187 : bl5c 187 = true := by decide +kernel
theorem cp5_188 : bl5c 188 = true := by decide +kernel
theorem cp5_189 : bl5c 189 = true := by decide +kernel
theorem cp5_190 : bl5c 190 = true := by decide +kernel
theorem cp5_191 : bl5c 191 = true := by decide +kernel
theorem cp5_192 : bl5c 192 = true := by decide +kernel
theorem cp5_193 : bl5c 193 = true := by decide +kernel
theorem cp5_194 : bl5c 194 = true := by decide +kernel
theorem cp5_195 : bl5c 195 = true := by decide +kernel
theorem cp5_196 : bl5c 196 = true := by decide +kernel
theorem cp5_197 : bl5c 197 = true := by decide +kernel
theorem cp5_198 : bl5c 198 = true := by decide +kernel
theorem cp5_199 : bl5c 199 = true := by decide +kernel
theorem cp5_200 : bl5c 200 = true := by decide +kernel
theorem cp5_201 : bl5c 201 = true := by decide +kernel
theorem cp5_202 : bl5c 202 = true := by decide +kernel
theorem cp5_203 : bl5c 203 = true := by decide +kernel
theorem cp5_204 : bl5c 204 = true := by decide +kernel
theorem cp5_205 : bl5c 205 = true := by decide +kernel
theorem cp5_206 : bl5c 206 = true := by decide +kernel
theorem cp5_207 : bl5c 207 = true := by decide +kernel
theorem cp5_208 : bl5c 208 = true := by decide +kernel
theorem cp5_209 : bl5c 209 = true := by decide +kernel
theorem cp5_210 : bl5c 210 = true := by decide +kernel
theorem cp5_211 : bl5c 211 = true := by decide +kernel
theorem cp5_212 : bl5c 212 = true := by decide +kernel
theorem cp5_213 : bl5c 213 = true := by decide +kernel
theorem cp5_214 : bl5c 214 = true := by decide +kernel
theorem cp5_215 : bl5c 215 = true := by decide +kernel
theorem cp5_216 : bl5c 216 = true := by decide +kernel
theorem cp5_217 : bl5c 217 = true := by decide +kernel
theorem cp5_218 : bl5c 218 = true := by decide +kernel
theorem cp5_219 : bl5c 219 = true := by decide +kernel
theorem cp5_220 : bl5c 220 = true := by decide +kernel
theorem cp5_221 : bl5c 221 = true := by decide +kernel
theorem cp5_222 : bl5c 222 = true := by decide +kernel
theorem cp5_223 : bl5c 223 = true := by decide +kernel
theorem cp5_224 : bl5c 224 = true := by decide +kernel
theorem cp5_225 : bl5c 225 = true := by decide +kernel
theorem cp5_226 : bl5c 226 = true := by decide +kernel
theorem cp5_227 : bl5c 227 = true := by decide +kernel
theorem cp5_228 : bl5c 228 = true := by decide +kernel
theorem cp5_229 : bl5c 229 = true := by decide +kernel
theorem cp5_230 : bl5c 230 = true := by decide +kernel
theorem cp5_231 : bl5c 231 = true := by decide +kernel
theorem cp5_232 : bl5c 232 = true := by decide +kernel
theorem cp5_233 : bl5c 233 = true := by decide +kernel
theorem cp5_234 : bl5c 234 = true := by decide +kernel
theorem cp5_235 : bl5c 235 = true := by decide +kernel
theorem cp5_236 : bl5c 236 = true := by decide +kernel
theorem cp5_237 : bl5c 237 = true := by decide +kernel
theorem cp5_238 : bl5c 238 = true := by decide +kernel
theorem cp5_239 : bl5c 239 = true := by decide +kernel
theorem cp5_240 : bl5c 240 = true := by decide +kernel
theorem cp5_241 : bl5c 241 = true := by decide +kernel
theorem cp5_242 : bl5c 242 = true := by decide +kernel
theorem cp5g_0 : ∀ k, k < 27 → bl5c (0 + k) = true := fun k hk => match k with
  | 0 => cp5_0
  | 1 => cp5_1
  | 2 => cp5_2
  | 3 => cp5_3
  | 4 => cp5_4
  | 5 => cp5_5
  | 6 => cp5_6
  | 7 => cp5_7
  | 8 => cp5_8
  | 9 => cp5_9
  | 10 => cp5_10
  | 11 => cp5_11
  | 12 => cp5_12
  | 13 => cp5_13
  | 14 => cp5_14
  | 15 => cp5_15
  | 16 => cp5_16
  | 17 => cp5_17
  | 18 => cp5_18
  | 19 => cp5_19
  | 20 => cp5_20
  | 21 => cp5_21
  | 22 => cp5_22
  | 23 => cp5_23
  | 24 => cp5_24
  | 25 => cp5_25
  | 26 => cp5_26
  | n + 27 => absurd hk (by omega)
theorem cp5g_1 : ∀ k, k < 27 → bl5c (27 + k) = true := fun k hk => match k with
  | 0 => cp5_27
  | 1 => cp5_28
  | 2 => cp5_29
  | 3 => cp5_30
  | 4 => cp5_31
  | 5 => cp5_32
  | 6 => cp5_33
  | 7 => cp5_34
  | 8 => cp5_35
  | 9 => cp5_36
  | 10 => cp5_37
  | 11 => cp5_38
  | 12 => cp5_39
  | 13 => cp5_40
  | 14 => cp5_41
  | 15 => cp5_42
  | 16 => cp5_43
  | 17 => cp5_44
  | 18 => cp5_45
  | 19 => cp5_46
  | 20 => cp5_47
  | 21 => cp5_48
  | 22 => cp5_49
  | 23 => cp5_50
  | 24 => cp5_51
  | 25 => cp5_52
  | 26 => cp5_53
  | n + 27 => absurd hk (by omega)
theorem cp5g_2 : ∀ k, k < 27 → bl5c (54 + k) = true := fun k hk => match k with
  | 0 => cp5_54
  | 1 => cp5_55
  | 2 => cp5_56
  | 3 => cp5_57
  | 4 => cp5_58
  | 5 => cp5_59
  | 6 => cp5_60
  | 7 => cp5_61
  | 8 => cp5_62
  | 9 => cp5_63
  | 10 => cp5_64
  | 11 => cp5_65
  | 12 => cp5_66
  | 13 => cp5_67
  | 14 => cp5_68
  | 15 => cp5_69
  | 16 => cp5_70
  | 17 => cp5_71
  | 18 => cp5_72
  | 19 => cp5_73
  | 20 => cp5_74
  | 21 => cp5_75
  | 22 => cp5_76
  | 23 => cp5_77
  | 24 => cp5_78
  | 25 => cp5_79
  | 26 => cp5_80
  | n + 27 => absurd hk (by omega)
theorem cp5g_3 : ∀ k, k < 27 → bl5c (81 + k) = true := fun k hk => match k with
  | 0 => cp5_81
  | 1 => cp5_82
  | 2 => cp5_83
  | 3 => cp5_84
  | 4 => cp5_85
  | 5 => cp5_86
  | 6 => cp5_87
  | 7 => cp5_88
  | 8 => cp5_89
  | 9 => cp5_90
  | 10 => cp5_91
  | 11 => cp5_92
  | 12 => cp5_93
  | 13 => cp5_94
  | 14 => cp5_95
  | 15 => cp5_96
  | 16 => cp5_97
  | 17 => cp5_98
  | 18 => cp5_99
  | 19 => cp5_100
  | 20 => cp5_101
  | 21 => cp5_102
  | 22 => cp5_103
  | 23 => cp5_104
  | 24 => cp5_105
  | 25 => cp5_106
  | 26 => cp5_107
  | n + 27 => absurd hk (by omega)
theorem cp5g_4 : ∀ k, k < 27 → bl5c (108 + k) = true := fun k hk => match k with
  | 0 => cp5_108
  | 1 => cp5_109
  | 2 => cp5_110
  | 3 => cp5_111
  | 4 => cp5_112
  | 5 => cp5_113
  | 6 => cp5_114
  | 7 => cp5_115
  | 8 => cp5_116
  | 9 => cp5_117
  | 10 => cp5_118
  | 11 => cp5_119
  | 12 => cp5_120
  | 13 => cp5_121
  | 14 => cp5_122
  | 15 => cp5_123
  | 16 => cp5_124
  | 17 => cp5_125
  | 18 => cp5_126
  | 19 => cp5_127
  | 20 => cp5_128
  | 21 => cp5_129
  | 22 => cp5_130
  | 23 => cp5_131
  | 24 => cp5_132
  | 25 => cp5_133
  | 26 => cp5_134
  | n + 27 => absurd hk (by omega)
theorem cp5g_5 : ∀ k, k < 27 → bl5c (135 + k) = true := fun k hk => match k with
  | 0 => cp5_135
  | 1 => cp5_136
  | 2 => cp5_137
  | 3 => cp5_138
  | 4 => cp5_139
  | 5 => cp5_140
  | 6 => cp5_141
  | 7 => cp5_142
  | 8 => cp5_143
  | 9 => cp5_144
  | 10 => cp5_145
  | 11 => cp5_146
  | 12 => cp5_147
  | 13 => cp5_148
  | 14 => cp5_149
  | 15 => cp5_150
  | 16 => cp5_151
  | 17 => cp5_152
  | 18 => cp5_153
  | 19 => cp5_154
  | 20 => cp5_155
  | 21 => cp5_156
  | 22 => cp5_157
  | 23 => cp5_158
  | 24 => cp5_159
  | 25 => cp5_160
  | 26 => cp5_161
  | n + 27 => absurd hk (by omega)
theorem cp5g_6 : ∀ k, k < 27 → bl5c (162 + k) = true := fun k hk => match k with
  | 0 => cp5_162
  | 1 => cp5_163
  | 2 => cp5_164
  | 3 => cp5_165
  | 4 => cp5_166
  | 5 => cp5_167
  | 6 => cp5_168
  | 7 => cp5_169
  | 8 => cp5_170
  | 9 => cp5_171
  | 10 => cp5_172
  | 11 => cp5_173
  | 12 => cp5_174
  | 13 => cp5_175
  | 14 => cp5_176
  | 15 => cp5_177
  | 16 => cp5_178
  | 17 => cp5_179
  | 18 => cp5_180
  | 19 => cp5_181
  | 20 => cp5_182
  | 21 => cp5_183
  | 22 => cp5_184
  | 23 => cp5_185
  | 24 => cp5_186
  | 25 => cp5_187
  | 26 => cp5_188
  | n + 27 => absurd hk (by omega)
theorem cp5g_7 : ∀ k, k < 27 → bl5c (189 + k) = true := fun k hk => match k with
  | 0 => cp5_189
  | 1 => cp5_190
  | 2 => cp5_191
  | 3 => cp5_192
  | 4 => cp5_193
  | 5 => cp5_194
  | 6 => cp5_195
  | 7 => cp5_196
  | 8 => cp5_197
  | 9 => cp5_198
  | 10 => cp5_199
  | 11 => cp5_200
  | 12 => cp5_201
  | 13 => cp5_202
  | 14 => cp5_203
  | 15 => cp5_204
  | 16 => cp5_205
  | 17 => cp5_206
  | 18 => cp5_207
  | 19 => cp5_208
  | 20 => cp5_209
  | 21 => cp5_210
  | 22 => cp5_211
  | 23 => cp5_212
  | 24 => cp5_213
  | 25 => cp5_214
  | 26 => cp5_215
  | n + 27 => absurd hk (by omega)
theorem cp5g_8 : ∀ k, k < 27 → bl5c (216 + k) = true := fun k hk => match k with
  | 0 => cp5_216
  | 1 => cp5_217
  | 2 => cp5_218
  | 3 => cp5_219
  | 4 => cp5_220
  | 5 => cp5_221
  | 6 => cp5_222
  | 7 => cp5_223
  | 8 => cp5_224
  | 9 => cp5_225
  | 10 => cp5_226
  | 11 => cp5_227
  | 12 => cp5_228
  | 13 => cp5_229
  | 14 => cp5_230
  | 15 => cp5_231
  | 16 => cp5_232
  | 17 => cp5_233
  | 18 => cp5_234
  | 19 => cp5_235
  | 20 => cp5_236
  | 21 => cp5_237
  | 22 => cp5_238
  | 23 => cp5_239
  | 24 => cp5_240
  | 25 => cp5_241
  | 26 => cp5_242
  | n + 27 => absurd hk (by omega)
theorem cp5 : ∀ j, j < 9 → ∀ k, k < 27 → bl5c (27 * j + k) = true := fun j hj => match j with
  | 0 => cp5g_0
  | 1 => cp5g_1
  | 2 => cp5g_2
  | 3 => cp5g_3
  | 4 => cp5g_4
  | 5 => cp5g_5
  | 6 => cp5g_6
  | 7 => cp5g_7
  | 8 => cp5g_8
  | n + 9 => absurd hj (by omega)
