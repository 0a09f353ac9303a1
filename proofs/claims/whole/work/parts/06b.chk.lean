set_option maxRecDepth 100000 in
theorem eok_299 (k : Nat) : EOK 299 k := by
  by_cases h0 : k < 60
  · exact eok_of ck_299_0 (by omega) h0
  by_cases h60 : k < 120
  · exact eok_of ck_299_60 (by omega) h60
  by_cases h120 : k < 180
  · exact eok_of ck_299_120 (by omega) h120
  by_cases h180 : k < 240
  · exact eok_of ck_299_180 (by omega) h180
  by_cases h240 : k < 300
  · exact eok_of ck_299_240 (by omega) h240
  by_cases h300 : k < 360
  · exact eok_of ck_299_300 (by omega) h300
  by_cases h360 : k < 420
  · exact eok_of ck_299_360 (by omega) h360
  by_cases h420 : k < 480
  · exact eok_of ck_299_420 (by omega) h420
  by_cases h480 : k < 540
  · exact eok_of ck_299_480 (by omega) h480
  by_cases h540 : k < 600
  · exact eok_of ck_299_540 (by omega) h540
  by_cases h600 : k < 660
  · exact eok_of ck_299_600 (by omega) h600
  by_cases h660 : k < 720
  · exact eok_of ck_299_660 (by omega) h660
  by_cases h720 : k < 780
  · exact eok_of ck_299_720 (by omega) h720
  by_cases h780 : k < 840
  · exact eok_of ck_299_780 (by omega) h780
  by_cases h840 : k < 900
  · exact eok_of ck_299_840 (by omega) h840
  by_cases h900 : k < 960
  · exact eok_of ck_299_900 (by omega) h900
  by_cases h960 : k < 1020
  · exact eok_of ck_299_960 (by omega) h960
  by_cases h1020 : k < 1080
  · exact eok_of ck_299_1020 (by omega) h1020
  by_cases h1080 : k < 1140
  · exact eok_of ck_299_1080 (by omega) h1080
  by_cases h1140 : k < 1200
  · exact eok_of ck_299_1140 (by omega) h1140
  by_cases h1200 : k < 1260
  · exact eok_of ck_299_1200 (by omega) h1200
  by_cases h1260 : k < 1297
  · exact eok_of ck_299_1260 (by omega) h1260
  exact eok_none (nth_len (by show (cd_299).length ≤ k; exact Nat.le_trans (Nat.le_of_eq rfl) (Nat.not_lt.mp h1260)))
theorem eokb_0 (i : Nat) (h1 : 0 ≤ i) (h2 : i < 15) (k : Nat) : EOK i k := by
  rcases (show i = 0 ∨ i = 1 ∨ i = 2 ∨ i = 3 ∨ i = 4 ∨ i = 5 ∨ i = 6 ∨ i = 7 ∨ i = 8 ∨ i = 9 ∨ i = 10 ∨ i = 11 ∨ i = 12 ∨ i = 13 ∨ i = 14 by omega) with rfl | rfl | rfl | rfl | rfl | rfl | rfl | rfl | rfl | rfl | rfl | rfl | rfl | rfl | rfl
  · exact eok_0 k
  · exact eok_1 k
  · exact eok_2 k
  · exact eok_3 k
  · exact eok_4 k
  · exact eok_5 k
  · exact eok_6 k
  · exact eok_7 k
  · exact eok_8 k
  · exact eok_9 k
  · exact eok_10 k
  · exact eok_11 k
  · exact eok_12 k
  · exact eok_13 k
  · exact eok_14 k
theorem eokb_15 (i : Nat) (h1 : 15 ≤ i) (h2 : i < 30) (k : Nat) : EOK i k := by
  rcases (show i = 15 ∨ i = 16 ∨ i = 17 ∨ i = 18 ∨ i = 19 ∨ i = 20 ∨ i = 21 ∨ i = 22 ∨ i = 23 ∨ i = 24 ∨ i = 25 ∨ i = 26 ∨ i = 27 ∨ i = 28 ∨ i = 29 by omega) with rfl | rfl | rfl | rfl | rfl | rfl | rfl | rfl | rfl | rfl | rfl | rfl | rfl | rfl | rfl
  · exact eok_15 k
  · exact eok_16 k
  · exact eok_17 k
  · exact eok_18 k
  · exact eok_19 k
  · exact eok_20 k
  · exact eok_21 k
  · exact eok_22 k
  · exact eok_23 k
  · exact eok_24 k
  · exact eok_25 k
  · exact eok_26 k
  · exact eok_27 k
  · exact eok_28 k
  · exact eok_29 k
theorem eokb_30 (i : Nat) (h1 : 30 ≤ i) (h2 : i < 45) (k : Nat) : EOK i k := by
  rcases (show i = 30 ∨ i = 31 ∨ i = 32 ∨ i = 33 ∨ i = 34 ∨ i = 35 ∨ i = 36 ∨ i = 37 ∨ i = 38 ∨ i = 39 ∨ i = 40 ∨ i = 41 ∨ i = 42 ∨ i = 43 ∨ i = 44 by omega) with rfl | rfl | rfl | rfl | rfl | rfl | rfl | rfl | rfl | rfl | rfl | rfl | rfl | rfl | rfl
  · exact eok_30 k
  · exact eok_31 k
  · exact eok_32 k
  · exact eok_33 k
  · exact eok_34 k
  · exact eok_35 k
  · exact eok_36 k
  · exact eok_37 k
  · exact eok_38 k
  · exact eok_39 k
  · exact eok_40 k
  · exact eok_41 k
  · exact eok_42 k
  · exact eok_43 k
  · exact eok_44 k
theorem eokb_45 (i : Nat) (h1 : 45 ≤ i) (h2 : i < 60) (k : Nat) : EOK i k := by
  rcases (show i = 45 ∨ i = 46 ∨ i = 47 ∨ i = 48 ∨ i = 49 ∨ i = 50 ∨ i = 51 ∨ i = 52 ∨ i = 53 ∨ i = 54 ∨ i = 55 ∨ i = 56 ∨ i = 57 ∨ i = 58 ∨ i = 59 by omega) with rfl | rfl | rfl | rfl | rfl | rfl | rfl | rfl | rfl | rfl | rfl | rfl | rfl | rfl | rfl
  · exact eok_45 k
  · exact eok_46 k
  · exact eok_47 k
  · exact eok_48 k
  · exact eok_49 k
  · exact eok_50 k
  · exact eok_51 k
  · exact eok_52 k
  · exact eok_53 k
  · exact eok_54 k
  · exact eok_55 k
  · exact eok_56 k
  · exact eok_57 k
  · exact eok_58 k
  · exact eok_59 k
theorem eokb_60 (i : Nat) (h1 : 60 ≤ i) (h2 : i < 75) (k : Nat) : EOK i k := by
  rcases (show i = 60 ∨ i = 61 ∨ i = 62 ∨ i = 63 ∨ i = 64 ∨ i = 65 ∨ i = 66 ∨ i = 67 ∨ i = 68 ∨ i = 69 ∨ i = 70 ∨ i = 71 ∨ i = 72 ∨ i = 73 ∨ i = 74 by omega) with rfl | rfl | rfl | rfl | rfl | rfl | rfl | rfl | rfl | rfl | rfl | rfl | rfl | rfl | rfl
  · exact eok_60 k
  · exact eok_61 k
  · exact eok_62 k
  · exact eok_63 k
  · exact eok_64 k
  · exact eok_65 k
  · exact eok_66 k
  · exact eok_67 k
  · exact eok_68 k
  · exact eok_69 k
  · exact eok_70 k
  · exact eok_71 k
  · exact eok_72 k
  · exact eok_73 k
  · exact eok_74 k
theorem eokb_75 (i : Nat) (h1 : 75 ≤ i) (h2 : i < 90) (k : Nat) : EOK i k := by
  rcases (show i = 75 ∨ i = 76 ∨ i = 77 ∨ i = 78 ∨ i = 79 ∨ i = 80 ∨ i = 81 ∨ i = 82 ∨ i = 83 ∨ i = 84 ∨ i = 85 ∨ i = 86 ∨ i = 87 ∨ i = 88 ∨ i = 89 by omega) with rfl | rfl | rfl | rfl | rfl | rfl | rfl | rfl | rfl | rfl | rfl | rfl | rfl | rfl | rfl
  · exact eok_75 k
  · exact eok_76 k
  · exact eok_77 k
  · exact eok_78 k
  · exact eok_79 k
  · exact eok_80 k
  · exact eok_81 k
  · exact eok_82 k
  · exact eok_83 k
  · exact eok_84 k
  · exact eok_85 k
  · exact eok_86 k
  · exact eok_87 k
  · exact eok_88 k
  · exact eok_89 k
theorem eokb_90 (i : Nat) (h1 : 90 ≤ i) (h2 : i < 105) (k : Nat) : EOK i k := by
  rcases (show i = 90 ∨ i = 91 ∨ i = 92 ∨ i = 93 ∨ i = 94 ∨ i = 95 ∨ i = 96 ∨ i = 97 ∨ i = 98 ∨ i = 99 ∨ i = 100 ∨ i = 101 ∨ i = 102 ∨ i = 103 ∨ i = 104 by omega) with rfl | rfl | rfl | rfl | rfl | rfl | rfl | rfl | rfl | rfl | rfl | rfl | rfl | rfl | rfl
  · exact eok_90 k
  · exact eok_91 k
  · exact eok_92 k
  · exact eok_93 k
  · exact eok_94 k
  · exact eok_95 k
  · exact eok_96 k
  · exact eok_97 k
  · exact eok_98 k
  · exact eok_99 k
  · exact eok_100 k
  · exact eok_101 k
  · exact eok_102 k
  · exact eok_103 k
  · exact eok_104 k
theorem eokb_105 (i : Nat) (h1 : 105 ≤ i) (h2 : i < 120) (k : Nat) : EOK i k := by
  rcases (show i = 105 ∨ i = 106 ∨ i = 107 ∨ i = 108 ∨ i = 109 ∨ i = 110 ∨ i = 111 ∨ i = 112 ∨ i = 113 ∨ i = 114 ∨ i = 115 ∨ i = 116 ∨ i = 117 ∨ i = 118 ∨ i = 119 by omega) with rfl | rfl | rfl | rfl | rfl | rfl | rfl | rfl | rfl | rfl | rfl | rfl | rfl | rfl | rfl
  · exact eok_105 k
  · exact eok_106 k
  · exact eok_107 k
  · exact eok_108 k
  · exact eok_109 k
  · exact eok_110 k
  · exact eok_111 k
  · exact eok_112 k
  · exact eok_113 k
  · exact eok_114 k
  · exact eok_115 k
  · exact eok_116 k
  · exact eok_117 k
  · exact eok_118 k
  · exact eok_119 k
theorem eokb_120 (i : Nat) (h1 : 120 ≤ i) (h2 : i < 135) (k : Nat) : EOK i k := by
  rcases (show i = 120 ∨ i = 121 ∨ i = 122 ∨ i = 123 ∨ i = 124 ∨ i = 125 ∨ i = 126 ∨ i = 127 ∨ i = 128 ∨ i = 129 ∨ i = 130 ∨ i = 131 ∨ i = 132 ∨ i = 133 ∨ i = 134 by omega) with rfl | rfl | rfl | rfl | rfl | rfl | rfl | rfl | rfl | rfl | rfl | rfl | rfl | rfl | rfl
  · exact eok_120 k
  · exact eok_121 k
  · exact eok_122 k
  · exact eok_123 k
  · exact eok_124 k
  · exact eok_125 k
  · exact eok_126 k
  · exact eok_127 k
  · exact eok_128 k
  · exact eok_129 k
  · exact eok_130 k
  · exact eok_131 k
  · exact eok_132 k
  · exact eok_133 k
  · exact eok_134 k
theorem eokb_135 (i : Nat) (h1 : 135 ≤ i) (h2 : i < 150) (k : Nat) : EOK i k := by
  rcases (show i = 135 ∨ i = 136 ∨ i = 137 ∨ i = 138 ∨ i = 139 ∨ i = 140 ∨ i = 141 ∨ i = 142 ∨ i = 143 ∨ i = 144 ∨ i = 145 ∨ i = 146 ∨ i = 147 ∨ i = 148 ∨ i = 149 by omega) with rfl | rfl | rfl | rfl | rfl | rfl | rfl | rfl | rfl | rfl | rfl | rfl | rfl | rfl | rfl
  · exact eok_135 k
  · exact eok_136 k
  · exact eok_137 k
  · exact eok_138 k
  · exact eok_139 k
  · exact eok_140 k
  · exact eok_141 k
  · exact eok_142 k
  · exact eok_143 k
  · exact eok_144 k
  · exact eok_145 k
  · exact eok_146 k
  · exact eok_147 k
  · exact eok_148 k
  · exact eok_149 k
theorem eokb_150 (i : Nat) (h1 : 150 ≤ i) (h2 : i < 165) (k : Nat) : EOK i k := by
  rcases (show i = 150 ∨ i = 151 ∨ i = 152 ∨ i = 153 ∨ i = 154 ∨ i = 155 ∨ i = 156 ∨ i = 157 ∨ i = 158 ∨ i = 159 ∨ i = 160 ∨ i = 161 ∨ i = 162 ∨ i = 163 ∨ i = 164 by omega) with rfl | rfl | rfl | rfl | rfl | rfl | rfl | rfl | rfl | rfl | rfl | rfl | rfl | rfl | rfl
  · exact eok_150 k
  · exact eok_151 k
  · exact eok_152 k
  · exact eok_153 k
  · exact eok_154 k
  · exact eok_155 k
  · exact eok_156 k
  · exact eok_157 k
  · exact eok_158 k
  · exact eok_159 k
  · exact eok_160 k
  · exact eok_161 k
  · exact eok_162 k
  · exact eok_163 k
  · exact eok_164 k
theorem eokb_165 (i : Nat) (h1 : 165 ≤ i) (h2 : i < 180) (k : Nat) : EOK i k := by
  rcases (show i = 165 ∨ i = 166 ∨ i = 167 ∨ i = 168 ∨ i = 169 ∨ i = 170 ∨ i = 171 ∨ i = 172 ∨ i = 173 ∨ i = 174 ∨ i = 175 ∨ i = 176 ∨ i = 177 ∨ i = 178 ∨ i = 179 by omega) with rfl | rfl | rfl | rfl | rfl | rfl | rfl | rfl | rfl | rfl | rfl | rfl | rfl | rfl | rfl
  · exact eok_165 k
  · exact eok_166 k
  · exact eok_167 k
  · exact eok_168 k
  · exact eok_169 k
  · exact eok_170 k
  · exact eok_171 k
  · exact eok_172 k
  · exact eok_173 k
  · exact eok_174 k
  · exact eok_175 k
  · exact eok_176 k
  · exact eok_177 k
  · exact eok_178 k
  · exact eok_179 k
theorem eokb_180 (i : Nat) (h1 : 180 ≤ i) (h2 : i < 195) (k : Nat) : EOK i k := by
  rcases (show i = 180 ∨ i = 181 ∨ i = 182 ∨ i = 183 ∨ i = 184 ∨ i = 185 ∨ i = 186 ∨ i = 187 ∨ i = 188 ∨ i = 189 ∨ i = 190 ∨ i = 191 ∨ i = 192 ∨ i = 193 ∨ i = 194 by omega) with rfl | rfl | rfl | rfl | rfl | rfl | rfl | rfl | rfl | rfl | rfl | rfl | rfl | rfl | rfl
  · exact eok_180 k
  · exact eok_181 k
  · exact eok_182 k
  · exact eok_183 k
  · exact eok_184 k
  · exact eok_185 k
  · exact eok_186 k
  · exact eok_187 k
  · exact eok_188 k
  · exact eok_189 k
  · exact eok_190 k
  · exact eok_191 k
  · exact eok_192 k
  · exact eok_193 k
  · exact eok_194 k
theorem eokb_195 (i : Nat) (h1 : 195 ≤ i) (h2 : i < 210) (k : Nat) : EOK i k := by
  rcases (show i = 195 ∨ i = 196 ∨ i = 197 ∨ i = 198 ∨ i = 199 ∨ i = 200 ∨ i = 201 ∨ i = 202 ∨ i = 203 ∨ i = 204 ∨ i = 205 ∨ i = 206 ∨ i = 207 ∨ i = 208 ∨ i = 209 by omega) with rfl | rfl | rfl | rfl | rfl | rfl | rfl | rfl | rfl | rfl | rfl | rfl | rfl | rfl | rfl
  · exact eok_195 k
  · exact eok_196 k
  · exact eok_197 k
  · exact eok_198 k
  · exact eok_199 k
  · exact eok_200 k
  · exact eok_201 k
  · exact eok_202 k
  · exact eok_203 k
  · exact eok_204 k
  · exact eok_205 k
  · exact eok_206 k
  · exact eok_207 k
  · exact eok_208 k
  · exact eok_209 k
theorem eokb_210 (i : Nat) (h1 : 210 ≤ i) (h2 : i < 225) (k : Nat) : EOK i k := by
  rcases (show i = 210 ∨ i = 211 ∨ i = 212 ∨ i = 213 ∨ i = 214 ∨ i = 215 ∨ i = 216 ∨ i = 217 ∨ i = 218 ∨ i = 219 ∨ i = 220 ∨ i = 221 ∨ i = 222 ∨ i = 223 ∨ i = 224 by omega) with rfl | rfl | rfl | rfl | rfl | rfl | rfl | rfl | rfl | rfl | rfl | rfl | rfl | rfl | rfl
  · exact eok_210 k
  · exact eok_211 k
  · exact eok_212 k
  · exact eok_213 k
  · exact eok_214 k
  · exact eok_215 k
  · exact eok_216 k
  · exact eok_217 k
  · exact eok_218 k
  · exact eok_219 k
  · exact eok_220 k
  · exact eok_221 k
  · exact eok_222 k
  · exact eok_223 k
  · exact eok_224 k
theorem eokb_225 (i : Nat) (h1 : 225 ≤ i) (h2 : i < 240) (k : Nat) : EOK i k := by
  rcases (show i = 225 ∨ i = 226 ∨ i = 227 ∨ i = 228 ∨ i = 229 ∨ i = 230 ∨ i = 231 ∨ i = 232 ∨ i = 233 ∨ i = 234 ∨ i = 235 ∨ i = 236 ∨ i = 237 ∨ i = 238 ∨ i = 239 by omega) with rfl | rfl | rfl | rfl | rfl | rfl | rfl | rfl | rfl | rfl | rfl | rfl | rfl | rfl | rfl
  · exact eok_225 k
  · exact eok_226 k
  · exact eok_227 k
  · exact eok_228 k
  · exact eok_229 k
  · exact eok_230 k
  · exact eok_231 k
  · exact eok_232 k
  · exact eok_233 k
  · exact eok_234 k
  · exact eok_235 k
  · exact eok_236 k
  · exact eok_237 k
  · exact eok_238 k
  · exact eok_239 k
theorem eokb_240 (i : Nat) (h1 : 240 ≤ i) (h2 : i < 255) (k : Nat) : EOK i k := by
  rcases (show i = 240 ∨ i = 241 ∨ i = 242 ∨ i = 243 ∨ i = 244 ∨ i = 245 ∨ i = 246 ∨ i = 247 ∨ i = 248 ∨ i = 249 ∨ i = 250 ∨ i = 251 ∨ i = 252 ∨ i = 253 ∨ i = 254 by omega) with rfl | rfl | rfl | rfl | rfl | rfl | rfl | rfl | rfl | rfl | rfl | rfl | rfl | rfl | rfl
  · exact eok_240 k
  · exact eok_241 k
  · exact eok_242 k
  · exact eok_243 k
  · exact eok_244 k
  · exact eok_245 k
  · exact eok_246 k
  · exact eok_247 k
  · exact eok_248 k
  · exact eok_249 k
  · exact eok_250 k
  · exact eok_251 k
  · exact eok_252 k
  · exact eok_253 k
  · exact eok_254 k
theorem eokb_255 (i : Nat) (h1 : 255 ≤ i) (h2 : i < 270) (k : Nat) : EOK i k := by
  rcases (show i = 255 ∨ i = 256 ∨ i = 257 ∨ i = 258 ∨ i = 259 ∨ i = 260 ∨ i = 261 ∨ i = 262 ∨ i = 263 ∨ i = 264 ∨ i = 265 ∨ i = 266 ∨ i = 267 ∨ i = 268 ∨ i = 269 by omega) with rfl | rfl | rfl | rfl | rfl | rfl | rfl | rfl | rfl | rfl | rfl | rfl | rfl | rfl | rfl
  · exact eok_255 k
  · exact eok_256 k
  · exact eok_257 k
  · exact eok_258 k
  · exact eok_259 k
  · exact eok_260 k
  · exact eok_261 k
  · exact eok_262 k
  · exact eok_263 k
  · exact eok_264 k
  · exact eok_265 k
  · exact eok_266 k
  · exact eok_267 k
  · exact eok_268 k
  · exact eok_269 k
theorem eokb_270 (i : Nat) (h1 : 270 ≤ i) (h2 : i < 285) (k : Nat) : EOK i k := by
  rcases (show i = 270 ∨ i = 271 ∨ i = 272 ∨ i = 273 ∨ i = 274 ∨ i = 275 ∨ i = 276 ∨ i = 277 ∨ i = 278 ∨ i = 279 ∨ i = 280 ∨ i = 281 ∨ i = 282 ∨ i = 283 ∨ i = 284 by omega) with rfl | rfl | rfl | rfl | rfl | rfl | rfl | rfl | rfl | rfl | rfl | rfl | rfl | rfl | rfl
  · exact eok_270 k
  · exact eok_271 k
  · exact eok_272 k
  · exact eok_273 k
  · exact eok_274 k
  · exact eok_275 k
  · exact eok_276 k
  · exact eok_277 k
  · exact eok_278 k
  · exact eok_279 k
  · exact eok_280 k
  · exact eok_281 k
  · exact eok_282 k
  · exact eok_283 k
  · exact eok_284 k
theorem eokb_285 (i : Nat) (h1 : 285 ≤ i) (h2 : i < 300) (k : Nat) : EOK i k := by
  rcases (show i = 285 ∨ i = 286 ∨ i = 287 ∨ i = 288 ∨ i = 289 ∨ i = 290 ∨ i = 291 ∨ i = 292 ∨ i = 293 ∨ i = 294 ∨ i = 295 ∨ i = 296 ∨ i = 297 ∨ i = 298 ∨ i = 299 by omega) with rfl | rfl | rfl | rfl | rfl | rfl | rfl | rfl | rfl | rfl | rfl | rfl | rfl | rfl | rfl
  · exact eok_285 k
  · exact eok_286 k
  · exact eok_287 k
  · exact eok_288 k
  · exact eok_289 k
  · exact eok_290 k
  · exact eok_291 k
  · exact eok_292 k
  · exact eok_293 k
  · exact eok_294 k
  · exact eok_295 k
  · exact eok_296 k
  · exact eok_297 k
  · exact eok_298 k
  · exact eok_299 k
theorem eok_all (i k : Nat) (h : i < 300) : EOK i k := by
  by_cases h0 : i < 15
  · exact eokb_0 i (by omega) h0 k
  by_cases h15 : i < 30
  · exact eokb_15 i (by omega) h15 k
  by_cases h30 : i < 45
  · exact eokb_30 i (by omega) h30 k
  by_cases h45 : i < 60
  · exact eokb_45 i (by omega) h45 k
  by_cases h60 : i < 75
  · exact eokb_60 i (by omega) h60 k
  by_cases h75 : i < 90
  · exact eokb_75 i (by omega) h75 k
  by_cases h90 : i < 105
  · exact eokb_90 i (by omega) h90 k
  by_cases h105 : i < 120
  · exact eokb_105 i (by omega) h105 k
  by_cases h120 : i < 135
  · exact eokb_120 i (by omega) h120 k
  by_cases h135 : i < 150
  · exact eokb_135 i (by omega) h135 k
  by_cases h150 : i < 165
  · exact eokb_150 i (by omega) h150 k
  by_cases h165 : i < 180
  · exact eokb_165 i (by omega) h165 k
  by_cases h180 : i < 195
  · exact eokb_180 i (by omega) h180 k
  by_cases h195 : i < 210
  · exact eokb_195 i (by omega) h195 k
  by_cases h210 : i < 225
  · exact eokb_210 i (by omega) h210 k
  by_cases h225 : i < 240
  · exact eokb_225 i (by omega) h225 k
  by_cases h240 : i < 255
  · exact eokb_240 i (by omega) h240 k
  by_cases h255 : i < 270
  · exact eokb_255 i (by omega) h255 k
  by_cases h270 : i < 285
  · exact eokb_270 i (by omega) h270 k
  exact eokb_285 i (by omega) h k
