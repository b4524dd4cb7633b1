/-! decode rows -/
theorem dd_M_init_0 : decode prog_9_method_1_code 0 = .ok (.aload_n 0, 1) := by decide +kernel
theorem dd_M_init_1 : decode prog_9_method_1_code 1 = .ok (.invokespecial 1, 3) := by decide +kernel
theorem dd_M_init_4 : decode prog_9_method_1_code 4 = .ok (.aload_n 0, 1) := by decide +kernel
theorem dd_M_init_5 : decode prog_9_method_1_code 5 = .ok (.sipush 264, 3) := by decide +kernel
theorem dd_M_init_8 : decode prog_9_method_1_code 8 = .ok (.newarray .int, 2) := by decide +kernel
theorem dd_M_init_10 : decode prog_9_method_1_code 10 = .ok (.putfield 7, 3) := by decide +kernel
theorem dd_M_init_13 : decode prog_9_method_1_code 13 = .ok (.aload_n 0, 1) := by decide +kernel
theorem dd_M_init_14 : decode prog_9_method_1_code 14 = .ok (.bipush 44, 2) := by decide +kernel
theorem dd_M_init_16 : decode prog_9_method_1_code 16 = .ok (.newarray .int, 2) := by decide +kernel
theorem dd_M_init_18 : decode prog_9_method_1_code 18 = .ok (.putfield 13, 3) := by decide +kernel
theorem dd_M_init_21 : decode prog_9_method_1_code 21 = .ok (.aload_n 0, 1) := by decide +kernel
theorem dd_M_init_22 : decode prog_9_method_1_code 22 = .ok (.sipush 160, 3) := by decide +kernel
theorem dd_M_init_25 : decode prog_9_method_1_code 25 = .ok (.newarray .int, 2) := by decide +kernel
theorem dd_M_init_27 : decode prog_9_method_1_code 27 = .ok (.putfield 16, 3) := by decide +kernel
theorem dd_M_init_30 : decode prog_9_method_1_code 30 = .ok (.aload_n 0, 1) := by decide +kernel
theorem dd_M_init_31 : decode prog_9_method_1_code 31 = .ok (.bipush 8, 2) := by decide +kernel
theorem dd_M_init_33 : decode prog_9_method_1_code 33 = .ok (.newarray .int, 2) := by decide +kernel
theorem dd_M_init_35 : decode prog_9_method_1_code 35 = .ok (.dup, 1) := by decide +kernel
theorem dd_M_init_36 : decode prog_9_method_1_code 36 = .ok (.iconst 0, 1) := by decide +kernel
theorem dd_M_init_37 : decode prog_9_method_1_code 37 = .ok (.iconst 0, 1) := by decide +kernel
theorem dd_M_init_38 : decode prog_9_method_1_code 38 = .ok (.iastore, 1) := by decide +kernel
theorem dd_M_init_39 : decode prog_9_method_1_code 39 = .ok (.dup, 1) := by decide +kernel
theorem dd_M_init_40 : decode prog_9_method_1_code 40 = .ok (.iconst 1, 1) := by decide +kernel
theorem dd_M_init_41 : decode prog_9_method_1_code 41 = .ok (.iconst 5, 1) := by decide +kernel
theorem dd_M_init_42 : decode prog_9_method_1_code 42 = .ok (.iastore, 1) := by decide +kernel
theorem dd_M_init_43 : decode prog_9_method_1_code 43 = .ok (.dup, 1) := by decide +kernel
theorem dd_M_init_44 : decode prog_9_method_1_code 44 = .ok (.iconst 2, 1) := by decide +kernel
theorem dd_M_init_45 : decode prog_9_method_1_code 45 = .ok (.bipush 12, 2) := by decide +kernel
theorem dd_M_init_47 : decode prog_9_method_1_code 47 = .ok (.iastore, 1) := by decide +kernel
theorem dd_M_init_48 : decode prog_9_method_1_code 48 = .ok (.dup, 1) := by decide +kernel
theorem dd_M_init_49 : decode prog_9_method_1_code 49 = .ok (.iconst 3, 1) := by decide +kernel
theorem dd_M_init_50 : decode prog_9_method_1_code 50 = .ok (.bipush 19, 2) := by decide +kernel
theorem dd_M_init_52 : decode prog_9_method_1_code 52 = .ok (.iastore, 1) := by decide +kernel
theorem dd_M_init_53 : decode prog_9_method_1_code 53 = .ok (.dup, 1) := by decide +kernel
theorem dd_M_init_54 : decode prog_9_method_1_code 54 = .ok (.iconst 4, 1) := by decide +kernel
theorem dd_M_init_55 : decode prog_9_method_1_code 55 = .ok (.bipush 24, 2) := by decide +kernel
theorem dd_M_init_57 : decode prog_9_method_1_code 57 = .ok (.iastore, 1) := by decide +kernel
theorem dd_M_init_58 : decode prog_9_method_1_code 58 = .ok (.dup, 1) := by decide +kernel
theorem dd_M_init_59 : decode prog_9_method_1_code 59 = .ok (.iconst 5, 1) := by decide +kernel
theorem dd_M_init_60 : decode prog_9_method_1_code 60 = .ok (.bipush 27, 2) := by decide +kernel
theorem dd_M_init_62 : decode prog_9_method_1_code 62 = .ok (.iastore, 1) := by decide +kernel
theorem dd_M_init_63 : decode prog_9_method_1_code 63 = .ok (.dup, 1) := by decide +kernel
theorem dd_M_init_64 : decode prog_9_method_1_code 64 = .ok (.bipush 6, 2) := by decide +kernel
theorem dd_M_init_66 : decode prog_9_method_1_code 66 = .ok (.bipush 33, 2) := by decide +kernel
theorem dd_M_init_68 : decode prog_9_method_1_code 68 = .ok (.iastore, 1) := by decide +kernel
theorem dd_M_init_69 : decode prog_9_method_1_code 69 = .ok (.dup, 1) := by decide +kernel
theorem dd_M_init_70 : decode prog_9_method_1_code 70 = .ok (.bipush 7, 2) := by decide +kernel
theorem dd_M_init_72 : decode prog_9_method_1_code 72 = .ok (.bipush 39, 2) := by decide +kernel
theorem dd_M_init_74 : decode prog_9_method_1_code 74 = .ok (.iastore, 1) := by decide +kernel
theorem dd_M_init_75 : decode prog_9_method_1_code 75 = .ok (.putfield 19, 3) := by decide +kernel
theorem dd_M_init_78 : decode prog_9_method_1_code 78 = .ok (.aload_n 0, 1) := by decide +kernel
theorem dd_M_init_79 : decode prog_9_method_1_code 79 = .ok (.bipush 39, 2) := by decide +kernel
theorem dd_M_init_81 : decode prog_9_method_1_code 81 = .ok (.newarray .int, 2) := by decide +kernel
theorem dd_M_init_83 : decode prog_9_method_1_code 83 = .ok (.dup, 1) := by decide +kernel
theorem dd_M_init_84 : decode prog_9_method_1_code 84 = .ok (.iconst 0, 1) := by decide +kernel
theorem dd_M_init_85 : decode prog_9_method_1_code 85 = .ok (.bipush 112, 2) := by decide +kernel
theorem dd_M_init_87 : decode prog_9_method_1_code 87 = .ok (.iastore, 1) := by decide +kernel
theorem dd_M_init_88 : decode prog_9_method_1_code 88 = .ok (.dup, 1) := by decide +kernel
theorem dd_M_init_89 : decode prog_9_method_1_code 89 = .ok (.iconst 1, 1) := by decide +kernel
theorem dd_M_init_90 : decode prog_9_method_1_code 90 = .ok (.bipush 108, 2) := by decide +kernel
theorem dd_M_init_92 : decode prog_9_method_1_code 92 = .ok (.iastore, 1) := by decide +kernel
theorem dd_M_init_93 : decode prog_9_method_1_code 93 = .ok (.dup, 1) := by decide +kernel
theorem dd_M_init_94 : decode prog_9_method_1_code 94 = .ok (.iconst 2, 1) := by decide +kernel
theorem dd_M_init_95 : decode prog_9_method_1_code 95 = .ok (.bipush 97, 2) := by decide +kernel
theorem dd_M_init_97 : decode prog_9_method_1_code 97 = .ok (.iastore, 1) := by decide +kernel
theorem dd_M_init_98 : decode prog_9_method_1_code 98 = .ok (.dup, 1) := by decide +kernel
theorem dd_M_init_99 : decode prog_9_method_1_code 99 = .ok (.iconst 3, 1) := by decide +kernel
theorem dd_M_init_100 : decode prog_9_method_1_code 100 = .ok (.bipush 105, 2) := by decide +kernel
theorem dd_M_init_102 : decode prog_9_method_1_code 102 = .ok (.iastore, 1) := by decide +kernel
theorem dd_M_init_103 : decode prog_9_method_1_code 103 = .ok (.dup, 1) := by decide +kernel
theorem dd_M_init_104 : decode prog_9_method_1_code 104 = .ok (.iconst 4, 1) := by decide +kernel
theorem dd_M_init_105 : decode prog_9_method_1_code 105 = .ok (.bipush 110, 2) := by decide +kernel
theorem dd_M_init_107 : decode prog_9_method_1_code 107 = .ok (.iastore, 1) := by decide +kernel
theorem dd_M_init_108 : decode prog_9_method_1_code 108 = .ok (.dup, 1) := by decide +kernel
theorem dd_M_init_109 : decode prog_9_method_1_code 109 = .ok (.iconst 5, 1) := by decide +kernel
theorem dd_M_init_110 : decode prog_9_method_1_code 110 = .ok (.bipush 97, 2) := by decide +kernel
theorem dd_M_init_112 : decode prog_9_method_1_code 112 = .ok (.iastore, 1) := by decide +kernel
theorem dd_M_init_113 : decode prog_9_method_1_code 113 = .ok (.dup, 1) := by decide +kernel
theorem dd_M_init_114 : decode prog_9_method_1_code 114 = .ok (.bipush 6, 2) := by decide +kernel
theorem dd_M_init_116 : decode prog_9_method_1_code 116 = .ok (.bipush 119, 2) := by decide +kernel
theorem dd_M_init_118 : decode prog_9_method_1_code 118 = .ok (.iastore, 1) := by decide +kernel
theorem dd_M_init_119 : decode prog_9_method_1_code 119 = .ok (.dup, 1) := by decide +kernel
theorem dd_M_init_120 : decode prog_9_method_1_code 120 = .ok (.bipush 7, 2) := by decide +kernel
theorem dd_M_init_122 : decode prog_9_method_1_code 122 = .ok (.bipush 107, 2) := by decide +kernel
theorem dd_M_init_124 : decode prog_9_method_1_code 124 = .ok (.iastore, 1) := by decide +kernel
theorem dd_M_init_125 : decode prog_9_method_1_code 125 = .ok (.dup, 1) := by decide +kernel
theorem dd_M_init_126 : decode prog_9_method_1_code 126 = .ok (.bipush 8, 2) := by decide +kernel
theorem dd_M_init_128 : decode prog_9_method_1_code 128 = .ok (.bipush 119, 2) := by decide +kernel
theorem dd_M_init_130 : decode prog_9_method_1_code 130 = .ok (.iastore, 1) := by decide +kernel
theorem dd_M_init_131 : decode prog_9_method_1_code 131 = .ok (.dup, 1) := by decide +kernel
theorem dd_M_init_132 : decode prog_9_method_1_code 132 = .ok (.bipush 9, 2) := by decide +kernel
theorem dd_M_init_134 : decode prog_9_method_1_code 134 = .ok (.bipush 97, 2) := by decide +kernel
theorem dd_M_init_136 : decode prog_9_method_1_code 136 = .ok (.iastore, 1) := by decide +kernel
theorem dd_M_init_137 : decode prog_9_method_1_code 137 = .ok (.dup, 1) := by decide +kernel
theorem dd_M_init_138 : decode prog_9_method_1_code 138 = .ok (.bipush 10, 2) := by decide +kernel
theorem dd_M_init_140 : decode prog_9_method_1_code 140 = .ok (.bipush 114, 2) := by decide +kernel
theorem dd_M_init_142 : decode prog_9_method_1_code 142 = .ok (.iastore, 1) := by decide +kernel
theorem dd_M_init_143 : decode prog_9_method_1_code 143 = .ok (.dup, 1) := by decide +kernel
theorem dd_M_init_144 : decode prog_9_method_1_code 144 = .ok (.bipush 11, 2) := by decide +kernel
theorem dd_M_init_146 : decode prog_9_method_1_code 146 = .ok (.bipush 100, 2) := by decide +kernel
theorem dd_M_init_148 : decode prog_9_method_1_code 148 = .ok (.iastore, 1) := by decide +kernel
theorem dd_M_init_149 : decode prog_9_method_1_code 149 = .ok (.dup, 1) := by decide +kernel
theorem dd_M_init_150 : decode prog_9_method_1_code 150 = .ok (.bipush 12, 2) := by decide +kernel
theorem dd_M_init_152 : decode prog_9_method_1_code 152 = .ok (.bipush 102, 2) := by decide +kernel
theorem dd_M_init_154 : decode prog_9_method_1_code 154 = .ok (.iastore, 1) := by decide +kernel
theorem dd_M_init_155 : decode prog_9_method_1_code 155 = .ok (.dup, 1) := by decide +kernel
theorem dd_M_init_156 : decode prog_9_method_1_code 156 = .ok (.bipush 13, 2) := by decide +kernel
theorem dd_M_init_158 : decode prog_9_method_1_code 158 = .ok (.bipush 101, 2) := by decide +kernel
theorem dd_M_init_160 : decode prog_9_method_1_code 160 = .ok (.iastore, 1) := by decide +kernel
theorem dd_M_init_161 : decode prog_9_method_1_code 161 = .ok (.dup, 1) := by decide +kernel
theorem dd_M_init_162 : decode prog_9_method_1_code 162 = .ok (.bipush 14, 2) := by decide +kernel
theorem dd_M_init_164 : decode prog_9_method_1_code 164 = .ok (.bipush 97, 2) := by decide +kernel
theorem dd_M_init_166 : decode prog_9_method_1_code 166 = .ok (.iastore, 1) := by decide +kernel
theorem dd_M_init_167 : decode prog_9_method_1_code 167 = .ok (.dup, 1) := by decide +kernel
theorem dd_M_init_168 : decode prog_9_method_1_code 168 = .ok (.bipush 15, 2) := by decide +kernel
theorem dd_M_init_170 : decode prog_9_method_1_code 170 = .ok (.bipush 116, 2) := by decide +kernel
theorem dd_M_init_172 : decode prog_9_method_1_code 172 = .ok (.iastore, 1) := by decide +kernel
theorem dd_M_init_173 : decode prog_9_method_1_code 173 = .ok (.dup, 1) := by decide +kernel
theorem dd_M_init_174 : decode prog_9_method_1_code 174 = .ok (.bipush 16, 2) := by decide +kernel
theorem dd_M_init_176 : decode prog_9_method_1_code 176 = .ok (.bipush 104, 2) := by decide +kernel
theorem dd_M_init_178 : decode prog_9_method_1_code 178 = .ok (.iastore, 1) := by decide +kernel
theorem dd_M_init_179 : decode prog_9_method_1_code 179 = .ok (.dup, 1) := by decide +kernel
theorem dd_M_init_180 : decode prog_9_method_1_code 180 = .ok (.bipush 17, 2) := by decide +kernel
theorem dd_M_init_182 : decode prog_9_method_1_code 182 = .ok (.bipush 101, 2) := by decide +kernel
theorem dd_M_init_184 : decode prog_9_method_1_code 184 = .ok (.iastore, 1) := by decide +kernel
theorem dd_M_init_185 : decode prog_9_method_1_code 185 = .ok (.dup, 1) := by decide +kernel
theorem dd_M_init_186 : decode prog_9_method_1_code 186 = .ok (.bipush 18, 2) := by decide +kernel
theorem dd_M_init_188 : decode prog_9_method_1_code 188 = .ok (.bipush 114, 2) := by decide +kernel
theorem dd_M_init_190 : decode prog_9_method_1_code 190 = .ok (.iastore, 1) := by decide +kernel
theorem dd_M_init_191 : decode prog_9_method_1_code 191 = .ok (.dup, 1) := by decide +kernel
theorem dd_M_init_192 : decode prog_9_method_1_code 192 = .ok (.bipush 19, 2) := by decide +kernel
theorem dd_M_init_194 : decode prog_9_method_1_code 194 = .ok (.bipush 99, 2) := by decide +kernel
theorem dd_M_init_196 : decode prog_9_method_1_code 196 = .ok (.iastore, 1) := by decide +kernel
theorem dd_M_init_197 : decode prog_9_method_1_code 197 = .ok (.dup, 1) := by decide +kernel
theorem dd_M_init_198 : decode prog_9_method_1_code 198 = .ok (.bipush 20, 2) := by decide +kernel
theorem dd_M_init_200 : decode prog_9_method_1_code 200 = .ok (.bipush 114, 2) := by decide +kernel
theorem dd_M_init_202 : decode prog_9_method_1_code 202 = .ok (.iastore, 1) := by decide +kernel
theorem dd_M_init_203 : decode prog_9_method_1_code 203 = .ok (.dup, 1) := by decide +kernel
theorem dd_M_init_204 : decode prog_9_method_1_code 204 = .ok (.bipush 21, 2) := by decide +kernel
theorem dd_M_init_206 : decode prog_9_method_1_code 206 = .ok (.bipush 97, 2) := by decide +kernel
theorem dd_M_init_208 : decode prog_9_method_1_code 208 = .ok (.iastore, 1) := by decide +kernel
theorem dd_M_init_209 : decode prog_9_method_1_code 209 = .ok (.dup, 1) := by decide +kernel
theorem dd_M_init_210 : decode prog_9_method_1_code 210 = .ok (.bipush 22, 2) := by decide +kernel
theorem dd_M_init_212 : decode prog_9_method_1_code 212 = .ok (.bipush 116, 2) := by decide +kernel
theorem dd_M_init_214 : decode prog_9_method_1_code 214 = .ok (.iastore, 1) := by decide +kernel
theorem dd_M_init_215 : decode prog_9_method_1_code 215 = .ok (.dup, 1) := by decide +kernel
theorem dd_M_init_216 : decode prog_9_method_1_code 216 = .ok (.bipush 23, 2) := by decide +kernel
theorem dd_M_init_218 : decode prog_9_method_1_code 218 = .ok (.bipush 101, 2) := by decide +kernel
theorem dd_M_init_220 : decode prog_9_method_1_code 220 = .ok (.iastore, 1) := by decide +kernel
theorem dd_M_init_221 : decode prog_9_method_1_code 221 = .ok (.dup, 1) := by decide +kernel
theorem dd_M_init_222 : decode prog_9_method_1_code 222 = .ok (.bipush 24, 2) := by decide +kernel
theorem dd_M_init_224 : decode prog_9_method_1_code 224 = .ok (.bipush 111, 2) := by decide +kernel
theorem dd_M_init_226 : decode prog_9_method_1_code 226 = .ok (.iastore, 1) := by decide +kernel
theorem dd_M_init_227 : decode prog_9_method_1_code 227 = .ok (.dup, 1) := by decide +kernel
theorem dd_M_init_228 : decode prog_9_method_1_code 228 = .ok (.bipush 25, 2) := by decide +kernel
theorem dd_M_init_230 : decode prog_9_method_1_code 230 = .ok (.bipush 110, 2) := by decide +kernel
theorem dd_M_init_232 : decode prog_9_method_1_code 232 = .ok (.iastore, 1) := by decide +kernel
theorem dd_M_init_233 : decode prog_9_method_1_code 233 = .ok (.dup, 1) := by decide +kernel
theorem dd_M_init_234 : decode prog_9_method_1_code 234 = .ok (.bipush 26, 2) := by decide +kernel
theorem dd_M_init_236 : decode prog_9_method_1_code 236 = .ok (.bipush 101, 2) := by decide +kernel
theorem dd_M_init_238 : decode prog_9_method_1_code 238 = .ok (.iastore, 1) := by decide +kernel
theorem dd_M_init_239 : decode prog_9_method_1_code 239 = .ok (.dup, 1) := by decide +kernel
theorem dd_M_init_240 : decode prog_9_method_1_code 240 = .ok (.bipush 27, 2) := by decide +kernel
theorem dd_M_init_242 : decode prog_9_method_1_code 242 = .ok (.bipush 104, 2) := by decide +kernel
theorem dd_M_init_244 : decode prog_9_method_1_code 244 = .ok (.iastore, 1) := by decide +kernel
theorem dd_M_init_245 : decode prog_9_method_1_code 245 = .ok (.dup, 1) := by decide +kernel
theorem dd_M_init_246 : decode prog_9_method_1_code 246 = .ok (.bipush 28, 2) := by decide +kernel
theorem dd_M_init_248 : decode prog_9_method_1_code 248 = .ok (.bipush 111, 2) := by decide +kernel
theorem dd_M_init_250 : decode prog_9_method_1_code 250 = .ok (.iastore, 1) := by decide +kernel
theorem dd_M_init_251 : decode prog_9_method_1_code 251 = .ok (.dup, 1) := by decide +kernel
theorem dd_M_init_252 : decode prog_9_method_1_code 252 = .ok (.bipush 29, 2) := by decide +kernel
theorem dd_M_init_254 : decode prog_9_method_1_code 254 = .ok (.bipush 111, 2) := by decide +kernel
theorem dd_M_init_256 : decode prog_9_method_1_code 256 = .ok (.iastore, 1) := by decide +kernel
theorem dd_M_init_257 : decode prog_9_method_1_code 257 = .ok (.dup, 1) := by decide +kernel
theorem dd_M_init_258 : decode prog_9_method_1_code 258 = .ok (.bipush 30, 2) := by decide +kernel
theorem dd_M_init_260 : decode prog_9_method_1_code 260 = .ok (.bipush 116, 2) := by decide +kernel
theorem dd_M_init_262 : decode prog_9_method_1_code 262 = .ok (.iastore, 1) := by decide +kernel
theorem dd_M_init_263 : decode prog_9_method_1_code 263 = .ok (.dup, 1) := by decide +kernel
theorem dd_M_init_264 : decode prog_9_method_1_code 264 = .ok (.bipush 31, 2) := by decide +kernel
theorem dd_M_init_266 : decode prog_9_method_1_code 266 = .ok (.bipush 101, 2) := by decide +kernel
theorem dd_M_init_268 : decode prog_9_method_1_code 268 = .ok (.iastore, 1) := by decide +kernel
theorem dd_M_init_269 : decode prog_9_method_1_code 269 = .ok (.dup, 1) := by decide +kernel
theorem dd_M_init_270 : decode prog_9_method_1_code 270 = .ok (.bipush 32, 2) := by decide +kernel
theorem dd_M_init_272 : decode prog_9_method_1_code 272 = .ok (.bipush 114, 2) := by decide +kernel
theorem dd_M_init_274 : decode prog_9_method_1_code 274 = .ok (.iastore, 1) := by decide +kernel
theorem dd_M_init_275 : decode prog_9_method_1_code 275 = .ok (.dup, 1) := by decide +kernel
theorem dd_M_init_276 : decode prog_9_method_1_code 276 = .ok (.bipush 33, 2) := by decide +kernel
theorem dd_M_init_278 : decode prog_9_method_1_code 278 = .ok (.bipush 98, 2) := by decide +kernel
theorem dd_M_init_280 : decode prog_9_method_1_code 280 = .ok (.iastore, 1) := by decide +kernel
theorem dd_M_init_281 : decode prog_9_method_1_code 281 = .ok (.dup, 1) := by decide +kernel
theorem dd_M_init_282 : decode prog_9_method_1_code 282 = .ok (.bipush 34, 2) := by decide +kernel
theorem dd_M_init_284 : decode prog_9_method_1_code 284 = .ok (.bipush 114, 2) := by decide +kernel
theorem dd_M_init_286 : decode prog_9_method_1_code 286 = .ok (.iastore, 1) := by decide +kernel
theorem dd_M_init_287 : decode prog_9_method_1_code 287 = .ok (.dup, 1) := by decide +kernel
theorem dd_M_init_288 : decode prog_9_method_1_code 288 = .ok (.bipush 35, 2) := by decide +kernel
theorem dd_M_init_290 : decode prog_9_method_1_code 290 = .ok (.bipush 105, 2) := by decide +kernel
theorem dd_M_init_292 : decode prog_9_method_1_code 292 = .ok (.iastore, 1) := by decide +kernel
theorem dd_M_init_293 : decode prog_9_method_1_code 293 = .ok (.dup, 1) := by decide +kernel
theorem dd_M_init_294 : decode prog_9_method_1_code 294 = .ok (.bipush 36, 2) := by decide +kernel
theorem dd_M_init_296 : decode prog_9_method_1_code 296 = .ok (.bipush 110, 2) := by decide +kernel
theorem dd_M_init_298 : decode prog_9_method_1_code 298 = .ok (.iastore, 1) := by decide +kernel
theorem dd_M_init_299 : decode prog_9_method_1_code 299 = .ok (.dup, 1) := by decide +kernel
theorem dd_M_init_300 : decode prog_9_method_1_code 300 = .ok (.bipush 37, 2) := by decide +kernel
theorem dd_M_init_302 : decode prog_9_method_1_code 302 = .ok (.bipush 103, 2) := by decide +kernel
theorem dd_M_init_304 : decode prog_9_method_1_code 304 = .ok (.iastore, 1) := by decide +kernel
theorem dd_M_init_305 : decode prog_9_method_1_code 305 = .ok (.dup, 1) := by decide +kernel
theorem dd_M_init_306 : decode prog_9_method_1_code 306 = .ok (.bipush 38, 2) := by decide +kernel
theorem dd_M_init_308 : decode prog_9_method_1_code 308 = .ok (.bipush 115, 2) := by decide +kernel
theorem dd_M_init_310 : decode prog_9_method_1_code 310 = .ok (.iastore, 1) := by decide +kernel
theorem dd_M_init_311 : decode prog_9_method_1_code 311 = .ok (.putfield 22, 3) := by decide +kernel
theorem dd_M_init_314 : decode prog_9_method_1_code 314 = .ok (.aload_n 0, 1) := by decide +kernel
theorem dd_M_init_315 : decode prog_9_method_1_code 315 = .ok (.iconst 4, 1) := by decide +kernel
theorem dd_M_init_316 : decode prog_9_method_1_code 316 = .ok (.newarray .int, 2) := by decide +kernel
theorem dd_M_init_318 : decode prog_9_method_1_code 318 = .ok (.putfield 25, 3) := by decide +kernel
theorem dd_M_init_321 : decode prog_9_method_1_code 321 = .ok (.aload_n 0, 1) := by decide +kernel
theorem dd_M_init_322 : decode prog_9_method_1_code 322 = .ok (.iconst 4, 1) := by decide +kernel
theorem dd_M_init_323 : decode prog_9_method_1_code 323 = .ok (.newarray .int, 2) := by decide +kernel
theorem dd_M_init_325 : decode prog_9_method_1_code 325 = .ok (.putfield 28, 3) := by decide +kernel
theorem dd_M_init_328 : decode prog_9_method_1_code 328 = .ok (.aload_n 0, 1) := by decide +kernel
theorem dd_M_init_329 : decode prog_9_method_1_code 329 = .ok (.bipush 18, 2) := by decide +kernel
theorem dd_M_init_331 : decode prog_9_method_1_code 331 = .ok (.newarray .int, 2) := by decide +kernel
theorem dd_M_init_333 : decode prog_9_method_1_code 333 = .ok (.putfield 31, 3) := by decide +kernel
theorem dd_M_init_336 : decode prog_9_method_1_code 336 = .ok (.aload_n 0, 1) := by decide +kernel
theorem dd_M_init_337 : decode prog_9_method_1_code 337 = .ok (.sipush 1764, 3) := by decide +kernel
theorem dd_M_init_340 : decode prog_9_method_1_code 340 = .ok (.newarray .int, 2) := by decide +kernel
theorem dd_M_init_342 : decode prog_9_method_1_code 342 = .ok (.putfield 34, 3) := by decide +kernel
theorem dd_M_init_345 : decode prog_9_method_1_code 345 = .ok (.aload_n 0, 1) := by decide +kernel
theorem dd_M_init_346 : decode prog_9_method_1_code 346 = .ok (.iconst 2, 1) := by decide +kernel
theorem dd_M_init_347 : decode prog_9_method_1_code 347 = .ok (.newarray .boolean, 2) := by decide +kernel
theorem dd_M_init_349 : decode prog_9_method_1_code 349 = .ok (.putfield 37, 3) := by decide +kernel
theorem dd_M_init_352 : decode prog_9_method_1_code 352 = .ok (.aload_n 0, 1) := by decide +kernel
theorem dd_M_init_353 : decode prog_9_method_1_code 353 = .ok (.iconst 4, 1) := by decide +kernel
theorem dd_M_init_354 : decode prog_9_method_1_code 354 = .ok (.newarray .int, 2) := by decide +kernel
theorem dd_M_init_356 : decode prog_9_method_1_code 356 = .ok (.dup, 1) := by decide +kernel
theorem dd_M_init_357 : decode prog_9_method_1_code 357 = .ok (.iconst 0, 1) := by decide +kernel
theorem dd_M_init_358 : decode prog_9_method_1_code 358 = .ok (.bipush (-4), 2) := by decide +kernel
theorem dd_M_init_360 : decode prog_9_method_1_code 360 = .ok (.iastore, 1) := by decide +kernel
theorem dd_M_init_361 : decode prog_9_method_1_code 361 = .ok (.dup, 1) := by decide +kernel
theorem dd_M_init_362 : decode prog_9_method_1_code 362 = .ok (.iconst 1, 1) := by decide +kernel
theorem dd_M_init_363 : decode prog_9_method_1_code 363 = .ok (.bipush (-4), 2) := by decide +kernel
theorem dd_M_init_365 : decode prog_9_method_1_code 365 = .ok (.iastore, 1) := by decide +kernel
theorem dd_M_init_366 : decode prog_9_method_1_code 366 = .ok (.dup, 1) := by decide +kernel
theorem dd_M_init_367 : decode prog_9_method_1_code 367 = .ok (.iconst 2, 1) := by decide +kernel
theorem dd_M_init_368 : decode prog_9_method_1_code 368 = .ok (.bipush (-4), 2) := by decide +kernel
theorem dd_M_init_370 : decode prog_9_method_1_code 370 = .ok (.iastore, 1) := by decide +kernel
theorem dd_M_init_371 : decode prog_9_method_1_code 371 = .ok (.dup, 1) := by decide +kernel
theorem dd_M_init_372 : decode prog_9_method_1_code 372 = .ok (.iconst 3, 1) := by decide +kernel
theorem dd_M_init_373 : decode prog_9_method_1_code 373 = .ok (.bipush (-4), 2) := by decide +kernel
theorem dd_M_init_375 : decode prog_9_method_1_code 375 = .ok (.iastore, 1) := by decide +kernel
theorem dd_M_init_376 : decode prog_9_method_1_code 376 = .ok (.putfield 41, 3) := by decide +kernel
theorem dd_M_init_379 : decode prog_9_method_1_code 379 = .ok (.aload_n 0, 1) := by decide +kernel
theorem dd_M_init_380 : decode prog_9_method_1_code 380 = .ok (.iconst 4, 1) := by decide +kernel
theorem dd_M_init_381 : decode prog_9_method_1_code 381 = .ok (.newarray .int, 2) := by decide +kernel
theorem dd_M_init_383 : decode prog_9_method_1_code 383 = .ok (.putfield 44, 3) := by decide +kernel
theorem dd_M_init_386 : decode prog_9_method_1_code 386 = .ok (.aload_n 0, 1) := by decide +kernel
theorem dd_M_init_387 : decode prog_9_method_1_code 387 = .ok (.sipush 160, 3) := by decide +kernel
theorem dd_M_init_390 : decode prog_9_method_1_code 390 = .ok (.newarray .int, 2) := by decide +kernel
theorem dd_M_init_392 : decode prog_9_method_1_code 392 = .ok (.putfield 47, 3) := by decide +kernel
theorem dd_M_init_395 : decode prog_9_method_1_code 395 = .ok (.return_, 1) := by decide +kernel
theorem dd_M_in_0 : decode prog_9_method_3_code 0 = .ok (.lload_n 0, 1) := by decide +kernel
theorem dd_M_in_1 : decode prog_9_method_3_code 1 = .ok (.lload_n 2, 1) := by decide +kernel
theorem dd_M_in_2 : decode prog_9_method_3_code 2 = .ok (.lcmp, 1) := by decide +kernel
theorem dd_M_in_3 : decode prog_9_method_3_code 3 = .ok (.ifCond .lt 14, 3) := by decide +kernel
theorem dd_M_in_6 : decode prog_9_method_3_code 6 = .ok (.lload_n 0, 1) := by decide +kernel
theorem dd_M_in_7 : decode prog_9_method_3_code 7 = .ok (.lload 4, 2) := by decide +kernel
theorem dd_M_in_9 : decode prog_9_method_3_code 9 = .ok (.lcmp, 1) := by decide +kernel
theorem dd_M_in_10 : decode prog_9_method_3_code 10 = .ok (.ifCond .gt 7, 3) := by decide +kernel
theorem dd_M_in_13 : decode prog_9_method_3_code 13 = .ok (.iconst 1, 1) := by decide +kernel
theorem dd_M_in_14 : decode prog_9_method_3_code 14 = .ok (.goto 4, 3) := by decide +kernel
theorem dd_M_in_17 : decode prog_9_method_3_code 17 = .ok (.iconst 0, 1) := by decide +kernel
theorem dd_M_in_18 : decode prog_9_method_3_code 18 = .ok (.ireturn, 1) := by decide +kernel
theorem dd_M_feed_0 : decode prog_9_method_4_code 0 = .ok (.iload_n 1, 1) := by decide +kernel
theorem dd_M_feed_1 : decode prog_9_method_4_code 1 = .ok (.i2l, 1) := by decide +kernel
theorem dd_M_feed_2 : decode prog_9_method_4_code 2 = .ok (.lconst 0, 1) := by decide +kernel
theorem dd_M_feed_3 : decode prog_9_method_4_code 3 = .ok (.ldc2_w 50, 3) := by decide +kernel
theorem dd_M_feed_6 : decode prog_9_method_4_code 6 = .ok (.invokestatic 52, 3) := by decide +kernel
theorem dd_M_feed_9 : decode prog_9_method_4_code 9 = .ok (.ifCond .ne 5, 3) := by decide +kernel
theorem dd_M_feed_12 : decode prog_9_method_4_code 12 = .ok (.iconst (-1), 1) := by decide +kernel
theorem dd_M_feed_13 : decode prog_9_method_4_code 13 = .ok (.ireturn, 1) := by decide +kernel
theorem dd_M_feed_14 : decode prog_9_method_4_code 14 = .ok (.aload_n 0, 1) := by decide +kernel
theorem dd_M_feed_15 : decode prog_9_method_4_code 15 = .ok (.getfield 56, 3) := by decide +kernel
theorem dd_M_feed_18 : decode prog_9_method_4_code 18 = .ok (.sipush 160, 3) := by decide +kernel
theorem dd_M_feed_21 : decode prog_9_method_4_code 21 = .ok (.if_icmp .ne 6, 3) := by decide +kernel
theorem dd_M_feed_24 : decode prog_9_method_4_code 24 = .ok (.bipush (-3), 2) := by decide +kernel
theorem dd_M_feed_26 : decode prog_9_method_4_code 26 = .ok (.ireturn, 1) := by decide +kernel
theorem dd_M_feed_27 : decode prog_9_method_4_code 27 = .ok (.aload_n 0, 1) := by decide +kernel
theorem dd_M_feed_28 : decode prog_9_method_4_code 28 = .ok (.getfield 16, 3) := by decide +kernel
theorem dd_M_feed_31 : decode prog_9_method_4_code 31 = .ok (.aload_n 0, 1) := by decide +kernel
theorem dd_M_feed_32 : decode prog_9_method_4_code 32 = .ok (.getfield 56, 3) := by decide +kernel
theorem dd_M_feed_35 : decode prog_9_method_4_code 35 = .ok (.iload_n 1, 1) := by decide +kernel
theorem dd_M_feed_36 : decode prog_9_method_4_code 36 = .ok (.iastore, 1) := by decide +kernel
theorem dd_M_feed_37 : decode prog_9_method_4_code 37 = .ok (.aload_n 0, 1) := by decide +kernel
theorem dd_M_feed_38 : decode prog_9_method_4_code 38 = .ok (.dup, 1) := by decide +kernel
theorem dd_M_feed_39 : decode prog_9_method_4_code 39 = .ok (.getfield 56, 3) := by decide +kernel
theorem dd_M_feed_42 : decode prog_9_method_4_code 42 = .ok (.iconst 1, 1) := by decide +kernel
theorem dd_M_feed_43 : decode prog_9_method_4_code 43 = .ok (.iadd, 1) := by decide +kernel
theorem dd_M_feed_44 : decode prog_9_method_4_code 44 = .ok (.putfield 56, 3) := by decide +kernel
theorem dd_M_feed_47 : decode prog_9_method_4_code 47 = .ok (.aload_n 0, 1) := by decide +kernel
theorem dd_M_feed_48 : decode prog_9_method_4_code 48 = .ok (.getfield 56, 3) := by decide +kernel
theorem dd_M_feed_51 : decode prog_9_method_4_code 51 = .ok (.ireturn, 1) := by decide +kernel
theorem dd_M_end_0 : decode prog_9_method_5_code 0 = .ok (.iload_n 1, 1) := by decide +kernel
theorem dd_M_end_1 : decode prog_9_method_5_code 1 = .ok (.i2l, 1) := by decide +kernel
theorem dd_M_end_2 : decode prog_9_method_5_code 2 = .ok (.lconst 0, 1) := by decide +kernel
theorem dd_M_end_3 : decode prog_9_method_5_code 3 = .ok (.aload_n 0, 1) := by decide +kernel
theorem dd_M_end_4 : decode prog_9_method_5_code 4 = .ok (.getfield 56, 3) := by decide +kernel
theorem dd_M_end_7 : decode prog_9_method_5_code 7 = .ok (.i2l, 1) := by decide +kernel
theorem dd_M_end_8 : decode prog_9_method_5_code 8 = .ok (.invokestatic 52, 3) := by decide +kernel
theorem dd_M_end_11 : decode prog_9_method_5_code 11 = .ok (.ifCond .ne 5, 3) := by decide +kernel
theorem dd_M_end_14 : decode prog_9_method_5_code 14 = .ok (.iconst (-1), 1) := by decide +kernel
theorem dd_M_end_15 : decode prog_9_method_5_code 15 = .ok (.ireturn, 1) := by decide +kernel
theorem dd_M_end_16 : decode prog_9_method_5_code 16 = .ok (.aload_n 0, 1) := by decide +kernel
theorem dd_M_end_17 : decode prog_9_method_5_code 17 = .ok (.getfield 56, 3) := by decide +kernel
theorem dd_M_end_20 : decode prog_9_method_5_code 20 = .ok (.istore_n 2, 1) := by decide +kernel
theorem dd_M_end_21 : decode prog_9_method_5_code 21 = .ok (.aload_n 0, 1) := by decide +kernel
theorem dd_M_end_22 : decode prog_9_method_5_code 22 = .ok (.iload_n 1, 1) := by decide +kernel
theorem dd_M_end_23 : decode prog_9_method_5_code 23 = .ok (.putfield 56, 3) := by decide +kernel
theorem dd_M_end_26 : decode prog_9_method_5_code 26 = .ok (.iload_n 2, 1) := by decide +kernel
theorem dd_M_end_27 : decode prog_9_method_5_code 27 = .ok (.ireturn, 1) := by decide +kernel
theorem dd_M_byteAt_0 : decode prog_9_method_6_code 0 = .ok (.iload_n 1, 1) := by decide +kernel
theorem dd_M_byteAt_1 : decode prog_9_method_6_code 1 = .ok (.aload_n 0, 1) := by decide +kernel
theorem dd_M_byteAt_2 : decode prog_9_method_6_code 2 = .ok (.getfield 56, 3) := by decide +kernel
theorem dd_M_byteAt_5 : decode prog_9_method_6_code 5 = .ok (.if_icmp .ge 12, 3) := by decide +kernel
theorem dd_M_byteAt_8 : decode prog_9_method_6_code 8 = .ok (.aload_n 0, 1) := by decide +kernel
theorem dd_M_byteAt_9 : decode prog_9_method_6_code 9 = .ok (.getfield 16, 3) := by decide +kernel
theorem dd_M_byteAt_12 : decode prog_9_method_6_code 12 = .ok (.iload_n 1, 1) := by decide +kernel
theorem dd_M_byteAt_13 : decode prog_9_method_6_code 13 = .ok (.iaload, 1) := by decide +kernel
theorem dd_M_byteAt_14 : decode prog_9_method_6_code 14 = .ok (.goto 5, 3) := by decide +kernel
theorem dd_M_byteAt_17 : decode prog_9_method_6_code 17 = .ok (.bipush (-4), 2) := by decide +kernel
theorem dd_M_byteAt_19 : decode prog_9_method_6_code 19 = .ok (.ireturn, 1) := by decide +kernel
theorem dd_M_fails_0 : decode prog_9_method_7_code 0 = .ok (.aload_n 0, 1) := by decide +kernel
theorem dd_M_fails_1 : decode prog_9_method_7_code 1 = .ok (.getfield 60, 3) := by decide +kernel
theorem dd_M_fails_4 : decode prog_9_method_7_code 4 = .ok (.ifCond .ne 16, 3) := by decide +kernel
theorem dd_M_fails_7 : decode prog_9_method_7_code 7 = .ok (.aload_n 0, 1) := by decide +kernel
theorem dd_M_fails_8 : decode prog_9_method_7_code 8 = .ok (.iload_n 1, 1) := by decide +kernel
theorem dd_M_fails_9 : decode prog_9_method_7_code 9 = .ok (.putfield 60, 3) := by decide +kernel
theorem dd_M_fails_12 : decode prog_9_method_7_code 12 = .ok (.aload_n 0, 1) := by decide +kernel
theorem dd_M_fails_13 : decode prog_9_method_7_code 13 = .ok (.aload_n 0, 1) := by decide +kernel
theorem dd_M_fails_14 : decode prog_9_method_7_code 14 = .ok (.getfield 63, 3) := by decide +kernel
theorem dd_M_fails_17 : decode prog_9_method_7_code 17 = .ok (.putfield 66, 3) := by decide +kernel
theorem dd_M_fails_20 : decode prog_9_method_7_code 20 = .ok (.return_, 1) := by decide +kernel
theorem dd_M_nameHere_0 : decode prog_9_method_8_code 0 = .ok (.iconst 0, 1) := by decide +kernel
theorem dd_M_nameHere_1 : decode prog_9_method_8_code 1 = .ok (.istore_n 1, 1) := by decide +kernel
theorem dd_M_nameHere_2 : decode prog_9_method_8_code 2 = .ok (.iload_n 1, 1) := by decide +kernel
theorem dd_M_nameHere_3 : decode prog_9_method_8_code 3 = .ok (.bipush 7, 2) := by decide +kernel
theorem dd_M_nameHere_5 : decode prog_9_method_8_code 5 = .ok (.if_icmp .ge 113, 3) := by decide +kernel
theorem dd_M_nameHere_8 : decode prog_9_method_8_code 8 = .ok (.aload_n 0, 1) := by decide +kernel
theorem dd_M_nameHere_9 : decode prog_9_method_8_code 9 = .ok (.getfield 69, 3) := by decide +kernel
theorem dd_M_nameHere_12 : decode prog_9_method_8_code 12 = .ok (.iconst 1, 1) := by decide +kernel
theorem dd_M_nameHere_13 : decode prog_9_method_8_code 13 = .ok (.if_icmp .ne 105, 3) := by decide +kernel
theorem dd_M_nameHere_16 : decode prog_9_method_8_code 16 = .ok (.aload_n 0, 1) := by decide +kernel
theorem dd_M_nameHere_17 : decode prog_9_method_8_code 17 = .ok (.getfield 72, 3) := by decide +kernel
theorem dd_M_nameHere_20 : decode prog_9_method_8_code 20 = .ok (.aload_n 0, 1) := by decide +kernel
theorem dd_M_nameHere_21 : decode prog_9_method_8_code 21 = .ok (.getfield 63, 3) := by decide +kernel
theorem dd_M_nameHere_24 : decode prog_9_method_8_code 24 = .ok (.isub, 1) := by decide +kernel
theorem dd_M_nameHere_25 : decode prog_9_method_8_code 25 = .ok (.aload_n 0, 1) := by decide +kernel
theorem dd_M_nameHere_26 : decode prog_9_method_8_code 26 = .ok (.getfield 19, 3) := by decide +kernel
theorem dd_M_nameHere_29 : decode prog_9_method_8_code 29 = .ok (.iload_n 1, 1) := by decide +kernel
theorem dd_M_nameHere_30 : decode prog_9_method_8_code 30 = .ok (.iconst 1, 1) := by decide +kernel
theorem dd_M_nameHere_31 : decode prog_9_method_8_code 31 = .ok (.iadd, 1) := by decide +kernel
theorem dd_M_nameHere_32 : decode prog_9_method_8_code 32 = .ok (.iaload, 1) := by decide +kernel
theorem dd_M_nameHere_33 : decode prog_9_method_8_code 33 = .ok (.aload_n 0, 1) := by decide +kernel
theorem dd_M_nameHere_34 : decode prog_9_method_8_code 34 = .ok (.getfield 19, 3) := by decide +kernel
theorem dd_M_nameHere_37 : decode prog_9_method_8_code 37 = .ok (.iload_n 1, 1) := by decide +kernel
theorem dd_M_nameHere_38 : decode prog_9_method_8_code 38 = .ok (.iaload, 1) := by decide +kernel
theorem dd_M_nameHere_39 : decode prog_9_method_8_code 39 = .ok (.isub, 1) := by decide +kernel
theorem dd_M_nameHere_40 : decode prog_9_method_8_code 40 = .ok (.if_icmp .ne 7, 3) := by decide +kernel
theorem dd_M_nameHere_43 : decode prog_9_method_8_code 43 = .ok (.iconst 1, 1) := by decide +kernel
theorem dd_M_nameHere_44 : decode prog_9_method_8_code 44 = .ok (.goto 4, 3) := by decide +kernel
theorem dd_M_nameHere_47 : decode prog_9_method_8_code 47 = .ok (.iconst 0, 1) := by decide +kernel
theorem dd_M_nameHere_48 : decode prog_9_method_8_code 48 = .ok (.istore_n 2, 1) := by decide +kernel
theorem dd_M_nameHere_49 : decode prog_9_method_8_code 49 = .ok (.iconst 0, 1) := by decide +kernel
theorem dd_M_nameHere_50 : decode prog_9_method_8_code 50 = .ok (.istore_n 3, 1) := by decide +kernel
theorem dd_M_nameHere_51 : decode prog_9_method_8_code 51 = .ok (.iload_n 2, 1) := by decide +kernel
theorem dd_M_nameHere_52 : decode prog_9_method_8_code 52 = .ok (.ifCond .eq 54, 3) := by decide +kernel
theorem dd_M_nameHere_55 : decode prog_9_method_8_code 55 = .ok (.iload_n 3, 1) := by decide +kernel
theorem dd_M_nameHere_56 : decode prog_9_method_8_code 56 = .ok (.aload_n 0, 1) := by decide +kernel
theorem dd_M_nameHere_57 : decode prog_9_method_8_code 57 = .ok (.getfield 72, 3) := by decide +kernel
theorem dd_M_nameHere_60 : decode prog_9_method_8_code 60 = .ok (.aload_n 0, 1) := by decide +kernel
theorem dd_M_nameHere_61 : decode prog_9_method_8_code 61 = .ok (.getfield 63, 3) := by decide +kernel
theorem dd_M_nameHere_64 : decode prog_9_method_8_code 64 = .ok (.isub, 1) := by decide +kernel
theorem dd_M_nameHere_65 : decode prog_9_method_8_code 65 = .ok (.if_icmp .ge 41, 3) := by decide +kernel
theorem dd_M_nameHere_68 : decode prog_9_method_8_code 68 = .ok (.aload_n 0, 1) := by decide +kernel
theorem dd_M_nameHere_69 : decode prog_9_method_8_code 69 = .ok (.aload_n 0, 1) := by decide +kernel
theorem dd_M_nameHere_70 : decode prog_9_method_8_code 70 = .ok (.getfield 63, 3) := by decide +kernel
theorem dd_M_nameHere_73 : decode prog_9_method_8_code 73 = .ok (.iload_n 3, 1) := by decide +kernel
theorem dd_M_nameHere_74 : decode prog_9_method_8_code 74 = .ok (.iadd, 1) := by decide +kernel
theorem dd_M_nameHere_75 : decode prog_9_method_8_code 75 = .ok (.invokevirtual 75, 3) := by decide +kernel
theorem dd_M_nameHere_78 : decode prog_9_method_8_code 78 = .ok (.aload_n 0, 1) := by decide +kernel
theorem dd_M_nameHere_79 : decode prog_9_method_8_code 79 = .ok (.getfield 22, 3) := by decide +kernel
theorem dd_M_nameHere_82 : decode prog_9_method_8_code 82 = .ok (.aload_n 0, 1) := by decide +kernel
theorem dd_M_nameHere_83 : decode prog_9_method_8_code 83 = .ok (.getfield 19, 3) := by decide +kernel
theorem dd_M_nameHere_86 : decode prog_9_method_8_code 86 = .ok (.iload_n 1, 1) := by decide +kernel
theorem dd_M_nameHere_87 : decode prog_9_method_8_code 87 = .ok (.iaload, 1) := by decide +kernel
theorem dd_M_nameHere_88 : decode prog_9_method_8_code 88 = .ok (.iload_n 3, 1) := by decide +kernel
theorem dd_M_nameHere_89 : decode prog_9_method_8_code 89 = .ok (.iadd, 1) := by decide +kernel
theorem dd_M_nameHere_90 : decode prog_9_method_8_code 90 = .ok (.iaload, 1) := by decide +kernel
theorem dd_M_nameHere_91 : decode prog_9_method_8_code 91 = .ok (.if_icmp .ne 7, 3) := by decide +kernel
theorem dd_M_nameHere_94 : decode prog_9_method_8_code 94 = .ok (.iconst 1, 1) := by decide +kernel
theorem dd_M_nameHere_95 : decode prog_9_method_8_code 95 = .ok (.goto 4, 3) := by decide +kernel
theorem dd_M_nameHere_98 : decode prog_9_method_8_code 98 = .ok (.iconst 0, 1) := by decide +kernel
theorem dd_M_nameHere_99 : decode prog_9_method_8_code 99 = .ok (.istore_n 2, 1) := by decide +kernel
theorem dd_M_nameHere_100 : decode prog_9_method_8_code 100 = .ok (.iinc 3 1, 3) := by decide +kernel
theorem dd_M_nameHere_103 : decode prog_9_method_8_code 103 = .ok (.goto (-52), 3) := by decide +kernel
theorem dd_M_nameHere_106 : decode prog_9_method_8_code 106 = .ok (.iload_n 2, 1) := by decide +kernel
theorem dd_M_nameHere_107 : decode prog_9_method_8_code 107 = .ok (.ifCond .eq 5, 3) := by decide +kernel
theorem dd_M_nameHere_110 : decode prog_9_method_8_code 110 = .ok (.iload_n 1, 1) := by decide +kernel
theorem dd_M_nameHere_111 : decode prog_9_method_8_code 111 = .ok (.ireturn, 1) := by decide +kernel
theorem dd_M_nameHere_112 : decode prog_9_method_8_code 112 = .ok (.iinc 1 1, 3) := by decide +kernel
theorem dd_M_nameHere_115 : decode prog_9_method_8_code 115 = .ok (.goto (-113), 3) := by decide +kernel
theorem dd_M_nameHere_118 : decode prog_9_method_8_code 118 = .ok (.bipush (-4), 2) := by decide +kernel
theorem dd_M_nameHere_120 : decode prog_9_method_8_code 120 = .ok (.ireturn, 1) := by decide +kernel
theorem dd_M_step_0 : decode prog_9_method_9_code 0 = .ok (.aload_n 0, 1) := by decide +kernel
theorem dd_M_step_1 : decode prog_9_method_9_code 1 = .ok (.getfield 60, 3) := by decide +kernel
theorem dd_M_step_4 : decode prog_9_method_9_code 4 = .ok (.ifCond .le 4, 3) := by decide +kernel
theorem dd_M_step_7 : decode prog_9_method_9_code 7 = .ok (.return_, 1) := by decide +kernel
theorem dd_M_step_8 : decode prog_9_method_9_code 8 = .ok (.aload_n 0, 1) := by decide +kernel
theorem dd_M_step_9 : decode prog_9_method_9_code 9 = .ok (.aload_n 0, 1) := by decide +kernel
theorem dd_M_step_10 : decode prog_9_method_9_code 10 = .ok (.getfield 72, 3) := by decide +kernel
theorem dd_M_step_13 : decode prog_9_method_9_code 13 = .ok (.invokevirtual 75, 3) := by decide +kernel
theorem dd_M_step_16 : decode prog_9_method_9_code 16 = .ok (.bipush 32, 2) := by decide +kernel
theorem dd_M_step_18 : decode prog_9_method_9_code 18 = .ok (.if_icmp .ne 16, 3) := by decide +kernel
theorem dd_M_step_21 : decode prog_9_method_9_code 21 = .ok (.aload_n 0, 1) := by decide +kernel
theorem dd_M_step_22 : decode prog_9_method_9_code 22 = .ok (.dup, 1) := by decide +kernel
theorem dd_M_step_23 : decode prog_9_method_9_code 23 = .ok (.getfield 72, 3) := by decide +kernel
theorem dd_M_step_26 : decode prog_9_method_9_code 26 = .ok (.iconst 1, 1) := by decide +kernel
theorem dd_M_step_27 : decode prog_9_method_9_code 27 = .ok (.iadd, 1) := by decide +kernel
theorem dd_M_step_28 : decode prog_9_method_9_code 28 = .ok (.putfield 72, 3) := by decide +kernel
theorem dd_M_step_31 : decode prog_9_method_9_code 31 = .ok (.goto (-23), 3) := by decide +kernel
theorem dd_M_step_34 : decode prog_9_method_9_code 34 = .ok (.aload_n 0, 1) := by decide +kernel
theorem dd_M_step_35 : decode prog_9_method_9_code 35 = .ok (.aload_n 0, 1) := by decide +kernel
theorem dd_M_step_36 : decode prog_9_method_9_code 36 = .ok (.getfield 72, 3) := by decide +kernel
theorem dd_M_step_39 : decode prog_9_method_9_code 39 = .ok (.putfield 63, 3) := by decide +kernel
theorem dd_M_step_42 : decode prog_9_method_9_code 42 = .ok (.aload_n 0, 1) := by decide +kernel
theorem dd_M_step_43 : decode prog_9_method_9_code 43 = .ok (.aload_n 0, 1) := by decide +kernel
theorem dd_M_step_44 : decode prog_9_method_9_code 44 = .ok (.getfield 72, 3) := by decide +kernel
theorem dd_M_step_47 : decode prog_9_method_9_code 47 = .ok (.invokevirtual 75, 3) := by decide +kernel
theorem dd_M_step_50 : decode prog_9_method_9_code 50 = .ok (.istore_n 1, 1) := by decide +kernel
theorem dd_M_step_51 : decode prog_9_method_9_code 51 = .ok (.aload_n 0, 1) := by decide +kernel
theorem dd_M_step_52 : decode prog_9_method_9_code 52 = .ok (.iconst 0, 1) := by decide +kernel
theorem dd_M_step_53 : decode prog_9_method_9_code 53 = .ok (.putfield 79, 3) := by decide +kernel
theorem dd_M_step_56 : decode prog_9_method_9_code 56 = .ok (.iload_n 1, 1) := by decide +kernel
theorem dd_M_step_57 : decode prog_9_method_9_code 57 = .ok (.bipush (-4), 2) := by decide +kernel
theorem dd_M_step_59 : decode prog_9_method_9_code 59 = .ok (.if_icmp .ne 11, 3) := by decide +kernel
theorem dd_M_step_62 : decode prog_9_method_9_code 62 = .ok (.aload_n 0, 1) := by decide +kernel
theorem dd_M_step_63 : decode prog_9_method_9_code 63 = .ok (.iconst 0, 1) := by decide +kernel
theorem dd_M_step_64 : decode prog_9_method_9_code 64 = .ok (.putfield 69, 3) := by decide +kernel
theorem dd_M_step_67 : decode prog_9_method_9_code 67 = .ok (.goto 202, 3) := by decide +kernel
theorem dd_M_step_70 : decode prog_9_method_9_code 70 = .ok (.iload_n 1, 1) := by decide +kernel
theorem dd_M_step_71 : decode prog_9_method_9_code 71 = .ok (.i2l, 1) := by decide +kernel
theorem dd_M_step_72 : decode prog_9_method_9_code 72 = .ok (.ldc2_w 82, 3) := by decide +kernel
theorem dd_M_step_75 : decode prog_9_method_9_code 75 = .ok (.ldc2_w 84, 3) := by decide +kernel
theorem dd_M_step_78 : decode prog_9_method_9_code 78 = .ok (.invokestatic 52, 3) := by decide +kernel
theorem dd_M_step_81 : decode prog_9_method_9_code 81 = .ok (.ifCond .eq 45, 3) := by decide +kernel
theorem dd_M_step_84 : decode prog_9_method_9_code 84 = .ok (.aload_n 0, 1) := by decide +kernel
theorem dd_M_step_85 : decode prog_9_method_9_code 85 = .ok (.aload_n 0, 1) := by decide +kernel
theorem dd_M_step_86 : decode prog_9_method_9_code 86 = .ok (.getfield 72, 3) := by decide +kernel
theorem dd_M_step_89 : decode prog_9_method_9_code 89 = .ok (.invokevirtual 75, 3) := by decide +kernel
theorem dd_M_step_92 : decode prog_9_method_9_code 92 = .ok (.i2l, 1) := by decide +kernel
theorem dd_M_step_93 : decode prog_9_method_9_code 93 = .ok (.ldc2_w 82, 3) := by decide +kernel
theorem dd_M_step_96 : decode prog_9_method_9_code 96 = .ok (.ldc2_w 84, 3) := by decide +kernel
theorem dd_M_step_99 : decode prog_9_method_9_code 99 = .ok (.invokestatic 52, 3) := by decide +kernel
theorem dd_M_step_102 : decode prog_9_method_9_code 102 = .ok (.ifCond .eq 16, 3) := by decide +kernel
theorem dd_M_step_105 : decode prog_9_method_9_code 105 = .ok (.aload_n 0, 1) := by decide +kernel
theorem dd_M_step_106 : decode prog_9_method_9_code 106 = .ok (.dup, 1) := by decide +kernel
theorem dd_M_step_107 : decode prog_9_method_9_code 107 = .ok (.getfield 72, 3) := by decide +kernel
theorem dd_M_step_110 : decode prog_9_method_9_code 110 = .ok (.iconst 1, 1) := by decide +kernel
theorem dd_M_step_111 : decode prog_9_method_9_code 111 = .ok (.iadd, 1) := by decide +kernel
theorem dd_M_step_112 : decode prog_9_method_9_code 112 = .ok (.putfield 72, 3) := by decide +kernel
theorem dd_M_step_115 : decode prog_9_method_9_code 115 = .ok (.goto (-31), 3) := by decide +kernel
theorem dd_M_step_118 : decode prog_9_method_9_code 118 = .ok (.aload_n 0, 1) := by decide +kernel
theorem dd_M_step_119 : decode prog_9_method_9_code 119 = .ok (.iconst 1, 1) := by decide +kernel
theorem dd_M_step_120 : decode prog_9_method_9_code 120 = .ok (.putfield 69, 3) := by decide +kernel
theorem dd_M_step_123 : decode prog_9_method_9_code 123 = .ok (.goto 146, 3) := by decide +kernel
theorem dd_M_step_126 : decode prog_9_method_9_code 126 = .ok (.iload_n 1, 1) := by decide +kernel
theorem dd_M_step_127 : decode prog_9_method_9_code 127 = .ok (.i2l, 1) := by decide +kernel
theorem dd_M_step_128 : decode prog_9_method_9_code 128 = .ok (.ldc2_w 86, 3) := by decide +kernel
theorem dd_M_step_131 : decode prog_9_method_9_code 131 = .ok (.ldc2_w 88, 3) := by decide +kernel
theorem dd_M_step_134 : decode prog_9_method_9_code 134 = .ok (.invokestatic 52, 3) := by decide +kernel
theorem dd_M_step_137 : decode prog_9_method_9_code 137 = .ok (.ifCond .eq 106, 3) := by decide +kernel
theorem dd_M_step_140 : decode prog_9_method_9_code 140 = .ok (.aload_n 0, 1) := by decide +kernel
theorem dd_M_step_141 : decode prog_9_method_9_code 141 = .ok (.aload_n 0, 1) := by decide +kernel
theorem dd_M_step_142 : decode prog_9_method_9_code 142 = .ok (.getfield 72, 3) := by decide +kernel
theorem dd_M_step_145 : decode prog_9_method_9_code 145 = .ok (.invokevirtual 75, 3) := by decide +kernel
theorem dd_M_step_148 : decode prog_9_method_9_code 148 = .ok (.i2l, 1) := by decide +kernel
theorem dd_M_step_149 : decode prog_9_method_9_code 149 = .ok (.ldc2_w 86, 3) := by decide +kernel
theorem dd_M_step_152 : decode prog_9_method_9_code 152 = .ok (.ldc2_w 88, 3) := by decide +kernel
theorem dd_M_step_155 : decode prog_9_method_9_code 155 = .ok (.invokestatic 52, 3) := by decide +kernel
theorem dd_M_step_158 : decode prog_9_method_9_code 158 = .ok (.ifCond .eq 59, 3) := by decide +kernel
theorem dd_M_step_161 : decode prog_9_method_9_code 161 = .ok (.aload_n 0, 1) := by decide +kernel
theorem dd_M_step_162 : decode prog_9_method_9_code 162 = .ok (.aload_n 0, 1) := by decide +kernel
theorem dd_M_step_163 : decode prog_9_method_9_code 163 = .ok (.getfield 72, 3) := by decide +kernel
theorem dd_M_step_166 : decode prog_9_method_9_code 166 = .ok (.aload_n 0, 1) := by decide +kernel
theorem dd_M_step_167 : decode prog_9_method_9_code 167 = .ok (.getfield 63, 3) := by decide +kernel
theorem dd_M_step_170 : decode prog_9_method_9_code 170 = .ok (.isub, 1) := by decide +kernel
theorem dd_M_step_171 : decode prog_9_method_9_code 171 = .ok (.iconst 2, 1) := by decide +kernel
theorem dd_M_step_172 : decode prog_9_method_9_code 172 = .ok (.if_icmp .ge 25, 3) := by decide +kernel
theorem dd_M_step_175 : decode prog_9_method_9_code 175 = .ok (.bipush 10, 2) := by decide +kernel
theorem dd_M_step_177 : decode prog_9_method_9_code 177 = .ok (.aload_n 0, 1) := by decide +kernel
theorem dd_M_step_178 : decode prog_9_method_9_code 178 = .ok (.getfield 79, 3) := by decide +kernel
theorem dd_M_step_181 : decode prog_9_method_9_code 181 = .ok (.imul, 1) := by decide +kernel
theorem dd_M_step_182 : decode prog_9_method_9_code 182 = .ok (.aload_n 0, 1) := by decide +kernel
theorem dd_M_step_183 : decode prog_9_method_9_code 183 = .ok (.aload_n 0, 1) := by decide +kernel
theorem dd_M_step_184 : decode prog_9_method_9_code 184 = .ok (.getfield 72, 3) := by decide +kernel
theorem dd_M_step_187 : decode prog_9_method_9_code 187 = .ok (.invokevirtual 75, 3) := by decide +kernel
theorem dd_M_step_190 : decode prog_9_method_9_code 190 = .ok (.iadd, 1) := by decide +kernel
theorem dd_M_step_191 : decode prog_9_method_9_code 191 = .ok (.bipush 48, 2) := by decide +kernel
theorem dd_M_step_193 : decode prog_9_method_9_code 193 = .ok (.isub, 1) := by decide +kernel
theorem dd_M_step_194 : decode prog_9_method_9_code 194 = .ok (.goto 7, 3) := by decide +kernel
theorem dd_M_step_197 : decode prog_9_method_9_code 197 = .ok (.aload_n 0, 1) := by decide +kernel
theorem dd_M_step_198 : decode prog_9_method_9_code 198 = .ok (.getfield 79, 3) := by decide +kernel
theorem dd_M_step_201 : decode prog_9_method_9_code 201 = .ok (.putfield 79, 3) := by decide +kernel
theorem dd_M_step_204 : decode prog_9_method_9_code 204 = .ok (.aload_n 0, 1) := by decide +kernel
theorem dd_M_step_205 : decode prog_9_method_9_code 205 = .ok (.dup, 1) := by decide +kernel
theorem dd_M_step_206 : decode prog_9_method_9_code 206 = .ok (.getfield 72, 3) := by decide +kernel
theorem dd_M_step_209 : decode prog_9_method_9_code 209 = .ok (.iconst 1, 1) := by decide +kernel
theorem dd_M_step_210 : decode prog_9_method_9_code 210 = .ok (.iadd, 1) := by decide +kernel
theorem dd_M_step_211 : decode prog_9_method_9_code 211 = .ok (.putfield 72, 3) := by decide +kernel
theorem dd_M_step_214 : decode prog_9_method_9_code 214 = .ok (.goto (-74), 3) := by decide +kernel
theorem dd_M_step_217 : decode prog_9_method_9_code 217 = .ok (.aload_n 0, 1) := by decide +kernel
theorem dd_M_step_218 : decode prog_9_method_9_code 218 = .ok (.iconst 2, 1) := by decide +kernel
theorem dd_M_step_219 : decode prog_9_method_9_code 219 = .ok (.putfield 69, 3) := by decide +kernel
theorem dd_M_step_222 : decode prog_9_method_9_code 222 = .ok (.aload_n 0, 1) := by decide +kernel
theorem dd_M_step_223 : decode prog_9_method_9_code 223 = .ok (.getfield 72, 3) := by decide +kernel
theorem dd_M_step_226 : decode prog_9_method_9_code 226 = .ok (.aload_n 0, 1) := by decide +kernel
theorem dd_M_step_227 : decode prog_9_method_9_code 227 = .ok (.getfield 63, 3) := by decide +kernel
theorem dd_M_step_230 : decode prog_9_method_9_code 230 = .ok (.isub, 1) := by decide +kernel
theorem dd_M_step_231 : decode prog_9_method_9_code 231 = .ok (.iconst 2, 1) := by decide +kernel
theorem dd_M_step_232 : decode prog_9_method_9_code 232 = .ok (.if_icmp .le 37, 3) := by decide +kernel
theorem dd_M_step_235 : decode prog_9_method_9_code 235 = .ok (.aload_n 0, 1) := by decide +kernel
theorem dd_M_step_236 : decode prog_9_method_9_code 236 = .ok (.iconst 1, 1) := by decide +kernel
theorem dd_M_step_237 : decode prog_9_method_9_code 237 = .ok (.invokevirtual 90, 3) := by decide +kernel
theorem dd_M_step_240 : decode prog_9_method_9_code 240 = .ok (.goto 29, 3) := by decide +kernel
theorem dd_M_step_243 : decode prog_9_method_9_code 243 = .ok (.aload_n 0, 1) := by decide +kernel
theorem dd_M_step_244 : decode prog_9_method_9_code 244 = .ok (.iconst 3, 1) := by decide +kernel
theorem dd_M_step_245 : decode prog_9_method_9_code 245 = .ok (.putfield 69, 3) := by decide +kernel
theorem dd_M_step_248 : decode prog_9_method_9_code 248 = .ok (.aload_n 0, 1) := by decide +kernel
theorem dd_M_step_249 : decode prog_9_method_9_code 249 = .ok (.dup, 1) := by decide +kernel
theorem dd_M_step_250 : decode prog_9_method_9_code 250 = .ok (.getfield 72, 3) := by decide +kernel
theorem dd_M_step_253 : decode prog_9_method_9_code 253 = .ok (.iconst 1, 1) := by decide +kernel
theorem dd_M_step_254 : decode prog_9_method_9_code 254 = .ok (.iadd, 1) := by decide +kernel
theorem dd_M_step_255 : decode prog_9_method_9_code 255 = .ok (.putfield 72, 3) := by decide +kernel
theorem dd_M_step_258 : decode prog_9_method_9_code 258 = .ok (.iload_n 1, 1) := by decide +kernel
theorem dd_M_step_259 : decode prog_9_method_9_code 259 = .ok (.bipush 59, 2) := by decide +kernel
theorem dd_M_step_261 : decode prog_9_method_9_code 261 = .ok (.if_icmp .eq 8, 3) := by decide +kernel
theorem dd_M_step_264 : decode prog_9_method_9_code 264 = .ok (.aload_n 0, 1) := by decide +kernel
theorem dd_M_step_265 : decode prog_9_method_9_code 265 = .ok (.iconst 1, 1) := by decide +kernel
theorem dd_M_step_266 : decode prog_9_method_9_code 266 = .ok (.invokevirtual 90, 3) := by decide +kernel
theorem dd_M_step_269 : decode prog_9_method_9_code 269 = .ok (.return_, 1) := by decide +kernel
theorem dd_M_number_0 : decode prog_9_method_10_code 0 = .ok (.aload_n 0, 1) := by decide +kernel
theorem dd_M_number_1 : decode prog_9_method_10_code 1 = .ok (.getfield 60, 3) := by decide +kernel
theorem dd_M_number_4 : decode prog_9_method_10_code 4 = .ok (.ifCond .ne 16, 3) := by decide +kernel
theorem dd_M_number_7 : decode prog_9_method_10_code 7 = .ok (.aload_n 0, 1) := by decide +kernel
theorem dd_M_number_8 : decode prog_9_method_10_code 8 = .ok (.getfield 69, 3) := by decide +kernel
theorem dd_M_number_11 : decode prog_9_method_10_code 11 = .ok (.iconst 2, 1) := by decide +kernel
theorem dd_M_number_12 : decode prog_9_method_10_code 12 = .ok (.if_icmp .eq 8, 3) := by decide +kernel
theorem dd_M_number_15 : decode prog_9_method_10_code 15 = .ok (.aload_n 0, 1) := by decide +kernel
theorem dd_M_number_16 : decode prog_9_method_10_code 16 = .ok (.iconst 2, 1) := by decide +kernel
theorem dd_M_number_17 : decode prog_9_method_10_code 17 = .ok (.invokevirtual 90, 3) := by decide +kernel
theorem dd_M_number_20 : decode prog_9_method_10_code 20 = .ok (.aload_n 0, 1) := by decide +kernel
theorem dd_M_number_21 : decode prog_9_method_10_code 21 = .ok (.getfield 60, 3) := by decide +kernel
theorem dd_M_number_24 : decode prog_9_method_10_code 24 = .ok (.ifCond .ne 23, 3) := by decide +kernel
theorem dd_M_number_27 : decode prog_9_method_10_code 27 = .ok (.aload_n 0, 1) := by decide +kernel
theorem dd_M_number_28 : decode prog_9_method_10_code 28 = .ok (.getfield 79, 3) := by decide +kernel
theorem dd_M_number_31 : decode prog_9_method_10_code 31 = .ok (.i2l, 1) := by decide +kernel
theorem dd_M_number_32 : decode prog_9_method_10_code 32 = .ok (.iload_n 1, 1) := by decide +kernel
theorem dd_M_number_33 : decode prog_9_method_10_code 33 = .ok (.i2l, 1) := by decide +kernel
theorem dd_M_number_34 : decode prog_9_method_10_code 34 = .ok (.iload_n 2, 1) := by decide +kernel
theorem dd_M_number_35 : decode prog_9_method_10_code 35 = .ok (.i2l, 1) := by decide +kernel
theorem dd_M_number_36 : decode prog_9_method_10_code 36 = .ok (.invokestatic 52, 3) := by decide +kernel
theorem dd_M_number_39 : decode prog_9_method_10_code 39 = .ok (.ifCond .ne 8, 3) := by decide +kernel
theorem dd_M_number_42 : decode prog_9_method_10_code 42 = .ok (.aload_n 0, 1) := by decide +kernel
theorem dd_M_number_43 : decode prog_9_method_10_code 43 = .ok (.iconst 3, 1) := by decide +kernel
theorem dd_M_number_44 : decode prog_9_method_10_code 44 = .ok (.invokevirtual 90, 3) := by decide +kernel
theorem dd_M_number_47 : decode prog_9_method_10_code 47 = .ok (.aload_n 0, 1) := by decide +kernel
theorem dd_M_number_48 : decode prog_9_method_10_code 48 = .ok (.getfield 60, 3) := by decide +kernel
theorem dd_M_number_51 : decode prog_9_method_10_code 51 = .ok (.ifCond .ne 10, 3) := by decide +kernel
theorem dd_M_number_54 : decode prog_9_method_10_code 54 = .ok (.aload_n 0, 1) := by decide +kernel
theorem dd_M_number_55 : decode prog_9_method_10_code 55 = .ok (.getfield 79, 3) := by decide +kernel
theorem dd_M_number_58 : decode prog_9_method_10_code 58 = .ok (.goto 4, 3) := by decide +kernel
theorem dd_M_number_61 : decode prog_9_method_10_code 61 = .ok (.iload_n 1, 1) := by decide +kernel
theorem dd_M_number_62 : decode prog_9_method_10_code 62 = .ok (.istore_n 3, 1) := by decide +kernel
theorem dd_M_number_63 : decode prog_9_method_10_code 63 = .ok (.aload_n 0, 1) := by decide +kernel
theorem dd_M_number_64 : decode prog_9_method_10_code 64 = .ok (.invokevirtual 94, 3) := by decide +kernel
theorem dd_M_number_67 : decode prog_9_method_10_code 67 = .ok (.iload_n 3, 1) := by decide +kernel
theorem dd_M_number_68 : decode prog_9_method_10_code 68 = .ok (.ireturn, 1) := by decide +kernel
theorem dd_M_readMore_0 : decode prog_9_method_11_code 0 = .ok (.iload_n 1, 1) := by decide +kernel
theorem dd_M_readMore_1 : decode prog_9_method_11_code 1 = .ok (.iconst 3, 1) := by decide +kernel
theorem dd_M_readMore_2 : decode prog_9_method_11_code 2 = .ok (.if_icmp .gt 64, 3) := by decide +kernel
theorem dd_M_readMore_5 : decode prog_9_method_11_code 5 = .ok (.aload_n 0, 1) := by decide +kernel
theorem dd_M_readMore_6 : decode prog_9_method_11_code 6 = .ok (.getfield 13, 3) := by decide +kernel
theorem dd_M_readMore_9 : decode prog_9_method_11_code 9 = .ok (.bipush 32, 2) := by decide +kernel
theorem dd_M_readMore_11 : decode prog_9_method_11_code 11 = .ok (.iaload, 1) := by decide +kernel
theorem dd_M_readMore_12 : decode prog_9_method_11_code 12 = .ok (.istore_n 2, 1) := by decide +kernel
theorem dd_M_readMore_13 : decode prog_9_method_11_code 13 = .ok (.aload_n 0, 1) := by decide +kernel
theorem dd_M_readMore_14 : decode prog_9_method_11_code 14 = .ok (.getfield 13, 3) := by decide +kernel
theorem dd_M_readMore_17 : decode prog_9_method_11_code 17 = .ok (.iload_n 2, 1) := by decide +kernel
theorem dd_M_readMore_18 : decode prog_9_method_11_code 18 = .ok (.iload_n 1, 1) := by decide +kernel
theorem dd_M_readMore_19 : decode prog_9_method_11_code 19 = .ok (.iastore, 1) := by decide +kernel
theorem dd_M_readMore_20 : decode prog_9_method_11_code 20 = .ok (.aload_n 0, 1) := by decide +kernel
theorem dd_M_readMore_21 : decode prog_9_method_11_code 21 = .ok (.getfield 13, 3) := by decide +kernel
theorem dd_M_readMore_24 : decode prog_9_method_11_code 24 = .ok (.bipush 8, 2) := by decide +kernel
theorem dd_M_readMore_26 : decode prog_9_method_11_code 26 = .ok (.iload_n 2, 1) := by decide +kernel
theorem dd_M_readMore_27 : decode prog_9_method_11_code 27 = .ok (.iadd, 1) := by decide +kernel
theorem dd_M_readMore_28 : decode prog_9_method_11_code 28 = .ok (.aload_n 0, 1) := by decide +kernel
theorem dd_M_readMore_29 : decode prog_9_method_11_code 29 = .ok (.iconst 1, 1) := by decide +kernel
theorem dd_M_readMore_30 : decode prog_9_method_11_code 30 = .ok (.bipush 9, 2) := by decide +kernel
theorem dd_M_readMore_32 : decode prog_9_method_11_code 32 = .ok (.invokevirtual 97, 3) := by decide +kernel
theorem dd_M_readMore_35 : decode prog_9_method_11_code 35 = .ok (.iastore, 1) := by decide +kernel
theorem dd_M_readMore_36 : decode prog_9_method_11_code 36 = .ok (.aload_n 0, 1) := by decide +kernel
theorem dd_M_readMore_37 : decode prog_9_method_11_code 37 = .ok (.getfield 13, 3) := by decide +kernel
theorem dd_M_readMore_40 : decode prog_9_method_11_code 40 = .ok (.bipush 16, 2) := by decide +kernel
theorem dd_M_readMore_42 : decode prog_9_method_11_code 42 = .ok (.iload_n 2, 1) := by decide +kernel
theorem dd_M_readMore_43 : decode prog_9_method_11_code 43 = .ok (.iadd, 1) := by decide +kernel
theorem dd_M_readMore_44 : decode prog_9_method_11_code 44 = .ok (.aload_n 0, 1) := by decide +kernel
theorem dd_M_readMore_45 : decode prog_9_method_11_code 45 = .ok (.iconst 0, 1) := by decide +kernel
theorem dd_M_readMore_46 : decode prog_9_method_11_code 46 = .ok (.bipush 9, 2) := by decide +kernel
theorem dd_M_readMore_48 : decode prog_9_method_11_code 48 = .ok (.invokevirtual 97, 3) := by decide +kernel
theorem dd_M_readMore_51 : decode prog_9_method_11_code 51 = .ok (.iastore, 1) := by decide +kernel
theorem dd_M_readMore_52 : decode prog_9_method_11_code 52 = .ok (.aload_n 0, 1) := by decide +kernel
theorem dd_M_readMore_53 : decode prog_9_method_11_code 53 = .ok (.getfield 13, 3) := by decide +kernel
theorem dd_M_readMore_56 : decode prog_9_method_11_code 56 = .ok (.bipush 32, 2) := by decide +kernel
theorem dd_M_readMore_58 : decode prog_9_method_11_code 58 = .ok (.dup2, 1) := by decide +kernel
theorem dd_M_readMore_59 : decode prog_9_method_11_code 59 = .ok (.iaload, 1) := by decide +kernel
theorem dd_M_readMore_60 : decode prog_9_method_11_code 60 = .ok (.iconst 1, 1) := by decide +kernel
theorem dd_M_readMore_61 : decode prog_9_method_11_code 61 = .ok (.iadd, 1) := by decide +kernel
theorem dd_M_readMore_62 : decode prog_9_method_11_code 62 = .ok (.iastore, 1) := by decide +kernel
theorem dd_M_readMore_63 : decode prog_9_method_11_code 63 = .ok (.goto 80, 3) := by decide +kernel
theorem dd_M_readMore_66 : decode prog_9_method_11_code 66 = .ok (.iload_n 1, 1) := by decide +kernel
theorem dd_M_readMore_67 : decode prog_9_method_11_code 67 = .ok (.iconst 4, 1) := by decide +kernel
theorem dd_M_readMore_68 : decode prog_9_method_11_code 68 = .ok (.if_icmp .ne 35, 3) := by decide +kernel
theorem dd_M_readMore_71 : decode prog_9_method_11_code 71 = .ok (.aload_n 0, 1) := by decide +kernel
theorem dd_M_readMore_72 : decode prog_9_method_11_code 72 = .ok (.getfield 13, 3) := by decide +kernel
theorem dd_M_readMore_75 : decode prog_9_method_11_code 75 = .ok (.bipush 33, 2) := by decide +kernel
theorem dd_M_readMore_77 : decode prog_9_method_11_code 77 = .ok (.aload_n 0, 1) := by decide +kernel
theorem dd_M_readMore_78 : decode prog_9_method_11_code 78 = .ok (.getfield 101, 3) := by decide +kernel
theorem dd_M_readMore_81 : decode prog_9_method_11_code 81 = .ok (.iadd, 1) := by decide +kernel
theorem dd_M_readMore_82 : decode prog_9_method_11_code 82 = .ok (.aload_n 0, 1) := by decide +kernel
theorem dd_M_readMore_83 : decode prog_9_method_11_code 83 = .ok (.iconst 1, 1) := by decide +kernel
theorem dd_M_readMore_84 : decode prog_9_method_11_code 84 = .ok (.bipush 20, 2) := by decide +kernel
theorem dd_M_readMore_86 : decode prog_9_method_11_code 86 = .ok (.invokevirtual 97, 3) := by decide +kernel
theorem dd_M_readMore_89 : decode prog_9_method_11_code 89 = .ok (.iastore, 1) := by decide +kernel
theorem dd_M_readMore_90 : decode prog_9_method_11_code 90 = .ok (.aload_n 0, 1) := by decide +kernel
theorem dd_M_readMore_91 : decode prog_9_method_11_code 91 = .ok (.dup, 1) := by decide +kernel
theorem dd_M_readMore_92 : decode prog_9_method_11_code 92 = .ok (.getfield 101, 3) := by decide +kernel
theorem dd_M_readMore_95 : decode prog_9_method_11_code 95 = .ok (.iconst 1, 1) := by decide +kernel
theorem dd_M_readMore_96 : decode prog_9_method_11_code 96 = .ok (.iadd, 1) := by decide +kernel
theorem dd_M_readMore_97 : decode prog_9_method_11_code 97 = .ok (.putfield 101, 3) := by decide +kernel
theorem dd_M_readMore_100 : decode prog_9_method_11_code 100 = .ok (.goto 43, 3) := by decide +kernel
theorem dd_M_readMore_103 : decode prog_9_method_11_code 103 = .ok (.iload_n 1, 1) := by decide +kernel
theorem dd_M_readMore_104 : decode prog_9_method_11_code 104 = .ok (.iconst 5, 1) := by decide +kernel
theorem dd_M_readMore_105 : decode prog_9_method_11_code 105 = .ok (.if_icmp .ne 22, 3) := by decide +kernel
theorem dd_M_readMore_108 : decode prog_9_method_11_code 108 = .ok (.aload_n 0, 1) := by decide +kernel
theorem dd_M_readMore_109 : decode prog_9_method_11_code 109 = .ok (.getfield 13, 3) := by decide +kernel
theorem dd_M_readMore_112 : decode prog_9_method_11_code 112 = .ok (.bipush 41, 2) := by decide +kernel
theorem dd_M_readMore_114 : decode prog_9_method_11_code 114 = .ok (.aload_n 0, 1) := by decide +kernel
theorem dd_M_readMore_115 : decode prog_9_method_11_code 115 = .ok (.iconst 0, 1) := by decide +kernel
theorem dd_M_readMore_116 : decode prog_9_method_11_code 116 = .ok (.bipush 6, 2) := by decide +kernel
theorem dd_M_readMore_118 : decode prog_9_method_11_code 118 = .ok (.invokevirtual 97, 3) := by decide +kernel
theorem dd_M_readMore_121 : decode prog_9_method_11_code 121 = .ok (.iconst 2, 1) := by decide +kernel
theorem dd_M_readMore_122 : decode prog_9_method_11_code 122 = .ok (.isub, 1) := by decide +kernel
theorem dd_M_readMore_123 : decode prog_9_method_11_code 123 = .ok (.iastore, 1) := by decide +kernel
theorem dd_M_readMore_124 : decode prog_9_method_11_code 124 = .ok (.goto 19, 3) := by decide +kernel
theorem dd_M_readMore_127 : decode prog_9_method_11_code 127 = .ok (.aload_n 0, 1) := by decide +kernel
theorem dd_M_readMore_128 : decode prog_9_method_11_code 128 = .ok (.getfield 13, 3) := by decide +kernel
theorem dd_M_readMore_131 : decode prog_9_method_11_code 131 = .ok (.bipush 42, 2) := by decide +kernel
theorem dd_M_readMore_133 : decode prog_9_method_11_code 133 = .ok (.aload_n 0, 1) := by decide +kernel
theorem dd_M_readMore_134 : decode prog_9_method_11_code 134 = .ok (.iconst 0, 1) := by decide +kernel
theorem dd_M_readMore_135 : decode prog_9_method_11_code 135 = .ok (.bipush 8, 2) := by decide +kernel
theorem dd_M_readMore_137 : decode prog_9_method_11_code 137 = .ok (.invokevirtual 97, 3) := by decide +kernel
theorem dd_M_readMore_140 : decode prog_9_method_11_code 140 = .ok (.iconst 2, 1) := by decide +kernel
theorem dd_M_readMore_141 : decode prog_9_method_11_code 141 = .ok (.isub, 1) := by decide +kernel
theorem dd_M_readMore_142 : decode prog_9_method_11_code 142 = .ok (.iastore, 1) := by decide +kernel
theorem dd_M_readMore_143 : decode prog_9_method_11_code 143 = .ok (.return_, 1) := by decide +kernel
theorem dd_M_readLine_0 : decode prog_9_method_12_code 0 = .ok (.aload_n 0, 1) := by decide +kernel
theorem dd_M_readLine_1 : decode prog_9_method_12_code 1 = .ok (.invokevirtual 104, 3) := by decide +kernel
theorem dd_M_readLine_4 : decode prog_9_method_12_code 4 = .ok (.istore_n 1, 1) := by decide +kernel
theorem dd_M_readLine_5 : decode prog_9_method_12_code 5 = .ok (.iload_n 1, 1) := by decide +kernel
theorem dd_M_readLine_6 : decode prog_9_method_12_code 6 = .ok (.i2l, 1) := by decide +kernel
theorem dd_M_readLine_7 : decode prog_9_method_12_code 7 = .ok (.lconst 0, 1) := by decide +kernel
theorem dd_M_readLine_8 : decode prog_9_method_12_code 8 = .ok (.ldc2_w 108, 3) := by decide +kernel
theorem dd_M_readLine_11 : decode prog_9_method_12_code 11 = .ok (.invokestatic 52, 3) := by decide +kernel
theorem dd_M_readLine_14 : decode prog_9_method_12_code 14 = .ok (.ifCond .ne 9, 3) := by decide +kernel
theorem dd_M_readLine_17 : decode prog_9_method_12_code 17 = .ok (.aload_n 0, 1) := by decide +kernel
theorem dd_M_readLine_18 : decode prog_9_method_12_code 18 = .ok (.iconst 2, 1) := by decide +kernel
theorem dd_M_readLine_19 : decode prog_9_method_12_code 19 = .ok (.invokevirtual 90, 3) := by decide +kernel
theorem dd_M_readLine_22 : decode prog_9_method_12_code 22 = .ok (.return_, 1) := by decide +kernel
theorem dd_M_readLine_23 : decode prog_9_method_12_code 23 = .ok (.iload_n 1, 1) := by decide +kernel
theorem dd_M_readLine_24 : decode prog_9_method_12_code 24 = .ok (.iconst 3, 1) := by decide +kernel
theorem dd_M_readLine_25 : decode prog_9_method_12_code 25 = .ok (.if_icmp .gt 15, 3) := by decide +kernel
theorem dd_M_readLine_28 : decode prog_9_method_12_code 28 = .ok (.aload_n 0, 1) := by decide +kernel
theorem dd_M_readLine_29 : decode prog_9_method_12_code 29 = .ok (.getfield 13, 3) := by decide +kernel
theorem dd_M_readLine_32 : decode prog_9_method_12_code 32 = .ok (.bipush 32, 2) := by decide +kernel
theorem dd_M_readLine_34 : decode prog_9_method_12_code 34 = .ok (.iaload, 1) := by decide +kernel
theorem dd_M_readLine_35 : decode prog_9_method_12_code 35 = .ok (.bipush 8, 2) := by decide +kernel
theorem dd_M_readLine_37 : decode prog_9_method_12_code 37 = .ok (.if_icmp .eq 16, 3) := by decide +kernel
theorem dd_M_readLine_40 : decode prog_9_method_12_code 40 = .ok (.iload_n 1, 1) := by decide +kernel
theorem dd_M_readLine_41 : decode prog_9_method_12_code 41 = .ok (.iconst 4, 1) := by decide +kernel
theorem dd_M_readLine_42 : decode prog_9_method_12_code 42 = .ok (.if_icmp .ne 16, 3) := by decide +kernel
theorem dd_M_readLine_45 : decode prog_9_method_12_code 45 = .ok (.aload_n 0, 1) := by decide +kernel
theorem dd_M_readLine_46 : decode prog_9_method_12_code 46 = .ok (.getfield 101, 3) := by decide +kernel
theorem dd_M_readLine_49 : decode prog_9_method_12_code 49 = .ok (.iconst 4, 1) := by decide +kernel
theorem dd_M_readLine_50 : decode prog_9_method_12_code 50 = .ok (.if_icmp .ne 8, 3) := by decide +kernel
theorem dd_M_readLine_53 : decode prog_9_method_12_code 53 = .ok (.aload_n 0, 1) := by decide +kernel
theorem dd_M_readLine_54 : decode prog_9_method_12_code 54 = .ok (.iconst 5, 1) := by decide +kernel
theorem dd_M_readLine_55 : decode prog_9_method_12_code 55 = .ok (.invokevirtual 90, 3) := by decide +kernel
theorem dd_M_readLine_58 : decode prog_9_method_12_code 58 = .ok (.iload_n 1, 1) := by decide +kernel
theorem dd_M_readLine_59 : decode prog_9_method_12_code 59 = .ok (.iconst 5, 1) := by decide +kernel
theorem dd_M_readLine_60 : decode prog_9_method_12_code 60 = .ok (.if_icmp .lt 20, 3) := by decide +kernel
theorem dd_M_readLine_63 : decode prog_9_method_12_code 63 = .ok (.aload_n 0, 1) := by decide +kernel
theorem dd_M_readLine_64 : decode prog_9_method_12_code 64 = .ok (.getfield 110, 3) := by decide +kernel
theorem dd_M_readLine_67 : decode prog_9_method_12_code 67 = .ok (.iload_n 1, 1) := by decide +kernel
theorem dd_M_readLine_68 : decode prog_9_method_12_code 68 = .ok (.ishr, 1) := by decide +kernel
theorem dd_M_readLine_69 : decode prog_9_method_12_code 69 = .ok (.iconst 1, 1) := by decide +kernel
theorem dd_M_readLine_70 : decode prog_9_method_12_code 70 = .ok (.iand, 1) := by decide +kernel
theorem dd_M_readLine_71 : decode prog_9_method_12_code 71 = .ok (.iconst 1, 1) := by decide +kernel
theorem dd_M_readLine_72 : decode prog_9_method_12_code 72 = .ok (.if_icmp .ne 8, 3) := by decide +kernel
theorem dd_M_readLine_75 : decode prog_9_method_12_code 75 = .ok (.aload_n 0, 1) := by decide +kernel
theorem dd_M_readLine_76 : decode prog_9_method_12_code 76 = .ok (.iconst 4, 1) := by decide +kernel
theorem dd_M_readLine_77 : decode prog_9_method_12_code 77 = .ok (.invokevirtual 90, 3) := by decide +kernel
theorem dd_M_readLine_80 : decode prog_9_method_12_code 80 = .ok (.aload_n 0, 1) := by decide +kernel
theorem dd_M_readLine_81 : decode prog_9_method_12_code 81 = .ok (.dup, 1) := by decide +kernel
theorem dd_M_readLine_82 : decode prog_9_method_12_code 82 = .ok (.getfield 110, 3) := by decide +kernel
theorem dd_M_readLine_85 : decode prog_9_method_12_code 85 = .ok (.iconst 1, 1) := by decide +kernel
theorem dd_M_readLine_86 : decode prog_9_method_12_code 86 = .ok (.iload_n 1, 1) := by decide +kernel
theorem dd_M_readLine_87 : decode prog_9_method_12_code 87 = .ok (.ishl, 1) := by decide +kernel
theorem dd_M_readLine_88 : decode prog_9_method_12_code 88 = .ok (.ior, 1) := by decide +kernel
theorem dd_M_readLine_89 : decode prog_9_method_12_code 89 = .ok (.putfield 110, 3) := by decide +kernel
theorem dd_M_readLine_92 : decode prog_9_method_12_code 92 = .ok (.aload_n 0, 1) := by decide +kernel
theorem dd_M_readLine_93 : decode prog_9_method_12_code 93 = .ok (.invokevirtual 94, 3) := by decide +kernel
theorem dd_M_readLine_96 : decode prog_9_method_12_code 96 = .ok (.aload_n 0, 1) := by decide +kernel
theorem dd_M_readLine_97 : decode prog_9_method_12_code 97 = .ok (.getfield 60, 3) := by decide +kernel
theorem dd_M_readLine_100 : decode prog_9_method_12_code 100 = .ok (.ifCond .le 4, 3) := by decide +kernel
theorem dd_M_readLine_103 : decode prog_9_method_12_code 103 = .ok (.return_, 1) := by decide +kernel
theorem dd_M_readLine_104 : decode prog_9_method_12_code 104 = .ok (.aload_n 0, 1) := by decide +kernel
theorem dd_M_readLine_105 : decode prog_9_method_12_code 105 = .ok (.iload_n 1, 1) := by decide +kernel
theorem dd_M_readLine_106 : decode prog_9_method_12_code 106 = .ok (.invokevirtual 113, 3) := by decide +kernel
theorem dd_M_readLine_109 : decode prog_9_method_12_code 109 = .ok (.aload_n 0, 1) := by decide +kernel
theorem dd_M_readLine_110 : decode prog_9_method_12_code 110 = .ok (.getfield 60, 3) := by decide +kernel
theorem dd_M_readLine_113 : decode prog_9_method_12_code 113 = .ok (.ifCond .ne 16, 3) := by decide +kernel
theorem dd_M_readLine_116 : decode prog_9_method_12_code 116 = .ok (.aload_n 0, 1) := by decide +kernel
theorem dd_M_readLine_117 : decode prog_9_method_12_code 117 = .ok (.getfield 69, 3) := by decide +kernel
theorem dd_M_readLine_120 : decode prog_9_method_12_code 120 = .ok (.iconst 3, 1) := by decide +kernel
theorem dd_M_readLine_121 : decode prog_9_method_12_code 121 = .ok (.if_icmp .eq 8, 3) := by decide +kernel
theorem dd_M_readLine_124 : decode prog_9_method_12_code 124 = .ok (.aload_n 0, 1) := by decide +kernel
theorem dd_M_readLine_125 : decode prog_9_method_12_code 125 = .ok (.iconst 2, 1) := by decide +kernel
theorem dd_M_readLine_126 : decode prog_9_method_12_code 126 = .ok (.invokevirtual 90, 3) := by decide +kernel
theorem dd_M_readLine_129 : decode prog_9_method_12_code 129 = .ok (.aload_n 0, 1) := by decide +kernel
theorem dd_M_readLine_130 : decode prog_9_method_12_code 130 = .ok (.invokevirtual 94, 3) := by decide +kernel
theorem dd_M_readLine_133 : decode prog_9_method_12_code 133 = .ok (.return_, 1) := by decide +kernel
theorem dd_M_text_0 : decode prog_9_method_13_code 0 = .ok (.aload_n 0, 1) := by decide +kernel
theorem dd_M_text_1 : decode prog_9_method_13_code 1 = .ok (.iconst 0, 1) := by decide +kernel
theorem dd_M_text_2 : decode prog_9_method_13_code 2 = .ok (.putfield 60, 3) := by decide +kernel
theorem dd_M_text_5 : decode prog_9_method_13_code 5 = .ok (.aload_n 0, 1) := by decide +kernel
theorem dd_M_text_6 : decode prog_9_method_13_code 6 = .ok (.iconst 0, 1) := by decide +kernel
theorem dd_M_text_7 : decode prog_9_method_13_code 7 = .ok (.putfield 72, 3) := by decide +kernel
theorem dd_M_text_10 : decode prog_9_method_13_code 10 = .ok (.aload_n 0, 1) := by decide +kernel
theorem dd_M_text_11 : decode prog_9_method_13_code 11 = .ok (.iconst 0, 1) := by decide +kernel
theorem dd_M_text_12 : decode prog_9_method_13_code 12 = .ok (.putfield 101, 3) := by decide +kernel
theorem dd_M_text_15 : decode prog_9_method_13_code 15 = .ok (.aload_n 0, 1) := by decide +kernel
theorem dd_M_text_16 : decode prog_9_method_13_code 16 = .ok (.iconst 0, 1) := by decide +kernel
theorem dd_M_text_17 : decode prog_9_method_13_code 17 = .ok (.putfield 110, 3) := by decide +kernel
theorem dd_M_text_20 : decode prog_9_method_13_code 20 = .ok (.iconst 0, 1) := by decide +kernel
theorem dd_M_text_21 : decode prog_9_method_13_code 21 = .ok (.istore_n 1, 1) := by decide +kernel
theorem dd_M_text_22 : decode prog_9_method_13_code 22 = .ok (.iconst 0, 1) := by decide +kernel
theorem dd_M_text_23 : decode prog_9_method_13_code 23 = .ok (.istore_n 2, 1) := by decide +kernel
theorem dd_M_text_24 : decode prog_9_method_13_code 24 = .ok (.iload_n 2, 1) := by decide +kernel
theorem dd_M_text_25 : decode prog_9_method_13_code 25 = .ok (.bipush 44, 2) := by decide +kernel
theorem dd_M_text_27 : decode prog_9_method_13_code 27 = .ok (.if_icmp .ge 16, 3) := by decide +kernel
theorem dd_M_text_30 : decode prog_9_method_13_code 30 = .ok (.aload_n 0, 1) := by decide +kernel
theorem dd_M_text_31 : decode prog_9_method_13_code 31 = .ok (.getfield 13, 3) := by decide +kernel
theorem dd_M_text_34 : decode prog_9_method_13_code 34 = .ok (.iload_n 2, 1) := by decide +kernel
theorem dd_M_text_35 : decode prog_9_method_13_code 35 = .ok (.iconst 0, 1) := by decide +kernel
theorem dd_M_text_36 : decode prog_9_method_13_code 36 = .ok (.iastore, 1) := by decide +kernel
theorem dd_M_text_37 : decode prog_9_method_13_code 37 = .ok (.iinc 2 1, 3) := by decide +kernel
theorem dd_M_text_40 : decode prog_9_method_13_code 40 = .ok (.goto (-16), 3) := by decide +kernel
theorem dd_M_text_43 : decode prog_9_method_13_code 43 = .ok (.aload_n 0, 1) := by decide +kernel
theorem dd_M_text_44 : decode prog_9_method_13_code 44 = .ok (.invokevirtual 94, 3) := by decide +kernel
theorem dd_M_text_47 : decode prog_9_method_13_code 47 = .ok (.aload_n 0, 1) := by decide +kernel
theorem dd_M_text_48 : decode prog_9_method_13_code 48 = .ok (.getfield 60, 3) := by decide +kernel
theorem dd_M_text_51 : decode prog_9_method_13_code 51 = .ok (.ifCond .ne 20, 3) := by decide +kernel
theorem dd_M_text_54 : decode prog_9_method_13_code 54 = .ok (.aload_n 0, 1) := by decide +kernel
theorem dd_M_text_55 : decode prog_9_method_13_code 55 = .ok (.getfield 69, 3) := by decide +kernel
theorem dd_M_text_58 : decode prog_9_method_13_code 58 = .ok (.ifCond .eq 13, 3) := by decide +kernel
theorem dd_M_text_61 : decode prog_9_method_13_code 61 = .ok (.aload_n 0, 1) := by decide +kernel
theorem dd_M_text_62 : decode prog_9_method_13_code 62 = .ok (.invokevirtual 116, 3) := by decide +kernel
theorem dd_M_text_65 : decode prog_9_method_13_code 65 = .ok (.iinc 1 1, 3) := by decide +kernel
theorem dd_M_text_68 : decode prog_9_method_13_code 68 = .ok (.goto (-21), 3) := by decide +kernel
theorem dd_M_text_71 : decode prog_9_method_13_code 71 = .ok (.aload_n 0, 1) := by decide +kernel
theorem dd_M_text_72 : decode prog_9_method_13_code 72 = .ok (.iconst 0, 1) := by decide +kernel
theorem dd_M_text_73 : decode prog_9_method_13_code 73 = .ok (.putfield 56, 3) := by decide +kernel
theorem dd_M_text_76 : decode prog_9_method_13_code 76 = .ok (.aload_n 0, 1) := by decide +kernel
theorem dd_M_text_77 : decode prog_9_method_13_code 77 = .ok (.aload_n 0, 1) := by decide +kernel
theorem dd_M_text_78 : decode prog_9_method_13_code 78 = .ok (.getfield 60, 3) := by decide +kernel
theorem dd_M_text_81 : decode prog_9_method_13_code 81 = .ok (.putfield 119, 3) := by decide +kernel
theorem dd_M_text_84 : decode prog_9_method_13_code 84 = .ok (.aload_n 0, 1) := by decide +kernel
theorem dd_M_text_85 : decode prog_9_method_13_code 85 = .ok (.getfield 60, 3) := by decide +kernel
theorem dd_M_text_88 : decode prog_9_method_13_code 88 = .ok (.ifCond .le 11, 3) := by decide +kernel
theorem dd_M_text_91 : decode prog_9_method_13_code 91 = .ok (.bipush (-10), 2) := by decide +kernel
theorem dd_M_text_93 : decode prog_9_method_13_code 93 = .ok (.aload_n 0, 1) := by decide +kernel
theorem dd_M_text_94 : decode prog_9_method_13_code 94 = .ok (.getfield 66, 3) := by decide +kernel
theorem dd_M_text_97 : decode prog_9_method_13_code 97 = .ok (.isub, 1) := by decide +kernel
theorem dd_M_text_98 : decode prog_9_method_13_code 98 = .ok (.ireturn, 1) := by decide +kernel
theorem dd_M_text_99 : decode prog_9_method_13_code 99 = .ok (.iconst 0, 1) := by decide +kernel
theorem dd_M_text_100 : decode prog_9_method_13_code 100 = .ok (.istore_n 2, 1) := by decide +kernel
theorem dd_M_text_101 : decode prog_9_method_13_code 101 = .ok (.iload_n 2, 1) := by decide +kernel
theorem dd_M_text_102 : decode prog_9_method_13_code 102 = .ok (.bipush 44, 2) := by decide +kernel
theorem dd_M_text_104 : decode prog_9_method_13_code 104 = .ok (.if_icmp .ge 21, 3) := by decide +kernel
theorem dd_M_text_107 : decode prog_9_method_13_code 107 = .ok (.aload_n 0, 1) := by decide +kernel
theorem dd_M_text_108 : decode prog_9_method_13_code 108 = .ok (.getfield 7, 3) := by decide +kernel
theorem dd_M_text_111 : decode prog_9_method_13_code 111 = .ok (.iload_n 2, 1) := by decide +kernel
theorem dd_M_text_112 : decode prog_9_method_13_code 112 = .ok (.aload_n 0, 1) := by decide +kernel
theorem dd_M_text_113 : decode prog_9_method_13_code 113 = .ok (.getfield 13, 3) := by decide +kernel
theorem dd_M_text_116 : decode prog_9_method_13_code 116 = .ok (.iload_n 2, 1) := by decide +kernel
theorem dd_M_text_117 : decode prog_9_method_13_code 117 = .ok (.iaload, 1) := by decide +kernel
theorem dd_M_text_118 : decode prog_9_method_13_code 118 = .ok (.iastore, 1) := by decide +kernel
theorem dd_M_text_119 : decode prog_9_method_13_code 119 = .ok (.iinc 2 1, 3) := by decide +kernel
theorem dd_M_text_122 : decode prog_9_method_13_code 122 = .ok (.goto (-21), 3) := by decide +kernel
theorem dd_M_text_125 : decode prog_9_method_13_code 125 = .ok (.aload_n 0, 1) := by decide +kernel
theorem dd_M_text_126 : decode prog_9_method_13_code 126 = .ok (.aload_n 0, 1) := by decide +kernel
theorem dd_M_text_127 : decode prog_9_method_13_code 127 = .ok (.getfield 101, 3) := by decide +kernel
theorem dd_M_text_130 : decode prog_9_method_13_code 130 = .ok (.putfield 122, 3) := by decide +kernel
theorem dd_M_text_133 : decode prog_9_method_13_code 133 = .ok (.aload_n 0, 1) := by decide +kernel
theorem dd_M_text_134 : decode prog_9_method_13_code 134 = .ok (.iconst 0, 1) := by decide +kernel
theorem dd_M_text_135 : decode prog_9_method_13_code 135 = .ok (.putfield 125, 3) := by decide +kernel
theorem dd_M_text_138 : decode prog_9_method_13_code 138 = .ok (.aload_n 0, 1) := by decide +kernel
theorem dd_M_text_139 : decode prog_9_method_13_code 139 = .ok (.getfield 37, 3) := by decide +kernel
theorem dd_M_text_142 : decode prog_9_method_13_code 142 = .ok (.iconst 0, 1) := by decide +kernel
theorem dd_M_text_143 : decode prog_9_method_13_code 143 = .ok (.iconst 0, 1) := by decide +kernel
theorem dd_M_text_144 : decode prog_9_method_13_code 144 = .ok (.bastore, 1) := by decide +kernel
theorem dd_M_text_145 : decode prog_9_method_13_code 145 = .ok (.aload_n 0, 1) := by decide +kernel
theorem dd_M_text_146 : decode prog_9_method_13_code 146 = .ok (.getfield 37, 3) := by decide +kernel
theorem dd_M_text_149 : decode prog_9_method_13_code 149 = .ok (.iconst 1, 1) := by decide +kernel
theorem dd_M_text_150 : decode prog_9_method_13_code 150 = .ok (.iconst 0, 1) := by decide +kernel
theorem dd_M_text_151 : decode prog_9_method_13_code 151 = .ok (.bastore, 1) := by decide +kernel
theorem dd_M_text_152 : decode prog_9_method_13_code 152 = .ok (.iload_n 1, 1) := by decide +kernel
theorem dd_M_text_153 : decode prog_9_method_13_code 153 = .ok (.ireturn, 1) := by decide +kernel
theorem dd_M_fault_0 : decode prog_9_method_14_code 0 = .ok (.aload_n 0, 1) := by decide +kernel
theorem dd_M_fault_1 : decode prog_9_method_14_code 1 = .ok (.getfield 119, 3) := by decide +kernel
theorem dd_M_fault_4 : decode prog_9_method_14_code 4 = .ok (.ireturn, 1) := by decide +kernel
theorem dd_M_isGoods_0 : decode prog_9_method_15_code 0 = .ok (.iload_n 1, 1) := by decide +kernel
theorem dd_M_isGoods_1 : decode prog_9_method_15_code 1 = .ok (.i2l, 1) := by decide +kernel
theorem dd_M_isGoods_2 : decode prog_9_method_15_code 2 = .ok (.lconst 0, 1) := by decide +kernel
theorem dd_M_isGoods_3 : decode prog_9_method_15_code 3 = .ok (.aload_n 0, 1) := by decide +kernel
theorem dd_M_isGoods_4 : decode prog_9_method_15_code 4 = .ok (.getfield 7, 3) := by decide +kernel
theorem dd_M_isGoods_7 : decode prog_9_method_15_code 7 = .ok (.bipush 32, 2) := by decide +kernel
theorem dd_M_isGoods_9 : decode prog_9_method_15_code 9 = .ok (.iaload, 1) := by decide +kernel
theorem dd_M_isGoods_10 : decode prog_9_method_15_code 10 = .ok (.iconst 1, 1) := by decide +kernel
theorem dd_M_isGoods_11 : decode prog_9_method_15_code 11 = .ok (.isub, 1) := by decide +kernel
theorem dd_M_isGoods_12 : decode prog_9_method_15_code 12 = .ok (.i2l, 1) := by decide +kernel
theorem dd_M_isGoods_13 : decode prog_9_method_15_code 13 = .ok (.invokestatic 52, 3) := by decide +kernel
theorem dd_M_isGoods_16 : decode prog_9_method_15_code 16 = .ok (.ireturn, 1) := by decide +kernel
theorem dd_M_isOne_0 : decode prog_9_method_16_code 0 = .ok (.iload_n 1, 1) := by decide +kernel
theorem dd_M_isOne_1 : decode prog_9_method_16_code 1 = .ok (.i2l, 1) := by decide +kernel
theorem dd_M_isOne_2 : decode prog_9_method_16_code 2 = .ok (.lconst 0, 1) := by decide +kernel
theorem dd_M_isOne_3 : decode prog_9_method_16_code 3 = .ok (.aload_n 0, 1) := by decide +kernel
theorem dd_M_isOne_4 : decode prog_9_method_16_code 4 = .ok (.getfield 122, 3) := by decide +kernel
theorem dd_M_isOne_7 : decode prog_9_method_16_code 7 = .ok (.iconst 1, 1) := by decide +kernel
theorem dd_M_isOne_8 : decode prog_9_method_16_code 8 = .ok (.isub, 1) := by decide +kernel
theorem dd_M_isOne_9 : decode prog_9_method_16_code 9 = .ok (.i2l, 1) := by decide +kernel
theorem dd_M_isOne_10 : decode prog_9_method_16_code 10 = .ok (.invokestatic 52, 3) := by decide +kernel
theorem dd_M_isOne_13 : decode prog_9_method_16_code 13 = .ok (.ireturn, 1) := by decide +kernel
theorem dd_M_heftOn_0 : decode prog_9_method_17_code 0 = .ok (.aload_n 0, 1) := by decide +kernel
theorem dd_M_heftOn_1 : decode prog_9_method_17_code 1 = .ok (.getfield 7, 3) := by decide +kernel
theorem dd_M_heftOn_4 : decode prog_9_method_17_code 4 = .ok (.iload_n 1, 1) := by decide +kernel
theorem dd_M_heftOn_5 : decode prog_9_method_17_code 5 = .ok (.iload_n 2, 1) := by decide +kernel
theorem dd_M_heftOn_6 : decode prog_9_method_17_code 6 = .ok (.iadd, 1) := by decide +kernel
theorem dd_M_heftOn_7 : decode prog_9_method_17_code 7 = .ok (.iaload, 1) := by decide +kernel
theorem dd_M_heftOn_8 : decode prog_9_method_17_code 8 = .ok (.istore_n 3, 1) := by decide +kernel
theorem dd_M_heftOn_9 : decode prog_9_method_17_code 9 = .ok (.aload_n 0, 1) := by decide +kernel
theorem dd_M_heftOn_10 : decode prog_9_method_17_code 10 = .ok (.getfield 7, 3) := by decide +kernel
theorem dd_M_heftOn_13 : decode prog_9_method_17_code 13 = .ok (.iload_n 1, 1) := by decide +kernel
theorem dd_M_heftOn_14 : decode prog_9_method_17_code 14 = .ok (.bipush 8, 2) := by decide +kernel
theorem dd_M_heftOn_16 : decode prog_9_method_17_code 16 = .ok (.iadd, 1) := by decide +kernel
theorem dd_M_heftOn_17 : decode prog_9_method_17_code 17 = .ok (.iload_n 2, 1) := by decide +kernel
theorem dd_M_heftOn_18 : decode prog_9_method_17_code 18 = .ok (.iadd, 1) := by decide +kernel
theorem dd_M_heftOn_19 : decode prog_9_method_17_code 19 = .ok (.iaload, 1) := by decide +kernel
theorem dd_M_heftOn_20 : decode prog_9_method_17_code 20 = .ok (.istore 4, 2) := by decide +kernel
theorem dd_M_heftOn_22 : decode prog_9_method_17_code 22 = .ok (.iload_n 3, 1) := by decide +kernel
theorem dd_M_heftOn_23 : decode prog_9_method_17_code 23 = .ok (.ifCond .ne 8, 3) := by decide +kernel
theorem dd_M_heftOn_26 : decode prog_9_method_17_code 26 = .ok (.iload 4, 2) := by decide +kernel
theorem dd_M_heftOn_28 : decode prog_9_method_17_code 28 = .ok (.goto 35, 3) := by decide +kernel
theorem dd_M_heftOn_31 : decode prog_9_method_17_code 31 = .ok (.iload_n 3, 1) := by decide +kernel
theorem dd_M_heftOn_32 : decode prog_9_method_17_code 32 = .ok (.iconst 1, 1) := by decide +kernel
theorem dd_M_heftOn_33 : decode prog_9_method_17_code 33 = .ok (.if_icmp .ne 10, 3) := by decide +kernel
theorem dd_M_heftOn_36 : decode prog_9_method_17_code 36 = .ok (.iconst 2, 1) := by decide +kernel
theorem dd_M_heftOn_37 : decode prog_9_method_17_code 37 = .ok (.iload 4, 2) := by decide +kernel
theorem dd_M_heftOn_39 : decode prog_9_method_17_code 39 = .ok (.imul, 1) := by decide +kernel
theorem dd_M_heftOn_40 : decode prog_9_method_17_code 40 = .ok (.goto 23, 3) := by decide +kernel
theorem dd_M_heftOn_43 : decode prog_9_method_17_code 43 = .ok (.iload_n 3, 1) := by decide +kernel
theorem dd_M_heftOn_44 : decode prog_9_method_17_code 44 = .ok (.iconst 2, 1) := by decide +kernel
theorem dd_M_heftOn_45 : decode prog_9_method_17_code 45 = .ok (.if_icmp .ne 12, 3) := by decide +kernel
theorem dd_M_heftOn_48 : decode prog_9_method_17_code 48 = .ok (.iload 4, 2) := by decide +kernel
theorem dd_M_heftOn_50 : decode prog_9_method_17_code 50 = .ok (.iconst 1, 1) := by decide +kernel
theorem dd_M_heftOn_51 : decode prog_9_method_17_code 51 = .ok (.iadd, 1) := by decide +kernel
theorem dd_M_heftOn_52 : decode prog_9_method_17_code 52 = .ok (.iconst 2, 1) := by decide +kernel
theorem dd_M_heftOn_53 : decode prog_9_method_17_code 53 = .ok (.idiv, 1) := by decide +kernel
theorem dd_M_heftOn_54 : decode prog_9_method_17_code 54 = .ok (.goto 9, 3) := by decide +kernel
theorem dd_M_heftOn_57 : decode prog_9_method_17_code 57 = .ok (.iconst 2, 1) := by decide +kernel
theorem dd_M_heftOn_58 : decode prog_9_method_17_code 58 = .ok (.iload 4, 2) := by decide +kernel
theorem dd_M_heftOn_60 : decode prog_9_method_17_code 60 = .ok (.imul, 1) := by decide +kernel
theorem dd_M_heftOn_61 : decode prog_9_method_17_code 61 = .ok (.iconst 1, 1) := by decide +kernel
theorem dd_M_heftOn_62 : decode prog_9_method_17_code 62 = .ok (.isub, 1) := by decide +kernel
theorem dd_M_heftOn_63 : decode prog_9_method_17_code 63 = .ok (.ireturn, 1) := by decide +kernel
theorem dd_M_paysOn_0 : decode prog_9_method_18_code 0 = .ok (.aload_n 0, 1) := by decide +kernel
theorem dd_M_paysOn_1 : decode prog_9_method_18_code 1 = .ok (.getfield 7, 3) := by decide +kernel
theorem dd_M_paysOn_4 : decode prog_9_method_18_code 4 = .ok (.iload_n 1, 1) := by decide +kernel
theorem dd_M_paysOn_5 : decode prog_9_method_18_code 5 = .ok (.iload_n 2, 1) := by decide +kernel
theorem dd_M_paysOn_6 : decode prog_9_method_18_code 6 = .ok (.iadd, 1) := by decide +kernel
theorem dd_M_paysOn_7 : decode prog_9_method_18_code 7 = .ok (.iaload, 1) := by decide +kernel
theorem dd_M_paysOn_8 : decode prog_9_method_18_code 8 = .ok (.istore_n 3, 1) := by decide +kernel
theorem dd_M_paysOn_9 : decode prog_9_method_18_code 9 = .ok (.aload_n 0, 1) := by decide +kernel
theorem dd_M_paysOn_10 : decode prog_9_method_18_code 10 = .ok (.getfield 7, 3) := by decide +kernel
theorem dd_M_paysOn_13 : decode prog_9_method_18_code 13 = .ok (.iload_n 1, 1) := by decide +kernel
theorem dd_M_paysOn_14 : decode prog_9_method_18_code 14 = .ok (.bipush 16, 2) := by decide +kernel
theorem dd_M_paysOn_16 : decode prog_9_method_18_code 16 = .ok (.iadd, 1) := by decide +kernel
theorem dd_M_paysOn_17 : decode prog_9_method_18_code 17 = .ok (.iload_n 2, 1) := by decide +kernel
theorem dd_M_paysOn_18 : decode prog_9_method_18_code 18 = .ok (.iadd, 1) := by decide +kernel
theorem dd_M_paysOn_19 : decode prog_9_method_18_code 19 = .ok (.iaload, 1) := by decide +kernel
theorem dd_M_paysOn_20 : decode prog_9_method_18_code 20 = .ok (.istore 4, 2) := by decide +kernel
theorem dd_M_paysOn_22 : decode prog_9_method_18_code 22 = .ok (.iload_n 3, 1) := by decide +kernel
theorem dd_M_paysOn_23 : decode prog_9_method_18_code 23 = .ok (.iconst 2, 1) := by decide +kernel
theorem dd_M_paysOn_24 : decode prog_9_method_18_code 24 = .ok (.if_icmp .ge 8, 3) := by decide +kernel
theorem dd_M_paysOn_27 : decode prog_9_method_18_code 27 = .ok (.iload 4, 2) := by decide +kernel
theorem dd_M_paysOn_29 : decode prog_9_method_18_code 29 = .ok (.goto 29, 3) := by decide +kernel
theorem dd_M_paysOn_32 : decode prog_9_method_18_code 32 = .ok (.iload_n 3, 1) := by decide +kernel
theorem dd_M_paysOn_33 : decode prog_9_method_18_code 33 = .ok (.iconst 3, 1) := by decide +kernel
theorem dd_M_paysOn_34 : decode prog_9_method_18_code 34 = .ok (.if_icmp .ne 10, 3) := by decide +kernel
theorem dd_M_paysOn_37 : decode prog_9_method_18_code 37 = .ok (.iconst 2, 1) := by decide +kernel
theorem dd_M_paysOn_38 : decode prog_9_method_18_code 38 = .ok (.iload 4, 2) := by decide +kernel
theorem dd_M_paysOn_40 : decode prog_9_method_18_code 40 = .ok (.imul, 1) := by decide +kernel
theorem dd_M_paysOn_41 : decode prog_9_method_18_code 41 = .ok (.goto 17, 3) := by decide +kernel
theorem dd_M_paysOn_44 : decode prog_9_method_18_code 44 = .ok (.iload 4, 2) := by decide +kernel
theorem dd_M_paysOn_46 : decode prog_9_method_18_code 46 = .ok (.iconst 2, 1) := by decide +kernel
theorem dd_M_paysOn_47 : decode prog_9_method_18_code 47 = .ok (.if_icmp .le 10, 3) := by decide +kernel
theorem dd_M_paysOn_50 : decode prog_9_method_18_code 50 = .ok (.iload 4, 2) := by decide +kernel
theorem dd_M_paysOn_52 : decode prog_9_method_18_code 52 = .ok (.iconst 2, 1) := by decide +kernel
theorem dd_M_paysOn_53 : decode prog_9_method_18_code 53 = .ok (.isub, 1) := by decide +kernel
theorem dd_M_paysOn_54 : decode prog_9_method_18_code 54 = .ok (.goto 4, 3) := by decide +kernel
theorem dd_M_paysOn_57 : decode prog_9_method_18_code 57 = .ok (.iconst 0, 1) := by decide +kernel
theorem dd_M_paysOn_58 : decode prog_9_method_18_code 58 = .ok (.ireturn, 1) := by decide +kernel
theorem dd_M_bestFor_0 : decode prog_9_method_19_code 0 = .ok (.bipush (-4), 2) := by decide +kernel
theorem dd_M_bestFor_2 : decode prog_9_method_19_code 2 = .ok (.istore_n 3, 1) := by decide +kernel
theorem dd_M_bestFor_3 : decode prog_9_method_19_code 3 = .ok (.iconst (-1), 1) := by decide +kernel
theorem dd_M_bestFor_4 : decode prog_9_method_19_code 4 = .ok (.istore 4, 2) := by decide +kernel
theorem dd_M_bestFor_6 : decode prog_9_method_19_code 6 = .ok (.iconst 0, 1) := by decide +kernel
theorem dd_M_bestFor_7 : decode prog_9_method_19_code 7 = .ok (.istore 5, 2) := by decide +kernel
theorem dd_M_bestFor_9 : decode prog_9_method_19_code 9 = .ok (.iload 5, 2) := by decide +kernel
theorem dd_M_bestFor_11 : decode prog_9_method_19_code 11 = .ok (.aload_n 0, 1) := by decide +kernel
theorem dd_M_bestFor_12 : decode prog_9_method_19_code 12 = .ok (.getfield 7, 3) := by decide +kernel
theorem dd_M_bestFor_15 : decode prog_9_method_19_code 15 = .ok (.iload_n 1, 1) := by decide +kernel
theorem dd_M_bestFor_16 : decode prog_9_method_19_code 16 = .ok (.bipush 32, 2) := by decide +kernel
theorem dd_M_bestFor_18 : decode prog_9_method_19_code 18 = .ok (.iadd, 1) := by decide +kernel
theorem dd_M_bestFor_19 : decode prog_9_method_19_code 19 = .ok (.iaload, 1) := by decide +kernel
theorem dd_M_bestFor_20 : decode prog_9_method_19_code 20 = .ok (.if_icmp .ge 88, 3) := by decide +kernel
theorem dd_M_bestFor_23 : decode prog_9_method_19_code 23 = .ok (.aload_n 0, 1) := by decide +kernel
theorem dd_M_bestFor_24 : decode prog_9_method_19_code 24 = .ok (.getfield 7, 3) := by decide +kernel
theorem dd_M_bestFor_27 : decode prog_9_method_19_code 27 = .ok (.iload_n 1, 1) := by decide +kernel
theorem dd_M_bestFor_28 : decode prog_9_method_19_code 28 = .ok (.bipush 24, 2) := by decide +kernel
theorem dd_M_bestFor_30 : decode prog_9_method_19_code 30 = .ok (.iadd, 1) := by decide +kernel
theorem dd_M_bestFor_31 : decode prog_9_method_19_code 31 = .ok (.iload 5, 2) := by decide +kernel
theorem dd_M_bestFor_33 : decode prog_9_method_19_code 33 = .ok (.iadd, 1) := by decide +kernel
theorem dd_M_bestFor_34 : decode prog_9_method_19_code 34 = .ok (.iaload, 1) := by decide +kernel
theorem dd_M_bestFor_35 : decode prog_9_method_19_code 35 = .ok (.ifCond .ne 35, 3) := by decide +kernel
theorem dd_M_bestFor_38 : decode prog_9_method_19_code 38 = .ok (.aload_n 0, 1) := by decide +kernel
theorem dd_M_bestFor_39 : decode prog_9_method_19_code 39 = .ok (.getfield 28, 3) := by decide +kernel
theorem dd_M_bestFor_42 : decode prog_9_method_19_code 42 = .ok (.iload_n 2, 1) := by decide +kernel
theorem dd_M_bestFor_43 : decode prog_9_method_19_code 43 = .ok (.iaload, 1) := by decide +kernel
theorem dd_M_bestFor_44 : decode prog_9_method_19_code 44 = .ok (.aload_n 0, 1) := by decide +kernel
theorem dd_M_bestFor_45 : decode prog_9_method_19_code 45 = .ok (.iload_n 1, 1) := by decide +kernel
theorem dd_M_bestFor_46 : decode prog_9_method_19_code 46 = .ok (.iload 5, 2) := by decide +kernel
theorem dd_M_bestFor_48 : decode prog_9_method_19_code 48 = .ok (.invokevirtual 128, 3) := by decide +kernel
theorem dd_M_bestFor_51 : decode prog_9_method_19_code 51 = .ok (.iadd, 1) := by decide +kernel
theorem dd_M_bestFor_52 : decode prog_9_method_19_code 52 = .ok (.aload_n 0, 1) := by decide +kernel
theorem dd_M_bestFor_53 : decode prog_9_method_19_code 53 = .ok (.getfield 7, 3) := by decide +kernel
theorem dd_M_bestFor_56 : decode prog_9_method_19_code 56 = .ok (.iload_n 1, 1) := by decide +kernel
theorem dd_M_bestFor_57 : decode prog_9_method_19_code 57 = .ok (.bipush 33, 2) := by decide +kernel
theorem dd_M_bestFor_59 : decode prog_9_method_19_code 59 = .ok (.iadd, 1) := by decide +kernel
theorem dd_M_bestFor_60 : decode prog_9_method_19_code 60 = .ok (.iload_n 2, 1) := by decide +kernel
theorem dd_M_bestFor_61 : decode prog_9_method_19_code 61 = .ok (.iadd, 1) := by decide +kernel
theorem dd_M_bestFor_62 : decode prog_9_method_19_code 62 = .ok (.iaload, 1) := by decide +kernel
theorem dd_M_bestFor_63 : decode prog_9_method_19_code 63 = .ok (.if_icmp .gt 7, 3) := by decide +kernel
theorem dd_M_bestFor_66 : decode prog_9_method_19_code 66 = .ok (.iconst 1, 1) := by decide +kernel
theorem dd_M_bestFor_67 : decode prog_9_method_19_code 67 = .ok (.goto 4, 3) := by decide +kernel
theorem dd_M_bestFor_70 : decode prog_9_method_19_code 70 = .ok (.iconst 0, 1) := by decide +kernel
theorem dd_M_bestFor_71 : decode prog_9_method_19_code 71 = .ok (.istore 6, 2) := by decide +kernel
theorem dd_M_bestFor_73 : decode prog_9_method_19_code 73 = .ok (.iload 6, 2) := by decide +kernel
theorem dd_M_bestFor_75 : decode prog_9_method_19_code 75 = .ok (.ifCond .eq 27, 3) := by decide +kernel
theorem dd_M_bestFor_78 : decode prog_9_method_19_code 78 = .ok (.aload_n 0, 1) := by decide +kernel
theorem dd_M_bestFor_79 : decode prog_9_method_19_code 79 = .ok (.iload_n 1, 1) := by decide +kernel
theorem dd_M_bestFor_80 : decode prog_9_method_19_code 80 = .ok (.iload 5, 2) := by decide +kernel
theorem dd_M_bestFor_82 : decode prog_9_method_19_code 82 = .ok (.invokevirtual 131, 3) := by decide +kernel
theorem dd_M_bestFor_85 : decode prog_9_method_19_code 85 = .ok (.iload 4, 2) := by decide +kernel
theorem dd_M_bestFor_87 : decode prog_9_method_19_code 87 = .ok (.if_icmp .le 15, 3) := by decide +kernel
theorem dd_M_bestFor_90 : decode prog_9_method_19_code 90 = .ok (.iload 5, 2) := by decide +kernel
theorem dd_M_bestFor_92 : decode prog_9_method_19_code 92 = .ok (.istore_n 3, 1) := by decide +kernel
theorem dd_M_bestFor_93 : decode prog_9_method_19_code 93 = .ok (.aload_n 0, 1) := by decide +kernel
theorem dd_M_bestFor_94 : decode prog_9_method_19_code 94 = .ok (.iload_n 1, 1) := by decide +kernel
theorem dd_M_bestFor_95 : decode prog_9_method_19_code 95 = .ok (.iload 5, 2) := by decide +kernel
theorem dd_M_bestFor_97 : decode prog_9_method_19_code 97 = .ok (.invokevirtual 131, 3) := by decide +kernel
theorem dd_M_bestFor_100 : decode prog_9_method_19_code 100 = .ok (.istore 4, 2) := by decide +kernel
theorem dd_M_bestFor_102 : decode prog_9_method_19_code 102 = .ok (.iinc 5 1, 3) := by decide +kernel
theorem dd_M_bestFor_105 : decode prog_9_method_19_code 105 = .ok (.goto (-96), 3) := by decide +kernel
theorem dd_M_bestFor_108 : decode prog_9_method_19_code 108 = .ok (.iload_n 3, 1) := by decide +kernel
theorem dd_M_bestFor_109 : decode prog_9_method_19_code 109 = .ok (.ireturn, 1) := by decide +kernel
theorem dd_M_roundsOn_0 : decode prog_9_method_20_code 0 = .ok (.aload_n 0, 1) := by decide +kernel
theorem dd_M_roundsOn_1 : decode prog_9_method_20_code 1 = .ok (.iconst 0, 1) := by decide +kernel
theorem dd_M_roundsOn_2 : decode prog_9_method_20_code 2 = .ok (.putfield 134, 3) := by decide +kernel
theorem dd_M_roundsOn_5 : decode prog_9_method_20_code 5 = .ok (.iconst 0, 1) := by decide +kernel
theorem dd_M_roundsOn_6 : decode prog_9_method_20_code 6 = .ok (.istore 4, 2) := by decide +kernel
theorem dd_M_roundsOn_8 : decode prog_9_method_20_code 8 = .ok (.iload 4, 2) := by decide +kernel
theorem dd_M_roundsOn_10 : decode prog_9_method_20_code 10 = .ok (.iconst 4, 1) := by decide +kernel
theorem dd_M_roundsOn_11 : decode prog_9_method_20_code 11 = .ok (.if_icmp .ge 25, 3) := by decide +kernel
theorem dd_M_roundsOn_14 : decode prog_9_method_20_code 14 = .ok (.aload_n 0, 1) := by decide +kernel
theorem dd_M_roundsOn_15 : decode prog_9_method_20_code 15 = .ok (.getfield 25, 3) := by decide +kernel
theorem dd_M_roundsOn_18 : decode prog_9_method_20_code 18 = .ok (.iload 4, 2) := by decide +kernel
theorem dd_M_roundsOn_20 : decode prog_9_method_20_code 20 = .ok (.iconst 0, 1) := by decide +kernel
theorem dd_M_roundsOn_21 : decode prog_9_method_20_code 21 = .ok (.iastore, 1) := by decide +kernel
theorem dd_M_roundsOn_22 : decode prog_9_method_20_code 22 = .ok (.aload_n 0, 1) := by decide +kernel
theorem dd_M_roundsOn_23 : decode prog_9_method_20_code 23 = .ok (.getfield 28, 3) := by decide +kernel
theorem dd_M_roundsOn_26 : decode prog_9_method_20_code 26 = .ok (.iload 4, 2) := by decide +kernel
theorem dd_M_roundsOn_28 : decode prog_9_method_20_code 28 = .ok (.iconst 0, 1) := by decide +kernel
theorem dd_M_roundsOn_29 : decode prog_9_method_20_code 29 = .ok (.iastore, 1) := by decide +kernel
theorem dd_M_roundsOn_30 : decode prog_9_method_20_code 30 = .ok (.iinc 4 1, 3) := by decide +kernel
theorem dd_M_roundsOn_33 : decode prog_9_method_20_code 33 = .ok (.goto (-25), 3) := by decide +kernel
theorem dd_M_roundsOn_36 : decode prog_9_method_20_code 36 = .ok (.iconst 0, 1) := by decide +kernel
theorem dd_M_roundsOn_37 : decode prog_9_method_20_code 37 = .ok (.istore 4, 2) := by decide +kernel
theorem dd_M_roundsOn_39 : decode prog_9_method_20_code 39 = .ok (.iload 4, 2) := by decide +kernel
theorem dd_M_roundsOn_41 : decode prog_9_method_20_code 41 = .ok (.iload_n 2, 1) := by decide +kernel
theorem dd_M_roundsOn_42 : decode prog_9_method_20_code 42 = .ok (.if_icmp .ge 125, 3) := by decide +kernel
theorem dd_M_roundsOn_45 : decode prog_9_method_20_code 45 = .ok (.iconst 0, 1) := by decide +kernel
theorem dd_M_roundsOn_46 : decode prog_9_method_20_code 46 = .ok (.istore 5, 2) := by decide +kernel
theorem dd_M_roundsOn_48 : decode prog_9_method_20_code 48 = .ok (.iload 5, 2) := by decide +kernel
theorem dd_M_roundsOn_50 : decode prog_9_method_20_code 50 = .ok (.aload_n 0, 1) := by decide +kernel
theorem dd_M_roundsOn_51 : decode prog_9_method_20_code 51 = .ok (.getfield 122, 3) := by decide +kernel
theorem dd_M_roundsOn_54 : decode prog_9_method_20_code 54 = .ok (.if_icmp .ge 107, 3) := by decide +kernel
theorem dd_M_roundsOn_57 : decode prog_9_method_20_code 57 = .ok (.iload_n 3, 1) := by decide +kernel
theorem dd_M_roundsOn_58 : decode prog_9_method_20_code 58 = .ok (.iload 5, 2) := by decide +kernel
theorem dd_M_roundsOn_60 : decode prog_9_method_20_code 60 = .ok (.ishr, 1) := by decide +kernel
theorem dd_M_roundsOn_61 : decode prog_9_method_20_code 61 = .ok (.iconst 1, 1) := by decide +kernel
theorem dd_M_roundsOn_62 : decode prog_9_method_20_code 62 = .ok (.iand, 1) := by decide +kernel
theorem dd_M_roundsOn_63 : decode prog_9_method_20_code 63 = .ok (.iconst 1, 1) := by decide +kernel
theorem dd_M_roundsOn_64 : decode prog_9_method_20_code 64 = .ok (.if_icmp .ne 8, 3) := by decide +kernel
theorem dd_M_roundsOn_67 : decode prog_9_method_20_code 67 = .ok (.bipush (-4), 2) := by decide +kernel
theorem dd_M_roundsOn_69 : decode prog_9_method_20_code 69 = .ok (.goto 10, 3) := by decide +kernel
theorem dd_M_roundsOn_72 : decode prog_9_method_20_code 72 = .ok (.aload_n 0, 1) := by decide +kernel
theorem dd_M_roundsOn_73 : decode prog_9_method_20_code 73 = .ok (.iload_n 1, 1) := by decide +kernel
theorem dd_M_roundsOn_74 : decode prog_9_method_20_code 74 = .ok (.iload 5, 2) := by decide +kernel
theorem dd_M_roundsOn_76 : decode prog_9_method_20_code 76 = .ok (.invokevirtual 137, 3) := by decide +kernel
theorem dd_M_roundsOn_79 : decode prog_9_method_20_code 79 = .ok (.istore 6, 2) := by decide +kernel
theorem dd_M_roundsOn_81 : decode prog_9_method_20_code 81 = .ok (.iload 6, 2) := by decide +kernel
theorem dd_M_roundsOn_83 : decode prog_9_method_20_code 83 = .ok (.bipush (-4), 2) := by decide +kernel
theorem dd_M_roundsOn_85 : decode prog_9_method_20_code 85 = .ok (.if_icmp .eq 70, 3) := by decide +kernel
theorem dd_M_roundsOn_88 : decode prog_9_method_20_code 88 = .ok (.aload_n 0, 1) := by decide +kernel
theorem dd_M_roundsOn_89 : decode prog_9_method_20_code 89 = .ok (.getfield 7, 3) := by decide +kernel
theorem dd_M_roundsOn_92 : decode prog_9_method_20_code 92 = .ok (.iload_n 1, 1) := by decide +kernel
theorem dd_M_roundsOn_93 : decode prog_9_method_20_code 93 = .ok (.bipush 24, 2) := by decide +kernel
theorem dd_M_roundsOn_95 : decode prog_9_method_20_code 95 = .ok (.iadd, 1) := by decide +kernel
theorem dd_M_roundsOn_96 : decode prog_9_method_20_code 96 = .ok (.iload 6, 2) := by decide +kernel
theorem dd_M_roundsOn_98 : decode prog_9_method_20_code 98 = .ok (.iadd, 1) := by decide +kernel
theorem dd_M_roundsOn_99 : decode prog_9_method_20_code 99 = .ok (.iconst 1, 1) := by decide +kernel
theorem dd_M_roundsOn_100 : decode prog_9_method_20_code 100 = .ok (.iastore, 1) := by decide +kernel
theorem dd_M_roundsOn_101 : decode prog_9_method_20_code 101 = .ok (.aload_n 0, 1) := by decide +kernel
theorem dd_M_roundsOn_102 : decode prog_9_method_20_code 102 = .ok (.getfield 25, 3) := by decide +kernel
theorem dd_M_roundsOn_105 : decode prog_9_method_20_code 105 = .ok (.iload 5, 2) := by decide +kernel
theorem dd_M_roundsOn_107 : decode prog_9_method_20_code 107 = .ok (.dup2, 1) := by decide +kernel
theorem dd_M_roundsOn_108 : decode prog_9_method_20_code 108 = .ok (.iaload, 1) := by decide +kernel
theorem dd_M_roundsOn_109 : decode prog_9_method_20_code 109 = .ok (.iconst 1, 1) := by decide +kernel
theorem dd_M_roundsOn_110 : decode prog_9_method_20_code 110 = .ok (.iload 6, 2) := by decide +kernel
theorem dd_M_roundsOn_112 : decode prog_9_method_20_code 112 = .ok (.ishl, 1) := by decide +kernel
theorem dd_M_roundsOn_113 : decode prog_9_method_20_code 113 = .ok (.ior, 1) := by decide +kernel
theorem dd_M_roundsOn_114 : decode prog_9_method_20_code 114 = .ok (.iastore, 1) := by decide +kernel
theorem dd_M_roundsOn_115 : decode prog_9_method_20_code 115 = .ok (.aload_n 0, 1) := by decide +kernel
theorem dd_M_roundsOn_116 : decode prog_9_method_20_code 116 = .ok (.getfield 28, 3) := by decide +kernel
theorem dd_M_roundsOn_119 : decode prog_9_method_20_code 119 = .ok (.iload 5, 2) := by decide +kernel
theorem dd_M_roundsOn_121 : decode prog_9_method_20_code 121 = .ok (.dup2, 1) := by decide +kernel
theorem dd_M_roundsOn_122 : decode prog_9_method_20_code 122 = .ok (.iaload, 1) := by decide +kernel
theorem dd_M_roundsOn_123 : decode prog_9_method_20_code 123 = .ok (.aload_n 0, 1) := by decide +kernel
theorem dd_M_roundsOn_124 : decode prog_9_method_20_code 124 = .ok (.iload_n 1, 1) := by decide +kernel
theorem dd_M_roundsOn_125 : decode prog_9_method_20_code 125 = .ok (.iload 6, 2) := by decide +kernel
theorem dd_M_roundsOn_127 : decode prog_9_method_20_code 127 = .ok (.invokevirtual 128, 3) := by decide +kernel
theorem dd_M_roundsOn_130 : decode prog_9_method_20_code 130 = .ok (.iadd, 1) := by decide +kernel
theorem dd_M_roundsOn_131 : decode prog_9_method_20_code 131 = .ok (.iastore, 1) := by decide +kernel
theorem dd_M_roundsOn_132 : decode prog_9_method_20_code 132 = .ok (.aload_n 0, 1) := by decide +kernel
theorem dd_M_roundsOn_133 : decode prog_9_method_20_code 133 = .ok (.dup, 1) := by decide +kernel
theorem dd_M_roundsOn_134 : decode prog_9_method_20_code 134 = .ok (.getfield 134, 3) := by decide +kernel
theorem dd_M_roundsOn_137 : decode prog_9_method_20_code 137 = .ok (.iconst 1, 1) := by decide +kernel
theorem dd_M_roundsOn_138 : decode prog_9_method_20_code 138 = .ok (.iload 6, 2) := by decide +kernel
theorem dd_M_roundsOn_140 : decode prog_9_method_20_code 140 = .ok (.ishl, 1) := by decide +kernel
theorem dd_M_roundsOn_141 : decode prog_9_method_20_code 141 = .ok (.ior, 1) := by decide +kernel
theorem dd_M_roundsOn_142 : decode prog_9_method_20_code 142 = .ok (.putfield 134, 3) := by decide +kernel
theorem dd_M_roundsOn_145 : decode prog_9_method_20_code 145 = .ok (.aload_n 0, 1) := by decide +kernel
theorem dd_M_roundsOn_146 : decode prog_9_method_20_code 146 = .ok (.dup, 1) := by decide +kernel
theorem dd_M_roundsOn_147 : decode prog_9_method_20_code 147 = .ok (.getfield 140, 3) := by decide +kernel
theorem dd_M_roundsOn_150 : decode prog_9_method_20_code 150 = .ok (.iconst 1, 1) := by decide +kernel
theorem dd_M_roundsOn_151 : decode prog_9_method_20_code 151 = .ok (.iadd, 1) := by decide +kernel
theorem dd_M_roundsOn_152 : decode prog_9_method_20_code 152 = .ok (.putfield 140, 3) := by decide +kernel
theorem dd_M_roundsOn_155 : decode prog_9_method_20_code 155 = .ok (.iinc 5 1, 3) := by decide +kernel
theorem dd_M_roundsOn_158 : decode prog_9_method_20_code 158 = .ok (.goto (-110), 3) := by decide +kernel
theorem dd_M_roundsOn_161 : decode prog_9_method_20_code 161 = .ok (.iinc 4 1, 3) := by decide +kernel
theorem dd_M_roundsOn_164 : decode prog_9_method_20_code 164 = .ok (.goto (-125), 3) := by decide +kernel
theorem dd_M_roundsOn_167 : decode prog_9_method_20_code 167 = .ok (.return_, 1) := by decide +kernel
theorem dd_M_paysAll_0 : decode prog_9_method_21_code 0 = .ok (.iconst 0, 1) := by decide +kernel
theorem dd_M_paysAll_1 : decode prog_9_method_21_code 1 = .ok (.istore_n 3, 1) := by decide +kernel
theorem dd_M_paysAll_2 : decode prog_9_method_21_code 2 = .ok (.iconst 0, 1) := by decide +kernel
theorem dd_M_paysAll_3 : decode prog_9_method_21_code 3 = .ok (.istore 4, 2) := by decide +kernel
theorem dd_M_paysAll_5 : decode prog_9_method_21_code 5 = .ok (.iload 4, 2) := by decide +kernel
theorem dd_M_paysAll_7 : decode prog_9_method_21_code 7 = .ok (.aload_n 0, 1) := by decide +kernel
theorem dd_M_paysAll_8 : decode prog_9_method_21_code 8 = .ok (.getfield 7, 3) := by decide +kernel
theorem dd_M_paysAll_11 : decode prog_9_method_21_code 11 = .ok (.iload_n 1, 1) := by decide +kernel
theorem dd_M_paysAll_12 : decode prog_9_method_21_code 12 = .ok (.bipush 32, 2) := by decide +kernel
theorem dd_M_paysAll_14 : decode prog_9_method_21_code 14 = .ok (.iadd, 1) := by decide +kernel
theorem dd_M_paysAll_15 : decode prog_9_method_21_code 15 = .ok (.iaload, 1) := by decide +kernel
theorem dd_M_paysAll_16 : decode prog_9_method_21_code 16 = .ok (.if_icmp .ge 33, 3) := by decide +kernel
theorem dd_M_paysAll_19 : decode prog_9_method_21_code 19 = .ok (.iload_n 3, 1) := by decide +kernel
theorem dd_M_paysAll_20 : decode prog_9_method_21_code 20 = .ok (.iload_n 2, 1) := by decide +kernel
theorem dd_M_paysAll_21 : decode prog_9_method_21_code 21 = .ok (.iload 4, 2) := by decide +kernel
theorem dd_M_paysAll_23 : decode prog_9_method_21_code 23 = .ok (.ishr, 1) := by decide +kernel
theorem dd_M_paysAll_24 : decode prog_9_method_21_code 24 = .ok (.iconst 1, 1) := by decide +kernel
theorem dd_M_paysAll_25 : decode prog_9_method_21_code 25 = .ok (.iand, 1) := by decide +kernel
theorem dd_M_paysAll_26 : decode prog_9_method_21_code 26 = .ok (.iconst 1, 1) := by decide +kernel
theorem dd_M_paysAll_27 : decode prog_9_method_21_code 27 = .ok (.if_icmp .ne 13, 3) := by decide +kernel
theorem dd_M_paysAll_30 : decode prog_9_method_21_code 30 = .ok (.aload_n 0, 1) := by decide +kernel
theorem dd_M_paysAll_31 : decode prog_9_method_21_code 31 = .ok (.iload_n 1, 1) := by decide +kernel
theorem dd_M_paysAll_32 : decode prog_9_method_21_code 32 = .ok (.iload 4, 2) := by decide +kernel
theorem dd_M_paysAll_34 : decode prog_9_method_21_code 34 = .ok (.invokevirtual 131, 3) := by decide +kernel
theorem dd_M_paysAll_37 : decode prog_9_method_21_code 37 = .ok (.goto 4, 3) := by decide +kernel
theorem dd_M_paysAll_40 : decode prog_9_method_21_code 40 = .ok (.iconst 0, 1) := by decide +kernel
theorem dd_M_paysAll_41 : decode prog_9_method_21_code 41 = .ok (.iadd, 1) := by decide +kernel
theorem dd_M_paysAll_42 : decode prog_9_method_21_code 42 = .ok (.istore_n 3, 1) := by decide +kernel
theorem dd_M_paysAll_43 : decode prog_9_method_21_code 43 = .ok (.iinc 4 1, 3) := by decide +kernel
theorem dd_M_paysAll_46 : decode prog_9_method_21_code 46 = .ok (.goto (-41), 3) := by decide +kernel
theorem dd_M_paysAll_49 : decode prog_9_method_21_code 49 = .ok (.iload_n 3, 1) := by decide +kernel
theorem dd_M_paysAll_50 : decode prog_9_method_21_code 50 = .ok (.ireturn, 1) := by decide +kernel
theorem dd_M_weekOn_0 : decode prog_9_method_22_code 0 = .ok (.aload_n 0, 1) := by decide +kernel
theorem dd_M_weekOn_1 : decode prog_9_method_22_code 1 = .ok (.iload_n 1, 1) := by decide +kernel
theorem dd_M_weekOn_2 : decode prog_9_method_22_code 2 = .ok (.iload_n 2, 1) := by decide +kernel
theorem dd_M_weekOn_3 : decode prog_9_method_22_code 3 = .ok (.iload_n 3, 1) := by decide +kernel
theorem dd_M_weekOn_4 : decode prog_9_method_22_code 4 = .ok (.invokevirtual 143, 3) := by decide +kernel
theorem dd_M_weekOn_7 : decode prog_9_method_22_code 7 = .ok (.iconst 0, 1) := by decide +kernel
theorem dd_M_weekOn_8 : decode prog_9_method_22_code 8 = .ok (.istore 4, 2) := by decide +kernel
theorem dd_M_weekOn_10 : decode prog_9_method_22_code 10 = .ok (.iload 4, 2) := by decide +kernel
theorem dd_M_weekOn_12 : decode prog_9_method_22_code 12 = .ok (.aload_n 0, 1) := by decide +kernel
theorem dd_M_weekOn_13 : decode prog_9_method_22_code 13 = .ok (.getfield 122, 3) := by decide +kernel
theorem dd_M_weekOn_16 : decode prog_9_method_22_code 16 = .ok (.if_icmp .ge 127, 3) := by decide +kernel
theorem dd_M_weekOn_19 : decode prog_9_method_22_code 19 = .ok (.aload_n 0, 1) := by decide +kernel
theorem dd_M_weekOn_20 : decode prog_9_method_22_code 20 = .ok (.getfield 7, 3) := by decide +kernel
theorem dd_M_weekOn_23 : decode prog_9_method_22_code 23 = .ok (.iload_n 1, 1) := by decide +kernel
theorem dd_M_weekOn_24 : decode prog_9_method_22_code 24 = .ok (.bipush 37, 2) := by decide +kernel
theorem dd_M_weekOn_26 : decode prog_9_method_22_code 26 = .ok (.iadd, 1) := by decide +kernel
theorem dd_M_weekOn_27 : decode prog_9_method_22_code 27 = .ok (.iload 4, 2) := by decide +kernel
theorem dd_M_weekOn_29 : decode prog_9_method_22_code 29 = .ok (.iadd, 1) := by decide +kernel
theorem dd_M_weekOn_30 : decode prog_9_method_22_code 30 = .ok (.iaload, 1) := by decide +kernel
theorem dd_M_weekOn_31 : decode prog_9_method_22_code 31 = .ok (.aload_n 0, 1) := by decide +kernel
theorem dd_M_weekOn_32 : decode prog_9_method_22_code 32 = .ok (.iload_n 1, 1) := by decide +kernel
theorem dd_M_weekOn_33 : decode prog_9_method_22_code 33 = .ok (.aload_n 0, 1) := by decide +kernel
theorem dd_M_weekOn_34 : decode prog_9_method_22_code 34 = .ok (.getfield 25, 3) := by decide +kernel
theorem dd_M_weekOn_37 : decode prog_9_method_22_code 37 = .ok (.iload 4, 2) := by decide +kernel
theorem dd_M_weekOn_39 : decode prog_9_method_22_code 39 = .ok (.iaload, 1) := by decide +kernel
theorem dd_M_weekOn_40 : decode prog_9_method_22_code 40 = .ok (.invokevirtual 147, 3) := by decide +kernel
theorem dd_M_weekOn_43 : decode prog_9_method_22_code 43 = .ok (.iadd, 1) := by decide +kernel
theorem dd_M_weekOn_44 : decode prog_9_method_22_code 44 = .ok (.istore 5, 2) := by decide +kernel
theorem dd_M_weekOn_46 : decode prog_9_method_22_code 46 = .ok (.aload_n 0, 1) := by decide +kernel
theorem dd_M_weekOn_47 : decode prog_9_method_22_code 47 = .ok (.getfield 7, 3) := by decide +kernel
theorem dd_M_weekOn_50 : decode prog_9_method_22_code 50 = .ok (.iload_n 1, 1) := by decide +kernel
theorem dd_M_weekOn_51 : decode prog_9_method_22_code 51 = .ok (.bipush 37, 2) := by decide +kernel
theorem dd_M_weekOn_53 : decode prog_9_method_22_code 53 = .ok (.iadd, 1) := by decide +kernel
theorem dd_M_weekOn_54 : decode prog_9_method_22_code 54 = .ok (.iload 4, 2) := by decide +kernel
theorem dd_M_weekOn_56 : decode prog_9_method_22_code 56 = .ok (.iadd, 1) := by decide +kernel
theorem dd_M_weekOn_57 : decode prog_9_method_22_code 57 = .ok (.iload 5, 2) := by decide +kernel
theorem dd_M_weekOn_59 : decode prog_9_method_22_code 59 = .ok (.sipush 999, 3) := by decide +kernel
theorem dd_M_weekOn_62 : decode prog_9_method_22_code 62 = .ok (.if_icmp .le 9, 3) := by decide +kernel
theorem dd_M_weekOn_65 : decode prog_9_method_22_code 65 = .ok (.sipush 999, 3) := by decide +kernel
theorem dd_M_weekOn_68 : decode prog_9_method_22_code 68 = .ok (.goto 5, 3) := by decide +kernel
theorem dd_M_weekOn_71 : decode prog_9_method_22_code 71 = .ok (.iload 5, 2) := by decide +kernel
theorem dd_M_weekOn_73 : decode prog_9_method_22_code 73 = .ok (.iastore, 1) := by decide +kernel
theorem dd_M_weekOn_74 : decode prog_9_method_22_code 74 = .ok (.aload_n 0, 1) := by decide +kernel
theorem dd_M_weekOn_75 : decode prog_9_method_22_code 75 = .ok (.getfield 28, 3) := by decide +kernel
theorem dd_M_weekOn_78 : decode prog_9_method_22_code 78 = .ok (.iload 4, 2) := by decide +kernel
theorem dd_M_weekOn_80 : decode prog_9_method_22_code 80 = .ok (.iaload, 1) := by decide +kernel
theorem dd_M_weekOn_81 : decode prog_9_method_22_code 81 = .ok (.aload_n 0, 1) := by decide +kernel
theorem dd_M_weekOn_82 : decode prog_9_method_22_code 82 = .ok (.getfield 7, 3) := by decide +kernel
theorem dd_M_weekOn_85 : decode prog_9_method_22_code 85 = .ok (.iload_n 1, 1) := by decide +kernel
theorem dd_M_weekOn_86 : decode prog_9_method_22_code 86 = .ok (.bipush 33, 2) := by decide +kernel
theorem dd_M_weekOn_88 : decode prog_9_method_22_code 88 = .ok (.iadd, 1) := by decide +kernel
theorem dd_M_weekOn_89 : decode prog_9_method_22_code 89 = .ok (.iload 4, 2) := by decide +kernel
theorem dd_M_weekOn_91 : decode prog_9_method_22_code 91 = .ok (.iadd, 1) := by decide +kernel
theorem dd_M_weekOn_92 : decode prog_9_method_22_code 92 = .ok (.iaload, 1) := by decide +kernel
theorem dd_M_weekOn_93 : decode prog_9_method_22_code 93 = .ok (.if_icmp .ne 44, 3) := by decide +kernel
theorem dd_M_weekOn_96 : decode prog_9_method_22_code 96 = .ok (.aload_n 0, 1) := by decide +kernel
theorem dd_M_weekOn_97 : decode prog_9_method_22_code 97 = .ok (.dup, 1) := by decide +kernel
theorem dd_M_weekOn_98 : decode prog_9_method_22_code 98 = .ok (.getfield 150, 3) := by decide +kernel
theorem dd_M_weekOn_101 : decode prog_9_method_22_code 101 = .ok (.iconst 1, 1) := by decide +kernel
theorem dd_M_weekOn_102 : decode prog_9_method_22_code 102 = .ok (.iadd, 1) := by decide +kernel
theorem dd_M_weekOn_103 : decode prog_9_method_22_code 103 = .ok (.putfield 150, 3) := by decide +kernel
theorem dd_M_weekOn_106 : decode prog_9_method_22_code 106 = .ok (.aload_n 0, 1) := by decide +kernel
theorem dd_M_weekOn_107 : decode prog_9_method_22_code 107 = .ok (.getfield 7, 3) := by decide +kernel
theorem dd_M_weekOn_110 : decode prog_9_method_22_code 110 = .ok (.iload_n 1, 1) := by decide +kernel
theorem dd_M_weekOn_111 : decode prog_9_method_22_code 111 = .ok (.bipush 33, 2) := by decide +kernel
theorem dd_M_weekOn_113 : decode prog_9_method_22_code 113 = .ok (.iadd, 1) := by decide +kernel
theorem dd_M_weekOn_114 : decode prog_9_method_22_code 114 = .ok (.iload 4, 2) := by decide +kernel
theorem dd_M_weekOn_116 : decode prog_9_method_22_code 116 = .ok (.iadd, 1) := by decide +kernel
theorem dd_M_weekOn_117 : decode prog_9_method_22_code 117 = .ok (.dup2, 1) := by decide +kernel
theorem dd_M_weekOn_118 : decode prog_9_method_22_code 118 = .ok (.iaload, 1) := by decide +kernel
theorem dd_M_weekOn_119 : decode prog_9_method_22_code 119 = .ok (.aload_n 0, 1) := by decide +kernel
theorem dd_M_weekOn_120 : decode prog_9_method_22_code 120 = .ok (.getfield 28, 3) := by decide +kernel
theorem dd_M_weekOn_123 : decode prog_9_method_22_code 123 = .ok (.iload 4, 2) := by decide +kernel
theorem dd_M_weekOn_125 : decode prog_9_method_22_code 125 = .ok (.iaload, 1) := by decide +kernel
theorem dd_M_weekOn_126 : decode prog_9_method_22_code 126 = .ok (.iconst 1, 1) := by decide +kernel
theorem dd_M_weekOn_127 : decode prog_9_method_22_code 127 = .ok (.if_icmp .le 7, 3) := by decide +kernel
theorem dd_M_weekOn_130 : decode prog_9_method_22_code 130 = .ok (.iconst 1, 1) := by decide +kernel
theorem dd_M_weekOn_131 : decode prog_9_method_22_code 131 = .ok (.goto 4, 3) := by decide +kernel
theorem dd_M_weekOn_134 : decode prog_9_method_22_code 134 = .ok (.iconst 0, 1) := by decide +kernel
theorem dd_M_weekOn_135 : decode prog_9_method_22_code 135 = .ok (.isub, 1) := by decide +kernel
theorem dd_M_weekOn_136 : decode prog_9_method_22_code 136 = .ok (.iastore, 1) := by decide +kernel
theorem dd_M_weekOn_137 : decode prog_9_method_22_code 137 = .ok (.iinc 4 1, 3) := by decide +kernel
theorem dd_M_weekOn_140 : decode prog_9_method_22_code 140 = .ok (.goto (-130), 3) := by decide +kernel
theorem dd_M_weekOn_143 : decode prog_9_method_22_code 143 = .ok (.aload_n 0, 1) := by decide +kernel
theorem dd_M_weekOn_144 : decode prog_9_method_22_code 144 = .ok (.getfield 7, 3) := by decide +kernel
theorem dd_M_weekOn_147 : decode prog_9_method_22_code 147 = .ok (.iload_n 1, 1) := by decide +kernel
theorem dd_M_weekOn_148 : decode prog_9_method_22_code 148 = .ok (.bipush 42, 2) := by decide +kernel
theorem dd_M_weekOn_150 : decode prog_9_method_22_code 150 = .ok (.iadd, 1) := by decide +kernel
theorem dd_M_weekOn_151 : decode prog_9_method_22_code 151 = .ok (.iaload, 1) := by decide +kernel
theorem dd_M_weekOn_152 : decode prog_9_method_22_code 152 = .ok (.iconst 2, 1) := by decide +kernel
theorem dd_M_weekOn_153 : decode prog_9_method_22_code 153 = .ok (.iadd, 1) := by decide +kernel
theorem dd_M_weekOn_154 : decode prog_9_method_22_code 154 = .ok (.istore 4, 2) := by decide +kernel
theorem dd_M_weekOn_156 : decode prog_9_method_22_code 156 = .ok (.iconst 0, 1) := by decide +kernel
theorem dd_M_weekOn_157 : decode prog_9_method_22_code 157 = .ok (.istore 5, 2) := by decide +kernel
theorem dd_M_weekOn_159 : decode prog_9_method_22_code 159 = .ok (.iload 5, 2) := by decide +kernel
theorem dd_M_weekOn_161 : decode prog_9_method_22_code 161 = .ok (.aload_n 0, 1) := by decide +kernel
theorem dd_M_weekOn_162 : decode prog_9_method_22_code 162 = .ok (.getfield 7, 3) := by decide +kernel
theorem dd_M_weekOn_165 : decode prog_9_method_22_code 165 = .ok (.iload_n 1, 1) := by decide +kernel
theorem dd_M_weekOn_166 : decode prog_9_method_22_code 166 = .ok (.bipush 32, 2) := by decide +kernel
theorem dd_M_weekOn_168 : decode prog_9_method_22_code 168 = .ok (.iadd, 1) := by decide +kernel
theorem dd_M_weekOn_169 : decode prog_9_method_22_code 169 = .ok (.iaload, 1) := by decide +kernel
theorem dd_M_weekOn_170 : decode prog_9_method_22_code 170 = .ok (.if_icmp .ge 44, 3) := by decide +kernel
theorem dd_M_weekOn_173 : decode prog_9_method_22_code 173 = .ok (.iload 4, 2) := by decide +kernel
theorem dd_M_weekOn_175 : decode prog_9_method_22_code 175 = .ok (.ifCond .le 39, 3) := by decide +kernel
theorem dd_M_weekOn_178 : decode prog_9_method_22_code 178 = .ok (.iload 4, 2) := by decide +kernel
theorem dd_M_weekOn_180 : decode prog_9_method_22_code 180 = .ok (.aload_n 0, 1) := by decide +kernel
theorem dd_M_weekOn_181 : decode prog_9_method_22_code 181 = .ok (.getfield 7, 3) := by decide +kernel
theorem dd_M_weekOn_184 : decode prog_9_method_22_code 184 = .ok (.iload_n 1, 1) := by decide +kernel
theorem dd_M_weekOn_185 : decode prog_9_method_22_code 185 = .ok (.bipush 24, 2) := by decide +kernel
theorem dd_M_weekOn_187 : decode prog_9_method_22_code 187 = .ok (.iadd, 1) := by decide +kernel
theorem dd_M_weekOn_188 : decode prog_9_method_22_code 188 = .ok (.iload 5, 2) := by decide +kernel
theorem dd_M_weekOn_190 : decode prog_9_method_22_code 190 = .ok (.iadd, 1) := by decide +kernel
theorem dd_M_weekOn_191 : decode prog_9_method_22_code 191 = .ok (.iaload, 1) := by decide +kernel
theorem dd_M_weekOn_192 : decode prog_9_method_22_code 192 = .ok (.isub, 1) := by decide +kernel
theorem dd_M_weekOn_193 : decode prog_9_method_22_code 193 = .ok (.istore 4, 2) := by decide +kernel
theorem dd_M_weekOn_195 : decode prog_9_method_22_code 195 = .ok (.aload_n 0, 1) := by decide +kernel
theorem dd_M_weekOn_196 : decode prog_9_method_22_code 196 = .ok (.getfield 7, 3) := by decide +kernel
theorem dd_M_weekOn_199 : decode prog_9_method_22_code 199 = .ok (.iload_n 1, 1) := by decide +kernel
theorem dd_M_weekOn_200 : decode prog_9_method_22_code 200 = .ok (.bipush 24, 2) := by decide +kernel
theorem dd_M_weekOn_202 : decode prog_9_method_22_code 202 = .ok (.iadd, 1) := by decide +kernel
theorem dd_M_weekOn_203 : decode prog_9_method_22_code 203 = .ok (.iload 5, 2) := by decide +kernel
theorem dd_M_weekOn_205 : decode prog_9_method_22_code 205 = .ok (.iadd, 1) := by decide +kernel
theorem dd_M_weekOn_206 : decode prog_9_method_22_code 206 = .ok (.iconst 0, 1) := by decide +kernel
theorem dd_M_weekOn_207 : decode prog_9_method_22_code 207 = .ok (.iastore, 1) := by decide +kernel
theorem dd_M_weekOn_208 : decode prog_9_method_22_code 208 = .ok (.iinc 5 1, 3) := by decide +kernel
theorem dd_M_weekOn_211 : decode prog_9_method_22_code 211 = .ok (.goto (-52), 3) := by decide +kernel
theorem dd_M_weekOn_214 : decode prog_9_method_22_code 214 = .ok (.aload_n 0, 1) := by decide +kernel
theorem dd_M_weekOn_215 : decode prog_9_method_22_code 215 = .ok (.getfield 7, 3) := by decide +kernel
theorem dd_M_weekOn_218 : decode prog_9_method_22_code 218 = .ok (.iload_n 1, 1) := by decide +kernel
theorem dd_M_weekOn_219 : decode prog_9_method_22_code 219 = .ok (.bipush 43, 2) := by decide +kernel
theorem dd_M_weekOn_221 : decode prog_9_method_22_code 221 = .ok (.iadd, 1) := by decide +kernel
theorem dd_M_weekOn_222 : decode prog_9_method_22_code 222 = .ok (.dup2, 1) := by decide +kernel
theorem dd_M_weekOn_223 : decode prog_9_method_22_code 223 = .ok (.iaload, 1) := by decide +kernel
theorem dd_M_weekOn_224 : decode prog_9_method_22_code 224 = .ok (.iconst 1, 1) := by decide +kernel
theorem dd_M_weekOn_225 : decode prog_9_method_22_code 225 = .ok (.iadd, 1) := by decide +kernel
theorem dd_M_weekOn_226 : decode prog_9_method_22_code 226 = .ok (.iastore, 1) := by decide +kernel
theorem dd_M_weekOn_227 : decode prog_9_method_22_code 227 = .ok (.return_, 1) := by decide +kernel
theorem dd_M_goesOn_0 : decode prog_9_method_23_code 0 = .ok (.aload_n 0, 1) := by decide +kernel
theorem dd_M_goesOn_1 : decode prog_9_method_23_code 1 = .ok (.iload_n 1, 1) := by decide +kernel
theorem dd_M_goesOn_2 : decode prog_9_method_23_code 2 = .ok (.aload_n 0, 1) := by decide +kernel
theorem dd_M_goesOn_3 : decode prog_9_method_23_code 3 = .ok (.getfield 7, 3) := by decide +kernel
theorem dd_M_goesOn_6 : decode prog_9_method_23_code 6 = .ok (.iload_n 1, 1) := by decide +kernel
theorem dd_M_goesOn_7 : decode prog_9_method_23_code 7 = .ok (.bipush 41, 2) := by decide +kernel
theorem dd_M_goesOn_9 : decode prog_9_method_23_code 9 = .ok (.iadd, 1) := by decide +kernel
theorem dd_M_goesOn_10 : decode prog_9_method_23_code 10 = .ok (.iaload, 1) := by decide +kernel
theorem dd_M_goesOn_11 : decode prog_9_method_23_code 11 = .ok (.iconst 2, 1) := by decide +kernel
theorem dd_M_goesOn_12 : decode prog_9_method_23_code 12 = .ok (.iadd, 1) := by decide +kernel
theorem dd_M_goesOn_13 : decode prog_9_method_23_code 13 = .ok (.iconst 0, 1) := by decide +kernel
theorem dd_M_goesOn_14 : decode prog_9_method_23_code 14 = .ok (.invokevirtual 153, 3) := by decide +kernel
theorem dd_M_goesOn_17 : decode prog_9_method_23_code 17 = .ok (.return_, 1) := by decide +kernel
theorem dd_M_storeOn_0 : decode prog_9_method_24_code 0 = .ok (.iconst 0, 1) := by decide +kernel
theorem dd_M_storeOn_1 : decode prog_9_method_24_code 1 = .ok (.istore_n 2, 1) := by decide +kernel
theorem dd_M_storeOn_2 : decode prog_9_method_24_code 2 = .ok (.iconst 0, 1) := by decide +kernel
theorem dd_M_storeOn_3 : decode prog_9_method_24_code 3 = .ok (.istore_n 3, 1) := by decide +kernel
theorem dd_M_storeOn_4 : decode prog_9_method_24_code 4 = .ok (.iload_n 3, 1) := by decide +kernel
theorem dd_M_storeOn_5 : decode prog_9_method_24_code 5 = .ok (.aload_n 0, 1) := by decide +kernel
theorem dd_M_storeOn_6 : decode prog_9_method_24_code 6 = .ok (.getfield 7, 3) := by decide +kernel
theorem dd_M_storeOn_9 : decode prog_9_method_24_code 9 = .ok (.iload_n 1, 1) := by decide +kernel
theorem dd_M_storeOn_10 : decode prog_9_method_24_code 10 = .ok (.bipush 32, 2) := by decide +kernel
theorem dd_M_storeOn_12 : decode prog_9_method_24_code 12 = .ok (.iadd, 1) := by decide +kernel
theorem dd_M_storeOn_13 : decode prog_9_method_24_code 13 = .ok (.iaload, 1) := by decide +kernel
theorem dd_M_storeOn_14 : decode prog_9_method_24_code 14 = .ok (.if_icmp .ge 33, 3) := by decide +kernel
theorem dd_M_storeOn_17 : decode prog_9_method_24_code 17 = .ok (.iload_n 2, 1) := by decide +kernel
theorem dd_M_storeOn_18 : decode prog_9_method_24_code 18 = .ok (.aload_n 0, 1) := by decide +kernel
theorem dd_M_storeOn_19 : decode prog_9_method_24_code 19 = .ok (.getfield 7, 3) := by decide +kernel
theorem dd_M_storeOn_22 : decode prog_9_method_24_code 22 = .ok (.iload_n 1, 1) := by decide +kernel
theorem dd_M_storeOn_23 : decode prog_9_method_24_code 23 = .ok (.bipush 24, 2) := by decide +kernel
theorem dd_M_storeOn_25 : decode prog_9_method_24_code 25 = .ok (.iadd, 1) := by decide +kernel
theorem dd_M_storeOn_26 : decode prog_9_method_24_code 26 = .ok (.iload_n 3, 1) := by decide +kernel
theorem dd_M_storeOn_27 : decode prog_9_method_24_code 27 = .ok (.iadd, 1) := by decide +kernel
theorem dd_M_storeOn_28 : decode prog_9_method_24_code 28 = .ok (.iaload, 1) := by decide +kernel
theorem dd_M_storeOn_29 : decode prog_9_method_24_code 29 = .ok (.ifCond .ne 9, 3) := by decide +kernel
theorem dd_M_storeOn_32 : decode prog_9_method_24_code 32 = .ok (.iconst 1, 1) := by decide +kernel
theorem dd_M_storeOn_33 : decode prog_9_method_24_code 33 = .ok (.iload_n 3, 1) := by decide +kernel
theorem dd_M_storeOn_34 : decode prog_9_method_24_code 34 = .ok (.ishl, 1) := by decide +kernel
theorem dd_M_storeOn_35 : decode prog_9_method_24_code 35 = .ok (.goto 4, 3) := by decide +kernel
theorem dd_M_storeOn_38 : decode prog_9_method_24_code 38 = .ok (.iconst 0, 1) := by decide +kernel
theorem dd_M_storeOn_39 : decode prog_9_method_24_code 39 = .ok (.ior, 1) := by decide +kernel
theorem dd_M_storeOn_40 : decode prog_9_method_24_code 40 = .ok (.istore_n 2, 1) := by decide +kernel
theorem dd_M_storeOn_41 : decode prog_9_method_24_code 41 = .ok (.iinc 3 1, 3) := by decide +kernel
theorem dd_M_storeOn_44 : decode prog_9_method_24_code 44 = .ok (.goto (-40), 3) := by decide +kernel
theorem dd_M_storeOn_47 : decode prog_9_method_24_code 47 = .ok (.iload_n 2, 1) := by decide +kernel
theorem dd_M_storeOn_48 : decode prog_9_method_24_code 48 = .ok (.ireturn, 1) := by decide +kernel
theorem dd_M_wagesOn_0 : decode prog_9_method_25_code 0 = .ok (.iconst 0, 1) := by decide +kernel
theorem dd_M_wagesOn_1 : decode prog_9_method_25_code 1 = .ok (.istore_n 2, 1) := by decide +kernel
theorem dd_M_wagesOn_2 : decode prog_9_method_25_code 2 = .ok (.iconst 0, 1) := by decide +kernel
theorem dd_M_wagesOn_3 : decode prog_9_method_25_code 3 = .ok (.istore_n 3, 1) := by decide +kernel
theorem dd_M_wagesOn_4 : decode prog_9_method_25_code 4 = .ok (.iload_n 3, 1) := by decide +kernel
theorem dd_M_wagesOn_5 : decode prog_9_method_25_code 5 = .ok (.aload_n 0, 1) := by decide +kernel
theorem dd_M_wagesOn_6 : decode prog_9_method_25_code 6 = .ok (.getfield 122, 3) := by decide +kernel
theorem dd_M_wagesOn_9 : decode prog_9_method_25_code 9 = .ok (.if_icmp .ge 23, 3) := by decide +kernel
theorem dd_M_wagesOn_12 : decode prog_9_method_25_code 12 = .ok (.iload_n 2, 1) := by decide +kernel
theorem dd_M_wagesOn_13 : decode prog_9_method_25_code 13 = .ok (.aload_n 0, 1) := by decide +kernel
theorem dd_M_wagesOn_14 : decode prog_9_method_25_code 14 = .ok (.getfield 7, 3) := by decide +kernel
theorem dd_M_wagesOn_17 : decode prog_9_method_25_code 17 = .ok (.iload_n 1, 1) := by decide +kernel
theorem dd_M_wagesOn_18 : decode prog_9_method_25_code 18 = .ok (.bipush 37, 2) := by decide +kernel
theorem dd_M_wagesOn_20 : decode prog_9_method_25_code 20 = .ok (.iadd, 1) := by decide +kernel
theorem dd_M_wagesOn_21 : decode prog_9_method_25_code 21 = .ok (.iload_n 3, 1) := by decide +kernel
theorem dd_M_wagesOn_22 : decode prog_9_method_25_code 22 = .ok (.iadd, 1) := by decide +kernel
theorem dd_M_wagesOn_23 : decode prog_9_method_25_code 23 = .ok (.iaload, 1) := by decide +kernel
theorem dd_M_wagesOn_24 : decode prog_9_method_25_code 24 = .ok (.iadd, 1) := by decide +kernel
theorem dd_M_wagesOn_25 : decode prog_9_method_25_code 25 = .ok (.istore_n 2, 1) := by decide +kernel
theorem dd_M_wagesOn_26 : decode prog_9_method_25_code 26 = .ok (.iinc 3 1, 3) := by decide +kernel
theorem dd_M_wagesOn_29 : decode prog_9_method_25_code 29 = .ok (.goto (-25), 3) := by decide +kernel
theorem dd_M_wagesOn_32 : decode prog_9_method_25_code 32 = .ok (.iload_n 2, 1) := by decide +kernel
theorem dd_M_wagesOn_33 : decode prog_9_method_25_code 33 = .ok (.ireturn, 1) := by decide +kernel
theorem dd_M_leastOn_0 : decode prog_9_method_26_code 0 = .ok (.aload_n 0, 1) := by decide +kernel
theorem dd_M_leastOn_1 : decode prog_9_method_26_code 1 = .ok (.getfield 122, 3) := by decide +kernel
theorem dd_M_leastOn_4 : decode prog_9_method_26_code 4 = .ok (.ifCond .ne 7, 3) := by decide +kernel
theorem dd_M_leastOn_7 : decode prog_9_method_26_code 7 = .ok (.iconst 0, 1) := by decide +kernel
theorem dd_M_leastOn_8 : decode prog_9_method_26_code 8 = .ok (.goto 6, 3) := by decide +kernel
theorem dd_M_leastOn_11 : decode prog_9_method_26_code 11 = .ok (.sipush 999, 3) := by decide +kernel
theorem dd_M_leastOn_14 : decode prog_9_method_26_code 14 = .ok (.istore_n 2, 1) := by decide +kernel
theorem dd_M_leastOn_15 : decode prog_9_method_26_code 15 = .ok (.iconst 0, 1) := by decide +kernel
theorem dd_M_leastOn_16 : decode prog_9_method_26_code 16 = .ok (.istore_n 3, 1) := by decide +kernel
theorem dd_M_leastOn_17 : decode prog_9_method_26_code 17 = .ok (.iload_n 3, 1) := by decide +kernel
theorem dd_M_leastOn_18 : decode prog_9_method_26_code 18 = .ok (.aload_n 0, 1) := by decide +kernel
theorem dd_M_leastOn_19 : decode prog_9_method_26_code 19 = .ok (.getfield 122, 3) := by decide +kernel
theorem dd_M_leastOn_22 : decode prog_9_method_26_code 22 = .ok (.if_icmp .ge 40, 3) := by decide +kernel
theorem dd_M_leastOn_25 : decode prog_9_method_26_code 25 = .ok (.aload_n 0, 1) := by decide +kernel
theorem dd_M_leastOn_26 : decode prog_9_method_26_code 26 = .ok (.getfield 7, 3) := by decide +kernel
theorem dd_M_leastOn_29 : decode prog_9_method_26_code 29 = .ok (.iload_n 1, 1) := by decide +kernel
theorem dd_M_leastOn_30 : decode prog_9_method_26_code 30 = .ok (.bipush 37, 2) := by decide +kernel
theorem dd_M_leastOn_32 : decode prog_9_method_26_code 32 = .ok (.iadd, 1) := by decide +kernel
theorem dd_M_leastOn_33 : decode prog_9_method_26_code 33 = .ok (.iload_n 3, 1) := by decide +kernel
theorem dd_M_leastOn_34 : decode prog_9_method_26_code 34 = .ok (.iadd, 1) := by decide +kernel
theorem dd_M_leastOn_35 : decode prog_9_method_26_code 35 = .ok (.iaload, 1) := by decide +kernel
theorem dd_M_leastOn_36 : decode prog_9_method_26_code 36 = .ok (.iload_n 2, 1) := by decide +kernel
theorem dd_M_leastOn_37 : decode prog_9_method_26_code 37 = .ok (.if_icmp .ge 17, 3) := by decide +kernel
theorem dd_M_leastOn_40 : decode prog_9_method_26_code 40 = .ok (.aload_n 0, 1) := by decide +kernel
theorem dd_M_leastOn_41 : decode prog_9_method_26_code 41 = .ok (.getfield 7, 3) := by decide +kernel
theorem dd_M_leastOn_44 : decode prog_9_method_26_code 44 = .ok (.iload_n 1, 1) := by decide +kernel
theorem dd_M_leastOn_45 : decode prog_9_method_26_code 45 = .ok (.bipush 37, 2) := by decide +kernel
theorem dd_M_leastOn_47 : decode prog_9_method_26_code 47 = .ok (.iadd, 1) := by decide +kernel
theorem dd_M_leastOn_48 : decode prog_9_method_26_code 48 = .ok (.iload_n 3, 1) := by decide +kernel
theorem dd_M_leastOn_49 : decode prog_9_method_26_code 49 = .ok (.iadd, 1) := by decide +kernel
theorem dd_M_leastOn_50 : decode prog_9_method_26_code 50 = .ok (.iaload, 1) := by decide +kernel
theorem dd_M_leastOn_51 : decode prog_9_method_26_code 51 = .ok (.goto 4, 3) := by decide +kernel
theorem dd_M_leastOn_54 : decode prog_9_method_26_code 54 = .ok (.iload_n 2, 1) := by decide +kernel
theorem dd_M_leastOn_55 : decode prog_9_method_26_code 55 = .ok (.istore_n 2, 1) := by decide +kernel
theorem dd_M_leastOn_56 : decode prog_9_method_26_code 56 = .ok (.iinc 3 1, 3) := by decide +kernel
theorem dd_M_leastOn_59 : decode prog_9_method_26_code 59 = .ok (.goto (-42), 3) := by decide +kernel
theorem dd_M_leastOn_62 : decode prog_9_method_26_code 62 = .ok (.iload_n 2, 1) := by decide +kernel
theorem dd_M_leastOn_63 : decode prog_9_method_26_code 63 = .ok (.ireturn, 1) := by decide +kernel
theorem dd_M_rule_0 : decode prog_9_method_27_code 0 = .ok (.iload_n 1, 1) := by decide +kernel
theorem dd_M_rule_1 : decode prog_9_method_27_code 1 = .ok (.tableswitch 96 0 6 #[43, 51, 56, 64, 74, 84, 90], 43) := by decide +kernel
theorem dd_M_rule_44 : decode prog_9_method_27_code 44 = .ok (.aload_n 0, 1) := by decide +kernel
theorem dd_M_rule_45 : decode prog_9_method_27_code 45 = .ok (.getfield 7, 3) := by decide +kernel
theorem dd_M_rule_48 : decode prog_9_method_27_code 48 = .ok (.bipush 32, 2) := by decide +kernel
theorem dd_M_rule_50 : decode prog_9_method_27_code 50 = .ok (.iaload, 1) := by decide +kernel
theorem dd_M_rule_51 : decode prog_9_method_27_code 51 = .ok (.ireturn, 1) := by decide +kernel
theorem dd_M_rule_52 : decode prog_9_method_27_code 52 = .ok (.aload_n 0, 1) := by decide +kernel
theorem dd_M_rule_53 : decode prog_9_method_27_code 53 = .ok (.getfield 122, 3) := by decide +kernel
theorem dd_M_rule_56 : decode prog_9_method_27_code 56 = .ok (.ireturn, 1) := by decide +kernel
theorem dd_M_rule_57 : decode prog_9_method_27_code 57 = .ok (.aload_n 0, 1) := by decide +kernel
theorem dd_M_rule_58 : decode prog_9_method_27_code 58 = .ok (.getfield 7, 3) := by decide +kernel
theorem dd_M_rule_61 : decode prog_9_method_27_code 61 = .ok (.bipush 43, 2) := by decide +kernel
theorem dd_M_rule_63 : decode prog_9_method_27_code 63 = .ok (.iaload, 1) := by decide +kernel
theorem dd_M_rule_64 : decode prog_9_method_27_code 64 = .ok (.ireturn, 1) := by decide +kernel
theorem dd_M_rule_65 : decode prog_9_method_27_code 65 = .ok (.aload_n 0, 1) := by decide +kernel
theorem dd_M_rule_66 : decode prog_9_method_27_code 66 = .ok (.getfield 7, 3) := by decide +kernel
theorem dd_M_rule_69 : decode prog_9_method_27_code 69 = .ok (.bipush 41, 2) := by decide +kernel
theorem dd_M_rule_71 : decode prog_9_method_27_code 71 = .ok (.iaload, 1) := by decide +kernel
theorem dd_M_rule_72 : decode prog_9_method_27_code 72 = .ok (.iconst 2, 1) := by decide +kernel
theorem dd_M_rule_73 : decode prog_9_method_27_code 73 = .ok (.iadd, 1) := by decide +kernel
theorem dd_M_rule_74 : decode prog_9_method_27_code 74 = .ok (.ireturn, 1) := by decide +kernel
theorem dd_M_rule_75 : decode prog_9_method_27_code 75 = .ok (.aload_n 0, 1) := by decide +kernel
theorem dd_M_rule_76 : decode prog_9_method_27_code 76 = .ok (.getfield 7, 3) := by decide +kernel
theorem dd_M_rule_79 : decode prog_9_method_27_code 79 = .ok (.bipush 42, 2) := by decide +kernel
theorem dd_M_rule_81 : decode prog_9_method_27_code 81 = .ok (.iaload, 1) := by decide +kernel
theorem dd_M_rule_82 : decode prog_9_method_27_code 82 = .ok (.iconst 2, 1) := by decide +kernel
theorem dd_M_rule_83 : decode prog_9_method_27_code 83 = .ok (.iadd, 1) := by decide +kernel
theorem dd_M_rule_84 : decode prog_9_method_27_code 84 = .ok (.ireturn, 1) := by decide +kernel
theorem dd_M_rule_85 : decode prog_9_method_27_code 85 = .ok (.aload_n 0, 1) := by decide +kernel
theorem dd_M_rule_86 : decode prog_9_method_27_code 86 = .ok (.iconst 0, 1) := by decide +kernel
theorem dd_M_rule_87 : decode prog_9_method_27_code 87 = .ok (.invokevirtual 156, 3) := by decide +kernel
theorem dd_M_rule_90 : decode prog_9_method_27_code 90 = .ok (.ireturn, 1) := by decide +kernel
theorem dd_M_rule_91 : decode prog_9_method_27_code 91 = .ok (.aload_n 0, 1) := by decide +kernel
theorem dd_M_rule_92 : decode prog_9_method_27_code 92 = .ok (.iconst 0, 1) := by decide +kernel
theorem dd_M_rule_93 : decode prog_9_method_27_code 93 = .ok (.invokevirtual 159, 3) := by decide +kernel
theorem dd_M_rule_96 : decode prog_9_method_27_code 96 = .ok (.ireturn, 1) := by decide +kernel
theorem dd_M_rule_97 : decode prog_9_method_27_code 97 = .ok (.iconst (-1), 1) := by decide +kernel
theorem dd_M_rule_98 : decode prog_9_method_27_code 98 = .ok (.ireturn, 1) := by decide +kernel
theorem dd_M_good_0 : decode prog_9_method_28_code 0 = .ok (.aload_n 0, 1) := by decide +kernel
theorem dd_M_good_1 : decode prog_9_method_28_code 1 = .ok (.iload_n 1, 1) := by decide +kernel
theorem dd_M_good_2 : decode prog_9_method_28_code 2 = .ok (.invokevirtual 162, 3) := by decide +kernel
theorem dd_M_good_5 : decode prog_9_method_28_code 5 = .ok (.ifCond .eq 15, 3) := by decide +kernel
theorem dd_M_good_8 : decode prog_9_method_28_code 8 = .ok (.iload_n 2, 1) := by decide +kernel
theorem dd_M_good_9 : decode prog_9_method_28_code 9 = .ok (.i2l, 1) := by decide +kernel
theorem dd_M_good_10 : decode prog_9_method_28_code 10 = .ok (.lconst 0, 1) := by decide +kernel
theorem dd_M_good_11 : decode prog_9_method_28_code 11 = .ok (.ldc2_w 166, 3) := by decide +kernel
theorem dd_M_good_14 : decode prog_9_method_28_code 14 = .ok (.invokestatic 52, 3) := by decide +kernel
theorem dd_M_good_17 : decode prog_9_method_28_code 17 = .ok (.ifCond .ne 5, 3) := by decide +kernel
theorem dd_M_good_20 : decode prog_9_method_28_code 20 = .ok (.iconst (-1), 1) := by decide +kernel
theorem dd_M_good_21 : decode prog_9_method_28_code 21 = .ok (.ireturn, 1) := by decide +kernel
theorem dd_M_good_22 : decode prog_9_method_28_code 22 = .ok (.iload_n 2, 1) := by decide +kernel
theorem dd_M_good_23 : decode prog_9_method_28_code 23 = .ok (.iconst 4, 1) := by decide +kernel
theorem dd_M_good_24 : decode prog_9_method_28_code 24 = .ok (.if_icmp .ge 17, 3) := by decide +kernel
theorem dd_M_good_27 : decode prog_9_method_28_code 27 = .ok (.aload_n 0, 1) := by decide +kernel
theorem dd_M_good_28 : decode prog_9_method_28_code 28 = .ok (.getfield 7, 3) := by decide +kernel
theorem dd_M_good_31 : decode prog_9_method_28_code 31 = .ok (.bipush 8, 2) := by decide +kernel
theorem dd_M_good_33 : decode prog_9_method_28_code 33 = .ok (.iload_n 2, 1) := by decide +kernel
theorem dd_M_good_34 : decode prog_9_method_28_code 34 = .ok (.imul, 1) := by decide +kernel
theorem dd_M_good_35 : decode prog_9_method_28_code 35 = .ok (.iload_n 1, 1) := by decide +kernel
theorem dd_M_good_36 : decode prog_9_method_28_code 36 = .ok (.iadd, 1) := by decide +kernel
theorem dd_M_good_37 : decode prog_9_method_28_code 37 = .ok (.iaload, 1) := by decide +kernel
theorem dd_M_good_38 : decode prog_9_method_28_code 38 = .ok (.goto 23, 3) := by decide +kernel
theorem dd_M_good_41 : decode prog_9_method_28_code 41 = .ok (.iload_n 2, 1) := by decide +kernel
theorem dd_M_good_42 : decode prog_9_method_28_code 42 = .ok (.iconst 4, 1) := by decide +kernel
theorem dd_M_good_43 : decode prog_9_method_28_code 43 = .ok (.if_icmp .ne 12, 3) := by decide +kernel
theorem dd_M_good_46 : decode prog_9_method_28_code 46 = .ok (.aload_n 0, 1) := by decide +kernel
theorem dd_M_good_47 : decode prog_9_method_28_code 47 = .ok (.iconst 0, 1) := by decide +kernel
theorem dd_M_good_48 : decode prog_9_method_28_code 48 = .ok (.iload_n 1, 1) := by decide +kernel
theorem dd_M_good_49 : decode prog_9_method_28_code 49 = .ok (.invokevirtual 128, 3) := by decide +kernel
theorem dd_M_good_52 : decode prog_9_method_28_code 52 = .ok (.goto 9, 3) := by decide +kernel
theorem dd_M_good_55 : decode prog_9_method_28_code 55 = .ok (.aload_n 0, 1) := by decide +kernel
theorem dd_M_good_56 : decode prog_9_method_28_code 56 = .ok (.iconst 0, 1) := by decide +kernel
theorem dd_M_good_57 : decode prog_9_method_28_code 57 = .ok (.iload_n 1, 1) := by decide +kernel
theorem dd_M_good_58 : decode prog_9_method_28_code 58 = .ok (.invokevirtual 131, 3) := by decide +kernel
theorem dd_M_good_61 : decode prog_9_method_28_code 61 = .ok (.ireturn, 1) := by decide +kernel
theorem dd_M_copies_0 : decode prog_9_method_29_code 0 = .ok (.iconst 0, 1) := by decide +kernel
theorem dd_M_copies_1 : decode prog_9_method_29_code 1 = .ok (.istore_n 3, 1) := by decide +kernel
theorem dd_M_copies_2 : decode prog_9_method_29_code 2 = .ok (.iload_n 3, 1) := by decide +kernel
theorem dd_M_copies_3 : decode prog_9_method_29_code 3 = .ok (.bipush 44, 2) := by decide +kernel
theorem dd_M_copies_5 : decode prog_9_method_29_code 5 = .ok (.if_icmp .ge 25, 3) := by decide +kernel
theorem dd_M_copies_8 : decode prog_9_method_29_code 8 = .ok (.aload_n 0, 1) := by decide +kernel
theorem dd_M_copies_9 : decode prog_9_method_29_code 9 = .ok (.getfield 7, 3) := by decide +kernel
theorem dd_M_copies_12 : decode prog_9_method_29_code 12 = .ok (.iload_n 2, 1) := by decide +kernel
theorem dd_M_copies_13 : decode prog_9_method_29_code 13 = .ok (.iload_n 3, 1) := by decide +kernel
theorem dd_M_copies_14 : decode prog_9_method_29_code 14 = .ok (.iadd, 1) := by decide +kernel
theorem dd_M_copies_15 : decode prog_9_method_29_code 15 = .ok (.aload_n 0, 1) := by decide +kernel
theorem dd_M_copies_16 : decode prog_9_method_29_code 16 = .ok (.getfield 7, 3) := by decide +kernel
theorem dd_M_copies_19 : decode prog_9_method_29_code 19 = .ok (.iload_n 1, 1) := by decide +kernel
theorem dd_M_copies_20 : decode prog_9_method_29_code 20 = .ok (.iload_n 3, 1) := by decide +kernel
theorem dd_M_copies_21 : decode prog_9_method_29_code 21 = .ok (.iadd, 1) := by decide +kernel
theorem dd_M_copies_22 : decode prog_9_method_29_code 22 = .ok (.iaload, 1) := by decide +kernel
theorem dd_M_copies_23 : decode prog_9_method_29_code 23 = .ok (.iastore, 1) := by decide +kernel
theorem dd_M_copies_24 : decode prog_9_method_29_code 24 = .ok (.iinc 3 1, 3) := by decide +kernel
theorem dd_M_copies_27 : decode prog_9_method_29_code 27 = .ok (.goto (-25), 3) := by decide +kernel
theorem dd_M_copies_30 : decode prog_9_method_29_code 30 = .ok (.return_, 1) := by decide +kernel
theorem dd_M_tries_0 : decode prog_9_method_30_code 0 = .ok (.aload_n 0, 1) := by decide +kernel
theorem dd_M_tries_1 : decode prog_9_method_30_code 1 = .ok (.iload_n 1, 1) := by decide +kernel
theorem dd_M_tries_2 : decode prog_9_method_30_code 2 = .ok (.sipush 176, 3) := by decide +kernel
theorem dd_M_tries_5 : decode prog_9_method_30_code 5 = .ok (.invokevirtual 168, 3) := by decide +kernel
theorem dd_M_tries_8 : decode prog_9_method_30_code 8 = .ok (.aload_n 0, 1) := by decide +kernel
theorem dd_M_tries_9 : decode prog_9_method_30_code 9 = .ok (.sipush 176, 3) := by decide +kernel
theorem dd_M_tries_12 : decode prog_9_method_30_code 12 = .ok (.aload_n 0, 1) := by decide +kernel
theorem dd_M_tries_13 : decode prog_9_method_30_code 13 = .ok (.getfield 7, 3) := by decide +kernel
theorem dd_M_tries_16 : decode prog_9_method_30_code 16 = .ok (.sipush 217, 3) := by decide +kernel
theorem dd_M_tries_19 : decode prog_9_method_30_code 19 = .ok (.iaload, 1) := by decide +kernel
theorem dd_M_tries_20 : decode prog_9_method_30_code 20 = .ok (.iconst 2, 1) := by decide +kernel
theorem dd_M_tries_21 : decode prog_9_method_30_code 21 = .ok (.iadd, 1) := by decide +kernel
theorem dd_M_tries_22 : decode prog_9_method_30_code 22 = .ok (.iconst 0, 1) := by decide +kernel
theorem dd_M_tries_23 : decode prog_9_method_30_code 23 = .ok (.invokevirtual 143, 3) := by decide +kernel
theorem dd_M_tries_26 : decode prog_9_method_30_code 26 = .ok (.return_, 1) := by decide +kernel
theorem dd_M_one_0 : decode prog_9_method_31_code 0 = .ok (.aload_n 0, 1) := by decide +kernel
theorem dd_M_one_1 : decode prog_9_method_31_code 1 = .ok (.iload_n 1, 1) := by decide +kernel
theorem dd_M_one_2 : decode prog_9_method_31_code 2 = .ok (.invokevirtual 172, 3) := by decide +kernel
theorem dd_M_one_5 : decode prog_9_method_31_code 5 = .ok (.ifCond .eq 15, 3) := by decide +kernel
theorem dd_M_one_8 : decode prog_9_method_31_code 8 = .ok (.iload_n 2, 1) := by decide +kernel
theorem dd_M_one_9 : decode prog_9_method_31_code 9 = .ok (.i2l, 1) := by decide +kernel
theorem dd_M_one_10 : decode prog_9_method_31_code 10 = .ok (.lconst 0, 1) := by decide +kernel
theorem dd_M_one_11 : decode prog_9_method_31_code 11 = .ok (.ldc2_w 175, 3) := by decide +kernel
theorem dd_M_one_14 : decode prog_9_method_31_code 14 = .ok (.invokestatic 52, 3) := by decide +kernel
theorem dd_M_one_17 : decode prog_9_method_31_code 17 = .ok (.ifCond .ne 5, 3) := by decide +kernel
theorem dd_M_one_20 : decode prog_9_method_31_code 20 = .ok (.iconst (-1), 1) := by decide +kernel
theorem dd_M_one_21 : decode prog_9_method_31_code 21 = .ok (.ireturn, 1) := by decide +kernel
theorem dd_M_one_22 : decode prog_9_method_31_code 22 = .ok (.aload_n 0, 1) := by decide +kernel
theorem dd_M_one_23 : decode prog_9_method_31_code 23 = .ok (.iconst 0, 1) := by decide +kernel
theorem dd_M_one_24 : decode prog_9_method_31_code 24 = .ok (.invokevirtual 177, 3) := by decide +kernel
theorem dd_M_one_27 : decode prog_9_method_31_code 27 = .ok (.iload_n 2, 1) := by decide +kernel
theorem dd_M_one_28 : decode prog_9_method_31_code 28 = .ok (.iconst 2, 1) := by decide +kernel
theorem dd_M_one_29 : decode prog_9_method_31_code 29 = .ok (.if_icmp .ge 19, 3) := by decide +kernel
theorem dd_M_one_32 : decode prog_9_method_31_code 32 = .ok (.aload_n 0, 1) := by decide +kernel
theorem dd_M_one_33 : decode prog_9_method_31_code 33 = .ok (.getfield 7, 3) := by decide +kernel
theorem dd_M_one_36 : decode prog_9_method_31_code 36 = .ok (.bipush 33, 2) := by decide +kernel
theorem dd_M_one_38 : decode prog_9_method_31_code 38 = .ok (.iconst 4, 1) := by decide +kernel
theorem dd_M_one_39 : decode prog_9_method_31_code 39 = .ok (.iload_n 2, 1) := by decide +kernel
theorem dd_M_one_40 : decode prog_9_method_31_code 40 = .ok (.imul, 1) := by decide +kernel
theorem dd_M_one_41 : decode prog_9_method_31_code 41 = .ok (.iadd, 1) := by decide +kernel
theorem dd_M_one_42 : decode prog_9_method_31_code 42 = .ok (.iload_n 1, 1) := by decide +kernel
theorem dd_M_one_43 : decode prog_9_method_31_code 43 = .ok (.iadd, 1) := by decide +kernel
theorem dd_M_one_44 : decode prog_9_method_31_code 44 = .ok (.iaload, 1) := by decide +kernel
theorem dd_M_one_45 : decode prog_9_method_31_code 45 = .ok (.goto 23, 3) := by decide +kernel
theorem dd_M_one_48 : decode prog_9_method_31_code 48 = .ok (.iload_n 2, 1) := by decide +kernel
theorem dd_M_one_49 : decode prog_9_method_31_code 49 = .ok (.iconst 2, 1) := by decide +kernel
theorem dd_M_one_50 : decode prog_9_method_31_code 50 = .ok (.if_icmp .ne 12, 3) := by decide +kernel
theorem dd_M_one_53 : decode prog_9_method_31_code 53 = .ok (.aload_n 0, 1) := by decide +kernel
theorem dd_M_one_54 : decode prog_9_method_31_code 54 = .ok (.getfield 25, 3) := by decide +kernel
theorem dd_M_one_57 : decode prog_9_method_31_code 57 = .ok (.iload_n 1, 1) := by decide +kernel
theorem dd_M_one_58 : decode prog_9_method_31_code 58 = .ok (.iaload, 1) := by decide +kernel
theorem dd_M_one_59 : decode prog_9_method_31_code 59 = .ok (.goto 9, 3) := by decide +kernel
theorem dd_M_one_62 : decode prog_9_method_31_code 62 = .ok (.aload_n 0, 1) := by decide +kernel
theorem dd_M_one_63 : decode prog_9_method_31_code 63 = .ok (.getfield 28, 3) := by decide +kernel
theorem dd_M_one_66 : decode prog_9_method_31_code 66 = .ok (.iload_n 1, 1) := by decide +kernel
theorem dd_M_one_67 : decode prog_9_method_31_code 67 = .ok (.iaload, 1) := by decide +kernel
theorem dd_M_one_68 : decode prog_9_method_31_code 68 = .ok (.ireturn, 1) := by decide +kernel
theorem dd_M_puts_0 : decode prog_9_method_32_code 0 = .ok (.iload_n 1, 1) := by decide +kernel
theorem dd_M_puts_1 : decode prog_9_method_32_code 1 = .ok (.ifCond .ne 5, 3) := by decide +kernel
theorem dd_M_puts_4 : decode prog_9_method_32_code 4 = .ok (.iconst (-1), 1) := by decide +kernel
theorem dd_M_puts_5 : decode prog_9_method_32_code 5 = .ok (.ireturn, 1) := by decide +kernel
theorem dd_M_puts_6 : decode prog_9_method_32_code 6 = .ok (.aload_n 0, 1) := by decide +kernel
theorem dd_M_puts_7 : decode prog_9_method_32_code 7 = .ok (.getfield 7, 3) := by decide +kernel
theorem dd_M_puts_10 : decode prog_9_method_32_code 10 = .ok (.iload_n 2, 1) := by decide +kernel
theorem dd_M_puts_11 : decode prog_9_method_32_code 11 = .ok (.iaload, 1) := by decide +kernel
theorem dd_M_puts_12 : decode prog_9_method_32_code 12 = .ok (.iload 4, 2) := by decide +kernel
theorem dd_M_puts_14 : decode prog_9_method_32_code 14 = .ok (.iadd, 1) := by decide +kernel
theorem dd_M_puts_15 : decode prog_9_method_32_code 15 = .ok (.istore 5, 2) := by decide +kernel
theorem dd_M_puts_17 : decode prog_9_method_32_code 17 = .ok (.aload_n 0, 1) := by decide +kernel
theorem dd_M_puts_18 : decode prog_9_method_32_code 18 = .ok (.getfield 7, 3) := by decide +kernel
theorem dd_M_puts_21 : decode prog_9_method_32_code 21 = .ok (.iload_n 2, 1) := by decide +kernel
theorem dd_M_puts_22 : decode prog_9_method_32_code 22 = .ok (.iload_n 3, 1) := by decide +kernel
theorem dd_M_puts_23 : decode prog_9_method_32_code 23 = .ok (.iload 4, 2) := by decide +kernel
theorem dd_M_puts_25 : decode prog_9_method_32_code 25 = .ok (.isub, 1) := by decide +kernel
theorem dd_M_puts_26 : decode prog_9_method_32_code 26 = .ok (.iastore, 1) := by decide +kernel
theorem dd_M_puts_27 : decode prog_9_method_32_code 27 = .ok (.iload 5, 2) := by decide +kernel
theorem dd_M_puts_29 : decode prog_9_method_32_code 29 = .ok (.ireturn, 1) := by decide +kernel
theorem dd_M_isRight_0 : decode prog_9_method_33_code 0 = .ok (.iload_n 0, 1) := by decide +kernel
theorem dd_M_isRight_1 : decode prog_9_method_33_code 1 = .ok (.ifCond .ne 15, 3) := by decide +kernel
theorem dd_M_isRight_4 : decode prog_9_method_33_code 4 = .ok (.iload_n 1, 1) := by decide +kernel
theorem dd_M_isRight_5 : decode prog_9_method_33_code 5 = .ok (.i2l, 1) := by decide +kernel
theorem dd_M_isRight_6 : decode prog_9_method_33_code 6 = .ok (.lconst 0, 1) := by decide +kernel
theorem dd_M_isRight_7 : decode prog_9_method_33_code 7 = .ok (.ldc2_w 175, 3) := by decide +kernel
theorem dd_M_isRight_10 : decode prog_9_method_33_code 10 = .ok (.invokestatic 52, 3) := by decide +kernel
theorem dd_M_isRight_13 : decode prog_9_method_33_code 13 = .ok (.goto 42, 3) := by decide +kernel
theorem dd_M_isRight_16 : decode prog_9_method_33_code 16 = .ok (.iload_n 0, 1) := by decide +kernel
theorem dd_M_isRight_17 : decode prog_9_method_33_code 17 = .ok (.iconst 1, 1) := by decide +kernel
theorem dd_M_isRight_18 : decode prog_9_method_33_code 18 = .ok (.if_icmp .ne 15, 3) := by decide +kernel
theorem dd_M_isRight_21 : decode prog_9_method_33_code 21 = .ok (.iload_n 1, 1) := by decide +kernel
theorem dd_M_isRight_22 : decode prog_9_method_33_code 22 = .ok (.i2l, 1) := by decide +kernel
theorem dd_M_isRight_23 : decode prog_9_method_33_code 23 = .ok (.lconst 1, 1) := by decide +kernel
theorem dd_M_isRight_24 : decode prog_9_method_33_code 24 = .ok (.ldc2_w 180, 3) := by decide +kernel
theorem dd_M_isRight_27 : decode prog_9_method_33_code 27 = .ok (.invokestatic 52, 3) := by decide +kernel
theorem dd_M_isRight_30 : decode prog_9_method_33_code 30 = .ok (.goto 25, 3) := by decide +kernel
theorem dd_M_isRight_33 : decode prog_9_method_33_code 33 = .ok (.iload_n 0, 1) := by decide +kernel
theorem dd_M_isRight_34 : decode prog_9_method_33_code 34 = .ok (.iconst 2, 1) := by decide +kernel
theorem dd_M_isRight_35 : decode prog_9_method_33_code 35 = .ok (.if_icmp .ne 19, 3) := by decide +kernel
theorem dd_M_isRight_38 : decode prog_9_method_33_code 38 = .ok (.iload_n 1, 1) := by decide +kernel
theorem dd_M_isRight_39 : decode prog_9_method_33_code 39 = .ok (.i2l, 1) := by decide +kernel
theorem dd_M_isRight_40 : decode prog_9_method_33_code 40 = .ok (.lconst 0, 1) := by decide +kernel
theorem dd_M_isRight_41 : decode prog_9_method_33_code 41 = .ok (.ldc2_w 180, 3) := by decide +kernel
theorem dd_M_isRight_44 : decode prog_9_method_33_code 44 = .ok (.invokestatic 52, 3) := by decide +kernel
theorem dd_M_isRight_47 : decode prog_9_method_33_code 47 = .ok (.ifCond .eq 7, 3) := by decide +kernel
theorem dd_M_isRight_50 : decode prog_9_method_33_code 50 = .ok (.iconst 1, 1) := by decide +kernel
theorem dd_M_isRight_51 : decode prog_9_method_33_code 51 = .ok (.goto 4, 3) := by decide +kernel
theorem dd_M_isRight_54 : decode prog_9_method_33_code 54 = .ok (.iconst 0, 1) := by decide +kernel
theorem dd_M_isRight_55 : decode prog_9_method_33_code 55 = .ok (.ireturn, 1) := by decide +kernel
theorem dd_M_alter_0 : decode prog_9_method_34_code 0 = .ok (.aload_n 0, 1) := by decide +kernel
theorem dd_M_alter_1 : decode prog_9_method_34_code 1 = .ok (.aload_n 0, 1) := by decide +kernel
theorem dd_M_alter_2 : decode prog_9_method_34_code 2 = .ok (.iload_n 1, 1) := by decide +kernel
theorem dd_M_alter_3 : decode prog_9_method_34_code 3 = .ok (.invokevirtual 162, 3) := by decide +kernel
theorem dd_M_alter_6 : decode prog_9_method_34_code 6 = .ok (.ifCond .eq 15, 3) := by decide +kernel
theorem dd_M_alter_9 : decode prog_9_method_34_code 9 = .ok (.iload_n 2, 1) := by decide +kernel
theorem dd_M_alter_10 : decode prog_9_method_34_code 10 = .ok (.iload_n 3, 1) := by decide +kernel
theorem dd_M_alter_11 : decode prog_9_method_34_code 11 = .ok (.invokestatic 182, 3) := by decide +kernel
theorem dd_M_alter_14 : decode prog_9_method_34_code 14 = .ok (.ifCond .eq 7, 3) := by decide +kernel
theorem dd_M_alter_17 : decode prog_9_method_34_code 17 = .ok (.iconst 1, 1) := by decide +kernel
theorem dd_M_alter_18 : decode prog_9_method_34_code 18 = .ok (.goto 4, 3) := by decide +kernel
theorem dd_M_alter_21 : decode prog_9_method_34_code 21 = .ok (.iconst 0, 1) := by decide +kernel
theorem dd_M_alter_22 : decode prog_9_method_34_code 22 = .ok (.bipush 8, 2) := by decide +kernel
theorem dd_M_alter_24 : decode prog_9_method_34_code 24 = .ok (.iload_n 2, 1) := by decide +kernel
theorem dd_M_alter_25 : decode prog_9_method_34_code 25 = .ok (.imul, 1) := by decide +kernel
theorem dd_M_alter_26 : decode prog_9_method_34_code 26 = .ok (.iload_n 1, 1) := by decide +kernel
theorem dd_M_alter_27 : decode prog_9_method_34_code 27 = .ok (.iadd, 1) := by decide +kernel
theorem dd_M_alter_28 : decode prog_9_method_34_code 28 = .ok (.iload_n 3, 1) := by decide +kernel
theorem dd_M_alter_29 : decode prog_9_method_34_code 29 = .ok (.iconst 0, 1) := by decide +kernel
theorem dd_M_alter_30 : decode prog_9_method_34_code 30 = .ok (.invokevirtual 186, 3) := by decide +kernel
theorem dd_M_alter_33 : decode prog_9_method_34_code 33 = .ok (.ireturn, 1) := by decide +kernel
theorem dd_M_train_0 : decode prog_9_method_35_code 0 = .ok (.iload_n 2, 1) := by decide +kernel
theorem dd_M_train_1 : decode prog_9_method_35_code 1 = .ok (.ifCond .ne 15, 3) := by decide +kernel
theorem dd_M_train_4 : decode prog_9_method_35_code 4 = .ok (.iload_n 3, 1) := by decide +kernel
theorem dd_M_train_5 : decode prog_9_method_35_code 5 = .ok (.i2l, 1) := by decide +kernel
theorem dd_M_train_6 : decode prog_9_method_35_code 6 = .ok (.lconst 1, 1) := by decide +kernel
theorem dd_M_train_7 : decode prog_9_method_35_code 7 = .ok (.ldc2_w 190, 3) := by decide +kernel
theorem dd_M_train_10 : decode prog_9_method_35_code 10 = .ok (.invokestatic 52, 3) := by decide +kernel
theorem dd_M_train_13 : decode prog_9_method_35_code 13 = .ok (.goto 25, 3) := by decide +kernel
theorem dd_M_train_16 : decode prog_9_method_35_code 16 = .ok (.iload_n 2, 1) := by decide +kernel
theorem dd_M_train_17 : decode prog_9_method_35_code 17 = .ok (.iconst 1, 1) := by decide +kernel
theorem dd_M_train_18 : decode prog_9_method_35_code 18 = .ok (.if_icmp .ne 19, 3) := by decide +kernel
theorem dd_M_train_21 : decode prog_9_method_35_code 21 = .ok (.iload_n 3, 1) := by decide +kernel
theorem dd_M_train_22 : decode prog_9_method_35_code 22 = .ok (.i2l, 1) := by decide +kernel
theorem dd_M_train_23 : decode prog_9_method_35_code 23 = .ok (.lconst 0, 1) := by decide +kernel
theorem dd_M_train_24 : decode prog_9_method_35_code 24 = .ok (.ldc2_w 192, 3) := by decide +kernel
theorem dd_M_train_27 : decode prog_9_method_35_code 27 = .ok (.invokestatic 52, 3) := by decide +kernel
theorem dd_M_train_30 : decode prog_9_method_35_code 30 = .ok (.ifCond .eq 7, 3) := by decide +kernel
theorem dd_M_train_33 : decode prog_9_method_35_code 33 = .ok (.iconst 1, 1) := by decide +kernel
theorem dd_M_train_34 : decode prog_9_method_35_code 34 = .ok (.goto 4, 3) := by decide +kernel
theorem dd_M_train_37 : decode prog_9_method_35_code 37 = .ok (.iconst 0, 1) := by decide +kernel
theorem dd_M_train_38 : decode prog_9_method_35_code 38 = .ok (.istore 4, 2) := by decide +kernel
theorem dd_M_train_40 : decode prog_9_method_35_code 40 = .ok (.aload_n 0, 1) := by decide +kernel
theorem dd_M_train_41 : decode prog_9_method_35_code 41 = .ok (.aload_n 0, 1) := by decide +kernel
theorem dd_M_train_42 : decode prog_9_method_35_code 42 = .ok (.iload_n 1, 1) := by decide +kernel
theorem dd_M_train_43 : decode prog_9_method_35_code 43 = .ok (.invokevirtual 172, 3) := by decide +kernel
theorem dd_M_train_46 : decode prog_9_method_35_code 46 = .ok (.ifCond .eq 12, 3) := by decide +kernel
theorem dd_M_train_49 : decode prog_9_method_35_code 49 = .ok (.iload 4, 2) := by decide +kernel
theorem dd_M_train_51 : decode prog_9_method_35_code 51 = .ok (.ifCond .eq 7, 3) := by decide +kernel
theorem dd_M_train_54 : decode prog_9_method_35_code 54 = .ok (.iconst 1, 1) := by decide +kernel
theorem dd_M_train_55 : decode prog_9_method_35_code 55 = .ok (.goto 4, 3) := by decide +kernel
theorem dd_M_train_58 : decode prog_9_method_35_code 58 = .ok (.iconst 0, 1) := by decide +kernel
theorem dd_M_train_59 : decode prog_9_method_35_code 59 = .ok (.bipush 33, 2) := by decide +kernel
theorem dd_M_train_61 : decode prog_9_method_35_code 61 = .ok (.iconst 4, 1) := by decide +kernel
theorem dd_M_train_62 : decode prog_9_method_35_code 62 = .ok (.iload_n 2, 1) := by decide +kernel
theorem dd_M_train_63 : decode prog_9_method_35_code 63 = .ok (.imul, 1) := by decide +kernel
theorem dd_M_train_64 : decode prog_9_method_35_code 64 = .ok (.iadd, 1) := by decide +kernel
theorem dd_M_train_65 : decode prog_9_method_35_code 65 = .ok (.iload_n 1, 1) := by decide +kernel
theorem dd_M_train_66 : decode prog_9_method_35_code 66 = .ok (.iadd, 1) := by decide +kernel
theorem dd_M_train_67 : decode prog_9_method_35_code 67 = .ok (.iload_n 3, 1) := by decide +kernel
theorem dd_M_train_68 : decode prog_9_method_35_code 68 = .ok (.iconst 0, 1) := by decide +kernel
theorem dd_M_train_69 : decode prog_9_method_35_code 69 = .ok (.invokevirtual 186, 3) := by decide +kernel
theorem dd_M_train_72 : decode prog_9_method_35_code 72 = .ok (.ireturn, 1) := by decide +kernel
theorem dd_M_set_0 : decode prog_9_method_36_code 0 = .ok (.aload_n 0, 1) := by decide +kernel
theorem dd_M_set_1 : decode prog_9_method_36_code 1 = .ok (.iload_n 1, 1) := by decide +kernel
theorem dd_M_set_2 : decode prog_9_method_36_code 2 = .ok (.i2l, 1) := by decide +kernel
theorem dd_M_set_3 : decode prog_9_method_36_code 3 = .ok (.lconst 0, 1) := by decide +kernel
theorem dd_M_set_4 : decode prog_9_method_36_code 4 = .ok (.lconst 1, 1) := by decide +kernel
theorem dd_M_set_5 : decode prog_9_method_36_code 5 = .ok (.invokestatic 52, 3) := by decide +kernel
theorem dd_M_set_8 : decode prog_9_method_36_code 8 = .ok (.ifCond .eq 29, 3) := by decide +kernel
theorem dd_M_set_11 : decode prog_9_method_36_code 11 = .ok (.iload_n 2, 1) := by decide +kernel
theorem dd_M_set_12 : decode prog_9_method_36_code 12 = .ok (.i2l, 1) := by decide +kernel
theorem dd_M_set_13 : decode prog_9_method_36_code 13 = .ok (.lconst 0, 1) := by decide +kernel
theorem dd_M_set_14 : decode prog_9_method_36_code 14 = .ok (.iload_n 1, 1) := by decide +kernel
theorem dd_M_set_15 : decode prog_9_method_36_code 15 = .ok (.ifCond .ne 9, 3) := by decide +kernel
theorem dd_M_set_18 : decode prog_9_method_36_code 18 = .ok (.ldc2_w 108, 3) := by decide +kernel
theorem dd_M_set_21 : decode prog_9_method_36_code 21 = .ok (.goto 6, 3) := by decide +kernel
theorem dd_M_set_24 : decode prog_9_method_36_code 24 = .ok (.ldc2_w 194, 3) := by decide +kernel
theorem dd_M_set_27 : decode prog_9_method_36_code 27 = .ok (.invokestatic 52, 3) := by decide +kernel
theorem dd_M_set_30 : decode prog_9_method_36_code 30 = .ok (.ifCond .eq 7, 3) := by decide +kernel
theorem dd_M_set_33 : decode prog_9_method_36_code 33 = .ok (.iconst 1, 1) := by decide +kernel
theorem dd_M_set_34 : decode prog_9_method_36_code 34 = .ok (.goto 4, 3) := by decide +kernel
theorem dd_M_set_37 : decode prog_9_method_36_code 37 = .ok (.iconst 0, 1) := by decide +kernel
theorem dd_M_set_38 : decode prog_9_method_36_code 38 = .ok (.bipush 41, 2) := by decide +kernel
theorem dd_M_set_40 : decode prog_9_method_36_code 40 = .ok (.iload_n 1, 1) := by decide +kernel
theorem dd_M_set_41 : decode prog_9_method_36_code 41 = .ok (.iadd, 1) := by decide +kernel
theorem dd_M_set_42 : decode prog_9_method_36_code 42 = .ok (.iload_n 2, 1) := by decide +kernel
theorem dd_M_set_43 : decode prog_9_method_36_code 43 = .ok (.iconst 2, 1) := by decide +kernel
theorem dd_M_set_44 : decode prog_9_method_36_code 44 = .ok (.invokevirtual 186, 3) := by decide +kernel
theorem dd_M_set_47 : decode prog_9_method_36_code 47 = .ok (.ireturn, 1) := by decide +kernel
theorem dd_M_stocks_0 : decode prog_9_method_37_code 0 = .ok (.iconst 0, 1) := by decide +kernel
theorem dd_M_stocks_1 : decode prog_9_method_37_code 1 = .ok (.iload_n 1, 1) := by decide +kernel
theorem dd_M_stocks_2 : decode prog_9_method_37_code 2 = .ok (.invokestatic 182, 3) := by decide +kernel
theorem dd_M_stocks_5 : decode prog_9_method_37_code 5 = .ok (.ifCond .eq 19, 3) := by decide +kernel
theorem dd_M_stocks_8 : decode prog_9_method_37_code 8 = .ok (.iconst 1, 1) := by decide +kernel
theorem dd_M_stocks_9 : decode prog_9_method_37_code 9 = .ok (.iload_n 2, 1) := by decide +kernel
theorem dd_M_stocks_10 : decode prog_9_method_37_code 10 = .ok (.invokestatic 182, 3) := by decide +kernel
theorem dd_M_stocks_13 : decode prog_9_method_37_code 13 = .ok (.ifCond .eq 11, 3) := by decide +kernel
theorem dd_M_stocks_16 : decode prog_9_method_37_code 16 = .ok (.iconst 2, 1) := by decide +kernel
theorem dd_M_stocks_17 : decode prog_9_method_37_code 17 = .ok (.iload_n 3, 1) := by decide +kernel
theorem dd_M_stocks_18 : decode prog_9_method_37_code 18 = .ok (.invokestatic 182, 3) := by decide +kernel
theorem dd_M_stocks_21 : decode prog_9_method_37_code 21 = .ok (.ifCond .ne 5, 3) := by decide +kernel
theorem dd_M_stocks_24 : decode prog_9_method_37_code 24 = .ok (.iconst (-1), 1) := by decide +kernel
theorem dd_M_stocks_25 : decode prog_9_method_37_code 25 = .ok (.ireturn, 1) := by decide +kernel
theorem dd_M_stocks_26 : decode prog_9_method_37_code 26 = .ok (.aload_n 0, 1) := by decide +kernel
theorem dd_M_stocks_27 : decode prog_9_method_37_code 27 = .ok (.getfield 7, 3) := by decide +kernel
theorem dd_M_stocks_30 : decode prog_9_method_37_code 30 = .ok (.bipush 32, 2) := by decide +kernel
theorem dd_M_stocks_32 : decode prog_9_method_37_code 32 = .ok (.iaload, 1) := by decide +kernel
theorem dd_M_stocks_33 : decode prog_9_method_37_code 33 = .ok (.istore 4, 2) := by decide +kernel
theorem dd_M_stocks_35 : decode prog_9_method_37_code 35 = .ok (.iload 4, 2) := by decide +kernel
theorem dd_M_stocks_37 : decode prog_9_method_37_code 37 = .ok (.bipush 8, 2) := by decide +kernel
theorem dd_M_stocks_39 : decode prog_9_method_37_code 39 = .ok (.if_icmp .ne 6, 3) := by decide +kernel
theorem dd_M_stocks_42 : decode prog_9_method_37_code 42 = .ok (.bipush (-3), 2) := by decide +kernel
theorem dd_M_stocks_44 : decode prog_9_method_37_code 44 = .ok (.ireturn, 1) := by decide +kernel
theorem dd_M_stocks_45 : decode prog_9_method_37_code 45 = .ok (.aload_n 0, 1) := by decide +kernel
theorem dd_M_stocks_46 : decode prog_9_method_37_code 46 = .ok (.getfield 7, 3) := by decide +kernel
theorem dd_M_stocks_49 : decode prog_9_method_37_code 49 = .ok (.iload 4, 2) := by decide +kernel
theorem dd_M_stocks_51 : decode prog_9_method_37_code 51 = .ok (.iload_n 1, 1) := by decide +kernel
theorem dd_M_stocks_52 : decode prog_9_method_37_code 52 = .ok (.iastore, 1) := by decide +kernel
theorem dd_M_stocks_53 : decode prog_9_method_37_code 53 = .ok (.aload_n 0, 1) := by decide +kernel
theorem dd_M_stocks_54 : decode prog_9_method_37_code 54 = .ok (.getfield 7, 3) := by decide +kernel
theorem dd_M_stocks_57 : decode prog_9_method_37_code 57 = .ok (.bipush 8, 2) := by decide +kernel
theorem dd_M_stocks_59 : decode prog_9_method_37_code 59 = .ok (.iload 4, 2) := by decide +kernel
theorem dd_M_stocks_61 : decode prog_9_method_37_code 61 = .ok (.iadd, 1) := by decide +kernel
theorem dd_M_stocks_62 : decode prog_9_method_37_code 62 = .ok (.iload_n 2, 1) := by decide +kernel
theorem dd_M_stocks_63 : decode prog_9_method_37_code 63 = .ok (.iastore, 1) := by decide +kernel
theorem dd_M_stocks_64 : decode prog_9_method_37_code 64 = .ok (.aload_n 0, 1) := by decide +kernel
theorem dd_M_stocks_65 : decode prog_9_method_37_code 65 = .ok (.getfield 7, 3) := by decide +kernel
theorem dd_M_stocks_68 : decode prog_9_method_37_code 68 = .ok (.bipush 16, 2) := by decide +kernel
theorem dd_M_stocks_70 : decode prog_9_method_37_code 70 = .ok (.iload 4, 2) := by decide +kernel
theorem dd_M_stocks_72 : decode prog_9_method_37_code 72 = .ok (.iadd, 1) := by decide +kernel
theorem dd_M_stocks_73 : decode prog_9_method_37_code 73 = .ok (.iload_n 3, 1) := by decide +kernel
theorem dd_M_stocks_74 : decode prog_9_method_37_code 74 = .ok (.iastore, 1) := by decide +kernel
theorem dd_M_stocks_75 : decode prog_9_method_37_code 75 = .ok (.aload_n 0, 1) := by decide +kernel
theorem dd_M_stocks_76 : decode prog_9_method_37_code 76 = .ok (.getfield 7, 3) := by decide +kernel
theorem dd_M_stocks_79 : decode prog_9_method_37_code 79 = .ok (.bipush 24, 2) := by decide +kernel
theorem dd_M_stocks_81 : decode prog_9_method_37_code 81 = .ok (.iload 4, 2) := by decide +kernel
theorem dd_M_stocks_83 : decode prog_9_method_37_code 83 = .ok (.iadd, 1) := by decide +kernel
theorem dd_M_stocks_84 : decode prog_9_method_37_code 84 = .ok (.iconst 0, 1) := by decide +kernel
theorem dd_M_stocks_85 : decode prog_9_method_37_code 85 = .ok (.iastore, 1) := by decide +kernel
theorem dd_M_stocks_86 : decode prog_9_method_37_code 86 = .ok (.aload_n 0, 1) := by decide +kernel
theorem dd_M_stocks_87 : decode prog_9_method_37_code 87 = .ok (.getfield 7, 3) := by decide +kernel
theorem dd_M_stocks_90 : decode prog_9_method_37_code 90 = .ok (.bipush 32, 2) := by decide +kernel
theorem dd_M_stocks_92 : decode prog_9_method_37_code 92 = .ok (.dup2, 1) := by decide +kernel
theorem dd_M_stocks_93 : decode prog_9_method_37_code 93 = .ok (.iaload, 1) := by decide +kernel
theorem dd_M_stocks_94 : decode prog_9_method_37_code 94 = .ok (.iconst 1, 1) := by decide +kernel
theorem dd_M_stocks_95 : decode prog_9_method_37_code 95 = .ok (.iadd, 1) := by decide +kernel
theorem dd_M_stocks_96 : decode prog_9_method_37_code 96 = .ok (.iastore, 1) := by decide +kernel
theorem dd_M_stocks_97 : decode prog_9_method_37_code 97 = .ok (.aload_n 0, 1) := by decide +kernel
theorem dd_M_stocks_98 : decode prog_9_method_37_code 98 = .ok (.getfield 7, 3) := by decide +kernel
theorem dd_M_stocks_101 : decode prog_9_method_37_code 101 = .ok (.bipush 32, 2) := by decide +kernel
theorem dd_M_stocks_103 : decode prog_9_method_37_code 103 = .ok (.iaload, 1) := by decide +kernel
theorem dd_M_stocks_104 : decode prog_9_method_37_code 104 = .ok (.ireturn, 1) := by decide +kernel
theorem dd_M_stock_0 : decode prog_9_method_38_code 0 = .ok (.aload_n 0, 1) := by decide +kernel
theorem dd_M_stock_1 : decode prog_9_method_38_code 1 = .ok (.iload_n 1, 1) := by decide +kernel
theorem dd_M_stock_2 : decode prog_9_method_38_code 2 = .ok (.iload_n 2, 1) := by decide +kernel
theorem dd_M_stock_3 : decode prog_9_method_38_code 3 = .ok (.iload_n 3, 1) := by decide +kernel
theorem dd_M_stock_4 : decode prog_9_method_38_code 4 = .ok (.invokevirtual 196, 3) := by decide +kernel
theorem dd_M_stock_7 : decode prog_9_method_38_code 7 = .ok (.ireturn, 1) := by decide +kernel
theorem dd_M_hide_0 : decode prog_9_method_39_code 0 = .ok (.aload_n 0, 1) := by decide +kernel
theorem dd_M_hide_1 : decode prog_9_method_39_code 1 = .ok (.iload_n 1, 1) := by decide +kernel
theorem dd_M_hide_2 : decode prog_9_method_39_code 2 = .ok (.invokevirtual 162, 3) := by decide +kernel
theorem dd_M_hide_5 : decode prog_9_method_39_code 5 = .ok (.ifCond .ne 5, 3) := by decide +kernel
theorem dd_M_hide_8 : decode prog_9_method_39_code 8 = .ok (.iconst (-1), 1) := by decide +kernel
theorem dd_M_hide_9 : decode prog_9_method_39_code 9 = .ok (.ireturn, 1) := by decide +kernel
theorem dd_M_hide_10 : decode prog_9_method_39_code 10 = .ok (.aload_n 0, 1) := by decide +kernel
theorem dd_M_hide_11 : decode prog_9_method_39_code 11 = .ok (.getfield 7, 3) := by decide +kernel
theorem dd_M_hide_14 : decode prog_9_method_39_code 14 = .ok (.bipush 24, 2) := by decide +kernel
theorem dd_M_hide_16 : decode prog_9_method_39_code 16 = .ok (.iload_n 1, 1) := by decide +kernel
theorem dd_M_hide_17 : decode prog_9_method_39_code 17 = .ok (.iadd, 1) := by decide +kernel
theorem dd_M_hide_18 : decode prog_9_method_39_code 18 = .ok (.iaload, 1) := by decide +kernel
theorem dd_M_hide_19 : decode prog_9_method_39_code 19 = .ok (.iconst 1, 1) := by decide +kernel
theorem dd_M_hide_20 : decode prog_9_method_39_code 20 = .ok (.if_icmp .ne 6, 3) := by decide +kernel
theorem dd_M_hide_23 : decode prog_9_method_39_code 23 = .ok (.bipush (-2), 2) := by decide +kernel
theorem dd_M_hide_25 : decode prog_9_method_39_code 25 = .ok (.ireturn, 1) := by decide +kernel
theorem dd_M_hide_26 : decode prog_9_method_39_code 26 = .ok (.aload_n 0, 1) := by decide +kernel
theorem dd_M_hide_27 : decode prog_9_method_39_code 27 = .ok (.getfield 7, 3) := by decide +kernel
theorem dd_M_hide_30 : decode prog_9_method_39_code 30 = .ok (.bipush 24, 2) := by decide +kernel
theorem dd_M_hide_32 : decode prog_9_method_39_code 32 = .ok (.iload_n 1, 1) := by decide +kernel
theorem dd_M_hide_33 : decode prog_9_method_39_code 33 = .ok (.iadd, 1) := by decide +kernel
theorem dd_M_hide_34 : decode prog_9_method_39_code 34 = .ok (.iconst 1, 1) := by decide +kernel
theorem dd_M_hide_35 : decode prog_9_method_39_code 35 = .ok (.iastore, 1) := by decide +kernel
theorem dd_M_hide_36 : decode prog_9_method_39_code 36 = .ok (.iconst 1, 1) := by decide +kernel
theorem dd_M_hide_37 : decode prog_9_method_39_code 37 = .ok (.ireturn, 1) := by decide +kernel
theorem dd_M_fill_0 : decode prog_9_method_40_code 0 = .ok (.iconst 0, 1) := by decide +kernel
theorem dd_M_fill_1 : decode prog_9_method_40_code 1 = .ok (.istore_n 1, 1) := by decide +kernel
theorem dd_M_fill_2 : decode prog_9_method_40_code 2 = .ok (.iconst 0, 1) := by decide +kernel
theorem dd_M_fill_3 : decode prog_9_method_40_code 3 = .ok (.istore_n 2, 1) := by decide +kernel
theorem dd_M_fill_4 : decode prog_9_method_40_code 4 = .ok (.iload_n 2, 1) := by decide +kernel
theorem dd_M_fill_5 : decode prog_9_method_40_code 5 = .ok (.aload_n 0, 1) := by decide +kernel
theorem dd_M_fill_6 : decode prog_9_method_40_code 6 = .ok (.getfield 7, 3) := by decide +kernel
theorem dd_M_fill_9 : decode prog_9_method_40_code 9 = .ok (.bipush 32, 2) := by decide +kernel
theorem dd_M_fill_11 : decode prog_9_method_40_code 11 = .ok (.iaload, 1) := by decide +kernel
theorem dd_M_fill_12 : decode prog_9_method_40_code 12 = .ok (.if_icmp .ge 31, 3) := by decide +kernel
theorem dd_M_fill_15 : decode prog_9_method_40_code 15 = .ok (.iload_n 1, 1) := by decide +kernel
theorem dd_M_fill_16 : decode prog_9_method_40_code 16 = .ok (.aload_n 0, 1) := by decide +kernel
theorem dd_M_fill_17 : decode prog_9_method_40_code 17 = .ok (.getfield 7, 3) := by decide +kernel
theorem dd_M_fill_20 : decode prog_9_method_40_code 20 = .ok (.bipush 24, 2) := by decide +kernel
theorem dd_M_fill_22 : decode prog_9_method_40_code 22 = .ok (.iload_n 2, 1) := by decide +kernel
theorem dd_M_fill_23 : decode prog_9_method_40_code 23 = .ok (.iadd, 1) := by decide +kernel
theorem dd_M_fill_24 : decode prog_9_method_40_code 24 = .ok (.iaload, 1) := by decide +kernel
theorem dd_M_fill_25 : decode prog_9_method_40_code 25 = .ok (.iadd, 1) := by decide +kernel
theorem dd_M_fill_26 : decode prog_9_method_40_code 26 = .ok (.istore_n 1, 1) := by decide +kernel
theorem dd_M_fill_27 : decode prog_9_method_40_code 27 = .ok (.aload_n 0, 1) := by decide +kernel
theorem dd_M_fill_28 : decode prog_9_method_40_code 28 = .ok (.getfield 7, 3) := by decide +kernel
theorem dd_M_fill_31 : decode prog_9_method_40_code 31 = .ok (.bipush 24, 2) := by decide +kernel
theorem dd_M_fill_33 : decode prog_9_method_40_code 33 = .ok (.iload_n 2, 1) := by decide +kernel
theorem dd_M_fill_34 : decode prog_9_method_40_code 34 = .ok (.iadd, 1) := by decide +kernel
theorem dd_M_fill_35 : decode prog_9_method_40_code 35 = .ok (.iconst 0, 1) := by decide +kernel
theorem dd_M_fill_36 : decode prog_9_method_40_code 36 = .ok (.iastore, 1) := by decide +kernel
theorem dd_M_fill_37 : decode prog_9_method_40_code 37 = .ok (.iinc 2 1, 3) := by decide +kernel
theorem dd_M_fill_40 : decode prog_9_method_40_code 40 = .ok (.goto (-36), 3) := by decide +kernel
theorem dd_M_fill_43 : decode prog_9_method_40_code 43 = .ok (.iload_n 1, 1) := by decide +kernel
theorem dd_M_fill_44 : decode prog_9_method_40_code 44 = .ok (.ireturn, 1) := by decide +kernel
theorem dd_M_weeks_0 : decode prog_9_method_41_code 0 = .ok (.iload_n 1, 1) := by decide +kernel
theorem dd_M_weeks_1 : decode prog_9_method_41_code 1 = .ok (.i2l, 1) := by decide +kernel
theorem dd_M_weeks_2 : decode prog_9_method_41_code 2 = .ok (.lconst 0, 1) := by decide +kernel
theorem dd_M_weeks_3 : decode prog_9_method_41_code 3 = .ok (.ldc2_w 200, 3) := by decide +kernel
theorem dd_M_weeks_6 : decode prog_9_method_41_code 6 = .ok (.invokestatic 52, 3) := by decide +kernel
theorem dd_M_weeks_9 : decode prog_9_method_41_code 9 = .ok (.ifCond .ne 5, 3) := by decide +kernel
theorem dd_M_weeks_12 : decode prog_9_method_41_code 12 = .ok (.iconst (-1), 1) := by decide +kernel
theorem dd_M_weeks_13 : decode prog_9_method_41_code 13 = .ok (.ireturn, 1) := by decide +kernel
theorem dd_M_weeks_14 : decode prog_9_method_41_code 14 = .ok (.aload_n 0, 1) := by decide +kernel
theorem dd_M_weeks_15 : decode prog_9_method_41_code 15 = .ok (.getfield 7, 3) := by decide +kernel
theorem dd_M_weeks_18 : decode prog_9_method_41_code 18 = .ok (.bipush 43, 2) := by decide +kernel
theorem dd_M_weeks_20 : decode prog_9_method_41_code 20 = .ok (.iaload, 1) := by decide +kernel
theorem dd_M_weeks_21 : decode prog_9_method_41_code 21 = .ok (.iload_n 1, 1) := by decide +kernel
theorem dd_M_weeks_22 : decode prog_9_method_41_code 22 = .ok (.iadd, 1) := by decide +kernel
theorem dd_M_weeks_23 : decode prog_9_method_41_code 23 = .ok (.sipush 999, 3) := by decide +kernel
theorem dd_M_weeks_26 : decode prog_9_method_41_code 26 = .ok (.if_icmp .le 6, 3) := by decide +kernel
theorem dd_M_weeks_29 : decode prog_9_method_41_code 29 = .ok (.bipush (-3), 2) := by decide +kernel
theorem dd_M_weeks_31 : decode prog_9_method_41_code 31 = .ok (.ireturn, 1) := by decide +kernel
theorem dd_M_weeks_32 : decode prog_9_method_41_code 32 = .ok (.aload_n 0, 1) := by decide +kernel
theorem dd_M_weeks_33 : decode prog_9_method_41_code 33 = .ok (.iconst 0, 1) := by decide +kernel
theorem dd_M_weeks_34 : decode prog_9_method_41_code 34 = .ok (.invokevirtual 159, 3) := by decide +kernel
theorem dd_M_weeks_37 : decode prog_9_method_41_code 37 = .ok (.istore_n 2, 1) := by decide +kernel
theorem dd_M_weeks_38 : decode prog_9_method_41_code 38 = .ok (.iconst 0, 1) := by decide +kernel
theorem dd_M_weeks_39 : decode prog_9_method_41_code 39 = .ok (.istore_n 3, 1) := by decide +kernel
theorem dd_M_weeks_40 : decode prog_9_method_41_code 40 = .ok (.iload_n 3, 1) := by decide +kernel
theorem dd_M_weeks_41 : decode prog_9_method_41_code 41 = .ok (.iload_n 1, 1) := by decide +kernel
theorem dd_M_weeks_42 : decode prog_9_method_41_code 42 = .ok (.if_icmp .ge 14, 3) := by decide +kernel
theorem dd_M_weeks_45 : decode prog_9_method_41_code 45 = .ok (.aload_n 0, 1) := by decide +kernel
theorem dd_M_weeks_46 : decode prog_9_method_41_code 46 = .ok (.iconst 0, 1) := by decide +kernel
theorem dd_M_weeks_47 : decode prog_9_method_41_code 47 = .ok (.invokevirtual 202, 3) := by decide +kernel
theorem dd_M_weeks_50 : decode prog_9_method_41_code 50 = .ok (.iinc 3 1, 3) := by decide +kernel
theorem dd_M_weeks_53 : decode prog_9_method_41_code 53 = .ok (.goto (-13), 3) := by decide +kernel
theorem dd_M_weeks_56 : decode prog_9_method_41_code 56 = .ok (.aload_n 0, 1) := by decide +kernel
theorem dd_M_weeks_57 : decode prog_9_method_41_code 57 = .ok (.iconst 0, 1) := by decide +kernel
theorem dd_M_weeks_58 : decode prog_9_method_41_code 58 = .ok (.invokevirtual 159, 3) := by decide +kernel
theorem dd_M_weeks_61 : decode prog_9_method_41_code 61 = .ok (.iload_n 2, 1) := by decide +kernel
theorem dd_M_weeks_62 : decode prog_9_method_41_code 62 = .ok (.isub, 1) := by decide +kernel
theorem dd_M_weeks_63 : decode prog_9_method_41_code 63 = .ok (.ireturn, 1) := by decide +kernel
theorem dd_M_weeksGo_0 : decode prog_9_method_42_code 0 = .ok (.aload_n 0, 1) := by decide +kernel
theorem dd_M_weeksGo_1 : decode prog_9_method_42_code 1 = .ok (.iload_n 1, 1) := by decide +kernel
theorem dd_M_weeksGo_2 : decode prog_9_method_42_code 2 = .ok (.sipush 176, 3) := by decide +kernel
theorem dd_M_weeksGo_5 : decode prog_9_method_42_code 5 = .ok (.invokevirtual 168, 3) := by decide +kernel
theorem dd_M_weeksGo_8 : decode prog_9_method_42_code 8 = .ok (.aload_n 0, 1) := by decide +kernel
theorem dd_M_weeksGo_9 : decode prog_9_method_42_code 9 = .ok (.iconst 0, 1) := by decide +kernel
theorem dd_M_weeksGo_10 : decode prog_9_method_42_code 10 = .ok (.putfield 150, 3) := by decide +kernel
theorem dd_M_weeksGo_13 : decode prog_9_method_42_code 13 = .ok (.aload_n 0, 1) := by decide +kernel
theorem dd_M_weeksGo_14 : decode prog_9_method_42_code 14 = .ok (.iconst 0, 1) := by decide +kernel
theorem dd_M_weeksGo_15 : decode prog_9_method_42_code 15 = .ok (.putfield 140, 3) := by decide +kernel
theorem dd_M_weeksGo_18 : decode prog_9_method_42_code 18 = .ok (.iconst 0, 1) := by decide +kernel
theorem dd_M_weeksGo_19 : decode prog_9_method_42_code 19 = .ok (.istore_n 3, 1) := by decide +kernel
theorem dd_M_weeksGo_20 : decode prog_9_method_42_code 20 = .ok (.iload_n 3, 1) := by decide +kernel
theorem dd_M_weeksGo_21 : decode prog_9_method_42_code 21 = .ok (.iload_n 2, 1) := by decide +kernel
theorem dd_M_weeksGo_22 : decode prog_9_method_42_code 22 = .ok (.if_icmp .ge 16, 3) := by decide +kernel
theorem dd_M_weeksGo_25 : decode prog_9_method_42_code 25 = .ok (.aload_n 0, 1) := by decide +kernel
theorem dd_M_weeksGo_26 : decode prog_9_method_42_code 26 = .ok (.sipush 176, 3) := by decide +kernel
theorem dd_M_weeksGo_29 : decode prog_9_method_42_code 29 = .ok (.invokevirtual 202, 3) := by decide +kernel
theorem dd_M_weeksGo_32 : decode prog_9_method_42_code 32 = .ok (.iinc 3 1, 3) := by decide +kernel
theorem dd_M_weeksGo_35 : decode prog_9_method_42_code 35 = .ok (.goto (-15), 3) := by decide +kernel
theorem dd_M_weeksGo_38 : decode prog_9_method_42_code 38 = .ok (.aload_n 0, 1) := by decide +kernel
theorem dd_M_weeksGo_39 : decode prog_9_method_42_code 39 = .ok (.sipush 176, 3) := by decide +kernel
theorem dd_M_weeksGo_42 : decode prog_9_method_42_code 42 = .ok (.invokevirtual 159, 3) := by decide +kernel
theorem dd_M_weeksGo_45 : decode prog_9_method_42_code 45 = .ok (.aload_n 0, 1) := by decide +kernel
theorem dd_M_weeksGo_46 : decode prog_9_method_42_code 46 = .ok (.iconst 0, 1) := by decide +kernel
theorem dd_M_weeksGo_47 : decode prog_9_method_42_code 47 = .ok (.invokevirtual 159, 3) := by decide +kernel
theorem dd_M_weeksGo_50 : decode prog_9_method_42_code 50 = .ok (.isub, 1) := by decide +kernel
theorem dd_M_weeksGo_51 : decode prog_9_method_42_code 51 = .ok (.ireturn, 1) := by decide +kernel
theorem dd_M_runs_0 : decode prog_9_method_43_code 0 = .ok (.iload_n 1, 1) := by decide +kernel
theorem dd_M_runs_1 : decode prog_9_method_43_code 1 = .ok (.i2l, 1) := by decide +kernel
theorem dd_M_runs_2 : decode prog_9_method_43_code 2 = .ok (.lconst 0, 1) := by decide +kernel
theorem dd_M_runs_3 : decode prog_9_method_43_code 3 = .ok (.ldc2_w 205, 3) := by decide +kernel
theorem dd_M_runs_6 : decode prog_9_method_43_code 6 = .ok (.invokestatic 52, 3) := by decide +kernel
theorem dd_M_runs_9 : decode prog_9_method_43_code 9 = .ok (.ifCond .eq 15, 3) := by decide +kernel
theorem dd_M_runs_12 : decode prog_9_method_43_code 12 = .ok (.iload_n 2, 1) := by decide +kernel
theorem dd_M_runs_13 : decode prog_9_method_43_code 13 = .ok (.i2l, 1) := by decide +kernel
theorem dd_M_runs_14 : decode prog_9_method_43_code 14 = .ok (.lconst 0, 1) := by decide +kernel
theorem dd_M_runs_15 : decode prog_9_method_43_code 15 = .ok (.ldc2_w 207, 3) := by decide +kernel
theorem dd_M_runs_18 : decode prog_9_method_43_code 18 = .ok (.invokestatic 52, 3) := by decide +kernel
theorem dd_M_runs_21 : decode prog_9_method_43_code 21 = .ok (.ifCond .ne 5, 3) := by decide +kernel
theorem dd_M_runs_24 : decode prog_9_method_43_code 24 = .ok (.iconst (-1), 1) := by decide +kernel
theorem dd_M_runs_25 : decode prog_9_method_43_code 25 = .ok (.ireturn, 1) := by decide +kernel
theorem dd_M_runs_26 : decode prog_9_method_43_code 26 = .ok (.aload_n 0, 1) := by decide +kernel
theorem dd_M_runs_27 : decode prog_9_method_43_code 27 = .ok (.iconst 0, 1) := by decide +kernel
theorem dd_M_runs_28 : decode prog_9_method_43_code 28 = .ok (.iload_n 1, 1) := by decide +kernel
theorem dd_M_runs_29 : decode prog_9_method_43_code 29 = .ok (.invokevirtual 209, 3) := by decide +kernel
theorem dd_M_runs_32 : decode prog_9_method_43_code 32 = .ok (.istore_n 3, 1) := by decide +kernel
theorem dd_M_runs_33 : decode prog_9_method_43_code 33 = .ok (.iload_n 2, 1) := by decide +kernel
theorem dd_M_runs_34 : decode prog_9_method_43_code 34 = .ok (.ifCond .ne 7, 3) := by decide +kernel
theorem dd_M_runs_37 : decode prog_9_method_43_code 37 = .ok (.iload_n 3, 1) := by decide +kernel
theorem dd_M_runs_38 : decode prog_9_method_43_code 38 = .ok (.goto 49, 3) := by decide +kernel
theorem dd_M_runs_41 : decode prog_9_method_43_code 41 = .ok (.iload_n 2, 1) := by decide +kernel
theorem dd_M_runs_42 : decode prog_9_method_43_code 42 = .ok (.iconst 1, 1) := by decide +kernel
theorem dd_M_runs_43 : decode prog_9_method_43_code 43 = .ok (.if_icmp .ne 13, 3) := by decide +kernel
theorem dd_M_runs_46 : decode prog_9_method_43_code 46 = .ok (.aload_n 0, 1) := by decide +kernel
theorem dd_M_runs_47 : decode prog_9_method_43_code 47 = .ok (.sipush 176, 3) := by decide +kernel
theorem dd_M_runs_50 : decode prog_9_method_43_code 50 = .ok (.invokevirtual 156, 3) := by decide +kernel
theorem dd_M_runs_53 : decode prog_9_method_43_code 53 = .ok (.goto 34, 3) := by decide +kernel
theorem dd_M_runs_56 : decode prog_9_method_43_code 56 = .ok (.iload_n 2, 1) := by decide +kernel
theorem dd_M_runs_57 : decode prog_9_method_43_code 57 = .ok (.iconst 2, 1) := by decide +kernel
theorem dd_M_runs_58 : decode prog_9_method_43_code 58 = .ok (.if_icmp .ne 10, 3) := by decide +kernel
theorem dd_M_runs_61 : decode prog_9_method_43_code 61 = .ok (.aload_n 0, 1) := by decide +kernel
theorem dd_M_runs_62 : decode prog_9_method_43_code 62 = .ok (.getfield 150, 3) := by decide +kernel
theorem dd_M_runs_65 : decode prog_9_method_43_code 65 = .ok (.goto 22, 3) := by decide +kernel
theorem dd_M_runs_68 : decode prog_9_method_43_code 68 = .ok (.iload_n 2, 1) := by decide +kernel
theorem dd_M_runs_69 : decode prog_9_method_43_code 69 = .ok (.iconst 3, 1) := by decide +kernel
theorem dd_M_runs_70 : decode prog_9_method_43_code 70 = .ok (.if_icmp .ne 10, 3) := by decide +kernel
theorem dd_M_runs_73 : decode prog_9_method_43_code 73 = .ok (.aload_n 0, 1) := by decide +kernel
theorem dd_M_runs_74 : decode prog_9_method_43_code 74 = .ok (.getfield 140, 3) := by decide +kernel
theorem dd_M_runs_77 : decode prog_9_method_43_code 77 = .ok (.goto 10, 3) := by decide +kernel
theorem dd_M_runs_80 : decode prog_9_method_43_code 80 = .ok (.aload_n 0, 1) := by decide +kernel
theorem dd_M_runs_81 : decode prog_9_method_43_code 81 = .ok (.sipush 176, 3) := by decide +kernel
theorem dd_M_runs_84 : decode prog_9_method_43_code 84 = .ok (.invokevirtual 212, 3) := by decide +kernel
theorem dd_M_runs_87 : decode prog_9_method_43_code 87 = .ok (.ireturn, 1) := by decide +kernel
theorem dd_M_ahead_0 : decode prog_9_method_44_code 0 = .ok (.aload_n 0, 1) := by decide +kernel
theorem dd_M_ahead_1 : decode prog_9_method_44_code 1 = .ok (.iload_n 1, 1) := by decide +kernel
theorem dd_M_ahead_2 : decode prog_9_method_44_code 2 = .ok (.invokevirtual 172, 3) := by decide +kernel
theorem dd_M_ahead_5 : decode prog_9_method_44_code 5 = .ok (.ifCond .eq 25, 3) := by decide +kernel
theorem dd_M_ahead_8 : decode prog_9_method_44_code 8 = .ok (.iload_n 2, 1) := by decide +kernel
theorem dd_M_ahead_9 : decode prog_9_method_44_code 9 = .ok (.i2l, 1) := by decide +kernel
theorem dd_M_ahead_10 : decode prog_9_method_44_code 10 = .ok (.lconst 0, 1) := by decide +kernel
theorem dd_M_ahead_11 : decode prog_9_method_44_code 11 = .ok (.ldc2_w 205, 3) := by decide +kernel
theorem dd_M_ahead_14 : decode prog_9_method_44_code 14 = .ok (.invokestatic 52, 3) := by decide +kernel
theorem dd_M_ahead_17 : decode prog_9_method_44_code 17 = .ok (.ifCond .eq 13, 3) := by decide +kernel
theorem dd_M_ahead_20 : decode prog_9_method_44_code 20 = .ok (.iload_n 3, 1) := by decide +kernel
theorem dd_M_ahead_21 : decode prog_9_method_44_code 21 = .ok (.i2l, 1) := by decide +kernel
theorem dd_M_ahead_22 : decode prog_9_method_44_code 22 = .ok (.lconst 0, 1) := by decide +kernel
theorem dd_M_ahead_23 : decode prog_9_method_44_code 23 = .ok (.lconst 1, 1) := by decide +kernel
theorem dd_M_ahead_24 : decode prog_9_method_44_code 24 = .ok (.invokestatic 52, 3) := by decide +kernel
theorem dd_M_ahead_27 : decode prog_9_method_44_code 27 = .ok (.ifCond .ne 5, 3) := by decide +kernel
theorem dd_M_ahead_30 : decode prog_9_method_44_code 30 = .ok (.iconst (-1), 1) := by decide +kernel
theorem dd_M_ahead_31 : decode prog_9_method_44_code 31 = .ok (.ireturn, 1) := by decide +kernel
theorem dd_M_ahead_32 : decode prog_9_method_44_code 32 = .ok (.aload_n 0, 1) := by decide +kernel
theorem dd_M_ahead_33 : decode prog_9_method_44_code 33 = .ok (.iconst 0, 1) := by decide +kernel
theorem dd_M_ahead_34 : decode prog_9_method_44_code 34 = .ok (.iload_n 2, 1) := by decide +kernel
theorem dd_M_ahead_35 : decode prog_9_method_44_code 35 = .ok (.invokevirtual 209, 3) := by decide +kernel
theorem dd_M_ahead_38 : decode prog_9_method_44_code 38 = .ok (.pop, 1) := by decide +kernel
theorem dd_M_ahead_39 : decode prog_9_method_44_code 39 = .ok (.iload_n 3, 1) := by decide +kernel
theorem dd_M_ahead_40 : decode prog_9_method_44_code 40 = .ok (.ifCond .ne 16, 3) := by decide +kernel
theorem dd_M_ahead_43 : decode prog_9_method_44_code 43 = .ok (.aload_n 0, 1) := by decide +kernel
theorem dd_M_ahead_44 : decode prog_9_method_44_code 44 = .ok (.getfield 7, 3) := by decide +kernel
theorem dd_M_ahead_47 : decode prog_9_method_44_code 47 = .ok (.sipush 213, 3) := by decide +kernel
theorem dd_M_ahead_50 : decode prog_9_method_44_code 50 = .ok (.iload_n 1, 1) := by decide +kernel
theorem dd_M_ahead_51 : decode prog_9_method_44_code 51 = .ok (.iadd, 1) := by decide +kernel
theorem dd_M_ahead_52 : decode prog_9_method_44_code 52 = .ok (.iaload, 1) := by decide +kernel
theorem dd_M_ahead_53 : decode prog_9_method_44_code 53 = .ok (.goto 13, 3) := by decide +kernel
theorem dd_M_ahead_56 : decode prog_9_method_44_code 56 = .ok (.aload_n 0, 1) := by decide +kernel
theorem dd_M_ahead_57 : decode prog_9_method_44_code 57 = .ok (.getfield 7, 3) := by decide +kernel
theorem dd_M_ahead_60 : decode prog_9_method_44_code 60 = .ok (.sipush 209, 3) := by decide +kernel
theorem dd_M_ahead_63 : decode prog_9_method_44_code 63 = .ok (.iload_n 1, 1) := by decide +kernel
theorem dd_M_ahead_64 : decode prog_9_method_44_code 64 = .ok (.iadd, 1) := by decide +kernel
theorem dd_M_ahead_65 : decode prog_9_method_44_code 65 = .ok (.iaload, 1) := by decide +kernel
theorem dd_M_ahead_66 : decode prog_9_method_44_code 66 = .ok (.ireturn, 1) := by decide +kernel
theorem dd_M_gone_0 : decode prog_9_method_45_code 0 = .ok (.aload_n 0, 1) := by decide +kernel
theorem dd_M_gone_1 : decode prog_9_method_45_code 1 = .ok (.iload_n 1, 1) := by decide +kernel
theorem dd_M_gone_2 : decode prog_9_method_45_code 2 = .ok (.invokevirtual 162, 3) := by decide +kernel
theorem dd_M_gone_5 : decode prog_9_method_45_code 5 = .ok (.ifCond .ne 5, 3) := by decide +kernel
theorem dd_M_gone_8 : decode prog_9_method_45_code 8 = .ok (.iconst (-1), 1) := by decide +kernel
theorem dd_M_gone_9 : decode prog_9_method_45_code 9 = .ok (.ireturn, 1) := by decide +kernel
theorem dd_M_gone_10 : decode prog_9_method_45_code 10 = .ok (.aload_n 0, 1) := by decide +kernel
theorem dd_M_gone_11 : decode prog_9_method_45_code 11 = .ok (.iconst 0, 1) := by decide +kernel
theorem dd_M_gone_12 : decode prog_9_method_45_code 12 = .ok (.sipush 176, 3) := by decide +kernel
theorem dd_M_gone_15 : decode prog_9_method_45_code 15 = .ok (.invokevirtual 168, 3) := by decide +kernel
theorem dd_M_gone_18 : decode prog_9_method_45_code 18 = .ok (.iconst 0, 1) := by decide +kernel
theorem dd_M_gone_19 : decode prog_9_method_45_code 19 = .ok (.istore_n 2, 1) := by decide +kernel
theorem dd_M_gone_20 : decode prog_9_method_45_code 20 = .ok (.iload_n 2, 1) := by decide +kernel
theorem dd_M_gone_21 : decode prog_9_method_45_code 21 = .ok (.bipush 60, 2) := by decide +kernel
theorem dd_M_gone_23 : decode prog_9_method_45_code 23 = .ok (.if_icmp .gt 30, 3) := by decide +kernel
theorem dd_M_gone_26 : decode prog_9_method_45_code 26 = .ok (.aload_n 0, 1) := by decide +kernel
theorem dd_M_gone_27 : decode prog_9_method_45_code 27 = .ok (.sipush 176, 3) := by decide +kernel
theorem dd_M_gone_30 : decode prog_9_method_45_code 30 = .ok (.invokevirtual 202, 3) := by decide +kernel
theorem dd_M_gone_33 : decode prog_9_method_45_code 33 = .ok (.aload_n 0, 1) := by decide +kernel
theorem dd_M_gone_34 : decode prog_9_method_45_code 34 = .ok (.getfield 134, 3) := by decide +kernel
theorem dd_M_gone_37 : decode prog_9_method_45_code 37 = .ok (.iload_n 1, 1) := by decide +kernel
theorem dd_M_gone_38 : decode prog_9_method_45_code 38 = .ok (.ishr, 1) := by decide +kernel
theorem dd_M_gone_39 : decode prog_9_method_45_code 39 = .ok (.iconst 1, 1) := by decide +kernel
theorem dd_M_gone_40 : decode prog_9_method_45_code 40 = .ok (.iand, 1) := by decide +kernel
theorem dd_M_gone_41 : decode prog_9_method_45_code 41 = .ok (.iconst 1, 1) := by decide +kernel
theorem dd_M_gone_42 : decode prog_9_method_45_code 42 = .ok (.if_icmp .ne 5, 3) := by decide +kernel
theorem dd_M_gone_45 : decode prog_9_method_45_code 45 = .ok (.iload_n 2, 1) := by decide +kernel
theorem dd_M_gone_46 : decode prog_9_method_45_code 46 = .ok (.ireturn, 1) := by decide +kernel
theorem dd_M_gone_47 : decode prog_9_method_45_code 47 = .ok (.iinc 2 1, 3) := by decide +kernel
theorem dd_M_gone_50 : decode prog_9_method_45_code 50 = .ok (.goto (-30), 3) := by decide +kernel
theorem dd_M_gone_53 : decode prog_9_method_45_code 53 = .ok (.bipush (-4), 2) := by decide +kernel
theorem dd_M_gone_55 : decode prog_9_method_45_code 55 = .ok (.ireturn, 1) := by decide +kernel
theorem dd_M_rich_0 : decode prog_9_method_46_code 0 = .ok (.aload_n 0, 1) := by decide +kernel
theorem dd_M_rich_1 : decode prog_9_method_46_code 1 = .ok (.iload_n 1, 1) := by decide +kernel
theorem dd_M_rich_2 : decode prog_9_method_46_code 2 = .ok (.invokevirtual 172, 3) := by decide +kernel
theorem dd_M_rich_5 : decode prog_9_method_46_code 5 = .ok (.ifCond .eq 15, 3) := by decide +kernel
theorem dd_M_rich_8 : decode prog_9_method_46_code 8 = .ok (.iload_n 2, 1) := by decide +kernel
theorem dd_M_rich_9 : decode prog_9_method_46_code 9 = .ok (.i2l, 1) := by decide +kernel
theorem dd_M_rich_10 : decode prog_9_method_46_code 10 = .ok (.lconst 0, 1) := by decide +kernel
theorem dd_M_rich_11 : decode prog_9_method_46_code 11 = .ok (.ldc2_w 192, 3) := by decide +kernel
theorem dd_M_rich_14 : decode prog_9_method_46_code 14 = .ok (.invokestatic 52, 3) := by decide +kernel
theorem dd_M_rich_17 : decode prog_9_method_46_code 17 = .ok (.ifCond .ne 5, 3) := by decide +kernel
theorem dd_M_rich_20 : decode prog_9_method_46_code 20 = .ok (.iconst (-1), 1) := by decide +kernel
theorem dd_M_rich_21 : decode prog_9_method_46_code 21 = .ok (.ireturn, 1) := by decide +kernel
theorem dd_M_rich_22 : decode prog_9_method_46_code 22 = .ok (.aload_n 0, 1) := by decide +kernel
theorem dd_M_rich_23 : decode prog_9_method_46_code 23 = .ok (.iconst 0, 1) := by decide +kernel
theorem dd_M_rich_24 : decode prog_9_method_46_code 24 = .ok (.sipush 176, 3) := by decide +kernel
theorem dd_M_rich_27 : decode prog_9_method_46_code 27 = .ok (.invokevirtual 168, 3) := by decide +kernel
theorem dd_M_rich_30 : decode prog_9_method_46_code 30 = .ok (.iconst 0, 1) := by decide +kernel
theorem dd_M_rich_31 : decode prog_9_method_46_code 31 = .ok (.istore_n 3, 1) := by decide +kernel
theorem dd_M_rich_32 : decode prog_9_method_46_code 32 = .ok (.iload_n 3, 1) := by decide +kernel
theorem dd_M_rich_33 : decode prog_9_method_46_code 33 = .ok (.bipush 60, 2) := by decide +kernel
theorem dd_M_rich_35 : decode prog_9_method_46_code 35 = .ok (.if_icmp .gt 32, 3) := by decide +kernel
theorem dd_M_rich_38 : decode prog_9_method_46_code 38 = .ok (.aload_n 0, 1) := by decide +kernel
theorem dd_M_rich_39 : decode prog_9_method_46_code 39 = .ok (.getfield 7, 3) := by decide +kernel
theorem dd_M_rich_42 : decode prog_9_method_46_code 42 = .ok (.sipush 213, 3) := by decide +kernel
theorem dd_M_rich_45 : decode prog_9_method_46_code 45 = .ok (.iload_n 1, 1) := by decide +kernel
theorem dd_M_rich_46 : decode prog_9_method_46_code 46 = .ok (.iadd, 1) := by decide +kernel
theorem dd_M_rich_47 : decode prog_9_method_46_code 47 = .ok (.iaload, 1) := by decide +kernel
theorem dd_M_rich_48 : decode prog_9_method_46_code 48 = .ok (.iload_n 2, 1) := by decide +kernel
theorem dd_M_rich_49 : decode prog_9_method_46_code 49 = .ok (.if_icmp .lt 5, 3) := by decide +kernel
theorem dd_M_rich_52 : decode prog_9_method_46_code 52 = .ok (.iload_n 3, 1) := by decide +kernel
theorem dd_M_rich_53 : decode prog_9_method_46_code 53 = .ok (.ireturn, 1) := by decide +kernel
theorem dd_M_rich_54 : decode prog_9_method_46_code 54 = .ok (.aload_n 0, 1) := by decide +kernel
theorem dd_M_rich_55 : decode prog_9_method_46_code 55 = .ok (.sipush 176, 3) := by decide +kernel
theorem dd_M_rich_58 : decode prog_9_method_46_code 58 = .ok (.invokevirtual 202, 3) := by decide +kernel
theorem dd_M_rich_61 : decode prog_9_method_46_code 61 = .ok (.iinc 3 1, 3) := by decide +kernel
theorem dd_M_rich_64 : decode prog_9_method_46_code 64 = .ok (.goto (-32), 3) := by decide +kernel
theorem dd_M_rich_67 : decode prog_9_method_46_code 67 = .ok (.bipush (-4), 2) := by decide +kernel
theorem dd_M_rich_69 : decode prog_9_method_46_code 69 = .ok (.ireturn, 1) := by decide +kernel
theorem dd_M_arms_0 : decode prog_9_method_47_code 0 = .ok (.aload_n 0, 1) := by decide +kernel
theorem dd_M_arms_1 : decode prog_9_method_47_code 1 = .ok (.iload_n 1, 1) := by decide +kernel
theorem dd_M_arms_2 : decode prog_9_method_47_code 2 = .ok (.invokevirtual 172, 3) := by decide +kernel
theorem dd_M_arms_5 : decode prog_9_method_47_code 5 = .ok (.ifCond .eq 15, 3) := by decide +kernel
theorem dd_M_arms_8 : decode prog_9_method_47_code 8 = .ok (.iload_n 2, 1) := by decide +kernel
theorem dd_M_arms_9 : decode prog_9_method_47_code 9 = .ok (.i2l, 1) := by decide +kernel
theorem dd_M_arms_10 : decode prog_9_method_47_code 10 = .ok (.lconst 0, 1) := by decide +kernel
theorem dd_M_arms_11 : decode prog_9_method_47_code 11 = .ok (.ldc2_w 215, 3) := by decide +kernel
theorem dd_M_arms_14 : decode prog_9_method_47_code 14 = .ok (.invokestatic 52, 3) := by decide +kernel
theorem dd_M_arms_17 : decode prog_9_method_47_code 17 = .ok (.ifCond .ne 5, 3) := by decide +kernel
theorem dd_M_arms_20 : decode prog_9_method_47_code 20 = .ok (.iconst (-1), 1) := by decide +kernel
theorem dd_M_arms_21 : decode prog_9_method_47_code 21 = .ok (.ireturn, 1) := by decide +kernel
theorem dd_M_arms_22 : decode prog_9_method_47_code 22 = .ok (.aload_n 0, 1) := by decide +kernel
theorem dd_M_arms_23 : decode prog_9_method_47_code 23 = .ok (.iconst 0, 1) := by decide +kernel
theorem dd_M_arms_24 : decode prog_9_method_47_code 24 = .ok (.invokevirtual 156, 3) := by decide +kernel
theorem dd_M_arms_27 : decode prog_9_method_47_code 27 = .ok (.istore_n 3, 1) := by decide +kernel
theorem dd_M_arms_28 : decode prog_9_method_47_code 28 = .ok (.iconst 0, 1) := by decide +kernel
theorem dd_M_arms_29 : decode prog_9_method_47_code 29 = .ok (.istore 4, 2) := by decide +kernel
theorem dd_M_arms_31 : decode prog_9_method_47_code 31 = .ok (.iconst 0, 1) := by decide +kernel
theorem dd_M_arms_32 : decode prog_9_method_47_code 32 = .ok (.istore 5, 2) := by decide +kernel
theorem dd_M_arms_34 : decode prog_9_method_47_code 34 = .ok (.iconst 0, 1) := by decide +kernel
theorem dd_M_arms_35 : decode prog_9_method_47_code 35 = .ok (.istore 6, 2) := by decide +kernel
theorem dd_M_arms_37 : decode prog_9_method_47_code 37 = .ok (.iconst 0, 1) := by decide +kernel
theorem dd_M_arms_38 : decode prog_9_method_47_code 38 = .ok (.istore 7, 2) := by decide +kernel
theorem dd_M_arms_40 : decode prog_9_method_47_code 40 = .ok (.iload 7, 2) := by decide +kernel
theorem dd_M_arms_42 : decode prog_9_method_47_code 42 = .ok (.iconst 1, 1) := by decide +kernel
theorem dd_M_arms_43 : decode prog_9_method_47_code 43 = .ok (.aload_n 0, 1) := by decide +kernel
theorem dd_M_arms_44 : decode prog_9_method_47_code 44 = .ok (.getfield 7, 3) := by decide +kernel
theorem dd_M_arms_47 : decode prog_9_method_47_code 47 = .ok (.bipush 32, 2) := by decide +kernel
theorem dd_M_arms_49 : decode prog_9_method_47_code 49 = .ok (.iaload, 1) := by decide +kernel
theorem dd_M_arms_50 : decode prog_9_method_47_code 50 = .ok (.ishl, 1) := by decide +kernel
theorem dd_M_arms_51 : decode prog_9_method_47_code 51 = .ok (.if_icmp .ge 112, 3) := by decide +kernel
theorem dd_M_arms_54 : decode prog_9_method_47_code 54 = .ok (.iconst 0, 1) := by decide +kernel
theorem dd_M_arms_55 : decode prog_9_method_47_code 55 = .ok (.istore 8, 2) := by decide +kernel
theorem dd_M_arms_57 : decode prog_9_method_47_code 57 = .ok (.iconst 0, 1) := by decide +kernel
theorem dd_M_arms_58 : decode prog_9_method_47_code 58 = .ok (.istore 9, 2) := by decide +kernel
theorem dd_M_arms_60 : decode prog_9_method_47_code 60 = .ok (.iload 9, 2) := by decide +kernel
theorem dd_M_arms_62 : decode prog_9_method_47_code 62 = .ok (.aload_n 0, 1) := by decide +kernel
theorem dd_M_arms_63 : decode prog_9_method_47_code 63 = .ok (.getfield 7, 3) := by decide +kernel
theorem dd_M_arms_66 : decode prog_9_method_47_code 66 = .ok (.bipush 32, 2) := by decide +kernel
theorem dd_M_arms_68 : decode prog_9_method_47_code 68 = .ok (.iaload, 1) := by decide +kernel
theorem dd_M_arms_69 : decode prog_9_method_47_code 69 = .ok (.if_icmp .ge 36, 3) := by decide +kernel
theorem dd_M_arms_72 : decode prog_9_method_47_code 72 = .ok (.iload 8, 2) := by decide +kernel
theorem dd_M_arms_74 : decode prog_9_method_47_code 74 = .ok (.iload 7, 2) := by decide +kernel
theorem dd_M_arms_76 : decode prog_9_method_47_code 76 = .ok (.iload 9, 2) := by decide +kernel
theorem dd_M_arms_78 : decode prog_9_method_47_code 78 = .ok (.ishr, 1) := by decide +kernel
theorem dd_M_arms_79 : decode prog_9_method_47_code 79 = .ok (.iconst 1, 1) := by decide +kernel
theorem dd_M_arms_80 : decode prog_9_method_47_code 80 = .ok (.iand, 1) := by decide +kernel
theorem dd_M_arms_81 : decode prog_9_method_47_code 81 = .ok (.iconst 1, 1) := by decide +kernel
theorem dd_M_arms_82 : decode prog_9_method_47_code 82 = .ok (.if_icmp .ne 13, 3) := by decide +kernel
theorem dd_M_arms_85 : decode prog_9_method_47_code 85 = .ok (.aload_n 0, 1) := by decide +kernel
theorem dd_M_arms_86 : decode prog_9_method_47_code 86 = .ok (.iconst 0, 1) := by decide +kernel
theorem dd_M_arms_87 : decode prog_9_method_47_code 87 = .ok (.iload 9, 2) := by decide +kernel
theorem dd_M_arms_89 : decode prog_9_method_47_code 89 = .ok (.invokevirtual 128, 3) := by decide +kernel
theorem dd_M_arms_92 : decode prog_9_method_47_code 92 = .ok (.goto 4, 3) := by decide +kernel
theorem dd_M_arms_95 : decode prog_9_method_47_code 95 = .ok (.iconst 0, 1) := by decide +kernel
theorem dd_M_arms_96 : decode prog_9_method_47_code 96 = .ok (.iadd, 1) := by decide +kernel
theorem dd_M_arms_97 : decode prog_9_method_47_code 97 = .ok (.istore 8, 2) := by decide +kernel
theorem dd_M_arms_99 : decode prog_9_method_47_code 99 = .ok (.iinc 9 1, 3) := by decide +kernel
theorem dd_M_arms_102 : decode prog_9_method_47_code 102 = .ok (.goto (-42), 3) := by decide +kernel
theorem dd_M_arms_105 : decode prog_9_method_47_code 105 = .ok (.iload 7, 2) := by decide +kernel
theorem dd_M_arms_107 : decode prog_9_method_47_code 107 = .ok (.iload_n 3, 1) := by decide +kernel
theorem dd_M_arms_108 : decode prog_9_method_47_code 108 = .ok (.iand, 1) := by decide +kernel
theorem dd_M_arms_109 : decode prog_9_method_47_code 109 = .ok (.iload 7, 2) := by decide +kernel
theorem dd_M_arms_111 : decode prog_9_method_47_code 111 = .ok (.if_icmp .ne 46, 3) := by decide +kernel
theorem dd_M_arms_114 : decode prog_9_method_47_code 114 = .ok (.iload 8, 2) := by decide +kernel
theorem dd_M_arms_116 : decode prog_9_method_47_code 116 = .ok (.aload_n 0, 1) := by decide +kernel
theorem dd_M_arms_117 : decode prog_9_method_47_code 117 = .ok (.getfield 7, 3) := by decide +kernel
theorem dd_M_arms_120 : decode prog_9_method_47_code 120 = .ok (.bipush 33, 2) := by decide +kernel
theorem dd_M_arms_122 : decode prog_9_method_47_code 122 = .ok (.iload_n 1, 1) := by decide +kernel
theorem dd_M_arms_123 : decode prog_9_method_47_code 123 = .ok (.iadd, 1) := by decide +kernel
theorem dd_M_arms_124 : decode prog_9_method_47_code 124 = .ok (.iaload, 1) := by decide +kernel
theorem dd_M_arms_125 : decode prog_9_method_47_code 125 = .ok (.if_icmp .gt 32, 3) := by decide +kernel
theorem dd_M_arms_128 : decode prog_9_method_47_code 128 = .ok (.aload_n 0, 1) := by decide +kernel
theorem dd_M_arms_129 : decode prog_9_method_47_code 129 = .ok (.iconst 0, 1) := by decide +kernel
theorem dd_M_arms_130 : decode prog_9_method_47_code 130 = .ok (.iload 7, 2) := by decide +kernel
theorem dd_M_arms_132 : decode prog_9_method_47_code 132 = .ok (.invokevirtual 147, 3) := by decide +kernel
theorem dd_M_arms_135 : decode prog_9_method_47_code 135 = .ok (.iload 5, 2) := by decide +kernel
theorem dd_M_arms_137 : decode prog_9_method_47_code 137 = .ok (.if_icmp .le 20, 3) := by decide +kernel
theorem dd_M_arms_140 : decode prog_9_method_47_code 140 = .ok (.iload 7, 2) := by decide +kernel
theorem dd_M_arms_142 : decode prog_9_method_47_code 142 = .ok (.istore 4, 2) := by decide +kernel
theorem dd_M_arms_144 : decode prog_9_method_47_code 144 = .ok (.aload_n 0, 1) := by decide +kernel
theorem dd_M_arms_145 : decode prog_9_method_47_code 145 = .ok (.iconst 0, 1) := by decide +kernel
theorem dd_M_arms_146 : decode prog_9_method_47_code 146 = .ok (.iload 7, 2) := by decide +kernel
theorem dd_M_arms_148 : decode prog_9_method_47_code 148 = .ok (.invokevirtual 147, 3) := by decide +kernel
theorem dd_M_arms_151 : decode prog_9_method_47_code 151 = .ok (.istore 5, 2) := by decide +kernel
theorem dd_M_arms_153 : decode prog_9_method_47_code 153 = .ok (.iload 8, 2) := by decide +kernel
theorem dd_M_arms_155 : decode prog_9_method_47_code 155 = .ok (.istore 6, 2) := by decide +kernel
theorem dd_M_arms_157 : decode prog_9_method_47_code 157 = .ok (.iinc 7 1, 3) := by decide +kernel
theorem dd_M_arms_160 : decode prog_9_method_47_code 160 = .ok (.goto (-120), 3) := by decide +kernel
theorem dd_M_arms_163 : decode prog_9_method_47_code 163 = .ok (.iload_n 2, 1) := by decide +kernel
theorem dd_M_arms_164 : decode prog_9_method_47_code 164 = .ok (.ifCond .ne 8, 3) := by decide +kernel
theorem dd_M_arms_167 : decode prog_9_method_47_code 167 = .ok (.iload 4, 2) := by decide +kernel
theorem dd_M_arms_169 : decode prog_9_method_47_code 169 = .ok (.goto 15, 3) := by decide +kernel
theorem dd_M_arms_172 : decode prog_9_method_47_code 172 = .ok (.iload_n 2, 1) := by decide +kernel
theorem dd_M_arms_173 : decode prog_9_method_47_code 173 = .ok (.iconst 1, 1) := by decide +kernel
theorem dd_M_arms_174 : decode prog_9_method_47_code 174 = .ok (.if_icmp .ne 8, 3) := by decide +kernel
theorem dd_M_arms_177 : decode prog_9_method_47_code 177 = .ok (.iload 5, 2) := by decide +kernel
theorem dd_M_arms_179 : decode prog_9_method_47_code 179 = .ok (.goto 5, 3) := by decide +kernel
theorem dd_M_arms_182 : decode prog_9_method_47_code 182 = .ok (.iload 6, 2) := by decide +kernel
theorem dd_M_arms_184 : decode prog_9_method_47_code 184 = .ok (.ireturn, 1) := by decide +kernel
theorem dd_M_need_0 : decode prog_9_method_48_code 0 = .ok (.aload_n 0, 1) := by decide +kernel
theorem dd_M_need_1 : decode prog_9_method_48_code 1 = .ok (.iload_n 1, 1) := by decide +kernel
theorem dd_M_need_2 : decode prog_9_method_48_code 2 = .ok (.invokevirtual 172, 3) := by decide +kernel
theorem dd_M_need_5 : decode prog_9_method_48_code 5 = .ok (.ifCond .eq 11, 3) := by decide +kernel
theorem dd_M_need_8 : decode prog_9_method_48_code 8 = .ok (.aload_n 0, 1) := by decide +kernel
theorem dd_M_need_9 : decode prog_9_method_48_code 9 = .ok (.iload_n 2, 1) := by decide +kernel
theorem dd_M_need_10 : decode prog_9_method_48_code 10 = .ok (.invokevirtual 162, 3) := by decide +kernel
theorem dd_M_need_13 : decode prog_9_method_48_code 13 = .ok (.ifCond .ne 5, 3) := by decide +kernel
theorem dd_M_need_16 : decode prog_9_method_48_code 16 = .ok (.iconst (-1), 1) := by decide +kernel
theorem dd_M_need_17 : decode prog_9_method_48_code 17 = .ok (.ireturn, 1) := by decide +kernel
theorem dd_M_need_18 : decode prog_9_method_48_code 18 = .ok (.aload_n 0, 1) := by decide +kernel
theorem dd_M_need_19 : decode prog_9_method_48_code 19 = .ok (.iconst 0, 1) := by decide +kernel
theorem dd_M_need_20 : decode prog_9_method_48_code 20 = .ok (.sipush 220, 3) := by decide +kernel
theorem dd_M_need_23 : decode prog_9_method_48_code 23 = .ok (.invokevirtual 168, 3) := by decide +kernel
theorem dd_M_need_26 : decode prog_9_method_48_code 26 = .ok (.iconst 1, 1) := by decide +kernel
theorem dd_M_need_27 : decode prog_9_method_48_code 27 = .ok (.istore_n 3, 1) := by decide +kernel
theorem dd_M_need_28 : decode prog_9_method_48_code 28 = .ok (.iload_n 3, 1) := by decide +kernel
theorem dd_M_need_29 : decode prog_9_method_48_code 29 = .ok (.bipush 20, 2) := by decide +kernel
theorem dd_M_need_31 : decode prog_9_method_48_code 31 = .ok (.if_icmp .gt 43, 3) := by decide +kernel
theorem dd_M_need_34 : decode prog_9_method_48_code 34 = .ok (.aload_n 0, 1) := by decide +kernel
theorem dd_M_need_35 : decode prog_9_method_48_code 35 = .ok (.getfield 7, 3) := by decide +kernel
theorem dd_M_need_38 : decode prog_9_method_48_code 38 = .ok (.sipush 253, 3) := by decide +kernel
theorem dd_M_need_41 : decode prog_9_method_48_code 41 = .ok (.iload_n 1, 1) := by decide +kernel
theorem dd_M_need_42 : decode prog_9_method_48_code 42 = .ok (.iadd, 1) := by decide +kernel
theorem dd_M_need_43 : decode prog_9_method_48_code 43 = .ok (.iload_n 3, 1) := by decide +kernel
theorem dd_M_need_44 : decode prog_9_method_48_code 44 = .ok (.iastore, 1) := by decide +kernel
theorem dd_M_need_45 : decode prog_9_method_48_code 45 = .ok (.aload_n 0, 1) := by decide +kernel
theorem dd_M_need_46 : decode prog_9_method_48_code 46 = .ok (.sipush 220, 3) := by decide +kernel
theorem dd_M_need_49 : decode prog_9_method_48_code 49 = .ok (.invokevirtual 177, 3) := by decide +kernel
theorem dd_M_need_52 : decode prog_9_method_48_code 52 = .ok (.aload_n 0, 1) := by decide +kernel
theorem dd_M_need_53 : decode prog_9_method_48_code 53 = .ok (.getfield 25, 3) := by decide +kernel
theorem dd_M_need_56 : decode prog_9_method_48_code 56 = .ok (.iload_n 1, 1) := by decide +kernel
theorem dd_M_need_57 : decode prog_9_method_48_code 57 = .ok (.iaload, 1) := by decide +kernel
theorem dd_M_need_58 : decode prog_9_method_48_code 58 = .ok (.iload_n 2, 1) := by decide +kernel
theorem dd_M_need_59 : decode prog_9_method_48_code 59 = .ok (.ishr, 1) := by decide +kernel
theorem dd_M_need_60 : decode prog_9_method_48_code 60 = .ok (.iconst 1, 1) := by decide +kernel
theorem dd_M_need_61 : decode prog_9_method_48_code 61 = .ok (.iand, 1) := by decide +kernel
theorem dd_M_need_62 : decode prog_9_method_48_code 62 = .ok (.iconst 1, 1) := by decide +kernel
theorem dd_M_need_63 : decode prog_9_method_48_code 63 = .ok (.if_icmp .ne 5, 3) := by decide +kernel
theorem dd_M_need_66 : decode prog_9_method_48_code 66 = .ok (.iload_n 3, 1) := by decide +kernel
theorem dd_M_need_67 : decode prog_9_method_48_code 67 = .ok (.ireturn, 1) := by decide +kernel
theorem dd_M_need_68 : decode prog_9_method_48_code 68 = .ok (.iinc 3 1, 3) := by decide +kernel
theorem dd_M_need_71 : decode prog_9_method_48_code 71 = .ok (.goto (-43), 3) := by decide +kernel
theorem dd_M_need_74 : decode prog_9_method_48_code 74 = .ok (.bipush (-4), 2) := by decide +kernel
theorem dd_M_need_76 : decode prog_9_method_48_code 76 = .ok (.ireturn, 1) := by decide +kernel
theorem dd_M_fair_0 : decode prog_9_method_49_code 0 = .ok (.iload_n 1, 1) := by decide +kernel
theorem dd_M_fair_1 : decode prog_9_method_49_code 1 = .ok (.i2l, 1) := by decide +kernel
theorem dd_M_fair_2 : decode prog_9_method_49_code 2 = .ok (.lconst 0, 1) := by decide +kernel
theorem dd_M_fair_3 : decode prog_9_method_49_code 3 = .ok (.ldc2_w 205, 3) := by decide +kernel
theorem dd_M_fair_6 : decode prog_9_method_49_code 6 = .ok (.invokestatic 52, 3) := by decide +kernel
theorem dd_M_fair_9 : decode prog_9_method_49_code 9 = .ok (.ifCond .eq 13, 3) := by decide +kernel
theorem dd_M_fair_12 : decode prog_9_method_49_code 12 = .ok (.iload_n 2, 1) := by decide +kernel
theorem dd_M_fair_13 : decode prog_9_method_49_code 13 = .ok (.i2l, 1) := by decide +kernel
theorem dd_M_fair_14 : decode prog_9_method_49_code 14 = .ok (.lconst 0, 1) := by decide +kernel
theorem dd_M_fair_15 : decode prog_9_method_49_code 15 = .ok (.lconst 1, 1) := by decide +kernel
theorem dd_M_fair_16 : decode prog_9_method_49_code 16 = .ok (.invokestatic 52, 3) := by decide +kernel
theorem dd_M_fair_19 : decode prog_9_method_49_code 19 = .ok (.ifCond .ne 5, 3) := by decide +kernel
theorem dd_M_fair_22 : decode prog_9_method_49_code 22 = .ok (.iconst (-1), 1) := by decide +kernel
theorem dd_M_fair_23 : decode prog_9_method_49_code 23 = .ok (.ireturn, 1) := by decide +kernel
theorem dd_M_fair_24 : decode prog_9_method_49_code 24 = .ok (.aload_n 0, 1) := by decide +kernel
theorem dd_M_fair_25 : decode prog_9_method_49_code 25 = .ok (.getfield 122, 3) := by decide +kernel
theorem dd_M_fair_28 : decode prog_9_method_49_code 28 = .ok (.ifCond .ne 6, 3) := by decide +kernel
theorem dd_M_fair_31 : decode prog_9_method_49_code 31 = .ok (.bipush (-2), 2) := by decide +kernel
theorem dd_M_fair_33 : decode prog_9_method_49_code 33 = .ok (.ireturn, 1) := by decide +kernel
theorem dd_M_fair_34 : decode prog_9_method_49_code 34 = .ok (.iconst (-1), 1) := by decide +kernel
theorem dd_M_fair_35 : decode prog_9_method_49_code 35 = .ok (.istore_n 3, 1) := by decide +kernel
theorem dd_M_fair_36 : decode prog_9_method_49_code 36 = .ok (.iconst 0, 1) := by decide +kernel
theorem dd_M_fair_37 : decode prog_9_method_49_code 37 = .ok (.istore 4, 2) := by decide +kernel
theorem dd_M_fair_39 : decode prog_9_method_49_code 39 = .ok (.aload_n 0, 1) := by decide +kernel
theorem dd_M_fair_40 : decode prog_9_method_49_code 40 = .ok (.iconst 0, 1) := by decide +kernel
theorem dd_M_fair_41 : decode prog_9_method_49_code 41 = .ok (.sipush 220, 3) := by decide +kernel
theorem dd_M_fair_44 : decode prog_9_method_49_code 44 = .ok (.invokevirtual 168, 3) := by decide +kernel
theorem dd_M_fair_47 : decode prog_9_method_49_code 47 = .ok (.iconst 0, 1) := by decide +kernel
theorem dd_M_fair_48 : decode prog_9_method_49_code 48 = .ok (.istore 5, 2) := by decide +kernel
theorem dd_M_fair_50 : decode prog_9_method_49_code 50 = .ok (.iload 5, 2) := by decide +kernel
theorem dd_M_fair_52 : decode prog_9_method_49_code 52 = .ok (.bipush 6, 2) := by decide +kernel
theorem dd_M_fair_54 : decode prog_9_method_49_code 54 = .ok (.if_icmp .gt 67, 3) := by decide +kernel
theorem dd_M_fair_57 : decode prog_9_method_49_code 57 = .ok (.aload_n 0, 1) := by decide +kernel
theorem dd_M_fair_58 : decode prog_9_method_49_code 58 = .ok (.getfield 7, 3) := by decide +kernel
theorem dd_M_fair_61 : decode prog_9_method_49_code 61 = .ok (.sipush 261, 3) := by decide +kernel
theorem dd_M_fair_64 : decode prog_9_method_49_code 64 = .ok (.iload 5, 2) := by decide +kernel
theorem dd_M_fair_66 : decode prog_9_method_49_code 66 = .ok (.iconst 2, 1) := by decide +kernel
theorem dd_M_fair_67 : decode prog_9_method_49_code 67 = .ok (.isub, 1) := by decide +kernel
theorem dd_M_fair_68 : decode prog_9_method_49_code 68 = .ok (.iastore, 1) := by decide +kernel
theorem dd_M_fair_69 : decode prog_9_method_49_code 69 = .ok (.aload_n 0, 1) := by decide +kernel
theorem dd_M_fair_70 : decode prog_9_method_49_code 70 = .ok (.sipush 220, 3) := by decide +kernel
theorem dd_M_fair_73 : decode prog_9_method_49_code 73 = .ok (.iload_n 1, 1) := by decide +kernel
theorem dd_M_fair_74 : decode prog_9_method_49_code 74 = .ok (.invokevirtual 209, 3) := by decide +kernel
theorem dd_M_fair_77 : decode prog_9_method_49_code 77 = .ok (.pop, 1) := by decide +kernel
theorem dd_M_fair_78 : decode prog_9_method_49_code 78 = .ok (.aload_n 0, 1) := by decide +kernel
theorem dd_M_fair_79 : decode prog_9_method_49_code 79 = .ok (.sipush 176, 3) := by decide +kernel
theorem dd_M_fair_82 : decode prog_9_method_49_code 82 = .ok (.invokevirtual 212, 3) := by decide +kernel
theorem dd_M_fair_85 : decode prog_9_method_49_code 85 = .ok (.istore 6, 2) := by decide +kernel
theorem dd_M_fair_87 : decode prog_9_method_49_code 87 = .ok (.iload 6, 2) := by decide +kernel
theorem dd_M_fair_89 : decode prog_9_method_49_code 89 = .ok (.iload_n 3, 1) := by decide +kernel
theorem dd_M_fair_90 : decode prog_9_method_49_code 90 = .ok (.if_icmp .le 8, 3) := by decide +kernel
theorem dd_M_fair_93 : decode prog_9_method_49_code 93 = .ok (.iload 5, 2) := by decide +kernel
theorem dd_M_fair_95 : decode prog_9_method_49_code 95 = .ok (.goto 5, 3) := by decide +kernel
theorem dd_M_fair_98 : decode prog_9_method_49_code 98 = .ok (.iload 4, 2) := by decide +kernel
theorem dd_M_fair_100 : decode prog_9_method_49_code 100 = .ok (.istore 4, 2) := by decide +kernel
theorem dd_M_fair_102 : decode prog_9_method_49_code 102 = .ok (.iload 6, 2) := by decide +kernel
theorem dd_M_fair_104 : decode prog_9_method_49_code 104 = .ok (.iload_n 3, 1) := by decide +kernel
theorem dd_M_fair_105 : decode prog_9_method_49_code 105 = .ok (.if_icmp .le 8, 3) := by decide +kernel
theorem dd_M_fair_108 : decode prog_9_method_49_code 108 = .ok (.iload 6, 2) := by decide +kernel
theorem dd_M_fair_110 : decode prog_9_method_49_code 110 = .ok (.goto 4, 3) := by decide +kernel
theorem dd_M_fair_113 : decode prog_9_method_49_code 113 = .ok (.iload_n 3, 1) := by decide +kernel
theorem dd_M_fair_114 : decode prog_9_method_49_code 114 = .ok (.istore_n 3, 1) := by decide +kernel
theorem dd_M_fair_115 : decode prog_9_method_49_code 115 = .ok (.iinc 5 1, 3) := by decide +kernel
theorem dd_M_fair_118 : decode prog_9_method_49_code 118 = .ok (.goto (-68), 3) := by decide +kernel
theorem dd_M_fair_121 : decode prog_9_method_49_code 121 = .ok (.iload_n 2, 1) := by decide +kernel
theorem dd_M_fair_122 : decode prog_9_method_49_code 122 = .ok (.ifCond .ne 8, 3) := by decide +kernel
theorem dd_M_fair_125 : decode prog_9_method_49_code 125 = .ok (.iload 4, 2) := by decide +kernel
theorem dd_M_fair_127 : decode prog_9_method_49_code 127 = .ok (.goto 4, 3) := by decide +kernel
theorem dd_M_fair_130 : decode prog_9_method_49_code 130 = .ok (.iload_n 3, 1) := by decide +kernel
theorem dd_M_fair_131 : decode prog_9_method_49_code 131 = .ok (.ireturn, 1) := by decide +kernel
theorem dd_M_swap_0 : decode prog_9_method_50_code 0 = .ok (.iload_n 1, 1) := by decide +kernel
theorem dd_M_swap_1 : decode prog_9_method_50_code 1 = .ok (.i2l, 1) := by decide +kernel
theorem dd_M_swap_2 : decode prog_9_method_50_code 2 = .ok (.lconst 0, 1) := by decide +kernel
theorem dd_M_swap_3 : decode prog_9_method_50_code 3 = .ok (.ldc2_w 205, 3) := by decide +kernel
theorem dd_M_swap_6 : decode prog_9_method_50_code 6 = .ok (.invokestatic 52, 3) := by decide +kernel
theorem dd_M_swap_9 : decode prog_9_method_50_code 9 = .ok (.ifCond .eq 13, 3) := by decide +kernel
theorem dd_M_swap_12 : decode prog_9_method_50_code 12 = .ok (.iload_n 2, 1) := by decide +kernel
theorem dd_M_swap_13 : decode prog_9_method_50_code 13 = .ok (.i2l, 1) := by decide +kernel
theorem dd_M_swap_14 : decode prog_9_method_50_code 14 = .ok (.lconst 0, 1) := by decide +kernel
theorem dd_M_swap_15 : decode prog_9_method_50_code 15 = .ok (.lconst 1, 1) := by decide +kernel
theorem dd_M_swap_16 : decode prog_9_method_50_code 16 = .ok (.invokestatic 52, 3) := by decide +kernel
theorem dd_M_swap_19 : decode prog_9_method_50_code 19 = .ok (.ifCond .ne 5, 3) := by decide +kernel
theorem dd_M_swap_22 : decode prog_9_method_50_code 22 = .ok (.iconst (-1), 1) := by decide +kernel
theorem dd_M_swap_23 : decode prog_9_method_50_code 23 = .ok (.ireturn, 1) := by decide +kernel
theorem dd_M_swap_24 : decode prog_9_method_50_code 24 = .ok (.aload_n 0, 1) := by decide +kernel
theorem dd_M_swap_25 : decode prog_9_method_50_code 25 = .ok (.iconst 0, 1) := by decide +kernel
theorem dd_M_swap_26 : decode prog_9_method_50_code 26 = .ok (.iload_n 1, 1) := by decide +kernel
theorem dd_M_swap_27 : decode prog_9_method_50_code 27 = .ok (.invokevirtual 209, 3) := by decide +kernel
theorem dd_M_swap_30 : decode prog_9_method_50_code 30 = .ok (.istore_n 3, 1) := by decide +kernel
theorem dd_M_swap_31 : decode prog_9_method_50_code 31 = .ok (.bipush (-4), 2) := by decide +kernel
theorem dd_M_swap_33 : decode prog_9_method_50_code 33 = .ok (.istore 4, 2) := by decide +kernel
theorem dd_M_swap_35 : decode prog_9_method_50_code 35 = .ok (.iconst 0, 1) := by decide +kernel
theorem dd_M_swap_36 : decode prog_9_method_50_code 36 = .ok (.istore 5, 2) := by decide +kernel
theorem dd_M_swap_38 : decode prog_9_method_50_code 38 = .ok (.iload 5, 2) := by decide +kernel
theorem dd_M_swap_40 : decode prog_9_method_50_code 40 = .ok (.aload_n 0, 1) := by decide +kernel
theorem dd_M_swap_41 : decode prog_9_method_50_code 41 = .ok (.getfield 122, 3) := by decide +kernel
theorem dd_M_swap_44 : decode prog_9_method_50_code 44 = .ok (.if_icmp .ge 152, 3) := by decide +kernel
theorem dd_M_swap_47 : decode prog_9_method_50_code 47 = .ok (.iload 5, 2) := by decide +kernel
theorem dd_M_swap_49 : decode prog_9_method_50_code 49 = .ok (.iconst 1, 1) := by decide +kernel
theorem dd_M_swap_50 : decode prog_9_method_50_code 50 = .ok (.iadd, 1) := by decide +kernel
theorem dd_M_swap_51 : decode prog_9_method_50_code 51 = .ok (.istore 6, 2) := by decide +kernel
theorem dd_M_swap_53 : decode prog_9_method_50_code 53 = .ok (.iload 6, 2) := by decide +kernel
theorem dd_M_swap_55 : decode prog_9_method_50_code 55 = .ok (.aload_n 0, 1) := by decide +kernel
theorem dd_M_swap_56 : decode prog_9_method_50_code 56 = .ok (.getfield 122, 3) := by decide +kernel
theorem dd_M_swap_59 : decode prog_9_method_50_code 59 = .ok (.if_icmp .ge 131, 3) := by decide +kernel
theorem dd_M_swap_62 : decode prog_9_method_50_code 62 = .ok (.aload_n 0, 1) := by decide +kernel
theorem dd_M_swap_63 : decode prog_9_method_50_code 63 = .ok (.iconst 0, 1) := by decide +kernel
theorem dd_M_swap_64 : decode prog_9_method_50_code 64 = .ok (.sipush 220, 3) := by decide +kernel
theorem dd_M_swap_67 : decode prog_9_method_50_code 67 = .ok (.invokevirtual 168, 3) := by decide +kernel
theorem dd_M_swap_70 : decode prog_9_method_50_code 70 = .ok (.iconst 0, 1) := by decide +kernel
theorem dd_M_swap_71 : decode prog_9_method_50_code 71 = .ok (.istore 7, 2) := by decide +kernel
theorem dd_M_swap_73 : decode prog_9_method_50_code 73 = .ok (.iload 7, 2) := by decide +kernel
theorem dd_M_swap_75 : decode prog_9_method_50_code 75 = .ok (.bipush 8, 2) := by decide +kernel
theorem dd_M_swap_77 : decode prog_9_method_50_code 77 = .ok (.if_icmp .ge 63, 3) := by decide +kernel
theorem dd_M_swap_80 : decode prog_9_method_50_code 80 = .ok (.aload_n 0, 1) := by decide +kernel
theorem dd_M_swap_81 : decode prog_9_method_50_code 81 = .ok (.getfield 7, 3) := by decide +kernel
theorem dd_M_swap_84 : decode prog_9_method_50_code 84 = .ok (.sipush 253, 3) := by decide +kernel
theorem dd_M_swap_87 : decode prog_9_method_50_code 87 = .ok (.iload 7, 2) := by decide +kernel
theorem dd_M_swap_89 : decode prog_9_method_50_code 89 = .ok (.iadd, 1) := by decide +kernel
theorem dd_M_swap_90 : decode prog_9_method_50_code 90 = .ok (.iload 5, 2) := by decide +kernel
theorem dd_M_swap_92 : decode prog_9_method_50_code 92 = .ok (.iadd, 1) := by decide +kernel
theorem dd_M_swap_93 : decode prog_9_method_50_code 93 = .ok (.aload_n 0, 1) := by decide +kernel
theorem dd_M_swap_94 : decode prog_9_method_50_code 94 = .ok (.getfield 7, 3) := by decide +kernel
theorem dd_M_swap_97 : decode prog_9_method_50_code 97 = .ok (.bipush 33, 2) := by decide +kernel
theorem dd_M_swap_99 : decode prog_9_method_50_code 99 = .ok (.iload 7, 2) := by decide +kernel
theorem dd_M_swap_101 : decode prog_9_method_50_code 101 = .ok (.iadd, 1) := by decide +kernel
theorem dd_M_swap_102 : decode prog_9_method_50_code 102 = .ok (.iload 6, 2) := by decide +kernel
theorem dd_M_swap_104 : decode prog_9_method_50_code 104 = .ok (.iadd, 1) := by decide +kernel
theorem dd_M_swap_105 : decode prog_9_method_50_code 105 = .ok (.iaload, 1) := by decide +kernel
theorem dd_M_swap_106 : decode prog_9_method_50_code 106 = .ok (.iastore, 1) := by decide +kernel
theorem dd_M_swap_107 : decode prog_9_method_50_code 107 = .ok (.aload_n 0, 1) := by decide +kernel
theorem dd_M_swap_108 : decode prog_9_method_50_code 108 = .ok (.getfield 7, 3) := by decide +kernel
theorem dd_M_swap_111 : decode prog_9_method_50_code 111 = .ok (.sipush 253, 3) := by decide +kernel
theorem dd_M_swap_114 : decode prog_9_method_50_code 114 = .ok (.iload 7, 2) := by decide +kernel
theorem dd_M_swap_116 : decode prog_9_method_50_code 116 = .ok (.iadd, 1) := by decide +kernel
theorem dd_M_swap_117 : decode prog_9_method_50_code 117 = .ok (.iload 6, 2) := by decide +kernel
theorem dd_M_swap_119 : decode prog_9_method_50_code 119 = .ok (.iadd, 1) := by decide +kernel
theorem dd_M_swap_120 : decode prog_9_method_50_code 120 = .ok (.aload_n 0, 1) := by decide +kernel
theorem dd_M_swap_121 : decode prog_9_method_50_code 121 = .ok (.getfield 7, 3) := by decide +kernel
theorem dd_M_swap_124 : decode prog_9_method_50_code 124 = .ok (.bipush 33, 2) := by decide +kernel
theorem dd_M_swap_126 : decode prog_9_method_50_code 126 = .ok (.iload 7, 2) := by decide +kernel
theorem dd_M_swap_128 : decode prog_9_method_50_code 128 = .ok (.iadd, 1) := by decide +kernel
theorem dd_M_swap_129 : decode prog_9_method_50_code 129 = .ok (.iload 5, 2) := by decide +kernel
theorem dd_M_swap_131 : decode prog_9_method_50_code 131 = .ok (.iadd, 1) := by decide +kernel
theorem dd_M_swap_132 : decode prog_9_method_50_code 132 = .ok (.iaload, 1) := by decide +kernel
theorem dd_M_swap_133 : decode prog_9_method_50_code 133 = .ok (.iastore, 1) := by decide +kernel
theorem dd_M_swap_134 : decode prog_9_method_50_code 134 = .ok (.iinc 7 4, 3) := by decide +kernel
theorem dd_M_swap_137 : decode prog_9_method_50_code 137 = .ok (.goto (-64), 3) := by decide +kernel
theorem dd_M_swap_140 : decode prog_9_method_50_code 140 = .ok (.aload_n 0, 1) := by decide +kernel
theorem dd_M_swap_141 : decode prog_9_method_50_code 141 = .ok (.sipush 220, 3) := by decide +kernel
theorem dd_M_swap_144 : decode prog_9_method_50_code 144 = .ok (.iload_n 1, 1) := by decide +kernel
theorem dd_M_swap_145 : decode prog_9_method_50_code 145 = .ok (.invokevirtual 209, 3) := by decide +kernel
theorem dd_M_swap_148 : decode prog_9_method_50_code 148 = .ok (.istore 7, 2) := by decide +kernel
theorem dd_M_swap_150 : decode prog_9_method_50_code 150 = .ok (.iload 7, 2) := by decide +kernel
theorem dd_M_swap_152 : decode prog_9_method_50_code 152 = .ok (.iload_n 3, 1) := by decide +kernel
theorem dd_M_swap_153 : decode prog_9_method_50_code 153 = .ok (.if_icmp .le 14, 3) := by decide +kernel
theorem dd_M_swap_156 : decode prog_9_method_50_code 156 = .ok (.bipush 10, 2) := by decide +kernel
theorem dd_M_swap_158 : decode prog_9_method_50_code 158 = .ok (.iload 5, 2) := by decide +kernel
theorem dd_M_swap_160 : decode prog_9_method_50_code 160 = .ok (.imul, 1) := by decide +kernel
theorem dd_M_swap_161 : decode prog_9_method_50_code 161 = .ok (.iload 6, 2) := by decide +kernel
theorem dd_M_swap_163 : decode prog_9_method_50_code 163 = .ok (.iadd, 1) := by decide +kernel
theorem dd_M_swap_164 : decode prog_9_method_50_code 164 = .ok (.goto 5, 3) := by decide +kernel
theorem dd_M_swap_167 : decode prog_9_method_50_code 167 = .ok (.iload 4, 2) := by decide +kernel
theorem dd_M_swap_169 : decode prog_9_method_50_code 169 = .ok (.istore 4, 2) := by decide +kernel
theorem dd_M_swap_171 : decode prog_9_method_50_code 171 = .ok (.iload 7, 2) := by decide +kernel
theorem dd_M_swap_173 : decode prog_9_method_50_code 173 = .ok (.iload_n 3, 1) := by decide +kernel
theorem dd_M_swap_174 : decode prog_9_method_50_code 174 = .ok (.if_icmp .le 8, 3) := by decide +kernel
theorem dd_M_swap_177 : decode prog_9_method_50_code 177 = .ok (.iload 7, 2) := by decide +kernel
theorem dd_M_swap_179 : decode prog_9_method_50_code 179 = .ok (.goto 4, 3) := by decide +kernel
theorem dd_M_swap_182 : decode prog_9_method_50_code 182 = .ok (.iload_n 3, 1) := by decide +kernel
theorem dd_M_swap_183 : decode prog_9_method_50_code 183 = .ok (.istore_n 3, 1) := by decide +kernel
theorem dd_M_swap_184 : decode prog_9_method_50_code 184 = .ok (.iinc 6 1, 3) := by decide +kernel
theorem dd_M_swap_187 : decode prog_9_method_50_code 187 = .ok (.goto (-134), 3) := by decide +kernel
theorem dd_M_swap_190 : decode prog_9_method_50_code 190 = .ok (.iinc 5 1, 3) := by decide +kernel
theorem dd_M_swap_193 : decode prog_9_method_50_code 193 = .ok (.goto (-155), 3) := by decide +kernel
theorem dd_M_swap_196 : decode prog_9_method_50_code 196 = .ok (.iload 4, 2) := by decide +kernel
theorem dd_M_swap_198 : decode prog_9_method_50_code 198 = .ok (.bipush (-4), 2) := by decide +kernel
theorem dd_M_swap_200 : decode prog_9_method_50_code 200 = .ok (.if_icmp .eq 7, 3) := by decide +kernel
theorem dd_M_swap_203 : decode prog_9_method_50_code 203 = .ok (.iload_n 2, 1) := by decide +kernel
theorem dd_M_swap_204 : decode prog_9_method_50_code 204 = .ok (.ifCond .ne 8, 3) := by decide +kernel
theorem dd_M_swap_207 : decode prog_9_method_50_code 207 = .ok (.iload 4, 2) := by decide +kernel
theorem dd_M_swap_209 : decode prog_9_method_50_code 209 = .ok (.goto 4, 3) := by decide +kernel
theorem dd_M_swap_212 : decode prog_9_method_50_code 212 = .ok (.iload_n 3, 1) := by decide +kernel
theorem dd_M_swap_213 : decode prog_9_method_50_code 213 = .ok (.ireturn, 1) := by decide +kernel
theorem dd_M_lose_0 : decode prog_9_method_51_code 0 = .ok (.iload_n 1, 1) := by decide +kernel
theorem dd_M_lose_1 : decode prog_9_method_51_code 1 = .ok (.i2l, 1) := by decide +kernel
theorem dd_M_lose_2 : decode prog_9_method_51_code 2 = .ok (.lconst 0, 1) := by decide +kernel
theorem dd_M_lose_3 : decode prog_9_method_51_code 3 = .ok (.ldc2_w 205, 3) := by decide +kernel
theorem dd_M_lose_6 : decode prog_9_method_51_code 6 = .ok (.invokestatic 52, 3) := by decide +kernel
theorem dd_M_lose_9 : decode prog_9_method_51_code 9 = .ok (.ifCond .eq 13, 3) := by decide +kernel
theorem dd_M_lose_12 : decode prog_9_method_51_code 12 = .ok (.iload_n 2, 1) := by decide +kernel
theorem dd_M_lose_13 : decode prog_9_method_51_code 13 = .ok (.i2l, 1) := by decide +kernel
theorem dd_M_lose_14 : decode prog_9_method_51_code 14 = .ok (.lconst 0, 1) := by decide +kernel
theorem dd_M_lose_15 : decode prog_9_method_51_code 15 = .ok (.lconst 1, 1) := by decide +kernel
theorem dd_M_lose_16 : decode prog_9_method_51_code 16 = .ok (.invokestatic 52, 3) := by decide +kernel
theorem dd_M_lose_19 : decode prog_9_method_51_code 19 = .ok (.ifCond .ne 5, 3) := by decide +kernel
theorem dd_M_lose_22 : decode prog_9_method_51_code 22 = .ok (.iconst (-1), 1) := by decide +kernel
theorem dd_M_lose_23 : decode prog_9_method_51_code 23 = .ok (.ireturn, 1) := by decide +kernel
theorem dd_M_lose_24 : decode prog_9_method_51_code 24 = .ok (.aload_n 0, 1) := by decide +kernel
theorem dd_M_lose_25 : decode prog_9_method_51_code 25 = .ok (.iconst 0, 1) := by decide +kernel
theorem dd_M_lose_26 : decode prog_9_method_51_code 26 = .ok (.iload_n 1, 1) := by decide +kernel
theorem dd_M_lose_27 : decode prog_9_method_51_code 27 = .ok (.invokevirtual 209, 3) := by decide +kernel
theorem dd_M_lose_30 : decode prog_9_method_51_code 30 = .ok (.istore_n 3, 1) := by decide +kernel
theorem dd_M_lose_31 : decode prog_9_method_51_code 31 = .ok (.bipush (-4), 2) := by decide +kernel
theorem dd_M_lose_33 : decode prog_9_method_51_code 33 = .ok (.istore 4, 2) := by decide +kernel
theorem dd_M_lose_35 : decode prog_9_method_51_code 35 = .ok (.iconst 0, 1) := by decide +kernel
theorem dd_M_lose_36 : decode prog_9_method_51_code 36 = .ok (.istore 5, 2) := by decide +kernel
theorem dd_M_lose_38 : decode prog_9_method_51_code 38 = .ok (.iload 5, 2) := by decide +kernel
theorem dd_M_lose_40 : decode prog_9_method_51_code 40 = .ok (.aload_n 0, 1) := by decide +kernel
theorem dd_M_lose_41 : decode prog_9_method_51_code 41 = .ok (.getfield 7, 3) := by decide +kernel
theorem dd_M_lose_44 : decode prog_9_method_51_code 44 = .ok (.bipush 32, 2) := by decide +kernel
theorem dd_M_lose_46 : decode prog_9_method_51_code 46 = .ok (.iaload, 1) := by decide +kernel
theorem dd_M_lose_47 : decode prog_9_method_51_code 47 = .ok (.if_icmp .ge 80, 3) := by decide +kernel
theorem dd_M_lose_50 : decode prog_9_method_51_code 50 = .ok (.aload_n 0, 1) := by decide +kernel
theorem dd_M_lose_51 : decode prog_9_method_51_code 51 = .ok (.getfield 7, 3) := by decide +kernel
theorem dd_M_lose_54 : decode prog_9_method_51_code 54 = .ok (.bipush 24, 2) := by decide +kernel
theorem dd_M_lose_56 : decode prog_9_method_51_code 56 = .ok (.iload 5, 2) := by decide +kernel
theorem dd_M_lose_58 : decode prog_9_method_51_code 58 = .ok (.iadd, 1) := by decide +kernel
theorem dd_M_lose_59 : decode prog_9_method_51_code 59 = .ok (.iaload, 1) := by decide +kernel
theorem dd_M_lose_60 : decode prog_9_method_51_code 60 = .ok (.ifCond .ne 61, 3) := by decide +kernel
theorem dd_M_lose_63 : decode prog_9_method_51_code 63 = .ok (.aload_n 0, 1) := by decide +kernel
theorem dd_M_lose_64 : decode prog_9_method_51_code 64 = .ok (.iconst 0, 1) := by decide +kernel
theorem dd_M_lose_65 : decode prog_9_method_51_code 65 = .ok (.sipush 220, 3) := by decide +kernel
theorem dd_M_lose_68 : decode prog_9_method_51_code 68 = .ok (.invokevirtual 168, 3) := by decide +kernel
theorem dd_M_lose_71 : decode prog_9_method_51_code 71 = .ok (.aload_n 0, 1) := by decide +kernel
theorem dd_M_lose_72 : decode prog_9_method_51_code 72 = .ok (.getfield 7, 3) := by decide +kernel
theorem dd_M_lose_75 : decode prog_9_method_51_code 75 = .ok (.sipush 244, 3) := by decide +kernel
theorem dd_M_lose_78 : decode prog_9_method_51_code 78 = .ok (.iload 5, 2) := by decide +kernel
theorem dd_M_lose_80 : decode prog_9_method_51_code 80 = .ok (.iadd, 1) := by decide +kernel
theorem dd_M_lose_81 : decode prog_9_method_51_code 81 = .ok (.iconst 1, 1) := by decide +kernel
theorem dd_M_lose_82 : decode prog_9_method_51_code 82 = .ok (.iastore, 1) := by decide +kernel
theorem dd_M_lose_83 : decode prog_9_method_51_code 83 = .ok (.aload_n 0, 1) := by decide +kernel
theorem dd_M_lose_84 : decode prog_9_method_51_code 84 = .ok (.sipush 220, 3) := by decide +kernel
theorem dd_M_lose_87 : decode prog_9_method_51_code 87 = .ok (.iload_n 1, 1) := by decide +kernel
theorem dd_M_lose_88 : decode prog_9_method_51_code 88 = .ok (.invokevirtual 209, 3) := by decide +kernel
theorem dd_M_lose_91 : decode prog_9_method_51_code 91 = .ok (.istore 6, 2) := by decide +kernel
theorem dd_M_lose_93 : decode prog_9_method_51_code 93 = .ok (.iload 6, 2) := by decide +kernel
theorem dd_M_lose_95 : decode prog_9_method_51_code 95 = .ok (.iload_n 3, 1) := by decide +kernel
theorem dd_M_lose_96 : decode prog_9_method_51_code 96 = .ok (.if_icmp .le 8, 3) := by decide +kernel
theorem dd_M_lose_99 : decode prog_9_method_51_code 99 = .ok (.iload 5, 2) := by decide +kernel
theorem dd_M_lose_101 : decode prog_9_method_51_code 101 = .ok (.goto 5, 3) := by decide +kernel
theorem dd_M_lose_104 : decode prog_9_method_51_code 104 = .ok (.iload 4, 2) := by decide +kernel
theorem dd_M_lose_106 : decode prog_9_method_51_code 106 = .ok (.istore 4, 2) := by decide +kernel
theorem dd_M_lose_108 : decode prog_9_method_51_code 108 = .ok (.iload 6, 2) := by decide +kernel
theorem dd_M_lose_110 : decode prog_9_method_51_code 110 = .ok (.iload_n 3, 1) := by decide +kernel
theorem dd_M_lose_111 : decode prog_9_method_51_code 111 = .ok (.if_icmp .le 8, 3) := by decide +kernel
theorem dd_M_lose_114 : decode prog_9_method_51_code 114 = .ok (.iload 6, 2) := by decide +kernel
theorem dd_M_lose_116 : decode prog_9_method_51_code 116 = .ok (.goto 4, 3) := by decide +kernel
theorem dd_M_lose_119 : decode prog_9_method_51_code 119 = .ok (.iload_n 3, 1) := by decide +kernel
theorem dd_M_lose_120 : decode prog_9_method_51_code 120 = .ok (.istore_n 3, 1) := by decide +kernel
theorem dd_M_lose_121 : decode prog_9_method_51_code 121 = .ok (.iinc 5 1, 3) := by decide +kernel
theorem dd_M_lose_124 : decode prog_9_method_51_code 124 = .ok (.goto (-86), 3) := by decide +kernel
theorem dd_M_lose_127 : decode prog_9_method_51_code 127 = .ok (.iload 4, 2) := by decide +kernel
theorem dd_M_lose_129 : decode prog_9_method_51_code 129 = .ok (.bipush (-4), 2) := by decide +kernel
theorem dd_M_lose_131 : decode prog_9_method_51_code 131 = .ok (.if_icmp .eq 7, 3) := by decide +kernel
theorem dd_M_lose_134 : decode prog_9_method_51_code 134 = .ok (.iload_n 2, 1) := by decide +kernel
theorem dd_M_lose_135 : decode prog_9_method_51_code 135 = .ok (.ifCond .ne 8, 3) := by decide +kernel
theorem dd_M_lose_138 : decode prog_9_method_51_code 138 = .ok (.iload 4, 2) := by decide +kernel
theorem dd_M_lose_140 : decode prog_9_method_51_code 140 = .ok (.goto 4, 3) := by decide +kernel
theorem dd_M_lose_143 : decode prog_9_method_51_code 143 = .ok (.iload_n 3, 1) := by decide +kernel
theorem dd_M_lose_144 : decode prog_9_method_51_code 144 = .ok (.ireturn, 1) := by decide +kernel
theorem dd_M_price_0 : decode prog_9_method_52_code 0 = .ok (.aload_n 0, 1) := by decide +kernel
theorem dd_M_price_1 : decode prog_9_method_52_code 1 = .ok (.iload_n 1, 1) := by decide +kernel
theorem dd_M_price_2 : decode prog_9_method_52_code 2 = .ok (.invokevirtual 162, 3) := by decide +kernel
theorem dd_M_price_5 : decode prog_9_method_52_code 5 = .ok (.ifCond .ne 5, 3) := by decide +kernel
theorem dd_M_price_8 : decode prog_9_method_52_code 8 = .ok (.iconst (-1), 1) := by decide +kernel
theorem dd_M_price_9 : decode prog_9_method_52_code 9 = .ok (.ireturn, 1) := by decide +kernel
theorem dd_M_price_10 : decode prog_9_method_52_code 10 = .ok (.aload_n 0, 1) := by decide +kernel
theorem dd_M_price_11 : decode prog_9_method_52_code 11 = .ok (.iconst 0, 1) := by decide +kernel
theorem dd_M_price_12 : decode prog_9_method_52_code 12 = .ok (.sipush 220, 3) := by decide +kernel
theorem dd_M_price_15 : decode prog_9_method_52_code 15 = .ok (.invokevirtual 168, 3) := by decide +kernel
theorem dd_M_price_18 : decode prog_9_method_52_code 18 = .ok (.iconst 0, 1) := by decide +kernel
theorem dd_M_price_19 : decode prog_9_method_52_code 19 = .ok (.istore_n 2, 1) := by decide +kernel
theorem dd_M_price_20 : decode prog_9_method_52_code 20 = .ok (.iload_n 2, 1) := by decide +kernel
theorem dd_M_price_21 : decode prog_9_method_52_code 21 = .ok (.bipush 9, 2) := by decide +kernel
theorem dd_M_price_23 : decode prog_9_method_52_code 23 = .ok (.if_icmp .gt 41, 3) := by decide +kernel
theorem dd_M_price_26 : decode prog_9_method_52_code 26 = .ok (.aload_n 0, 1) := by decide +kernel
theorem dd_M_price_27 : decode prog_9_method_52_code 27 = .ok (.getfield 7, 3) := by decide +kernel
theorem dd_M_price_30 : decode prog_9_method_52_code 30 = .ok (.sipush 236, 3) := by decide +kernel
theorem dd_M_price_33 : decode prog_9_method_52_code 33 = .ok (.iload_n 1, 1) := by decide +kernel
theorem dd_M_price_34 : decode prog_9_method_52_code 34 = .ok (.iadd, 1) := by decide +kernel
theorem dd_M_price_35 : decode prog_9_method_52_code 35 = .ok (.iload_n 2, 1) := by decide +kernel
theorem dd_M_price_36 : decode prog_9_method_52_code 36 = .ok (.iastore, 1) := by decide +kernel
theorem dd_M_price_37 : decode prog_9_method_52_code 37 = .ok (.aload_n 0, 1) := by decide +kernel
theorem dd_M_price_38 : decode prog_9_method_52_code 38 = .ok (.sipush 220, 3) := by decide +kernel
theorem dd_M_price_41 : decode prog_9_method_52_code 41 = .ok (.invokevirtual 177, 3) := by decide +kernel
theorem dd_M_price_44 : decode prog_9_method_52_code 44 = .ok (.aload_n 0, 1) := by decide +kernel
theorem dd_M_price_45 : decode prog_9_method_52_code 45 = .ok (.getfield 134, 3) := by decide +kernel
theorem dd_M_price_48 : decode prog_9_method_52_code 48 = .ok (.iload_n 1, 1) := by decide +kernel
theorem dd_M_price_49 : decode prog_9_method_52_code 49 = .ok (.ishr, 1) := by decide +kernel
theorem dd_M_price_50 : decode prog_9_method_52_code 50 = .ok (.iconst 1, 1) := by decide +kernel
theorem dd_M_price_51 : decode prog_9_method_52_code 51 = .ok (.iand, 1) := by decide +kernel
theorem dd_M_price_52 : decode prog_9_method_52_code 52 = .ok (.iconst 1, 1) := by decide +kernel
theorem dd_M_price_53 : decode prog_9_method_52_code 53 = .ok (.if_icmp .ne 5, 3) := by decide +kernel
theorem dd_M_price_56 : decode prog_9_method_52_code 56 = .ok (.iload_n 2, 1) := by decide +kernel
theorem dd_M_price_57 : decode prog_9_method_52_code 57 = .ok (.ireturn, 1) := by decide +kernel
theorem dd_M_price_58 : decode prog_9_method_52_code 58 = .ok (.iinc 2 1, 3) := by decide +kernel
theorem dd_M_price_61 : decode prog_9_method_52_code 61 = .ok (.goto (-41), 3) := by decide +kernel
theorem dd_M_price_64 : decode prog_9_method_52_code 64 = .ok (.bipush (-4), 2) := by decide +kernel
theorem dd_M_price_66 : decode prog_9_method_52_code 66 = .ok (.ireturn, 1) := by decide +kernel
theorem dd_M_kind_0 : decode prog_9_method_53_code 0 = .ok (.aload_n 0, 1) := by decide +kernel
theorem dd_M_kind_1 : decode prog_9_method_53_code 1 = .ok (.iload_n 1, 1) := by decide +kernel
theorem dd_M_kind_2 : decode prog_9_method_53_code 2 = .ok (.invokevirtual 162, 3) := by decide +kernel
theorem dd_M_kind_5 : decode prog_9_method_53_code 5 = .ok (.ifCond .eq 25, 3) := by decide +kernel
theorem dd_M_kind_8 : decode prog_9_method_53_code 8 = .ok (.iload_n 2, 1) := by decide +kernel
theorem dd_M_kind_9 : decode prog_9_method_53_code 9 = .ok (.i2l, 1) := by decide +kernel
theorem dd_M_kind_10 : decode prog_9_method_53_code 10 = .ok (.lconst 0, 1) := by decide +kernel
theorem dd_M_kind_11 : decode prog_9_method_53_code 11 = .ok (.ldc2_w 205, 3) := by decide +kernel
theorem dd_M_kind_14 : decode prog_9_method_53_code 14 = .ok (.invokestatic 52, 3) := by decide +kernel
theorem dd_M_kind_17 : decode prog_9_method_53_code 17 = .ok (.ifCond .eq 13, 3) := by decide +kernel
theorem dd_M_kind_20 : decode prog_9_method_53_code 20 = .ok (.iload_n 3, 1) := by decide +kernel
theorem dd_M_kind_21 : decode prog_9_method_53_code 21 = .ok (.i2l, 1) := by decide +kernel
theorem dd_M_kind_22 : decode prog_9_method_53_code 22 = .ok (.lconst 0, 1) := by decide +kernel
theorem dd_M_kind_23 : decode prog_9_method_53_code 23 = .ok (.lconst 1, 1) := by decide +kernel
theorem dd_M_kind_24 : decode prog_9_method_53_code 24 = .ok (.invokestatic 52, 3) := by decide +kernel
theorem dd_M_kind_27 : decode prog_9_method_53_code 27 = .ok (.ifCond .ne 5, 3) := by decide +kernel
theorem dd_M_kind_30 : decode prog_9_method_53_code 30 = .ok (.iconst (-1), 1) := by decide +kernel
theorem dd_M_kind_31 : decode prog_9_method_53_code 31 = .ok (.ireturn, 1) := by decide +kernel
theorem dd_M_kind_32 : decode prog_9_method_53_code 32 = .ok (.iconst (-1), 1) := by decide +kernel
theorem dd_M_kind_33 : decode prog_9_method_53_code 33 = .ok (.istore 4, 2) := by decide +kernel
theorem dd_M_kind_35 : decode prog_9_method_53_code 35 = .ok (.iconst 0, 1) := by decide +kernel
theorem dd_M_kind_36 : decode prog_9_method_53_code 36 = .ok (.istore 5, 2) := by decide +kernel
theorem dd_M_kind_38 : decode prog_9_method_53_code 38 = .ok (.aload_n 0, 1) := by decide +kernel
theorem dd_M_kind_39 : decode prog_9_method_53_code 39 = .ok (.iconst 0, 1) := by decide +kernel
theorem dd_M_kind_40 : decode prog_9_method_53_code 40 = .ok (.sipush 220, 3) := by decide +kernel
theorem dd_M_kind_43 : decode prog_9_method_53_code 43 = .ok (.invokevirtual 168, 3) := by decide +kernel
theorem dd_M_kind_46 : decode prog_9_method_53_code 46 = .ok (.iconst 0, 1) := by decide +kernel
theorem dd_M_kind_47 : decode prog_9_method_53_code 47 = .ok (.istore 6, 2) := by decide +kernel
theorem dd_M_kind_49 : decode prog_9_method_53_code 49 = .ok (.iload 6, 2) := by decide +kernel
theorem dd_M_kind_51 : decode prog_9_method_53_code 51 = .ok (.iconst 4, 1) := by decide +kernel
theorem dd_M_kind_52 : decode prog_9_method_53_code 52 = .ok (.if_icmp .ge 63, 3) := by decide +kernel
theorem dd_M_kind_55 : decode prog_9_method_53_code 55 = .ok (.aload_n 0, 1) := by decide +kernel
theorem dd_M_kind_56 : decode prog_9_method_53_code 56 = .ok (.getfield 7, 3) := by decide +kernel
theorem dd_M_kind_59 : decode prog_9_method_53_code 59 = .ok (.sipush 220, 3) := by decide +kernel
theorem dd_M_kind_62 : decode prog_9_method_53_code 62 = .ok (.iload_n 1, 1) := by decide +kernel
theorem dd_M_kind_63 : decode prog_9_method_53_code 63 = .ok (.iadd, 1) := by decide +kernel
theorem dd_M_kind_64 : decode prog_9_method_53_code 64 = .ok (.iload 6, 2) := by decide +kernel
theorem dd_M_kind_66 : decode prog_9_method_53_code 66 = .ok (.iastore, 1) := by decide +kernel
theorem dd_M_kind_67 : decode prog_9_method_53_code 67 = .ok (.aload_n 0, 1) := by decide +kernel
theorem dd_M_kind_68 : decode prog_9_method_53_code 68 = .ok (.sipush 220, 3) := by decide +kernel
theorem dd_M_kind_71 : decode prog_9_method_53_code 71 = .ok (.iload_n 2, 1) := by decide +kernel
theorem dd_M_kind_72 : decode prog_9_method_53_code 72 = .ok (.invokevirtual 209, 3) := by decide +kernel
theorem dd_M_kind_75 : decode prog_9_method_53_code 75 = .ok (.istore 7, 2) := by decide +kernel
theorem dd_M_kind_77 : decode prog_9_method_53_code 77 = .ok (.iload 7, 2) := by decide +kernel
theorem dd_M_kind_79 : decode prog_9_method_53_code 79 = .ok (.iload 4, 2) := by decide +kernel
theorem dd_M_kind_81 : decode prog_9_method_53_code 81 = .ok (.if_icmp .le 8, 3) := by decide +kernel
theorem dd_M_kind_84 : decode prog_9_method_53_code 84 = .ok (.iload 6, 2) := by decide +kernel
theorem dd_M_kind_86 : decode prog_9_method_53_code 86 = .ok (.goto 5, 3) := by decide +kernel
theorem dd_M_kind_89 : decode prog_9_method_53_code 89 = .ok (.iload 5, 2) := by decide +kernel
theorem dd_M_kind_91 : decode prog_9_method_53_code 91 = .ok (.istore 5, 2) := by decide +kernel
theorem dd_M_kind_93 : decode prog_9_method_53_code 93 = .ok (.iload 7, 2) := by decide +kernel
theorem dd_M_kind_95 : decode prog_9_method_53_code 95 = .ok (.iload 4, 2) := by decide +kernel
theorem dd_M_kind_97 : decode prog_9_method_53_code 97 = .ok (.if_icmp .le 8, 3) := by decide +kernel
theorem dd_M_kind_100 : decode prog_9_method_53_code 100 = .ok (.iload 7, 2) := by decide +kernel
theorem dd_M_kind_102 : decode prog_9_method_53_code 102 = .ok (.goto 5, 3) := by decide +kernel
theorem dd_M_kind_105 : decode prog_9_method_53_code 105 = .ok (.iload 4, 2) := by decide +kernel
theorem dd_M_kind_107 : decode prog_9_method_53_code 107 = .ok (.istore 4, 2) := by decide +kernel
theorem dd_M_kind_109 : decode prog_9_method_53_code 109 = .ok (.iinc 6 1, 3) := by decide +kernel
theorem dd_M_kind_112 : decode prog_9_method_53_code 112 = .ok (.goto (-63), 3) := by decide +kernel
theorem dd_M_kind_115 : decode prog_9_method_53_code 115 = .ok (.iload_n 3, 1) := by decide +kernel
theorem dd_M_kind_116 : decode prog_9_method_53_code 116 = .ok (.ifCond .ne 8, 3) := by decide +kernel
theorem dd_M_kind_119 : decode prog_9_method_53_code 119 = .ok (.iload 5, 2) := by decide +kernel
theorem dd_M_kind_121 : decode prog_9_method_53_code 121 = .ok (.goto 5, 3) := by decide +kernel
theorem dd_M_kind_124 : decode prog_9_method_53_code 124 = .ok (.iload 4, 2) := by decide +kernel
theorem dd_M_kind_126 : decode prog_9_method_53_code 126 = .ok (.ireturn, 1) := by decide +kernel
theorem dd_M_lowest_0 : decode prog_9_method_54_code 0 = .ok (.lload_n 0, 1) := by decide +kernel
theorem dd_M_lowest_1 : decode prog_9_method_54_code 1 = .ok (.lstore 5, 2) := by decide +kernel
theorem dd_M_lowest_3 : decode prog_9_method_54_code 3 = .ok (.lload_n 2, 1) := by decide +kernel
theorem dd_M_lowest_4 : decode prog_9_method_54_code 4 = .ok (.lstore 7, 2) := by decide +kernel
theorem dd_M_lowest_6 : decode prog_9_method_54_code 6 = .ok (.lload 7, 2) := by decide +kernel
theorem dd_M_lowest_8 : decode prog_9_method_54_code 8 = .ok (.lconst 0, 1) := by decide +kernel
theorem dd_M_lowest_9 : decode prog_9_method_54_code 9 = .ok (.lcmp, 1) := by decide +kernel
theorem dd_M_lowest_10 : decode prog_9_method_54_code 10 = .ok (.ifCond .eq 21, 3) := by decide +kernel
theorem dd_M_lowest_13 : decode prog_9_method_54_code 13 = .ok (.lload 5, 2) := by decide +kernel
theorem dd_M_lowest_15 : decode prog_9_method_54_code 15 = .ok (.lload 7, 2) := by decide +kernel
theorem dd_M_lowest_17 : decode prog_9_method_54_code 17 = .ok (.lrem, 1) := by decide +kernel
theorem dd_M_lowest_18 : decode prog_9_method_54_code 18 = .ok (.lstore 9, 2) := by decide +kernel
theorem dd_M_lowest_20 : decode prog_9_method_54_code 20 = .ok (.lload 7, 2) := by decide +kernel
theorem dd_M_lowest_22 : decode prog_9_method_54_code 22 = .ok (.lstore 5, 2) := by decide +kernel
theorem dd_M_lowest_24 : decode prog_9_method_54_code 24 = .ok (.lload 9, 2) := by decide +kernel
theorem dd_M_lowest_26 : decode prog_9_method_54_code 26 = .ok (.lstore 7, 2) := by decide +kernel
theorem dd_M_lowest_28 : decode prog_9_method_54_code 28 = .ok (.goto (-22), 3) := by decide +kernel
theorem dd_M_lowest_31 : decode prog_9_method_54_code 31 = .ok (.iload 4, 2) := by decide +kernel
theorem dd_M_lowest_33 : decode prog_9_method_54_code 33 = .ok (.ifCond .ne 7, 3) := by decide +kernel
theorem dd_M_lowest_36 : decode prog_9_method_54_code 36 = .ok (.lload_n 0, 1) := by decide +kernel
theorem dd_M_lowest_37 : decode prog_9_method_54_code 37 = .ok (.goto 4, 3) := by decide +kernel
theorem dd_M_lowest_40 : decode prog_9_method_54_code 40 = .ok (.lload_n 2, 1) := by decide +kernel
theorem dd_M_lowest_41 : decode prog_9_method_54_code 41 = .ok (.lload 5, 2) := by decide +kernel
theorem dd_M_lowest_43 : decode prog_9_method_54_code 43 = .ok (.ldiv, 1) := by decide +kernel
theorem dd_M_lowest_44 : decode prog_9_method_54_code 44 = .ok (.lreturn, 1) := by decide +kernel
theorem dd_M_byIllness_0 : decode prog_9_method_55_code 0 = .ok (.lconst 0, 1) := by decide +kernel
theorem dd_M_byIllness_1 : decode prog_9_method_55_code 1 = .ok (.lstore 5, 2) := by decide +kernel
theorem dd_M_byIllness_3 : decode prog_9_method_55_code 3 = .ok (.lconst 1, 1) := by decide +kernel
theorem dd_M_byIllness_4 : decode prog_9_method_55_code 4 = .ok (.lstore 7, 2) := by decide +kernel
theorem dd_M_byIllness_6 : decode prog_9_method_55_code 6 = .ok (.iconst 0, 1) := by decide +kernel
theorem dd_M_byIllness_7 : decode prog_9_method_55_code 7 = .ok (.istore 9, 2) := by decide +kernel
theorem dd_M_byIllness_9 : decode prog_9_method_55_code 9 = .ok (.iload 9, 2) := by decide +kernel
theorem dd_M_byIllness_11 : decode prog_9_method_55_code 11 = .ok (.iload_n 3, 1) := by decide +kernel
theorem dd_M_byIllness_12 : decode prog_9_method_55_code 12 = .ok (.aload_n 0, 1) := by decide +kernel
theorem dd_M_byIllness_13 : decode prog_9_method_55_code 13 = .ok (.getfield 122, 3) := by decide +kernel
theorem dd_M_byIllness_16 : decode prog_9_method_55_code 16 = .ok (.imul, 1) := by decide +kernel
theorem dd_M_byIllness_17 : decode prog_9_method_55_code 17 = .ok (.if_icmp .ge 17, 3) := by decide +kernel
theorem dd_M_byIllness_20 : decode prog_9_method_55_code 20 = .ok (.lload 7, 2) := by decide +kernel
theorem dd_M_byIllness_22 : decode prog_9_method_55_code 22 = .ok (.ldc2_w 217, 3) := by decide +kernel
theorem dd_M_byIllness_25 : decode prog_9_method_55_code 25 = .ok (.lmul, 1) := by decide +kernel
theorem dd_M_byIllness_26 : decode prog_9_method_55_code 26 = .ok (.lstore 7, 2) := by decide +kernel
theorem dd_M_byIllness_28 : decode prog_9_method_55_code 28 = .ok (.iinc 9 1, 3) := by decide +kernel
theorem dd_M_byIllness_31 : decode prog_9_method_55_code 31 = .ok (.goto (-22), 3) := by decide +kernel
theorem dd_M_byIllness_34 : decode prog_9_method_55_code 34 = .ok (.iconst 0, 1) := by decide +kernel
theorem dd_M_byIllness_35 : decode prog_9_method_55_code 35 = .ok (.istore 9, 2) := by decide +kernel
theorem dd_M_byIllness_37 : decode prog_9_method_55_code 37 = .ok (.iload 9, 2) := by decide +kernel
theorem dd_M_byIllness_39 : decode prog_9_method_55_code 39 = .ok (.iconst 1, 1) := by decide +kernel
theorem dd_M_byIllness_40 : decode prog_9_method_55_code 40 = .ok (.iload_n 3, 1) := by decide +kernel
theorem dd_M_byIllness_41 : decode prog_9_method_55_code 41 = .ok (.aload_n 0, 1) := by decide +kernel
theorem dd_M_byIllness_42 : decode prog_9_method_55_code 42 = .ok (.getfield 122, 3) := by decide +kernel
theorem dd_M_byIllness_45 : decode prog_9_method_55_code 45 = .ok (.imul, 1) := by decide +kernel
theorem dd_M_byIllness_46 : decode prog_9_method_55_code 46 = .ok (.ishl, 1) := by decide +kernel
theorem dd_M_byIllness_47 : decode prog_9_method_55_code 47 = .ok (.if_icmp .ge 156, 3) := by decide +kernel
theorem dd_M_byIllness_50 : decode prog_9_method_55_code 50 = .ok (.lconst 1, 1) := by decide +kernel
theorem dd_M_byIllness_51 : decode prog_9_method_55_code 51 = .ok (.lstore 10, 2) := by decide +kernel
theorem dd_M_byIllness_53 : decode prog_9_method_55_code 53 = .ok (.aload_n 0, 1) := by decide +kernel
theorem dd_M_byIllness_54 : decode prog_9_method_55_code 54 = .ok (.iconst 0, 1) := by decide +kernel
theorem dd_M_byIllness_55 : decode prog_9_method_55_code 55 = .ok (.sipush 176, 3) := by decide +kernel
theorem dd_M_byIllness_58 : decode prog_9_method_55_code 58 = .ok (.invokevirtual 168, 3) := by decide +kernel
theorem dd_M_byIllness_61 : decode prog_9_method_55_code 61 = .ok (.iconst 0, 1) := by decide +kernel
theorem dd_M_byIllness_62 : decode prog_9_method_55_code 62 = .ok (.istore 12, 2) := by decide +kernel
theorem dd_M_byIllness_64 : decode prog_9_method_55_code 64 = .ok (.iload 12, 2) := by decide +kernel
theorem dd_M_byIllness_66 : decode prog_9_method_55_code 66 = .ok (.iload_n 3, 1) := by decide +kernel
theorem dd_M_byIllness_67 : decode prog_9_method_55_code 67 = .ok (.aload_n 0, 1) := by decide +kernel
theorem dd_M_byIllness_68 : decode prog_9_method_55_code 68 = .ok (.getfield 122, 3) := by decide +kernel
theorem dd_M_byIllness_71 : decode prog_9_method_55_code 71 = .ok (.imul, 1) := by decide +kernel
theorem dd_M_byIllness_72 : decode prog_9_method_55_code 72 = .ok (.if_icmp .ge 35, 3) := by decide +kernel
theorem dd_M_byIllness_75 : decode prog_9_method_55_code 75 = .ok (.lload 10, 2) := by decide +kernel
theorem dd_M_byIllness_77 : decode prog_9_method_55_code 77 = .ok (.iload 9, 2) := by decide +kernel
theorem dd_M_byIllness_79 : decode prog_9_method_55_code 79 = .ok (.iload 12, 2) := by decide +kernel
theorem dd_M_byIllness_81 : decode prog_9_method_55_code 81 = .ok (.ishr, 1) := by decide +kernel
theorem dd_M_byIllness_82 : decode prog_9_method_55_code 82 = .ok (.iconst 1, 1) := by decide +kernel
theorem dd_M_byIllness_83 : decode prog_9_method_55_code 83 = .ok (.iand, 1) := by decide +kernel
theorem dd_M_byIllness_84 : decode prog_9_method_55_code 84 = .ok (.iconst 1, 1) := by decide +kernel
theorem dd_M_byIllness_85 : decode prog_9_method_55_code 85 = .ok (.if_icmp .ne 8, 3) := by decide +kernel
theorem dd_M_byIllness_88 : decode prog_9_method_55_code 88 = .ok (.iload_n 1, 1) := by decide +kernel
theorem dd_M_byIllness_89 : decode prog_9_method_55_code 89 = .ok (.i2l, 1) := by decide +kernel
theorem dd_M_byIllness_90 : decode prog_9_method_55_code 90 = .ok (.goto 8, 3) := by decide +kernel
theorem dd_M_byIllness_93 : decode prog_9_method_55_code 93 = .ok (.bipush 10, 2) := by decide +kernel
theorem dd_M_byIllness_95 : decode prog_9_method_55_code 95 = .ok (.iload_n 1, 1) := by decide +kernel
theorem dd_M_byIllness_96 : decode prog_9_method_55_code 96 = .ok (.isub, 1) := by decide +kernel
theorem dd_M_byIllness_97 : decode prog_9_method_55_code 97 = .ok (.i2l, 1) := by decide +kernel
theorem dd_M_byIllness_98 : decode prog_9_method_55_code 98 = .ok (.lmul, 1) := by decide +kernel
theorem dd_M_byIllness_99 : decode prog_9_method_55_code 99 = .ok (.lstore 10, 2) := by decide +kernel
theorem dd_M_byIllness_101 : decode prog_9_method_55_code 101 = .ok (.iinc 12 1, 3) := by decide +kernel
theorem dd_M_byIllness_104 : decode prog_9_method_55_code 104 = .ok (.goto (-40), 3) := by decide +kernel
theorem dd_M_byIllness_107 : decode prog_9_method_55_code 107 = .ok (.iconst 0, 1) := by decide +kernel
theorem dd_M_byIllness_108 : decode prog_9_method_55_code 108 = .ok (.istore 12, 2) := by decide +kernel
theorem dd_M_byIllness_110 : decode prog_9_method_55_code 110 = .ok (.iload 12, 2) := by decide +kernel
theorem dd_M_byIllness_112 : decode prog_9_method_55_code 112 = .ok (.iload_n 3, 1) := by decide +kernel
theorem dd_M_byIllness_113 : decode prog_9_method_55_code 113 = .ok (.if_icmp .ge 45, 3) := by decide +kernel
theorem dd_M_byIllness_116 : decode prog_9_method_55_code 116 = .ok (.aload_n 0, 1) := by decide +kernel
theorem dd_M_byIllness_117 : decode prog_9_method_55_code 117 = .ok (.sipush 176, 3) := by decide +kernel
theorem dd_M_byIllness_120 : decode prog_9_method_55_code 120 = .ok (.aload_n 0, 1) := by decide +kernel
theorem dd_M_byIllness_121 : decode prog_9_method_55_code 121 = .ok (.getfield 7, 3) := by decide +kernel
theorem dd_M_byIllness_124 : decode prog_9_method_55_code 124 = .ok (.sipush 217, 3) := by decide +kernel
theorem dd_M_byIllness_127 : decode prog_9_method_55_code 127 = .ok (.iaload, 1) := by decide +kernel
theorem dd_M_byIllness_128 : decode prog_9_method_55_code 128 = .ok (.iconst 2, 1) := by decide +kernel
theorem dd_M_byIllness_129 : decode prog_9_method_55_code 129 = .ok (.iadd, 1) := by decide +kernel
theorem dd_M_byIllness_130 : decode prog_9_method_55_code 130 = .ok (.iload 9, 2) := by decide +kernel
theorem dd_M_byIllness_132 : decode prog_9_method_55_code 132 = .ok (.iload 12, 2) := by decide +kernel
theorem dd_M_byIllness_134 : decode prog_9_method_55_code 134 = .ok (.aload_n 0, 1) := by decide +kernel
theorem dd_M_byIllness_135 : decode prog_9_method_55_code 135 = .ok (.getfield 122, 3) := by decide +kernel
theorem dd_M_byIllness_138 : decode prog_9_method_55_code 138 = .ok (.imul, 1) := by decide +kernel
theorem dd_M_byIllness_139 : decode prog_9_method_55_code 139 = .ok (.ishr, 1) := by decide +kernel
theorem dd_M_byIllness_140 : decode prog_9_method_55_code 140 = .ok (.iconst 1, 1) := by decide +kernel
theorem dd_M_byIllness_141 : decode prog_9_method_55_code 141 = .ok (.aload_n 0, 1) := by decide +kernel
theorem dd_M_byIllness_142 : decode prog_9_method_55_code 142 = .ok (.getfield 122, 3) := by decide +kernel
theorem dd_M_byIllness_145 : decode prog_9_method_55_code 145 = .ok (.ishl, 1) := by decide +kernel
theorem dd_M_byIllness_146 : decode prog_9_method_55_code 146 = .ok (.iconst 1, 1) := by decide +kernel
theorem dd_M_byIllness_147 : decode prog_9_method_55_code 147 = .ok (.isub, 1) := by decide +kernel
theorem dd_M_byIllness_148 : decode prog_9_method_55_code 148 = .ok (.iand, 1) := by decide +kernel
theorem dd_M_byIllness_149 : decode prog_9_method_55_code 149 = .ok (.invokevirtual 153, 3) := by decide +kernel
theorem dd_M_byIllness_152 : decode prog_9_method_55_code 152 = .ok (.iinc 12 1, 3) := by decide +kernel
theorem dd_M_byIllness_155 : decode prog_9_method_55_code 155 = .ok (.goto (-45), 3) := by decide +kernel
theorem dd_M_byIllness_158 : decode prog_9_method_55_code 158 = .ok (.lload 5, 2) := by decide +kernel
theorem dd_M_byIllness_160 : decode prog_9_method_55_code 160 = .ok (.lload 10, 2) := by decide +kernel
theorem dd_M_byIllness_162 : decode prog_9_method_55_code 162 = .ok (.iload_n 2, 1) := by decide +kernel
theorem dd_M_byIllness_163 : decode prog_9_method_55_code 163 = .ok (.bipush (-4), 2) := by decide +kernel
theorem dd_M_byIllness_165 : decode prog_9_method_55_code 165 = .ok (.if_icmp .ne 19, 3) := by decide +kernel
theorem dd_M_byIllness_168 : decode prog_9_method_55_code 168 = .ok (.aload_n 0, 1) := by decide +kernel
theorem dd_M_byIllness_169 : decode prog_9_method_55_code 169 = .ok (.sipush 176, 3) := by decide +kernel
theorem dd_M_byIllness_172 : decode prog_9_method_55_code 172 = .ok (.invokevirtual 159, 3) := by decide +kernel
theorem dd_M_byIllness_175 : decode prog_9_method_55_code 175 = .ok (.aload_n 0, 1) := by decide +kernel
theorem dd_M_byIllness_176 : decode prog_9_method_55_code 176 = .ok (.iconst 0, 1) := by decide +kernel
theorem dd_M_byIllness_177 : decode prog_9_method_55_code 177 = .ok (.invokevirtual 159, 3) := by decide +kernel
theorem dd_M_byIllness_180 : decode prog_9_method_55_code 180 = .ok (.isub, 1) := by decide +kernel
theorem dd_M_byIllness_181 : decode prog_9_method_55_code 181 = .ok (.goto 11, 3) := by decide +kernel
theorem dd_M_byIllness_184 : decode prog_9_method_55_code 184 = .ok (.aload_n 0, 1) := by decide +kernel
theorem dd_M_byIllness_185 : decode prog_9_method_55_code 185 = .ok (.getfield 134, 3) := by decide +kernel
theorem dd_M_byIllness_188 : decode prog_9_method_55_code 188 = .ok (.iload_n 2, 1) := by decide +kernel
theorem dd_M_byIllness_189 : decode prog_9_method_55_code 189 = .ok (.ishr, 1) := by decide +kernel
theorem dd_M_byIllness_190 : decode prog_9_method_55_code 190 = .ok (.iconst 1, 1) := by decide +kernel
theorem dd_M_byIllness_191 : decode prog_9_method_55_code 191 = .ok (.iand, 1) := by decide +kernel
theorem dd_M_byIllness_192 : decode prog_9_method_55_code 192 = .ok (.i2l, 1) := by decide +kernel
theorem dd_M_byIllness_193 : decode prog_9_method_55_code 193 = .ok (.lmul, 1) := by decide +kernel
theorem dd_M_byIllness_194 : decode prog_9_method_55_code 194 = .ok (.ladd, 1) := by decide +kernel
theorem dd_M_byIllness_195 : decode prog_9_method_55_code 195 = .ok (.lstore 5, 2) := by decide +kernel
theorem dd_M_byIllness_197 : decode prog_9_method_55_code 197 = .ok (.iinc 9 1, 3) := by decide +kernel
theorem dd_M_byIllness_200 : decode prog_9_method_55_code 200 = .ok (.goto (-163), 3) := by decide +kernel
theorem dd_M_byIllness_203 : decode prog_9_method_55_code 203 = .ok (.lload 5, 2) := by decide +kernel
theorem dd_M_byIllness_205 : decode prog_9_method_55_code 205 = .ok (.lload 7, 2) := by decide +kernel
theorem dd_M_byIllness_207 : decode prog_9_method_55_code 207 = .ok (.iload 4, 2) := by decide +kernel
theorem dd_M_byIllness_209 : decode prog_9_method_55_code 209 = .ok (.invokestatic 219, 3) := by decide +kernel
theorem dd_M_byIllness_212 : decode prog_9_method_55_code 212 = .ok (.lreturn, 1) := by decide +kernel
theorem dd_M_luck_0 : decode prog_9_method_56_code 0 = .ok (.iload_n 1, 1) := by decide +kernel
theorem dd_M_luck_1 : decode prog_9_method_56_code 1 = .ok (.i2l, 1) := by decide +kernel
theorem dd_M_luck_2 : decode prog_9_method_56_code 2 = .ok (.lconst 0, 1) := by decide +kernel
theorem dd_M_luck_3 : decode prog_9_method_56_code 3 = .ok (.ldc2_w 217, 3) := by decide +kernel
theorem dd_M_luck_6 : decode prog_9_method_56_code 6 = .ok (.invokestatic 52, 3) := by decide +kernel
theorem dd_M_luck_9 : decode prog_9_method_56_code 9 = .ok (.ifCond .eq 32, 3) := by decide +kernel
theorem dd_M_luck_12 : decode prog_9_method_56_code 12 = .ok (.aload_n 0, 1) := by decide +kernel
theorem dd_M_luck_13 : decode prog_9_method_56_code 13 = .ok (.iload_n 2, 1) := by decide +kernel
theorem dd_M_luck_14 : decode prog_9_method_56_code 14 = .ok (.invokevirtual 162, 3) := by decide +kernel
theorem dd_M_luck_17 : decode prog_9_method_56_code 17 = .ok (.ifCond .eq 24, 3) := by decide +kernel
theorem dd_M_luck_20 : decode prog_9_method_56_code 20 = .ok (.iload_n 3, 1) := by decide +kernel
theorem dd_M_luck_21 : decode prog_9_method_56_code 21 = .ok (.i2l, 1) := by decide +kernel
theorem dd_M_luck_22 : decode prog_9_method_56_code 22 = .ok (.lconst 0, 1) := by decide +kernel
theorem dd_M_luck_23 : decode prog_9_method_56_code 23 = .ok (.lconst 1, 1) := by decide +kernel
theorem dd_M_luck_24 : decode prog_9_method_56_code 24 = .ok (.invokestatic 52, 3) := by decide +kernel
theorem dd_M_luck_27 : decode prog_9_method_56_code 27 = .ok (.ifCond .eq 14, 3) := by decide +kernel
theorem dd_M_luck_30 : decode prog_9_method_56_code 30 = .ok (.aload_n 0, 1) := by decide +kernel
theorem dd_M_luck_31 : decode prog_9_method_56_code 31 = .ok (.iload_n 1, 1) := by decide +kernel
theorem dd_M_luck_32 : decode prog_9_method_56_code 32 = .ok (.iload_n 2, 1) := by decide +kernel
theorem dd_M_luck_33 : decode prog_9_method_56_code 33 = .ok (.iconst 1, 1) := by decide +kernel
theorem dd_M_luck_34 : decode prog_9_method_56_code 34 = .ok (.iload_n 3, 1) := by decide +kernel
theorem dd_M_luck_35 : decode prog_9_method_56_code 35 = .ok (.invokevirtual 223, 3) := by decide +kernel
theorem dd_M_luck_38 : decode prog_9_method_56_code 38 = .ok (.goto 6, 3) := by decide +kernel
theorem dd_M_luck_41 : decode prog_9_method_56_code 41 = .ok (.ldc2_w 227, 3) := by decide +kernel
theorem dd_M_luck_44 : decode prog_9_method_56_code 44 = .ok (.lreturn, 1) := by decide +kernel
theorem dd_M_mean_0 : decode prog_9_method_57_code 0 = .ok (.iload_n 1, 1) := by decide +kernel
theorem dd_M_mean_1 : decode prog_9_method_57_code 1 = .ok (.i2l, 1) := by decide +kernel
theorem dd_M_mean_2 : decode prog_9_method_57_code 2 = .ok (.lconst 0, 1) := by decide +kernel
theorem dd_M_mean_3 : decode prog_9_method_57_code 3 = .ok (.ldc2_w 217, 3) := by decide +kernel
theorem dd_M_mean_6 : decode prog_9_method_57_code 6 = .ok (.invokestatic 52, 3) := by decide +kernel
theorem dd_M_mean_9 : decode prog_9_method_57_code 9 = .ok (.ifCond .eq 37, 3) := by decide +kernel
theorem dd_M_mean_12 : decode prog_9_method_57_code 12 = .ok (.iload_n 2, 1) := by decide +kernel
theorem dd_M_mean_13 : decode prog_9_method_57_code 13 = .ok (.i2l, 1) := by decide +kernel
theorem dd_M_mean_14 : decode prog_9_method_57_code 14 = .ok (.lconst 0, 1) := by decide +kernel
theorem dd_M_mean_15 : decode prog_9_method_57_code 15 = .ok (.ldc2_w 215, 3) := by decide +kernel
theorem dd_M_mean_18 : decode prog_9_method_57_code 18 = .ok (.invokestatic 52, 3) := by decide +kernel
theorem dd_M_mean_21 : decode prog_9_method_57_code 21 = .ok (.ifCond .eq 25, 3) := by decide +kernel
theorem dd_M_mean_24 : decode prog_9_method_57_code 24 = .ok (.iload_n 3, 1) := by decide +kernel
theorem dd_M_mean_25 : decode prog_9_method_57_code 25 = .ok (.i2l, 1) := by decide +kernel
theorem dd_M_mean_26 : decode prog_9_method_57_code 26 = .ok (.lconst 0, 1) := by decide +kernel
theorem dd_M_mean_27 : decode prog_9_method_57_code 27 = .ok (.lconst 1, 1) := by decide +kernel
theorem dd_M_mean_28 : decode prog_9_method_57_code 28 = .ok (.invokestatic 52, 3) := by decide +kernel
theorem dd_M_mean_31 : decode prog_9_method_57_code 31 = .ok (.ifCond .eq 15, 3) := by decide +kernel
theorem dd_M_mean_34 : decode prog_9_method_57_code 34 = .ok (.aload_n 0, 1) := by decide +kernel
theorem dd_M_mean_35 : decode prog_9_method_57_code 35 = .ok (.iload_n 1, 1) := by decide +kernel
theorem dd_M_mean_36 : decode prog_9_method_57_code 36 = .ok (.bipush (-4), 2) := by decide +kernel
theorem dd_M_mean_38 : decode prog_9_method_57_code 38 = .ok (.iload_n 2, 1) := by decide +kernel
theorem dd_M_mean_39 : decode prog_9_method_57_code 39 = .ok (.iload_n 3, 1) := by decide +kernel
theorem dd_M_mean_40 : decode prog_9_method_57_code 40 = .ok (.invokevirtual 223, 3) := by decide +kernel
theorem dd_M_mean_43 : decode prog_9_method_57_code 43 = .ok (.goto 6, 3) := by decide +kernel
theorem dd_M_mean_46 : decode prog_9_method_57_code 46 = .ok (.ldc2_w 227, 3) := by decide +kernel
theorem dd_M_mean_49 : decode prog_9_method_57_code 49 = .ok (.lreturn, 1) := by decide +kernel
theorem dd_M_see_0 : decode prog_9_method_58_code 0 = .ok (.iload_n 1, 1) := by decide +kernel
theorem dd_M_see_1 : decode prog_9_method_58_code 1 = .ok (.i2l, 1) := by decide +kernel
theorem dd_M_see_2 : decode prog_9_method_58_code 2 = .ok (.lconst 0, 1) := by decide +kernel
theorem dd_M_see_3 : decode prog_9_method_58_code 3 = .ok (.ldc2_w 190, 3) := by decide +kernel
theorem dd_M_see_6 : decode prog_9_method_58_code 6 = .ok (.invokestatic 52, 3) := by decide +kernel
theorem dd_M_see_9 : decode prog_9_method_58_code 9 = .ok (.ifCond .eq 23, 3) := by decide +kernel
theorem dd_M_see_12 : decode prog_9_method_58_code 12 = .ok (.aload_n 0, 1) := by decide +kernel
theorem dd_M_see_13 : decode prog_9_method_58_code 13 = .ok (.iload_n 2, 1) := by decide +kernel
theorem dd_M_see_14 : decode prog_9_method_58_code 14 = .ok (.invokevirtual 172, 3) := by decide +kernel
theorem dd_M_see_17 : decode prog_9_method_58_code 17 = .ok (.ifCond .eq 15, 3) := by decide +kernel
theorem dd_M_see_20 : decode prog_9_method_58_code 20 = .ok (.iload_n 3, 1) := by decide +kernel
theorem dd_M_see_21 : decode prog_9_method_58_code 21 = .ok (.i2l, 1) := by decide +kernel
theorem dd_M_see_22 : decode prog_9_method_58_code 22 = .ok (.lconst 0, 1) := by decide +kernel
theorem dd_M_see_23 : decode prog_9_method_58_code 23 = .ok (.ldc2_w 192, 3) := by decide +kernel
theorem dd_M_see_26 : decode prog_9_method_58_code 26 = .ok (.invokestatic 52, 3) := by decide +kernel
theorem dd_M_see_29 : decode prog_9_method_58_code 29 = .ok (.ifCond .ne 5, 3) := by decide +kernel
theorem dd_M_see_32 : decode prog_9_method_58_code 32 = .ok (.iconst (-1), 1) := by decide +kernel
theorem dd_M_see_33 : decode prog_9_method_58_code 33 = .ok (.ireturn, 1) := by decide +kernel
theorem dd_M_see_34 : decode prog_9_method_58_code 34 = .ok (.aload_n 0, 1) := by decide +kernel
theorem dd_M_see_35 : decode prog_9_method_58_code 35 = .ok (.getfield 125, 3) := by decide +kernel
theorem dd_M_see_38 : decode prog_9_method_58_code 38 = .ok (.bipush 6, 2) := by decide +kernel
theorem dd_M_see_40 : decode prog_9_method_58_code 40 = .ok (.if_icmp .ne 6, 3) := by decide +kernel
theorem dd_M_see_43 : decode prog_9_method_58_code 43 = .ok (.bipush (-3), 2) := by decide +kernel
theorem dd_M_see_45 : decode prog_9_method_58_code 45 = .ok (.ireturn, 1) := by decide +kernel
theorem dd_M_see_46 : decode prog_9_method_58_code 46 = .ok (.aload_n 0, 1) := by decide +kernel
theorem dd_M_see_47 : decode prog_9_method_58_code 47 = .ok (.getfield 31, 3) := by decide +kernel
theorem dd_M_see_50 : decode prog_9_method_58_code 50 = .ok (.iconst 3, 1) := by decide +kernel
theorem dd_M_see_51 : decode prog_9_method_58_code 51 = .ok (.aload_n 0, 1) := by decide +kernel
theorem dd_M_see_52 : decode prog_9_method_58_code 52 = .ok (.getfield 125, 3) := by decide +kernel
theorem dd_M_see_55 : decode prog_9_method_58_code 55 = .ok (.imul, 1) := by decide +kernel
theorem dd_M_see_56 : decode prog_9_method_58_code 56 = .ok (.iload_n 1, 1) := by decide +kernel
theorem dd_M_see_57 : decode prog_9_method_58_code 57 = .ok (.iastore, 1) := by decide +kernel
theorem dd_M_see_58 : decode prog_9_method_58_code 58 = .ok (.aload_n 0, 1) := by decide +kernel
theorem dd_M_see_59 : decode prog_9_method_58_code 59 = .ok (.getfield 31, 3) := by decide +kernel
theorem dd_M_see_62 : decode prog_9_method_58_code 62 = .ok (.iconst 3, 1) := by decide +kernel
theorem dd_M_see_63 : decode prog_9_method_58_code 63 = .ok (.aload_n 0, 1) := by decide +kernel
theorem dd_M_see_64 : decode prog_9_method_58_code 64 = .ok (.getfield 125, 3) := by decide +kernel
theorem dd_M_see_67 : decode prog_9_method_58_code 67 = .ok (.imul, 1) := by decide +kernel
theorem dd_M_see_68 : decode prog_9_method_58_code 68 = .ok (.iconst 1, 1) := by decide +kernel
theorem dd_M_see_69 : decode prog_9_method_58_code 69 = .ok (.iadd, 1) := by decide +kernel
theorem dd_M_see_70 : decode prog_9_method_58_code 70 = .ok (.iload_n 2, 1) := by decide +kernel
theorem dd_M_see_71 : decode prog_9_method_58_code 71 = .ok (.iastore, 1) := by decide +kernel
theorem dd_M_see_72 : decode prog_9_method_58_code 72 = .ok (.aload_n 0, 1) := by decide +kernel
theorem dd_M_see_73 : decode prog_9_method_58_code 73 = .ok (.getfield 31, 3) := by decide +kernel
theorem dd_M_see_76 : decode prog_9_method_58_code 76 = .ok (.iconst 3, 1) := by decide +kernel
theorem dd_M_see_77 : decode prog_9_method_58_code 77 = .ok (.aload_n 0, 1) := by decide +kernel
theorem dd_M_see_78 : decode prog_9_method_58_code 78 = .ok (.getfield 125, 3) := by decide +kernel
theorem dd_M_see_81 : decode prog_9_method_58_code 81 = .ok (.imul, 1) := by decide +kernel
theorem dd_M_see_82 : decode prog_9_method_58_code 82 = .ok (.iconst 2, 1) := by decide +kernel
theorem dd_M_see_83 : decode prog_9_method_58_code 83 = .ok (.iadd, 1) := by decide +kernel
theorem dd_M_see_84 : decode prog_9_method_58_code 84 = .ok (.iload_n 3, 1) := by decide +kernel
theorem dd_M_see_85 : decode prog_9_method_58_code 85 = .ok (.iastore, 1) := by decide +kernel
theorem dd_M_see_86 : decode prog_9_method_58_code 86 = .ok (.aload_n 0, 1) := by decide +kernel
theorem dd_M_see_87 : decode prog_9_method_58_code 87 = .ok (.dup, 1) := by decide +kernel
theorem dd_M_see_88 : decode prog_9_method_58_code 88 = .ok (.getfield 125, 3) := by decide +kernel
theorem dd_M_see_91 : decode prog_9_method_58_code 91 = .ok (.iconst 1, 1) := by decide +kernel
theorem dd_M_see_92 : decode prog_9_method_58_code 92 = .ok (.iadd, 1) := by decide +kernel
theorem dd_M_see_93 : decode prog_9_method_58_code 93 = .ok (.putfield 125, 3) := by decide +kernel
theorem dd_M_see_96 : decode prog_9_method_58_code 96 = .ok (.aload_n 0, 1) := by decide +kernel
theorem dd_M_see_97 : decode prog_9_method_58_code 97 = .ok (.getfield 125, 3) := by decide +kernel
theorem dd_M_see_100 : decode prog_9_method_58_code 100 = .ok (.ireturn, 1) := by decide +kernel
theorem dd_M_forget_0 : decode prog_9_method_59_code 0 = .ok (.iload_n 1, 1) := by decide +kernel
theorem dd_M_forget_1 : decode prog_9_method_59_code 1 = .ok (.i2l, 1) := by decide +kernel
theorem dd_M_forget_2 : decode prog_9_method_59_code 2 = .ok (.lconst 0, 1) := by decide +kernel
theorem dd_M_forget_3 : decode prog_9_method_59_code 3 = .ok (.aload_n 0, 1) := by decide +kernel
theorem dd_M_forget_4 : decode prog_9_method_59_code 4 = .ok (.getfield 125, 3) := by decide +kernel
theorem dd_M_forget_7 : decode prog_9_method_59_code 7 = .ok (.i2l, 1) := by decide +kernel
theorem dd_M_forget_8 : decode prog_9_method_59_code 8 = .ok (.invokestatic 52, 3) := by decide +kernel
theorem dd_M_forget_11 : decode prog_9_method_59_code 11 = .ok (.ifCond .ne 5, 3) := by decide +kernel
theorem dd_M_forget_14 : decode prog_9_method_59_code 14 = .ok (.iconst (-1), 1) := by decide +kernel
theorem dd_M_forget_15 : decode prog_9_method_59_code 15 = .ok (.ireturn, 1) := by decide +kernel
theorem dd_M_forget_16 : decode prog_9_method_59_code 16 = .ok (.aload_n 0, 1) := by decide +kernel
theorem dd_M_forget_17 : decode prog_9_method_59_code 17 = .ok (.getfield 125, 3) := by decide +kernel
theorem dd_M_forget_20 : decode prog_9_method_59_code 20 = .ok (.istore_n 2, 1) := by decide +kernel
theorem dd_M_forget_21 : decode prog_9_method_59_code 21 = .ok (.aload_n 0, 1) := by decide +kernel
theorem dd_M_forget_22 : decode prog_9_method_59_code 22 = .ok (.iload_n 1, 1) := by decide +kernel
theorem dd_M_forget_23 : decode prog_9_method_59_code 23 = .ok (.putfield 125, 3) := by decide +kernel
theorem dd_M_forget_26 : decode prog_9_method_59_code 26 = .ok (.iload_n 2, 1) := by decide +kernel
theorem dd_M_forget_27 : decode prog_9_method_59_code 27 = .ok (.ireturn, 1) := by decide +kernel
theorem dd_M_isAsSeen_0 : decode prog_9_method_60_code 0 = .ok (.aload_n 0, 1) := by decide +kernel
theorem dd_M_isAsSeen_1 : decode prog_9_method_60_code 1 = .ok (.iconst 0, 1) := by decide +kernel
theorem dd_M_isAsSeen_2 : decode prog_9_method_60_code 2 = .ok (.sipush 176, 3) := by decide +kernel
theorem dd_M_isAsSeen_5 : decode prog_9_method_60_code 5 = .ok (.invokevirtual 168, 3) := by decide +kernel
theorem dd_M_isAsSeen_8 : decode prog_9_method_60_code 8 = .ok (.iconst 1, 1) := by decide +kernel
theorem dd_M_isAsSeen_9 : decode prog_9_method_60_code 9 = .ok (.istore_n 2, 1) := by decide +kernel
theorem dd_M_isAsSeen_10 : decode prog_9_method_60_code 10 = .ok (.iconst 0, 1) := by decide +kernel
theorem dd_M_isAsSeen_11 : decode prog_9_method_60_code 11 = .ok (.istore_n 3, 1) := by decide +kernel
theorem dd_M_isAsSeen_12 : decode prog_9_method_60_code 12 = .ok (.iload_n 3, 1) := by decide +kernel
theorem dd_M_isAsSeen_13 : decode prog_9_method_60_code 13 = .ok (.bipush 20, 2) := by decide +kernel
theorem dd_M_isAsSeen_15 : decode prog_9_method_60_code 15 = .ok (.if_icmp .gt 136, 3) := by decide +kernel
theorem dd_M_isAsSeen_18 : decode prog_9_method_60_code 18 = .ok (.iconst 0, 1) := by decide +kernel
theorem dd_M_isAsSeen_19 : decode prog_9_method_60_code 19 = .ok (.istore 4, 2) := by decide +kernel
theorem dd_M_isAsSeen_21 : decode prog_9_method_60_code 21 = .ok (.iload 4, 2) := by decide +kernel
theorem dd_M_isAsSeen_23 : decode prog_9_method_60_code 23 = .ok (.aload_n 0, 1) := by decide +kernel
theorem dd_M_isAsSeen_24 : decode prog_9_method_60_code 24 = .ok (.getfield 122, 3) := by decide +kernel
theorem dd_M_isAsSeen_27 : decode prog_9_method_60_code 27 = .ok (.if_icmp .ge 36, 3) := by decide +kernel
theorem dd_M_isAsSeen_30 : decode prog_9_method_60_code 30 = .ok (.aload_n 0, 1) := by decide +kernel
theorem dd_M_isAsSeen_31 : decode prog_9_method_60_code 31 = .ok (.getfield 34, 3) := by decide +kernel
theorem dd_M_isAsSeen_34 : decode prog_9_method_60_code 34 = .ok (.bipush 84, 2) := by decide +kernel
theorem dd_M_isAsSeen_36 : decode prog_9_method_60_code 36 = .ok (.iload_n 1, 1) := by decide +kernel
theorem dd_M_isAsSeen_37 : decode prog_9_method_60_code 37 = .ok (.imul, 1) := by decide +kernel
theorem dd_M_isAsSeen_38 : decode prog_9_method_60_code 38 = .ok (.iconst 4, 1) := by decide +kernel
theorem dd_M_isAsSeen_39 : decode prog_9_method_60_code 39 = .ok (.iload_n 3, 1) := by decide +kernel
theorem dd_M_isAsSeen_40 : decode prog_9_method_60_code 40 = .ok (.imul, 1) := by decide +kernel
theorem dd_M_isAsSeen_41 : decode prog_9_method_60_code 41 = .ok (.iadd, 1) := by decide +kernel
theorem dd_M_isAsSeen_42 : decode prog_9_method_60_code 42 = .ok (.iload 4, 2) := by decide +kernel
theorem dd_M_isAsSeen_44 : decode prog_9_method_60_code 44 = .ok (.iadd, 1) := by decide +kernel
theorem dd_M_isAsSeen_45 : decode prog_9_method_60_code 45 = .ok (.aload_n 0, 1) := by decide +kernel
theorem dd_M_isAsSeen_46 : decode prog_9_method_60_code 46 = .ok (.getfield 7, 3) := by decide +kernel
theorem dd_M_isAsSeen_49 : decode prog_9_method_60_code 49 = .ok (.sipush 213, 3) := by decide +kernel
theorem dd_M_isAsSeen_52 : decode prog_9_method_60_code 52 = .ok (.iload 4, 2) := by decide +kernel
theorem dd_M_isAsSeen_54 : decode prog_9_method_60_code 54 = .ok (.iadd, 1) := by decide +kernel
theorem dd_M_isAsSeen_55 : decode prog_9_method_60_code 55 = .ok (.iaload, 1) := by decide +kernel
theorem dd_M_isAsSeen_56 : decode prog_9_method_60_code 56 = .ok (.iastore, 1) := by decide +kernel
theorem dd_M_isAsSeen_57 : decode prog_9_method_60_code 57 = .ok (.iinc 4 1, 3) := by decide +kernel
theorem dd_M_isAsSeen_60 : decode prog_9_method_60_code 60 = .ok (.goto (-39), 3) := by decide +kernel
theorem dd_M_isAsSeen_63 : decode prog_9_method_60_code 63 = .ok (.iconst 0, 1) := by decide +kernel
theorem dd_M_isAsSeen_64 : decode prog_9_method_60_code 64 = .ok (.istore 4, 2) := by decide +kernel
theorem dd_M_isAsSeen_66 : decode prog_9_method_60_code 66 = .ok (.iload 4, 2) := by decide +kernel
theorem dd_M_isAsSeen_68 : decode prog_9_method_60_code 68 = .ok (.aload_n 0, 1) := by decide +kernel
theorem dd_M_isAsSeen_69 : decode prog_9_method_60_code 69 = .ok (.getfield 125, 3) := by decide +kernel
theorem dd_M_isAsSeen_72 : decode prog_9_method_60_code 72 = .ok (.if_icmp .ge 66, 3) := by decide +kernel
theorem dd_M_isAsSeen_75 : decode prog_9_method_60_code 75 = .ok (.iload_n 2, 1) := by decide +kernel
theorem dd_M_isAsSeen_76 : decode prog_9_method_60_code 76 = .ok (.ifCond .eq 54, 3) := by decide +kernel
theorem dd_M_isAsSeen_79 : decode prog_9_method_60_code 79 = .ok (.aload_n 0, 1) := by decide +kernel
theorem dd_M_isAsSeen_80 : decode prog_9_method_60_code 80 = .ok (.getfield 31, 3) := by decide +kernel
theorem dd_M_isAsSeen_83 : decode prog_9_method_60_code 83 = .ok (.iconst 3, 1) := by decide +kernel
theorem dd_M_isAsSeen_84 : decode prog_9_method_60_code 84 = .ok (.iload 4, 2) := by decide +kernel
theorem dd_M_isAsSeen_86 : decode prog_9_method_60_code 86 = .ok (.imul, 1) := by decide +kernel
theorem dd_M_isAsSeen_87 : decode prog_9_method_60_code 87 = .ok (.iaload, 1) := by decide +kernel
theorem dd_M_isAsSeen_88 : decode prog_9_method_60_code 88 = .ok (.iload_n 3, 1) := by decide +kernel
theorem dd_M_isAsSeen_89 : decode prog_9_method_60_code 89 = .ok (.if_icmp .ne 37, 3) := by decide +kernel
theorem dd_M_isAsSeen_92 : decode prog_9_method_60_code 92 = .ok (.aload_n 0, 1) := by decide +kernel
theorem dd_M_isAsSeen_93 : decode prog_9_method_60_code 93 = .ok (.getfield 7, 3) := by decide +kernel
theorem dd_M_isAsSeen_96 : decode prog_9_method_60_code 96 = .ok (.sipush 213, 3) := by decide +kernel
theorem dd_M_isAsSeen_99 : decode prog_9_method_60_code 99 = .ok (.aload_n 0, 1) := by decide +kernel
theorem dd_M_isAsSeen_100 : decode prog_9_method_60_code 100 = .ok (.getfield 31, 3) := by decide +kernel
theorem dd_M_isAsSeen_103 : decode prog_9_method_60_code 103 = .ok (.iconst 3, 1) := by decide +kernel
theorem dd_M_isAsSeen_104 : decode prog_9_method_60_code 104 = .ok (.iload 4, 2) := by decide +kernel
theorem dd_M_isAsSeen_106 : decode prog_9_method_60_code 106 = .ok (.imul, 1) := by decide +kernel
theorem dd_M_isAsSeen_107 : decode prog_9_method_60_code 107 = .ok (.iconst 1, 1) := by decide +kernel
theorem dd_M_isAsSeen_108 : decode prog_9_method_60_code 108 = .ok (.iadd, 1) := by decide +kernel
theorem dd_M_isAsSeen_109 : decode prog_9_method_60_code 109 = .ok (.iaload, 1) := by decide +kernel
theorem dd_M_isAsSeen_110 : decode prog_9_method_60_code 110 = .ok (.iadd, 1) := by decide +kernel
theorem dd_M_isAsSeen_111 : decode prog_9_method_60_code 111 = .ok (.iaload, 1) := by decide +kernel
theorem dd_M_isAsSeen_112 : decode prog_9_method_60_code 112 = .ok (.aload_n 0, 1) := by decide +kernel
theorem dd_M_isAsSeen_113 : decode prog_9_method_60_code 113 = .ok (.getfield 31, 3) := by decide +kernel
theorem dd_M_isAsSeen_116 : decode prog_9_method_60_code 116 = .ok (.iconst 3, 1) := by decide +kernel
theorem dd_M_isAsSeen_117 : decode prog_9_method_60_code 117 = .ok (.iload 4, 2) := by decide +kernel
theorem dd_M_isAsSeen_119 : decode prog_9_method_60_code 119 = .ok (.imul, 1) := by decide +kernel
theorem dd_M_isAsSeen_120 : decode prog_9_method_60_code 120 = .ok (.iconst 2, 1) := by decide +kernel
theorem dd_M_isAsSeen_121 : decode prog_9_method_60_code 121 = .ok (.iadd, 1) := by decide +kernel
theorem dd_M_isAsSeen_122 : decode prog_9_method_60_code 122 = .ok (.iaload, 1) := by decide +kernel
theorem dd_M_isAsSeen_123 : decode prog_9_method_60_code 123 = .ok (.if_icmp .ne 7, 3) := by decide +kernel
theorem dd_M_isAsSeen_126 : decode prog_9_method_60_code 126 = .ok (.iconst 1, 1) := by decide +kernel
theorem dd_M_isAsSeen_127 : decode prog_9_method_60_code 127 = .ok (.goto 4, 3) := by decide +kernel
theorem dd_M_isAsSeen_130 : decode prog_9_method_60_code 130 = .ok (.iconst 0, 1) := by decide +kernel
theorem dd_M_isAsSeen_131 : decode prog_9_method_60_code 131 = .ok (.istore_n 2, 1) := by decide +kernel
theorem dd_M_isAsSeen_132 : decode prog_9_method_60_code 132 = .ok (.iinc 4 1, 3) := by decide +kernel
theorem dd_M_isAsSeen_135 : decode prog_9_method_60_code 135 = .ok (.goto (-69), 3) := by decide +kernel
theorem dd_M_isAsSeen_138 : decode prog_9_method_60_code 138 = .ok (.aload_n 0, 1) := by decide +kernel
theorem dd_M_isAsSeen_139 : decode prog_9_method_60_code 139 = .ok (.sipush 176, 3) := by decide +kernel
theorem dd_M_isAsSeen_142 : decode prog_9_method_60_code 142 = .ok (.invokevirtual 202, 3) := by decide +kernel
theorem dd_M_isAsSeen_145 : decode prog_9_method_60_code 145 = .ok (.iinc 3 1, 3) := by decide +kernel
theorem dd_M_isAsSeen_148 : decode prog_9_method_60_code 148 = .ok (.goto (-136), 3) := by decide +kernel
theorem dd_M_isAsSeen_151 : decode prog_9_method_60_code 151 = .ok (.iload_n 2, 1) := by decide +kernel
theorem dd_M_isAsSeen_152 : decode prog_9_method_60_code 152 = .ok (.ireturn, 1) := by decide +kernel
theorem dd_M_numbersAt_0 : decode prog_9_method_61_code 0 = .ok (.aload_n 0, 1) := by decide +kernel
theorem dd_M_numbersAt_1 : decode prog_9_method_61_code 1 = .ok (.getfield 7, 3) := by decide +kernel
theorem dd_M_numbersAt_4 : decode prog_9_method_61_code 4 = .ok (.iload_n 1, 1) := by decide +kernel
theorem dd_M_numbersAt_5 : decode prog_9_method_61_code 5 = .ok (.iaload, 1) := by decide +kernel
theorem dd_M_numbersAt_6 : decode prog_9_method_61_code 6 = .ok (.istore 4, 2) := by decide +kernel
theorem dd_M_numbersAt_8 : decode prog_9_method_61_code 8 = .ok (.iconst 0, 1) := by decide +kernel
theorem dd_M_numbersAt_9 : decode prog_9_method_61_code 9 = .ok (.istore 5, 2) := by decide +kernel
theorem dd_M_numbersAt_11 : decode prog_9_method_61_code 11 = .ok (.iload_n 2, 1) := by decide +kernel
theorem dd_M_numbersAt_12 : decode prog_9_method_61_code 12 = .ok (.istore 6, 2) := by decide +kernel
theorem dd_M_numbersAt_14 : decode prog_9_method_61_code 14 = .ok (.iload 6, 2) := by decide +kernel
theorem dd_M_numbersAt_16 : decode prog_9_method_61_code 16 = .ok (.iload_n 3, 1) := by decide +kernel
theorem dd_M_numbersAt_17 : decode prog_9_method_61_code 17 = .ok (.if_icmp .gt 39, 3) := by decide +kernel
theorem dd_M_numbersAt_20 : decode prog_9_method_61_code 20 = .ok (.aload_n 0, 1) := by decide +kernel
theorem dd_M_numbersAt_21 : decode prog_9_method_61_code 21 = .ok (.getfield 7, 3) := by decide +kernel
theorem dd_M_numbersAt_24 : decode prog_9_method_61_code 24 = .ok (.iload_n 1, 1) := by decide +kernel
theorem dd_M_numbersAt_25 : decode prog_9_method_61_code 25 = .ok (.iload 6, 2) := by decide +kernel
theorem dd_M_numbersAt_27 : decode prog_9_method_61_code 27 = .ok (.iastore, 1) := by decide +kernel
theorem dd_M_numbersAt_28 : decode prog_9_method_61_code 28 = .ok (.iload 5, 2) := by decide +kernel
theorem dd_M_numbersAt_30 : decode prog_9_method_61_code 30 = .ok (.aload_n 0, 1) := by decide +kernel
theorem dd_M_numbersAt_31 : decode prog_9_method_61_code 31 = .ok (.iload 6, 2) := by decide +kernel
theorem dd_M_numbersAt_33 : decode prog_9_method_61_code 33 = .ok (.invokevirtual 229, 3) := by decide +kernel
theorem dd_M_numbersAt_36 : decode prog_9_method_61_code 36 = .ok (.ifCond .eq 10, 3) := by decide +kernel
theorem dd_M_numbersAt_39 : decode prog_9_method_61_code 39 = .ok (.iconst 1, 1) := by decide +kernel
theorem dd_M_numbersAt_40 : decode prog_9_method_61_code 40 = .ok (.iload 6, 2) := by decide +kernel
theorem dd_M_numbersAt_42 : decode prog_9_method_61_code 42 = .ok (.ishl, 1) := by decide +kernel
theorem dd_M_numbersAt_43 : decode prog_9_method_61_code 43 = .ok (.goto 4, 3) := by decide +kernel
theorem dd_M_numbersAt_46 : decode prog_9_method_61_code 46 = .ok (.iconst 0, 1) := by decide +kernel
theorem dd_M_numbersAt_47 : decode prog_9_method_61_code 47 = .ok (.ior, 1) := by decide +kernel
theorem dd_M_numbersAt_48 : decode prog_9_method_61_code 48 = .ok (.istore 5, 2) := by decide +kernel
theorem dd_M_numbersAt_50 : decode prog_9_method_61_code 50 = .ok (.iinc 6 1, 3) := by decide +kernel
theorem dd_M_numbersAt_53 : decode prog_9_method_61_code 53 = .ok (.goto (-39), 3) := by decide +kernel
theorem dd_M_numbersAt_56 : decode prog_9_method_61_code 56 = .ok (.aload_n 0, 1) := by decide +kernel
theorem dd_M_numbersAt_57 : decode prog_9_method_61_code 57 = .ok (.getfield 7, 3) := by decide +kernel
theorem dd_M_numbersAt_60 : decode prog_9_method_61_code 60 = .ok (.iload_n 1, 1) := by decide +kernel
theorem dd_M_numbersAt_61 : decode prog_9_method_61_code 61 = .ok (.iload 4, 2) := by decide +kernel
theorem dd_M_numbersAt_63 : decode prog_9_method_61_code 63 = .ok (.iastore, 1) := by decide +kernel
theorem dd_M_numbersAt_64 : decode prog_9_method_61_code 64 = .ok (.iload 5, 2) := by decide +kernel
theorem dd_M_numbersAt_66 : decode prog_9_method_61_code 66 = .ok (.ireturn, 1) := by decide +kernel
theorem dd_M_kinds_0 : decode prog_9_method_62_code 0 = .ok (.aload_n 0, 1) := by decide +kernel
theorem dd_M_kinds_1 : decode prog_9_method_62_code 1 = .ok (.iload_n 1, 1) := by decide +kernel
theorem dd_M_kinds_2 : decode prog_9_method_62_code 2 = .ok (.invokevirtual 162, 3) := by decide +kernel
theorem dd_M_kinds_5 : decode prog_9_method_62_code 5 = .ok (.ifCond .eq 13, 3) := by decide +kernel
theorem dd_M_kinds_8 : decode prog_9_method_62_code 8 = .ok (.aload_n 0, 1) := by decide +kernel
theorem dd_M_kinds_9 : decode prog_9_method_62_code 9 = .ok (.iload_n 1, 1) := by decide +kernel
theorem dd_M_kinds_10 : decode prog_9_method_62_code 10 = .ok (.iconst 0, 1) := by decide +kernel
theorem dd_M_kinds_11 : decode prog_9_method_62_code 11 = .ok (.iconst 3, 1) := by decide +kernel
theorem dd_M_kinds_12 : decode prog_9_method_62_code 12 = .ok (.invokevirtual 232, 3) := by decide +kernel
theorem dd_M_kinds_15 : decode prog_9_method_62_code 15 = .ok (.goto 4, 3) := by decide +kernel
theorem dd_M_kinds_18 : decode prog_9_method_62_code 18 = .ok (.iconst (-1), 1) := by decide +kernel
theorem dd_M_kinds_19 : decode prog_9_method_62_code 19 = .ok (.ireturn, 1) := by decide +kernel
theorem dd_M_weights_0 : decode prog_9_method_63_code 0 = .ok (.aload_n 0, 1) := by decide +kernel
theorem dd_M_weights_1 : decode prog_9_method_63_code 1 = .ok (.iload_n 1, 1) := by decide +kernel
theorem dd_M_weights_2 : decode prog_9_method_63_code 2 = .ok (.invokevirtual 162, 3) := by decide +kernel
theorem dd_M_weights_5 : decode prog_9_method_63_code 5 = .ok (.ifCond .eq 17, 3) := by decide +kernel
theorem dd_M_weights_8 : decode prog_9_method_63_code 8 = .ok (.aload_n 0, 1) := by decide +kernel
theorem dd_M_weights_9 : decode prog_9_method_63_code 9 = .ok (.bipush 8, 2) := by decide +kernel
theorem dd_M_weights_11 : decode prog_9_method_63_code 11 = .ok (.iload_n 1, 1) := by decide +kernel
theorem dd_M_weights_12 : decode prog_9_method_63_code 12 = .ok (.iadd, 1) := by decide +kernel
theorem dd_M_weights_13 : decode prog_9_method_63_code 13 = .ok (.iconst 1, 1) := by decide +kernel
theorem dd_M_weights_14 : decode prog_9_method_63_code 14 = .ok (.bipush 9, 2) := by decide +kernel
theorem dd_M_weights_16 : decode prog_9_method_63_code 16 = .ok (.invokevirtual 232, 3) := by decide +kernel
theorem dd_M_weights_19 : decode prog_9_method_63_code 19 = .ok (.goto 4, 3) := by decide +kernel
theorem dd_M_weights_22 : decode prog_9_method_63_code 22 = .ok (.iconst (-1), 1) := by decide +kernel
theorem dd_M_weights_23 : decode prog_9_method_63_code 23 = .ok (.ireturn, 1) := by decide +kernel
theorem dd_M_strengths_0 : decode prog_9_method_64_code 0 = .ok (.aload_n 0, 1) := by decide +kernel
theorem dd_M_strengths_1 : decode prog_9_method_64_code 1 = .ok (.iload_n 1, 1) := by decide +kernel
theorem dd_M_strengths_2 : decode prog_9_method_64_code 2 = .ok (.invokevirtual 172, 3) := by decide +kernel
theorem dd_M_strengths_5 : decode prog_9_method_64_code 5 = .ok (.ifCond .eq 17, 3) := by decide +kernel
theorem dd_M_strengths_8 : decode prog_9_method_64_code 8 = .ok (.aload_n 0, 1) := by decide +kernel
theorem dd_M_strengths_9 : decode prog_9_method_64_code 9 = .ok (.bipush 33, 2) := by decide +kernel
theorem dd_M_strengths_11 : decode prog_9_method_64_code 11 = .ok (.iload_n 1, 1) := by decide +kernel
theorem dd_M_strengths_12 : decode prog_9_method_64_code 12 = .ok (.iadd, 1) := by decide +kernel
theorem dd_M_strengths_13 : decode prog_9_method_64_code 13 = .ok (.iconst 1, 1) := by decide +kernel
theorem dd_M_strengths_14 : decode prog_9_method_64_code 14 = .ok (.bipush 20, 2) := by decide +kernel
theorem dd_M_strengths_16 : decode prog_9_method_64_code 16 = .ok (.invokevirtual 232, 3) := by decide +kernel
theorem dd_M_strengths_19 : decode prog_9_method_64_code 19 = .ok (.goto 4, 3) := by decide +kernel
theorem dd_M_strengths_22 : decode prog_9_method_64_code 22 = .ok (.iconst (-1), 1) := by decide +kernel
theorem dd_M_strengths_23 : decode prog_9_method_64_code 23 = .ok (.ireturn, 1) := by decide +kernel
theorem dd_M_worstAt_0 : decode prog_9_method_65_code 0 = .ok (.iconst 0, 1) := by decide +kernel
theorem dd_M_worstAt_1 : decode prog_9_method_65_code 1 = .ok (.istore_n 3, 1) := by decide +kernel
theorem dd_M_worstAt_2 : decode prog_9_method_65_code 2 = .ok (.iconst 1, 1) := by decide +kernel
theorem dd_M_worstAt_3 : decode prog_9_method_65_code 3 = .ok (.istore 4, 2) := by decide +kernel
theorem dd_M_worstAt_5 : decode prog_9_method_65_code 5 = .ok (.iload 4, 2) := by decide +kernel
theorem dd_M_worstAt_7 : decode prog_9_method_65_code 7 = .ok (.bipush 20, 2) := by decide +kernel
theorem dd_M_worstAt_9 : decode prog_9_method_65_code 9 = .ok (.if_icmp .gt 98, 3) := by decide +kernel
theorem dd_M_worstAt_12 : decode prog_9_method_65_code 12 = .ok (.iconst 0, 1) := by decide +kernel
theorem dd_M_worstAt_13 : decode prog_9_method_65_code 13 = .ok (.istore 5, 2) := by decide +kernel
theorem dd_M_worstAt_15 : decode prog_9_method_65_code 15 = .ok (.iconst 1, 1) := by decide +kernel
theorem dd_M_worstAt_16 : decode prog_9_method_65_code 16 = .ok (.istore 6, 2) := by decide +kernel
theorem dd_M_worstAt_18 : decode prog_9_method_65_code 18 = .ok (.iload 6, 2) := by decide +kernel
theorem dd_M_worstAt_20 : decode prog_9_method_65_code 20 = .ok (.bipush 20, 2) := by decide +kernel
theorem dd_M_worstAt_22 : decode prog_9_method_65_code 22 = .ok (.if_icmp .gt 66, 3) := by decide +kernel
theorem dd_M_worstAt_25 : decode prog_9_method_65_code 25 = .ok (.iload_n 1, 1) := by decide +kernel
theorem dd_M_worstAt_26 : decode prog_9_method_65_code 26 = .ok (.iload 4, 2) := by decide +kernel
theorem dd_M_worstAt_28 : decode prog_9_method_65_code 28 = .ok (.ishr, 1) := by decide +kernel
theorem dd_M_worstAt_29 : decode prog_9_method_65_code 29 = .ok (.iconst 1, 1) := by decide +kernel
theorem dd_M_worstAt_30 : decode prog_9_method_65_code 30 = .ok (.iand, 1) := by decide +kernel
theorem dd_M_worstAt_31 : decode prog_9_method_65_code 31 = .ok (.iconst 1, 1) := by decide +kernel
theorem dd_M_worstAt_32 : decode prog_9_method_65_code 32 = .ok (.if_icmp .ne 56, 3) := by decide +kernel
theorem dd_M_worstAt_35 : decode prog_9_method_65_code 35 = .ok (.iload 5, 2) := by decide +kernel
theorem dd_M_worstAt_37 : decode prog_9_method_65_code 37 = .ok (.iload_n 1, 1) := by decide +kernel
theorem dd_M_worstAt_38 : decode prog_9_method_65_code 38 = .ok (.iload 6, 2) := by decide +kernel
theorem dd_M_worstAt_40 : decode prog_9_method_65_code 40 = .ok (.ishr, 1) := by decide +kernel
theorem dd_M_worstAt_41 : decode prog_9_method_65_code 41 = .ok (.iconst 1, 1) := by decide +kernel
theorem dd_M_worstAt_42 : decode prog_9_method_65_code 42 = .ok (.iand, 1) := by decide +kernel
theorem dd_M_worstAt_43 : decode prog_9_method_65_code 43 = .ok (.iconst 1, 1) := by decide +kernel
theorem dd_M_worstAt_44 : decode prog_9_method_65_code 44 = .ok (.if_icmp .ne 34, 3) := by decide +kernel
theorem dd_M_worstAt_47 : decode prog_9_method_65_code 47 = .ok (.aload_n 0, 1) := by decide +kernel
theorem dd_M_worstAt_48 : decode prog_9_method_65_code 48 = .ok (.getfield 34, 3) := by decide +kernel
theorem dd_M_worstAt_51 : decode prog_9_method_65_code 51 = .ok (.bipush 84, 2) := by decide +kernel
theorem dd_M_worstAt_53 : decode prog_9_method_65_code 53 = .ok (.iload 4, 2) := by decide +kernel
theorem dd_M_worstAt_55 : decode prog_9_method_65_code 55 = .ok (.imul, 1) := by decide +kernel
theorem dd_M_worstAt_56 : decode prog_9_method_65_code 56 = .ok (.iload_n 2, 1) := by decide +kernel
theorem dd_M_worstAt_57 : decode prog_9_method_65_code 57 = .ok (.iadd, 1) := by decide +kernel
theorem dd_M_worstAt_58 : decode prog_9_method_65_code 58 = .ok (.iaload, 1) := by decide +kernel
theorem dd_M_worstAt_59 : decode prog_9_method_65_code 59 = .ok (.aload_n 0, 1) := by decide +kernel
theorem dd_M_worstAt_60 : decode prog_9_method_65_code 60 = .ok (.getfield 34, 3) := by decide +kernel
theorem dd_M_worstAt_63 : decode prog_9_method_65_code 63 = .ok (.bipush 84, 2) := by decide +kernel
theorem dd_M_worstAt_65 : decode prog_9_method_65_code 65 = .ok (.iload 6, 2) := by decide +kernel
theorem dd_M_worstAt_67 : decode prog_9_method_65_code 67 = .ok (.imul, 1) := by decide +kernel
theorem dd_M_worstAt_68 : decode prog_9_method_65_code 68 = .ok (.iload_n 2, 1) := by decide +kernel
theorem dd_M_worstAt_69 : decode prog_9_method_65_code 69 = .ok (.iadd, 1) := by decide +kernel
theorem dd_M_worstAt_70 : decode prog_9_method_65_code 70 = .ok (.iaload, 1) := by decide +kernel
theorem dd_M_worstAt_71 : decode prog_9_method_65_code 71 = .ok (.if_icmp .ne 7, 3) := by decide +kernel
theorem dd_M_worstAt_74 : decode prog_9_method_65_code 74 = .ok (.iconst 1, 1) := by decide +kernel
theorem dd_M_worstAt_75 : decode prog_9_method_65_code 75 = .ok (.goto 4, 3) := by decide +kernel
theorem dd_M_worstAt_78 : decode prog_9_method_65_code 78 = .ok (.iconst 0, 1) := by decide +kernel
theorem dd_M_worstAt_79 : decode prog_9_method_65_code 79 = .ok (.iadd, 1) := by decide +kernel
theorem dd_M_worstAt_80 : decode prog_9_method_65_code 80 = .ok (.istore 5, 2) := by decide +kernel
theorem dd_M_worstAt_82 : decode prog_9_method_65_code 82 = .ok (.iinc 6 1, 3) := by decide +kernel
theorem dd_M_worstAt_85 : decode prog_9_method_65_code 85 = .ok (.goto (-67), 3) := by decide +kernel
theorem dd_M_worstAt_88 : decode prog_9_method_65_code 88 = .ok (.iload 5, 2) := by decide +kernel
theorem dd_M_worstAt_90 : decode prog_9_method_65_code 90 = .ok (.iload_n 3, 1) := by decide +kernel
theorem dd_M_worstAt_91 : decode prog_9_method_65_code 91 = .ok (.if_icmp .le 8, 3) := by decide +kernel
theorem dd_M_worstAt_94 : decode prog_9_method_65_code 94 = .ok (.iload 5, 2) := by decide +kernel
theorem dd_M_worstAt_96 : decode prog_9_method_65_code 96 = .ok (.goto 4, 3) := by decide +kernel
theorem dd_M_worstAt_99 : decode prog_9_method_65_code 99 = .ok (.iload_n 3, 1) := by decide +kernel
theorem dd_M_worstAt_100 : decode prog_9_method_65_code 100 = .ok (.istore_n 3, 1) := by decide +kernel
theorem dd_M_worstAt_101 : decode prog_9_method_65_code 101 = .ok (.iinc 4 1, 3) := by decide +kernel
theorem dd_M_worstAt_104 : decode prog_9_method_65_code 104 = .ok (.goto (-99), 3) := by decide +kernel
theorem dd_M_worstAt_107 : decode prog_9_method_65_code 107 = .ok (.iload_n 3, 1) := by decide +kernel
theorem dd_M_worstAt_108 : decode prog_9_method_65_code 108 = .ok (.ireturn, 1) := by decide +kernel
theorem dd_M_ask_0 : decode prog_9_method_66_code 0 = .ok (.aload_n 0, 1) := by decide +kernel
theorem dd_M_ask_1 : decode prog_9_method_66_code 1 = .ok (.iload_n 1, 1) := by decide +kernel
theorem dd_M_ask_2 : decode prog_9_method_66_code 2 = .ok (.invokevirtual 172, 3) := by decide +kernel
theorem dd_M_ask_5 : decode prog_9_method_66_code 5 = .ok (.ifCond .eq 13, 3) := by decide +kernel
theorem dd_M_ask_8 : decode prog_9_method_66_code 8 = .ok (.iload_n 2, 1) := by decide +kernel
theorem dd_M_ask_9 : decode prog_9_method_66_code 9 = .ok (.i2l, 1) := by decide +kernel
theorem dd_M_ask_10 : decode prog_9_method_66_code 10 = .ok (.lconst 0, 1) := by decide +kernel
theorem dd_M_ask_11 : decode prog_9_method_66_code 11 = .ok (.lconst 1, 1) := by decide +kernel
theorem dd_M_ask_12 : decode prog_9_method_66_code 12 = .ok (.invokestatic 52, 3) := by decide +kernel
theorem dd_M_ask_15 : decode prog_9_method_66_code 15 = .ok (.ifCond .ne 5, 3) := by decide +kernel
theorem dd_M_ask_18 : decode prog_9_method_66_code 18 = .ok (.iconst (-1), 1) := by decide +kernel
theorem dd_M_ask_19 : decode prog_9_method_66_code 19 = .ok (.ireturn, 1) := by decide +kernel
theorem dd_M_ask_20 : decode prog_9_method_66_code 20 = .ok (.aload_n 0, 1) := by decide +kernel
theorem dd_M_ask_21 : decode prog_9_method_66_code 21 = .ok (.bipush 33, 2) := by decide +kernel
theorem dd_M_ask_23 : decode prog_9_method_66_code 23 = .ok (.iload_n 1, 1) := by decide +kernel
theorem dd_M_ask_24 : decode prog_9_method_66_code 24 = .ok (.iadd, 1) := by decide +kernel
theorem dd_M_ask_25 : decode prog_9_method_66_code 25 = .ok (.iconst 1, 1) := by decide +kernel
theorem dd_M_ask_26 : decode prog_9_method_66_code 26 = .ok (.bipush 20, 2) := by decide +kernel
theorem dd_M_ask_28 : decode prog_9_method_66_code 28 = .ok (.invokevirtual 232, 3) := by decide +kernel
theorem dd_M_ask_31 : decode prog_9_method_66_code 31 = .ok (.istore_n 3, 1) := by decide +kernel
theorem dd_M_ask_32 : decode prog_9_method_66_code 32 = .ok (.iconst 0, 1) := by decide +kernel
theorem dd_M_ask_33 : decode prog_9_method_66_code 33 = .ok (.istore 4, 2) := by decide +kernel
theorem dd_M_ask_35 : decode prog_9_method_66_code 35 = .ok (.iconst 1, 1) := by decide +kernel
theorem dd_M_ask_36 : decode prog_9_method_66_code 36 = .ok (.istore 5, 2) := by decide +kernel
theorem dd_M_ask_38 : decode prog_9_method_66_code 38 = .ok (.iload 5, 2) := by decide +kernel
theorem dd_M_ask_40 : decode prog_9_method_66_code 40 = .ok (.bipush 20, 2) := by decide +kernel
theorem dd_M_ask_42 : decode prog_9_method_66_code 42 = .ok (.if_icmp .gt 20, 3) := by decide +kernel
theorem dd_M_ask_45 : decode prog_9_method_66_code 45 = .ok (.iload 4, 2) := by decide +kernel
theorem dd_M_ask_47 : decode prog_9_method_66_code 47 = .ok (.iload_n 3, 1) := by decide +kernel
theorem dd_M_ask_48 : decode prog_9_method_66_code 48 = .ok (.iload 5, 2) := by decide +kernel
theorem dd_M_ask_50 : decode prog_9_method_66_code 50 = .ok (.ishr, 1) := by decide +kernel
theorem dd_M_ask_51 : decode prog_9_method_66_code 51 = .ok (.iconst 1, 1) := by decide +kernel
theorem dd_M_ask_52 : decode prog_9_method_66_code 52 = .ok (.iand, 1) := by decide +kernel
theorem dd_M_ask_53 : decode prog_9_method_66_code 53 = .ok (.iadd, 1) := by decide +kernel
theorem dd_M_ask_54 : decode prog_9_method_66_code 54 = .ok (.istore 4, 2) := by decide +kernel
theorem dd_M_ask_56 : decode prog_9_method_66_code 56 = .ok (.iinc 5 1, 3) := by decide +kernel
theorem dd_M_ask_59 : decode prog_9_method_66_code 59 = .ok (.goto (-21), 3) := by decide +kernel
theorem dd_M_ask_62 : decode prog_9_method_66_code 62 = .ok (.bipush (-4), 2) := by decide +kernel
theorem dd_M_ask_64 : decode prog_9_method_66_code 64 = .ok (.istore 5, 2) := by decide +kernel
theorem dd_M_ask_66 : decode prog_9_method_66_code 66 = .ok (.iconst 0, 1) := by decide +kernel
theorem dd_M_ask_67 : decode prog_9_method_66_code 67 = .ok (.istore 6, 2) := by decide +kernel
theorem dd_M_ask_69 : decode prog_9_method_66_code 69 = .ok (.iload 6, 2) := by decide +kernel
theorem dd_M_ask_71 : decode prog_9_method_66_code 71 = .ok (.bipush 20, 2) := by decide +kernel
theorem dd_M_ask_73 : decode prog_9_method_66_code 73 = .ok (.if_icmp .gt 79, 3) := by decide +kernel
theorem dd_M_ask_76 : decode prog_9_method_66_code 76 = .ok (.iconst 0, 1) := by decide +kernel
theorem dd_M_ask_77 : decode prog_9_method_66_code 77 = .ok (.istore 7, 2) := by decide +kernel
theorem dd_M_ask_79 : decode prog_9_method_66_code 79 = .ok (.iload 7, 2) := by decide +kernel
theorem dd_M_ask_81 : decode prog_9_method_66_code 81 = .ok (.aload_n 0, 1) := by decide +kernel
theorem dd_M_ask_82 : decode prog_9_method_66_code 82 = .ok (.getfield 122, 3) := by decide +kernel
theorem dd_M_ask_85 : decode prog_9_method_66_code 85 = .ok (.if_icmp .ge 61, 3) := by decide +kernel
theorem dd_M_ask_88 : decode prog_9_method_66_code 88 = .ok (.aload_n 0, 1) := by decide +kernel
theorem dd_M_ask_89 : decode prog_9_method_66_code 89 = .ok (.iload_n 3, 1) := by decide +kernel
theorem dd_M_ask_90 : decode prog_9_method_66_code 90 = .ok (.iconst 4, 1) := by decide +kernel
theorem dd_M_ask_91 : decode prog_9_method_66_code 91 = .ok (.iload 6, 2) := by decide +kernel
theorem dd_M_ask_93 : decode prog_9_method_66_code 93 = .ok (.imul, 1) := by decide +kernel
theorem dd_M_ask_94 : decode prog_9_method_66_code 94 = .ok (.iload 7, 2) := by decide +kernel
theorem dd_M_ask_96 : decode prog_9_method_66_code 96 = .ok (.iadd, 1) := by decide +kernel
theorem dd_M_ask_97 : decode prog_9_method_66_code 97 = .ok (.invokevirtual 235, 3) := by decide +kernel
theorem dd_M_ask_100 : decode prog_9_method_66_code 100 = .ok (.istore 8, 2) := by decide +kernel
theorem dd_M_ask_102 : decode prog_9_method_66_code 102 = .ok (.iload 8, 2) := by decide +kernel
theorem dd_M_ask_104 : decode prog_9_method_66_code 104 = .ok (.iload 4, 2) := by decide +kernel
theorem dd_M_ask_106 : decode prog_9_method_66_code 106 = .ok (.if_icmp .ge 14, 3) := by decide +kernel
theorem dd_M_ask_109 : decode prog_9_method_66_code 109 = .ok (.bipush 10, 2) := by decide +kernel
theorem dd_M_ask_111 : decode prog_9_method_66_code 111 = .ok (.iload 6, 2) := by decide +kernel
theorem dd_M_ask_113 : decode prog_9_method_66_code 113 = .ok (.imul, 1) := by decide +kernel
theorem dd_M_ask_114 : decode prog_9_method_66_code 114 = .ok (.iload 7, 2) := by decide +kernel
theorem dd_M_ask_116 : decode prog_9_method_66_code 116 = .ok (.iadd, 1) := by decide +kernel
theorem dd_M_ask_117 : decode prog_9_method_66_code 117 = .ok (.goto 5, 3) := by decide +kernel
theorem dd_M_ask_120 : decode prog_9_method_66_code 120 = .ok (.iload 5, 2) := by decide +kernel
theorem dd_M_ask_122 : decode prog_9_method_66_code 122 = .ok (.istore 5, 2) := by decide +kernel
theorem dd_M_ask_124 : decode prog_9_method_66_code 124 = .ok (.iload 8, 2) := by decide +kernel
theorem dd_M_ask_126 : decode prog_9_method_66_code 126 = .ok (.iload 4, 2) := by decide +kernel
theorem dd_M_ask_128 : decode prog_9_method_66_code 128 = .ok (.if_icmp .ge 8, 3) := by decide +kernel
theorem dd_M_ask_131 : decode prog_9_method_66_code 131 = .ok (.iload 8, 2) := by decide +kernel
theorem dd_M_ask_133 : decode prog_9_method_66_code 133 = .ok (.goto 5, 3) := by decide +kernel
theorem dd_M_ask_136 : decode prog_9_method_66_code 136 = .ok (.iload 4, 2) := by decide +kernel
theorem dd_M_ask_138 : decode prog_9_method_66_code 138 = .ok (.istore 4, 2) := by decide +kernel
theorem dd_M_ask_140 : decode prog_9_method_66_code 140 = .ok (.iinc 7 1, 3) := by decide +kernel
theorem dd_M_ask_143 : decode prog_9_method_66_code 143 = .ok (.goto (-64), 3) := by decide +kernel
theorem dd_M_ask_146 : decode prog_9_method_66_code 146 = .ok (.iinc 6 1, 3) := by decide +kernel
theorem dd_M_ask_149 : decode prog_9_method_66_code 149 = .ok (.goto (-80), 3) := by decide +kernel
theorem dd_M_ask_152 : decode prog_9_method_66_code 152 = .ok (.iload 5, 2) := by decide +kernel
theorem dd_M_ask_154 : decode prog_9_method_66_code 154 = .ok (.bipush (-4), 2) := by decide +kernel
theorem dd_M_ask_156 : decode prog_9_method_66_code 156 = .ok (.if_icmp .eq 7, 3) := by decide +kernel
theorem dd_M_ask_159 : decode prog_9_method_66_code 159 = .ok (.iload_n 2, 1) := by decide +kernel
theorem dd_M_ask_160 : decode prog_9_method_66_code 160 = .ok (.ifCond .ne 8, 3) := by decide +kernel
theorem dd_M_ask_163 : decode prog_9_method_66_code 163 = .ok (.iload 5, 2) := by decide +kernel
theorem dd_M_ask_165 : decode prog_9_method_66_code 165 = .ok (.goto 5, 3) := by decide +kernel
theorem dd_M_ask_168 : decode prog_9_method_66_code 168 = .ok (.iload 4, 2) := by decide +kernel
theorem dd_M_ask_170 : decode prog_9_method_66_code 170 = .ok (.ireturn, 1) := by decide +kernel
theorem dd_M_drift_0 : decode prog_9_method_67_code 0 = .ok (.iload_n 2, 1) := by decide +kernel
theorem dd_M_drift_1 : decode prog_9_method_67_code 1 = .ok (.i2l, 1) := by decide +kernel
theorem dd_M_drift_2 : decode prog_9_method_67_code 2 = .ok (.lconst 1, 1) := by decide +kernel
theorem dd_M_drift_3 : decode prog_9_method_67_code 3 = .ok (.ldc2_w 205, 3) := by decide +kernel
theorem dd_M_drift_6 : decode prog_9_method_67_code 6 = .ok (.invokestatic 52, 3) := by decide +kernel
theorem dd_M_drift_9 : decode prog_9_method_67_code 9 = .ok (.ifCond .eq 13, 3) := by decide +kernel
theorem dd_M_drift_12 : decode prog_9_method_67_code 12 = .ok (.iload_n 3, 1) := by decide +kernel
theorem dd_M_drift_13 : decode prog_9_method_67_code 13 = .ok (.i2l, 1) := by decide +kernel
theorem dd_M_drift_14 : decode prog_9_method_67_code 14 = .ok (.lconst 0, 1) := by decide +kernel
theorem dd_M_drift_15 : decode prog_9_method_67_code 15 = .ok (.lconst 1, 1) := by decide +kernel
theorem dd_M_drift_16 : decode prog_9_method_67_code 16 = .ok (.invokestatic 52, 3) := by decide +kernel
theorem dd_M_drift_19 : decode prog_9_method_67_code 19 = .ok (.ifCond .ne 5, 3) := by decide +kernel
theorem dd_M_drift_22 : decode prog_9_method_67_code 22 = .ok (.iconst (-1), 1) := by decide +kernel
theorem dd_M_drift_23 : decode prog_9_method_67_code 23 = .ok (.ireturn, 1) := by decide +kernel
theorem dd_M_drift_24 : decode prog_9_method_67_code 24 = .ok (.aload_n 0, 1) := by decide +kernel
theorem dd_M_drift_25 : decode prog_9_method_67_code 25 = .ok (.getfield 7, 3) := by decide +kernel
theorem dd_M_drift_28 : decode prog_9_method_67_code 28 = .ok (.bipush 32, 2) := by decide +kernel
theorem dd_M_drift_30 : decode prog_9_method_67_code 30 = .ok (.iaload, 1) := by decide +kernel
theorem dd_M_drift_31 : decode prog_9_method_67_code 31 = .ok (.ifCond .ne 6, 3) := by decide +kernel
theorem dd_M_drift_34 : decode prog_9_method_67_code 34 = .ok (.bipush (-2), 2) := by decide +kernel
theorem dd_M_drift_36 : decode prog_9_method_67_code 36 = .ok (.ireturn, 1) := by decide +kernel
theorem dd_M_drift_37 : decode prog_9_method_67_code 37 = .ok (.aload_n 0, 1) := by decide +kernel
theorem dd_M_drift_38 : decode prog_9_method_67_code 38 = .ok (.iconst 0, 1) := by decide +kernel
theorem dd_M_drift_39 : decode prog_9_method_67_code 39 = .ok (.sipush 176, 3) := by decide +kernel
theorem dd_M_drift_42 : decode prog_9_method_67_code 42 = .ok (.invokevirtual 168, 3) := by decide +kernel
theorem dd_M_drift_45 : decode prog_9_method_67_code 45 = .ok (.aload_n 0, 1) := by decide +kernel
theorem dd_M_drift_46 : decode prog_9_method_67_code 46 = .ok (.iconst 0, 1) := by decide +kernel
theorem dd_M_drift_47 : decode prog_9_method_67_code 47 = .ok (.putfield 150, 3) := by decide +kernel
theorem dd_M_drift_50 : decode prog_9_method_67_code 50 = .ok (.iload_n 1, 1) := by decide +kernel
theorem dd_M_drift_51 : decode prog_9_method_67_code 51 = .ok (.istore 4, 2) := by decide +kernel
theorem dd_M_drift_53 : decode prog_9_method_67_code 53 = .ok (.iconst 0, 1) := by decide +kernel
theorem dd_M_drift_54 : decode prog_9_method_67_code 54 = .ok (.istore 5, 2) := by decide +kernel
theorem dd_M_drift_56 : decode prog_9_method_67_code 56 = .ok (.iload 5, 2) := by decide +kernel
theorem dd_M_drift_58 : decode prog_9_method_67_code 58 = .ok (.iload_n 2, 1) := by decide +kernel
theorem dd_M_drift_59 : decode prog_9_method_67_code 59 = .ok (.if_icmp .ge 76, 3) := by decide +kernel
theorem dd_M_drift_62 : decode prog_9_method_67_code 62 = .ok (.iload 4, 2) := by decide +kernel
theorem dd_M_drift_64 : decode prog_9_method_67_code 64 = .ok (.ldc 238, 2) := by decide +kernel
theorem dd_M_drift_66 : decode prog_9_method_67_code 66 = .ok (.imul, 1) := by decide +kernel
theorem dd_M_drift_67 : decode prog_9_method_67_code 67 = .ok (.sipush 12345, 3) := by decide +kernel
theorem dd_M_drift_70 : decode prog_9_method_67_code 70 = .ok (.iadd, 1) := by decide +kernel
theorem dd_M_drift_71 : decode prog_9_method_67_code 71 = .ok (.istore 4, 2) := by decide +kernel
theorem dd_M_drift_73 : decode prog_9_method_67_code 73 = .ok (.iload 4, 2) := by decide +kernel
theorem dd_M_drift_75 : decode prog_9_method_67_code 75 = .ok (.bipush 16, 2) := by decide +kernel
theorem dd_M_drift_77 : decode prog_9_method_67_code 77 = .ok (.ishr, 1) := by decide +kernel
theorem dd_M_drift_78 : decode prog_9_method_67_code 78 = .ok (.sipush 32767, 3) := by decide +kernel
theorem dd_M_drift_81 : decode prog_9_method_67_code 81 = .ok (.iand, 1) := by decide +kernel
theorem dd_M_drift_82 : decode prog_9_method_67_code 82 = .ok (.istore 6, 2) := by decide +kernel
theorem dd_M_drift_84 : decode prog_9_method_67_code 84 = .ok (.aload_n 0, 1) := by decide +kernel
theorem dd_M_drift_85 : decode prog_9_method_67_code 85 = .ok (.getfield 7, 3) := by decide +kernel
theorem dd_M_drift_88 : decode prog_9_method_67_code 88 = .ok (.sipush 184, 3) := by decide +kernel
theorem dd_M_drift_91 : decode prog_9_method_67_code 91 = .ok (.iload 6, 2) := by decide +kernel
theorem dd_M_drift_93 : decode prog_9_method_67_code 93 = .ok (.bipush 8, 2) := by decide +kernel
theorem dd_M_drift_95 : decode prog_9_method_67_code 95 = .ok (.idiv, 1) := by decide +kernel
theorem dd_M_drift_96 : decode prog_9_method_67_code 96 = .ok (.aload_n 0, 1) := by decide +kernel
theorem dd_M_drift_97 : decode prog_9_method_67_code 97 = .ok (.getfield 7, 3) := by decide +kernel
theorem dd_M_drift_100 : decode prog_9_method_67_code 100 = .ok (.bipush 32, 2) := by decide +kernel
theorem dd_M_drift_102 : decode prog_9_method_67_code 102 = .ok (.iaload, 1) := by decide +kernel
theorem dd_M_drift_103 : decode prog_9_method_67_code 103 = .ok (.irem, 1) := by decide +kernel
theorem dd_M_drift_104 : decode prog_9_method_67_code 104 = .ok (.iadd, 1) := by decide +kernel
theorem dd_M_drift_105 : decode prog_9_method_67_code 105 = .ok (.iconst 1, 1) := by decide +kernel
theorem dd_M_drift_106 : decode prog_9_method_67_code 106 = .ok (.iload 6, 2) := by decide +kernel
theorem dd_M_drift_108 : decode prog_9_method_67_code 108 = .ok (.bipush 64, 2) := by decide +kernel
theorem dd_M_drift_110 : decode prog_9_method_67_code 110 = .ok (.idiv, 1) := by decide +kernel
theorem dd_M_drift_111 : decode prog_9_method_67_code 111 = .ok (.bipush 9, 2) := by decide +kernel
theorem dd_M_drift_113 : decode prog_9_method_67_code 113 = .ok (.irem, 1) := by decide +kernel
theorem dd_M_drift_114 : decode prog_9_method_67_code 114 = .ok (.iadd, 1) := by decide +kernel
theorem dd_M_drift_115 : decode prog_9_method_67_code 115 = .ok (.iastore, 1) := by decide +kernel
theorem dd_M_drift_116 : decode prog_9_method_67_code 116 = .ok (.aload_n 0, 1) := by decide +kernel
theorem dd_M_drift_117 : decode prog_9_method_67_code 117 = .ok (.sipush 176, 3) := by decide +kernel
theorem dd_M_drift_120 : decode prog_9_method_67_code 120 = .ok (.iload 6, 2) := by decide +kernel
theorem dd_M_drift_122 : decode prog_9_method_67_code 122 = .ok (.bipush 7, 2) := by decide +kernel
theorem dd_M_drift_124 : decode prog_9_method_67_code 124 = .ok (.irem, 1) := by decide +kernel
theorem dd_M_drift_125 : decode prog_9_method_67_code 125 = .ok (.iconst 0, 1) := by decide +kernel
theorem dd_M_drift_126 : decode prog_9_method_67_code 126 = .ok (.invokevirtual 153, 3) := by decide +kernel
theorem dd_M_drift_129 : decode prog_9_method_67_code 129 = .ok (.iinc 5 1, 3) := by decide +kernel
theorem dd_M_drift_132 : decode prog_9_method_67_code 132 = .ok (.goto (-76), 3) := by decide +kernel
theorem dd_M_drift_135 : decode prog_9_method_67_code 135 = .ok (.iload_n 3, 1) := by decide +kernel
theorem dd_M_drift_136 : decode prog_9_method_67_code 136 = .ok (.ifCond .ne 19, 3) := by decide +kernel
theorem dd_M_drift_139 : decode prog_9_method_67_code 139 = .ok (.aload_n 0, 1) := by decide +kernel
theorem dd_M_drift_140 : decode prog_9_method_67_code 140 = .ok (.sipush 176, 3) := by decide +kernel
theorem dd_M_drift_143 : decode prog_9_method_67_code 143 = .ok (.invokevirtual 159, 3) := by decide +kernel
theorem dd_M_drift_146 : decode prog_9_method_67_code 146 = .ok (.aload_n 0, 1) := by decide +kernel
theorem dd_M_drift_147 : decode prog_9_method_67_code 147 = .ok (.iconst 0, 1) := by decide +kernel
theorem dd_M_drift_148 : decode prog_9_method_67_code 148 = .ok (.invokevirtual 159, 3) := by decide +kernel
theorem dd_M_drift_151 : decode prog_9_method_67_code 151 = .ok (.isub, 1) := by decide +kernel
theorem dd_M_drift_152 : decode prog_9_method_67_code 152 = .ok (.goto 7, 3) := by decide +kernel
theorem dd_M_drift_155 : decode prog_9_method_67_code 155 = .ok (.aload_n 0, 1) := by decide +kernel
theorem dd_M_drift_156 : decode prog_9_method_67_code 156 = .ok (.getfield 150, 3) := by decide +kernel
theorem dd_M_drift_159 : decode prog_9_method_67_code 159 = .ok (.ireturn, 1) := by decide +kernel
theorem dd_M_keep_0 : decode prog_9_method_68_code 0 = .ok (.iload_n 1, 1) := by decide +kernel
theorem dd_M_keep_1 : decode prog_9_method_68_code 1 = .ok (.i2l, 1) := by decide +kernel
theorem dd_M_keep_2 : decode prog_9_method_68_code 2 = .ok (.lconst 0, 1) := by decide +kernel
theorem dd_M_keep_3 : decode prog_9_method_68_code 3 = .ok (.lconst 1, 1) := by decide +kernel
theorem dd_M_keep_4 : decode prog_9_method_68_code 4 = .ok (.invokestatic 52, 3) := by decide +kernel
theorem dd_M_keep_7 : decode prog_9_method_68_code 7 = .ok (.ifCond .ne 5, 3) := by decide +kernel
theorem dd_M_keep_10 : decode prog_9_method_68_code 10 = .ok (.iconst (-1), 1) := by decide +kernel
theorem dd_M_keep_11 : decode prog_9_method_68_code 11 = .ok (.ireturn, 1) := by decide +kernel
theorem dd_M_keep_12 : decode prog_9_method_68_code 12 = .ok (.aload_n 0, 1) := by decide +kernel
theorem dd_M_keep_13 : decode prog_9_method_68_code 13 = .ok (.iconst 0, 1) := by decide +kernel
theorem dd_M_keep_14 : decode prog_9_method_68_code 14 = .ok (.bipush 44, 2) := by decide +kernel
theorem dd_M_keep_16 : decode prog_9_method_68_code 16 = .ok (.iload_n 1, 1) := by decide +kernel
theorem dd_M_keep_17 : decode prog_9_method_68_code 17 = .ok (.iconst 1, 1) := by decide +kernel
theorem dd_M_keep_18 : decode prog_9_method_68_code 18 = .ok (.iadd, 1) := by decide +kernel
theorem dd_M_keep_19 : decode prog_9_method_68_code 19 = .ok (.imul, 1) := by decide +kernel
theorem dd_M_keep_20 : decode prog_9_method_68_code 20 = .ok (.invokevirtual 168, 3) := by decide +kernel
theorem dd_M_keep_23 : decode prog_9_method_68_code 23 = .ok (.aload_n 0, 1) := by decide +kernel
theorem dd_M_keep_24 : decode prog_9_method_68_code 24 = .ok (.getfield 37, 3) := by decide +kernel
theorem dd_M_keep_27 : decode prog_9_method_68_code 27 = .ok (.iload_n 1, 1) := by decide +kernel
theorem dd_M_keep_28 : decode prog_9_method_68_code 28 = .ok (.baload, 1) := by decide +kernel
theorem dd_M_keep_29 : decode prog_9_method_68_code 29 = .ok (.ifCond .eq 7, 3) := by decide +kernel
theorem dd_M_keep_32 : decode prog_9_method_68_code 32 = .ok (.iconst 1, 1) := by decide +kernel
theorem dd_M_keep_33 : decode prog_9_method_68_code 33 = .ok (.goto 4, 3) := by decide +kernel
theorem dd_M_keep_36 : decode prog_9_method_68_code 36 = .ok (.iconst 0, 1) := by decide +kernel
theorem dd_M_keep_37 : decode prog_9_method_68_code 37 = .ok (.istore_n 2, 1) := by decide +kernel
theorem dd_M_keep_38 : decode prog_9_method_68_code 38 = .ok (.aload_n 0, 1) := by decide +kernel
theorem dd_M_keep_39 : decode prog_9_method_68_code 39 = .ok (.getfield 37, 3) := by decide +kernel
theorem dd_M_keep_42 : decode prog_9_method_68_code 42 = .ok (.iload_n 1, 1) := by decide +kernel
theorem dd_M_keep_43 : decode prog_9_method_68_code 43 = .ok (.iconst 1, 1) := by decide +kernel
theorem dd_M_keep_44 : decode prog_9_method_68_code 44 = .ok (.bastore, 1) := by decide +kernel
theorem dd_M_keep_45 : decode prog_9_method_68_code 45 = .ok (.iload_n 2, 1) := by decide +kernel
theorem dd_M_keep_46 : decode prog_9_method_68_code 46 = .ok (.ireturn, 1) := by decide +kernel
theorem dd_M_back_0 : decode prog_9_method_69_code 0 = .ok (.iload_n 1, 1) := by decide +kernel
theorem dd_M_back_1 : decode prog_9_method_69_code 1 = .ok (.i2l, 1) := by decide +kernel
theorem dd_M_back_2 : decode prog_9_method_69_code 2 = .ok (.lconst 0, 1) := by decide +kernel
theorem dd_M_back_3 : decode prog_9_method_69_code 3 = .ok (.lconst 1, 1) := by decide +kernel
theorem dd_M_back_4 : decode prog_9_method_69_code 4 = .ok (.invokestatic 52, 3) := by decide +kernel
theorem dd_M_back_7 : decode prog_9_method_69_code 7 = .ok (.ifCond .ne 5, 3) := by decide +kernel
theorem dd_M_back_10 : decode prog_9_method_69_code 10 = .ok (.iconst (-1), 1) := by decide +kernel
theorem dd_M_back_11 : decode prog_9_method_69_code 11 = .ok (.ireturn, 1) := by decide +kernel
theorem dd_M_back_12 : decode prog_9_method_69_code 12 = .ok (.aload_n 0, 1) := by decide +kernel
theorem dd_M_back_13 : decode prog_9_method_69_code 13 = .ok (.getfield 37, 3) := by decide +kernel
theorem dd_M_back_16 : decode prog_9_method_69_code 16 = .ok (.iload_n 1, 1) := by decide +kernel
theorem dd_M_back_17 : decode prog_9_method_69_code 17 = .ok (.baload, 1) := by decide +kernel
theorem dd_M_back_18 : decode prog_9_method_69_code 18 = .ok (.ifCond .ne 6, 3) := by decide +kernel
theorem dd_M_back_21 : decode prog_9_method_69_code 21 = .ok (.bipush (-2), 2) := by decide +kernel
theorem dd_M_back_23 : decode prog_9_method_69_code 23 = .ok (.ireturn, 1) := by decide +kernel
theorem dd_M_back_24 : decode prog_9_method_69_code 24 = .ok (.aload_n 0, 1) := by decide +kernel
theorem dd_M_back_25 : decode prog_9_method_69_code 25 = .ok (.bipush 44, 2) := by decide +kernel
theorem dd_M_back_27 : decode prog_9_method_69_code 27 = .ok (.iload_n 1, 1) := by decide +kernel
theorem dd_M_back_28 : decode prog_9_method_69_code 28 = .ok (.iconst 1, 1) := by decide +kernel
theorem dd_M_back_29 : decode prog_9_method_69_code 29 = .ok (.iadd, 1) := by decide +kernel
theorem dd_M_back_30 : decode prog_9_method_69_code 30 = .ok (.imul, 1) := by decide +kernel
theorem dd_M_back_31 : decode prog_9_method_69_code 31 = .ok (.iconst 0, 1) := by decide +kernel
theorem dd_M_back_32 : decode prog_9_method_69_code 32 = .ok (.invokevirtual 168, 3) := by decide +kernel
theorem dd_M_back_35 : decode prog_9_method_69_code 35 = .ok (.aload_n 0, 1) := by decide +kernel
theorem dd_M_back_36 : decode prog_9_method_69_code 36 = .ok (.getfield 7, 3) := by decide +kernel
theorem dd_M_back_39 : decode prog_9_method_69_code 39 = .ok (.bipush 43, 2) := by decide +kernel
theorem dd_M_back_41 : decode prog_9_method_69_code 41 = .ok (.iaload, 1) := by decide +kernel
theorem dd_M_back_42 : decode prog_9_method_69_code 42 = .ok (.ireturn, 1) := by decide +kernel
theorem dd_M_sheet_0 : decode prog_9_method_70_code 0 = .ok (.iload_n 1, 1) := by decide +kernel
theorem dd_M_sheet_1 : decode prog_9_method_70_code 1 = .ok (.i2l, 1) := by decide +kernel
theorem dd_M_sheet_2 : decode prog_9_method_70_code 2 = .ok (.lconst 0, 1) := by decide +kernel
theorem dd_M_sheet_3 : decode prog_9_method_70_code 3 = .ok (.ldc2_w 175, 3) := by decide +kernel
theorem dd_M_sheet_6 : decode prog_9_method_70_code 6 = .ok (.invokestatic 52, 3) := by decide +kernel
theorem dd_M_sheet_9 : decode prog_9_method_70_code 9 = .ok (.ifCond .eq 21, 3) := by decide +kernel
theorem dd_M_sheet_12 : decode prog_9_method_70_code 12 = .ok (.iload_n 2, 1) := by decide +kernel
theorem dd_M_sheet_13 : decode prog_9_method_70_code 13 = .ok (.i2l, 1) := by decide +kernel
theorem dd_M_sheet_14 : decode prog_9_method_70_code 14 = .ok (.lconst 0, 1) := by decide +kernel
theorem dd_M_sheet_15 : decode prog_9_method_70_code 15 = .ok (.ldc2_w 215, 3) := by decide +kernel
theorem dd_M_sheet_18 : decode prog_9_method_70_code 18 = .ok (.invokestatic 52, 3) := by decide +kernel
theorem dd_M_sheet_21 : decode prog_9_method_70_code 21 = .ok (.ifCond .eq 9, 3) := by decide +kernel
theorem dd_M_sheet_24 : decode prog_9_method_70_code 24 = .ok (.iload_n 3, 1) := by decide +kernel
theorem dd_M_sheet_25 : decode prog_9_method_70_code 25 = .ok (.bipush 40, 2) := by decide +kernel
theorem dd_M_sheet_27 : decode prog_9_method_70_code 27 = .ok (.if_icmp .le 5, 3) := by decide +kernel
theorem dd_M_sheet_30 : decode prog_9_method_70_code 30 = .ok (.iconst (-1), 1) := by decide +kernel
theorem dd_M_sheet_31 : decode prog_9_method_70_code 31 = .ok (.ireturn, 1) := by decide +kernel
theorem dd_M_sheet_32 : decode prog_9_method_70_code 32 = .ok (.iload_n 3, 1) := by decide +kernel
theorem dd_M_sheet_33 : decode prog_9_method_70_code 33 = .ok (.ifCond .ge 6, 3) := by decide +kernel
theorem dd_M_sheet_36 : decode prog_9_method_70_code 36 = .ok (.bipush (-14), 2) := by decide +kernel
theorem dd_M_sheet_38 : decode prog_9_method_70_code 38 = .ok (.ireturn, 1) := by decide +kernel
theorem dd_M_sheet_39 : decode prog_9_method_70_code 39 = .ok (.aload_n 0, 1) := by decide +kernel
theorem dd_M_sheet_40 : decode prog_9_method_70_code 40 = .ok (.getfield 41, 3) := by decide +kernel
theorem dd_M_sheet_43 : decode prog_9_method_70_code 43 = .ok (.iload_n 1, 1) := by decide +kernel
theorem dd_M_sheet_44 : decode prog_9_method_70_code 44 = .ok (.iload_n 2, 1) := by decide +kernel
theorem dd_M_sheet_45 : decode prog_9_method_70_code 45 = .ok (.iastore, 1) := by decide +kernel
theorem dd_M_sheet_46 : decode prog_9_method_70_code 46 = .ok (.aload_n 0, 1) := by decide +kernel
theorem dd_M_sheet_47 : decode prog_9_method_70_code 47 = .ok (.getfield 44, 3) := by decide +kernel
theorem dd_M_sheet_50 : decode prog_9_method_70_code 50 = .ok (.iload_n 1, 1) := by decide +kernel
theorem dd_M_sheet_51 : decode prog_9_method_70_code 51 = .ok (.iload_n 3, 1) := by decide +kernel
theorem dd_M_sheet_52 : decode prog_9_method_70_code 52 = .ok (.iastore, 1) := by decide +kernel
theorem dd_M_sheet_53 : decode prog_9_method_70_code 53 = .ok (.iconst 0, 1) := by decide +kernel
theorem dd_M_sheet_54 : decode prog_9_method_70_code 54 = .ok (.istore 4, 2) := by decide +kernel
theorem dd_M_sheet_56 : decode prog_9_method_70_code 56 = .ok (.iload 4, 2) := by decide +kernel
theorem dd_M_sheet_58 : decode prog_9_method_70_code 58 = .ok (.bipush 40, 2) := by decide +kernel
theorem dd_M_sheet_60 : decode prog_9_method_70_code 60 = .ok (.if_icmp .ge 22, 3) := by decide +kernel
theorem dd_M_sheet_63 : decode prog_9_method_70_code 63 = .ok (.aload_n 0, 1) := by decide +kernel
theorem dd_M_sheet_64 : decode prog_9_method_70_code 64 = .ok (.getfield 47, 3) := by decide +kernel
theorem dd_M_sheet_67 : decode prog_9_method_70_code 67 = .ok (.bipush 40, 2) := by decide +kernel
theorem dd_M_sheet_69 : decode prog_9_method_70_code 69 = .ok (.iload_n 1, 1) := by decide +kernel
theorem dd_M_sheet_70 : decode prog_9_method_70_code 70 = .ok (.imul, 1) := by decide +kernel
theorem dd_M_sheet_71 : decode prog_9_method_70_code 71 = .ok (.iload 4, 2) := by decide +kernel
theorem dd_M_sheet_73 : decode prog_9_method_70_code 73 = .ok (.iadd, 1) := by decide +kernel
theorem dd_M_sheet_74 : decode prog_9_method_70_code 74 = .ok (.iconst 0, 1) := by decide +kernel
theorem dd_M_sheet_75 : decode prog_9_method_70_code 75 = .ok (.iastore, 1) := by decide +kernel
theorem dd_M_sheet_76 : decode prog_9_method_70_code 76 = .ok (.iinc 4 1, 3) := by decide +kernel
theorem dd_M_sheet_79 : decode prog_9_method_70_code 79 = .ok (.goto (-23), 3) := by decide +kernel
theorem dd_M_sheet_82 : decode prog_9_method_70_code 82 = .ok (.iconst 1, 1) := by decide +kernel
theorem dd_M_sheet_83 : decode prog_9_method_70_code 83 = .ok (.ireturn, 1) := by decide +kernel
theorem dd_M_lay_0 : decode prog_9_method_71_code 0 = .ok (.iload_n 1, 1) := by decide +kernel
theorem dd_M_lay_1 : decode prog_9_method_71_code 1 = .ok (.i2l, 1) := by decide +kernel
theorem dd_M_lay_2 : decode prog_9_method_71_code 2 = .ok (.lconst 0, 1) := by decide +kernel
theorem dd_M_lay_3 : decode prog_9_method_71_code 3 = .ok (.ldc2_w 175, 3) := by decide +kernel
theorem dd_M_lay_6 : decode prog_9_method_71_code 6 = .ok (.invokestatic 52, 3) := by decide +kernel
theorem dd_M_lay_9 : decode prog_9_method_71_code 9 = .ok (.ifCond .ne 5, 3) := by decide +kernel
theorem dd_M_lay_12 : decode prog_9_method_71_code 12 = .ok (.iconst (-1), 1) := by decide +kernel
theorem dd_M_lay_13 : decode prog_9_method_71_code 13 = .ok (.ireturn, 1) := by decide +kernel
theorem dd_M_lay_14 : decode prog_9_method_71_code 14 = .ok (.aload_n 0, 1) := by decide +kernel
theorem dd_M_lay_15 : decode prog_9_method_71_code 15 = .ok (.getfield 41, 3) := by decide +kernel
theorem dd_M_lay_18 : decode prog_9_method_71_code 18 = .ok (.iload_n 1, 1) := by decide +kernel
theorem dd_M_lay_19 : decode prog_9_method_71_code 19 = .ok (.iaload, 1) := by decide +kernel
theorem dd_M_lay_20 : decode prog_9_method_71_code 20 = .ok (.bipush (-4), 2) := by decide +kernel
theorem dd_M_lay_22 : decode prog_9_method_71_code 22 = .ok (.if_icmp .ne 6, 3) := by decide +kernel
theorem dd_M_lay_25 : decode prog_9_method_71_code 25 = .ok (.bipush (-11), 2) := by decide +kernel
theorem dd_M_lay_27 : decode prog_9_method_71_code 27 = .ok (.ireturn, 1) := by decide +kernel
theorem dd_M_lay_28 : decode prog_9_method_71_code 28 = .ok (.iload_n 2, 1) := by decide +kernel
theorem dd_M_lay_29 : decode prog_9_method_71_code 29 = .ok (.i2l, 1) := by decide +kernel
theorem dd_M_lay_30 : decode prog_9_method_71_code 30 = .ok (.lconst 0, 1) := by decide +kernel
theorem dd_M_lay_31 : decode prog_9_method_71_code 31 = .ok (.aload_n 0, 1) := by decide +kernel
theorem dd_M_lay_32 : decode prog_9_method_71_code 32 = .ok (.getfield 44, 3) := by decide +kernel
theorem dd_M_lay_35 : decode prog_9_method_71_code 35 = .ok (.iload_n 1, 1) := by decide +kernel
theorem dd_M_lay_36 : decode prog_9_method_71_code 36 = .ok (.iaload, 1) := by decide +kernel
theorem dd_M_lay_37 : decode prog_9_method_71_code 37 = .ok (.iconst 1, 1) := by decide +kernel
theorem dd_M_lay_38 : decode prog_9_method_71_code 38 = .ok (.isub, 1) := by decide +kernel
theorem dd_M_lay_39 : decode prog_9_method_71_code 39 = .ok (.i2l, 1) := by decide +kernel
theorem dd_M_lay_40 : decode prog_9_method_71_code 40 = .ok (.invokestatic 52, 3) := by decide +kernel
theorem dd_M_lay_43 : decode prog_9_method_71_code 43 = .ok (.ifCond .ne 6, 3) := by decide +kernel
theorem dd_M_lay_46 : decode prog_9_method_71_code 46 = .ok (.bipush (-12), 2) := by decide +kernel
theorem dd_M_lay_48 : decode prog_9_method_71_code 48 = .ok (.ireturn, 1) := by decide +kernel
theorem dd_M_lay_49 : decode prog_9_method_71_code 49 = .ok (.aload_n 0, 1) := by decide +kernel
theorem dd_M_lay_50 : decode prog_9_method_71_code 50 = .ok (.getfield 47, 3) := by decide +kernel
theorem dd_M_lay_53 : decode prog_9_method_71_code 53 = .ok (.bipush 40, 2) := by decide +kernel
theorem dd_M_lay_55 : decode prog_9_method_71_code 55 = .ok (.iload_n 1, 1) := by decide +kernel
theorem dd_M_lay_56 : decode prog_9_method_71_code 56 = .ok (.imul, 1) := by decide +kernel
theorem dd_M_lay_57 : decode prog_9_method_71_code 57 = .ok (.iload_n 2, 1) := by decide +kernel
theorem dd_M_lay_58 : decode prog_9_method_71_code 58 = .ok (.iadd, 1) := by decide +kernel
theorem dd_M_lay_59 : decode prog_9_method_71_code 59 = .ok (.aload_n 0, 1) := by decide +kernel
theorem dd_M_lay_60 : decode prog_9_method_71_code 60 = .ok (.getfield 41, 3) := by decide +kernel
theorem dd_M_lay_63 : decode prog_9_method_71_code 63 = .ok (.iload_n 1, 1) := by decide +kernel
theorem dd_M_lay_64 : decode prog_9_method_71_code 64 = .ok (.iaload, 1) := by decide +kernel
theorem dd_M_lay_65 : decode prog_9_method_71_code 65 = .ok (.ifCond .ne 13, 3) := by decide +kernel
theorem dd_M_lay_68 : decode prog_9_method_71_code 68 = .ok (.iload_n 3, 1) := by decide +kernel
theorem dd_M_lay_69 : decode prog_9_method_71_code 69 = .ok (.bipush 24, 2) := by decide +kernel
theorem dd_M_lay_71 : decode prog_9_method_71_code 71 = .ok (.ishl, 1) := by decide +kernel
theorem dd_M_lay_72 : decode prog_9_method_71_code 72 = .ok (.bipush 24, 2) := by decide +kernel
theorem dd_M_lay_74 : decode prog_9_method_71_code 74 = .ok (.ishr, 1) := by decide +kernel
theorem dd_M_lay_75 : decode prog_9_method_71_code 75 = .ok (.goto 24, 3) := by decide +kernel
theorem dd_M_lay_78 : decode prog_9_method_71_code 78 = .ok (.aload_n 0, 1) := by decide +kernel
theorem dd_M_lay_79 : decode prog_9_method_71_code 79 = .ok (.getfield 41, 3) := by decide +kernel
theorem dd_M_lay_82 : decode prog_9_method_71_code 82 = .ok (.iload_n 1, 1) := by decide +kernel
theorem dd_M_lay_83 : decode prog_9_method_71_code 83 = .ok (.iaload, 1) := by decide +kernel
theorem dd_M_lay_84 : decode prog_9_method_71_code 84 = .ok (.iconst 1, 1) := by decide +kernel
theorem dd_M_lay_85 : decode prog_9_method_71_code 85 = .ok (.if_icmp .ne 13, 3) := by decide +kernel
theorem dd_M_lay_88 : decode prog_9_method_71_code 88 = .ok (.iload_n 3, 1) := by decide +kernel
theorem dd_M_lay_89 : decode prog_9_method_71_code 89 = .ok (.bipush 16, 2) := by decide +kernel
theorem dd_M_lay_91 : decode prog_9_method_71_code 91 = .ok (.ishl, 1) := by decide +kernel
theorem dd_M_lay_92 : decode prog_9_method_71_code 92 = .ok (.bipush 16, 2) := by decide +kernel
theorem dd_M_lay_94 : decode prog_9_method_71_code 94 = .ok (.ishr, 1) := by decide +kernel
theorem dd_M_lay_95 : decode prog_9_method_71_code 95 = .ok (.goto 4, 3) := by decide +kernel
theorem dd_M_lay_98 : decode prog_9_method_71_code 98 = .ok (.iload_n 3, 1) := by decide +kernel
theorem dd_M_lay_99 : decode prog_9_method_71_code 99 = .ok (.iastore, 1) := by decide +kernel
theorem dd_M_lay_100 : decode prog_9_method_71_code 100 = .ok (.iconst 1, 1) := by decide +kernel
theorem dd_M_lay_101 : decode prog_9_method_71_code 101 = .ok (.ireturn, 1) := by decide +kernel
theorem dd_M_read_0 : decode prog_9_method_72_code 0 = .ok (.iload_n 1, 1) := by decide +kernel
theorem dd_M_read_1 : decode prog_9_method_72_code 1 = .ok (.i2l, 1) := by decide +kernel
theorem dd_M_read_2 : decode prog_9_method_72_code 2 = .ok (.lconst 0, 1) := by decide +kernel
theorem dd_M_read_3 : decode prog_9_method_72_code 3 = .ok (.ldc2_w 175, 3) := by decide +kernel
theorem dd_M_read_6 : decode prog_9_method_72_code 6 = .ok (.invokestatic 52, 3) := by decide +kernel
theorem dd_M_read_9 : decode prog_9_method_72_code 9 = .ok (.ifCond .eq 28, 3) := by decide +kernel
theorem dd_M_read_12 : decode prog_9_method_72_code 12 = .ok (.iload_n 2, 1) := by decide +kernel
theorem dd_M_read_13 : decode prog_9_method_72_code 13 = .ok (.i2l, 1) := by decide +kernel
theorem dd_M_read_14 : decode prog_9_method_72_code 14 = .ok (.lconst 0, 1) := by decide +kernel
theorem dd_M_read_15 : decode prog_9_method_72_code 15 = .ok (.ldc2_w 215, 3) := by decide +kernel
theorem dd_M_read_18 : decode prog_9_method_72_code 18 = .ok (.invokestatic 52, 3) := by decide +kernel
theorem dd_M_read_21 : decode prog_9_method_72_code 21 = .ok (.ifCond .eq 16, 3) := by decide +kernel
theorem dd_M_read_24 : decode prog_9_method_72_code 24 = .ok (.iload 4, 2) := by decide +kernel
theorem dd_M_read_26 : decode prog_9_method_72_code 26 = .ok (.i2l, 1) := by decide +kernel
theorem dd_M_read_27 : decode prog_9_method_72_code 27 = .ok (.lconst 0, 1) := by decide +kernel
theorem dd_M_read_28 : decode prog_9_method_72_code 28 = .ok (.ldc2_w 239, 3) := by decide +kernel
theorem dd_M_read_31 : decode prog_9_method_72_code 31 = .ok (.invokestatic 52, 3) := by decide +kernel
theorem dd_M_read_34 : decode prog_9_method_72_code 34 = .ok (.ifCond .ne 5, 3) := by decide +kernel
theorem dd_M_read_37 : decode prog_9_method_72_code 37 = .ok (.iconst (-1), 1) := by decide +kernel
theorem dd_M_read_38 : decode prog_9_method_72_code 38 = .ok (.ireturn, 1) := by decide +kernel
theorem dd_M_read_39 : decode prog_9_method_72_code 39 = .ok (.aload_n 0, 1) := by decide +kernel
theorem dd_M_read_40 : decode prog_9_method_72_code 40 = .ok (.iconst 0, 1) := by decide +kernel
theorem dd_M_read_41 : decode prog_9_method_72_code 41 = .ok (.sipush 132, 3) := by decide +kernel
theorem dd_M_read_44 : decode prog_9_method_72_code 44 = .ok (.invokevirtual 168, 3) := by decide +kernel
theorem dd_M_read_47 : decode prog_9_method_72_code 47 = .ok (.iconst 0, 1) := by decide +kernel
theorem dd_M_read_48 : decode prog_9_method_72_code 48 = .ok (.istore 5, 2) := by decide +kernel
theorem dd_M_read_50 : decode prog_9_method_72_code 50 = .ok (.iconst 0, 1) := by decide +kernel
theorem dd_M_read_51 : decode prog_9_method_72_code 51 = .ok (.istore 6, 2) := by decide +kernel
theorem dd_M_read_53 : decode prog_9_method_72_code 53 = .ok (.iconst 0, 1) := by decide +kernel
theorem dd_M_read_54 : decode prog_9_method_72_code 54 = .ok (.istore 7, 2) := by decide +kernel
theorem dd_M_read_56 : decode prog_9_method_72_code 56 = .ok (.iload 7, 2) := by decide +kernel
theorem dd_M_read_58 : decode prog_9_method_72_code 58 = .ok (.iconst 3, 1) := by decide +kernel
theorem dd_M_read_59 : decode prog_9_method_72_code 59 = .ok (.iload 4, 2) := by decide +kernel
theorem dd_M_read_61 : decode prog_9_method_72_code 61 = .ok (.imul, 1) := by decide +kernel
theorem dd_M_read_62 : decode prog_9_method_72_code 62 = .ok (.if_icmp .ge 145, 3) := by decide +kernel
theorem dd_M_read_65 : decode prog_9_method_72_code 65 = .ok (.iload 5, 2) := by decide +kernel
theorem dd_M_read_67 : decode prog_9_method_72_code 67 = .ok (.ifCond .ne 140, 3) := by decide +kernel
theorem dd_M_read_70 : decode prog_9_method_72_code 70 = .ok (.aload_n 0, 1) := by decide +kernel
theorem dd_M_read_71 : decode prog_9_method_72_code 71 = .ok (.getfield 41, 3) := by decide +kernel
theorem dd_M_read_74 : decode prog_9_method_72_code 74 = .ok (.iload_n 1, 1) := by decide +kernel
theorem dd_M_read_75 : decode prog_9_method_72_code 75 = .ok (.iaload, 1) := by decide +kernel
theorem dd_M_read_76 : decode prog_9_method_72_code 76 = .ok (.bipush (-4), 2) := by decide +kernel
theorem dd_M_read_78 : decode prog_9_method_72_code 78 = .ok (.if_icmp .ne 7, 3) := by decide +kernel
theorem dd_M_read_81 : decode prog_9_method_72_code 81 = .ok (.iconst 1, 1) := by decide +kernel
theorem dd_M_read_82 : decode prog_9_method_72_code 82 = .ok (.goto 44, 3) := by decide +kernel
theorem dd_M_read_85 : decode prog_9_method_72_code 85 = .ok (.aload_n 0, 1) := by decide +kernel
theorem dd_M_read_86 : decode prog_9_method_72_code 86 = .ok (.getfield 41, 3) := by decide +kernel
theorem dd_M_read_89 : decode prog_9_method_72_code 89 = .ok (.iload_n 1, 1) := by decide +kernel
theorem dd_M_read_90 : decode prog_9_method_72_code 90 = .ok (.iaload, 1) := by decide +kernel
theorem dd_M_read_91 : decode prog_9_method_72_code 91 = .ok (.iload_n 2, 1) := by decide +kernel
theorem dd_M_read_92 : decode prog_9_method_72_code 92 = .ok (.if_icmp .eq 7, 3) := by decide +kernel
theorem dd_M_read_95 : decode prog_9_method_72_code 95 = .ok (.iconst 3, 1) := by decide +kernel
theorem dd_M_read_96 : decode prog_9_method_72_code 96 = .ok (.goto 30, 3) := by decide +kernel
theorem dd_M_read_99 : decode prog_9_method_72_code 99 = .ok (.iload_n 3, 1) := by decide +kernel
theorem dd_M_read_100 : decode prog_9_method_72_code 100 = .ok (.i2l, 1) := by decide +kernel
theorem dd_M_read_101 : decode prog_9_method_72_code 101 = .ok (.iload 7, 2) := by decide +kernel
theorem dd_M_read_103 : decode prog_9_method_72_code 103 = .ok (.i2l, 1) := by decide +kernel
theorem dd_M_read_104 : decode prog_9_method_72_code 104 = .ok (.ladd, 1) := by decide +kernel
theorem dd_M_read_105 : decode prog_9_method_72_code 105 = .ok (.lconst 0, 1) := by decide +kernel
theorem dd_M_read_106 : decode prog_9_method_72_code 106 = .ok (.aload_n 0, 1) := by decide +kernel
theorem dd_M_read_107 : decode prog_9_method_72_code 107 = .ok (.getfield 44, 3) := by decide +kernel
theorem dd_M_read_110 : decode prog_9_method_72_code 110 = .ok (.iload_n 1, 1) := by decide +kernel
theorem dd_M_read_111 : decode prog_9_method_72_code 111 = .ok (.iaload, 1) := by decide +kernel
theorem dd_M_read_112 : decode prog_9_method_72_code 112 = .ok (.iconst 1, 1) := by decide +kernel
theorem dd_M_read_113 : decode prog_9_method_72_code 113 = .ok (.isub, 1) := by decide +kernel
theorem dd_M_read_114 : decode prog_9_method_72_code 114 = .ok (.i2l, 1) := by decide +kernel
theorem dd_M_read_115 : decode prog_9_method_72_code 115 = .ok (.invokestatic 52, 3) := by decide +kernel
theorem dd_M_read_118 : decode prog_9_method_72_code 118 = .ok (.ifCond .ne 7, 3) := by decide +kernel
theorem dd_M_read_121 : decode prog_9_method_72_code 121 = .ok (.iconst 2, 1) := by decide +kernel
theorem dd_M_read_122 : decode prog_9_method_72_code 122 = .ok (.goto 4, 3) := by decide +kernel
theorem dd_M_read_125 : decode prog_9_method_72_code 125 = .ok (.iconst 0, 1) := by decide +kernel
theorem dd_M_read_126 : decode prog_9_method_72_code 126 = .ok (.istore 5, 2) := by decide +kernel
theorem dd_M_read_128 : decode prog_9_method_72_code 128 = .ok (.iload 5, 2) := by decide +kernel
theorem dd_M_read_130 : decode prog_9_method_72_code 130 = .ok (.ifCond .ne 71, 3) := by decide +kernel
theorem dd_M_read_133 : decode prog_9_method_72_code 133 = .ok (.iload 7, 2) := by decide +kernel
theorem dd_M_read_135 : decode prog_9_method_72_code 135 = .ok (.iconst 3, 1) := by decide +kernel
theorem dd_M_read_136 : decode prog_9_method_72_code 136 = .ok (.irem, 1) := by decide +kernel
theorem dd_M_read_137 : decode prog_9_method_72_code 137 = .ok (.iconst 2, 1) := by decide +kernel
theorem dd_M_read_138 : decode prog_9_method_72_code 138 = .ok (.if_icmp .ne 63, 3) := by decide +kernel
theorem dd_M_read_141 : decode prog_9_method_72_code 141 = .ok (.bipush 40, 2) := by decide +kernel
theorem dd_M_read_143 : decode prog_9_method_72_code 143 = .ok (.iload_n 1, 1) := by decide +kernel
theorem dd_M_read_144 : decode prog_9_method_72_code 144 = .ok (.imul, 1) := by decide +kernel
theorem dd_M_read_145 : decode prog_9_method_72_code 145 = .ok (.iload_n 3, 1) := by decide +kernel
theorem dd_M_read_146 : decode prog_9_method_72_code 146 = .ok (.iadd, 1) := by decide +kernel
theorem dd_M_read_147 : decode prog_9_method_72_code 147 = .ok (.iload 7, 2) := by decide +kernel
theorem dd_M_read_149 : decode prog_9_method_72_code 149 = .ok (.iadd, 1) := by decide +kernel
theorem dd_M_read_150 : decode prog_9_method_72_code 150 = .ok (.istore 8, 2) := by decide +kernel
theorem dd_M_read_152 : decode prog_9_method_72_code 152 = .ok (.aload_n 0, 1) := by decide +kernel
theorem dd_M_read_153 : decode prog_9_method_72_code 153 = .ok (.aload_n 0, 1) := by decide +kernel
theorem dd_M_read_154 : decode prog_9_method_72_code 154 = .ok (.getfield 47, 3) := by decide +kernel
theorem dd_M_read_157 : decode prog_9_method_72_code 157 = .ok (.iload 8, 2) := by decide +kernel
theorem dd_M_read_159 : decode prog_9_method_72_code 159 = .ok (.iconst 2, 1) := by decide +kernel
theorem dd_M_read_160 : decode prog_9_method_72_code 160 = .ok (.isub, 1) := by decide +kernel
theorem dd_M_read_161 : decode prog_9_method_72_code 161 = .ok (.iaload, 1) := by decide +kernel
theorem dd_M_read_162 : decode prog_9_method_72_code 162 = .ok (.aload_n 0, 1) := by decide +kernel
theorem dd_M_read_163 : decode prog_9_method_72_code 163 = .ok (.getfield 47, 3) := by decide +kernel
theorem dd_M_read_166 : decode prog_9_method_72_code 166 = .ok (.iload 8, 2) := by decide +kernel
theorem dd_M_read_168 : decode prog_9_method_72_code 168 = .ok (.iconst 1, 1) := by decide +kernel
theorem dd_M_read_169 : decode prog_9_method_72_code 169 = .ok (.isub, 1) := by decide +kernel
theorem dd_M_read_170 : decode prog_9_method_72_code 170 = .ok (.iaload, 1) := by decide +kernel
theorem dd_M_read_171 : decode prog_9_method_72_code 171 = .ok (.aload_n 0, 1) := by decide +kernel
theorem dd_M_read_172 : decode prog_9_method_72_code 172 = .ok (.getfield 47, 3) := by decide +kernel
theorem dd_M_read_175 : decode prog_9_method_72_code 175 = .ok (.iload 8, 2) := by decide +kernel
theorem dd_M_read_177 : decode prog_9_method_72_code 177 = .ok (.iaload, 1) := by decide +kernel
theorem dd_M_read_178 : decode prog_9_method_72_code 178 = .ok (.invokevirtual 196, 3) := by decide +kernel
theorem dd_M_read_181 : decode prog_9_method_72_code 181 = .ok (.ifCond .ge 17, 3) := by decide +kernel
theorem dd_M_read_184 : decode prog_9_method_72_code 184 = .ok (.aload_n 0, 1) := by decide +kernel
theorem dd_M_read_185 : decode prog_9_method_72_code 185 = .ok (.sipush 132, 3) := by decide +kernel
theorem dd_M_read_188 : decode prog_9_method_72_code 188 = .ok (.iconst 0, 1) := by decide +kernel
theorem dd_M_read_189 : decode prog_9_method_72_code 189 = .ok (.invokevirtual 168, 3) := by decide +kernel
theorem dd_M_read_192 : decode prog_9_method_72_code 192 = .ok (.bipush (-20), 2) := by decide +kernel
theorem dd_M_read_194 : decode prog_9_method_72_code 194 = .ok (.iload 6, 2) := by decide +kernel
theorem dd_M_read_196 : decode prog_9_method_72_code 196 = .ok (.isub, 1) := by decide +kernel
theorem dd_M_read_197 : decode prog_9_method_72_code 197 = .ok (.ireturn, 1) := by decide +kernel
theorem dd_M_read_198 : decode prog_9_method_72_code 198 = .ok (.iinc 6 1, 3) := by decide +kernel
theorem dd_M_read_201 : decode prog_9_method_72_code 201 = .ok (.iinc 7 1, 3) := by decide +kernel
theorem dd_M_read_204 : decode prog_9_method_72_code 204 = .ok (.goto (-148), 3) := by decide +kernel
theorem dd_M_read_207 : decode prog_9_method_72_code 207 = .ok (.aload_n 0, 1) := by decide +kernel
theorem dd_M_read_208 : decode prog_9_method_72_code 208 = .ok (.iload 5, 2) := by decide +kernel
theorem dd_M_read_210 : decode prog_9_method_72_code 210 = .ok (.putfield 241, 3) := by decide +kernel
theorem dd_M_read_213 : decode prog_9_method_72_code 213 = .ok (.iload 6, 2) := by decide +kernel
theorem dd_M_read_215 : decode prog_9_method_72_code 215 = .ok (.ireturn, 1) := by decide +kernel
theorem dd_M_torn_0 : decode prog_9_method_73_code 0 = .ok (.aload_n 0, 1) := by decide +kernel
theorem dd_M_torn_1 : decode prog_9_method_73_code 1 = .ok (.getfield 241, 3) := by decide +kernel
theorem dd_M_torn_4 : decode prog_9_method_73_code 4 = .ok (.ireturn, 1) := by decide +kernel
theorem dd_M_count_0 : decode prog_9_method_74_code 0 = .ok (.iconst 0, 1) := by decide +kernel
theorem dd_M_count_1 : decode prog_9_method_74_code 1 = .ok (.istore_n 2, 1) := by decide +kernel
theorem dd_M_count_2 : decode prog_9_method_74_code 2 = .ok (.iconst 0, 1) := by decide +kernel
theorem dd_M_count_3 : decode prog_9_method_74_code 3 = .ok (.istore_n 3, 1) := by decide +kernel
theorem dd_M_count_4 : decode prog_9_method_74_code 4 = .ok (.iconst 0, 1) := by decide +kernel
theorem dd_M_count_5 : decode prog_9_method_74_code 5 = .ok (.istore 4, 2) := by decide +kernel
theorem dd_M_count_7 : decode prog_9_method_74_code 7 = .ok (.iload 4, 2) := by decide +kernel
theorem dd_M_count_9 : decode prog_9_method_74_code 9 = .ok (.aload_n 0, 1) := by decide +kernel
theorem dd_M_count_10 : decode prog_9_method_74_code 10 = .ok (.getfield 7, 3) := by decide +kernel
theorem dd_M_count_13 : decode prog_9_method_74_code 13 = .ok (.bipush 32, 2) := by decide +kernel
theorem dd_M_count_15 : decode prog_9_method_74_code 15 = .ok (.iaload, 1) := by decide +kernel
theorem dd_M_count_16 : decode prog_9_method_74_code 16 = .ok (.if_icmp .ge 22, 3) := by decide +kernel
theorem dd_M_count_19 : decode prog_9_method_74_code 19 = .ok (.iload_n 2, 1) := by decide +kernel
theorem dd_M_count_20 : decode prog_9_method_74_code 20 = .ok (.aload_n 0, 1) := by decide +kernel
theorem dd_M_count_21 : decode prog_9_method_74_code 21 = .ok (.getfield 7, 3) := by decide +kernel
theorem dd_M_count_24 : decode prog_9_method_74_code 24 = .ok (.bipush 16, 2) := by decide +kernel
theorem dd_M_count_26 : decode prog_9_method_74_code 26 = .ok (.iload 4, 2) := by decide +kernel
theorem dd_M_count_28 : decode prog_9_method_74_code 28 = .ok (.iadd, 1) := by decide +kernel
theorem dd_M_count_29 : decode prog_9_method_74_code 29 = .ok (.iaload, 1) := by decide +kernel
theorem dd_M_count_30 : decode prog_9_method_74_code 30 = .ok (.iadd, 1) := by decide +kernel
theorem dd_M_count_31 : decode prog_9_method_74_code 31 = .ok (.istore_n 2, 1) := by decide +kernel
theorem dd_M_count_32 : decode prog_9_method_74_code 32 = .ok (.iinc 4 1, 3) := by decide +kernel
theorem dd_M_count_35 : decode prog_9_method_74_code 35 = .ok (.goto (-28), 3) := by decide +kernel
theorem dd_M_count_38 : decode prog_9_method_74_code 38 = .ok (.iconst 0, 1) := by decide +kernel
theorem dd_M_count_39 : decode prog_9_method_74_code 39 = .ok (.istore 4, 2) := by decide +kernel
theorem dd_M_count_41 : decode prog_9_method_74_code 41 = .ok (.iload 4, 2) := by decide +kernel
theorem dd_M_count_43 : decode prog_9_method_74_code 43 = .ok (.aload_n 0, 1) := by decide +kernel
theorem dd_M_count_44 : decode prog_9_method_74_code 44 = .ok (.getfield 122, 3) := by decide +kernel
theorem dd_M_count_47 : decode prog_9_method_74_code 47 = .ok (.if_icmp .ge 22, 3) := by decide +kernel
theorem dd_M_count_50 : decode prog_9_method_74_code 50 = .ok (.iload_n 3, 1) := by decide +kernel
theorem dd_M_count_51 : decode prog_9_method_74_code 51 = .ok (.aload_n 0, 1) := by decide +kernel
theorem dd_M_count_52 : decode prog_9_method_74_code 52 = .ok (.getfield 7, 3) := by decide +kernel
theorem dd_M_count_55 : decode prog_9_method_74_code 55 = .ok (.bipush 33, 2) := by decide +kernel
theorem dd_M_count_57 : decode prog_9_method_74_code 57 = .ok (.iload 4, 2) := by decide +kernel
theorem dd_M_count_59 : decode prog_9_method_74_code 59 = .ok (.iadd, 1) := by decide +kernel
theorem dd_M_count_60 : decode prog_9_method_74_code 60 = .ok (.iaload, 1) := by decide +kernel
theorem dd_M_count_61 : decode prog_9_method_74_code 61 = .ok (.iadd, 1) := by decide +kernel
theorem dd_M_count_62 : decode prog_9_method_74_code 62 = .ok (.istore_n 3, 1) := by decide +kernel
theorem dd_M_count_63 : decode prog_9_method_74_code 63 = .ok (.iinc 4 1, 3) := by decide +kernel
theorem dd_M_count_66 : decode prog_9_method_74_code 66 = .ok (.goto (-25), 3) := by decide +kernel
theorem dd_M_count_69 : decode prog_9_method_74_code 69 = .ok (.iload_n 1, 1) := by decide +kernel
theorem dd_M_count_70 : decode prog_9_method_74_code 70 = .ok (.tableswitch 105 0 5 #[38, 43, 73, 78, 101, 103], 38) := by decide +kernel
theorem dd_M_count_108 : decode prog_9_method_74_code 108 = .ok (.aload_n 0, 1) := by decide +kernel
theorem dd_M_count_109 : decode prog_9_method_74_code 109 = .ok (.getfield 125, 3) := by decide +kernel
theorem dd_M_count_112 : decode prog_9_method_74_code 112 = .ok (.ireturn, 1) := by decide +kernel
theorem dd_M_count_113 : decode prog_9_method_74_code 113 = .ok (.aload_n 0, 1) := by decide +kernel
theorem dd_M_count_114 : decode prog_9_method_74_code 114 = .ok (.getfield 37, 3) := by decide +kernel
theorem dd_M_count_117 : decode prog_9_method_74_code 117 = .ok (.iconst 0, 1) := by decide +kernel
theorem dd_M_count_118 : decode prog_9_method_74_code 118 = .ok (.baload, 1) := by decide +kernel
theorem dd_M_count_119 : decode prog_9_method_74_code 119 = .ok (.ifCond .eq 7, 3) := by decide +kernel
theorem dd_M_count_122 : decode prog_9_method_74_code 122 = .ok (.iconst 1, 1) := by decide +kernel
theorem dd_M_count_123 : decode prog_9_method_74_code 123 = .ok (.goto 4, 3) := by decide +kernel
theorem dd_M_count_126 : decode prog_9_method_74_code 126 = .ok (.iconst 0, 1) := by decide +kernel
theorem dd_M_count_127 : decode prog_9_method_74_code 127 = .ok (.aload_n 0, 1) := by decide +kernel
theorem dd_M_count_128 : decode prog_9_method_74_code 128 = .ok (.getfield 37, 3) := by decide +kernel
theorem dd_M_count_131 : decode prog_9_method_74_code 131 = .ok (.iconst 1, 1) := by decide +kernel
theorem dd_M_count_132 : decode prog_9_method_74_code 132 = .ok (.baload, 1) := by decide +kernel
theorem dd_M_count_133 : decode prog_9_method_74_code 133 = .ok (.ifCond .eq 7, 3) := by decide +kernel
theorem dd_M_count_136 : decode prog_9_method_74_code 136 = .ok (.iconst 1, 1) := by decide +kernel
theorem dd_M_count_137 : decode prog_9_method_74_code 137 = .ok (.goto 4, 3) := by decide +kernel
theorem dd_M_count_140 : decode prog_9_method_74_code 140 = .ok (.iconst 0, 1) := by decide +kernel
theorem dd_M_count_141 : decode prog_9_method_74_code 141 = .ok (.iadd, 1) := by decide +kernel
theorem dd_M_count_142 : decode prog_9_method_74_code 142 = .ok (.ireturn, 1) := by decide +kernel
theorem dd_M_count_143 : decode prog_9_method_74_code 143 = .ok (.aload_n 0, 1) := by decide +kernel
theorem dd_M_count_144 : decode prog_9_method_74_code 144 = .ok (.getfield 56, 3) := by decide +kernel
theorem dd_M_count_147 : decode prog_9_method_74_code 147 = .ok (.ireturn, 1) := by decide +kernel
theorem dd_M_count_148 : decode prog_9_method_74_code 148 = .ok (.aload_n 0, 1) := by decide +kernel
theorem dd_M_count_149 : decode prog_9_method_74_code 149 = .ok (.getfield 41, 3) := by decide +kernel
theorem dd_M_count_152 : decode prog_9_method_74_code 152 = .ok (.iconst 0, 1) := by decide +kernel
theorem dd_M_count_153 : decode prog_9_method_74_code 153 = .ok (.iaload, 1) := by decide +kernel
theorem dd_M_count_154 : decode prog_9_method_74_code 154 = .ok (.bipush (-4), 2) := by decide +kernel
theorem dd_M_count_156 : decode prog_9_method_74_code 156 = .ok (.if_icmp .ne 8, 3) := by decide +kernel
theorem dd_M_count_159 : decode prog_9_method_74_code 159 = .ok (.bipush (-4), 2) := by decide +kernel
theorem dd_M_count_161 : decode prog_9_method_74_code 161 = .ok (.goto 9, 3) := by decide +kernel
theorem dd_M_count_164 : decode prog_9_method_74_code 164 = .ok (.aload_n 0, 1) := by decide +kernel
theorem dd_M_count_165 : decode prog_9_method_74_code 165 = .ok (.getfield 44, 3) := by decide +kernel
theorem dd_M_count_168 : decode prog_9_method_74_code 168 = .ok (.iconst 0, 1) := by decide +kernel
theorem dd_M_count_169 : decode prog_9_method_74_code 169 = .ok (.iaload, 1) := by decide +kernel
theorem dd_M_count_170 : decode prog_9_method_74_code 170 = .ok (.ireturn, 1) := by decide +kernel
theorem dd_M_count_171 : decode prog_9_method_74_code 171 = .ok (.iload_n 2, 1) := by decide +kernel
theorem dd_M_count_172 : decode prog_9_method_74_code 172 = .ok (.ireturn, 1) := by decide +kernel
theorem dd_M_count_173 : decode prog_9_method_74_code 173 = .ok (.iload_n 3, 1) := by decide +kernel
theorem dd_M_count_174 : decode prog_9_method_74_code 174 = .ok (.ireturn, 1) := by decide +kernel
theorem dd_M_count_175 : decode prog_9_method_74_code 175 = .ok (.iconst (-1), 1) := by decide +kernel
theorem dd_M_count_176 : decode prog_9_method_74_code 176 = .ok (.ireturn, 1) := by decide +kernel
