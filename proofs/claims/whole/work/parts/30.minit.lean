theorem d10_init_0 : decode c10_init 0 = .ok (.aload_n 0, 1) := by decide +kernel
theorem d10_init_1 : decode c10_init 1 = .ok (.invokespecial 7, 3) := by decide +kernel
theorem d10_init_4 : decode c10_init 4 = .ok (.aload_n 0, 1) := by decide +kernel
theorem d10_init_5 : decode c10_init 5 = .ok (.bipush 52, 2) := by decide +kernel
theorem d10_init_7 : decode c10_init 7 = .ok (.newarray .int, 2) := by decide +kernel
theorem d10_init_9 : decode c10_init 9 = .ok (.dup, 1) := by decide +kernel
theorem d10_init_10 : decode c10_init 10 = .ok (.iconst 0, 1) := by decide +kernel
theorem d10_init_11 : decode c10_init 11 = .ok (.iconst 0, 1) := by decide +kernel
theorem d10_init_12 : decode c10_init 12 = .ok (.iastore, 1) := by decide +kernel
theorem d10_init_13 : decode c10_init 13 = .ok (.dup, 1) := by decide +kernel
theorem d10_init_14 : decode c10_init 14 = .ok (.iconst 1, 1) := by decide +kernel
theorem d10_init_15 : decode c10_init 15 = .ok (.iconst 4, 1) := by decide +kernel
theorem d10_init_16 : decode c10_init 16 = .ok (.iastore, 1) := by decide +kernel
theorem d10_init_17 : decode c10_init 17 = .ok (.dup, 1) := by decide +kernel
theorem d10_init_18 : decode c10_init 18 = .ok (.iconst 2, 1) := by decide +kernel
theorem d10_init_19 : decode c10_init 19 = .ok (.bipush 7, 2) := by decide +kernel
theorem d10_init_21 : decode c10_init 21 = .ok (.iastore, 1) := by decide +kernel
theorem d10_init_22 : decode c10_init 22 = .ok (.dup, 1) := by decide +kernel
theorem d10_init_23 : decode c10_init 23 = .ok (.iconst 3, 1) := by decide +kernel
theorem d10_init_24 : decode c10_init 24 = .ok (.iconst (-1), 1) := by decide +kernel
theorem d10_init_25 : decode c10_init 25 = .ok (.iastore, 1) := by decide +kernel
theorem d10_init_26 : decode c10_init 26 = .ok (.dup, 1) := by decide +kernel
theorem d10_init_27 : decode c10_init 27 = .ok (.iconst 4, 1) := by decide +kernel
theorem d10_init_28 : decode c10_init 28 = .ok (.iconst 2, 1) := by decide +kernel
theorem d10_init_29 : decode c10_init 29 = .ok (.iastore, 1) := by decide +kernel
theorem d10_init_30 : decode c10_init 30 = .ok (.dup, 1) := by decide +kernel
theorem d10_init_31 : decode c10_init 31 = .ok (.iconst 5, 1) := by decide +kernel
theorem d10_init_32 : decode c10_init 32 = .ok (.iconst 5, 1) := by decide +kernel
theorem d10_init_33 : decode c10_init 33 = .ok (.iastore, 1) := by decide +kernel
theorem d10_init_34 : decode c10_init 34 = .ok (.dup, 1) := by decide +kernel
theorem d10_init_35 : decode c10_init 35 = .ok (.bipush 6, 2) := by decide +kernel
theorem d10_init_37 : decode c10_init 37 = .ok (.bipush 9, 2) := by decide +kernel
theorem d10_init_39 : decode c10_init 39 = .ok (.iastore, 1) := by decide +kernel
theorem d10_init_40 : decode c10_init 40 = .ok (.dup, 1) := by decide +kernel
theorem d10_init_41 : decode c10_init 41 = .ok (.bipush 7, 2) := by decide +kernel
theorem d10_init_43 : decode c10_init 43 = .ok (.iconst (-1), 1) := by decide +kernel
theorem d10_init_44 : decode c10_init 44 = .ok (.iastore, 1) := by decide +kernel
theorem d10_init_45 : decode c10_init 45 = .ok (.dup, 1) := by decide +kernel
theorem d10_init_46 : decode c10_init 46 = .ok (.bipush 8, 2) := by decide +kernel
theorem d10_init_48 : decode c10_init 48 = .ok (.iconst 4, 1) := by decide +kernel
theorem d10_init_49 : decode c10_init 49 = .ok (.iastore, 1) := by decide +kernel
theorem d10_init_50 : decode c10_init 50 = .ok (.dup, 1) := by decide +kernel
theorem d10_init_51 : decode c10_init 51 = .ok (.bipush 9, 2) := by decide +kernel
theorem d10_init_53 : decode c10_init 53 = .ok (.bipush 7, 2) := by decide +kernel
theorem d10_init_55 : decode c10_init 55 = .ok (.iastore, 1) := by decide +kernel
theorem d10_init_56 : decode c10_init 56 = .ok (.dup, 1) := by decide +kernel
theorem d10_init_57 : decode c10_init 57 = .ok (.bipush 10, 2) := by decide +kernel
theorem d10_init_59 : decode c10_init 59 = .ok (.bipush 11, 2) := by decide +kernel
theorem d10_init_61 : decode c10_init 61 = .ok (.iastore, 1) := by decide +kernel
theorem d10_init_62 : decode c10_init 62 = .ok (.dup, 1) := by decide +kernel
theorem d10_init_63 : decode c10_init 63 = .ok (.bipush 11, 2) := by decide +kernel
theorem d10_init_65 : decode c10_init 65 = .ok (.iconst (-1), 1) := by decide +kernel
theorem d10_init_66 : decode c10_init 66 = .ok (.iastore, 1) := by decide +kernel
theorem d10_init_67 : decode c10_init 67 = .ok (.dup, 1) := by decide +kernel
theorem d10_init_68 : decode c10_init 68 = .ok (.bipush 12, 2) := by decide +kernel
theorem d10_init_70 : decode c10_init 70 = .ok (.iconst 5, 1) := by decide +kernel
theorem d10_init_71 : decode c10_init 71 = .ok (.iastore, 1) := by decide +kernel
theorem d10_init_72 : decode c10_init 72 = .ok (.dup, 1) := by decide +kernel
theorem d10_init_73 : decode c10_init 73 = .ok (.bipush 13, 2) := by decide +kernel
theorem d10_init_75 : decode c10_init 75 = .ok (.bipush 9, 2) := by decide +kernel
theorem d10_init_77 : decode c10_init 77 = .ok (.iastore, 1) := by decide +kernel
theorem d10_init_78 : decode c10_init 78 = .ok (.dup, 1) := by decide +kernel
theorem d10_init_79 : decode c10_init 79 = .ok (.bipush 14, 2) := by decide +kernel
theorem d10_init_81 : decode c10_init 81 = .ok (.iconst 0, 1) := by decide +kernel
theorem d10_init_82 : decode c10_init 82 = .ok (.iastore, 1) := by decide +kernel
theorem d10_init_83 : decode c10_init 83 = .ok (.dup, 1) := by decide +kernel
theorem d10_init_84 : decode c10_init 84 = .ok (.bipush 15, 2) := by decide +kernel
theorem d10_init_86 : decode c10_init 86 = .ok (.iconst (-1), 1) := by decide +kernel
theorem d10_init_87 : decode c10_init 87 = .ok (.iastore, 1) := by decide +kernel
theorem d10_init_88 : decode c10_init 88 = .ok (.dup, 1) := by decide +kernel
theorem d10_init_89 : decode c10_init 89 = .ok (.bipush 16, 2) := by decide +kernel
theorem d10_init_91 : decode c10_init 91 = .ok (.bipush 7, 2) := by decide +kernel
theorem d10_init_93 : decode c10_init 93 = .ok (.iastore, 1) := by decide +kernel
theorem d10_init_94 : decode c10_init 94 = .ok (.dup, 1) := by decide +kernel
theorem d10_init_95 : decode c10_init 95 = .ok (.bipush 17, 2) := by decide +kernel
theorem d10_init_97 : decode c10_init 97 = .ok (.bipush 11, 2) := by decide +kernel
theorem d10_init_99 : decode c10_init 99 = .ok (.iastore, 1) := by decide +kernel
theorem d10_init_100 : decode c10_init 100 = .ok (.dup, 1) := by decide +kernel
theorem d10_init_101 : decode c10_init 101 = .ok (.bipush 18, 2) := by decide +kernel
theorem d10_init_103 : decode c10_init 103 = .ok (.iconst 2, 1) := by decide +kernel
theorem d10_init_104 : decode c10_init 104 = .ok (.iastore, 1) := by decide +kernel
theorem d10_init_105 : decode c10_init 105 = .ok (.dup, 1) := by decide +kernel
theorem d10_init_106 : decode c10_init 106 = .ok (.bipush 19, 2) := by decide +kernel
theorem d10_init_108 : decode c10_init 108 = .ok (.iconst (-1), 1) := by decide +kernel
theorem d10_init_109 : decode c10_init 109 = .ok (.iastore, 1) := by decide +kernel
theorem d10_init_110 : decode c10_init 110 = .ok (.dup, 1) := by decide +kernel
theorem d10_init_111 : decode c10_init 111 = .ok (.bipush 20, 2) := by decide +kernel
theorem d10_init_113 : decode c10_init 113 = .ok (.bipush 9, 2) := by decide +kernel
theorem d10_init_115 : decode c10_init 115 = .ok (.iastore, 1) := by decide +kernel
theorem d10_init_116 : decode c10_init 116 = .ok (.dup, 1) := by decide +kernel
theorem d10_init_117 : decode c10_init 117 = .ok (.bipush 21, 2) := by decide +kernel
theorem d10_init_119 : decode c10_init 119 = .ok (.iconst 0, 1) := by decide +kernel
theorem d10_init_120 : decode c10_init 120 = .ok (.iastore, 1) := by decide +kernel
theorem d10_init_121 : decode c10_init 121 = .ok (.dup, 1) := by decide +kernel
theorem d10_init_122 : decode c10_init 122 = .ok (.bipush 22, 2) := by decide +kernel
theorem d10_init_124 : decode c10_init 124 = .ok (.iconst 4, 1) := by decide +kernel
theorem d10_init_125 : decode c10_init 125 = .ok (.iastore, 1) := by decide +kernel
theorem d10_init_126 : decode c10_init 126 = .ok (.dup, 1) := by decide +kernel
theorem d10_init_127 : decode c10_init 127 = .ok (.bipush 23, 2) := by decide +kernel
theorem d10_init_129 : decode c10_init 129 = .ok (.iconst (-1), 1) := by decide +kernel
theorem d10_init_130 : decode c10_init 130 = .ok (.iastore, 1) := by decide +kernel
theorem d10_init_131 : decode c10_init 131 = .ok (.dup, 1) := by decide +kernel
theorem d10_init_132 : decode c10_init 132 = .ok (.bipush 24, 2) := by decide +kernel
theorem d10_init_134 : decode c10_init 134 = .ok (.bipush 11, 2) := by decide +kernel
theorem d10_init_136 : decode c10_init 136 = .ok (.iastore, 1) := by decide +kernel
theorem d10_init_137 : decode c10_init 137 = .ok (.dup, 1) := by decide +kernel
theorem d10_init_138 : decode c10_init 138 = .ok (.bipush 25, 2) := by decide +kernel
theorem d10_init_140 : decode c10_init 140 = .ok (.iconst 2, 1) := by decide +kernel
theorem d10_init_141 : decode c10_init 141 = .ok (.iastore, 1) := by decide +kernel
theorem d10_init_142 : decode c10_init 142 = .ok (.dup, 1) := by decide +kernel
theorem d10_init_143 : decode c10_init 143 = .ok (.bipush 26, 2) := by decide +kernel
theorem d10_init_145 : decode c10_init 145 = .ok (.iconst 5, 1) := by decide +kernel
theorem d10_init_146 : decode c10_init 146 = .ok (.iastore, 1) := by decide +kernel
theorem d10_init_147 : decode c10_init 147 = .ok (.dup, 1) := by decide +kernel
theorem d10_init_148 : decode c10_init 148 = .ok (.bipush 27, 2) := by decide +kernel
theorem d10_init_150 : decode c10_init 150 = .ok (.iconst (-1), 1) := by decide +kernel
theorem d10_init_151 : decode c10_init 151 = .ok (.iastore, 1) := by decide +kernel
theorem d10_init_152 : decode c10_init 152 = .ok (.dup, 1) := by decide +kernel
theorem d10_init_153 : decode c10_init 153 = .ok (.bipush 28, 2) := by decide +kernel
theorem d10_init_155 : decode c10_init 155 = .ok (.bipush 7, 2) := by decide +kernel
theorem d10_init_157 : decode c10_init 157 = .ok (.iastore, 1) := by decide +kernel
theorem d10_init_158 : decode c10_init 158 = .ok (.dup, 1) := by decide +kernel
theorem d10_init_159 : decode c10_init 159 = .ok (.bipush 29, 2) := by decide +kernel
theorem d10_init_161 : decode c10_init 161 = .ok (.bipush 11, 2) := by decide +kernel
theorem d10_init_163 : decode c10_init 163 = .ok (.iastore, 1) := by decide +kernel
theorem d10_init_164 : decode c10_init 164 = .ok (.dup, 1) := by decide +kernel
theorem d10_init_165 : decode c10_init 165 = .ok (.bipush 30, 2) := by decide +kernel
theorem d10_init_167 : decode c10_init 167 = .ok (.iconst 2, 1) := by decide +kernel
theorem d10_init_168 : decode c10_init 168 = .ok (.iastore, 1) := by decide +kernel
theorem d10_init_169 : decode c10_init 169 = .ok (.dup, 1) := by decide +kernel
theorem d10_init_170 : decode c10_init 170 = .ok (.bipush 31, 2) := by decide +kernel
theorem d10_init_172 : decode c10_init 172 = .ok (.iconst 5, 1) := by decide +kernel
theorem d10_init_173 : decode c10_init 173 = .ok (.iastore, 1) := by decide +kernel
theorem d10_init_174 : decode c10_init 174 = .ok (.dup, 1) := by decide +kernel
theorem d10_init_175 : decode c10_init 175 = .ok (.bipush 32, 2) := by decide +kernel
theorem d10_init_177 : decode c10_init 177 = .ok (.iconst 2, 1) := by decide +kernel
theorem d10_init_178 : decode c10_init 178 = .ok (.iastore, 1) := by decide +kernel
theorem d10_init_179 : decode c10_init 179 = .ok (.dup, 1) := by decide +kernel
theorem d10_init_180 : decode c10_init 180 = .ok (.bipush 33, 2) := by decide +kernel
theorem d10_init_182 : decode c10_init 182 = .ok (.iconst 5, 1) := by decide +kernel
theorem d10_init_183 : decode c10_init 183 = .ok (.iastore, 1) := by decide +kernel
theorem d10_init_184 : decode c10_init 184 = .ok (.dup, 1) := by decide +kernel
theorem d10_init_185 : decode c10_init 185 = .ok (.bipush 34, 2) := by decide +kernel
theorem d10_init_187 : decode c10_init 187 = .ok (.bipush 9, 2) := by decide +kernel
theorem d10_init_189 : decode c10_init 189 = .ok (.iastore, 1) := by decide +kernel
theorem d10_init_190 : decode c10_init 190 = .ok (.dup, 1) := by decide +kernel
theorem d10_init_191 : decode c10_init 191 = .ok (.bipush 35, 2) := by decide +kernel
theorem d10_init_193 : decode c10_init 193 = .ok (.iconst 0, 1) := by decide +kernel
theorem d10_init_194 : decode c10_init 194 = .ok (.iastore, 1) := by decide +kernel
theorem d10_init_195 : decode c10_init 195 = .ok (.dup, 1) := by decide +kernel
theorem d10_init_196 : decode c10_init 196 = .ok (.bipush 36, 2) := by decide +kernel
theorem d10_init_198 : decode c10_init 198 = .ok (.iconst 2, 1) := by decide +kernel
theorem d10_init_199 : decode c10_init 199 = .ok (.iastore, 1) := by decide +kernel
theorem d10_init_200 : decode c10_init 200 = .ok (.dup, 1) := by decide +kernel
theorem d10_init_201 : decode c10_init 201 = .ok (.bipush 37, 2) := by decide +kernel
theorem d10_init_203 : decode c10_init 203 = .ok (.bipush 6, 2) := by decide +kernel
theorem d10_init_205 : decode c10_init 205 = .ok (.iastore, 1) := by decide +kernel
theorem d10_init_206 : decode c10_init 206 = .ok (.dup, 1) := by decide +kernel
theorem d10_init_207 : decode c10_init 207 = .ok (.bipush 38, 2) := by decide +kernel
theorem d10_init_209 : decode c10_init 209 = .ok (.bipush 9, 2) := by decide +kernel
theorem d10_init_211 : decode c10_init 211 = .ok (.iastore, 1) := by decide +kernel
theorem d10_init_212 : decode c10_init 212 = .ok (.dup, 1) := by decide +kernel
theorem d10_init_213 : decode c10_init 213 = .ok (.bipush 39, 2) := by decide +kernel
theorem d10_init_215 : decode c10_init 215 = .ok (.iconst (-1), 1) := by decide +kernel
theorem d10_init_216 : decode c10_init 216 = .ok (.iastore, 1) := by decide +kernel
theorem d10_init_217 : decode c10_init 217 = .ok (.dup, 1) := by decide +kernel
theorem d10_init_218 : decode c10_init 218 = .ok (.bipush 40, 2) := by decide +kernel
theorem d10_init_220 : decode c10_init 220 = .ok (.iconst 2, 1) := by decide +kernel
theorem d10_init_221 : decode c10_init 221 = .ok (.iastore, 1) := by decide +kernel
theorem d10_init_222 : decode c10_init 222 = .ok (.dup, 1) := by decide +kernel
theorem d10_init_223 : decode c10_init 223 = .ok (.bipush 41, 2) := by decide +kernel
theorem d10_init_225 : decode c10_init 225 = .ok (.bipush 6, 2) := by decide +kernel
theorem d10_init_227 : decode c10_init 227 = .ok (.iastore, 1) := by decide +kernel
theorem d10_init_228 : decode c10_init 228 = .ok (.dup, 1) := by decide +kernel
theorem d10_init_229 : decode c10_init 229 = .ok (.bipush 42, 2) := by decide +kernel
theorem d10_init_231 : decode c10_init 231 = .ok (.bipush 9, 2) := by decide +kernel
theorem d10_init_233 : decode c10_init 233 = .ok (.iastore, 1) := by decide +kernel
theorem d10_init_234 : decode c10_init 234 = .ok (.dup, 1) := by decide +kernel
theorem d10_init_235 : decode c10_init 235 = .ok (.bipush 43, 2) := by decide +kernel
theorem d10_init_237 : decode c10_init 237 = .ok (.iconst 0, 1) := by decide +kernel
theorem d10_init_238 : decode c10_init 238 = .ok (.iastore, 1) := by decide +kernel
theorem d10_init_239 : decode c10_init 239 = .ok (.dup, 1) := by decide +kernel
theorem d10_init_240 : decode c10_init 240 = .ok (.bipush 44, 2) := by decide +kernel
theorem d10_init_242 : decode c10_init 242 = .ok (.iconst 4, 1) := by decide +kernel
theorem d10_init_243 : decode c10_init 243 = .ok (.iastore, 1) := by decide +kernel
theorem d10_init_244 : decode c10_init 244 = .ok (.dup, 1) := by decide +kernel
theorem d10_init_245 : decode c10_init 245 = .ok (.bipush 45, 2) := by decide +kernel
theorem d10_init_247 : decode c10_init 247 = .ok (.bipush 8, 2) := by decide +kernel
theorem d10_init_249 : decode c10_init 249 = .ok (.iastore, 1) := by decide +kernel
theorem d10_init_250 : decode c10_init 250 = .ok (.dup, 1) := by decide +kernel
theorem d10_init_251 : decode c10_init 251 = .ok (.bipush 46, 2) := by decide +kernel
theorem d10_init_253 : decode c10_init 253 = .ok (.bipush 11, 2) := by decide +kernel
theorem d10_init_255 : decode c10_init 255 = .ok (.iastore, 1) := by decide +kernel
theorem d10_init_256 : decode c10_init 256 = .ok (.dup, 1) := by decide +kernel
theorem d10_init_257 : decode c10_init 257 = .ok (.bipush 47, 2) := by decide +kernel
theorem d10_init_259 : decode c10_init 259 = .ok (.iconst (-1), 1) := by decide +kernel
theorem d10_init_260 : decode c10_init 260 = .ok (.iastore, 1) := by decide +kernel
theorem d10_init_261 : decode c10_init 261 = .ok (.dup, 1) := by decide +kernel
theorem d10_init_262 : decode c10_init 262 = .ok (.bipush 48, 2) := by decide +kernel
theorem d10_init_264 : decode c10_init 264 = .ok (.iconst 0, 1) := by decide +kernel
theorem d10_init_265 : decode c10_init 265 = .ok (.iastore, 1) := by decide +kernel
theorem d10_init_266 : decode c10_init 266 = .ok (.dup, 1) := by decide +kernel
theorem d10_init_267 : decode c10_init 267 = .ok (.bipush 49, 2) := by decide +kernel
theorem d10_init_269 : decode c10_init 269 = .ok (.iconst 4, 1) := by decide +kernel
theorem d10_init_270 : decode c10_init 270 = .ok (.iastore, 1) := by decide +kernel
theorem d10_init_271 : decode c10_init 271 = .ok (.dup, 1) := by decide +kernel
theorem d10_init_272 : decode c10_init 272 = .ok (.bipush 50, 2) := by decide +kernel
theorem d10_init_274 : decode c10_init 274 = .ok (.bipush 7, 2) := by decide +kernel
theorem d10_init_276 : decode c10_init 276 = .ok (.iastore, 1) := by decide +kernel
theorem d10_init_277 : decode c10_init 277 = .ok (.dup, 1) := by decide +kernel
theorem d10_init_278 : decode c10_init 278 = .ok (.bipush 51, 2) := by decide +kernel
theorem d10_init_280 : decode c10_init 280 = .ok (.bipush 10, 2) := by decide +kernel
theorem d10_init_282 : decode c10_init 282 = .ok (.iastore, 1) := by decide +kernel
theorem d10_init_283 : decode c10_init 283 = .ok (.putfield 13, 3) := by decide +kernel
theorem d10_init_286 : decode c10_init 286 = .ok (.aload_n 0, 1) := by decide +kernel
theorem d10_init_287 : decode c10_init 287 = .ok (.bipush 52, 2) := by decide +kernel
theorem d10_init_289 : decode c10_init 289 = .ok (.newarray .int, 2) := by decide +kernel
theorem d10_init_291 : decode c10_init 291 = .ok (.dup, 1) := by decide +kernel
theorem d10_init_292 : decode c10_init 292 = .ok (.iconst 0, 1) := by decide +kernel
theorem d10_init_293 : decode c10_init 293 = .ok (.iconst 0, 1) := by decide +kernel
theorem d10_init_294 : decode c10_init 294 = .ok (.iastore, 1) := by decide +kernel
theorem d10_init_295 : decode c10_init 295 = .ok (.dup, 1) := by decide +kernel
theorem d10_init_296 : decode c10_init 296 = .ok (.iconst 1, 1) := by decide +kernel
theorem d10_init_297 : decode c10_init 297 = .ok (.iconst 3, 1) := by decide +kernel
theorem d10_init_298 : decode c10_init 298 = .ok (.iastore, 1) := by decide +kernel
theorem d10_init_299 : decode c10_init 299 = .ok (.dup, 1) := by decide +kernel
theorem d10_init_300 : decode c10_init 300 = .ok (.iconst 2, 1) := by decide +kernel
theorem d10_init_301 : decode c10_init 301 = .ok (.bipush 7, 2) := by decide +kernel
theorem d10_init_303 : decode c10_init 303 = .ok (.iastore, 1) := by decide +kernel
theorem d10_init_304 : decode c10_init 304 = .ok (.dup, 1) := by decide +kernel
theorem d10_init_305 : decode c10_init 305 = .ok (.iconst 3, 1) := by decide +kernel
theorem d10_init_306 : decode c10_init 306 = .ok (.iconst (-1), 1) := by decide +kernel
theorem d10_init_307 : decode c10_init 307 = .ok (.iastore, 1) := by decide +kernel
theorem d10_init_308 : decode c10_init 308 = .ok (.dup, 1) := by decide +kernel
theorem d10_init_309 : decode c10_init 309 = .ok (.iconst 4, 1) := by decide +kernel
theorem d10_init_310 : decode c10_init 310 = .ok (.iconst 2, 1) := by decide +kernel
theorem d10_init_311 : decode c10_init 311 = .ok (.iastore, 1) := by decide +kernel
theorem d10_init_312 : decode c10_init 312 = .ok (.dup, 1) := by decide +kernel
theorem d10_init_313 : decode c10_init 313 = .ok (.iconst 5, 1) := by decide +kernel
theorem d10_init_314 : decode c10_init 314 = .ok (.iconst 5, 1) := by decide +kernel
theorem d10_init_315 : decode c10_init 315 = .ok (.iastore, 1) := by decide +kernel
theorem d10_init_316 : decode c10_init 316 = .ok (.dup, 1) := by decide +kernel
theorem d10_init_317 : decode c10_init 317 = .ok (.bipush 6, 2) := by decide +kernel
theorem d10_init_319 : decode c10_init 319 = .ok (.bipush 8, 2) := by decide +kernel
theorem d10_init_321 : decode c10_init 321 = .ok (.iastore, 1) := by decide +kernel
theorem d10_init_322 : decode c10_init 322 = .ok (.dup, 1) := by decide +kernel
theorem d10_init_323 : decode c10_init 323 = .ok (.bipush 7, 2) := by decide +kernel
theorem d10_init_325 : decode c10_init 325 = .ok (.iconst (-1), 1) := by decide +kernel
theorem d10_init_326 : decode c10_init 326 = .ok (.iastore, 1) := by decide +kernel
theorem d10_init_327 : decode c10_init 327 = .ok (.dup, 1) := by decide +kernel
theorem d10_init_328 : decode c10_init 328 = .ok (.bipush 8, 2) := by decide +kernel
theorem d10_init_330 : decode c10_init 330 = .ok (.iconst 3, 1) := by decide +kernel
theorem d10_init_331 : decode c10_init 331 = .ok (.iastore, 1) := by decide +kernel
theorem d10_init_332 : decode c10_init 332 = .ok (.dup, 1) := by decide +kernel
theorem d10_init_333 : decode c10_init 333 = .ok (.bipush 9, 2) := by decide +kernel
theorem d10_init_335 : decode c10_init 335 = .ok (.bipush 7, 2) := by decide +kernel
theorem d10_init_337 : decode c10_init 337 = .ok (.iastore, 1) := by decide +kernel
theorem d10_init_338 : decode c10_init 338 = .ok (.dup, 1) := by decide +kernel
theorem d10_init_339 : decode c10_init 339 = .ok (.bipush 10, 2) := by decide +kernel
theorem d10_init_341 : decode c10_init 341 = .ok (.bipush 10, 2) := by decide +kernel
theorem d10_init_343 : decode c10_init 343 = .ok (.iastore, 1) := by decide +kernel
theorem d10_init_344 : decode c10_init 344 = .ok (.dup, 1) := by decide +kernel
theorem d10_init_345 : decode c10_init 345 = .ok (.bipush 11, 2) := by decide +kernel
theorem d10_init_347 : decode c10_init 347 = .ok (.iconst (-1), 1) := by decide +kernel
theorem d10_init_348 : decode c10_init 348 = .ok (.iastore, 1) := by decide +kernel
theorem d10_init_349 : decode c10_init 349 = .ok (.dup, 1) := by decide +kernel
theorem d10_init_350 : decode c10_init 350 = .ok (.bipush 12, 2) := by decide +kernel
theorem d10_init_352 : decode c10_init 352 = .ok (.iconst 5, 1) := by decide +kernel
theorem d10_init_353 : decode c10_init 353 = .ok (.iastore, 1) := by decide +kernel
theorem d10_init_354 : decode c10_init 354 = .ok (.dup, 1) := by decide +kernel
theorem d10_init_355 : decode c10_init 355 = .ok (.bipush 13, 2) := by decide +kernel
theorem d10_init_357 : decode c10_init 357 = .ok (.bipush 8, 2) := by decide +kernel
theorem d10_init_359 : decode c10_init 359 = .ok (.iastore, 1) := by decide +kernel
theorem d10_init_360 : decode c10_init 360 = .ok (.dup, 1) := by decide +kernel
theorem d10_init_361 : decode c10_init 361 = .ok (.bipush 14, 2) := by decide +kernel
theorem d10_init_363 : decode c10_init 363 = .ok (.iconst 0, 1) := by decide +kernel
theorem d10_init_364 : decode c10_init 364 = .ok (.iastore, 1) := by decide +kernel
theorem d10_init_365 : decode c10_init 365 = .ok (.dup, 1) := by decide +kernel
theorem d10_init_366 : decode c10_init 366 = .ok (.bipush 15, 2) := by decide +kernel
theorem d10_init_368 : decode c10_init 368 = .ok (.iconst (-1), 1) := by decide +kernel
theorem d10_init_369 : decode c10_init 369 = .ok (.iastore, 1) := by decide +kernel
theorem d10_init_370 : decode c10_init 370 = .ok (.dup, 1) := by decide +kernel
theorem d10_init_371 : decode c10_init 371 = .ok (.bipush 16, 2) := by decide +kernel
theorem d10_init_373 : decode c10_init 373 = .ok (.bipush 7, 2) := by decide +kernel
theorem d10_init_375 : decode c10_init 375 = .ok (.iastore, 1) := by decide +kernel
theorem d10_init_376 : decode c10_init 376 = .ok (.dup, 1) := by decide +kernel
theorem d10_init_377 : decode c10_init 377 = .ok (.bipush 17, 2) := by decide +kernel
theorem d10_init_379 : decode c10_init 379 = .ok (.bipush 11, 2) := by decide +kernel
theorem d10_init_381 : decode c10_init 381 = .ok (.iastore, 1) := by decide +kernel
theorem d10_init_382 : decode c10_init 382 = .ok (.dup, 1) := by decide +kernel
theorem d10_init_383 : decode c10_init 383 = .ok (.bipush 18, 2) := by decide +kernel
theorem d10_init_385 : decode c10_init 385 = .ok (.iconst 2, 1) := by decide +kernel
theorem d10_init_386 : decode c10_init 386 = .ok (.iastore, 1) := by decide +kernel
theorem d10_init_387 : decode c10_init 387 = .ok (.dup, 1) := by decide +kernel
theorem d10_init_388 : decode c10_init 388 = .ok (.bipush 19, 2) := by decide +kernel
theorem d10_init_390 : decode c10_init 390 = .ok (.iconst (-1), 1) := by decide +kernel
theorem d10_init_391 : decode c10_init 391 = .ok (.iastore, 1) := by decide +kernel
theorem d10_init_392 : decode c10_init 392 = .ok (.dup, 1) := by decide +kernel
theorem d10_init_393 : decode c10_init 393 = .ok (.bipush 20, 2) := by decide +kernel
theorem d10_init_395 : decode c10_init 395 = .ok (.bipush 8, 2) := by decide +kernel
theorem d10_init_397 : decode c10_init 397 = .ok (.iastore, 1) := by decide +kernel
theorem d10_init_398 : decode c10_init 398 = .ok (.dup, 1) := by decide +kernel
theorem d10_init_399 : decode c10_init 399 = .ok (.bipush 21, 2) := by decide +kernel
theorem d10_init_401 : decode c10_init 401 = .ok (.iconst 0, 1) := by decide +kernel
theorem d10_init_402 : decode c10_init 402 = .ok (.iastore, 1) := by decide +kernel
theorem d10_init_403 : decode c10_init 403 = .ok (.dup, 1) := by decide +kernel
theorem d10_init_404 : decode c10_init 404 = .ok (.bipush 22, 2) := by decide +kernel
theorem d10_init_406 : decode c10_init 406 = .ok (.iconst 3, 1) := by decide +kernel
theorem d10_init_407 : decode c10_init 407 = .ok (.iastore, 1) := by decide +kernel
theorem d10_init_408 : decode c10_init 408 = .ok (.dup, 1) := by decide +kernel
theorem d10_init_409 : decode c10_init 409 = .ok (.bipush 23, 2) := by decide +kernel
theorem d10_init_411 : decode c10_init 411 = .ok (.iconst (-1), 1) := by decide +kernel
theorem d10_init_412 : decode c10_init 412 = .ok (.iastore, 1) := by decide +kernel
theorem d10_init_413 : decode c10_init 413 = .ok (.dup, 1) := by decide +kernel
theorem d10_init_414 : decode c10_init 414 = .ok (.bipush 24, 2) := by decide +kernel
theorem d10_init_416 : decode c10_init 416 = .ok (.bipush 11, 2) := by decide +kernel
theorem d10_init_418 : decode c10_init 418 = .ok (.iastore, 1) := by decide +kernel
theorem d10_init_419 : decode c10_init 419 = .ok (.dup, 1) := by decide +kernel
theorem d10_init_420 : decode c10_init 420 = .ok (.bipush 25, 2) := by decide +kernel
theorem d10_init_422 : decode c10_init 422 = .ok (.iconst 2, 1) := by decide +kernel
theorem d10_init_423 : decode c10_init 423 = .ok (.iastore, 1) := by decide +kernel
theorem d10_init_424 : decode c10_init 424 = .ok (.dup, 1) := by decide +kernel
theorem d10_init_425 : decode c10_init 425 = .ok (.bipush 26, 2) := by decide +kernel
theorem d10_init_427 : decode c10_init 427 = .ok (.iconst 5, 1) := by decide +kernel
theorem d10_init_428 : decode c10_init 428 = .ok (.iastore, 1) := by decide +kernel
theorem d10_init_429 : decode c10_init 429 = .ok (.dup, 1) := by decide +kernel
theorem d10_init_430 : decode c10_init 430 = .ok (.bipush 27, 2) := by decide +kernel
theorem d10_init_432 : decode c10_init 432 = .ok (.iconst (-1), 1) := by decide +kernel
theorem d10_init_433 : decode c10_init 433 = .ok (.iastore, 1) := by decide +kernel
theorem d10_init_434 : decode c10_init 434 = .ok (.dup, 1) := by decide +kernel
theorem d10_init_435 : decode c10_init 435 = .ok (.bipush 28, 2) := by decide +kernel
theorem d10_init_437 : decode c10_init 437 = .ok (.bipush 7, 2) := by decide +kernel
theorem d10_init_439 : decode c10_init 439 = .ok (.iastore, 1) := by decide +kernel
theorem d10_init_440 : decode c10_init 440 = .ok (.dup, 1) := by decide +kernel
theorem d10_init_441 : decode c10_init 441 = .ok (.bipush 29, 2) := by decide +kernel
theorem d10_init_443 : decode c10_init 443 = .ok (.bipush 11, 2) := by decide +kernel
theorem d10_init_445 : decode c10_init 445 = .ok (.iastore, 1) := by decide +kernel
theorem d10_init_446 : decode c10_init 446 = .ok (.dup, 1) := by decide +kernel
theorem d10_init_447 : decode c10_init 447 = .ok (.bipush 30, 2) := by decide +kernel
theorem d10_init_449 : decode c10_init 449 = .ok (.iconst 2, 1) := by decide +kernel
theorem d10_init_450 : decode c10_init 450 = .ok (.iastore, 1) := by decide +kernel
theorem d10_init_451 : decode c10_init 451 = .ok (.dup, 1) := by decide +kernel
theorem d10_init_452 : decode c10_init 452 = .ok (.bipush 31, 2) := by decide +kernel
theorem d10_init_454 : decode c10_init 454 = .ok (.iconst 5, 1) := by decide +kernel
theorem d10_init_455 : decode c10_init 455 = .ok (.iastore, 1) := by decide +kernel
theorem d10_init_456 : decode c10_init 456 = .ok (.dup, 1) := by decide +kernel
theorem d10_init_457 : decode c10_init 457 = .ok (.bipush 32, 2) := by decide +kernel
theorem d10_init_459 : decode c10_init 459 = .ok (.iconst 2, 1) := by decide +kernel
theorem d10_init_460 : decode c10_init 460 = .ok (.iastore, 1) := by decide +kernel
theorem d10_init_461 : decode c10_init 461 = .ok (.dup, 1) := by decide +kernel
theorem d10_init_462 : decode c10_init 462 = .ok (.bipush 33, 2) := by decide +kernel
theorem d10_init_464 : decode c10_init 464 = .ok (.iconst 5, 1) := by decide +kernel
theorem d10_init_465 : decode c10_init 465 = .ok (.iastore, 1) := by decide +kernel
theorem d10_init_466 : decode c10_init 466 = .ok (.dup, 1) := by decide +kernel
theorem d10_init_467 : decode c10_init 467 = .ok (.bipush 34, 2) := by decide +kernel
theorem d10_init_469 : decode c10_init 469 = .ok (.bipush 8, 2) := by decide +kernel
theorem d10_init_471 : decode c10_init 471 = .ok (.iastore, 1) := by decide +kernel
theorem d10_init_472 : decode c10_init 472 = .ok (.dup, 1) := by decide +kernel
theorem d10_init_473 : decode c10_init 473 = .ok (.bipush 35, 2) := by decide +kernel
theorem d10_init_475 : decode c10_init 475 = .ok (.iconst 0, 1) := by decide +kernel
theorem d10_init_476 : decode c10_init 476 = .ok (.iastore, 1) := by decide +kernel
theorem d10_init_477 : decode c10_init 477 = .ok (.dup, 1) := by decide +kernel
theorem d10_init_478 : decode c10_init 478 = .ok (.bipush 36, 2) := by decide +kernel
theorem d10_init_480 : decode c10_init 480 = .ok (.iconst 2, 1) := by decide +kernel
theorem d10_init_481 : decode c10_init 481 = .ok (.iastore, 1) := by decide +kernel
theorem d10_init_482 : decode c10_init 482 = .ok (.dup, 1) := by decide +kernel
theorem d10_init_483 : decode c10_init 483 = .ok (.bipush 37, 2) := by decide +kernel
theorem d10_init_485 : decode c10_init 485 = .ok (.bipush 6, 2) := by decide +kernel
theorem d10_init_487 : decode c10_init 487 = .ok (.iastore, 1) := by decide +kernel
theorem d10_init_488 : decode c10_init 488 = .ok (.dup, 1) := by decide +kernel
theorem d10_init_489 : decode c10_init 489 = .ok (.bipush 38, 2) := by decide +kernel
theorem d10_init_491 : decode c10_init 491 = .ok (.bipush 9, 2) := by decide +kernel
theorem d10_init_493 : decode c10_init 493 = .ok (.iastore, 1) := by decide +kernel
theorem d10_init_494 : decode c10_init 494 = .ok (.dup, 1) := by decide +kernel
theorem d10_init_495 : decode c10_init 495 = .ok (.bipush 39, 2) := by decide +kernel
theorem d10_init_497 : decode c10_init 497 = .ok (.iconst (-1), 1) := by decide +kernel
theorem d10_init_498 : decode c10_init 498 = .ok (.iastore, 1) := by decide +kernel
theorem d10_init_499 : decode c10_init 499 = .ok (.dup, 1) := by decide +kernel
theorem d10_init_500 : decode c10_init 500 = .ok (.bipush 40, 2) := by decide +kernel
theorem d10_init_502 : decode c10_init 502 = .ok (.iconst 2, 1) := by decide +kernel
theorem d10_init_503 : decode c10_init 503 = .ok (.iastore, 1) := by decide +kernel
theorem d10_init_504 : decode c10_init 504 = .ok (.dup, 1) := by decide +kernel
theorem d10_init_505 : decode c10_init 505 = .ok (.bipush 41, 2) := by decide +kernel
theorem d10_init_507 : decode c10_init 507 = .ok (.bipush 6, 2) := by decide +kernel
theorem d10_init_509 : decode c10_init 509 = .ok (.iastore, 1) := by decide +kernel
theorem d10_init_510 : decode c10_init 510 = .ok (.dup, 1) := by decide +kernel
theorem d10_init_511 : decode c10_init 511 = .ok (.bipush 42, 2) := by decide +kernel
theorem d10_init_513 : decode c10_init 513 = .ok (.bipush 9, 2) := by decide +kernel
theorem d10_init_515 : decode c10_init 515 = .ok (.iastore, 1) := by decide +kernel
theorem d10_init_516 : decode c10_init 516 = .ok (.dup, 1) := by decide +kernel
theorem d10_init_517 : decode c10_init 517 = .ok (.bipush 43, 2) := by decide +kernel
theorem d10_init_519 : decode c10_init 519 = .ok (.iconst 0, 1) := by decide +kernel
theorem d10_init_520 : decode c10_init 520 = .ok (.iastore, 1) := by decide +kernel
theorem d10_init_521 : decode c10_init 521 = .ok (.dup, 1) := by decide +kernel
theorem d10_init_522 : decode c10_init 522 = .ok (.bipush 44, 2) := by decide +kernel
theorem d10_init_524 : decode c10_init 524 = .ok (.iconst 3, 1) := by decide +kernel
theorem d10_init_525 : decode c10_init 525 = .ok (.iastore, 1) := by decide +kernel
theorem d10_init_526 : decode c10_init 526 = .ok (.dup, 1) := by decide +kernel
theorem d10_init_527 : decode c10_init 527 = .ok (.bipush 45, 2) := by decide +kernel
theorem d10_init_529 : decode c10_init 529 = .ok (.bipush 7, 2) := by decide +kernel
theorem d10_init_531 : decode c10_init 531 = .ok (.iastore, 1) := by decide +kernel
theorem d10_init_532 : decode c10_init 532 = .ok (.dup, 1) := by decide +kernel
theorem d10_init_533 : decode c10_init 533 = .ok (.bipush 46, 2) := by decide +kernel
theorem d10_init_535 : decode c10_init 535 = .ok (.bipush 10, 2) := by decide +kernel
theorem d10_init_537 : decode c10_init 537 = .ok (.iastore, 1) := by decide +kernel
theorem d10_init_538 : decode c10_init 538 = .ok (.dup, 1) := by decide +kernel
theorem d10_init_539 : decode c10_init 539 = .ok (.bipush 47, 2) := by decide +kernel
theorem d10_init_541 : decode c10_init 541 = .ok (.iconst (-1), 1) := by decide +kernel
theorem d10_init_542 : decode c10_init 542 = .ok (.iastore, 1) := by decide +kernel
theorem d10_init_543 : decode c10_init 543 = .ok (.dup, 1) := by decide +kernel
theorem d10_init_544 : decode c10_init 544 = .ok (.bipush 48, 2) := by decide +kernel
theorem d10_init_546 : decode c10_init 546 = .ok (.iconst 0, 1) := by decide +kernel
theorem d10_init_547 : decode c10_init 547 = .ok (.iastore, 1) := by decide +kernel
theorem d10_init_548 : decode c10_init 548 = .ok (.dup, 1) := by decide +kernel
theorem d10_init_549 : decode c10_init 549 = .ok (.bipush 49, 2) := by decide +kernel
theorem d10_init_551 : decode c10_init 551 = .ok (.iconst 4, 1) := by decide +kernel
theorem d10_init_552 : decode c10_init 552 = .ok (.iastore, 1) := by decide +kernel
theorem d10_init_553 : decode c10_init 553 = .ok (.dup, 1) := by decide +kernel
theorem d10_init_554 : decode c10_init 554 = .ok (.bipush 50, 2) := by decide +kernel
theorem d10_init_556 : decode c10_init 556 = .ok (.bipush 7, 2) := by decide +kernel
theorem d10_init_558 : decode c10_init 558 = .ok (.iastore, 1) := by decide +kernel
theorem d10_init_559 : decode c10_init 559 = .ok (.dup, 1) := by decide +kernel
theorem d10_init_560 : decode c10_init 560 = .ok (.bipush 51, 2) := by decide +kernel
theorem d10_init_562 : decode c10_init 562 = .ok (.bipush 10, 2) := by decide +kernel
theorem d10_init_564 : decode c10_init 564 = .ok (.iastore, 1) := by decide +kernel
theorem d10_init_565 : decode c10_init 565 = .ok (.putfield 17, 3) := by decide +kernel
theorem d10_init_568 : decode c10_init 568 = .ok (.aload_n 0, 1) := by decide +kernel
theorem d10_init_569 : decode c10_init 569 = .ok (.bipush 12, 2) := by decide +kernel
theorem d10_init_571 : decode c10_init 571 = .ok (.newarray .int, 2) := by decide +kernel
theorem d10_init_573 : decode c10_init 573 = .ok (.dup, 1) := by decide +kernel
theorem d10_init_574 : decode c10_init 574 = .ok (.iconst 0, 1) := by decide +kernel
theorem d10_init_575 : decode c10_init 575 = .ok (.iconst 1, 1) := by decide +kernel
theorem d10_init_576 : decode c10_init 576 = .ok (.iastore, 1) := by decide +kernel
theorem d10_init_577 : decode c10_init 577 = .ok (.dup, 1) := by decide +kernel
theorem d10_init_578 : decode c10_init 578 = .ok (.iconst 1, 1) := by decide +kernel
theorem d10_init_579 : decode c10_init 579 = .ok (.iconst 0, 1) := by decide +kernel
theorem d10_init_580 : decode c10_init 580 = .ok (.iastore, 1) := by decide +kernel
theorem d10_init_581 : decode c10_init 581 = .ok (.dup, 1) := by decide +kernel
theorem d10_init_582 : decode c10_init 582 = .ok (.iconst 2, 1) := by decide +kernel
theorem d10_init_583 : decode c10_init 583 = .ok (.iconst 1, 1) := by decide +kernel
theorem d10_init_584 : decode c10_init 584 = .ok (.iastore, 1) := by decide +kernel
theorem d10_init_585 : decode c10_init 585 = .ok (.dup, 1) := by decide +kernel
theorem d10_init_586 : decode c10_init 586 = .ok (.iconst 3, 1) := by decide +kernel
theorem d10_init_587 : decode c10_init 587 = .ok (.iconst 0, 1) := by decide +kernel
theorem d10_init_588 : decode c10_init 588 = .ok (.iastore, 1) := by decide +kernel
theorem d10_init_589 : decode c10_init 589 = .ok (.dup, 1) := by decide +kernel
theorem d10_init_590 : decode c10_init 590 = .ok (.iconst 4, 1) := by decide +kernel
theorem d10_init_591 : decode c10_init 591 = .ok (.iconst 1, 1) := by decide +kernel
theorem d10_init_592 : decode c10_init 592 = .ok (.iastore, 1) := by decide +kernel
theorem d10_init_593 : decode c10_init 593 = .ok (.dup, 1) := by decide +kernel
theorem d10_init_594 : decode c10_init 594 = .ok (.iconst 5, 1) := by decide +kernel
theorem d10_init_595 : decode c10_init 595 = .ok (.iconst 1, 1) := by decide +kernel
theorem d10_init_596 : decode c10_init 596 = .ok (.iastore, 1) := by decide +kernel
theorem d10_init_597 : decode c10_init 597 = .ok (.dup, 1) := by decide +kernel
theorem d10_init_598 : decode c10_init 598 = .ok (.bipush 6, 2) := by decide +kernel
theorem d10_init_600 : decode c10_init 600 = .ok (.iconst 0, 1) := by decide +kernel
theorem d10_init_601 : decode c10_init 601 = .ok (.iastore, 1) := by decide +kernel
theorem d10_init_602 : decode c10_init 602 = .ok (.dup, 1) := by decide +kernel
theorem d10_init_603 : decode c10_init 603 = .ok (.bipush 7, 2) := by decide +kernel
theorem d10_init_605 : decode c10_init 605 = .ok (.iconst 1, 1) := by decide +kernel
theorem d10_init_606 : decode c10_init 606 = .ok (.iastore, 1) := by decide +kernel
theorem d10_init_607 : decode c10_init 607 = .ok (.dup, 1) := by decide +kernel
theorem d10_init_608 : decode c10_init 608 = .ok (.bipush 8, 2) := by decide +kernel
theorem d10_init_610 : decode c10_init 610 = .ok (.iconst 0, 1) := by decide +kernel
theorem d10_init_611 : decode c10_init 611 = .ok (.iastore, 1) := by decide +kernel
theorem d10_init_612 : decode c10_init 612 = .ok (.dup, 1) := by decide +kernel
theorem d10_init_613 : decode c10_init 613 = .ok (.bipush 9, 2) := by decide +kernel
theorem d10_init_615 : decode c10_init 615 = .ok (.iconst 1, 1) := by decide +kernel
theorem d10_init_616 : decode c10_init 616 = .ok (.iastore, 1) := by decide +kernel
theorem d10_init_617 : decode c10_init 617 = .ok (.dup, 1) := by decide +kernel
theorem d10_init_618 : decode c10_init 618 = .ok (.bipush 10, 2) := by decide +kernel
theorem d10_init_620 : decode c10_init 620 = .ok (.iconst 0, 1) := by decide +kernel
theorem d10_init_621 : decode c10_init 621 = .ok (.iastore, 1) := by decide +kernel
theorem d10_init_622 : decode c10_init 622 = .ok (.dup, 1) := by decide +kernel
theorem d10_init_623 : decode c10_init 623 = .ok (.bipush 11, 2) := by decide +kernel
theorem d10_init_625 : decode c10_init 625 = .ok (.iconst 1, 1) := by decide +kernel
theorem d10_init_626 : decode c10_init 626 = .ok (.iastore, 1) := by decide +kernel
theorem d10_init_627 : decode c10_init 627 = .ok (.putfield 20, 3) := by decide +kernel
theorem d10_init_630 : decode c10_init 630 = .ok (.aload_n 0, 1) := by decide +kernel
theorem d10_init_631 : decode c10_init 631 = .ok (.bipush 12, 2) := by decide +kernel
theorem d10_init_633 : decode c10_init 633 = .ok (.newarray .int, 2) := by decide +kernel
theorem d10_init_635 : decode c10_init 635 = .ok (.dup, 1) := by decide +kernel
theorem d10_init_636 : decode c10_init 636 = .ok (.iconst 0, 1) := by decide +kernel
theorem d10_init_637 : decode c10_init 637 = .ok (.iconst 1, 1) := by decide +kernel
theorem d10_init_638 : decode c10_init 638 = .ok (.iastore, 1) := by decide +kernel
theorem d10_init_639 : decode c10_init 639 = .ok (.dup, 1) := by decide +kernel
theorem d10_init_640 : decode c10_init 640 = .ok (.iconst 1, 1) := by decide +kernel
theorem d10_init_641 : decode c10_init 641 = .ok (.iconst 0, 1) := by decide +kernel
theorem d10_init_642 : decode c10_init 642 = .ok (.iastore, 1) := by decide +kernel
theorem d10_init_643 : decode c10_init 643 = .ok (.dup, 1) := by decide +kernel
theorem d10_init_644 : decode c10_init 644 = .ok (.iconst 2, 1) := by decide +kernel
theorem d10_init_645 : decode c10_init 645 = .ok (.iconst 1, 1) := by decide +kernel
theorem d10_init_646 : decode c10_init 646 = .ok (.iastore, 1) := by decide +kernel
theorem d10_init_647 : decode c10_init 647 = .ok (.dup, 1) := by decide +kernel
theorem d10_init_648 : decode c10_init 648 = .ok (.iconst 3, 1) := by decide +kernel
theorem d10_init_649 : decode c10_init 649 = .ok (.iconst 1, 1) := by decide +kernel
theorem d10_init_650 : decode c10_init 650 = .ok (.iastore, 1) := by decide +kernel
theorem d10_init_651 : decode c10_init 651 = .ok (.dup, 1) := by decide +kernel
theorem d10_init_652 : decode c10_init 652 = .ok (.iconst 4, 1) := by decide +kernel
theorem d10_init_653 : decode c10_init 653 = .ok (.iconst 0, 1) := by decide +kernel
theorem d10_init_654 : decode c10_init 654 = .ok (.iastore, 1) := by decide +kernel
theorem d10_init_655 : decode c10_init 655 = .ok (.dup, 1) := by decide +kernel
theorem d10_init_656 : decode c10_init 656 = .ok (.iconst 5, 1) := by decide +kernel
theorem d10_init_657 : decode c10_init 657 = .ok (.iconst 1, 1) := by decide +kernel
theorem d10_init_658 : decode c10_init 658 = .ok (.iastore, 1) := by decide +kernel
theorem d10_init_659 : decode c10_init 659 = .ok (.dup, 1) := by decide +kernel
theorem d10_init_660 : decode c10_init 660 = .ok (.bipush 6, 2) := by decide +kernel
theorem d10_init_662 : decode c10_init 662 = .ok (.iconst 0, 1) := by decide +kernel
theorem d10_init_663 : decode c10_init 663 = .ok (.iastore, 1) := by decide +kernel
theorem d10_init_664 : decode c10_init 664 = .ok (.dup, 1) := by decide +kernel
theorem d10_init_665 : decode c10_init 665 = .ok (.bipush 7, 2) := by decide +kernel
theorem d10_init_667 : decode c10_init 667 = .ok (.iconst 1, 1) := by decide +kernel
theorem d10_init_668 : decode c10_init 668 = .ok (.iastore, 1) := by decide +kernel
theorem d10_init_669 : decode c10_init 669 = .ok (.dup, 1) := by decide +kernel
theorem d10_init_670 : decode c10_init 670 = .ok (.bipush 8, 2) := by decide +kernel
theorem d10_init_672 : decode c10_init 672 = .ok (.iconst 1, 1) := by decide +kernel
theorem d10_init_673 : decode c10_init 673 = .ok (.iastore, 1) := by decide +kernel
theorem d10_init_674 : decode c10_init 674 = .ok (.dup, 1) := by decide +kernel
theorem d10_init_675 : decode c10_init 675 = .ok (.bipush 9, 2) := by decide +kernel
theorem d10_init_677 : decode c10_init 677 = .ok (.iconst 0, 1) := by decide +kernel
theorem d10_init_678 : decode c10_init 678 = .ok (.iastore, 1) := by decide +kernel
theorem d10_init_679 : decode c10_init 679 = .ok (.dup, 1) := by decide +kernel
theorem d10_init_680 : decode c10_init 680 = .ok (.bipush 10, 2) := by decide +kernel
theorem d10_init_682 : decode c10_init 682 = .ok (.iconst 0, 1) := by decide +kernel
theorem d10_init_683 : decode c10_init 683 = .ok (.iastore, 1) := by decide +kernel
theorem d10_init_684 : decode c10_init 684 = .ok (.dup, 1) := by decide +kernel
theorem d10_init_685 : decode c10_init 685 = .ok (.bipush 11, 2) := by decide +kernel
theorem d10_init_687 : decode c10_init 687 = .ok (.iconst 1, 1) := by decide +kernel
theorem d10_init_688 : decode c10_init 688 = .ok (.iastore, 1) := by decide +kernel
theorem d10_init_689 : decode c10_init 689 = .ok (.putfield 23, 3) := by decide +kernel
theorem d10_init_692 : decode c10_init 692 = .ok (.aload_n 0, 1) := by decide +kernel
theorem d10_init_693 : decode c10_init 693 = .ok (.iconst 4, 1) := by decide +kernel
theorem d10_init_694 : decode c10_init 694 = .ok (.putfield 26, 3) := by decide +kernel
theorem d10_init_697 : decode c10_init 697 = .ok (.aload_n 0, 1) := by decide +kernel
theorem d10_init_698 : decode c10_init 698 = .ok (.bipush 64, 2) := by decide +kernel
theorem d10_init_700 : decode c10_init 700 = .ok (.newarray .int, 2) := by decide +kernel
theorem d10_init_702 : decode c10_init 702 = .ok (.putfield 29, 3) := by decide +kernel
theorem d10_init_705 : decode c10_init 705 = .ok (.aload_n 0, 1) := by decide +kernel
theorem d10_init_706 : decode c10_init 706 = .ok (.bipush 16, 2) := by decide +kernel
theorem d10_init_708 : decode c10_init 708 = .ok (.newarray .int, 2) := by decide +kernel
theorem d10_init_710 : decode c10_init 710 = .ok (.putfield 32, 3) := by decide +kernel
theorem d10_init_713 : decode c10_init 713 = .ok (.aload_n 0, 1) := by decide +kernel
theorem d10_init_714 : decode c10_init 714 = .ok (.bipush 16, 2) := by decide +kernel
theorem d10_init_716 : decode c10_init 716 = .ok (.newarray .int, 2) := by decide +kernel
theorem d10_init_718 : decode c10_init 718 = .ok (.putfield 35, 3) := by decide +kernel
theorem d10_init_721 : decode c10_init 721 = .ok (.aload_n 0, 1) := by decide +kernel
theorem d10_init_722 : decode c10_init 722 = .ok (.bipush 16, 2) := by decide +kernel
theorem d10_init_724 : decode c10_init 724 = .ok (.newarray .boolean, 2) := by decide +kernel
theorem d10_init_726 : decode c10_init 726 = .ok (.putfield 38, 3) := by decide +kernel
theorem d10_init_729 : decode c10_init 729 = .ok (.aload_n 0, 1) := by decide +kernel
theorem d10_init_730 : decode c10_init 730 = .ok (.bipush 13, 2) := by decide +kernel
theorem d10_init_732 : decode c10_init 732 = .ok (.newarray .boolean, 2) := by decide +kernel
theorem d10_init_734 : decode c10_init 734 = .ok (.putfield 42, 3) := by decide +kernel
theorem d10_init_737 : decode c10_init 737 = .ok (.aload_n 0, 1) := by decide +kernel
theorem d10_init_738 : decode c10_init 738 = .ok (.bipush 9, 2) := by decide +kernel
theorem d10_init_740 : decode c10_init 740 = .ok (.newarray .int, 2) := by decide +kernel
theorem d10_init_742 : decode c10_init 742 = .ok (.dup, 1) := by decide +kernel
theorem d10_init_743 : decode c10_init 743 = .ok (.iconst 0, 1) := by decide +kernel
theorem d10_init_744 : decode c10_init 744 = .ok (.iconst 1, 1) := by decide +kernel
theorem d10_init_745 : decode c10_init 745 = .ok (.iastore, 1) := by decide +kernel
theorem d10_init_746 : decode c10_init 746 = .ok (.dup, 1) := by decide +kernel
theorem d10_init_747 : decode c10_init 747 = .ok (.iconst 1, 1) := by decide +kernel
theorem d10_init_748 : decode c10_init 748 = .ok (.iconst 2, 1) := by decide +kernel
theorem d10_init_749 : decode c10_init 749 = .ok (.iastore, 1) := by decide +kernel
theorem d10_init_750 : decode c10_init 750 = .ok (.dup, 1) := by decide +kernel
theorem d10_init_751 : decode c10_init 751 = .ok (.iconst 2, 1) := by decide +kernel
theorem d10_init_752 : decode c10_init 752 = .ok (.iconst 2, 1) := by decide +kernel
theorem d10_init_753 : decode c10_init 753 = .ok (.iastore, 1) := by decide +kernel
theorem d10_init_754 : decode c10_init 754 = .ok (.dup, 1) := by decide +kernel
theorem d10_init_755 : decode c10_init 755 = .ok (.iconst 3, 1) := by decide +kernel
theorem d10_init_756 : decode c10_init 756 = .ok (.iconst 1, 1) := by decide +kernel
theorem d10_init_757 : decode c10_init 757 = .ok (.iastore, 1) := by decide +kernel
theorem d10_init_758 : decode c10_init 758 = .ok (.dup, 1) := by decide +kernel
theorem d10_init_759 : decode c10_init 759 = .ok (.iconst 4, 1) := by decide +kernel
theorem d10_init_760 : decode c10_init 760 = .ok (.iconst 1, 1) := by decide +kernel
theorem d10_init_761 : decode c10_init 761 = .ok (.iastore, 1) := by decide +kernel
theorem d10_init_762 : decode c10_init 762 = .ok (.dup, 1) := by decide +kernel
theorem d10_init_763 : decode c10_init 763 = .ok (.iconst 5, 1) := by decide +kernel
theorem d10_init_764 : decode c10_init 764 = .ok (.iconst 4, 1) := by decide +kernel
theorem d10_init_765 : decode c10_init 765 = .ok (.iastore, 1) := by decide +kernel
theorem d10_init_766 : decode c10_init 766 = .ok (.dup, 1) := by decide +kernel
theorem d10_init_767 : decode c10_init 767 = .ok (.bipush 6, 2) := by decide +kernel
theorem d10_init_769 : decode c10_init 769 = .ok (.iconst 2, 1) := by decide +kernel
theorem d10_init_770 : decode c10_init 770 = .ok (.iastore, 1) := by decide +kernel
theorem d10_init_771 : decode c10_init 771 = .ok (.dup, 1) := by decide +kernel
theorem d10_init_772 : decode c10_init 772 = .ok (.bipush 7, 2) := by decide +kernel
theorem d10_init_774 : decode c10_init 774 = .ok (.iconst 5, 1) := by decide +kernel
theorem d10_init_775 : decode c10_init 775 = .ok (.iastore, 1) := by decide +kernel
theorem d10_init_776 : decode c10_init 776 = .ok (.dup, 1) := by decide +kernel
theorem d10_init_777 : decode c10_init 777 = .ok (.bipush 8, 2) := by decide +kernel
theorem d10_init_779 : decode c10_init 779 = .ok (.iconst 2, 1) := by decide +kernel
theorem d10_init_780 : decode c10_init 780 = .ok (.iastore, 1) := by decide +kernel
theorem d10_init_781 : decode c10_init 781 = .ok (.putfield 45, 3) := by decide +kernel
theorem d10_init_784 : decode c10_init 784 = .ok (.aload_n 0, 1) := by decide +kernel
theorem d10_init_785 : decode c10_init 785 = .ok (.iconst 4, 1) := by decide +kernel
theorem d10_init_786 : decode c10_init 786 = .ok (.newarray .int, 2) := by decide +kernel
theorem d10_init_788 : decode c10_init 788 = .ok (.dup, 1) := by decide +kernel
theorem d10_init_789 : decode c10_init 789 = .ok (.iconst 0, 1) := by decide +kernel
theorem d10_init_790 : decode c10_init 790 = .ok (.bipush 60, 2) := by decide +kernel
theorem d10_init_792 : decode c10_init 792 = .ok (.iastore, 1) := by decide +kernel
theorem d10_init_793 : decode c10_init 793 = .ok (.dup, 1) := by decide +kernel
theorem d10_init_794 : decode c10_init 794 = .ok (.iconst 1, 1) := by decide +kernel
theorem d10_init_795 : decode c10_init 795 = .ok (.bipush 53, 2) := by decide +kernel
theorem d10_init_797 : decode c10_init 797 = .ok (.iastore, 1) := by decide +kernel
theorem d10_init_798 : decode c10_init 798 = .ok (.dup, 1) := by decide +kernel
theorem d10_init_799 : decode c10_init 799 = .ok (.iconst 2, 1) := by decide +kernel
theorem d10_init_800 : decode c10_init 800 = .ok (.bipush 48, 2) := by decide +kernel
theorem d10_init_802 : decode c10_init 802 = .ok (.iastore, 1) := by decide +kernel
theorem d10_init_803 : decode c10_init 803 = .ok (.dup, 1) := by decide +kernel
theorem d10_init_804 : decode c10_init 804 = .ok (.iconst 3, 1) := by decide +kernel
theorem d10_init_805 : decode c10_init 805 = .ok (.bipush 40, 2) := by decide +kernel
theorem d10_init_807 : decode c10_init 807 = .ok (.iastore, 1) := by decide +kernel
theorem d10_init_808 : decode c10_init 808 = .ok (.putfield 48, 3) := by decide +kernel
theorem d10_init_811 : decode c10_init 811 = .ok (.aload_n 0, 1) := by decide +kernel
theorem d10_init_812 : decode c10_init 812 = .ok (.iconst 4, 1) := by decide +kernel
theorem d10_init_813 : decode c10_init 813 = .ok (.newarray .int, 2) := by decide +kernel
theorem d10_init_815 : decode c10_init 815 = .ok (.dup, 1) := by decide +kernel
theorem d10_init_816 : decode c10_init 816 = .ok (.iconst 0, 1) := by decide +kernel
theorem d10_init_817 : decode c10_init 817 = .ok (.bipush 81, 2) := by decide +kernel
theorem d10_init_819 : decode c10_init 819 = .ok (.iastore, 1) := by decide +kernel
theorem d10_init_820 : decode c10_init 820 = .ok (.dup, 1) := by decide +kernel
theorem d10_init_821 : decode c10_init 821 = .ok (.iconst 1, 1) := by decide +kernel
theorem d10_init_822 : decode c10_init 822 = .ok (.bipush 74, 2) := by decide +kernel
theorem d10_init_824 : decode c10_init 824 = .ok (.iastore, 1) := by decide +kernel
theorem d10_init_825 : decode c10_init 825 = .ok (.dup, 1) := by decide +kernel
theorem d10_init_826 : decode c10_init 826 = .ok (.iconst 2, 1) := by decide +kernel
theorem d10_init_827 : decode c10_init 827 = .ok (.bipush 69, 2) := by decide +kernel
theorem d10_init_829 : decode c10_init 829 = .ok (.iastore, 1) := by decide +kernel
theorem d10_init_830 : decode c10_init 830 = .ok (.dup, 1) := by decide +kernel
theorem d10_init_831 : decode c10_init 831 = .ok (.iconst 3, 1) := by decide +kernel
theorem d10_init_832 : decode c10_init 832 = .ok (.bipush 62, 2) := by decide +kernel
theorem d10_init_834 : decode c10_init 834 = .ok (.iastore, 1) := by decide +kernel
theorem d10_init_835 : decode c10_init 835 = .ok (.putfield 51, 3) := by decide +kernel
theorem d10_init_838 : decode c10_init 838 = .ok (.aload_n 0, 1) := by decide +kernel
theorem d10_init_839 : decode c10_init 839 = .ok (.sipush 25600, 3) := by decide +kernel
theorem d10_init_842 : decode c10_init 842 = .ok (.newarray .int, 2) := by decide +kernel
theorem d10_init_844 : decode c10_init 844 = .ok (.putfield 54, 3) := by decide +kernel
theorem d10_init_847 : decode c10_init 847 = .ok (.aload_n 0, 1) := by decide +kernel
theorem d10_init_848 : decode c10_init 848 = .ok (.sipush 6400, 3) := by decide +kernel
theorem d10_init_851 : decode c10_init 851 = .ok (.newarray .int, 2) := by decide +kernel
theorem d10_init_853 : decode c10_init 853 = .ok (.putfield 57, 3) := by decide +kernel
theorem d10_init_856 : decode c10_init 856 = .ok (.aload_n 0, 1) := by decide +kernel
theorem d10_init_857 : decode c10_init 857 = .ok (.sipush 6400, 3) := by decide +kernel
theorem d10_init_860 : decode c10_init 860 = .ok (.newarray .int, 2) := by decide +kernel
theorem d10_init_862 : decode c10_init 862 = .ok (.putfield 60, 3) := by decide +kernel
theorem d10_init_865 : decode c10_init 865 = .ok (.aload_n 0, 1) := by decide +kernel
theorem d10_init_866 : decode c10_init 866 = .ok (.bipush 16, 2) := by decide +kernel
theorem d10_init_868 : decode c10_init 868 = .ok (.newarray .int, 2) := by decide +kernel
theorem d10_init_870 : decode c10_init 870 = .ok (.putfield 63, 3) := by decide +kernel
theorem d10_init_873 : decode c10_init 873 = .ok (.aload_n 0, 1) := by decide +kernel
theorem d10_init_874 : decode c10_init 874 = .ok (.sipush 25600, 3) := by decide +kernel
theorem d10_init_877 : decode c10_init 877 = .ok (.newarray .int, 2) := by decide +kernel
theorem d10_init_879 : decode c10_init 879 = .ok (.putfield 66, 3) := by decide +kernel
theorem d10_init_882 : decode c10_init 882 = .ok (.aload_n 0, 1) := by decide +kernel
theorem d10_init_883 : decode c10_init 883 = .ok (.sipush 25600, 3) := by decide +kernel
theorem d10_init_886 : decode c10_init 886 = .ok (.newarray .int, 2) := by decide +kernel
theorem d10_init_888 : decode c10_init 888 = .ok (.putfield 69, 3) := by decide +kernel
theorem d10_init_891 : decode c10_init 891 = .ok (.aload_n 0, 1) := by decide +kernel
theorem d10_init_892 : decode c10_init 892 = .ok (.sipush 25600, 3) := by decide +kernel
theorem d10_init_895 : decode c10_init 895 = .ok (.newarray .int, 2) := by decide +kernel
theorem d10_init_897 : decode c10_init 897 = .ok (.putfield 72, 3) := by decide +kernel
theorem d10_init_900 : decode c10_init 900 = .ok (.aload_n 0, 1) := by decide +kernel
theorem d10_init_901 : decode c10_init 901 = .ok (.sipush 6400, 3) := by decide +kernel
theorem d10_init_904 : decode c10_init 904 = .ok (.newarray .int, 2) := by decide +kernel
theorem d10_init_906 : decode c10_init 906 = .ok (.putfield 75, 3) := by decide +kernel
theorem d10_init_909 : decode c10_init 909 = .ok (.aload_n 0, 1) := by decide +kernel
theorem d10_init_910 : decode c10_init 910 = .ok (.sipush 6400, 3) := by decide +kernel
theorem d10_init_913 : decode c10_init 913 = .ok (.newarray .boolean, 2) := by decide +kernel
theorem d10_init_915 : decode c10_init 915 = .ok (.putfield 78, 3) := by decide +kernel
theorem d10_init_918 : decode c10_init 918 = .ok (.aload_n 0, 1) := by decide +kernel
theorem d10_init_919 : decode c10_init 919 = .ok (.sipush 6400, 3) := by decide +kernel
theorem d10_init_922 : decode c10_init 922 = .ok (.newarray .boolean, 2) := by decide +kernel
theorem d10_init_924 : decode c10_init 924 = .ok (.putfield 81, 3) := by decide +kernel
theorem d10_init_927 : decode c10_init 927 = .ok (.aload_n 0, 1) := by decide +kernel
theorem d10_init_928 : decode c10_init 928 = .ok (.sipush 256, 3) := by decide +kernel
theorem d10_init_931 : decode c10_init 931 = .ok (.newarray .int, 2) := by decide +kernel
theorem d10_init_933 : decode c10_init 933 = .ok (.putfield 84, 3) := by decide +kernel
theorem d10_init_936 : decode c10_init 936 = .ok (.aload_n 0, 1) := by decide +kernel
theorem d10_init_937 : decode c10_init 937 = .ok (.bipush 64, 2) := by decide +kernel
theorem d10_init_939 : decode c10_init 939 = .ok (.newarray .int, 2) := by decide +kernel
theorem d10_init_941 : decode c10_init 941 = .ok (.putfield 87, 3) := by decide +kernel
theorem d10_init_944 : decode c10_init 944 = .ok (.aload_n 0, 1) := by decide +kernel
theorem d10_init_945 : decode c10_init 945 = .ok (.iconst 4, 1) := by decide +kernel
theorem d10_init_946 : decode c10_init 946 = .ok (.newarray .int, 2) := by decide +kernel
theorem d10_init_948 : decode c10_init 948 = .ok (.putfield 90, 3) := by decide +kernel
theorem d10_init_951 : decode c10_init 951 = .ok (.aload_n 0, 1) := by decide +kernel
theorem d10_init_952 : decode c10_init 952 = .ok (.iconst 4, 1) := by decide +kernel
theorem d10_init_953 : decode c10_init 953 = .ok (.newarray .int, 2) := by decide +kernel
theorem d10_init_955 : decode c10_init 955 = .ok (.putfield 93, 3) := by decide +kernel
theorem d10_init_958 : decode c10_init 958 = .ok (.aload_n 0, 1) := by decide +kernel
theorem d10_init_959 : decode c10_init 959 = .ok (.iconst 4, 1) := by decide +kernel
theorem d10_init_960 : decode c10_init 960 = .ok (.newarray .int, 2) := by decide +kernel
theorem d10_init_962 : decode c10_init 962 = .ok (.putfield 96, 3) := by decide +kernel
theorem d10_init_965 : decode c10_init 965 = .ok (.aload_n 0, 1) := by decide +kernel
theorem d10_init_966 : decode c10_init 966 = .ok (.iconst 4, 1) := by decide +kernel
theorem d10_init_967 : decode c10_init 967 = .ok (.newarray .int, 2) := by decide +kernel
theorem d10_init_969 : decode c10_init 969 = .ok (.putfield 99, 3) := by decide +kernel
theorem d10_init_972 : decode c10_init 972 = .ok (.aload_n 0, 1) := by decide +kernel
theorem d10_init_973 : decode c10_init 973 = .ok (.iconst 0, 1) := by decide +kernel
theorem d10_init_974 : decode c10_init 974 = .ok (.putfield 1, 3) := by decide +kernel
theorem d10_init_977 : decode c10_init 977 = .ok (.iconst 0, 1) := by decide +kernel
theorem d10_init_978 : decode c10_init 978 = .ok (.istore_n 1, 1) := by decide +kernel
theorem d10_init_979 : decode c10_init 979 = .ok (.iload_n 1, 1) := by decide +kernel
theorem d10_init_980 : decode c10_init 980 = .ok (.bipush 64, 2) := by decide +kernel
theorem d10_init_982 : decode c10_init 982 = .ok (.if_icmp .ge 17, 3) := by decide +kernel
theorem d10_init_985 : decode c10_init 985 = .ok (.aload_n 0, 1) := by decide +kernel
theorem d10_init_986 : decode c10_init 986 = .ok (.getfield 29, 3) := by decide +kernel
theorem d10_init_989 : decode c10_init 989 = .ok (.iload_n 1, 1) := by decide +kernel
theorem d10_init_990 : decode c10_init 990 = .ok (.bipush (-2), 2) := by decide +kernel
theorem d10_init_992 : decode c10_init 992 = .ok (.iastore, 1) := by decide +kernel
theorem d10_init_993 : decode c10_init 993 = .ok (.iinc 1 1, 3) := by decide +kernel
theorem d10_init_996 : decode c10_init 996 = .ok (.goto (-17), 3) := by decide +kernel
theorem d10_init_999 : decode c10_init 999 = .ok (.iconst 0, 1) := by decide +kernel
theorem d10_init_1000 : decode c10_init 1000 = .ok (.istore_n 1, 1) := by decide +kernel
theorem d10_init_1001 : decode c10_init 1001 = .ok (.iload_n 1, 1) := by decide +kernel
theorem d10_init_1002 : decode c10_init 1002 = .ok (.bipush 16, 2) := by decide +kernel
theorem d10_init_1004 : decode c10_init 1004 = .ok (.if_icmp .ge 25, 3) := by decide +kernel
theorem d10_init_1007 : decode c10_init 1007 = .ok (.aload_n 0, 1) := by decide +kernel
theorem d10_init_1008 : decode c10_init 1008 = .ok (.getfield 32, 3) := by decide +kernel
theorem d10_init_1011 : decode c10_init 1011 = .ok (.iload_n 1, 1) := by decide +kernel
theorem d10_init_1012 : decode c10_init 1012 = .ok (.bipush (-2), 2) := by decide +kernel
theorem d10_init_1014 : decode c10_init 1014 = .ok (.iastore, 1) := by decide +kernel
theorem d10_init_1015 : decode c10_init 1015 = .ok (.aload_n 0, 1) := by decide +kernel
theorem d10_init_1016 : decode c10_init 1016 = .ok (.getfield 35, 3) := by decide +kernel
theorem d10_init_1019 : decode c10_init 1019 = .ok (.iload_n 1, 1) := by decide +kernel
theorem d10_init_1020 : decode c10_init 1020 = .ok (.bipush (-2), 2) := by decide +kernel
theorem d10_init_1022 : decode c10_init 1022 = .ok (.iastore, 1) := by decide +kernel
theorem d10_init_1023 : decode c10_init 1023 = .ok (.iinc 1 1, 3) := by decide +kernel
theorem d10_init_1026 : decode c10_init 1026 = .ok (.goto (-25), 3) := by decide +kernel
theorem d10_init_1029 : decode c10_init 1029 = .ok (.iconst 0, 1) := by decide +kernel
theorem d10_init_1030 : decode c10_init 1030 = .ok (.istore_n 1, 1) := by decide +kernel
theorem d10_init_1031 : decode c10_init 1031 = .ok (.iload_n 1, 1) := by decide +kernel
theorem d10_init_1032 : decode c10_init 1032 = .ok (.bipush 8, 2) := by decide +kernel
theorem d10_init_1034 : decode c10_init 1034 = .ok (.if_icmp .ge 16, 3) := by decide +kernel
theorem d10_init_1037 : decode c10_init 1037 = .ok (.aload_n 0, 1) := by decide +kernel
theorem d10_init_1038 : decode c10_init 1038 = .ok (.getfield 42, 3) := by decide +kernel
theorem d10_init_1041 : decode c10_init 1041 = .ok (.iload_n 1, 1) := by decide +kernel
theorem d10_init_1042 : decode c10_init 1042 = .ok (.iconst 1, 1) := by decide +kernel
theorem d10_init_1043 : decode c10_init 1043 = .ok (.bastore, 1) := by decide +kernel
theorem d10_init_1044 : decode c10_init 1044 = .ok (.iinc 1 1, 3) := by decide +kernel
theorem d10_init_1047 : decode c10_init 1047 = .ok (.goto (-16), 3) := by decide +kernel
theorem d10_init_1050 : decode c10_init 1050 = .ok (.return_, 1) := by decide +kernel
def t10_init (l : Launch) (Po : ri_O) : List ri_S := [i_al 1 0,
  i_oi 2 1 20,
  i_al 3 0,
  i_con 4 52,
  i_nwa 5 0 100 200000,
  i_dup 6,
  i_con 7 0,
  i_con 8 0,
  i_ast 9 0 (fun x => x),
  i_dup 10,
  i_con 11 1,
  i_con 12 4,
  i_ast 13 0 (fun x => x),
  i_dup 14,
  i_con 15 2,
  i_con 16 7,
  i_ast 17 0 (fun x => x),
  i_dup 18,
  i_con 19 3,
  i_con 20 (-1),
  i_ast 21 0 (fun x => x),
  i_dup 22,
  i_con 23 4,
  i_con 24 2,
  i_ast 25 0 (fun x => x),
  i_dup 26,
  i_con 27 5,
  i_con 28 5,
  i_ast 29 0 (fun x => x),
  i_dup 30,
  i_con 31 6,
  i_con 32 9,
  i_ast 33 0 (fun x => x),
  i_dup 34,
  i_con 35 7,
  i_con 36 (-1),
  i_ast 37 0 (fun x => x),
  i_dup 38,
  i_con 39 8,
  i_con 40 4,
  i_ast 41 0 (fun x => x),
  i_dup 42,
  i_con 43 9,
  i_con 44 7,
  i_ast 45 0 (fun x => x),
  i_dup 46,
  i_con 47 10,
  i_con 48 11,
  i_ast 49 0 (fun x => x),
  i_dup 50,
  i_con 51 11,
  i_con 52 (-1),
  i_ast 53 0 (fun x => x),
  i_dup 54,
  i_con 55 12,
  i_con 56 5,
  i_ast 57 0 (fun x => x),
  i_dup 58,
  i_con 59 13,
  i_con 60 9,
  i_ast 61 0 (fun x => x),
  i_dup 62,
  i_con 63 14,
  i_con 64 0,
  i_ast 65 0 (fun x => x),
  i_dup 66,
  i_con 67 15,
  i_con 68 (-1),
  i_ast 69 0 (fun x => x),
  i_dup 70,
  i_con 71 16,
  i_con 72 7,
  i_ast 73 0 (fun x => x),
  i_dup 74,
  i_con 75 17,
  i_con 76 11,
  i_ast 77 0 (fun x => x),
  i_dup 78,
  i_con 79 18,
  i_con 80 2,
  i_ast 81 0 (fun x => x),
  i_dup 82,
  i_con 83 19,
  i_con 84 (-1),
  i_ast 85 0 (fun x => x),
  i_dup 86,
  i_con 87 20,
  i_con 88 9,
  i_ast 89 0 (fun x => x),
  i_dup 90,
  i_con 91 21,
  i_con 92 0,
  i_ast 93 0 (fun x => x),
  i_dup 94,
  i_con 95 22,
  i_con 96 4,
  i_ast 97 0 (fun x => x),
  i_dup 98,
  i_con 99 23,
  i_con 100 (-1),
  i_ast 101 0 (fun x => x),
  i_dup 102,
  i_con 103 24,
  i_con 104 11,
  i_ast 105 0 (fun x => x),
  i_dup 106,
  i_con 107 25,
  i_con 108 2,
  i_ast 109 0 (fun x => x),
  i_dup 110,
  i_con 111 26,
  i_con 112 5,
  i_ast 113 0 (fun x => x),
  i_dup 114,
  i_con 115 27,
  i_con 116 (-1),
  i_ast 117 0 (fun x => x),
  i_dup 118,
  i_con 119 28,
  i_con 120 7,
  i_ast 121 0 (fun x => x),
  i_dup 122,
  i_con 123 29,
  i_con 124 11,
  i_ast 125 0 (fun x => x),
  i_dup 126,
  i_con 127 30,
  i_con 128 2,
  i_ast 129 0 (fun x => x),
  i_dup 130,
  i_con 131 31,
  i_con 132 5,
  i_ast 133 0 (fun x => x),
  i_dup 134,
  i_con 135 32,
  i_con 136 2,
  i_ast 137 0 (fun x => x),
  i_dup 138,
  i_con 139 33,
  i_con 140 5,
  i_ast 141 0 (fun x => x),
  i_dup 142,
  i_con 143 34,
  i_con 144 9,
  i_ast 145 0 (fun x => x),
  i_dup 146,
  i_con 147 35,
  i_con 148 0,
  i_ast 149 0 (fun x => x),
  i_dup 150,
  i_con 151 36,
  i_con 152 2,
  i_ast 153 0 (fun x => x),
  i_dup 154,
  i_con 155 37,
  i_con 156 6,
  i_ast 157 0 (fun x => x),
  i_dup 158,
  i_con 159 38,
  i_con 160 9,
  i_ast 161 0 (fun x => x),
  i_dup 162,
  i_con 163 39,
  i_con 164 (-1),
  i_ast 165 0 (fun x => x),
  i_dup 166,
  i_con 167 40,
  i_con 168 2,
  i_ast 169 0 (fun x => x),
  i_dup 170,
  i_con 171 41,
  i_con 172 6,
  i_ast 173 0 (fun x => x),
  i_dup 174,
  i_con 175 42,
  i_con 176 9,
  i_ast 177 0 (fun x => x),
  i_dup 178,
  i_con 179 43,
  i_con 180 0,
  i_ast 181 0 (fun x => x),
  i_dup 182,
  i_con 183 44,
  i_con 184 4,
  i_ast 185 0 (fun x => x),
  i_dup 186,
  i_con 187 45,
  i_con 188 8,
  i_ast 189 0 (fun x => x),
  i_dup 190,
  i_con 191 46,
  i_con 192 11,
  i_ast 193 0 (fun x => x),
  i_dup 194,
  i_con 195 47,
  i_con 196 (-1),
  i_ast 197 0 (fun x => x),
  i_dup 198,
  i_con 199 48,
  i_con 200 0,
  i_ast 201 0 (fun x => x),
  i_dup 202,
  i_con 203 49,
  i_con 204 4,
  i_ast 205 0 (fun x => x),
  i_dup 206,
  i_con 207 50,
  i_con 208 7,
  i_ast 209 0 (fun x => x),
  i_dup 210,
  i_con 211 51,
  i_con 212 10,
  i_ast 213 0 (fun x => x),
  i_put 214 10 1 ri_isR,
  i_al 215 0,
  i_con 216 52,
  i_nwa 217 0 100 200000,
  i_dup 218,
  i_con 219 0,
  i_con 220 0,
  i_ast 221 0 (fun x => x),
  i_dup 222,
  i_con 223 1,
  i_con 224 3,
  i_ast 225 0 (fun x => x),
  i_dup 226,
  i_con 227 2,
  i_con 228 7,
  i_ast 229 0 (fun x => x),
  i_dup 230,
  i_con 231 3,
  i_con 232 (-1),
  i_ast 233 0 (fun x => x),
  i_dup 234,
  i_con 235 4,
  i_con 236 2,
  i_ast 237 0 (fun x => x),
  i_dup 238,
  i_con 239 5,
  i_con 240 5,
  i_ast 241 0 (fun x => x),
  i_dup 242,
  i_con 243 6,
  i_con 244 8,
  i_ast 245 0 (fun x => x),
  i_dup 246,
  i_con 247 7,
  i_con 248 (-1),
  i_ast 249 0 (fun x => x),
  i_dup 250,
  i_con 251 8,
  i_con 252 3,
  i_ast 253 0 (fun x => x),
  i_dup 254,
  i_con 255 9,
  i_con 256 7,
  i_ast 257 0 (fun x => x),
  i_dup 258,
  i_con 259 10,
  i_con 260 10,
  i_ast 261 0 (fun x => x),
  i_dup 262,
  i_con 263 11,
  i_con 264 (-1),
  i_ast 265 0 (fun x => x),
  i_dup 266,
  i_con 267 12,
  i_con 268 5,
  i_ast 269 0 (fun x => x),
  i_dup 270,
  i_con 271 13,
  i_con 272 8,
  i_ast 273 0 (fun x => x),
  i_dup 274,
  i_con 275 14,
  i_con 276 0,
  i_ast 277 0 (fun x => x),
  i_dup 278,
  i_con 279 15,
  i_con 280 (-1),
  i_ast 281 0 (fun x => x),
  i_dup 282,
  i_con 283 16,
  i_con 284 7,
  i_ast 285 0 (fun x => x),
  i_dup 286,
  i_con 287 17,
  i_con 288 11,
  i_ast 289 0 (fun x => x),
  i_dup 290,
  i_con 291 18,
  i_con 292 2,
  i_ast 293 0 (fun x => x),
  i_dup 294,
  i_con 295 19,
  i_con 296 (-1),
  i_ast 297 0 (fun x => x),
  i_dup 298,
  i_con 299 20,
  i_con 300 8,
  i_ast 301 0 (fun x => x),
  i_dup 302,
  i_con 303 21,
  i_con 304 0,
  i_ast 305 0 (fun x => x),
  i_dup 306,
  i_con 307 22,
  i_con 308 3,
  i_ast 309 0 (fun x => x),
  i_dup 310,
  i_con 311 23,
  i_con 312 (-1),
  i_ast 313 0 (fun x => x),
  i_dup 314,
  i_con 315 24,
  i_con 316 11,
  i_ast 317 0 (fun x => x),
  i_dup 318,
  i_con 319 25,
  i_con 320 2,
  i_ast 321 0 (fun x => x),
  i_dup 322,
  i_con 323 26,
  i_con 324 5,
  i_ast 325 0 (fun x => x),
  i_dup 326,
  i_con 327 27,
  i_con 328 (-1),
  i_ast 329 0 (fun x => x),
  i_dup 330,
  i_con 331 28,
  i_con 332 7,
  i_ast 333 0 (fun x => x),
  i_dup 334,
  i_con 335 29,
  i_con 336 11,
  i_ast 337 0 (fun x => x),
  i_dup 338,
  i_con 339 30,
  i_con 340 2,
  i_ast 341 0 (fun x => x),
  i_dup 342,
  i_con 343 31,
  i_con 344 5,
  i_ast 345 0 (fun x => x),
  i_dup 346,
  i_con 347 32,
  i_con 348 2,
  i_ast 349 0 (fun x => x),
  i_dup 350,
  i_con 351 33,
  i_con 352 5,
  i_ast 353 0 (fun x => x),
  i_dup 354,
  i_con 355 34,
  i_con 356 8,
  i_ast 357 0 (fun x => x),
  i_dup 358,
  i_con 359 35,
  i_con 360 0,
  i_ast 361 0 (fun x => x),
  i_dup 362,
  i_con 363 36,
  i_con 364 2,
  i_ast 365 0 (fun x => x),
  i_dup 366,
  i_con 367 37,
  i_con 368 6,
  i_ast 369 0 (fun x => x),
  i_dup 370,
  i_con 371 38,
  i_con 372 9,
  i_ast 373 0 (fun x => x),
  i_dup 374,
  i_con 375 39,
  i_con 376 (-1),
  i_ast 377 0 (fun x => x),
  i_dup 378,
  i_con 379 40,
  i_con 380 2,
  i_ast 381 0 (fun x => x),
  i_dup 382,
  i_con 383 41,
  i_con 384 6,
  i_ast 385 0 (fun x => x),
  i_dup 386,
  i_con 387 42,
  i_con 388 9,
  i_ast 389 0 (fun x => x),
  i_dup 390,
  i_con 391 43,
  i_con 392 0,
  i_ast 393 0 (fun x => x),
  i_dup 394,
  i_con 395 44,
  i_con 396 3,
  i_ast 397 0 (fun x => x),
  i_dup 398,
  i_con 399 45,
  i_con 400 7,
  i_ast 401 0 (fun x => x),
  i_dup 402,
  i_con 403 46,
  i_con 404 10,
  i_ast 405 0 (fun x => x),
  i_dup 406,
  i_con 407 47,
  i_con 408 (-1),
  i_ast 409 0 (fun x => x),
  i_dup 410,
  i_con 411 48,
  i_con 412 0,
  i_ast 413 0 (fun x => x),
  i_dup 414,
  i_con 415 49,
  i_con 416 4,
  i_ast 417 0 (fun x => x),
  i_dup 418,
  i_con 419 50,
  i_con 420 7,
  i_ast 421 0 (fun x => x),
  i_dup 422,
  i_con 423 51,
  i_con 424 10,
  i_ast 425 0 (fun x => x),
  i_put 426 10 2 ri_isR,
  i_al 427 0,
  i_con 428 12,
  i_nwa 429 0 100 200000,
  i_dup 430,
  i_con 431 0,
  i_con 432 1,
  i_ast 433 0 (fun x => x),
  i_dup 434,
  i_con 435 1,
  i_con 436 0,
  i_ast 437 0 (fun x => x),
  i_dup 438,
  i_con 439 2,
  i_con 440 1,
  i_ast 441 0 (fun x => x),
  i_dup 442,
  i_con 443 3,
  i_con 444 0,
  i_ast 445 0 (fun x => x),
  i_dup 446,
  i_con 447 4,
  i_con 448 1,
  i_ast 449 0 (fun x => x),
  i_dup 450,
  i_con 451 5,
  i_con 452 1,
  i_ast 453 0 (fun x => x),
  i_dup 454,
  i_con 455 6,
  i_con 456 0,
  i_ast 457 0 (fun x => x),
  i_dup 458,
  i_con 459 7,
  i_con 460 1,
  i_ast 461 0 (fun x => x),
  i_dup 462,
  i_con 463 8,
  i_con 464 0,
  i_ast 465 0 (fun x => x),
  i_dup 466,
  i_con 467 9,
  i_con 468 1,
  i_ast 469 0 (fun x => x),
  i_dup 470,
  i_con 471 10,
  i_con 472 0,
  i_ast 473 0 (fun x => x),
  i_dup 474,
  i_con 475 11,
  i_con 476 1,
  i_ast 477 0 (fun x => x),
  i_put 478 10 3 ri_isR,
  i_al 479 0,
  i_con 480 12,
  i_nwa 481 0 100 200000,
  i_dup 482,
  i_con 483 0,
  i_con 484 1,
  i_ast 485 0 (fun x => x),
  i_dup 486,
  i_con 487 1,
  i_con 488 0,
  i_ast 489 0 (fun x => x),
  i_dup 490,
  i_con 491 2,
  i_con 492 1,
  i_ast 493 0 (fun x => x),
  i_dup 494,
  i_con 495 3,
  i_con 496 1,
  i_ast 497 0 (fun x => x),
  i_dup 498,
  i_con 499 4,
  i_con 500 0,
  i_ast 501 0 (fun x => x),
  i_dup 502,
  i_con 503 5,
  i_con 504 1,
  i_ast 505 0 (fun x => x),
  i_dup 506,
  i_con 507 6,
  i_con 508 0,
  i_ast 509 0 (fun x => x),
  i_dup 510,
  i_con 511 7,
  i_con 512 1,
  i_ast 513 0 (fun x => x),
  i_dup 514,
  i_con 515 8,
  i_con 516 1,
  i_ast 517 0 (fun x => x),
  i_dup 518,
  i_con 519 9,
  i_con 520 0,
  i_ast 521 0 (fun x => x),
  i_dup 522,
  i_con 523 10,
  i_con 524 0,
  i_ast 525 0 (fun x => x),
  i_dup 526,
  i_con 527 11,
  i_con 528 1,
  i_ast 529 0 (fun x => x),
  i_put 530 10 4 ri_isR,
  i_al 531 0,
  i_con 532 4,
  i_put 533 10 7 ri_isI,
  i_al 534 0,
  i_con 535 64,
  i_nwa 536 0 100 200000,
  i_put 537 10 8 ri_isR,
  i_al 538 0,
  i_con 539 16,
  i_nwa 540 0 100 200000,
  i_put 541 10 9 ri_isR,
  i_al 542 0,
  i_con 543 16,
  i_nwa 544 0 100 200000,
  i_put 545 10 10 ri_isR,
  i_al 546 0,
  i_con 547 16,
  i_nwa 548 1 100 200000,
  i_put 549 10 11 ri_isR,
  i_al 550 0,
  i_con 551 13,
  i_nwa 552 1 100 200000,
  i_put 553 10 12 ri_isR,
  i_al 554 0,
  i_con 555 9,
  i_nwa 556 0 100 200000,
  i_dup 557,
  i_con 558 0,
  i_con 559 1,
  i_ast 560 0 (fun x => x),
  i_dup 561,
  i_con 562 1,
  i_con 563 2,
  i_ast 564 0 (fun x => x),
  i_dup 565,
  i_con 566 2,
  i_con 567 2,
  i_ast 568 0 (fun x => x),
  i_dup 569,
  i_con 570 3,
  i_con 571 1,
  i_ast 572 0 (fun x => x),
  i_dup 573,
  i_con 574 4,
  i_con 575 1,
  i_ast 576 0 (fun x => x),
  i_dup 577,
  i_con 578 5,
  i_con 579 4,
  i_ast 580 0 (fun x => x),
  i_dup 581,
  i_con 582 6,
  i_con 583 2,
  i_ast 584 0 (fun x => x),
  i_dup 585,
  i_con 586 7,
  i_con 587 5,
  i_ast 588 0 (fun x => x),
  i_dup 589,
  i_con 590 8,
  i_con 591 2,
  i_ast 592 0 (fun x => x),
  i_put 593 10 13 ri_isR,
  i_al 594 0,
  i_con 595 4,
  i_nwa 596 0 100 200000,
  i_dup 597,
  i_con 598 0,
  i_con 599 60,
  i_ast 600 0 (fun x => x),
  i_dup 601,
  i_con 602 1,
  i_con 603 53,
  i_ast 604 0 (fun x => x),
  i_dup 605,
  i_con 606 2,
  i_con 607 48,
  i_ast 608 0 (fun x => x),
  i_dup 609,
  i_con 610 3,
  i_con 611 40,
  i_ast 612 0 (fun x => x),
  i_put 613 10 14 ri_isR,
  i_al 614 0,
  i_con 615 4,
  i_nwa 616 0 100 200000,
  i_dup 617,
  i_con 618 0,
  i_con 619 81,
  i_ast 620 0 (fun x => x),
  i_dup 621,
  i_con 622 1,
  i_con 623 74,
  i_ast 624 0 (fun x => x),
  i_dup 625,
  i_con 626 2,
  i_con 627 69,
  i_ast 628 0 (fun x => x),
  i_dup 629,
  i_con 630 3,
  i_con 631 62,
  i_ast 632 0 (fun x => x),
  i_put 633 10 15 ri_isR,
  i_al 634 0,
  i_con 635 25600,
  i_nwa 636 0 100 200000,
  i_put 637 10 16 ri_isR,
  i_al 638 0,
  i_con 639 6400,
  i_nwa 640 0 100 200000,
  i_put 641 10 17 ri_isR,
  i_al 642 0,
  i_con 643 6400,
  i_nwa 644 0 100 200000,
  i_put 645 10 18 ri_isR,
  i_al 646 0,
  i_con 647 16,
  i_nwa 648 0 100 200000,
  i_put 649 10 19 ri_isR,
  i_al 650 0,
  i_con 651 25600,
  i_nwa 652 0 100 200000,
  i_put 653 10 20 ri_isR,
  i_al 654 0,
  i_con 655 25600,
  i_nwa 656 0 100 200000,
  i_put 657 10 21 ri_isR,
  i_al 658 0,
  i_con 659 25600,
  i_nwa 660 0 100 200000,
  i_put 661 10 22 ri_isR,
  i_al 662 0,
  i_con 663 6400,
  i_nwa 664 0 100 200000,
  i_put 665 10 23 ri_isR,
  i_al 666 0,
  i_con 667 6400,
  i_nwa 668 1 100 200000,
  i_put 669 10 24 ri_isR,
  i_al 670 0,
  i_con 671 6400,
  i_nwa 672 1 100 200000,
  i_put 673 10 25 ri_isR,
  i_al 674 0,
  i_con 675 256,
  i_nwa 676 0 100 200000,
  i_put 677 10 27 ri_isR,
  i_al 678 0,
  i_con 679 64,
  i_nwa 680 0 100 200000,
  i_put 681 10 28 ri_isR,
  i_al 682 0,
  i_con 683 4,
  i_nwa 684 0 100 200000,
  i_put 685 10 29 ri_isR,
  i_al 686 0,
  i_con 687 4,
  i_nwa 688 0 100 200000,
  i_put 689 10 31 ri_isR,
  i_al 690 0,
  i_con 691 4,
  i_nwa 692 0 100 200000,
  i_put 693 10 33 ri_isR,
  i_al 694 0,
  i_con 695 4,
  i_nwa 696 0 100 200000,
  i_put 697 10 34 ri_isR,
  i_al 698 0,
  i_con 699 0,
  i_put 700 10 0 ri_isI,
  i_con 701 0,
  i_is 702 1,
  i_il 703 1,
  i_con 704 64,
  i_icmp 705 712 (fun x y => y ≤ x),
  i_al 706 0,
  i_get 707 10 8,
  i_il 708 1,
  i_con 709 (-2),
  i_ast 710 0 (fun x => x),
  i_inc 711 1 1,
  i_goto 702,
  i_con 713 0,
  i_is 714 1,
  i_il 715 1,
  i_con 716 16,
  i_icmp 717 729 (fun x y => y ≤ x),
  i_al 718 0,
  i_get 719 10 9,
  i_il 720 1,
  i_con 721 (-2),
  i_ast 722 0 (fun x => x),
  i_al 723 0,
  i_get 724 10 10,
  i_il 725 1,
  i_con 726 (-2),
  i_ast 727 0 (fun x => x),
  i_inc 728 1 1,
  i_goto 714,
  i_con 730 0,
  i_is 731 1,
  i_il 732 1,
  i_con 733 8,
  i_icmp 734 741 (fun x y => y ≤ x),
  i_al 735 0,
  i_get 736 10 12,
  i_il 737 1,
  i_con 738 1,
  i_ast 739 1 (fun x => vp_nar .boolean x),
  i_inc 740 1 1,
  i_goto 731,
  i_vret Po 100 200000]
set_option maxRecDepth 20000 in
set_option maxHeartbeats 4000000 in
theorem z10_init (l : Launch) (Po : ri_O) (p : Program) (e : Env) (s : State) (m : MethodId) (args : Array Value) (below : List Frame) (meth : Method) (c : Code) (D : va_G) (ka : Nat → ClassId) (sa : Nat → Nat) (base : Nat) (X : ri_X p s m args c c10_init 2 w10_init "ChoraleSearchModel" D ka sa base) (hret : meth.sig.returnType = none) (hlocks : meth.locks = false) (hname : meth.name = "<init>") : ri_clo (ri_W p l e r10_init s m args below meth c D ka sa base 2 (MQ below (ri_Qc D ka sa base Po) args s 100 200000 (fun q => base ≤ q)) p10_init) (t10_init l Po) := by
  refine ri_clo_of ?_
  unfold t10_init
  exact ⟨s_aload_n X d10_init_0 rfl rfl,
    s_oi X (List.mem_cons_of_mem _ mgw_813) (List.mem_cons_of_mem _ mgw_22) (List.mem_cons_of_mem _ mgw_23) d10_init_1 rfl,
    s_aload_n X d10_init_4 rfl rfl,
    s_bipush X d10_init_5 rfl rfl,
    s_newi X rfl (List.mem_cons_of_mem _ mgw_78) d10_init_7 rfl,
    s_dup X d10_init_9 rfl,
    s_iconst X d10_init_10 rfl rfl,
    s_iconst X d10_init_11 rfl rfl,
    s_iast X rfl d10_init_12 rfl,
    s_dup X d10_init_13 rfl,
    s_iconst X d10_init_14 rfl rfl,
    s_iconst X d10_init_15 rfl rfl,
    s_iast X rfl d10_init_16 rfl,
    s_dup X d10_init_17 rfl,
    s_iconst X d10_init_18 rfl rfl,
    s_bipush X d10_init_19 rfl rfl,
    s_iast X rfl d10_init_21 rfl,
    s_dup X d10_init_22 rfl,
    s_iconst X d10_init_23 rfl rfl,
    s_iconst X d10_init_24 rfl rfl,
    s_iast X rfl d10_init_25 rfl,
    s_dup X d10_init_26 rfl,
    s_iconst X d10_init_27 rfl rfl,
    s_iconst X d10_init_28 rfl rfl,
    s_iast X rfl d10_init_29 rfl,
    s_dup X d10_init_30 rfl,
    s_iconst X d10_init_31 rfl rfl,
    s_iconst X d10_init_32 rfl rfl,
    s_iast X rfl d10_init_33 rfl,
    s_dup X d10_init_34 rfl,
    s_bipush X d10_init_35 rfl rfl,
    s_bipush X d10_init_37 rfl rfl,
    s_iast X rfl d10_init_39 rfl,
    s_dup X d10_init_40 rfl,
    s_bipush X d10_init_41 rfl rfl,
    s_iconst X d10_init_43 rfl rfl,
    s_iast X rfl d10_init_44 rfl,
    s_dup X d10_init_45 rfl,
    s_bipush X d10_init_46 rfl rfl,
    s_iconst X d10_init_48 rfl rfl,
    s_iast X rfl d10_init_49 rfl,
    s_dup X d10_init_50 rfl,
    s_bipush X d10_init_51 rfl rfl,
    s_bipush X d10_init_53 rfl rfl,
    s_iast X rfl d10_init_55 rfl,
    s_dup X d10_init_56 rfl,
    s_bipush X d10_init_57 rfl rfl,
    s_bipush X d10_init_59 rfl rfl,
    s_iast X rfl d10_init_61 rfl,
    s_dup X d10_init_62 rfl,
    s_bipush X d10_init_63 rfl rfl,
    s_iconst X d10_init_65 rfl rfl,
    s_iast X rfl d10_init_66 rfl,
    s_dup X d10_init_67 rfl,
    s_bipush X d10_init_68 rfl rfl,
    s_iconst X d10_init_70 rfl rfl,
    s_iast X rfl d10_init_71 rfl,
    s_dup X d10_init_72 rfl,
    s_bipush X d10_init_73 rfl rfl,
    s_bipush X d10_init_75 rfl rfl,
    s_iast X rfl d10_init_77 rfl,
    s_dup X d10_init_78 rfl,
    s_bipush X d10_init_79 rfl rfl,
    s_iconst X d10_init_81 rfl rfl,
    s_iast X rfl d10_init_82 rfl,
    s_dup X d10_init_83 rfl,
    s_bipush X d10_init_84 rfl rfl,
    s_iconst X d10_init_86 rfl rfl,
    s_iast X rfl d10_init_87 rfl,
    s_dup X d10_init_88 rfl,
    s_bipush X d10_init_89 rfl rfl,
    s_bipush X d10_init_91 rfl rfl,
    s_iast X rfl d10_init_93 rfl,
    s_dup X d10_init_94 rfl,
    s_bipush X d10_init_95 rfl rfl,
    s_bipush X d10_init_97 rfl rfl,
    s_iast X rfl d10_init_99 rfl,
    s_dup X d10_init_100 rfl,
    s_bipush X d10_init_101 rfl rfl,
    s_iconst X d10_init_103 rfl rfl,
    s_iast X rfl d10_init_104 rfl,
    s_dup X d10_init_105 rfl,
    s_bipush X d10_init_106 rfl rfl,
    s_iconst X d10_init_108 rfl rfl,
    s_iast X rfl d10_init_109 rfl,
    s_dup X d10_init_110 rfl,
    s_bipush X d10_init_111 rfl rfl,
    s_bipush X d10_init_113 rfl rfl,
    s_iast X rfl d10_init_115 rfl,
    s_dup X d10_init_116 rfl,
    s_bipush X d10_init_117 rfl rfl,
    s_iconst X d10_init_119 rfl rfl,
    s_iast X rfl d10_init_120 rfl,
    s_dup X d10_init_121 rfl,
    s_bipush X d10_init_122 rfl rfl,
    s_iconst X d10_init_124 rfl rfl,
    s_iast X rfl d10_init_125 rfl,
    s_dup X d10_init_126 rfl,
    s_bipush X d10_init_127 rfl rfl,
    s_iconst X d10_init_129 rfl rfl,
    s_iast X rfl d10_init_130 rfl,
    s_dup X d10_init_131 rfl,
    s_bipush X d10_init_132 rfl rfl,
    s_bipush X d10_init_134 rfl rfl,
    s_iast X rfl d10_init_136 rfl,
    s_dup X d10_init_137 rfl,
    s_bipush X d10_init_138 rfl rfl,
    s_iconst X d10_init_140 rfl rfl,
    s_iast X rfl d10_init_141 rfl,
    s_dup X d10_init_142 rfl,
    s_bipush X d10_init_143 rfl rfl,
    s_iconst X d10_init_145 rfl rfl,
    s_iast X rfl d10_init_146 rfl,
    s_dup X d10_init_147 rfl,
    s_bipush X d10_init_148 rfl rfl,
    s_iconst X d10_init_150 rfl rfl,
    s_iast X rfl d10_init_151 rfl,
    s_dup X d10_init_152 rfl,
    s_bipush X d10_init_153 rfl rfl,
    s_bipush X d10_init_155 rfl rfl,
    s_iast X rfl d10_init_157 rfl,
    s_dup X d10_init_158 rfl,
    s_bipush X d10_init_159 rfl rfl,
    s_bipush X d10_init_161 rfl rfl,
    s_iast X rfl d10_init_163 rfl,
    s_dup X d10_init_164 rfl,
    s_bipush X d10_init_165 rfl rfl,
    s_iconst X d10_init_167 rfl rfl,
    s_iast X rfl d10_init_168 rfl,
    s_dup X d10_init_169 rfl,
    s_bipush X d10_init_170 rfl rfl,
    s_iconst X d10_init_172 rfl rfl,
    s_iast X rfl d10_init_173 rfl,
    s_dup X d10_init_174 rfl,
    s_bipush X d10_init_175 rfl rfl,
    s_iconst X d10_init_177 rfl rfl,
    s_iast X rfl d10_init_178 rfl,
    s_dup X d10_init_179 rfl,
    s_bipush X d10_init_180 rfl rfl,
    s_iconst X d10_init_182 rfl rfl,
    s_iast X rfl d10_init_183 rfl,
    s_dup X d10_init_184 rfl,
    s_bipush X d10_init_185 rfl rfl,
    s_bipush X d10_init_187 rfl rfl,
    s_iast X rfl d10_init_189 rfl,
    s_dup X d10_init_190 rfl,
    s_bipush X d10_init_191 rfl rfl,
    s_iconst X d10_init_193 rfl rfl,
    s_iast X rfl d10_init_194 rfl,
    s_dup X d10_init_195 rfl,
    s_bipush X d10_init_196 rfl rfl,
    s_iconst X d10_init_198 rfl rfl,
    s_iast X rfl d10_init_199 rfl,
    s_dup X d10_init_200 rfl,
    s_bipush X d10_init_201 rfl rfl,
    s_bipush X d10_init_203 rfl rfl,
    s_iast X rfl d10_init_205 rfl,
    s_dup X d10_init_206 rfl,
    s_bipush X d10_init_207 rfl rfl,
    s_bipush X d10_init_209 rfl rfl,
    s_iast X rfl d10_init_211 rfl,
    s_dup X d10_init_212 rfl,
    s_bipush X d10_init_213 rfl rfl,
    s_iconst X d10_init_215 rfl rfl,
    s_iast X rfl d10_init_216 rfl,
    s_dup X d10_init_217 rfl,
    s_bipush X d10_init_218 rfl rfl,
    s_iconst X d10_init_220 rfl rfl,
    s_iast X rfl d10_init_221 rfl,
    s_dup X d10_init_222 rfl,
    s_bipush X d10_init_223 rfl rfl,
    s_bipush X d10_init_225 rfl rfl,
    s_iast X rfl d10_init_227 rfl,
    s_dup X d10_init_228 rfl,
    s_bipush X d10_init_229 rfl rfl,
    s_bipush X d10_init_231 rfl rfl,
    s_iast X rfl d10_init_233 rfl,
    s_dup X d10_init_234 rfl,
    s_bipush X d10_init_235 rfl rfl,
    s_iconst X d10_init_237 rfl rfl,
    s_iast X rfl d10_init_238 rfl,
    s_dup X d10_init_239 rfl,
    s_bipush X d10_init_240 rfl rfl,
    s_iconst X d10_init_242 rfl rfl,
    s_iast X rfl d10_init_243 rfl,
    s_dup X d10_init_244 rfl,
    s_bipush X d10_init_245 rfl rfl,
    s_bipush X d10_init_247 rfl rfl,
    s_iast X rfl d10_init_249 rfl,
    s_dup X d10_init_250 rfl,
    s_bipush X d10_init_251 rfl rfl,
    s_bipush X d10_init_253 rfl rfl,
    s_iast X rfl d10_init_255 rfl,
    s_dup X d10_init_256 rfl,
    s_bipush X d10_init_257 rfl rfl,
    s_iconst X d10_init_259 rfl rfl,
    s_iast X rfl d10_init_260 rfl,
    s_dup X d10_init_261 rfl,
    s_bipush X d10_init_262 rfl rfl,
    s_iconst X d10_init_264 rfl rfl,
    s_iast X rfl d10_init_265 rfl,
    s_dup X d10_init_266 rfl,
    s_bipush X d10_init_267 rfl rfl,
    s_iconst X d10_init_269 rfl rfl,
    s_iast X rfl d10_init_270 rfl,
    s_dup X d10_init_271 rfl,
    s_bipush X d10_init_272 rfl rfl,
    s_bipush X d10_init_274 rfl rfl,
    s_iast X rfl d10_init_276 rfl,
    s_dup X d10_init_277 rfl,
    s_bipush X d10_init_278 rfl rfl,
    s_bipush X d10_init_280 rfl rfl,
    s_iast X rfl d10_init_282 rfl,
    s_putF X (ci := 10) (f := 1) rfl (fun w h => List.mem_cons_of_mem _ (uC_10 w h)) (by decide) tC_10 oC_10 nC_10 rfl ri_ok_arr (List.mem_cons_of_mem _ mgw_815) hname rfl d10_init_283 rfl,
    s_aload_n X d10_init_286 rfl rfl,
    s_bipush X d10_init_287 rfl rfl,
    s_newi X rfl (List.mem_cons_of_mem _ mgw_78) d10_init_289 rfl,
    s_dup X d10_init_291 rfl,
    s_iconst X d10_init_292 rfl rfl,
    s_iconst X d10_init_293 rfl rfl,
    s_iast X rfl d10_init_294 rfl,
    s_dup X d10_init_295 rfl,
    s_iconst X d10_init_296 rfl rfl,
    s_iconst X d10_init_297 rfl rfl,
    s_iast X rfl d10_init_298 rfl,
    s_dup X d10_init_299 rfl,
    s_iconst X d10_init_300 rfl rfl,
    s_bipush X d10_init_301 rfl rfl,
    s_iast X rfl d10_init_303 rfl,
    s_dup X d10_init_304 rfl,
    s_iconst X d10_init_305 rfl rfl,
    s_iconst X d10_init_306 rfl rfl,
    s_iast X rfl d10_init_307 rfl,
    s_dup X d10_init_308 rfl,
    s_iconst X d10_init_309 rfl rfl,
    s_iconst X d10_init_310 rfl rfl,
    s_iast X rfl d10_init_311 rfl,
    s_dup X d10_init_312 rfl,
    s_iconst X d10_init_313 rfl rfl,
    s_iconst X d10_init_314 rfl rfl,
    s_iast X rfl d10_init_315 rfl,
    s_dup X d10_init_316 rfl,
    s_bipush X d10_init_317 rfl rfl,
    s_bipush X d10_init_319 rfl rfl,
    s_iast X rfl d10_init_321 rfl,
    s_dup X d10_init_322 rfl,
    s_bipush X d10_init_323 rfl rfl,
    s_iconst X d10_init_325 rfl rfl,
    s_iast X rfl d10_init_326 rfl,
    s_dup X d10_init_327 rfl,
    s_bipush X d10_init_328 rfl rfl,
    s_iconst X d10_init_330 rfl rfl,
    s_iast X rfl d10_init_331 rfl,
    s_dup X d10_init_332 rfl,
    s_bipush X d10_init_333 rfl rfl,
    s_bipush X d10_init_335 rfl rfl,
    s_iast X rfl d10_init_337 rfl,
    s_dup X d10_init_338 rfl,
    s_bipush X d10_init_339 rfl rfl,
    s_bipush X d10_init_341 rfl rfl,
    s_iast X rfl d10_init_343 rfl,
    s_dup X d10_init_344 rfl,
    s_bipush X d10_init_345 rfl rfl,
    s_iconst X d10_init_347 rfl rfl,
    s_iast X rfl d10_init_348 rfl,
    s_dup X d10_init_349 rfl,
    s_bipush X d10_init_350 rfl rfl,
    s_iconst X d10_init_352 rfl rfl,
    s_iast X rfl d10_init_353 rfl,
    s_dup X d10_init_354 rfl,
    s_bipush X d10_init_355 rfl rfl,
    s_bipush X d10_init_357 rfl rfl,
    s_iast X rfl d10_init_359 rfl,
    s_dup X d10_init_360 rfl,
    s_bipush X d10_init_361 rfl rfl,
    s_iconst X d10_init_363 rfl rfl,
    s_iast X rfl d10_init_364 rfl,
    s_dup X d10_init_365 rfl,
    s_bipush X d10_init_366 rfl rfl,
    s_iconst X d10_init_368 rfl rfl,
    s_iast X rfl d10_init_369 rfl,
    s_dup X d10_init_370 rfl,
    s_bipush X d10_init_371 rfl rfl,
    s_bipush X d10_init_373 rfl rfl,
    s_iast X rfl d10_init_375 rfl,
    s_dup X d10_init_376 rfl,
    s_bipush X d10_init_377 rfl rfl,
    s_bipush X d10_init_379 rfl rfl,
    s_iast X rfl d10_init_381 rfl,
    s_dup X d10_init_382 rfl,
    s_bipush X d10_init_383 rfl rfl,
    s_iconst X d10_init_385 rfl rfl,
    s_iast X rfl d10_init_386 rfl,
    s_dup X d10_init_387 rfl,
    s_bipush X d10_init_388 rfl rfl,
    s_iconst X d10_init_390 rfl rfl,
    s_iast X rfl d10_init_391 rfl,
    s_dup X d10_init_392 rfl,
    s_bipush X d10_init_393 rfl rfl,
    s_bipush X d10_init_395 rfl rfl,
    s_iast X rfl d10_init_397 rfl,
    s_dup X d10_init_398 rfl,
    s_bipush X d10_init_399 rfl rfl,
    s_iconst X d10_init_401 rfl rfl,
    s_iast X rfl d10_init_402 rfl,
    s_dup X d10_init_403 rfl,
    s_bipush X d10_init_404 rfl rfl,
    s_iconst X d10_init_406 rfl rfl,
    s_iast X rfl d10_init_407 rfl,
    s_dup X d10_init_408 rfl,
    s_bipush X d10_init_409 rfl rfl,
    s_iconst X d10_init_411 rfl rfl,
    s_iast X rfl d10_init_412 rfl,
    s_dup X d10_init_413 rfl,
    s_bipush X d10_init_414 rfl rfl,
    s_bipush X d10_init_416 rfl rfl,
    s_iast X rfl d10_init_418 rfl,
    s_dup X d10_init_419 rfl,
    s_bipush X d10_init_420 rfl rfl,
    s_iconst X d10_init_422 rfl rfl,
    s_iast X rfl d10_init_423 rfl,
    s_dup X d10_init_424 rfl,
    s_bipush X d10_init_425 rfl rfl,
    s_iconst X d10_init_427 rfl rfl,
    s_iast X rfl d10_init_428 rfl,
    s_dup X d10_init_429 rfl,
    s_bipush X d10_init_430 rfl rfl,
    s_iconst X d10_init_432 rfl rfl,
    s_iast X rfl d10_init_433 rfl,
    s_dup X d10_init_434 rfl,
    s_bipush X d10_init_435 rfl rfl,
    s_bipush X d10_init_437 rfl rfl,
    s_iast X rfl d10_init_439 rfl,
    s_dup X d10_init_440 rfl,
    s_bipush X d10_init_441 rfl rfl,
    s_bipush X d10_init_443 rfl rfl,
    s_iast X rfl d10_init_445 rfl,
    s_dup X d10_init_446 rfl,
    s_bipush X d10_init_447 rfl rfl,
    s_iconst X d10_init_449 rfl rfl,
    s_iast X rfl d10_init_450 rfl,
    s_dup X d10_init_451 rfl,
    s_bipush X d10_init_452 rfl rfl,
    s_iconst X d10_init_454 rfl rfl,
    s_iast X rfl d10_init_455 rfl,
    s_dup X d10_init_456 rfl,
    s_bipush X d10_init_457 rfl rfl,
    s_iconst X d10_init_459 rfl rfl,
    s_iast X rfl d10_init_460 rfl,
    s_dup X d10_init_461 rfl,
    s_bipush X d10_init_462 rfl rfl,
    s_iconst X d10_init_464 rfl rfl,
    s_iast X rfl d10_init_465 rfl,
    s_dup X d10_init_466 rfl,
    s_bipush X d10_init_467 rfl rfl,
    s_bipush X d10_init_469 rfl rfl,
    s_iast X rfl d10_init_471 rfl,
    s_dup X d10_init_472 rfl,
    s_bipush X d10_init_473 rfl rfl,
    s_iconst X d10_init_475 rfl rfl,
    s_iast X rfl d10_init_476 rfl,
    s_dup X d10_init_477 rfl,
    s_bipush X d10_init_478 rfl rfl,
    s_iconst X d10_init_480 rfl rfl,
    s_iast X rfl d10_init_481 rfl,
    s_dup X d10_init_482 rfl,
    s_bipush X d10_init_483 rfl rfl,
    s_bipush X d10_init_485 rfl rfl,
    s_iast X rfl d10_init_487 rfl,
    s_dup X d10_init_488 rfl,
    s_bipush X d10_init_489 rfl rfl,
    s_bipush X d10_init_491 rfl rfl,
    s_iast X rfl d10_init_493 rfl,
    s_dup X d10_init_494 rfl,
    s_bipush X d10_init_495 rfl rfl,
    s_iconst X d10_init_497 rfl rfl,
    s_iast X rfl d10_init_498 rfl,
    s_dup X d10_init_499 rfl,
    s_bipush X d10_init_500 rfl rfl,
    s_iconst X d10_init_502 rfl rfl,
    s_iast X rfl d10_init_503 rfl,
    s_dup X d10_init_504 rfl,
    s_bipush X d10_init_505 rfl rfl,
    s_bipush X d10_init_507 rfl rfl,
    s_iast X rfl d10_init_509 rfl,
    s_dup X d10_init_510 rfl,
    s_bipush X d10_init_511 rfl rfl,
    s_bipush X d10_init_513 rfl rfl,
    s_iast X rfl d10_init_515 rfl,
    s_dup X d10_init_516 rfl,
    s_bipush X d10_init_517 rfl rfl,
    s_iconst X d10_init_519 rfl rfl,
    s_iast X rfl d10_init_520 rfl,
    s_dup X d10_init_521 rfl,
    s_bipush X d10_init_522 rfl rfl,
    s_iconst X d10_init_524 rfl rfl,
    s_iast X rfl d10_init_525 rfl,
    s_dup X d10_init_526 rfl,
    s_bipush X d10_init_527 rfl rfl,
    s_bipush X d10_init_529 rfl rfl,
    s_iast X rfl d10_init_531 rfl,
    s_dup X d10_init_532 rfl,
    s_bipush X d10_init_533 rfl rfl,
    s_bipush X d10_init_535 rfl rfl,
    s_iast X rfl d10_init_537 rfl,
    s_dup X d10_init_538 rfl,
    s_bipush X d10_init_539 rfl rfl,
    s_iconst X d10_init_541 rfl rfl,
    s_iast X rfl d10_init_542 rfl,
    s_dup X d10_init_543 rfl,
    s_bipush X d10_init_544 rfl rfl,
    s_iconst X d10_init_546 rfl rfl,
    s_iast X rfl d10_init_547 rfl,
    s_dup X d10_init_548 rfl,
    s_bipush X d10_init_549 rfl rfl,
    s_iconst X d10_init_551 rfl rfl,
    s_iast X rfl d10_init_552 rfl,
    s_dup X d10_init_553 rfl,
    s_bipush X d10_init_554 rfl rfl,
    s_bipush X d10_init_556 rfl rfl,
    s_iast X rfl d10_init_558 rfl,
    s_dup X d10_init_559 rfl,
    s_bipush X d10_init_560 rfl rfl,
    s_bipush X d10_init_562 rfl rfl,
    s_iast X rfl d10_init_564 rfl,
    s_putF X (ci := 10) (f := 2) rfl (fun w h => List.mem_cons_of_mem _ (uC_10 w h)) (by decide) tC_10 oC_10 nC_10 rfl ri_ok_arr (List.mem_cons_of_mem _ mgw_816) hname rfl d10_init_565 rfl,
    s_aload_n X d10_init_568 rfl rfl,
    s_bipush X d10_init_569 rfl rfl,
    s_newi X rfl (List.mem_cons_of_mem _ mgw_78) d10_init_571 rfl,
    s_dup X d10_init_573 rfl,
    s_iconst X d10_init_574 rfl rfl,
    s_iconst X d10_init_575 rfl rfl,
    s_iast X rfl d10_init_576 rfl,
    s_dup X d10_init_577 rfl,
    s_iconst X d10_init_578 rfl rfl,
    s_iconst X d10_init_579 rfl rfl,
    s_iast X rfl d10_init_580 rfl,
    s_dup X d10_init_581 rfl,
    s_iconst X d10_init_582 rfl rfl,
    s_iconst X d10_init_583 rfl rfl,
    s_iast X rfl d10_init_584 rfl,
    s_dup X d10_init_585 rfl,
    s_iconst X d10_init_586 rfl rfl,
    s_iconst X d10_init_587 rfl rfl,
    s_iast X rfl d10_init_588 rfl,
    s_dup X d10_init_589 rfl,
    s_iconst X d10_init_590 rfl rfl,
    s_iconst X d10_init_591 rfl rfl,
    s_iast X rfl d10_init_592 rfl,
    s_dup X d10_init_593 rfl,
    s_iconst X d10_init_594 rfl rfl,
    s_iconst X d10_init_595 rfl rfl,
    s_iast X rfl d10_init_596 rfl,
    s_dup X d10_init_597 rfl,
    s_bipush X d10_init_598 rfl rfl,
    s_iconst X d10_init_600 rfl rfl,
    s_iast X rfl d10_init_601 rfl,
    s_dup X d10_init_602 rfl,
    s_bipush X d10_init_603 rfl rfl,
    s_iconst X d10_init_605 rfl rfl,
    s_iast X rfl d10_init_606 rfl,
    s_dup X d10_init_607 rfl,
    s_bipush X d10_init_608 rfl rfl,
    s_iconst X d10_init_610 rfl rfl,
    s_iast X rfl d10_init_611 rfl,
    s_dup X d10_init_612 rfl,
    s_bipush X d10_init_613 rfl rfl,
    s_iconst X d10_init_615 rfl rfl,
    s_iast X rfl d10_init_616 rfl,
    s_dup X d10_init_617 rfl,
    s_bipush X d10_init_618 rfl rfl,
    s_iconst X d10_init_620 rfl rfl,
    s_iast X rfl d10_init_621 rfl,
    s_dup X d10_init_622 rfl,
    s_bipush X d10_init_623 rfl rfl,
    s_iconst X d10_init_625 rfl rfl,
    s_iast X rfl d10_init_626 rfl,
    s_putF X (ci := 10) (f := 3) rfl (fun w h => List.mem_cons_of_mem _ (uC_10 w h)) (by decide) tC_10 oC_10 nC_10 rfl ri_ok_arr (List.mem_cons_of_mem _ mgw_817) hname rfl d10_init_627 rfl,
    s_aload_n X d10_init_630 rfl rfl,
    s_bipush X d10_init_631 rfl rfl,
    s_newi X rfl (List.mem_cons_of_mem _ mgw_78) d10_init_633 rfl,
    s_dup X d10_init_635 rfl,
    s_iconst X d10_init_636 rfl rfl,
    s_iconst X d10_init_637 rfl rfl,
    s_iast X rfl d10_init_638 rfl,
    s_dup X d10_init_639 rfl,
    s_iconst X d10_init_640 rfl rfl,
    s_iconst X d10_init_641 rfl rfl,
    s_iast X rfl d10_init_642 rfl,
    s_dup X d10_init_643 rfl,
    s_iconst X d10_init_644 rfl rfl,
    s_iconst X d10_init_645 rfl rfl,
    s_iast X rfl d10_init_646 rfl,
    s_dup X d10_init_647 rfl,
    s_iconst X d10_init_648 rfl rfl,
    s_iconst X d10_init_649 rfl rfl,
    s_iast X rfl d10_init_650 rfl,
    s_dup X d10_init_651 rfl,
    s_iconst X d10_init_652 rfl rfl,
    s_iconst X d10_init_653 rfl rfl,
    s_iast X rfl d10_init_654 rfl,
    s_dup X d10_init_655 rfl,
    s_iconst X d10_init_656 rfl rfl,
    s_iconst X d10_init_657 rfl rfl,
    s_iast X rfl d10_init_658 rfl,
    s_dup X d10_init_659 rfl,
    s_bipush X d10_init_660 rfl rfl,
    s_iconst X d10_init_662 rfl rfl,
    s_iast X rfl d10_init_663 rfl,
    s_dup X d10_init_664 rfl,
    s_bipush X d10_init_665 rfl rfl,
    s_iconst X d10_init_667 rfl rfl,
    s_iast X rfl d10_init_668 rfl,
    s_dup X d10_init_669 rfl,
    s_bipush X d10_init_670 rfl rfl,
    s_iconst X d10_init_672 rfl rfl,
    s_iast X rfl d10_init_673 rfl,
    s_dup X d10_init_674 rfl,
    s_bipush X d10_init_675 rfl rfl,
    s_iconst X d10_init_677 rfl rfl,
    s_iast X rfl d10_init_678 rfl,
    s_dup X d10_init_679 rfl,
    s_bipush X d10_init_680 rfl rfl,
    s_iconst X d10_init_682 rfl rfl,
    s_iast X rfl d10_init_683 rfl,
    s_dup X d10_init_684 rfl,
    s_bipush X d10_init_685 rfl rfl,
    s_iconst X d10_init_687 rfl rfl,
    s_iast X rfl d10_init_688 rfl,
    s_putF X (ci := 10) (f := 4) rfl (fun w h => List.mem_cons_of_mem _ (uC_10 w h)) (by decide) tC_10 oC_10 nC_10 rfl ri_ok_arr (List.mem_cons_of_mem _ mgw_818) hname rfl d10_init_689 rfl,
    s_aload_n X d10_init_692 rfl rfl,
    s_iconst X d10_init_693 rfl rfl,
    s_put X (ci := 10) (f := 7) rfl (fun w h => List.mem_cons_of_mem _ (uC_10 w h)) (by decide) tC_10 oC_10 nC_10 rfl ri_ok_int (List.mem_cons_of_mem _ mgw_821) d10_init_694 rfl,
    s_aload_n X d10_init_697 rfl rfl,
    s_bipush X d10_init_698 rfl rfl,
    s_newi X rfl (List.mem_cons_of_mem _ mgw_78) d10_init_700 rfl,
    s_putF X (ci := 10) (f := 8) rfl (fun w h => List.mem_cons_of_mem _ (uC_10 w h)) (by decide) tC_10 oC_10 nC_10 rfl ri_ok_arr (List.mem_cons_of_mem _ mgw_822) hname rfl d10_init_702 rfl,
    s_aload_n X d10_init_705 rfl rfl,
    s_bipush X d10_init_706 rfl rfl,
    s_newi X rfl (List.mem_cons_of_mem _ mgw_78) d10_init_708 rfl,
    s_putF X (ci := 10) (f := 9) rfl (fun w h => List.mem_cons_of_mem _ (uC_10 w h)) (by decide) tC_10 oC_10 nC_10 rfl ri_ok_arr (List.mem_cons_of_mem _ mgw_823) hname rfl d10_init_710 rfl,
    s_aload_n X d10_init_713 rfl rfl,
    s_bipush X d10_init_714 rfl rfl,
    s_newi X rfl (List.mem_cons_of_mem _ mgw_78) d10_init_716 rfl,
    s_putF X (ci := 10) (f := 10) rfl (fun w h => List.mem_cons_of_mem _ (uC_10 w h)) (by decide) tC_10 oC_10 nC_10 rfl ri_ok_arr (List.mem_cons_of_mem _ mgw_824) hname rfl d10_init_718 rfl,
    s_aload_n X d10_init_721 rfl rfl,
    s_bipush X d10_init_722 rfl rfl,
    s_newz X rfl (List.mem_cons_of_mem _ mgw_79) d10_init_724 rfl,
    s_putF X (ci := 10) (f := 11) rfl (fun w h => List.mem_cons_of_mem _ (uC_10 w h)) (by decide) tC_10 oC_10 nC_10 rfl ri_ok_arr (List.mem_cons_of_mem _ mgw_825) hname rfl d10_init_726 rfl,
    s_aload_n X d10_init_729 rfl rfl,
    s_bipush X d10_init_730 rfl rfl,
    s_newz X rfl (List.mem_cons_of_mem _ mgw_79) d10_init_732 rfl,
    s_putF X (ci := 10) (f := 12) rfl (fun w h => List.mem_cons_of_mem _ (uC_10 w h)) (by decide) tC_10 oC_10 nC_10 rfl ri_ok_arr (List.mem_cons_of_mem _ mgw_826) hname rfl d10_init_734 rfl,
    s_aload_n X d10_init_737 rfl rfl,
    s_bipush X d10_init_738 rfl rfl,
    s_newi X rfl (List.mem_cons_of_mem _ mgw_78) d10_init_740 rfl,
    s_dup X d10_init_742 rfl,
    s_iconst X d10_init_743 rfl rfl,
    s_iconst X d10_init_744 rfl rfl,
    s_iast X rfl d10_init_745 rfl,
    s_dup X d10_init_746 rfl,
    s_iconst X d10_init_747 rfl rfl,
    s_iconst X d10_init_748 rfl rfl,
    s_iast X rfl d10_init_749 rfl,
    s_dup X d10_init_750 rfl,
    s_iconst X d10_init_751 rfl rfl,
    s_iconst X d10_init_752 rfl rfl,
    s_iast X rfl d10_init_753 rfl,
    s_dup X d10_init_754 rfl,
    s_iconst X d10_init_755 rfl rfl,
    s_iconst X d10_init_756 rfl rfl,
    s_iast X rfl d10_init_757 rfl,
    s_dup X d10_init_758 rfl,
    s_iconst X d10_init_759 rfl rfl,
    s_iconst X d10_init_760 rfl rfl,
    s_iast X rfl d10_init_761 rfl,
    s_dup X d10_init_762 rfl,
    s_iconst X d10_init_763 rfl rfl,
    s_iconst X d10_init_764 rfl rfl,
    s_iast X rfl d10_init_765 rfl,
    s_dup X d10_init_766 rfl,
    s_bipush X d10_init_767 rfl rfl,
    s_iconst X d10_init_769 rfl rfl,
    s_iast X rfl d10_init_770 rfl,
    s_dup X d10_init_771 rfl,
    s_bipush X d10_init_772 rfl rfl,
    s_iconst X d10_init_774 rfl rfl,
    s_iast X rfl d10_init_775 rfl,
    s_dup X d10_init_776 rfl,
    s_bipush X d10_init_777 rfl rfl,
    s_iconst X d10_init_779 rfl rfl,
    s_iast X rfl d10_init_780 rfl,
    s_putF X (ci := 10) (f := 13) rfl (fun w h => List.mem_cons_of_mem _ (uC_10 w h)) (by decide) tC_10 oC_10 nC_10 rfl ri_ok_arr (List.mem_cons_of_mem _ mgw_827) hname rfl d10_init_781 rfl,
    s_aload_n X d10_init_784 rfl rfl,
    s_iconst X d10_init_785 rfl rfl,
    s_newi X rfl (List.mem_cons_of_mem _ mgw_78) d10_init_786 rfl,
    s_dup X d10_init_788 rfl,
    s_iconst X d10_init_789 rfl rfl,
    s_bipush X d10_init_790 rfl rfl,
    s_iast X rfl d10_init_792 rfl,
    s_dup X d10_init_793 rfl,
    s_iconst X d10_init_794 rfl rfl,
    s_bipush X d10_init_795 rfl rfl,
    s_iast X rfl d10_init_797 rfl,
    s_dup X d10_init_798 rfl,
    s_iconst X d10_init_799 rfl rfl,
    s_bipush X d10_init_800 rfl rfl,
    s_iast X rfl d10_init_802 rfl,
    s_dup X d10_init_803 rfl,
    s_iconst X d10_init_804 rfl rfl,
    s_bipush X d10_init_805 rfl rfl,
    s_iast X rfl d10_init_807 rfl,
    s_putF X (ci := 10) (f := 14) rfl (fun w h => List.mem_cons_of_mem _ (uC_10 w h)) (by decide) tC_10 oC_10 nC_10 rfl ri_ok_arr (List.mem_cons_of_mem _ mgw_828) hname rfl d10_init_808 rfl,
    s_aload_n X d10_init_811 rfl rfl,
    s_iconst X d10_init_812 rfl rfl,
    s_newi X rfl (List.mem_cons_of_mem _ mgw_78) d10_init_813 rfl,
    s_dup X d10_init_815 rfl,
    s_iconst X d10_init_816 rfl rfl,
    s_bipush X d10_init_817 rfl rfl,
    s_iast X rfl d10_init_819 rfl,
    s_dup X d10_init_820 rfl,
    s_iconst X d10_init_821 rfl rfl,
    s_bipush X d10_init_822 rfl rfl,
    s_iast X rfl d10_init_824 rfl,
    s_dup X d10_init_825 rfl,
    s_iconst X d10_init_826 rfl rfl,
    s_bipush X d10_init_827 rfl rfl,
    s_iast X rfl d10_init_829 rfl,
    s_dup X d10_init_830 rfl,
    s_iconst X d10_init_831 rfl rfl,
    s_bipush X d10_init_832 rfl rfl,
    s_iast X rfl d10_init_834 rfl,
    s_putF X (ci := 10) (f := 15) rfl (fun w h => List.mem_cons_of_mem _ (uC_10 w h)) (by decide) tC_10 oC_10 nC_10 rfl ri_ok_arr (List.mem_cons_of_mem _ mgw_829) hname rfl d10_init_835 rfl,
    s_aload_n X d10_init_838 rfl rfl,
    s_sipush X d10_init_839 rfl rfl,
    s_newi X rfl (List.mem_cons_of_mem _ mgw_78) d10_init_842 rfl,
    s_putF X (ci := 10) (f := 16) rfl (fun w h => List.mem_cons_of_mem _ (uC_10 w h)) (by decide) tC_10 oC_10 nC_10 rfl ri_ok_arr (List.mem_cons_of_mem _ mgw_830) hname rfl d10_init_844 rfl,
    s_aload_n X d10_init_847 rfl rfl,
    s_sipush X d10_init_848 rfl rfl,
    s_newi X rfl (List.mem_cons_of_mem _ mgw_78) d10_init_851 rfl,
    s_putF X (ci := 10) (f := 17) rfl (fun w h => List.mem_cons_of_mem _ (uC_10 w h)) (by decide) tC_10 oC_10 nC_10 rfl ri_ok_arr (List.mem_cons_of_mem _ mgw_831) hname rfl d10_init_853 rfl,
    s_aload_n X d10_init_856 rfl rfl,
    s_sipush X d10_init_857 rfl rfl,
    s_newi X rfl (List.mem_cons_of_mem _ mgw_78) d10_init_860 rfl,
    s_putF X (ci := 10) (f := 18) rfl (fun w h => List.mem_cons_of_mem _ (uC_10 w h)) (by decide) tC_10 oC_10 nC_10 rfl ri_ok_arr (List.mem_cons_of_mem _ mgw_832) hname rfl d10_init_862 rfl,
    s_aload_n X d10_init_865 rfl rfl,
    s_bipush X d10_init_866 rfl rfl,
    s_newi X rfl (List.mem_cons_of_mem _ mgw_78) d10_init_868 rfl,
    s_putF X (ci := 10) (f := 19) rfl (fun w h => List.mem_cons_of_mem _ (uC_10 w h)) (by decide) tC_10 oC_10 nC_10 rfl ri_ok_arr (List.mem_cons_of_mem _ mgw_833) hname rfl d10_init_870 rfl,
    s_aload_n X d10_init_873 rfl rfl,
    s_sipush X d10_init_874 rfl rfl,
    s_newi X rfl (List.mem_cons_of_mem _ mgw_78) d10_init_877 rfl,
    s_putF X (ci := 10) (f := 20) rfl (fun w h => List.mem_cons_of_mem _ (uC_10 w h)) (by decide) tC_10 oC_10 nC_10 rfl ri_ok_arr (List.mem_cons_of_mem _ mgw_834) hname rfl d10_init_879 rfl,
    s_aload_n X d10_init_882 rfl rfl,
    s_sipush X d10_init_883 rfl rfl,
    s_newi X rfl (List.mem_cons_of_mem _ mgw_78) d10_init_886 rfl,
    s_putF X (ci := 10) (f := 21) rfl (fun w h => List.mem_cons_of_mem _ (uC_10 w h)) (by decide) tC_10 oC_10 nC_10 rfl ri_ok_arr (List.mem_cons_of_mem _ mgw_835) hname rfl d10_init_888 rfl,
    s_aload_n X d10_init_891 rfl rfl,
    s_sipush X d10_init_892 rfl rfl,
    s_newi X rfl (List.mem_cons_of_mem _ mgw_78) d10_init_895 rfl,
    s_putF X (ci := 10) (f := 22) rfl (fun w h => List.mem_cons_of_mem _ (uC_10 w h)) (by decide) tC_10 oC_10 nC_10 rfl ri_ok_arr (List.mem_cons_of_mem _ mgw_836) hname rfl d10_init_897 rfl,
    s_aload_n X d10_init_900 rfl rfl,
    s_sipush X d10_init_901 rfl rfl,
    s_newi X rfl (List.mem_cons_of_mem _ mgw_78) d10_init_904 rfl,
    s_putF X (ci := 10) (f := 23) rfl (fun w h => List.mem_cons_of_mem _ (uC_10 w h)) (by decide) tC_10 oC_10 nC_10 rfl ri_ok_arr (List.mem_cons_of_mem _ mgw_837) hname rfl d10_init_906 rfl,
    s_aload_n X d10_init_909 rfl rfl,
    s_sipush X d10_init_910 rfl rfl,
    s_newz X rfl (List.mem_cons_of_mem _ mgw_79) d10_init_913 rfl,
    s_putF X (ci := 10) (f := 24) rfl (fun w h => List.mem_cons_of_mem _ (uC_10 w h)) (by decide) tC_10 oC_10 nC_10 rfl ri_ok_arr (List.mem_cons_of_mem _ mgw_838) hname rfl d10_init_915 rfl,
    s_aload_n X d10_init_918 rfl rfl,
    s_sipush X d10_init_919 rfl rfl,
    s_newz X rfl (List.mem_cons_of_mem _ mgw_79) d10_init_922 rfl,
    s_putF X (ci := 10) (f := 25) rfl (fun w h => List.mem_cons_of_mem _ (uC_10 w h)) (by decide) tC_10 oC_10 nC_10 rfl ri_ok_arr (List.mem_cons_of_mem _ mgw_839) hname rfl d10_init_924 rfl,
    s_aload_n X d10_init_927 rfl rfl,
    s_sipush X d10_init_928 rfl rfl,
    s_newi X rfl (List.mem_cons_of_mem _ mgw_78) d10_init_931 rfl,
    s_putF X (ci := 10) (f := 27) rfl (fun w h => List.mem_cons_of_mem _ (uC_10 w h)) (by decide) tC_10 oC_10 nC_10 rfl ri_ok_arr (List.mem_cons_of_mem _ mgw_841) hname rfl d10_init_933 rfl,
    s_aload_n X d10_init_936 rfl rfl,
    s_bipush X d10_init_937 rfl rfl,
    s_newi X rfl (List.mem_cons_of_mem _ mgw_78) d10_init_939 rfl,
    s_putF X (ci := 10) (f := 28) rfl (fun w h => List.mem_cons_of_mem _ (uC_10 w h)) (by decide) tC_10 oC_10 nC_10 rfl ri_ok_arr (List.mem_cons_of_mem _ mgw_842) hname rfl d10_init_941 rfl,
    s_aload_n X d10_init_944 rfl rfl,
    s_iconst X d10_init_945 rfl rfl,
    s_newi X rfl (List.mem_cons_of_mem _ mgw_78) d10_init_946 rfl,
    s_putF X (ci := 10) (f := 29) rfl (fun w h => List.mem_cons_of_mem _ (uC_10 w h)) (by decide) tC_10 oC_10 nC_10 rfl ri_ok_arr (List.mem_cons_of_mem _ mgw_843) hname rfl d10_init_948 rfl,
    s_aload_n X d10_init_951 rfl rfl,
    s_iconst X d10_init_952 rfl rfl,
    s_newi X rfl (List.mem_cons_of_mem _ mgw_78) d10_init_953 rfl,
    s_putF X (ci := 10) (f := 31) rfl (fun w h => List.mem_cons_of_mem _ (uC_10 w h)) (by decide) tC_10 oC_10 nC_10 rfl ri_ok_arr (List.mem_cons_of_mem _ mgw_845) hname rfl d10_init_955 rfl,
    s_aload_n X d10_init_958 rfl rfl,
    s_iconst X d10_init_959 rfl rfl,
    s_newi X rfl (List.mem_cons_of_mem _ mgw_78) d10_init_960 rfl,
    s_putF X (ci := 10) (f := 33) rfl (fun w h => List.mem_cons_of_mem _ (uC_10 w h)) (by decide) tC_10 oC_10 nC_10 rfl ri_ok_arr (List.mem_cons_of_mem _ mgw_847) hname rfl d10_init_962 rfl,
    s_aload_n X d10_init_965 rfl rfl,
    s_iconst X d10_init_966 rfl rfl,
    s_newi X rfl (List.mem_cons_of_mem _ mgw_78) d10_init_967 rfl,
    s_putF X (ci := 10) (f := 34) rfl (fun w h => List.mem_cons_of_mem _ (uC_10 w h)) (by decide) tC_10 oC_10 nC_10 rfl ri_ok_arr (List.mem_cons_of_mem _ mgw_848) hname rfl d10_init_969 rfl,
    s_aload_n X d10_init_972 rfl rfl,
    s_iconst X d10_init_973 rfl rfl,
    s_put X (ci := 10) (f := 0) rfl (fun w h => List.mem_cons_of_mem _ (uC_10 w h)) (by decide) tC_10 oC_10 nC_10 rfl ri_ok_int (List.mem_cons_of_mem _ mgw_814) d10_init_974 rfl,
    s_iconst X d10_init_977 rfl rfl,
    s_istore_n X d10_init_978 rfl (by decide) rfl,
    s_iload_n X d10_init_979 rfl rfl,
    s_bipush X d10_init_980 rfl rfl,
    s_icmp_ge X d10_init_982 rfl rfl,
    s_aload_n X d10_init_985 rfl rfl,
    s_get X (ci := 10) (f := 8) rfl (fun w h => List.mem_cons_of_mem _ (uC_10 w h)) (by decide) (List.mem_cons_of_mem _ mgw_822) d10_init_986 rfl,
    s_iload_n X d10_init_989 rfl rfl,
    s_bipush X d10_init_990 rfl rfl,
    s_iast X rfl d10_init_992 rfl,
    s_iinc X d10_init_993 rfl (by decide) rfl,
    s_goto X d10_init_996 rfl,
    s_iconst X d10_init_999 rfl rfl,
    s_istore_n X d10_init_1000 rfl (by decide) rfl,
    s_iload_n X d10_init_1001 rfl rfl,
    s_bipush X d10_init_1002 rfl rfl,
    s_icmp_ge X d10_init_1004 rfl rfl,
    s_aload_n X d10_init_1007 rfl rfl,
    s_get X (ci := 10) (f := 9) rfl (fun w h => List.mem_cons_of_mem _ (uC_10 w h)) (by decide) (List.mem_cons_of_mem _ mgw_823) d10_init_1008 rfl,
    s_iload_n X d10_init_1011 rfl rfl,
    s_bipush X d10_init_1012 rfl rfl,
    s_iast X rfl d10_init_1014 rfl,
    s_aload_n X d10_init_1015 rfl rfl,
    s_get X (ci := 10) (f := 10) rfl (fun w h => List.mem_cons_of_mem _ (uC_10 w h)) (by decide) (List.mem_cons_of_mem _ mgw_824) d10_init_1016 rfl,
    s_iload_n X d10_init_1019 rfl rfl,
    s_bipush X d10_init_1020 rfl rfl,
    s_iast X rfl d10_init_1022 rfl,
    s_iinc X d10_init_1023 rfl (by decide) rfl,
    s_goto X d10_init_1026 rfl,
    s_iconst X d10_init_1029 rfl rfl,
    s_istore_n X d10_init_1030 rfl (by decide) rfl,
    s_iload_n X d10_init_1031 rfl rfl,
    s_bipush X d10_init_1032 rfl rfl,
    s_icmp_ge X d10_init_1034 rfl rfl,
    s_aload_n X d10_init_1037 rfl rfl,
    s_get X (ci := 10) (f := 12) rfl (fun w h => List.mem_cons_of_mem _ (uC_10 w h)) (by decide) (List.mem_cons_of_mem _ mgw_826) d10_init_1038 rfl,
    s_iload_n X d10_init_1041 rfl rfl,
    s_iconst X d10_init_1042 rfl rfl,
    s_zast X rfl d10_init_1043 rfl,
    s_iinc X d10_init_1044 rfl (by decide) rfl,
    s_goto X d10_init_1047 rfl,
    s_vret X hret hlocks d10_init_1050, trivial⟩
