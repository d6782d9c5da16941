theorem dX12_init_0 : decode cX12_init 0 = .ok (.aload_n 0, 1) := by decide +kernel
theorem dX12_init_1 : decode cX12_init 1 = .ok (.invokespecial 1, 3) := by decide +kernel
theorem dX12_init_4 : decode cX12_init 4 = .ok (.aload_n 0, 1) := by decide +kernel
theorem dX12_init_5 : decode cX12_init 5 = .ok (.sipush 315, 3) := by decide +kernel
theorem dX12_init_8 : decode cX12_init 8 = .ok (.newarray .int, 2) := by decide +kernel
theorem dX12_init_10 : decode cX12_init 10 = .ok (.putfield 9, 3) := by decide +kernel
theorem dX12_init_13 : decode cX12_init 13 = .ok (.aload_n 0, 1) := by decide +kernel
theorem dX12_init_14 : decode cX12_init 14 = .ok (.sipush 315, 3) := by decide +kernel
theorem dX12_init_17 : decode cX12_init 17 = .ok (.newarray .int, 2) := by decide +kernel
theorem dX12_init_19 : decode cX12_init 19 = .ok (.putfield 13, 3) := by decide +kernel
theorem dX12_init_22 : decode cX12_init 22 = .ok (.aload_n 0, 1) := by decide +kernel
theorem dX12_init_23 : decode cX12_init 23 = .ok (.bipush 67, 2) := by decide +kernel
theorem dX12_init_25 : decode cX12_init 25 = .ok (.newarray .int, 2) := by decide +kernel
theorem dX12_init_27 : decode cX12_init 27 = .ok (.putfield 16, 3) := by decide +kernel
theorem dX12_init_30 : decode cX12_init 30 = .ok (.aload_n 0, 1) := by decide +kernel
theorem dX12_init_31 : decode cX12_init 31 = .ok (.sipush 200, 3) := by decide +kernel
theorem dX12_init_34 : decode cX12_init 34 = .ok (.newarray .int, 2) := by decide +kernel
theorem dX12_init_36 : decode cX12_init 36 = .ok (.putfield 19, 3) := by decide +kernel
theorem dX12_init_39 : decode cX12_init 39 = .ok (.aload_n 0, 1) := by decide +kernel
theorem dX12_init_40 : decode cX12_init 40 = .ok (.sipush 200, 3) := by decide +kernel
theorem dX12_init_43 : decode cX12_init 43 = .ok (.newarray .int, 2) := by decide +kernel
theorem dX12_init_45 : decode cX12_init 45 = .ok (.putfield 22, 3) := by decide +kernel
theorem dX12_init_48 : decode cX12_init 48 = .ok (.aload_n 0, 1) := by decide +kernel
theorem dX12_init_49 : decode cX12_init 49 = .ok (.sipush 144, 3) := by decide +kernel
theorem dX12_init_52 : decode cX12_init 52 = .ok (.newarray .char, 2) := by decide +kernel
theorem dX12_init_54 : decode cX12_init 54 = .ok (.dup, 1) := by decide +kernel
theorem dX12_init_55 : decode cX12_init 55 = .ok (.iconst 0, 1) := by decide +kernel
theorem dX12_init_56 : decode cX12_init 56 = .ok (.bipush 109, 2) := by decide +kernel
theorem dX12_init_58 : decode cX12_init 58 = .ok (.castore, 1) := by decide +kernel
theorem dX12_init_59 : decode cX12_init 59 = .ok (.dup, 1) := by decide +kernel
theorem dX12_init_60 : decode cX12_init 60 = .ok (.iconst 1, 1) := by decide +kernel
theorem dX12_init_61 : decode cX12_init 61 = .ok (.bipush 101, 2) := by decide +kernel
theorem dX12_init_63 : decode cX12_init 63 = .ok (.castore, 1) := by decide +kernel
theorem dX12_init_64 : decode cX12_init 64 = .ok (.dup, 1) := by decide +kernel
theorem dX12_init_65 : decode cX12_init 65 = .ok (.iconst 2, 1) := by decide +kernel
theorem dX12_init_66 : decode cX12_init 66 = .ok (.bipush 109, 2) := by decide +kernel
theorem dX12_init_68 : decode cX12_init 68 = .ok (.castore, 1) := by decide +kernel
theorem dX12_init_69 : decode cX12_init 69 = .ok (.dup, 1) := by decide +kernel
theorem dX12_init_70 : decode cX12_init 70 = .ok (.iconst 3, 1) := by decide +kernel
theorem dX12_init_71 : decode cX12_init 71 = .ok (.bipush 98, 2) := by decide +kernel
theorem dX12_init_73 : decode cX12_init 73 = .ok (.castore, 1) := by decide +kernel
theorem dX12_init_74 : decode cX12_init 74 = .ok (.dup, 1) := by decide +kernel
theorem dX12_init_75 : decode cX12_init 75 = .ok (.iconst 4, 1) := by decide +kernel
theorem dX12_init_76 : decode cX12_init 76 = .ok (.bipush 101, 2) := by decide +kernel
theorem dX12_init_78 : decode cX12_init 78 = .ok (.castore, 1) := by decide +kernel
theorem dX12_init_79 : decode cX12_init 79 = .ok (.dup, 1) := by decide +kernel
theorem dX12_init_80 : decode cX12_init 80 = .ok (.iconst 5, 1) := by decide +kernel
theorem dX12_init_81 : decode cX12_init 81 = .ok (.bipush 114, 2) := by decide +kernel
theorem dX12_init_83 : decode cX12_init 83 = .ok (.castore, 1) := by decide +kernel
theorem dX12_init_84 : decode cX12_init 84 = .ok (.dup, 1) := by decide +kernel
theorem dX12_init_85 : decode cX12_init 85 = .ok (.bipush 6, 2) := by decide +kernel
theorem dX12_init_87 : decode cX12_init 87 = .ok (.bipush 32, 2) := by decide +kernel
theorem dX12_init_89 : decode cX12_init 89 = .ok (.castore, 1) := by decide +kernel
theorem dX12_init_90 : decode cX12_init 90 = .ok (.dup, 1) := by decide +kernel
theorem dX12_init_91 : decode cX12_init 91 = .ok (.bipush 7, 2) := by decide +kernel
theorem dX12_init_93 : decode cX12_init 93 = .ok (.bipush 32, 2) := by decide +kernel
theorem dX12_init_95 : decode cX12_init 95 = .ok (.castore, 1) := by decide +kernel
theorem dX12_init_96 : decode cX12_init 96 = .ok (.dup, 1) := by decide +kernel
theorem dX12_init_97 : decode cX12_init 97 = .ok (.bipush 8, 2) := by decide +kernel
theorem dX12_init_99 : decode cX12_init 99 = .ok (.bipush 119, 2) := by decide +kernel
theorem dX12_init_101 : decode cX12_init 101 = .ok (.castore, 1) := by decide +kernel
theorem dX12_init_102 : decode cX12_init 102 = .ok (.dup, 1) := by decide +kernel
theorem dX12_init_103 : decode cX12_init 103 = .ok (.bipush 9, 2) := by decide +kernel
theorem dX12_init_105 : decode cX12_init 105 = .ok (.bipush 114, 2) := by decide +kernel
theorem dX12_init_107 : decode cX12_init 107 = .ok (.castore, 1) := by decide +kernel
theorem dX12_init_108 : decode cX12_init 108 = .ok (.dup, 1) := by decide +kernel
theorem dX12_init_109 : decode cX12_init 109 = .ok (.bipush 10, 2) := by decide +kernel
theorem dX12_init_111 : decode cX12_init 111 = .ok (.bipush 101, 2) := by decide +kernel
theorem dX12_init_113 : decode cX12_init 113 = .ok (.castore, 1) := by decide +kernel
theorem dX12_init_114 : decode cX12_init 114 = .ok (.dup, 1) := by decide +kernel
theorem dX12_init_115 : decode cX12_init 115 = .ok (.bipush 11, 2) := by decide +kernel
theorem dX12_init_117 : decode cX12_init 117 = .ok (.bipush 99, 2) := by decide +kernel
theorem dX12_init_119 : decode cX12_init 119 = .ok (.castore, 1) := by decide +kernel
theorem dX12_init_120 : decode cX12_init 120 = .ok (.dup, 1) := by decide +kernel
theorem dX12_init_121 : decode cX12_init 121 = .ok (.bipush 12, 2) := by decide +kernel
theorem dX12_init_123 : decode cX12_init 123 = .ok (.bipush 107, 2) := by decide +kernel
theorem dX12_init_125 : decode cX12_init 125 = .ok (.castore, 1) := by decide +kernel
theorem dX12_init_126 : decode cX12_init 126 = .ok (.dup, 1) := by decide +kernel
theorem dX12_init_127 : decode cX12_init 127 = .ok (.bipush 13, 2) := by decide +kernel
theorem dX12_init_129 : decode cX12_init 129 = .ok (.bipush 101, 2) := by decide +kernel
theorem dX12_init_131 : decode cX12_init 131 = .ok (.castore, 1) := by decide +kernel
theorem dX12_init_132 : decode cX12_init 132 = .ok (.dup, 1) := by decide +kernel
theorem dX12_init_133 : decode cX12_init 133 = .ok (.bipush 14, 2) := by decide +kernel
theorem dX12_init_135 : decode cX12_init 135 = .ok (.bipush 114, 2) := by decide +kernel
theorem dX12_init_137 : decode cX12_init 137 = .ok (.castore, 1) := by decide +kernel
theorem dX12_init_138 : decode cX12_init 138 = .ok (.dup, 1) := by decide +kernel
theorem dX12_init_139 : decode cX12_init 139 = .ok (.bipush 15, 2) := by decide +kernel
theorem dX12_init_141 : decode cX12_init 141 = .ok (.bipush 32, 2) := by decide +kernel
theorem dX12_init_143 : decode cX12_init 143 = .ok (.castore, 1) := by decide +kernel
theorem dX12_init_144 : decode cX12_init 144 = .ok (.dup, 1) := by decide +kernel
theorem dX12_init_145 : decode cX12_init 145 = .ok (.bipush 16, 2) := by decide +kernel
theorem dX12_init_147 : decode cX12_init 147 = .ok (.bipush 115, 2) := by decide +kernel
theorem dX12_init_149 : decode cX12_init 149 = .ok (.castore, 1) := by decide +kernel
theorem dX12_init_150 : decode cX12_init 150 = .ok (.dup, 1) := by decide +kernel
theorem dX12_init_151 : decode cX12_init 151 = .ok (.bipush 17, 2) := by decide +kernel
theorem dX12_init_153 : decode cX12_init 153 = .ok (.bipush 97, 2) := by decide +kernel
theorem dX12_init_155 : decode cX12_init 155 = .ok (.castore, 1) := by decide +kernel
theorem dX12_init_156 : decode cX12_init 156 = .ok (.dup, 1) := by decide +kernel
theorem dX12_init_157 : decode cX12_init 157 = .ok (.bipush 18, 2) := by decide +kernel
theorem dX12_init_159 : decode cX12_init 159 = .ok (.bipush 118, 2) := by decide +kernel
theorem dX12_init_161 : decode cX12_init 161 = .ok (.castore, 1) := by decide +kernel
theorem dX12_init_162 : decode cX12_init 162 = .ok (.dup, 1) := by decide +kernel
theorem dX12_init_163 : decode cX12_init 163 = .ok (.bipush 19, 2) := by decide +kernel
theorem dX12_init_165 : decode cX12_init 165 = .ok (.bipush 101, 2) := by decide +kernel
theorem dX12_init_167 : decode cX12_init 167 = .ok (.castore, 1) := by decide +kernel
theorem dX12_init_168 : decode cX12_init 168 = .ok (.dup, 1) := by decide +kernel
theorem dX12_init_169 : decode cX12_init 169 = .ok (.bipush 20, 2) := by decide +kernel
theorem dX12_init_171 : decode cX12_init 171 = .ok (.bipush 114, 2) := by decide +kernel
theorem dX12_init_173 : decode cX12_init 173 = .ok (.castore, 1) := by decide +kernel
theorem dX12_init_174 : decode cX12_init 174 = .ok (.dup, 1) := by decide +kernel
theorem dX12_init_175 : decode cX12_init 175 = .ok (.bipush 21, 2) := by decide +kernel
theorem dX12_init_177 : decode cX12_init 177 = .ok (.bipush 32, 2) := by decide +kernel
theorem dX12_init_179 : decode cX12_init 179 = .ok (.castore, 1) := by decide +kernel
theorem dX12_init_180 : decode cX12_init 180 = .ok (.dup, 1) := by decide +kernel
theorem dX12_init_181 : decode cX12_init 181 = .ok (.bipush 22, 2) := by decide +kernel
theorem dX12_init_183 : decode cX12_init 183 = .ok (.bipush 32, 2) := by decide +kernel
theorem dX12_init_185 : decode cX12_init 185 = .ok (.castore, 1) := by decide +kernel
theorem dX12_init_186 : decode cX12_init 186 = .ok (.dup, 1) := by decide +kernel
theorem dX12_init_187 : decode cX12_init 187 = .ok (.bipush 23, 2) := by decide +kernel
theorem dX12_init_189 : decode cX12_init 189 = .ok (.bipush 32, 2) := by decide +kernel
theorem dX12_init_191 : decode cX12_init 191 = .ok (.castore, 1) := by decide +kernel
theorem dX12_init_192 : decode cX12_init 192 = .ok (.dup, 1) := by decide +kernel
theorem dX12_init_193 : decode cX12_init 193 = .ok (.bipush 24, 2) := by decide +kernel
theorem dX12_init_195 : decode cX12_init 195 = .ok (.bipush 99, 2) := by decide +kernel
theorem dX12_init_197 : decode cX12_init 197 = .ok (.castore, 1) := by decide +kernel
theorem dX12_init_198 : decode cX12_init 198 = .ok (.dup, 1) := by decide +kernel
theorem dX12_init_199 : decode cX12_init 199 = .ok (.bipush 25, 2) := by decide +kernel
theorem dX12_init_201 : decode cX12_init 201 = .ok (.bipush 104, 2) := by decide +kernel
theorem dX12_init_203 : decode cX12_init 203 = .ok (.castore, 1) := by decide +kernel
theorem dX12_init_204 : decode cX12_init 204 = .ok (.dup, 1) := by decide +kernel
theorem dX12_init_205 : decode cX12_init 205 = .ok (.bipush 26, 2) := by decide +kernel
theorem dX12_init_207 : decode cX12_init 207 = .ok (.bipush 97, 2) := by decide +kernel
theorem dX12_init_209 : decode cX12_init 209 = .ok (.castore, 1) := by decide +kernel
theorem dX12_init_210 : decode cX12_init 210 = .ok (.dup, 1) := by decide +kernel
theorem dX12_init_211 : decode cX12_init 211 = .ok (.bipush 27, 2) := by decide +kernel
theorem dX12_init_213 : decode cX12_init 213 = .ok (.bipush 105, 2) := by decide +kernel
theorem dX12_init_215 : decode cX12_init 215 = .ok (.castore, 1) := by decide +kernel
theorem dX12_init_216 : decode cX12_init 216 = .ok (.dup, 1) := by decide +kernel
theorem dX12_init_217 : decode cX12_init 217 = .ok (.bipush 28, 2) := by decide +kernel
theorem dX12_init_219 : decode cX12_init 219 = .ok (.bipush 114, 2) := by decide +kernel
theorem dX12_init_221 : decode cX12_init 221 = .ok (.castore, 1) := by decide +kernel
theorem dX12_init_222 : decode cX12_init 222 = .ok (.dup, 1) := by decide +kernel
theorem dX12_init_223 : decode cX12_init 223 = .ok (.bipush 29, 2) := by decide +kernel
theorem dX12_init_225 : decode cX12_init 225 = .ok (.bipush 32, 2) := by decide +kernel
theorem dX12_init_227 : decode cX12_init 227 = .ok (.castore, 1) := by decide +kernel
theorem dX12_init_228 : decode cX12_init 228 = .ok (.dup, 1) := by decide +kernel
theorem dX12_init_229 : decode cX12_init 229 = .ok (.bipush 30, 2) := by decide +kernel
theorem dX12_init_231 : decode cX12_init 231 = .ok (.bipush 32, 2) := by decide +kernel
theorem dX12_init_233 : decode cX12_init 233 = .ok (.castore, 1) := by decide +kernel
theorem dX12_init_234 : decode cX12_init 234 = .ok (.dup, 1) := by decide +kernel
theorem dX12_init_235 : decode cX12_init 235 = .ok (.bipush 31, 2) := by decide +kernel
theorem dX12_init_237 : decode cX12_init 237 = .ok (.bipush 32, 2) := by decide +kernel
theorem dX12_init_239 : decode cX12_init 239 = .ok (.castore, 1) := by decide +kernel
theorem dX12_init_240 : decode cX12_init 240 = .ok (.dup, 1) := by decide +kernel
theorem dX12_init_241 : decode cX12_init 241 = .ok (.bipush 32, 2) := by decide +kernel
theorem dX12_init_243 : decode cX12_init 243 = .ok (.bipush 102, 2) := by decide +kernel
theorem dX12_init_245 : decode cX12_init 245 = .ok (.castore, 1) := by decide +kernel
theorem dX12_init_246 : decode cX12_init 246 = .ok (.dup, 1) := by decide +kernel
theorem dX12_init_247 : decode cX12_init 247 = .ok (.bipush 33, 2) := by decide +kernel
theorem dX12_init_249 : decode cX12_init 249 = .ok (.bipush 97, 2) := by decide +kernel
theorem dX12_init_251 : decode cX12_init 251 = .ok (.castore, 1) := by decide +kernel
theorem dX12_init_252 : decode cX12_init 252 = .ok (.dup, 1) := by decide +kernel
theorem dX12_init_253 : decode cX12_init 253 = .ok (.bipush 34, 2) := by decide +kernel
theorem dX12_init_255 : decode cX12_init 255 = .ok (.bipush 114, 2) := by decide +kernel
theorem dX12_init_257 : decode cX12_init 257 = .ok (.castore, 1) := by decide +kernel
theorem dX12_init_258 : decode cX12_init 258 = .ok (.dup, 1) := by decide +kernel
theorem dX12_init_259 : decode cX12_init 259 = .ok (.bipush 35, 2) := by decide +kernel
theorem dX12_init_261 : decode cX12_init 261 = .ok (.bipush 109, 2) := by decide +kernel
theorem dX12_init_263 : decode cX12_init 263 = .ok (.castore, 1) := by decide +kernel
theorem dX12_init_264 : decode cX12_init 264 = .ok (.dup, 1) := by decide +kernel
theorem dX12_init_265 : decode cX12_init 265 = .ok (.bipush 36, 2) := by decide +kernel
theorem dX12_init_267 : decode cX12_init 267 = .ok (.bipush 101, 2) := by decide +kernel
theorem dX12_init_269 : decode cX12_init 269 = .ok (.castore, 1) := by decide +kernel
theorem dX12_init_270 : decode cX12_init 270 = .ok (.dup, 1) := by decide +kernel
theorem dX12_init_271 : decode cX12_init 271 = .ok (.bipush 37, 2) := by decide +kernel
theorem dX12_init_273 : decode cX12_init 273 = .ok (.bipush 114, 2) := by decide +kernel
theorem dX12_init_275 : decode cX12_init 275 = .ok (.castore, 1) := by decide +kernel
theorem dX12_init_276 : decode cX12_init 276 = .ok (.dup, 1) := by decide +kernel
theorem dX12_init_277 : decode cX12_init 277 = .ok (.bipush 38, 2) := by decide +kernel
theorem dX12_init_279 : decode cX12_init 279 = .ok (.bipush 32, 2) := by decide +kernel
theorem dX12_init_281 : decode cX12_init 281 = .ok (.castore, 1) := by decide +kernel
theorem dX12_init_282 : decode cX12_init 282 = .ok (.dup, 1) := by decide +kernel
theorem dX12_init_283 : decode cX12_init 283 = .ok (.bipush 39, 2) := by decide +kernel
theorem dX12_init_285 : decode cX12_init 285 = .ok (.bipush 32, 2) := by decide +kernel
theorem dX12_init_287 : decode cX12_init 287 = .ok (.castore, 1) := by decide +kernel
theorem dX12_init_288 : decode cX12_init 288 = .ok (.dup, 1) := by decide +kernel
theorem dX12_init_289 : decode cX12_init 289 = .ok (.bipush 40, 2) := by decide +kernel
theorem dX12_init_291 : decode cX12_init 291 = .ok (.bipush 108, 2) := by decide +kernel
theorem dX12_init_293 : decode cX12_init 293 = .ok (.castore, 1) := by decide +kernel
theorem dX12_init_294 : decode cX12_init 294 = .ok (.dup, 1) := by decide +kernel
theorem dX12_init_295 : decode cX12_init 295 = .ok (.bipush 41, 2) := by decide +kernel
theorem dX12_init_297 : decode cX12_init 297 = .ok (.bipush 97, 2) := by decide +kernel
theorem dX12_init_299 : decode cX12_init 299 = .ok (.castore, 1) := by decide +kernel
theorem dX12_init_300 : decode cX12_init 300 = .ok (.dup, 1) := by decide +kernel
theorem dX12_init_301 : decode cX12_init 301 = .ok (.bipush 42, 2) := by decide +kernel
theorem dX12_init_303 : decode cX12_init 303 = .ok (.bipush 100, 2) := by decide +kernel
theorem dX12_init_305 : decode cX12_init 305 = .ok (.castore, 1) := by decide +kernel
theorem dX12_init_306 : decode cX12_init 306 = .ok (.dup, 1) := by decide +kernel
theorem dX12_init_307 : decode cX12_init 307 = .ok (.bipush 43, 2) := by decide +kernel
theorem dX12_init_309 : decode cX12_init 309 = .ok (.bipush 32, 2) := by decide +kernel
theorem dX12_init_311 : decode cX12_init 311 = .ok (.castore, 1) := by decide +kernel
theorem dX12_init_312 : decode cX12_init 312 = .ok (.dup, 1) := by decide +kernel
theorem dX12_init_313 : decode cX12_init 313 = .ok (.bipush 44, 2) := by decide +kernel
theorem dX12_init_315 : decode cX12_init 315 = .ok (.bipush 32, 2) := by decide +kernel
theorem dX12_init_317 : decode cX12_init 317 = .ok (.castore, 1) := by decide +kernel
theorem dX12_init_318 : decode cX12_init 318 = .ok (.dup, 1) := by decide +kernel
theorem dX12_init_319 : decode cX12_init 319 = .ok (.bipush 45, 2) := by decide +kernel
theorem dX12_init_321 : decode cX12_init 321 = .ok (.bipush 32, 2) := by decide +kernel
theorem dX12_init_323 : decode cX12_init 323 = .ok (.castore, 1) := by decide +kernel
theorem dX12_init_324 : decode cX12_init 324 = .ok (.dup, 1) := by decide +kernel
theorem dX12_init_325 : decode cX12_init 325 = .ok (.bipush 46, 2) := by decide +kernel
theorem dX12_init_327 : decode cX12_init 327 = .ok (.bipush 32, 2) := by decide +kernel
theorem dX12_init_329 : decode cX12_init 329 = .ok (.castore, 1) := by decide +kernel
theorem dX12_init_330 : decode cX12_init 330 = .ok (.dup, 1) := by decide +kernel
theorem dX12_init_331 : decode cX12_init 331 = .ok (.bipush 47, 2) := by decide +kernel
theorem dX12_init_333 : decode cX12_init 333 = .ok (.bipush 32, 2) := by decide +kernel
theorem dX12_init_335 : decode cX12_init 335 = .ok (.castore, 1) := by decide +kernel
theorem dX12_init_336 : decode cX12_init 336 = .ok (.dup, 1) := by decide +kernel
theorem dX12_init_337 : decode cX12_init 337 = .ok (.bipush 48, 2) := by decide +kernel
theorem dX12_init_339 : decode cX12_init 339 = .ok (.bipush 100, 2) := by decide +kernel
theorem dX12_init_341 : decode cX12_init 341 = .ok (.castore, 1) := by decide +kernel
theorem dX12_init_342 : decode cX12_init 342 = .ok (.dup, 1) := by decide +kernel
theorem dX12_init_343 : decode cX12_init 343 = .ok (.bipush 49, 2) := by decide +kernel
theorem dX12_init_345 : decode cX12_init 345 = .ok (.bipush 105, 2) := by decide +kernel
theorem dX12_init_347 : decode cX12_init 347 = .ok (.castore, 1) := by decide +kernel
theorem dX12_init_348 : decode cX12_init 348 = .ok (.dup, 1) := by decide +kernel
theorem dX12_init_349 : decode cX12_init 349 = .ok (.bipush 50, 2) := by decide +kernel
theorem dX12_init_351 : decode cX12_init 351 = .ok (.bipush 109, 2) := by decide +kernel
theorem dX12_init_353 : decode cX12_init 353 = .ok (.castore, 1) := by decide +kernel
theorem dX12_init_354 : decode cX12_init 354 = .ok (.dup, 1) := by decide +kernel
theorem dX12_init_355 : decode cX12_init 355 = .ok (.bipush 51, 2) := by decide +kernel
theorem dX12_init_357 : decode cX12_init 357 = .ok (.bipush 32, 2) := by decide +kernel
theorem dX12_init_359 : decode cX12_init 359 = .ok (.castore, 1) := by decide +kernel
theorem dX12_init_360 : decode cX12_init 360 = .ok (.dup, 1) := by decide +kernel
theorem dX12_init_361 : decode cX12_init 361 = .ok (.bipush 52, 2) := by decide +kernel
theorem dX12_init_363 : decode cX12_init 363 = .ok (.bipush 32, 2) := by decide +kernel
theorem dX12_init_365 : decode cX12_init 365 = .ok (.castore, 1) := by decide +kernel
theorem dX12_init_366 : decode cX12_init 366 = .ok (.dup, 1) := by decide +kernel
theorem dX12_init_367 : decode cX12_init 367 = .ok (.bipush 53, 2) := by decide +kernel
theorem dX12_init_369 : decode cX12_init 369 = .ok (.bipush 32, 2) := by decide +kernel
theorem dX12_init_371 : decode cX12_init 371 = .ok (.castore, 1) := by decide +kernel
theorem dX12_init_372 : decode cX12_init 372 = .ok (.dup, 1) := by decide +kernel
theorem dX12_init_373 : decode cX12_init 373 = .ok (.bipush 54, 2) := by decide +kernel
theorem dX12_init_375 : decode cX12_init 375 = .ok (.bipush 32, 2) := by decide +kernel
theorem dX12_init_377 : decode cX12_init 377 = .ok (.castore, 1) := by decide +kernel
theorem dX12_init_378 : decode cX12_init 378 = .ok (.dup, 1) := by decide +kernel
theorem dX12_init_379 : decode cX12_init 379 = .ok (.bipush 55, 2) := by decide +kernel
theorem dX12_init_381 : decode cX12_init 381 = .ok (.bipush 32, 2) := by decide +kernel
theorem dX12_init_383 : decode cX12_init 383 = .ok (.castore, 1) := by decide +kernel
theorem dX12_init_384 : decode cX12_init 384 = .ok (.dup, 1) := by decide +kernel
theorem dX12_init_385 : decode cX12_init 385 = .ok (.bipush 56, 2) := by decide +kernel
theorem dX12_init_387 : decode cX12_init 387 = .ok (.bipush 107, 2) := by decide +kernel
theorem dX12_init_389 : decode cX12_init 389 = .ok (.castore, 1) := by decide +kernel
theorem dX12_init_390 : decode cX12_init 390 = .ok (.dup, 1) := by decide +kernel
theorem dX12_init_391 : decode cX12_init 391 = .ok (.bipush 57, 2) := by decide +kernel
theorem dX12_init_393 : decode cX12_init 393 = .ok (.bipush 101, 2) := by decide +kernel
theorem dX12_init_395 : decode cX12_init 395 = .ok (.castore, 1) := by decide +kernel
theorem dX12_init_396 : decode cX12_init 396 = .ok (.dup, 1) := by decide +kernel
theorem dX12_init_397 : decode cX12_init 397 = .ok (.bipush 58, 2) := by decide +kernel
theorem dX12_init_399 : decode cX12_init 399 = .ok (.bipush 101, 2) := by decide +kernel
theorem dX12_init_401 : decode cX12_init 401 = .ok (.castore, 1) := by decide +kernel
theorem dX12_init_402 : decode cX12_init 402 = .ok (.dup, 1) := by decide +kernel
theorem dX12_init_403 : decode cX12_init 403 = .ok (.bipush 59, 2) := by decide +kernel
theorem dX12_init_405 : decode cX12_init 405 = .ok (.bipush 112, 2) := by decide +kernel
theorem dX12_init_407 : decode cX12_init 407 = .ok (.castore, 1) := by decide +kernel
theorem dX12_init_408 : decode cX12_init 408 = .ok (.dup, 1) := by decide +kernel
theorem dX12_init_409 : decode cX12_init 409 = .ok (.bipush 60, 2) := by decide +kernel
theorem dX12_init_411 : decode cX12_init 411 = .ok (.bipush 32, 2) := by decide +kernel
theorem dX12_init_413 : decode cX12_init 413 = .ok (.castore, 1) := by decide +kernel
theorem dX12_init_414 : decode cX12_init 414 = .ok (.dup, 1) := by decide +kernel
theorem dX12_init_415 : decode cX12_init 415 = .ok (.bipush 61, 2) := by decide +kernel
theorem dX12_init_417 : decode cX12_init 417 = .ok (.bipush 32, 2) := by decide +kernel
theorem dX12_init_419 : decode cX12_init 419 = .ok (.castore, 1) := by decide +kernel
theorem dX12_init_420 : decode cX12_init 420 = .ok (.dup, 1) := by decide +kernel
theorem dX12_init_421 : decode cX12_init 421 = .ok (.bipush 62, 2) := by decide +kernel
theorem dX12_init_423 : decode cX12_init 423 = .ok (.bipush 32, 2) := by decide +kernel
theorem dX12_init_425 : decode cX12_init 425 = .ok (.castore, 1) := by decide +kernel
theorem dX12_init_426 : decode cX12_init 426 = .ok (.dup, 1) := by decide +kernel
theorem dX12_init_427 : decode cX12_init 427 = .ok (.bipush 63, 2) := by decide +kernel
theorem dX12_init_429 : decode cX12_init 429 = .ok (.bipush 32, 2) := by decide +kernel
theorem dX12_init_431 : decode cX12_init 431 = .ok (.castore, 1) := by decide +kernel
theorem dX12_init_432 : decode cX12_init 432 = .ok (.dup, 1) := by decide +kernel
theorem dX12_init_433 : decode cX12_init 433 = .ok (.bipush 64, 2) := by decide +kernel
theorem dX12_init_435 : decode cX12_init 435 = .ok (.bipush 116, 2) := by decide +kernel
theorem dX12_init_437 : decode cX12_init 437 = .ok (.castore, 1) := by decide +kernel
theorem dX12_init_438 : decode cX12_init 438 = .ok (.dup, 1) := by decide +kernel
theorem dX12_init_439 : decode cX12_init 439 = .ok (.bipush 65, 2) := by decide +kernel
theorem dX12_init_441 : decode cX12_init 441 = .ok (.bipush 114, 2) := by decide +kernel
theorem dX12_init_443 : decode cX12_init 443 = .ok (.castore, 1) := by decide +kernel
theorem dX12_init_444 : decode cX12_init 444 = .ok (.dup, 1) := by decide +kernel
theorem dX12_init_445 : decode cX12_init 445 = .ok (.bipush 66, 2) := by decide +kernel
theorem dX12_init_447 : decode cX12_init 447 = .ok (.bipush 105, 2) := by decide +kernel
theorem dX12_init_449 : decode cX12_init 449 = .ok (.castore, 1) := by decide +kernel
theorem dX12_init_450 : decode cX12_init 450 = .ok (.dup, 1) := by decide +kernel
theorem dX12_init_451 : decode cX12_init 451 = .ok (.bipush 67, 2) := by decide +kernel
theorem dX12_init_453 : decode cX12_init 453 = .ok (.bipush 109, 2) := by decide +kernel
theorem dX12_init_455 : decode cX12_init 455 = .ok (.castore, 1) := by decide +kernel
theorem dX12_init_456 : decode cX12_init 456 = .ok (.dup, 1) := by decide +kernel
theorem dX12_init_457 : decode cX12_init 457 = .ok (.bipush 68, 2) := by decide +kernel
theorem dX12_init_459 : decode cX12_init 459 = .ok (.bipush 32, 2) := by decide +kernel
theorem dX12_init_461 : decode cX12_init 461 = .ok (.castore, 1) := by decide +kernel
theorem dX12_init_462 : decode cX12_init 462 = .ok (.dup, 1) := by decide +kernel
theorem dX12_init_463 : decode cX12_init 463 = .ok (.bipush 69, 2) := by decide +kernel
theorem dX12_init_465 : decode cX12_init 465 = .ok (.bipush 32, 2) := by decide +kernel
theorem dX12_init_467 : decode cX12_init 467 = .ok (.castore, 1) := by decide +kernel
theorem dX12_init_468 : decode cX12_init 468 = .ok (.dup, 1) := by decide +kernel
theorem dX12_init_469 : decode cX12_init 469 = .ok (.bipush 70, 2) := by decide +kernel
theorem dX12_init_471 : decode cX12_init 471 = .ok (.bipush 32, 2) := by decide +kernel
theorem dX12_init_473 : decode cX12_init 473 = .ok (.castore, 1) := by decide +kernel
theorem dX12_init_474 : decode cX12_init 474 = .ok (.dup, 1) := by decide +kernel
theorem dX12_init_475 : decode cX12_init 475 = .ok (.bipush 71, 2) := by decide +kernel
theorem dX12_init_477 : decode cX12_init 477 = .ok (.bipush 32, 2) := by decide +kernel
theorem dX12_init_479 : decode cX12_init 479 = .ok (.castore, 1) := by decide +kernel
theorem dX12_init_480 : decode cX12_init 480 = .ok (.dup, 1) := by decide +kernel
theorem dX12_init_481 : decode cX12_init 481 = .ok (.bipush 72, 2) := by decide +kernel
theorem dX12_init_483 : decode cX12_init 483 = .ok (.bipush 105, 2) := by decide +kernel
theorem dX12_init_485 : decode cX12_init 485 = .ok (.castore, 1) := by decide +kernel
theorem dX12_init_486 : decode cX12_init 486 = .ok (.dup, 1) := by decide +kernel
theorem dX12_init_487 : decode cX12_init 487 = .ok (.bipush 73, 2) := by decide +kernel
theorem dX12_init_489 : decode cX12_init 489 = .ok (.bipush 102, 2) := by decide +kernel
theorem dX12_init_491 : decode cX12_init 491 = .ok (.castore, 1) := by decide +kernel
theorem dX12_init_492 : decode cX12_init 492 = .ok (.dup, 1) := by decide +kernel
theorem dX12_init_493 : decode cX12_init 493 = .ok (.bipush 74, 2) := by decide +kernel
theorem dX12_init_495 : decode cX12_init 495 = .ok (.bipush 32, 2) := by decide +kernel
theorem dX12_init_497 : decode cX12_init 497 = .ok (.castore, 1) := by decide +kernel
theorem dX12_init_498 : decode cX12_init 498 = .ok (.dup, 1) := by decide +kernel
theorem dX12_init_499 : decode cX12_init 499 = .ok (.bipush 75, 2) := by decide +kernel
theorem dX12_init_501 : decode cX12_init 501 = .ok (.bipush 32, 2) := by decide +kernel
theorem dX12_init_503 : decode cX12_init 503 = .ok (.castore, 1) := by decide +kernel
theorem dX12_init_504 : decode cX12_init 504 = .ok (.dup, 1) := by decide +kernel
theorem dX12_init_505 : decode cX12_init 505 = .ok (.bipush 76, 2) := by decide +kernel
theorem dX12_init_507 : decode cX12_init 507 = .ok (.bipush 32, 2) := by decide +kernel
theorem dX12_init_509 : decode cX12_init 509 = .ok (.castore, 1) := by decide +kernel
theorem dX12_init_510 : decode cX12_init 510 = .ok (.dup, 1) := by decide +kernel
theorem dX12_init_511 : decode cX12_init 511 = .ok (.bipush 77, 2) := by decide +kernel
theorem dX12_init_513 : decode cX12_init 513 = .ok (.bipush 32, 2) := by decide +kernel
theorem dX12_init_515 : decode cX12_init 515 = .ok (.castore, 1) := by decide +kernel
theorem dX12_init_516 : decode cX12_init 516 = .ok (.dup, 1) := by decide +kernel
theorem dX12_init_517 : decode cX12_init 517 = .ok (.bipush 78, 2) := by decide +kernel
theorem dX12_init_519 : decode cX12_init 519 = .ok (.bipush 32, 2) := by decide +kernel
theorem dX12_init_521 : decode cX12_init 521 = .ok (.castore, 1) := by decide +kernel
theorem dX12_init_522 : decode cX12_init 522 = .ok (.dup, 1) := by decide +kernel
theorem dX12_init_523 : decode cX12_init 523 = .ok (.bipush 79, 2) := by decide +kernel
theorem dX12_init_525 : decode cX12_init 525 = .ok (.bipush 32, 2) := by decide +kernel
theorem dX12_init_527 : decode cX12_init 527 = .ok (.castore, 1) := by decide +kernel
theorem dX12_init_528 : decode cX12_init 528 = .ok (.dup, 1) := by decide +kernel
theorem dX12_init_529 : decode cX12_init 529 = .ok (.bipush 80, 2) := by decide +kernel
theorem dX12_init_531 : decode cX12_init 531 = .ok (.bipush 110, 2) := by decide +kernel
theorem dX12_init_533 : decode cX12_init 533 = .ok (.castore, 1) := by decide +kernel
theorem dX12_init_534 : decode cX12_init 534 = .ok (.dup, 1) := by decide +kernel
theorem dX12_init_535 : decode cX12_init 535 = .ok (.bipush 81, 2) := by decide +kernel
theorem dX12_init_537 : decode cX12_init 537 = .ok (.bipush 111, 2) := by decide +kernel
theorem dX12_init_539 : decode cX12_init 539 = .ok (.castore, 1) := by decide +kernel
theorem dX12_init_540 : decode cX12_init 540 = .ok (.dup, 1) := by decide +kernel
theorem dX12_init_541 : decode cX12_init 541 = .ok (.bipush 82, 2) := by decide +kernel
theorem dX12_init_543 : decode cX12_init 543 = .ok (.bipush 116, 2) := by decide +kernel
theorem dX12_init_545 : decode cX12_init 545 = .ok (.castore, 1) := by decide +kernel
theorem dX12_init_546 : decode cX12_init 546 = .ok (.dup, 1) := by decide +kernel
theorem dX12_init_547 : decode cX12_init 547 = .ok (.bipush 83, 2) := by decide +kernel
theorem dX12_init_549 : decode cX12_init 549 = .ok (.bipush 32, 2) := by decide +kernel
theorem dX12_init_551 : decode cX12_init 551 = .ok (.castore, 1) := by decide +kernel
theorem dX12_init_552 : decode cX12_init 552 = .ok (.dup, 1) := by decide +kernel
theorem dX12_init_553 : decode cX12_init 553 = .ok (.bipush 84, 2) := by decide +kernel
theorem dX12_init_555 : decode cX12_init 555 = .ok (.bipush 32, 2) := by decide +kernel
theorem dX12_init_557 : decode cX12_init 557 = .ok (.castore, 1) := by decide +kernel
theorem dX12_init_558 : decode cX12_init 558 = .ok (.dup, 1) := by decide +kernel
theorem dX12_init_559 : decode cX12_init 559 = .ok (.bipush 85, 2) := by decide +kernel
theorem dX12_init_561 : decode cX12_init 561 = .ok (.bipush 32, 2) := by decide +kernel
theorem dX12_init_563 : decode cX12_init 563 = .ok (.castore, 1) := by decide +kernel
theorem dX12_init_564 : decode cX12_init 564 = .ok (.dup, 1) := by decide +kernel
theorem dX12_init_565 : decode cX12_init 565 = .ok (.bipush 86, 2) := by decide +kernel
theorem dX12_init_567 : decode cX12_init 567 = .ok (.bipush 32, 2) := by decide +kernel
theorem dX12_init_569 : decode cX12_init 569 = .ok (.castore, 1) := by decide +kernel
theorem dX12_init_570 : decode cX12_init 570 = .ok (.dup, 1) := by decide +kernel
theorem dX12_init_571 : decode cX12_init 571 = .ok (.bipush 87, 2) := by decide +kernel
theorem dX12_init_573 : decode cX12_init 573 = .ok (.bipush 32, 2) := by decide +kernel
theorem dX12_init_575 : decode cX12_init 575 = .ok (.castore, 1) := by decide +kernel
theorem dX12_init_576 : decode cX12_init 576 = .ok (.dup, 1) := by decide +kernel
theorem dX12_init_577 : decode cX12_init 577 = .ok (.bipush 88, 2) := by decide +kernel
theorem dX12_init_579 : decode cX12_init 579 = .ok (.bipush 97, 2) := by decide +kernel
theorem dX12_init_581 : decode cX12_init 581 = .ok (.castore, 1) := by decide +kernel
theorem dX12_init_582 : decode cX12_init 582 = .ok (.dup, 1) := by decide +kernel
theorem dX12_init_583 : decode cX12_init 583 = .ok (.bipush 89, 2) := by decide +kernel
theorem dX12_init_585 : decode cX12_init 585 = .ok (.bipush 110, 2) := by decide +kernel
theorem dX12_init_587 : decode cX12_init 587 = .ok (.castore, 1) := by decide +kernel
theorem dX12_init_588 : decode cX12_init 588 = .ok (.dup, 1) := by decide +kernel
theorem dX12_init_589 : decode cX12_init 589 = .ok (.bipush 90, 2) := by decide +kernel
theorem dX12_init_591 : decode cX12_init 591 = .ok (.bipush 100, 2) := by decide +kernel
theorem dX12_init_593 : decode cX12_init 593 = .ok (.castore, 1) := by decide +kernel
theorem dX12_init_594 : decode cX12_init 594 = .ok (.dup, 1) := by decide +kernel
theorem dX12_init_595 : decode cX12_init 595 = .ok (.bipush 91, 2) := by decide +kernel
theorem dX12_init_597 : decode cX12_init 597 = .ok (.bipush 32, 2) := by decide +kernel
theorem dX12_init_599 : decode cX12_init 599 = .ok (.castore, 1) := by decide +kernel
theorem dX12_init_600 : decode cX12_init 600 = .ok (.dup, 1) := by decide +kernel
theorem dX12_init_601 : decode cX12_init 601 = .ok (.bipush 92, 2) := by decide +kernel
theorem dX12_init_603 : decode cX12_init 603 = .ok (.bipush 32, 2) := by decide +kernel
theorem dX12_init_605 : decode cX12_init 605 = .ok (.castore, 1) := by decide +kernel
theorem dX12_init_606 : decode cX12_init 606 = .ok (.dup, 1) := by decide +kernel
theorem dX12_init_607 : decode cX12_init 607 = .ok (.bipush 93, 2) := by decide +kernel
theorem dX12_init_609 : decode cX12_init 609 = .ok (.bipush 32, 2) := by decide +kernel
theorem dX12_init_611 : decode cX12_init 611 = .ok (.castore, 1) := by decide +kernel
theorem dX12_init_612 : decode cX12_init 612 = .ok (.dup, 1) := by decide +kernel
theorem dX12_init_613 : decode cX12_init 613 = .ok (.bipush 94, 2) := by decide +kernel
theorem dX12_init_615 : decode cX12_init 615 = .ok (.bipush 32, 2) := by decide +kernel
theorem dX12_init_617 : decode cX12_init 617 = .ok (.castore, 1) := by decide +kernel
theorem dX12_init_618 : decode cX12_init 618 = .ok (.dup, 1) := by decide +kernel
theorem dX12_init_619 : decode cX12_init 619 = .ok (.bipush 95, 2) := by decide +kernel
theorem dX12_init_621 : decode cX12_init 621 = .ok (.bipush 32, 2) := by decide +kernel
theorem dX12_init_623 : decode cX12_init 623 = .ok (.castore, 1) := by decide +kernel
theorem dX12_init_624 : decode cX12_init 624 = .ok (.dup, 1) := by decide +kernel
theorem dX12_init_625 : decode cX12_init 625 = .ok (.bipush 96, 2) := by decide +kernel
theorem dX12_init_627 : decode cX12_init 627 = .ok (.bipush 111, 2) := by decide +kernel
theorem dX12_init_629 : decode cX12_init 629 = .ok (.castore, 1) := by decide +kernel
theorem dX12_init_630 : decode cX12_init 630 = .ok (.dup, 1) := by decide +kernel
theorem dX12_init_631 : decode cX12_init 631 = .ok (.bipush 97, 2) := by decide +kernel
theorem dX12_init_633 : decode cX12_init 633 = .ok (.bipush 114, 2) := by decide +kernel
theorem dX12_init_635 : decode cX12_init 635 = .ok (.castore, 1) := by decide +kernel
theorem dX12_init_636 : decode cX12_init 636 = .ok (.dup, 1) := by decide +kernel
theorem dX12_init_637 : decode cX12_init 637 = .ok (.bipush 98, 2) := by decide +kernel
theorem dX12_init_639 : decode cX12_init 639 = .ok (.bipush 32, 2) := by decide +kernel
theorem dX12_init_641 : decode cX12_init 641 = .ok (.castore, 1) := by decide +kernel
theorem dX12_init_642 : decode cX12_init 642 = .ok (.dup, 1) := by decide +kernel
theorem dX12_init_643 : decode cX12_init 643 = .ok (.bipush 99, 2) := by decide +kernel
theorem dX12_init_645 : decode cX12_init 645 = .ok (.bipush 32, 2) := by decide +kernel
theorem dX12_init_647 : decode cX12_init 647 = .ok (.castore, 1) := by decide +kernel
theorem dX12_init_648 : decode cX12_init 648 = .ok (.dup, 1) := by decide +kernel
theorem dX12_init_649 : decode cX12_init 649 = .ok (.bipush 100, 2) := by decide +kernel
theorem dX12_init_651 : decode cX12_init 651 = .ok (.bipush 32, 2) := by decide +kernel
theorem dX12_init_653 : decode cX12_init 653 = .ok (.castore, 1) := by decide +kernel
theorem dX12_init_654 : decode cX12_init 654 = .ok (.dup, 1) := by decide +kernel
theorem dX12_init_655 : decode cX12_init 655 = .ok (.bipush 101, 2) := by decide +kernel
theorem dX12_init_657 : decode cX12_init 657 = .ok (.bipush 32, 2) := by decide +kernel
theorem dX12_init_659 : decode cX12_init 659 = .ok (.castore, 1) := by decide +kernel
theorem dX12_init_660 : decode cX12_init 660 = .ok (.dup, 1) := by decide +kernel
theorem dX12_init_661 : decode cX12_init 661 = .ok (.bipush 102, 2) := by decide +kernel
theorem dX12_init_663 : decode cX12_init 663 = .ok (.bipush 32, 2) := by decide +kernel
theorem dX12_init_665 : decode cX12_init 665 = .ok (.castore, 1) := by decide +kernel
theorem dX12_init_666 : decode cX12_init 666 = .ok (.dup, 1) := by decide +kernel
theorem dX12_init_667 : decode cX12_init 667 = .ok (.bipush 103, 2) := by decide +kernel
theorem dX12_init_669 : decode cX12_init 669 = .ok (.bipush 32, 2) := by decide +kernel
theorem dX12_init_671 : decode cX12_init 671 = .ok (.castore, 1) := by decide +kernel
theorem dX12_init_672 : decode cX12_init 672 = .ok (.dup, 1) := by decide +kernel
theorem dX12_init_673 : decode cX12_init 673 = .ok (.bipush 104, 2) := by decide +kernel
theorem dX12_init_675 : decode cX12_init 675 = .ok (.bipush 110, 2) := by decide +kernel
theorem dX12_init_677 : decode cX12_init 677 = .ok (.castore, 1) := by decide +kernel
theorem dX12_init_678 : decode cX12_init 678 = .ok (.dup, 1) := by decide +kernel
theorem dX12_init_679 : decode cX12_init 679 = .ok (.bipush 105, 2) := by decide +kernel
theorem dX12_init_681 : decode cX12_init 681 = .ok (.bipush 105, 2) := by decide +kernel
theorem dX12_init_683 : decode cX12_init 683 = .ok (.castore, 1) := by decide +kernel
theorem dX12_init_684 : decode cX12_init 684 = .ok (.dup, 1) := by decide +kernel
theorem dX12_init_685 : decode cX12_init 685 = .ok (.bipush 106, 2) := by decide +kernel
theorem dX12_init_687 : decode cX12_init 687 = .ok (.bipush 103, 2) := by decide +kernel
theorem dX12_init_689 : decode cX12_init 689 = .ok (.castore, 1) := by decide +kernel
theorem dX12_init_690 : decode cX12_init 690 = .ok (.dup, 1) := by decide +kernel
theorem dX12_init_691 : decode cX12_init 691 = .ok (.bipush 107, 2) := by decide +kernel
theorem dX12_init_693 : decode cX12_init 693 = .ok (.bipush 104, 2) := by decide +kernel
theorem dX12_init_695 : decode cX12_init 695 = .ok (.castore, 1) := by decide +kernel
theorem dX12_init_696 : decode cX12_init 696 = .ok (.dup, 1) := by decide +kernel
theorem dX12_init_697 : decode cX12_init 697 = .ok (.bipush 108, 2) := by decide +kernel
theorem dX12_init_699 : decode cX12_init 699 = .ok (.bipush 116, 2) := by decide +kernel
theorem dX12_init_701 : decode cX12_init 701 = .ok (.castore, 1) := by decide +kernel
theorem dX12_init_702 : decode cX12_init 702 = .ok (.dup, 1) := by decide +kernel
theorem dX12_init_703 : decode cX12_init 703 = .ok (.bipush 109, 2) := by decide +kernel
theorem dX12_init_705 : decode cX12_init 705 = .ok (.bipush 32, 2) := by decide +kernel
theorem dX12_init_707 : decode cX12_init 707 = .ok (.castore, 1) := by decide +kernel
theorem dX12_init_708 : decode cX12_init 708 = .ok (.dup, 1) := by decide +kernel
theorem dX12_init_709 : decode cX12_init 709 = .ok (.bipush 110, 2) := by decide +kernel
theorem dX12_init_711 : decode cX12_init 711 = .ok (.bipush 32, 2) := by decide +kernel
theorem dX12_init_713 : decode cX12_init 713 = .ok (.castore, 1) := by decide +kernel
theorem dX12_init_714 : decode cX12_init 714 = .ok (.dup, 1) := by decide +kernel
theorem dX12_init_715 : decode cX12_init 715 = .ok (.bipush 111, 2) := by decide +kernel
theorem dX12_init_717 : decode cX12_init 717 = .ok (.bipush 32, 2) := by decide +kernel
theorem dX12_init_719 : decode cX12_init 719 = .ok (.castore, 1) := by decide +kernel
theorem dX12_init_720 : decode cX12_init 720 = .ok (.dup, 1) := by decide +kernel
theorem dX12_init_721 : decode cX12_init 721 = .ok (.bipush 112, 2) := by decide +kernel
theorem dX12_init_723 : decode cX12_init 723 = .ok (.bipush 103, 2) := by decide +kernel
theorem dX12_init_725 : decode cX12_init 725 = .ok (.castore, 1) := by decide +kernel
theorem dX12_init_726 : decode cX12_init 726 = .ok (.dup, 1) := by decide +kernel
theorem dX12_init_727 : decode cX12_init 727 = .ok (.bipush 113, 2) := by decide +kernel
theorem dX12_init_729 : decode cX12_init 729 = .ok (.bipush 114, 2) := by decide +kernel
theorem dX12_init_731 : decode cX12_init 731 = .ok (.castore, 1) := by decide +kernel
theorem dX12_init_732 : decode cX12_init 732 = .ok (.dup, 1) := by decide +kernel
theorem dX12_init_733 : decode cX12_init 733 = .ok (.bipush 114, 2) := by decide +kernel
theorem dX12_init_735 : decode cX12_init 735 = .ok (.bipush 101, 2) := by decide +kernel
theorem dX12_init_737 : decode cX12_init 737 = .ok (.castore, 1) := by decide +kernel
theorem dX12_init_738 : decode cX12_init 738 = .ok (.dup, 1) := by decide +kernel
theorem dX12_init_739 : decode cX12_init 739 = .ok (.bipush 115, 2) := by decide +kernel
theorem dX12_init_741 : decode cX12_init 741 = .ok (.bipush 101, 2) := by decide +kernel
theorem dX12_init_743 : decode cX12_init 743 = .ok (.castore, 1) := by decide +kernel
theorem dX12_init_744 : decode cX12_init 744 = .ok (.dup, 1) := by decide +kernel
theorem dX12_init_745 : decode cX12_init 745 = .ok (.bipush 116, 2) := by decide +kernel
theorem dX12_init_747 : decode cX12_init 747 = .ok (.bipush 100, 2) := by decide +kernel
theorem dX12_init_749 : decode cX12_init 749 = .ok (.castore, 1) := by decide +kernel
theorem dX12_init_750 : decode cX12_init 750 = .ok (.dup, 1) := by decide +kernel
theorem dX12_init_751 : decode cX12_init 751 = .ok (.bipush 117, 2) := by decide +kernel
theorem dX12_init_753 : decode cX12_init 753 = .ok (.bipush 32, 2) := by decide +kernel
theorem dX12_init_755 : decode cX12_init 755 = .ok (.castore, 1) := by decide +kernel
theorem dX12_init_756 : decode cX12_init 756 = .ok (.dup, 1) := by decide +kernel
theorem dX12_init_757 : decode cX12_init 757 = .ok (.bipush 118, 2) := by decide +kernel
theorem dX12_init_759 : decode cX12_init 759 = .ok (.bipush 32, 2) := by decide +kernel
theorem dX12_init_761 : decode cX12_init 761 = .ok (.castore, 1) := by decide +kernel
theorem dX12_init_762 : decode cX12_init 762 = .ok (.dup, 1) := by decide +kernel
theorem dX12_init_763 : decode cX12_init 763 = .ok (.bipush 119, 2) := by decide +kernel
theorem dX12_init_765 : decode cX12_init 765 = .ok (.bipush 32, 2) := by decide +kernel
theorem dX12_init_767 : decode cX12_init 767 = .ok (.castore, 1) := by decide +kernel
theorem dX12_init_768 : decode cX12_init 768 = .ok (.dup, 1) := by decide +kernel
theorem dX12_init_769 : decode cX12_init 769 = .ok (.bipush 120, 2) := by decide +kernel
theorem dX12_init_771 : decode cX12_init 771 = .ok (.bipush 118, 2) := by decide +kernel
theorem dX12_init_773 : decode cX12_init 773 = .ok (.castore, 1) := by decide +kernel
theorem dX12_init_774 : decode cX12_init 774 = .ok (.dup, 1) := by decide +kernel
theorem dX12_init_775 : decode cX12_init 775 = .ok (.bipush 121, 2) := by decide +kernel
theorem dX12_init_777 : decode cX12_init 777 = .ok (.bipush 111, 2) := by decide +kernel
theorem dX12_init_779 : decode cX12_init 779 = .ok (.castore, 1) := by decide +kernel
theorem dX12_init_780 : decode cX12_init 780 = .ok (.dup, 1) := by decide +kernel
theorem dX12_init_781 : decode cX12_init 781 = .ok (.bipush 122, 2) := by decide +kernel
theorem dX12_init_783 : decode cX12_init 783 = .ok (.bipush 116, 2) := by decide +kernel
theorem dX12_init_785 : decode cX12_init 785 = .ok (.castore, 1) := by decide +kernel
theorem dX12_init_786 : decode cX12_init 786 = .ok (.dup, 1) := by decide +kernel
theorem dX12_init_787 : decode cX12_init 787 = .ok (.bipush 123, 2) := by decide +kernel
theorem dX12_init_789 : decode cX12_init 789 = .ok (.bipush 101, 2) := by decide +kernel
theorem dX12_init_791 : decode cX12_init 791 = .ok (.castore, 1) := by decide +kernel
theorem dX12_init_792 : decode cX12_init 792 = .ok (.dup, 1) := by decide +kernel
theorem dX12_init_793 : decode cX12_init 793 = .ok (.bipush 124, 2) := by decide +kernel
theorem dX12_init_795 : decode cX12_init 795 = .ok (.bipush 115, 2) := by decide +kernel
theorem dX12_init_797 : decode cX12_init 797 = .ok (.castore, 1) := by decide +kernel
theorem dX12_init_798 : decode cX12_init 798 = .ok (.dup, 1) := by decide +kernel
theorem dX12_init_799 : decode cX12_init 799 = .ok (.bipush 125, 2) := by decide +kernel
theorem dX12_init_801 : decode cX12_init 801 = .ok (.bipush 32, 2) := by decide +kernel
theorem dX12_init_803 : decode cX12_init 803 = .ok (.castore, 1) := by decide +kernel
theorem dX12_init_804 : decode cX12_init 804 = .ok (.dup, 1) := by decide +kernel
theorem dX12_init_805 : decode cX12_init 805 = .ok (.bipush 126, 2) := by decide +kernel
theorem dX12_init_807 : decode cX12_init 807 = .ok (.bipush 32, 2) := by decide +kernel
theorem dX12_init_809 : decode cX12_init 809 = .ok (.castore, 1) := by decide +kernel
theorem dX12_init_810 : decode cX12_init 810 = .ok (.dup, 1) := by decide +kernel
theorem dX12_init_811 : decode cX12_init 811 = .ok (.bipush 127, 2) := by decide +kernel
theorem dX12_init_813 : decode cX12_init 813 = .ok (.bipush 32, 2) := by decide +kernel
theorem dX12_init_815 : decode cX12_init 815 = .ok (.castore, 1) := by decide +kernel
theorem dX12_init_816 : decode cX12_init 816 = .ok (.dup, 1) := by decide +kernel
theorem dX12_init_817 : decode cX12_init 817 = .ok (.sipush 128, 3) := by decide +kernel
theorem dX12_init_820 : decode cX12_init 820 = .ok (.bipush 108, 2) := by decide +kernel
theorem dX12_init_822 : decode cX12_init 822 = .ok (.castore, 1) := by decide +kernel
theorem dX12_init_823 : decode cX12_init 823 = .ok (.dup, 1) := by decide +kernel
theorem dX12_init_824 : decode cX12_init 824 = .ok (.sipush 129, 3) := by decide +kernel
theorem dX12_init_827 : decode cX12_init 827 = .ok (.bipush 105, 2) := by decide +kernel
theorem dX12_init_829 : decode cX12_init 829 = .ok (.castore, 1) := by decide +kernel
theorem dX12_init_830 : decode cX12_init 830 = .ok (.dup, 1) := by decide +kernel
theorem dX12_init_831 : decode cX12_init 831 = .ok (.sipush 130, 3) := by decide +kernel
theorem dX12_init_834 : decode cX12_init 834 = .ok (.bipush 103, 2) := by decide +kernel
theorem dX12_init_836 : decode cX12_init 836 = .ok (.castore, 1) := by decide +kernel
theorem dX12_init_837 : decode cX12_init 837 = .ok (.dup, 1) := by decide +kernel
theorem dX12_init_838 : decode cX12_init 838 = .ok (.sipush 131, 3) := by decide +kernel
theorem dX12_init_841 : decode cX12_init 841 = .ok (.bipush 104, 2) := by decide +kernel
theorem dX12_init_843 : decode cX12_init 843 = .ok (.castore, 1) := by decide +kernel
theorem dX12_init_844 : decode cX12_init 844 = .ok (.dup, 1) := by decide +kernel
theorem dX12_init_845 : decode cX12_init 845 = .ok (.sipush 132, 3) := by decide +kernel
theorem dX12_init_848 : decode cX12_init 848 = .ok (.bipush 116, 2) := by decide +kernel
theorem dX12_init_850 : decode cX12_init 850 = .ok (.castore, 1) := by decide +kernel
theorem dX12_init_851 : decode cX12_init 851 = .ok (.dup, 1) := by decide +kernel
theorem dX12_init_852 : decode cX12_init 852 = .ok (.sipush 133, 3) := by decide +kernel
theorem dX12_init_855 : decode cX12_init 855 = .ok (.bipush 32, 2) := by decide +kernel
theorem dX12_init_857 : decode cX12_init 857 = .ok (.castore, 1) := by decide +kernel
theorem dX12_init_858 : decode cX12_init 858 = .ok (.dup, 1) := by decide +kernel
theorem dX12_init_859 : decode cX12_init 859 = .ok (.sipush 134, 3) := by decide +kernel
theorem dX12_init_862 : decode cX12_init 862 = .ok (.bipush 32, 2) := by decide +kernel
theorem dX12_init_864 : decode cX12_init 864 = .ok (.castore, 1) := by decide +kernel
theorem dX12_init_865 : decode cX12_init 865 = .ok (.dup, 1) := by decide +kernel
theorem dX12_init_866 : decode cX12_init 866 = .ok (.sipush 135, 3) := by decide +kernel
theorem dX12_init_869 : decode cX12_init 869 = .ok (.bipush 32, 2) := by decide +kernel
theorem dX12_init_871 : decode cX12_init 871 = .ok (.castore, 1) := by decide +kernel
theorem dX12_init_872 : decode cX12_init 872 = .ok (.dup, 1) := by decide +kernel
theorem dX12_init_873 : decode cX12_init 873 = .ok (.sipush 136, 3) := by decide +kernel
theorem dX12_init_876 : decode cX12_init 876 = .ok (.bipush 110, 2) := by decide +kernel
theorem dX12_init_878 : decode cX12_init 878 = .ok (.castore, 1) := by decide +kernel
theorem dX12_init_879 : decode cX12_init 879 = .ok (.dup, 1) := by decide +kernel
theorem dX12_init_880 : decode cX12_init 880 = .ok (.sipush 137, 3) := by decide +kernel
theorem dX12_init_883 : decode cX12_init 883 = .ok (.bipush 117, 2) := by decide +kernel
theorem dX12_init_885 : decode cX12_init 885 = .ok (.castore, 1) := by decide +kernel
theorem dX12_init_886 : decode cX12_init 886 = .ok (.dup, 1) := by decide +kernel
theorem dX12_init_887 : decode cX12_init 887 = .ok (.sipush 138, 3) := by decide +kernel
theorem dX12_init_890 : decode cX12_init 890 = .ok (.bipush 109, 2) := by decide +kernel
theorem dX12_init_892 : decode cX12_init 892 = .ok (.castore, 1) := by decide +kernel
theorem dX12_init_893 : decode cX12_init 893 = .ok (.dup, 1) := by decide +kernel
theorem dX12_init_894 : decode cX12_init 894 = .ok (.sipush 139, 3) := by decide +kernel
theorem dX12_init_897 : decode cX12_init 897 = .ok (.bipush 98, 2) := by decide +kernel
theorem dX12_init_899 : decode cX12_init 899 = .ok (.castore, 1) := by decide +kernel
theorem dX12_init_900 : decode cX12_init 900 = .ok (.dup, 1) := by decide +kernel
theorem dX12_init_901 : decode cX12_init 901 = .ok (.sipush 140, 3) := by decide +kernel
theorem dX12_init_904 : decode cX12_init 904 = .ok (.bipush 101, 2) := by decide +kernel
theorem dX12_init_906 : decode cX12_init 906 = .ok (.castore, 1) := by decide +kernel
theorem dX12_init_907 : decode cX12_init 907 = .ok (.dup, 1) := by decide +kernel
theorem dX12_init_908 : decode cX12_init 908 = .ok (.sipush 141, 3) := by decide +kernel
theorem dX12_init_911 : decode cX12_init 911 = .ok (.bipush 114, 2) := by decide +kernel
theorem dX12_init_913 : decode cX12_init 913 = .ok (.castore, 1) := by decide +kernel
theorem dX12_init_914 : decode cX12_init 914 = .ok (.dup, 1) := by decide +kernel
theorem dX12_init_915 : decode cX12_init 915 = .ok (.sipush 142, 3) := by decide +kernel
theorem dX12_init_918 : decode cX12_init 918 = .ok (.bipush 32, 2) := by decide +kernel
theorem dX12_init_920 : decode cX12_init 920 = .ok (.castore, 1) := by decide +kernel
theorem dX12_init_921 : decode cX12_init 921 = .ok (.dup, 1) := by decide +kernel
theorem dX12_init_922 : decode cX12_init 922 = .ok (.sipush 143, 3) := by decide +kernel
theorem dX12_init_925 : decode cX12_init 925 = .ok (.bipush 32, 2) := by decide +kernel
theorem dX12_init_927 : decode cX12_init 927 = .ok (.castore, 1) := by decide +kernel
theorem dX12_init_928 : decode cX12_init 928 = .ok (.putfield 25, 3) := by decide +kernel
theorem dX12_init_931 : decode cX12_init 931 = .ok (.aload_n 0, 1) := by decide +kernel
theorem dX12_init_932 : decode cX12_init 932 = .ok (.sipush 200, 3) := by decide +kernel
theorem dX12_init_935 : decode cX12_init 935 = .ok (.newarray .int, 2) := by decide +kernel
theorem dX12_init_937 : decode cX12_init 937 = .ok (.putfield 29, 3) := by decide +kernel
theorem dX12_init_940 : decode cX12_init 940 = .ok (.aload_n 0, 1) := by decide +kernel
theorem dX12_init_941 : decode cX12_init 941 = .ok (.bipush 24, 2) := by decide +kernel
theorem dX12_init_943 : decode cX12_init 943 = .ok (.newarray .int, 2) := by decide +kernel
theorem dX12_init_945 : decode cX12_init 945 = .ok (.putfield 32, 3) := by decide +kernel
theorem dX12_init_948 : decode cX12_init 948 = .ok (.aload_n 0, 1) := by decide +kernel
theorem dX12_init_949 : decode cX12_init 949 = .ok (.sipush 335, 3) := by decide +kernel
theorem dX12_init_952 : decode cX12_init 952 = .ok (.newarray .int, 2) := by decide +kernel
theorem dX12_init_954 : decode cX12_init 954 = .ok (.putfield 35, 3) := by decide +kernel
theorem dX12_init_957 : decode cX12_init 957 = .ok (.aload_n 0, 1) := by decide +kernel
theorem dX12_init_958 : decode cX12_init 958 = .ok (.iconst 4, 1) := by decide +kernel
theorem dX12_init_959 : decode cX12_init 959 = .ok (.newarray .int, 2) := by decide +kernel
theorem dX12_init_961 : decode cX12_init 961 = .ok (.putfield 38, 3) := by decide +kernel
theorem dX12_init_964 : decode cX12_init 964 = .ok (.aload_n 0, 1) := by decide +kernel
theorem dX12_init_965 : decode cX12_init 965 = .ok (.iconst 4, 1) := by decide +kernel
theorem dX12_init_966 : decode cX12_init 966 = .ok (.newarray .int, 2) := by decide +kernel
theorem dX12_init_968 : decode cX12_init 968 = .ok (.putfield 41, 3) := by decide +kernel
theorem dX12_init_971 : decode cX12_init 971 = .ok (.aload_n 0, 1) := by decide +kernel
theorem dX12_init_972 : decode cX12_init 972 = .ok (.bipush 16, 2) := by decide +kernel
theorem dX12_init_974 : decode cX12_init 974 = .ok (.newarray .int, 2) := by decide +kernel
theorem dX12_init_976 : decode cX12_init 976 = .ok (.putfield 44, 3) := by decide +kernel
theorem dX12_init_979 : decode cX12_init 979 = .ok (.aload_n 0, 1) := by decide +kernel
theorem dX12_init_980 : decode cX12_init 980 = .ok (.bipush 16, 2) := by decide +kernel
theorem dX12_init_982 : decode cX12_init 982 = .ok (.newarray .int, 2) := by decide +kernel
theorem dX12_init_984 : decode cX12_init 984 = .ok (.putfield 47, 3) := by decide +kernel
theorem dX12_init_987 : decode cX12_init 987 = .ok (.aload_n 0, 1) := by decide +kernel
theorem dX12_init_988 : decode cX12_init 988 = .ok (.bipush 12, 2) := by decide +kernel
theorem dX12_init_990 : decode cX12_init 990 = .ok (.newarray .int, 2) := by decide +kernel
theorem dX12_init_992 : decode cX12_init 992 = .ok (.putfield 50, 3) := by decide +kernel
theorem dX12_init_995 : decode cX12_init 995 = .ok (.aload_n 0, 1) := by decide +kernel
theorem dX12_init_996 : decode cX12_init 996 = .ok (.iconst 4, 1) := by decide +kernel
theorem dX12_init_997 : decode cX12_init 997 = .ok (.newarray .int, 2) := by decide +kernel
theorem dX12_init_999 : decode cX12_init 999 = .ok (.dup, 1) := by decide +kernel
theorem dX12_init_1000 : decode cX12_init 1000 = .ok (.iconst 0, 1) := by decide +kernel
theorem dX12_init_1001 : decode cX12_init 1001 = .ok (.iconst (-1), 1) := by decide +kernel
theorem dX12_init_1002 : decode cX12_init 1002 = .ok (.iastore, 1) := by decide +kernel
theorem dX12_init_1003 : decode cX12_init 1003 = .ok (.dup, 1) := by decide +kernel
theorem dX12_init_1004 : decode cX12_init 1004 = .ok (.iconst 1, 1) := by decide +kernel
theorem dX12_init_1005 : decode cX12_init 1005 = .ok (.iconst (-1), 1) := by decide +kernel
theorem dX12_init_1006 : decode cX12_init 1006 = .ok (.iastore, 1) := by decide +kernel
theorem dX12_init_1007 : decode cX12_init 1007 = .ok (.dup, 1) := by decide +kernel
theorem dX12_init_1008 : decode cX12_init 1008 = .ok (.iconst 2, 1) := by decide +kernel
theorem dX12_init_1009 : decode cX12_init 1009 = .ok (.iconst (-1), 1) := by decide +kernel
theorem dX12_init_1010 : decode cX12_init 1010 = .ok (.iastore, 1) := by decide +kernel
theorem dX12_init_1011 : decode cX12_init 1011 = .ok (.dup, 1) := by decide +kernel
theorem dX12_init_1012 : decode cX12_init 1012 = .ok (.iconst 3, 1) := by decide +kernel
theorem dX12_init_1013 : decode cX12_init 1013 = .ok (.iconst (-1), 1) := by decide +kernel
theorem dX12_init_1014 : decode cX12_init 1014 = .ok (.iastore, 1) := by decide +kernel
theorem dX12_init_1015 : decode cX12_init 1015 = .ok (.putfield 53, 3) := by decide +kernel
theorem dX12_init_1018 : decode cX12_init 1018 = .ok (.aload_n 0, 1) := by decide +kernel
theorem dX12_init_1019 : decode cX12_init 1019 = .ok (.iconst 4, 1) := by decide +kernel
theorem dX12_init_1020 : decode cX12_init 1020 = .ok (.newarray .int, 2) := by decide +kernel
theorem dX12_init_1022 : decode cX12_init 1022 = .ok (.putfield 56, 3) := by decide +kernel
theorem dX12_init_1025 : decode cX12_init 1025 = .ok (.aload_n 0, 1) := by decide +kernel
theorem dX12_init_1026 : decode cX12_init 1026 = .ok (.sipush 160, 3) := by decide +kernel
theorem dX12_init_1029 : decode cX12_init 1029 = .ok (.newarray .int, 2) := by decide +kernel
theorem dX12_init_1031 : decode cX12_init 1031 = .ok (.putfield 59, 3) := by decide +kernel
theorem dX12_init_1034 : decode cX12_init 1034 = .ok (.aload_n 0, 1) := by decide +kernel
theorem dX12_init_1035 : decode cX12_init 1035 = .ok (.iconst 4, 1) := by decide +kernel
theorem dX12_init_1036 : decode cX12_init 1036 = .ok (.newarray .int, 2) := by decide +kernel
theorem dX12_init_1038 : decode cX12_init 1038 = .ok (.dup, 1) := by decide +kernel
theorem dX12_init_1039 : decode cX12_init 1039 = .ok (.iconst 0, 1) := by decide +kernel
theorem dX12_init_1040 : decode cX12_init 1040 = .ok (.iconst (-1), 1) := by decide +kernel
theorem dX12_init_1041 : decode cX12_init 1041 = .ok (.iastore, 1) := by decide +kernel
theorem dX12_init_1042 : decode cX12_init 1042 = .ok (.dup, 1) := by decide +kernel
theorem dX12_init_1043 : decode cX12_init 1043 = .ok (.iconst 1, 1) := by decide +kernel
theorem dX12_init_1044 : decode cX12_init 1044 = .ok (.iconst (-1), 1) := by decide +kernel
theorem dX12_init_1045 : decode cX12_init 1045 = .ok (.iastore, 1) := by decide +kernel
theorem dX12_init_1046 : decode cX12_init 1046 = .ok (.dup, 1) := by decide +kernel
theorem dX12_init_1047 : decode cX12_init 1047 = .ok (.iconst 2, 1) := by decide +kernel
theorem dX12_init_1048 : decode cX12_init 1048 = .ok (.iconst (-1), 1) := by decide +kernel
theorem dX12_init_1049 : decode cX12_init 1049 = .ok (.iastore, 1) := by decide +kernel
theorem dX12_init_1050 : decode cX12_init 1050 = .ok (.dup, 1) := by decide +kernel
theorem dX12_init_1051 : decode cX12_init 1051 = .ok (.iconst 3, 1) := by decide +kernel
theorem dX12_init_1052 : decode cX12_init 1052 = .ok (.iconst (-1), 1) := by decide +kernel
theorem dX12_init_1053 : decode cX12_init 1053 = .ok (.iastore, 1) := by decide +kernel
theorem dX12_init_1054 : decode cX12_init 1054 = .ok (.putfield 62, 3) := by decide +kernel
theorem dX12_init_1057 : decode cX12_init 1057 = .ok (.aload_n 0, 1) := by decide +kernel
theorem dX12_init_1058 : decode cX12_init 1058 = .ok (.iconst 4, 1) := by decide +kernel
theorem dX12_init_1059 : decode cX12_init 1059 = .ok (.newarray .int, 2) := by decide +kernel
theorem dX12_init_1061 : decode cX12_init 1061 = .ok (.putfield 65, 3) := by decide +kernel
theorem dX12_init_1064 : decode cX12_init 1064 = .ok (.aload_n 0, 1) := by decide +kernel
theorem dX12_init_1065 : decode cX12_init 1065 = .ok (.bipush 30, 2) := by decide +kernel
theorem dX12_init_1067 : decode cX12_init 1067 = .ok (.newarray .int, 2) := by decide +kernel
theorem dX12_init_1069 : decode cX12_init 1069 = .ok (.putfield 68, 3) := by decide +kernel
theorem dX12_init_1072 : decode cX12_init 1072 = .ok (.aload_n 0, 1) := by decide +kernel
theorem dX12_init_1073 : decode cX12_init 1073 = .ok (.getfield 9, 3) := by decide +kernel
theorem dX12_init_1076 : decode cX12_init 1076 = .ok (.iconst 1, 1) := by decide +kernel
theorem dX12_init_1077 : decode cX12_init 1077 = .ok (.bipush 12, 2) := by decide +kernel
theorem dX12_init_1079 : decode cX12_init 1079 = .ok (.iastore, 1) := by decide +kernel
theorem dX12_init_1080 : decode cX12_init 1080 = .ok (.aload_n 0, 1) := by decide +kernel
theorem dX12_init_1081 : decode cX12_init 1081 = .ok (.getfield 9, 3) := by decide +kernel
theorem dX12_init_1084 : decode cX12_init 1084 = .ok (.iconst 3, 1) := by decide +kernel
theorem dX12_init_1085 : decode cX12_init 1085 = .ok (.iconst 5, 1) := by decide +kernel
theorem dX12_init_1086 : decode cX12_init 1086 = .ok (.iastore, 1) := by decide +kernel
theorem dX12_init_1087 : decode cX12_init 1087 = .ok (.aload_n 0, 1) := by decide +kernel
theorem dX12_init_1088 : decode cX12_init 1088 = .ok (.getfield 9, 3) := by decide +kernel
theorem dX12_init_1091 : decode cX12_init 1091 = .ok (.iconst 5, 1) := by decide +kernel
theorem dX12_init_1092 : decode cX12_init 1092 = .ok (.iconst 1, 1) := by decide +kernel
theorem dX12_init_1093 : decode cX12_init 1093 = .ok (.iastore, 1) := by decide +kernel
theorem dX12_init_1094 : decode cX12_init 1094 = .ok (.iconst 0, 1) := by decide +kernel
theorem dX12_init_1095 : decode cX12_init 1095 = .ok (.istore_n 1, 1) := by decide +kernel
theorem dX12_init_1096 : decode cX12_init 1096 = .ok (.iload_n 1, 1) := by decide +kernel
theorem dX12_init_1097 : decode cX12_init 1097 = .ok (.bipush 16, 2) := by decide +kernel
theorem dX12_init_1099 : decode cX12_init 1099 = .ok (.if_icmp .ge 20, 3) := by decide +kernel
theorem dX12_init_1102 : decode cX12_init 1102 = .ok (.aload_n 0, 1) := by decide +kernel
theorem dX12_init_1103 : decode cX12_init 1103 = .ok (.getfield 9, 3) := by decide +kernel
theorem dX12_init_1106 : decode cX12_init 1106 = .ok (.bipush 9, 2) := by decide +kernel
theorem dX12_init_1108 : decode cX12_init 1108 = .ok (.iload_n 1, 1) := by decide +kernel
theorem dX12_init_1109 : decode cX12_init 1109 = .ok (.iadd, 1) := by decide +kernel
theorem dX12_init_1110 : decode cX12_init 1110 = .ok (.bipush 6, 2) := by decide +kernel
theorem dX12_init_1112 : decode cX12_init 1112 = .ok (.iastore, 1) := by decide +kernel
theorem dX12_init_1113 : decode cX12_init 1113 = .ok (.iinc 1 1, 3) := by decide +kernel
theorem dX12_init_1116 : decode cX12_init 1116 = .ok (.goto (-20), 3) := by decide +kernel
theorem dX12_init_1119 : decode cX12_init 1119 = .ok (.return_, 1) := by decide +kernel
def cwr1 : CW := [(0, .inl (11, [some (some 1), some (some 2), none, some (some 7), some (some 8), some (some 50), none, some (some 60), some (some 61), some (some 55), some (some 62), some (some 63), some (some 9)])), (1, .inl (0, [none, none, none, none, none, none, none, none, none, some (some 10), some (some 11), some (some 12), some (some 13), some (some 14), some (some 15), some (some 16), some (some 3), some (some 4), some (some 17)])), (10, .inr (.inl (0, 6))), (11, .inr (.inl (0, 6))), (12, .inr (.inl (0, 6))), (13, .inr (.inl (0, 6))), (14, .inr (.inl (0, 16))), (15, .inr (.inl (0, 6))), (16, .inr (.inl (0, 6))), (3, .inl (7, [none, some (some 26), some (some 27), some (some 28), some (some 29), none])), (26, .inr (.inl (0, 8))), (27, .inr (.inl (0, 8))), (28, .inr (.inl (0, 8))), (29, .inr (.inl (0, 200))), (4, .inl (6, [none, some (some 30), some (some 31), some (some 32), some (some 33)])), (30, .inr (.inl (0, 6))), (31, .inr (.inl (0, 6))), (32, .inr (.inl (0, 6))), (33, .inr (.inl (0, 6))), (17, .inr (.inr (3, [some 64, some 65, some 66, some 67, some 68, some 69]))), (64, .inl (5, [])), (65, .inl (10, [])), (66, .inl (8, [])), (67, .inl (1, [])), (68, .inl (3, [])), (69, .inl (4, [])), (2, .inl (0, [none, none, none, none, none, none, none, none, none, some (some 18), some (some 19), some (some 20), some (some 21), some (some 22), some (some 23), some (some 24), some (some 5), some (some 6), some (some 25)])), (18, .inr (.inl (0, 6))), (19, .inr (.inl (0, 6))), (20, .inr (.inl (0, 6))), (21, .inr (.inl (0, 6))), (22, .inr (.inl (0, 16))), (23, .inr (.inl (0, 6))), (24, .inr (.inl (0, 6))), (5, .inl (7, [none, some (some 34), some (some 35), some (some 36), some (some 37), none])), (34, .inr (.inl (0, 8))), (35, .inr (.inl (0, 8))), (36, .inr (.inl (0, 8))), (37, .inr (.inl (0, 200))), (6, .inl (6, [none, some (some 38), some (some 39), some (some 40), some (some 41)])), (38, .inr (.inl (0, 6))), (39, .inr (.inl (0, 6))), (40, .inr (.inl (0, 6))), (41, .inr (.inl (0, 6))), (25, .inr (.inr (3, [some 70, some 71, some 72, some 73, some 74, some 75]))), (70, .inl (5, [])), (71, .inl (10, [])), (72, .inl (8, [])), (73, .inl (1, [])), (74, .inl (3, [])), (75, .inl (4, [])), (7, .inl (9, [none, some (some 46), some (some 47), some (some 48), none])), (46, .inr (.inl (0, 200))), (47, .inr (.inl (0, 201))), (48, .inr (.inl (0, 201))), (8, .inl (7, [none, some (some 42), some (some 43), some (some 44), some (some 45), none])), (42, .inr (.inl (0, 8))), (43, .inr (.inl (0, 8))), (44, .inr (.inl (0, 8))), (45, .inr (.inl (0, 200))), (50, .inr (.inr (2, [some 51, some 52, some 53, some 54]))), (51, .inr (.inl (0, 3))), (52, .inr (.inl (0, 3))), (53, .inr (.inl (0, 3))), (54, .inr (.inl (0, 3))), (60, .inr (.inl (0, 4))), (61, .inr (.inl (0, 4))), (55, .inr (.inr (2, [some 56, some 57, some 58, some 59]))), (56, .inr (.inl (0, 40))), (57, .inr (.inl (0, 40))), (58, .inr (.inl (0, 40))), (59, .inr (.inl (0, 40))), (62, .inr (.inl (0, 4))), (63, .inr (.inl (0, 4))), (9, .inl (2, [none, none, none, some (some 49), none])), (49, .inr (.inl (0, 30))), (76, .inl (12, [some none, some none, some none, none, some none, some none, none, some none, none, none, none, none, none, none, some none, some none, none, some none, some none, some none, none, none, none, none, some none, some none, none, some none, none, some none, some none, some none, some none, some none, some none, none, none, none]))]
def cwr2 : CW := [(0, .inl (11, [some (some 1), some (some 2), none, some (some 7), some (some 8), some (some 50), none, some (some 60), some (some 61), some (some 55), some (some 62), some (some 63), some (some 9)])), (1, .inl (0, [none, none, none, none, none, none, none, none, none, some (some 10), some (some 11), some (some 12), some (some 13), some (some 14), some (some 15), some (some 16), some (some 3), some (some 4), some (some 17)])), (10, .inr (.inl (0, 6))), (11, .inr (.inl (0, 6))), (12, .inr (.inl (0, 6))), (13, .inr (.inl (0, 6))), (14, .inr (.inl (0, 16))), (15, .inr (.inl (0, 6))), (16, .inr (.inl (0, 6))), (3, .inl (7, [none, some (some 26), some (some 27), some (some 28), some (some 29), none])), (26, .inr (.inl (0, 8))), (27, .inr (.inl (0, 8))), (28, .inr (.inl (0, 8))), (29, .inr (.inl (0, 200))), (4, .inl (6, [none, some (some 30), some (some 31), some (some 32), some (some 33)])), (30, .inr (.inl (0, 6))), (31, .inr (.inl (0, 6))), (32, .inr (.inl (0, 6))), (33, .inr (.inl (0, 6))), (17, .inr (.inr (3, [some 64, some 65, some 66, some 67, some 68, some 69]))), (64, .inl (5, [])), (65, .inl (10, [])), (66, .inl (8, [])), (67, .inl (1, [])), (68, .inl (3, [])), (69, .inl (4, [])), (2, .inl (0, [none, none, none, none, none, none, none, none, none, some (some 18), some (some 19), some (some 20), some (some 21), some (some 22), some (some 23), some (some 24), some (some 5), some (some 6), some (some 25)])), (18, .inr (.inl (0, 6))), (19, .inr (.inl (0, 6))), (20, .inr (.inl (0, 6))), (21, .inr (.inl (0, 6))), (22, .inr (.inl (0, 16))), (23, .inr (.inl (0, 6))), (24, .inr (.inl (0, 6))), (5, .inl (7, [none, some (some 34), some (some 35), some (some 36), some (some 37), none])), (34, .inr (.inl (0, 8))), (35, .inr (.inl (0, 8))), (36, .inr (.inl (0, 8))), (37, .inr (.inl (0, 200))), (6, .inl (6, [none, some (some 38), some (some 39), some (some 40), some (some 41)])), (38, .inr (.inl (0, 6))), (39, .inr (.inl (0, 6))), (40, .inr (.inl (0, 6))), (41, .inr (.inl (0, 6))), (25, .inr (.inr (3, [some 70, some 71, some 72, some 73, some 74, some 75]))), (70, .inl (5, [])), (71, .inl (10, [])), (72, .inl (8, [])), (73, .inl (1, [])), (74, .inl (3, [])), (75, .inl (4, [])), (7, .inl (9, [none, some (some 46), some (some 47), some (some 48), none])), (46, .inr (.inl (0, 200))), (47, .inr (.inl (0, 201))), (48, .inr (.inl (0, 201))), (8, .inl (7, [none, some (some 42), some (some 43), some (some 44), some (some 45), none])), (42, .inr (.inl (0, 8))), (43, .inr (.inl (0, 8))), (44, .inr (.inl (0, 8))), (45, .inr (.inl (0, 200))), (50, .inr (.inr (2, [some 51, some 52, some 53, some 54]))), (51, .inr (.inl (0, 3))), (52, .inr (.inl (0, 3))), (53, .inr (.inl (0, 3))), (54, .inr (.inl (0, 3))), (60, .inr (.inl (0, 4))), (61, .inr (.inl (0, 4))), (55, .inr (.inr (2, [some 56, some 57, some 58, some 59]))), (56, .inr (.inl (0, 40))), (57, .inr (.inl (0, 40))), (58, .inr (.inl (0, 40))), (59, .inr (.inl (0, 40))), (62, .inr (.inl (0, 4))), (63, .inr (.inl (0, 4))), (9, .inl (2, [none, none, none, some (some 49), none])), (49, .inr (.inl (0, 30))), (76, .inl (12, [some none, some none, some none, none, some none, some none, none, some none, none, none, none, none, none, none, some none, some none, none, some none, some none, some none, none, none, none, none, some none, some none, none, some none, none, some none, some none, some none, some none, some none, some none, none, none, none])), (77, .inr (.inl (0, 315)))]
def cwr3 : CW := [(0, .inl (11, [some (some 1), some (some 2), none, some (some 7), some (some 8), some (some 50), none, some (some 60), some (some 61), some (some 55), some (some 62), some (some 63), some (some 9)])), (1, .inl (0, [none, none, none, none, none, none, none, none, none, some (some 10), some (some 11), some (some 12), some (some 13), some (some 14), some (some 15), some (some 16), some (some 3), some (some 4), some (some 17)])), (10, .inr (.inl (0, 6))), (11, .inr (.inl (0, 6))), (12, .inr (.inl (0, 6))), (13, .inr (.inl (0, 6))), (14, .inr (.inl (0, 16))), (15, .inr (.inl (0, 6))), (16, .inr (.inl (0, 6))), (3, .inl (7, [none, some (some 26), some (some 27), some (some 28), some (some 29), none])), (26, .inr (.inl (0, 8))), (27, .inr (.inl (0, 8))), (28, .inr (.inl (0, 8))), (29, .inr (.inl (0, 200))), (4, .inl (6, [none, some (some 30), some (some 31), some (some 32), some (some 33)])), (30, .inr (.inl (0, 6))), (31, .inr (.inl (0, 6))), (32, .inr (.inl (0, 6))), (33, .inr (.inl (0, 6))), (17, .inr (.inr (3, [some 64, some 65, some 66, some 67, some 68, some 69]))), (64, .inl (5, [])), (65, .inl (10, [])), (66, .inl (8, [])), (67, .inl (1, [])), (68, .inl (3, [])), (69, .inl (4, [])), (2, .inl (0, [none, none, none, none, none, none, none, none, none, some (some 18), some (some 19), some (some 20), some (some 21), some (some 22), some (some 23), some (some 24), some (some 5), some (some 6), some (some 25)])), (18, .inr (.inl (0, 6))), (19, .inr (.inl (0, 6))), (20, .inr (.inl (0, 6))), (21, .inr (.inl (0, 6))), (22, .inr (.inl (0, 16))), (23, .inr (.inl (0, 6))), (24, .inr (.inl (0, 6))), (5, .inl (7, [none, some (some 34), some (some 35), some (some 36), some (some 37), none])), (34, .inr (.inl (0, 8))), (35, .inr (.inl (0, 8))), (36, .inr (.inl (0, 8))), (37, .inr (.inl (0, 200))), (6, .inl (6, [none, some (some 38), some (some 39), some (some 40), some (some 41)])), (38, .inr (.inl (0, 6))), (39, .inr (.inl (0, 6))), (40, .inr (.inl (0, 6))), (41, .inr (.inl (0, 6))), (25, .inr (.inr (3, [some 70, some 71, some 72, some 73, some 74, some 75]))), (70, .inl (5, [])), (71, .inl (10, [])), (72, .inl (8, [])), (73, .inl (1, [])), (74, .inl (3, [])), (75, .inl (4, [])), (7, .inl (9, [none, some (some 46), some (some 47), some (some 48), none])), (46, .inr (.inl (0, 200))), (47, .inr (.inl (0, 201))), (48, .inr (.inl (0, 201))), (8, .inl (7, [none, some (some 42), some (some 43), some (some 44), some (some 45), none])), (42, .inr (.inl (0, 8))), (43, .inr (.inl (0, 8))), (44, .inr (.inl (0, 8))), (45, .inr (.inl (0, 200))), (50, .inr (.inr (2, [some 51, some 52, some 53, some 54]))), (51, .inr (.inl (0, 3))), (52, .inr (.inl (0, 3))), (53, .inr (.inl (0, 3))), (54, .inr (.inl (0, 3))), (60, .inr (.inl (0, 4))), (61, .inr (.inl (0, 4))), (55, .inr (.inr (2, [some 56, some 57, some 58, some 59]))), (56, .inr (.inl (0, 40))), (57, .inr (.inl (0, 40))), (58, .inr (.inl (0, 40))), (59, .inr (.inl (0, 40))), (62, .inr (.inl (0, 4))), (63, .inr (.inl (0, 4))), (9, .inl (2, [none, none, none, some (some 49), none])), (49, .inr (.inl (0, 30))), (76, .inl (12, [some (some 77), some none, some none, none, some none, some none, none, some none, none, none, none, none, none, none, some none, some none, none, some none, some none, some none, none, none, none, none, some none, some none, none, some none, none, some none, some none, some none, some none, some none, some none, none, none, none])), (77, .inr (.inl (0, 315)))]
def cwr4 : CW := [(0, .inl (11, [some (some 1), some (some 2), none, some (some 7), some (some 8), some (some 50), none, some (some 60), some (some 61), some (some 55), some (some 62), some (some 63), some (some 9)])), (1, .inl (0, [none, none, none, none, none, none, none, none, none, some (some 10), some (some 11), some (some 12), some (some 13), some (some 14), some (some 15), some (some 16), some (some 3), some (some 4), some (some 17)])), (10, .inr (.inl (0, 6))), (11, .inr (.inl (0, 6))), (12, .inr (.inl (0, 6))), (13, .inr (.inl (0, 6))), (14, .inr (.inl (0, 16))), (15, .inr (.inl (0, 6))), (16, .inr (.inl (0, 6))), (3, .inl (7, [none, some (some 26), some (some 27), some (some 28), some (some 29), none])), (26, .inr (.inl (0, 8))), (27, .inr (.inl (0, 8))), (28, .inr (.inl (0, 8))), (29, .inr (.inl (0, 200))), (4, .inl (6, [none, some (some 30), some (some 31), some (some 32), some (some 33)])), (30, .inr (.inl (0, 6))), (31, .inr (.inl (0, 6))), (32, .inr (.inl (0, 6))), (33, .inr (.inl (0, 6))), (17, .inr (.inr (3, [some 64, some 65, some 66, some 67, some 68, some 69]))), (64, .inl (5, [])), (65, .inl (10, [])), (66, .inl (8, [])), (67, .inl (1, [])), (68, .inl (3, [])), (69, .inl (4, [])), (2, .inl (0, [none, none, none, none, none, none, none, none, none, some (some 18), some (some 19), some (some 20), some (some 21), some (some 22), some (some 23), some (some 24), some (some 5), some (some 6), some (some 25)])), (18, .inr (.inl (0, 6))), (19, .inr (.inl (0, 6))), (20, .inr (.inl (0, 6))), (21, .inr (.inl (0, 6))), (22, .inr (.inl (0, 16))), (23, .inr (.inl (0, 6))), (24, .inr (.inl (0, 6))), (5, .inl (7, [none, some (some 34), some (some 35), some (some 36), some (some 37), none])), (34, .inr (.inl (0, 8))), (35, .inr (.inl (0, 8))), (36, .inr (.inl (0, 8))), (37, .inr (.inl (0, 200))), (6, .inl (6, [none, some (some 38), some (some 39), some (some 40), some (some 41)])), (38, .inr (.inl (0, 6))), (39, .inr (.inl (0, 6))), (40, .inr (.inl (0, 6))), (41, .inr (.inl (0, 6))), (25, .inr (.inr (3, [some 70, some 71, some 72, some 73, some 74, some 75]))), (70, .inl (5, [])), (71, .inl (10, [])), (72, .inl (8, [])), (73, .inl (1, [])), (74, .inl (3, [])), (75, .inl (4, [])), (7, .inl (9, [none, some (some 46), some (some 47), some (some 48), none])), (46, .inr (.inl (0, 200))), (47, .inr (.inl (0, 201))), (48, .inr (.inl (0, 201))), (8, .inl (7, [none, some (some 42), some (some 43), some (some 44), some (some 45), none])), (42, .inr (.inl (0, 8))), (43, .inr (.inl (0, 8))), (44, .inr (.inl (0, 8))), (45, .inr (.inl (0, 200))), (50, .inr (.inr (2, [some 51, some 52, some 53, some 54]))), (51, .inr (.inl (0, 3))), (52, .inr (.inl (0, 3))), (53, .inr (.inl (0, 3))), (54, .inr (.inl (0, 3))), (60, .inr (.inl (0, 4))), (61, .inr (.inl (0, 4))), (55, .inr (.inr (2, [some 56, some 57, some 58, some 59]))), (56, .inr (.inl (0, 40))), (57, .inr (.inl (0, 40))), (58, .inr (.inl (0, 40))), (59, .inr (.inl (0, 40))), (62, .inr (.inl (0, 4))), (63, .inr (.inl (0, 4))), (9, .inl (2, [none, none, none, some (some 49), none])), (49, .inr (.inl (0, 30))), (76, .inl (12, [some (some 77), some none, some none, none, some none, some none, none, some none, none, none, none, none, none, none, some none, some none, none, some none, some none, some none, none, none, none, none, some none, some none, none, some none, none, some none, some none, some none, some none, some none, some none, none, none, none])), (77, .inr (.inl (0, 315))), (78, .inr (.inl (0, 315)))]
def cwr5 : CW := [(0, .inl (11, [some (some 1), some (some 2), none, some (some 7), some (some 8), some (some 50), none, some (some 60), some (some 61), some (some 55), some (some 62), some (some 63), some (some 9)])), (1, .inl (0, [none, none, none, none, none, none, none, none, none, some (some 10), some (some 11), some (some 12), some (some 13), some (some 14), some (some 15), some (some 16), some (some 3), some (some 4), some (some 17)])), (10, .inr (.inl (0, 6))), (11, .inr (.inl (0, 6))), (12, .inr (.inl (0, 6))), (13, .inr (.inl (0, 6))), (14, .inr (.inl (0, 16))), (15, .inr (.inl (0, 6))), (16, .inr (.inl (0, 6))), (3, .inl (7, [none, some (some 26), some (some 27), some (some 28), some (some 29), none])), (26, .inr (.inl (0, 8))), (27, .inr (.inl (0, 8))), (28, .inr (.inl (0, 8))), (29, .inr (.inl (0, 200))), (4, .inl (6, [none, some (some 30), some (some 31), some (some 32), some (some 33)])), (30, .inr (.inl (0, 6))), (31, .inr (.inl (0, 6))), (32, .inr (.inl (0, 6))), (33, .inr (.inl (0, 6))), (17, .inr (.inr (3, [some 64, some 65, some 66, some 67, some 68, some 69]))), (64, .inl (5, [])), (65, .inl (10, [])), (66, .inl (8, [])), (67, .inl (1, [])), (68, .inl (3, [])), (69, .inl (4, [])), (2, .inl (0, [none, none, none, none, none, none, none, none, none, some (some 18), some (some 19), some (some 20), some (some 21), some (some 22), some (some 23), some (some 24), some (some 5), some (some 6), some (some 25)])), (18, .inr (.inl (0, 6))), (19, .inr (.inl (0, 6))), (20, .inr (.inl (0, 6))), (21, .inr (.inl (0, 6))), (22, .inr (.inl (0, 16))), (23, .inr (.inl (0, 6))), (24, .inr (.inl (0, 6))), (5, .inl (7, [none, some (some 34), some (some 35), some (some 36), some (some 37), none])), (34, .inr (.inl (0, 8))), (35, .inr (.inl (0, 8))), (36, .inr (.inl (0, 8))), (37, .inr (.inl (0, 200))), (6, .inl (6, [none, some (some 38), some (some 39), some (some 40), some (some 41)])), (38, .inr (.inl (0, 6))), (39, .inr (.inl (0, 6))), (40, .inr (.inl (0, 6))), (41, .inr (.inl (0, 6))), (25, .inr (.inr (3, [some 70, some 71, some 72, some 73, some 74, some 75]))), (70, .inl (5, [])), (71, .inl (10, [])), (72, .inl (8, [])), (73, .inl (1, [])), (74, .inl (3, [])), (75, .inl (4, [])), (7, .inl (9, [none, some (some 46), some (some 47), some (some 48), none])), (46, .inr (.inl (0, 200))), (47, .inr (.inl (0, 201))), (48, .inr (.inl (0, 201))), (8, .inl (7, [none, some (some 42), some (some 43), some (some 44), some (some 45), none])), (42, .inr (.inl (0, 8))), (43, .inr (.inl (0, 8))), (44, .inr (.inl (0, 8))), (45, .inr (.inl (0, 200))), (50, .inr (.inr (2, [some 51, some 52, some 53, some 54]))), (51, .inr (.inl (0, 3))), (52, .inr (.inl (0, 3))), (53, .inr (.inl (0, 3))), (54, .inr (.inl (0, 3))), (60, .inr (.inl (0, 4))), (61, .inr (.inl (0, 4))), (55, .inr (.inr (2, [some 56, some 57, some 58, some 59]))), (56, .inr (.inl (0, 40))), (57, .inr (.inl (0, 40))), (58, .inr (.inl (0, 40))), (59, .inr (.inl (0, 40))), (62, .inr (.inl (0, 4))), (63, .inr (.inl (0, 4))), (9, .inl (2, [none, none, none, some (some 49), none])), (49, .inr (.inl (0, 30))), (76, .inl (12, [some (some 77), some (some 78), some none, none, some none, some none, none, some none, none, none, none, none, none, none, some none, some none, none, some none, some none, some none, none, none, none, none, some none, some none, none, some none, none, some none, some none, some none, some none, some none, some none, none, none, none])), (77, .inr (.inl (0, 315))), (78, .inr (.inl (0, 315)))]
def cwr6 : CW := [(0, .inl (11, [some (some 1), some (some 2), none, some (some 7), some (some 8), some (some 50), none, some (some 60), some (some 61), some (some 55), some (some 62), some (some 63), some (some 9)])), (1, .inl (0, [none, none, none, none, none, none, none, none, none, some (some 10), some (some 11), some (some 12), some (some 13), some (some 14), some (some 15), some (some 16), some (some 3), some (some 4), some (some 17)])), (10, .inr (.inl (0, 6))), (11, .inr (.inl (0, 6))), (12, .inr (.inl (0, 6))), (13, .inr (.inl (0, 6))), (14, .inr (.inl (0, 16))), (15, .inr (.inl (0, 6))), (16, .inr (.inl (0, 6))), (3, .inl (7, [none, some (some 26), some (some 27), some (some 28), some (some 29), none])), (26, .inr (.inl (0, 8))), (27, .inr (.inl (0, 8))), (28, .inr (.inl (0, 8))), (29, .inr (.inl (0, 200))), (4, .inl (6, [none, some (some 30), some (some 31), some (some 32), some (some 33)])), (30, .inr (.inl (0, 6))), (31, .inr (.inl (0, 6))), (32, .inr (.inl (0, 6))), (33, .inr (.inl (0, 6))), (17, .inr (.inr (3, [some 64, some 65, some 66, some 67, some 68, some 69]))), (64, .inl (5, [])), (65, .inl (10, [])), (66, .inl (8, [])), (67, .inl (1, [])), (68, .inl (3, [])), (69, .inl (4, [])), (2, .inl (0, [none, none, none, none, none, none, none, none, none, some (some 18), some (some 19), some (some 20), some (some 21), some (some 22), some (some 23), some (some 24), some (some 5), some (some 6), some (some 25)])), (18, .inr (.inl (0, 6))), (19, .inr (.inl (0, 6))), (20, .inr (.inl (0, 6))), (21, .inr (.inl (0, 6))), (22, .inr (.inl (0, 16))), (23, .inr (.inl (0, 6))), (24, .inr (.inl (0, 6))), (5, .inl (7, [none, some (some 34), some (some 35), some (some 36), some (some 37), none])), (34, .inr (.inl (0, 8))), (35, .inr (.inl (0, 8))), (36, .inr (.inl (0, 8))), (37, .inr (.inl (0, 200))), (6, .inl (6, [none, some (some 38), some (some 39), some (some 40), some (some 41)])), (38, .inr (.inl (0, 6))), (39, .inr (.inl (0, 6))), (40, .inr (.inl (0, 6))), (41, .inr (.inl (0, 6))), (25, .inr (.inr (3, [some 70, some 71, some 72, some 73, some 74, some 75]))), (70, .inl (5, [])), (71, .inl (10, [])), (72, .inl (8, [])), (73, .inl (1, [])), (74, .inl (3, [])), (75, .inl (4, [])), (7, .inl (9, [none, some (some 46), some (some 47), some (some 48), none])), (46, .inr (.inl (0, 200))), (47, .inr (.inl (0, 201))), (48, .inr (.inl (0, 201))), (8, .inl (7, [none, some (some 42), some (some 43), some (some 44), some (some 45), none])), (42, .inr (.inl (0, 8))), (43, .inr (.inl (0, 8))), (44, .inr (.inl (0, 8))), (45, .inr (.inl (0, 200))), (50, .inr (.inr (2, [some 51, some 52, some 53, some 54]))), (51, .inr (.inl (0, 3))), (52, .inr (.inl (0, 3))), (53, .inr (.inl (0, 3))), (54, .inr (.inl (0, 3))), (60, .inr (.inl (0, 4))), (61, .inr (.inl (0, 4))), (55, .inr (.inr (2, [some 56, some 57, some 58, some 59]))), (56, .inr (.inl (0, 40))), (57, .inr (.inl (0, 40))), (58, .inr (.inl (0, 40))), (59, .inr (.inl (0, 40))), (62, .inr (.inl (0, 4))), (63, .inr (.inl (0, 4))), (9, .inl (2, [none, none, none, some (some 49), none])), (49, .inr (.inl (0, 30))), (76, .inl (12, [some (some 77), some (some 78), some none, none, some none, some none, none, some none, none, none, none, none, none, none, some none, some none, none, some none, some none, some none, none, none, none, none, some none, some none, none, some none, none, some none, some none, some none, some none, some none, some none, none, none, none])), (77, .inr (.inl (0, 315))), (78, .inr (.inl (0, 315))), (79, .inr (.inl (0, 67)))]
def cwr7 : CW := [(0, .inl (11, [some (some 1), some (some 2), none, some (some 7), some (some 8), some (some 50), none, some (some 60), some (some 61), some (some 55), some (some 62), some (some 63), some (some 9)])), (1, .inl (0, [none, none, none, none, none, none, none, none, none, some (some 10), some (some 11), some (some 12), some (some 13), some (some 14), some (some 15), some (some 16), some (some 3), some (some 4), some (some 17)])), (10, .inr (.inl (0, 6))), (11, .inr (.inl (0, 6))), (12, .inr (.inl (0, 6))), (13, .inr (.inl (0, 6))), (14, .inr (.inl (0, 16))), (15, .inr (.inl (0, 6))), (16, .inr (.inl (0, 6))), (3, .inl (7, [none, some (some 26), some (some 27), some (some 28), some (some 29), none])), (26, .inr (.inl (0, 8))), (27, .inr (.inl (0, 8))), (28, .inr (.inl (0, 8))), (29, .inr (.inl (0, 200))), (4, .inl (6, [none, some (some 30), some (some 31), some (some 32), some (some 33)])), (30, .inr (.inl (0, 6))), (31, .inr (.inl (0, 6))), (32, .inr (.inl (0, 6))), (33, .inr (.inl (0, 6))), (17, .inr (.inr (3, [some 64, some 65, some 66, some 67, some 68, some 69]))), (64, .inl (5, [])), (65, .inl (10, [])), (66, .inl (8, [])), (67, .inl (1, [])), (68, .inl (3, [])), (69, .inl (4, [])), (2, .inl (0, [none, none, none, none, none, none, none, none, none, some (some 18), some (some 19), some (some 20), some (some 21), some (some 22), some (some 23), some (some 24), some (some 5), some (some 6), some (some 25)])), (18, .inr (.inl (0, 6))), (19, .inr (.inl (0, 6))), (20, .inr (.inl (0, 6))), (21, .inr (.inl (0, 6))), (22, .inr (.inl (0, 16))), (23, .inr (.inl (0, 6))), (24, .inr (.inl (0, 6))), (5, .inl (7, [none, some (some 34), some (some 35), some (some 36), some (some 37), none])), (34, .inr (.inl (0, 8))), (35, .inr (.inl (0, 8))), (36, .inr (.inl (0, 8))), (37, .inr (.inl (0, 200))), (6, .inl (6, [none, some (some 38), some (some 39), some (some 40), some (some 41)])), (38, .inr (.inl (0, 6))), (39, .inr (.inl (0, 6))), (40, .inr (.inl (0, 6))), (41, .inr (.inl (0, 6))), (25, .inr (.inr (3, [some 70, some 71, some 72, some 73, some 74, some 75]))), (70, .inl (5, [])), (71, .inl (10, [])), (72, .inl (8, [])), (73, .inl (1, [])), (74, .inl (3, [])), (75, .inl (4, [])), (7, .inl (9, [none, some (some 46), some (some 47), some (some 48), none])), (46, .inr (.inl (0, 200))), (47, .inr (.inl (0, 201))), (48, .inr (.inl (0, 201))), (8, .inl (7, [none, some (some 42), some (some 43), some (some 44), some (some 45), none])), (42, .inr (.inl (0, 8))), (43, .inr (.inl (0, 8))), (44, .inr (.inl (0, 8))), (45, .inr (.inl (0, 200))), (50, .inr (.inr (2, [some 51, some 52, some 53, some 54]))), (51, .inr (.inl (0, 3))), (52, .inr (.inl (0, 3))), (53, .inr (.inl (0, 3))), (54, .inr (.inl (0, 3))), (60, .inr (.inl (0, 4))), (61, .inr (.inl (0, 4))), (55, .inr (.inr (2, [some 56, some 57, some 58, some 59]))), (56, .inr (.inl (0, 40))), (57, .inr (.inl (0, 40))), (58, .inr (.inl (0, 40))), (59, .inr (.inl (0, 40))), (62, .inr (.inl (0, 4))), (63, .inr (.inl (0, 4))), (9, .inl (2, [none, none, none, some (some 49), none])), (49, .inr (.inl (0, 30))), (76, .inl (12, [some (some 77), some (some 78), some (some 79), none, some none, some none, none, some none, none, none, none, none, none, none, some none, some none, none, some none, some none, some none, none, none, none, none, some none, some none, none, some none, none, some none, some none, some none, some none, some none, some none, none, none, none])), (77, .inr (.inl (0, 315))), (78, .inr (.inl (0, 315))), (79, .inr (.inl (0, 67)))]
def cwr8 : CW := [(0, .inl (11, [some (some 1), some (some 2), none, some (some 7), some (some 8), some (some 50), none, some (some 60), some (some 61), some (some 55), some (some 62), some (some 63), some (some 9)])), (1, .inl (0, [none, none, none, none, none, none, none, none, none, some (some 10), some (some 11), some (some 12), some (some 13), some (some 14), some (some 15), some (some 16), some (some 3), some (some 4), some (some 17)])), (10, .inr (.inl (0, 6))), (11, .inr (.inl (0, 6))), (12, .inr (.inl (0, 6))), (13, .inr (.inl (0, 6))), (14, .inr (.inl (0, 16))), (15, .inr (.inl (0, 6))), (16, .inr (.inl (0, 6))), (3, .inl (7, [none, some (some 26), some (some 27), some (some 28), some (some 29), none])), (26, .inr (.inl (0, 8))), (27, .inr (.inl (0, 8))), (28, .inr (.inl (0, 8))), (29, .inr (.inl (0, 200))), (4, .inl (6, [none, some (some 30), some (some 31), some (some 32), some (some 33)])), (30, .inr (.inl (0, 6))), (31, .inr (.inl (0, 6))), (32, .inr (.inl (0, 6))), (33, .inr (.inl (0, 6))), (17, .inr (.inr (3, [some 64, some 65, some 66, some 67, some 68, some 69]))), (64, .inl (5, [])), (65, .inl (10, [])), (66, .inl (8, [])), (67, .inl (1, [])), (68, .inl (3, [])), (69, .inl (4, [])), (2, .inl (0, [none, none, none, none, none, none, none, none, none, some (some 18), some (some 19), some (some 20), some (some 21), some (some 22), some (some 23), some (some 24), some (some 5), some (some 6), some (some 25)])), (18, .inr (.inl (0, 6))), (19, .inr (.inl (0, 6))), (20, .inr (.inl (0, 6))), (21, .inr (.inl (0, 6))), (22, .inr (.inl (0, 16))), (23, .inr (.inl (0, 6))), (24, .inr (.inl (0, 6))), (5, .inl (7, [none, some (some 34), some (some 35), some (some 36), some (some 37), none])), (34, .inr (.inl (0, 8))), (35, .inr (.inl (0, 8))), (36, .inr (.inl (0, 8))), (37, .inr (.inl (0, 200))), (6, .inl (6, [none, some (some 38), some (some 39), some (some 40), some (some 41)])), (38, .inr (.inl (0, 6))), (39, .inr (.inl (0, 6))), (40, .inr (.inl (0, 6))), (41, .inr (.inl (0, 6))), (25, .inr (.inr (3, [some 70, some 71, some 72, some 73, some 74, some 75]))), (70, .inl (5, [])), (71, .inl (10, [])), (72, .inl (8, [])), (73, .inl (1, [])), (74, .inl (3, [])), (75, .inl (4, [])), (7, .inl (9, [none, some (some 46), some (some 47), some (some 48), none])), (46, .inr (.inl (0, 200))), (47, .inr (.inl (0, 201))), (48, .inr (.inl (0, 201))), (8, .inl (7, [none, some (some 42), some (some 43), some (some 44), some (some 45), none])), (42, .inr (.inl (0, 8))), (43, .inr (.inl (0, 8))), (44, .inr (.inl (0, 8))), (45, .inr (.inl (0, 200))), (50, .inr (.inr (2, [some 51, some 52, some 53, some 54]))), (51, .inr (.inl (0, 3))), (52, .inr (.inl (0, 3))), (53, .inr (.inl (0, 3))), (54, .inr (.inl (0, 3))), (60, .inr (.inl (0, 4))), (61, .inr (.inl (0, 4))), (55, .inr (.inr (2, [some 56, some 57, some 58, some 59]))), (56, .inr (.inl (0, 40))), (57, .inr (.inl (0, 40))), (58, .inr (.inl (0, 40))), (59, .inr (.inl (0, 40))), (62, .inr (.inl (0, 4))), (63, .inr (.inl (0, 4))), (9, .inl (2, [none, none, none, some (some 49), none])), (49, .inr (.inl (0, 30))), (76, .inl (12, [some (some 77), some (some 78), some (some 79), none, some none, some none, none, some none, none, none, none, none, none, none, some none, some none, none, some none, some none, some none, none, none, none, none, some none, some none, none, some none, none, some none, some none, some none, some none, some none, some none, none, none, none])), (77, .inr (.inl (0, 315))), (78, .inr (.inl (0, 315))), (79, .inr (.inl (0, 67))), (80, .inr (.inl (0, 200)))]
def cwr9 : CW := [(0, .inl (11, [some (some 1), some (some 2), none, some (some 7), some (some 8), some (some 50), none, some (some 60), some (some 61), some (some 55), some (some 62), some (some 63), some (some 9)])), (1, .inl (0, [none, none, none, none, none, none, none, none, none, some (some 10), some (some 11), some (some 12), some (some 13), some (some 14), some (some 15), some (some 16), some (some 3), some (some 4), some (some 17)])), (10, .inr (.inl (0, 6))), (11, .inr (.inl (0, 6))), (12, .inr (.inl (0, 6))), (13, .inr (.inl (0, 6))), (14, .inr (.inl (0, 16))), (15, .inr (.inl (0, 6))), (16, .inr (.inl (0, 6))), (3, .inl (7, [none, some (some 26), some (some 27), some (some 28), some (some 29), none])), (26, .inr (.inl (0, 8))), (27, .inr (.inl (0, 8))), (28, .inr (.inl (0, 8))), (29, .inr (.inl (0, 200))), (4, .inl (6, [none, some (some 30), some (some 31), some (some 32), some (some 33)])), (30, .inr (.inl (0, 6))), (31, .inr (.inl (0, 6))), (32, .inr (.inl (0, 6))), (33, .inr (.inl (0, 6))), (17, .inr (.inr (3, [some 64, some 65, some 66, some 67, some 68, some 69]))), (64, .inl (5, [])), (65, .inl (10, [])), (66, .inl (8, [])), (67, .inl (1, [])), (68, .inl (3, [])), (69, .inl (4, [])), (2, .inl (0, [none, none, none, none, none, none, none, none, none, some (some 18), some (some 19), some (some 20), some (some 21), some (some 22), some (some 23), some (some 24), some (some 5), some (some 6), some (some 25)])), (18, .inr (.inl (0, 6))), (19, .inr (.inl (0, 6))), (20, .inr (.inl (0, 6))), (21, .inr (.inl (0, 6))), (22, .inr (.inl (0, 16))), (23, .inr (.inl (0, 6))), (24, .inr (.inl (0, 6))), (5, .inl (7, [none, some (some 34), some (some 35), some (some 36), some (some 37), none])), (34, .inr (.inl (0, 8))), (35, .inr (.inl (0, 8))), (36, .inr (.inl (0, 8))), (37, .inr (.inl (0, 200))), (6, .inl (6, [none, some (some 38), some (some 39), some (some 40), some (some 41)])), (38, .inr (.inl (0, 6))), (39, .inr (.inl (0, 6))), (40, .inr (.inl (0, 6))), (41, .inr (.inl (0, 6))), (25, .inr (.inr (3, [some 70, some 71, some 72, some 73, some 74, some 75]))), (70, .inl (5, [])), (71, .inl (10, [])), (72, .inl (8, [])), (73, .inl (1, [])), (74, .inl (3, [])), (75, .inl (4, [])), (7, .inl (9, [none, some (some 46), some (some 47), some (some 48), none])), (46, .inr (.inl (0, 200))), (47, .inr (.inl (0, 201))), (48, .inr (.inl (0, 201))), (8, .inl (7, [none, some (some 42), some (some 43), some (some 44), some (some 45), none])), (42, .inr (.inl (0, 8))), (43, .inr (.inl (0, 8))), (44, .inr (.inl (0, 8))), (45, .inr (.inl (0, 200))), (50, .inr (.inr (2, [some 51, some 52, some 53, some 54]))), (51, .inr (.inl (0, 3))), (52, .inr (.inl (0, 3))), (53, .inr (.inl (0, 3))), (54, .inr (.inl (0, 3))), (60, .inr (.inl (0, 4))), (61, .inr (.inl (0, 4))), (55, .inr (.inr (2, [some 56, some 57, some 58, some 59]))), (56, .inr (.inl (0, 40))), (57, .inr (.inl (0, 40))), (58, .inr (.inl (0, 40))), (59, .inr (.inl (0, 40))), (62, .inr (.inl (0, 4))), (63, .inr (.inl (0, 4))), (9, .inl (2, [none, none, none, some (some 49), none])), (49, .inr (.inl (0, 30))), (76, .inl (12, [some (some 77), some (some 78), some (some 79), none, some (some 80), some none, none, some none, none, none, none, none, none, none, some none, some none, none, some none, some none, some none, none, none, none, none, some none, some none, none, some none, none, some none, some none, some none, some none, some none, some none, none, none, none])), (77, .inr (.inl (0, 315))), (78, .inr (.inl (0, 315))), (79, .inr (.inl (0, 67))), (80, .inr (.inl (0, 200)))]
def cwr10 : CW := [(0, .inl (11, [some (some 1), some (some 2), none, some (some 7), some (some 8), some (some 50), none, some (some 60), some (some 61), some (some 55), some (some 62), some (some 63), some (some 9)])), (1, .inl (0, [none, none, none, none, none, none, none, none, none, some (some 10), some (some 11), some (some 12), some (some 13), some (some 14), some (some 15), some (some 16), some (some 3), some (some 4), some (some 17)])), (10, .inr (.inl (0, 6))), (11, .inr (.inl (0, 6))), (12, .inr (.inl (0, 6))), (13, .inr (.inl (0, 6))), (14, .inr (.inl (0, 16))), (15, .inr (.inl (0, 6))), (16, .inr (.inl (0, 6))), (3, .inl (7, [none, some (some 26), some (some 27), some (some 28), some (some 29), none])), (26, .inr (.inl (0, 8))), (27, .inr (.inl (0, 8))), (28, .inr (.inl (0, 8))), (29, .inr (.inl (0, 200))), (4, .inl (6, [none, some (some 30), some (some 31), some (some 32), some (some 33)])), (30, .inr (.inl (0, 6))), (31, .inr (.inl (0, 6))), (32, .inr (.inl (0, 6))), (33, .inr (.inl (0, 6))), (17, .inr (.inr (3, [some 64, some 65, some 66, some 67, some 68, some 69]))), (64, .inl (5, [])), (65, .inl (10, [])), (66, .inl (8, [])), (67, .inl (1, [])), (68, .inl (3, [])), (69, .inl (4, [])), (2, .inl (0, [none, none, none, none, none, none, none, none, none, some (some 18), some (some 19), some (some 20), some (some 21), some (some 22), some (some 23), some (some 24), some (some 5), some (some 6), some (some 25)])), (18, .inr (.inl (0, 6))), (19, .inr (.inl (0, 6))), (20, .inr (.inl (0, 6))), (21, .inr (.inl (0, 6))), (22, .inr (.inl (0, 16))), (23, .inr (.inl (0, 6))), (24, .inr (.inl (0, 6))), (5, .inl (7, [none, some (some 34), some (some 35), some (some 36), some (some 37), none])), (34, .inr (.inl (0, 8))), (35, .inr (.inl (0, 8))), (36, .inr (.inl (0, 8))), (37, .inr (.inl (0, 200))), (6, .inl (6, [none, some (some 38), some (some 39), some (some 40), some (some 41)])), (38, .inr (.inl (0, 6))), (39, .inr (.inl (0, 6))), (40, .inr (.inl (0, 6))), (41, .inr (.inl (0, 6))), (25, .inr (.inr (3, [some 70, some 71, some 72, some 73, some 74, some 75]))), (70, .inl (5, [])), (71, .inl (10, [])), (72, .inl (8, [])), (73, .inl (1, [])), (74, .inl (3, [])), (75, .inl (4, [])), (7, .inl (9, [none, some (some 46), some (some 47), some (some 48), none])), (46, .inr (.inl (0, 200))), (47, .inr (.inl (0, 201))), (48, .inr (.inl (0, 201))), (8, .inl (7, [none, some (some 42), some (some 43), some (some 44), some (some 45), none])), (42, .inr (.inl (0, 8))), (43, .inr (.inl (0, 8))), (44, .inr (.inl (0, 8))), (45, .inr (.inl (0, 200))), (50, .inr (.inr (2, [some 51, some 52, some 53, some 54]))), (51, .inr (.inl (0, 3))), (52, .inr (.inl (0, 3))), (53, .inr (.inl (0, 3))), (54, .inr (.inl (0, 3))), (60, .inr (.inl (0, 4))), (61, .inr (.inl (0, 4))), (55, .inr (.inr (2, [some 56, some 57, some 58, some 59]))), (56, .inr (.inl (0, 40))), (57, .inr (.inl (0, 40))), (58, .inr (.inl (0, 40))), (59, .inr (.inl (0, 40))), (62, .inr (.inl (0, 4))), (63, .inr (.inl (0, 4))), (9, .inl (2, [none, none, none, some (some 49), none])), (49, .inr (.inl (0, 30))), (76, .inl (12, [some (some 77), some (some 78), some (some 79), none, some (some 80), some none, none, some none, none, none, none, none, none, none, some none, some none, none, some none, some none, some none, none, none, none, none, some none, some none, none, some none, none, some none, some none, some none, some none, some none, some none, none, none, none])), (77, .inr (.inl (0, 315))), (78, .inr (.inl (0, 315))), (79, .inr (.inl (0, 67))), (80, .inr (.inl (0, 200))), (81, .inr (.inl (0, 200)))]
def cwr11 : CW := [(0, .inl (11, [some (some 1), some (some 2), none, some (some 7), some (some 8), some (some 50), none, some (some 60), some (some 61), some (some 55), some (some 62), some (some 63), some (some 9)])), (1, .inl (0, [none, none, none, none, none, none, none, none, none, some (some 10), some (some 11), some (some 12), some (some 13), some (some 14), some (some 15), some (some 16), some (some 3), some (some 4), some (some 17)])), (10, .inr (.inl (0, 6))), (11, .inr (.inl (0, 6))), (12, .inr (.inl (0, 6))), (13, .inr (.inl (0, 6))), (14, .inr (.inl (0, 16))), (15, .inr (.inl (0, 6))), (16, .inr (.inl (0, 6))), (3, .inl (7, [none, some (some 26), some (some 27), some (some 28), some (some 29), none])), (26, .inr (.inl (0, 8))), (27, .inr (.inl (0, 8))), (28, .inr (.inl (0, 8))), (29, .inr (.inl (0, 200))), (4, .inl (6, [none, some (some 30), some (some 31), some (some 32), some (some 33)])), (30, .inr (.inl (0, 6))), (31, .inr (.inl (0, 6))), (32, .inr (.inl (0, 6))), (33, .inr (.inl (0, 6))), (17, .inr (.inr (3, [some 64, some 65, some 66, some 67, some 68, some 69]))), (64, .inl (5, [])), (65, .inl (10, [])), (66, .inl (8, [])), (67, .inl (1, [])), (68, .inl (3, [])), (69, .inl (4, [])), (2, .inl (0, [none, none, none, none, none, none, none, none, none, some (some 18), some (some 19), some (some 20), some (some 21), some (some 22), some (some 23), some (some 24), some (some 5), some (some 6), some (some 25)])), (18, .inr (.inl (0, 6))), (19, .inr (.inl (0, 6))), (20, .inr (.inl (0, 6))), (21, .inr (.inl (0, 6))), (22, .inr (.inl (0, 16))), (23, .inr (.inl (0, 6))), (24, .inr (.inl (0, 6))), (5, .inl (7, [none, some (some 34), some (some 35), some (some 36), some (some 37), none])), (34, .inr (.inl (0, 8))), (35, .inr (.inl (0, 8))), (36, .inr (.inl (0, 8))), (37, .inr (.inl (0, 200))), (6, .inl (6, [none, some (some 38), some (some 39), some (some 40), some (some 41)])), (38, .inr (.inl (0, 6))), (39, .inr (.inl (0, 6))), (40, .inr (.inl (0, 6))), (41, .inr (.inl (0, 6))), (25, .inr (.inr (3, [some 70, some 71, some 72, some 73, some 74, some 75]))), (70, .inl (5, [])), (71, .inl (10, [])), (72, .inl (8, [])), (73, .inl (1, [])), (74, .inl (3, [])), (75, .inl (4, [])), (7, .inl (9, [none, some (some 46), some (some 47), some (some 48), none])), (46, .inr (.inl (0, 200))), (47, .inr (.inl (0, 201))), (48, .inr (.inl (0, 201))), (8, .inl (7, [none, some (some 42), some (some 43), some (some 44), some (some 45), none])), (42, .inr (.inl (0, 8))), (43, .inr (.inl (0, 8))), (44, .inr (.inl (0, 8))), (45, .inr (.inl (0, 200))), (50, .inr (.inr (2, [some 51, some 52, some 53, some 54]))), (51, .inr (.inl (0, 3))), (52, .inr (.inl (0, 3))), (53, .inr (.inl (0, 3))), (54, .inr (.inl (0, 3))), (60, .inr (.inl (0, 4))), (61, .inr (.inl (0, 4))), (55, .inr (.inr (2, [some 56, some 57, some 58, some 59]))), (56, .inr (.inl (0, 40))), (57, .inr (.inl (0, 40))), (58, .inr (.inl (0, 40))), (59, .inr (.inl (0, 40))), (62, .inr (.inl (0, 4))), (63, .inr (.inl (0, 4))), (9, .inl (2, [none, none, none, some (some 49), none])), (49, .inr (.inl (0, 30))), (76, .inl (12, [some (some 77), some (some 78), some (some 79), none, some (some 80), some (some 81), none, some none, none, none, none, none, none, none, some none, some none, none, some none, some none, some none, none, none, none, none, some none, some none, none, some none, none, some none, some none, some none, some none, some none, some none, none, none, none])), (77, .inr (.inl (0, 315))), (78, .inr (.inl (0, 315))), (79, .inr (.inl (0, 67))), (80, .inr (.inl (0, 200))), (81, .inr (.inl (0, 200)))]
def cwr12 : CW := [(0, .inl (11, [some (some 1), some (some 2), none, some (some 7), some (some 8), some (some 50), none, some (some 60), some (some 61), some (some 55), some (some 62), some (some 63), some (some 9)])), (1, .inl (0, [none, none, none, none, none, none, none, none, none, some (some 10), some (some 11), some (some 12), some (some 13), some (some 14), some (some 15), some (some 16), some (some 3), some (some 4), some (some 17)])), (10, .inr (.inl (0, 6))), (11, .inr (.inl (0, 6))), (12, .inr (.inl (0, 6))), (13, .inr (.inl (0, 6))), (14, .inr (.inl (0, 16))), (15, .inr (.inl (0, 6))), (16, .inr (.inl (0, 6))), (3, .inl (7, [none, some (some 26), some (some 27), some (some 28), some (some 29), none])), (26, .inr (.inl (0, 8))), (27, .inr (.inl (0, 8))), (28, .inr (.inl (0, 8))), (29, .inr (.inl (0, 200))), (4, .inl (6, [none, some (some 30), some (some 31), some (some 32), some (some 33)])), (30, .inr (.inl (0, 6))), (31, .inr (.inl (0, 6))), (32, .inr (.inl (0, 6))), (33, .inr (.inl (0, 6))), (17, .inr (.inr (3, [some 64, some 65, some 66, some 67, some 68, some 69]))), (64, .inl (5, [])), (65, .inl (10, [])), (66, .inl (8, [])), (67, .inl (1, [])), (68, .inl (3, [])), (69, .inl (4, [])), (2, .inl (0, [none, none, none, none, none, none, none, none, none, some (some 18), some (some 19), some (some 20), some (some 21), some (some 22), some (some 23), some (some 24), some (some 5), some (some 6), some (some 25)])), (18, .inr (.inl (0, 6))), (19, .inr (.inl (0, 6))), (20, .inr (.inl (0, 6))), (21, .inr (.inl (0, 6))), (22, .inr (.inl (0, 16))), (23, .inr (.inl (0, 6))), (24, .inr (.inl (0, 6))), (5, .inl (7, [none, some (some 34), some (some 35), some (some 36), some (some 37), none])), (34, .inr (.inl (0, 8))), (35, .inr (.inl (0, 8))), (36, .inr (.inl (0, 8))), (37, .inr (.inl (0, 200))), (6, .inl (6, [none, some (some 38), some (some 39), some (some 40), some (some 41)])), (38, .inr (.inl (0, 6))), (39, .inr (.inl (0, 6))), (40, .inr (.inl (0, 6))), (41, .inr (.inl (0, 6))), (25, .inr (.inr (3, [some 70, some 71, some 72, some 73, some 74, some 75]))), (70, .inl (5, [])), (71, .inl (10, [])), (72, .inl (8, [])), (73, .inl (1, [])), (74, .inl (3, [])), (75, .inl (4, [])), (7, .inl (9, [none, some (some 46), some (some 47), some (some 48), none])), (46, .inr (.inl (0, 200))), (47, .inr (.inl (0, 201))), (48, .inr (.inl (0, 201))), (8, .inl (7, [none, some (some 42), some (some 43), some (some 44), some (some 45), none])), (42, .inr (.inl (0, 8))), (43, .inr (.inl (0, 8))), (44, .inr (.inl (0, 8))), (45, .inr (.inl (0, 200))), (50, .inr (.inr (2, [some 51, some 52, some 53, some 54]))), (51, .inr (.inl (0, 3))), (52, .inr (.inl (0, 3))), (53, .inr (.inl (0, 3))), (54, .inr (.inl (0, 3))), (60, .inr (.inl (0, 4))), (61, .inr (.inl (0, 4))), (55, .inr (.inr (2, [some 56, some 57, some 58, some 59]))), (56, .inr (.inl (0, 40))), (57, .inr (.inl (0, 40))), (58, .inr (.inl (0, 40))), (59, .inr (.inl (0, 40))), (62, .inr (.inl (0, 4))), (63, .inr (.inl (0, 4))), (9, .inl (2, [none, none, none, some (some 49), none])), (49, .inr (.inl (0, 30))), (76, .inl (12, [some (some 77), some (some 78), some (some 79), none, some (some 80), some (some 81), none, some none, none, none, none, none, none, none, some none, some none, none, some none, some none, some none, none, none, none, none, some none, some none, none, some none, none, some none, some none, some none, some none, some none, some none, none, none, none])), (77, .inr (.inl (0, 315))), (78, .inr (.inl (0, 315))), (79, .inr (.inl (0, 67))), (80, .inr (.inl (0, 200))), (81, .inr (.inl (0, 200))), (82, .inr (.inl (1, 144)))]
def cmr1 : M := mset cmk46 82 (upd (cmk46 82) (Int32.toNatClampNeg (0 : Int32)) (109 : Int32))
def cmr2 : M := mset cmr1 82 (upd (cmr1 82) (Int32.toNatClampNeg (1 : Int32)) (101 : Int32))
def cmr3 : M := mset cmr2 82 (upd (cmr2 82) (Int32.toNatClampNeg (2 : Int32)) (109 : Int32))
def cmr4 : M := mset cmr3 82 (upd (cmr3 82) (Int32.toNatClampNeg (3 : Int32)) (98 : Int32))
def cmr5 : M := mset cmr4 82 (upd (cmr4 82) (Int32.toNatClampNeg (4 : Int32)) (101 : Int32))
def cmr6 : M := mset cmr5 82 (upd (cmr5 82) (Int32.toNatClampNeg (5 : Int32)) (114 : Int32))
def cmr7 : M := mset cmr6 82 (upd (cmr6 82) (Int32.toNatClampNeg (6 : Int32)) (32 : Int32))
def cmr8 : M := mset cmr7 82 (upd (cmr7 82) (Int32.toNatClampNeg (7 : Int32)) (32 : Int32))
def cmr9 : M := mset cmr8 82 (upd (cmr8 82) (Int32.toNatClampNeg (8 : Int32)) (119 : Int32))
def cmr10 : M := mset cmr9 82 (upd (cmr9 82) (Int32.toNatClampNeg (9 : Int32)) (114 : Int32))
def cmr11 : M := mset cmr10 82 (upd (cmr10 82) (Int32.toNatClampNeg (10 : Int32)) (101 : Int32))
def cmr12 : M := mset cmr11 82 (upd (cmr11 82) (Int32.toNatClampNeg (11 : Int32)) (99 : Int32))
def cmr13 : M := mset cmr12 82 (upd (cmr12 82) (Int32.toNatClampNeg (12 : Int32)) (107 : Int32))
def cmr14 : M := mset cmr13 82 (upd (cmr13 82) (Int32.toNatClampNeg (13 : Int32)) (101 : Int32))
def cmr15 : M := mset cmr14 82 (upd (cmr14 82) (Int32.toNatClampNeg (14 : Int32)) (114 : Int32))
def cmr16 : M := mset cmr15 82 (upd (cmr15 82) (Int32.toNatClampNeg (15 : Int32)) (32 : Int32))
def cmr17 : M := mset cmr16 82 (upd (cmr16 82) (Int32.toNatClampNeg (16 : Int32)) (115 : Int32))
def cmr18 : M := mset cmr17 82 (upd (cmr17 82) (Int32.toNatClampNeg (17 : Int32)) (97 : Int32))
def cmr19 : M := mset cmr18 82 (upd (cmr18 82) (Int32.toNatClampNeg (18 : Int32)) (118 : Int32))
def cmr20 : M := mset cmr19 82 (upd (cmr19 82) (Int32.toNatClampNeg (19 : Int32)) (101 : Int32))
def cmr21 : M := mset cmr20 82 (upd (cmr20 82) (Int32.toNatClampNeg (20 : Int32)) (114 : Int32))
def cmr22 : M := mset cmr21 82 (upd (cmr21 82) (Int32.toNatClampNeg (21 : Int32)) (32 : Int32))
def cmr23 : M := mset cmr22 82 (upd (cmr22 82) (Int32.toNatClampNeg (22 : Int32)) (32 : Int32))
def cmr24 : M := mset cmr23 82 (upd (cmr23 82) (Int32.toNatClampNeg (23 : Int32)) (32 : Int32))
def cmr25 : M := mset cmr24 82 (upd (cmr24 82) (Int32.toNatClampNeg (24 : Int32)) (99 : Int32))
def cmr26 : M := mset cmr25 82 (upd (cmr25 82) (Int32.toNatClampNeg (25 : Int32)) (104 : Int32))
def cmr27 : M := mset cmr26 82 (upd (cmr26 82) (Int32.toNatClampNeg (26 : Int32)) (97 : Int32))
def cmr28 : M := mset cmr27 82 (upd (cmr27 82) (Int32.toNatClampNeg (27 : Int32)) (105 : Int32))
def cmr29 : M := mset cmr28 82 (upd (cmr28 82) (Int32.toNatClampNeg (28 : Int32)) (114 : Int32))
def cmr30 : M := mset cmr29 82 (upd (cmr29 82) (Int32.toNatClampNeg (29 : Int32)) (32 : Int32))
def cmr31 : M := mset cmr30 82 (upd (cmr30 82) (Int32.toNatClampNeg (30 : Int32)) (32 : Int32))
def cmr32 : M := mset cmr31 82 (upd (cmr31 82) (Int32.toNatClampNeg (31 : Int32)) (32 : Int32))
def cmr33 : M := mset cmr32 82 (upd (cmr32 82) (Int32.toNatClampNeg (32 : Int32)) (102 : Int32))
def cmr34 : M := mset cmr33 82 (upd (cmr33 82) (Int32.toNatClampNeg (33 : Int32)) (97 : Int32))
def cmr35 : M := mset cmr34 82 (upd (cmr34 82) (Int32.toNatClampNeg (34 : Int32)) (114 : Int32))
def cmr36 : M := mset cmr35 82 (upd (cmr35 82) (Int32.toNatClampNeg (35 : Int32)) (109 : Int32))
def cmr37 : M := mset cmr36 82 (upd (cmr36 82) (Int32.toNatClampNeg (36 : Int32)) (101 : Int32))
def cmr38 : M := mset cmr37 82 (upd (cmr37 82) (Int32.toNatClampNeg (37 : Int32)) (114 : Int32))
def cmr39 : M := mset cmr38 82 (upd (cmr38 82) (Int32.toNatClampNeg (38 : Int32)) (32 : Int32))
def cmr40 : M := mset cmr39 82 (upd (cmr39 82) (Int32.toNatClampNeg (39 : Int32)) (32 : Int32))
def cmr41 : M := mset cmr40 82 (upd (cmr40 82) (Int32.toNatClampNeg (40 : Int32)) (108 : Int32))
def cmr42 : M := mset cmr41 82 (upd (cmr41 82) (Int32.toNatClampNeg (41 : Int32)) (97 : Int32))
def cmr43 : M := mset cmr42 82 (upd (cmr42 82) (Int32.toNatClampNeg (42 : Int32)) (100 : Int32))
def cmr44 : M := mset cmr43 82 (upd (cmr43 82) (Int32.toNatClampNeg (43 : Int32)) (32 : Int32))
def cmr45 : M := mset cmr44 82 (upd (cmr44 82) (Int32.toNatClampNeg (44 : Int32)) (32 : Int32))
def cmr46 : M := mset cmr45 82 (upd (cmr45 82) (Int32.toNatClampNeg (45 : Int32)) (32 : Int32))
def cmr47 : M := mset cmr46 82 (upd (cmr46 82) (Int32.toNatClampNeg (46 : Int32)) (32 : Int32))
def cmr48 : M := mset cmr47 82 (upd (cmr47 82) (Int32.toNatClampNeg (47 : Int32)) (32 : Int32))
def cmr49 : M := mset cmr48 82 (upd (cmr48 82) (Int32.toNatClampNeg (48 : Int32)) (100 : Int32))
def cmr50 : M := mset cmr49 82 (upd (cmr49 82) (Int32.toNatClampNeg (49 : Int32)) (105 : Int32))
def cmr51 : M := mset cmr50 82 (upd (cmr50 82) (Int32.toNatClampNeg (50 : Int32)) (109 : Int32))
def cmr52 : M := mset cmr51 82 (upd (cmr51 82) (Int32.toNatClampNeg (51 : Int32)) (32 : Int32))
def cmr53 : M := mset cmr52 82 (upd (cmr52 82) (Int32.toNatClampNeg (52 : Int32)) (32 : Int32))
def cmr54 : M := mset cmr53 82 (upd (cmr53 82) (Int32.toNatClampNeg (53 : Int32)) (32 : Int32))
def cmr55 : M := mset cmr54 82 (upd (cmr54 82) (Int32.toNatClampNeg (54 : Int32)) (32 : Int32))
def cmr56 : M := mset cmr55 82 (upd (cmr55 82) (Int32.toNatClampNeg (55 : Int32)) (32 : Int32))
def cmr57 : M := mset cmr56 82 (upd (cmr56 82) (Int32.toNatClampNeg (56 : Int32)) (107 : Int32))
def cmr58 : M := mset cmr57 82 (upd (cmr57 82) (Int32.toNatClampNeg (57 : Int32)) (101 : Int32))
def cmr59 : M := mset cmr58 82 (upd (cmr58 82) (Int32.toNatClampNeg (58 : Int32)) (101 : Int32))
def cmr60 : M := mset cmr59 82 (upd (cmr59 82) (Int32.toNatClampNeg (59 : Int32)) (112 : Int32))
def cmr61 : M := mset cmr60 82 (upd (cmr60 82) (Int32.toNatClampNeg (60 : Int32)) (32 : Int32))
def cmr62 : M := mset cmr61 82 (upd (cmr61 82) (Int32.toNatClampNeg (61 : Int32)) (32 : Int32))
def cmr63 : M := mset cmr62 82 (upd (cmr62 82) (Int32.toNatClampNeg (62 : Int32)) (32 : Int32))
def cmr64 : M := mset cmr63 82 (upd (cmr63 82) (Int32.toNatClampNeg (63 : Int32)) (32 : Int32))
def cmr65 : M := mset cmr64 82 (upd (cmr64 82) (Int32.toNatClampNeg (64 : Int32)) (116 : Int32))
def cmr66 : M := mset cmr65 82 (upd (cmr65 82) (Int32.toNatClampNeg (65 : Int32)) (114 : Int32))
def cmr67 : M := mset cmr66 82 (upd (cmr66 82) (Int32.toNatClampNeg (66 : Int32)) (105 : Int32))
def cmr68 : M := mset cmr67 82 (upd (cmr67 82) (Int32.toNatClampNeg (67 : Int32)) (109 : Int32))
def cmr69 : M := mset cmr68 82 (upd (cmr68 82) (Int32.toNatClampNeg (68 : Int32)) (32 : Int32))
def cmr70 : M := mset cmr69 82 (upd (cmr69 82) (Int32.toNatClampNeg (69 : Int32)) (32 : Int32))
def cmr71 : M := mset cmr70 82 (upd (cmr70 82) (Int32.toNatClampNeg (70 : Int32)) (32 : Int32))
def cmr72 : M := mset cmr71 82 (upd (cmr71 82) (Int32.toNatClampNeg (71 : Int32)) (32 : Int32))
def cmr73 : M := mset cmr72 82 (upd (cmr72 82) (Int32.toNatClampNeg (72 : Int32)) (105 : Int32))
def cmr74 : M := mset cmr73 82 (upd (cmr73 82) (Int32.toNatClampNeg (73 : Int32)) (102 : Int32))
def cmr75 : M := mset cmr74 82 (upd (cmr74 82) (Int32.toNatClampNeg (74 : Int32)) (32 : Int32))
def cmr76 : M := mset cmr75 82 (upd (cmr75 82) (Int32.toNatClampNeg (75 : Int32)) (32 : Int32))
def cmr77 : M := mset cmr76 82 (upd (cmr76 82) (Int32.toNatClampNeg (76 : Int32)) (32 : Int32))
def cmr78 : M := mset cmr77 82 (upd (cmr77 82) (Int32.toNatClampNeg (77 : Int32)) (32 : Int32))
def cmr79 : M := mset cmr78 82 (upd (cmr78 82) (Int32.toNatClampNeg (78 : Int32)) (32 : Int32))
def cmr80 : M := mset cmr79 82 (upd (cmr79 82) (Int32.toNatClampNeg (79 : Int32)) (32 : Int32))
def cmr81 : M := mset cmr80 82 (upd (cmr80 82) (Int32.toNatClampNeg (80 : Int32)) (110 : Int32))
def cmr82 : M := mset cmr81 82 (upd (cmr81 82) (Int32.toNatClampNeg (81 : Int32)) (111 : Int32))
def cmr83 : M := mset cmr82 82 (upd (cmr82 82) (Int32.toNatClampNeg (82 : Int32)) (116 : Int32))
def cmr84 : M := mset cmr83 82 (upd (cmr83 82) (Int32.toNatClampNeg (83 : Int32)) (32 : Int32))
def cmr85 : M := mset cmr84 82 (upd (cmr84 82) (Int32.toNatClampNeg (84 : Int32)) (32 : Int32))
def cmr86 : M := mset cmr85 82 (upd (cmr85 82) (Int32.toNatClampNeg (85 : Int32)) (32 : Int32))
def cmr87 : M := mset cmr86 82 (upd (cmr86 82) (Int32.toNatClampNeg (86 : Int32)) (32 : Int32))
def cmr88 : M := mset cmr87 82 (upd (cmr87 82) (Int32.toNatClampNeg (87 : Int32)) (32 : Int32))
def cmr89 : M := mset cmr88 82 (upd (cmr88 82) (Int32.toNatClampNeg (88 : Int32)) (97 : Int32))
def cmr90 : M := mset cmr89 82 (upd (cmr89 82) (Int32.toNatClampNeg (89 : Int32)) (110 : Int32))
def cmr91 : M := mset cmr90 82 (upd (cmr90 82) (Int32.toNatClampNeg (90 : Int32)) (100 : Int32))
def cmr92 : M := mset cmr91 82 (upd (cmr91 82) (Int32.toNatClampNeg (91 : Int32)) (32 : Int32))
def cmr93 : M := mset cmr92 82 (upd (cmr92 82) (Int32.toNatClampNeg (92 : Int32)) (32 : Int32))
def cmr94 : M := mset cmr93 82 (upd (cmr93 82) (Int32.toNatClampNeg (93 : Int32)) (32 : Int32))
def cmr95 : M := mset cmr94 82 (upd (cmr94 82) (Int32.toNatClampNeg (94 : Int32)) (32 : Int32))
def cmr96 : M := mset cmr95 82 (upd (cmr95 82) (Int32.toNatClampNeg (95 : Int32)) (32 : Int32))
def cmr97 : M := mset cmr96 82 (upd (cmr96 82) (Int32.toNatClampNeg (96 : Int32)) (111 : Int32))
def cmr98 : M := mset cmr97 82 (upd (cmr97 82) (Int32.toNatClampNeg (97 : Int32)) (114 : Int32))
def cmr99 : M := mset cmr98 82 (upd (cmr98 82) (Int32.toNatClampNeg (98 : Int32)) (32 : Int32))
def cmr100 : M := mset cmr99 82 (upd (cmr99 82) (Int32.toNatClampNeg (99 : Int32)) (32 : Int32))
def cmr101 : M := mset cmr100 82 (upd (cmr100 82) (Int32.toNatClampNeg (100 : Int32)) (32 : Int32))
def cmr102 : M := mset cmr101 82 (upd (cmr101 82) (Int32.toNatClampNeg (101 : Int32)) (32 : Int32))
def cmr103 : M := mset cmr102 82 (upd (cmr102 82) (Int32.toNatClampNeg (102 : Int32)) (32 : Int32))
def cmr104 : M := mset cmr103 82 (upd (cmr103 82) (Int32.toNatClampNeg (103 : Int32)) (32 : Int32))
def cmr105 : M := mset cmr104 82 (upd (cmr104 82) (Int32.toNatClampNeg (104 : Int32)) (110 : Int32))
def cmr106 : M := mset cmr105 82 (upd (cmr105 82) (Int32.toNatClampNeg (105 : Int32)) (105 : Int32))
def cmr107 : M := mset cmr106 82 (upd (cmr106 82) (Int32.toNatClampNeg (106 : Int32)) (103 : Int32))
def cmr108 : M := mset cmr107 82 (upd (cmr107 82) (Int32.toNatClampNeg (107 : Int32)) (104 : Int32))
def cmr109 : M := mset cmr108 82 (upd (cmr108 82) (Int32.toNatClampNeg (108 : Int32)) (116 : Int32))
def cmr110 : M := mset cmr109 82 (upd (cmr109 82) (Int32.toNatClampNeg (109 : Int32)) (32 : Int32))
def cmr111 : M := mset cmr110 82 (upd (cmr110 82) (Int32.toNatClampNeg (110 : Int32)) (32 : Int32))
def cmr112 : M := mset cmr111 82 (upd (cmr111 82) (Int32.toNatClampNeg (111 : Int32)) (32 : Int32))
def cmr113 : M := mset cmr112 82 (upd (cmr112 82) (Int32.toNatClampNeg (112 : Int32)) (103 : Int32))
def cmr114 : M := mset cmr113 82 (upd (cmr113 82) (Int32.toNatClampNeg (113 : Int32)) (114 : Int32))
def cmr115 : M := mset cmr114 82 (upd (cmr114 82) (Int32.toNatClampNeg (114 : Int32)) (101 : Int32))
def cmr116 : M := mset cmr115 82 (upd (cmr115 82) (Int32.toNatClampNeg (115 : Int32)) (101 : Int32))
def cmr117 : M := mset cmr116 82 (upd (cmr116 82) (Int32.toNatClampNeg (116 : Int32)) (100 : Int32))
def cmr118 : M := mset cmr117 82 (upd (cmr117 82) (Int32.toNatClampNeg (117 : Int32)) (32 : Int32))
def cmr119 : M := mset cmr118 82 (upd (cmr118 82) (Int32.toNatClampNeg (118 : Int32)) (32 : Int32))
def cmr120 : M := mset cmr119 82 (upd (cmr119 82) (Int32.toNatClampNeg (119 : Int32)) (32 : Int32))
def cmr121 : M := mset cmr120 82 (upd (cmr120 82) (Int32.toNatClampNeg (120 : Int32)) (118 : Int32))
def cmr122 : M := mset cmr121 82 (upd (cmr121 82) (Int32.toNatClampNeg (121 : Int32)) (111 : Int32))
def cmr123 : M := mset cmr122 82 (upd (cmr122 82) (Int32.toNatClampNeg (122 : Int32)) (116 : Int32))
def cmr124 : M := mset cmr123 82 (upd (cmr123 82) (Int32.toNatClampNeg (123 : Int32)) (101 : Int32))
def cmr125 : M := mset cmr124 82 (upd (cmr124 82) (Int32.toNatClampNeg (124 : Int32)) (115 : Int32))
def cmr126 : M := mset cmr125 82 (upd (cmr125 82) (Int32.toNatClampNeg (125 : Int32)) (32 : Int32))
def cmr127 : M := mset cmr126 82 (upd (cmr126 82) (Int32.toNatClampNeg (126 : Int32)) (32 : Int32))
def cmr128 : M := mset cmr127 82 (upd (cmr127 82) (Int32.toNatClampNeg (127 : Int32)) (32 : Int32))
def cmr129 : M := mset cmr128 82 (upd (cmr128 82) (Int32.toNatClampNeg (128 : Int32)) (108 : Int32))
def cmr130 : M := mset cmr129 82 (upd (cmr129 82) (Int32.toNatClampNeg (129 : Int32)) (105 : Int32))
def cmr131 : M := mset cmr130 82 (upd (cmr130 82) (Int32.toNatClampNeg (130 : Int32)) (103 : Int32))
def cmr132 : M := mset cmr131 82 (upd (cmr131 82) (Int32.toNatClampNeg (131 : Int32)) (104 : Int32))
def cmr133 : M := mset cmr132 82 (upd (cmr132 82) (Int32.toNatClampNeg (132 : Int32)) (116 : Int32))
def cmr134 : M := mset cmr133 82 (upd (cmr133 82) (Int32.toNatClampNeg (133 : Int32)) (32 : Int32))
def cmr135 : M := mset cmr134 82 (upd (cmr134 82) (Int32.toNatClampNeg (134 : Int32)) (32 : Int32))
def cmr136 : M := mset cmr135 82 (upd (cmr135 82) (Int32.toNatClampNeg (135 : Int32)) (32 : Int32))
def cmr137 : M := mset cmr136 82 (upd (cmr136 82) (Int32.toNatClampNeg (136 : Int32)) (110 : Int32))
def cmr138 : M := mset cmr137 82 (upd (cmr137 82) (Int32.toNatClampNeg (137 : Int32)) (117 : Int32))
def cmr139 : M := mset cmr138 82 (upd (cmr138 82) (Int32.toNatClampNeg (138 : Int32)) (109 : Int32))
def cmr140 : M := mset cmr139 82 (upd (cmr139 82) (Int32.toNatClampNeg (139 : Int32)) (98 : Int32))
def cmr141 : M := mset cmr140 82 (upd (cmr140 82) (Int32.toNatClampNeg (140 : Int32)) (101 : Int32))
def cmr142 : M := mset cmr141 82 (upd (cmr141 82) (Int32.toNatClampNeg (141 : Int32)) (114 : Int32))
def cmr143 : M := mset cmr142 82 (upd (cmr142 82) (Int32.toNatClampNeg (142 : Int32)) (32 : Int32))
def cmr144 : M := mset cmr143 82 (upd (cmr143 82) (Int32.toNatClampNeg (143 : Int32)) (32 : Int32))
def cwr13 : CW := [(0, .inl (11, [some (some 1), some (some 2), none, some (some 7), some (some 8), some (some 50), none, some (some 60), some (some 61), some (some 55), some (some 62), some (some 63), some (some 9)])), (1, .inl (0, [none, none, none, none, none, none, none, none, none, some (some 10), some (some 11), some (some 12), some (some 13), some (some 14), some (some 15), some (some 16), some (some 3), some (some 4), some (some 17)])), (10, .inr (.inl (0, 6))), (11, .inr (.inl (0, 6))), (12, .inr (.inl (0, 6))), (13, .inr (.inl (0, 6))), (14, .inr (.inl (0, 16))), (15, .inr (.inl (0, 6))), (16, .inr (.inl (0, 6))), (3, .inl (7, [none, some (some 26), some (some 27), some (some 28), some (some 29), none])), (26, .inr (.inl (0, 8))), (27, .inr (.inl (0, 8))), (28, .inr (.inl (0, 8))), (29, .inr (.inl (0, 200))), (4, .inl (6, [none, some (some 30), some (some 31), some (some 32), some (some 33)])), (30, .inr (.inl (0, 6))), (31, .inr (.inl (0, 6))), (32, .inr (.inl (0, 6))), (33, .inr (.inl (0, 6))), (17, .inr (.inr (3, [some 64, some 65, some 66, some 67, some 68, some 69]))), (64, .inl (5, [])), (65, .inl (10, [])), (66, .inl (8, [])), (67, .inl (1, [])), (68, .inl (3, [])), (69, .inl (4, [])), (2, .inl (0, [none, none, none, none, none, none, none, none, none, some (some 18), some (some 19), some (some 20), some (some 21), some (some 22), some (some 23), some (some 24), some (some 5), some (some 6), some (some 25)])), (18, .inr (.inl (0, 6))), (19, .inr (.inl (0, 6))), (20, .inr (.inl (0, 6))), (21, .inr (.inl (0, 6))), (22, .inr (.inl (0, 16))), (23, .inr (.inl (0, 6))), (24, .inr (.inl (0, 6))), (5, .inl (7, [none, some (some 34), some (some 35), some (some 36), some (some 37), none])), (34, .inr (.inl (0, 8))), (35, .inr (.inl (0, 8))), (36, .inr (.inl (0, 8))), (37, .inr (.inl (0, 200))), (6, .inl (6, [none, some (some 38), some (some 39), some (some 40), some (some 41)])), (38, .inr (.inl (0, 6))), (39, .inr (.inl (0, 6))), (40, .inr (.inl (0, 6))), (41, .inr (.inl (0, 6))), (25, .inr (.inr (3, [some 70, some 71, some 72, some 73, some 74, some 75]))), (70, .inl (5, [])), (71, .inl (10, [])), (72, .inl (8, [])), (73, .inl (1, [])), (74, .inl (3, [])), (75, .inl (4, [])), (7, .inl (9, [none, some (some 46), some (some 47), some (some 48), none])), (46, .inr (.inl (0, 200))), (47, .inr (.inl (0, 201))), (48, .inr (.inl (0, 201))), (8, .inl (7, [none, some (some 42), some (some 43), some (some 44), some (some 45), none])), (42, .inr (.inl (0, 8))), (43, .inr (.inl (0, 8))), (44, .inr (.inl (0, 8))), (45, .inr (.inl (0, 200))), (50, .inr (.inr (2, [some 51, some 52, some 53, some 54]))), (51, .inr (.inl (0, 3))), (52, .inr (.inl (0, 3))), (53, .inr (.inl (0, 3))), (54, .inr (.inl (0, 3))), (60, .inr (.inl (0, 4))), (61, .inr (.inl (0, 4))), (55, .inr (.inr (2, [some 56, some 57, some 58, some 59]))), (56, .inr (.inl (0, 40))), (57, .inr (.inl (0, 40))), (58, .inr (.inl (0, 40))), (59, .inr (.inl (0, 40))), (62, .inr (.inl (0, 4))), (63, .inr (.inl (0, 4))), (9, .inl (2, [none, none, none, some (some 49), none])), (49, .inr (.inl (0, 30))), (76, .inl (12, [some (some 77), some (some 78), some (some 79), none, some (some 80), some (some 81), none, some (some 82), none, none, none, none, none, none, some none, some none, none, some none, some none, some none, none, none, none, none, some none, some none, none, some none, none, some none, some none, some none, some none, some none, some none, none, none, none])), (77, .inr (.inl (0, 315))), (78, .inr (.inl (0, 315))), (79, .inr (.inl (0, 67))), (80, .inr (.inl (0, 200))), (81, .inr (.inl (0, 200))), (82, .inr (.inl (1, 144)))]
def cwr14 : CW := [(0, .inl (11, [some (some 1), some (some 2), none, some (some 7), some (some 8), some (some 50), none, some (some 60), some (some 61), some (some 55), some (some 62), some (some 63), some (some 9)])), (1, .inl (0, [none, none, none, none, none, none, none, none, none, some (some 10), some (some 11), some (some 12), some (some 13), some (some 14), some (some 15), some (some 16), some (some 3), some (some 4), some (some 17)])), (10, .inr (.inl (0, 6))), (11, .inr (.inl (0, 6))), (12, .inr (.inl (0, 6))), (13, .inr (.inl (0, 6))), (14, .inr (.inl (0, 16))), (15, .inr (.inl (0, 6))), (16, .inr (.inl (0, 6))), (3, .inl (7, [none, some (some 26), some (some 27), some (some 28), some (some 29), none])), (26, .inr (.inl (0, 8))), (27, .inr (.inl (0, 8))), (28, .inr (.inl (0, 8))), (29, .inr (.inl (0, 200))), (4, .inl (6, [none, some (some 30), some (some 31), some (some 32), some (some 33)])), (30, .inr (.inl (0, 6))), (31, .inr (.inl (0, 6))), (32, .inr (.inl (0, 6))), (33, .inr (.inl (0, 6))), (17, .inr (.inr (3, [some 64, some 65, some 66, some 67, some 68, some 69]))), (64, .inl (5, [])), (65, .inl (10, [])), (66, .inl (8, [])), (67, .inl (1, [])), (68, .inl (3, [])), (69, .inl (4, [])), (2, .inl (0, [none, none, none, none, none, none, none, none, none, some (some 18), some (some 19), some (some 20), some (some 21), some (some 22), some (some 23), some (some 24), some (some 5), some (some 6), some (some 25)])), (18, .inr (.inl (0, 6))), (19, .inr (.inl (0, 6))), (20, .inr (.inl (0, 6))), (21, .inr (.inl (0, 6))), (22, .inr (.inl (0, 16))), (23, .inr (.inl (0, 6))), (24, .inr (.inl (0, 6))), (5, .inl (7, [none, some (some 34), some (some 35), some (some 36), some (some 37), none])), (34, .inr (.inl (0, 8))), (35, .inr (.inl (0, 8))), (36, .inr (.inl (0, 8))), (37, .inr (.inl (0, 200))), (6, .inl (6, [none, some (some 38), some (some 39), some (some 40), some (some 41)])), (38, .inr (.inl (0, 6))), (39, .inr (.inl (0, 6))), (40, .inr (.inl (0, 6))), (41, .inr (.inl (0, 6))), (25, .inr (.inr (3, [some 70, some 71, some 72, some 73, some 74, some 75]))), (70, .inl (5, [])), (71, .inl (10, [])), (72, .inl (8, [])), (73, .inl (1, [])), (74, .inl (3, [])), (75, .inl (4, [])), (7, .inl (9, [none, some (some 46), some (some 47), some (some 48), none])), (46, .inr (.inl (0, 200))), (47, .inr (.inl (0, 201))), (48, .inr (.inl (0, 201))), (8, .inl (7, [none, some (some 42), some (some 43), some (some 44), some (some 45), none])), (42, .inr (.inl (0, 8))), (43, .inr (.inl (0, 8))), (44, .inr (.inl (0, 8))), (45, .inr (.inl (0, 200))), (50, .inr (.inr (2, [some 51, some 52, some 53, some 54]))), (51, .inr (.inl (0, 3))), (52, .inr (.inl (0, 3))), (53, .inr (.inl (0, 3))), (54, .inr (.inl (0, 3))), (60, .inr (.inl (0, 4))), (61, .inr (.inl (0, 4))), (55, .inr (.inr (2, [some 56, some 57, some 58, some 59]))), (56, .inr (.inl (0, 40))), (57, .inr (.inl (0, 40))), (58, .inr (.inl (0, 40))), (59, .inr (.inl (0, 40))), (62, .inr (.inl (0, 4))), (63, .inr (.inl (0, 4))), (9, .inl (2, [none, none, none, some (some 49), none])), (49, .inr (.inl (0, 30))), (76, .inl (12, [some (some 77), some (some 78), some (some 79), none, some (some 80), some (some 81), none, some (some 82), none, none, none, none, none, none, some none, some none, none, some none, some none, some none, none, none, none, none, some none, some none, none, some none, none, some none, some none, some none, some none, some none, some none, none, none, none])), (77, .inr (.inl (0, 315))), (78, .inr (.inl (0, 315))), (79, .inr (.inl (0, 67))), (80, .inr (.inl (0, 200))), (81, .inr (.inl (0, 200))), (82, .inr (.inl (1, 144))), (83, .inr (.inl (0, 200)))]
def cwr15 : CW := [(0, .inl (11, [some (some 1), some (some 2), none, some (some 7), some (some 8), some (some 50), none, some (some 60), some (some 61), some (some 55), some (some 62), some (some 63), some (some 9)])), (1, .inl (0, [none, none, none, none, none, none, none, none, none, some (some 10), some (some 11), some (some 12), some (some 13), some (some 14), some (some 15), some (some 16), some (some 3), some (some 4), some (some 17)])), (10, .inr (.inl (0, 6))), (11, .inr (.inl (0, 6))), (12, .inr (.inl (0, 6))), (13, .inr (.inl (0, 6))), (14, .inr (.inl (0, 16))), (15, .inr (.inl (0, 6))), (16, .inr (.inl (0, 6))), (3, .inl (7, [none, some (some 26), some (some 27), some (some 28), some (some 29), none])), (26, .inr (.inl (0, 8))), (27, .inr (.inl (0, 8))), (28, .inr (.inl (0, 8))), (29, .inr (.inl (0, 200))), (4, .inl (6, [none, some (some 30), some (some 31), some (some 32), some (some 33)])), (30, .inr (.inl (0, 6))), (31, .inr (.inl (0, 6))), (32, .inr (.inl (0, 6))), (33, .inr (.inl (0, 6))), (17, .inr (.inr (3, [some 64, some 65, some 66, some 67, some 68, some 69]))), (64, .inl (5, [])), (65, .inl (10, [])), (66, .inl (8, [])), (67, .inl (1, [])), (68, .inl (3, [])), (69, .inl (4, [])), (2, .inl (0, [none, none, none, none, none, none, none, none, none, some (some 18), some (some 19), some (some 20), some (some 21), some (some 22), some (some 23), some (some 24), some (some 5), some (some 6), some (some 25)])), (18, .inr (.inl (0, 6))), (19, .inr (.inl (0, 6))), (20, .inr (.inl (0, 6))), (21, .inr (.inl (0, 6))), (22, .inr (.inl (0, 16))), (23, .inr (.inl (0, 6))), (24, .inr (.inl (0, 6))), (5, .inl (7, [none, some (some 34), some (some 35), some (some 36), some (some 37), none])), (34, .inr (.inl (0, 8))), (35, .inr (.inl (0, 8))), (36, .inr (.inl (0, 8))), (37, .inr (.inl (0, 200))), (6, .inl (6, [none, some (some 38), some (some 39), some (some 40), some (some 41)])), (38, .inr (.inl (0, 6))), (39, .inr (.inl (0, 6))), (40, .inr (.inl (0, 6))), (41, .inr (.inl (0, 6))), (25, .inr (.inr (3, [some 70, some 71, some 72, some 73, some 74, some 75]))), (70, .inl (5, [])), (71, .inl (10, [])), (72, .inl (8, [])), (73, .inl (1, [])), (74, .inl (3, [])), (75, .inl (4, [])), (7, .inl (9, [none, some (some 46), some (some 47), some (some 48), none])), (46, .inr (.inl (0, 200))), (47, .inr (.inl (0, 201))), (48, .inr (.inl (0, 201))), (8, .inl (7, [none, some (some 42), some (some 43), some (some 44), some (some 45), none])), (42, .inr (.inl (0, 8))), (43, .inr (.inl (0, 8))), (44, .inr (.inl (0, 8))), (45, .inr (.inl (0, 200))), (50, .inr (.inr (2, [some 51, some 52, some 53, some 54]))), (51, .inr (.inl (0, 3))), (52, .inr (.inl (0, 3))), (53, .inr (.inl (0, 3))), (54, .inr (.inl (0, 3))), (60, .inr (.inl (0, 4))), (61, .inr (.inl (0, 4))), (55, .inr (.inr (2, [some 56, some 57, some 58, some 59]))), (56, .inr (.inl (0, 40))), (57, .inr (.inl (0, 40))), (58, .inr (.inl (0, 40))), (59, .inr (.inl (0, 40))), (62, .inr (.inl (0, 4))), (63, .inr (.inl (0, 4))), (9, .inl (2, [none, none, none, some (some 49), none])), (49, .inr (.inl (0, 30))), (76, .inl (12, [some (some 77), some (some 78), some (some 79), none, some (some 80), some (some 81), none, some (some 82), none, none, none, none, none, none, some (some 83), some none, none, some none, some none, some none, none, none, none, none, some none, some none, none, some none, none, some none, some none, some none, some none, some none, some none, none, none, none])), (77, .inr (.inl (0, 315))), (78, .inr (.inl (0, 315))), (79, .inr (.inl (0, 67))), (80, .inr (.inl (0, 200))), (81, .inr (.inl (0, 200))), (82, .inr (.inl (1, 144))), (83, .inr (.inl (0, 200)))]
def cwr16 : CW := [(0, .inl (11, [some (some 1), some (some 2), none, some (some 7), some (some 8), some (some 50), none, some (some 60), some (some 61), some (some 55), some (some 62), some (some 63), some (some 9)])), (1, .inl (0, [none, none, none, none, none, none, none, none, none, some (some 10), some (some 11), some (some 12), some (some 13), some (some 14), some (some 15), some (some 16), some (some 3), some (some 4), some (some 17)])), (10, .inr (.inl (0, 6))), (11, .inr (.inl (0, 6))), (12, .inr (.inl (0, 6))), (13, .inr (.inl (0, 6))), (14, .inr (.inl (0, 16))), (15, .inr (.inl (0, 6))), (16, .inr (.inl (0, 6))), (3, .inl (7, [none, some (some 26), some (some 27), some (some 28), some (some 29), none])), (26, .inr (.inl (0, 8))), (27, .inr (.inl (0, 8))), (28, .inr (.inl (0, 8))), (29, .inr (.inl (0, 200))), (4, .inl (6, [none, some (some 30), some (some 31), some (some 32), some (some 33)])), (30, .inr (.inl (0, 6))), (31, .inr (.inl (0, 6))), (32, .inr (.inl (0, 6))), (33, .inr (.inl (0, 6))), (17, .inr (.inr (3, [some 64, some 65, some 66, some 67, some 68, some 69]))), (64, .inl (5, [])), (65, .inl (10, [])), (66, .inl (8, [])), (67, .inl (1, [])), (68, .inl (3, [])), (69, .inl (4, [])), (2, .inl (0, [none, none, none, none, none, none, none, none, none, some (some 18), some (some 19), some (some 20), some (some 21), some (some 22), some (some 23), some (some 24), some (some 5), some (some 6), some (some 25)])), (18, .inr (.inl (0, 6))), (19, .inr (.inl (0, 6))), (20, .inr (.inl (0, 6))), (21, .inr (.inl (0, 6))), (22, .inr (.inl (0, 16))), (23, .inr (.inl (0, 6))), (24, .inr (.inl (0, 6))), (5, .inl (7, [none, some (some 34), some (some 35), some (some 36), some (some 37), none])), (34, .inr (.inl (0, 8))), (35, .inr (.inl (0, 8))), (36, .inr (.inl (0, 8))), (37, .inr (.inl (0, 200))), (6, .inl (6, [none, some (some 38), some (some 39), some (some 40), some (some 41)])), (38, .inr (.inl (0, 6))), (39, .inr (.inl (0, 6))), (40, .inr (.inl (0, 6))), (41, .inr (.inl (0, 6))), (25, .inr (.inr (3, [some 70, some 71, some 72, some 73, some 74, some 75]))), (70, .inl (5, [])), (71, .inl (10, [])), (72, .inl (8, [])), (73, .inl (1, [])), (74, .inl (3, [])), (75, .inl (4, [])), (7, .inl (9, [none, some (some 46), some (some 47), some (some 48), none])), (46, .inr (.inl (0, 200))), (47, .inr (.inl (0, 201))), (48, .inr (.inl (0, 201))), (8, .inl (7, [none, some (some 42), some (some 43), some (some 44), some (some 45), none])), (42, .inr (.inl (0, 8))), (43, .inr (.inl (0, 8))), (44, .inr (.inl (0, 8))), (45, .inr (.inl (0, 200))), (50, .inr (.inr (2, [some 51, some 52, some 53, some 54]))), (51, .inr (.inl (0, 3))), (52, .inr (.inl (0, 3))), (53, .inr (.inl (0, 3))), (54, .inr (.inl (0, 3))), (60, .inr (.inl (0, 4))), (61, .inr (.inl (0, 4))), (55, .inr (.inr (2, [some 56, some 57, some 58, some 59]))), (56, .inr (.inl (0, 40))), (57, .inr (.inl (0, 40))), (58, .inr (.inl (0, 40))), (59, .inr (.inl (0, 40))), (62, .inr (.inl (0, 4))), (63, .inr (.inl (0, 4))), (9, .inl (2, [none, none, none, some (some 49), none])), (49, .inr (.inl (0, 30))), (76, .inl (12, [some (some 77), some (some 78), some (some 79), none, some (some 80), some (some 81), none, some (some 82), none, none, none, none, none, none, some (some 83), some none, none, some none, some none, some none, none, none, none, none, some none, some none, none, some none, none, some none, some none, some none, some none, some none, some none, none, none, none])), (77, .inr (.inl (0, 315))), (78, .inr (.inl (0, 315))), (79, .inr (.inl (0, 67))), (80, .inr (.inl (0, 200))), (81, .inr (.inl (0, 200))), (82, .inr (.inl (1, 144))), (83, .inr (.inl (0, 200))), (84, .inr (.inl (0, 24)))]
def cwr17 : CW := [(0, .inl (11, [some (some 1), some (some 2), none, some (some 7), some (some 8), some (some 50), none, some (some 60), some (some 61), some (some 55), some (some 62), some (some 63), some (some 9)])), (1, .inl (0, [none, none, none, none, none, none, none, none, none, some (some 10), some (some 11), some (some 12), some (some 13), some (some 14), some (some 15), some (some 16), some (some 3), some (some 4), some (some 17)])), (10, .inr (.inl (0, 6))), (11, .inr (.inl (0, 6))), (12, .inr (.inl (0, 6))), (13, .inr (.inl (0, 6))), (14, .inr (.inl (0, 16))), (15, .inr (.inl (0, 6))), (16, .inr (.inl (0, 6))), (3, .inl (7, [none, some (some 26), some (some 27), some (some 28), some (some 29), none])), (26, .inr (.inl (0, 8))), (27, .inr (.inl (0, 8))), (28, .inr (.inl (0, 8))), (29, .inr (.inl (0, 200))), (4, .inl (6, [none, some (some 30), some (some 31), some (some 32), some (some 33)])), (30, .inr (.inl (0, 6))), (31, .inr (.inl (0, 6))), (32, .inr (.inl (0, 6))), (33, .inr (.inl (0, 6))), (17, .inr (.inr (3, [some 64, some 65, some 66, some 67, some 68, some 69]))), (64, .inl (5, [])), (65, .inl (10, [])), (66, .inl (8, [])), (67, .inl (1, [])), (68, .inl (3, [])), (69, .inl (4, [])), (2, .inl (0, [none, none, none, none, none, none, none, none, none, some (some 18), some (some 19), some (some 20), some (some 21), some (some 22), some (some 23), some (some 24), some (some 5), some (some 6), some (some 25)])), (18, .inr (.inl (0, 6))), (19, .inr (.inl (0, 6))), (20, .inr (.inl (0, 6))), (21, .inr (.inl (0, 6))), (22, .inr (.inl (0, 16))), (23, .inr (.inl (0, 6))), (24, .inr (.inl (0, 6))), (5, .inl (7, [none, some (some 34), some (some 35), some (some 36), some (some 37), none])), (34, .inr (.inl (0, 8))), (35, .inr (.inl (0, 8))), (36, .inr (.inl (0, 8))), (37, .inr (.inl (0, 200))), (6, .inl (6, [none, some (some 38), some (some 39), some (some 40), some (some 41)])), (38, .inr (.inl (0, 6))), (39, .inr (.inl (0, 6))), (40, .inr (.inl (0, 6))), (41, .inr (.inl (0, 6))), (25, .inr (.inr (3, [some 70, some 71, some 72, some 73, some 74, some 75]))), (70, .inl (5, [])), (71, .inl (10, [])), (72, .inl (8, [])), (73, .inl (1, [])), (74, .inl (3, [])), (75, .inl (4, [])), (7, .inl (9, [none, some (some 46), some (some 47), some (some 48), none])), (46, .inr (.inl (0, 200))), (47, .inr (.inl (0, 201))), (48, .inr (.inl (0, 201))), (8, .inl (7, [none, some (some 42), some (some 43), some (some 44), some (some 45), none])), (42, .inr (.inl (0, 8))), (43, .inr (.inl (0, 8))), (44, .inr (.inl (0, 8))), (45, .inr (.inl (0, 200))), (50, .inr (.inr (2, [some 51, some 52, some 53, some 54]))), (51, .inr (.inl (0, 3))), (52, .inr (.inl (0, 3))), (53, .inr (.inl (0, 3))), (54, .inr (.inl (0, 3))), (60, .inr (.inl (0, 4))), (61, .inr (.inl (0, 4))), (55, .inr (.inr (2, [some 56, some 57, some 58, some 59]))), (56, .inr (.inl (0, 40))), (57, .inr (.inl (0, 40))), (58, .inr (.inl (0, 40))), (59, .inr (.inl (0, 40))), (62, .inr (.inl (0, 4))), (63, .inr (.inl (0, 4))), (9, .inl (2, [none, none, none, some (some 49), none])), (49, .inr (.inl (0, 30))), (76, .inl (12, [some (some 77), some (some 78), some (some 79), none, some (some 80), some (some 81), none, some (some 82), none, none, none, none, none, none, some (some 83), some (some 84), none, some none, some none, some none, none, none, none, none, some none, some none, none, some none, none, some none, some none, some none, some none, some none, some none, none, none, none])), (77, .inr (.inl (0, 315))), (78, .inr (.inl (0, 315))), (79, .inr (.inl (0, 67))), (80, .inr (.inl (0, 200))), (81, .inr (.inl (0, 200))), (82, .inr (.inl (1, 144))), (83, .inr (.inl (0, 200))), (84, .inr (.inl (0, 24)))]
def cwr18 : CW := [(0, .inl (11, [some (some 1), some (some 2), none, some (some 7), some (some 8), some (some 50), none, some (some 60), some (some 61), some (some 55), some (some 62), some (some 63), some (some 9)])), (1, .inl (0, [none, none, none, none, none, none, none, none, none, some (some 10), some (some 11), some (some 12), some (some 13), some (some 14), some (some 15), some (some 16), some (some 3), some (some 4), some (some 17)])), (10, .inr (.inl (0, 6))), (11, .inr (.inl (0, 6))), (12, .inr (.inl (0, 6))), (13, .inr (.inl (0, 6))), (14, .inr (.inl (0, 16))), (15, .inr (.inl (0, 6))), (16, .inr (.inl (0, 6))), (3, .inl (7, [none, some (some 26), some (some 27), some (some 28), some (some 29), none])), (26, .inr (.inl (0, 8))), (27, .inr (.inl (0, 8))), (28, .inr (.inl (0, 8))), (29, .inr (.inl (0, 200))), (4, .inl (6, [none, some (some 30), some (some 31), some (some 32), some (some 33)])), (30, .inr (.inl (0, 6))), (31, .inr (.inl (0, 6))), (32, .inr (.inl (0, 6))), (33, .inr (.inl (0, 6))), (17, .inr (.inr (3, [some 64, some 65, some 66, some 67, some 68, some 69]))), (64, .inl (5, [])), (65, .inl (10, [])), (66, .inl (8, [])), (67, .inl (1, [])), (68, .inl (3, [])), (69, .inl (4, [])), (2, .inl (0, [none, none, none, none, none, none, none, none, none, some (some 18), some (some 19), some (some 20), some (some 21), some (some 22), some (some 23), some (some 24), some (some 5), some (some 6), some (some 25)])), (18, .inr (.inl (0, 6))), (19, .inr (.inl (0, 6))), (20, .inr (.inl (0, 6))), (21, .inr (.inl (0, 6))), (22, .inr (.inl (0, 16))), (23, .inr (.inl (0, 6))), (24, .inr (.inl (0, 6))), (5, .inl (7, [none, some (some 34), some (some 35), some (some 36), some (some 37), none])), (34, .inr (.inl (0, 8))), (35, .inr (.inl (0, 8))), (36, .inr (.inl (0, 8))), (37, .inr (.inl (0, 200))), (6, .inl (6, [none, some (some 38), some (some 39), some (some 40), some (some 41)])), (38, .inr (.inl (0, 6))), (39, .inr (.inl (0, 6))), (40, .inr (.inl (0, 6))), (41, .inr (.inl (0, 6))), (25, .inr (.inr (3, [some 70, some 71, some 72, some 73, some 74, some 75]))), (70, .inl (5, [])), (71, .inl (10, [])), (72, .inl (8, [])), (73, .inl (1, [])), (74, .inl (3, [])), (75, .inl (4, [])), (7, .inl (9, [none, some (some 46), some (some 47), some (some 48), none])), (46, .inr (.inl (0, 200))), (47, .inr (.inl (0, 201))), (48, .inr (.inl (0, 201))), (8, .inl (7, [none, some (some 42), some (some 43), some (some 44), some (some 45), none])), (42, .inr (.inl (0, 8))), (43, .inr (.inl (0, 8))), (44, .inr (.inl (0, 8))), (45, .inr (.inl (0, 200))), (50, .inr (.inr (2, [some 51, some 52, some 53, some 54]))), (51, .inr (.inl (0, 3))), (52, .inr (.inl (0, 3))), (53, .inr (.inl (0, 3))), (54, .inr (.inl (0, 3))), (60, .inr (.inl (0, 4))), (61, .inr (.inl (0, 4))), (55, .inr (.inr (2, [some 56, some 57, some 58, some 59]))), (56, .inr (.inl (0, 40))), (57, .inr (.inl (0, 40))), (58, .inr (.inl (0, 40))), (59, .inr (.inl (0, 40))), (62, .inr (.inl (0, 4))), (63, .inr (.inl (0, 4))), (9, .inl (2, [none, none, none, some (some 49), none])), (49, .inr (.inl (0, 30))), (76, .inl (12, [some (some 77), some (some 78), some (some 79), none, some (some 80), some (some 81), none, some (some 82), none, none, none, none, none, none, some (some 83), some (some 84), none, some none, some none, some none, none, none, none, none, some none, some none, none, some none, none, some none, some none, some none, some none, some none, some none, none, none, none])), (77, .inr (.inl (0, 315))), (78, .inr (.inl (0, 315))), (79, .inr (.inl (0, 67))), (80, .inr (.inl (0, 200))), (81, .inr (.inl (0, 200))), (82, .inr (.inl (1, 144))), (83, .inr (.inl (0, 200))), (84, .inr (.inl (0, 24))), (85, .inr (.inl (0, 335)))]
def cwr19 : CW := [(0, .inl (11, [some (some 1), some (some 2), none, some (some 7), some (some 8), some (some 50), none, some (some 60), some (some 61), some (some 55), some (some 62), some (some 63), some (some 9)])), (1, .inl (0, [none, none, none, none, none, none, none, none, none, some (some 10), some (some 11), some (some 12), some (some 13), some (some 14), some (some 15), some (some 16), some (some 3), some (some 4), some (some 17)])), (10, .inr (.inl (0, 6))), (11, .inr (.inl (0, 6))), (12, .inr (.inl (0, 6))), (13, .inr (.inl (0, 6))), (14, .inr (.inl (0, 16))), (15, .inr (.inl (0, 6))), (16, .inr (.inl (0, 6))), (3, .inl (7, [none, some (some 26), some (some 27), some (some 28), some (some 29), none])), (26, .inr (.inl (0, 8))), (27, .inr (.inl (0, 8))), (28, .inr (.inl (0, 8))), (29, .inr (.inl (0, 200))), (4, .inl (6, [none, some (some 30), some (some 31), some (some 32), some (some 33)])), (30, .inr (.inl (0, 6))), (31, .inr (.inl (0, 6))), (32, .inr (.inl (0, 6))), (33, .inr (.inl (0, 6))), (17, .inr (.inr (3, [some 64, some 65, some 66, some 67, some 68, some 69]))), (64, .inl (5, [])), (65, .inl (10, [])), (66, .inl (8, [])), (67, .inl (1, [])), (68, .inl (3, [])), (69, .inl (4, [])), (2, .inl (0, [none, none, none, none, none, none, none, none, none, some (some 18), some (some 19), some (some 20), some (some 21), some (some 22), some (some 23), some (some 24), some (some 5), some (some 6), some (some 25)])), (18, .inr (.inl (0, 6))), (19, .inr (.inl (0, 6))), (20, .inr (.inl (0, 6))), (21, .inr (.inl (0, 6))), (22, .inr (.inl (0, 16))), (23, .inr (.inl (0, 6))), (24, .inr (.inl (0, 6))), (5, .inl (7, [none, some (some 34), some (some 35), some (some 36), some (some 37), none])), (34, .inr (.inl (0, 8))), (35, .inr (.inl (0, 8))), (36, .inr (.inl (0, 8))), (37, .inr (.inl (0, 200))), (6, .inl (6, [none, some (some 38), some (some 39), some (some 40), some (some 41)])), (38, .inr (.inl (0, 6))), (39, .inr (.inl (0, 6))), (40, .inr (.inl (0, 6))), (41, .inr (.inl (0, 6))), (25, .inr (.inr (3, [some 70, some 71, some 72, some 73, some 74, some 75]))), (70, .inl (5, [])), (71, .inl (10, [])), (72, .inl (8, [])), (73, .inl (1, [])), (74, .inl (3, [])), (75, .inl (4, [])), (7, .inl (9, [none, some (some 46), some (some 47), some (some 48), none])), (46, .inr (.inl (0, 200))), (47, .inr (.inl (0, 201))), (48, .inr (.inl (0, 201))), (8, .inl (7, [none, some (some 42), some (some 43), some (some 44), some (some 45), none])), (42, .inr (.inl (0, 8))), (43, .inr (.inl (0, 8))), (44, .inr (.inl (0, 8))), (45, .inr (.inl (0, 200))), (50, .inr (.inr (2, [some 51, some 52, some 53, some 54]))), (51, .inr (.inl (0, 3))), (52, .inr (.inl (0, 3))), (53, .inr (.inl (0, 3))), (54, .inr (.inl (0, 3))), (60, .inr (.inl (0, 4))), (61, .inr (.inl (0, 4))), (55, .inr (.inr (2, [some 56, some 57, some 58, some 59]))), (56, .inr (.inl (0, 40))), (57, .inr (.inl (0, 40))), (58, .inr (.inl (0, 40))), (59, .inr (.inl (0, 40))), (62, .inr (.inl (0, 4))), (63, .inr (.inl (0, 4))), (9, .inl (2, [none, none, none, some (some 49), none])), (49, .inr (.inl (0, 30))), (76, .inl (12, [some (some 77), some (some 78), some (some 79), none, some (some 80), some (some 81), none, some (some 82), none, none, none, none, none, none, some (some 83), some (some 84), none, some (some 85), some none, some none, none, none, none, none, some none, some none, none, some none, none, some none, some none, some none, some none, some none, some none, none, none, none])), (77, .inr (.inl (0, 315))), (78, .inr (.inl (0, 315))), (79, .inr (.inl (0, 67))), (80, .inr (.inl (0, 200))), (81, .inr (.inl (0, 200))), (82, .inr (.inl (1, 144))), (83, .inr (.inl (0, 200))), (84, .inr (.inl (0, 24))), (85, .inr (.inl (0, 335)))]
def cwr20 : CW := [(0, .inl (11, [some (some 1), some (some 2), none, some (some 7), some (some 8), some (some 50), none, some (some 60), some (some 61), some (some 55), some (some 62), some (some 63), some (some 9)])), (1, .inl (0, [none, none, none, none, none, none, none, none, none, some (some 10), some (some 11), some (some 12), some (some 13), some (some 14), some (some 15), some (some 16), some (some 3), some (some 4), some (some 17)])), (10, .inr (.inl (0, 6))), (11, .inr (.inl (0, 6))), (12, .inr (.inl (0, 6))), (13, .inr (.inl (0, 6))), (14, .inr (.inl (0, 16))), (15, .inr (.inl (0, 6))), (16, .inr (.inl (0, 6))), (3, .inl (7, [none, some (some 26), some (some 27), some (some 28), some (some 29), none])), (26, .inr (.inl (0, 8))), (27, .inr (.inl (0, 8))), (28, .inr (.inl (0, 8))), (29, .inr (.inl (0, 200))), (4, .inl (6, [none, some (some 30), some (some 31), some (some 32), some (some 33)])), (30, .inr (.inl (0, 6))), (31, .inr (.inl (0, 6))), (32, .inr (.inl (0, 6))), (33, .inr (.inl (0, 6))), (17, .inr (.inr (3, [some 64, some 65, some 66, some 67, some 68, some 69]))), (64, .inl (5, [])), (65, .inl (10, [])), (66, .inl (8, [])), (67, .inl (1, [])), (68, .inl (3, [])), (69, .inl (4, [])), (2, .inl (0, [none, none, none, none, none, none, none, none, none, some (some 18), some (some 19), some (some 20), some (some 21), some (some 22), some (some 23), some (some 24), some (some 5), some (some 6), some (some 25)])), (18, .inr (.inl (0, 6))), (19, .inr (.inl (0, 6))), (20, .inr (.inl (0, 6))), (21, .inr (.inl (0, 6))), (22, .inr (.inl (0, 16))), (23, .inr (.inl (0, 6))), (24, .inr (.inl (0, 6))), (5, .inl (7, [none, some (some 34), some (some 35), some (some 36), some (some 37), none])), (34, .inr (.inl (0, 8))), (35, .inr (.inl (0, 8))), (36, .inr (.inl (0, 8))), (37, .inr (.inl (0, 200))), (6, .inl (6, [none, some (some 38), some (some 39), some (some 40), some (some 41)])), (38, .inr (.inl (0, 6))), (39, .inr (.inl (0, 6))), (40, .inr (.inl (0, 6))), (41, .inr (.inl (0, 6))), (25, .inr (.inr (3, [some 70, some 71, some 72, some 73, some 74, some 75]))), (70, .inl (5, [])), (71, .inl (10, [])), (72, .inl (8, [])), (73, .inl (1, [])), (74, .inl (3, [])), (75, .inl (4, [])), (7, .inl (9, [none, some (some 46), some (some 47), some (some 48), none])), (46, .inr (.inl (0, 200))), (47, .inr (.inl (0, 201))), (48, .inr (.inl (0, 201))), (8, .inl (7, [none, some (some 42), some (some 43), some (some 44), some (some 45), none])), (42, .inr (.inl (0, 8))), (43, .inr (.inl (0, 8))), (44, .inr (.inl (0, 8))), (45, .inr (.inl (0, 200))), (50, .inr (.inr (2, [some 51, some 52, some 53, some 54]))), (51, .inr (.inl (0, 3))), (52, .inr (.inl (0, 3))), (53, .inr (.inl (0, 3))), (54, .inr (.inl (0, 3))), (60, .inr (.inl (0, 4))), (61, .inr (.inl (0, 4))), (55, .inr (.inr (2, [some 56, some 57, some 58, some 59]))), (56, .inr (.inl (0, 40))), (57, .inr (.inl (0, 40))), (58, .inr (.inl (0, 40))), (59, .inr (.inl (0, 40))), (62, .inr (.inl (0, 4))), (63, .inr (.inl (0, 4))), (9, .inl (2, [none, none, none, some (some 49), none])), (49, .inr (.inl (0, 30))), (76, .inl (12, [some (some 77), some (some 78), some (some 79), none, some (some 80), some (some 81), none, some (some 82), none, none, none, none, none, none, some (some 83), some (some 84), none, some (some 85), some none, some none, none, none, none, none, some none, some none, none, some none, none, some none, some none, some none, some none, some none, some none, none, none, none])), (77, .inr (.inl (0, 315))), (78, .inr (.inl (0, 315))), (79, .inr (.inl (0, 67))), (80, .inr (.inl (0, 200))), (81, .inr (.inl (0, 200))), (82, .inr (.inl (1, 144))), (83, .inr (.inl (0, 200))), (84, .inr (.inl (0, 24))), (85, .inr (.inl (0, 335))), (86, .inr (.inl (0, 4)))]
def cwr21 : CW := [(0, .inl (11, [some (some 1), some (some 2), none, some (some 7), some (some 8), some (some 50), none, some (some 60), some (some 61), some (some 55), some (some 62), some (some 63), some (some 9)])), (1, .inl (0, [none, none, none, none, none, none, none, none, none, some (some 10), some (some 11), some (some 12), some (some 13), some (some 14), some (some 15), some (some 16), some (some 3), some (some 4), some (some 17)])), (10, .inr (.inl (0, 6))), (11, .inr (.inl (0, 6))), (12, .inr (.inl (0, 6))), (13, .inr (.inl (0, 6))), (14, .inr (.inl (0, 16))), (15, .inr (.inl (0, 6))), (16, .inr (.inl (0, 6))), (3, .inl (7, [none, some (some 26), some (some 27), some (some 28), some (some 29), none])), (26, .inr (.inl (0, 8))), (27, .inr (.inl (0, 8))), (28, .inr (.inl (0, 8))), (29, .inr (.inl (0, 200))), (4, .inl (6, [none, some (some 30), some (some 31), some (some 32), some (some 33)])), (30, .inr (.inl (0, 6))), (31, .inr (.inl (0, 6))), (32, .inr (.inl (0, 6))), (33, .inr (.inl (0, 6))), (17, .inr (.inr (3, [some 64, some 65, some 66, some 67, some 68, some 69]))), (64, .inl (5, [])), (65, .inl (10, [])), (66, .inl (8, [])), (67, .inl (1, [])), (68, .inl (3, [])), (69, .inl (4, [])), (2, .inl (0, [none, none, none, none, none, none, none, none, none, some (some 18), some (some 19), some (some 20), some (some 21), some (some 22), some (some 23), some (some 24), some (some 5), some (some 6), some (some 25)])), (18, .inr (.inl (0, 6))), (19, .inr (.inl (0, 6))), (20, .inr (.inl (0, 6))), (21, .inr (.inl (0, 6))), (22, .inr (.inl (0, 16))), (23, .inr (.inl (0, 6))), (24, .inr (.inl (0, 6))), (5, .inl (7, [none, some (some 34), some (some 35), some (some 36), some (some 37), none])), (34, .inr (.inl (0, 8))), (35, .inr (.inl (0, 8))), (36, .inr (.inl (0, 8))), (37, .inr (.inl (0, 200))), (6, .inl (6, [none, some (some 38), some (some 39), some (some 40), some (some 41)])), (38, .inr (.inl (0, 6))), (39, .inr (.inl (0, 6))), (40, .inr (.inl (0, 6))), (41, .inr (.inl (0, 6))), (25, .inr (.inr (3, [some 70, some 71, some 72, some 73, some 74, some 75]))), (70, .inl (5, [])), (71, .inl (10, [])), (72, .inl (8, [])), (73, .inl (1, [])), (74, .inl (3, [])), (75, .inl (4, [])), (7, .inl (9, [none, some (some 46), some (some 47), some (some 48), none])), (46, .inr (.inl (0, 200))), (47, .inr (.inl (0, 201))), (48, .inr (.inl (0, 201))), (8, .inl (7, [none, some (some 42), some (some 43), some (some 44), some (some 45), none])), (42, .inr (.inl (0, 8))), (43, .inr (.inl (0, 8))), (44, .inr (.inl (0, 8))), (45, .inr (.inl (0, 200))), (50, .inr (.inr (2, [some 51, some 52, some 53, some 54]))), (51, .inr (.inl (0, 3))), (52, .inr (.inl (0, 3))), (53, .inr (.inl (0, 3))), (54, .inr (.inl (0, 3))), (60, .inr (.inl (0, 4))), (61, .inr (.inl (0, 4))), (55, .inr (.inr (2, [some 56, some 57, some 58, some 59]))), (56, .inr (.inl (0, 40))), (57, .inr (.inl (0, 40))), (58, .inr (.inl (0, 40))), (59, .inr (.inl (0, 40))), (62, .inr (.inl (0, 4))), (63, .inr (.inl (0, 4))), (9, .inl (2, [none, none, none, some (some 49), none])), (49, .inr (.inl (0, 30))), (76, .inl (12, [some (some 77), some (some 78), some (some 79), none, some (some 80), some (some 81), none, some (some 82), none, none, none, none, none, none, some (some 83), some (some 84), none, some (some 85), some (some 86), some none, none, none, none, none, some none, some none, none, some none, none, some none, some none, some none, some none, some none, some none, none, none, none])), (77, .inr (.inl (0, 315))), (78, .inr (.inl (0, 315))), (79, .inr (.inl (0, 67))), (80, .inr (.inl (0, 200))), (81, .inr (.inl (0, 200))), (82, .inr (.inl (1, 144))), (83, .inr (.inl (0, 200))), (84, .inr (.inl (0, 24))), (85, .inr (.inl (0, 335))), (86, .inr (.inl (0, 4)))]
def cwr22 : CW := [(0, .inl (11, [some (some 1), some (some 2), none, some (some 7), some (some 8), some (some 50), none, some (some 60), some (some 61), some (some 55), some (some 62), some (some 63), some (some 9)])), (1, .inl (0, [none, none, none, none, none, none, none, none, none, some (some 10), some (some 11), some (some 12), some (some 13), some (some 14), some (some 15), some (some 16), some (some 3), some (some 4), some (some 17)])), (10, .inr (.inl (0, 6))), (11, .inr (.inl (0, 6))), (12, .inr (.inl (0, 6))), (13, .inr (.inl (0, 6))), (14, .inr (.inl (0, 16))), (15, .inr (.inl (0, 6))), (16, .inr (.inl (0, 6))), (3, .inl (7, [none, some (some 26), some (some 27), some (some 28), some (some 29), none])), (26, .inr (.inl (0, 8))), (27, .inr (.inl (0, 8))), (28, .inr (.inl (0, 8))), (29, .inr (.inl (0, 200))), (4, .inl (6, [none, some (some 30), some (some 31), some (some 32), some (some 33)])), (30, .inr (.inl (0, 6))), (31, .inr (.inl (0, 6))), (32, .inr (.inl (0, 6))), (33, .inr (.inl (0, 6))), (17, .inr (.inr (3, [some 64, some 65, some 66, some 67, some 68, some 69]))), (64, .inl (5, [])), (65, .inl (10, [])), (66, .inl (8, [])), (67, .inl (1, [])), (68, .inl (3, [])), (69, .inl (4, [])), (2, .inl (0, [none, none, none, none, none, none, none, none, none, some (some 18), some (some 19), some (some 20), some (some 21), some (some 22), some (some 23), some (some 24), some (some 5), some (some 6), some (some 25)])), (18, .inr (.inl (0, 6))), (19, .inr (.inl (0, 6))), (20, .inr (.inl (0, 6))), (21, .inr (.inl (0, 6))), (22, .inr (.inl (0, 16))), (23, .inr (.inl (0, 6))), (24, .inr (.inl (0, 6))), (5, .inl (7, [none, some (some 34), some (some 35), some (some 36), some (some 37), none])), (34, .inr (.inl (0, 8))), (35, .inr (.inl (0, 8))), (36, .inr (.inl (0, 8))), (37, .inr (.inl (0, 200))), (6, .inl (6, [none, some (some 38), some (some 39), some (some 40), some (some 41)])), (38, .inr (.inl (0, 6))), (39, .inr (.inl (0, 6))), (40, .inr (.inl (0, 6))), (41, .inr (.inl (0, 6))), (25, .inr (.inr (3, [some 70, some 71, some 72, some 73, some 74, some 75]))), (70, .inl (5, [])), (71, .inl (10, [])), (72, .inl (8, [])), (73, .inl (1, [])), (74, .inl (3, [])), (75, .inl (4, [])), (7, .inl (9, [none, some (some 46), some (some 47), some (some 48), none])), (46, .inr (.inl (0, 200))), (47, .inr (.inl (0, 201))), (48, .inr (.inl (0, 201))), (8, .inl (7, [none, some (some 42), some (some 43), some (some 44), some (some 45), none])), (42, .inr (.inl (0, 8))), (43, .inr (.inl (0, 8))), (44, .inr (.inl (0, 8))), (45, .inr (.inl (0, 200))), (50, .inr (.inr (2, [some 51, some 52, some 53, some 54]))), (51, .inr (.inl (0, 3))), (52, .inr (.inl (0, 3))), (53, .inr (.inl (0, 3))), (54, .inr (.inl (0, 3))), (60, .inr (.inl (0, 4))), (61, .inr (.inl (0, 4))), (55, .inr (.inr (2, [some 56, some 57, some 58, some 59]))), (56, .inr (.inl (0, 40))), (57, .inr (.inl (0, 40))), (58, .inr (.inl (0, 40))), (59, .inr (.inl (0, 40))), (62, .inr (.inl (0, 4))), (63, .inr (.inl (0, 4))), (9, .inl (2, [none, none, none, some (some 49), none])), (49, .inr (.inl (0, 30))), (76, .inl (12, [some (some 77), some (some 78), some (some 79), none, some (some 80), some (some 81), none, some (some 82), none, none, none, none, none, none, some (some 83), some (some 84), none, some (some 85), some (some 86), some none, none, none, none, none, some none, some none, none, some none, none, some none, some none, some none, some none, some none, some none, none, none, none])), (77, .inr (.inl (0, 315))), (78, .inr (.inl (0, 315))), (79, .inr (.inl (0, 67))), (80, .inr (.inl (0, 200))), (81, .inr (.inl (0, 200))), (82, .inr (.inl (1, 144))), (83, .inr (.inl (0, 200))), (84, .inr (.inl (0, 24))), (85, .inr (.inl (0, 335))), (86, .inr (.inl (0, 4))), (87, .inr (.inl (0, 4)))]
def cwr23 : CW := [(0, .inl (11, [some (some 1), some (some 2), none, some (some 7), some (some 8), some (some 50), none, some (some 60), some (some 61), some (some 55), some (some 62), some (some 63), some (some 9)])), (1, .inl (0, [none, none, none, none, none, none, none, none, none, some (some 10), some (some 11), some (some 12), some (some 13), some (some 14), some (some 15), some (some 16), some (some 3), some (some 4), some (some 17)])), (10, .inr (.inl (0, 6))), (11, .inr (.inl (0, 6))), (12, .inr (.inl (0, 6))), (13, .inr (.inl (0, 6))), (14, .inr (.inl (0, 16))), (15, .inr (.inl (0, 6))), (16, .inr (.inl (0, 6))), (3, .inl (7, [none, some (some 26), some (some 27), some (some 28), some (some 29), none])), (26, .inr (.inl (0, 8))), (27, .inr (.inl (0, 8))), (28, .inr (.inl (0, 8))), (29, .inr (.inl (0, 200))), (4, .inl (6, [none, some (some 30), some (some 31), some (some 32), some (some 33)])), (30, .inr (.inl (0, 6))), (31, .inr (.inl (0, 6))), (32, .inr (.inl (0, 6))), (33, .inr (.inl (0, 6))), (17, .inr (.inr (3, [some 64, some 65, some 66, some 67, some 68, some 69]))), (64, .inl (5, [])), (65, .inl (10, [])), (66, .inl (8, [])), (67, .inl (1, [])), (68, .inl (3, [])), (69, .inl (4, [])), (2, .inl (0, [none, none, none, none, none, none, none, none, none, some (some 18), some (some 19), some (some 20), some (some 21), some (some 22), some (some 23), some (some 24), some (some 5), some (some 6), some (some 25)])), (18, .inr (.inl (0, 6))), (19, .inr (.inl (0, 6))), (20, .inr (.inl (0, 6))), (21, .inr (.inl (0, 6))), (22, .inr (.inl (0, 16))), (23, .inr (.inl (0, 6))), (24, .inr (.inl (0, 6))), (5, .inl (7, [none, some (some 34), some (some 35), some (some 36), some (some 37), none])), (34, .inr (.inl (0, 8))), (35, .inr (.inl (0, 8))), (36, .inr (.inl (0, 8))), (37, .inr (.inl (0, 200))), (6, .inl (6, [none, some (some 38), some (some 39), some (some 40), some (some 41)])), (38, .inr (.inl (0, 6))), (39, .inr (.inl (0, 6))), (40, .inr (.inl (0, 6))), (41, .inr (.inl (0, 6))), (25, .inr (.inr (3, [some 70, some 71, some 72, some 73, some 74, some 75]))), (70, .inl (5, [])), (71, .inl (10, [])), (72, .inl (8, [])), (73, .inl (1, [])), (74, .inl (3, [])), (75, .inl (4, [])), (7, .inl (9, [none, some (some 46), some (some 47), some (some 48), none])), (46, .inr (.inl (0, 200))), (47, .inr (.inl (0, 201))), (48, .inr (.inl (0, 201))), (8, .inl (7, [none, some (some 42), some (some 43), some (some 44), some (some 45), none])), (42, .inr (.inl (0, 8))), (43, .inr (.inl (0, 8))), (44, .inr (.inl (0, 8))), (45, .inr (.inl (0, 200))), (50, .inr (.inr (2, [some 51, some 52, some 53, some 54]))), (51, .inr (.inl (0, 3))), (52, .inr (.inl (0, 3))), (53, .inr (.inl (0, 3))), (54, .inr (.inl (0, 3))), (60, .inr (.inl (0, 4))), (61, .inr (.inl (0, 4))), (55, .inr (.inr (2, [some 56, some 57, some 58, some 59]))), (56, .inr (.inl (0, 40))), (57, .inr (.inl (0, 40))), (58, .inr (.inl (0, 40))), (59, .inr (.inl (0, 40))), (62, .inr (.inl (0, 4))), (63, .inr (.inl (0, 4))), (9, .inl (2, [none, none, none, some (some 49), none])), (49, .inr (.inl (0, 30))), (76, .inl (12, [some (some 77), some (some 78), some (some 79), none, some (some 80), some (some 81), none, some (some 82), none, none, none, none, none, none, some (some 83), some (some 84), none, some (some 85), some (some 86), some (some 87), none, none, none, none, some none, some none, none, some none, none, some none, some none, some none, some none, some none, some none, none, none, none])), (77, .inr (.inl (0, 315))), (78, .inr (.inl (0, 315))), (79, .inr (.inl (0, 67))), (80, .inr (.inl (0, 200))), (81, .inr (.inl (0, 200))), (82, .inr (.inl (1, 144))), (83, .inr (.inl (0, 200))), (84, .inr (.inl (0, 24))), (85, .inr (.inl (0, 335))), (86, .inr (.inl (0, 4))), (87, .inr (.inl (0, 4)))]
def cwr24 : CW := [(0, .inl (11, [some (some 1), some (some 2), none, some (some 7), some (some 8), some (some 50), none, some (some 60), some (some 61), some (some 55), some (some 62), some (some 63), some (some 9)])), (1, .inl (0, [none, none, none, none, none, none, none, none, none, some (some 10), some (some 11), some (some 12), some (some 13), some (some 14), some (some 15), some (some 16), some (some 3), some (some 4), some (some 17)])), (10, .inr (.inl (0, 6))), (11, .inr (.inl (0, 6))), (12, .inr (.inl (0, 6))), (13, .inr (.inl (0, 6))), (14, .inr (.inl (0, 16))), (15, .inr (.inl (0, 6))), (16, .inr (.inl (0, 6))), (3, .inl (7, [none, some (some 26), some (some 27), some (some 28), some (some 29), none])), (26, .inr (.inl (0, 8))), (27, .inr (.inl (0, 8))), (28, .inr (.inl (0, 8))), (29, .inr (.inl (0, 200))), (4, .inl (6, [none, some (some 30), some (some 31), some (some 32), some (some 33)])), (30, .inr (.inl (0, 6))), (31, .inr (.inl (0, 6))), (32, .inr (.inl (0, 6))), (33, .inr (.inl (0, 6))), (17, .inr (.inr (3, [some 64, some 65, some 66, some 67, some 68, some 69]))), (64, .inl (5, [])), (65, .inl (10, [])), (66, .inl (8, [])), (67, .inl (1, [])), (68, .inl (3, [])), (69, .inl (4, [])), (2, .inl (0, [none, none, none, none, none, none, none, none, none, some (some 18), some (some 19), some (some 20), some (some 21), some (some 22), some (some 23), some (some 24), some (some 5), some (some 6), some (some 25)])), (18, .inr (.inl (0, 6))), (19, .inr (.inl (0, 6))), (20, .inr (.inl (0, 6))), (21, .inr (.inl (0, 6))), (22, .inr (.inl (0, 16))), (23, .inr (.inl (0, 6))), (24, .inr (.inl (0, 6))), (5, .inl (7, [none, some (some 34), some (some 35), some (some 36), some (some 37), none])), (34, .inr (.inl (0, 8))), (35, .inr (.inl (0, 8))), (36, .inr (.inl (0, 8))), (37, .inr (.inl (0, 200))), (6, .inl (6, [none, some (some 38), some (some 39), some (some 40), some (some 41)])), (38, .inr (.inl (0, 6))), (39, .inr (.inl (0, 6))), (40, .inr (.inl (0, 6))), (41, .inr (.inl (0, 6))), (25, .inr (.inr (3, [some 70, some 71, some 72, some 73, some 74, some 75]))), (70, .inl (5, [])), (71, .inl (10, [])), (72, .inl (8, [])), (73, .inl (1, [])), (74, .inl (3, [])), (75, .inl (4, [])), (7, .inl (9, [none, some (some 46), some (some 47), some (some 48), none])), (46, .inr (.inl (0, 200))), (47, .inr (.inl (0, 201))), (48, .inr (.inl (0, 201))), (8, .inl (7, [none, some (some 42), some (some 43), some (some 44), some (some 45), none])), (42, .inr (.inl (0, 8))), (43, .inr (.inl (0, 8))), (44, .inr (.inl (0, 8))), (45, .inr (.inl (0, 200))), (50, .inr (.inr (2, [some 51, some 52, some 53, some 54]))), (51, .inr (.inl (0, 3))), (52, .inr (.inl (0, 3))), (53, .inr (.inl (0, 3))), (54, .inr (.inl (0, 3))), (60, .inr (.inl (0, 4))), (61, .inr (.inl (0, 4))), (55, .inr (.inr (2, [some 56, some 57, some 58, some 59]))), (56, .inr (.inl (0, 40))), (57, .inr (.inl (0, 40))), (58, .inr (.inl (0, 40))), (59, .inr (.inl (0, 40))), (62, .inr (.inl (0, 4))), (63, .inr (.inl (0, 4))), (9, .inl (2, [none, none, none, some (some 49), none])), (49, .inr (.inl (0, 30))), (76, .inl (12, [some (some 77), some (some 78), some (some 79), none, some (some 80), some (some 81), none, some (some 82), none, none, none, none, none, none, some (some 83), some (some 84), none, some (some 85), some (some 86), some (some 87), none, none, none, none, some none, some none, none, some none, none, some none, some none, some none, some none, some none, some none, none, none, none])), (77, .inr (.inl (0, 315))), (78, .inr (.inl (0, 315))), (79, .inr (.inl (0, 67))), (80, .inr (.inl (0, 200))), (81, .inr (.inl (0, 200))), (82, .inr (.inl (1, 144))), (83, .inr (.inl (0, 200))), (84, .inr (.inl (0, 24))), (85, .inr (.inl (0, 335))), (86, .inr (.inl (0, 4))), (87, .inr (.inl (0, 4))), (88, .inr (.inl (0, 16)))]
def cwr25 : CW := [(0, .inl (11, [some (some 1), some (some 2), none, some (some 7), some (some 8), some (some 50), none, some (some 60), some (some 61), some (some 55), some (some 62), some (some 63), some (some 9)])), (1, .inl (0, [none, none, none, none, none, none, none, none, none, some (some 10), some (some 11), some (some 12), some (some 13), some (some 14), some (some 15), some (some 16), some (some 3), some (some 4), some (some 17)])), (10, .inr (.inl (0, 6))), (11, .inr (.inl (0, 6))), (12, .inr (.inl (0, 6))), (13, .inr (.inl (0, 6))), (14, .inr (.inl (0, 16))), (15, .inr (.inl (0, 6))), (16, .inr (.inl (0, 6))), (3, .inl (7, [none, some (some 26), some (some 27), some (some 28), some (some 29), none])), (26, .inr (.inl (0, 8))), (27, .inr (.inl (0, 8))), (28, .inr (.inl (0, 8))), (29, .inr (.inl (0, 200))), (4, .inl (6, [none, some (some 30), some (some 31), some (some 32), some (some 33)])), (30, .inr (.inl (0, 6))), (31, .inr (.inl (0, 6))), (32, .inr (.inl (0, 6))), (33, .inr (.inl (0, 6))), (17, .inr (.inr (3, [some 64, some 65, some 66, some 67, some 68, some 69]))), (64, .inl (5, [])), (65, .inl (10, [])), (66, .inl (8, [])), (67, .inl (1, [])), (68, .inl (3, [])), (69, .inl (4, [])), (2, .inl (0, [none, none, none, none, none, none, none, none, none, some (some 18), some (some 19), some (some 20), some (some 21), some (some 22), some (some 23), some (some 24), some (some 5), some (some 6), some (some 25)])), (18, .inr (.inl (0, 6))), (19, .inr (.inl (0, 6))), (20, .inr (.inl (0, 6))), (21, .inr (.inl (0, 6))), (22, .inr (.inl (0, 16))), (23, .inr (.inl (0, 6))), (24, .inr (.inl (0, 6))), (5, .inl (7, [none, some (some 34), some (some 35), some (some 36), some (some 37), none])), (34, .inr (.inl (0, 8))), (35, .inr (.inl (0, 8))), (36, .inr (.inl (0, 8))), (37, .inr (.inl (0, 200))), (6, .inl (6, [none, some (some 38), some (some 39), some (some 40), some (some 41)])), (38, .inr (.inl (0, 6))), (39, .inr (.inl (0, 6))), (40, .inr (.inl (0, 6))), (41, .inr (.inl (0, 6))), (25, .inr (.inr (3, [some 70, some 71, some 72, some 73, some 74, some 75]))), (70, .inl (5, [])), (71, .inl (10, [])), (72, .inl (8, [])), (73, .inl (1, [])), (74, .inl (3, [])), (75, .inl (4, [])), (7, .inl (9, [none, some (some 46), some (some 47), some (some 48), none])), (46, .inr (.inl (0, 200))), (47, .inr (.inl (0, 201))), (48, .inr (.inl (0, 201))), (8, .inl (7, [none, some (some 42), some (some 43), some (some 44), some (some 45), none])), (42, .inr (.inl (0, 8))), (43, .inr (.inl (0, 8))), (44, .inr (.inl (0, 8))), (45, .inr (.inl (0, 200))), (50, .inr (.inr (2, [some 51, some 52, some 53, some 54]))), (51, .inr (.inl (0, 3))), (52, .inr (.inl (0, 3))), (53, .inr (.inl (0, 3))), (54, .inr (.inl (0, 3))), (60, .inr (.inl (0, 4))), (61, .inr (.inl (0, 4))), (55, .inr (.inr (2, [some 56, some 57, some 58, some 59]))), (56, .inr (.inl (0, 40))), (57, .inr (.inl (0, 40))), (58, .inr (.inl (0, 40))), (59, .inr (.inl (0, 40))), (62, .inr (.inl (0, 4))), (63, .inr (.inl (0, 4))), (9, .inl (2, [none, none, none, some (some 49), none])), (49, .inr (.inl (0, 30))), (76, .inl (12, [some (some 77), some (some 78), some (some 79), none, some (some 80), some (some 81), none, some (some 82), none, none, none, none, none, none, some (some 83), some (some 84), none, some (some 85), some (some 86), some (some 87), none, none, none, none, some (some 88), some none, none, some none, none, some none, some none, some none, some none, some none, some none, none, none, none])), (77, .inr (.inl (0, 315))), (78, .inr (.inl (0, 315))), (79, .inr (.inl (0, 67))), (80, .inr (.inl (0, 200))), (81, .inr (.inl (0, 200))), (82, .inr (.inl (1, 144))), (83, .inr (.inl (0, 200))), (84, .inr (.inl (0, 24))), (85, .inr (.inl (0, 335))), (86, .inr (.inl (0, 4))), (87, .inr (.inl (0, 4))), (88, .inr (.inl (0, 16)))]
def cwr26 : CW := [(0, .inl (11, [some (some 1), some (some 2), none, some (some 7), some (some 8), some (some 50), none, some (some 60), some (some 61), some (some 55), some (some 62), some (some 63), some (some 9)])), (1, .inl (0, [none, none, none, none, none, none, none, none, none, some (some 10), some (some 11), some (some 12), some (some 13), some (some 14), some (some 15), some (some 16), some (some 3), some (some 4), some (some 17)])), (10, .inr (.inl (0, 6))), (11, .inr (.inl (0, 6))), (12, .inr (.inl (0, 6))), (13, .inr (.inl (0, 6))), (14, .inr (.inl (0, 16))), (15, .inr (.inl (0, 6))), (16, .inr (.inl (0, 6))), (3, .inl (7, [none, some (some 26), some (some 27), some (some 28), some (some 29), none])), (26, .inr (.inl (0, 8))), (27, .inr (.inl (0, 8))), (28, .inr (.inl (0, 8))), (29, .inr (.inl (0, 200))), (4, .inl (6, [none, some (some 30), some (some 31), some (some 32), some (some 33)])), (30, .inr (.inl (0, 6))), (31, .inr (.inl (0, 6))), (32, .inr (.inl (0, 6))), (33, .inr (.inl (0, 6))), (17, .inr (.inr (3, [some 64, some 65, some 66, some 67, some 68, some 69]))), (64, .inl (5, [])), (65, .inl (10, [])), (66, .inl (8, [])), (67, .inl (1, [])), (68, .inl (3, [])), (69, .inl (4, [])), (2, .inl (0, [none, none, none, none, none, none, none, none, none, some (some 18), some (some 19), some (some 20), some (some 21), some (some 22), some (some 23), some (some 24), some (some 5), some (some 6), some (some 25)])), (18, .inr (.inl (0, 6))), (19, .inr (.inl (0, 6))), (20, .inr (.inl (0, 6))), (21, .inr (.inl (0, 6))), (22, .inr (.inl (0, 16))), (23, .inr (.inl (0, 6))), (24, .inr (.inl (0, 6))), (5, .inl (7, [none, some (some 34), some (some 35), some (some 36), some (some 37), none])), (34, .inr (.inl (0, 8))), (35, .inr (.inl (0, 8))), (36, .inr (.inl (0, 8))), (37, .inr (.inl (0, 200))), (6, .inl (6, [none, some (some 38), some (some 39), some (some 40), some (some 41)])), (38, .inr (.inl (0, 6))), (39, .inr (.inl (0, 6))), (40, .inr (.inl (0, 6))), (41, .inr (.inl (0, 6))), (25, .inr (.inr (3, [some 70, some 71, some 72, some 73, some 74, some 75]))), (70, .inl (5, [])), (71, .inl (10, [])), (72, .inl (8, [])), (73, .inl (1, [])), (74, .inl (3, [])), (75, .inl (4, [])), (7, .inl (9, [none, some (some 46), some (some 47), some (some 48), none])), (46, .inr (.inl (0, 200))), (47, .inr (.inl (0, 201))), (48, .inr (.inl (0, 201))), (8, .inl (7, [none, some (some 42), some (some 43), some (some 44), some (some 45), none])), (42, .inr (.inl (0, 8))), (43, .inr (.inl (0, 8))), (44, .inr (.inl (0, 8))), (45, .inr (.inl (0, 200))), (50, .inr (.inr (2, [some 51, some 52, some 53, some 54]))), (51, .inr (.inl (0, 3))), (52, .inr (.inl (0, 3))), (53, .inr (.inl (0, 3))), (54, .inr (.inl (0, 3))), (60, .inr (.inl (0, 4))), (61, .inr (.inl (0, 4))), (55, .inr (.inr (2, [some 56, some 57, some 58, some 59]))), (56, .inr (.inl (0, 40))), (57, .inr (.inl (0, 40))), (58, .inr (.inl (0, 40))), (59, .inr (.inl (0, 40))), (62, .inr (.inl (0, 4))), (63, .inr (.inl (0, 4))), (9, .inl (2, [none, none, none, some (some 49), none])), (49, .inr (.inl (0, 30))), (76, .inl (12, [some (some 77), some (some 78), some (some 79), none, some (some 80), some (some 81), none, some (some 82), none, none, none, none, none, none, some (some 83), some (some 84), none, some (some 85), some (some 86), some (some 87), none, none, none, none, some (some 88), some none, none, some none, none, some none, some none, some none, some none, some none, some none, none, none, none])), (77, .inr (.inl (0, 315))), (78, .inr (.inl (0, 315))), (79, .inr (.inl (0, 67))), (80, .inr (.inl (0, 200))), (81, .inr (.inl (0, 200))), (82, .inr (.inl (1, 144))), (83, .inr (.inl (0, 200))), (84, .inr (.inl (0, 24))), (85, .inr (.inl (0, 335))), (86, .inr (.inl (0, 4))), (87, .inr (.inl (0, 4))), (88, .inr (.inl (0, 16))), (89, .inr (.inl (0, 16)))]
def cwr27 : CW := [(0, .inl (11, [some (some 1), some (some 2), none, some (some 7), some (some 8), some (some 50), none, some (some 60), some (some 61), some (some 55), some (some 62), some (some 63), some (some 9)])), (1, .inl (0, [none, none, none, none, none, none, none, none, none, some (some 10), some (some 11), some (some 12), some (some 13), some (some 14), some (some 15), some (some 16), some (some 3), some (some 4), some (some 17)])), (10, .inr (.inl (0, 6))), (11, .inr (.inl (0, 6))), (12, .inr (.inl (0, 6))), (13, .inr (.inl (0, 6))), (14, .inr (.inl (0, 16))), (15, .inr (.inl (0, 6))), (16, .inr (.inl (0, 6))), (3, .inl (7, [none, some (some 26), some (some 27), some (some 28), some (some 29), none])), (26, .inr (.inl (0, 8))), (27, .inr (.inl (0, 8))), (28, .inr (.inl (0, 8))), (29, .inr (.inl (0, 200))), (4, .inl (6, [none, some (some 30), some (some 31), some (some 32), some (some 33)])), (30, .inr (.inl (0, 6))), (31, .inr (.inl (0, 6))), (32, .inr (.inl (0, 6))), (33, .inr (.inl (0, 6))), (17, .inr (.inr (3, [some 64, some 65, some 66, some 67, some 68, some 69]))), (64, .inl (5, [])), (65, .inl (10, [])), (66, .inl (8, [])), (67, .inl (1, [])), (68, .inl (3, [])), (69, .inl (4, [])), (2, .inl (0, [none, none, none, none, none, none, none, none, none, some (some 18), some (some 19), some (some 20), some (some 21), some (some 22), some (some 23), some (some 24), some (some 5), some (some 6), some (some 25)])), (18, .inr (.inl (0, 6))), (19, .inr (.inl (0, 6))), (20, .inr (.inl (0, 6))), (21, .inr (.inl (0, 6))), (22, .inr (.inl (0, 16))), (23, .inr (.inl (0, 6))), (24, .inr (.inl (0, 6))), (5, .inl (7, [none, some (some 34), some (some 35), some (some 36), some (some 37), none])), (34, .inr (.inl (0, 8))), (35, .inr (.inl (0, 8))), (36, .inr (.inl (0, 8))), (37, .inr (.inl (0, 200))), (6, .inl (6, [none, some (some 38), some (some 39), some (some 40), some (some 41)])), (38, .inr (.inl (0, 6))), (39, .inr (.inl (0, 6))), (40, .inr (.inl (0, 6))), (41, .inr (.inl (0, 6))), (25, .inr (.inr (3, [some 70, some 71, some 72, some 73, some 74, some 75]))), (70, .inl (5, [])), (71, .inl (10, [])), (72, .inl (8, [])), (73, .inl (1, [])), (74, .inl (3, [])), (75, .inl (4, [])), (7, .inl (9, [none, some (some 46), some (some 47), some (some 48), none])), (46, .inr (.inl (0, 200))), (47, .inr (.inl (0, 201))), (48, .inr (.inl (0, 201))), (8, .inl (7, [none, some (some 42), some (some 43), some (some 44), some (some 45), none])), (42, .inr (.inl (0, 8))), (43, .inr (.inl (0, 8))), (44, .inr (.inl (0, 8))), (45, .inr (.inl (0, 200))), (50, .inr (.inr (2, [some 51, some 52, some 53, some 54]))), (51, .inr (.inl (0, 3))), (52, .inr (.inl (0, 3))), (53, .inr (.inl (0, 3))), (54, .inr (.inl (0, 3))), (60, .inr (.inl (0, 4))), (61, .inr (.inl (0, 4))), (55, .inr (.inr (2, [some 56, some 57, some 58, some 59]))), (56, .inr (.inl (0, 40))), (57, .inr (.inl (0, 40))), (58, .inr (.inl (0, 40))), (59, .inr (.inl (0, 40))), (62, .inr (.inl (0, 4))), (63, .inr (.inl (0, 4))), (9, .inl (2, [none, none, none, some (some 49), none])), (49, .inr (.inl (0, 30))), (76, .inl (12, [some (some 77), some (some 78), some (some 79), none, some (some 80), some (some 81), none, some (some 82), none, none, none, none, none, none, some (some 83), some (some 84), none, some (some 85), some (some 86), some (some 87), none, none, none, none, some (some 88), some (some 89), none, some none, none, some none, some none, some none, some none, some none, some none, none, none, none])), (77, .inr (.inl (0, 315))), (78, .inr (.inl (0, 315))), (79, .inr (.inl (0, 67))), (80, .inr (.inl (0, 200))), (81, .inr (.inl (0, 200))), (82, .inr (.inl (1, 144))), (83, .inr (.inl (0, 200))), (84, .inr (.inl (0, 24))), (85, .inr (.inl (0, 335))), (86, .inr (.inl (0, 4))), (87, .inr (.inl (0, 4))), (88, .inr (.inl (0, 16))), (89, .inr (.inl (0, 16)))]
def cwr28 : CW := [(0, .inl (11, [some (some 1), some (some 2), none, some (some 7), some (some 8), some (some 50), none, some (some 60), some (some 61), some (some 55), some (some 62), some (some 63), some (some 9)])), (1, .inl (0, [none, none, none, none, none, none, none, none, none, some (some 10), some (some 11), some (some 12), some (some 13), some (some 14), some (some 15), some (some 16), some (some 3), some (some 4), some (some 17)])), (10, .inr (.inl (0, 6))), (11, .inr (.inl (0, 6))), (12, .inr (.inl (0, 6))), (13, .inr (.inl (0, 6))), (14, .inr (.inl (0, 16))), (15, .inr (.inl (0, 6))), (16, .inr (.inl (0, 6))), (3, .inl (7, [none, some (some 26), some (some 27), some (some 28), some (some 29), none])), (26, .inr (.inl (0, 8))), (27, .inr (.inl (0, 8))), (28, .inr (.inl (0, 8))), (29, .inr (.inl (0, 200))), (4, .inl (6, [none, some (some 30), some (some 31), some (some 32), some (some 33)])), (30, .inr (.inl (0, 6))), (31, .inr (.inl (0, 6))), (32, .inr (.inl (0, 6))), (33, .inr (.inl (0, 6))), (17, .inr (.inr (3, [some 64, some 65, some 66, some 67, some 68, some 69]))), (64, .inl (5, [])), (65, .inl (10, [])), (66, .inl (8, [])), (67, .inl (1, [])), (68, .inl (3, [])), (69, .inl (4, [])), (2, .inl (0, [none, none, none, none, none, none, none, none, none, some (some 18), some (some 19), some (some 20), some (some 21), some (some 22), some (some 23), some (some 24), some (some 5), some (some 6), some (some 25)])), (18, .inr (.inl (0, 6))), (19, .inr (.inl (0, 6))), (20, .inr (.inl (0, 6))), (21, .inr (.inl (0, 6))), (22, .inr (.inl (0, 16))), (23, .inr (.inl (0, 6))), (24, .inr (.inl (0, 6))), (5, .inl (7, [none, some (some 34), some (some 35), some (some 36), some (some 37), none])), (34, .inr (.inl (0, 8))), (35, .inr (.inl (0, 8))), (36, .inr (.inl (0, 8))), (37, .inr (.inl (0, 200))), (6, .inl (6, [none, some (some 38), some (some 39), some (some 40), some (some 41)])), (38, .inr (.inl (0, 6))), (39, .inr (.inl (0, 6))), (40, .inr (.inl (0, 6))), (41, .inr (.inl (0, 6))), (25, .inr (.inr (3, [some 70, some 71, some 72, some 73, some 74, some 75]))), (70, .inl (5, [])), (71, .inl (10, [])), (72, .inl (8, [])), (73, .inl (1, [])), (74, .inl (3, [])), (75, .inl (4, [])), (7, .inl (9, [none, some (some 46), some (some 47), some (some 48), none])), (46, .inr (.inl (0, 200))), (47, .inr (.inl (0, 201))), (48, .inr (.inl (0, 201))), (8, .inl (7, [none, some (some 42), some (some 43), some (some 44), some (some 45), none])), (42, .inr (.inl (0, 8))), (43, .inr (.inl (0, 8))), (44, .inr (.inl (0, 8))), (45, .inr (.inl (0, 200))), (50, .inr (.inr (2, [some 51, some 52, some 53, some 54]))), (51, .inr (.inl (0, 3))), (52, .inr (.inl (0, 3))), (53, .inr (.inl (0, 3))), (54, .inr (.inl (0, 3))), (60, .inr (.inl (0, 4))), (61, .inr (.inl (0, 4))), (55, .inr (.inr (2, [some 56, some 57, some 58, some 59]))), (56, .inr (.inl (0, 40))), (57, .inr (.inl (0, 40))), (58, .inr (.inl (0, 40))), (59, .inr (.inl (0, 40))), (62, .inr (.inl (0, 4))), (63, .inr (.inl (0, 4))), (9, .inl (2, [none, none, none, some (some 49), none])), (49, .inr (.inl (0, 30))), (76, .inl (12, [some (some 77), some (some 78), some (some 79), none, some (some 80), some (some 81), none, some (some 82), none, none, none, none, none, none, some (some 83), some (some 84), none, some (some 85), some (some 86), some (some 87), none, none, none, none, some (some 88), some (some 89), none, some none, none, some none, some none, some none, some none, some none, some none, none, none, none])), (77, .inr (.inl (0, 315))), (78, .inr (.inl (0, 315))), (79, .inr (.inl (0, 67))), (80, .inr (.inl (0, 200))), (81, .inr (.inl (0, 200))), (82, .inr (.inl (1, 144))), (83, .inr (.inl (0, 200))), (84, .inr (.inl (0, 24))), (85, .inr (.inl (0, 335))), (86, .inr (.inl (0, 4))), (87, .inr (.inl (0, 4))), (88, .inr (.inl (0, 16))), (89, .inr (.inl (0, 16))), (90, .inr (.inl (0, 12)))]
def cwr29 : CW := [(0, .inl (11, [some (some 1), some (some 2), none, some (some 7), some (some 8), some (some 50), none, some (some 60), some (some 61), some (some 55), some (some 62), some (some 63), some (some 9)])), (1, .inl (0, [none, none, none, none, none, none, none, none, none, some (some 10), some (some 11), some (some 12), some (some 13), some (some 14), some (some 15), some (some 16), some (some 3), some (some 4), some (some 17)])), (10, .inr (.inl (0, 6))), (11, .inr (.inl (0, 6))), (12, .inr (.inl (0, 6))), (13, .inr (.inl (0, 6))), (14, .inr (.inl (0, 16))), (15, .inr (.inl (0, 6))), (16, .inr (.inl (0, 6))), (3, .inl (7, [none, some (some 26), some (some 27), some (some 28), some (some 29), none])), (26, .inr (.inl (0, 8))), (27, .inr (.inl (0, 8))), (28, .inr (.inl (0, 8))), (29, .inr (.inl (0, 200))), (4, .inl (6, [none, some (some 30), some (some 31), some (some 32), some (some 33)])), (30, .inr (.inl (0, 6))), (31, .inr (.inl (0, 6))), (32, .inr (.inl (0, 6))), (33, .inr (.inl (0, 6))), (17, .inr (.inr (3, [some 64, some 65, some 66, some 67, some 68, some 69]))), (64, .inl (5, [])), (65, .inl (10, [])), (66, .inl (8, [])), (67, .inl (1, [])), (68, .inl (3, [])), (69, .inl (4, [])), (2, .inl (0, [none, none, none, none, none, none, none, none, none, some (some 18), some (some 19), some (some 20), some (some 21), some (some 22), some (some 23), some (some 24), some (some 5), some (some 6), some (some 25)])), (18, .inr (.inl (0, 6))), (19, .inr (.inl (0, 6))), (20, .inr (.inl (0, 6))), (21, .inr (.inl (0, 6))), (22, .inr (.inl (0, 16))), (23, .inr (.inl (0, 6))), (24, .inr (.inl (0, 6))), (5, .inl (7, [none, some (some 34), some (some 35), some (some 36), some (some 37), none])), (34, .inr (.inl (0, 8))), (35, .inr (.inl (0, 8))), (36, .inr (.inl (0, 8))), (37, .inr (.inl (0, 200))), (6, .inl (6, [none, some (some 38), some (some 39), some (some 40), some (some 41)])), (38, .inr (.inl (0, 6))), (39, .inr (.inl (0, 6))), (40, .inr (.inl (0, 6))), (41, .inr (.inl (0, 6))), (25, .inr (.inr (3, [some 70, some 71, some 72, some 73, some 74, some 75]))), (70, .inl (5, [])), (71, .inl (10, [])), (72, .inl (8, [])), (73, .inl (1, [])), (74, .inl (3, [])), (75, .inl (4, [])), (7, .inl (9, [none, some (some 46), some (some 47), some (some 48), none])), (46, .inr (.inl (0, 200))), (47, .inr (.inl (0, 201))), (48, .inr (.inl (0, 201))), (8, .inl (7, [none, some (some 42), some (some 43), some (some 44), some (some 45), none])), (42, .inr (.inl (0, 8))), (43, .inr (.inl (0, 8))), (44, .inr (.inl (0, 8))), (45, .inr (.inl (0, 200))), (50, .inr (.inr (2, [some 51, some 52, some 53, some 54]))), (51, .inr (.inl (0, 3))), (52, .inr (.inl (0, 3))), (53, .inr (.inl (0, 3))), (54, .inr (.inl (0, 3))), (60, .inr (.inl (0, 4))), (61, .inr (.inl (0, 4))), (55, .inr (.inr (2, [some 56, some 57, some 58, some 59]))), (56, .inr (.inl (0, 40))), (57, .inr (.inl (0, 40))), (58, .inr (.inl (0, 40))), (59, .inr (.inl (0, 40))), (62, .inr (.inl (0, 4))), (63, .inr (.inl (0, 4))), (9, .inl (2, [none, none, none, some (some 49), none])), (49, .inr (.inl (0, 30))), (76, .inl (12, [some (some 77), some (some 78), some (some 79), none, some (some 80), some (some 81), none, some (some 82), none, none, none, none, none, none, some (some 83), some (some 84), none, some (some 85), some (some 86), some (some 87), none, none, none, none, some (some 88), some (some 89), none, some (some 90), none, some none, some none, some none, some none, some none, some none, none, none, none])), (77, .inr (.inl (0, 315))), (78, .inr (.inl (0, 315))), (79, .inr (.inl (0, 67))), (80, .inr (.inl (0, 200))), (81, .inr (.inl (0, 200))), (82, .inr (.inl (1, 144))), (83, .inr (.inl (0, 200))), (84, .inr (.inl (0, 24))), (85, .inr (.inl (0, 335))), (86, .inr (.inl (0, 4))), (87, .inr (.inl (0, 4))), (88, .inr (.inl (0, 16))), (89, .inr (.inl (0, 16))), (90, .inr (.inl (0, 12)))]
def cwr30 : CW := [(0, .inl (11, [some (some 1), some (some 2), none, some (some 7), some (some 8), some (some 50), none, some (some 60), some (some 61), some (some 55), some (some 62), some (some 63), some (some 9)])), (1, .inl (0, [none, none, none, none, none, none, none, none, none, some (some 10), some (some 11), some (some 12), some (some 13), some (some 14), some (some 15), some (some 16), some (some 3), some (some 4), some (some 17)])), (10, .inr (.inl (0, 6))), (11, .inr (.inl (0, 6))), (12, .inr (.inl (0, 6))), (13, .inr (.inl (0, 6))), (14, .inr (.inl (0, 16))), (15, .inr (.inl (0, 6))), (16, .inr (.inl (0, 6))), (3, .inl (7, [none, some (some 26), some (some 27), some (some 28), some (some 29), none])), (26, .inr (.inl (0, 8))), (27, .inr (.inl (0, 8))), (28, .inr (.inl (0, 8))), (29, .inr (.inl (0, 200))), (4, .inl (6, [none, some (some 30), some (some 31), some (some 32), some (some 33)])), (30, .inr (.inl (0, 6))), (31, .inr (.inl (0, 6))), (32, .inr (.inl (0, 6))), (33, .inr (.inl (0, 6))), (17, .inr (.inr (3, [some 64, some 65, some 66, some 67, some 68, some 69]))), (64, .inl (5, [])), (65, .inl (10, [])), (66, .inl (8, [])), (67, .inl (1, [])), (68, .inl (3, [])), (69, .inl (4, [])), (2, .inl (0, [none, none, none, none, none, none, none, none, none, some (some 18), some (some 19), some (some 20), some (some 21), some (some 22), some (some 23), some (some 24), some (some 5), some (some 6), some (some 25)])), (18, .inr (.inl (0, 6))), (19, .inr (.inl (0, 6))), (20, .inr (.inl (0, 6))), (21, .inr (.inl (0, 6))), (22, .inr (.inl (0, 16))), (23, .inr (.inl (0, 6))), (24, .inr (.inl (0, 6))), (5, .inl (7, [none, some (some 34), some (some 35), some (some 36), some (some 37), none])), (34, .inr (.inl (0, 8))), (35, .inr (.inl (0, 8))), (36, .inr (.inl (0, 8))), (37, .inr (.inl (0, 200))), (6, .inl (6, [none, some (some 38), some (some 39), some (some 40), some (some 41)])), (38, .inr (.inl (0, 6))), (39, .inr (.inl (0, 6))), (40, .inr (.inl (0, 6))), (41, .inr (.inl (0, 6))), (25, .inr (.inr (3, [some 70, some 71, some 72, some 73, some 74, some 75]))), (70, .inl (5, [])), (71, .inl (10, [])), (72, .inl (8, [])), (73, .inl (1, [])), (74, .inl (3, [])), (75, .inl (4, [])), (7, .inl (9, [none, some (some 46), some (some 47), some (some 48), none])), (46, .inr (.inl (0, 200))), (47, .inr (.inl (0, 201))), (48, .inr (.inl (0, 201))), (8, .inl (7, [none, some (some 42), some (some 43), some (some 44), some (some 45), none])), (42, .inr (.inl (0, 8))), (43, .inr (.inl (0, 8))), (44, .inr (.inl (0, 8))), (45, .inr (.inl (0, 200))), (50, .inr (.inr (2, [some 51, some 52, some 53, some 54]))), (51, .inr (.inl (0, 3))), (52, .inr (.inl (0, 3))), (53, .inr (.inl (0, 3))), (54, .inr (.inl (0, 3))), (60, .inr (.inl (0, 4))), (61, .inr (.inl (0, 4))), (55, .inr (.inr (2, [some 56, some 57, some 58, some 59]))), (56, .inr (.inl (0, 40))), (57, .inr (.inl (0, 40))), (58, .inr (.inl (0, 40))), (59, .inr (.inl (0, 40))), (62, .inr (.inl (0, 4))), (63, .inr (.inl (0, 4))), (9, .inl (2, [none, none, none, some (some 49), none])), (49, .inr (.inl (0, 30))), (76, .inl (12, [some (some 77), some (some 78), some (some 79), none, some (some 80), some (some 81), none, some (some 82), none, none, none, none, none, none, some (some 83), some (some 84), none, some (some 85), some (some 86), some (some 87), none, none, none, none, some (some 88), some (some 89), none, some (some 90), none, some none, some none, some none, some none, some none, some none, none, none, none])), (77, .inr (.inl (0, 315))), (78, .inr (.inl (0, 315))), (79, .inr (.inl (0, 67))), (80, .inr (.inl (0, 200))), (81, .inr (.inl (0, 200))), (82, .inr (.inl (1, 144))), (83, .inr (.inl (0, 200))), (84, .inr (.inl (0, 24))), (85, .inr (.inl (0, 335))), (86, .inr (.inl (0, 4))), (87, .inr (.inl (0, 4))), (88, .inr (.inl (0, 16))), (89, .inr (.inl (0, 16))), (90, .inr (.inl (0, 12))), (91, .inr (.inl (0, 4)))]
def cmr145 : M := mset cmr144 91 (upd (cmr144 91) (Int32.toNatClampNeg (0 : Int32)) (-1 : Int32))
def cmr146 : M := mset cmr145 91 (upd (cmr145 91) (Int32.toNatClampNeg (1 : Int32)) (-1 : Int32))
def cmr147 : M := mset cmr146 91 (upd (cmr146 91) (Int32.toNatClampNeg (2 : Int32)) (-1 : Int32))
def cmr148 : M := mset cmr147 91 (upd (cmr147 91) (Int32.toNatClampNeg (3 : Int32)) (-1 : Int32))
def cwr31 : CW := [(0, .inl (11, [some (some 1), some (some 2), none, some (some 7), some (some 8), some (some 50), none, some (some 60), some (some 61), some (some 55), some (some 62), some (some 63), some (some 9)])), (1, .inl (0, [none, none, none, none, none, none, none, none, none, some (some 10), some (some 11), some (some 12), some (some 13), some (some 14), some (some 15), some (some 16), some (some 3), some (some 4), some (some 17)])), (10, .inr (.inl (0, 6))), (11, .inr (.inl (0, 6))), (12, .inr (.inl (0, 6))), (13, .inr (.inl (0, 6))), (14, .inr (.inl (0, 16))), (15, .inr (.inl (0, 6))), (16, .inr (.inl (0, 6))), (3, .inl (7, [none, some (some 26), some (some 27), some (some 28), some (some 29), none])), (26, .inr (.inl (0, 8))), (27, .inr (.inl (0, 8))), (28, .inr (.inl (0, 8))), (29, .inr (.inl (0, 200))), (4, .inl (6, [none, some (some 30), some (some 31), some (some 32), some (some 33)])), (30, .inr (.inl (0, 6))), (31, .inr (.inl (0, 6))), (32, .inr (.inl (0, 6))), (33, .inr (.inl (0, 6))), (17, .inr (.inr (3, [some 64, some 65, some 66, some 67, some 68, some 69]))), (64, .inl (5, [])), (65, .inl (10, [])), (66, .inl (8, [])), (67, .inl (1, [])), (68, .inl (3, [])), (69, .inl (4, [])), (2, .inl (0, [none, none, none, none, none, none, none, none, none, some (some 18), some (some 19), some (some 20), some (some 21), some (some 22), some (some 23), some (some 24), some (some 5), some (some 6), some (some 25)])), (18, .inr (.inl (0, 6))), (19, .inr (.inl (0, 6))), (20, .inr (.inl (0, 6))), (21, .inr (.inl (0, 6))), (22, .inr (.inl (0, 16))), (23, .inr (.inl (0, 6))), (24, .inr (.inl (0, 6))), (5, .inl (7, [none, some (some 34), some (some 35), some (some 36), some (some 37), none])), (34, .inr (.inl (0, 8))), (35, .inr (.inl (0, 8))), (36, .inr (.inl (0, 8))), (37, .inr (.inl (0, 200))), (6, .inl (6, [none, some (some 38), some (some 39), some (some 40), some (some 41)])), (38, .inr (.inl (0, 6))), (39, .inr (.inl (0, 6))), (40, .inr (.inl (0, 6))), (41, .inr (.inl (0, 6))), (25, .inr (.inr (3, [some 70, some 71, some 72, some 73, some 74, some 75]))), (70, .inl (5, [])), (71, .inl (10, [])), (72, .inl (8, [])), (73, .inl (1, [])), (74, .inl (3, [])), (75, .inl (4, [])), (7, .inl (9, [none, some (some 46), some (some 47), some (some 48), none])), (46, .inr (.inl (0, 200))), (47, .inr (.inl (0, 201))), (48, .inr (.inl (0, 201))), (8, .inl (7, [none, some (some 42), some (some 43), some (some 44), some (some 45), none])), (42, .inr (.inl (0, 8))), (43, .inr (.inl (0, 8))), (44, .inr (.inl (0, 8))), (45, .inr (.inl (0, 200))), (50, .inr (.inr (2, [some 51, some 52, some 53, some 54]))), (51, .inr (.inl (0, 3))), (52, .inr (.inl (0, 3))), (53, .inr (.inl (0, 3))), (54, .inr (.inl (0, 3))), (60, .inr (.inl (0, 4))), (61, .inr (.inl (0, 4))), (55, .inr (.inr (2, [some 56, some 57, some 58, some 59]))), (56, .inr (.inl (0, 40))), (57, .inr (.inl (0, 40))), (58, .inr (.inl (0, 40))), (59, .inr (.inl (0, 40))), (62, .inr (.inl (0, 4))), (63, .inr (.inl (0, 4))), (9, .inl (2, [none, none, none, some (some 49), none])), (49, .inr (.inl (0, 30))), (76, .inl (12, [some (some 77), some (some 78), some (some 79), none, some (some 80), some (some 81), none, some (some 82), none, none, none, none, none, none, some (some 83), some (some 84), none, some (some 85), some (some 86), some (some 87), none, none, none, none, some (some 88), some (some 89), none, some (some 90), none, some (some 91), some none, some none, some none, some none, some none, none, none, none])), (77, .inr (.inl (0, 315))), (78, .inr (.inl (0, 315))), (79, .inr (.inl (0, 67))), (80, .inr (.inl (0, 200))), (81, .inr (.inl (0, 200))), (82, .inr (.inl (1, 144))), (83, .inr (.inl (0, 200))), (84, .inr (.inl (0, 24))), (85, .inr (.inl (0, 335))), (86, .inr (.inl (0, 4))), (87, .inr (.inl (0, 4))), (88, .inr (.inl (0, 16))), (89, .inr (.inl (0, 16))), (90, .inr (.inl (0, 12))), (91, .inr (.inl (0, 4)))]
def cwr32 : CW := [(0, .inl (11, [some (some 1), some (some 2), none, some (some 7), some (some 8), some (some 50), none, some (some 60), some (some 61), some (some 55), some (some 62), some (some 63), some (some 9)])), (1, .inl (0, [none, none, none, none, none, none, none, none, none, some (some 10), some (some 11), some (some 12), some (some 13), some (some 14), some (some 15), some (some 16), some (some 3), some (some 4), some (some 17)])), (10, .inr (.inl (0, 6))), (11, .inr (.inl (0, 6))), (12, .inr (.inl (0, 6))), (13, .inr (.inl (0, 6))), (14, .inr (.inl (0, 16))), (15, .inr (.inl (0, 6))), (16, .inr (.inl (0, 6))), (3, .inl (7, [none, some (some 26), some (some 27), some (some 28), some (some 29), none])), (26, .inr (.inl (0, 8))), (27, .inr (.inl (0, 8))), (28, .inr (.inl (0, 8))), (29, .inr (.inl (0, 200))), (4, .inl (6, [none, some (some 30), some (some 31), some (some 32), some (some 33)])), (30, .inr (.inl (0, 6))), (31, .inr (.inl (0, 6))), (32, .inr (.inl (0, 6))), (33, .inr (.inl (0, 6))), (17, .inr (.inr (3, [some 64, some 65, some 66, some 67, some 68, some 69]))), (64, .inl (5, [])), (65, .inl (10, [])), (66, .inl (8, [])), (67, .inl (1, [])), (68, .inl (3, [])), (69, .inl (4, [])), (2, .inl (0, [none, none, none, none, none, none, none, none, none, some (some 18), some (some 19), some (some 20), some (some 21), some (some 22), some (some 23), some (some 24), some (some 5), some (some 6), some (some 25)])), (18, .inr (.inl (0, 6))), (19, .inr (.inl (0, 6))), (20, .inr (.inl (0, 6))), (21, .inr (.inl (0, 6))), (22, .inr (.inl (0, 16))), (23, .inr (.inl (0, 6))), (24, .inr (.inl (0, 6))), (5, .inl (7, [none, some (some 34), some (some 35), some (some 36), some (some 37), none])), (34, .inr (.inl (0, 8))), (35, .inr (.inl (0, 8))), (36, .inr (.inl (0, 8))), (37, .inr (.inl (0, 200))), (6, .inl (6, [none, some (some 38), some (some 39), some (some 40), some (some 41)])), (38, .inr (.inl (0, 6))), (39, .inr (.inl (0, 6))), (40, .inr (.inl (0, 6))), (41, .inr (.inl (0, 6))), (25, .inr (.inr (3, [some 70, some 71, some 72, some 73, some 74, some 75]))), (70, .inl (5, [])), (71, .inl (10, [])), (72, .inl (8, [])), (73, .inl (1, [])), (74, .inl (3, [])), (75, .inl (4, [])), (7, .inl (9, [none, some (some 46), some (some 47), some (some 48), none])), (46, .inr (.inl (0, 200))), (47, .inr (.inl (0, 201))), (48, .inr (.inl (0, 201))), (8, .inl (7, [none, some (some 42), some (some 43), some (some 44), some (some 45), none])), (42, .inr (.inl (0, 8))), (43, .inr (.inl (0, 8))), (44, .inr (.inl (0, 8))), (45, .inr (.inl (0, 200))), (50, .inr (.inr (2, [some 51, some 52, some 53, some 54]))), (51, .inr (.inl (0, 3))), (52, .inr (.inl (0, 3))), (53, .inr (.inl (0, 3))), (54, .inr (.inl (0, 3))), (60, .inr (.inl (0, 4))), (61, .inr (.inl (0, 4))), (55, .inr (.inr (2, [some 56, some 57, some 58, some 59]))), (56, .inr (.inl (0, 40))), (57, .inr (.inl (0, 40))), (58, .inr (.inl (0, 40))), (59, .inr (.inl (0, 40))), (62, .inr (.inl (0, 4))), (63, .inr (.inl (0, 4))), (9, .inl (2, [none, none, none, some (some 49), none])), (49, .inr (.inl (0, 30))), (76, .inl (12, [some (some 77), some (some 78), some (some 79), none, some (some 80), some (some 81), none, some (some 82), none, none, none, none, none, none, some (some 83), some (some 84), none, some (some 85), some (some 86), some (some 87), none, none, none, none, some (some 88), some (some 89), none, some (some 90), none, some (some 91), some none, some none, some none, some none, some none, none, none, none])), (77, .inr (.inl (0, 315))), (78, .inr (.inl (0, 315))), (79, .inr (.inl (0, 67))), (80, .inr (.inl (0, 200))), (81, .inr (.inl (0, 200))), (82, .inr (.inl (1, 144))), (83, .inr (.inl (0, 200))), (84, .inr (.inl (0, 24))), (85, .inr (.inl (0, 335))), (86, .inr (.inl (0, 4))), (87, .inr (.inl (0, 4))), (88, .inr (.inl (0, 16))), (89, .inr (.inl (0, 16))), (90, .inr (.inl (0, 12))), (91, .inr (.inl (0, 4))), (92, .inr (.inl (0, 4)))]
def cwr33 : CW := [(0, .inl (11, [some (some 1), some (some 2), none, some (some 7), some (some 8), some (some 50), none, some (some 60), some (some 61), some (some 55), some (some 62), some (some 63), some (some 9)])), (1, .inl (0, [none, none, none, none, none, none, none, none, none, some (some 10), some (some 11), some (some 12), some (some 13), some (some 14), some (some 15), some (some 16), some (some 3), some (some 4), some (some 17)])), (10, .inr (.inl (0, 6))), (11, .inr (.inl (0, 6))), (12, .inr (.inl (0, 6))), (13, .inr (.inl (0, 6))), (14, .inr (.inl (0, 16))), (15, .inr (.inl (0, 6))), (16, .inr (.inl (0, 6))), (3, .inl (7, [none, some (some 26), some (some 27), some (some 28), some (some 29), none])), (26, .inr (.inl (0, 8))), (27, .inr (.inl (0, 8))), (28, .inr (.inl (0, 8))), (29, .inr (.inl (0, 200))), (4, .inl (6, [none, some (some 30), some (some 31), some (some 32), some (some 33)])), (30, .inr (.inl (0, 6))), (31, .inr (.inl (0, 6))), (32, .inr (.inl (0, 6))), (33, .inr (.inl (0, 6))), (17, .inr (.inr (3, [some 64, some 65, some 66, some 67, some 68, some 69]))), (64, .inl (5, [])), (65, .inl (10, [])), (66, .inl (8, [])), (67, .inl (1, [])), (68, .inl (3, [])), (69, .inl (4, [])), (2, .inl (0, [none, none, none, none, none, none, none, none, none, some (some 18), some (some 19), some (some 20), some (some 21), some (some 22), some (some 23), some (some 24), some (some 5), some (some 6), some (some 25)])), (18, .inr (.inl (0, 6))), (19, .inr (.inl (0, 6))), (20, .inr (.inl (0, 6))), (21, .inr (.inl (0, 6))), (22, .inr (.inl (0, 16))), (23, .inr (.inl (0, 6))), (24, .inr (.inl (0, 6))), (5, .inl (7, [none, some (some 34), some (some 35), some (some 36), some (some 37), none])), (34, .inr (.inl (0, 8))), (35, .inr (.inl (0, 8))), (36, .inr (.inl (0, 8))), (37, .inr (.inl (0, 200))), (6, .inl (6, [none, some (some 38), some (some 39), some (some 40), some (some 41)])), (38, .inr (.inl (0, 6))), (39, .inr (.inl (0, 6))), (40, .inr (.inl (0, 6))), (41, .inr (.inl (0, 6))), (25, .inr (.inr (3, [some 70, some 71, some 72, some 73, some 74, some 75]))), (70, .inl (5, [])), (71, .inl (10, [])), (72, .inl (8, [])), (73, .inl (1, [])), (74, .inl (3, [])), (75, .inl (4, [])), (7, .inl (9, [none, some (some 46), some (some 47), some (some 48), none])), (46, .inr (.inl (0, 200))), (47, .inr (.inl (0, 201))), (48, .inr (.inl (0, 201))), (8, .inl (7, [none, some (some 42), some (some 43), some (some 44), some (some 45), none])), (42, .inr (.inl (0, 8))), (43, .inr (.inl (0, 8))), (44, .inr (.inl (0, 8))), (45, .inr (.inl (0, 200))), (50, .inr (.inr (2, [some 51, some 52, some 53, some 54]))), (51, .inr (.inl (0, 3))), (52, .inr (.inl (0, 3))), (53, .inr (.inl (0, 3))), (54, .inr (.inl (0, 3))), (60, .inr (.inl (0, 4))), (61, .inr (.inl (0, 4))), (55, .inr (.inr (2, [some 56, some 57, some 58, some 59]))), (56, .inr (.inl (0, 40))), (57, .inr (.inl (0, 40))), (58, .inr (.inl (0, 40))), (59, .inr (.inl (0, 40))), (62, .inr (.inl (0, 4))), (63, .inr (.inl (0, 4))), (9, .inl (2, [none, none, none, some (some 49), none])), (49, .inr (.inl (0, 30))), (76, .inl (12, [some (some 77), some (some 78), some (some 79), none, some (some 80), some (some 81), none, some (some 82), none, none, none, none, none, none, some (some 83), some (some 84), none, some (some 85), some (some 86), some (some 87), none, none, none, none, some (some 88), some (some 89), none, some (some 90), none, some (some 91), some (some 92), some none, some none, some none, some none, none, none, none])), (77, .inr (.inl (0, 315))), (78, .inr (.inl (0, 315))), (79, .inr (.inl (0, 67))), (80, .inr (.inl (0, 200))), (81, .inr (.inl (0, 200))), (82, .inr (.inl (1, 144))), (83, .inr (.inl (0, 200))), (84, .inr (.inl (0, 24))), (85, .inr (.inl (0, 335))), (86, .inr (.inl (0, 4))), (87, .inr (.inl (0, 4))), (88, .inr (.inl (0, 16))), (89, .inr (.inl (0, 16))), (90, .inr (.inl (0, 12))), (91, .inr (.inl (0, 4))), (92, .inr (.inl (0, 4)))]
def cwr34 : CW := [(0, .inl (11, [some (some 1), some (some 2), none, some (some 7), some (some 8), some (some 50), none, some (some 60), some (some 61), some (some 55), some (some 62), some (some 63), some (some 9)])), (1, .inl (0, [none, none, none, none, none, none, none, none, none, some (some 10), some (some 11), some (some 12), some (some 13), some (some 14), some (some 15), some (some 16), some (some 3), some (some 4), some (some 17)])), (10, .inr (.inl (0, 6))), (11, .inr (.inl (0, 6))), (12, .inr (.inl (0, 6))), (13, .inr (.inl (0, 6))), (14, .inr (.inl (0, 16))), (15, .inr (.inl (0, 6))), (16, .inr (.inl (0, 6))), (3, .inl (7, [none, some (some 26), some (some 27), some (some 28), some (some 29), none])), (26, .inr (.inl (0, 8))), (27, .inr (.inl (0, 8))), (28, .inr (.inl (0, 8))), (29, .inr (.inl (0, 200))), (4, .inl (6, [none, some (some 30), some (some 31), some (some 32), some (some 33)])), (30, .inr (.inl (0, 6))), (31, .inr (.inl (0, 6))), (32, .inr (.inl (0, 6))), (33, .inr (.inl (0, 6))), (17, .inr (.inr (3, [some 64, some 65, some 66, some 67, some 68, some 69]))), (64, .inl (5, [])), (65, .inl (10, [])), (66, .inl (8, [])), (67, .inl (1, [])), (68, .inl (3, [])), (69, .inl (4, [])), (2, .inl (0, [none, none, none, none, none, none, none, none, none, some (some 18), some (some 19), some (some 20), some (some 21), some (some 22), some (some 23), some (some 24), some (some 5), some (some 6), some (some 25)])), (18, .inr (.inl (0, 6))), (19, .inr (.inl (0, 6))), (20, .inr (.inl (0, 6))), (21, .inr (.inl (0, 6))), (22, .inr (.inl (0, 16))), (23, .inr (.inl (0, 6))), (24, .inr (.inl (0, 6))), (5, .inl (7, [none, some (some 34), some (some 35), some (some 36), some (some 37), none])), (34, .inr (.inl (0, 8))), (35, .inr (.inl (0, 8))), (36, .inr (.inl (0, 8))), (37, .inr (.inl (0, 200))), (6, .inl (6, [none, some (some 38), some (some 39), some (some 40), some (some 41)])), (38, .inr (.inl (0, 6))), (39, .inr (.inl (0, 6))), (40, .inr (.inl (0, 6))), (41, .inr (.inl (0, 6))), (25, .inr (.inr (3, [some 70, some 71, some 72, some 73, some 74, some 75]))), (70, .inl (5, [])), (71, .inl (10, [])), (72, .inl (8, [])), (73, .inl (1, [])), (74, .inl (3, [])), (75, .inl (4, [])), (7, .inl (9, [none, some (some 46), some (some 47), some (some 48), none])), (46, .inr (.inl (0, 200))), (47, .inr (.inl (0, 201))), (48, .inr (.inl (0, 201))), (8, .inl (7, [none, some (some 42), some (some 43), some (some 44), some (some 45), none])), (42, .inr (.inl (0, 8))), (43, .inr (.inl (0, 8))), (44, .inr (.inl (0, 8))), (45, .inr (.inl (0, 200))), (50, .inr (.inr (2, [some 51, some 52, some 53, some 54]))), (51, .inr (.inl (0, 3))), (52, .inr (.inl (0, 3))), (53, .inr (.inl (0, 3))), (54, .inr (.inl (0, 3))), (60, .inr (.inl (0, 4))), (61, .inr (.inl (0, 4))), (55, .inr (.inr (2, [some 56, some 57, some 58, some 59]))), (56, .inr (.inl (0, 40))), (57, .inr (.inl (0, 40))), (58, .inr (.inl (0, 40))), (59, .inr (.inl (0, 40))), (62, .inr (.inl (0, 4))), (63, .inr (.inl (0, 4))), (9, .inl (2, [none, none, none, some (some 49), none])), (49, .inr (.inl (0, 30))), (76, .inl (12, [some (some 77), some (some 78), some (some 79), none, some (some 80), some (some 81), none, some (some 82), none, none, none, none, none, none, some (some 83), some (some 84), none, some (some 85), some (some 86), some (some 87), none, none, none, none, some (some 88), some (some 89), none, some (some 90), none, some (some 91), some (some 92), some none, some none, some none, some none, none, none, none])), (77, .inr (.inl (0, 315))), (78, .inr (.inl (0, 315))), (79, .inr (.inl (0, 67))), (80, .inr (.inl (0, 200))), (81, .inr (.inl (0, 200))), (82, .inr (.inl (1, 144))), (83, .inr (.inl (0, 200))), (84, .inr (.inl (0, 24))), (85, .inr (.inl (0, 335))), (86, .inr (.inl (0, 4))), (87, .inr (.inl (0, 4))), (88, .inr (.inl (0, 16))), (89, .inr (.inl (0, 16))), (90, .inr (.inl (0, 12))), (91, .inr (.inl (0, 4))), (92, .inr (.inl (0, 4))), (93, .inr (.inl (0, 160)))]
def cwr35 : CW := [(0, .inl (11, [some (some 1), some (some 2), none, some (some 7), some (some 8), some (some 50), none, some (some 60), some (some 61), some (some 55), some (some 62), some (some 63), some (some 9)])), (1, .inl (0, [none, none, none, none, none, none, none, none, none, some (some 10), some (some 11), some (some 12), some (some 13), some (some 14), some (some 15), some (some 16), some (some 3), some (some 4), some (some 17)])), (10, .inr (.inl (0, 6))), (11, .inr (.inl (0, 6))), (12, .inr (.inl (0, 6))), (13, .inr (.inl (0, 6))), (14, .inr (.inl (0, 16))), (15, .inr (.inl (0, 6))), (16, .inr (.inl (0, 6))), (3, .inl (7, [none, some (some 26), some (some 27), some (some 28), some (some 29), none])), (26, .inr (.inl (0, 8))), (27, .inr (.inl (0, 8))), (28, .inr (.inl (0, 8))), (29, .inr (.inl (0, 200))), (4, .inl (6, [none, some (some 30), some (some 31), some (some 32), some (some 33)])), (30, .inr (.inl (0, 6))), (31, .inr (.inl (0, 6))), (32, .inr (.inl (0, 6))), (33, .inr (.inl (0, 6))), (17, .inr (.inr (3, [some 64, some 65, some 66, some 67, some 68, some 69]))), (64, .inl (5, [])), (65, .inl (10, [])), (66, .inl (8, [])), (67, .inl (1, [])), (68, .inl (3, [])), (69, .inl (4, [])), (2, .inl (0, [none, none, none, none, none, none, none, none, none, some (some 18), some (some 19), some (some 20), some (some 21), some (some 22), some (some 23), some (some 24), some (some 5), some (some 6), some (some 25)])), (18, .inr (.inl (0, 6))), (19, .inr (.inl (0, 6))), (20, .inr (.inl (0, 6))), (21, .inr (.inl (0, 6))), (22, .inr (.inl (0, 16))), (23, .inr (.inl (0, 6))), (24, .inr (.inl (0, 6))), (5, .inl (7, [none, some (some 34), some (some 35), some (some 36), some (some 37), none])), (34, .inr (.inl (0, 8))), (35, .inr (.inl (0, 8))), (36, .inr (.inl (0, 8))), (37, .inr (.inl (0, 200))), (6, .inl (6, [none, some (some 38), some (some 39), some (some 40), some (some 41)])), (38, .inr (.inl (0, 6))), (39, .inr (.inl (0, 6))), (40, .inr (.inl (0, 6))), (41, .inr (.inl (0, 6))), (25, .inr (.inr (3, [some 70, some 71, some 72, some 73, some 74, some 75]))), (70, .inl (5, [])), (71, .inl (10, [])), (72, .inl (8, [])), (73, .inl (1, [])), (74, .inl (3, [])), (75, .inl (4, [])), (7, .inl (9, [none, some (some 46), some (some 47), some (some 48), none])), (46, .inr (.inl (0, 200))), (47, .inr (.inl (0, 201))), (48, .inr (.inl (0, 201))), (8, .inl (7, [none, some (some 42), some (some 43), some (some 44), some (some 45), none])), (42, .inr (.inl (0, 8))), (43, .inr (.inl (0, 8))), (44, .inr (.inl (0, 8))), (45, .inr (.inl (0, 200))), (50, .inr (.inr (2, [some 51, some 52, some 53, some 54]))), (51, .inr (.inl (0, 3))), (52, .inr (.inl (0, 3))), (53, .inr (.inl (0, 3))), (54, .inr (.inl (0, 3))), (60, .inr (.inl (0, 4))), (61, .inr (.inl (0, 4))), (55, .inr (.inr (2, [some 56, some 57, some 58, some 59]))), (56, .inr (.inl (0, 40))), (57, .inr (.inl (0, 40))), (58, .inr (.inl (0, 40))), (59, .inr (.inl (0, 40))), (62, .inr (.inl (0, 4))), (63, .inr (.inl (0, 4))), (9, .inl (2, [none, none, none, some (some 49), none])), (49, .inr (.inl (0, 30))), (76, .inl (12, [some (some 77), some (some 78), some (some 79), none, some (some 80), some (some 81), none, some (some 82), none, none, none, none, none, none, some (some 83), some (some 84), none, some (some 85), some (some 86), some (some 87), none, none, none, none, some (some 88), some (some 89), none, some (some 90), none, some (some 91), some (some 92), some (some 93), some none, some none, some none, none, none, none])), (77, .inr (.inl (0, 315))), (78, .inr (.inl (0, 315))), (79, .inr (.inl (0, 67))), (80, .inr (.inl (0, 200))), (81, .inr (.inl (0, 200))), (82, .inr (.inl (1, 144))), (83, .inr (.inl (0, 200))), (84, .inr (.inl (0, 24))), (85, .inr (.inl (0, 335))), (86, .inr (.inl (0, 4))), (87, .inr (.inl (0, 4))), (88, .inr (.inl (0, 16))), (89, .inr (.inl (0, 16))), (90, .inr (.inl (0, 12))), (91, .inr (.inl (0, 4))), (92, .inr (.inl (0, 4))), (93, .inr (.inl (0, 160)))]
def cwr36 : CW := [(0, .inl (11, [some (some 1), some (some 2), none, some (some 7), some (some 8), some (some 50), none, some (some 60), some (some 61), some (some 55), some (some 62), some (some 63), some (some 9)])), (1, .inl (0, [none, none, none, none, none, none, none, none, none, some (some 10), some (some 11), some (some 12), some (some 13), some (some 14), some (some 15), some (some 16), some (some 3), some (some 4), some (some 17)])), (10, .inr (.inl (0, 6))), (11, .inr (.inl (0, 6))), (12, .inr (.inl (0, 6))), (13, .inr (.inl (0, 6))), (14, .inr (.inl (0, 16))), (15, .inr (.inl (0, 6))), (16, .inr (.inl (0, 6))), (3, .inl (7, [none, some (some 26), some (some 27), some (some 28), some (some 29), none])), (26, .inr (.inl (0, 8))), (27, .inr (.inl (0, 8))), (28, .inr (.inl (0, 8))), (29, .inr (.inl (0, 200))), (4, .inl (6, [none, some (some 30), some (some 31), some (some 32), some (some 33)])), (30, .inr (.inl (0, 6))), (31, .inr (.inl (0, 6))), (32, .inr (.inl (0, 6))), (33, .inr (.inl (0, 6))), (17, .inr (.inr (3, [some 64, some 65, some 66, some 67, some 68, some 69]))), (64, .inl (5, [])), (65, .inl (10, [])), (66, .inl (8, [])), (67, .inl (1, [])), (68, .inl (3, [])), (69, .inl (4, [])), (2, .inl (0, [none, none, none, none, none, none, none, none, none, some (some 18), some (some 19), some (some 20), some (some 21), some (some 22), some (some 23), some (some 24), some (some 5), some (some 6), some (some 25)])), (18, .inr (.inl (0, 6))), (19, .inr (.inl (0, 6))), (20, .inr (.inl (0, 6))), (21, .inr (.inl (0, 6))), (22, .inr (.inl (0, 16))), (23, .inr (.inl (0, 6))), (24, .inr (.inl (0, 6))), (5, .inl (7, [none, some (some 34), some (some 35), some (some 36), some (some 37), none])), (34, .inr (.inl (0, 8))), (35, .inr (.inl (0, 8))), (36, .inr (.inl (0, 8))), (37, .inr (.inl (0, 200))), (6, .inl (6, [none, some (some 38), some (some 39), some (some 40), some (some 41)])), (38, .inr (.inl (0, 6))), (39, .inr (.inl (0, 6))), (40, .inr (.inl (0, 6))), (41, .inr (.inl (0, 6))), (25, .inr (.inr (3, [some 70, some 71, some 72, some 73, some 74, some 75]))), (70, .inl (5, [])), (71, .inl (10, [])), (72, .inl (8, [])), (73, .inl (1, [])), (74, .inl (3, [])), (75, .inl (4, [])), (7, .inl (9, [none, some (some 46), some (some 47), some (some 48), none])), (46, .inr (.inl (0, 200))), (47, .inr (.inl (0, 201))), (48, .inr (.inl (0, 201))), (8, .inl (7, [none, some (some 42), some (some 43), some (some 44), some (some 45), none])), (42, .inr (.inl (0, 8))), (43, .inr (.inl (0, 8))), (44, .inr (.inl (0, 8))), (45, .inr (.inl (0, 200))), (50, .inr (.inr (2, [some 51, some 52, some 53, some 54]))), (51, .inr (.inl (0, 3))), (52, .inr (.inl (0, 3))), (53, .inr (.inl (0, 3))), (54, .inr (.inl (0, 3))), (60, .inr (.inl (0, 4))), (61, .inr (.inl (0, 4))), (55, .inr (.inr (2, [some 56, some 57, some 58, some 59]))), (56, .inr (.inl (0, 40))), (57, .inr (.inl (0, 40))), (58, .inr (.inl (0, 40))), (59, .inr (.inl (0, 40))), (62, .inr (.inl (0, 4))), (63, .inr (.inl (0, 4))), (9, .inl (2, [none, none, none, some (some 49), none])), (49, .inr (.inl (0, 30))), (76, .inl (12, [some (some 77), some (some 78), some (some 79), none, some (some 80), some (some 81), none, some (some 82), none, none, none, none, none, none, some (some 83), some (some 84), none, some (some 85), some (some 86), some (some 87), none, none, none, none, some (some 88), some (some 89), none, some (some 90), none, some (some 91), some (some 92), some (some 93), some none, some none, some none, none, none, none])), (77, .inr (.inl (0, 315))), (78, .inr (.inl (0, 315))), (79, .inr (.inl (0, 67))), (80, .inr (.inl (0, 200))), (81, .inr (.inl (0, 200))), (82, .inr (.inl (1, 144))), (83, .inr (.inl (0, 200))), (84, .inr (.inl (0, 24))), (85, .inr (.inl (0, 335))), (86, .inr (.inl (0, 4))), (87, .inr (.inl (0, 4))), (88, .inr (.inl (0, 16))), (89, .inr (.inl (0, 16))), (90, .inr (.inl (0, 12))), (91, .inr (.inl (0, 4))), (92, .inr (.inl (0, 4))), (93, .inr (.inl (0, 160))), (94, .inr (.inl (0, 4)))]
def cmr149 : M := mset cmr148 94 (upd (cmr148 94) (Int32.toNatClampNeg (0 : Int32)) (-1 : Int32))
def cmr150 : M := mset cmr149 94 (upd (cmr149 94) (Int32.toNatClampNeg (1 : Int32)) (-1 : Int32))
def cmr151 : M := mset cmr150 94 (upd (cmr150 94) (Int32.toNatClampNeg (2 : Int32)) (-1 : Int32))
def cmr152 : M := mset cmr151 94 (upd (cmr151 94) (Int32.toNatClampNeg (3 : Int32)) (-1 : Int32))
def cwr37 : CW := [(0, .inl (11, [some (some 1), some (some 2), none, some (some 7), some (some 8), some (some 50), none, some (some 60), some (some 61), some (some 55), some (some 62), some (some 63), some (some 9)])), (1, .inl (0, [none, none, none, none, none, none, none, none, none, some (some 10), some (some 11), some (some 12), some (some 13), some (some 14), some (some 15), some (some 16), some (some 3), some (some 4), some (some 17)])), (10, .inr (.inl (0, 6))), (11, .inr (.inl (0, 6))), (12, .inr (.inl (0, 6))), (13, .inr (.inl (0, 6))), (14, .inr (.inl (0, 16))), (15, .inr (.inl (0, 6))), (16, .inr (.inl (0, 6))), (3, .inl (7, [none, some (some 26), some (some 27), some (some 28), some (some 29), none])), (26, .inr (.inl (0, 8))), (27, .inr (.inl (0, 8))), (28, .inr (.inl (0, 8))), (29, .inr (.inl (0, 200))), (4, .inl (6, [none, some (some 30), some (some 31), some (some 32), some (some 33)])), (30, .inr (.inl (0, 6))), (31, .inr (.inl (0, 6))), (32, .inr (.inl (0, 6))), (33, .inr (.inl (0, 6))), (17, .inr (.inr (3, [some 64, some 65, some 66, some 67, some 68, some 69]))), (64, .inl (5, [])), (65, .inl (10, [])), (66, .inl (8, [])), (67, .inl (1, [])), (68, .inl (3, [])), (69, .inl (4, [])), (2, .inl (0, [none, none, none, none, none, none, none, none, none, some (some 18), some (some 19), some (some 20), some (some 21), some (some 22), some (some 23), some (some 24), some (some 5), some (some 6), some (some 25)])), (18, .inr (.inl (0, 6))), (19, .inr (.inl (0, 6))), (20, .inr (.inl (0, 6))), (21, .inr (.inl (0, 6))), (22, .inr (.inl (0, 16))), (23, .inr (.inl (0, 6))), (24, .inr (.inl (0, 6))), (5, .inl (7, [none, some (some 34), some (some 35), some (some 36), some (some 37), none])), (34, .inr (.inl (0, 8))), (35, .inr (.inl (0, 8))), (36, .inr (.inl (0, 8))), (37, .inr (.inl (0, 200))), (6, .inl (6, [none, some (some 38), some (some 39), some (some 40), some (some 41)])), (38, .inr (.inl (0, 6))), (39, .inr (.inl (0, 6))), (40, .inr (.inl (0, 6))), (41, .inr (.inl (0, 6))), (25, .inr (.inr (3, [some 70, some 71, some 72, some 73, some 74, some 75]))), (70, .inl (5, [])), (71, .inl (10, [])), (72, .inl (8, [])), (73, .inl (1, [])), (74, .inl (3, [])), (75, .inl (4, [])), (7, .inl (9, [none, some (some 46), some (some 47), some (some 48), none])), (46, .inr (.inl (0, 200))), (47, .inr (.inl (0, 201))), (48, .inr (.inl (0, 201))), (8, .inl (7, [none, some (some 42), some (some 43), some (some 44), some (some 45), none])), (42, .inr (.inl (0, 8))), (43, .inr (.inl (0, 8))), (44, .inr (.inl (0, 8))), (45, .inr (.inl (0, 200))), (50, .inr (.inr (2, [some 51, some 52, some 53, some 54]))), (51, .inr (.inl (0, 3))), (52, .inr (.inl (0, 3))), (53, .inr (.inl (0, 3))), (54, .inr (.inl (0, 3))), (60, .inr (.inl (0, 4))), (61, .inr (.inl (0, 4))), (55, .inr (.inr (2, [some 56, some 57, some 58, some 59]))), (56, .inr (.inl (0, 40))), (57, .inr (.inl (0, 40))), (58, .inr (.inl (0, 40))), (59, .inr (.inl (0, 40))), (62, .inr (.inl (0, 4))), (63, .inr (.inl (0, 4))), (9, .inl (2, [none, none, none, some (some 49), none])), (49, .inr (.inl (0, 30))), (76, .inl (12, [some (some 77), some (some 78), some (some 79), none, some (some 80), some (some 81), none, some (some 82), none, none, none, none, none, none, some (some 83), some (some 84), none, some (some 85), some (some 86), some (some 87), none, none, none, none, some (some 88), some (some 89), none, some (some 90), none, some (some 91), some (some 92), some (some 93), some (some 94), some none, some none, none, none, none])), (77, .inr (.inl (0, 315))), (78, .inr (.inl (0, 315))), (79, .inr (.inl (0, 67))), (80, .inr (.inl (0, 200))), (81, .inr (.inl (0, 200))), (82, .inr (.inl (1, 144))), (83, .inr (.inl (0, 200))), (84, .inr (.inl (0, 24))), (85, .inr (.inl (0, 335))), (86, .inr (.inl (0, 4))), (87, .inr (.inl (0, 4))), (88, .inr (.inl (0, 16))), (89, .inr (.inl (0, 16))), (90, .inr (.inl (0, 12))), (91, .inr (.inl (0, 4))), (92, .inr (.inl (0, 4))), (93, .inr (.inl (0, 160))), (94, .inr (.inl (0, 4)))]
def cwr38 : CW := [(0, .inl (11, [some (some 1), some (some 2), none, some (some 7), some (some 8), some (some 50), none, some (some 60), some (some 61), some (some 55), some (some 62), some (some 63), some (some 9)])), (1, .inl (0, [none, none, none, none, none, none, none, none, none, some (some 10), some (some 11), some (some 12), some (some 13), some (some 14), some (some 15), some (some 16), some (some 3), some (some 4), some (some 17)])), (10, .inr (.inl (0, 6))), (11, .inr (.inl (0, 6))), (12, .inr (.inl (0, 6))), (13, .inr (.inl (0, 6))), (14, .inr (.inl (0, 16))), (15, .inr (.inl (0, 6))), (16, .inr (.inl (0, 6))), (3, .inl (7, [none, some (some 26), some (some 27), some (some 28), some (some 29), none])), (26, .inr (.inl (0, 8))), (27, .inr (.inl (0, 8))), (28, .inr (.inl (0, 8))), (29, .inr (.inl (0, 200))), (4, .inl (6, [none, some (some 30), some (some 31), some (some 32), some (some 33)])), (30, .inr (.inl (0, 6))), (31, .inr (.inl (0, 6))), (32, .inr (.inl (0, 6))), (33, .inr (.inl (0, 6))), (17, .inr (.inr (3, [some 64, some 65, some 66, some 67, some 68, some 69]))), (64, .inl (5, [])), (65, .inl (10, [])), (66, .inl (8, [])), (67, .inl (1, [])), (68, .inl (3, [])), (69, .inl (4, [])), (2, .inl (0, [none, none, none, none, none, none, none, none, none, some (some 18), some (some 19), some (some 20), some (some 21), some (some 22), some (some 23), some (some 24), some (some 5), some (some 6), some (some 25)])), (18, .inr (.inl (0, 6))), (19, .inr (.inl (0, 6))), (20, .inr (.inl (0, 6))), (21, .inr (.inl (0, 6))), (22, .inr (.inl (0, 16))), (23, .inr (.inl (0, 6))), (24, .inr (.inl (0, 6))), (5, .inl (7, [none, some (some 34), some (some 35), some (some 36), some (some 37), none])), (34, .inr (.inl (0, 8))), (35, .inr (.inl (0, 8))), (36, .inr (.inl (0, 8))), (37, .inr (.inl (0, 200))), (6, .inl (6, [none, some (some 38), some (some 39), some (some 40), some (some 41)])), (38, .inr (.inl (0, 6))), (39, .inr (.inl (0, 6))), (40, .inr (.inl (0, 6))), (41, .inr (.inl (0, 6))), (25, .inr (.inr (3, [some 70, some 71, some 72, some 73, some 74, some 75]))), (70, .inl (5, [])), (71, .inl (10, [])), (72, .inl (8, [])), (73, .inl (1, [])), (74, .inl (3, [])), (75, .inl (4, [])), (7, .inl (9, [none, some (some 46), some (some 47), some (some 48), none])), (46, .inr (.inl (0, 200))), (47, .inr (.inl (0, 201))), (48, .inr (.inl (0, 201))), (8, .inl (7, [none, some (some 42), some (some 43), some (some 44), some (some 45), none])), (42, .inr (.inl (0, 8))), (43, .inr (.inl (0, 8))), (44, .inr (.inl (0, 8))), (45, .inr (.inl (0, 200))), (50, .inr (.inr (2, [some 51, some 52, some 53, some 54]))), (51, .inr (.inl (0, 3))), (52, .inr (.inl (0, 3))), (53, .inr (.inl (0, 3))), (54, .inr (.inl (0, 3))), (60, .inr (.inl (0, 4))), (61, .inr (.inl (0, 4))), (55, .inr (.inr (2, [some 56, some 57, some 58, some 59]))), (56, .inr (.inl (0, 40))), (57, .inr (.inl (0, 40))), (58, .inr (.inl (0, 40))), (59, .inr (.inl (0, 40))), (62, .inr (.inl (0, 4))), (63, .inr (.inl (0, 4))), (9, .inl (2, [none, none, none, some (some 49), none])), (49, .inr (.inl (0, 30))), (76, .inl (12, [some (some 77), some (some 78), some (some 79), none, some (some 80), some (some 81), none, some (some 82), none, none, none, none, none, none, some (some 83), some (some 84), none, some (some 85), some (some 86), some (some 87), none, none, none, none, some (some 88), some (some 89), none, some (some 90), none, some (some 91), some (some 92), some (some 93), some (some 94), some none, some none, none, none, none])), (77, .inr (.inl (0, 315))), (78, .inr (.inl (0, 315))), (79, .inr (.inl (0, 67))), (80, .inr (.inl (0, 200))), (81, .inr (.inl (0, 200))), (82, .inr (.inl (1, 144))), (83, .inr (.inl (0, 200))), (84, .inr (.inl (0, 24))), (85, .inr (.inl (0, 335))), (86, .inr (.inl (0, 4))), (87, .inr (.inl (0, 4))), (88, .inr (.inl (0, 16))), (89, .inr (.inl (0, 16))), (90, .inr (.inl (0, 12))), (91, .inr (.inl (0, 4))), (92, .inr (.inl (0, 4))), (93, .inr (.inl (0, 160))), (94, .inr (.inl (0, 4))), (95, .inr (.inl (0, 4)))]
def cwr39 : CW := [(0, .inl (11, [some (some 1), some (some 2), none, some (some 7), some (some 8), some (some 50), none, some (some 60), some (some 61), some (some 55), some (some 62), some (some 63), some (some 9)])), (1, .inl (0, [none, none, none, none, none, none, none, none, none, some (some 10), some (some 11), some (some 12), some (some 13), some (some 14), some (some 15), some (some 16), some (some 3), some (some 4), some (some 17)])), (10, .inr (.inl (0, 6))), (11, .inr (.inl (0, 6))), (12, .inr (.inl (0, 6))), (13, .inr (.inl (0, 6))), (14, .inr (.inl (0, 16))), (15, .inr (.inl (0, 6))), (16, .inr (.inl (0, 6))), (3, .inl (7, [none, some (some 26), some (some 27), some (some 28), some (some 29), none])), (26, .inr (.inl (0, 8))), (27, .inr (.inl (0, 8))), (28, .inr (.inl (0, 8))), (29, .inr (.inl (0, 200))), (4, .inl (6, [none, some (some 30), some (some 31), some (some 32), some (some 33)])), (30, .inr (.inl (0, 6))), (31, .inr (.inl (0, 6))), (32, .inr (.inl (0, 6))), (33, .inr (.inl (0, 6))), (17, .inr (.inr (3, [some 64, some 65, some 66, some 67, some 68, some 69]))), (64, .inl (5, [])), (65, .inl (10, [])), (66, .inl (8, [])), (67, .inl (1, [])), (68, .inl (3, [])), (69, .inl (4, [])), (2, .inl (0, [none, none, none, none, none, none, none, none, none, some (some 18), some (some 19), some (some 20), some (some 21), some (some 22), some (some 23), some (some 24), some (some 5), some (some 6), some (some 25)])), (18, .inr (.inl (0, 6))), (19, .inr (.inl (0, 6))), (20, .inr (.inl (0, 6))), (21, .inr (.inl (0, 6))), (22, .inr (.inl (0, 16))), (23, .inr (.inl (0, 6))), (24, .inr (.inl (0, 6))), (5, .inl (7, [none, some (some 34), some (some 35), some (some 36), some (some 37), none])), (34, .inr (.inl (0, 8))), (35, .inr (.inl (0, 8))), (36, .inr (.inl (0, 8))), (37, .inr (.inl (0, 200))), (6, .inl (6, [none, some (some 38), some (some 39), some (some 40), some (some 41)])), (38, .inr (.inl (0, 6))), (39, .inr (.inl (0, 6))), (40, .inr (.inl (0, 6))), (41, .inr (.inl (0, 6))), (25, .inr (.inr (3, [some 70, some 71, some 72, some 73, some 74, some 75]))), (70, .inl (5, [])), (71, .inl (10, [])), (72, .inl (8, [])), (73, .inl (1, [])), (74, .inl (3, [])), (75, .inl (4, [])), (7, .inl (9, [none, some (some 46), some (some 47), some (some 48), none])), (46, .inr (.inl (0, 200))), (47, .inr (.inl (0, 201))), (48, .inr (.inl (0, 201))), (8, .inl (7, [none, some (some 42), some (some 43), some (some 44), some (some 45), none])), (42, .inr (.inl (0, 8))), (43, .inr (.inl (0, 8))), (44, .inr (.inl (0, 8))), (45, .inr (.inl (0, 200))), (50, .inr (.inr (2, [some 51, some 52, some 53, some 54]))), (51, .inr (.inl (0, 3))), (52, .inr (.inl (0, 3))), (53, .inr (.inl (0, 3))), (54, .inr (.inl (0, 3))), (60, .inr (.inl (0, 4))), (61, .inr (.inl (0, 4))), (55, .inr (.inr (2, [some 56, some 57, some 58, some 59]))), (56, .inr (.inl (0, 40))), (57, .inr (.inl (0, 40))), (58, .inr (.inl (0, 40))), (59, .inr (.inl (0, 40))), (62, .inr (.inl (0, 4))), (63, .inr (.inl (0, 4))), (9, .inl (2, [none, none, none, some (some 49), none])), (49, .inr (.inl (0, 30))), (76, .inl (12, [some (some 77), some (some 78), some (some 79), none, some (some 80), some (some 81), none, some (some 82), none, none, none, none, none, none, some (some 83), some (some 84), none, some (some 85), some (some 86), some (some 87), none, none, none, none, some (some 88), some (some 89), none, some (some 90), none, some (some 91), some (some 92), some (some 93), some (some 94), some (some 95), some none, none, none, none])), (77, .inr (.inl (0, 315))), (78, .inr (.inl (0, 315))), (79, .inr (.inl (0, 67))), (80, .inr (.inl (0, 200))), (81, .inr (.inl (0, 200))), (82, .inr (.inl (1, 144))), (83, .inr (.inl (0, 200))), (84, .inr (.inl (0, 24))), (85, .inr (.inl (0, 335))), (86, .inr (.inl (0, 4))), (87, .inr (.inl (0, 4))), (88, .inr (.inl (0, 16))), (89, .inr (.inl (0, 16))), (90, .inr (.inl (0, 12))), (91, .inr (.inl (0, 4))), (92, .inr (.inl (0, 4))), (93, .inr (.inl (0, 160))), (94, .inr (.inl (0, 4))), (95, .inr (.inl (0, 4)))]
def cwr40 : CW := [(0, .inl (11, [some (some 1), some (some 2), none, some (some 7), some (some 8), some (some 50), none, some (some 60), some (some 61), some (some 55), some (some 62), some (some 63), some (some 9)])), (1, .inl (0, [none, none, none, none, none, none, none, none, none, some (some 10), some (some 11), some (some 12), some (some 13), some (some 14), some (some 15), some (some 16), some (some 3), some (some 4), some (some 17)])), (10, .inr (.inl (0, 6))), (11, .inr (.inl (0, 6))), (12, .inr (.inl (0, 6))), (13, .inr (.inl (0, 6))), (14, .inr (.inl (0, 16))), (15, .inr (.inl (0, 6))), (16, .inr (.inl (0, 6))), (3, .inl (7, [none, some (some 26), some (some 27), some (some 28), some (some 29), none])), (26, .inr (.inl (0, 8))), (27, .inr (.inl (0, 8))), (28, .inr (.inl (0, 8))), (29, .inr (.inl (0, 200))), (4, .inl (6, [none, some (some 30), some (some 31), some (some 32), some (some 33)])), (30, .inr (.inl (0, 6))), (31, .inr (.inl (0, 6))), (32, .inr (.inl (0, 6))), (33, .inr (.inl (0, 6))), (17, .inr (.inr (3, [some 64, some 65, some 66, some 67, some 68, some 69]))), (64, .inl (5, [])), (65, .inl (10, [])), (66, .inl (8, [])), (67, .inl (1, [])), (68, .inl (3, [])), (69, .inl (4, [])), (2, .inl (0, [none, none, none, none, none, none, none, none, none, some (some 18), some (some 19), some (some 20), some (some 21), some (some 22), some (some 23), some (some 24), some (some 5), some (some 6), some (some 25)])), (18, .inr (.inl (0, 6))), (19, .inr (.inl (0, 6))), (20, .inr (.inl (0, 6))), (21, .inr (.inl (0, 6))), (22, .inr (.inl (0, 16))), (23, .inr (.inl (0, 6))), (24, .inr (.inl (0, 6))), (5, .inl (7, [none, some (some 34), some (some 35), some (some 36), some (some 37), none])), (34, .inr (.inl (0, 8))), (35, .inr (.inl (0, 8))), (36, .inr (.inl (0, 8))), (37, .inr (.inl (0, 200))), (6, .inl (6, [none, some (some 38), some (some 39), some (some 40), some (some 41)])), (38, .inr (.inl (0, 6))), (39, .inr (.inl (0, 6))), (40, .inr (.inl (0, 6))), (41, .inr (.inl (0, 6))), (25, .inr (.inr (3, [some 70, some 71, some 72, some 73, some 74, some 75]))), (70, .inl (5, [])), (71, .inl (10, [])), (72, .inl (8, [])), (73, .inl (1, [])), (74, .inl (3, [])), (75, .inl (4, [])), (7, .inl (9, [none, some (some 46), some (some 47), some (some 48), none])), (46, .inr (.inl (0, 200))), (47, .inr (.inl (0, 201))), (48, .inr (.inl (0, 201))), (8, .inl (7, [none, some (some 42), some (some 43), some (some 44), some (some 45), none])), (42, .inr (.inl (0, 8))), (43, .inr (.inl (0, 8))), (44, .inr (.inl (0, 8))), (45, .inr (.inl (0, 200))), (50, .inr (.inr (2, [some 51, some 52, some 53, some 54]))), (51, .inr (.inl (0, 3))), (52, .inr (.inl (0, 3))), (53, .inr (.inl (0, 3))), (54, .inr (.inl (0, 3))), (60, .inr (.inl (0, 4))), (61, .inr (.inl (0, 4))), (55, .inr (.inr (2, [some 56, some 57, some 58, some 59]))), (56, .inr (.inl (0, 40))), (57, .inr (.inl (0, 40))), (58, .inr (.inl (0, 40))), (59, .inr (.inl (0, 40))), (62, .inr (.inl (0, 4))), (63, .inr (.inl (0, 4))), (9, .inl (2, [none, none, none, some (some 49), none])), (49, .inr (.inl (0, 30))), (76, .inl (12, [some (some 77), some (some 78), some (some 79), none, some (some 80), some (some 81), none, some (some 82), none, none, none, none, none, none, some (some 83), some (some 84), none, some (some 85), some (some 86), some (some 87), none, none, none, none, some (some 88), some (some 89), none, some (some 90), none, some (some 91), some (some 92), some (some 93), some (some 94), some (some 95), some none, none, none, none])), (77, .inr (.inl (0, 315))), (78, .inr (.inl (0, 315))), (79, .inr (.inl (0, 67))), (80, .inr (.inl (0, 200))), (81, .inr (.inl (0, 200))), (82, .inr (.inl (1, 144))), (83, .inr (.inl (0, 200))), (84, .inr (.inl (0, 24))), (85, .inr (.inl (0, 335))), (86, .inr (.inl (0, 4))), (87, .inr (.inl (0, 4))), (88, .inr (.inl (0, 16))), (89, .inr (.inl (0, 16))), (90, .inr (.inl (0, 12))), (91, .inr (.inl (0, 4))), (92, .inr (.inl (0, 4))), (93, .inr (.inl (0, 160))), (94, .inr (.inl (0, 4))), (95, .inr (.inl (0, 4))), (96, .inr (.inl (0, 30)))]
def cwr41 : CW := [(0, .inl (11, [some (some 1), some (some 2), none, some (some 7), some (some 8), some (some 50), none, some (some 60), some (some 61), some (some 55), some (some 62), some (some 63), some (some 9)])), (1, .inl (0, [none, none, none, none, none, none, none, none, none, some (some 10), some (some 11), some (some 12), some (some 13), some (some 14), some (some 15), some (some 16), some (some 3), some (some 4), some (some 17)])), (10, .inr (.inl (0, 6))), (11, .inr (.inl (0, 6))), (12, .inr (.inl (0, 6))), (13, .inr (.inl (0, 6))), (14, .inr (.inl (0, 16))), (15, .inr (.inl (0, 6))), (16, .inr (.inl (0, 6))), (3, .inl (7, [none, some (some 26), some (some 27), some (some 28), some (some 29), none])), (26, .inr (.inl (0, 8))), (27, .inr (.inl (0, 8))), (28, .inr (.inl (0, 8))), (29, .inr (.inl (0, 200))), (4, .inl (6, [none, some (some 30), some (some 31), some (some 32), some (some 33)])), (30, .inr (.inl (0, 6))), (31, .inr (.inl (0, 6))), (32, .inr (.inl (0, 6))), (33, .inr (.inl (0, 6))), (17, .inr (.inr (3, [some 64, some 65, some 66, some 67, some 68, some 69]))), (64, .inl (5, [])), (65, .inl (10, [])), (66, .inl (8, [])), (67, .inl (1, [])), (68, .inl (3, [])), (69, .inl (4, [])), (2, .inl (0, [none, none, none, none, none, none, none, none, none, some (some 18), some (some 19), some (some 20), some (some 21), some (some 22), some (some 23), some (some 24), some (some 5), some (some 6), some (some 25)])), (18, .inr (.inl (0, 6))), (19, .inr (.inl (0, 6))), (20, .inr (.inl (0, 6))), (21, .inr (.inl (0, 6))), (22, .inr (.inl (0, 16))), (23, .inr (.inl (0, 6))), (24, .inr (.inl (0, 6))), (5, .inl (7, [none, some (some 34), some (some 35), some (some 36), some (some 37), none])), (34, .inr (.inl (0, 8))), (35, .inr (.inl (0, 8))), (36, .inr (.inl (0, 8))), (37, .inr (.inl (0, 200))), (6, .inl (6, [none, some (some 38), some (some 39), some (some 40), some (some 41)])), (38, .inr (.inl (0, 6))), (39, .inr (.inl (0, 6))), (40, .inr (.inl (0, 6))), (41, .inr (.inl (0, 6))), (25, .inr (.inr (3, [some 70, some 71, some 72, some 73, some 74, some 75]))), (70, .inl (5, [])), (71, .inl (10, [])), (72, .inl (8, [])), (73, .inl (1, [])), (74, .inl (3, [])), (75, .inl (4, [])), (7, .inl (9, [none, some (some 46), some (some 47), some (some 48), none])), (46, .inr (.inl (0, 200))), (47, .inr (.inl (0, 201))), (48, .inr (.inl (0, 201))), (8, .inl (7, [none, some (some 42), some (some 43), some (some 44), some (some 45), none])), (42, .inr (.inl (0, 8))), (43, .inr (.inl (0, 8))), (44, .inr (.inl (0, 8))), (45, .inr (.inl (0, 200))), (50, .inr (.inr (2, [some 51, some 52, some 53, some 54]))), (51, .inr (.inl (0, 3))), (52, .inr (.inl (0, 3))), (53, .inr (.inl (0, 3))), (54, .inr (.inl (0, 3))), (60, .inr (.inl (0, 4))), (61, .inr (.inl (0, 4))), (55, .inr (.inr (2, [some 56, some 57, some 58, some 59]))), (56, .inr (.inl (0, 40))), (57, .inr (.inl (0, 40))), (58, .inr (.inl (0, 40))), (59, .inr (.inl (0, 40))), (62, .inr (.inl (0, 4))), (63, .inr (.inl (0, 4))), (9, .inl (2, [none, none, none, some (some 49), none])), (49, .inr (.inl (0, 30))), (76, .inl (12, [some (some 77), some (some 78), some (some 79), none, some (some 80), some (some 81), none, some (some 82), none, none, none, none, none, none, some (some 83), some (some 84), none, some (some 85), some (some 86), some (some 87), none, none, none, none, some (some 88), some (some 89), none, some (some 90), none, some (some 91), some (some 92), some (some 93), some (some 94), some (some 95), some (some 96), none, none, none])), (77, .inr (.inl (0, 315))), (78, .inr (.inl (0, 315))), (79, .inr (.inl (0, 67))), (80, .inr (.inl (0, 200))), (81, .inr (.inl (0, 200))), (82, .inr (.inl (1, 144))), (83, .inr (.inl (0, 200))), (84, .inr (.inl (0, 24))), (85, .inr (.inl (0, 335))), (86, .inr (.inl (0, 4))), (87, .inr (.inl (0, 4))), (88, .inr (.inl (0, 16))), (89, .inr (.inl (0, 16))), (90, .inr (.inl (0, 12))), (91, .inr (.inl (0, 4))), (92, .inr (.inl (0, 4))), (93, .inr (.inl (0, 160))), (94, .inr (.inl (0, 4))), (95, .inr (.inl (0, 4))), (96, .inr (.inl (0, 30)))]
def cmr153 : M := mset cmr152 77 (upd (cmr152 77) (Int32.toNatClampNeg (1 : Int32)) (12 : Int32))
def cmr154 : M := mset cmr153 77 (upd (cmr153 77) (Int32.toNatClampNeg (3 : Int32)) (5 : Int32))
def cmr155 : M := mset cmr154 77 (upd (cmr154 77) (Int32.toNatClampNeg (5 : Int32)) (1 : Int32))
def cmr156 : M := mset cmr155 77 (upd (cmr155 77) (Int32.toNatClampNeg (9 : Int32)) (6 : Int32))
def cmr157 : M := mset cmr156 77 (upd (cmr156 77) (Int32.toNatClampNeg (10 : Int32)) (6 : Int32))
def cmr158 : M := mset cmr157 77 (upd (cmr157 77) (Int32.toNatClampNeg (11 : Int32)) (6 : Int32))
def cmr159 : M := mset cmr158 77 (upd (cmr158 77) (Int32.toNatClampNeg (12 : Int32)) (6 : Int32))
def cmr160 : M := mset cmr159 77 (upd (cmr159 77) (Int32.toNatClampNeg (13 : Int32)) (6 : Int32))
def cmr161 : M := mset cmr160 77 (upd (cmr160 77) (Int32.toNatClampNeg (14 : Int32)) (6 : Int32))
def cmr162 : M := mset cmr161 77 (upd (cmr161 77) (Int32.toNatClampNeg (15 : Int32)) (6 : Int32))
def cmr163 : M := mset cmr162 77 (upd (cmr162 77) (Int32.toNatClampNeg (16 : Int32)) (6 : Int32))
def cmr164 : M := mset cmr163 77 (upd (cmr163 77) (Int32.toNatClampNeg (17 : Int32)) (6 : Int32))
def cmr165 : M := mset cmr164 77 (upd (cmr164 77) (Int32.toNatClampNeg (18 : Int32)) (6 : Int32))
def cmr166 : M := mset cmr165 77 (upd (cmr165 77) (Int32.toNatClampNeg (19 : Int32)) (6 : Int32))
def cmr167 : M := mset cmr166 77 (upd (cmr166 77) (Int32.toNatClampNeg (20 : Int32)) (6 : Int32))
def cmr168 : M := mset cmr167 77 (upd (cmr167 77) (Int32.toNatClampNeg (21 : Int32)) (6 : Int32))
def cmr169 : M := mset cmr168 77 (upd (cmr168 77) (Int32.toNatClampNeg (22 : Int32)) (6 : Int32))
def cmr170 : M := mset cmr169 77 (upd (cmr169 77) (Int32.toNatClampNeg (23 : Int32)) (6 : Int32))
def cmr171 : M := mset cmr170 77 (upd (cmr170 77) (Int32.toNatClampNeg (24 : Int32)) (6 : Int32))
set_option maxRecDepth 100000 in
set_option maxHeartbeats 4000000 in
theorem CC_12_76 (l : Launch) (D : va_G) (cA : Nat → ClassId) (z : Nat) : CtC l D cA z yX12_init cX12_init 2 1 20 2058 [.inl 76] cwr1 cmk46 cwr41 cmr171 := by
  refine cC_of (by decide) rfl (by decide) (fun x ad0 hn E => ?_)
  refine c_aload0 E dX12_init_0 rfl ?_
  refine c_obj E dX12_init_1 W1238 W118 W119 (by decide) rfl ?_
  refine c_aload0 E dX12_init_4 rfl ?_
  refine c_sipush (v := (315 : Int32)) E dX12_init_5 (by decide) ?_
  refine c_newI (atype := .int) (w' := cwr2) (t := 0) (n := 315) 77 E W155 rfl (Or.inl ⟨rfl, rfl⟩) (by decide) (by decide) (by decide) rfl (by decide +kernel) (by decide +kernel) (by decide +kernel) (by decide +kernel) (by decide) (by decide) dX12_init_8 rfl ?_
  refine c_putr (w' := cwr3) (T := TX12) (ty := tyX12 0) (k := 0) (i := 76) E rfl (by decide) rfl inX12 tyX12 tyX12_ok nmX12 (by decide) W1239 rfl rfl (tyX12_ok 0 (by decide)) (fun _ => rfl) (fun _ => rfl) dX12_init_10 rfl ?_
  refine c_aload0 E dX12_init_13 rfl ?_
  refine c_sipush (v := (315 : Int32)) E dX12_init_14 (by decide) ?_
  refine c_newI (atype := .int) (w' := cwr4) (t := 0) (n := 315) 78 E W155 rfl (Or.inl ⟨rfl, rfl⟩) (by decide) (by decide) (by decide) rfl (by decide +kernel) (by decide +kernel) (by decide +kernel) (by decide +kernel) (by decide) (by decide) dX12_init_17 rfl ?_
  refine c_putr (w' := cwr5) (T := TX12) (ty := tyX12 1) (k := 1) (i := 76) E rfl (by decide) rfl inX12 tyX12 tyX12_ok nmX12 (by decide) W1240 rfl rfl (tyX12_ok 1 (by decide)) (fun _ => rfl) (fun _ => rfl) dX12_init_19 rfl ?_
  refine c_aload0 E dX12_init_22 rfl ?_
  refine c_bipush (v := (67 : Int32)) E dX12_init_23 (by decide) ?_
  refine c_newI (atype := .int) (w' := cwr6) (t := 0) (n := 67) 79 E W155 rfl (Or.inl ⟨rfl, rfl⟩) (by decide) (by decide) (by decide) rfl (by decide +kernel) (by decide +kernel) (by decide +kernel) (by decide +kernel) (by decide) (by decide) dX12_init_25 rfl ?_
  refine c_putr (w' := cwr7) (T := TX12) (ty := tyX12 2) (k := 2) (i := 76) E rfl (by decide) rfl inX12 tyX12 tyX12_ok nmX12 (by decide) W1241 rfl rfl (tyX12_ok 2 (by decide)) (fun _ => rfl) (fun _ => rfl) dX12_init_27 rfl ?_
  refine c_aload0 E dX12_init_30 rfl ?_
  refine c_sipush (v := (200 : Int32)) E dX12_init_31 (by decide) ?_
  refine c_newI (atype := .int) (w' := cwr8) (t := 0) (n := 200) 80 E W155 rfl (Or.inl ⟨rfl, rfl⟩) (by decide) (by decide) (by decide) rfl (by decide +kernel) (by decide +kernel) (by decide +kernel) (by decide +kernel) (by decide) (by decide) dX12_init_34 rfl ?_
  refine c_putr (w' := cwr9) (T := TX12) (ty := tyX12 4) (k := 4) (i := 76) E rfl (by decide) rfl inX12 tyX12 tyX12_ok nmX12 (by decide) W1243 rfl rfl (tyX12_ok 4 (by decide)) (fun _ => rfl) (fun _ => rfl) dX12_init_36 rfl ?_
  refine c_aload0 E dX12_init_39 rfl ?_
  refine c_sipush (v := (200 : Int32)) E dX12_init_40 (by decide) ?_
  refine c_newI (atype := .int) (w' := cwr10) (t := 0) (n := 200) 81 E W155 rfl (Or.inl ⟨rfl, rfl⟩) (by decide) (by decide) (by decide) rfl (by decide +kernel) (by decide +kernel) (by decide +kernel) (by decide +kernel) (by decide) (by decide) dX12_init_43 rfl ?_
  refine c_putr (w' := cwr11) (T := TX12) (ty := tyX12 5) (k := 5) (i := 76) E rfl (by decide) rfl inX12 tyX12 tyX12_ok nmX12 (by decide) W1244 rfl rfl (tyX12_ok 5 (by decide)) (fun _ => rfl) (fun _ => rfl) dX12_init_45 rfl ?_
  refine c_aload0 E dX12_init_48 rfl ?_
  refine c_sipush (v := (144 : Int32)) E dX12_init_49 (by decide) ?_
  refine c_newI (atype := .char) (w' := cwr12) (t := 1) (n := 144) 82 E W1354 rfl (Or.inr ⟨rfl, rfl⟩) (by decide) (by decide) (by decide) rfl (by decide +kernel) (by decide +kernel) (by decide +kernel) (by decide +kernel) (by decide) (by decide) dX12_init_52 rfl ?_
  refine c_dup E dX12_init_54 ?_
  refine c_iconst (v := (0 : Int32)) E dX12_init_55 (by decide) ?_
  refine c_bipush (v := (109 : Int32)) E dX12_init_56 (by decide) ?_
  refine c_cast (m' := cmr1) (i := 82) E rfl (by decide) (by decide) dX12_init_58 rfl ?_
  refine c_dup E dX12_init_59 ?_
  refine c_iconst (v := (1 : Int32)) E dX12_init_60 (by decide) ?_
  refine c_bipush (v := (101 : Int32)) E dX12_init_61 (by decide) ?_
  refine c_cast (m' := cmr2) (i := 82) E rfl (by decide) (by decide) dX12_init_63 rfl ?_
  refine c_dup E dX12_init_64 ?_
  refine c_iconst (v := (2 : Int32)) E dX12_init_65 (by decide) ?_
  refine c_bipush (v := (109 : Int32)) E dX12_init_66 (by decide) ?_
  refine c_cast (m' := cmr3) (i := 82) E rfl (by decide) (by decide) dX12_init_68 rfl ?_
  refine c_dup E dX12_init_69 ?_
  refine c_iconst (v := (3 : Int32)) E dX12_init_70 (by decide) ?_
  refine c_bipush (v := (98 : Int32)) E dX12_init_71 (by decide) ?_
  refine c_cast (m' := cmr4) (i := 82) E rfl (by decide) (by decide) dX12_init_73 rfl ?_
  refine c_dup E dX12_init_74 ?_
  refine c_iconst (v := (4 : Int32)) E dX12_init_75 (by decide) ?_
  refine c_bipush (v := (101 : Int32)) E dX12_init_76 (by decide) ?_
  refine c_cast (m' := cmr5) (i := 82) E rfl (by decide) (by decide) dX12_init_78 rfl ?_
  refine c_dup E dX12_init_79 ?_
  refine c_iconst (v := (5 : Int32)) E dX12_init_80 (by decide) ?_
  refine c_bipush (v := (114 : Int32)) E dX12_init_81 (by decide) ?_
  refine c_cast (m' := cmr6) (i := 82) E rfl (by decide) (by decide) dX12_init_83 rfl ?_
  refine c_dup E dX12_init_84 ?_
  refine c_bipush (v := (6 : Int32)) E dX12_init_85 (by decide) ?_
  refine c_bipush (v := (32 : Int32)) E dX12_init_87 (by decide) ?_
  refine c_cast (m' := cmr7) (i := 82) E rfl (by decide) (by decide) dX12_init_89 rfl ?_
  refine c_dup E dX12_init_90 ?_
  refine c_bipush (v := (7 : Int32)) E dX12_init_91 (by decide) ?_
  refine c_bipush (v := (32 : Int32)) E dX12_init_93 (by decide) ?_
  refine c_cast (m' := cmr8) (i := 82) E rfl (by decide) (by decide) dX12_init_95 rfl ?_
  refine c_dup E dX12_init_96 ?_
  refine c_bipush (v := (8 : Int32)) E dX12_init_97 (by decide) ?_
  refine c_bipush (v := (119 : Int32)) E dX12_init_99 (by decide) ?_
  refine c_cast (m' := cmr9) (i := 82) E rfl (by decide) (by decide) dX12_init_101 rfl ?_
  refine c_dup E dX12_init_102 ?_
  refine c_bipush (v := (9 : Int32)) E dX12_init_103 (by decide) ?_
  refine c_bipush (v := (114 : Int32)) E dX12_init_105 (by decide) ?_
  refine c_cast (m' := cmr10) (i := 82) E rfl (by decide) (by decide) dX12_init_107 rfl ?_
  refine c_dup E dX12_init_108 ?_
  refine c_bipush (v := (10 : Int32)) E dX12_init_109 (by decide) ?_
  refine c_bipush (v := (101 : Int32)) E dX12_init_111 (by decide) ?_
  refine c_cast (m' := cmr11) (i := 82) E rfl (by decide) (by decide) dX12_init_113 rfl ?_
  refine c_dup E dX12_init_114 ?_
  refine c_bipush (v := (11 : Int32)) E dX12_init_115 (by decide) ?_
  refine c_bipush (v := (99 : Int32)) E dX12_init_117 (by decide) ?_
  refine c_cast (m' := cmr12) (i := 82) E rfl (by decide) (by decide) dX12_init_119 rfl ?_
  refine c_dup E dX12_init_120 ?_
  refine c_bipush (v := (12 : Int32)) E dX12_init_121 (by decide) ?_
  refine c_bipush (v := (107 : Int32)) E dX12_init_123 (by decide) ?_
  refine c_cast (m' := cmr13) (i := 82) E rfl (by decide) (by decide) dX12_init_125 rfl ?_
  refine c_dup E dX12_init_126 ?_
  refine c_bipush (v := (13 : Int32)) E dX12_init_127 (by decide) ?_
  refine c_bipush (v := (101 : Int32)) E dX12_init_129 (by decide) ?_
  refine c_cast (m' := cmr14) (i := 82) E rfl (by decide) (by decide) dX12_init_131 rfl ?_
  refine c_dup E dX12_init_132 ?_
  refine c_bipush (v := (14 : Int32)) E dX12_init_133 (by decide) ?_
  refine c_bipush (v := (114 : Int32)) E dX12_init_135 (by decide) ?_
  refine c_cast (m' := cmr15) (i := 82) E rfl (by decide) (by decide) dX12_init_137 rfl ?_
  refine c_dup E dX12_init_138 ?_
  refine c_bipush (v := (15 : Int32)) E dX12_init_139 (by decide) ?_
  refine c_bipush (v := (32 : Int32)) E dX12_init_141 (by decide) ?_
  refine c_cast (m' := cmr16) (i := 82) E rfl (by decide) (by decide) dX12_init_143 rfl ?_
  refine c_dup E dX12_init_144 ?_
  refine c_bipush (v := (16 : Int32)) E dX12_init_145 (by decide) ?_
  refine c_bipush (v := (115 : Int32)) E dX12_init_147 (by decide) ?_
  refine c_cast (m' := cmr17) (i := 82) E rfl (by decide) (by decide) dX12_init_149 rfl ?_
  refine c_dup E dX12_init_150 ?_
  refine c_bipush (v := (17 : Int32)) E dX12_init_151 (by decide) ?_
  refine c_bipush (v := (97 : Int32)) E dX12_init_153 (by decide) ?_
  refine c_cast (m' := cmr18) (i := 82) E rfl (by decide) (by decide) dX12_init_155 rfl ?_
  refine c_dup E dX12_init_156 ?_
  refine c_bipush (v := (18 : Int32)) E dX12_init_157 (by decide) ?_
  refine c_bipush (v := (118 : Int32)) E dX12_init_159 (by decide) ?_
  refine c_cast (m' := cmr19) (i := 82) E rfl (by decide) (by decide) dX12_init_161 rfl ?_
  refine c_dup E dX12_init_162 ?_
  refine c_bipush (v := (19 : Int32)) E dX12_init_163 (by decide) ?_
  refine c_bipush (v := (101 : Int32)) E dX12_init_165 (by decide) ?_
  refine c_cast (m' := cmr20) (i := 82) E rfl (by decide) (by decide) dX12_init_167 rfl ?_
  refine c_dup E dX12_init_168 ?_
  refine c_bipush (v := (20 : Int32)) E dX12_init_169 (by decide) ?_
  refine c_bipush (v := (114 : Int32)) E dX12_init_171 (by decide) ?_
  refine c_cast (m' := cmr21) (i := 82) E rfl (by decide) (by decide) dX12_init_173 rfl ?_
  refine c_dup E dX12_init_174 ?_
  refine c_bipush (v := (21 : Int32)) E dX12_init_175 (by decide) ?_
  refine c_bipush (v := (32 : Int32)) E dX12_init_177 (by decide) ?_
  refine c_cast (m' := cmr22) (i := 82) E rfl (by decide) (by decide) dX12_init_179 rfl ?_
  refine c_dup E dX12_init_180 ?_
  refine c_bipush (v := (22 : Int32)) E dX12_init_181 (by decide) ?_
  refine c_bipush (v := (32 : Int32)) E dX12_init_183 (by decide) ?_
  refine c_cast (m' := cmr23) (i := 82) E rfl (by decide) (by decide) dX12_init_185 rfl ?_
  refine c_dup E dX12_init_186 ?_
  refine c_bipush (v := (23 : Int32)) E dX12_init_187 (by decide) ?_
  refine c_bipush (v := (32 : Int32)) E dX12_init_189 (by decide) ?_
  refine c_cast (m' := cmr24) (i := 82) E rfl (by decide) (by decide) dX12_init_191 rfl ?_
  refine c_dup E dX12_init_192 ?_
  refine c_bipush (v := (24 : Int32)) E dX12_init_193 (by decide) ?_
  refine c_bipush (v := (99 : Int32)) E dX12_init_195 (by decide) ?_
  refine c_cast (m' := cmr25) (i := 82) E rfl (by decide) (by decide) dX12_init_197 rfl ?_
  refine c_dup E dX12_init_198 ?_
  refine c_bipush (v := (25 : Int32)) E dX12_init_199 (by decide) ?_
  refine c_bipush (v := (104 : Int32)) E dX12_init_201 (by decide) ?_
  refine c_cast (m' := cmr26) (i := 82) E rfl (by decide) (by decide) dX12_init_203 rfl ?_
  refine c_dup E dX12_init_204 ?_
  refine c_bipush (v := (26 : Int32)) E dX12_init_205 (by decide) ?_
  refine c_bipush (v := (97 : Int32)) E dX12_init_207 (by decide) ?_
  refine c_cast (m' := cmr27) (i := 82) E rfl (by decide) (by decide) dX12_init_209 rfl ?_
  refine c_dup E dX12_init_210 ?_
  refine c_bipush (v := (27 : Int32)) E dX12_init_211 (by decide) ?_
  refine c_bipush (v := (105 : Int32)) E dX12_init_213 (by decide) ?_
  refine c_cast (m' := cmr28) (i := 82) E rfl (by decide) (by decide) dX12_init_215 rfl ?_
  refine c_dup E dX12_init_216 ?_
  refine c_bipush (v := (28 : Int32)) E dX12_init_217 (by decide) ?_
  refine c_bipush (v := (114 : Int32)) E dX12_init_219 (by decide) ?_
  refine c_cast (m' := cmr29) (i := 82) E rfl (by decide) (by decide) dX12_init_221 rfl ?_
  refine c_dup E dX12_init_222 ?_
  refine c_bipush (v := (29 : Int32)) E dX12_init_223 (by decide) ?_
  refine c_bipush (v := (32 : Int32)) E dX12_init_225 (by decide) ?_
  refine c_cast (m' := cmr30) (i := 82) E rfl (by decide) (by decide) dX12_init_227 rfl ?_
  refine c_dup E dX12_init_228 ?_
  refine c_bipush (v := (30 : Int32)) E dX12_init_229 (by decide) ?_
  refine c_bipush (v := (32 : Int32)) E dX12_init_231 (by decide) ?_
  refine c_cast (m' := cmr31) (i := 82) E rfl (by decide) (by decide) dX12_init_233 rfl ?_
  refine c_dup E dX12_init_234 ?_
  refine c_bipush (v := (31 : Int32)) E dX12_init_235 (by decide) ?_
  refine c_bipush (v := (32 : Int32)) E dX12_init_237 (by decide) ?_
  refine c_cast (m' := cmr32) (i := 82) E rfl (by decide) (by decide) dX12_init_239 rfl ?_
  refine c_dup E dX12_init_240 ?_
  refine c_bipush (v := (32 : Int32)) E dX12_init_241 (by decide) ?_
  refine c_bipush (v := (102 : Int32)) E dX12_init_243 (by decide) ?_
  refine c_cast (m' := cmr33) (i := 82) E rfl (by decide) (by decide) dX12_init_245 rfl ?_
  refine c_dup E dX12_init_246 ?_
  refine c_bipush (v := (33 : Int32)) E dX12_init_247 (by decide) ?_
  refine c_bipush (v := (97 : Int32)) E dX12_init_249 (by decide) ?_
  refine c_cast (m' := cmr34) (i := 82) E rfl (by decide) (by decide) dX12_init_251 rfl ?_
  refine c_dup E dX12_init_252 ?_
  refine c_bipush (v := (34 : Int32)) E dX12_init_253 (by decide) ?_
  refine c_bipush (v := (114 : Int32)) E dX12_init_255 (by decide) ?_
  refine c_cast (m' := cmr35) (i := 82) E rfl (by decide) (by decide) dX12_init_257 rfl ?_
  refine c_dup E dX12_init_258 ?_
  refine c_bipush (v := (35 : Int32)) E dX12_init_259 (by decide) ?_
  refine c_bipush (v := (109 : Int32)) E dX12_init_261 (by decide) ?_
  refine c_cast (m' := cmr36) (i := 82) E rfl (by decide) (by decide) dX12_init_263 rfl ?_
  refine c_dup E dX12_init_264 ?_
  refine c_bipush (v := (36 : Int32)) E dX12_init_265 (by decide) ?_
  refine c_bipush (v := (101 : Int32)) E dX12_init_267 (by decide) ?_
  refine c_cast (m' := cmr37) (i := 82) E rfl (by decide) (by decide) dX12_init_269 rfl ?_
  refine c_dup E dX12_init_270 ?_
  refine c_bipush (v := (37 : Int32)) E dX12_init_271 (by decide) ?_
  refine c_bipush (v := (114 : Int32)) E dX12_init_273 (by decide) ?_
  refine c_cast (m' := cmr38) (i := 82) E rfl (by decide) (by decide) dX12_init_275 rfl ?_
  refine c_dup E dX12_init_276 ?_
  refine c_bipush (v := (38 : Int32)) E dX12_init_277 (by decide) ?_
  refine c_bipush (v := (32 : Int32)) E dX12_init_279 (by decide) ?_
  refine c_cast (m' := cmr39) (i := 82) E rfl (by decide) (by decide) dX12_init_281 rfl ?_
  refine c_dup E dX12_init_282 ?_
  refine c_bipush (v := (39 : Int32)) E dX12_init_283 (by decide) ?_
  refine c_bipush (v := (32 : Int32)) E dX12_init_285 (by decide) ?_
  refine c_cast (m' := cmr40) (i := 82) E rfl (by decide) (by decide) dX12_init_287 rfl ?_
  refine c_dup E dX12_init_288 ?_
  refine c_bipush (v := (40 : Int32)) E dX12_init_289 (by decide) ?_
  refine c_bipush (v := (108 : Int32)) E dX12_init_291 (by decide) ?_
  refine c_cast (m' := cmr41) (i := 82) E rfl (by decide) (by decide) dX12_init_293 rfl ?_
  refine c_dup E dX12_init_294 ?_
  refine c_bipush (v := (41 : Int32)) E dX12_init_295 (by decide) ?_
  refine c_bipush (v := (97 : Int32)) E dX12_init_297 (by decide) ?_
  refine c_cast (m' := cmr42) (i := 82) E rfl (by decide) (by decide) dX12_init_299 rfl ?_
  refine c_dup E dX12_init_300 ?_
  refine c_bipush (v := (42 : Int32)) E dX12_init_301 (by decide) ?_
  refine c_bipush (v := (100 : Int32)) E dX12_init_303 (by decide) ?_
  refine c_cast (m' := cmr43) (i := 82) E rfl (by decide) (by decide) dX12_init_305 rfl ?_
  refine c_dup E dX12_init_306 ?_
  refine c_bipush (v := (43 : Int32)) E dX12_init_307 (by decide) ?_
  refine c_bipush (v := (32 : Int32)) E dX12_init_309 (by decide) ?_
  refine c_cast (m' := cmr44) (i := 82) E rfl (by decide) (by decide) dX12_init_311 rfl ?_
  refine c_dup E dX12_init_312 ?_
  refine c_bipush (v := (44 : Int32)) E dX12_init_313 (by decide) ?_
  refine c_bipush (v := (32 : Int32)) E dX12_init_315 (by decide) ?_
  refine c_cast (m' := cmr45) (i := 82) E rfl (by decide) (by decide) dX12_init_317 rfl ?_
  refine c_dup E dX12_init_318 ?_
  refine c_bipush (v := (45 : Int32)) E dX12_init_319 (by decide) ?_
  refine c_bipush (v := (32 : Int32)) E dX12_init_321 (by decide) ?_
  refine c_cast (m' := cmr46) (i := 82) E rfl (by decide) (by decide) dX12_init_323 rfl ?_
  refine c_dup E dX12_init_324 ?_
  refine c_bipush (v := (46 : Int32)) E dX12_init_325 (by decide) ?_
  refine c_bipush (v := (32 : Int32)) E dX12_init_327 (by decide) ?_
  refine c_cast (m' := cmr47) (i := 82) E rfl (by decide) (by decide) dX12_init_329 rfl ?_
  refine c_dup E dX12_init_330 ?_
  refine c_bipush (v := (47 : Int32)) E dX12_init_331 (by decide) ?_
  refine c_bipush (v := (32 : Int32)) E dX12_init_333 (by decide) ?_
  refine c_cast (m' := cmr48) (i := 82) E rfl (by decide) (by decide) dX12_init_335 rfl ?_
  refine c_dup E dX12_init_336 ?_
  refine c_bipush (v := (48 : Int32)) E dX12_init_337 (by decide) ?_
  refine c_bipush (v := (100 : Int32)) E dX12_init_339 (by decide) ?_
  refine c_cast (m' := cmr49) (i := 82) E rfl (by decide) (by decide) dX12_init_341 rfl ?_
  refine c_dup E dX12_init_342 ?_
  refine c_bipush (v := (49 : Int32)) E dX12_init_343 (by decide) ?_
  refine c_bipush (v := (105 : Int32)) E dX12_init_345 (by decide) ?_
  refine c_cast (m' := cmr50) (i := 82) E rfl (by decide) (by decide) dX12_init_347 rfl ?_
  refine c_dup E dX12_init_348 ?_
  refine c_bipush (v := (50 : Int32)) E dX12_init_349 (by decide) ?_
  refine c_bipush (v := (109 : Int32)) E dX12_init_351 (by decide) ?_
  refine c_cast (m' := cmr51) (i := 82) E rfl (by decide) (by decide) dX12_init_353 rfl ?_
  refine c_dup E dX12_init_354 ?_
  refine c_bipush (v := (51 : Int32)) E dX12_init_355 (by decide) ?_
  refine c_bipush (v := (32 : Int32)) E dX12_init_357 (by decide) ?_
  refine c_cast (m' := cmr52) (i := 82) E rfl (by decide) (by decide) dX12_init_359 rfl ?_
  refine c_dup E dX12_init_360 ?_
  refine c_bipush (v := (52 : Int32)) E dX12_init_361 (by decide) ?_
  refine c_bipush (v := (32 : Int32)) E dX12_init_363 (by decide) ?_
  refine c_cast (m' := cmr53) (i := 82) E rfl (by decide) (by decide) dX12_init_365 rfl ?_
  refine c_dup E dX12_init_366 ?_
  refine c_bipush (v := (53 : Int32)) E dX12_init_367 (by decide) ?_
  refine c_bipush (v := (32 : Int32)) E dX12_init_369 (by decide) ?_
  refine c_cast (m' := cmr54) (i := 82) E rfl (by decide) (by decide) dX12_init_371 rfl ?_
  refine c_dup E dX12_init_372 ?_
  refine c_bipush (v := (54 : Int32)) E dX12_init_373 (by decide) ?_
  refine c_bipush (v := (32 : Int32)) E dX12_init_375 (by decide) ?_
  refine c_cast (m' := cmr55) (i := 82) E rfl (by decide) (by decide) dX12_init_377 rfl ?_
  refine c_dup E dX12_init_378 ?_
  refine c_bipush (v := (55 : Int32)) E dX12_init_379 (by decide) ?_
  refine c_bipush (v := (32 : Int32)) E dX12_init_381 (by decide) ?_
  refine c_cast (m' := cmr56) (i := 82) E rfl (by decide) (by decide) dX12_init_383 rfl ?_
  refine c_dup E dX12_init_384 ?_
  refine c_bipush (v := (56 : Int32)) E dX12_init_385 (by decide) ?_
  refine c_bipush (v := (107 : Int32)) E dX12_init_387 (by decide) ?_
  refine c_cast (m' := cmr57) (i := 82) E rfl (by decide) (by decide) dX12_init_389 rfl ?_
  refine c_dup E dX12_init_390 ?_
  refine c_bipush (v := (57 : Int32)) E dX12_init_391 (by decide) ?_
  refine c_bipush (v := (101 : Int32)) E dX12_init_393 (by decide) ?_
  refine c_cast (m' := cmr58) (i := 82) E rfl (by decide) (by decide) dX12_init_395 rfl ?_
  refine c_dup E dX12_init_396 ?_
  refine c_bipush (v := (58 : Int32)) E dX12_init_397 (by decide) ?_
  refine c_bipush (v := (101 : Int32)) E dX12_init_399 (by decide) ?_
  refine c_cast (m' := cmr59) (i := 82) E rfl (by decide) (by decide) dX12_init_401 rfl ?_
  refine c_dup E dX12_init_402 ?_
  refine c_bipush (v := (59 : Int32)) E dX12_init_403 (by decide) ?_
  refine c_bipush (v := (112 : Int32)) E dX12_init_405 (by decide) ?_
  refine c_cast (m' := cmr60) (i := 82) E rfl (by decide) (by decide) dX12_init_407 rfl ?_
  refine c_dup E dX12_init_408 ?_
  refine c_bipush (v := (60 : Int32)) E dX12_init_409 (by decide) ?_
  refine c_bipush (v := (32 : Int32)) E dX12_init_411 (by decide) ?_
  refine c_cast (m' := cmr61) (i := 82) E rfl (by decide) (by decide) dX12_init_413 rfl ?_
  refine c_dup E dX12_init_414 ?_
  refine c_bipush (v := (61 : Int32)) E dX12_init_415 (by decide) ?_
  refine c_bipush (v := (32 : Int32)) E dX12_init_417 (by decide) ?_
  refine c_cast (m' := cmr62) (i := 82) E rfl (by decide) (by decide) dX12_init_419 rfl ?_
  refine c_dup E dX12_init_420 ?_
  refine c_bipush (v := (62 : Int32)) E dX12_init_421 (by decide) ?_
  refine c_bipush (v := (32 : Int32)) E dX12_init_423 (by decide) ?_
  refine c_cast (m' := cmr63) (i := 82) E rfl (by decide) (by decide) dX12_init_425 rfl ?_
  refine c_dup E dX12_init_426 ?_
  refine c_bipush (v := (63 : Int32)) E dX12_init_427 (by decide) ?_
  refine c_bipush (v := (32 : Int32)) E dX12_init_429 (by decide) ?_
  refine c_cast (m' := cmr64) (i := 82) E rfl (by decide) (by decide) dX12_init_431 rfl ?_
  refine c_dup E dX12_init_432 ?_
  refine c_bipush (v := (64 : Int32)) E dX12_init_433 (by decide) ?_
  refine c_bipush (v := (116 : Int32)) E dX12_init_435 (by decide) ?_
  refine c_cast (m' := cmr65) (i := 82) E rfl (by decide) (by decide) dX12_init_437 rfl ?_
  refine c_dup E dX12_init_438 ?_
  refine c_bipush (v := (65 : Int32)) E dX12_init_439 (by decide) ?_
  refine c_bipush (v := (114 : Int32)) E dX12_init_441 (by decide) ?_
  refine c_cast (m' := cmr66) (i := 82) E rfl (by decide) (by decide) dX12_init_443 rfl ?_
  refine c_dup E dX12_init_444 ?_
  refine c_bipush (v := (66 : Int32)) E dX12_init_445 (by decide) ?_
  refine c_bipush (v := (105 : Int32)) E dX12_init_447 (by decide) ?_
  refine c_cast (m' := cmr67) (i := 82) E rfl (by decide) (by decide) dX12_init_449 rfl ?_
  refine c_dup E dX12_init_450 ?_
  refine c_bipush (v := (67 : Int32)) E dX12_init_451 (by decide) ?_
  refine c_bipush (v := (109 : Int32)) E dX12_init_453 (by decide) ?_
  refine c_cast (m' := cmr68) (i := 82) E rfl (by decide) (by decide) dX12_init_455 rfl ?_
  refine c_dup E dX12_init_456 ?_
  refine c_bipush (v := (68 : Int32)) E dX12_init_457 (by decide) ?_
  refine c_bipush (v := (32 : Int32)) E dX12_init_459 (by decide) ?_
  refine c_cast (m' := cmr69) (i := 82) E rfl (by decide) (by decide) dX12_init_461 rfl ?_
  refine c_dup E dX12_init_462 ?_
  refine c_bipush (v := (69 : Int32)) E dX12_init_463 (by decide) ?_
  refine c_bipush (v := (32 : Int32)) E dX12_init_465 (by decide) ?_
  refine c_cast (m' := cmr70) (i := 82) E rfl (by decide) (by decide) dX12_init_467 rfl ?_
  refine c_dup E dX12_init_468 ?_
  refine c_bipush (v := (70 : Int32)) E dX12_init_469 (by decide) ?_
  refine c_bipush (v := (32 : Int32)) E dX12_init_471 (by decide) ?_
  refine c_cast (m' := cmr71) (i := 82) E rfl (by decide) (by decide) dX12_init_473 rfl ?_
  refine c_dup E dX12_init_474 ?_
  refine c_bipush (v := (71 : Int32)) E dX12_init_475 (by decide) ?_
  refine c_bipush (v := (32 : Int32)) E dX12_init_477 (by decide) ?_
  refine c_cast (m' := cmr72) (i := 82) E rfl (by decide) (by decide) dX12_init_479 rfl ?_
  refine c_dup E dX12_init_480 ?_
  refine c_bipush (v := (72 : Int32)) E dX12_init_481 (by decide) ?_
  refine c_bipush (v := (105 : Int32)) E dX12_init_483 (by decide) ?_
  refine c_cast (m' := cmr73) (i := 82) E rfl (by decide) (by decide) dX12_init_485 rfl ?_
  refine c_dup E dX12_init_486 ?_
  refine c_bipush (v := (73 : Int32)) E dX12_init_487 (by decide) ?_
  refine c_bipush (v := (102 : Int32)) E dX12_init_489 (by decide) ?_
  refine c_cast (m' := cmr74) (i := 82) E rfl (by decide) (by decide) dX12_init_491 rfl ?_
  refine c_dup E dX12_init_492 ?_
  refine c_bipush (v := (74 : Int32)) E dX12_init_493 (by decide) ?_
  refine c_bipush (v := (32 : Int32)) E dX12_init_495 (by decide) ?_
  refine c_cast (m' := cmr75) (i := 82) E rfl (by decide) (by decide) dX12_init_497 rfl ?_
  refine c_dup E dX12_init_498 ?_
  refine c_bipush (v := (75 : Int32)) E dX12_init_499 (by decide) ?_
  refine c_bipush (v := (32 : Int32)) E dX12_init_501 (by decide) ?_
  refine c_cast (m' := cmr76) (i := 82) E rfl (by decide) (by decide) dX12_init_503 rfl ?_
  refine c_dup E dX12_init_504 ?_
  refine c_bipush (v := (76 : Int32)) E dX12_init_505 (by decide) ?_
  refine c_bipush (v := (32 : Int32)) E dX12_init_507 (by decide) ?_
  refine c_cast (m' := cmr77) (i := 82) E rfl (by decide) (by decide) dX12_init_509 rfl ?_
  refine c_dup E dX12_init_510 ?_
  refine c_bipush (v := (77 : Int32)) E dX12_init_511 (by decide) ?_
  refine c_bipush (v := (32 : Int32)) E dX12_init_513 (by decide) ?_
  refine c_cast (m' := cmr78) (i := 82) E rfl (by decide) (by decide) dX12_init_515 rfl ?_
  refine c_dup E dX12_init_516 ?_
  refine c_bipush (v := (78 : Int32)) E dX12_init_517 (by decide) ?_
  refine c_bipush (v := (32 : Int32)) E dX12_init_519 (by decide) ?_
  refine c_cast (m' := cmr79) (i := 82) E rfl (by decide) (by decide) dX12_init_521 rfl ?_
  refine c_dup E dX12_init_522 ?_
  refine c_bipush (v := (79 : Int32)) E dX12_init_523 (by decide) ?_
  refine c_bipush (v := (32 : Int32)) E dX12_init_525 (by decide) ?_
  refine c_cast (m' := cmr80) (i := 82) E rfl (by decide) (by decide) dX12_init_527 rfl ?_
  refine c_dup E dX12_init_528 ?_
  refine c_bipush (v := (80 : Int32)) E dX12_init_529 (by decide) ?_
  refine c_bipush (v := (110 : Int32)) E dX12_init_531 (by decide) ?_
  refine c_cast (m' := cmr81) (i := 82) E rfl (by decide) (by decide) dX12_init_533 rfl ?_
  refine c_dup E dX12_init_534 ?_
  refine c_bipush (v := (81 : Int32)) E dX12_init_535 (by decide) ?_
  refine c_bipush (v := (111 : Int32)) E dX12_init_537 (by decide) ?_
  refine c_cast (m' := cmr82) (i := 82) E rfl (by decide) (by decide) dX12_init_539 rfl ?_
  refine c_dup E dX12_init_540 ?_
  refine c_bipush (v := (82 : Int32)) E dX12_init_541 (by decide) ?_
  refine c_bipush (v := (116 : Int32)) E dX12_init_543 (by decide) ?_
  refine c_cast (m' := cmr83) (i := 82) E rfl (by decide) (by decide) dX12_init_545 rfl ?_
  refine c_dup E dX12_init_546 ?_
  refine c_bipush (v := (83 : Int32)) E dX12_init_547 (by decide) ?_
  refine c_bipush (v := (32 : Int32)) E dX12_init_549 (by decide) ?_
  refine c_cast (m' := cmr84) (i := 82) E rfl (by decide) (by decide) dX12_init_551 rfl ?_
  refine c_dup E dX12_init_552 ?_
  refine c_bipush (v := (84 : Int32)) E dX12_init_553 (by decide) ?_
  refine c_bipush (v := (32 : Int32)) E dX12_init_555 (by decide) ?_
  refine c_cast (m' := cmr85) (i := 82) E rfl (by decide) (by decide) dX12_init_557 rfl ?_
  refine c_dup E dX12_init_558 ?_
  refine c_bipush (v := (85 : Int32)) E dX12_init_559 (by decide) ?_
  refine c_bipush (v := (32 : Int32)) E dX12_init_561 (by decide) ?_
  refine c_cast (m' := cmr86) (i := 82) E rfl (by decide) (by decide) dX12_init_563 rfl ?_
  refine c_dup E dX12_init_564 ?_
  refine c_bipush (v := (86 : Int32)) E dX12_init_565 (by decide) ?_
  refine c_bipush (v := (32 : Int32)) E dX12_init_567 (by decide) ?_
  refine c_cast (m' := cmr87) (i := 82) E rfl (by decide) (by decide) dX12_init_569 rfl ?_
  refine c_dup E dX12_init_570 ?_
  refine c_bipush (v := (87 : Int32)) E dX12_init_571 (by decide) ?_
  refine c_bipush (v := (32 : Int32)) E dX12_init_573 (by decide) ?_
  refine c_cast (m' := cmr88) (i := 82) E rfl (by decide) (by decide) dX12_init_575 rfl ?_
  refine c_dup E dX12_init_576 ?_
  refine c_bipush (v := (88 : Int32)) E dX12_init_577 (by decide) ?_
  refine c_bipush (v := (97 : Int32)) E dX12_init_579 (by decide) ?_
  refine c_cast (m' := cmr89) (i := 82) E rfl (by decide) (by decide) dX12_init_581 rfl ?_
  refine c_dup E dX12_init_582 ?_
  refine c_bipush (v := (89 : Int32)) E dX12_init_583 (by decide) ?_
  refine c_bipush (v := (110 : Int32)) E dX12_init_585 (by decide) ?_
  refine c_cast (m' := cmr90) (i := 82) E rfl (by decide) (by decide) dX12_init_587 rfl ?_
  refine c_dup E dX12_init_588 ?_
  refine c_bipush (v := (90 : Int32)) E dX12_init_589 (by decide) ?_
  refine c_bipush (v := (100 : Int32)) E dX12_init_591 (by decide) ?_
  refine c_cast (m' := cmr91) (i := 82) E rfl (by decide) (by decide) dX12_init_593 rfl ?_
  refine c_dup E dX12_init_594 ?_
  refine c_bipush (v := (91 : Int32)) E dX12_init_595 (by decide) ?_
  refine c_bipush (v := (32 : Int32)) E dX12_init_597 (by decide) ?_
  refine c_cast (m' := cmr92) (i := 82) E rfl (by decide) (by decide) dX12_init_599 rfl ?_
  refine c_dup E dX12_init_600 ?_
  refine c_bipush (v := (92 : Int32)) E dX12_init_601 (by decide) ?_
  refine c_bipush (v := (32 : Int32)) E dX12_init_603 (by decide) ?_
  refine c_cast (m' := cmr93) (i := 82) E rfl (by decide) (by decide) dX12_init_605 rfl ?_
  refine c_dup E dX12_init_606 ?_
  refine c_bipush (v := (93 : Int32)) E dX12_init_607 (by decide) ?_
  refine c_bipush (v := (32 : Int32)) E dX12_init_609 (by decide) ?_
  refine c_cast (m' := cmr94) (i := 82) E rfl (by decide) (by decide) dX12_init_611 rfl ?_
  refine c_dup E dX12_init_612 ?_
  refine c_bipush (v := (94 : Int32)) E dX12_init_613 (by decide) ?_
  refine c_bipush (v := (32 : Int32)) E dX12_init_615 (by decide) ?_
  refine c_cast (m' := cmr95) (i := 82) E rfl (by decide) (by decide) dX12_init_617 rfl ?_
  refine c_dup E dX12_init_618 ?_
  refine c_bipush (v := (95 : Int32)) E dX12_init_619 (by decide) ?_
  refine c_bipush (v := (32 : Int32)) E dX12_init_621 (by decide) ?_
  refine c_cast (m' := cmr96) (i := 82) E rfl (by decide) (by decide) dX12_init_623 rfl ?_
  refine c_dup E dX12_init_624 ?_
  refine c_bipush (v := (96 : Int32)) E dX12_init_625 (by decide) ?_
  refine c_bipush (v := (111 : Int32)) E dX12_init_627 (by decide) ?_
  refine c_cast (m' := cmr97) (i := 82) E rfl (by decide) (by decide) dX12_init_629 rfl ?_
  refine c_dup E dX12_init_630 ?_
  refine c_bipush (v := (97 : Int32)) E dX12_init_631 (by decide) ?_
  refine c_bipush (v := (114 : Int32)) E dX12_init_633 (by decide) ?_
  refine c_cast (m' := cmr98) (i := 82) E rfl (by decide) (by decide) dX12_init_635 rfl ?_
  refine c_dup E dX12_init_636 ?_
  refine c_bipush (v := (98 : Int32)) E dX12_init_637 (by decide) ?_
  refine c_bipush (v := (32 : Int32)) E dX12_init_639 (by decide) ?_
  refine c_cast (m' := cmr99) (i := 82) E rfl (by decide) (by decide) dX12_init_641 rfl ?_
  refine c_dup E dX12_init_642 ?_
  refine c_bipush (v := (99 : Int32)) E dX12_init_643 (by decide) ?_
  refine c_bipush (v := (32 : Int32)) E dX12_init_645 (by decide) ?_
  refine c_cast (m' := cmr100) (i := 82) E rfl (by decide) (by decide) dX12_init_647 rfl ?_
  refine c_dup E dX12_init_648 ?_
  refine c_bipush (v := (100 : Int32)) E dX12_init_649 (by decide) ?_
  refine c_bipush (v := (32 : Int32)) E dX12_init_651 (by decide) ?_
  refine c_cast (m' := cmr101) (i := 82) E rfl (by decide) (by decide) dX12_init_653 rfl ?_
  refine c_dup E dX12_init_654 ?_
  refine c_bipush (v := (101 : Int32)) E dX12_init_655 (by decide) ?_
  refine c_bipush (v := (32 : Int32)) E dX12_init_657 (by decide) ?_
  refine c_cast (m' := cmr102) (i := 82) E rfl (by decide) (by decide) dX12_init_659 rfl ?_
  refine c_dup E dX12_init_660 ?_
  refine c_bipush (v := (102 : Int32)) E dX12_init_661 (by decide) ?_
  refine c_bipush (v := (32 : Int32)) E dX12_init_663 (by decide) ?_
  refine c_cast (m' := cmr103) (i := 82) E rfl (by decide) (by decide) dX12_init_665 rfl ?_
  refine c_dup E dX12_init_666 ?_
  refine c_bipush (v := (103 : Int32)) E dX12_init_667 (by decide) ?_
  refine c_bipush (v := (32 : Int32)) E dX12_init_669 (by decide) ?_
  refine c_cast (m' := cmr104) (i := 82) E rfl (by decide) (by decide) dX12_init_671 rfl ?_
  refine c_dup E dX12_init_672 ?_
  refine c_bipush (v := (104 : Int32)) E dX12_init_673 (by decide) ?_
  refine c_bipush (v := (110 : Int32)) E dX12_init_675 (by decide) ?_
  refine c_cast (m' := cmr105) (i := 82) E rfl (by decide) (by decide) dX12_init_677 rfl ?_
  refine c_dup E dX12_init_678 ?_
  refine c_bipush (v := (105 : Int32)) E dX12_init_679 (by decide) ?_
  refine c_bipush (v := (105 : Int32)) E dX12_init_681 (by decide) ?_
  refine c_cast (m' := cmr106) (i := 82) E rfl (by decide) (by decide) dX12_init_683 rfl ?_
  refine c_dup E dX12_init_684 ?_
  refine c_bipush (v := (106 : Int32)) E dX12_init_685 (by decide) ?_
  refine c_bipush (v := (103 : Int32)) E dX12_init_687 (by decide) ?_
  refine c_cast (m' := cmr107) (i := 82) E rfl (by decide) (by decide) dX12_init_689 rfl ?_
  refine c_dup E dX12_init_690 ?_
  refine c_bipush (v := (107 : Int32)) E dX12_init_691 (by decide) ?_
  refine c_bipush (v := (104 : Int32)) E dX12_init_693 (by decide) ?_
  refine c_cast (m' := cmr108) (i := 82) E rfl (by decide) (by decide) dX12_init_695 rfl ?_
  refine c_dup E dX12_init_696 ?_
  refine c_bipush (v := (108 : Int32)) E dX12_init_697 (by decide) ?_
  refine c_bipush (v := (116 : Int32)) E dX12_init_699 (by decide) ?_
  refine c_cast (m' := cmr109) (i := 82) E rfl (by decide) (by decide) dX12_init_701 rfl ?_
  refine c_dup E dX12_init_702 ?_
  refine c_bipush (v := (109 : Int32)) E dX12_init_703 (by decide) ?_
  refine c_bipush (v := (32 : Int32)) E dX12_init_705 (by decide) ?_
  refine c_cast (m' := cmr110) (i := 82) E rfl (by decide) (by decide) dX12_init_707 rfl ?_
  refine c_dup E dX12_init_708 ?_
  refine c_bipush (v := (110 : Int32)) E dX12_init_709 (by decide) ?_
  refine c_bipush (v := (32 : Int32)) E dX12_init_711 (by decide) ?_
  refine c_cast (m' := cmr111) (i := 82) E rfl (by decide) (by decide) dX12_init_713 rfl ?_
  refine c_dup E dX12_init_714 ?_
  refine c_bipush (v := (111 : Int32)) E dX12_init_715 (by decide) ?_
  refine c_bipush (v := (32 : Int32)) E dX12_init_717 (by decide) ?_
  refine c_cast (m' := cmr112) (i := 82) E rfl (by decide) (by decide) dX12_init_719 rfl ?_
  refine c_dup E dX12_init_720 ?_
  refine c_bipush (v := (112 : Int32)) E dX12_init_721 (by decide) ?_
  refine c_bipush (v := (103 : Int32)) E dX12_init_723 (by decide) ?_
  refine c_cast (m' := cmr113) (i := 82) E rfl (by decide) (by decide) dX12_init_725 rfl ?_
  refine c_dup E dX12_init_726 ?_
  refine c_bipush (v := (113 : Int32)) E dX12_init_727 (by decide) ?_
  refine c_bipush (v := (114 : Int32)) E dX12_init_729 (by decide) ?_
  refine c_cast (m' := cmr114) (i := 82) E rfl (by decide) (by decide) dX12_init_731 rfl ?_
  refine c_dup E dX12_init_732 ?_
  refine c_bipush (v := (114 : Int32)) E dX12_init_733 (by decide) ?_
  refine c_bipush (v := (101 : Int32)) E dX12_init_735 (by decide) ?_
  refine c_cast (m' := cmr115) (i := 82) E rfl (by decide) (by decide) dX12_init_737 rfl ?_
  refine c_dup E dX12_init_738 ?_
  refine c_bipush (v := (115 : Int32)) E dX12_init_739 (by decide) ?_
  refine c_bipush (v := (101 : Int32)) E dX12_init_741 (by decide) ?_
  refine c_cast (m' := cmr116) (i := 82) E rfl (by decide) (by decide) dX12_init_743 rfl ?_
  refine c_dup E dX12_init_744 ?_
  refine c_bipush (v := (116 : Int32)) E dX12_init_745 (by decide) ?_
  refine c_bipush (v := (100 : Int32)) E dX12_init_747 (by decide) ?_
  refine c_cast (m' := cmr117) (i := 82) E rfl (by decide) (by decide) dX12_init_749 rfl ?_
  refine c_dup E dX12_init_750 ?_
  refine c_bipush (v := (117 : Int32)) E dX12_init_751 (by decide) ?_
  refine c_bipush (v := (32 : Int32)) E dX12_init_753 (by decide) ?_
  refine c_cast (m' := cmr118) (i := 82) E rfl (by decide) (by decide) dX12_init_755 rfl ?_
  refine c_dup E dX12_init_756 ?_
  refine c_bipush (v := (118 : Int32)) E dX12_init_757 (by decide) ?_
  refine c_bipush (v := (32 : Int32)) E dX12_init_759 (by decide) ?_
  refine c_cast (m' := cmr119) (i := 82) E rfl (by decide) (by decide) dX12_init_761 rfl ?_
  refine c_dup E dX12_init_762 ?_
  refine c_bipush (v := (119 : Int32)) E dX12_init_763 (by decide) ?_
  refine c_bipush (v := (32 : Int32)) E dX12_init_765 (by decide) ?_
  refine c_cast (m' := cmr120) (i := 82) E rfl (by decide) (by decide) dX12_init_767 rfl ?_
  refine c_dup E dX12_init_768 ?_
  refine c_bipush (v := (120 : Int32)) E dX12_init_769 (by decide) ?_
  refine c_bipush (v := (118 : Int32)) E dX12_init_771 (by decide) ?_
  refine c_cast (m' := cmr121) (i := 82) E rfl (by decide) (by decide) dX12_init_773 rfl ?_
  refine c_dup E dX12_init_774 ?_
  refine c_bipush (v := (121 : Int32)) E dX12_init_775 (by decide) ?_
  refine c_bipush (v := (111 : Int32)) E dX12_init_777 (by decide) ?_
  refine c_cast (m' := cmr122) (i := 82) E rfl (by decide) (by decide) dX12_init_779 rfl ?_
  refine c_dup E dX12_init_780 ?_
  refine c_bipush (v := (122 : Int32)) E dX12_init_781 (by decide) ?_
  refine c_bipush (v := (116 : Int32)) E dX12_init_783 (by decide) ?_
  refine c_cast (m' := cmr123) (i := 82) E rfl (by decide) (by decide) dX12_init_785 rfl ?_
  refine c_dup E dX12_init_786 ?_
  refine c_bipush (v := (123 : Int32)) E dX12_init_787 (by decide) ?_
  refine c_bipush (v := (101 : Int32)) E dX12_init_789 (by decide) ?_
  refine c_cast (m' := cmr124) (i := 82) E rfl (by decide) (by decide) dX12_init_791 rfl ?_
  refine c_dup E dX12_init_792 ?_
  refine c_bipush (v := (124 : Int32)) E dX12_init_793 (by decide) ?_
  refine c_bipush (v := (115 : Int32)) E dX12_init_795 (by decide) ?_
  refine c_cast (m' := cmr125) (i := 82) E rfl (by decide) (by decide) dX12_init_797 rfl ?_
  refine c_dup E dX12_init_798 ?_
  refine c_bipush (v := (125 : Int32)) E dX12_init_799 (by decide) ?_
  refine c_bipush (v := (32 : Int32)) E dX12_init_801 (by decide) ?_
  refine c_cast (m' := cmr126) (i := 82) E rfl (by decide) (by decide) dX12_init_803 rfl ?_
  refine c_dup E dX12_init_804 ?_
  refine c_bipush (v := (126 : Int32)) E dX12_init_805 (by decide) ?_
  refine c_bipush (v := (32 : Int32)) E dX12_init_807 (by decide) ?_
  refine c_cast (m' := cmr127) (i := 82) E rfl (by decide) (by decide) dX12_init_809 rfl ?_
  refine c_dup E dX12_init_810 ?_
  refine c_bipush (v := (127 : Int32)) E dX12_init_811 (by decide) ?_
  refine c_bipush (v := (32 : Int32)) E dX12_init_813 (by decide) ?_
  refine c_cast (m' := cmr128) (i := 82) E rfl (by decide) (by decide) dX12_init_815 rfl ?_
  refine c_dup E dX12_init_816 ?_
  refine c_sipush (v := (128 : Int32)) E dX12_init_817 (by decide) ?_
  refine c_bipush (v := (108 : Int32)) E dX12_init_820 (by decide) ?_
  refine c_cast (m' := cmr129) (i := 82) E rfl (by decide) (by decide) dX12_init_822 rfl ?_
  refine c_dup E dX12_init_823 ?_
  refine c_sipush (v := (129 : Int32)) E dX12_init_824 (by decide) ?_
  refine c_bipush (v := (105 : Int32)) E dX12_init_827 (by decide) ?_
  refine c_cast (m' := cmr130) (i := 82) E rfl (by decide) (by decide) dX12_init_829 rfl ?_
  refine c_dup E dX12_init_830 ?_
  refine c_sipush (v := (130 : Int32)) E dX12_init_831 (by decide) ?_
  refine c_bipush (v := (103 : Int32)) E dX12_init_834 (by decide) ?_
  refine c_cast (m' := cmr131) (i := 82) E rfl (by decide) (by decide) dX12_init_836 rfl ?_
  refine c_dup E dX12_init_837 ?_
  refine c_sipush (v := (131 : Int32)) E dX12_init_838 (by decide) ?_
  refine c_bipush (v := (104 : Int32)) E dX12_init_841 (by decide) ?_
  refine c_cast (m' := cmr132) (i := 82) E rfl (by decide) (by decide) dX12_init_843 rfl ?_
  refine c_dup E dX12_init_844 ?_
  refine c_sipush (v := (132 : Int32)) E dX12_init_845 (by decide) ?_
  refine c_bipush (v := (116 : Int32)) E dX12_init_848 (by decide) ?_
  refine c_cast (m' := cmr133) (i := 82) E rfl (by decide) (by decide) dX12_init_850 rfl ?_
  refine c_dup E dX12_init_851 ?_
  refine c_sipush (v := (133 : Int32)) E dX12_init_852 (by decide) ?_
  refine c_bipush (v := (32 : Int32)) E dX12_init_855 (by decide) ?_
  refine c_cast (m' := cmr134) (i := 82) E rfl (by decide) (by decide) dX12_init_857 rfl ?_
  refine c_dup E dX12_init_858 ?_
  refine c_sipush (v := (134 : Int32)) E dX12_init_859 (by decide) ?_
  refine c_bipush (v := (32 : Int32)) E dX12_init_862 (by decide) ?_
  refine c_cast (m' := cmr135) (i := 82) E rfl (by decide) (by decide) dX12_init_864 rfl ?_
  refine c_dup E dX12_init_865 ?_
  refine c_sipush (v := (135 : Int32)) E dX12_init_866 (by decide) ?_
  refine c_bipush (v := (32 : Int32)) E dX12_init_869 (by decide) ?_
  refine c_cast (m' := cmr136) (i := 82) E rfl (by decide) (by decide) dX12_init_871 rfl ?_
  refine c_dup E dX12_init_872 ?_
  refine c_sipush (v := (136 : Int32)) E dX12_init_873 (by decide) ?_
  refine c_bipush (v := (110 : Int32)) E dX12_init_876 (by decide) ?_
  refine c_cast (m' := cmr137) (i := 82) E rfl (by decide) (by decide) dX12_init_878 rfl ?_
  refine c_dup E dX12_init_879 ?_
  refine c_sipush (v := (137 : Int32)) E dX12_init_880 (by decide) ?_
  refine c_bipush (v := (117 : Int32)) E dX12_init_883 (by decide) ?_
  refine c_cast (m' := cmr138) (i := 82) E rfl (by decide) (by decide) dX12_init_885 rfl ?_
  refine c_dup E dX12_init_886 ?_
  refine c_sipush (v := (138 : Int32)) E dX12_init_887 (by decide) ?_
  refine c_bipush (v := (109 : Int32)) E dX12_init_890 (by decide) ?_
  refine c_cast (m' := cmr139) (i := 82) E rfl (by decide) (by decide) dX12_init_892 rfl ?_
  refine c_dup E dX12_init_893 ?_
  refine c_sipush (v := (139 : Int32)) E dX12_init_894 (by decide) ?_
  refine c_bipush (v := (98 : Int32)) E dX12_init_897 (by decide) ?_
  refine c_cast (m' := cmr140) (i := 82) E rfl (by decide) (by decide) dX12_init_899 rfl ?_
  refine c_dup E dX12_init_900 ?_
  refine c_sipush (v := (140 : Int32)) E dX12_init_901 (by decide) ?_
  refine c_bipush (v := (101 : Int32)) E dX12_init_904 (by decide) ?_
  refine c_cast (m' := cmr141) (i := 82) E rfl (by decide) (by decide) dX12_init_906 rfl ?_
  refine c_dup E dX12_init_907 ?_
  refine c_sipush (v := (141 : Int32)) E dX12_init_908 (by decide) ?_
  refine c_bipush (v := (114 : Int32)) E dX12_init_911 (by decide) ?_
  refine c_cast (m' := cmr142) (i := 82) E rfl (by decide) (by decide) dX12_init_913 rfl ?_
  refine c_dup E dX12_init_914 ?_
  refine c_sipush (v := (142 : Int32)) E dX12_init_915 (by decide) ?_
  refine c_bipush (v := (32 : Int32)) E dX12_init_918 (by decide) ?_
  refine c_cast (m' := cmr143) (i := 82) E rfl (by decide) (by decide) dX12_init_920 rfl ?_
  refine c_dup E dX12_init_921 ?_
  refine c_sipush (v := (143 : Int32)) E dX12_init_922 (by decide) ?_
  refine c_bipush (v := (32 : Int32)) E dX12_init_925 (by decide) ?_
  refine c_cast (m' := cmr144) (i := 82) E rfl (by decide) (by decide) dX12_init_927 rfl ?_
  refine c_putr (w' := cwr13) (T := TX12) (ty := tyX12 7) (k := 7) (i := 76) E rfl (by decide) rfl inX12 tyX12 tyX12_ok nmX12 (by decide) W1246 rfl rfl (tyX12_ok 7 (by decide)) (fun _ => rfl) (fun _ => rfl) dX12_init_928 rfl ?_
  refine c_aload0 E dX12_init_931 rfl ?_
  refine c_sipush (v := (200 : Int32)) E dX12_init_932 (by decide) ?_
  refine c_newI (atype := .int) (w' := cwr14) (t := 0) (n := 200) 83 E W155 rfl (Or.inl ⟨rfl, rfl⟩) (by decide) (by decide) (by decide) rfl (by decide +kernel) (by decide +kernel) (by decide +kernel) (by decide +kernel) (by decide) (by decide) dX12_init_935 rfl ?_
  refine c_putr (w' := cwr15) (T := TX12) (ty := tyX12 14) (k := 14) (i := 76) E rfl (by decide) rfl inX12 tyX12 tyX12_ok nmX12 (by decide) W1253 rfl rfl (tyX12_ok 14 (by decide)) (fun _ => rfl) (fun _ => rfl) dX12_init_937 rfl ?_
  refine c_aload0 E dX12_init_940 rfl ?_
  refine c_bipush (v := (24 : Int32)) E dX12_init_941 (by decide) ?_
  refine c_newI (atype := .int) (w' := cwr16) (t := 0) (n := 24) 84 E W155 rfl (Or.inl ⟨rfl, rfl⟩) (by decide) (by decide) (by decide) rfl (by decide +kernel) (by decide +kernel) (by decide +kernel) (by decide +kernel) (by decide) (by decide) dX12_init_943 rfl ?_
  refine c_putr (w' := cwr17) (T := TX12) (ty := tyX12 15) (k := 15) (i := 76) E rfl (by decide) rfl inX12 tyX12 tyX12_ok nmX12 (by decide) W1254 rfl rfl (tyX12_ok 15 (by decide)) (fun _ => rfl) (fun _ => rfl) dX12_init_945 rfl ?_
  refine c_aload0 E dX12_init_948 rfl ?_
  refine c_sipush (v := (335 : Int32)) E dX12_init_949 (by decide) ?_
  refine c_newI (atype := .int) (w' := cwr18) (t := 0) (n := 335) 85 E W155 rfl (Or.inl ⟨rfl, rfl⟩) (by decide) (by decide) (by decide) rfl (by decide +kernel) (by decide +kernel) (by decide +kernel) (by decide +kernel) (by decide) (by decide) dX12_init_952 rfl ?_
  refine c_putr (w' := cwr19) (T := TX12) (ty := tyX12 17) (k := 17) (i := 76) E rfl (by decide) rfl inX12 tyX12 tyX12_ok nmX12 (by decide) W1256 rfl rfl (tyX12_ok 17 (by decide)) (fun _ => rfl) (fun _ => rfl) dX12_init_954 rfl ?_
  refine c_aload0 E dX12_init_957 rfl ?_
  refine c_iconst (v := (4 : Int32)) E dX12_init_958 (by decide) ?_
  refine c_newI (atype := .int) (w' := cwr20) (t := 0) (n := 4) 86 E W155 rfl (Or.inl ⟨rfl, rfl⟩) (by decide) (by decide) (by decide) rfl (by decide +kernel) (by decide +kernel) (by decide +kernel) (by decide +kernel) (by decide) (by decide) dX12_init_959 rfl ?_
  refine c_putr (w' := cwr21) (T := TX12) (ty := tyX12 18) (k := 18) (i := 76) E rfl (by decide) rfl inX12 tyX12 tyX12_ok nmX12 (by decide) W1257 rfl rfl (tyX12_ok 18 (by decide)) (fun _ => rfl) (fun _ => rfl) dX12_init_961 rfl ?_
  refine c_aload0 E dX12_init_964 rfl ?_
  refine c_iconst (v := (4 : Int32)) E dX12_init_965 (by decide) ?_
  refine c_newI (atype := .int) (w' := cwr22) (t := 0) (n := 4) 87 E W155 rfl (Or.inl ⟨rfl, rfl⟩) (by decide) (by decide) (by decide) rfl (by decide +kernel) (by decide +kernel) (by decide +kernel) (by decide +kernel) (by decide) (by decide) dX12_init_966 rfl ?_
  refine c_putr (w' := cwr23) (T := TX12) (ty := tyX12 19) (k := 19) (i := 76) E rfl (by decide) rfl inX12 tyX12 tyX12_ok nmX12 (by decide) W1258 rfl rfl (tyX12_ok 19 (by decide)) (fun _ => rfl) (fun _ => rfl) dX12_init_968 rfl ?_
  refine c_aload0 E dX12_init_971 rfl ?_
  refine c_bipush (v := (16 : Int32)) E dX12_init_972 (by decide) ?_
  refine c_newI (atype := .int) (w' := cwr24) (t := 0) (n := 16) 88 E W155 rfl (Or.inl ⟨rfl, rfl⟩) (by decide) (by decide) (by decide) rfl (by decide +kernel) (by decide +kernel) (by decide +kernel) (by decide +kernel) (by decide) (by decide) dX12_init_974 rfl ?_
  refine c_putr (w' := cwr25) (T := TX12) (ty := tyX12 24) (k := 24) (i := 76) E rfl (by decide) rfl inX12 tyX12 tyX12_ok nmX12 (by decide) W1263 rfl rfl (tyX12_ok 24 (by decide)) (fun _ => rfl) (fun _ => rfl) dX12_init_976 rfl ?_
  refine c_aload0 E dX12_init_979 rfl ?_
  refine c_bipush (v := (16 : Int32)) E dX12_init_980 (by decide) ?_
  refine c_newI (atype := .int) (w' := cwr26) (t := 0) (n := 16) 89 E W155 rfl (Or.inl ⟨rfl, rfl⟩) (by decide) (by decide) (by decide) rfl (by decide +kernel) (by decide +kernel) (by decide +kernel) (by decide +kernel) (by decide) (by decide) dX12_init_982 rfl ?_
  refine c_putr (w' := cwr27) (T := TX12) (ty := tyX12 25) (k := 25) (i := 76) E rfl (by decide) rfl inX12 tyX12 tyX12_ok nmX12 (by decide) W1264 rfl rfl (tyX12_ok 25 (by decide)) (fun _ => rfl) (fun _ => rfl) dX12_init_984 rfl ?_
  refine c_aload0 E dX12_init_987 rfl ?_
  refine c_bipush (v := (12 : Int32)) E dX12_init_988 (by decide) ?_
  refine c_newI (atype := .int) (w' := cwr28) (t := 0) (n := 12) 90 E W155 rfl (Or.inl ⟨rfl, rfl⟩) (by decide) (by decide) (by decide) rfl (by decide +kernel) (by decide +kernel) (by decide +kernel) (by decide +kernel) (by decide) (by decide) dX12_init_990 rfl ?_
  refine c_putr (w' := cwr29) (T := TX12) (ty := tyX12 27) (k := 27) (i := 76) E rfl (by decide) rfl inX12 tyX12 tyX12_ok nmX12 (by decide) W1266 rfl rfl (tyX12_ok 27 (by decide)) (fun _ => rfl) (fun _ => rfl) dX12_init_992 rfl ?_
  refine c_aload0 E dX12_init_995 rfl ?_
  refine c_iconst (v := (4 : Int32)) E dX12_init_996 (by decide) ?_
  refine c_newI (atype := .int) (w' := cwr30) (t := 0) (n := 4) 91 E W155 rfl (Or.inl ⟨rfl, rfl⟩) (by decide) (by decide) (by decide) rfl (by decide +kernel) (by decide +kernel) (by decide +kernel) (by decide +kernel) (by decide) (by decide) dX12_init_997 rfl ?_
  refine c_dup E dX12_init_999 ?_
  refine c_iconst (v := (0 : Int32)) E dX12_init_1000 (by decide) ?_
  refine c_iconst (v := (-1 : Int32)) E dX12_init_1001 (by decide) ?_
  refine c_iast (m' := cmr145) (i := 91) E rfl (by decide) dX12_init_1002 rfl ?_
  refine c_dup E dX12_init_1003 ?_
  refine c_iconst (v := (1 : Int32)) E dX12_init_1004 (by decide) ?_
  refine c_iconst (v := (-1 : Int32)) E dX12_init_1005 (by decide) ?_
  refine c_iast (m' := cmr146) (i := 91) E rfl (by decide) dX12_init_1006 rfl ?_
  refine c_dup E dX12_init_1007 ?_
  refine c_iconst (v := (2 : Int32)) E dX12_init_1008 (by decide) ?_
  refine c_iconst (v := (-1 : Int32)) E dX12_init_1009 (by decide) ?_
  refine c_iast (m' := cmr147) (i := 91) E rfl (by decide) dX12_init_1010 rfl ?_
  refine c_dup E dX12_init_1011 ?_
  refine c_iconst (v := (3 : Int32)) E dX12_init_1012 (by decide) ?_
  refine c_iconst (v := (-1 : Int32)) E dX12_init_1013 (by decide) ?_
  refine c_iast (m' := cmr148) (i := 91) E rfl (by decide) dX12_init_1014 rfl ?_
  refine c_putr (w' := cwr31) (T := TX12) (ty := tyX12 29) (k := 29) (i := 76) E rfl (by decide) rfl inX12 tyX12 tyX12_ok nmX12 (by decide) W1268 rfl rfl (tyX12_ok 29 (by decide)) (fun _ => rfl) (fun _ => rfl) dX12_init_1015 rfl ?_
  refine c_aload0 E dX12_init_1018 rfl ?_
  refine c_iconst (v := (4 : Int32)) E dX12_init_1019 (by decide) ?_
  refine c_newI (atype := .int) (w' := cwr32) (t := 0) (n := 4) 92 E W155 rfl (Or.inl ⟨rfl, rfl⟩) (by decide) (by decide) (by decide) rfl (by decide +kernel) (by decide +kernel) (by decide +kernel) (by decide +kernel) (by decide) (by decide) dX12_init_1020 rfl ?_
  refine c_putr (w' := cwr33) (T := TX12) (ty := tyX12 30) (k := 30) (i := 76) E rfl (by decide) rfl inX12 tyX12 tyX12_ok nmX12 (by decide) W1269 rfl rfl (tyX12_ok 30 (by decide)) (fun _ => rfl) (fun _ => rfl) dX12_init_1022 rfl ?_
  refine c_aload0 E dX12_init_1025 rfl ?_
  refine c_sipush (v := (160 : Int32)) E dX12_init_1026 (by decide) ?_
  refine c_newI (atype := .int) (w' := cwr34) (t := 0) (n := 160) 93 E W155 rfl (Or.inl ⟨rfl, rfl⟩) (by decide) (by decide) (by decide) rfl (by decide +kernel) (by decide +kernel) (by decide +kernel) (by decide +kernel) (by decide) (by decide) dX12_init_1029 rfl ?_
  refine c_putr (w' := cwr35) (T := TX12) (ty := tyX12 31) (k := 31) (i := 76) E rfl (by decide) rfl inX12 tyX12 tyX12_ok nmX12 (by decide) W1270 rfl rfl (tyX12_ok 31 (by decide)) (fun _ => rfl) (fun _ => rfl) dX12_init_1031 rfl ?_
  refine c_aload0 E dX12_init_1034 rfl ?_
  refine c_iconst (v := (4 : Int32)) E dX12_init_1035 (by decide) ?_
  refine c_newI (atype := .int) (w' := cwr36) (t := 0) (n := 4) 94 E W155 rfl (Or.inl ⟨rfl, rfl⟩) (by decide) (by decide) (by decide) rfl (by decide +kernel) (by decide +kernel) (by decide +kernel) (by decide +kernel) (by decide) (by decide) dX12_init_1036 rfl ?_
  refine c_dup E dX12_init_1038 ?_
  refine c_iconst (v := (0 : Int32)) E dX12_init_1039 (by decide) ?_
  refine c_iconst (v := (-1 : Int32)) E dX12_init_1040 (by decide) ?_
  refine c_iast (m' := cmr149) (i := 94) E rfl (by decide) dX12_init_1041 rfl ?_
  refine c_dup E dX12_init_1042 ?_
  refine c_iconst (v := (1 : Int32)) E dX12_init_1043 (by decide) ?_
  refine c_iconst (v := (-1 : Int32)) E dX12_init_1044 (by decide) ?_
  refine c_iast (m' := cmr150) (i := 94) E rfl (by decide) dX12_init_1045 rfl ?_
  refine c_dup E dX12_init_1046 ?_
  refine c_iconst (v := (2 : Int32)) E dX12_init_1047 (by decide) ?_
  refine c_iconst (v := (-1 : Int32)) E dX12_init_1048 (by decide) ?_
  refine c_iast (m' := cmr151) (i := 94) E rfl (by decide) dX12_init_1049 rfl ?_
  refine c_dup E dX12_init_1050 ?_
  refine c_iconst (v := (3 : Int32)) E dX12_init_1051 (by decide) ?_
  refine c_iconst (v := (-1 : Int32)) E dX12_init_1052 (by decide) ?_
  refine c_iast (m' := cmr152) (i := 94) E rfl (by decide) dX12_init_1053 rfl ?_
  refine c_putr (w' := cwr37) (T := TX12) (ty := tyX12 32) (k := 32) (i := 76) E rfl (by decide) rfl inX12 tyX12 tyX12_ok nmX12 (by decide) W1271 rfl rfl (tyX12_ok 32 (by decide)) (fun _ => rfl) (fun _ => rfl) dX12_init_1054 rfl ?_
  refine c_aload0 E dX12_init_1057 rfl ?_
  refine c_iconst (v := (4 : Int32)) E dX12_init_1058 (by decide) ?_
  refine c_newI (atype := .int) (w' := cwr38) (t := 0) (n := 4) 95 E W155 rfl (Or.inl ⟨rfl, rfl⟩) (by decide) (by decide) (by decide) rfl (by decide +kernel) (by decide +kernel) (by decide +kernel) (by decide +kernel) (by decide) (by decide) dX12_init_1059 rfl ?_
  refine c_putr (w' := cwr39) (T := TX12) (ty := tyX12 33) (k := 33) (i := 76) E rfl (by decide) rfl inX12 tyX12 tyX12_ok nmX12 (by decide) W1272 rfl rfl (tyX12_ok 33 (by decide)) (fun _ => rfl) (fun _ => rfl) dX12_init_1061 rfl ?_
  refine c_aload0 E dX12_init_1064 rfl ?_
  refine c_bipush (v := (30 : Int32)) E dX12_init_1065 (by decide) ?_
  refine c_newI (atype := .int) (w' := cwr40) (t := 0) (n := 30) 96 E W155 rfl (Or.inl ⟨rfl, rfl⟩) (by decide) (by decide) (by decide) rfl (by decide +kernel) (by decide +kernel) (by decide +kernel) (by decide +kernel) (by decide) (by decide) dX12_init_1067 rfl ?_
  refine c_putr (w' := cwr41) (T := TX12) (ty := tyX12 34) (k := 34) (i := 76) E rfl (by decide) rfl inX12 tyX12 tyX12_ok nmX12 (by decide) W1273 rfl rfl (tyX12_ok 34 (by decide)) (fun _ => rfl) (fun _ => rfl) dX12_init_1069 rfl ?_
  refine c_aload0 E dX12_init_1072 rfl ?_
  refine c_getr (T := TX12) (k := 0) (i := 76) E rfl rfl rfl inX12 (by decide) W1239 dX12_init_1073 ?_
  refine c_iconst (v := (1 : Int32)) E dX12_init_1076 (by decide) ?_
  refine c_bipush (v := (12 : Int32)) E dX12_init_1077 (by decide) ?_
  refine c_iast (m' := cmr153) (i := 77) E rfl (by decide) dX12_init_1079 rfl ?_
  refine c_aload0 E dX12_init_1080 rfl ?_
  refine c_getr (T := TX12) (k := 0) (i := 76) E rfl rfl rfl inX12 (by decide) W1239 dX12_init_1081 ?_
  refine c_iconst (v := (3 : Int32)) E dX12_init_1084 (by decide) ?_
  refine c_iconst (v := (5 : Int32)) E dX12_init_1085 (by decide) ?_
  refine c_iast (m' := cmr154) (i := 77) E rfl (by decide) dX12_init_1086 rfl ?_
  refine c_aload0 E dX12_init_1087 rfl ?_
  refine c_getr (T := TX12) (k := 0) (i := 76) E rfl rfl rfl inX12 (by decide) W1239 dX12_init_1088 ?_
  refine c_iconst (v := (5 : Int32)) E dX12_init_1091 (by decide) ?_
  refine c_iconst (v := (1 : Int32)) E dX12_init_1092 (by decide) ?_
  refine c_iast (m' := cmr155) (i := 77) E rfl (by decide) dX12_init_1093 rfl ?_
  refine c_iconst (v := (0 : Int32)) E dX12_init_1094 (by decide) ?_
  refine c_istore1 E dX12_init_1095 hn rfl ?_
  refine c_iload1 E dX12_init_1096 rfl ?_
  refine c_bipush (v := (16 : Int32)) E dX12_init_1097 (by decide) ?_
  refine c_geF 1119 E dX12_init_1099 (by decide) (by decide) ?_
  refine c_aload0 E dX12_init_1102 rfl ?_
  refine c_getr (T := TX12) (k := 0) (i := 76) E rfl rfl rfl inX12 (by decide) W1239 dX12_init_1103 ?_
  refine c_bipush (v := (9 : Int32)) E dX12_init_1106 (by decide) ?_
  refine c_iload1 E dX12_init_1108 rfl ?_
  refine c_iadd (c := (9 : Int32)) E dX12_init_1109 (by decide) ?_
  refine c_bipush (v := (6 : Int32)) E dX12_init_1110 (by decide) ?_
  refine c_iast (m' := cmr156) (i := 77) E rfl (by decide) dX12_init_1112 rfl ?_
  refine c_iinc1 (u := (1 : Int32)) E dX12_init_1113 hn (by decide) ?_
  refine c_goto 1096 E dX12_init_1116 (by decide) ?_
  refine c_iload1 E dX12_init_1096 rfl ?_
  refine c_bipush (v := (16 : Int32)) E dX12_init_1097 (by decide) ?_
  refine c_geF 1119 E dX12_init_1099 (by decide) (by decide) ?_
  refine c_aload0 E dX12_init_1102 rfl ?_
  refine c_getr (T := TX12) (k := 0) (i := 76) E rfl rfl rfl inX12 (by decide) W1239 dX12_init_1103 ?_
  refine c_bipush (v := (9 : Int32)) E dX12_init_1106 (by decide) ?_
  refine c_iload1 E dX12_init_1108 rfl ?_
  refine c_iadd (c := (10 : Int32)) E dX12_init_1109 (by decide) ?_
  refine c_bipush (v := (6 : Int32)) E dX12_init_1110 (by decide) ?_
  refine c_iast (m' := cmr157) (i := 77) E rfl (by decide) dX12_init_1112 rfl ?_
  refine c_iinc1 (u := (2 : Int32)) E dX12_init_1113 hn (by decide) ?_
  refine c_goto 1096 E dX12_init_1116 (by decide) ?_
  refine c_iload1 E dX12_init_1096 rfl ?_
  refine c_bipush (v := (16 : Int32)) E dX12_init_1097 (by decide) ?_
  refine c_geF 1119 E dX12_init_1099 (by decide) (by decide) ?_
  refine c_aload0 E dX12_init_1102 rfl ?_
  refine c_getr (T := TX12) (k := 0) (i := 76) E rfl rfl rfl inX12 (by decide) W1239 dX12_init_1103 ?_
  refine c_bipush (v := (9 : Int32)) E dX12_init_1106 (by decide) ?_
  refine c_iload1 E dX12_init_1108 rfl ?_
  refine c_iadd (c := (11 : Int32)) E dX12_init_1109 (by decide) ?_
  refine c_bipush (v := (6 : Int32)) E dX12_init_1110 (by decide) ?_
  refine c_iast (m' := cmr158) (i := 77) E rfl (by decide) dX12_init_1112 rfl ?_
  refine c_iinc1 (u := (3 : Int32)) E dX12_init_1113 hn (by decide) ?_
  refine c_goto 1096 E dX12_init_1116 (by decide) ?_
  refine c_iload1 E dX12_init_1096 rfl ?_
  refine c_bipush (v := (16 : Int32)) E dX12_init_1097 (by decide) ?_
  refine c_geF 1119 E dX12_init_1099 (by decide) (by decide) ?_
  refine c_aload0 E dX12_init_1102 rfl ?_
  refine c_getr (T := TX12) (k := 0) (i := 76) E rfl rfl rfl inX12 (by decide) W1239 dX12_init_1103 ?_
  refine c_bipush (v := (9 : Int32)) E dX12_init_1106 (by decide) ?_
  refine c_iload1 E dX12_init_1108 rfl ?_
  refine c_iadd (c := (12 : Int32)) E dX12_init_1109 (by decide) ?_
  refine c_bipush (v := (6 : Int32)) E dX12_init_1110 (by decide) ?_
  refine c_iast (m' := cmr159) (i := 77) E rfl (by decide) dX12_init_1112 rfl ?_
  refine c_iinc1 (u := (4 : Int32)) E dX12_init_1113 hn (by decide) ?_
  refine c_goto 1096 E dX12_init_1116 (by decide) ?_
  refine c_iload1 E dX12_init_1096 rfl ?_
  refine c_bipush (v := (16 : Int32)) E dX12_init_1097 (by decide) ?_
  refine c_geF 1119 E dX12_init_1099 (by decide) (by decide) ?_
  refine c_aload0 E dX12_init_1102 rfl ?_
  refine c_getr (T := TX12) (k := 0) (i := 76) E rfl rfl rfl inX12 (by decide) W1239 dX12_init_1103 ?_
  refine c_bipush (v := (9 : Int32)) E dX12_init_1106 (by decide) ?_
  refine c_iload1 E dX12_init_1108 rfl ?_
  refine c_iadd (c := (13 : Int32)) E dX12_init_1109 (by decide) ?_
  refine c_bipush (v := (6 : Int32)) E dX12_init_1110 (by decide) ?_
  refine c_iast (m' := cmr160) (i := 77) E rfl (by decide) dX12_init_1112 rfl ?_
  refine c_iinc1 (u := (5 : Int32)) E dX12_init_1113 hn (by decide) ?_
  refine c_goto 1096 E dX12_init_1116 (by decide) ?_
  refine c_iload1 E dX12_init_1096 rfl ?_
  refine c_bipush (v := (16 : Int32)) E dX12_init_1097 (by decide) ?_
  refine c_geF 1119 E dX12_init_1099 (by decide) (by decide) ?_
  refine c_aload0 E dX12_init_1102 rfl ?_
  refine c_getr (T := TX12) (k := 0) (i := 76) E rfl rfl rfl inX12 (by decide) W1239 dX12_init_1103 ?_
  refine c_bipush (v := (9 : Int32)) E dX12_init_1106 (by decide) ?_
  refine c_iload1 E dX12_init_1108 rfl ?_
  refine c_iadd (c := (14 : Int32)) E dX12_init_1109 (by decide) ?_
  refine c_bipush (v := (6 : Int32)) E dX12_init_1110 (by decide) ?_
  refine c_iast (m' := cmr161) (i := 77) E rfl (by decide) dX12_init_1112 rfl ?_
  refine c_iinc1 (u := (6 : Int32)) E dX12_init_1113 hn (by decide) ?_
  refine c_goto 1096 E dX12_init_1116 (by decide) ?_
  refine c_iload1 E dX12_init_1096 rfl ?_
  refine c_bipush (v := (16 : Int32)) E dX12_init_1097 (by decide) ?_
  refine c_geF 1119 E dX12_init_1099 (by decide) (by decide) ?_
  refine c_aload0 E dX12_init_1102 rfl ?_
  refine c_getr (T := TX12) (k := 0) (i := 76) E rfl rfl rfl inX12 (by decide) W1239 dX12_init_1103 ?_
  refine c_bipush (v := (9 : Int32)) E dX12_init_1106 (by decide) ?_
  refine c_iload1 E dX12_init_1108 rfl ?_
  refine c_iadd (c := (15 : Int32)) E dX12_init_1109 (by decide) ?_
  refine c_bipush (v := (6 : Int32)) E dX12_init_1110 (by decide) ?_
  refine c_iast (m' := cmr162) (i := 77) E rfl (by decide) dX12_init_1112 rfl ?_
  refine c_iinc1 (u := (7 : Int32)) E dX12_init_1113 hn (by decide) ?_
  refine c_goto 1096 E dX12_init_1116 (by decide) ?_
  refine c_iload1 E dX12_init_1096 rfl ?_
  refine c_bipush (v := (16 : Int32)) E dX12_init_1097 (by decide) ?_
  refine c_geF 1119 E dX12_init_1099 (by decide) (by decide) ?_
  refine c_aload0 E dX12_init_1102 rfl ?_
  refine c_getr (T := TX12) (k := 0) (i := 76) E rfl rfl rfl inX12 (by decide) W1239 dX12_init_1103 ?_
  refine c_bipush (v := (9 : Int32)) E dX12_init_1106 (by decide) ?_
  refine c_iload1 E dX12_init_1108 rfl ?_
  refine c_iadd (c := (16 : Int32)) E dX12_init_1109 (by decide) ?_
  refine c_bipush (v := (6 : Int32)) E dX12_init_1110 (by decide) ?_
  refine c_iast (m' := cmr163) (i := 77) E rfl (by decide) dX12_init_1112 rfl ?_
  refine c_iinc1 (u := (8 : Int32)) E dX12_init_1113 hn (by decide) ?_
  refine c_goto 1096 E dX12_init_1116 (by decide) ?_
  refine c_iload1 E dX12_init_1096 rfl ?_
  refine c_bipush (v := (16 : Int32)) E dX12_init_1097 (by decide) ?_
  refine c_geF 1119 E dX12_init_1099 (by decide) (by decide) ?_
  refine c_aload0 E dX12_init_1102 rfl ?_
  refine c_getr (T := TX12) (k := 0) (i := 76) E rfl rfl rfl inX12 (by decide) W1239 dX12_init_1103 ?_
  refine c_bipush (v := (9 : Int32)) E dX12_init_1106 (by decide) ?_
  refine c_iload1 E dX12_init_1108 rfl ?_
  refine c_iadd (c := (17 : Int32)) E dX12_init_1109 (by decide) ?_
  refine c_bipush (v := (6 : Int32)) E dX12_init_1110 (by decide) ?_
  refine c_iast (m' := cmr164) (i := 77) E rfl (by decide) dX12_init_1112 rfl ?_
  refine c_iinc1 (u := (9 : Int32)) E dX12_init_1113 hn (by decide) ?_
  refine c_goto 1096 E dX12_init_1116 (by decide) ?_
  refine c_iload1 E dX12_init_1096 rfl ?_
  refine c_bipush (v := (16 : Int32)) E dX12_init_1097 (by decide) ?_
  refine c_geF 1119 E dX12_init_1099 (by decide) (by decide) ?_
  refine c_aload0 E dX12_init_1102 rfl ?_
  refine c_getr (T := TX12) (k := 0) (i := 76) E rfl rfl rfl inX12 (by decide) W1239 dX12_init_1103 ?_
  refine c_bipush (v := (9 : Int32)) E dX12_init_1106 (by decide) ?_
  refine c_iload1 E dX12_init_1108 rfl ?_
  refine c_iadd (c := (18 : Int32)) E dX12_init_1109 (by decide) ?_
  refine c_bipush (v := (6 : Int32)) E dX12_init_1110 (by decide) ?_
  refine c_iast (m' := cmr165) (i := 77) E rfl (by decide) dX12_init_1112 rfl ?_
  refine c_iinc1 (u := (10 : Int32)) E dX12_init_1113 hn (by decide) ?_
  refine c_goto 1096 E dX12_init_1116 (by decide) ?_
  refine c_iload1 E dX12_init_1096 rfl ?_
  refine c_bipush (v := (16 : Int32)) E dX12_init_1097 (by decide) ?_
  refine c_geF 1119 E dX12_init_1099 (by decide) (by decide) ?_
  refine c_aload0 E dX12_init_1102 rfl ?_
  refine c_getr (T := TX12) (k := 0) (i := 76) E rfl rfl rfl inX12 (by decide) W1239 dX12_init_1103 ?_
  refine c_bipush (v := (9 : Int32)) E dX12_init_1106 (by decide) ?_
  refine c_iload1 E dX12_init_1108 rfl ?_
  refine c_iadd (c := (19 : Int32)) E dX12_init_1109 (by decide) ?_
  refine c_bipush (v := (6 : Int32)) E dX12_init_1110 (by decide) ?_
  refine c_iast (m' := cmr166) (i := 77) E rfl (by decide) dX12_init_1112 rfl ?_
  refine c_iinc1 (u := (11 : Int32)) E dX12_init_1113 hn (by decide) ?_
  refine c_goto 1096 E dX12_init_1116 (by decide) ?_
  refine c_iload1 E dX12_init_1096 rfl ?_
  refine c_bipush (v := (16 : Int32)) E dX12_init_1097 (by decide) ?_
  refine c_geF 1119 E dX12_init_1099 (by decide) (by decide) ?_
  refine c_aload0 E dX12_init_1102 rfl ?_
  refine c_getr (T := TX12) (k := 0) (i := 76) E rfl rfl rfl inX12 (by decide) W1239 dX12_init_1103 ?_
  refine c_bipush (v := (9 : Int32)) E dX12_init_1106 (by decide) ?_
  refine c_iload1 E dX12_init_1108 rfl ?_
  refine c_iadd (c := (20 : Int32)) E dX12_init_1109 (by decide) ?_
  refine c_bipush (v := (6 : Int32)) E dX12_init_1110 (by decide) ?_
  refine c_iast (m' := cmr167) (i := 77) E rfl (by decide) dX12_init_1112 rfl ?_
  refine c_iinc1 (u := (12 : Int32)) E dX12_init_1113 hn (by decide) ?_
  refine c_goto 1096 E dX12_init_1116 (by decide) ?_
  refine c_iload1 E dX12_init_1096 rfl ?_
  refine c_bipush (v := (16 : Int32)) E dX12_init_1097 (by decide) ?_
  refine c_geF 1119 E dX12_init_1099 (by decide) (by decide) ?_
  refine c_aload0 E dX12_init_1102 rfl ?_
  refine c_getr (T := TX12) (k := 0) (i := 76) E rfl rfl rfl inX12 (by decide) W1239 dX12_init_1103 ?_
  refine c_bipush (v := (9 : Int32)) E dX12_init_1106 (by decide) ?_
  refine c_iload1 E dX12_init_1108 rfl ?_
  refine c_iadd (c := (21 : Int32)) E dX12_init_1109 (by decide) ?_
  refine c_bipush (v := (6 : Int32)) E dX12_init_1110 (by decide) ?_
  refine c_iast (m' := cmr168) (i := 77) E rfl (by decide) dX12_init_1112 rfl ?_
  refine c_iinc1 (u := (13 : Int32)) E dX12_init_1113 hn (by decide) ?_
  refine c_goto 1096 E dX12_init_1116 (by decide) ?_
  refine c_iload1 E dX12_init_1096 rfl ?_
  refine c_bipush (v := (16 : Int32)) E dX12_init_1097 (by decide) ?_
  refine c_geF 1119 E dX12_init_1099 (by decide) (by decide) ?_
  refine c_aload0 E dX12_init_1102 rfl ?_
  refine c_getr (T := TX12) (k := 0) (i := 76) E rfl rfl rfl inX12 (by decide) W1239 dX12_init_1103 ?_
  refine c_bipush (v := (9 : Int32)) E dX12_init_1106 (by decide) ?_
  refine c_iload1 E dX12_init_1108 rfl ?_
  refine c_iadd (c := (22 : Int32)) E dX12_init_1109 (by decide) ?_
  refine c_bipush (v := (6 : Int32)) E dX12_init_1110 (by decide) ?_
  refine c_iast (m' := cmr169) (i := 77) E rfl (by decide) dX12_init_1112 rfl ?_
  refine c_iinc1 (u := (14 : Int32)) E dX12_init_1113 hn (by decide) ?_
  refine c_goto 1096 E dX12_init_1116 (by decide) ?_
  refine c_iload1 E dX12_init_1096 rfl ?_
  refine c_bipush (v := (16 : Int32)) E dX12_init_1097 (by decide) ?_
  refine c_geF 1119 E dX12_init_1099 (by decide) (by decide) ?_
  refine c_aload0 E dX12_init_1102 rfl ?_
  refine c_getr (T := TX12) (k := 0) (i := 76) E rfl rfl rfl inX12 (by decide) W1239 dX12_init_1103 ?_
  refine c_bipush (v := (9 : Int32)) E dX12_init_1106 (by decide) ?_
  refine c_iload1 E dX12_init_1108 rfl ?_
  refine c_iadd (c := (23 : Int32)) E dX12_init_1109 (by decide) ?_
  refine c_bipush (v := (6 : Int32)) E dX12_init_1110 (by decide) ?_
  refine c_iast (m' := cmr170) (i := 77) E rfl (by decide) dX12_init_1112 rfl ?_
  refine c_iinc1 (u := (15 : Int32)) E dX12_init_1113 hn (by decide) ?_
  refine c_goto 1096 E dX12_init_1116 (by decide) ?_
  refine c_iload1 E dX12_init_1096 rfl ?_
  refine c_bipush (v := (16 : Int32)) E dX12_init_1097 (by decide) ?_
  refine c_geF 1119 E dX12_init_1099 (by decide) (by decide) ?_
  refine c_aload0 E dX12_init_1102 rfl ?_
  refine c_getr (T := TX12) (k := 0) (i := 76) E rfl rfl rfl inX12 (by decide) W1239 dX12_init_1103 ?_
  refine c_bipush (v := (9 : Int32)) E dX12_init_1106 (by decide) ?_
  refine c_iload1 E dX12_init_1108 rfl ?_
  refine c_iadd (c := (24 : Int32)) E dX12_init_1109 (by decide) ?_
  refine c_bipush (v := (6 : Int32)) E dX12_init_1110 (by decide) ?_
  refine c_iast (m' := cmr171) (i := 77) E rfl (by decide) dX12_init_1112 rfl ?_
  refine c_iinc1 (u := (16 : Int32)) E dX12_init_1113 hn (by decide) ?_
  refine c_goto 1096 E dX12_init_1116 (by decide) ?_
  refine c_iload1 E dX12_init_1096 rfl ?_
  refine c_bipush (v := (16 : Int32)) E dX12_init_1097 (by decide) ?_
  refine c_geT 1119 E dX12_init_1099 (by decide) (by decide) ?_
  exact c_ret E dX12_init_1119 rfl rfl rfl rfl
