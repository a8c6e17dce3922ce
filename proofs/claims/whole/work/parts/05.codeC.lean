theorem dX6_init_0 : decode cX6_init 0 = .ok (.aload_n 0, 1) := by decide +kernel
theorem dX6_init_1 : decode cX6_init 1 = .ok (.invokespecial 1, 3) := by decide +kernel
theorem dX6_init_4 : decode cX6_init 4 = .ok (.aload_n 0, 1) := by decide +kernel
theorem dX6_init_5 : decode cX6_init 5 = .ok (.bipush 7, 2) := by decide +kernel
theorem dX6_init_7 : decode cX6_init 7 = .ok (.newarray .int, 2) := by decide +kernel
theorem dX6_init_9 : decode cX6_init 9 = .ok (.putfield 7, 3) := by decide +kernel
theorem dX6_init_12 : decode cX6_init 12 = .ok (.aload_n 0, 1) := by decide +kernel
theorem dX6_init_13 : decode cX6_init 13 = .ok (.invokestatic 13, 3) := by decide +kernel
theorem dX6_init_16 : decode cX6_init 16 = .ok (.putfield 17, 3) := by decide +kernel
theorem dX6_init_19 : decode cX6_init 19 = .ok (.aload_n 0, 1) := by decide +kernel
theorem dX6_init_20 : decode cX6_init 20 = .ok (.bipush 97, 2) := by decide +kernel
theorem dX6_init_22 : decode cX6_init 22 = .ok (.newarray .int, 2) := by decide +kernel
theorem dX6_init_24 : decode cX6_init 24 = .ok (.putfield 20, 3) := by decide +kernel
theorem dX6_init_27 : decode cX6_init 27 = .ok (.aload_n 0, 1) := by decide +kernel
theorem dX6_init_28 : decode cX6_init 28 = .ok (.bipush 97, 2) := by decide +kernel
theorem dX6_init_30 : decode cX6_init 30 = .ok (.newarray .int, 2) := by decide +kernel
theorem dX6_init_32 : decode cX6_init 32 = .ok (.putfield 23, 3) := by decide +kernel
theorem dX6_init_35 : decode cX6_init 35 = .ok (.aload_n 0, 1) := by decide +kernel
theorem dX6_init_36 : decode cX6_init 36 = .ok (.sipush 250, 3) := by decide +kernel
theorem dX6_init_39 : decode cX6_init 39 = .ok (.newarray .int, 2) := by decide +kernel
theorem dX6_init_41 : decode cX6_init 41 = .ok (.putfield 26, 3) := by decide +kernel
theorem dX6_init_44 : decode cX6_init 44 = .ok (.aload_n 0, 1) := by decide +kernel
theorem dX6_init_45 : decode cX6_init 45 = .ok (.bipush 48, 2) := by decide +kernel
theorem dX6_init_47 : decode cX6_init 47 = .ok (.newarray .char, 2) := by decide +kernel
theorem dX6_init_49 : decode cX6_init 49 = .ok (.dup, 1) := by decide +kernel
theorem dX6_init_50 : decode cX6_init 50 = .ok (.iconst 0, 1) := by decide +kernel
theorem dX6_init_51 : decode cX6_init 51 = .ok (.bipush 115, 2) := by decide +kernel
theorem dX6_init_53 : decode cX6_init 53 = .ok (.castore, 1) := by decide +kernel
theorem dX6_init_54 : decode cX6_init 54 = .ok (.dup, 1) := by decide +kernel
theorem dX6_init_55 : decode cX6_init 55 = .ok (.iconst 1, 1) := by decide +kernel
theorem dX6_init_56 : decode cX6_init 56 = .ok (.bipush 105, 2) := by decide +kernel
theorem dX6_init_58 : decode cX6_init 58 = .ok (.castore, 1) := by decide +kernel
theorem dX6_init_59 : decode cX6_init 59 = .ok (.dup, 1) := by decide +kernel
theorem dX6_init_60 : decode cX6_init 60 = .ok (.iconst 2, 1) := by decide +kernel
theorem dX6_init_61 : decode cX6_init 61 = .ok (.bipush 100, 2) := by decide +kernel
theorem dX6_init_63 : decode cX6_init 63 = .ok (.castore, 1) := by decide +kernel
theorem dX6_init_64 : decode cX6_init 64 = .ok (.dup, 1) := by decide +kernel
theorem dX6_init_65 : decode cX6_init 65 = .ok (.iconst 3, 1) := by decide +kernel
theorem dX6_init_66 : decode cX6_init 66 = .ok (.bipush 101, 2) := by decide +kernel
theorem dX6_init_68 : decode cX6_init 68 = .ok (.castore, 1) := by decide +kernel
theorem dX6_init_69 : decode cX6_init 69 = .ok (.dup, 1) := by decide +kernel
theorem dX6_init_70 : decode cX6_init 70 = .ok (.iconst 4, 1) := by decide +kernel
theorem dX6_init_71 : decode cX6_init 71 = .ok (.iconst 0, 1) := by decide +kernel
theorem dX6_init_72 : decode cX6_init 72 = .ok (.castore, 1) := by decide +kernel
theorem dX6_init_73 : decode cX6_init 73 = .ok (.dup, 1) := by decide +kernel
theorem dX6_init_74 : decode cX6_init 74 = .ok (.iconst 5, 1) := by decide +kernel
theorem dX6_init_75 : decode cX6_init 75 = .ok (.iconst 0, 1) := by decide +kernel
theorem dX6_init_76 : decode cX6_init 76 = .ok (.castore, 1) := by decide +kernel
theorem dX6_init_77 : decode cX6_init 77 = .ok (.dup, 1) := by decide +kernel
theorem dX6_init_78 : decode cX6_init 78 = .ok (.bipush 6, 2) := by decide +kernel
theorem dX6_init_80 : decode cX6_init 80 = .ok (.bipush 112, 2) := by decide +kernel
theorem dX6_init_82 : decode cX6_init 82 = .ok (.castore, 1) := by decide +kernel
theorem dX6_init_83 : decode cX6_init 83 = .ok (.dup, 1) := by decide +kernel
theorem dX6_init_84 : decode cX6_init 84 = .ok (.bipush 7, 2) := by decide +kernel
theorem dX6_init_86 : decode cX6_init 86 = .ok (.bipush 111, 2) := by decide +kernel
theorem dX6_init_88 : decode cX6_init 88 = .ok (.castore, 1) := by decide +kernel
theorem dX6_init_89 : decode cX6_init 89 = .ok (.dup, 1) := by decide +kernel
theorem dX6_init_90 : decode cX6_init 90 = .ok (.bipush 8, 2) := by decide +kernel
theorem dX6_init_92 : decode cX6_init 92 = .ok (.bipush 110, 2) := by decide +kernel
theorem dX6_init_94 : decode cX6_init 94 = .ok (.castore, 1) := by decide +kernel
theorem dX6_init_95 : decode cX6_init 95 = .ok (.dup, 1) := by decide +kernel
theorem dX6_init_96 : decode cX6_init 96 = .ok (.bipush 9, 2) := by decide +kernel
theorem dX6_init_98 : decode cX6_init 98 = .ok (.bipush 100, 2) := by decide +kernel
theorem dX6_init_100 : decode cX6_init 100 = .ok (.castore, 1) := by decide +kernel
theorem dX6_init_101 : decode cX6_init 101 = .ok (.dup, 1) := by decide +kernel
theorem dX6_init_102 : decode cX6_init 102 = .ok (.bipush 10, 2) := by decide +kernel
theorem dX6_init_104 : decode cX6_init 104 = .ok (.iconst 0, 1) := by decide +kernel
theorem dX6_init_105 : decode cX6_init 105 = .ok (.castore, 1) := by decide +kernel
theorem dX6_init_106 : decode cX6_init 106 = .ok (.dup, 1) := by decide +kernel
theorem dX6_init_107 : decode cX6_init 107 = .ok (.bipush 11, 2) := by decide +kernel
theorem dX6_init_109 : decode cX6_init 109 = .ok (.iconst 0, 1) := by decide +kernel
theorem dX6_init_110 : decode cX6_init 110 = .ok (.castore, 1) := by decide +kernel
theorem dX6_init_111 : decode cX6_init 111 = .ok (.dup, 1) := by decide +kernel
theorem dX6_init_112 : decode cX6_init 112 = .ok (.bipush 12, 2) := by decide +kernel
theorem dX6_init_114 : decode cX6_init 114 = .ok (.bipush 100, 2) := by decide +kernel
theorem dX6_init_116 : decode cX6_init 116 = .ok (.castore, 1) := by decide +kernel
theorem dX6_init_117 : decode cX6_init 117 = .ok (.dup, 1) := by decide +kernel
theorem dX6_init_118 : decode cX6_init 118 = .ok (.bipush 13, 2) := by decide +kernel
theorem dX6_init_120 : decode cX6_init 120 = .ok (.bipush 114, 2) := by decide +kernel
theorem dX6_init_122 : decode cX6_init 122 = .ok (.castore, 1) := by decide +kernel
theorem dX6_init_123 : decode cX6_init 123 = .ok (.dup, 1) := by decide +kernel
theorem dX6_init_124 : decode cX6_init 124 = .ok (.bipush 14, 2) := by decide +kernel
theorem dX6_init_126 : decode cX6_init 126 = .ok (.bipush 121, 2) := by decide +kernel
theorem dX6_init_128 : decode cX6_init 128 = .ok (.castore, 1) := by decide +kernel
theorem dX6_init_129 : decode cX6_init 129 = .ok (.dup, 1) := by decide +kernel
theorem dX6_init_130 : decode cX6_init 130 = .ok (.bipush 15, 2) := by decide +kernel
theorem dX6_init_132 : decode cX6_init 132 = .ok (.iconst 0, 1) := by decide +kernel
theorem dX6_init_133 : decode cX6_init 133 = .ok (.castore, 1) := by decide +kernel
theorem dX6_init_134 : decode cX6_init 134 = .ok (.dup, 1) := by decide +kernel
theorem dX6_init_135 : decode cX6_init 135 = .ok (.bipush 16, 2) := by decide +kernel
theorem dX6_init_137 : decode cX6_init 137 = .ok (.iconst 0, 1) := by decide +kernel
theorem dX6_init_138 : decode cX6_init 138 = .ok (.castore, 1) := by decide +kernel
theorem dX6_init_139 : decode cX6_init 139 = .ok (.dup, 1) := by decide +kernel
theorem dX6_init_140 : decode cX6_init 140 = .ok (.bipush 17, 2) := by decide +kernel
theorem dX6_init_142 : decode cX6_init 142 = .ok (.iconst 0, 1) := by decide +kernel
theorem dX6_init_143 : decode cX6_init 143 = .ok (.castore, 1) := by decide +kernel
theorem dX6_init_144 : decode cX6_init 144 = .ok (.dup, 1) := by decide +kernel
theorem dX6_init_145 : decode cX6_init 145 = .ok (.bipush 18, 2) := by decide +kernel
theorem dX6_init_147 : decode cX6_init 147 = .ok (.bipush 112, 2) := by decide +kernel
theorem dX6_init_149 : decode cX6_init 149 = .ok (.castore, 1) := by decide +kernel
theorem dX6_init_150 : decode cX6_init 150 = .ok (.dup, 1) := by decide +kernel
theorem dX6_init_151 : decode cX6_init 151 = .ok (.bipush 19, 2) := by decide +kernel
theorem dX6_init_153 : decode cX6_init 153 = .ok (.bipush 101, 2) := by decide +kernel
theorem dX6_init_155 : decode cX6_init 155 = .ok (.castore, 1) := by decide +kernel
theorem dX6_init_156 : decode cX6_init 156 = .ok (.dup, 1) := by decide +kernel
theorem dX6_init_157 : decode cX6_init 157 = .ok (.bipush 20, 2) := by decide +kernel
theorem dX6_init_159 : decode cX6_init 159 = .ok (.bipush 114, 2) := by decide +kernel
theorem dX6_init_161 : decode cX6_init 161 = .ok (.castore, 1) := by decide +kernel
theorem dX6_init_162 : decode cX6_init 162 = .ok (.dup, 1) := by decide +kernel
theorem dX6_init_163 : decode cX6_init 163 = .ok (.bipush 21, 2) := by decide +kernel
theorem dX6_init_165 : decode cX6_init 165 = .ok (.bipush 115, 2) := by decide +kernel
theorem dX6_init_167 : decode cX6_init 167 = .ok (.castore, 1) := by decide +kernel
theorem dX6_init_168 : decode cX6_init 168 = .ok (.dup, 1) := by decide +kernel
theorem dX6_init_169 : decode cX6_init 169 = .ok (.bipush 22, 2) := by decide +kernel
theorem dX6_init_171 : decode cX6_init 171 = .ok (.bipush 111, 2) := by decide +kernel
theorem dX6_init_173 : decode cX6_init 173 = .ok (.castore, 1) := by decide +kernel
theorem dX6_init_174 : decode cX6_init 174 = .ok (.dup, 1) := by decide +kernel
theorem dX6_init_175 : decode cX6_init 175 = .ok (.bipush 23, 2) := by decide +kernel
theorem dX6_init_177 : decode cX6_init 177 = .ok (.bipush 110, 2) := by decide +kernel
theorem dX6_init_179 : decode cX6_init 179 = .ok (.castore, 1) := by decide +kernel
theorem dX6_init_180 : decode cX6_init 180 = .ok (.dup, 1) := by decide +kernel
theorem dX6_init_181 : decode cX6_init 181 = .ok (.bipush 24, 2) := by decide +kernel
theorem dX6_init_183 : decode cX6_init 183 = .ok (.bipush 105, 2) := by decide +kernel
theorem dX6_init_185 : decode cX6_init 185 = .ok (.castore, 1) := by decide +kernel
theorem dX6_init_186 : decode cX6_init 186 = .ok (.dup, 1) := by decide +kernel
theorem dX6_init_187 : decode cX6_init 187 = .ok (.bipush 25, 2) := by decide +kernel
theorem dX6_init_189 : decode cX6_init 189 = .ok (.bipush 115, 2) := by decide +kernel
theorem dX6_init_191 : decode cX6_init 191 = .ok (.castore, 1) := by decide +kernel
theorem dX6_init_192 : decode cX6_init 192 = .ok (.dup, 1) := by decide +kernel
theorem dX6_init_193 : decode cX6_init 193 = .ok (.bipush 26, 2) := by decide +kernel
theorem dX6_init_195 : decode cX6_init 195 = .ok (.iconst 0, 1) := by decide +kernel
theorem dX6_init_196 : decode cX6_init 196 = .ok (.castore, 1) := by decide +kernel
theorem dX6_init_197 : decode cX6_init 197 = .ok (.dup, 1) := by decide +kernel
theorem dX6_init_198 : decode cX6_init 198 = .ok (.bipush 27, 2) := by decide +kernel
theorem dX6_init_200 : decode cX6_init 200 = .ok (.iconst 0, 1) := by decide +kernel
theorem dX6_init_201 : decode cX6_init 201 = .ok (.castore, 1) := by decide +kernel
theorem dX6_init_202 : decode cX6_init 202 = .ok (.dup, 1) := by decide +kernel
theorem dX6_init_203 : decode cX6_init 203 = .ok (.bipush 28, 2) := by decide +kernel
theorem dX6_init_205 : decode cX6_init 205 = .ok (.iconst 0, 1) := by decide +kernel
theorem dX6_init_206 : decode cX6_init 206 = .ok (.castore, 1) := by decide +kernel
theorem dX6_init_207 : decode cX6_init 207 = .ok (.dup, 1) := by decide +kernel
theorem dX6_init_208 : decode cX6_init 208 = .ok (.bipush 29, 2) := by decide +kernel
theorem dX6_init_210 : decode cX6_init 210 = .ok (.iconst 0, 1) := by decide +kernel
theorem dX6_init_211 : decode cX6_init 211 = .ok (.castore, 1) := by decide +kernel
theorem dX6_init_212 : decode cX6_init 212 = .ok (.dup, 1) := by decide +kernel
theorem dX6_init_213 : decode cX6_init 213 = .ok (.bipush 30, 2) := by decide +kernel
theorem dX6_init_215 : decode cX6_init 215 = .ok (.bipush 108, 2) := by decide +kernel
theorem dX6_init_217 : decode cX6_init 217 = .ok (.castore, 1) := by decide +kernel
theorem dX6_init_218 : decode cX6_init 218 = .ok (.dup, 1) := by decide +kernel
theorem dX6_init_219 : decode cX6_init 219 = .ok (.bipush 31, 2) := by decide +kernel
theorem dX6_init_221 : decode cX6_init 221 = .ok (.bipush 101, 2) := by decide +kernel
theorem dX6_init_223 : decode cX6_init 223 = .ok (.castore, 1) := by decide +kernel
theorem dX6_init_224 : decode cX6_init 224 = .ok (.dup, 1) := by decide +kernel
theorem dX6_init_225 : decode cX6_init 225 = .ok (.bipush 32, 2) := by decide +kernel
theorem dX6_init_227 : decode cX6_init 227 = .ok (.bipush 102, 2) := by decide +kernel
theorem dX6_init_229 : decode cX6_init 229 = .ok (.castore, 1) := by decide +kernel
theorem dX6_init_230 : decode cX6_init 230 = .ok (.dup, 1) := by decide +kernel
theorem dX6_init_231 : decode cX6_init 231 = .ok (.bipush 33, 2) := by decide +kernel
theorem dX6_init_233 : decode cX6_init 233 = .ok (.bipush 116, 2) := by decide +kernel
theorem dX6_init_235 : decode cX6_init 235 = .ok (.castore, 1) := by decide +kernel
theorem dX6_init_236 : decode cX6_init 236 = .ok (.dup, 1) := by decide +kernel
theorem dX6_init_237 : decode cX6_init 237 = .ok (.bipush 34, 2) := by decide +kernel
theorem dX6_init_239 : decode cX6_init 239 = .ok (.iconst 0, 1) := by decide +kernel
theorem dX6_init_240 : decode cX6_init 240 = .ok (.castore, 1) := by decide +kernel
theorem dX6_init_241 : decode cX6_init 241 = .ok (.dup, 1) := by decide +kernel
theorem dX6_init_242 : decode cX6_init 242 = .ok (.bipush 35, 2) := by decide +kernel
theorem dX6_init_244 : decode cX6_init 244 = .ok (.iconst 0, 1) := by decide +kernel
theorem dX6_init_245 : decode cX6_init 245 = .ok (.castore, 1) := by decide +kernel
theorem dX6_init_246 : decode cX6_init 246 = .ok (.dup, 1) := by decide +kernel
theorem dX6_init_247 : decode cX6_init 247 = .ok (.bipush 36, 2) := by decide +kernel
theorem dX6_init_249 : decode cX6_init 249 = .ok (.bipush 111, 2) := by decide +kernel
theorem dX6_init_251 : decode cX6_init 251 = .ok (.castore, 1) := by decide +kernel
theorem dX6_init_252 : decode cX6_init 252 = .ok (.dup, 1) := by decide +kernel
theorem dX6_init_253 : decode cX6_init 253 = .ok (.bipush 37, 2) := by decide +kernel
theorem dX6_init_255 : decode cX6_init 255 = .ok (.bipush 108, 2) := by decide +kernel
theorem dX6_init_257 : decode cX6_init 257 = .ok (.castore, 1) := by decide +kernel
theorem dX6_init_258 : decode cX6_init 258 = .ok (.dup, 1) := by decide +kernel
theorem dX6_init_259 : decode cX6_init 259 = .ok (.bipush 38, 2) := by decide +kernel
theorem dX6_init_261 : decode cX6_init 261 = .ok (.bipush 100, 2) := by decide +kernel
theorem dX6_init_263 : decode cX6_init 263 = .ok (.castore, 1) := by decide +kernel
theorem dX6_init_264 : decode cX6_init 264 = .ok (.dup, 1) := by decide +kernel
theorem dX6_init_265 : decode cX6_init 265 = .ok (.bipush 39, 2) := by decide +kernel
theorem dX6_init_267 : decode cX6_init 267 = .ok (.iconst 0, 1) := by decide +kernel
theorem dX6_init_268 : decode cX6_init 268 = .ok (.castore, 1) := by decide +kernel
theorem dX6_init_269 : decode cX6_init 269 = .ok (.dup, 1) := by decide +kernel
theorem dX6_init_270 : decode cX6_init 270 = .ok (.bipush 40, 2) := by decide +kernel
theorem dX6_init_272 : decode cX6_init 272 = .ok (.iconst 0, 1) := by decide +kernel
theorem dX6_init_273 : decode cX6_init 273 = .ok (.castore, 1) := by decide +kernel
theorem dX6_init_274 : decode cX6_init 274 = .ok (.dup, 1) := by decide +kernel
theorem dX6_init_275 : decode cX6_init 275 = .ok (.bipush 41, 2) := by decide +kernel
theorem dX6_init_277 : decode cX6_init 277 = .ok (.iconst 0, 1) := by decide +kernel
theorem dX6_init_278 : decode cX6_init 278 = .ok (.castore, 1) := by decide +kernel
theorem dX6_init_279 : decode cX6_init 279 = .ok (.dup, 1) := by decide +kernel
theorem dX6_init_280 : decode cX6_init 280 = .ok (.bipush 42, 2) := by decide +kernel
theorem dX6_init_282 : decode cX6_init 282 = .ok (.bipush 100, 2) := by decide +kernel
theorem dX6_init_284 : decode cX6_init 284 = .ok (.castore, 1) := by decide +kernel
theorem dX6_init_285 : decode cX6_init 285 = .ok (.dup, 1) := by decide +kernel
theorem dX6_init_286 : decode cX6_init 286 = .ok (.bipush 43, 2) := by decide +kernel
theorem dX6_init_288 : decode cX6_init 288 = .ok (.bipush 111, 2) := by decide +kernel
theorem dX6_init_290 : decode cX6_init 290 = .ok (.castore, 1) := by decide +kernel
theorem dX6_init_291 : decode cX6_init 291 = .ok (.dup, 1) := by decide +kernel
theorem dX6_init_292 : decode cX6_init 292 = .ok (.bipush 44, 2) := by decide +kernel
theorem dX6_init_294 : decode cX6_init 294 = .ok (.bipush 117, 2) := by decide +kernel
theorem dX6_init_296 : decode cX6_init 296 = .ok (.castore, 1) := by decide +kernel
theorem dX6_init_297 : decode cX6_init 297 = .ok (.dup, 1) := by decide +kernel
theorem dX6_init_298 : decode cX6_init 298 = .ok (.bipush 45, 2) := by decide +kernel
theorem dX6_init_300 : decode cX6_init 300 = .ok (.bipush 98, 2) := by decide +kernel
theorem dX6_init_302 : decode cX6_init 302 = .ok (.castore, 1) := by decide +kernel
theorem dX6_init_303 : decode cX6_init 303 = .ok (.dup, 1) := by decide +kernel
theorem dX6_init_304 : decode cX6_init 304 = .ok (.bipush 46, 2) := by decide +kernel
theorem dX6_init_306 : decode cX6_init 306 = .ok (.bipush 116, 2) := by decide +kernel
theorem dX6_init_308 : decode cX6_init 308 = .ok (.castore, 1) := by decide +kernel
theorem dX6_init_309 : decode cX6_init 309 = .ok (.dup, 1) := by decide +kernel
theorem dX6_init_310 : decode cX6_init 310 = .ok (.bipush 47, 2) := by decide +kernel
theorem dX6_init_312 : decode cX6_init 312 = .ok (.iconst 0, 1) := by decide +kernel
theorem dX6_init_313 : decode cX6_init 313 = .ok (.castore, 1) := by decide +kernel
theorem dX6_init_314 : decode cX6_init 314 = .ok (.putfield 29, 3) := by decide +kernel
theorem dX6_init_317 : decode cX6_init 317 = .ok (.aload_n 0, 1) := by decide +kernel
theorem dX6_init_318 : decode cX6_init 318 = .ok (.iconst 2, 1) := by decide +kernel
theorem dX6_init_319 : decode cX6_init 319 = .ok (.newarray .int, 2) := by decide +kernel
theorem dX6_init_321 : decode cX6_init 321 = .ok (.putfield 33, 3) := by decide +kernel
theorem dX6_init_324 : decode cX6_init 324 = .ok (.aload_n 0, 1) := by decide +kernel
theorem dX6_init_325 : decode cX6_init 325 = .ok (.iconst 2, 1) := by decide +kernel
theorem dX6_init_326 : decode cX6_init 326 = .ok (.newarray .int, 2) := by decide +kernel
theorem dX6_init_328 : decode cX6_init 328 = .ok (.putfield 36, 3) := by decide +kernel
theorem dX6_init_331 : decode cX6_init 331 = .ok (.aload_n 0, 1) := by decide +kernel
theorem dX6_init_332 : decode cX6_init 332 = .ok (.iconst 2, 1) := by decide +kernel
theorem dX6_init_333 : decode cX6_init 333 = .ok (.newarray .int, 2) := by decide +kernel
theorem dX6_init_335 : decode cX6_init 335 = .ok (.putfield 39, 3) := by decide +kernel
theorem dX6_init_338 : decode cX6_init 338 = .ok (.aload_n 0, 1) := by decide +kernel
theorem dX6_init_339 : decode cX6_init 339 = .ok (.iconst 2, 1) := by decide +kernel
theorem dX6_init_340 : decode cX6_init 340 = .ok (.newarray .int, 2) := by decide +kernel
theorem dX6_init_342 : decode cX6_init 342 = .ok (.putfield 42, 3) := by decide +kernel
theorem dX6_init_345 : decode cX6_init 345 = .ok (.aload_n 0, 1) := by decide +kernel
theorem dX6_init_346 : decode cX6_init 346 = .ok (.iconst 2, 1) := by decide +kernel
theorem dX6_init_347 : decode cX6_init 347 = .ok (.newarray .int, 2) := by decide +kernel
theorem dX6_init_349 : decode cX6_init 349 = .ok (.putfield 45, 3) := by decide +kernel
theorem dX6_init_352 : decode cX6_init 352 = .ok (.aload_n 0, 1) := by decide +kernel
theorem dX6_init_353 : decode cX6_init 353 = .ok (.iconst 2, 1) := by decide +kernel
theorem dX6_init_354 : decode cX6_init 354 = .ok (.newarray .int, 2) := by decide +kernel
theorem dX6_init_356 : decode cX6_init 356 = .ok (.putfield 48, 3) := by decide +kernel
theorem dX6_init_359 : decode cX6_init 359 = .ok (.aload_n 0, 1) := by decide +kernel
theorem dX6_init_360 : decode cX6_init 360 = .ok (.bipush 40, 2) := by decide +kernel
theorem dX6_init_362 : decode cX6_init 362 = .ok (.newarray .int, 2) := by decide +kernel
theorem dX6_init_364 : decode cX6_init 364 = .ok (.putfield 51, 3) := by decide +kernel
theorem dX6_init_367 : decode cX6_init 367 = .ok (.aload_n 0, 1) := by decide +kernel
theorem dX6_init_368 : decode cX6_init 368 = .ok (.bipush 8, 2) := by decide +kernel
theorem dX6_init_370 : decode cX6_init 370 = .ok (.newarray .int, 2) := by decide +kernel
theorem dX6_init_372 : decode cX6_init 372 = .ok (.dup, 1) := by decide +kernel
theorem dX6_init_373 : decode cX6_init 373 = .ok (.iconst 0, 1) := by decide +kernel
theorem dX6_init_374 : decode cX6_init 374 = .ok (.iconst (-1), 1) := by decide +kernel
theorem dX6_init_375 : decode cX6_init 375 = .ok (.iastore, 1) := by decide +kernel
theorem dX6_init_376 : decode cX6_init 376 = .ok (.dup, 1) := by decide +kernel
theorem dX6_init_377 : decode cX6_init 377 = .ok (.iconst 1, 1) := by decide +kernel
theorem dX6_init_378 : decode cX6_init 378 = .ok (.iconst (-1), 1) := by decide +kernel
theorem dX6_init_379 : decode cX6_init 379 = .ok (.iastore, 1) := by decide +kernel
theorem dX6_init_380 : decode cX6_init 380 = .ok (.dup, 1) := by decide +kernel
theorem dX6_init_381 : decode cX6_init 381 = .ok (.iconst 2, 1) := by decide +kernel
theorem dX6_init_382 : decode cX6_init 382 = .ok (.iconst (-1), 1) := by decide +kernel
theorem dX6_init_383 : decode cX6_init 383 = .ok (.iastore, 1) := by decide +kernel
theorem dX6_init_384 : decode cX6_init 384 = .ok (.dup, 1) := by decide +kernel
theorem dX6_init_385 : decode cX6_init 385 = .ok (.iconst 3, 1) := by decide +kernel
theorem dX6_init_386 : decode cX6_init 386 = .ok (.iconst (-1), 1) := by decide +kernel
theorem dX6_init_387 : decode cX6_init 387 = .ok (.iastore, 1) := by decide +kernel
theorem dX6_init_388 : decode cX6_init 388 = .ok (.dup, 1) := by decide +kernel
theorem dX6_init_389 : decode cX6_init 389 = .ok (.iconst 4, 1) := by decide +kernel
theorem dX6_init_390 : decode cX6_init 390 = .ok (.iconst (-1), 1) := by decide +kernel
theorem dX6_init_391 : decode cX6_init 391 = .ok (.iastore, 1) := by decide +kernel
theorem dX6_init_392 : decode cX6_init 392 = .ok (.dup, 1) := by decide +kernel
theorem dX6_init_393 : decode cX6_init 393 = .ok (.iconst 5, 1) := by decide +kernel
theorem dX6_init_394 : decode cX6_init 394 = .ok (.iconst (-1), 1) := by decide +kernel
theorem dX6_init_395 : decode cX6_init 395 = .ok (.iastore, 1) := by decide +kernel
theorem dX6_init_396 : decode cX6_init 396 = .ok (.dup, 1) := by decide +kernel
theorem dX6_init_397 : decode cX6_init 397 = .ok (.bipush 6, 2) := by decide +kernel
theorem dX6_init_399 : decode cX6_init 399 = .ok (.iconst (-1), 1) := by decide +kernel
theorem dX6_init_400 : decode cX6_init 400 = .ok (.iastore, 1) := by decide +kernel
theorem dX6_init_401 : decode cX6_init 401 = .ok (.dup, 1) := by decide +kernel
theorem dX6_init_402 : decode cX6_init 402 = .ok (.bipush 7, 2) := by decide +kernel
theorem dX6_init_404 : decode cX6_init 404 = .ok (.iconst (-1), 1) := by decide +kernel
theorem dX6_init_405 : decode cX6_init 405 = .ok (.iastore, 1) := by decide +kernel
theorem dX6_init_406 : decode cX6_init 406 = .ok (.putfield 54, 3) := by decide +kernel
theorem dX6_init_409 : decode cX6_init 409 = .ok (.aload_n 0, 1) := by decide +kernel
theorem dX6_init_410 : decode cX6_init 410 = .ok (.bipush 8, 2) := by decide +kernel
theorem dX6_init_412 : decode cX6_init 412 = .ok (.newarray .int, 2) := by decide +kernel
theorem dX6_init_414 : decode cX6_init 414 = .ok (.putfield 57, 3) := by decide +kernel
theorem dX6_init_417 : decode cX6_init 417 = .ok (.aload_n 0, 1) := by decide +kernel
theorem dX6_init_418 : decode cX6_init 418 = .ok (.sipush 320, 3) := by decide +kernel
theorem dX6_init_421 : decode cX6_init 421 = .ok (.newarray .long, 2) := by decide +kernel
theorem dX6_init_423 : decode cX6_init 423 = .ok (.putfield 60, 3) := by decide +kernel
theorem dX6_init_426 : decode cX6_init 426 = .ok (.aload_n 0, 1) := by decide +kernel
theorem dX6_init_427 : decode cX6_init 427 = .ok (.bipush 40, 2) := by decide +kernel
theorem dX6_init_429 : decode cX6_init 429 = .ok (.newarray .long, 2) := by decide +kernel
theorem dX6_init_431 : decode cX6_init 431 = .ok (.putfield 64, 3) := by decide +kernel
theorem dX6_init_434 : decode cX6_init 434 = .ok (.aload_n 0, 1) := by decide +kernel
theorem dX6_init_435 : decode cX6_init 435 = .ok (.bipush 6, 2) := by decide +kernel
theorem dX6_init_437 : decode cX6_init 437 = .ok (.newarray .int, 2) := by decide +kernel
theorem dX6_init_439 : decode cX6_init 439 = .ok (.dup, 1) := by decide +kernel
theorem dX6_init_440 : decode cX6_init 440 = .ok (.iconst 0, 1) := by decide +kernel
theorem dX6_init_441 : decode cX6_init 441 = .ok (.iconst (-1), 1) := by decide +kernel
theorem dX6_init_442 : decode cX6_init 442 = .ok (.iastore, 1) := by decide +kernel
theorem dX6_init_443 : decode cX6_init 443 = .ok (.dup, 1) := by decide +kernel
theorem dX6_init_444 : decode cX6_init 444 = .ok (.iconst 1, 1) := by decide +kernel
theorem dX6_init_445 : decode cX6_init 445 = .ok (.iconst 0, 1) := by decide +kernel
theorem dX6_init_446 : decode cX6_init 446 = .ok (.iastore, 1) := by decide +kernel
theorem dX6_init_447 : decode cX6_init 447 = .ok (.dup, 1) := by decide +kernel
theorem dX6_init_448 : decode cX6_init 448 = .ok (.iconst 2, 1) := by decide +kernel
theorem dX6_init_449 : decode cX6_init 449 = .ok (.iconst 0, 1) := by decide +kernel
theorem dX6_init_450 : decode cX6_init 450 = .ok (.iastore, 1) := by decide +kernel
theorem dX6_init_451 : decode cX6_init 451 = .ok (.dup, 1) := by decide +kernel
theorem dX6_init_452 : decode cX6_init 452 = .ok (.iconst 3, 1) := by decide +kernel
theorem dX6_init_453 : decode cX6_init 453 = .ok (.iconst 1, 1) := by decide +kernel
theorem dX6_init_454 : decode cX6_init 454 = .ok (.iastore, 1) := by decide +kernel
theorem dX6_init_455 : decode cX6_init 455 = .ok (.dup, 1) := by decide +kernel
theorem dX6_init_456 : decode cX6_init 456 = .ok (.iconst 4, 1) := by decide +kernel
theorem dX6_init_457 : decode cX6_init 457 = .ok (.iconst 2, 1) := by decide +kernel
theorem dX6_init_458 : decode cX6_init 458 = .ok (.iastore, 1) := by decide +kernel
theorem dX6_init_459 : decode cX6_init 459 = .ok (.dup, 1) := by decide +kernel
theorem dX6_init_460 : decode cX6_init 460 = .ok (.iconst 5, 1) := by decide +kernel
theorem dX6_init_461 : decode cX6_init 461 = .ok (.iconst 0, 1) := by decide +kernel
theorem dX6_init_462 : decode cX6_init 462 = .ok (.iastore, 1) := by decide +kernel
theorem dX6_init_463 : decode cX6_init 463 = .ok (.putfield 67, 3) := by decide +kernel
theorem dX6_init_466 : decode cX6_init 466 = .ok (.aload_n 0, 1) := by decide +kernel
theorem dX6_init_467 : decode cX6_init 467 = .ok (.bipush 8, 2) := by decide +kernel
theorem dX6_init_469 : decode cX6_init 469 = .ok (.newarray .int, 2) := by decide +kernel
theorem dX6_init_471 : decode cX6_init 471 = .ok (.putfield 70, 3) := by decide +kernel
theorem dX6_init_474 : decode cX6_init 474 = .ok (.aload_n 0, 1) := by decide +kernel
theorem dX6_init_475 : decode cX6_init 475 = .ok (.bipush 40, 2) := by decide +kernel
theorem dX6_init_477 : decode cX6_init 477 = .ok (.newarray .int, 2) := by decide +kernel
theorem dX6_init_479 : decode cX6_init 479 = .ok (.putfield 73, 3) := by decide +kernel
theorem dX6_init_482 : decode cX6_init 482 = .ok (.return_, 1) := by decide +kernel
theorem dX6_isIn_0 : decode cX6_isIn 0 = .ok (.lload_n 0, 1) := by decide +kernel
theorem dX6_isIn_1 : decode cX6_isIn 1 = .ok (.lload_n 2, 1) := by decide +kernel
theorem dX6_isIn_2 : decode cX6_isIn 2 = .ok (.lcmp, 1) := by decide +kernel
theorem dX6_isIn_3 : decode cX6_isIn 3 = .ok (.ifCond .lt 14, 3) := by decide +kernel
theorem dX6_isIn_6 : decode cX6_isIn 6 = .ok (.lload_n 0, 1) := by decide +kernel
theorem dX6_isIn_7 : decode cX6_isIn 7 = .ok (.lload 4, 2) := by decide +kernel
theorem dX6_isIn_9 : decode cX6_isIn 9 = .ok (.lcmp, 1) := by decide +kernel
theorem dX6_isIn_10 : decode cX6_isIn 10 = .ok (.ifCond .gt 7, 3) := by decide +kernel
theorem dX6_isIn_13 : decode cX6_isIn 13 = .ok (.iconst 1, 1) := by decide +kernel
theorem dX6_isIn_14 : decode cX6_isIn 14 = .ok (.goto 4, 3) := by decide +kernel
theorem dX6_isIn_17 : decode cX6_isIn 17 = .ok (.iconst 0, 1) := by decide +kernel
theorem dX6_isIn_18 : decode cX6_isIn 18 = .ok (.ireturn, 1) := by decide +kernel
theorem dX6_refuse_0 : decode cX6_refuse 0 = .ok (.aload_n 0, 1) := by decide +kernel
theorem dX6_refuse_1 : decode cX6_refuse 1 = .ok (.getfield 7, 3) := by decide +kernel
theorem dX6_refuse_4 : decode cX6_refuse 4 = .ok (.iload_n 1, 1) := by decide +kernel
theorem dX6_refuse_5 : decode cX6_refuse 5 = .ok (.ineg, 1) := by decide +kernel
theorem dX6_refuse_6 : decode cX6_refuse 6 = .ok (.dup2, 1) := by decide +kernel
theorem dX6_refuse_7 : decode cX6_refuse 7 = .ok (.iaload, 1) := by decide +kernel
theorem dX6_refuse_8 : decode cX6_refuse 8 = .ok (.iconst 1, 1) := by decide +kernel
theorem dX6_refuse_9 : decode cX6_refuse 9 = .ok (.iadd, 1) := by decide +kernel
theorem dX6_refuse_10 : decode cX6_refuse 10 = .ok (.iastore, 1) := by decide +kernel
theorem dX6_refuse_11 : decode cX6_refuse 11 = .ok (.iload_n 1, 1) := by decide +kernel
theorem dX6_refuse_12 : decode cX6_refuse 12 = .ok (.ireturn, 1) := by decide +kernel
theorem dX6_fresh_0 : decode cX6_fresh 0 = .ok (.bipush 97, 2) := by decide +kernel
theorem dX6_fresh_2 : decode cX6_fresh 2 = .ok (.newarray .int, 2) := by decide +kernel
theorem dX6_fresh_4 : decode cX6_fresh 4 = .ok (.astore_n 0, 1) := by decide +kernel
theorem dX6_fresh_5 : decode cX6_fresh 5 = .ok (.aload_n 0, 1) := by decide +kernel
theorem dX6_fresh_6 : decode cX6_fresh 6 = .ok (.bipush 90, 2) := by decide +kernel
theorem dX6_fresh_8 : decode cX6_fresh 8 = .ok (.iconst 5, 1) := by decide +kernel
theorem dX6_fresh_9 : decode cX6_fresh 9 = .ok (.iastore, 1) := by decide +kernel
theorem dX6_fresh_10 : decode cX6_fresh 10 = .ok (.aload_n 0, 1) := by decide +kernel
theorem dX6_fresh_11 : decode cX6_fresh 11 = .ok (.bipush 93, 2) := by decide +kernel
theorem dX6_fresh_13 : decode cX6_fresh 13 = .ok (.iconst 3, 1) := by decide +kernel
theorem dX6_fresh_14 : decode cX6_fresh 14 = .ok (.iastore, 1) := by decide +kernel
theorem dX6_fresh_15 : decode cX6_fresh 15 = .ok (.aload_n 0, 1) := by decide +kernel
theorem dX6_fresh_16 : decode cX6_fresh 16 = .ok (.bipush 96, 2) := by decide +kernel
theorem dX6_fresh_18 : decode cX6_fresh 18 = .ok (.iconst 1, 1) := by decide +kernel
theorem dX6_fresh_19 : decode cX6_fresh 19 = .ok (.iastore, 1) := by decide +kernel
theorem dX6_fresh_20 : decode cX6_fresh 20 = .ok (.aload_n 0, 1) := by decide +kernel
theorem dX6_fresh_21 : decode cX6_fresh 21 = .ok (.areturn, 1) := by decide +kernel
theorem dX6_move_0 : decode cX6_move 0 = .ok (.iconst 0, 1) := by decide +kernel
theorem dX6_move_1 : decode cX6_move 1 = .ok (.istore_n 2, 1) := by decide +kernel
theorem dX6_move_2 : decode cX6_move 2 = .ok (.iload_n 2, 1) := by decide +kernel
theorem dX6_move_3 : decode cX6_move 3 = .ok (.bipush 97, 2) := by decide +kernel
theorem dX6_move_5 : decode cX6_move 5 = .ok (.if_icmp .ge 15, 3) := by decide +kernel
theorem dX6_move_8 : decode cX6_move 8 = .ok (.aload_n 1, 1) := by decide +kernel
theorem dX6_move_9 : decode cX6_move 9 = .ok (.iload_n 2, 1) := by decide +kernel
theorem dX6_move_10 : decode cX6_move 10 = .ok (.aload_n 0, 1) := by decide +kernel
theorem dX6_move_11 : decode cX6_move 11 = .ok (.iload_n 2, 1) := by decide +kernel
theorem dX6_move_12 : decode cX6_move 12 = .ok (.iaload, 1) := by decide +kernel
theorem dX6_move_13 : decode cX6_move 13 = .ok (.iastore, 1) := by decide +kernel
theorem dX6_move_14 : decode cX6_move 14 = .ok (.iinc 2 1, 3) := by decide +kernel
theorem dX6_move_17 : decode cX6_move 17 = .ok (.goto (-15), 3) := by decide +kernel
theorem dX6_move_20 : decode cX6_move 20 = .ok (.return_, 1) := by decide +kernel
theorem dX6_many_0 : decode cX6_many 0 = .ok (.aload_n 0, 1) := by decide +kernel
theorem dX6_many_1 : decode cX6_many 1 = .ok (.getfield 17, 3) := by decide +kernel
theorem dX6_many_4 : decode cX6_many 4 = .ok (.bipush 89, 2) := by decide +kernel
theorem dX6_many_6 : decode cX6_many 6 = .ok (.iaload, 1) := by decide +kernel
theorem dX6_many_7 : decode cX6_many 7 = .ok (.ireturn, 1) := by decide +kernel
set_option maxRecDepth 20000 in
theorem ggX6_isPerson_X6_isIn : GoodIn wsX6_isPerson wsX6_isIn := goodIn_sub (List.forall_mem_cons.mpr ⟨(List.mem_cons_of_mem _ (List.mem_append_left _ (List.mem_of_getElem? (i := 4) rfl))), (fun _ h => absurd h List.not_mem_nil)⟩) (by decide +kernel)
set_option maxRecDepth 20000 in
theorem gX6_isPerson_X6_isIn : GoodIn wsX6_isPerson (va_wsS RX6 76 yX6_isIn wsX6_isIn) := goodIn_app (goodIn_sub (List.forall_mem_cons.mpr ⟨(List.mem_cons_of_mem _ (List.mem_append_left _ (List.mem_of_getElem? (i := 1) rfl))), List.forall_mem_cons.mpr ⟨(List.mem_cons_of_mem _ (List.mem_append_left _ (List.mem_of_getElem? (i := 2) rfl))), List.forall_mem_cons.mpr ⟨(List.mem_cons_of_mem _ (List.mem_append_left _ (List.mem_of_getElem? (i := 3) rfl))), fun _ h => absurd h List.not_mem_nil⟩⟩⟩) (by decide +kernel)) ggX6_isPerson_X6_isIn
theorem dX6_isPerson_0 : decode cX6_isPerson 0 = .ok (.iload_n 1, 1) := by decide +kernel
theorem dX6_isPerson_1 : decode cX6_isPerson 1 = .ok (.i2l, 1) := by decide +kernel
theorem dX6_isPerson_2 : decode cX6_isPerson 2 = .ok (.lconst 0, 1) := by decide +kernel
theorem dX6_isPerson_3 : decode cX6_isPerson 3 = .ok (.aload_n 0, 1) := by decide +kernel
theorem dX6_isPerson_4 : decode cX6_isPerson 4 = .ok (.getfield 17, 3) := by decide +kernel
theorem dX6_isPerson_7 : decode cX6_isPerson 7 = .ok (.bipush 89, 2) := by decide +kernel
theorem dX6_isPerson_9 : decode cX6_isPerson 9 = .ok (.iaload, 1) := by decide +kernel
theorem dX6_isPerson_10 : decode cX6_isPerson 10 = .ok (.iconst 1, 1) := by decide +kernel
theorem dX6_isPerson_11 : decode cX6_isPerson 11 = .ok (.isub, 1) := by decide +kernel
theorem dX6_isPerson_12 : decode cX6_isPerson 12 = .ok (.i2l, 1) := by decide +kernel
theorem dX6_isPerson_13 : decode cX6_isPerson 13 = .ok (.invokestatic 76, 3) := by decide +kernel
theorem dX6_isPerson_16 : decode cX6_isPerson 16 = .ok (.ireturn, 1) := by decide +kernel
theorem dX6_kind_0 : decode cX6_kind 0 = .ok (.aload_n 0, 1) := by decide +kernel
theorem dX6_kind_1 : decode cX6_kind 1 = .ok (.getfield 17, 3) := by decide +kernel
theorem dX6_kind_4 : decode cX6_kind 4 = .ok (.iconst 5, 1) := by decide +kernel
theorem dX6_kind_5 : decode cX6_kind 5 = .ok (.iload_n 1, 1) := by decide +kernel
theorem dX6_kind_6 : decode cX6_kind 6 = .ok (.imul, 1) := by decide +kernel
theorem dX6_kind_7 : decode cX6_kind 7 = .ok (.iaload, 1) := by decide +kernel
theorem dX6_kind_8 : decode cX6_kind 8 = .ok (.ireturn, 1) := by decide +kernel
theorem dX6_a_0 : decode cX6_a 0 = .ok (.aload_n 0, 1) := by decide +kernel
theorem dX6_a_1 : decode cX6_a 1 = .ok (.getfield 17, 3) := by decide +kernel
theorem dX6_a_4 : decode cX6_a 4 = .ok (.iconst 5, 1) := by decide +kernel
theorem dX6_a_5 : decode cX6_a 5 = .ok (.iload_n 1, 1) := by decide +kernel
theorem dX6_a_6 : decode cX6_a 6 = .ok (.imul, 1) := by decide +kernel
theorem dX6_a_7 : decode cX6_a 7 = .ok (.iconst 1, 1) := by decide +kernel
theorem dX6_a_8 : decode cX6_a 8 = .ok (.iadd, 1) := by decide +kernel
theorem dX6_a_9 : decode cX6_a 9 = .ok (.iaload, 1) := by decide +kernel
theorem dX6_a_10 : decode cX6_a 10 = .ok (.ireturn, 1) := by decide +kernel
theorem dX6_cell_0 : decode cX6_cell 0 = .ok (.aload_n 0, 1) := by decide +kernel
theorem dX6_cell_1 : decode cX6_cell 1 = .ok (.getfield 17, 3) := by decide +kernel
theorem dX6_cell_4 : decode cX6_cell 4 = .ok (.iconst 5, 1) := by decide +kernel
theorem dX6_cell_5 : decode cX6_cell 5 = .ok (.iload_n 1, 1) := by decide +kernel
theorem dX6_cell_6 : decode cX6_cell 6 = .ok (.imul, 1) := by decide +kernel
theorem dX6_cell_7 : decode cX6_cell 7 = .ok (.iconst 2, 1) := by decide +kernel
theorem dX6_cell_8 : decode cX6_cell 8 = .ok (.iadd, 1) := by decide +kernel
theorem dX6_cell_9 : decode cX6_cell 9 = .ok (.iaload, 1) := by decide +kernel
theorem dX6_cell_10 : decode cX6_cell 10 = .ok (.ireturn, 1) := by decide +kernel
theorem dX6_faces_0 : decode cX6_faces 0 = .ok (.aload_n 0, 1) := by decide +kernel
theorem dX6_faces_1 : decode cX6_faces 1 = .ok (.getfield 17, 3) := by decide +kernel
theorem dX6_faces_4 : decode cX6_faces 4 = .ok (.iconst 5, 1) := by decide +kernel
theorem dX6_faces_5 : decode cX6_faces 5 = .ok (.iload_n 1, 1) := by decide +kernel
theorem dX6_faces_6 : decode cX6_faces 6 = .ok (.imul, 1) := by decide +kernel
theorem dX6_faces_7 : decode cX6_faces 7 = .ok (.iconst 3, 1) := by decide +kernel
theorem dX6_faces_8 : decode cX6_faces 8 = .ok (.iadd, 1) := by decide +kernel
theorem dX6_faces_9 : decode cX6_faces 9 = .ok (.iaload, 1) := by decide +kernel
theorem dX6_faces_10 : decode cX6_faces 10 = .ok (.ireturn, 1) := by decide +kernel
theorem dX6_isFor_0 : decode cX6_isFor 0 = .ok (.aload_n 0, 1) := by decide +kernel
theorem dX6_isFor_1 : decode cX6_isFor 1 = .ok (.getfield 17, 3) := by decide +kernel
theorem dX6_isFor_4 : decode cX6_isFor 4 = .ok (.iconst 5, 1) := by decide +kernel
theorem dX6_isFor_5 : decode cX6_isFor 5 = .ok (.iload_n 1, 1) := by decide +kernel
theorem dX6_isFor_6 : decode cX6_isFor 6 = .ok (.imul, 1) := by decide +kernel
theorem dX6_isFor_7 : decode cX6_isFor 7 = .ok (.iconst 4, 1) := by decide +kernel
theorem dX6_isFor_8 : decode cX6_isFor 8 = .ok (.iadd, 1) := by decide +kernel
theorem dX6_isFor_9 : decode cX6_isFor 9 = .ok (.iaload, 1) := by decide +kernel
theorem dX6_isFor_10 : decode cX6_isFor 10 = .ok (.ireturn, 1) := by decide +kernel
theorem dX6_isCell_0 : decode cX6_isCell 0 = .ok (.iload_n 1, 1) := by decide +kernel
theorem dX6_isCell_1 : decode cX6_isCell 1 = .ok (.ifCond .lt 35, 3) := by decide +kernel
theorem dX6_isCell_4 : decode cX6_isCell 4 = .ok (.iload_n 1, 1) := by decide +kernel
theorem dX6_isCell_5 : decode cX6_isCell 5 = .ok (.bipush 10, 2) := by decide +kernel
theorem dX6_isCell_7 : decode cX6_isCell 7 = .ok (.idiv, 1) := by decide +kernel
theorem dX6_isCell_8 : decode cX6_isCell 8 = .ok (.aload_n 0, 1) := by decide +kernel
theorem dX6_isCell_9 : decode cX6_isCell 9 = .ok (.getfield 17, 3) := by decide +kernel
theorem dX6_isCell_12 : decode cX6_isCell 12 = .ok (.bipush 90, 2) := by decide +kernel
theorem dX6_isCell_14 : decode cX6_isCell 14 = .ok (.iaload, 1) := by decide +kernel
theorem dX6_isCell_15 : decode cX6_isCell 15 = .ok (.if_icmp .ge 21, 3) := by decide +kernel
theorem dX6_isCell_18 : decode cX6_isCell 18 = .ok (.iload_n 1, 1) := by decide +kernel
theorem dX6_isCell_19 : decode cX6_isCell 19 = .ok (.bipush 10, 2) := by decide +kernel
theorem dX6_isCell_21 : decode cX6_isCell 21 = .ok (.irem, 1) := by decide +kernel
theorem dX6_isCell_22 : decode cX6_isCell 22 = .ok (.aload_n 0, 1) := by decide +kernel
theorem dX6_isCell_23 : decode cX6_isCell 23 = .ok (.getfield 17, 3) := by decide +kernel
theorem dX6_isCell_26 : decode cX6_isCell 26 = .ok (.bipush 90, 2) := by decide +kernel
theorem dX6_isCell_28 : decode cX6_isCell 28 = .ok (.iaload, 1) := by decide +kernel
theorem dX6_isCell_29 : decode cX6_isCell 29 = .ok (.if_icmp .ge 7, 3) := by decide +kernel
theorem dX6_isCell_32 : decode cX6_isCell 32 = .ok (.iconst 1, 1) := by decide +kernel
theorem dX6_isCell_33 : decode cX6_isCell 33 = .ok (.goto 4, 3) := by decide +kernel
theorem dX6_isCell_36 : decode cX6_isCell 36 = .ok (.iconst 0, 1) := by decide +kernel
theorem dX6_isCell_37 : decode cX6_isCell 37 = .ok (.ireturn, 1) := by decide +kernel
theorem dX6_pondAt_0 : decode cX6_pondAt 0 = .ok (.bipush 40, 2) := by decide +kernel
theorem dX6_pondAt_2 : decode cX6_pondAt 2 = .ok (.bipush 7, 2) := by decide +kernel
theorem dX6_pondAt_4 : decode cX6_pondAt 4 = .ok (.iload_n 0, 1) := by decide +kernel
theorem dX6_pondAt_5 : decode cX6_pondAt 5 = .ok (.bipush 10, 2) := by decide +kernel
theorem dX6_pondAt_7 : decode cX6_pondAt 7 = .ok (.idiv, 1) := by decide +kernel
theorem dX6_pondAt_8 : decode cX6_pondAt 8 = .ok (.imul, 1) := by decide +kernel
theorem dX6_pondAt_9 : decode cX6_pondAt 9 = .ok (.iadd, 1) := by decide +kernel
theorem dX6_pondAt_10 : decode cX6_pondAt 10 = .ok (.iload_n 0, 1) := by decide +kernel
theorem dX6_pondAt_11 : decode cX6_pondAt 11 = .ok (.bipush 10, 2) := by decide +kernel
theorem dX6_pondAt_13 : decode cX6_pondAt 13 = .ok (.irem, 1) := by decide +kernel
theorem dX6_pondAt_14 : decode cX6_pondAt 14 = .ok (.iadd, 1) := by decide +kernel
theorem dX6_pondAt_15 : decode cX6_pondAt 15 = .ok (.ireturn, 1) := by decide +kernel
set_option maxRecDepth 20000 in
theorem ggX6_hasPond_X6_pondAt : GoodIn wsX6_hasPond wsX6_pondAt := goodIn_sub (List.forall_mem_cons.mpr ⟨(List.mem_cons_of_mem _ (List.mem_append_left _ (List.mem_of_getElem? (i := 4) rfl))), (fun _ h => absurd h List.not_mem_nil)⟩) (by decide +kernel)
set_option maxRecDepth 20000 in
theorem gX6_hasPond_X6_pondAt : GoodIn wsX6_hasPond (va_wsS RX6 80 yX6_pondAt wsX6_pondAt) := goodIn_app (goodIn_sub (List.forall_mem_cons.mpr ⟨(List.mem_cons_of_mem _ (List.mem_append_left _ (List.mem_of_getElem? (i := 1) rfl))), List.forall_mem_cons.mpr ⟨(List.mem_cons_of_mem _ (List.mem_append_left _ (List.mem_of_getElem? (i := 2) rfl))), List.forall_mem_cons.mpr ⟨(List.mem_cons_of_mem _ (List.mem_append_left _ (List.mem_of_getElem? (i := 3) rfl))), fun _ h => absurd h List.not_mem_nil⟩⟩⟩) (by decide +kernel)) ggX6_hasPond_X6_pondAt
theorem dX6_hasPond_0 : decode cX6_hasPond 0 = .ok (.aload_n 0, 1) := by decide +kernel
theorem dX6_hasPond_1 : decode cX6_hasPond 1 = .ok (.getfield 17, 3) := by decide +kernel
theorem dX6_hasPond_4 : decode cX6_hasPond 4 = .ok (.iload_n 1, 1) := by decide +kernel
theorem dX6_hasPond_5 : decode cX6_hasPond 5 = .ok (.invokestatic 80, 3) := by decide +kernel
theorem dX6_hasPond_8 : decode cX6_hasPond 8 = .ok (.iaload, 1) := by decide +kernel
theorem dX6_hasPond_9 : decode cX6_hasPond 9 = .ok (.iconst 1, 1) := by decide +kernel
theorem dX6_hasPond_10 : decode cX6_hasPond 10 = .ok (.if_icmp .ne 7, 3) := by decide +kernel
theorem dX6_hasPond_13 : decode cX6_hasPond 13 = .ok (.iconst 1, 1) := by decide +kernel
theorem dX6_hasPond_14 : decode cX6_hasPond 14 = .ok (.goto 4, 3) := by decide +kernel
theorem dX6_hasPond_17 : decode cX6_hasPond 17 = .ok (.iconst 0, 1) := by decide +kernel
theorem dX6_hasPond_18 : decode cX6_hasPond 18 = .ok (.ireturn, 1) := by decide +kernel
set_option maxRecDepth 20000 in
theorem pl_wsX6_isSomebody_wsX60 : ∀ w ∈ wsX60, w ∈ wsX6_isSomebody := fun _ h => List.mem_cons_of_mem _ (List.mem_append_right _ (h))
theorem ggX6_isSomebody_X6_many : GoodIn wsX6_isSomebody wsX6_many := goodIn_sub (List.forall_mem_cons.mpr ⟨(List.mem_cons_of_mem _ (List.mem_append_left _ (List.mem_of_getElem? (i := 4) rfl))), (fun w h => (List.mem_append.mp h).elim ((List.forall_mem_cons.mpr ⟨(List.mem_cons_of_mem _ (List.mem_append_left _ (List.mem_of_getElem? (i := 5) rfl))), fun _ h => absurd h List.not_mem_nil⟩) w) (pl_wsX6_isSomebody_wsX60 w))⟩) (by decide +kernel)
set_option maxRecDepth 20000 in
theorem gX6_isSomebody_X6_many : GoodIn wsX6_isSomebody (wsV RX6 84 RX6 yX6_many wsX6_many) := goodIn_app (goodIn_sub (List.forall_mem_cons.mpr ⟨(List.mem_cons_of_mem _ (List.mem_append_left _ (List.mem_of_getElem? (i := 0) rfl))), List.forall_mem_cons.mpr ⟨(List.mem_cons_of_mem _ (List.mem_append_left _ (List.mem_of_getElem? (i := 1) rfl))), List.forall_mem_cons.mpr ⟨(List.mem_cons_of_mem _ (List.mem_append_left _ (List.mem_of_getElem? (i := 2) rfl))), List.forall_mem_cons.mpr ⟨(List.mem_cons_of_mem _ (List.mem_append_left _ (List.mem_of_getElem? (i := 3) rfl))), fun _ h => absurd h List.not_mem_nil⟩⟩⟩⟩) (by decide +kernel)) ggX6_isSomebody_X6_many
set_option maxRecDepth 20000 in
theorem ggX6_isSomebody_X6_cell : GoodIn wsX6_isSomebody wsX6_cell := goodIn_sub (List.forall_mem_cons.mpr ⟨(List.mem_cons_of_mem _ (List.mem_append_left _ (List.mem_of_getElem? (i := 9) rfl))), (fun w h => (List.mem_append.mp h).elim ((List.forall_mem_cons.mpr ⟨(List.mem_cons_of_mem _ (List.mem_append_left _ (List.mem_of_getElem? (i := 5) rfl))), fun _ h => absurd h List.not_mem_nil⟩) w) (pl_wsX6_isSomebody_wsX60 w))⟩) (by decide +kernel)
set_option maxRecDepth 20000 in
theorem gX6_isSomebody_X6_cell : GoodIn wsX6_isSomebody (wsV RX6 88 RX6 yX6_cell wsX6_cell) := goodIn_app (goodIn_sub (List.forall_mem_cons.mpr ⟨(List.mem_cons_of_mem _ (List.mem_append_left _ (List.mem_of_getElem? (i := 6) rfl))), List.forall_mem_cons.mpr ⟨(List.mem_cons_of_mem _ (List.mem_append_left _ (List.mem_of_getElem? (i := 7) rfl))), List.forall_mem_cons.mpr ⟨(List.mem_cons_of_mem _ (List.mem_append_left _ (List.mem_of_getElem? (i := 8) rfl))), List.forall_mem_cons.mpr ⟨(List.mem_cons_of_mem _ (List.mem_append_left _ (List.mem_of_getElem? (i := 3) rfl))), fun _ h => absurd h List.not_mem_nil⟩⟩⟩⟩) (by decide +kernel)) ggX6_isSomebody_X6_cell
theorem dX6_isSomebody_0 : decode cX6_isSomebody 0 = .ok (.iconst 0, 1) := by decide +kernel
theorem dX6_isSomebody_1 : decode cX6_isSomebody 1 = .ok (.istore_n 2, 1) := by decide +kernel
theorem dX6_isSomebody_2 : decode cX6_isSomebody 2 = .ok (.iconst 0, 1) := by decide +kernel
theorem dX6_isSomebody_3 : decode cX6_isSomebody 3 = .ok (.istore_n 3, 1) := by decide +kernel
theorem dX6_isSomebody_4 : decode cX6_isSomebody 4 = .ok (.iload_n 3, 1) := by decide +kernel
theorem dX6_isSomebody_5 : decode cX6_isSomebody 5 = .ok (.aload_n 0, 1) := by decide +kernel
theorem dX6_isSomebody_6 : decode cX6_isSomebody 6 = .ok (.invokevirtual 84, 3) := by decide +kernel
theorem dX6_isSomebody_9 : decode cX6_isSomebody 9 = .ok (.if_icmp .ge 28, 3) := by decide +kernel
theorem dX6_isSomebody_12 : decode cX6_isSomebody 12 = .ok (.iload_n 2, 1) := by decide +kernel
theorem dX6_isSomebody_13 : decode cX6_isSomebody 13 = .ok (.ifCond .ne 12, 3) := by decide +kernel
theorem dX6_isSomebody_16 : decode cX6_isSomebody 16 = .ok (.aload_n 0, 1) := by decide +kernel
theorem dX6_isSomebody_17 : decode cX6_isSomebody 17 = .ok (.iload_n 3, 1) := by decide +kernel
theorem dX6_isSomebody_18 : decode cX6_isSomebody 18 = .ok (.invokevirtual 88, 3) := by decide +kernel
theorem dX6_isSomebody_21 : decode cX6_isSomebody 21 = .ok (.iload_n 1, 1) := by decide +kernel
theorem dX6_isSomebody_22 : decode cX6_isSomebody 22 = .ok (.if_icmp .ne 7, 3) := by decide +kernel
theorem dX6_isSomebody_25 : decode cX6_isSomebody 25 = .ok (.iconst 1, 1) := by decide +kernel
theorem dX6_isSomebody_26 : decode cX6_isSomebody 26 = .ok (.goto 4, 3) := by decide +kernel
theorem dX6_isSomebody_29 : decode cX6_isSomebody 29 = .ok (.iconst 0, 1) := by decide +kernel
theorem dX6_isSomebody_30 : decode cX6_isSomebody 30 = .ok (.istore_n 2, 1) := by decide +kernel
theorem dX6_isSomebody_31 : decode cX6_isSomebody 31 = .ok (.iinc 3 1, 3) := by decide +kernel
theorem dX6_isSomebody_34 : decode cX6_isSomebody 34 = .ok (.goto (-30), 3) := by decide +kernel
theorem dX6_isSomebody_37 : decode cX6_isSomebody 37 = .ok (.iload_n 2, 1) := by decide +kernel
theorem dX6_isSomebody_38 : decode cX6_isSomebody 38 = .ok (.ireturn, 1) := by decide +kernel
set_option maxRecDepth 20000 in
theorem ggX6_beside_X6_isIn : GoodIn wsX6_beside wsX6_isIn := goodIn_sub (List.forall_mem_cons.mpr ⟨(List.mem_cons_of_mem _ (List.mem_append_left _ (List.mem_of_getElem? (i := 4) rfl))), (fun _ h => absurd h List.not_mem_nil)⟩) (by decide +kernel)
set_option maxRecDepth 20000 in
theorem gX6_beside_X6_isIn : GoodIn wsX6_beside (va_wsS RX6 76 yX6_isIn wsX6_isIn) := goodIn_app (goodIn_sub (List.forall_mem_cons.mpr ⟨(List.mem_cons_of_mem _ (List.mem_append_left _ (List.mem_of_getElem? (i := 1) rfl))), List.forall_mem_cons.mpr ⟨(List.mem_cons_of_mem _ (List.mem_append_left _ (List.mem_of_getElem? (i := 2) rfl))), List.forall_mem_cons.mpr ⟨(List.mem_cons_of_mem _ (List.mem_append_left _ (List.mem_of_getElem? (i := 3) rfl))), fun _ h => absurd h List.not_mem_nil⟩⟩⟩) (by decide +kernel)) ggX6_beside_X6_isIn
theorem dX6_beside_0 : decode cX6_beside 0 = .ok (.iload_n 1, 1) := by decide +kernel
theorem dX6_beside_1 : decode cX6_beside 1 = .ok (.bipush 10, 2) := by decide +kernel
theorem dX6_beside_3 : decode cX6_beside 3 = .ok (.idiv, 1) := by decide +kernel
theorem dX6_beside_4 : decode cX6_beside 4 = .ok (.iload_n 2, 1) := by decide +kernel
theorem dX6_beside_5 : decode cX6_beside 5 = .ok (.ifCond .ne 7, 3) := by decide +kernel
theorem dX6_beside_8 : decode cX6_beside 8 = .ok (.iconst (-1), 1) := by decide +kernel
theorem dX6_beside_9 : decode cX6_beside 9 = .ok (.goto 13, 3) := by decide +kernel
theorem dX6_beside_12 : decode cX6_beside 12 = .ok (.iload_n 2, 1) := by decide +kernel
theorem dX6_beside_13 : decode cX6_beside 13 = .ok (.iconst 2, 1) := by decide +kernel
theorem dX6_beside_14 : decode cX6_beside 14 = .ok (.if_icmp .ne 7, 3) := by decide +kernel
theorem dX6_beside_17 : decode cX6_beside 17 = .ok (.iconst 1, 1) := by decide +kernel
theorem dX6_beside_18 : decode cX6_beside 18 = .ok (.goto 4, 3) := by decide +kernel
theorem dX6_beside_21 : decode cX6_beside 21 = .ok (.iconst 0, 1) := by decide +kernel
theorem dX6_beside_22 : decode cX6_beside 22 = .ok (.iadd, 1) := by decide +kernel
theorem dX6_beside_23 : decode cX6_beside 23 = .ok (.istore_n 3, 1) := by decide +kernel
theorem dX6_beside_24 : decode cX6_beside 24 = .ok (.iload_n 1, 1) := by decide +kernel
theorem dX6_beside_25 : decode cX6_beside 25 = .ok (.bipush 10, 2) := by decide +kernel
theorem dX6_beside_27 : decode cX6_beside 27 = .ok (.irem, 1) := by decide +kernel
theorem dX6_beside_28 : decode cX6_beside 28 = .ok (.iload_n 2, 1) := by decide +kernel
theorem dX6_beside_29 : decode cX6_beside 29 = .ok (.iconst 3, 1) := by decide +kernel
theorem dX6_beside_30 : decode cX6_beside 30 = .ok (.if_icmp .ne 7, 3) := by decide +kernel
theorem dX6_beside_33 : decode cX6_beside 33 = .ok (.iconst (-1), 1) := by decide +kernel
theorem dX6_beside_34 : decode cX6_beside 34 = .ok (.goto 13, 3) := by decide +kernel
theorem dX6_beside_37 : decode cX6_beside 37 = .ok (.iload_n 2, 1) := by decide +kernel
theorem dX6_beside_38 : decode cX6_beside 38 = .ok (.iconst 1, 1) := by decide +kernel
theorem dX6_beside_39 : decode cX6_beside 39 = .ok (.if_icmp .ne 7, 3) := by decide +kernel
theorem dX6_beside_42 : decode cX6_beside 42 = .ok (.iconst 1, 1) := by decide +kernel
theorem dX6_beside_43 : decode cX6_beside 43 = .ok (.goto 4, 3) := by decide +kernel
theorem dX6_beside_46 : decode cX6_beside 46 = .ok (.iconst 0, 1) := by decide +kernel
theorem dX6_beside_47 : decode cX6_beside 47 = .ok (.iadd, 1) := by decide +kernel
theorem dX6_beside_48 : decode cX6_beside 48 = .ok (.istore 4, 2) := by decide +kernel
theorem dX6_beside_50 : decode cX6_beside 50 = .ok (.iload_n 3, 1) := by decide +kernel
theorem dX6_beside_51 : decode cX6_beside 51 = .ok (.i2l, 1) := by decide +kernel
theorem dX6_beside_52 : decode cX6_beside 52 = .ok (.lconst 0, 1) := by decide +kernel
theorem dX6_beside_53 : decode cX6_beside 53 = .ok (.aload_n 0, 1) := by decide +kernel
theorem dX6_beside_54 : decode cX6_beside 54 = .ok (.getfield 17, 3) := by decide +kernel
theorem dX6_beside_57 : decode cX6_beside 57 = .ok (.bipush 90, 2) := by decide +kernel
theorem dX6_beside_59 : decode cX6_beside 59 = .ok (.iaload, 1) := by decide +kernel
theorem dX6_beside_60 : decode cX6_beside 60 = .ok (.iconst 1, 1) := by decide +kernel
theorem dX6_beside_61 : decode cX6_beside 61 = .ok (.isub, 1) := by decide +kernel
theorem dX6_beside_62 : decode cX6_beside 62 = .ok (.i2l, 1) := by decide +kernel
theorem dX6_beside_63 : decode cX6_beside 63 = .ok (.invokestatic 76, 3) := by decide +kernel
theorem dX6_beside_66 : decode cX6_beside 66 = .ok (.ifCond .eq 33, 3) := by decide +kernel
theorem dX6_beside_69 : decode cX6_beside 69 = .ok (.iload 4, 2) := by decide +kernel
theorem dX6_beside_71 : decode cX6_beside 71 = .ok (.i2l, 1) := by decide +kernel
theorem dX6_beside_72 : decode cX6_beside 72 = .ok (.lconst 0, 1) := by decide +kernel
theorem dX6_beside_73 : decode cX6_beside 73 = .ok (.aload_n 0, 1) := by decide +kernel
theorem dX6_beside_74 : decode cX6_beside 74 = .ok (.getfield 17, 3) := by decide +kernel
theorem dX6_beside_77 : decode cX6_beside 77 = .ok (.bipush 90, 2) := by decide +kernel
theorem dX6_beside_79 : decode cX6_beside 79 = .ok (.iaload, 1) := by decide +kernel
theorem dX6_beside_80 : decode cX6_beside 80 = .ok (.iconst 1, 1) := by decide +kernel
theorem dX6_beside_81 : decode cX6_beside 81 = .ok (.isub, 1) := by decide +kernel
theorem dX6_beside_82 : decode cX6_beside 82 = .ok (.i2l, 1) := by decide +kernel
theorem dX6_beside_83 : decode cX6_beside 83 = .ok (.invokestatic 76, 3) := by decide +kernel
theorem dX6_beside_86 : decode cX6_beside 86 = .ok (.ifCond .eq 13, 3) := by decide +kernel
theorem dX6_beside_89 : decode cX6_beside 89 = .ok (.bipush 10, 2) := by decide +kernel
theorem dX6_beside_91 : decode cX6_beside 91 = .ok (.iload_n 3, 1) := by decide +kernel
theorem dX6_beside_92 : decode cX6_beside 92 = .ok (.imul, 1) := by decide +kernel
theorem dX6_beside_93 : decode cX6_beside 93 = .ok (.iload 4, 2) := by decide +kernel
theorem dX6_beside_95 : decode cX6_beside 95 = .ok (.iadd, 1) := by decide +kernel
theorem dX6_beside_96 : decode cX6_beside 96 = .ok (.goto 4, 3) := by decide +kernel
theorem dX6_beside_99 : decode cX6_beside 99 = .ok (.iconst (-1), 1) := by decide +kernel
theorem dX6_beside_100 : decode cX6_beside 100 = .ok (.ireturn, 1) := by decide +kernel
set_option maxRecDepth 20000 in
theorem pl_wsX6_isShore_wsX60 : ∀ w ∈ wsX60, w ∈ wsX6_isShore := fun _ h => List.mem_cons_of_mem _ (List.mem_append_right _ (h))
theorem ggX6_isShore_X6_beside : GoodIn wsX6_isShore wsX6_beside := goodIn_sub (List.forall_mem_cons.mpr ⟨(List.mem_cons_of_mem _ (List.mem_append_left _ (List.mem_of_getElem? (i := 4) rfl))), (fun w h => (List.mem_append.mp h).elim ((List.forall_mem_cons.mpr ⟨(List.mem_cons_of_mem _ (List.mem_append_left _ (List.mem_of_getElem? (i := 5) rfl))), List.forall_mem_cons.mpr ⟨(List.mem_cons_of_mem _ (List.mem_append_left _ (List.mem_of_getElem? (i := 6) rfl))), List.forall_mem_cons.mpr ⟨(List.mem_cons_of_mem _ (List.mem_append_left _ (List.mem_of_getElem? (i := 7) rfl))), List.forall_mem_cons.mpr ⟨(List.mem_cons_of_mem _ (List.mem_append_left _ (List.mem_of_getElem? (i := 3) rfl))), List.forall_mem_cons.mpr ⟨(List.mem_cons_of_mem _ (List.mem_append_left _ (List.mem_of_getElem? (i := 8) rfl))), fun _ h => absurd h List.not_mem_nil⟩⟩⟩⟩⟩) w) (pl_wsX6_isShore_wsX60 w))⟩) (by decide +kernel)
set_option maxRecDepth 20000 in
theorem gX6_isShore_X6_beside : GoodIn wsX6_isShore (wsV RX6 91 RX6 yX6_beside wsX6_beside) := goodIn_app (goodIn_sub (List.forall_mem_cons.mpr ⟨(List.mem_cons_of_mem _ (List.mem_append_left _ (List.mem_of_getElem? (i := 0) rfl))), List.forall_mem_cons.mpr ⟨(List.mem_cons_of_mem _ (List.mem_append_left _ (List.mem_of_getElem? (i := 1) rfl))), List.forall_mem_cons.mpr ⟨(List.mem_cons_of_mem _ (List.mem_append_left _ (List.mem_of_getElem? (i := 2) rfl))), List.forall_mem_cons.mpr ⟨(List.mem_cons_of_mem _ (List.mem_append_left _ (List.mem_of_getElem? (i := 3) rfl))), fun _ h => absurd h List.not_mem_nil⟩⟩⟩⟩) (by decide +kernel)) ggX6_isShore_X6_beside
set_option maxRecDepth 20000 in
theorem ggX6_isShore_X6_hasPond : GoodIn wsX6_isShore wsX6_hasPond := goodIn_sub (List.forall_mem_cons.mpr ⟨(List.mem_cons_of_mem _ (List.mem_append_left _ (List.mem_of_getElem? (i := 12) rfl))), (fun w h => (List.mem_append.mp h).elim ((List.forall_mem_cons.mpr ⟨(List.mem_cons_of_mem _ (List.mem_append_left _ (List.mem_of_getElem? (i := 5) rfl))), List.forall_mem_cons.mpr ⟨(List.mem_cons_of_mem _ (List.mem_append_left _ (List.mem_of_getElem? (i := 13) rfl))), List.forall_mem_cons.mpr ⟨(List.mem_cons_of_mem _ (List.mem_append_left _ (List.mem_of_getElem? (i := 14) rfl))), List.forall_mem_cons.mpr ⟨(List.mem_cons_of_mem _ (List.mem_append_left _ (List.mem_of_getElem? (i := 3) rfl))), List.forall_mem_cons.mpr ⟨(List.mem_cons_of_mem _ (List.mem_append_left _ (List.mem_of_getElem? (i := 15) rfl))), fun _ h => absurd h List.not_mem_nil⟩⟩⟩⟩⟩) w) (pl_wsX6_isShore_wsX60 w))⟩) (by decide +kernel)
set_option maxRecDepth 20000 in
theorem gX6_isShore_X6_hasPond : GoodIn wsX6_isShore (wsV RX6 95 RX6 yX6_hasPond wsX6_hasPond) := goodIn_app (goodIn_sub (List.forall_mem_cons.mpr ⟨(List.mem_cons_of_mem _ (List.mem_append_left _ (List.mem_of_getElem? (i := 9) rfl))), List.forall_mem_cons.mpr ⟨(List.mem_cons_of_mem _ (List.mem_append_left _ (List.mem_of_getElem? (i := 10) rfl))), List.forall_mem_cons.mpr ⟨(List.mem_cons_of_mem _ (List.mem_append_left _ (List.mem_of_getElem? (i := 11) rfl))), List.forall_mem_cons.mpr ⟨(List.mem_cons_of_mem _ (List.mem_append_left _ (List.mem_of_getElem? (i := 3) rfl))), fun _ h => absurd h List.not_mem_nil⟩⟩⟩⟩) (by decide +kernel)) ggX6_isShore_X6_hasPond
theorem dX6_isShore_0 : decode cX6_isShore 0 = .ok (.iconst 0, 1) := by decide +kernel
theorem dX6_isShore_1 : decode cX6_isShore 1 = .ok (.istore_n 2, 1) := by decide +kernel
theorem dX6_isShore_2 : decode cX6_isShore 2 = .ok (.iconst 0, 1) := by decide +kernel
theorem dX6_isShore_3 : decode cX6_isShore 3 = .ok (.istore_n 3, 1) := by decide +kernel
theorem dX6_isShore_4 : decode cX6_isShore 4 = .ok (.iload_n 3, 1) := by decide +kernel
theorem dX6_isShore_5 : decode cX6_isShore 5 = .ok (.iconst 4, 1) := by decide +kernel
theorem dX6_isShore_6 : decode cX6_isShore 6 = .ok (.if_icmp .ge 42, 3) := by decide +kernel
theorem dX6_isShore_9 : decode cX6_isShore 9 = .ok (.aload_n 0, 1) := by decide +kernel
theorem dX6_isShore_10 : decode cX6_isShore 10 = .ok (.iload_n 1, 1) := by decide +kernel
theorem dX6_isShore_11 : decode cX6_isShore 11 = .ok (.iload_n 3, 1) := by decide +kernel
theorem dX6_isShore_12 : decode cX6_isShore 12 = .ok (.invokevirtual 91, 3) := by decide +kernel
theorem dX6_isShore_15 : decode cX6_isShore 15 = .ok (.istore 4, 2) := by decide +kernel
theorem dX6_isShore_17 : decode cX6_isShore 17 = .ok (.iload_n 2, 1) := by decide +kernel
theorem dX6_isShore_18 : decode cX6_isShore 18 = .ok (.ifCond .ne 18, 3) := by decide +kernel
theorem dX6_isShore_21 : decode cX6_isShore 21 = .ok (.iload 4, 2) := by decide +kernel
theorem dX6_isShore_23 : decode cX6_isShore 23 = .ok (.iconst (-1), 1) := by decide +kernel
theorem dX6_isShore_24 : decode cX6_isShore 24 = .ok (.if_icmp .eq 16, 3) := by decide +kernel
theorem dX6_isShore_27 : decode cX6_isShore 27 = .ok (.aload_n 0, 1) := by decide +kernel
theorem dX6_isShore_28 : decode cX6_isShore 28 = .ok (.iload 4, 2) := by decide +kernel
theorem dX6_isShore_30 : decode cX6_isShore 30 = .ok (.invokevirtual 95, 3) := by decide +kernel
theorem dX6_isShore_33 : decode cX6_isShore 33 = .ok (.ifCond .eq 7, 3) := by decide +kernel
theorem dX6_isShore_36 : decode cX6_isShore 36 = .ok (.iconst 1, 1) := by decide +kernel
theorem dX6_isShore_37 : decode cX6_isShore 37 = .ok (.goto 4, 3) := by decide +kernel
theorem dX6_isShore_40 : decode cX6_isShore 40 = .ok (.iconst 0, 1) := by decide +kernel
theorem dX6_isShore_41 : decode cX6_isShore 41 = .ok (.istore_n 2, 1) := by decide +kernel
theorem dX6_isShore_42 : decode cX6_isShore 42 = .ok (.iinc 3 1, 3) := by decide +kernel
theorem dX6_isShore_45 : decode cX6_isShore 45 = .ok (.goto (-41), 3) := by decide +kernel
theorem dX6_isShore_48 : decode cX6_isShore 48 = .ok (.iload_n 2, 1) := by decide +kernel
theorem dX6_isShore_49 : decode cX6_isShore 49 = .ok (.ireturn, 1) := by decide +kernel
theorem dX6_add_0 : decode cX6_add 0 = .ok (.aload_n 0, 1) := by decide +kernel
theorem dX6_add_1 : decode cX6_add 1 = .ok (.getfield 17, 3) := by decide +kernel
theorem dX6_add_4 : decode cX6_add 4 = .ok (.bipush 89, 2) := by decide +kernel
theorem dX6_add_6 : decode cX6_add 6 = .ok (.iaload, 1) := by decide +kernel
theorem dX6_add_7 : decode cX6_add 7 = .ok (.istore 5, 2) := by decide +kernel
theorem dX6_add_9 : decode cX6_add 9 = .ok (.aload_n 0, 1) := by decide +kernel
theorem dX6_add_10 : decode cX6_add 10 = .ok (.getfield 17, 3) := by decide +kernel
theorem dX6_add_13 : decode cX6_add 13 = .ok (.iconst 5, 1) := by decide +kernel
theorem dX6_add_14 : decode cX6_add 14 = .ok (.iload 5, 2) := by decide +kernel
theorem dX6_add_16 : decode cX6_add 16 = .ok (.imul, 1) := by decide +kernel
theorem dX6_add_17 : decode cX6_add 17 = .ok (.iload_n 1, 1) := by decide +kernel
theorem dX6_add_18 : decode cX6_add 18 = .ok (.iastore, 1) := by decide +kernel
theorem dX6_add_19 : decode cX6_add 19 = .ok (.aload_n 0, 1) := by decide +kernel
theorem dX6_add_20 : decode cX6_add 20 = .ok (.getfield 17, 3) := by decide +kernel
theorem dX6_add_23 : decode cX6_add 23 = .ok (.iconst 5, 1) := by decide +kernel
theorem dX6_add_24 : decode cX6_add 24 = .ok (.iload 5, 2) := by decide +kernel
theorem dX6_add_26 : decode cX6_add 26 = .ok (.imul, 1) := by decide +kernel
theorem dX6_add_27 : decode cX6_add 27 = .ok (.iconst 1, 1) := by decide +kernel
theorem dX6_add_28 : decode cX6_add 28 = .ok (.iadd, 1) := by decide +kernel
theorem dX6_add_29 : decode cX6_add 29 = .ok (.iload_n 2, 1) := by decide +kernel
theorem dX6_add_30 : decode cX6_add 30 = .ok (.iastore, 1) := by decide +kernel
theorem dX6_add_31 : decode cX6_add 31 = .ok (.aload_n 0, 1) := by decide +kernel
theorem dX6_add_32 : decode cX6_add 32 = .ok (.getfield 17, 3) := by decide +kernel
theorem dX6_add_35 : decode cX6_add 35 = .ok (.iconst 5, 1) := by decide +kernel
theorem dX6_add_36 : decode cX6_add 36 = .ok (.iload 5, 2) := by decide +kernel
theorem dX6_add_38 : decode cX6_add 38 = .ok (.imul, 1) := by decide +kernel
theorem dX6_add_39 : decode cX6_add 39 = .ok (.iconst 2, 1) := by decide +kernel
theorem dX6_add_40 : decode cX6_add 40 = .ok (.iadd, 1) := by decide +kernel
theorem dX6_add_41 : decode cX6_add 41 = .ok (.iload_n 3, 1) := by decide +kernel
theorem dX6_add_42 : decode cX6_add 42 = .ok (.iastore, 1) := by decide +kernel
theorem dX6_add_43 : decode cX6_add 43 = .ok (.aload_n 0, 1) := by decide +kernel
theorem dX6_add_44 : decode cX6_add 44 = .ok (.getfield 17, 3) := by decide +kernel
theorem dX6_add_47 : decode cX6_add 47 = .ok (.iconst 5, 1) := by decide +kernel
theorem dX6_add_48 : decode cX6_add 48 = .ok (.iload 5, 2) := by decide +kernel
theorem dX6_add_50 : decode cX6_add 50 = .ok (.imul, 1) := by decide +kernel
theorem dX6_add_51 : decode cX6_add 51 = .ok (.iconst 3, 1) := by decide +kernel
theorem dX6_add_52 : decode cX6_add 52 = .ok (.iadd, 1) := by decide +kernel
theorem dX6_add_53 : decode cX6_add 53 = .ok (.iload 4, 2) := by decide +kernel
theorem dX6_add_55 : decode cX6_add 55 = .ok (.iastore, 1) := by decide +kernel
theorem dX6_add_56 : decode cX6_add 56 = .ok (.aload_n 0, 1) := by decide +kernel
theorem dX6_add_57 : decode cX6_add 57 = .ok (.getfield 17, 3) := by decide +kernel
theorem dX6_add_60 : decode cX6_add 60 = .ok (.iconst 5, 1) := by decide +kernel
theorem dX6_add_61 : decode cX6_add 61 = .ok (.iload 5, 2) := by decide +kernel
theorem dX6_add_63 : decode cX6_add 63 = .ok (.imul, 1) := by decide +kernel
theorem dX6_add_64 : decode cX6_add 64 = .ok (.iconst 4, 1) := by decide +kernel
theorem dX6_add_65 : decode cX6_add 65 = .ok (.iadd, 1) := by decide +kernel
theorem dX6_add_66 : decode cX6_add 66 = .ok (.iconst 0, 1) := by decide +kernel
theorem dX6_add_67 : decode cX6_add 67 = .ok (.iastore, 1) := by decide +kernel
theorem dX6_add_68 : decode cX6_add 68 = .ok (.aload_n 0, 1) := by decide +kernel
theorem dX6_add_69 : decode cX6_add 69 = .ok (.getfield 17, 3) := by decide +kernel
theorem dX6_add_72 : decode cX6_add 72 = .ok (.bipush 89, 2) := by decide +kernel
theorem dX6_add_74 : decode cX6_add 74 = .ok (.dup2, 1) := by decide +kernel
theorem dX6_add_75 : decode cX6_add 75 = .ok (.iaload, 1) := by decide +kernel
theorem dX6_add_76 : decode cX6_add 76 = .ok (.iconst 1, 1) := by decide +kernel
theorem dX6_add_77 : decode cX6_add 77 = .ok (.iadd, 1) := by decide +kernel
theorem dX6_add_78 : decode cX6_add 78 = .ok (.iastore, 1) := by decide +kernel
theorem dX6_add_79 : decode cX6_add 79 = .ok (.iload 5, 2) := by decide +kernel
theorem dX6_add_81 : decode cX6_add 81 = .ok (.ireturn, 1) := by decide +kernel
set_option maxRecDepth 20000 in
theorem ggX6_side_X6_isIn : GoodIn wsX6_side wsX6_isIn := goodIn_sub (List.forall_mem_cons.mpr ⟨(List.mem_cons_of_mem _ (List.mem_append_left _ (List.mem_of_getElem? (i := 5) rfl))), (fun _ h => absurd h List.not_mem_nil)⟩) (by decide +kernel)
set_option maxRecDepth 20000 in
theorem gX6_side_X6_isIn : GoodIn wsX6_side (va_wsS RX6 76 yX6_isIn wsX6_isIn) := goodIn_app (goodIn_sub (List.forall_mem_cons.mpr ⟨(List.mem_cons_of_mem _ (List.mem_append_left _ (List.mem_of_getElem? (i := 2) rfl))), List.forall_mem_cons.mpr ⟨(List.mem_cons_of_mem _ (List.mem_append_left _ (List.mem_of_getElem? (i := 3) rfl))), List.forall_mem_cons.mpr ⟨(List.mem_cons_of_mem _ (List.mem_append_left _ (List.mem_of_getElem? (i := 4) rfl))), fun _ h => absurd h List.not_mem_nil⟩⟩⟩) (by decide +kernel)) ggX6_side_X6_isIn
set_option maxRecDepth 20000 in
theorem pl_wsX6_side_wsX60 : ∀ w ∈ wsX60, w ∈ wsX6_side := fun _ h => List.mem_cons_of_mem _ (List.mem_append_right _ (h))
theorem ggX6_side_X6_refuse : GoodIn wsX6_side wsX6_refuse := goodIn_sub (List.forall_mem_cons.mpr ⟨(List.mem_cons_of_mem _ (List.mem_append_left _ (List.mem_of_getElem? (i := 9) rfl))), (fun w h => (List.mem_append.mp h).elim ((List.forall_mem_cons.mpr ⟨(List.mem_cons_of_mem _ (List.mem_append_left _ (List.mem_of_getElem? (i := 10) rfl))), fun _ h => absurd h List.not_mem_nil⟩) w) (pl_wsX6_side_wsX60 w))⟩) (by decide +kernel)
set_option maxRecDepth 20000 in
theorem gX6_side_X6_refuse : GoodIn wsX6_side (wsV RX6 101 RX6 yX6_refuse wsX6_refuse) := goodIn_app (goodIn_sub (List.forall_mem_cons.mpr ⟨(List.mem_cons_of_mem _ (List.mem_append_left _ (List.mem_of_getElem? (i := 6) rfl))), List.forall_mem_cons.mpr ⟨(List.mem_cons_of_mem _ (List.mem_append_left _ (List.mem_of_getElem? (i := 7) rfl))), List.forall_mem_cons.mpr ⟨(List.mem_cons_of_mem _ (List.mem_append_left _ (List.mem_of_getElem? (i := 8) rfl))), List.forall_mem_cons.mpr ⟨(List.mem_cons_of_mem _ (List.mem_append_left _ (List.mem_of_getElem? (i := 4) rfl))), fun _ h => absurd h List.not_mem_nil⟩⟩⟩⟩) (by decide +kernel)) ggX6_side_X6_refuse
theorem dX6_side_0 : decode cX6_side 0 = .ok (.iload_n 1, 1) := by decide +kernel
theorem dX6_side_1 : decode cX6_side 1 = .ok (.i2l, 1) := by decide +kernel
theorem dX6_side_2 : decode cX6_side 2 = .ok (.aload_n 0, 1) := by decide +kernel
theorem dX6_side_3 : decode cX6_side 3 = .ok (.getfield 17, 3) := by decide +kernel
theorem dX6_side_6 : decode cX6_side 6 = .ok (.bipush 90, 2) := by decide +kernel
theorem dX6_side_8 : decode cX6_side 8 = .ok (.iaload, 1) := by decide +kernel
theorem dX6_side_9 : decode cX6_side 9 = .ok (.i2l, 1) := by decide +kernel
theorem dX6_side_10 : decode cX6_side 10 = .ok (.ldc2_w 99, 3) := by decide +kernel
theorem dX6_side_13 : decode cX6_side 13 = .ok (.invokestatic 76, 3) := by decide +kernel
theorem dX6_side_16 : decode cX6_side 16 = .ok (.ifCond .ne 10, 3) := by decide +kernel
theorem dX6_side_19 : decode cX6_side 19 = .ok (.aload_n 0, 1) := by decide +kernel
theorem dX6_side_20 : decode cX6_side 20 = .ok (.bipush (-2), 2) := by decide +kernel
theorem dX6_side_22 : decode cX6_side 22 = .ok (.invokevirtual 101, 3) := by decide +kernel
theorem dX6_side_25 : decode cX6_side 25 = .ok (.ireturn, 1) := by decide +kernel
theorem dX6_side_26 : decode cX6_side 26 = .ok (.aload_n 0, 1) := by decide +kernel
theorem dX6_side_27 : decode cX6_side 27 = .ok (.getfield 17, 3) := by decide +kernel
theorem dX6_side_30 : decode cX6_side 30 = .ok (.bipush 90, 2) := by decide +kernel
theorem dX6_side_32 : decode cX6_side 32 = .ok (.iaload, 1) := by decide +kernel
theorem dX6_side_33 : decode cX6_side 33 = .ok (.istore_n 2, 1) := by decide +kernel
theorem dX6_side_34 : decode cX6_side 34 = .ok (.aload_n 0, 1) := by decide +kernel
theorem dX6_side_35 : decode cX6_side 35 = .ok (.getfield 17, 3) := by decide +kernel
theorem dX6_side_38 : decode cX6_side 38 = .ok (.bipush 90, 2) := by decide +kernel
theorem dX6_side_40 : decode cX6_side 40 = .ok (.iload_n 1, 1) := by decide +kernel
theorem dX6_side_41 : decode cX6_side 41 = .ok (.iastore, 1) := by decide +kernel
theorem dX6_side_42 : decode cX6_side 42 = .ok (.iload_n 2, 1) := by decide +kernel
theorem dX6_side_43 : decode cX6_side 43 = .ok (.ireturn, 1) := by decide +kernel
set_option maxRecDepth 20000 in
theorem pl_wsX6_pond_wsX6_pond_r1 : ∀ w ∈ wsX6_pond_r1, w ∈ wsX6_pond := fun _ h => List.mem_cons_of_mem _ (List.mem_append_left _ (List.mem_append_left _ (h)))
theorem pl_wsX6_pond_wsX60 : ∀ w ∈ wsX60, w ∈ wsX6_pond := fun _ h => List.mem_cons_of_mem _ (List.mem_append_right _ (h))
theorem ggX6_pond_X6_isCell : GoodIn wsX6_pond wsX6_isCell := goodIn_sub (List.forall_mem_cons.mpr ⟨(pl_wsX6_pond_wsX6_pond_r1 _ (List.mem_of_getElem? (i := 5) rfl)), (fun w h => (List.mem_append.mp h).elim ((List.forall_mem_cons.mpr ⟨(pl_wsX6_pond_wsX6_pond_r1 _ (List.mem_of_getElem? (i := 0) rfl)), fun _ h => absurd h List.not_mem_nil⟩) w) (pl_wsX6_pond_wsX60 w))⟩) (by decide +kernel)
set_option maxRecDepth 20000 in
theorem gX6_pond_X6_isCell : GoodIn wsX6_pond (wsV RX6 104 RX6 yX6_isCell wsX6_isCell) := goodIn_app (goodIn_sub (List.forall_mem_cons.mpr ⟨(pl_wsX6_pond_wsX6_pond_r1 _ (List.mem_of_getElem? (i := 1) rfl)), List.forall_mem_cons.mpr ⟨(pl_wsX6_pond_wsX6_pond_r1 _ (List.mem_of_getElem? (i := 2) rfl)), List.forall_mem_cons.mpr ⟨(pl_wsX6_pond_wsX6_pond_r1 _ (List.mem_of_getElem? (i := 3) rfl)), List.forall_mem_cons.mpr ⟨(pl_wsX6_pond_wsX6_pond_r1 _ (List.mem_of_getElem? (i := 4) rfl)), fun _ h => absurd h List.not_mem_nil⟩⟩⟩⟩) (by decide +kernel)) ggX6_pond_X6_isCell
set_option maxRecDepth 20000 in
theorem ggX6_pond_X6_refuse : GoodIn wsX6_pond wsX6_refuse := goodIn_sub (List.forall_mem_cons.mpr ⟨(pl_wsX6_pond_wsX6_pond_r1 _ (List.mem_of_getElem? (i := 9) rfl)), (fun w h => (List.mem_append.mp h).elim ((List.forall_mem_cons.mpr ⟨(pl_wsX6_pond_wsX6_pond_r1 _ (List.mem_of_getElem? (i := 10) rfl)), fun _ h => absurd h List.not_mem_nil⟩) w) (pl_wsX6_pond_wsX60 w))⟩) (by decide +kernel)
set_option maxRecDepth 20000 in
theorem gX6_pond_X6_refuse : GoodIn wsX6_pond (wsV RX6 101 RX6 yX6_refuse wsX6_refuse) := goodIn_app (goodIn_sub (List.forall_mem_cons.mpr ⟨(pl_wsX6_pond_wsX6_pond_r1 _ (List.mem_of_getElem? (i := 6) rfl)), List.forall_mem_cons.mpr ⟨(pl_wsX6_pond_wsX6_pond_r1 _ (List.mem_of_getElem? (i := 7) rfl)), List.forall_mem_cons.mpr ⟨(pl_wsX6_pond_wsX6_pond_r1 _ (List.mem_of_getElem? (i := 8) rfl)), List.forall_mem_cons.mpr ⟨(pl_wsX6_pond_wsX6_pond_r1 _ (List.mem_of_getElem? (i := 4) rfl)), fun _ h => absurd h List.not_mem_nil⟩⟩⟩⟩) (by decide +kernel)) ggX6_pond_X6_refuse
set_option maxRecDepth 20000 in
theorem ggX6_pond_X6_isSomebody : GoodIn wsX6_pond wsX6_isSomebody := goodIn_sub (List.forall_mem_cons.mpr ⟨(pl_wsX6_pond_wsX6_pond_r1 _ (List.mem_of_getElem? (i := 14) rfl)), (fun w h => (List.mem_append.mp h).elim ((List.forall_mem_cons.mpr ⟨(pl_wsX6_pond_wsX6_pond_r1 _ (List.mem_of_getElem? (i := 15) rfl)), List.forall_mem_cons.mpr ⟨(pl_wsX6_pond_wsX6_pond_r1 _ (List.mem_of_getElem? (i := 16) rfl)), List.forall_mem_cons.mpr ⟨(pl_wsX6_pond_wsX6_pond_r1 _ (List.mem_of_getElem? (i := 17) rfl)), List.forall_mem_cons.mpr ⟨(pl_wsX6_pond_wsX6_pond_r1 _ (List.mem_of_getElem? (i := 4) rfl)), List.forall_mem_cons.mpr ⟨(pl_wsX6_pond_wsX6_pond_r1 _ (List.mem_of_getElem? (i := 18) rfl)), List.forall_mem_cons.mpr ⟨(pl_wsX6_pond_wsX6_pond_r1 _ (List.mem_of_getElem? (i := 0) rfl)), List.forall_mem_cons.mpr ⟨(pl_wsX6_pond_wsX6_pond_r1 _ (List.mem_of_getElem? (i := 19) rfl)), List.forall_mem_cons.mpr ⟨(pl_wsX6_pond_wsX6_pond_r1 _ (List.mem_of_getElem? (i := 20) rfl)), List.forall_mem_cons.mpr ⟨(pl_wsX6_pond_wsX6_pond_r1 _ (List.mem_of_getElem? (i := 21) rfl)), List.forall_mem_cons.mpr ⟨(pl_wsX6_pond_wsX6_pond_r1 _ (List.mem_of_getElem? (i := 22) rfl)), fun _ h => absurd h List.not_mem_nil⟩⟩⟩⟩⟩⟩⟩⟩⟩⟩) w) (pl_wsX6_pond_wsX60 w))⟩) (by decide +kernel)
set_option maxRecDepth 20000 in
theorem gX6_pond_X6_isSomebody : GoodIn wsX6_pond (wsV RX6 107 RX6 yX6_isSomebody wsX6_isSomebody) := goodIn_app (goodIn_sub (List.forall_mem_cons.mpr ⟨(pl_wsX6_pond_wsX6_pond_r1 _ (List.mem_of_getElem? (i := 11) rfl)), List.forall_mem_cons.mpr ⟨(pl_wsX6_pond_wsX6_pond_r1 _ (List.mem_of_getElem? (i := 12) rfl)), List.forall_mem_cons.mpr ⟨(pl_wsX6_pond_wsX6_pond_r1 _ (List.mem_of_getElem? (i := 13) rfl)), List.forall_mem_cons.mpr ⟨(pl_wsX6_pond_wsX6_pond_r1 _ (List.mem_of_getElem? (i := 4) rfl)), fun _ h => absurd h List.not_mem_nil⟩⟩⟩⟩) (by decide +kernel)) ggX6_pond_X6_isSomebody
set_option maxRecDepth 20000 in
theorem pl_wsX6_pond_wsX6_pond_r2 : ∀ w ∈ wsX6_pond_r2, w ∈ wsX6_pond := fun _ h => List.mem_cons_of_mem _ (List.mem_append_left _ (List.mem_append_right _ (h)))
theorem ggX6_pond_X6_pondAt : GoodIn wsX6_pond wsX6_pondAt := goodIn_sub (List.forall_mem_cons.mpr ⟨(pl_wsX6_pond_wsX6_pond_r2 _ (List.mem_of_getElem? (i := 1) rfl)), (fun _ h => absurd h List.not_mem_nil)⟩) (by decide +kernel)
set_option maxRecDepth 20000 in
theorem gX6_pond_X6_pondAt : GoodIn wsX6_pond (va_wsS RX6 80 yX6_pondAt wsX6_pondAt) := goodIn_app (goodIn_sub (List.forall_mem_cons.mpr ⟨(pl_wsX6_pond_wsX6_pond_r1 _ (List.mem_of_getElem? (i := 23) rfl)), List.forall_mem_cons.mpr ⟨(pl_wsX6_pond_wsX6_pond_r2 _ (List.mem_of_getElem? (i := 0) rfl)), List.forall_mem_cons.mpr ⟨(pl_wsX6_pond_wsX6_pond_r1 _ (List.mem_of_getElem? (i := 4) rfl)), fun _ h => absurd h List.not_mem_nil⟩⟩⟩) (by decide +kernel)) ggX6_pond_X6_pondAt
theorem dX6_pond_0 : decode cX6_pond 0 = .ok (.aload_n 0, 1) := by decide +kernel
theorem dX6_pond_1 : decode cX6_pond 1 = .ok (.iload_n 1, 1) := by decide +kernel
theorem dX6_pond_2 : decode cX6_pond 2 = .ok (.invokevirtual 104, 3) := by decide +kernel
theorem dX6_pond_5 : decode cX6_pond 5 = .ok (.ifCond .ne 10, 3) := by decide +kernel
theorem dX6_pond_8 : decode cX6_pond 8 = .ok (.aload_n 0, 1) := by decide +kernel
theorem dX6_pond_9 : decode cX6_pond 9 = .ok (.bipush (-2), 2) := by decide +kernel
theorem dX6_pond_11 : decode cX6_pond 11 = .ok (.invokevirtual 101, 3) := by decide +kernel
theorem dX6_pond_14 : decode cX6_pond 14 = .ok (.ireturn, 1) := by decide +kernel
theorem dX6_pond_15 : decode cX6_pond 15 = .ok (.iload_n 2, 1) := by decide +kernel
theorem dX6_pond_16 : decode cX6_pond 16 = .ok (.ifCond .eq 18, 3) := by decide +kernel
theorem dX6_pond_19 : decode cX6_pond 19 = .ok (.aload_n 0, 1) := by decide +kernel
theorem dX6_pond_20 : decode cX6_pond 20 = .ok (.iload_n 1, 1) := by decide +kernel
theorem dX6_pond_21 : decode cX6_pond 21 = .ok (.invokevirtual 107, 3) := by decide +kernel
theorem dX6_pond_24 : decode cX6_pond 24 = .ok (.ifCond .eq 10, 3) := by decide +kernel
theorem dX6_pond_27 : decode cX6_pond 27 = .ok (.aload_n 0, 1) := by decide +kernel
theorem dX6_pond_28 : decode cX6_pond 28 = .ok (.bipush (-5), 2) := by decide +kernel
theorem dX6_pond_30 : decode cX6_pond 30 = .ok (.invokevirtual 101, 3) := by decide +kernel
theorem dX6_pond_33 : decode cX6_pond 33 = .ok (.ireturn, 1) := by decide +kernel
theorem dX6_pond_34 : decode cX6_pond 34 = .ok (.aload_n 0, 1) := by decide +kernel
theorem dX6_pond_35 : decode cX6_pond 35 = .ok (.getfield 17, 3) := by decide +kernel
theorem dX6_pond_38 : decode cX6_pond 38 = .ok (.iload_n 1, 1) := by decide +kernel
theorem dX6_pond_39 : decode cX6_pond 39 = .ok (.invokestatic 80, 3) := by decide +kernel
theorem dX6_pond_42 : decode cX6_pond 42 = .ok (.iaload, 1) := by decide +kernel
theorem dX6_pond_43 : decode cX6_pond 43 = .ok (.istore_n 3, 1) := by decide +kernel
theorem dX6_pond_44 : decode cX6_pond 44 = .ok (.aload_n 0, 1) := by decide +kernel
theorem dX6_pond_45 : decode cX6_pond 45 = .ok (.getfield 17, 3) := by decide +kernel
theorem dX6_pond_48 : decode cX6_pond 48 = .ok (.iload_n 1, 1) := by decide +kernel
theorem dX6_pond_49 : decode cX6_pond 49 = .ok (.invokestatic 80, 3) := by decide +kernel
theorem dX6_pond_52 : decode cX6_pond 52 = .ok (.iload_n 2, 1) := by decide +kernel
theorem dX6_pond_53 : decode cX6_pond 53 = .ok (.ifCond .eq 7, 3) := by decide +kernel
theorem dX6_pond_56 : decode cX6_pond 56 = .ok (.iconst 1, 1) := by decide +kernel
theorem dX6_pond_57 : decode cX6_pond 57 = .ok (.goto 4, 3) := by decide +kernel
theorem dX6_pond_60 : decode cX6_pond 60 = .ok (.iconst 0, 1) := by decide +kernel
theorem dX6_pond_61 : decode cX6_pond 61 = .ok (.iastore, 1) := by decide +kernel
theorem dX6_pond_62 : decode cX6_pond 62 = .ok (.iload_n 3, 1) := by decide +kernel
theorem dX6_pond_63 : decode cX6_pond 63 = .ok (.ireturn, 1) := by decide +kernel
set_option maxRecDepth 20000 in
theorem pl_wsX6_person_wsX6_person_r1 : ∀ w ∈ wsX6_person_r1, w ∈ wsX6_person := fun _ h => List.mem_cons_of_mem _ (List.mem_append_left _ (List.mem_append_left _ (h)))
theorem ggX6_person_X6_isIn : GoodIn wsX6_person wsX6_isIn := goodIn_sub (List.forall_mem_cons.mpr ⟨(pl_wsX6_person_wsX6_person_r1 _ (List.mem_of_getElem? (i := 6) rfl)), (fun _ h => absurd h List.not_mem_nil)⟩) (by decide +kernel)
set_option maxRecDepth 20000 in
theorem gX6_person_X6_isIn : GoodIn wsX6_person (va_wsS RX6 76 yX6_isIn wsX6_isIn) := goodIn_app (goodIn_sub (List.forall_mem_cons.mpr ⟨(pl_wsX6_person_wsX6_person_r1 _ (List.mem_of_getElem? (i := 3) rfl)), List.forall_mem_cons.mpr ⟨(pl_wsX6_person_wsX6_person_r1 _ (List.mem_of_getElem? (i := 4) rfl)), List.forall_mem_cons.mpr ⟨(pl_wsX6_person_wsX6_person_r1 _ (List.mem_of_getElem? (i := 5) rfl)), fun _ h => absurd h List.not_mem_nil⟩⟩⟩) (by decide +kernel)) ggX6_person_X6_isIn
set_option maxRecDepth 20000 in
theorem pl_wsX6_person_wsX60 : ∀ w ∈ wsX60, w ∈ wsX6_person := fun _ h => List.mem_cons_of_mem _ (List.mem_append_right _ (h))
theorem ggX6_person_X6_isCell : GoodIn wsX6_person wsX6_isCell := goodIn_sub (List.forall_mem_cons.mpr ⟨(pl_wsX6_person_wsX6_person_r1 _ (List.mem_of_getElem? (i := 10) rfl)), (fun w h => (List.mem_append.mp h).elim ((List.forall_mem_cons.mpr ⟨(pl_wsX6_person_wsX6_person_r1 _ (List.mem_of_getElem? (i := 11) rfl)), fun _ h => absurd h List.not_mem_nil⟩) w) (pl_wsX6_person_wsX60 w))⟩) (by decide +kernel)
set_option maxRecDepth 20000 in
theorem gX6_person_X6_isCell : GoodIn wsX6_person (wsV RX6 104 RX6 yX6_isCell wsX6_isCell) := goodIn_app (goodIn_sub (List.forall_mem_cons.mpr ⟨(pl_wsX6_person_wsX6_person_r1 _ (List.mem_of_getElem? (i := 7) rfl)), List.forall_mem_cons.mpr ⟨(pl_wsX6_person_wsX6_person_r1 _ (List.mem_of_getElem? (i := 8) rfl)), List.forall_mem_cons.mpr ⟨(pl_wsX6_person_wsX6_person_r1 _ (List.mem_of_getElem? (i := 9) rfl)), List.forall_mem_cons.mpr ⟨(pl_wsX6_person_wsX6_person_r1 _ (List.mem_of_getElem? (i := 5) rfl)), fun _ h => absurd h List.not_mem_nil⟩⟩⟩⟩) (by decide +kernel)) ggX6_person_X6_isCell
set_option maxRecDepth 20000 in
theorem ggX6_person_X6_refuse : GoodIn wsX6_person wsX6_refuse := goodIn_sub (List.forall_mem_cons.mpr ⟨(pl_wsX6_person_wsX6_person_r1 _ (List.mem_of_getElem? (i := 15) rfl)), (fun w h => (List.mem_append.mp h).elim ((List.forall_mem_cons.mpr ⟨(pl_wsX6_person_wsX6_person_r1 _ (List.mem_of_getElem? (i := 16) rfl)), fun _ h => absurd h List.not_mem_nil⟩) w) (pl_wsX6_person_wsX60 w))⟩) (by decide +kernel)
set_option maxRecDepth 20000 in
theorem gX6_person_X6_refuse : GoodIn wsX6_person (wsV RX6 101 RX6 yX6_refuse wsX6_refuse) := goodIn_app (goodIn_sub (List.forall_mem_cons.mpr ⟨(pl_wsX6_person_wsX6_person_r1 _ (List.mem_of_getElem? (i := 12) rfl)), List.forall_mem_cons.mpr ⟨(pl_wsX6_person_wsX6_person_r1 _ (List.mem_of_getElem? (i := 13) rfl)), List.forall_mem_cons.mpr ⟨(pl_wsX6_person_wsX6_person_r1 _ (List.mem_of_getElem? (i := 14) rfl)), List.forall_mem_cons.mpr ⟨(pl_wsX6_person_wsX6_person_r1 _ (List.mem_of_getElem? (i := 5) rfl)), fun _ h => absurd h List.not_mem_nil⟩⟩⟩⟩) (by decide +kernel)) ggX6_person_X6_refuse
set_option maxRecDepth 20000 in
theorem ggX6_person_X6_hasPond : GoodIn wsX6_person wsX6_hasPond := goodIn_sub (List.forall_mem_cons.mpr ⟨(pl_wsX6_person_wsX6_person_r1 _ (List.mem_of_getElem? (i := 20) rfl)), (fun w h => (List.mem_append.mp h).elim ((List.forall_mem_cons.mpr ⟨(pl_wsX6_person_wsX6_person_r1 _ (List.mem_of_getElem? (i := 11) rfl)), List.forall_mem_cons.mpr ⟨(pl_wsX6_person_wsX6_person_r1 _ (List.mem_of_getElem? (i := 21) rfl)), List.forall_mem_cons.mpr ⟨(pl_wsX6_person_wsX6_person_r1 _ (List.mem_of_getElem? (i := 22) rfl)), List.forall_mem_cons.mpr ⟨(pl_wsX6_person_wsX6_person_r1 _ (List.mem_of_getElem? (i := 5) rfl)), List.forall_mem_cons.mpr ⟨(pl_wsX6_person_wsX6_person_r1 _ (List.mem_of_getElem? (i := 23) rfl)), fun _ h => absurd h List.not_mem_nil⟩⟩⟩⟩⟩) w) (pl_wsX6_person_wsX60 w))⟩) (by decide +kernel)
set_option maxRecDepth 20000 in
theorem gX6_person_X6_hasPond : GoodIn wsX6_person (wsV RX6 95 RX6 yX6_hasPond wsX6_hasPond) := goodIn_app (goodIn_sub (List.forall_mem_cons.mpr ⟨(pl_wsX6_person_wsX6_person_r1 _ (List.mem_of_getElem? (i := 17) rfl)), List.forall_mem_cons.mpr ⟨(pl_wsX6_person_wsX6_person_r1 _ (List.mem_of_getElem? (i := 18) rfl)), List.forall_mem_cons.mpr ⟨(pl_wsX6_person_wsX6_person_r1 _ (List.mem_of_getElem? (i := 19) rfl)), List.forall_mem_cons.mpr ⟨(pl_wsX6_person_wsX6_person_r1 _ (List.mem_of_getElem? (i := 5) rfl)), fun _ h => absurd h List.not_mem_nil⟩⟩⟩⟩) (by decide +kernel)) ggX6_person_X6_hasPond
set_option maxRecDepth 20000 in
theorem pl_wsX6_person_wsX6_person_r2 : ∀ w ∈ wsX6_person_r2, w ∈ wsX6_person := fun _ h => List.mem_cons_of_mem _ (List.mem_append_left _ (List.mem_append_right _ (h)))
theorem ggX6_person_X6_many : GoodIn wsX6_person wsX6_many := goodIn_sub (List.forall_mem_cons.mpr ⟨(pl_wsX6_person_wsX6_person_r2 _ (List.mem_of_getElem? (i := 3) rfl)), (fun w h => (List.mem_append.mp h).elim ((List.forall_mem_cons.mpr ⟨(pl_wsX6_person_wsX6_person_r1 _ (List.mem_of_getElem? (i := 11) rfl)), fun _ h => absurd h List.not_mem_nil⟩) w) (pl_wsX6_person_wsX60 w))⟩) (by decide +kernel)
set_option maxRecDepth 20000 in
theorem gX6_person_X6_many : GoodIn wsX6_person (wsV RX6 84 RX6 yX6_many wsX6_many) := goodIn_app (goodIn_sub (List.forall_mem_cons.mpr ⟨(pl_wsX6_person_wsX6_person_r2 _ (List.mem_of_getElem? (i := 0) rfl)), List.forall_mem_cons.mpr ⟨(pl_wsX6_person_wsX6_person_r2 _ (List.mem_of_getElem? (i := 1) rfl)), List.forall_mem_cons.mpr ⟨(pl_wsX6_person_wsX6_person_r2 _ (List.mem_of_getElem? (i := 2) rfl)), List.forall_mem_cons.mpr ⟨(pl_wsX6_person_wsX6_person_r1 _ (List.mem_of_getElem? (i := 5) rfl)), fun _ h => absurd h List.not_mem_nil⟩⟩⟩⟩) (by decide +kernel)) ggX6_person_X6_many
set_option maxRecDepth 20000 in
theorem ggX6_person_X6_add : GoodIn wsX6_person wsX6_add := goodIn_sub (List.forall_mem_cons.mpr ⟨(pl_wsX6_person_wsX6_person_r2 _ (List.mem_of_getElem? (i := 7) rfl)), (fun w h => (List.mem_append.mp h).elim ((List.forall_mem_cons.mpr ⟨(pl_wsX6_person_wsX6_person_r1 _ (List.mem_of_getElem? (i := 11) rfl)), fun _ h => absurd h List.not_mem_nil⟩) w) (pl_wsX6_person_wsX60 w))⟩) (by decide +kernel)
set_option maxRecDepth 20000 in
theorem gX6_person_X6_add : GoodIn wsX6_person (wsV RX6 116 RX6 yX6_add wsX6_add) := goodIn_app (goodIn_sub (List.forall_mem_cons.mpr ⟨(pl_wsX6_person_wsX6_person_r2 _ (List.mem_of_getElem? (i := 4) rfl)), List.forall_mem_cons.mpr ⟨(pl_wsX6_person_wsX6_person_r2 _ (List.mem_of_getElem? (i := 5) rfl)), List.forall_mem_cons.mpr ⟨(pl_wsX6_person_wsX6_person_r2 _ (List.mem_of_getElem? (i := 6) rfl)), List.forall_mem_cons.mpr ⟨(pl_wsX6_person_wsX6_person_r1 _ (List.mem_of_getElem? (i := 5) rfl)), fun _ h => absurd h List.not_mem_nil⟩⟩⟩⟩) (by decide +kernel)) ggX6_person_X6_add
theorem dX6_person_0 : decode cX6_person 0 = .ok (.iload_n 1, 1) := by decide +kernel
theorem dX6_person_1 : decode cX6_person 1 = .ok (.i2l, 1) := by decide +kernel
theorem dX6_person_2 : decode cX6_person 2 = .ok (.lconst 0, 1) := by decide +kernel
theorem dX6_person_3 : decode cX6_person 3 = .ok (.ldc2_w 110, 3) := by decide +kernel
theorem dX6_person_6 : decode cX6_person 6 = .ok (.invokestatic 76, 3) := by decide +kernel
theorem dX6_person_9 : decode cX6_person 9 = .ok (.ifCond .eq 36, 3) := by decide +kernel
theorem dX6_person_12 : decode cX6_person 12 = .ok (.iload_n 2, 1) := by decide +kernel
theorem dX6_person_13 : decode cX6_person 13 = .ok (.i2l, 1) := by decide +kernel
theorem dX6_person_14 : decode cX6_person 14 = .ok (.lconst 0, 1) := by decide +kernel
theorem dX6_person_15 : decode cX6_person 15 = .ok (.ldc2_w 112, 3) := by decide +kernel
theorem dX6_person_18 : decode cX6_person 18 = .ok (.invokestatic 76, 3) := by decide +kernel
theorem dX6_person_21 : decode cX6_person 21 = .ok (.ifCond .eq 24, 3) := by decide +kernel
theorem dX6_person_24 : decode cX6_person 24 = .ok (.aload_n 0, 1) := by decide +kernel
theorem dX6_person_25 : decode cX6_person 25 = .ok (.iload_n 3, 1) := by decide +kernel
theorem dX6_person_26 : decode cX6_person 26 = .ok (.invokevirtual 104, 3) := by decide +kernel
theorem dX6_person_29 : decode cX6_person 29 = .ok (.ifCond .eq 16, 3) := by decide +kernel
theorem dX6_person_32 : decode cX6_person 32 = .ok (.iload 4, 2) := by decide +kernel
theorem dX6_person_34 : decode cX6_person 34 = .ok (.i2l, 1) := by decide +kernel
theorem dX6_person_35 : decode cX6_person 35 = .ok (.lconst 0, 1) := by decide +kernel
theorem dX6_person_36 : decode cX6_person 36 = .ok (.ldc2_w 114, 3) := by decide +kernel
theorem dX6_person_39 : decode cX6_person 39 = .ok (.invokestatic 76, 3) := by decide +kernel
theorem dX6_person_42 : decode cX6_person 42 = .ok (.ifCond .ne 10, 3) := by decide +kernel
theorem dX6_person_45 : decode cX6_person 45 = .ok (.aload_n 0, 1) := by decide +kernel
theorem dX6_person_46 : decode cX6_person 46 = .ok (.bipush (-2), 2) := by decide +kernel
theorem dX6_person_48 : decode cX6_person 48 = .ok (.invokevirtual 101, 3) := by decide +kernel
theorem dX6_person_51 : decode cX6_person 51 = .ok (.ireturn, 1) := by decide +kernel
theorem dX6_person_52 : decode cX6_person 52 = .ok (.aload_n 0, 1) := by decide +kernel
theorem dX6_person_53 : decode cX6_person 53 = .ok (.iload_n 3, 1) := by decide +kernel
theorem dX6_person_54 : decode cX6_person 54 = .ok (.invokevirtual 95, 3) := by decide +kernel
theorem dX6_person_57 : decode cX6_person 57 = .ok (.ifCond .eq 10, 3) := by decide +kernel
theorem dX6_person_60 : decode cX6_person 60 = .ok (.aload_n 0, 1) := by decide +kernel
theorem dX6_person_61 : decode cX6_person 61 = .ok (.bipush (-5), 2) := by decide +kernel
theorem dX6_person_63 : decode cX6_person 63 = .ok (.invokevirtual 101, 3) := by decide +kernel
theorem dX6_person_66 : decode cX6_person 66 = .ok (.ireturn, 1) := by decide +kernel
theorem dX6_person_67 : decode cX6_person 67 = .ok (.aload_n 0, 1) := by decide +kernel
theorem dX6_person_68 : decode cX6_person 68 = .ok (.invokevirtual 84, 3) := by decide +kernel
theorem dX6_person_71 : decode cX6_person 71 = .ok (.bipush 8, 2) := by decide +kernel
theorem dX6_person_73 : decode cX6_person 73 = .ok (.if_icmp .ne 12, 3) := by decide +kernel
theorem dX6_person_76 : decode cX6_person 76 = .ok (.aload_n 0, 1) := by decide +kernel
theorem dX6_person_77 : decode cX6_person 77 = .ok (.bipush (-6), 2) := by decide +kernel
theorem dX6_person_79 : decode cX6_person 79 = .ok (.invokevirtual 101, 3) := by decide +kernel
theorem dX6_person_82 : decode cX6_person 82 = .ok (.goto 12, 3) := by decide +kernel
theorem dX6_person_85 : decode cX6_person 85 = .ok (.aload_n 0, 1) := by decide +kernel
theorem dX6_person_86 : decode cX6_person 86 = .ok (.iload_n 1, 1) := by decide +kernel
theorem dX6_person_87 : decode cX6_person 87 = .ok (.iload_n 2, 1) := by decide +kernel
theorem dX6_person_88 : decode cX6_person 88 = .ok (.iload_n 3, 1) := by decide +kernel
theorem dX6_person_89 : decode cX6_person 89 = .ok (.iload 4, 2) := by decide +kernel
theorem dX6_person_91 : decode cX6_person 91 = .ok (.invokevirtual 116, 3) := by decide +kernel
theorem dX6_person_94 : decode cX6_person 94 = .ok (.ireturn, 1) := by decide +kernel
set_option maxRecDepth 20000 in
theorem ggX6_tell_X6_isIn : GoodIn wsX6_tell wsX6_isIn := goodIn_sub (List.forall_mem_cons.mpr ⟨(List.mem_cons_of_mem _ (List.mem_append_left _ (List.mem_of_getElem? (i := 6) rfl))), (fun _ h => absurd h List.not_mem_nil)⟩) (by decide +kernel)
set_option maxRecDepth 20000 in
theorem gX6_tell_X6_isIn : GoodIn wsX6_tell (va_wsS RX6 76 yX6_isIn wsX6_isIn) := goodIn_app (goodIn_sub (List.forall_mem_cons.mpr ⟨(List.mem_cons_of_mem _ (List.mem_append_left _ (List.mem_of_getElem? (i := 3) rfl))), List.forall_mem_cons.mpr ⟨(List.mem_cons_of_mem _ (List.mem_append_left _ (List.mem_of_getElem? (i := 4) rfl))), List.forall_mem_cons.mpr ⟨(List.mem_cons_of_mem _ (List.mem_append_left _ (List.mem_of_getElem? (i := 5) rfl))), fun _ h => absurd h List.not_mem_nil⟩⟩⟩) (by decide +kernel)) ggX6_tell_X6_isIn
set_option maxRecDepth 20000 in
theorem pl_wsX6_tell_wsX60 : ∀ w ∈ wsX60, w ∈ wsX6_tell := fun _ h => List.mem_cons_of_mem _ (List.mem_append_right _ (h))
theorem ggX6_tell_X6_refuse : GoodIn wsX6_tell wsX6_refuse := goodIn_sub (List.forall_mem_cons.mpr ⟨(List.mem_cons_of_mem _ (List.mem_append_left _ (List.mem_of_getElem? (i := 10) rfl))), (fun w h => (List.mem_append.mp h).elim ((List.forall_mem_cons.mpr ⟨(List.mem_cons_of_mem _ (List.mem_append_left _ (List.mem_of_getElem? (i := 11) rfl))), fun _ h => absurd h List.not_mem_nil⟩) w) (pl_wsX6_tell_wsX60 w))⟩) (by decide +kernel)
set_option maxRecDepth 20000 in
theorem gX6_tell_X6_refuse : GoodIn wsX6_tell (wsV RX6 101 RX6 yX6_refuse wsX6_refuse) := goodIn_app (goodIn_sub (List.forall_mem_cons.mpr ⟨(List.mem_cons_of_mem _ (List.mem_append_left _ (List.mem_of_getElem? (i := 7) rfl))), List.forall_mem_cons.mpr ⟨(List.mem_cons_of_mem _ (List.mem_append_left _ (List.mem_of_getElem? (i := 8) rfl))), List.forall_mem_cons.mpr ⟨(List.mem_cons_of_mem _ (List.mem_append_left _ (List.mem_of_getElem? (i := 9) rfl))), List.forall_mem_cons.mpr ⟨(List.mem_cons_of_mem _ (List.mem_append_left _ (List.mem_of_getElem? (i := 5) rfl))), fun _ h => absurd h List.not_mem_nil⟩⟩⟩⟩) (by decide +kernel)) ggX6_tell_X6_refuse
theorem dX6_tell_0 : decode cX6_tell 0 = .ok (.iload_n 1, 1) := by decide +kernel
theorem dX6_tell_1 : decode cX6_tell 1 = .ok (.i2l, 1) := by decide +kernel
theorem dX6_tell_2 : decode cX6_tell 2 = .ok (.lconst 0, 1) := by decide +kernel
theorem dX6_tell_3 : decode cX6_tell 3 = .ok (.ldc2_w 120, 3) := by decide +kernel
theorem dX6_tell_6 : decode cX6_tell 6 = .ok (.invokestatic 76, 3) := by decide +kernel
theorem dX6_tell_9 : decode cX6_tell 9 = .ok (.ifCond .eq 24, 3) := by decide +kernel
theorem dX6_tell_12 : decode cX6_tell 12 = .ok (.iload_n 2, 1) := by decide +kernel
theorem dX6_tell_13 : decode cX6_tell 13 = .ok (.i2l, 1) := by decide +kernel
theorem dX6_tell_14 : decode cX6_tell 14 = .ok (.lconst 0, 1) := by decide +kernel
theorem dX6_tell_15 : decode cX6_tell 15 = .ok (.iload_n 1, 1) := by decide +kernel
theorem dX6_tell_16 : decode cX6_tell 16 = .ok (.iconst 2, 1) := by decide +kernel
theorem dX6_tell_17 : decode cX6_tell 17 = .ok (.if_icmp .ne 9, 3) := by decide +kernel
theorem dX6_tell_20 : decode cX6_tell 20 = .ok (.ldc2_w 122, 3) := by decide +kernel
theorem dX6_tell_23 : decode cX6_tell 23 = .ok (.goto 4, 3) := by decide +kernel
theorem dX6_tell_26 : decode cX6_tell 26 = .ok (.lconst 1, 1) := by decide +kernel
theorem dX6_tell_27 : decode cX6_tell 27 = .ok (.invokestatic 76, 3) := by decide +kernel
theorem dX6_tell_30 : decode cX6_tell 30 = .ok (.ifCond .ne 10, 3) := by decide +kernel
theorem dX6_tell_33 : decode cX6_tell 33 = .ok (.aload_n 0, 1) := by decide +kernel
theorem dX6_tell_34 : decode cX6_tell 34 = .ok (.bipush (-2), 2) := by decide +kernel
theorem dX6_tell_36 : decode cX6_tell 36 = .ok (.invokevirtual 101, 3) := by decide +kernel
theorem dX6_tell_39 : decode cX6_tell 39 = .ok (.ireturn, 1) := by decide +kernel
theorem dX6_tell_40 : decode cX6_tell 40 = .ok (.aload_n 0, 1) := by decide +kernel
theorem dX6_tell_41 : decode cX6_tell 41 = .ok (.getfield 17, 3) := by decide +kernel
theorem dX6_tell_44 : decode cX6_tell 44 = .ok (.bipush 91, 2) := by decide +kernel
theorem dX6_tell_46 : decode cX6_tell 46 = .ok (.iload_n 1, 1) := by decide +kernel
theorem dX6_tell_47 : decode cX6_tell 47 = .ok (.iadd, 1) := by decide +kernel
theorem dX6_tell_48 : decode cX6_tell 48 = .ok (.iaload, 1) := by decide +kernel
theorem dX6_tell_49 : decode cX6_tell 49 = .ok (.istore_n 3, 1) := by decide +kernel
theorem dX6_tell_50 : decode cX6_tell 50 = .ok (.aload_n 0, 1) := by decide +kernel
theorem dX6_tell_51 : decode cX6_tell 51 = .ok (.getfield 17, 3) := by decide +kernel
theorem dX6_tell_54 : decode cX6_tell 54 = .ok (.bipush 91, 2) := by decide +kernel
theorem dX6_tell_56 : decode cX6_tell 56 = .ok (.iload_n 1, 1) := by decide +kernel
theorem dX6_tell_57 : decode cX6_tell 57 = .ok (.iadd, 1) := by decide +kernel
theorem dX6_tell_58 : decode cX6_tell 58 = .ok (.iload_n 2, 1) := by decide +kernel
theorem dX6_tell_59 : decode cX6_tell 59 = .ok (.iastore, 1) := by decide +kernel
theorem dX6_tell_60 : decode cX6_tell 60 = .ok (.iload_n 3, 1) := by decide +kernel
theorem dX6_tell_61 : decode cX6_tell 61 = .ok (.ireturn, 1) := by decide +kernel
set_option maxRecDepth 20000 in
theorem pl_wsX6_isFor__wsX60 : ∀ w ∈ wsX60, w ∈ wsX6_isFor_ := fun _ h => List.mem_cons_of_mem _ (List.mem_append_right _ (h))
theorem ggX6_isFor__X6_isPerson : GoodIn wsX6_isFor_ wsX6_isPerson := goodIn_sub (List.forall_mem_cons.mpr ⟨(List.mem_cons_of_mem _ (List.mem_append_left _ (List.mem_of_getElem? (i := 5) rfl))), (fun w h => (List.mem_append.mp h).elim ((List.forall_mem_cons.mpr ⟨(List.mem_cons_of_mem _ (List.mem_append_left _ (List.mem_of_getElem? (i := 0) rfl))), List.forall_mem_cons.mpr ⟨(List.mem_cons_of_mem _ (List.mem_append_left _ (List.mem_of_getElem? (i := 6) rfl))), List.forall_mem_cons.mpr ⟨(List.mem_cons_of_mem _ (List.mem_append_left _ (List.mem_of_getElem? (i := 7) rfl))), List.forall_mem_cons.mpr ⟨(List.mem_cons_of_mem _ (List.mem_append_left _ (List.mem_of_getElem? (i := 4) rfl))), List.forall_mem_cons.mpr ⟨(List.mem_cons_of_mem _ (List.mem_append_left _ (List.mem_of_getElem? (i := 8) rfl))), fun _ h => absurd h List.not_mem_nil⟩⟩⟩⟩⟩) w) (pl_wsX6_isFor__wsX60 w))⟩) (by decide +kernel)
set_option maxRecDepth 20000 in
theorem gX6_isFor__X6_isPerson : GoodIn wsX6_isFor_ (wsV RX6 124 RX6 yX6_isPerson wsX6_isPerson) := goodIn_app (goodIn_sub (List.forall_mem_cons.mpr ⟨(List.mem_cons_of_mem _ (List.mem_append_left _ (List.mem_of_getElem? (i := 1) rfl))), List.forall_mem_cons.mpr ⟨(List.mem_cons_of_mem _ (List.mem_append_left _ (List.mem_of_getElem? (i := 2) rfl))), List.forall_mem_cons.mpr ⟨(List.mem_cons_of_mem _ (List.mem_append_left _ (List.mem_of_getElem? (i := 3) rfl))), List.forall_mem_cons.mpr ⟨(List.mem_cons_of_mem _ (List.mem_append_left _ (List.mem_of_getElem? (i := 4) rfl))), fun _ h => absurd h List.not_mem_nil⟩⟩⟩⟩) (by decide +kernel)) ggX6_isFor__X6_isPerson
set_option maxRecDepth 20000 in
theorem ggX6_isFor__X6_isIn : GoodIn wsX6_isFor_ wsX6_isIn := goodIn_sub (List.forall_mem_cons.mpr ⟨(List.mem_cons_of_mem _ (List.mem_append_left _ (List.mem_of_getElem? (i := 8) rfl))), (fun _ h => absurd h List.not_mem_nil)⟩) (by decide +kernel)
set_option maxRecDepth 20000 in
theorem gX6_isFor__X6_isIn : GoodIn wsX6_isFor_ (va_wsS RX6 76 yX6_isIn wsX6_isIn) := goodIn_app (goodIn_sub (List.forall_mem_cons.mpr ⟨(List.mem_cons_of_mem _ (List.mem_append_left _ (List.mem_of_getElem? (i := 6) rfl))), List.forall_mem_cons.mpr ⟨(List.mem_cons_of_mem _ (List.mem_append_left _ (List.mem_of_getElem? (i := 7) rfl))), List.forall_mem_cons.mpr ⟨(List.mem_cons_of_mem _ (List.mem_append_left _ (List.mem_of_getElem? (i := 4) rfl))), fun _ h => absurd h List.not_mem_nil⟩⟩⟩) (by decide +kernel)) ggX6_isFor__X6_isIn
set_option maxRecDepth 20000 in
theorem ggX6_isFor__X6_refuse : GoodIn wsX6_isFor_ wsX6_refuse := goodIn_sub (List.forall_mem_cons.mpr ⟨(List.mem_cons_of_mem _ (List.mem_append_left _ (List.mem_of_getElem? (i := 12) rfl))), (fun w h => (List.mem_append.mp h).elim ((List.forall_mem_cons.mpr ⟨(List.mem_cons_of_mem _ (List.mem_append_left _ (List.mem_of_getElem? (i := 13) rfl))), fun _ h => absurd h List.not_mem_nil⟩) w) (pl_wsX6_isFor__wsX60 w))⟩) (by decide +kernel)
set_option maxRecDepth 20000 in
theorem gX6_isFor__X6_refuse : GoodIn wsX6_isFor_ (wsV RX6 101 RX6 yX6_refuse wsX6_refuse) := goodIn_app (goodIn_sub (List.forall_mem_cons.mpr ⟨(List.mem_cons_of_mem _ (List.mem_append_left _ (List.mem_of_getElem? (i := 9) rfl))), List.forall_mem_cons.mpr ⟨(List.mem_cons_of_mem _ (List.mem_append_left _ (List.mem_of_getElem? (i := 10) rfl))), List.forall_mem_cons.mpr ⟨(List.mem_cons_of_mem _ (List.mem_append_left _ (List.mem_of_getElem? (i := 11) rfl))), List.forall_mem_cons.mpr ⟨(List.mem_cons_of_mem _ (List.mem_append_left _ (List.mem_of_getElem? (i := 4) rfl))), fun _ h => absurd h List.not_mem_nil⟩⟩⟩⟩) (by decide +kernel)) ggX6_isFor__X6_refuse
set_option maxRecDepth 20000 in
theorem ggX6_isFor__X6_isFor : GoodIn wsX6_isFor_ wsX6_isFor := goodIn_sub (List.forall_mem_cons.mpr ⟨(List.mem_cons_of_mem _ (List.mem_append_left _ (List.mem_of_getElem? (i := 17) rfl))), (fun w h => (List.mem_append.mp h).elim ((List.forall_mem_cons.mpr ⟨(List.mem_cons_of_mem _ (List.mem_append_left _ (List.mem_of_getElem? (i := 0) rfl))), fun _ h => absurd h List.not_mem_nil⟩) w) (pl_wsX6_isFor__wsX60 w))⟩) (by decide +kernel)
set_option maxRecDepth 20000 in
theorem gX6_isFor__X6_isFor : GoodIn wsX6_isFor_ (wsV RX6 127 RX6 yX6_isFor wsX6_isFor) := goodIn_app (goodIn_sub (List.forall_mem_cons.mpr ⟨(List.mem_cons_of_mem _ (List.mem_append_left _ (List.mem_of_getElem? (i := 14) rfl))), List.forall_mem_cons.mpr ⟨(List.mem_cons_of_mem _ (List.mem_append_left _ (List.mem_of_getElem? (i := 15) rfl))), List.forall_mem_cons.mpr ⟨(List.mem_cons_of_mem _ (List.mem_append_left _ (List.mem_of_getElem? (i := 16) rfl))), List.forall_mem_cons.mpr ⟨(List.mem_cons_of_mem _ (List.mem_append_left _ (List.mem_of_getElem? (i := 4) rfl))), fun _ h => absurd h List.not_mem_nil⟩⟩⟩⟩) (by decide +kernel)) ggX6_isFor__X6_isFor
theorem dX6_isFor__0 : decode cX6_isFor_ 0 = .ok (.aload_n 0, 1) := by decide +kernel
theorem dX6_isFor__1 : decode cX6_isFor_ 1 = .ok (.iload_n 1, 1) := by decide +kernel
theorem dX6_isFor__2 : decode cX6_isFor_ 2 = .ok (.invokevirtual 124, 3) := by decide +kernel
theorem dX6_isFor__5 : decode cX6_isFor_ 5 = .ok (.ifCond .eq 13, 3) := by decide +kernel
theorem dX6_isFor__8 : decode cX6_isFor_ 8 = .ok (.iload_n 2, 1) := by decide +kernel
theorem dX6_isFor__9 : decode cX6_isFor_ 9 = .ok (.i2l, 1) := by decide +kernel
theorem dX6_isFor__10 : decode cX6_isFor_ 10 = .ok (.lconst 0, 1) := by decide +kernel
theorem dX6_isFor__11 : decode cX6_isFor_ 11 = .ok (.lconst 1, 1) := by decide +kernel
theorem dX6_isFor__12 : decode cX6_isFor_ 12 = .ok (.invokestatic 76, 3) := by decide +kernel
theorem dX6_isFor__15 : decode cX6_isFor_ 15 = .ok (.ifCond .ne 10, 3) := by decide +kernel
theorem dX6_isFor__18 : decode cX6_isFor_ 18 = .ok (.aload_n 0, 1) := by decide +kernel
theorem dX6_isFor__19 : decode cX6_isFor_ 19 = .ok (.bipush (-2), 2) := by decide +kernel
theorem dX6_isFor__21 : decode cX6_isFor_ 21 = .ok (.invokevirtual 101, 3) := by decide +kernel
theorem dX6_isFor__24 : decode cX6_isFor_ 24 = .ok (.ireturn, 1) := by decide +kernel
theorem dX6_isFor__25 : decode cX6_isFor_ 25 = .ok (.aload_n 0, 1) := by decide +kernel
theorem dX6_isFor__26 : decode cX6_isFor_ 26 = .ok (.iload_n 1, 1) := by decide +kernel
theorem dX6_isFor__27 : decode cX6_isFor_ 27 = .ok (.invokevirtual 127, 3) := by decide +kernel
theorem dX6_isFor__30 : decode cX6_isFor_ 30 = .ok (.istore_n 3, 1) := by decide +kernel
theorem dX6_isFor__31 : decode cX6_isFor_ 31 = .ok (.aload_n 0, 1) := by decide +kernel
theorem dX6_isFor__32 : decode cX6_isFor_ 32 = .ok (.getfield 17, 3) := by decide +kernel
theorem dX6_isFor__35 : decode cX6_isFor_ 35 = .ok (.iconst 5, 1) := by decide +kernel
theorem dX6_isFor__36 : decode cX6_isFor_ 36 = .ok (.iload_n 1, 1) := by decide +kernel
theorem dX6_isFor__37 : decode cX6_isFor_ 37 = .ok (.imul, 1) := by decide +kernel
theorem dX6_isFor__38 : decode cX6_isFor_ 38 = .ok (.iconst 4, 1) := by decide +kernel
theorem dX6_isFor__39 : decode cX6_isFor_ 39 = .ok (.iadd, 1) := by decide +kernel
theorem dX6_isFor__40 : decode cX6_isFor_ 40 = .ok (.iload_n 2, 1) := by decide +kernel
theorem dX6_isFor__41 : decode cX6_isFor_ 41 = .ok (.iastore, 1) := by decide +kernel
theorem dX6_isFor__42 : decode cX6_isFor_ 42 = .ok (.iload_n 3, 1) := by decide +kernel
theorem dX6_isFor__43 : decode cX6_isFor_ 43 = .ok (.ireturn, 1) := by decide +kernel
set_option maxRecDepth 20000 in
theorem pl_wsX6_put_wsX6_put_r1 : ∀ w ∈ wsX6_put_r1, w ∈ wsX6_put := fun _ h => List.mem_cons_of_mem _ (List.mem_append_left _ (List.mem_append_left _ (h)))
theorem pl_wsX6_put_wsX60 : ∀ w ∈ wsX60, w ∈ wsX6_put := fun _ h => List.mem_cons_of_mem _ (List.mem_append_right _ (h))
theorem ggX6_put_X6_isPerson : GoodIn wsX6_put wsX6_isPerson := goodIn_sub (List.forall_mem_cons.mpr ⟨(pl_wsX6_put_wsX6_put_r1 _ (List.mem_of_getElem? (i := 6) rfl)), (fun w h => (List.mem_append.mp h).elim ((List.forall_mem_cons.mpr ⟨(pl_wsX6_put_wsX6_put_r1 _ (List.mem_of_getElem? (i := 1) rfl)), List.forall_mem_cons.mpr ⟨(pl_wsX6_put_wsX6_put_r1 _ (List.mem_of_getElem? (i := 7) rfl)), List.forall_mem_cons.mpr ⟨(pl_wsX6_put_wsX6_put_r1 _ (List.mem_of_getElem? (i := 8) rfl)), List.forall_mem_cons.mpr ⟨(pl_wsX6_put_wsX6_put_r1 _ (List.mem_of_getElem? (i := 5) rfl)), List.forall_mem_cons.mpr ⟨(pl_wsX6_put_wsX6_put_r1 _ (List.mem_of_getElem? (i := 9) rfl)), fun _ h => absurd h List.not_mem_nil⟩⟩⟩⟩⟩) w) (pl_wsX6_put_wsX60 w))⟩) (by decide +kernel)
set_option maxRecDepth 20000 in
theorem gX6_put_X6_isPerson : GoodIn wsX6_put (wsV RX6 124 RX6 yX6_isPerson wsX6_isPerson) := goodIn_app (goodIn_sub (List.forall_mem_cons.mpr ⟨(pl_wsX6_put_wsX6_put_r1 _ (List.mem_of_getElem? (i := 2) rfl)), List.forall_mem_cons.mpr ⟨(pl_wsX6_put_wsX6_put_r1 _ (List.mem_of_getElem? (i := 3) rfl)), List.forall_mem_cons.mpr ⟨(pl_wsX6_put_wsX6_put_r1 _ (List.mem_of_getElem? (i := 4) rfl)), List.forall_mem_cons.mpr ⟨(pl_wsX6_put_wsX6_put_r1 _ (List.mem_of_getElem? (i := 5) rfl)), fun _ h => absurd h List.not_mem_nil⟩⟩⟩⟩) (by decide +kernel)) ggX6_put_X6_isPerson
set_option maxRecDepth 20000 in
theorem ggX6_put_X6_isCell : GoodIn wsX6_put wsX6_isCell := goodIn_sub (List.forall_mem_cons.mpr ⟨(pl_wsX6_put_wsX6_put_r1 _ (List.mem_of_getElem? (i := 13) rfl)), (fun w h => (List.mem_append.mp h).elim ((List.forall_mem_cons.mpr ⟨(pl_wsX6_put_wsX6_put_r1 _ (List.mem_of_getElem? (i := 1) rfl)), fun _ h => absurd h List.not_mem_nil⟩) w) (pl_wsX6_put_wsX60 w))⟩) (by decide +kernel)
set_option maxRecDepth 20000 in
theorem gX6_put_X6_isCell : GoodIn wsX6_put (wsV RX6 104 RX6 yX6_isCell wsX6_isCell) := goodIn_app (goodIn_sub (List.forall_mem_cons.mpr ⟨(pl_wsX6_put_wsX6_put_r1 _ (List.mem_of_getElem? (i := 10) rfl)), List.forall_mem_cons.mpr ⟨(pl_wsX6_put_wsX6_put_r1 _ (List.mem_of_getElem? (i := 11) rfl)), List.forall_mem_cons.mpr ⟨(pl_wsX6_put_wsX6_put_r1 _ (List.mem_of_getElem? (i := 12) rfl)), List.forall_mem_cons.mpr ⟨(pl_wsX6_put_wsX6_put_r1 _ (List.mem_of_getElem? (i := 5) rfl)), fun _ h => absurd h List.not_mem_nil⟩⟩⟩⟩) (by decide +kernel)) ggX6_put_X6_isCell
set_option maxRecDepth 20000 in
theorem ggX6_put_X6_isIn : GoodIn wsX6_put wsX6_isIn := goodIn_sub (List.forall_mem_cons.mpr ⟨(pl_wsX6_put_wsX6_put_r1 _ (List.mem_of_getElem? (i := 9) rfl)), (fun _ h => absurd h List.not_mem_nil)⟩) (by decide +kernel)
set_option maxRecDepth 20000 in
theorem gX6_put_X6_isIn : GoodIn wsX6_put (va_wsS RX6 76 yX6_isIn wsX6_isIn) := goodIn_app (goodIn_sub (List.forall_mem_cons.mpr ⟨(pl_wsX6_put_wsX6_put_r1 _ (List.mem_of_getElem? (i := 7) rfl)), List.forall_mem_cons.mpr ⟨(pl_wsX6_put_wsX6_put_r1 _ (List.mem_of_getElem? (i := 8) rfl)), List.forall_mem_cons.mpr ⟨(pl_wsX6_put_wsX6_put_r1 _ (List.mem_of_getElem? (i := 5) rfl)), fun _ h => absurd h List.not_mem_nil⟩⟩⟩) (by decide +kernel)) ggX6_put_X6_isIn
set_option maxRecDepth 20000 in
theorem ggX6_put_X6_refuse : GoodIn wsX6_put wsX6_refuse := goodIn_sub (List.forall_mem_cons.mpr ⟨(pl_wsX6_put_wsX6_put_r1 _ (List.mem_of_getElem? (i := 17) rfl)), (fun w h => (List.mem_append.mp h).elim ((List.forall_mem_cons.mpr ⟨(pl_wsX6_put_wsX6_put_r1 _ (List.mem_of_getElem? (i := 18) rfl)), fun _ h => absurd h List.not_mem_nil⟩) w) (pl_wsX6_put_wsX60 w))⟩) (by decide +kernel)
set_option maxRecDepth 20000 in
theorem gX6_put_X6_refuse : GoodIn wsX6_put (wsV RX6 101 RX6 yX6_refuse wsX6_refuse) := goodIn_app (goodIn_sub (List.forall_mem_cons.mpr ⟨(pl_wsX6_put_wsX6_put_r1 _ (List.mem_of_getElem? (i := 14) rfl)), List.forall_mem_cons.mpr ⟨(pl_wsX6_put_wsX6_put_r1 _ (List.mem_of_getElem? (i := 15) rfl)), List.forall_mem_cons.mpr ⟨(pl_wsX6_put_wsX6_put_r1 _ (List.mem_of_getElem? (i := 16) rfl)), List.forall_mem_cons.mpr ⟨(pl_wsX6_put_wsX6_put_r1 _ (List.mem_of_getElem? (i := 5) rfl)), fun _ h => absurd h List.not_mem_nil⟩⟩⟩⟩) (by decide +kernel)) ggX6_put_X6_refuse
set_option maxRecDepth 20000 in
theorem pl_wsX6_put_wsX6_put_r2 : ∀ w ∈ wsX6_put_r2, w ∈ wsX6_put := fun _ h => List.mem_cons_of_mem _ (List.mem_append_left _ (List.mem_append_right _ (h)))
theorem ggX6_put_X6_hasPond : GoodIn wsX6_put wsX6_hasPond := goodIn_sub (List.forall_mem_cons.mpr ⟨(pl_wsX6_put_wsX6_put_r1 _ (List.mem_of_getElem? (i := 22) rfl)), (fun w h => (List.mem_append.mp h).elim ((List.forall_mem_cons.mpr ⟨(pl_wsX6_put_wsX6_put_r1 _ (List.mem_of_getElem? (i := 1) rfl)), List.forall_mem_cons.mpr ⟨(pl_wsX6_put_wsX6_put_r1 _ (List.mem_of_getElem? (i := 23) rfl)), List.forall_mem_cons.mpr ⟨(pl_wsX6_put_wsX6_put_r2 _ (List.mem_of_getElem? (i := 0) rfl)), List.forall_mem_cons.mpr ⟨(pl_wsX6_put_wsX6_put_r1 _ (List.mem_of_getElem? (i := 5) rfl)), List.forall_mem_cons.mpr ⟨(pl_wsX6_put_wsX6_put_r2 _ (List.mem_of_getElem? (i := 1) rfl)), fun _ h => absurd h List.not_mem_nil⟩⟩⟩⟩⟩) w) (pl_wsX6_put_wsX60 w))⟩) (by decide +kernel)
set_option maxRecDepth 20000 in
theorem gX6_put_X6_hasPond : GoodIn wsX6_put (wsV RX6 95 RX6 yX6_hasPond wsX6_hasPond) := goodIn_app (goodIn_sub (List.forall_mem_cons.mpr ⟨(pl_wsX6_put_wsX6_put_r1 _ (List.mem_of_getElem? (i := 19) rfl)), List.forall_mem_cons.mpr ⟨(pl_wsX6_put_wsX6_put_r1 _ (List.mem_of_getElem? (i := 20) rfl)), List.forall_mem_cons.mpr ⟨(pl_wsX6_put_wsX6_put_r1 _ (List.mem_of_getElem? (i := 21) rfl)), List.forall_mem_cons.mpr ⟨(pl_wsX6_put_wsX6_put_r1 _ (List.mem_of_getElem? (i := 5) rfl)), fun _ h => absurd h List.not_mem_nil⟩⟩⟩⟩) (by decide +kernel)) ggX6_put_X6_hasPond
set_option maxRecDepth 20000 in
theorem ggX6_put_X6_cell : GoodIn wsX6_put wsX6_cell := goodIn_sub (List.forall_mem_cons.mpr ⟨(pl_wsX6_put_wsX6_put_r2 _ (List.mem_of_getElem? (i := 5) rfl)), (fun w h => (List.mem_append.mp h).elim ((List.forall_mem_cons.mpr ⟨(pl_wsX6_put_wsX6_put_r1 _ (List.mem_of_getElem? (i := 1) rfl)), fun _ h => absurd h List.not_mem_nil⟩) w) (pl_wsX6_put_wsX60 w))⟩) (by decide +kernel)
set_option maxRecDepth 20000 in
theorem gX6_put_X6_cell : GoodIn wsX6_put (wsV RX6 88 RX6 yX6_cell wsX6_cell) := goodIn_app (goodIn_sub (List.forall_mem_cons.mpr ⟨(pl_wsX6_put_wsX6_put_r2 _ (List.mem_of_getElem? (i := 2) rfl)), List.forall_mem_cons.mpr ⟨(pl_wsX6_put_wsX6_put_r2 _ (List.mem_of_getElem? (i := 3) rfl)), List.forall_mem_cons.mpr ⟨(pl_wsX6_put_wsX6_put_r2 _ (List.mem_of_getElem? (i := 4) rfl)), List.forall_mem_cons.mpr ⟨(pl_wsX6_put_wsX6_put_r1 _ (List.mem_of_getElem? (i := 5) rfl)), fun _ h => absurd h List.not_mem_nil⟩⟩⟩⟩) (by decide +kernel)) ggX6_put_X6_cell
theorem dX6_put_0 : decode cX6_put 0 = .ok (.aload_n 0, 1) := by decide +kernel
theorem dX6_put_1 : decode cX6_put 1 = .ok (.iload_n 1, 1) := by decide +kernel
theorem dX6_put_2 : decode cX6_put 2 = .ok (.invokevirtual 124, 3) := by decide +kernel
theorem dX6_put_5 : decode cX6_put 5 = .ok (.ifCond .eq 23, 3) := by decide +kernel
theorem dX6_put_8 : decode cX6_put 8 = .ok (.aload_n 0, 1) := by decide +kernel
theorem dX6_put_9 : decode cX6_put 9 = .ok (.iload_n 2, 1) := by decide +kernel
theorem dX6_put_10 : decode cX6_put 10 = .ok (.invokevirtual 104, 3) := by decide +kernel
theorem dX6_put_13 : decode cX6_put 13 = .ok (.ifCond .eq 15, 3) := by decide +kernel
theorem dX6_put_16 : decode cX6_put 16 = .ok (.iload_n 3, 1) := by decide +kernel
theorem dX6_put_17 : decode cX6_put 17 = .ok (.i2l, 1) := by decide +kernel
theorem dX6_put_18 : decode cX6_put 18 = .ok (.lconst 0, 1) := by decide +kernel
theorem dX6_put_19 : decode cX6_put 19 = .ok (.ldc2_w 114, 3) := by decide +kernel
theorem dX6_put_22 : decode cX6_put 22 = .ok (.invokestatic 76, 3) := by decide +kernel
theorem dX6_put_25 : decode cX6_put 25 = .ok (.ifCond .ne 10, 3) := by decide +kernel
theorem dX6_put_28 : decode cX6_put 28 = .ok (.aload_n 0, 1) := by decide +kernel
theorem dX6_put_29 : decode cX6_put 29 = .ok (.bipush (-2), 2) := by decide +kernel
theorem dX6_put_31 : decode cX6_put 31 = .ok (.invokevirtual 101, 3) := by decide +kernel
theorem dX6_put_34 : decode cX6_put 34 = .ok (.ireturn, 1) := by decide +kernel
theorem dX6_put_35 : decode cX6_put 35 = .ok (.aload_n 0, 1) := by decide +kernel
theorem dX6_put_36 : decode cX6_put 36 = .ok (.iload_n 2, 1) := by decide +kernel
theorem dX6_put_37 : decode cX6_put 37 = .ok (.invokevirtual 95, 3) := by decide +kernel
theorem dX6_put_40 : decode cX6_put 40 = .ok (.ifCond .eq 10, 3) := by decide +kernel
theorem dX6_put_43 : decode cX6_put 43 = .ok (.aload_n 0, 1) := by decide +kernel
theorem dX6_put_44 : decode cX6_put 44 = .ok (.bipush (-5), 2) := by decide +kernel
theorem dX6_put_46 : decode cX6_put 46 = .ok (.invokevirtual 101, 3) := by decide +kernel
theorem dX6_put_49 : decode cX6_put 49 = .ok (.ireturn, 1) := by decide +kernel
theorem dX6_put_50 : decode cX6_put 50 = .ok (.aload_n 0, 1) := by decide +kernel
theorem dX6_put_51 : decode cX6_put 51 = .ok (.iload_n 1, 1) := by decide +kernel
theorem dX6_put_52 : decode cX6_put 52 = .ok (.invokevirtual 88, 3) := by decide +kernel
theorem dX6_put_55 : decode cX6_put 55 = .ok (.istore 4, 2) := by decide +kernel
theorem dX6_put_57 : decode cX6_put 57 = .ok (.aload_n 0, 1) := by decide +kernel
theorem dX6_put_58 : decode cX6_put 58 = .ok (.getfield 17, 3) := by decide +kernel
theorem dX6_put_61 : decode cX6_put 61 = .ok (.iconst 5, 1) := by decide +kernel
theorem dX6_put_62 : decode cX6_put 62 = .ok (.iload_n 1, 1) := by decide +kernel
theorem dX6_put_63 : decode cX6_put 63 = .ok (.imul, 1) := by decide +kernel
theorem dX6_put_64 : decode cX6_put 64 = .ok (.iconst 2, 1) := by decide +kernel
theorem dX6_put_65 : decode cX6_put 65 = .ok (.iadd, 1) := by decide +kernel
theorem dX6_put_66 : decode cX6_put 66 = .ok (.iload_n 2, 1) := by decide +kernel
theorem dX6_put_67 : decode cX6_put 67 = .ok (.iastore, 1) := by decide +kernel
theorem dX6_put_68 : decode cX6_put 68 = .ok (.aload_n 0, 1) := by decide +kernel
theorem dX6_put_69 : decode cX6_put 69 = .ok (.getfield 17, 3) := by decide +kernel
theorem dX6_put_72 : decode cX6_put 72 = .ok (.iconst 5, 1) := by decide +kernel
theorem dX6_put_73 : decode cX6_put 73 = .ok (.iload_n 1, 1) := by decide +kernel
theorem dX6_put_74 : decode cX6_put 74 = .ok (.imul, 1) := by decide +kernel
theorem dX6_put_75 : decode cX6_put 75 = .ok (.iconst 3, 1) := by decide +kernel
theorem dX6_put_76 : decode cX6_put 76 = .ok (.iadd, 1) := by decide +kernel
theorem dX6_put_77 : decode cX6_put 77 = .ok (.iload_n 3, 1) := by decide +kernel
theorem dX6_put_78 : decode cX6_put 78 = .ok (.iastore, 1) := by decide +kernel
theorem dX6_put_79 : decode cX6_put 79 = .ok (.iload 4, 2) := by decide +kernel
theorem dX6_put_81 : decode cX6_put 81 = .ok (.ireturn, 1) := by decide +kernel
set_option maxRecDepth 20000 in
theorem pl_wsX6_isPond_wsX60 : ∀ w ∈ wsX60, w ∈ wsX6_isPond := fun _ h => List.mem_cons_of_mem _ (List.mem_append_right _ (h))
theorem ggX6_isPond_X6_isCell : GoodIn wsX6_isPond wsX6_isCell := goodIn_sub (List.forall_mem_cons.mpr ⟨(List.mem_cons_of_mem _ (List.mem_append_left _ (List.mem_of_getElem? (i := 5) rfl))), (fun w h => (List.mem_append.mp h).elim ((List.forall_mem_cons.mpr ⟨(List.mem_cons_of_mem _ (List.mem_append_left _ (List.mem_of_getElem? (i := 0) rfl))), fun _ h => absurd h List.not_mem_nil⟩) w) (pl_wsX6_isPond_wsX60 w))⟩) (by decide +kernel)
set_option maxRecDepth 20000 in
theorem gX6_isPond_X6_isCell : GoodIn wsX6_isPond (wsV RX6 104 RX6 yX6_isCell wsX6_isCell) := goodIn_app (goodIn_sub (List.forall_mem_cons.mpr ⟨(List.mem_cons_of_mem _ (List.mem_append_left _ (List.mem_of_getElem? (i := 1) rfl))), List.forall_mem_cons.mpr ⟨(List.mem_cons_of_mem _ (List.mem_append_left _ (List.mem_of_getElem? (i := 2) rfl))), List.forall_mem_cons.mpr ⟨(List.mem_cons_of_mem _ (List.mem_append_left _ (List.mem_of_getElem? (i := 3) rfl))), List.forall_mem_cons.mpr ⟨(List.mem_cons_of_mem _ (List.mem_append_left _ (List.mem_of_getElem? (i := 4) rfl))), fun _ h => absurd h List.not_mem_nil⟩⟩⟩⟩) (by decide +kernel)) ggX6_isPond_X6_isCell
set_option maxRecDepth 20000 in
theorem ggX6_isPond_X6_pondAt : GoodIn wsX6_isPond wsX6_pondAt := goodIn_sub (List.forall_mem_cons.mpr ⟨(List.mem_cons_of_mem _ (List.mem_append_left _ (List.mem_of_getElem? (i := 8) rfl))), (fun _ h => absurd h List.not_mem_nil)⟩) (by decide +kernel)
set_option maxRecDepth 20000 in
theorem gX6_isPond_X6_pondAt : GoodIn wsX6_isPond (va_wsS RX6 80 yX6_pondAt wsX6_pondAt) := goodIn_app (goodIn_sub (List.forall_mem_cons.mpr ⟨(List.mem_cons_of_mem _ (List.mem_append_left _ (List.mem_of_getElem? (i := 6) rfl))), List.forall_mem_cons.mpr ⟨(List.mem_cons_of_mem _ (List.mem_append_left _ (List.mem_of_getElem? (i := 7) rfl))), List.forall_mem_cons.mpr ⟨(List.mem_cons_of_mem _ (List.mem_append_left _ (List.mem_of_getElem? (i := 4) rfl))), fun _ h => absurd h List.not_mem_nil⟩⟩⟩) (by decide +kernel)) ggX6_isPond_X6_pondAt
set_option maxRecDepth 20000 in
theorem ggX6_isPond_X6_refuse : GoodIn wsX6_isPond wsX6_refuse := goodIn_sub (List.forall_mem_cons.mpr ⟨(List.mem_cons_of_mem _ (List.mem_append_left _ (List.mem_of_getElem? (i := 12) rfl))), (fun w h => (List.mem_append.mp h).elim ((List.forall_mem_cons.mpr ⟨(List.mem_cons_of_mem _ (List.mem_append_left _ (List.mem_of_getElem? (i := 13) rfl))), fun _ h => absurd h List.not_mem_nil⟩) w) (pl_wsX6_isPond_wsX60 w))⟩) (by decide +kernel)
set_option maxRecDepth 20000 in
theorem gX6_isPond_X6_refuse : GoodIn wsX6_isPond (wsV RX6 101 RX6 yX6_refuse wsX6_refuse) := goodIn_app (goodIn_sub (List.forall_mem_cons.mpr ⟨(List.mem_cons_of_mem _ (List.mem_append_left _ (List.mem_of_getElem? (i := 9) rfl))), List.forall_mem_cons.mpr ⟨(List.mem_cons_of_mem _ (List.mem_append_left _ (List.mem_of_getElem? (i := 10) rfl))), List.forall_mem_cons.mpr ⟨(List.mem_cons_of_mem _ (List.mem_append_left _ (List.mem_of_getElem? (i := 11) rfl))), List.forall_mem_cons.mpr ⟨(List.mem_cons_of_mem _ (List.mem_append_left _ (List.mem_of_getElem? (i := 4) rfl))), fun _ h => absurd h List.not_mem_nil⟩⟩⟩⟩) (by decide +kernel)) ggX6_isPond_X6_refuse
theorem dX6_isPond_0 : decode cX6_isPond 0 = .ok (.aload_n 0, 1) := by decide +kernel
theorem dX6_isPond_1 : decode cX6_isPond 1 = .ok (.iload_n 1, 1) := by decide +kernel
theorem dX6_isPond_2 : decode cX6_isPond 2 = .ok (.invokevirtual 104, 3) := by decide +kernel
theorem dX6_isPond_5 : decode cX6_isPond 5 = .ok (.ifCond .eq 15, 3) := by decide +kernel
theorem dX6_isPond_8 : decode cX6_isPond 8 = .ok (.aload_n 0, 1) := by decide +kernel
theorem dX6_isPond_9 : decode cX6_isPond 9 = .ok (.getfield 17, 3) := by decide +kernel
theorem dX6_isPond_12 : decode cX6_isPond 12 = .ok (.iload_n 1, 1) := by decide +kernel
theorem dX6_isPond_13 : decode cX6_isPond 13 = .ok (.invokestatic 80, 3) := by decide +kernel
theorem dX6_isPond_16 : decode cX6_isPond 16 = .ok (.iaload, 1) := by decide +kernel
theorem dX6_isPond_17 : decode cX6_isPond 17 = .ok (.goto 9, 3) := by decide +kernel
theorem dX6_isPond_20 : decode cX6_isPond 20 = .ok (.aload_n 0, 1) := by decide +kernel
theorem dX6_isPond_21 : decode cX6_isPond 21 = .ok (.bipush (-2), 2) := by decide +kernel
theorem dX6_isPond_23 : decode cX6_isPond 23 = .ok (.invokevirtual 101, 3) := by decide +kernel
theorem dX6_isPond_26 : decode cX6_isPond 26 = .ok (.ireturn, 1) := by decide +kernel
set_option maxRecDepth 20000 in
theorem ggX6_feed_X6_isIn : GoodIn wsX6_feed wsX6_isIn := goodIn_sub (List.forall_mem_cons.mpr ⟨(List.mem_cons_of_mem _ (List.mem_append_left _ (List.mem_of_getElem? (i := 6) rfl))), (fun _ h => absurd h List.not_mem_nil)⟩) (by decide +kernel)
set_option maxRecDepth 20000 in
theorem gX6_feed_X6_isIn : GoodIn wsX6_feed (va_wsS RX6 76 yX6_isIn wsX6_isIn) := goodIn_app (goodIn_sub (List.forall_mem_cons.mpr ⟨(List.mem_cons_of_mem _ (List.mem_append_left _ (List.mem_of_getElem? (i := 3) rfl))), List.forall_mem_cons.mpr ⟨(List.mem_cons_of_mem _ (List.mem_append_left _ (List.mem_of_getElem? (i := 4) rfl))), List.forall_mem_cons.mpr ⟨(List.mem_cons_of_mem _ (List.mem_append_left _ (List.mem_of_getElem? (i := 5) rfl))), fun _ h => absurd h List.not_mem_nil⟩⟩⟩) (by decide +kernel)) ggX6_feed_X6_isIn
set_option maxRecDepth 20000 in
theorem pl_wsX6_feed_wsX60 : ∀ w ∈ wsX60, w ∈ wsX6_feed := fun _ h => List.mem_cons_of_mem _ (List.mem_append_right _ (h))
theorem ggX6_feed_X6_refuse : GoodIn wsX6_feed wsX6_refuse := goodIn_sub (List.forall_mem_cons.mpr ⟨(List.mem_cons_of_mem _ (List.mem_append_left _ (List.mem_of_getElem? (i := 10) rfl))), (fun w h => (List.mem_append.mp h).elim ((List.forall_mem_cons.mpr ⟨(List.mem_cons_of_mem _ (List.mem_append_left _ (List.mem_of_getElem? (i := 11) rfl))), fun _ h => absurd h List.not_mem_nil⟩) w) (pl_wsX6_feed_wsX60 w))⟩) (by decide +kernel)
set_option maxRecDepth 20000 in
theorem gX6_feed_X6_refuse : GoodIn wsX6_feed (wsV RX6 101 RX6 yX6_refuse wsX6_refuse) := goodIn_app (goodIn_sub (List.forall_mem_cons.mpr ⟨(List.mem_cons_of_mem _ (List.mem_append_left _ (List.mem_of_getElem? (i := 7) rfl))), List.forall_mem_cons.mpr ⟨(List.mem_cons_of_mem _ (List.mem_append_left _ (List.mem_of_getElem? (i := 8) rfl))), List.forall_mem_cons.mpr ⟨(List.mem_cons_of_mem _ (List.mem_append_left _ (List.mem_of_getElem? (i := 9) rfl))), List.forall_mem_cons.mpr ⟨(List.mem_cons_of_mem _ (List.mem_append_left _ (List.mem_of_getElem? (i := 5) rfl))), fun _ h => absurd h List.not_mem_nil⟩⟩⟩⟩) (by decide +kernel)) ggX6_feed_X6_refuse
theorem dX6_feed_0 : decode cX6_feed 0 = .ok (.iload_n 1, 1) := by decide +kernel
theorem dX6_feed_1 : decode cX6_feed 1 = .ok (.i2l, 1) := by decide +kernel
theorem dX6_feed_2 : decode cX6_feed 2 = .ok (.lconst 0, 1) := by decide +kernel
theorem dX6_feed_3 : decode cX6_feed 3 = .ok (.ldc2_w 130, 3) := by decide +kernel
theorem dX6_feed_6 : decode cX6_feed 6 = .ok (.invokestatic 76, 3) := by decide +kernel
theorem dX6_feed_9 : decode cX6_feed 9 = .ok (.ifCond .ne 10, 3) := by decide +kernel
theorem dX6_feed_12 : decode cX6_feed 12 = .ok (.aload_n 0, 1) := by decide +kernel
theorem dX6_feed_13 : decode cX6_feed 13 = .ok (.bipush (-2), 2) := by decide +kernel
theorem dX6_feed_15 : decode cX6_feed 15 = .ok (.invokevirtual 101, 3) := by decide +kernel
theorem dX6_feed_18 : decode cX6_feed 18 = .ok (.ireturn, 1) := by decide +kernel
theorem dX6_feed_19 : decode cX6_feed 19 = .ok (.aload_n 0, 1) := by decide +kernel
theorem dX6_feed_20 : decode cX6_feed 20 = .ok (.getfield 132, 3) := by decide +kernel
theorem dX6_feed_23 : decode cX6_feed 23 = .ok (.sipush 250, 3) := by decide +kernel
theorem dX6_feed_26 : decode cX6_feed 26 = .ok (.if_icmp .ne 10, 3) := by decide +kernel
theorem dX6_feed_29 : decode cX6_feed 29 = .ok (.aload_n 0, 1) := by decide +kernel
theorem dX6_feed_30 : decode cX6_feed 30 = .ok (.bipush (-6), 2) := by decide +kernel
theorem dX6_feed_32 : decode cX6_feed 32 = .ok (.invokevirtual 101, 3) := by decide +kernel
theorem dX6_feed_35 : decode cX6_feed 35 = .ok (.ireturn, 1) := by decide +kernel
theorem dX6_feed_36 : decode cX6_feed 36 = .ok (.aload_n 0, 1) := by decide +kernel
theorem dX6_feed_37 : decode cX6_feed 37 = .ok (.getfield 26, 3) := by decide +kernel
theorem dX6_feed_40 : decode cX6_feed 40 = .ok (.aload_n 0, 1) := by decide +kernel
theorem dX6_feed_41 : decode cX6_feed 41 = .ok (.getfield 132, 3) := by decide +kernel
theorem dX6_feed_44 : decode cX6_feed 44 = .ok (.iload_n 1, 1) := by decide +kernel
theorem dX6_feed_45 : decode cX6_feed 45 = .ok (.iastore, 1) := by decide +kernel
theorem dX6_feed_46 : decode cX6_feed 46 = .ok (.aload_n 0, 1) := by decide +kernel
theorem dX6_feed_47 : decode cX6_feed 47 = .ok (.dup, 1) := by decide +kernel
theorem dX6_feed_48 : decode cX6_feed 48 = .ok (.getfield 132, 3) := by decide +kernel
theorem dX6_feed_51 : decode cX6_feed 51 = .ok (.iconst 1, 1) := by decide +kernel
theorem dX6_feed_52 : decode cX6_feed 52 = .ok (.iadd, 1) := by decide +kernel
theorem dX6_feed_53 : decode cX6_feed 53 = .ok (.putfield 132, 3) := by decide +kernel
theorem dX6_feed_56 : decode cX6_feed 56 = .ok (.aload_n 0, 1) := by decide +kernel
theorem dX6_feed_57 : decode cX6_feed 57 = .ok (.getfield 132, 3) := by decide +kernel
theorem dX6_feed_60 : decode cX6_feed 60 = .ok (.ireturn, 1) := by decide +kernel
theorem dX6_wipe_0 : decode cX6_wipe 0 = .ok (.aload_n 0, 1) := by decide +kernel
theorem dX6_wipe_1 : decode cX6_wipe 1 = .ok (.getfield 132, 3) := by decide +kernel
theorem dX6_wipe_4 : decode cX6_wipe 4 = .ok (.istore_n 1, 1) := by decide +kernel
theorem dX6_wipe_5 : decode cX6_wipe 5 = .ok (.aload_n 0, 1) := by decide +kernel
theorem dX6_wipe_6 : decode cX6_wipe 6 = .ok (.iconst 0, 1) := by decide +kernel
theorem dX6_wipe_7 : decode cX6_wipe 7 = .ok (.putfield 132, 3) := by decide +kernel
theorem dX6_wipe_10 : decode cX6_wipe 10 = .ok (.iload_n 1, 1) := by decide +kernel
theorem dX6_wipe_11 : decode cX6_wipe 11 = .ok (.ireturn, 1) := by decide +kernel
set_option maxRecDepth 20000 in
theorem ggX6_sortAt_X6_isIn : GoodIn wsX6_sortAt wsX6_isIn := goodIn_sub (List.forall_mem_cons.mpr ⟨(List.mem_cons_of_mem _ (List.mem_append_left _ (List.mem_of_getElem? (i := 9) rfl))), (fun _ h => absurd h List.not_mem_nil)⟩) (by decide +kernel)
set_option maxRecDepth 20000 in
theorem gX6_sortAt_X6_isIn : GoodIn wsX6_sortAt (va_wsS RX6 76 yX6_isIn wsX6_isIn) := goodIn_app (goodIn_sub (List.forall_mem_cons.mpr ⟨(List.mem_cons_of_mem _ (List.mem_append_left _ (List.mem_of_getElem? (i := 6) rfl))), List.forall_mem_cons.mpr ⟨(List.mem_cons_of_mem _ (List.mem_append_left _ (List.mem_of_getElem? (i := 7) rfl))), List.forall_mem_cons.mpr ⟨(List.mem_cons_of_mem _ (List.mem_append_left _ (List.mem_of_getElem? (i := 8) rfl))), fun _ h => absurd h List.not_mem_nil⟩⟩⟩) (by decide +kernel)) ggX6_sortAt_X6_isIn
theorem dX6_sortAt_0 : decode cX6_sortAt 0 = .ok (.iload_n 1, 1) := by decide +kernel
theorem dX6_sortAt_1 : decode cX6_sortAt 1 = .ok (.aload_n 0, 1) := by decide +kernel
theorem dX6_sortAt_2 : decode cX6_sortAt 2 = .ok (.getfield 132, 3) := by decide +kernel
theorem dX6_sortAt_5 : decode cX6_sortAt 5 = .ok (.if_icmp .lt 7, 3) := by decide +kernel
theorem dX6_sortAt_8 : decode cX6_sortAt 8 = .ok (.iconst 0, 1) := by decide +kernel
theorem dX6_sortAt_9 : decode cX6_sortAt 9 = .ok (.goto 65, 3) := by decide +kernel
theorem dX6_sortAt_12 : decode cX6_sortAt 12 = .ok (.aload_n 0, 1) := by decide +kernel
theorem dX6_sortAt_13 : decode cX6_sortAt 13 = .ok (.getfield 26, 3) := by decide +kernel
theorem dX6_sortAt_16 : decode cX6_sortAt 16 = .ok (.iload_n 1, 1) := by decide +kernel
theorem dX6_sortAt_17 : decode cX6_sortAt 17 = .ok (.iaload, 1) := by decide +kernel
theorem dX6_sortAt_18 : decode cX6_sortAt 18 = .ok (.i2l, 1) := by decide +kernel
theorem dX6_sortAt_19 : decode cX6_sortAt 19 = .ok (.ldc2_w 136, 3) := by decide +kernel
theorem dX6_sortAt_22 : decode cX6_sortAt 22 = .ok (.ldc2_w 138, 3) := by decide +kernel
theorem dX6_sortAt_25 : decode cX6_sortAt 25 = .ok (.invokestatic 76, 3) := by decide +kernel
theorem dX6_sortAt_28 : decode cX6_sortAt 28 = .ok (.ifCond .eq 7, 3) := by decide +kernel
theorem dX6_sortAt_31 : decode cX6_sortAt 31 = .ok (.iconst 1, 1) := by decide +kernel
theorem dX6_sortAt_32 : decode cX6_sortAt 32 = .ok (.goto 42, 3) := by decide +kernel
theorem dX6_sortAt_35 : decode cX6_sortAt 35 = .ok (.aload_n 0, 1) := by decide +kernel
theorem dX6_sortAt_36 : decode cX6_sortAt 36 = .ok (.getfield 26, 3) := by decide +kernel
theorem dX6_sortAt_39 : decode cX6_sortAt 39 = .ok (.iload_n 1, 1) := by decide +kernel
theorem dX6_sortAt_40 : decode cX6_sortAt 40 = .ok (.iaload, 1) := by decide +kernel
theorem dX6_sortAt_41 : decode cX6_sortAt 41 = .ok (.i2l, 1) := by decide +kernel
theorem dX6_sortAt_42 : decode cX6_sortAt 42 = .ok (.ldc2_w 140, 3) := by decide +kernel
theorem dX6_sortAt_45 : decode cX6_sortAt 45 = .ok (.ldc2_w 142, 3) := by decide +kernel
theorem dX6_sortAt_48 : decode cX6_sortAt 48 = .ok (.invokestatic 76, 3) := by decide +kernel
theorem dX6_sortAt_51 : decode cX6_sortAt 51 = .ok (.ifCond .eq 7, 3) := by decide +kernel
theorem dX6_sortAt_54 : decode cX6_sortAt 54 = .ok (.iconst 2, 1) := by decide +kernel
theorem dX6_sortAt_55 : decode cX6_sortAt 55 = .ok (.goto 19, 3) := by decide +kernel
theorem dX6_sortAt_58 : decode cX6_sortAt 58 = .ok (.aload_n 0, 1) := by decide +kernel
theorem dX6_sortAt_59 : decode cX6_sortAt 59 = .ok (.getfield 26, 3) := by decide +kernel
theorem dX6_sortAt_62 : decode cX6_sortAt 62 = .ok (.iload_n 1, 1) := by decide +kernel
theorem dX6_sortAt_63 : decode cX6_sortAt 63 = .ok (.iaload, 1) := by decide +kernel
theorem dX6_sortAt_64 : decode cX6_sortAt 64 = .ok (.bipush 59, 2) := by decide +kernel
theorem dX6_sortAt_66 : decode cX6_sortAt 66 = .ok (.if_icmp .ne 7, 3) := by decide +kernel
theorem dX6_sortAt_69 : decode cX6_sortAt 69 = .ok (.iconst 3, 1) := by decide +kernel
theorem dX6_sortAt_70 : decode cX6_sortAt 70 = .ok (.goto 4, 3) := by decide +kernel
theorem dX6_sortAt_73 : decode cX6_sortAt 73 = .ok (.iconst 4, 1) := by decide +kernel
theorem dX6_sortAt_74 : decode cX6_sortAt 74 = .ok (.ireturn, 1) := by decide +kernel
set_option maxRecDepth 20000 in
theorem pl_wsX6_next_wsX60 : ∀ w ∈ wsX60, w ∈ wsX6_next := fun _ h => List.mem_cons_of_mem _ (List.mem_append_right _ (h))
theorem ggX6_next_X6_sortAt : GoodIn wsX6_next wsX6_sortAt := goodIn_sub (List.forall_mem_cons.mpr ⟨(List.mem_cons_of_mem _ (List.mem_append_left _ (List.mem_of_getElem? (i := 9) rfl))), (fun w h => (List.mem_append.mp h).elim ((List.forall_mem_cons.mpr ⟨(List.mem_cons_of_mem _ (List.mem_append_left _ (List.mem_of_getElem? (i := 1) rfl))), List.forall_mem_cons.mpr ⟨(List.mem_cons_of_mem _ (List.mem_append_left _ (List.mem_of_getElem? (i := 2) rfl))), List.forall_mem_cons.mpr ⟨(List.mem_cons_of_mem _ (List.mem_append_left _ (List.mem_of_getElem? (i := 10) rfl))), List.forall_mem_cons.mpr ⟨(List.mem_cons_of_mem _ (List.mem_append_left _ (List.mem_of_getElem? (i := 11) rfl))), List.forall_mem_cons.mpr ⟨(List.mem_cons_of_mem _ (List.mem_append_left _ (List.mem_of_getElem? (i := 12) rfl))), List.forall_mem_cons.mpr ⟨(List.mem_cons_of_mem _ (List.mem_append_left _ (List.mem_of_getElem? (i := 13) rfl))), List.forall_mem_cons.mpr ⟨(List.mem_cons_of_mem _ (List.mem_append_left _ (List.mem_of_getElem? (i := 14) rfl))), List.forall_mem_cons.mpr ⟨(List.mem_cons_of_mem _ (List.mem_append_left _ (List.mem_of_getElem? (i := 15) rfl))), List.forall_mem_cons.mpr ⟨(List.mem_cons_of_mem _ (List.mem_append_left _ (List.mem_of_getElem? (i := 8) rfl))), List.forall_mem_cons.mpr ⟨(List.mem_cons_of_mem _ (List.mem_append_left _ (List.mem_of_getElem? (i := 16) rfl))), fun _ h => absurd h List.not_mem_nil⟩⟩⟩⟩⟩⟩⟩⟩⟩⟩) w) (pl_wsX6_next_wsX60 w))⟩) (by decide +kernel)
set_option maxRecDepth 20000 in
theorem gX6_next_X6_sortAt : GoodIn wsX6_next (wsV RX6 150 RX6 yX6_sortAt wsX6_sortAt) := goodIn_app (goodIn_sub (List.forall_mem_cons.mpr ⟨(List.mem_cons_of_mem _ (List.mem_append_left _ (List.mem_of_getElem? (i := 5) rfl))), List.forall_mem_cons.mpr ⟨(List.mem_cons_of_mem _ (List.mem_append_left _ (List.mem_of_getElem? (i := 6) rfl))), List.forall_mem_cons.mpr ⟨(List.mem_cons_of_mem _ (List.mem_append_left _ (List.mem_of_getElem? (i := 7) rfl))), List.forall_mem_cons.mpr ⟨(List.mem_cons_of_mem _ (List.mem_append_left _ (List.mem_of_getElem? (i := 8) rfl))), fun _ h => absurd h List.not_mem_nil⟩⟩⟩⟩) (by decide +kernel)) ggX6_next_X6_sortAt
theorem dX6_next_0 : decode cX6_next 0 = .ok (.aload_n 0, 1) := by decide +kernel
theorem dX6_next_1 : decode cX6_next 1 = .ok (.getfield 144, 3) := by decide +kernel
theorem dX6_next_4 : decode cX6_next 4 = .ok (.aload_n 0, 1) := by decide +kernel
theorem dX6_next_5 : decode cX6_next 5 = .ok (.getfield 132, 3) := by decide +kernel
theorem dX6_next_8 : decode cX6_next 8 = .ok (.if_icmp .ge 30, 3) := by decide +kernel
theorem dX6_next_11 : decode cX6_next 11 = .ok (.aload_n 0, 1) := by decide +kernel
theorem dX6_next_12 : decode cX6_next 12 = .ok (.getfield 26, 3) := by decide +kernel
theorem dX6_next_15 : decode cX6_next 15 = .ok (.aload_n 0, 1) := by decide +kernel
theorem dX6_next_16 : decode cX6_next 16 = .ok (.getfield 144, 3) := by decide +kernel
theorem dX6_next_19 : decode cX6_next 19 = .ok (.iaload, 1) := by decide +kernel
theorem dX6_next_20 : decode cX6_next 20 = .ok (.bipush 32, 2) := by decide +kernel
theorem dX6_next_22 : decode cX6_next 22 = .ok (.if_icmp .ne 16, 3) := by decide +kernel
theorem dX6_next_25 : decode cX6_next 25 = .ok (.aload_n 0, 1) := by decide +kernel
theorem dX6_next_26 : decode cX6_next 26 = .ok (.dup, 1) := by decide +kernel
theorem dX6_next_27 : decode cX6_next 27 = .ok (.getfield 144, 3) := by decide +kernel
theorem dX6_next_30 : decode cX6_next 30 = .ok (.iconst 1, 1) := by decide +kernel
theorem dX6_next_31 : decode cX6_next 31 = .ok (.iadd, 1) := by decide +kernel
theorem dX6_next_32 : decode cX6_next 32 = .ok (.putfield 144, 3) := by decide +kernel
theorem dX6_next_35 : decode cX6_next 35 = .ok (.goto (-35), 3) := by decide +kernel
theorem dX6_next_38 : decode cX6_next 38 = .ok (.aload_n 0, 1) := by decide +kernel
theorem dX6_next_39 : decode cX6_next 39 = .ok (.aload_n 0, 1) := by decide +kernel
theorem dX6_next_40 : decode cX6_next 40 = .ok (.getfield 144, 3) := by decide +kernel
theorem dX6_next_43 : decode cX6_next 43 = .ok (.putfield 147, 3) := by decide +kernel
theorem dX6_next_46 : decode cX6_next 46 = .ok (.aload_n 0, 1) := by decide +kernel
theorem dX6_next_47 : decode cX6_next 47 = .ok (.aload_n 0, 1) := by decide +kernel
theorem dX6_next_48 : decode cX6_next 48 = .ok (.aload_n 0, 1) := by decide +kernel
theorem dX6_next_49 : decode cX6_next 49 = .ok (.getfield 144, 3) := by decide +kernel
theorem dX6_next_52 : decode cX6_next 52 = .ok (.invokevirtual 150, 3) := by decide +kernel
theorem dX6_next_55 : decode cX6_next 55 = .ok (.putfield 153, 3) := by decide +kernel
theorem dX6_next_58 : decode cX6_next 58 = .ok (.aload_n 0, 1) := by decide +kernel
theorem dX6_next_59 : decode cX6_next 59 = .ok (.getfield 153, 3) := by decide +kernel
theorem dX6_next_62 : decode cX6_next 62 = .ok (.ifCond .le 49, 3) := by decide +kernel
theorem dX6_next_65 : decode cX6_next 65 = .ok (.aload_n 0, 1) := by decide +kernel
theorem dX6_next_66 : decode cX6_next 66 = .ok (.dup, 1) := by decide +kernel
theorem dX6_next_67 : decode cX6_next 67 = .ok (.getfield 144, 3) := by decide +kernel
theorem dX6_next_70 : decode cX6_next 70 = .ok (.iconst 1, 1) := by decide +kernel
theorem dX6_next_71 : decode cX6_next 71 = .ok (.iadd, 1) := by decide +kernel
theorem dX6_next_72 : decode cX6_next 72 = .ok (.putfield 144, 3) := by decide +kernel
theorem dX6_next_75 : decode cX6_next 75 = .ok (.aload_n 0, 1) := by decide +kernel
theorem dX6_next_76 : decode cX6_next 76 = .ok (.getfield 153, 3) := by decide +kernel
theorem dX6_next_79 : decode cX6_next 79 = .ok (.iconst 3, 1) := by decide +kernel
theorem dX6_next_80 : decode cX6_next 80 = .ok (.if_icmp .ge 31, 3) := by decide +kernel
theorem dX6_next_83 : decode cX6_next 83 = .ok (.aload_n 0, 1) := by decide +kernel
theorem dX6_next_84 : decode cX6_next 84 = .ok (.aload_n 0, 1) := by decide +kernel
theorem dX6_next_85 : decode cX6_next 85 = .ok (.getfield 144, 3) := by decide +kernel
theorem dX6_next_88 : decode cX6_next 88 = .ok (.invokevirtual 150, 3) := by decide +kernel
theorem dX6_next_91 : decode cX6_next 91 = .ok (.aload_n 0, 1) := by decide +kernel
theorem dX6_next_92 : decode cX6_next 92 = .ok (.getfield 153, 3) := by decide +kernel
theorem dX6_next_95 : decode cX6_next 95 = .ok (.if_icmp .ne 16, 3) := by decide +kernel
theorem dX6_next_98 : decode cX6_next 98 = .ok (.aload_n 0, 1) := by decide +kernel
theorem dX6_next_99 : decode cX6_next 99 = .ok (.dup, 1) := by decide +kernel
theorem dX6_next_100 : decode cX6_next 100 = .ok (.getfield 144, 3) := by decide +kernel
theorem dX6_next_103 : decode cX6_next 103 = .ok (.iconst 1, 1) := by decide +kernel
theorem dX6_next_104 : decode cX6_next 104 = .ok (.iadd, 1) := by decide +kernel
theorem dX6_next_105 : decode cX6_next 105 = .ok (.putfield 144, 3) := by decide +kernel
theorem dX6_next_108 : decode cX6_next 108 = .ok (.goto (-33), 3) := by decide +kernel
theorem dX6_next_111 : decode cX6_next 111 = .ok (.return_, 1) := by decide +kernel
theorem dX6_word_0 : decode cX6_word 0 = .ok (.iconst (-1), 1) := by decide +kernel
theorem dX6_word_1 : decode cX6_word 1 = .ok (.istore_n 1, 1) := by decide +kernel
theorem dX6_word_2 : decode cX6_word 2 = .ok (.iconst 0, 1) := by decide +kernel
theorem dX6_word_3 : decode cX6_word 3 = .ok (.istore_n 2, 1) := by decide +kernel
theorem dX6_word_4 : decode cX6_word 4 = .ok (.iload_n 2, 1) := by decide +kernel
theorem dX6_word_5 : decode cX6_word 5 = .ok (.bipush 8, 2) := by decide +kernel
theorem dX6_word_7 : decode cX6_word 7 = .ok (.if_icmp .ge 118, 3) := by decide +kernel
theorem dX6_word_10 : decode cX6_word 10 = .ok (.aload_n 0, 1) := by decide +kernel
theorem dX6_word_11 : decode cX6_word 11 = .ok (.getfield 153, 3) := by decide +kernel
theorem dX6_word_14 : decode cX6_word 14 = .ok (.iconst 1, 1) := by decide +kernel
theorem dX6_word_15 : decode cX6_word 15 = .ok (.if_icmp .ne 21, 3) := by decide +kernel
theorem dX6_word_18 : decode cX6_word 18 = .ok (.aload_n 0, 1) := by decide +kernel
theorem dX6_word_19 : decode cX6_word 19 = .ok (.getfield 144, 3) := by decide +kernel
theorem dX6_word_22 : decode cX6_word 22 = .ok (.aload_n 0, 1) := by decide +kernel
theorem dX6_word_23 : decode cX6_word 23 = .ok (.getfield 147, 3) := by decide +kernel
theorem dX6_word_26 : decode cX6_word 26 = .ok (.isub, 1) := by decide +kernel
theorem dX6_word_27 : decode cX6_word 27 = .ok (.bipush 6, 2) := by decide +kernel
theorem dX6_word_29 : decode cX6_word 29 = .ok (.if_icmp .gt 7, 3) := by decide +kernel
theorem dX6_word_32 : decode cX6_word 32 = .ok (.iconst 1, 1) := by decide +kernel
theorem dX6_word_33 : decode cX6_word 33 = .ok (.goto 4, 3) := by decide +kernel
theorem dX6_word_36 : decode cX6_word 36 = .ok (.iconst 0, 1) := by decide +kernel
theorem dX6_word_37 : decode cX6_word 37 = .ok (.istore_n 3, 1) := by decide +kernel
theorem dX6_word_38 : decode cX6_word 38 = .ok (.iconst 0, 1) := by decide +kernel
theorem dX6_word_39 : decode cX6_word 39 = .ok (.istore 4, 2) := by decide +kernel
theorem dX6_word_41 : decode cX6_word 41 = .ok (.iload 4, 2) := by decide +kernel
theorem dX6_word_43 : decode cX6_word 43 = .ok (.bipush 6, 2) := by decide +kernel
theorem dX6_word_45 : decode cX6_word 45 = .ok (.if_icmp .ge 64, 3) := by decide +kernel
theorem dX6_word_48 : decode cX6_word 48 = .ok (.iload_n 3, 1) := by decide +kernel
theorem dX6_word_49 : decode cX6_word 49 = .ok (.ifCond .eq 60, 3) := by decide +kernel
theorem dX6_word_52 : decode cX6_word 52 = .ok (.aload_n 0, 1) := by decide +kernel
theorem dX6_word_53 : decode cX6_word 53 = .ok (.getfield 147, 3) := by decide +kernel
theorem dX6_word_56 : decode cX6_word 56 = .ok (.iload 4, 2) := by decide +kernel
theorem dX6_word_58 : decode cX6_word 58 = .ok (.iadd, 1) := by decide +kernel
theorem dX6_word_59 : decode cX6_word 59 = .ok (.aload_n 0, 1) := by decide +kernel
theorem dX6_word_60 : decode cX6_word 60 = .ok (.getfield 144, 3) := by decide +kernel
theorem dX6_word_63 : decode cX6_word 63 = .ok (.if_icmp .ge 18, 3) := by decide +kernel
theorem dX6_word_66 : decode cX6_word 66 = .ok (.aload_n 0, 1) := by decide +kernel
theorem dX6_word_67 : decode cX6_word 67 = .ok (.getfield 26, 3) := by decide +kernel
theorem dX6_word_70 : decode cX6_word 70 = .ok (.aload_n 0, 1) := by decide +kernel
theorem dX6_word_71 : decode cX6_word 71 = .ok (.getfield 147, 3) := by decide +kernel
theorem dX6_word_74 : decode cX6_word 74 = .ok (.iload 4, 2) := by decide +kernel
theorem dX6_word_76 : decode cX6_word 76 = .ok (.iadd, 1) := by decide +kernel
theorem dX6_word_77 : decode cX6_word 77 = .ok (.iaload, 1) := by decide +kernel
theorem dX6_word_78 : decode cX6_word 78 = .ok (.goto 4, 3) := by decide +kernel
theorem dX6_word_81 : decode cX6_word 81 = .ok (.iconst 0, 1) := by decide +kernel
theorem dX6_word_82 : decode cX6_word 82 = .ok (.aload_n 0, 1) := by decide +kernel
theorem dX6_word_83 : decode cX6_word 83 = .ok (.getfield 29, 3) := by decide +kernel
theorem dX6_word_86 : decode cX6_word 86 = .ok (.bipush 6, 2) := by decide +kernel
theorem dX6_word_88 : decode cX6_word 88 = .ok (.iload_n 2, 1) := by decide +kernel
theorem dX6_word_89 : decode cX6_word 89 = .ok (.imul, 1) := by decide +kernel
theorem dX6_word_90 : decode cX6_word 90 = .ok (.iload 4, 2) := by decide +kernel
theorem dX6_word_92 : decode cX6_word 92 = .ok (.iadd, 1) := by decide +kernel
theorem dX6_word_93 : decode cX6_word 93 = .ok (.caload, 1) := by decide +kernel
theorem dX6_word_94 : decode cX6_word 94 = .ok (.if_icmp .ne 7, 3) := by decide +kernel
theorem dX6_word_97 : decode cX6_word 97 = .ok (.iconst 1, 1) := by decide +kernel
theorem dX6_word_98 : decode cX6_word 98 = .ok (.goto 4, 3) := by decide +kernel
theorem dX6_word_101 : decode cX6_word 101 = .ok (.iconst 0, 1) := by decide +kernel
theorem dX6_word_102 : decode cX6_word 102 = .ok (.istore_n 3, 1) := by decide +kernel
theorem dX6_word_103 : decode cX6_word 103 = .ok (.iinc 4 1, 3) := by decide +kernel
theorem dX6_word_106 : decode cX6_word 106 = .ok (.goto (-65), 3) := by decide +kernel
theorem dX6_word_109 : decode cX6_word 109 = .ok (.iload_n 3, 1) := by decide +kernel
theorem dX6_word_110 : decode cX6_word 110 = .ok (.ifCond .eq 7, 3) := by decide +kernel
theorem dX6_word_113 : decode cX6_word 113 = .ok (.iload_n 2, 1) := by decide +kernel
theorem dX6_word_114 : decode cX6_word 114 = .ok (.goto 4, 3) := by decide +kernel
theorem dX6_word_117 : decode cX6_word 117 = .ok (.iload_n 1, 1) := by decide +kernel
theorem dX6_word_118 : decode cX6_word 118 = .ok (.istore_n 1, 1) := by decide +kernel
theorem dX6_word_119 : decode cX6_word 119 = .ok (.iinc 2 1, 3) := by decide +kernel
theorem dX6_word_122 : decode cX6_word 122 = .ok (.goto (-118), 3) := by decide +kernel
theorem dX6_word_125 : decode cX6_word 125 = .ok (.iload_n 1, 1) := by decide +kernel
theorem dX6_word_126 : decode cX6_word 126 = .ok (.ireturn, 1) := by decide +kernel
set_option maxRecDepth 20000 in
theorem pl_wsX6_number_wsX60 : ∀ w ∈ wsX60, w ∈ wsX6_number := fun _ h => List.mem_cons_of_mem _ (List.mem_append_right _ (h))
theorem ggX6_number_X6_next : GoodIn wsX6_number wsX6_next := goodIn_sub (List.forall_mem_cons.mpr ⟨(List.mem_cons_of_mem _ (List.mem_append_left _ (List.mem_of_getElem? (i := 8) rfl))), (fun w h => (List.mem_append.mp h).elim ((List.forall_mem_cons.mpr ⟨(List.mem_cons_of_mem _ (List.mem_append_left _ (List.mem_of_getElem? (i := 1) rfl))), List.forall_mem_cons.mpr ⟨(List.mem_cons_of_mem _ (List.mem_append_left _ (List.mem_of_getElem? (i := 9) rfl))), List.forall_mem_cons.mpr ⟨(List.mem_cons_of_mem _ (List.mem_append_left _ (List.mem_of_getElem? (i := 3) rfl))), List.forall_mem_cons.mpr ⟨(List.mem_cons_of_mem _ (List.mem_append_left _ (List.mem_of_getElem? (i := 2) rfl))), List.forall_mem_cons.mpr ⟨(List.mem_cons_of_mem _ (List.mem_append_left _ (List.mem_of_getElem? (i := 0) rfl))), List.forall_mem_cons.mpr ⟨(List.mem_cons_of_mem _ (List.mem_append_left _ (List.mem_of_getElem? (i := 10) rfl))), List.forall_mem_cons.mpr ⟨(List.mem_cons_of_mem _ (List.mem_append_left _ (List.mem_of_getElem? (i := 11) rfl))), List.forall_mem_cons.mpr ⟨(List.mem_cons_of_mem _ (List.mem_append_left _ (List.mem_of_getElem? (i := 12) rfl))), List.forall_mem_cons.mpr ⟨(List.mem_cons_of_mem _ (List.mem_append_left _ (List.mem_of_getElem? (i := 7) rfl))), List.forall_mem_cons.mpr ⟨(List.mem_cons_of_mem _ (List.mem_append_left _ (List.mem_of_getElem? (i := 13) rfl))), List.forall_mem_cons.mpr ⟨(List.mem_cons_of_mem _ (List.mem_append_left _ (List.mem_of_getElem? (i := 14) rfl))), List.forall_mem_cons.mpr ⟨(List.mem_cons_of_mem _ (List.mem_append_left _ (List.mem_of_getElem? (i := 15) rfl))), List.forall_mem_cons.mpr ⟨(List.mem_cons_of_mem _ (List.mem_append_left _ (List.mem_of_getElem? (i := 16) rfl))), List.forall_mem_cons.mpr ⟨(List.mem_cons_of_mem _ (List.mem_append_left _ (List.mem_of_getElem? (i := 17) rfl))), List.forall_mem_cons.mpr ⟨(List.mem_cons_of_mem _ (List.mem_append_left _ (List.mem_of_getElem? (i := 18) rfl))), List.forall_mem_cons.mpr ⟨(List.mem_cons_of_mem _ (List.mem_append_left _ (List.mem_of_getElem? (i := 19) rfl))), List.forall_mem_cons.mpr ⟨(List.mem_cons_of_mem _ (List.mem_append_left _ (List.mem_of_getElem? (i := 20) rfl))), fun _ h => absurd h List.not_mem_nil⟩⟩⟩⟩⟩⟩⟩⟩⟩⟩⟩⟩⟩⟩⟩⟩⟩) w) (pl_wsX6_number_wsX60 w))⟩) (by decide +kernel)
set_option maxRecDepth 20000 in
theorem gX6_number_X6_next : GoodIn wsX6_number (wsV RX6 156 RX6 yX6_next wsX6_next) := goodIn_app (goodIn_sub (List.forall_mem_cons.mpr ⟨(List.mem_cons_of_mem _ (List.mem_append_left _ (List.mem_of_getElem? (i := 4) rfl))), List.forall_mem_cons.mpr ⟨(List.mem_cons_of_mem _ (List.mem_append_left _ (List.mem_of_getElem? (i := 5) rfl))), List.forall_mem_cons.mpr ⟨(List.mem_cons_of_mem _ (List.mem_append_left _ (List.mem_of_getElem? (i := 6) rfl))), List.forall_mem_cons.mpr ⟨(List.mem_cons_of_mem _ (List.mem_append_left _ (List.mem_of_getElem? (i := 7) rfl))), fun _ h => absurd h List.not_mem_nil⟩⟩⟩⟩) (by decide +kernel)) ggX6_number_X6_next
set_option maxRecDepth 20000 in
theorem ggX6_number_X6_isIn : GoodIn wsX6_number wsX6_isIn := goodIn_sub (List.forall_mem_cons.mpr ⟨(List.mem_cons_of_mem _ (List.mem_append_left _ (List.mem_of_getElem? (i := 20) rfl))), (fun _ h => absurd h List.not_mem_nil)⟩) (by decide +kernel)
set_option maxRecDepth 20000 in
theorem gX6_number_X6_isIn : GoodIn wsX6_number (va_wsS RX6 76 yX6_isIn wsX6_isIn) := goodIn_app (goodIn_sub (List.forall_mem_cons.mpr ⟨(List.mem_cons_of_mem _ (List.mem_append_left _ (List.mem_of_getElem? (i := 18) rfl))), List.forall_mem_cons.mpr ⟨(List.mem_cons_of_mem _ (List.mem_append_left _ (List.mem_of_getElem? (i := 19) rfl))), List.forall_mem_cons.mpr ⟨(List.mem_cons_of_mem _ (List.mem_append_left _ (List.mem_of_getElem? (i := 7) rfl))), fun _ h => absurd h List.not_mem_nil⟩⟩⟩) (by decide +kernel)) ggX6_number_X6_isIn
theorem dX6_number_0 : decode cX6_number 0 = .ok (.aload_n 0, 1) := by decide +kernel
theorem dX6_number_1 : decode cX6_number 1 = .ok (.invokevirtual 156, 3) := by decide +kernel
theorem dX6_number_4 : decode cX6_number 4 = .ok (.aload_n 0, 1) := by decide +kernel
theorem dX6_number_5 : decode cX6_number 5 = .ok (.getfield 153, 3) := by decide +kernel
theorem dX6_number_8 : decode cX6_number 8 = .ok (.iconst 2, 1) := by decide +kernel
theorem dX6_number_9 : decode cX6_number 9 = .ok (.if_icmp .ne 16, 3) := by decide +kernel
theorem dX6_number_12 : decode cX6_number 12 = .ok (.aload_n 0, 1) := by decide +kernel
theorem dX6_number_13 : decode cX6_number 13 = .ok (.getfield 144, 3) := by decide +kernel
theorem dX6_number_16 : decode cX6_number 16 = .ok (.aload_n 0, 1) := by decide +kernel
theorem dX6_number_17 : decode cX6_number 17 = .ok (.getfield 147, 3) := by decide +kernel
theorem dX6_number_20 : decode cX6_number 20 = .ok (.isub, 1) := by decide +kernel
theorem dX6_number_21 : decode cX6_number 21 = .ok (.iconst 2, 1) := by decide +kernel
theorem dX6_number_22 : decode cX6_number 22 = .ok (.if_icmp .le 5, 3) := by decide +kernel
theorem dX6_number_25 : decode cX6_number 25 = .ok (.iconst (-1), 1) := by decide +kernel
theorem dX6_number_26 : decode cX6_number 26 = .ok (.ireturn, 1) := by decide +kernel
theorem dX6_number_27 : decode cX6_number 27 = .ok (.iconst 0, 1) := by decide +kernel
theorem dX6_number_28 : decode cX6_number 28 = .ok (.istore_n 3, 1) := by decide +kernel
theorem dX6_number_29 : decode cX6_number 29 = .ok (.aload_n 0, 1) := by decide +kernel
theorem dX6_number_30 : decode cX6_number 30 = .ok (.getfield 147, 3) := by decide +kernel
theorem dX6_number_33 : decode cX6_number 33 = .ok (.istore 4, 2) := by decide +kernel
theorem dX6_number_35 : decode cX6_number 35 = .ok (.iload 4, 2) := by decide +kernel
theorem dX6_number_37 : decode cX6_number 37 = .ok (.aload_n 0, 1) := by decide +kernel
theorem dX6_number_38 : decode cX6_number 38 = .ok (.getfield 144, 3) := by decide +kernel
theorem dX6_number_41 : decode cX6_number 41 = .ok (.if_icmp .ge 25, 3) := by decide +kernel
theorem dX6_number_44 : decode cX6_number 44 = .ok (.bipush 10, 2) := by decide +kernel
theorem dX6_number_46 : decode cX6_number 46 = .ok (.iload_n 3, 1) := by decide +kernel
theorem dX6_number_47 : decode cX6_number 47 = .ok (.imul, 1) := by decide +kernel
theorem dX6_number_48 : decode cX6_number 48 = .ok (.aload_n 0, 1) := by decide +kernel
theorem dX6_number_49 : decode cX6_number 49 = .ok (.getfield 26, 3) := by decide +kernel
theorem dX6_number_52 : decode cX6_number 52 = .ok (.iload 4, 2) := by decide +kernel
theorem dX6_number_54 : decode cX6_number 54 = .ok (.iaload, 1) := by decide +kernel
theorem dX6_number_55 : decode cX6_number 55 = .ok (.iadd, 1) := by decide +kernel
theorem dX6_number_56 : decode cX6_number 56 = .ok (.bipush 48, 2) := by decide +kernel
theorem dX6_number_58 : decode cX6_number 58 = .ok (.isub, 1) := by decide +kernel
theorem dX6_number_59 : decode cX6_number 59 = .ok (.istore_n 3, 1) := by decide +kernel
theorem dX6_number_60 : decode cX6_number 60 = .ok (.iinc 4 1, 3) := by decide +kernel
theorem dX6_number_63 : decode cX6_number 63 = .ok (.goto (-28), 3) := by decide +kernel
theorem dX6_number_66 : decode cX6_number 66 = .ok (.iload_n 3, 1) := by decide +kernel
theorem dX6_number_67 : decode cX6_number 67 = .ok (.i2l, 1) := by decide +kernel
theorem dX6_number_68 : decode cX6_number 68 = .ok (.iload_n 1, 1) := by decide +kernel
theorem dX6_number_69 : decode cX6_number 69 = .ok (.i2l, 1) := by decide +kernel
theorem dX6_number_70 : decode cX6_number 70 = .ok (.iload_n 2, 1) := by decide +kernel
theorem dX6_number_71 : decode cX6_number 71 = .ok (.i2l, 1) := by decide +kernel
theorem dX6_number_72 : decode cX6_number 72 = .ok (.invokestatic 76, 3) := by decide +kernel
theorem dX6_number_75 : decode cX6_number 75 = .ok (.ifCond .eq 7, 3) := by decide +kernel
theorem dX6_number_78 : decode cX6_number 78 = .ok (.iload_n 3, 1) := by decide +kernel
theorem dX6_number_79 : decode cX6_number 79 = .ok (.goto 4, 3) := by decide +kernel
theorem dX6_number_82 : decode cX6_number 82 = .ok (.iconst (-1), 1) := by decide +kernel
theorem dX6_number_83 : decode cX6_number 83 = .ok (.ireturn, 1) := by decide +kernel
set_option maxRecDepth 20000 in
theorem pl_wsX6_cellNumber_wsX6_cellNumber_r1 : ∀ w ∈ wsX6_cellNumber_r1, w ∈ wsX6_cellNumber := fun _ h => List.mem_cons_of_mem _ (List.mem_append_left _ (List.mem_append_left _ (h)))
theorem pl_wsX6_cellNumber_wsX6_cellNumber_r2 : ∀ w ∈ wsX6_cellNumber_r2, w ∈ wsX6_cellNumber := fun _ h => List.mem_cons_of_mem _ (List.mem_append_left _ (List.mem_append_right _ (h)))
theorem pl_wsX6_cellNumber_wsX60 : ∀ w ∈ wsX60, w ∈ wsX6_cellNumber := fun _ h => List.mem_cons_of_mem _ (List.mem_append_right _ (h))
theorem ggX6_cellNumber_X6_number : GoodIn wsX6_cellNumber wsX6_number := goodIn_sub (List.forall_mem_cons.mpr ⟨(pl_wsX6_cellNumber_wsX6_cellNumber_r1 _ (List.mem_of_getElem? (i := 4) rfl)), (fun w h => (List.mem_append.mp h).elim ((List.forall_mem_cons.mpr ⟨(pl_wsX6_cellNumber_wsX6_cellNumber_r1 _ (List.mem_of_getElem? (i := 5) rfl)), List.forall_mem_cons.mpr ⟨(pl_wsX6_cellNumber_wsX6_cellNumber_r1 _ (List.mem_of_getElem? (i := 6) rfl)), List.forall_mem_cons.mpr ⟨(pl_wsX6_cellNumber_wsX6_cellNumber_r1 _ (List.mem_of_getElem? (i := 7) rfl)), List.forall_mem_cons.mpr ⟨(pl_wsX6_cellNumber_wsX6_cellNumber_r1 _ (List.mem_of_getElem? (i := 8) rfl)), List.forall_mem_cons.mpr ⟨(pl_wsX6_cellNumber_wsX6_cellNumber_r1 _ (List.mem_of_getElem? (i := 9) rfl)), List.forall_mem_cons.mpr ⟨(pl_wsX6_cellNumber_wsX6_cellNumber_r1 _ (List.mem_of_getElem? (i := 10) rfl)), List.forall_mem_cons.mpr ⟨(pl_wsX6_cellNumber_wsX6_cellNumber_r1 _ (List.mem_of_getElem? (i := 11) rfl)), List.forall_mem_cons.mpr ⟨(pl_wsX6_cellNumber_wsX6_cellNumber_r1 _ (List.mem_of_getElem? (i := 3) rfl)), List.forall_mem_cons.mpr ⟨(pl_wsX6_cellNumber_wsX6_cellNumber_r1 _ (List.mem_of_getElem? (i := 12) rfl)), List.forall_mem_cons.mpr ⟨(pl_wsX6_cellNumber_wsX6_cellNumber_r1 _ (List.mem_of_getElem? (i := 13) rfl)), List.forall_mem_cons.mpr ⟨(pl_wsX6_cellNumber_wsX6_cellNumber_r1 _ (List.mem_of_getElem? (i := 14) rfl)), List.forall_mem_cons.mpr ⟨(pl_wsX6_cellNumber_wsX6_cellNumber_r1 _ (List.mem_of_getElem? (i := 15) rfl)), List.forall_mem_cons.mpr ⟨(pl_wsX6_cellNumber_wsX6_cellNumber_r1 _ (List.mem_of_getElem? (i := 16) rfl)), List.forall_mem_cons.mpr ⟨(pl_wsX6_cellNumber_wsX6_cellNumber_r1 _ (List.mem_of_getElem? (i := 17) rfl)), List.forall_mem_cons.mpr ⟨(pl_wsX6_cellNumber_wsX6_cellNumber_r1 _ (List.mem_of_getElem? (i := 18) rfl)), List.forall_mem_cons.mpr ⟨(pl_wsX6_cellNumber_wsX6_cellNumber_r1 _ (List.mem_of_getElem? (i := 19) rfl)), List.forall_mem_cons.mpr ⟨(pl_wsX6_cellNumber_wsX6_cellNumber_r1 _ (List.mem_of_getElem? (i := 20) rfl)), List.forall_mem_cons.mpr ⟨(pl_wsX6_cellNumber_wsX6_cellNumber_r1 _ (List.mem_of_getElem? (i := 21) rfl)), List.forall_mem_cons.mpr ⟨(pl_wsX6_cellNumber_wsX6_cellNumber_r1 _ (List.mem_of_getElem? (i := 22) rfl)), List.forall_mem_cons.mpr ⟨(pl_wsX6_cellNumber_wsX6_cellNumber_r1 _ (List.mem_of_getElem? (i := 23) rfl)), List.forall_mem_cons.mpr ⟨(pl_wsX6_cellNumber_wsX6_cellNumber_r2 _ (List.mem_of_getElem? (i := 0) rfl)), fun _ h => absurd h List.not_mem_nil⟩⟩⟩⟩⟩⟩⟩⟩⟩⟩⟩⟩⟩⟩⟩⟩⟩⟩⟩⟩⟩) w) (pl_wsX6_cellNumber_wsX60 w))⟩) (by decide +kernel)
set_option maxRecDepth 20000 in
theorem gX6_cellNumber_X6_number : GoodIn wsX6_cellNumber (wsV RX6 159 RX6 yX6_number wsX6_number) := goodIn_app (goodIn_sub (List.forall_mem_cons.mpr ⟨(pl_wsX6_cellNumber_wsX6_cellNumber_r1 _ (List.mem_of_getElem? (i := 0) rfl)), List.forall_mem_cons.mpr ⟨(pl_wsX6_cellNumber_wsX6_cellNumber_r1 _ (List.mem_of_getElem? (i := 1) rfl)), List.forall_mem_cons.mpr ⟨(pl_wsX6_cellNumber_wsX6_cellNumber_r1 _ (List.mem_of_getElem? (i := 2) rfl)), List.forall_mem_cons.mpr ⟨(pl_wsX6_cellNumber_wsX6_cellNumber_r1 _ (List.mem_of_getElem? (i := 3) rfl)), fun _ h => absurd h List.not_mem_nil⟩⟩⟩⟩) (by decide +kernel)) ggX6_cellNumber_X6_number
set_option maxRecDepth 20000 in
theorem ggX6_cellNumber_X6_isCell : GoodIn wsX6_cellNumber wsX6_isCell := goodIn_sub (List.forall_mem_cons.mpr ⟨(pl_wsX6_cellNumber_wsX6_cellNumber_r2 _ (List.mem_of_getElem? (i := 4) rfl)), (fun w h => (List.mem_append.mp h).elim ((List.forall_mem_cons.mpr ⟨(pl_wsX6_cellNumber_wsX6_cellNumber_r2 _ (List.mem_of_getElem? (i := 5) rfl)), fun _ h => absurd h List.not_mem_nil⟩) w) (pl_wsX6_cellNumber_wsX60 w))⟩) (by decide +kernel)
set_option maxRecDepth 20000 in
theorem gX6_cellNumber_X6_isCell : GoodIn wsX6_cellNumber (wsV RX6 104 RX6 yX6_isCell wsX6_isCell) := goodIn_app (goodIn_sub (List.forall_mem_cons.mpr ⟨(pl_wsX6_cellNumber_wsX6_cellNumber_r2 _ (List.mem_of_getElem? (i := 1) rfl)), List.forall_mem_cons.mpr ⟨(pl_wsX6_cellNumber_wsX6_cellNumber_r2 _ (List.mem_of_getElem? (i := 2) rfl)), List.forall_mem_cons.mpr ⟨(pl_wsX6_cellNumber_wsX6_cellNumber_r2 _ (List.mem_of_getElem? (i := 3) rfl)), List.forall_mem_cons.mpr ⟨(pl_wsX6_cellNumber_wsX6_cellNumber_r1 _ (List.mem_of_getElem? (i := 3) rfl)), fun _ h => absurd h List.not_mem_nil⟩⟩⟩⟩) (by decide +kernel)) ggX6_cellNumber_X6_isCell
theorem dX6_cellNumber_0 : decode cX6_cellNumber 0 = .ok (.aload_n 0, 1) := by decide +kernel
theorem dX6_cellNumber_1 : decode cX6_cellNumber 1 = .ok (.iconst 0, 1) := by decide +kernel
theorem dX6_cellNumber_2 : decode cX6_cellNumber 2 = .ok (.bipush 99, 2) := by decide +kernel
theorem dX6_cellNumber_4 : decode cX6_cellNumber 4 = .ok (.invokevirtual 159, 3) := by decide +kernel
theorem dX6_cellNumber_7 : decode cX6_cellNumber 7 = .ok (.istore_n 1, 1) := by decide +kernel
theorem dX6_cellNumber_8 : decode cX6_cellNumber 8 = .ok (.iload_n 1, 1) := by decide +kernel
theorem dX6_cellNumber_9 : decode cX6_cellNumber 9 = .ok (.iconst (-1), 1) := by decide +kernel
theorem dX6_cellNumber_10 : decode cX6_cellNumber 10 = .ok (.if_icmp .eq 11, 3) := by decide +kernel
theorem dX6_cellNumber_13 : decode cX6_cellNumber 13 = .ok (.aload_n 0, 1) := by decide +kernel
theorem dX6_cellNumber_14 : decode cX6_cellNumber 14 = .ok (.iload_n 1, 1) := by decide +kernel
theorem dX6_cellNumber_15 : decode cX6_cellNumber 15 = .ok (.invokevirtual 104, 3) := by decide +kernel
theorem dX6_cellNumber_18 : decode cX6_cellNumber 18 = .ok (.ifCond .ne 7, 3) := by decide +kernel
theorem dX6_cellNumber_21 : decode cX6_cellNumber 21 = .ok (.iconst (-1), 1) := by decide +kernel
theorem dX6_cellNumber_22 : decode cX6_cellNumber 22 = .ok (.goto 4, 3) := by decide +kernel
theorem dX6_cellNumber_25 : decode cX6_cellNumber 25 = .ok (.iload_n 1, 1) := by decide +kernel
theorem dX6_cellNumber_26 : decode cX6_cellNumber 26 = .ok (.ireturn, 1) := by decide +kernel
set_option maxRecDepth 20000 in
theorem pl_wsX6_isPersonStatement_wsX6_isPersonStatement_r1 : ∀ w ∈ wsX6_isPersonStatement_r1, w ∈ wsX6_isPersonStatement := fun _ h => List.mem_cons_of_mem _ (List.mem_append_left _ (List.mem_append_left _ (h)))
theorem pl_wsX6_isPersonStatement_wsX6_isPersonStatement_r2 : ∀ w ∈ wsX6_isPersonStatement_r2, w ∈ wsX6_isPersonStatement := fun _ h => List.mem_cons_of_mem _ (List.mem_append_left _ (List.mem_append_right _ (h)))
theorem pl_wsX6_isPersonStatement_wsX60 : ∀ w ∈ wsX60, w ∈ wsX6_isPersonStatement := fun _ h => List.mem_cons_of_mem _ (List.mem_append_right _ (h))
theorem ggX6_isPersonStatement_X6_number : GoodIn wsX6_isPersonStatement wsX6_number := goodIn_sub (List.forall_mem_cons.mpr ⟨(pl_wsX6_isPersonStatement_wsX6_isPersonStatement_r1 _ (List.mem_of_getElem? (i := 4) rfl)), (fun w h => (List.mem_append.mp h).elim ((List.forall_mem_cons.mpr ⟨(pl_wsX6_isPersonStatement_wsX6_isPersonStatement_r1 _ (List.mem_of_getElem? (i := 5) rfl)), List.forall_mem_cons.mpr ⟨(pl_wsX6_isPersonStatement_wsX6_isPersonStatement_r1 _ (List.mem_of_getElem? (i := 6) rfl)), List.forall_mem_cons.mpr ⟨(pl_wsX6_isPersonStatement_wsX6_isPersonStatement_r1 _ (List.mem_of_getElem? (i := 7) rfl)), List.forall_mem_cons.mpr ⟨(pl_wsX6_isPersonStatement_wsX6_isPersonStatement_r1 _ (List.mem_of_getElem? (i := 8) rfl)), List.forall_mem_cons.mpr ⟨(pl_wsX6_isPersonStatement_wsX6_isPersonStatement_r1 _ (List.mem_of_getElem? (i := 9) rfl)), List.forall_mem_cons.mpr ⟨(pl_wsX6_isPersonStatement_wsX6_isPersonStatement_r1 _ (List.mem_of_getElem? (i := 10) rfl)), List.forall_mem_cons.mpr ⟨(pl_wsX6_isPersonStatement_wsX6_isPersonStatement_r1 _ (List.mem_of_getElem? (i := 11) rfl)), List.forall_mem_cons.mpr ⟨(pl_wsX6_isPersonStatement_wsX6_isPersonStatement_r1 _ (List.mem_of_getElem? (i := 3) rfl)), List.forall_mem_cons.mpr ⟨(pl_wsX6_isPersonStatement_wsX6_isPersonStatement_r1 _ (List.mem_of_getElem? (i := 12) rfl)), List.forall_mem_cons.mpr ⟨(pl_wsX6_isPersonStatement_wsX6_isPersonStatement_r1 _ (List.mem_of_getElem? (i := 13) rfl)), List.forall_mem_cons.mpr ⟨(pl_wsX6_isPersonStatement_wsX6_isPersonStatement_r1 _ (List.mem_of_getElem? (i := 14) rfl)), List.forall_mem_cons.mpr ⟨(pl_wsX6_isPersonStatement_wsX6_isPersonStatement_r1 _ (List.mem_of_getElem? (i := 15) rfl)), List.forall_mem_cons.mpr ⟨(pl_wsX6_isPersonStatement_wsX6_isPersonStatement_r1 _ (List.mem_of_getElem? (i := 16) rfl)), List.forall_mem_cons.mpr ⟨(pl_wsX6_isPersonStatement_wsX6_isPersonStatement_r1 _ (List.mem_of_getElem? (i := 17) rfl)), List.forall_mem_cons.mpr ⟨(pl_wsX6_isPersonStatement_wsX6_isPersonStatement_r1 _ (List.mem_of_getElem? (i := 18) rfl)), List.forall_mem_cons.mpr ⟨(pl_wsX6_isPersonStatement_wsX6_isPersonStatement_r1 _ (List.mem_of_getElem? (i := 19) rfl)), List.forall_mem_cons.mpr ⟨(pl_wsX6_isPersonStatement_wsX6_isPersonStatement_r1 _ (List.mem_of_getElem? (i := 20) rfl)), List.forall_mem_cons.mpr ⟨(pl_wsX6_isPersonStatement_wsX6_isPersonStatement_r1 _ (List.mem_of_getElem? (i := 21) rfl)), List.forall_mem_cons.mpr ⟨(pl_wsX6_isPersonStatement_wsX6_isPersonStatement_r1 _ (List.mem_of_getElem? (i := 22) rfl)), List.forall_mem_cons.mpr ⟨(pl_wsX6_isPersonStatement_wsX6_isPersonStatement_r1 _ (List.mem_of_getElem? (i := 23) rfl)), List.forall_mem_cons.mpr ⟨(pl_wsX6_isPersonStatement_wsX6_isPersonStatement_r2 _ (List.mem_of_getElem? (i := 0) rfl)), fun _ h => absurd h List.not_mem_nil⟩⟩⟩⟩⟩⟩⟩⟩⟩⟩⟩⟩⟩⟩⟩⟩⟩⟩⟩⟩⟩) w) (pl_wsX6_isPersonStatement_wsX60 w))⟩) (by decide +kernel)
set_option maxRecDepth 20000 in
theorem gX6_isPersonStatement_X6_number : GoodIn wsX6_isPersonStatement (wsV RX6 159 RX6 yX6_number wsX6_number) := goodIn_app (goodIn_sub (List.forall_mem_cons.mpr ⟨(pl_wsX6_isPersonStatement_wsX6_isPersonStatement_r1 _ (List.mem_of_getElem? (i := 0) rfl)), List.forall_mem_cons.mpr ⟨(pl_wsX6_isPersonStatement_wsX6_isPersonStatement_r1 _ (List.mem_of_getElem? (i := 1) rfl)), List.forall_mem_cons.mpr ⟨(pl_wsX6_isPersonStatement_wsX6_isPersonStatement_r1 _ (List.mem_of_getElem? (i := 2) rfl)), List.forall_mem_cons.mpr ⟨(pl_wsX6_isPersonStatement_wsX6_isPersonStatement_r1 _ (List.mem_of_getElem? (i := 3) rfl)), fun _ h => absurd h List.not_mem_nil⟩⟩⟩⟩) (by decide +kernel)) ggX6_isPersonStatement_X6_number
set_option maxRecDepth 20000 in
theorem ggX6_isPersonStatement_X6_cellNumber : GoodIn wsX6_isPersonStatement wsX6_cellNumber := goodIn_sub (List.forall_mem_cons.mpr ⟨(pl_wsX6_isPersonStatement_wsX6_isPersonStatement_r2 _ (List.mem_of_getElem? (i := 4) rfl)), (fun w h => (List.mem_append.mp h).elim ((fun w h => (List.mem_append.mp h).elim ((List.forall_mem_cons.mpr ⟨(pl_wsX6_isPersonStatement_wsX6_isPersonStatement_r1 _ (List.mem_of_getElem? (i := 0) rfl)), List.forall_mem_cons.mpr ⟨(pl_wsX6_isPersonStatement_wsX6_isPersonStatement_r1 _ (List.mem_of_getElem? (i := 1) rfl)), List.forall_mem_cons.mpr ⟨(pl_wsX6_isPersonStatement_wsX6_isPersonStatement_r1 _ (List.mem_of_getElem? (i := 2) rfl)), List.forall_mem_cons.mpr ⟨(pl_wsX6_isPersonStatement_wsX6_isPersonStatement_r1 _ (List.mem_of_getElem? (i := 3) rfl)), List.forall_mem_cons.mpr ⟨(pl_wsX6_isPersonStatement_wsX6_isPersonStatement_r1 _ (List.mem_of_getElem? (i := 4) rfl)), List.forall_mem_cons.mpr ⟨(pl_wsX6_isPersonStatement_wsX6_isPersonStatement_r1 _ (List.mem_of_getElem? (i := 5) rfl)), List.forall_mem_cons.mpr ⟨(pl_wsX6_isPersonStatement_wsX6_isPersonStatement_r1 _ (List.mem_of_getElem? (i := 6) rfl)), List.forall_mem_cons.mpr ⟨(pl_wsX6_isPersonStatement_wsX6_isPersonStatement_r1 _ (List.mem_of_getElem? (i := 7) rfl)), List.forall_mem_cons.mpr ⟨(pl_wsX6_isPersonStatement_wsX6_isPersonStatement_r1 _ (List.mem_of_getElem? (i := 8) rfl)), List.forall_mem_cons.mpr ⟨(pl_wsX6_isPersonStatement_wsX6_isPersonStatement_r1 _ (List.mem_of_getElem? (i := 9) rfl)), List.forall_mem_cons.mpr ⟨(pl_wsX6_isPersonStatement_wsX6_isPersonStatement_r1 _ (List.mem_of_getElem? (i := 10) rfl)), List.forall_mem_cons.mpr ⟨(pl_wsX6_isPersonStatement_wsX6_isPersonStatement_r1 _ (List.mem_of_getElem? (i := 11) rfl)), List.forall_mem_cons.mpr ⟨(pl_wsX6_isPersonStatement_wsX6_isPersonStatement_r1 _ (List.mem_of_getElem? (i := 12) rfl)), List.forall_mem_cons.mpr ⟨(pl_wsX6_isPersonStatement_wsX6_isPersonStatement_r1 _ (List.mem_of_getElem? (i := 13) rfl)), List.forall_mem_cons.mpr ⟨(pl_wsX6_isPersonStatement_wsX6_isPersonStatement_r1 _ (List.mem_of_getElem? (i := 14) rfl)), List.forall_mem_cons.mpr ⟨(pl_wsX6_isPersonStatement_wsX6_isPersonStatement_r1 _ (List.mem_of_getElem? (i := 15) rfl)), List.forall_mem_cons.mpr ⟨(pl_wsX6_isPersonStatement_wsX6_isPersonStatement_r1 _ (List.mem_of_getElem? (i := 16) rfl)), List.forall_mem_cons.mpr ⟨(pl_wsX6_isPersonStatement_wsX6_isPersonStatement_r1 _ (List.mem_of_getElem? (i := 17) rfl)), List.forall_mem_cons.mpr ⟨(pl_wsX6_isPersonStatement_wsX6_isPersonStatement_r1 _ (List.mem_of_getElem? (i := 18) rfl)), List.forall_mem_cons.mpr ⟨(pl_wsX6_isPersonStatement_wsX6_isPersonStatement_r1 _ (List.mem_of_getElem? (i := 19) rfl)), List.forall_mem_cons.mpr ⟨(pl_wsX6_isPersonStatement_wsX6_isPersonStatement_r1 _ (List.mem_of_getElem? (i := 20) rfl)), List.forall_mem_cons.mpr ⟨(pl_wsX6_isPersonStatement_wsX6_isPersonStatement_r1 _ (List.mem_of_getElem? (i := 21) rfl)), List.forall_mem_cons.mpr ⟨(pl_wsX6_isPersonStatement_wsX6_isPersonStatement_r1 _ (List.mem_of_getElem? (i := 22) rfl)), List.forall_mem_cons.mpr ⟨(pl_wsX6_isPersonStatement_wsX6_isPersonStatement_r1 _ (List.mem_of_getElem? (i := 23) rfl)), fun _ h => absurd h List.not_mem_nil⟩⟩⟩⟩⟩⟩⟩⟩⟩⟩⟩⟩⟩⟩⟩⟩⟩⟩⟩⟩⟩⟩⟩⟩) w) ((List.forall_mem_cons.mpr ⟨(pl_wsX6_isPersonStatement_wsX6_isPersonStatement_r2 _ (List.mem_of_getElem? (i := 0) rfl)), List.forall_mem_cons.mpr ⟨(pl_wsX6_isPersonStatement_wsX6_isPersonStatement_r2 _ (List.mem_of_getElem? (i := 5) rfl)), List.forall_mem_cons.mpr ⟨(pl_wsX6_isPersonStatement_wsX6_isPersonStatement_r2 _ (List.mem_of_getElem? (i := 6) rfl)), List.forall_mem_cons.mpr ⟨(pl_wsX6_isPersonStatement_wsX6_isPersonStatement_r2 _ (List.mem_of_getElem? (i := 7) rfl)), List.forall_mem_cons.mpr ⟨(pl_wsX6_isPersonStatement_wsX6_isPersonStatement_r2 _ (List.mem_of_getElem? (i := 8) rfl)), List.forall_mem_cons.mpr ⟨(pl_wsX6_isPersonStatement_wsX6_isPersonStatement_r2 _ (List.mem_of_getElem? (i := 9) rfl)), fun _ h => absurd h List.not_mem_nil⟩⟩⟩⟩⟩⟩) w)) w) (pl_wsX6_isPersonStatement_wsX60 w))⟩) (by decide +kernel)
set_option maxRecDepth 20000 in
theorem gX6_isPersonStatement_X6_cellNumber : GoodIn wsX6_isPersonStatement (wsV RX6 162 RX6 yX6_cellNumber wsX6_cellNumber) := goodIn_app (goodIn_sub (List.forall_mem_cons.mpr ⟨(pl_wsX6_isPersonStatement_wsX6_isPersonStatement_r2 _ (List.mem_of_getElem? (i := 1) rfl)), List.forall_mem_cons.mpr ⟨(pl_wsX6_isPersonStatement_wsX6_isPersonStatement_r2 _ (List.mem_of_getElem? (i := 2) rfl)), List.forall_mem_cons.mpr ⟨(pl_wsX6_isPersonStatement_wsX6_isPersonStatement_r2 _ (List.mem_of_getElem? (i := 3) rfl)), List.forall_mem_cons.mpr ⟨(pl_wsX6_isPersonStatement_wsX6_isPersonStatement_r1 _ (List.mem_of_getElem? (i := 3) rfl)), fun _ h => absurd h List.not_mem_nil⟩⟩⟩⟩) (by decide +kernel)) ggX6_isPersonStatement_X6_cellNumber
set_option maxRecDepth 20000 in
theorem ggX6_isPersonStatement_X6_hasPond : GoodIn wsX6_isPersonStatement wsX6_hasPond := goodIn_sub (List.forall_mem_cons.mpr ⟨(pl_wsX6_isPersonStatement_wsX6_isPersonStatement_r2 _ (List.mem_of_getElem? (i := 13) rfl)), (fun w h => (List.mem_append.mp h).elim ((List.forall_mem_cons.mpr ⟨(pl_wsX6_isPersonStatement_wsX6_isPersonStatement_r2 _ (List.mem_of_getElem? (i := 9) rfl)), List.forall_mem_cons.mpr ⟨(pl_wsX6_isPersonStatement_wsX6_isPersonStatement_r2 _ (List.mem_of_getElem? (i := 14) rfl)), List.forall_mem_cons.mpr ⟨(pl_wsX6_isPersonStatement_wsX6_isPersonStatement_r2 _ (List.mem_of_getElem? (i := 15) rfl)), List.forall_mem_cons.mpr ⟨(pl_wsX6_isPersonStatement_wsX6_isPersonStatement_r1 _ (List.mem_of_getElem? (i := 3) rfl)), List.forall_mem_cons.mpr ⟨(pl_wsX6_isPersonStatement_wsX6_isPersonStatement_r2 _ (List.mem_of_getElem? (i := 16) rfl)), fun _ h => absurd h List.not_mem_nil⟩⟩⟩⟩⟩) w) (pl_wsX6_isPersonStatement_wsX60 w))⟩) (by decide +kernel)
set_option maxRecDepth 20000 in
theorem gX6_isPersonStatement_X6_hasPond : GoodIn wsX6_isPersonStatement (wsV RX6 95 RX6 yX6_hasPond wsX6_hasPond) := goodIn_app (goodIn_sub (List.forall_mem_cons.mpr ⟨(pl_wsX6_isPersonStatement_wsX6_isPersonStatement_r2 _ (List.mem_of_getElem? (i := 10) rfl)), List.forall_mem_cons.mpr ⟨(pl_wsX6_isPersonStatement_wsX6_isPersonStatement_r2 _ (List.mem_of_getElem? (i := 11) rfl)), List.forall_mem_cons.mpr ⟨(pl_wsX6_isPersonStatement_wsX6_isPersonStatement_r2 _ (List.mem_of_getElem? (i := 12) rfl)), List.forall_mem_cons.mpr ⟨(pl_wsX6_isPersonStatement_wsX6_isPersonStatement_r1 _ (List.mem_of_getElem? (i := 3) rfl)), fun _ h => absurd h List.not_mem_nil⟩⟩⟩⟩) (by decide +kernel)) ggX6_isPersonStatement_X6_hasPond
set_option maxRecDepth 20000 in
theorem ggX6_isPersonStatement_X6_add : GoodIn wsX6_isPersonStatement wsX6_add := goodIn_sub (List.forall_mem_cons.mpr ⟨(pl_wsX6_isPersonStatement_wsX6_isPersonStatement_r2 _ (List.mem_of_getElem? (i := 20) rfl)), (fun w h => (List.mem_append.mp h).elim ((List.forall_mem_cons.mpr ⟨(pl_wsX6_isPersonStatement_wsX6_isPersonStatement_r2 _ (List.mem_of_getElem? (i := 9) rfl)), fun _ h => absurd h List.not_mem_nil⟩) w) (pl_wsX6_isPersonStatement_wsX60 w))⟩) (by decide +kernel)
set_option maxRecDepth 20000 in
theorem gX6_isPersonStatement_X6_add : GoodIn wsX6_isPersonStatement (wsV RX6 116 RX6 yX6_add wsX6_add) := goodIn_app (goodIn_sub (List.forall_mem_cons.mpr ⟨(pl_wsX6_isPersonStatement_wsX6_isPersonStatement_r2 _ (List.mem_of_getElem? (i := 17) rfl)), List.forall_mem_cons.mpr ⟨(pl_wsX6_isPersonStatement_wsX6_isPersonStatement_r2 _ (List.mem_of_getElem? (i := 18) rfl)), List.forall_mem_cons.mpr ⟨(pl_wsX6_isPersonStatement_wsX6_isPersonStatement_r2 _ (List.mem_of_getElem? (i := 19) rfl)), List.forall_mem_cons.mpr ⟨(pl_wsX6_isPersonStatement_wsX6_isPersonStatement_r1 _ (List.mem_of_getElem? (i := 3) rfl)), fun _ h => absurd h List.not_mem_nil⟩⟩⟩⟩) (by decide +kernel)) ggX6_isPersonStatement_X6_add
theorem dX6_isPersonStatement_0 : decode cX6_isPersonStatement 0 = .ok (.aload_n 0, 1) := by decide +kernel
theorem dX6_isPersonStatement_1 : decode cX6_isPersonStatement 1 = .ok (.iconst 0, 1) := by decide +kernel
theorem dX6_isPersonStatement_2 : decode cX6_isPersonStatement 2 = .ok (.iconst 5, 1) := by decide +kernel
theorem dX6_isPersonStatement_3 : decode cX6_isPersonStatement 3 = .ok (.invokevirtual 159, 3) := by decide +kernel
theorem dX6_isPersonStatement_6 : decode cX6_isPersonStatement 6 = .ok (.istore_n 1, 1) := by decide +kernel
theorem dX6_isPersonStatement_7 : decode cX6_isPersonStatement 7 = .ok (.iload_n 1, 1) := by decide +kernel
theorem dX6_isPersonStatement_8 : decode cX6_isPersonStatement 8 = .ok (.iconst (-1), 1) := by decide +kernel
theorem dX6_isPersonStatement_9 : decode cX6_isPersonStatement 9 = .ok (.if_icmp .ne 7, 3) := by decide +kernel
theorem dX6_isPersonStatement_12 : decode cX6_isPersonStatement 12 = .ok (.iconst (-1), 1) := by decide +kernel
theorem dX6_isPersonStatement_13 : decode cX6_isPersonStatement 13 = .ok (.goto 10, 3) := by decide +kernel
theorem dX6_isPersonStatement_16 : decode cX6_isPersonStatement 16 = .ok (.aload_n 0, 1) := by decide +kernel
theorem dX6_isPersonStatement_17 : decode cX6_isPersonStatement 17 = .ok (.iconst 0, 1) := by decide +kernel
theorem dX6_isPersonStatement_18 : decode cX6_isPersonStatement 18 = .ok (.bipush 9, 2) := by decide +kernel
theorem dX6_isPersonStatement_20 : decode cX6_isPersonStatement 20 = .ok (.invokevirtual 159, 3) := by decide +kernel
theorem dX6_isPersonStatement_23 : decode cX6_isPersonStatement 23 = .ok (.istore_n 2, 1) := by decide +kernel
theorem dX6_isPersonStatement_24 : decode cX6_isPersonStatement 24 = .ok (.iload_n 2, 1) := by decide +kernel
theorem dX6_isPersonStatement_25 : decode cX6_isPersonStatement 25 = .ok (.iconst (-1), 1) := by decide +kernel
theorem dX6_isPersonStatement_26 : decode cX6_isPersonStatement 26 = .ok (.if_icmp .ne 7, 3) := by decide +kernel
theorem dX6_isPersonStatement_29 : decode cX6_isPersonStatement 29 = .ok (.iconst (-1), 1) := by decide +kernel
theorem dX6_isPersonStatement_30 : decode cX6_isPersonStatement 30 = .ok (.goto 7, 3) := by decide +kernel
theorem dX6_isPersonStatement_33 : decode cX6_isPersonStatement 33 = .ok (.aload_n 0, 1) := by decide +kernel
theorem dX6_isPersonStatement_34 : decode cX6_isPersonStatement 34 = .ok (.invokevirtual 162, 3) := by decide +kernel
theorem dX6_isPersonStatement_37 : decode cX6_isPersonStatement 37 = .ok (.istore_n 3, 1) := by decide +kernel
theorem dX6_isPersonStatement_38 : decode cX6_isPersonStatement 38 = .ok (.iload_n 3, 1) := by decide +kernel
theorem dX6_isPersonStatement_39 : decode cX6_isPersonStatement 39 = .ok (.iconst (-1), 1) := by decide +kernel
theorem dX6_isPersonStatement_40 : decode cX6_isPersonStatement 40 = .ok (.if_icmp .eq 11, 3) := by decide +kernel
theorem dX6_isPersonStatement_43 : decode cX6_isPersonStatement 43 = .ok (.aload_n 0, 1) := by decide +kernel
theorem dX6_isPersonStatement_44 : decode cX6_isPersonStatement 44 = .ok (.iload_n 3, 1) := by decide +kernel
theorem dX6_isPersonStatement_45 : decode cX6_isPersonStatement 45 = .ok (.invokevirtual 95, 3) := by decide +kernel
theorem dX6_isPersonStatement_48 : decode cX6_isPersonStatement 48 = .ok (.ifCond .eq 7, 3) := by decide +kernel
theorem dX6_isPersonStatement_51 : decode cX6_isPersonStatement 51 = .ok (.iconst (-1), 1) := by decide +kernel
theorem dX6_isPersonStatement_52 : decode cX6_isPersonStatement 52 = .ok (.goto 9, 3) := by decide +kernel
theorem dX6_isPersonStatement_55 : decode cX6_isPersonStatement 55 = .ok (.aload_n 0, 1) := by decide +kernel
theorem dX6_isPersonStatement_56 : decode cX6_isPersonStatement 56 = .ok (.iconst 0, 1) := by decide +kernel
theorem dX6_isPersonStatement_57 : decode cX6_isPersonStatement 57 = .ok (.iconst 3, 1) := by decide +kernel
theorem dX6_isPersonStatement_58 : decode cX6_isPersonStatement 58 = .ok (.invokevirtual 159, 3) := by decide +kernel
theorem dX6_isPersonStatement_61 : decode cX6_isPersonStatement 61 = .ok (.istore 4, 2) := by decide +kernel
theorem dX6_isPersonStatement_63 : decode cX6_isPersonStatement 63 = .ok (.iload 4, 2) := by decide +kernel
theorem dX6_isPersonStatement_65 : decode cX6_isPersonStatement 65 = .ok (.iconst (-1), 1) := by decide +kernel
theorem dX6_isPersonStatement_66 : decode cX6_isPersonStatement 66 = .ok (.if_icmp .ne 5, 3) := by decide +kernel
theorem dX6_isPersonStatement_69 : decode cX6_isPersonStatement 69 = .ok (.iconst 0, 1) := by decide +kernel
theorem dX6_isPersonStatement_70 : decode cX6_isPersonStatement 70 = .ok (.ireturn, 1) := by decide +kernel
theorem dX6_isPersonStatement_71 : decode cX6_isPersonStatement 71 = .ok (.aload_n 0, 1) := by decide +kernel
theorem dX6_isPersonStatement_72 : decode cX6_isPersonStatement 72 = .ok (.iload_n 1, 1) := by decide +kernel
theorem dX6_isPersonStatement_73 : decode cX6_isPersonStatement 73 = .ok (.iload_n 2, 1) := by decide +kernel
theorem dX6_isPersonStatement_74 : decode cX6_isPersonStatement 74 = .ok (.iload_n 3, 1) := by decide +kernel
theorem dX6_isPersonStatement_75 : decode cX6_isPersonStatement 75 = .ok (.iload 4, 2) := by decide +kernel
theorem dX6_isPersonStatement_77 : decode cX6_isPersonStatement 77 = .ok (.invokevirtual 116, 3) := by decide +kernel
theorem dX6_isPersonStatement_80 : decode cX6_isPersonStatement 80 = .ok (.pop, 1) := by decide +kernel
theorem dX6_isPersonStatement_81 : decode cX6_isPersonStatement 81 = .ok (.iconst 1, 1) := by decide +kernel
theorem dX6_isPersonStatement_82 : decode cX6_isPersonStatement 82 = .ok (.ireturn, 1) := by decide +kernel
set_option maxRecDepth 20000 in
theorem pl_wsX6_isStatement_wsX6_isStatement_r1 : ∀ w ∈ wsX6_isStatement_r1, w ∈ wsX6_isStatement := fun _ h => List.mem_cons_of_mem _ (List.mem_append_left _ (List.mem_append_left _ (h)))
theorem pl_wsX6_isStatement_wsX60 : ∀ w ∈ wsX60, w ∈ wsX6_isStatement := fun _ h => List.mem_cons_of_mem _ (List.mem_append_right _ (h))
theorem ggX6_isStatement_X6_next : GoodIn wsX6_isStatement wsX6_next := goodIn_sub (List.forall_mem_cons.mpr ⟨(pl_wsX6_isStatement_wsX6_isStatement_r1 _ (List.mem_of_getElem? (i := 5) rfl)), (fun w h => (List.mem_append.mp h).elim ((List.forall_mem_cons.mpr ⟨(pl_wsX6_isStatement_wsX6_isStatement_r1 _ (List.mem_of_getElem? (i := 6) rfl)), List.forall_mem_cons.mpr ⟨(pl_wsX6_isStatement_wsX6_isStatement_r1 _ (List.mem_of_getElem? (i := 7) rfl)), List.forall_mem_cons.mpr ⟨(pl_wsX6_isStatement_wsX6_isStatement_r1 _ (List.mem_of_getElem? (i := 8) rfl)), List.forall_mem_cons.mpr ⟨(pl_wsX6_isStatement_wsX6_isStatement_r1 _ (List.mem_of_getElem? (i := 9) rfl)), List.forall_mem_cons.mpr ⟨(pl_wsX6_isStatement_wsX6_isStatement_r1 _ (List.mem_of_getElem? (i := 10) rfl)), List.forall_mem_cons.mpr ⟨(pl_wsX6_isStatement_wsX6_isStatement_r1 _ (List.mem_of_getElem? (i := 11) rfl)), List.forall_mem_cons.mpr ⟨(pl_wsX6_isStatement_wsX6_isStatement_r1 _ (List.mem_of_getElem? (i := 12) rfl)), List.forall_mem_cons.mpr ⟨(pl_wsX6_isStatement_wsX6_isStatement_r1 _ (List.mem_of_getElem? (i := 13) rfl)), List.forall_mem_cons.mpr ⟨(pl_wsX6_isStatement_wsX6_isStatement_r1 _ (List.mem_of_getElem? (i := 4) rfl)), List.forall_mem_cons.mpr ⟨(pl_wsX6_isStatement_wsX6_isStatement_r1 _ (List.mem_of_getElem? (i := 14) rfl)), List.forall_mem_cons.mpr ⟨(pl_wsX6_isStatement_wsX6_isStatement_r1 _ (List.mem_of_getElem? (i := 15) rfl)), List.forall_mem_cons.mpr ⟨(pl_wsX6_isStatement_wsX6_isStatement_r1 _ (List.mem_of_getElem? (i := 16) rfl)), List.forall_mem_cons.mpr ⟨(pl_wsX6_isStatement_wsX6_isStatement_r1 _ (List.mem_of_getElem? (i := 17) rfl)), List.forall_mem_cons.mpr ⟨(pl_wsX6_isStatement_wsX6_isStatement_r1 _ (List.mem_of_getElem? (i := 18) rfl)), List.forall_mem_cons.mpr ⟨(pl_wsX6_isStatement_wsX6_isStatement_r1 _ (List.mem_of_getElem? (i := 19) rfl)), List.forall_mem_cons.mpr ⟨(pl_wsX6_isStatement_wsX6_isStatement_r1 _ (List.mem_of_getElem? (i := 20) rfl)), List.forall_mem_cons.mpr ⟨(pl_wsX6_isStatement_wsX6_isStatement_r1 _ (List.mem_of_getElem? (i := 21) rfl)), fun _ h => absurd h List.not_mem_nil⟩⟩⟩⟩⟩⟩⟩⟩⟩⟩⟩⟩⟩⟩⟩⟩⟩) w) (pl_wsX6_isStatement_wsX60 w))⟩) (by decide +kernel)
set_option maxRecDepth 20000 in
theorem gX6_isStatement_X6_next : GoodIn wsX6_isStatement (wsV RX6 156 RX6 yX6_next wsX6_next) := goodIn_app (goodIn_sub (List.forall_mem_cons.mpr ⟨(pl_wsX6_isStatement_wsX6_isStatement_r1 _ (List.mem_of_getElem? (i := 1) rfl)), List.forall_mem_cons.mpr ⟨(pl_wsX6_isStatement_wsX6_isStatement_r1 _ (List.mem_of_getElem? (i := 2) rfl)), List.forall_mem_cons.mpr ⟨(pl_wsX6_isStatement_wsX6_isStatement_r1 _ (List.mem_of_getElem? (i := 3) rfl)), List.forall_mem_cons.mpr ⟨(pl_wsX6_isStatement_wsX6_isStatement_r1 _ (List.mem_of_getElem? (i := 4) rfl)), fun _ h => absurd h List.not_mem_nil⟩⟩⟩⟩) (by decide +kernel)) ggX6_isStatement_X6_next
set_option maxRecDepth 20000 in
theorem pl_wsX6_isStatement_wsX6_isStatement_r2 : ∀ w ∈ wsX6_isStatement_r2, w ∈ wsX6_isStatement := fun _ h => List.mem_cons_of_mem _ (List.mem_append_left _ (List.mem_append_right _ (List.mem_append_left _ (h))))
theorem ggX6_isStatement_X6_word : GoodIn wsX6_isStatement wsX6_word := goodIn_sub (List.forall_mem_cons.mpr ⟨(pl_wsX6_isStatement_wsX6_isStatement_r2 _ (List.mem_of_getElem? (i := 1) rfl)), (fun w h => (List.mem_append.mp h).elim ((List.forall_mem_cons.mpr ⟨(pl_wsX6_isStatement_wsX6_isStatement_r1 _ (List.mem_of_getElem? (i := 10) rfl)), List.forall_mem_cons.mpr ⟨(pl_wsX6_isStatement_wsX6_isStatement_r1 _ (List.mem_of_getElem? (i := 6) rfl)), List.forall_mem_cons.mpr ⟨(pl_wsX6_isStatement_wsX6_isStatement_r1 _ (List.mem_of_getElem? (i := 9) rfl)), List.forall_mem_cons.mpr ⟨(pl_wsX6_isStatement_wsX6_isStatement_r1 _ (List.mem_of_getElem? (i := 8) rfl)), List.forall_mem_cons.mpr ⟨(pl_wsX6_isStatement_wsX6_isStatement_r2 _ (List.mem_of_getElem? (i := 2) rfl)), fun _ h => absurd h List.not_mem_nil⟩⟩⟩⟩⟩) w) (pl_wsX6_isStatement_wsX60 w))⟩) (by decide +kernel)
set_option maxRecDepth 20000 in
theorem gX6_isStatement_X6_word : GoodIn wsX6_isStatement (wsV RX6 165 RX6 yX6_word wsX6_word) := goodIn_app (goodIn_sub (List.forall_mem_cons.mpr ⟨(pl_wsX6_isStatement_wsX6_isStatement_r1 _ (List.mem_of_getElem? (i := 22) rfl)), List.forall_mem_cons.mpr ⟨(pl_wsX6_isStatement_wsX6_isStatement_r1 _ (List.mem_of_getElem? (i := 23) rfl)), List.forall_mem_cons.mpr ⟨(pl_wsX6_isStatement_wsX6_isStatement_r2 _ (List.mem_of_getElem? (i := 0) rfl)), List.forall_mem_cons.mpr ⟨(pl_wsX6_isStatement_wsX6_isStatement_r1 _ (List.mem_of_getElem? (i := 4) rfl)), fun _ h => absurd h List.not_mem_nil⟩⟩⟩⟩) (by decide +kernel)) ggX6_isStatement_X6_word
set_option maxRecDepth 20000 in
theorem ggX6_isStatement_X6_many : GoodIn wsX6_isStatement wsX6_many := goodIn_sub (List.forall_mem_cons.mpr ⟨(pl_wsX6_isStatement_wsX6_isStatement_r2 _ (List.mem_of_getElem? (i := 6) rfl)), (fun w h => (List.mem_append.mp h).elim ((List.forall_mem_cons.mpr ⟨(pl_wsX6_isStatement_wsX6_isStatement_r1 _ (List.mem_of_getElem? (i := 0) rfl)), fun _ h => absurd h List.not_mem_nil⟩) w) (pl_wsX6_isStatement_wsX60 w))⟩) (by decide +kernel)
set_option maxRecDepth 20000 in
theorem gX6_isStatement_X6_many : GoodIn wsX6_isStatement (wsV RX6 84 RX6 yX6_many wsX6_many) := goodIn_app (goodIn_sub (List.forall_mem_cons.mpr ⟨(pl_wsX6_isStatement_wsX6_isStatement_r2 _ (List.mem_of_getElem? (i := 3) rfl)), List.forall_mem_cons.mpr ⟨(pl_wsX6_isStatement_wsX6_isStatement_r2 _ (List.mem_of_getElem? (i := 4) rfl)), List.forall_mem_cons.mpr ⟨(pl_wsX6_isStatement_wsX6_isStatement_r2 _ (List.mem_of_getElem? (i := 5) rfl)), List.forall_mem_cons.mpr ⟨(pl_wsX6_isStatement_wsX6_isStatement_r1 _ (List.mem_of_getElem? (i := 4) rfl)), fun _ h => absurd h List.not_mem_nil⟩⟩⟩⟩) (by decide +kernel)) ggX6_isStatement_X6_many
set_option maxRecDepth 20000 in
theorem pl_wsX6_isStatement_wsX6_isStatement_r3 : ∀ w ∈ wsX6_isStatement_r3, w ∈ wsX6_isStatement := fun _ h => List.mem_cons_of_mem _ (List.mem_append_left _ (List.mem_append_right _ (List.mem_append_right _ (h))))
theorem ggX6_isStatement_X6_isPersonStatement : GoodIn wsX6_isStatement wsX6_isPersonStatement := goodIn_sub (List.forall_mem_cons.mpr ⟨(pl_wsX6_isStatement_wsX6_isStatement_r2 _ (List.mem_of_getElem? (i := 10) rfl)), (fun w h => (List.mem_append.mp h).elim ((fun w h => (List.mem_append.mp h).elim ((List.forall_mem_cons.mpr ⟨(pl_wsX6_isStatement_wsX6_isStatement_r2 _ (List.mem_of_getElem? (i := 11) rfl)), List.forall_mem_cons.mpr ⟨(pl_wsX6_isStatement_wsX6_isStatement_r2 _ (List.mem_of_getElem? (i := 12) rfl)), List.forall_mem_cons.mpr ⟨(pl_wsX6_isStatement_wsX6_isStatement_r2 _ (List.mem_of_getElem? (i := 13) rfl)), List.forall_mem_cons.mpr ⟨(pl_wsX6_isStatement_wsX6_isStatement_r1 _ (List.mem_of_getElem? (i := 4) rfl)), List.forall_mem_cons.mpr ⟨(pl_wsX6_isStatement_wsX6_isStatement_r2 _ (List.mem_of_getElem? (i := 14) rfl)), List.forall_mem_cons.mpr ⟨(pl_wsX6_isStatement_wsX6_isStatement_r1 _ (List.mem_of_getElem? (i := 10) rfl)), List.forall_mem_cons.mpr ⟨(pl_wsX6_isStatement_wsX6_isStatement_r1 _ (List.mem_of_getElem? (i := 6) rfl)), List.forall_mem_cons.mpr ⟨(pl_wsX6_isStatement_wsX6_isStatement_r1 _ (List.mem_of_getElem? (i := 9) rfl)), List.forall_mem_cons.mpr ⟨(pl_wsX6_isStatement_wsX6_isStatement_r1 _ (List.mem_of_getElem? (i := 8) rfl)), List.forall_mem_cons.mpr ⟨(pl_wsX6_isStatement_wsX6_isStatement_r1 _ (List.mem_of_getElem? (i := 1) rfl)), List.forall_mem_cons.mpr ⟨(pl_wsX6_isStatement_wsX6_isStatement_r1 _ (List.mem_of_getElem? (i := 2) rfl)), List.forall_mem_cons.mpr ⟨(pl_wsX6_isStatement_wsX6_isStatement_r1 _ (List.mem_of_getElem? (i := 3) rfl)), List.forall_mem_cons.mpr ⟨(pl_wsX6_isStatement_wsX6_isStatement_r1 _ (List.mem_of_getElem? (i := 5) rfl)), List.forall_mem_cons.mpr ⟨(pl_wsX6_isStatement_wsX6_isStatement_r1 _ (List.mem_of_getElem? (i := 7) rfl)), List.forall_mem_cons.mpr ⟨(pl_wsX6_isStatement_wsX6_isStatement_r1 _ (List.mem_of_getElem? (i := 11) rfl)), List.forall_mem_cons.mpr ⟨(pl_wsX6_isStatement_wsX6_isStatement_r1 _ (List.mem_of_getElem? (i := 12) rfl)), List.forall_mem_cons.mpr ⟨(pl_wsX6_isStatement_wsX6_isStatement_r1 _ (List.mem_of_getElem? (i := 13) rfl)), List.forall_mem_cons.mpr ⟨(pl_wsX6_isStatement_wsX6_isStatement_r1 _ (List.mem_of_getElem? (i := 14) rfl)), List.forall_mem_cons.mpr ⟨(pl_wsX6_isStatement_wsX6_isStatement_r1 _ (List.mem_of_getElem? (i := 15) rfl)), List.forall_mem_cons.mpr ⟨(pl_wsX6_isStatement_wsX6_isStatement_r1 _ (List.mem_of_getElem? (i := 16) rfl)), List.forall_mem_cons.mpr ⟨(pl_wsX6_isStatement_wsX6_isStatement_r1 _ (List.mem_of_getElem? (i := 17) rfl)), List.forall_mem_cons.mpr ⟨(pl_wsX6_isStatement_wsX6_isStatement_r1 _ (List.mem_of_getElem? (i := 18) rfl)), List.forall_mem_cons.mpr ⟨(pl_wsX6_isStatement_wsX6_isStatement_r1 _ (List.mem_of_getElem? (i := 19) rfl)), List.forall_mem_cons.mpr ⟨(pl_wsX6_isStatement_wsX6_isStatement_r1 _ (List.mem_of_getElem? (i := 20) rfl)), fun _ h => absurd h List.not_mem_nil⟩⟩⟩⟩⟩⟩⟩⟩⟩⟩⟩⟩⟩⟩⟩⟩⟩⟩⟩⟩⟩⟩⟩⟩) w) ((List.forall_mem_cons.mpr ⟨(pl_wsX6_isStatement_wsX6_isStatement_r1 _ (List.mem_of_getElem? (i := 21) rfl)), List.forall_mem_cons.mpr ⟨(pl_wsX6_isStatement_wsX6_isStatement_r2 _ (List.mem_of_getElem? (i := 15) rfl)), List.forall_mem_cons.mpr ⟨(pl_wsX6_isStatement_wsX6_isStatement_r2 _ (List.mem_of_getElem? (i := 16) rfl)), List.forall_mem_cons.mpr ⟨(pl_wsX6_isStatement_wsX6_isStatement_r2 _ (List.mem_of_getElem? (i := 17) rfl)), List.forall_mem_cons.mpr ⟨(pl_wsX6_isStatement_wsX6_isStatement_r2 _ (List.mem_of_getElem? (i := 18) rfl)), List.forall_mem_cons.mpr ⟨(pl_wsX6_isStatement_wsX6_isStatement_r2 _ (List.mem_of_getElem? (i := 19) rfl)), List.forall_mem_cons.mpr ⟨(pl_wsX6_isStatement_wsX6_isStatement_r2 _ (List.mem_of_getElem? (i := 20) rfl)), List.forall_mem_cons.mpr ⟨(pl_wsX6_isStatement_wsX6_isStatement_r2 _ (List.mem_of_getElem? (i := 21) rfl)), List.forall_mem_cons.mpr ⟨(pl_wsX6_isStatement_wsX6_isStatement_r2 _ (List.mem_of_getElem? (i := 22) rfl)), List.forall_mem_cons.mpr ⟨(pl_wsX6_isStatement_wsX6_isStatement_r1 _ (List.mem_of_getElem? (i := 0) rfl)), List.forall_mem_cons.mpr ⟨(pl_wsX6_isStatement_wsX6_isStatement_r2 _ (List.mem_of_getElem? (i := 23) rfl)), List.forall_mem_cons.mpr ⟨(pl_wsX6_isStatement_wsX6_isStatement_r3 _ (List.mem_of_getElem? (i := 0) rfl)), List.forall_mem_cons.mpr ⟨(pl_wsX6_isStatement_wsX6_isStatement_r3 _ (List.mem_of_getElem? (i := 1) rfl)), List.forall_mem_cons.mpr ⟨(pl_wsX6_isStatement_wsX6_isStatement_r3 _ (List.mem_of_getElem? (i := 2) rfl)), List.forall_mem_cons.mpr ⟨(pl_wsX6_isStatement_wsX6_isStatement_r3 _ (List.mem_of_getElem? (i := 3) rfl)), List.forall_mem_cons.mpr ⟨(pl_wsX6_isStatement_wsX6_isStatement_r3 _ (List.mem_of_getElem? (i := 4) rfl)), List.forall_mem_cons.mpr ⟨(pl_wsX6_isStatement_wsX6_isStatement_r3 _ (List.mem_of_getElem? (i := 5) rfl)), List.forall_mem_cons.mpr ⟨(pl_wsX6_isStatement_wsX6_isStatement_r3 _ (List.mem_of_getElem? (i := 6) rfl)), List.forall_mem_cons.mpr ⟨(pl_wsX6_isStatement_wsX6_isStatement_r3 _ (List.mem_of_getElem? (i := 7) rfl)), List.forall_mem_cons.mpr ⟨(pl_wsX6_isStatement_wsX6_isStatement_r3 _ (List.mem_of_getElem? (i := 8) rfl)), List.forall_mem_cons.mpr ⟨(pl_wsX6_isStatement_wsX6_isStatement_r3 _ (List.mem_of_getElem? (i := 9) rfl)), fun _ h => absurd h List.not_mem_nil⟩⟩⟩⟩⟩⟩⟩⟩⟩⟩⟩⟩⟩⟩⟩⟩⟩⟩⟩⟩⟩) w)) w) (pl_wsX6_isStatement_wsX60 w))⟩) (by decide +kernel)
set_option maxRecDepth 20000 in
theorem gX6_isStatement_X6_isPersonStatement : GoodIn wsX6_isStatement (wsV RX6 168 RX6 yX6_isPersonStatement wsX6_isPersonStatement) := goodIn_app (goodIn_sub (List.forall_mem_cons.mpr ⟨(pl_wsX6_isStatement_wsX6_isStatement_r2 _ (List.mem_of_getElem? (i := 7) rfl)), List.forall_mem_cons.mpr ⟨(pl_wsX6_isStatement_wsX6_isStatement_r2 _ (List.mem_of_getElem? (i := 8) rfl)), List.forall_mem_cons.mpr ⟨(pl_wsX6_isStatement_wsX6_isStatement_r2 _ (List.mem_of_getElem? (i := 9) rfl)), List.forall_mem_cons.mpr ⟨(pl_wsX6_isStatement_wsX6_isStatement_r1 _ (List.mem_of_getElem? (i := 4) rfl)), fun _ h => absurd h List.not_mem_nil⟩⟩⟩⟩) (by decide +kernel)) ggX6_isStatement_X6_isPersonStatement
set_option maxRecDepth 20000 in
theorem ggX6_isStatement_X6_cellNumber : GoodIn wsX6_isStatement wsX6_cellNumber := goodIn_sub (List.forall_mem_cons.mpr ⟨(pl_wsX6_isStatement_wsX6_isStatement_r2 _ (List.mem_of_getElem? (i := 18) rfl)), (fun w h => (List.mem_append.mp h).elim ((fun w h => (List.mem_append.mp h).elim ((List.forall_mem_cons.mpr ⟨(pl_wsX6_isStatement_wsX6_isStatement_r2 _ (List.mem_of_getElem? (i := 11) rfl)), List.forall_mem_cons.mpr ⟨(pl_wsX6_isStatement_wsX6_isStatement_r2 _ (List.mem_of_getElem? (i := 12) rfl)), List.forall_mem_cons.mpr ⟨(pl_wsX6_isStatement_wsX6_isStatement_r2 _ (List.mem_of_getElem? (i := 13) rfl)), List.forall_mem_cons.mpr ⟨(pl_wsX6_isStatement_wsX6_isStatement_r1 _ (List.mem_of_getElem? (i := 4) rfl)), List.forall_mem_cons.mpr ⟨(pl_wsX6_isStatement_wsX6_isStatement_r2 _ (List.mem_of_getElem? (i := 14) rfl)), List.forall_mem_cons.mpr ⟨(pl_wsX6_isStatement_wsX6_isStatement_r1 _ (List.mem_of_getElem? (i := 10) rfl)), List.forall_mem_cons.mpr ⟨(pl_wsX6_isStatement_wsX6_isStatement_r1 _ (List.mem_of_getElem? (i := 6) rfl)), List.forall_mem_cons.mpr ⟨(pl_wsX6_isStatement_wsX6_isStatement_r1 _ (List.mem_of_getElem? (i := 9) rfl)), List.forall_mem_cons.mpr ⟨(pl_wsX6_isStatement_wsX6_isStatement_r1 _ (List.mem_of_getElem? (i := 8) rfl)), List.forall_mem_cons.mpr ⟨(pl_wsX6_isStatement_wsX6_isStatement_r1 _ (List.mem_of_getElem? (i := 1) rfl)), List.forall_mem_cons.mpr ⟨(pl_wsX6_isStatement_wsX6_isStatement_r1 _ (List.mem_of_getElem? (i := 2) rfl)), List.forall_mem_cons.mpr ⟨(pl_wsX6_isStatement_wsX6_isStatement_r1 _ (List.mem_of_getElem? (i := 3) rfl)), List.forall_mem_cons.mpr ⟨(pl_wsX6_isStatement_wsX6_isStatement_r1 _ (List.mem_of_getElem? (i := 5) rfl)), List.forall_mem_cons.mpr ⟨(pl_wsX6_isStatement_wsX6_isStatement_r1 _ (List.mem_of_getElem? (i := 7) rfl)), List.forall_mem_cons.mpr ⟨(pl_wsX6_isStatement_wsX6_isStatement_r1 _ (List.mem_of_getElem? (i := 11) rfl)), List.forall_mem_cons.mpr ⟨(pl_wsX6_isStatement_wsX6_isStatement_r1 _ (List.mem_of_getElem? (i := 12) rfl)), List.forall_mem_cons.mpr ⟨(pl_wsX6_isStatement_wsX6_isStatement_r1 _ (List.mem_of_getElem? (i := 13) rfl)), List.forall_mem_cons.mpr ⟨(pl_wsX6_isStatement_wsX6_isStatement_r1 _ (List.mem_of_getElem? (i := 14) rfl)), List.forall_mem_cons.mpr ⟨(pl_wsX6_isStatement_wsX6_isStatement_r1 _ (List.mem_of_getElem? (i := 15) rfl)), List.forall_mem_cons.mpr ⟨(pl_wsX6_isStatement_wsX6_isStatement_r1 _ (List.mem_of_getElem? (i := 16) rfl)), List.forall_mem_cons.mpr ⟨(pl_wsX6_isStatement_wsX6_isStatement_r1 _ (List.mem_of_getElem? (i := 17) rfl)), List.forall_mem_cons.mpr ⟨(pl_wsX6_isStatement_wsX6_isStatement_r1 _ (List.mem_of_getElem? (i := 18) rfl)), List.forall_mem_cons.mpr ⟨(pl_wsX6_isStatement_wsX6_isStatement_r1 _ (List.mem_of_getElem? (i := 19) rfl)), List.forall_mem_cons.mpr ⟨(pl_wsX6_isStatement_wsX6_isStatement_r1 _ (List.mem_of_getElem? (i := 20) rfl)), fun _ h => absurd h List.not_mem_nil⟩⟩⟩⟩⟩⟩⟩⟩⟩⟩⟩⟩⟩⟩⟩⟩⟩⟩⟩⟩⟩⟩⟩⟩) w) ((List.forall_mem_cons.mpr ⟨(pl_wsX6_isStatement_wsX6_isStatement_r1 _ (List.mem_of_getElem? (i := 21) rfl)), List.forall_mem_cons.mpr ⟨(pl_wsX6_isStatement_wsX6_isStatement_r2 _ (List.mem_of_getElem? (i := 19) rfl)), List.forall_mem_cons.mpr ⟨(pl_wsX6_isStatement_wsX6_isStatement_r2 _ (List.mem_of_getElem? (i := 20) rfl)), List.forall_mem_cons.mpr ⟨(pl_wsX6_isStatement_wsX6_isStatement_r2 _ (List.mem_of_getElem? (i := 21) rfl)), List.forall_mem_cons.mpr ⟨(pl_wsX6_isStatement_wsX6_isStatement_r2 _ (List.mem_of_getElem? (i := 22) rfl)), List.forall_mem_cons.mpr ⟨(pl_wsX6_isStatement_wsX6_isStatement_r1 _ (List.mem_of_getElem? (i := 0) rfl)), fun _ h => absurd h List.not_mem_nil⟩⟩⟩⟩⟩⟩) w)) w) (pl_wsX6_isStatement_wsX60 w))⟩) (by decide +kernel)
set_option maxRecDepth 20000 in
theorem gX6_isStatement_X6_cellNumber : GoodIn wsX6_isStatement (wsV RX6 162 RX6 yX6_cellNumber wsX6_cellNumber) := goodIn_app (goodIn_sub (List.forall_mem_cons.mpr ⟨(pl_wsX6_isStatement_wsX6_isStatement_r2 _ (List.mem_of_getElem? (i := 15) rfl)), List.forall_mem_cons.mpr ⟨(pl_wsX6_isStatement_wsX6_isStatement_r2 _ (List.mem_of_getElem? (i := 16) rfl)), List.forall_mem_cons.mpr ⟨(pl_wsX6_isStatement_wsX6_isStatement_r2 _ (List.mem_of_getElem? (i := 17) rfl)), List.forall_mem_cons.mpr ⟨(pl_wsX6_isStatement_wsX6_isStatement_r1 _ (List.mem_of_getElem? (i := 4) rfl)), fun _ h => absurd h List.not_mem_nil⟩⟩⟩⟩) (by decide +kernel)) ggX6_isStatement_X6_cellNumber
set_option maxRecDepth 20000 in
theorem ggX6_isStatement_X6_isSomebody : GoodIn wsX6_isStatement wsX6_isSomebody := goodIn_sub (List.forall_mem_cons.mpr ⟨(pl_wsX6_isStatement_wsX6_isStatement_r3 _ (List.mem_of_getElem? (i := 13) rfl)), (fun w h => (List.mem_append.mp h).elim ((List.forall_mem_cons.mpr ⟨(pl_wsX6_isStatement_wsX6_isStatement_r2 _ (List.mem_of_getElem? (i := 3) rfl)), List.forall_mem_cons.mpr ⟨(pl_wsX6_isStatement_wsX6_isStatement_r2 _ (List.mem_of_getElem? (i := 4) rfl)), List.forall_mem_cons.mpr ⟨(pl_wsX6_isStatement_wsX6_isStatement_r2 _ (List.mem_of_getElem? (i := 5) rfl)), List.forall_mem_cons.mpr ⟨(pl_wsX6_isStatement_wsX6_isStatement_r1 _ (List.mem_of_getElem? (i := 4) rfl)), List.forall_mem_cons.mpr ⟨(pl_wsX6_isStatement_wsX6_isStatement_r2 _ (List.mem_of_getElem? (i := 6) rfl)), List.forall_mem_cons.mpr ⟨(pl_wsX6_isStatement_wsX6_isStatement_r1 _ (List.mem_of_getElem? (i := 0) rfl)), List.forall_mem_cons.mpr ⟨(pl_wsX6_isStatement_wsX6_isStatement_r3 _ (List.mem_of_getElem? (i := 14) rfl)), List.forall_mem_cons.mpr ⟨(pl_wsX6_isStatement_wsX6_isStatement_r3 _ (List.mem_of_getElem? (i := 15) rfl)), List.forall_mem_cons.mpr ⟨(pl_wsX6_isStatement_wsX6_isStatement_r3 _ (List.mem_of_getElem? (i := 16) rfl)), List.forall_mem_cons.mpr ⟨(pl_wsX6_isStatement_wsX6_isStatement_r3 _ (List.mem_of_getElem? (i := 17) rfl)), fun _ h => absurd h List.not_mem_nil⟩⟩⟩⟩⟩⟩⟩⟩⟩⟩) w) (pl_wsX6_isStatement_wsX60 w))⟩) (by decide +kernel)
set_option maxRecDepth 20000 in
theorem gX6_isStatement_X6_isSomebody : GoodIn wsX6_isStatement (wsV RX6 107 RX6 yX6_isSomebody wsX6_isSomebody) := goodIn_app (goodIn_sub (List.forall_mem_cons.mpr ⟨(pl_wsX6_isStatement_wsX6_isStatement_r3 _ (List.mem_of_getElem? (i := 10) rfl)), List.forall_mem_cons.mpr ⟨(pl_wsX6_isStatement_wsX6_isStatement_r3 _ (List.mem_of_getElem? (i := 11) rfl)), List.forall_mem_cons.mpr ⟨(pl_wsX6_isStatement_wsX6_isStatement_r3 _ (List.mem_of_getElem? (i := 12) rfl)), List.forall_mem_cons.mpr ⟨(pl_wsX6_isStatement_wsX6_isStatement_r1 _ (List.mem_of_getElem? (i := 4) rfl)), fun _ h => absurd h List.not_mem_nil⟩⟩⟩⟩) (by decide +kernel)) ggX6_isStatement_X6_isSomebody
set_option maxRecDepth 20000 in
theorem ggX6_isStatement_X6_pondAt : GoodIn wsX6_isStatement wsX6_pondAt := goodIn_sub (List.forall_mem_cons.mpr ⟨(pl_wsX6_isStatement_wsX6_isStatement_r3 _ (List.mem_of_getElem? (i := 5) rfl)), (fun _ h => absurd h List.not_mem_nil)⟩) (by decide +kernel)
set_option maxRecDepth 20000 in
theorem gX6_isStatement_X6_pondAt : GoodIn wsX6_isStatement (va_wsS RX6 80 yX6_pondAt wsX6_pondAt) := goodIn_app (goodIn_sub (List.forall_mem_cons.mpr ⟨(pl_wsX6_isStatement_wsX6_isStatement_r3 _ (List.mem_of_getElem? (i := 3) rfl)), List.forall_mem_cons.mpr ⟨(pl_wsX6_isStatement_wsX6_isStatement_r3 _ (List.mem_of_getElem? (i := 4) rfl)), List.forall_mem_cons.mpr ⟨(pl_wsX6_isStatement_wsX6_isStatement_r1 _ (List.mem_of_getElem? (i := 4) rfl)), fun _ h => absurd h List.not_mem_nil⟩⟩⟩) (by decide +kernel)) ggX6_isStatement_X6_pondAt
set_option maxRecDepth 20000 in
theorem ggX6_isStatement_X6_number : GoodIn wsX6_isStatement wsX6_number := goodIn_sub (List.forall_mem_cons.mpr ⟨(pl_wsX6_isStatement_wsX6_isStatement_r2 _ (List.mem_of_getElem? (i := 14) rfl)), (fun w h => (List.mem_append.mp h).elim ((List.forall_mem_cons.mpr ⟨(pl_wsX6_isStatement_wsX6_isStatement_r1 _ (List.mem_of_getElem? (i := 10) rfl)), List.forall_mem_cons.mpr ⟨(pl_wsX6_isStatement_wsX6_isStatement_r1 _ (List.mem_of_getElem? (i := 6) rfl)), List.forall_mem_cons.mpr ⟨(pl_wsX6_isStatement_wsX6_isStatement_r1 _ (List.mem_of_getElem? (i := 9) rfl)), List.forall_mem_cons.mpr ⟨(pl_wsX6_isStatement_wsX6_isStatement_r1 _ (List.mem_of_getElem? (i := 8) rfl)), List.forall_mem_cons.mpr ⟨(pl_wsX6_isStatement_wsX6_isStatement_r1 _ (List.mem_of_getElem? (i := 1) rfl)), List.forall_mem_cons.mpr ⟨(pl_wsX6_isStatement_wsX6_isStatement_r1 _ (List.mem_of_getElem? (i := 2) rfl)), List.forall_mem_cons.mpr ⟨(pl_wsX6_isStatement_wsX6_isStatement_r1 _ (List.mem_of_getElem? (i := 3) rfl)), List.forall_mem_cons.mpr ⟨(pl_wsX6_isStatement_wsX6_isStatement_r1 _ (List.mem_of_getElem? (i := 4) rfl)), List.forall_mem_cons.mpr ⟨(pl_wsX6_isStatement_wsX6_isStatement_r1 _ (List.mem_of_getElem? (i := 5) rfl)), List.forall_mem_cons.mpr ⟨(pl_wsX6_isStatement_wsX6_isStatement_r1 _ (List.mem_of_getElem? (i := 7) rfl)), List.forall_mem_cons.mpr ⟨(pl_wsX6_isStatement_wsX6_isStatement_r1 _ (List.mem_of_getElem? (i := 11) rfl)), List.forall_mem_cons.mpr ⟨(pl_wsX6_isStatement_wsX6_isStatement_r1 _ (List.mem_of_getElem? (i := 12) rfl)), List.forall_mem_cons.mpr ⟨(pl_wsX6_isStatement_wsX6_isStatement_r1 _ (List.mem_of_getElem? (i := 13) rfl)), List.forall_mem_cons.mpr ⟨(pl_wsX6_isStatement_wsX6_isStatement_r1 _ (List.mem_of_getElem? (i := 14) rfl)), List.forall_mem_cons.mpr ⟨(pl_wsX6_isStatement_wsX6_isStatement_r1 _ (List.mem_of_getElem? (i := 15) rfl)), List.forall_mem_cons.mpr ⟨(pl_wsX6_isStatement_wsX6_isStatement_r1 _ (List.mem_of_getElem? (i := 16) rfl)), List.forall_mem_cons.mpr ⟨(pl_wsX6_isStatement_wsX6_isStatement_r1 _ (List.mem_of_getElem? (i := 17) rfl)), List.forall_mem_cons.mpr ⟨(pl_wsX6_isStatement_wsX6_isStatement_r1 _ (List.mem_of_getElem? (i := 18) rfl)), List.forall_mem_cons.mpr ⟨(pl_wsX6_isStatement_wsX6_isStatement_r1 _ (List.mem_of_getElem? (i := 19) rfl)), List.forall_mem_cons.mpr ⟨(pl_wsX6_isStatement_wsX6_isStatement_r1 _ (List.mem_of_getElem? (i := 20) rfl)), List.forall_mem_cons.mpr ⟨(pl_wsX6_isStatement_wsX6_isStatement_r1 _ (List.mem_of_getElem? (i := 21) rfl)), fun _ h => absurd h List.not_mem_nil⟩⟩⟩⟩⟩⟩⟩⟩⟩⟩⟩⟩⟩⟩⟩⟩⟩⟩⟩⟩⟩) w) (pl_wsX6_isStatement_wsX60 w))⟩) (by decide +kernel)
set_option maxRecDepth 20000 in
theorem gX6_isStatement_X6_number : GoodIn wsX6_isStatement (wsV RX6 159 RX6 yX6_number wsX6_number) := goodIn_app (goodIn_sub (List.forall_mem_cons.mpr ⟨(pl_wsX6_isStatement_wsX6_isStatement_r2 _ (List.mem_of_getElem? (i := 11) rfl)), List.forall_mem_cons.mpr ⟨(pl_wsX6_isStatement_wsX6_isStatement_r2 _ (List.mem_of_getElem? (i := 12) rfl)), List.forall_mem_cons.mpr ⟨(pl_wsX6_isStatement_wsX6_isStatement_r2 _ (List.mem_of_getElem? (i := 13) rfl)), List.forall_mem_cons.mpr ⟨(pl_wsX6_isStatement_wsX6_isStatement_r1 _ (List.mem_of_getElem? (i := 4) rfl)), fun _ h => absurd h List.not_mem_nil⟩⟩⟩⟩) (by decide +kernel)) ggX6_isStatement_X6_number
theorem dX6_isStatement_0 : decode cX6_isStatement 0 = .ok (.aload_n 0, 1) := by decide +kernel
theorem dX6_isStatement_1 : decode cX6_isStatement 1 = .ok (.invokevirtual 156, 3) := by decide +kernel
theorem dX6_isStatement_4 : decode cX6_isStatement 4 = .ok (.aload_n 0, 1) := by decide +kernel
theorem dX6_isStatement_5 : decode cX6_isStatement 5 = .ok (.invokevirtual 165, 3) := by decide +kernel
theorem dX6_isStatement_8 : decode cX6_isStatement 8 = .ok (.istore_n 1, 1) := by decide +kernel
theorem dX6_isStatement_9 : decode cX6_isStatement 9 = .ok (.iload_n 1, 1) := by decide +kernel
theorem dX6_isStatement_10 : decode cX6_isStatement 10 = .ok (.iconst (-1), 1) := by decide +kernel
theorem dX6_isStatement_11 : decode cX6_isStatement 11 = .ok (.if_icmp .eq 17, 3) := by decide +kernel
theorem dX6_isStatement_14 : decode cX6_isStatement 14 = .ok (.iload_n 1, 1) := by decide +kernel
theorem dX6_isStatement_15 : decode cX6_isStatement 15 = .ok (.iconst 3, 1) := by decide +kernel
theorem dX6_isStatement_16 : decode cX6_isStatement 16 = .ok (.if_icmp .ne 14, 3) := by decide +kernel
theorem dX6_isStatement_19 : decode cX6_isStatement 19 = .ok (.aload_n 0, 1) := by decide +kernel
theorem dX6_isStatement_20 : decode cX6_isStatement 20 = .ok (.invokevirtual 84, 3) := by decide +kernel
theorem dX6_isStatement_23 : decode cX6_isStatement 23 = .ok (.bipush 8, 2) := by decide +kernel
theorem dX6_isStatement_25 : decode cX6_isStatement 25 = .ok (.if_icmp .ne 5, 3) := by decide +kernel
theorem dX6_isStatement_28 : decode cX6_isStatement 28 = .ok (.iconst 0, 1) := by decide +kernel
theorem dX6_isStatement_29 : decode cX6_isStatement 29 = .ok (.ireturn, 1) := by decide +kernel
theorem dX6_isStatement_30 : decode cX6_isStatement 30 = .ok (.iload_n 1, 1) := by decide +kernel
theorem dX6_isStatement_31 : decode cX6_isStatement 31 = .ok (.iconst 3, 1) := by decide +kernel
theorem dX6_isStatement_32 : decode cX6_isStatement 32 = .ok (.if_icmp .ne 8, 3) := by decide +kernel
theorem dX6_isStatement_35 : decode cX6_isStatement 35 = .ok (.aload_n 0, 1) := by decide +kernel
theorem dX6_isStatement_36 : decode cX6_isStatement 36 = .ok (.invokevirtual 168, 3) := by decide +kernel
theorem dX6_isStatement_39 : decode cX6_isStatement 39 = .ok (.ireturn, 1) := by decide +kernel
theorem dX6_isStatement_40 : decode cX6_isStatement 40 = .ok (.iload_n 1, 1) := by decide +kernel
theorem dX6_isStatement_41 : decode cX6_isStatement 41 = .ok (.iconst 1, 1) := by decide +kernel
theorem dX6_isStatement_42 : decode cX6_isStatement 42 = .ok (.if_icmp .eq 8, 3) := by decide +kernel
theorem dX6_isStatement_45 : decode cX6_isStatement 45 = .ok (.iload_n 1, 1) := by decide +kernel
theorem dX6_isStatement_46 : decode cX6_isStatement 46 = .ok (.iconst 2, 1) := by decide +kernel
theorem dX6_isStatement_47 : decode cX6_isStatement 47 = .ok (.if_icmp .ne 42, 3) := by decide +kernel
theorem dX6_isStatement_50 : decode cX6_isStatement 50 = .ok (.aload_n 0, 1) := by decide +kernel
theorem dX6_isStatement_51 : decode cX6_isStatement 51 = .ok (.invokevirtual 162, 3) := by decide +kernel
theorem dX6_isStatement_54 : decode cX6_isStatement 54 = .ok (.istore_n 2, 1) := by decide +kernel
theorem dX6_isStatement_55 : decode cX6_isStatement 55 = .ok (.iload_n 2, 1) := by decide +kernel
theorem dX6_isStatement_56 : decode cX6_isStatement 56 = .ok (.iconst (-1), 1) := by decide +kernel
theorem dX6_isStatement_57 : decode cX6_isStatement 57 = .ok (.if_icmp .eq 16, 3) := by decide +kernel
theorem dX6_isStatement_60 : decode cX6_isStatement 60 = .ok (.iload_n 1, 1) := by decide +kernel
theorem dX6_isStatement_61 : decode cX6_isStatement 61 = .ok (.iconst 1, 1) := by decide +kernel
theorem dX6_isStatement_62 : decode cX6_isStatement 62 = .ok (.if_icmp .ne 13, 3) := by decide +kernel
theorem dX6_isStatement_65 : decode cX6_isStatement 65 = .ok (.aload_n 0, 1) := by decide +kernel
theorem dX6_isStatement_66 : decode cX6_isStatement 66 = .ok (.iload_n 2, 1) := by decide +kernel
theorem dX6_isStatement_67 : decode cX6_isStatement 67 = .ok (.invokevirtual 107, 3) := by decide +kernel
theorem dX6_isStatement_70 : decode cX6_isStatement 70 = .ok (.ifCond .eq 5, 3) := by decide +kernel
theorem dX6_isStatement_73 : decode cX6_isStatement 73 = .ok (.iconst 0, 1) := by decide +kernel
theorem dX6_isStatement_74 : decode cX6_isStatement 74 = .ok (.ireturn, 1) := by decide +kernel
theorem dX6_isStatement_75 : decode cX6_isStatement 75 = .ok (.aload_n 0, 1) := by decide +kernel
theorem dX6_isStatement_76 : decode cX6_isStatement 76 = .ok (.getfield 17, 3) := by decide +kernel
theorem dX6_isStatement_79 : decode cX6_isStatement 79 = .ok (.iload_n 2, 1) := by decide +kernel
theorem dX6_isStatement_80 : decode cX6_isStatement 80 = .ok (.invokestatic 80, 3) := by decide +kernel
theorem dX6_isStatement_83 : decode cX6_isStatement 83 = .ok (.iconst 2, 1) := by decide +kernel
theorem dX6_isStatement_84 : decode cX6_isStatement 84 = .ok (.iload_n 1, 1) := by decide +kernel
theorem dX6_isStatement_85 : decode cX6_isStatement 85 = .ok (.isub, 1) := by decide +kernel
theorem dX6_isStatement_86 : decode cX6_isStatement 86 = .ok (.iastore, 1) := by decide +kernel
theorem dX6_isStatement_87 : decode cX6_isStatement 87 = .ok (.iconst 1, 1) := by decide +kernel
theorem dX6_isStatement_88 : decode cX6_isStatement 88 = .ok (.ireturn, 1) := by decide +kernel
theorem dX6_isStatement_89 : decode cX6_isStatement 89 = .ok (.iload_n 1, 1) := by decide +kernel
theorem dX6_isStatement_90 : decode cX6_isStatement 90 = .ok (.ifCond .ne 8, 3) := by decide +kernel
theorem dX6_isStatement_93 : decode cX6_isStatement 93 = .ok (.bipush 90, 2) := by decide +kernel
theorem dX6_isStatement_95 : decode cX6_isStatement 95 = .ok (.goto 9, 3) := by decide +kernel
theorem dX6_isStatement_98 : decode cX6_isStatement 98 = .ok (.bipush 91, 2) := by decide +kernel
theorem dX6_isStatement_100 : decode cX6_isStatement 100 = .ok (.iload_n 1, 1) := by decide +kernel
theorem dX6_isStatement_101 : decode cX6_isStatement 101 = .ok (.iadd, 1) := by decide +kernel
theorem dX6_isStatement_102 : decode cX6_isStatement 102 = .ok (.iconst 5, 1) := by decide +kernel
theorem dX6_isStatement_103 : decode cX6_isStatement 103 = .ok (.isub, 1) := by decide +kernel
theorem dX6_isStatement_104 : decode cX6_isStatement 104 = .ok (.istore_n 2, 1) := by decide +kernel
theorem dX6_isStatement_105 : decode cX6_isStatement 105 = .ok (.iload_n 1, 1) := by decide +kernel
theorem dX6_isStatement_106 : decode cX6_isStatement 106 = .ok (.iconst 4, 1) := by decide +kernel
theorem dX6_isStatement_107 : decode cX6_isStatement 107 = .ok (.if_icmp .ne 28, 3) := by decide +kernel
theorem dX6_isStatement_110 : decode cX6_isStatement 110 = .ok (.aload_n 0, 1) := by decide +kernel
theorem dX6_isStatement_111 : decode cX6_isStatement 111 = .ok (.iconst 0, 1) := by decide +kernel
theorem dX6_isStatement_112 : decode cX6_isStatement 112 = .ok (.aload_n 0, 1) := by decide +kernel
theorem dX6_isStatement_113 : decode cX6_isStatement 113 = .ok (.invokevirtual 84, 3) := by decide +kernel
theorem dX6_isStatement_116 : decode cX6_isStatement 116 = .ok (.iconst 1, 1) := by decide +kernel
theorem dX6_isStatement_117 : decode cX6_isStatement 117 = .ok (.isub, 1) := by decide +kernel
theorem dX6_isStatement_118 : decode cX6_isStatement 118 = .ok (.invokevirtual 159, 3) := by decide +kernel
theorem dX6_isStatement_121 : decode cX6_isStatement 121 = .ok (.istore_n 3, 1) := by decide +kernel
theorem dX6_isStatement_122 : decode cX6_isStatement 122 = .ok (.iload_n 3, 1) := by decide +kernel
theorem dX6_isStatement_123 : decode cX6_isStatement 123 = .ok (.iconst (-1), 1) := by decide +kernel
theorem dX6_isStatement_124 : decode cX6_isStatement 124 = .ok (.if_icmp .ne 5, 3) := by decide +kernel
theorem dX6_isStatement_127 : decode cX6_isStatement 127 = .ok (.iconst 0, 1) := by decide +kernel
theorem dX6_isStatement_128 : decode cX6_isStatement 128 = .ok (.ireturn, 1) := by decide +kernel
theorem dX6_isStatement_129 : decode cX6_isStatement 129 = .ok (.iconst 5, 1) := by decide +kernel
theorem dX6_isStatement_130 : decode cX6_isStatement 130 = .ok (.iload_n 3, 1) := by decide +kernel
theorem dX6_isStatement_131 : decode cX6_isStatement 131 = .ok (.imul, 1) := by decide +kernel
theorem dX6_isStatement_132 : decode cX6_isStatement 132 = .ok (.iconst 4, 1) := by decide +kernel
theorem dX6_isStatement_133 : decode cX6_isStatement 133 = .ok (.iadd, 1) := by decide +kernel
theorem dX6_isStatement_134 : decode cX6_isStatement 134 = .ok (.istore_n 2, 1) := by decide +kernel
theorem dX6_isStatement_135 : decode cX6_isStatement 135 = .ok (.aload_n 0, 1) := by decide +kernel
theorem dX6_isStatement_136 : decode cX6_isStatement 136 = .ok (.iload_n 1, 1) := by decide +kernel
theorem dX6_isStatement_137 : decode cX6_isStatement 137 = .ok (.ifCond .ne 13, 3) := by decide +kernel
theorem dX6_isStatement_140 : decode cX6_isStatement 140 = .ok (.aload_n 0, 1) := by decide +kernel
theorem dX6_isStatement_141 : decode cX6_isStatement 141 = .ok (.getfield 17, 3) := by decide +kernel
theorem dX6_isStatement_144 : decode cX6_isStatement 144 = .ok (.bipush 90, 2) := by decide +kernel
theorem dX6_isStatement_146 : decode cX6_isStatement 146 = .ok (.iaload, 1) := by decide +kernel
theorem dX6_isStatement_147 : decode cX6_isStatement 147 = .ok (.goto 4, 3) := by decide +kernel
theorem dX6_isStatement_150 : decode cX6_isStatement 150 = .ok (.iconst 0, 1) := by decide +kernel
theorem dX6_isStatement_151 : decode cX6_isStatement 151 = .ok (.iload_n 1, 1) := by decide +kernel
theorem dX6_isStatement_152 : decode cX6_isStatement 152 = .ok (.ifCond .ne 8, 3) := by decide +kernel
theorem dX6_isStatement_155 : decode cX6_isStatement 155 = .ok (.bipush 7, 2) := by decide +kernel
theorem dX6_isStatement_157 : decode cX6_isStatement 157 = .ok (.goto 15, 3) := by decide +kernel
theorem dX6_isStatement_160 : decode cX6_isStatement 160 = .ok (.iload_n 1, 1) := by decide +kernel
theorem dX6_isStatement_161 : decode cX6_isStatement 161 = .ok (.bipush 7, 2) := by decide +kernel
theorem dX6_isStatement_163 : decode cX6_isStatement 163 = .ok (.if_icmp .ne 8, 3) := by decide +kernel
theorem dX6_isStatement_166 : decode cX6_isStatement 166 = .ok (.bipush 12, 2) := by decide +kernel
theorem dX6_isStatement_168 : decode cX6_isStatement 168 = .ok (.goto 4, 3) := by decide +kernel
theorem dX6_isStatement_171 : decode cX6_isStatement 171 = .ok (.iconst 1, 1) := by decide +kernel
theorem dX6_isStatement_172 : decode cX6_isStatement 172 = .ok (.invokevirtual 159, 3) := by decide +kernel
theorem dX6_isStatement_175 : decode cX6_isStatement 175 = .ok (.istore_n 3, 1) := by decide +kernel
theorem dX6_isStatement_176 : decode cX6_isStatement 176 = .ok (.iload_n 3, 1) := by decide +kernel
theorem dX6_isStatement_177 : decode cX6_isStatement 177 = .ok (.iconst (-1), 1) := by decide +kernel
theorem dX6_isStatement_178 : decode cX6_isStatement 178 = .ok (.if_icmp .ne 5, 3) := by decide +kernel
theorem dX6_isStatement_181 : decode cX6_isStatement 181 = .ok (.iconst 0, 1) := by decide +kernel
theorem dX6_isStatement_182 : decode cX6_isStatement 182 = .ok (.ireturn, 1) := by decide +kernel
theorem dX6_isStatement_183 : decode cX6_isStatement 183 = .ok (.aload_n 0, 1) := by decide +kernel
theorem dX6_isStatement_184 : decode cX6_isStatement 184 = .ok (.getfield 17, 3) := by decide +kernel
theorem dX6_isStatement_187 : decode cX6_isStatement 187 = .ok (.iload_n 2, 1) := by decide +kernel
theorem dX6_isStatement_188 : decode cX6_isStatement 188 = .ok (.iload_n 3, 1) := by decide +kernel
theorem dX6_isStatement_189 : decode cX6_isStatement 189 = .ok (.iastore, 1) := by decide +kernel
theorem dX6_isStatement_190 : decode cX6_isStatement 190 = .ok (.iconst 1, 1) := by decide +kernel
theorem dX6_isStatement_191 : decode cX6_isStatement 191 = .ok (.ireturn, 1) := by decide +kernel
set_option maxRecDepth 20000 in
theorem pl_wsX6_island_wsX6_island_r1 : ∀ w ∈ wsX6_island_r1, w ∈ wsX6_island := fun _ h => List.mem_cons_of_mem _ (List.mem_append_left _ (List.mem_append_left _ (h)))
theorem ggX6_island_X6_move : GoodIn wsX6_island wsX6_move := goodIn_sub (List.forall_mem_cons.mpr ⟨(pl_wsX6_island_wsX6_island_r1 _ (List.mem_of_getElem? (i := 9) rfl)), (fun _ h => absurd h List.not_mem_nil)⟩) (by decide +kernel)
set_option maxRecDepth 20000 in
theorem gX6_island_X6_move : GoodIn wsX6_island (va_wsS RX6 172 yX6_move wsX6_move) := goodIn_app (goodIn_sub (List.forall_mem_cons.mpr ⟨(pl_wsX6_island_wsX6_island_r1 _ (List.mem_of_getElem? (i := 6) rfl)), List.forall_mem_cons.mpr ⟨(pl_wsX6_island_wsX6_island_r1 _ (List.mem_of_getElem? (i := 7) rfl)), List.forall_mem_cons.mpr ⟨(pl_wsX6_island_wsX6_island_r1 _ (List.mem_of_getElem? (i := 8) rfl)), fun _ h => absurd h List.not_mem_nil⟩⟩⟩) (by decide +kernel)) ggX6_island_X6_move
set_option maxRecDepth 20000 in
theorem pl_wsX6_island_wsX6_island_r2 : ∀ w ∈ wsX6_island_r2, w ∈ wsX6_island := fun _ h => List.mem_cons_of_mem _ (List.mem_append_left _ (List.mem_append_right _ (List.mem_append_left _ (h))))
theorem pl_wsX6_island_wsX6_island_r3 : ∀ w ∈ wsX6_island_r3, w ∈ wsX6_island := fun _ h => List.mem_cons_of_mem _ (List.mem_append_left _ (List.mem_append_right _ (List.mem_append_right _ (List.mem_append_left _ (h)))))
theorem pl_wsX6_island_wsX6_island_r4 : ∀ w ∈ wsX6_island_r4, w ∈ wsX6_island := fun _ h => List.mem_cons_of_mem _ (List.mem_append_left _ (List.mem_append_right _ (List.mem_append_right _ (List.mem_append_right _ (h)))))
theorem pl_wsX6_island_wsX60 : ∀ w ∈ wsX60, w ∈ wsX6_island := fun _ h => List.mem_cons_of_mem _ (List.mem_append_right _ (h))
theorem ggX6_island_X6_isStatement : GoodIn wsX6_island wsX6_isStatement := goodIn_sub (List.forall_mem_cons.mpr ⟨(pl_wsX6_island_wsX6_island_r1 _ (List.mem_of_getElem? (i := 13) rfl)), (fun w h => (List.mem_append.mp h).elim ((fun w h => (List.mem_append.mp h).elim ((List.forall_mem_cons.mpr ⟨(pl_wsX6_island_wsX6_island_r1 _ (List.mem_of_getElem? (i := 0) rfl)), List.forall_mem_cons.mpr ⟨(pl_wsX6_island_wsX6_island_r1 _ (List.mem_of_getElem? (i := 14) rfl)), List.forall_mem_cons.mpr ⟨(pl_wsX6_island_wsX6_island_r1 _ (List.mem_of_getElem? (i := 15) rfl)), List.forall_mem_cons.mpr ⟨(pl_wsX6_island_wsX6_island_r1 _ (List.mem_of_getElem? (i := 16) rfl)), List.forall_mem_cons.mpr ⟨(pl_wsX6_island_wsX6_island_r1 _ (List.mem_of_getElem? (i := 8) rfl)), List.forall_mem_cons.mpr ⟨(pl_wsX6_island_wsX6_island_r1 _ (List.mem_of_getElem? (i := 17) rfl)), List.forall_mem_cons.mpr ⟨(pl_wsX6_island_wsX6_island_r1 _ (List.mem_of_getElem? (i := 2) rfl)), List.forall_mem_cons.mpr ⟨(pl_wsX6_island_wsX6_island_r1 _ (List.mem_of_getElem? (i := 4) rfl)), List.forall_mem_cons.mpr ⟨(pl_wsX6_island_wsX6_island_r1 _ (List.mem_of_getElem? (i := 18) rfl)), List.forall_mem_cons.mpr ⟨(pl_wsX6_island_wsX6_island_r1 _ (List.mem_of_getElem? (i := 5) rfl)), List.forall_mem_cons.mpr ⟨(pl_wsX6_island_wsX6_island_r1 _ (List.mem_of_getElem? (i := 3) rfl)), List.forall_mem_cons.mpr ⟨(pl_wsX6_island_wsX6_island_r1 _ (List.mem_of_getElem? (i := 19) rfl)), List.forall_mem_cons.mpr ⟨(pl_wsX6_island_wsX6_island_r1 _ (List.mem_of_getElem? (i := 20) rfl)), List.forall_mem_cons.mpr ⟨(pl_wsX6_island_wsX6_island_r1 _ (List.mem_of_getElem? (i := 21) rfl)), List.forall_mem_cons.mpr ⟨(pl_wsX6_island_wsX6_island_r1 _ (List.mem_of_getElem? (i := 22) rfl)), List.forall_mem_cons.mpr ⟨(pl_wsX6_island_wsX6_island_r1 _ (List.mem_of_getElem? (i := 23) rfl)), List.forall_mem_cons.mpr ⟨(pl_wsX6_island_wsX6_island_r2 _ (List.mem_of_getElem? (i := 0) rfl)), List.forall_mem_cons.mpr ⟨(pl_wsX6_island_wsX6_island_r2 _ (List.mem_of_getElem? (i := 1) rfl)), List.forall_mem_cons.mpr ⟨(pl_wsX6_island_wsX6_island_r2 _ (List.mem_of_getElem? (i := 2) rfl)), List.forall_mem_cons.mpr ⟨(pl_wsX6_island_wsX6_island_r2 _ (List.mem_of_getElem? (i := 3) rfl)), List.forall_mem_cons.mpr ⟨(pl_wsX6_island_wsX6_island_r2 _ (List.mem_of_getElem? (i := 4) rfl)), List.forall_mem_cons.mpr ⟨(pl_wsX6_island_wsX6_island_r2 _ (List.mem_of_getElem? (i := 5) rfl)), List.forall_mem_cons.mpr ⟨(pl_wsX6_island_wsX6_island_r2 _ (List.mem_of_getElem? (i := 6) rfl)), List.forall_mem_cons.mpr ⟨(pl_wsX6_island_wsX6_island_r2 _ (List.mem_of_getElem? (i := 7) rfl)), fun _ h => absurd h List.not_mem_nil⟩⟩⟩⟩⟩⟩⟩⟩⟩⟩⟩⟩⟩⟩⟩⟩⟩⟩⟩⟩⟩⟩⟩⟩) w) ((fun w h => (List.mem_append.mp h).elim ((List.forall_mem_cons.mpr ⟨(pl_wsX6_island_wsX6_island_r2 _ (List.mem_of_getElem? (i := 8) rfl)), List.forall_mem_cons.mpr ⟨(pl_wsX6_island_wsX6_island_r2 _ (List.mem_of_getElem? (i := 9) rfl)), List.forall_mem_cons.mpr ⟨(pl_wsX6_island_wsX6_island_r2 _ (List.mem_of_getElem? (i := 10) rfl)), List.forall_mem_cons.mpr ⟨(pl_wsX6_island_wsX6_island_r2 _ (List.mem_of_getElem? (i := 11) rfl)), List.forall_mem_cons.mpr ⟨(pl_wsX6_island_wsX6_island_r2 _ (List.mem_of_getElem? (i := 12) rfl)), List.forall_mem_cons.mpr ⟨(pl_wsX6_island_wsX6_island_r2 _ (List.mem_of_getElem? (i := 13) rfl)), List.forall_mem_cons.mpr ⟨(pl_wsX6_island_wsX6_island_r2 _ (List.mem_of_getElem? (i := 14) rfl)), List.forall_mem_cons.mpr ⟨(pl_wsX6_island_wsX6_island_r2 _ (List.mem_of_getElem? (i := 15) rfl)), List.forall_mem_cons.mpr ⟨(pl_wsX6_island_wsX6_island_r2 _ (List.mem_of_getElem? (i := 16) rfl)), List.forall_mem_cons.mpr ⟨(pl_wsX6_island_wsX6_island_r2 _ (List.mem_of_getElem? (i := 17) rfl)), List.forall_mem_cons.mpr ⟨(pl_wsX6_island_wsX6_island_r2 _ (List.mem_of_getElem? (i := 18) rfl)), List.forall_mem_cons.mpr ⟨(pl_wsX6_island_wsX6_island_r2 _ (List.mem_of_getElem? (i := 19) rfl)), List.forall_mem_cons.mpr ⟨(pl_wsX6_island_wsX6_island_r2 _ (List.mem_of_getElem? (i := 20) rfl)), List.forall_mem_cons.mpr ⟨(pl_wsX6_island_wsX6_island_r2 _ (List.mem_of_getElem? (i := 21) rfl)), List.forall_mem_cons.mpr ⟨(pl_wsX6_island_wsX6_island_r2 _ (List.mem_of_getElem? (i := 22) rfl)), List.forall_mem_cons.mpr ⟨(pl_wsX6_island_wsX6_island_r2 _ (List.mem_of_getElem? (i := 23) rfl)), List.forall_mem_cons.mpr ⟨(pl_wsX6_island_wsX6_island_r3 _ (List.mem_of_getElem? (i := 0) rfl)), List.forall_mem_cons.mpr ⟨(pl_wsX6_island_wsX6_island_r3 _ (List.mem_of_getElem? (i := 1) rfl)), List.forall_mem_cons.mpr ⟨(pl_wsX6_island_wsX6_island_r3 _ (List.mem_of_getElem? (i := 2) rfl)), List.forall_mem_cons.mpr ⟨(pl_wsX6_island_wsX6_island_r3 _ (List.mem_of_getElem? (i := 3) rfl)), List.forall_mem_cons.mpr ⟨(pl_wsX6_island_wsX6_island_r3 _ (List.mem_of_getElem? (i := 4) rfl)), List.forall_mem_cons.mpr ⟨(pl_wsX6_island_wsX6_island_r3 _ (List.mem_of_getElem? (i := 5) rfl)), List.forall_mem_cons.mpr ⟨(pl_wsX6_island_wsX6_island_r3 _ (List.mem_of_getElem? (i := 6) rfl)), List.forall_mem_cons.mpr ⟨(pl_wsX6_island_wsX6_island_r3 _ (List.mem_of_getElem? (i := 7) rfl)), fun _ h => absurd h List.not_mem_nil⟩⟩⟩⟩⟩⟩⟩⟩⟩⟩⟩⟩⟩⟩⟩⟩⟩⟩⟩⟩⟩⟩⟩⟩) w) ((List.forall_mem_cons.mpr ⟨(pl_wsX6_island_wsX6_island_r3 _ (List.mem_of_getElem? (i := 8) rfl)), List.forall_mem_cons.mpr ⟨(pl_wsX6_island_wsX6_island_r3 _ (List.mem_of_getElem? (i := 9) rfl)), List.forall_mem_cons.mpr ⟨(pl_wsX6_island_wsX6_island_r3 _ (List.mem_of_getElem? (i := 10) rfl)), List.forall_mem_cons.mpr ⟨(pl_wsX6_island_wsX6_island_r3 _ (List.mem_of_getElem? (i := 11) rfl)), List.forall_mem_cons.mpr ⟨(pl_wsX6_island_wsX6_island_r3 _ (List.mem_of_getElem? (i := 12) rfl)), List.forall_mem_cons.mpr ⟨(pl_wsX6_island_wsX6_island_r3 _ (List.mem_of_getElem? (i := 13) rfl)), List.forall_mem_cons.mpr ⟨(pl_wsX6_island_wsX6_island_r3 _ (List.mem_of_getElem? (i := 14) rfl)), List.forall_mem_cons.mpr ⟨(pl_wsX6_island_wsX6_island_r3 _ (List.mem_of_getElem? (i := 15) rfl)), List.forall_mem_cons.mpr ⟨(pl_wsX6_island_wsX6_island_r3 _ (List.mem_of_getElem? (i := 16) rfl)), List.forall_mem_cons.mpr ⟨(pl_wsX6_island_wsX6_island_r3 _ (List.mem_of_getElem? (i := 17) rfl)), List.forall_mem_cons.mpr ⟨(pl_wsX6_island_wsX6_island_r3 _ (List.mem_of_getElem? (i := 18) rfl)), List.forall_mem_cons.mpr ⟨(pl_wsX6_island_wsX6_island_r3 _ (List.mem_of_getElem? (i := 19) rfl)), List.forall_mem_cons.mpr ⟨(pl_wsX6_island_wsX6_island_r3 _ (List.mem_of_getElem? (i := 20) rfl)), List.forall_mem_cons.mpr ⟨(pl_wsX6_island_wsX6_island_r3 _ (List.mem_of_getElem? (i := 21) rfl)), List.forall_mem_cons.mpr ⟨(pl_wsX6_island_wsX6_island_r3 _ (List.mem_of_getElem? (i := 22) rfl)), List.forall_mem_cons.mpr ⟨(pl_wsX6_island_wsX6_island_r3 _ (List.mem_of_getElem? (i := 23) rfl)), List.forall_mem_cons.mpr ⟨(pl_wsX6_island_wsX6_island_r4 _ (List.mem_of_getElem? (i := 0) rfl)), List.forall_mem_cons.mpr ⟨(pl_wsX6_island_wsX6_island_r4 _ (List.mem_of_getElem? (i := 1) rfl)), fun _ h => absurd h List.not_mem_nil⟩⟩⟩⟩⟩⟩⟩⟩⟩⟩⟩⟩⟩⟩⟩⟩⟩⟩) w)) w)) w) (pl_wsX6_island_wsX60 w))⟩) (by decide +kernel)
set_option maxRecDepth 20000 in
theorem gX6_island_X6_isStatement : GoodIn wsX6_island (wsV RX6 176 RX6 yX6_isStatement wsX6_isStatement) := goodIn_app (goodIn_sub (List.forall_mem_cons.mpr ⟨(pl_wsX6_island_wsX6_island_r1 _ (List.mem_of_getElem? (i := 10) rfl)), List.forall_mem_cons.mpr ⟨(pl_wsX6_island_wsX6_island_r1 _ (List.mem_of_getElem? (i := 11) rfl)), List.forall_mem_cons.mpr ⟨(pl_wsX6_island_wsX6_island_r1 _ (List.mem_of_getElem? (i := 12) rfl)), List.forall_mem_cons.mpr ⟨(pl_wsX6_island_wsX6_island_r1 _ (List.mem_of_getElem? (i := 8) rfl)), fun _ h => absurd h List.not_mem_nil⟩⟩⟩⟩) (by decide +kernel)) ggX6_island_X6_isStatement
set_option maxRecDepth 20000 in
theorem ggX6_island_X6_next : GoodIn wsX6_island wsX6_next := goodIn_sub (List.forall_mem_cons.mpr ⟨(pl_wsX6_island_wsX6_island_r1 _ (List.mem_of_getElem? (i := 17) rfl)), (fun w h => (List.mem_append.mp h).elim ((List.forall_mem_cons.mpr ⟨(pl_wsX6_island_wsX6_island_r1 _ (List.mem_of_getElem? (i := 2) rfl)), List.forall_mem_cons.mpr ⟨(pl_wsX6_island_wsX6_island_r1 _ (List.mem_of_getElem? (i := 4) rfl)), List.forall_mem_cons.mpr ⟨(pl_wsX6_island_wsX6_island_r1 _ (List.mem_of_getElem? (i := 18) rfl)), List.forall_mem_cons.mpr ⟨(pl_wsX6_island_wsX6_island_r1 _ (List.mem_of_getElem? (i := 5) rfl)), List.forall_mem_cons.mpr ⟨(pl_wsX6_island_wsX6_island_r1 _ (List.mem_of_getElem? (i := 3) rfl)), List.forall_mem_cons.mpr ⟨(pl_wsX6_island_wsX6_island_r1 _ (List.mem_of_getElem? (i := 19) rfl)), List.forall_mem_cons.mpr ⟨(pl_wsX6_island_wsX6_island_r1 _ (List.mem_of_getElem? (i := 20) rfl)), List.forall_mem_cons.mpr ⟨(pl_wsX6_island_wsX6_island_r1 _ (List.mem_of_getElem? (i := 21) rfl)), List.forall_mem_cons.mpr ⟨(pl_wsX6_island_wsX6_island_r1 _ (List.mem_of_getElem? (i := 8) rfl)), List.forall_mem_cons.mpr ⟨(pl_wsX6_island_wsX6_island_r1 _ (List.mem_of_getElem? (i := 22) rfl)), List.forall_mem_cons.mpr ⟨(pl_wsX6_island_wsX6_island_r1 _ (List.mem_of_getElem? (i := 23) rfl)), List.forall_mem_cons.mpr ⟨(pl_wsX6_island_wsX6_island_r2 _ (List.mem_of_getElem? (i := 0) rfl)), List.forall_mem_cons.mpr ⟨(pl_wsX6_island_wsX6_island_r2 _ (List.mem_of_getElem? (i := 1) rfl)), List.forall_mem_cons.mpr ⟨(pl_wsX6_island_wsX6_island_r2 _ (List.mem_of_getElem? (i := 2) rfl)), List.forall_mem_cons.mpr ⟨(pl_wsX6_island_wsX6_island_r2 _ (List.mem_of_getElem? (i := 3) rfl)), List.forall_mem_cons.mpr ⟨(pl_wsX6_island_wsX6_island_r2 _ (List.mem_of_getElem? (i := 4) rfl)), List.forall_mem_cons.mpr ⟨(pl_wsX6_island_wsX6_island_r2 _ (List.mem_of_getElem? (i := 5) rfl)), fun _ h => absurd h List.not_mem_nil⟩⟩⟩⟩⟩⟩⟩⟩⟩⟩⟩⟩⟩⟩⟩⟩⟩) w) (pl_wsX6_island_wsX60 w))⟩) (by decide +kernel)
set_option maxRecDepth 20000 in
theorem gX6_island_X6_next : GoodIn wsX6_island (wsV RX6 156 RX6 yX6_next wsX6_next) := goodIn_app (goodIn_sub (List.forall_mem_cons.mpr ⟨(pl_wsX6_island_wsX6_island_r1 _ (List.mem_of_getElem? (i := 14) rfl)), List.forall_mem_cons.mpr ⟨(pl_wsX6_island_wsX6_island_r1 _ (List.mem_of_getElem? (i := 15) rfl)), List.forall_mem_cons.mpr ⟨(pl_wsX6_island_wsX6_island_r1 _ (List.mem_of_getElem? (i := 16) rfl)), List.forall_mem_cons.mpr ⟨(pl_wsX6_island_wsX6_island_r1 _ (List.mem_of_getElem? (i := 8) rfl)), fun _ h => absurd h List.not_mem_nil⟩⟩⟩⟩) (by decide +kernel)) ggX6_island_X6_next
set_option maxRecDepth 20000 in
theorem ggX6_island_X6_refuse : GoodIn wsX6_island wsX6_refuse := goodIn_sub (List.forall_mem_cons.mpr ⟨(pl_wsX6_island_wsX6_island_r4 _ (List.mem_of_getElem? (i := 5) rfl)), (fun w h => (List.mem_append.mp h).elim ((List.forall_mem_cons.mpr ⟨(pl_wsX6_island_wsX6_island_r4 _ (List.mem_of_getElem? (i := 6) rfl)), fun _ h => absurd h List.not_mem_nil⟩) w) (pl_wsX6_island_wsX60 w))⟩) (by decide +kernel)
set_option maxRecDepth 20000 in
theorem gX6_island_X6_refuse : GoodIn wsX6_island (wsV RX6 101 RX6 yX6_refuse wsX6_refuse) := goodIn_app (goodIn_sub (List.forall_mem_cons.mpr ⟨(pl_wsX6_island_wsX6_island_r4 _ (List.mem_of_getElem? (i := 2) rfl)), List.forall_mem_cons.mpr ⟨(pl_wsX6_island_wsX6_island_r4 _ (List.mem_of_getElem? (i := 3) rfl)), List.forall_mem_cons.mpr ⟨(pl_wsX6_island_wsX6_island_r4 _ (List.mem_of_getElem? (i := 4) rfl)), List.forall_mem_cons.mpr ⟨(pl_wsX6_island_wsX6_island_r1 _ (List.mem_of_getElem? (i := 8) rfl)), fun _ h => absurd h List.not_mem_nil⟩⟩⟩⟩) (by decide +kernel)) ggX6_island_X6_refuse
theorem dX6_island_0 : decode cX6_island 0 = .ok (.aload_n 0, 1) := by decide +kernel
theorem dX6_island_1 : decode cX6_island 1 = .ok (.getfield 17, 3) := by decide +kernel
theorem dX6_island_4 : decode cX6_island 4 = .ok (.aload_n 0, 1) := by decide +kernel
theorem dX6_island_5 : decode cX6_island 5 = .ok (.getfield 23, 3) := by decide +kernel
theorem dX6_island_8 : decode cX6_island 8 = .ok (.invokestatic 172, 3) := by decide +kernel
theorem dX6_island_11 : decode cX6_island 11 = .ok (.aload_n 0, 1) := by decide +kernel
theorem dX6_island_12 : decode cX6_island 12 = .ok (.iconst 0, 1) := by decide +kernel
theorem dX6_island_13 : decode cX6_island 13 = .ok (.putfield 144, 3) := by decide +kernel
theorem dX6_island_16 : decode cX6_island 16 = .ok (.iconst 0, 1) := by decide +kernel
theorem dX6_island_17 : decode cX6_island 17 = .ok (.istore_n 1, 1) := by decide +kernel
theorem dX6_island_18 : decode cX6_island 18 = .ok (.aload_n 0, 1) := by decide +kernel
theorem dX6_island_19 : decode cX6_island 19 = .ok (.invokevirtual 176, 3) := by decide +kernel
theorem dX6_island_22 : decode cX6_island 22 = .ok (.istore_n 2, 1) := by decide +kernel
theorem dX6_island_23 : decode cX6_island 23 = .ok (.iload_n 2, 1) := by decide +kernel
theorem dX6_island_24 : decode cX6_island 24 = .ok (.ifCond .eq 48, 3) := by decide +kernel
theorem dX6_island_27 : decode cX6_island 27 = .ok (.iinc 1 1, 3) := by decide +kernel
theorem dX6_island_30 : decode cX6_island 30 = .ok (.aload_n 0, 1) := by decide +kernel
theorem dX6_island_31 : decode cX6_island 31 = .ok (.invokevirtual 156, 3) := by decide +kernel
theorem dX6_island_34 : decode cX6_island 34 = .ok (.aload_n 0, 1) := by decide +kernel
theorem dX6_island_35 : decode cX6_island 35 = .ok (.getfield 153, 3) := by decide +kernel
theorem dX6_island_38 : decode cX6_island 38 = .ok (.ifCond .ne 10, 3) := by decide +kernel
theorem dX6_island_41 : decode cX6_island 41 = .ok (.aload_n 0, 1) := by decide +kernel
theorem dX6_island_42 : decode cX6_island 42 = .ok (.iconst 0, 1) := by decide +kernel
theorem dX6_island_43 : decode cX6_island 43 = .ok (.putfield 132, 3) := by decide +kernel
theorem dX6_island_46 : decode cX6_island 46 = .ok (.iload_n 1, 1) := by decide +kernel
theorem dX6_island_47 : decode cX6_island 47 = .ok (.ireturn, 1) := by decide +kernel
theorem dX6_island_48 : decode cX6_island 48 = .ok (.aload_n 0, 1) := by decide +kernel
theorem dX6_island_49 : decode cX6_island 49 = .ok (.getfield 153, 3) := by decide +kernel
theorem dX6_island_52 : decode cX6_island 52 = .ok (.iconst 3, 1) := by decide +kernel
theorem dX6_island_53 : decode cX6_island 53 = .ok (.if_icmp .ne 14, 3) := by decide +kernel
theorem dX6_island_56 : decode cX6_island 56 = .ok (.aload_n 0, 1) := by decide +kernel
theorem dX6_island_57 : decode cX6_island 57 = .ok (.invokevirtual 176, 3) := by decide +kernel
theorem dX6_island_60 : decode cX6_island 60 = .ok (.ifCond .eq 7, 3) := by decide +kernel
theorem dX6_island_63 : decode cX6_island 63 = .ok (.iconst 1, 1) := by decide +kernel
theorem dX6_island_64 : decode cX6_island 64 = .ok (.goto 4, 3) := by decide +kernel
theorem dX6_island_67 : decode cX6_island 67 = .ok (.iconst 0, 1) := by decide +kernel
theorem dX6_island_68 : decode cX6_island 68 = .ok (.istore_n 2, 1) := by decide +kernel
theorem dX6_island_69 : decode cX6_island 69 = .ok (.goto (-46), 3) := by decide +kernel
theorem dX6_island_72 : decode cX6_island 72 = .ok (.aload_n 0, 1) := by decide +kernel
theorem dX6_island_73 : decode cX6_island 73 = .ok (.getfield 23, 3) := by decide +kernel
theorem dX6_island_76 : decode cX6_island 76 = .ok (.aload_n 0, 1) := by decide +kernel
theorem dX6_island_77 : decode cX6_island 77 = .ok (.getfield 17, 3) := by decide +kernel
theorem dX6_island_80 : decode cX6_island 80 = .ok (.invokestatic 172, 3) := by decide +kernel
theorem dX6_island_83 : decode cX6_island 83 = .ok (.aload_n 0, 1) := by decide +kernel
theorem dX6_island_84 : decode cX6_island 84 = .ok (.iconst 0, 1) := by decide +kernel
theorem dX6_island_85 : decode cX6_island 85 = .ok (.putfield 132, 3) := by decide +kernel
theorem dX6_island_88 : decode cX6_island 88 = .ok (.aload_n 0, 1) := by decide +kernel
theorem dX6_island_89 : decode cX6_island 89 = .ok (.bipush (-2), 2) := by decide +kernel
theorem dX6_island_91 : decode cX6_island 91 = .ok (.invokevirtual 101, 3) := by decide +kernel
theorem dX6_island_94 : decode cX6_island 94 = .ok (.pop, 1) := by decide +kernel
theorem dX6_island_95 : decode cX6_island 95 = .ok (.bipush (-20), 2) := by decide +kernel
theorem dX6_island_97 : decode cX6_island 97 = .ok (.aload_n 0, 1) := by decide +kernel
theorem dX6_island_98 : decode cX6_island 98 = .ok (.getfield 147, 3) := by decide +kernel
theorem dX6_island_101 : decode cX6_island 101 = .ok (.isub, 1) := by decide +kernel
theorem dX6_island_102 : decode cX6_island 102 = .ok (.ireturn, 1) := by decide +kernel
theorem dX6_start_0 : decode cX6_start 0 = .ok (.aload_n 0, 1) := by decide +kernel
theorem dX6_start_1 : decode cX6_start 1 = .ok (.getfield 33, 3) := by decide +kernel
theorem dX6_start_4 : decode cX6_start 4 = .ok (.iload_n 1, 1) := by decide +kernel
theorem dX6_start_5 : decode cX6_start 5 = .ok (.iload_n 2, 1) := by decide +kernel
theorem dX6_start_6 : decode cX6_start 6 = .ok (.iastore, 1) := by decide +kernel
theorem dX6_start_7 : decode cX6_start 7 = .ok (.aload_n 0, 1) := by decide +kernel
theorem dX6_start_8 : decode cX6_start 8 = .ok (.getfield 36, 3) := by decide +kernel
theorem dX6_start_11 : decode cX6_start 11 = .ok (.iload_n 1, 1) := by decide +kernel
theorem dX6_start_12 : decode cX6_start 12 = .ok (.iload_n 3, 1) := by decide +kernel
theorem dX6_start_13 : decode cX6_start 13 = .ok (.iastore, 1) := by decide +kernel
theorem dX6_start_14 : decode cX6_start 14 = .ok (.aload_n 0, 1) := by decide +kernel
theorem dX6_start_15 : decode cX6_start 15 = .ok (.getfield 39, 3) := by decide +kernel
theorem dX6_start_18 : decode cX6_start 18 = .ok (.iload_n 1, 1) := by decide +kernel
theorem dX6_start_19 : decode cX6_start 19 = .ok (.iconst 0, 1) := by decide +kernel
theorem dX6_start_20 : decode cX6_start 20 = .ok (.iastore, 1) := by decide +kernel
theorem dX6_start_21 : decode cX6_start 21 = .ok (.aload_n 0, 1) := by decide +kernel
theorem dX6_start_22 : decode cX6_start 22 = .ok (.getfield 48, 3) := by decide +kernel
theorem dX6_start_25 : decode cX6_start 25 = .ok (.iload_n 1, 1) := by decide +kernel
theorem dX6_start_26 : decode cX6_start 26 = .ok (.iconst (-1), 1) := by decide +kernel
theorem dX6_start_27 : decode cX6_start 27 = .ok (.iastore, 1) := by decide +kernel
theorem dX6_start_28 : decode cX6_start 28 = .ok (.return_, 1) := by decide +kernel
set_option maxRecDepth 20000 in
theorem pl_wsX6_goesBy_wsX6_goesBy_r1 : ∀ w ∈ wsX6_goesBy_r1, w ∈ wsX6_goesBy := fun _ h => List.mem_cons_of_mem _ (List.mem_append_left _ (List.mem_append_left _ (h)))
theorem pl_wsX6_goesBy_wsX60 : ∀ w ∈ wsX60, w ∈ wsX6_goesBy := fun _ h => List.mem_cons_of_mem _ (List.mem_append_right _ (h))
theorem ggX6_goesBy_X6_kind : GoodIn wsX6_goesBy wsX6_kind := goodIn_sub (List.forall_mem_cons.mpr ⟨(pl_wsX6_goesBy_wsX6_goesBy_r1 _ (List.mem_of_getElem? (i := 9) rfl)), (fun w h => (List.mem_append.mp h).elim ((List.forall_mem_cons.mpr ⟨(pl_wsX6_goesBy_wsX6_goesBy_r1 _ (List.mem_of_getElem? (i := 0) rfl)), fun _ h => absurd h List.not_mem_nil⟩) w) (pl_wsX6_goesBy_wsX60 w))⟩) (by decide +kernel)
set_option maxRecDepth 20000 in
theorem gX6_goesBy_X6_kind : GoodIn wsX6_goesBy (wsV RX6 179 RX6 yX6_kind wsX6_kind) := goodIn_app (goodIn_sub (List.forall_mem_cons.mpr ⟨(pl_wsX6_goesBy_wsX6_goesBy_r1 _ (List.mem_of_getElem? (i := 5) rfl)), List.forall_mem_cons.mpr ⟨(pl_wsX6_goesBy_wsX6_goesBy_r1 _ (List.mem_of_getElem? (i := 6) rfl)), List.forall_mem_cons.mpr ⟨(pl_wsX6_goesBy_wsX6_goesBy_r1 _ (List.mem_of_getElem? (i := 7) rfl)), List.forall_mem_cons.mpr ⟨(pl_wsX6_goesBy_wsX6_goesBy_r1 _ (List.mem_of_getElem? (i := 8) rfl)), fun _ h => absurd h List.not_mem_nil⟩⟩⟩⟩) (by decide +kernel)) ggX6_goesBy_X6_kind
set_option maxRecDepth 20000 in
theorem ggX6_goesBy_X6_isFor : GoodIn wsX6_goesBy wsX6_isFor := goodIn_sub (List.forall_mem_cons.mpr ⟨(pl_wsX6_goesBy_wsX6_goesBy_r1 _ (List.mem_of_getElem? (i := 13) rfl)), (fun w h => (List.mem_append.mp h).elim ((List.forall_mem_cons.mpr ⟨(pl_wsX6_goesBy_wsX6_goesBy_r1 _ (List.mem_of_getElem? (i := 0) rfl)), fun _ h => absurd h List.not_mem_nil⟩) w) (pl_wsX6_goesBy_wsX60 w))⟩) (by decide +kernel)
set_option maxRecDepth 20000 in
theorem gX6_goesBy_X6_isFor : GoodIn wsX6_goesBy (wsV RX6 127 RX6 yX6_isFor wsX6_isFor) := goodIn_app (goodIn_sub (List.forall_mem_cons.mpr ⟨(pl_wsX6_goesBy_wsX6_goesBy_r1 _ (List.mem_of_getElem? (i := 10) rfl)), List.forall_mem_cons.mpr ⟨(pl_wsX6_goesBy_wsX6_goesBy_r1 _ (List.mem_of_getElem? (i := 11) rfl)), List.forall_mem_cons.mpr ⟨(pl_wsX6_goesBy_wsX6_goesBy_r1 _ (List.mem_of_getElem? (i := 12) rfl)), List.forall_mem_cons.mpr ⟨(pl_wsX6_goesBy_wsX6_goesBy_r1 _ (List.mem_of_getElem? (i := 8) rfl)), fun _ h => absurd h List.not_mem_nil⟩⟩⟩⟩) (by decide +kernel)) ggX6_goesBy_X6_isFor
set_option maxRecDepth 20000 in
theorem pl_wsX6_goesBy_wsX6_goesBy_r2 : ∀ w ∈ wsX6_goesBy_r2, w ∈ wsX6_goesBy := fun _ h => List.mem_cons_of_mem _ (List.mem_append_left _ (List.mem_append_right _ (h)))
theorem ggX6_goesBy_X6_isShore : GoodIn wsX6_goesBy wsX6_isShore := goodIn_sub (List.forall_mem_cons.mpr ⟨(pl_wsX6_goesBy_wsX6_goesBy_r1 _ (List.mem_of_getElem? (i := 17) rfl)), (fun w h => (List.mem_append.mp h).elim ((List.forall_mem_cons.mpr ⟨(pl_wsX6_goesBy_wsX6_goesBy_r1 _ (List.mem_of_getElem? (i := 18) rfl)), List.forall_mem_cons.mpr ⟨(pl_wsX6_goesBy_wsX6_goesBy_r1 _ (List.mem_of_getElem? (i := 19) rfl)), List.forall_mem_cons.mpr ⟨(pl_wsX6_goesBy_wsX6_goesBy_r1 _ (List.mem_of_getElem? (i := 20) rfl)), List.forall_mem_cons.mpr ⟨(pl_wsX6_goesBy_wsX6_goesBy_r1 _ (List.mem_of_getElem? (i := 8) rfl)), List.forall_mem_cons.mpr ⟨(pl_wsX6_goesBy_wsX6_goesBy_r1 _ (List.mem_of_getElem? (i := 21) rfl)), List.forall_mem_cons.mpr ⟨(pl_wsX6_goesBy_wsX6_goesBy_r1 _ (List.mem_of_getElem? (i := 0) rfl)), List.forall_mem_cons.mpr ⟨(pl_wsX6_goesBy_wsX6_goesBy_r1 _ (List.mem_of_getElem? (i := 22) rfl)), List.forall_mem_cons.mpr ⟨(pl_wsX6_goesBy_wsX6_goesBy_r1 _ (List.mem_of_getElem? (i := 23) rfl)), List.forall_mem_cons.mpr ⟨(pl_wsX6_goesBy_wsX6_goesBy_r2 _ (List.mem_of_getElem? (i := 0) rfl)), List.forall_mem_cons.mpr ⟨(pl_wsX6_goesBy_wsX6_goesBy_r2 _ (List.mem_of_getElem? (i := 1) rfl)), List.forall_mem_cons.mpr ⟨(pl_wsX6_goesBy_wsX6_goesBy_r2 _ (List.mem_of_getElem? (i := 2) rfl)), List.forall_mem_cons.mpr ⟨(pl_wsX6_goesBy_wsX6_goesBy_r2 _ (List.mem_of_getElem? (i := 3) rfl)), List.forall_mem_cons.mpr ⟨(pl_wsX6_goesBy_wsX6_goesBy_r2 _ (List.mem_of_getElem? (i := 4) rfl)), List.forall_mem_cons.mpr ⟨(pl_wsX6_goesBy_wsX6_goesBy_r2 _ (List.mem_of_getElem? (i := 5) rfl)), List.forall_mem_cons.mpr ⟨(pl_wsX6_goesBy_wsX6_goesBy_r2 _ (List.mem_of_getElem? (i := 6) rfl)), List.forall_mem_cons.mpr ⟨(pl_wsX6_goesBy_wsX6_goesBy_r2 _ (List.mem_of_getElem? (i := 7) rfl)), fun _ h => absurd h List.not_mem_nil⟩⟩⟩⟩⟩⟩⟩⟩⟩⟩⟩⟩⟩⟩⟩⟩) w) (pl_wsX6_goesBy_wsX60 w))⟩) (by decide +kernel)
set_option maxRecDepth 20000 in
theorem gX6_goesBy_X6_isShore : GoodIn wsX6_goesBy (wsV RX6 182 RX6 yX6_isShore wsX6_isShore) := goodIn_app (goodIn_sub (List.forall_mem_cons.mpr ⟨(pl_wsX6_goesBy_wsX6_goesBy_r1 _ (List.mem_of_getElem? (i := 14) rfl)), List.forall_mem_cons.mpr ⟨(pl_wsX6_goesBy_wsX6_goesBy_r1 _ (List.mem_of_getElem? (i := 15) rfl)), List.forall_mem_cons.mpr ⟨(pl_wsX6_goesBy_wsX6_goesBy_r1 _ (List.mem_of_getElem? (i := 16) rfl)), List.forall_mem_cons.mpr ⟨(pl_wsX6_goesBy_wsX6_goesBy_r1 _ (List.mem_of_getElem? (i := 8) rfl)), fun _ h => absurd h List.not_mem_nil⟩⟩⟩⟩) (by decide +kernel)) ggX6_goesBy_X6_isShore
theorem dX6_goesBy_0 : decode cX6_goesBy 0 = .ok (.aload_n 0, 1) := by decide +kernel
theorem dX6_goesBy_1 : decode cX6_goesBy 1 = .ok (.getfield 17, 3) := by decide +kernel
theorem dX6_goesBy_4 : decode cX6_goesBy 4 = .ok (.bipush 91, 2) := by decide +kernel
theorem dX6_goesBy_6 : decode cX6_goesBy 6 = .ok (.iaload, 1) := by decide +kernel
theorem dX6_goesBy_7 : decode cX6_goesBy 7 = .ok (.istore 4, 2) := by decide +kernel
theorem dX6_goesBy_9 : decode cX6_goesBy 9 = .ok (.aload_n 0, 1) := by decide +kernel
theorem dX6_goesBy_10 : decode cX6_goesBy 10 = .ok (.iload_n 2, 1) := by decide +kernel
theorem dX6_goesBy_11 : decode cX6_goesBy 11 = .ok (.invokevirtual 179, 3) := by decide +kernel
theorem dX6_goesBy_14 : decode cX6_goesBy 14 = .ok (.tableswitch 95 0 4 #[34, 37, 45, 66, 72], 34) := by decide +kernel
theorem dX6_goesBy_48 : decode cX6_goesBy 48 = .ok (.iload 4, 2) := by decide +kernel
theorem dX6_goesBy_50 : decode cX6_goesBy 50 = .ok (.ireturn, 1) := by decide +kernel
theorem dX6_goesBy_51 : decode cX6_goesBy 51 = .ok (.aload_n 0, 1) := by decide +kernel
theorem dX6_goesBy_52 : decode cX6_goesBy 52 = .ok (.getfield 17, 3) := by decide +kernel
theorem dX6_goesBy_55 : decode cX6_goesBy 55 = .ok (.bipush 92, 2) := by decide +kernel
theorem dX6_goesBy_57 : decode cX6_goesBy 57 = .ok (.iaload, 1) := by decide +kernel
theorem dX6_goesBy_58 : decode cX6_goesBy 58 = .ok (.ireturn, 1) := by decide +kernel
theorem dX6_goesBy_59 : decode cX6_goesBy 59 = .ok (.aload_n 0, 1) := by decide +kernel
theorem dX6_goesBy_60 : decode cX6_goesBy 60 = .ok (.getfield 39, 3) := by decide +kernel
theorem dX6_goesBy_63 : decode cX6_goesBy 63 = .ok (.iload_n 1, 1) := by decide +kernel
theorem dX6_goesBy_64 : decode cX6_goesBy 64 = .ok (.iaload, 1) := by decide +kernel
theorem dX6_goesBy_65 : decode cX6_goesBy 65 = .ok (.iconst 2, 1) := by decide +kernel
theorem dX6_goesBy_66 : decode cX6_goesBy 66 = .ok (.irem, 1) := by decide +kernel
theorem dX6_goesBy_67 : decode cX6_goesBy 67 = .ok (.ifCond .ne 8, 3) := by decide +kernel
theorem dX6_goesBy_70 : decode cX6_goesBy 70 = .ok (.iload 4, 2) := by decide +kernel
theorem dX6_goesBy_72 : decode cX6_goesBy 72 = .ok (.goto 7, 3) := by decide +kernel
theorem dX6_goesBy_75 : decode cX6_goesBy 75 = .ok (.iconst 1, 1) := by decide +kernel
theorem dX6_goesBy_76 : decode cX6_goesBy 76 = .ok (.iload 4, 2) := by decide +kernel
theorem dX6_goesBy_78 : decode cX6_goesBy 78 = .ok (.isub, 1) := by decide +kernel
theorem dX6_goesBy_79 : decode cX6_goesBy 79 = .ok (.ireturn, 1) := by decide +kernel
theorem dX6_goesBy_80 : decode cX6_goesBy 80 = .ok (.aload_n 0, 1) := by decide +kernel
theorem dX6_goesBy_81 : decode cX6_goesBy 81 = .ok (.iload_n 2, 1) := by decide +kernel
theorem dX6_goesBy_82 : decode cX6_goesBy 82 = .ok (.invokevirtual 127, 3) := by decide +kernel
theorem dX6_goesBy_85 : decode cX6_goesBy 85 = .ok (.ireturn, 1) := by decide +kernel
theorem dX6_goesBy_86 : decode cX6_goesBy 86 = .ok (.aload_n 0, 1) := by decide +kernel
theorem dX6_goesBy_87 : decode cX6_goesBy 87 = .ok (.aload_n 0, 1) := by decide +kernel
theorem dX6_goesBy_88 : decode cX6_goesBy 88 = .ok (.getfield 33, 3) := by decide +kernel
theorem dX6_goesBy_91 : decode cX6_goesBy 91 = .ok (.iload_n 1, 1) := by decide +kernel
theorem dX6_goesBy_92 : decode cX6_goesBy 92 = .ok (.iaload, 1) := by decide +kernel
theorem dX6_goesBy_93 : decode cX6_goesBy 93 = .ok (.invokevirtual 182, 3) := by decide +kernel
theorem dX6_goesBy_96 : decode cX6_goesBy 96 = .ok (.ifCond .eq 10, 3) := by decide +kernel
theorem dX6_goesBy_99 : decode cX6_goesBy 99 = .ok (.iconst 1, 1) := by decide +kernel
theorem dX6_goesBy_100 : decode cX6_goesBy 100 = .ok (.iload 4, 2) := by decide +kernel
theorem dX6_goesBy_102 : decode cX6_goesBy 102 = .ok (.isub, 1) := by decide +kernel
theorem dX6_goesBy_103 : decode cX6_goesBy 103 = .ok (.goto 5, 3) := by decide +kernel
theorem dX6_goesBy_106 : decode cX6_goesBy 106 = .ok (.iload 4, 2) := by decide +kernel
theorem dX6_goesBy_108 : decode cX6_goesBy 108 = .ok (.ireturn, 1) := by decide +kernel
theorem dX6_goesBy_109 : decode cX6_goesBy 109 = .ok (.aload_n 0, 1) := by decide +kernel
theorem dX6_goesBy_110 : decode cX6_goesBy 110 = .ok (.getfield 39, 3) := by decide +kernel
theorem dX6_goesBy_113 : decode cX6_goesBy 113 = .ok (.iload_n 1, 1) := by decide +kernel
theorem dX6_goesBy_114 : decode cX6_goesBy 114 = .ok (.iaload, 1) := by decide +kernel
theorem dX6_goesBy_115 : decode cX6_goesBy 115 = .ok (.ifCond .ne 8, 3) := by decide +kernel
theorem dX6_goesBy_118 : decode cX6_goesBy 118 = .ok (.iload 4, 2) := by decide +kernel
theorem dX6_goesBy_120 : decode cX6_goesBy 120 = .ok (.goto 30, 3) := by decide +kernel
theorem dX6_goesBy_123 : decode cX6_goesBy 123 = .ok (.aload_n 0, 1) := by decide +kernel
theorem dX6_goesBy_124 : decode cX6_goesBy 124 = .ok (.getfield 42, 3) := by decide +kernel
theorem dX6_goesBy_127 : decode cX6_goesBy 127 = .ok (.iload_n 1, 1) := by decide +kernel
theorem dX6_goesBy_128 : decode cX6_goesBy 128 = .ok (.iaload, 1) := by decide +kernel
theorem dX6_goesBy_129 : decode cX6_goesBy 129 = .ok (.iload_n 3, 1) := by decide +kernel
theorem dX6_goesBy_130 : decode cX6_goesBy 130 = .ok (.if_icmp .ne 14, 3) := by decide +kernel
theorem dX6_goesBy_133 : decode cX6_goesBy 133 = .ok (.iconst 1, 1) := by decide +kernel
theorem dX6_goesBy_134 : decode cX6_goesBy 134 = .ok (.aload_n 0, 1) := by decide +kernel
theorem dX6_goesBy_135 : decode cX6_goesBy 135 = .ok (.getfield 45, 3) := by decide +kernel
theorem dX6_goesBy_138 : decode cX6_goesBy 138 = .ok (.iload_n 1, 1) := by decide +kernel
theorem dX6_goesBy_139 : decode cX6_goesBy 139 = .ok (.iaload, 1) := by decide +kernel
theorem dX6_goesBy_140 : decode cX6_goesBy 140 = .ok (.isub, 1) := by decide +kernel
theorem dX6_goesBy_141 : decode cX6_goesBy 141 = .ok (.goto 9, 3) := by decide +kernel
theorem dX6_goesBy_144 : decode cX6_goesBy 144 = .ok (.aload_n 0, 1) := by decide +kernel
theorem dX6_goesBy_145 : decode cX6_goesBy 145 = .ok (.getfield 45, 3) := by decide +kernel
theorem dX6_goesBy_148 : decode cX6_goesBy 148 = .ok (.iload_n 1, 1) := by decide +kernel
theorem dX6_goesBy_149 : decode cX6_goesBy 149 = .ok (.iaload, 1) := by decide +kernel
theorem dX6_goesBy_150 : decode cX6_goesBy 150 = .ok (.ireturn, 1) := by decide +kernel
set_option maxRecDepth 20000 in
theorem pl_wsX6_step_wsX6_step_r1 : ∀ w ∈ wsX6_step_r1, w ∈ wsX6_step := fun _ h => List.mem_cons_of_mem _ (List.mem_append_left _ (List.mem_append_left _ (h)))
theorem pl_wsX6_step_wsX60 : ∀ w ∈ wsX60, w ∈ wsX6_step := fun _ h => List.mem_cons_of_mem _ (List.mem_append_right _ (h))
theorem ggX6_step_X6_beside : GoodIn wsX6_step wsX6_beside := goodIn_sub (List.forall_mem_cons.mpr ⟨(pl_wsX6_step_wsX6_step_r1 _ (List.mem_of_getElem? (i := 11) rfl)), (fun w h => (List.mem_append.mp h).elim ((List.forall_mem_cons.mpr ⟨(pl_wsX6_step_wsX6_step_r1 _ (List.mem_of_getElem? (i := 12) rfl)), List.forall_mem_cons.mpr ⟨(pl_wsX6_step_wsX6_step_r1 _ (List.mem_of_getElem? (i := 13) rfl)), List.forall_mem_cons.mpr ⟨(pl_wsX6_step_wsX6_step_r1 _ (List.mem_of_getElem? (i := 14) rfl)), List.forall_mem_cons.mpr ⟨(pl_wsX6_step_wsX6_step_r1 _ (List.mem_of_getElem? (i := 10) rfl)), List.forall_mem_cons.mpr ⟨(pl_wsX6_step_wsX6_step_r1 _ (List.mem_of_getElem? (i := 15) rfl)), fun _ h => absurd h List.not_mem_nil⟩⟩⟩⟩⟩) w) (pl_wsX6_step_wsX60 w))⟩) (by decide +kernel)
set_option maxRecDepth 20000 in
theorem gX6_step_X6_beside : GoodIn wsX6_step (wsV RX6 91 RX6 yX6_beside wsX6_beside) := goodIn_app (goodIn_sub (List.forall_mem_cons.mpr ⟨(pl_wsX6_step_wsX6_step_r1 _ (List.mem_of_getElem? (i := 7) rfl)), List.forall_mem_cons.mpr ⟨(pl_wsX6_step_wsX6_step_r1 _ (List.mem_of_getElem? (i := 8) rfl)), List.forall_mem_cons.mpr ⟨(pl_wsX6_step_wsX6_step_r1 _ (List.mem_of_getElem? (i := 9) rfl)), List.forall_mem_cons.mpr ⟨(pl_wsX6_step_wsX6_step_r1 _ (List.mem_of_getElem? (i := 10) rfl)), fun _ h => absurd h List.not_mem_nil⟩⟩⟩⟩) (by decide +kernel)) ggX6_step_X6_beside
set_option maxRecDepth 20000 in
theorem ggX6_step_X6_hasPond : GoodIn wsX6_step wsX6_hasPond := goodIn_sub (List.forall_mem_cons.mpr ⟨(pl_wsX6_step_wsX6_step_r1 _ (List.mem_of_getElem? (i := 19) rfl)), (fun w h => (List.mem_append.mp h).elim ((List.forall_mem_cons.mpr ⟨(pl_wsX6_step_wsX6_step_r1 _ (List.mem_of_getElem? (i := 12) rfl)), List.forall_mem_cons.mpr ⟨(pl_wsX6_step_wsX6_step_r1 _ (List.mem_of_getElem? (i := 20) rfl)), List.forall_mem_cons.mpr ⟨(pl_wsX6_step_wsX6_step_r1 _ (List.mem_of_getElem? (i := 21) rfl)), List.forall_mem_cons.mpr ⟨(pl_wsX6_step_wsX6_step_r1 _ (List.mem_of_getElem? (i := 10) rfl)), List.forall_mem_cons.mpr ⟨(pl_wsX6_step_wsX6_step_r1 _ (List.mem_of_getElem? (i := 22) rfl)), fun _ h => absurd h List.not_mem_nil⟩⟩⟩⟩⟩) w) (pl_wsX6_step_wsX60 w))⟩) (by decide +kernel)
set_option maxRecDepth 20000 in
theorem gX6_step_X6_hasPond : GoodIn wsX6_step (wsV RX6 95 RX6 yX6_hasPond wsX6_hasPond) := goodIn_app (goodIn_sub (List.forall_mem_cons.mpr ⟨(pl_wsX6_step_wsX6_step_r1 _ (List.mem_of_getElem? (i := 16) rfl)), List.forall_mem_cons.mpr ⟨(pl_wsX6_step_wsX6_step_r1 _ (List.mem_of_getElem? (i := 17) rfl)), List.forall_mem_cons.mpr ⟨(pl_wsX6_step_wsX6_step_r1 _ (List.mem_of_getElem? (i := 18) rfl)), List.forall_mem_cons.mpr ⟨(pl_wsX6_step_wsX6_step_r1 _ (List.mem_of_getElem? (i := 10) rfl)), fun _ h => absurd h List.not_mem_nil⟩⟩⟩⟩) (by decide +kernel)) ggX6_step_X6_hasPond
set_option maxRecDepth 20000 in
theorem pl_wsX6_step_wsX6_step_r2 : ∀ w ∈ wsX6_step_r2, w ∈ wsX6_step := fun _ h => List.mem_cons_of_mem _ (List.mem_append_left _ (List.mem_append_right _ (h)))
theorem ggX6_step_X6_goesBy : GoodIn wsX6_step wsX6_goesBy := goodIn_sub (List.forall_mem_cons.mpr ⟨(pl_wsX6_step_wsX6_step_r2 _ (List.mem_of_getElem? (i := 2) rfl)), (fun w h => (List.mem_append.mp h).elim ((fun w h => (List.mem_append.mp h).elim ((List.forall_mem_cons.mpr ⟨(pl_wsX6_step_wsX6_step_r1 _ (List.mem_of_getElem? (i := 12) rfl)), List.forall_mem_cons.mpr ⟨(pl_wsX6_step_wsX6_step_r1 _ (List.mem_of_getElem? (i := 4) rfl)), List.forall_mem_cons.mpr ⟨(pl_wsX6_step_wsX6_step_r1 _ (List.mem_of_getElem? (i := 1) rfl)), List.forall_mem_cons.mpr ⟨(pl_wsX6_step_wsX6_step_r1 _ (List.mem_of_getElem? (i := 5) rfl)), List.forall_mem_cons.mpr ⟨(pl_wsX6_step_wsX6_step_r1 _ (List.mem_of_getElem? (i := 6) rfl)), List.forall_mem_cons.mpr ⟨(pl_wsX6_step_wsX6_step_r2 _ (List.mem_of_getElem? (i := 3) rfl)), List.forall_mem_cons.mpr ⟨(pl_wsX6_step_wsX6_step_r2 _ (List.mem_of_getElem? (i := 4) rfl)), List.forall_mem_cons.mpr ⟨(pl_wsX6_step_wsX6_step_r2 _ (List.mem_of_getElem? (i := 5) rfl)), List.forall_mem_cons.mpr ⟨(pl_wsX6_step_wsX6_step_r1 _ (List.mem_of_getElem? (i := 10) rfl)), List.forall_mem_cons.mpr ⟨(pl_wsX6_step_wsX6_step_r2 _ (List.mem_of_getElem? (i := 6) rfl)), List.forall_mem_cons.mpr ⟨(pl_wsX6_step_wsX6_step_r2 _ (List.mem_of_getElem? (i := 7) rfl)), List.forall_mem_cons.mpr ⟨(pl_wsX6_step_wsX6_step_r2 _ (List.mem_of_getElem? (i := 8) rfl)), List.forall_mem_cons.mpr ⟨(pl_wsX6_step_wsX6_step_r2 _ (List.mem_of_getElem? (i := 9) rfl)), List.forall_mem_cons.mpr ⟨(pl_wsX6_step_wsX6_step_r2 _ (List.mem_of_getElem? (i := 10) rfl)), List.forall_mem_cons.mpr ⟨(pl_wsX6_step_wsX6_step_r2 _ (List.mem_of_getElem? (i := 11) rfl)), List.forall_mem_cons.mpr ⟨(pl_wsX6_step_wsX6_step_r2 _ (List.mem_of_getElem? (i := 12) rfl)), List.forall_mem_cons.mpr ⟨(pl_wsX6_step_wsX6_step_r2 _ (List.mem_of_getElem? (i := 13) rfl)), List.forall_mem_cons.mpr ⟨(pl_wsX6_step_wsX6_step_r2 _ (List.mem_of_getElem? (i := 14) rfl)), List.forall_mem_cons.mpr ⟨(pl_wsX6_step_wsX6_step_r1 _ (List.mem_of_getElem? (i := 7) rfl)), List.forall_mem_cons.mpr ⟨(pl_wsX6_step_wsX6_step_r1 _ (List.mem_of_getElem? (i := 8) rfl)), List.forall_mem_cons.mpr ⟨(pl_wsX6_step_wsX6_step_r1 _ (List.mem_of_getElem? (i := 9) rfl)), List.forall_mem_cons.mpr ⟨(pl_wsX6_step_wsX6_step_r1 _ (List.mem_of_getElem? (i := 11) rfl)), List.forall_mem_cons.mpr ⟨(pl_wsX6_step_wsX6_step_r1 _ (List.mem_of_getElem? (i := 13) rfl)), List.forall_mem_cons.mpr ⟨(pl_wsX6_step_wsX6_step_r1 _ (List.mem_of_getElem? (i := 14) rfl)), fun _ h => absurd h List.not_mem_nil⟩⟩⟩⟩⟩⟩⟩⟩⟩⟩⟩⟩⟩⟩⟩⟩⟩⟩⟩⟩⟩⟩⟩⟩) w) ((List.forall_mem_cons.mpr ⟨(pl_wsX6_step_wsX6_step_r1 _ (List.mem_of_getElem? (i := 15) rfl)), List.forall_mem_cons.mpr ⟨(pl_wsX6_step_wsX6_step_r1 _ (List.mem_of_getElem? (i := 16) rfl)), List.forall_mem_cons.mpr ⟨(pl_wsX6_step_wsX6_step_r1 _ (List.mem_of_getElem? (i := 17) rfl)), List.forall_mem_cons.mpr ⟨(pl_wsX6_step_wsX6_step_r1 _ (List.mem_of_getElem? (i := 18) rfl)), List.forall_mem_cons.mpr ⟨(pl_wsX6_step_wsX6_step_r1 _ (List.mem_of_getElem? (i := 19) rfl)), List.forall_mem_cons.mpr ⟨(pl_wsX6_step_wsX6_step_r1 _ (List.mem_of_getElem? (i := 20) rfl)), List.forall_mem_cons.mpr ⟨(pl_wsX6_step_wsX6_step_r1 _ (List.mem_of_getElem? (i := 21) rfl)), List.forall_mem_cons.mpr ⟨(pl_wsX6_step_wsX6_step_r1 _ (List.mem_of_getElem? (i := 22) rfl)), fun _ h => absurd h List.not_mem_nil⟩⟩⟩⟩⟩⟩⟩⟩) w)) w) (pl_wsX6_step_wsX60 w))⟩) (by decide +kernel)
set_option maxRecDepth 20000 in
theorem gX6_step_X6_goesBy : GoodIn wsX6_step (wsV RX6 188 RX6 yX6_goesBy wsX6_goesBy) := goodIn_app (goodIn_sub (List.forall_mem_cons.mpr ⟨(pl_wsX6_step_wsX6_step_r1 _ (List.mem_of_getElem? (i := 23) rfl)), List.forall_mem_cons.mpr ⟨(pl_wsX6_step_wsX6_step_r2 _ (List.mem_of_getElem? (i := 0) rfl)), List.forall_mem_cons.mpr ⟨(pl_wsX6_step_wsX6_step_r2 _ (List.mem_of_getElem? (i := 1) rfl)), List.forall_mem_cons.mpr ⟨(pl_wsX6_step_wsX6_step_r1 _ (List.mem_of_getElem? (i := 10) rfl)), fun _ h => absurd h List.not_mem_nil⟩⟩⟩⟩) (by decide +kernel)) ggX6_step_X6_goesBy
theorem dX6_step_0 : decode cX6_step 0 = .ok (.aload_n 0, 1) := by decide +kernel
theorem dX6_step_1 : decode cX6_step 1 = .ok (.getfield 48, 3) := by decide +kernel
theorem dX6_step_4 : decode cX6_step 4 = .ok (.iload_n 1, 1) := by decide +kernel
theorem dX6_step_5 : decode cX6_step 5 = .ok (.iaload, 1) := by decide +kernel
theorem dX6_step_6 : decode cX6_step 6 = .ok (.iconst (-1), 1) := by decide +kernel
theorem dX6_step_7 : decode cX6_step 7 = .ok (.if_icmp .ne 8, 3) := by decide +kernel
theorem dX6_step_10 : decode cX6_step 10 = .ok (.iload_n 3, 1) := by decide +kernel
theorem dX6_step_11 : decode cX6_step 11 = .ok (.iconst 3, 1) := by decide +kernel
theorem dX6_step_12 : decode cX6_step 12 = .ok (.if_icmp .ne 4, 3) := by decide +kernel
theorem dX6_step_15 : decode cX6_step 15 = .ok (.return_, 1) := by decide +kernel
theorem dX6_step_16 : decode cX6_step 16 = .ok (.iload_n 3, 1) := by decide +kernel
theorem dX6_step_17 : decode cX6_step 17 = .ok (.ifCond .ne 67, 3) := by decide +kernel
theorem dX6_step_20 : decode cX6_step 20 = .ok (.aload_n 0, 1) := by decide +kernel
theorem dX6_step_21 : decode cX6_step 21 = .ok (.aload_n 0, 1) := by decide +kernel
theorem dX6_step_22 : decode cX6_step 22 = .ok (.getfield 33, 3) := by decide +kernel
theorem dX6_step_25 : decode cX6_step 25 = .ok (.iload_n 1, 1) := by decide +kernel
theorem dX6_step_26 : decode cX6_step 26 = .ok (.iaload, 1) := by decide +kernel
theorem dX6_step_27 : decode cX6_step 27 = .ok (.aload_n 0, 1) := by decide +kernel
theorem dX6_step_28 : decode cX6_step 28 = .ok (.getfield 36, 3) := by decide +kernel
theorem dX6_step_31 : decode cX6_step 31 = .ok (.iload_n 1, 1) := by decide +kernel
theorem dX6_step_32 : decode cX6_step 32 = .ok (.iaload, 1) := by decide +kernel
theorem dX6_step_33 : decode cX6_step 33 = .ok (.invokevirtual 91, 3) := by decide +kernel
theorem dX6_step_36 : decode cX6_step 36 = .ok (.istore 5, 2) := by decide +kernel
theorem dX6_step_38 : decode cX6_step 38 = .ok (.iload 5, 2) := by decide +kernel
theorem dX6_step_40 : decode cX6_step 40 = .ok (.iconst (-1), 1) := by decide +kernel
theorem dX6_step_41 : decode cX6_step 41 = .ok (.if_icmp .eq 42, 3) := by decide +kernel
theorem dX6_step_44 : decode cX6_step 44 = .ok (.aload_n 0, 1) := by decide +kernel
theorem dX6_step_45 : decode cX6_step 45 = .ok (.aload_n 0, 1) := by decide +kernel
theorem dX6_step_46 : decode cX6_step 46 = .ok (.getfield 33, 3) := by decide +kernel
theorem dX6_step_49 : decode cX6_step 49 = .ok (.iload_n 1, 1) := by decide +kernel
theorem dX6_step_50 : decode cX6_step 50 = .ok (.iaload, 1) := by decide +kernel
theorem dX6_step_51 : decode cX6_step 51 = .ok (.putfield 185, 3) := by decide +kernel
theorem dX6_step_54 : decode cX6_step 54 = .ok (.aload_n 0, 1) := by decide +kernel
theorem dX6_step_55 : decode cX6_step 55 = .ok (.getfield 33, 3) := by decide +kernel
theorem dX6_step_58 : decode cX6_step 58 = .ok (.iload_n 1, 1) := by decide +kernel
theorem dX6_step_59 : decode cX6_step 59 = .ok (.iload 5, 2) := by decide +kernel
theorem dX6_step_61 : decode cX6_step 61 = .ok (.iastore, 1) := by decide +kernel
theorem dX6_step_62 : decode cX6_step 62 = .ok (.aload_n 0, 1) := by decide +kernel
theorem dX6_step_63 : decode cX6_step 63 = .ok (.getfield 48, 3) := by decide +kernel
theorem dX6_step_66 : decode cX6_step 66 = .ok (.iload_n 1, 1) := by decide +kernel
theorem dX6_step_67 : decode cX6_step 67 = .ok (.aload_n 0, 1) := by decide +kernel
theorem dX6_step_68 : decode cX6_step 68 = .ok (.iload 5, 2) := by decide +kernel
theorem dX6_step_70 : decode cX6_step 70 = .ok (.invokevirtual 95, 3) := by decide +kernel
theorem dX6_step_73 : decode cX6_step 73 = .ok (.ifCond .eq 8, 3) := by decide +kernel
theorem dX6_step_76 : decode cX6_step 76 = .ok (.iload 4, 2) := by decide +kernel
theorem dX6_step_78 : decode cX6_step 78 = .ok (.goto 4, 3) := by decide +kernel
theorem dX6_step_81 : decode cX6_step 81 = .ok (.iconst (-1), 1) := by decide +kernel
theorem dX6_step_82 : decode cX6_step 82 = .ok (.iastore, 1) := by decide +kernel
theorem dX6_step_83 : decode cX6_step 83 = .ok (.return_, 1) := by decide +kernel
theorem dX6_step_84 : decode cX6_step 84 = .ok (.aload_n 0, 1) := by decide +kernel
theorem dX6_step_85 : decode cX6_step 85 = .ok (.iload_n 1, 1) := by decide +kernel
theorem dX6_step_86 : decode cX6_step 86 = .ok (.iload_n 2, 1) := by decide +kernel
theorem dX6_step_87 : decode cX6_step 87 = .ok (.iload_n 3, 1) := by decide +kernel
theorem dX6_step_88 : decode cX6_step 88 = .ok (.invokevirtual 188, 3) := by decide +kernel
theorem dX6_step_91 : decode cX6_step 91 = .ok (.istore 5, 2) := by decide +kernel
theorem dX6_step_93 : decode cX6_step 93 = .ok (.aload_n 0, 1) := by decide +kernel
theorem dX6_step_94 : decode cX6_step 94 = .ok (.getfield 36, 3) := by decide +kernel
theorem dX6_step_97 : decode cX6_step 97 = .ok (.iload_n 1, 1) := by decide +kernel
theorem dX6_step_98 : decode cX6_step 98 = .ok (.aload_n 0, 1) := by decide +kernel
theorem dX6_step_99 : decode cX6_step 99 = .ok (.getfield 36, 3) := by decide +kernel
theorem dX6_step_102 : decode cX6_step 102 = .ok (.iload_n 1, 1) := by decide +kernel
theorem dX6_step_103 : decode cX6_step 103 = .ok (.iaload, 1) := by decide +kernel
theorem dX6_step_104 : decode cX6_step 104 = .ok (.iload 5, 2) := by decide +kernel
theorem dX6_step_106 : decode cX6_step 106 = .ok (.iconst 1, 1) := by decide +kernel
theorem dX6_step_107 : decode cX6_step 107 = .ok (.if_icmp .ne 7, 3) := by decide +kernel
theorem dX6_step_110 : decode cX6_step 110 = .ok (.iconst 1, 1) := by decide +kernel
theorem dX6_step_111 : decode cX6_step 111 = .ok (.goto 4, 3) := by decide +kernel
theorem dX6_step_114 : decode cX6_step 114 = .ok (.iconst 0, 1) := by decide +kernel
theorem dX6_step_115 : decode cX6_step 115 = .ok (.iload_n 3, 1) := by decide +kernel
theorem dX6_step_116 : decode cX6_step 116 = .ok (.iconst 1, 1) := by decide +kernel
theorem dX6_step_117 : decode cX6_step 117 = .ok (.if_icmp .ne 7, 3) := by decide +kernel
theorem dX6_step_120 : decode cX6_step 120 = .ok (.iconst 1, 1) := by decide +kernel
theorem dX6_step_121 : decode cX6_step 121 = .ok (.goto 4, 3) := by decide +kernel
theorem dX6_step_124 : decode cX6_step 124 = .ok (.iconst 0, 1) := by decide +kernel
theorem dX6_step_125 : decode cX6_step 125 = .ok (.if_icmp .ne 7, 3) := by decide +kernel
theorem dX6_step_128 : decode cX6_step 128 = .ok (.iconst 1, 1) := by decide +kernel
theorem dX6_step_129 : decode cX6_step 129 = .ok (.goto 4, 3) := by decide +kernel
theorem dX6_step_132 : decode cX6_step 132 = .ok (.iconst 3, 1) := by decide +kernel
theorem dX6_step_133 : decode cX6_step 133 = .ok (.iadd, 1) := by decide +kernel
theorem dX6_step_134 : decode cX6_step 134 = .ok (.iconst 4, 1) := by decide +kernel
theorem dX6_step_135 : decode cX6_step 135 = .ok (.irem, 1) := by decide +kernel
theorem dX6_step_136 : decode cX6_step 136 = .ok (.iastore, 1) := by decide +kernel
theorem dX6_step_137 : decode cX6_step 137 = .ok (.aload_n 0, 1) := by decide +kernel
theorem dX6_step_138 : decode cX6_step 138 = .ok (.getfield 39, 3) := by decide +kernel
theorem dX6_step_141 : decode cX6_step 141 = .ok (.iload_n 1, 1) := by decide +kernel
theorem dX6_step_142 : decode cX6_step 142 = .ok (.dup2, 1) := by decide +kernel
theorem dX6_step_143 : decode cX6_step 143 = .ok (.iaload, 1) := by decide +kernel
theorem dX6_step_144 : decode cX6_step 144 = .ok (.iconst 1, 1) := by decide +kernel
theorem dX6_step_145 : decode cX6_step 145 = .ok (.iadd, 1) := by decide +kernel
theorem dX6_step_146 : decode cX6_step 146 = .ok (.iastore, 1) := by decide +kernel
theorem dX6_step_147 : decode cX6_step 147 = .ok (.aload_n 0, 1) := by decide +kernel
theorem dX6_step_148 : decode cX6_step 148 = .ok (.getfield 42, 3) := by decide +kernel
theorem dX6_step_151 : decode cX6_step 151 = .ok (.iload_n 1, 1) := by decide +kernel
theorem dX6_step_152 : decode cX6_step 152 = .ok (.iload_n 3, 1) := by decide +kernel
theorem dX6_step_153 : decode cX6_step 153 = .ok (.iastore, 1) := by decide +kernel
theorem dX6_step_154 : decode cX6_step 154 = .ok (.aload_n 0, 1) := by decide +kernel
theorem dX6_step_155 : decode cX6_step 155 = .ok (.getfield 45, 3) := by decide +kernel
theorem dX6_step_158 : decode cX6_step 158 = .ok (.iload_n 1, 1) := by decide +kernel
theorem dX6_step_159 : decode cX6_step 159 = .ok (.iload 5, 2) := by decide +kernel
theorem dX6_step_161 : decode cX6_step 161 = .ok (.iastore, 1) := by decide +kernel
theorem dX6_step_162 : decode cX6_step 162 = .ok (.return_, 1) := by decide +kernel
set_option maxRecDepth 20000 in
theorem pl_wsX6_go_wsX6_go_r1 : ∀ w ∈ wsX6_go_r1, w ∈ wsX6_go := fun _ h => List.mem_cons_of_mem _ (List.mem_append_left _ (List.mem_append_left _ (h)))
theorem pl_wsX6_go_wsX60 : ∀ w ∈ wsX60, w ∈ wsX6_go := fun _ h => List.mem_cons_of_mem _ (List.mem_append_right _ (h))
theorem ggX6_go_X6_cell : GoodIn wsX6_go wsX6_cell := goodIn_sub (List.forall_mem_cons.mpr ⟨(pl_wsX6_go_wsX6_go_r1 _ (List.mem_of_getElem? (i := 5) rfl)), (fun w h => (List.mem_append.mp h).elim ((List.forall_mem_cons.mpr ⟨(pl_wsX6_go_wsX6_go_r1 _ (List.mem_of_getElem? (i := 6) rfl)), fun _ h => absurd h List.not_mem_nil⟩) w) (pl_wsX6_go_wsX60 w))⟩) (by decide +kernel)
set_option maxRecDepth 20000 in
theorem gX6_go_X6_cell : GoodIn wsX6_go (wsV RX6 88 RX6 yX6_cell wsX6_cell) := goodIn_app (goodIn_sub (List.forall_mem_cons.mpr ⟨(pl_wsX6_go_wsX6_go_r1 _ (List.mem_of_getElem? (i := 1) rfl)), List.forall_mem_cons.mpr ⟨(pl_wsX6_go_wsX6_go_r1 _ (List.mem_of_getElem? (i := 2) rfl)), List.forall_mem_cons.mpr ⟨(pl_wsX6_go_wsX6_go_r1 _ (List.mem_of_getElem? (i := 3) rfl)), List.forall_mem_cons.mpr ⟨(pl_wsX6_go_wsX6_go_r1 _ (List.mem_of_getElem? (i := 4) rfl)), fun _ h => absurd h List.not_mem_nil⟩⟩⟩⟩) (by decide +kernel)) ggX6_go_X6_cell
set_option maxRecDepth 20000 in
theorem ggX6_go_X6_faces : GoodIn wsX6_go wsX6_faces := goodIn_sub (List.forall_mem_cons.mpr ⟨(pl_wsX6_go_wsX6_go_r1 _ (List.mem_of_getElem? (i := 10) rfl)), (fun w h => (List.mem_append.mp h).elim ((List.forall_mem_cons.mpr ⟨(pl_wsX6_go_wsX6_go_r1 _ (List.mem_of_getElem? (i := 6) rfl)), fun _ h => absurd h List.not_mem_nil⟩) w) (pl_wsX6_go_wsX60 w))⟩) (by decide +kernel)
set_option maxRecDepth 20000 in
theorem gX6_go_X6_faces : GoodIn wsX6_go (wsV RX6 192 RX6 yX6_faces wsX6_faces) := goodIn_app (goodIn_sub (List.forall_mem_cons.mpr ⟨(pl_wsX6_go_wsX6_go_r1 _ (List.mem_of_getElem? (i := 7) rfl)), List.forall_mem_cons.mpr ⟨(pl_wsX6_go_wsX6_go_r1 _ (List.mem_of_getElem? (i := 8) rfl)), List.forall_mem_cons.mpr ⟨(pl_wsX6_go_wsX6_go_r1 _ (List.mem_of_getElem? (i := 9) rfl)), List.forall_mem_cons.mpr ⟨(pl_wsX6_go_wsX6_go_r1 _ (List.mem_of_getElem? (i := 4) rfl)), fun _ h => absurd h List.not_mem_nil⟩⟩⟩⟩) (by decide +kernel)) ggX6_go_X6_faces
set_option maxRecDepth 20000 in
theorem ggX6_go_X6_start : GoodIn wsX6_go wsX6_start := goodIn_sub (List.forall_mem_cons.mpr ⟨(pl_wsX6_go_wsX6_go_r1 _ (List.mem_of_getElem? (i := 14) rfl)), (fun w h => (List.mem_append.mp h).elim ((List.forall_mem_cons.mpr ⟨(pl_wsX6_go_wsX6_go_r1 _ (List.mem_of_getElem? (i := 15) rfl)), List.forall_mem_cons.mpr ⟨(pl_wsX6_go_wsX6_go_r1 _ (List.mem_of_getElem? (i := 16) rfl)), List.forall_mem_cons.mpr ⟨(pl_wsX6_go_wsX6_go_r1 _ (List.mem_of_getElem? (i := 17) rfl)), List.forall_mem_cons.mpr ⟨(pl_wsX6_go_wsX6_go_r1 _ (List.mem_of_getElem? (i := 18) rfl)), fun _ h => absurd h List.not_mem_nil⟩⟩⟩⟩) w) (pl_wsX6_go_wsX60 w))⟩) (by decide +kernel)
set_option maxRecDepth 20000 in
theorem gX6_go_X6_start : GoodIn wsX6_go (wsV RX6 195 RX6 yX6_start wsX6_start) := goodIn_app (goodIn_sub (List.forall_mem_cons.mpr ⟨(pl_wsX6_go_wsX6_go_r1 _ (List.mem_of_getElem? (i := 11) rfl)), List.forall_mem_cons.mpr ⟨(pl_wsX6_go_wsX6_go_r1 _ (List.mem_of_getElem? (i := 12) rfl)), List.forall_mem_cons.mpr ⟨(pl_wsX6_go_wsX6_go_r1 _ (List.mem_of_getElem? (i := 13) rfl)), List.forall_mem_cons.mpr ⟨(pl_wsX6_go_wsX6_go_r1 _ (List.mem_of_getElem? (i := 4) rfl)), fun _ h => absurd h List.not_mem_nil⟩⟩⟩⟩) (by decide +kernel)) ggX6_go_X6_start
set_option maxRecDepth 20000 in
theorem pl_wsX6_go_wsX6_go_r2 : ∀ w ∈ wsX6_go_r2, w ∈ wsX6_go := fun _ h => List.mem_cons_of_mem _ (List.mem_append_left _ (List.mem_append_right _ (List.mem_append_left _ (h))))
theorem pl_wsX6_go_wsX6_go_r3 : ∀ w ∈ wsX6_go_r3, w ∈ wsX6_go := fun _ h => List.mem_cons_of_mem _ (List.mem_append_left _ (List.mem_append_right _ (List.mem_append_right _ (h))))
theorem ggX6_go_X6_step : GoodIn wsX6_go wsX6_step := goodIn_sub (List.forall_mem_cons.mpr ⟨(pl_wsX6_go_wsX6_go_r1 _ (List.mem_of_getElem? (i := 22) rfl)), (fun w h => (List.mem_append.mp h).elim ((fun w h => (List.mem_append.mp h).elim ((List.forall_mem_cons.mpr ⟨(pl_wsX6_go_wsX6_go_r1 _ (List.mem_of_getElem? (i := 18) rfl)), List.forall_mem_cons.mpr ⟨(pl_wsX6_go_wsX6_go_r1 _ (List.mem_of_getElem? (i := 15) rfl)), List.forall_mem_cons.mpr ⟨(pl_wsX6_go_wsX6_go_r1 _ (List.mem_of_getElem? (i := 16) rfl)), List.forall_mem_cons.mpr ⟨(pl_wsX6_go_wsX6_go_r1 _ (List.mem_of_getElem? (i := 23) rfl)), List.forall_mem_cons.mpr ⟨(pl_wsX6_go_wsX6_go_r1 _ (List.mem_of_getElem? (i := 17) rfl)), List.forall_mem_cons.mpr ⟨(pl_wsX6_go_wsX6_go_r2 _ (List.mem_of_getElem? (i := 0) rfl)), List.forall_mem_cons.mpr ⟨(pl_wsX6_go_wsX6_go_r2 _ (List.mem_of_getElem? (i := 1) rfl)), List.forall_mem_cons.mpr ⟨(pl_wsX6_go_wsX6_go_r2 _ (List.mem_of_getElem? (i := 2) rfl)), List.forall_mem_cons.mpr ⟨(pl_wsX6_go_wsX6_go_r2 _ (List.mem_of_getElem? (i := 3) rfl)), List.forall_mem_cons.mpr ⟨(pl_wsX6_go_wsX6_go_r2 _ (List.mem_of_getElem? (i := 4) rfl)), List.forall_mem_cons.mpr ⟨(pl_wsX6_go_wsX6_go_r1 _ (List.mem_of_getElem? (i := 4) rfl)), List.forall_mem_cons.mpr ⟨(pl_wsX6_go_wsX6_go_r2 _ (List.mem_of_getElem? (i := 5) rfl)), List.forall_mem_cons.mpr ⟨(pl_wsX6_go_wsX6_go_r1 _ (List.mem_of_getElem? (i := 6) rfl)), List.forall_mem_cons.mpr ⟨(pl_wsX6_go_wsX6_go_r2 _ (List.mem_of_getElem? (i := 6) rfl)), List.forall_mem_cons.mpr ⟨(pl_wsX6_go_wsX6_go_r2 _ (List.mem_of_getElem? (i := 7) rfl)), List.forall_mem_cons.mpr ⟨(pl_wsX6_go_wsX6_go_r2 _ (List.mem_of_getElem? (i := 8) rfl)), List.forall_mem_cons.mpr ⟨(pl_wsX6_go_wsX6_go_r2 _ (List.mem_of_getElem? (i := 9) rfl)), List.forall_mem_cons.mpr ⟨(pl_wsX6_go_wsX6_go_r2 _ (List.mem_of_getElem? (i := 10) rfl)), List.forall_mem_cons.mpr ⟨(pl_wsX6_go_wsX6_go_r2 _ (List.mem_of_getElem? (i := 11) rfl)), List.forall_mem_cons.mpr ⟨(pl_wsX6_go_wsX6_go_r2 _ (List.mem_of_getElem? (i := 12) rfl)), List.forall_mem_cons.mpr ⟨(pl_wsX6_go_wsX6_go_r2 _ (List.mem_of_getElem? (i := 13) rfl)), List.forall_mem_cons.mpr ⟨(pl_wsX6_go_wsX6_go_r2 _ (List.mem_of_getElem? (i := 14) rfl)), List.forall_mem_cons.mpr ⟨(pl_wsX6_go_wsX6_go_r2 _ (List.mem_of_getElem? (i := 15) rfl)), List.forall_mem_cons.mpr ⟨(pl_wsX6_go_wsX6_go_r2 _ (List.mem_of_getElem? (i := 16) rfl)), fun _ h => absurd h List.not_mem_nil⟩⟩⟩⟩⟩⟩⟩⟩⟩⟩⟩⟩⟩⟩⟩⟩⟩⟩⟩⟩⟩⟩⟩⟩) w) ((List.forall_mem_cons.mpr ⟨(pl_wsX6_go_wsX6_go_r2 _ (List.mem_of_getElem? (i := 17) rfl)), List.forall_mem_cons.mpr ⟨(pl_wsX6_go_wsX6_go_r2 _ (List.mem_of_getElem? (i := 18) rfl)), List.forall_mem_cons.mpr ⟨(pl_wsX6_go_wsX6_go_r2 _ (List.mem_of_getElem? (i := 19) rfl)), List.forall_mem_cons.mpr ⟨(pl_wsX6_go_wsX6_go_r2 _ (List.mem_of_getElem? (i := 20) rfl)), List.forall_mem_cons.mpr ⟨(pl_wsX6_go_wsX6_go_r2 _ (List.mem_of_getElem? (i := 21) rfl)), List.forall_mem_cons.mpr ⟨(pl_wsX6_go_wsX6_go_r2 _ (List.mem_of_getElem? (i := 22) rfl)), List.forall_mem_cons.mpr ⟨(pl_wsX6_go_wsX6_go_r2 _ (List.mem_of_getElem? (i := 23) rfl)), List.forall_mem_cons.mpr ⟨(pl_wsX6_go_wsX6_go_r3 _ (List.mem_of_getElem? (i := 0) rfl)), List.forall_mem_cons.mpr ⟨(pl_wsX6_go_wsX6_go_r3 _ (List.mem_of_getElem? (i := 1) rfl)), List.forall_mem_cons.mpr ⟨(pl_wsX6_go_wsX6_go_r3 _ (List.mem_of_getElem? (i := 2) rfl)), List.forall_mem_cons.mpr ⟨(pl_wsX6_go_wsX6_go_r3 _ (List.mem_of_getElem? (i := 3) rfl)), List.forall_mem_cons.mpr ⟨(pl_wsX6_go_wsX6_go_r3 _ (List.mem_of_getElem? (i := 4) rfl)), List.forall_mem_cons.mpr ⟨(pl_wsX6_go_wsX6_go_r3 _ (List.mem_of_getElem? (i := 5) rfl)), List.forall_mem_cons.mpr ⟨(pl_wsX6_go_wsX6_go_r3 _ (List.mem_of_getElem? (i := 6) rfl)), List.forall_mem_cons.mpr ⟨(pl_wsX6_go_wsX6_go_r3 _ (List.mem_of_getElem? (i := 7) rfl)), fun _ h => absurd h List.not_mem_nil⟩⟩⟩⟩⟩⟩⟩⟩⟩⟩⟩⟩⟩⟩⟩) w)) w) (pl_wsX6_go_wsX60 w))⟩) (by decide +kernel)
set_option maxRecDepth 20000 in
theorem gX6_go_X6_step : GoodIn wsX6_go (wsV RX6 199 RX6 yX6_step wsX6_step) := goodIn_app (goodIn_sub (List.forall_mem_cons.mpr ⟨(pl_wsX6_go_wsX6_go_r1 _ (List.mem_of_getElem? (i := 19) rfl)), List.forall_mem_cons.mpr ⟨(pl_wsX6_go_wsX6_go_r1 _ (List.mem_of_getElem? (i := 20) rfl)), List.forall_mem_cons.mpr ⟨(pl_wsX6_go_wsX6_go_r1 _ (List.mem_of_getElem? (i := 21) rfl)), List.forall_mem_cons.mpr ⟨(pl_wsX6_go_wsX6_go_r1 _ (List.mem_of_getElem? (i := 4) rfl)), fun _ h => absurd h List.not_mem_nil⟩⟩⟩⟩) (by decide +kernel)) ggX6_go_X6_step
theorem dX6_go_0 : decode cX6_go 0 = .ok (.aload_n 0, 1) := by decide +kernel
theorem dX6_go_1 : decode cX6_go 1 = .ok (.iconst 0, 1) := by decide +kernel
theorem dX6_go_2 : decode cX6_go 2 = .ok (.aload_n 0, 1) := by decide +kernel
theorem dX6_go_3 : decode cX6_go 3 = .ok (.iload_n 1, 1) := by decide +kernel
theorem dX6_go_4 : decode cX6_go 4 = .ok (.invokevirtual 88, 3) := by decide +kernel
theorem dX6_go_7 : decode cX6_go 7 = .ok (.aload_n 0, 1) := by decide +kernel
theorem dX6_go_8 : decode cX6_go 8 = .ok (.iload_n 1, 1) := by decide +kernel
theorem dX6_go_9 : decode cX6_go 9 = .ok (.invokevirtual 192, 3) := by decide +kernel
theorem dX6_go_12 : decode cX6_go 12 = .ok (.invokevirtual 195, 3) := by decide +kernel
theorem dX6_go_15 : decode cX6_go 15 = .ok (.iconst 0, 1) := by decide +kernel
theorem dX6_go_16 : decode cX6_go 16 = .ok (.istore_n 3, 1) := by decide +kernel
theorem dX6_go_17 : decode cX6_go 17 = .ok (.iload_n 3, 1) := by decide +kernel
theorem dX6_go_18 : decode cX6_go 18 = .ok (.iload_n 2, 1) := by decide +kernel
theorem dX6_go_19 : decode cX6_go 19 = .ok (.if_icmp .ge 22, 3) := by decide +kernel
theorem dX6_go_22 : decode cX6_go 22 = .ok (.aload_n 0, 1) := by decide +kernel
theorem dX6_go_23 : decode cX6_go 23 = .ok (.iconst 0, 1) := by decide +kernel
theorem dX6_go_24 : decode cX6_go 24 = .ok (.iload_n 1, 1) := by decide +kernel
theorem dX6_go_25 : decode cX6_go 25 = .ok (.aload_n 0, 1) := by decide +kernel
theorem dX6_go_26 : decode cX6_go 26 = .ok (.getfield 51, 3) := by decide +kernel
theorem dX6_go_29 : decode cX6_go 29 = .ok (.iload_n 3, 1) := by decide +kernel
theorem dX6_go_30 : decode cX6_go 30 = .ok (.iaload, 1) := by decide +kernel
theorem dX6_go_31 : decode cX6_go 31 = .ok (.iload_n 3, 1) := by decide +kernel
theorem dX6_go_32 : decode cX6_go 32 = .ok (.invokevirtual 199, 3) := by decide +kernel
theorem dX6_go_35 : decode cX6_go 35 = .ok (.iinc 3 1, 3) := by decide +kernel
theorem dX6_go_38 : decode cX6_go 38 = .ok (.goto (-21), 3) := by decide +kernel
theorem dX6_go_41 : decode cX6_go 41 = .ok (.return_, 1) := by decide +kernel
set_option maxRecDepth 20000 in
theorem ggX6_isShelf_X6_isIn : GoodIn wsX6_isShelf wsX6_isIn := goodIn_sub (List.forall_mem_cons.mpr ⟨(List.mem_cons_of_mem _ (List.mem_of_getElem? (i := 4) rfl)), (fun _ h => absurd h List.not_mem_nil)⟩) (by decide +kernel)
set_option maxRecDepth 20000 in
theorem gX6_isShelf_X6_isIn : GoodIn wsX6_isShelf (va_wsS RX6 76 yX6_isIn wsX6_isIn) := goodIn_app (goodIn_sub (List.forall_mem_cons.mpr ⟨(List.mem_cons_of_mem _ (List.mem_of_getElem? (i := 1) rfl)), List.forall_mem_cons.mpr ⟨(List.mem_cons_of_mem _ (List.mem_of_getElem? (i := 2) rfl)), List.forall_mem_cons.mpr ⟨(List.mem_cons_of_mem _ (List.mem_of_getElem? (i := 3) rfl)), fun _ h => absurd h List.not_mem_nil⟩⟩⟩) (by decide +kernel)) ggX6_isShelf_X6_isIn
theorem dX6_isShelf_0 : decode cX6_isShelf 0 = .ok (.iload_n 0, 1) := by decide +kernel
theorem dX6_isShelf_1 : decode cX6_isShelf 1 = .ok (.i2l, 1) := by decide +kernel
theorem dX6_isShelf_2 : decode cX6_isShelf 2 = .ok (.lconst 0, 1) := by decide +kernel
theorem dX6_isShelf_3 : decode cX6_isShelf 3 = .ok (.ldc2_w 99, 3) := by decide +kernel
theorem dX6_isShelf_6 : decode cX6_isShelf 6 = .ok (.invokestatic 76, 3) := by decide +kernel
theorem dX6_isShelf_9 : decode cX6_isShelf 9 = .ok (.ireturn, 1) := by decide +kernel
set_option maxRecDepth 20000 in
theorem ggX6_row_X6_isShelf : GoodIn wsX6_row wsX6_isShelf := goodIn_sub (List.forall_mem_cons.mpr ⟨(List.mem_cons_of_mem _ (List.mem_append_left _ (List.mem_of_getElem? (i := 8) rfl))), (List.forall_mem_cons.mpr ⟨(List.mem_cons_of_mem _ (List.mem_append_left _ (List.mem_of_getElem? (i := 9) rfl))), List.forall_mem_cons.mpr ⟨(List.mem_cons_of_mem _ (List.mem_append_left _ (List.mem_of_getElem? (i := 10) rfl))), List.forall_mem_cons.mpr ⟨(List.mem_cons_of_mem _ (List.mem_append_left _ (List.mem_of_getElem? (i := 11) rfl))), List.forall_mem_cons.mpr ⟨(List.mem_cons_of_mem _ (List.mem_append_left _ (List.mem_of_getElem? (i := 7) rfl))), List.forall_mem_cons.mpr ⟨(List.mem_cons_of_mem _ (List.mem_append_left _ (List.mem_of_getElem? (i := 12) rfl))), fun _ h => absurd h List.not_mem_nil⟩⟩⟩⟩⟩)⟩) (by decide +kernel)
set_option maxRecDepth 20000 in
theorem gX6_row_X6_isShelf : GoodIn wsX6_row (va_wsS RX6 203 yX6_isShelf wsX6_isShelf) := goodIn_app (goodIn_sub (List.forall_mem_cons.mpr ⟨(List.mem_cons_of_mem _ (List.mem_append_left _ (List.mem_of_getElem? (i := 5) rfl))), List.forall_mem_cons.mpr ⟨(List.mem_cons_of_mem _ (List.mem_append_left _ (List.mem_of_getElem? (i := 6) rfl))), List.forall_mem_cons.mpr ⟨(List.mem_cons_of_mem _ (List.mem_append_left _ (List.mem_of_getElem? (i := 7) rfl))), fun _ h => absurd h List.not_mem_nil⟩⟩⟩) (by decide +kernel)) ggX6_row_X6_isShelf
set_option maxRecDepth 20000 in
theorem ggX6_row_X6_isIn : GoodIn wsX6_row wsX6_isIn := goodIn_sub (List.forall_mem_cons.mpr ⟨(List.mem_cons_of_mem _ (List.mem_append_left _ (List.mem_of_getElem? (i := 12) rfl))), (fun _ h => absurd h List.not_mem_nil)⟩) (by decide +kernel)
set_option maxRecDepth 20000 in
theorem gX6_row_X6_isIn : GoodIn wsX6_row (va_wsS RX6 76 yX6_isIn wsX6_isIn) := goodIn_app (goodIn_sub (List.forall_mem_cons.mpr ⟨(List.mem_cons_of_mem _ (List.mem_append_left _ (List.mem_of_getElem? (i := 10) rfl))), List.forall_mem_cons.mpr ⟨(List.mem_cons_of_mem _ (List.mem_append_left _ (List.mem_of_getElem? (i := 11) rfl))), List.forall_mem_cons.mpr ⟨(List.mem_cons_of_mem _ (List.mem_append_left _ (List.mem_of_getElem? (i := 7) rfl))), fun _ h => absurd h List.not_mem_nil⟩⟩⟩) (by decide +kernel)) ggX6_row_X6_isIn
set_option maxRecDepth 20000 in
theorem pl_wsX6_row_wsX60 : ∀ w ∈ wsX60, w ∈ wsX6_row := fun _ h => List.mem_cons_of_mem _ (List.mem_append_right _ (h))
theorem ggX6_row_X6_refuse : GoodIn wsX6_row wsX6_refuse := goodIn_sub (List.forall_mem_cons.mpr ⟨(List.mem_cons_of_mem _ (List.mem_append_left _ (List.mem_of_getElem? (i := 16) rfl))), (fun w h => (List.mem_append.mp h).elim ((List.forall_mem_cons.mpr ⟨(List.mem_cons_of_mem _ (List.mem_append_left _ (List.mem_of_getElem? (i := 17) rfl))), fun _ h => absurd h List.not_mem_nil⟩) w) (pl_wsX6_row_wsX60 w))⟩) (by decide +kernel)
set_option maxRecDepth 20000 in
theorem gX6_row_X6_refuse : GoodIn wsX6_row (wsV RX6 101 RX6 yX6_refuse wsX6_refuse) := goodIn_app (goodIn_sub (List.forall_mem_cons.mpr ⟨(List.mem_cons_of_mem _ (List.mem_append_left _ (List.mem_of_getElem? (i := 13) rfl))), List.forall_mem_cons.mpr ⟨(List.mem_cons_of_mem _ (List.mem_append_left _ (List.mem_of_getElem? (i := 14) rfl))), List.forall_mem_cons.mpr ⟨(List.mem_cons_of_mem _ (List.mem_append_left _ (List.mem_of_getElem? (i := 15) rfl))), List.forall_mem_cons.mpr ⟨(List.mem_cons_of_mem _ (List.mem_append_left _ (List.mem_of_getElem? (i := 7) rfl))), fun _ h => absurd h List.not_mem_nil⟩⟩⟩⟩) (by decide +kernel)) ggX6_row_X6_refuse
theorem dX6_row_0 : decode cX6_row 0 = .ok (.iload_n 1, 1) := by decide +kernel
theorem dX6_row_1 : decode cX6_row 1 = .ok (.invokestatic 203, 3) := by decide +kernel
theorem dX6_row_4 : decode cX6_row 4 = .ok (.ifCond .eq 27, 3) := by decide +kernel
theorem dX6_row_7 : decode cX6_row 7 = .ok (.iload_n 2, 1) := by decide +kernel
theorem dX6_row_8 : decode cX6_row 8 = .ok (.i2l, 1) := by decide +kernel
theorem dX6_row_9 : decode cX6_row 9 = .ok (.lconst 0, 1) := by decide +kernel
theorem dX6_row_10 : decode cX6_row 10 = .ok (.ldc2_w 206, 3) := by decide +kernel
theorem dX6_row_13 : decode cX6_row 13 = .ok (.invokestatic 76, 3) := by decide +kernel
theorem dX6_row_16 : decode cX6_row 16 = .ok (.ifCond .eq 15, 3) := by decide +kernel
theorem dX6_row_19 : decode cX6_row 19 = .ok (.iload_n 3, 1) := by decide +kernel
theorem dX6_row_20 : decode cX6_row 20 = .ok (.i2l, 1) := by decide +kernel
theorem dX6_row_21 : decode cX6_row 21 = .ok (.lconst 0, 1) := by decide +kernel
theorem dX6_row_22 : decode cX6_row 22 = .ok (.ldc2_w 208, 3) := by decide +kernel
theorem dX6_row_25 : decode cX6_row 25 = .ok (.invokestatic 76, 3) := by decide +kernel
theorem dX6_row_28 : decode cX6_row 28 = .ok (.ifCond .ne 10, 3) := by decide +kernel
theorem dX6_row_31 : decode cX6_row 31 = .ok (.aload_n 0, 1) := by decide +kernel
theorem dX6_row_32 : decode cX6_row 32 = .ok (.bipush (-2), 2) := by decide +kernel
theorem dX6_row_34 : decode cX6_row 34 = .ok (.invokevirtual 101, 3) := by decide +kernel
theorem dX6_row_37 : decode cX6_row 37 = .ok (.ireturn, 1) := by decide +kernel
theorem dX6_row_38 : decode cX6_row 38 = .ok (.aload_n 0, 1) := by decide +kernel
theorem dX6_row_39 : decode cX6_row 39 = .ok (.getfield 54, 3) := by decide +kernel
theorem dX6_row_42 : decode cX6_row 42 = .ok (.iload_n 1, 1) := by decide +kernel
theorem dX6_row_43 : decode cX6_row 43 = .ok (.iload_n 2, 1) := by decide +kernel
theorem dX6_row_44 : decode cX6_row 44 = .ok (.iastore, 1) := by decide +kernel
theorem dX6_row_45 : decode cX6_row 45 = .ok (.aload_n 0, 1) := by decide +kernel
theorem dX6_row_46 : decode cX6_row 46 = .ok (.getfield 57, 3) := by decide +kernel
theorem dX6_row_49 : decode cX6_row 49 = .ok (.iload_n 1, 1) := by decide +kernel
theorem dX6_row_50 : decode cX6_row 50 = .ok (.iload_n 3, 1) := by decide +kernel
theorem dX6_row_51 : decode cX6_row 51 = .ok (.iastore, 1) := by decide +kernel
theorem dX6_row_52 : decode cX6_row 52 = .ok (.iconst 0, 1) := by decide +kernel
theorem dX6_row_53 : decode cX6_row 53 = .ok (.istore 4, 2) := by decide +kernel
theorem dX6_row_55 : decode cX6_row 55 = .ok (.iload 4, 2) := by decide +kernel
theorem dX6_row_57 : decode cX6_row 57 = .ok (.bipush 40, 2) := by decide +kernel
theorem dX6_row_59 : decode cX6_row 59 = .ok (.if_icmp .ge 22, 3) := by decide +kernel
theorem dX6_row_62 : decode cX6_row 62 = .ok (.aload_n 0, 1) := by decide +kernel
theorem dX6_row_63 : decode cX6_row 63 = .ok (.getfield 60, 3) := by decide +kernel
theorem dX6_row_66 : decode cX6_row 66 = .ok (.bipush 40, 2) := by decide +kernel
theorem dX6_row_68 : decode cX6_row 68 = .ok (.iload_n 1, 1) := by decide +kernel
theorem dX6_row_69 : decode cX6_row 69 = .ok (.imul, 1) := by decide +kernel
theorem dX6_row_70 : decode cX6_row 70 = .ok (.iload 4, 2) := by decide +kernel
theorem dX6_row_72 : decode cX6_row 72 = .ok (.iadd, 1) := by decide +kernel
theorem dX6_row_73 : decode cX6_row 73 = .ok (.lconst 0, 1) := by decide +kernel
theorem dX6_row_74 : decode cX6_row 74 = .ok (.lastore, 1) := by decide +kernel
theorem dX6_row_75 : decode cX6_row 75 = .ok (.iinc 4 1, 3) := by decide +kernel
theorem dX6_row_78 : decode cX6_row 78 = .ok (.goto (-23), 3) := by decide +kernel
theorem dX6_row_81 : decode cX6_row 81 = .ok (.iconst 1, 1) := by decide +kernel
theorem dX6_row_82 : decode cX6_row 82 = .ok (.ireturn, 1) := by decide +kernel
theorem dX6_rowIn_0 : decode cX6_rowIn 0 = .ok (.aload_n 0, 1) := by decide +kernel
theorem dX6_rowIn_1 : decode cX6_rowIn 1 = .ok (.getfield 54, 3) := by decide +kernel
theorem dX6_rowIn_4 : decode cX6_rowIn 4 = .ok (.iload_n 1, 1) := by decide +kernel
theorem dX6_rowIn_5 : decode cX6_rowIn 5 = .ok (.iaload, 1) := by decide +kernel
theorem dX6_rowIn_6 : decode cX6_rowIn 6 = .ok (.bipush 10, 2) := by decide +kernel
theorem dX6_rowIn_8 : decode cX6_rowIn 8 = .ok (.if_icmp .lt 8, 3) := by decide +kernel
theorem dX6_rowIn_11 : decode cX6_rowIn 11 = .ok (.bipush (-3), 2) := by decide +kernel
theorem dX6_rowIn_13 : decode cX6_rowIn 13 = .ok (.goto 19, 3) := by decide +kernel
theorem dX6_rowIn_16 : decode cX6_rowIn 16 = .ok (.aload_n 0, 1) := by decide +kernel
theorem dX6_rowIn_17 : decode cX6_rowIn 17 = .ok (.getfield 54, 3) := by decide +kernel
theorem dX6_rowIn_20 : decode cX6_rowIn 20 = .ok (.iload_n 1, 1) := by decide +kernel
theorem dX6_rowIn_21 : decode cX6_rowIn 21 = .ok (.iaload, 1) := by decide +kernel
theorem dX6_rowIn_22 : decode cX6_rowIn 22 = .ok (.iconst (-1), 1) := by decide +kernel
theorem dX6_rowIn_23 : decode cX6_rowIn 23 = .ok (.if_icmp .ne 8, 3) := by decide +kernel
theorem dX6_rowIn_26 : decode cX6_rowIn 26 = .ok (.bipush (-4), 2) := by decide +kernel
theorem dX6_rowIn_28 : decode cX6_rowIn 28 = .ok (.goto 4, 3) := by decide +kernel
theorem dX6_rowIn_31 : decode cX6_rowIn 31 = .ok (.iconst 1, 1) := by decide +kernel
theorem dX6_rowIn_32 : decode cX6_rowIn 32 = .ok (.ireturn, 1) := by decide +kernel
set_option maxRecDepth 20000 in
theorem ggX6_set_X6_isShelf : GoodIn wsX6_set wsX6_isShelf := goodIn_sub (List.forall_mem_cons.mpr ⟨(List.mem_cons_of_mem _ (List.mem_append_left _ (List.mem_of_getElem? (i := 6) rfl))), (List.forall_mem_cons.mpr ⟨(List.mem_cons_of_mem _ (List.mem_append_left _ (List.mem_of_getElem? (i := 7) rfl))), List.forall_mem_cons.mpr ⟨(List.mem_cons_of_mem _ (List.mem_append_left _ (List.mem_of_getElem? (i := 8) rfl))), List.forall_mem_cons.mpr ⟨(List.mem_cons_of_mem _ (List.mem_append_left _ (List.mem_of_getElem? (i := 9) rfl))), List.forall_mem_cons.mpr ⟨(List.mem_cons_of_mem _ (List.mem_append_left _ (List.mem_of_getElem? (i := 5) rfl))), List.forall_mem_cons.mpr ⟨(List.mem_cons_of_mem _ (List.mem_append_left _ (List.mem_of_getElem? (i := 10) rfl))), fun _ h => absurd h List.not_mem_nil⟩⟩⟩⟩⟩)⟩) (by decide +kernel)
set_option maxRecDepth 20000 in
theorem gX6_set_X6_isShelf : GoodIn wsX6_set (va_wsS RX6 203 yX6_isShelf wsX6_isShelf) := goodIn_app (goodIn_sub (List.forall_mem_cons.mpr ⟨(List.mem_cons_of_mem _ (List.mem_append_left _ (List.mem_of_getElem? (i := 3) rfl))), List.forall_mem_cons.mpr ⟨(List.mem_cons_of_mem _ (List.mem_append_left _ (List.mem_of_getElem? (i := 4) rfl))), List.forall_mem_cons.mpr ⟨(List.mem_cons_of_mem _ (List.mem_append_left _ (List.mem_of_getElem? (i := 5) rfl))), fun _ h => absurd h List.not_mem_nil⟩⟩⟩) (by decide +kernel)) ggX6_set_X6_isShelf
set_option maxRecDepth 20000 in
theorem pl_wsX6_set_wsX60 : ∀ w ∈ wsX60, w ∈ wsX6_set := fun _ h => List.mem_cons_of_mem _ (List.mem_append_right _ (h))
theorem ggX6_set_X6_refuse : GoodIn wsX6_set wsX6_refuse := goodIn_sub (List.forall_mem_cons.mpr ⟨(List.mem_cons_of_mem _ (List.mem_append_left _ (List.mem_of_getElem? (i := 14) rfl))), (fun w h => (List.mem_append.mp h).elim ((List.forall_mem_cons.mpr ⟨(List.mem_cons_of_mem _ (List.mem_append_left _ (List.mem_of_getElem? (i := 15) rfl))), fun _ h => absurd h List.not_mem_nil⟩) w) (pl_wsX6_set_wsX60 w))⟩) (by decide +kernel)
set_option maxRecDepth 20000 in
theorem gX6_set_X6_refuse : GoodIn wsX6_set (wsV RX6 101 RX6 yX6_refuse wsX6_refuse) := goodIn_app (goodIn_sub (List.forall_mem_cons.mpr ⟨(List.mem_cons_of_mem _ (List.mem_append_left _ (List.mem_of_getElem? (i := 11) rfl))), List.forall_mem_cons.mpr ⟨(List.mem_cons_of_mem _ (List.mem_append_left _ (List.mem_of_getElem? (i := 12) rfl))), List.forall_mem_cons.mpr ⟨(List.mem_cons_of_mem _ (List.mem_append_left _ (List.mem_of_getElem? (i := 13) rfl))), List.forall_mem_cons.mpr ⟨(List.mem_cons_of_mem _ (List.mem_append_left _ (List.mem_of_getElem? (i := 5) rfl))), fun _ h => absurd h List.not_mem_nil⟩⟩⟩⟩) (by decide +kernel)) ggX6_set_X6_refuse
set_option maxRecDepth 20000 in
theorem ggX6_set_X6_rowIn : GoodIn wsX6_set wsX6_rowIn := goodIn_sub (List.forall_mem_cons.mpr ⟨(List.mem_cons_of_mem _ (List.mem_append_left _ (List.mem_of_getElem? (i := 19) rfl))), (fun w h => (List.mem_append.mp h).elim ((List.forall_mem_cons.mpr ⟨(List.mem_cons_of_mem _ (List.mem_append_left _ (List.mem_of_getElem? (i := 1) rfl))), fun _ h => absurd h List.not_mem_nil⟩) w) (pl_wsX6_set_wsX60 w))⟩) (by decide +kernel)
set_option maxRecDepth 20000 in
theorem gX6_set_X6_rowIn : GoodIn wsX6_set (wsV RX6 210 RX6 yX6_rowIn wsX6_rowIn) := goodIn_app (goodIn_sub (List.forall_mem_cons.mpr ⟨(List.mem_cons_of_mem _ (List.mem_append_left _ (List.mem_of_getElem? (i := 16) rfl))), List.forall_mem_cons.mpr ⟨(List.mem_cons_of_mem _ (List.mem_append_left _ (List.mem_of_getElem? (i := 17) rfl))), List.forall_mem_cons.mpr ⟨(List.mem_cons_of_mem _ (List.mem_append_left _ (List.mem_of_getElem? (i := 18) rfl))), List.forall_mem_cons.mpr ⟨(List.mem_cons_of_mem _ (List.mem_append_left _ (List.mem_of_getElem? (i := 5) rfl))), fun _ h => absurd h List.not_mem_nil⟩⟩⟩⟩) (by decide +kernel)) ggX6_set_X6_rowIn
set_option maxRecDepth 20000 in
theorem ggX6_set_X6_isIn : GoodIn wsX6_set wsX6_isIn := goodIn_sub (List.forall_mem_cons.mpr ⟨(List.mem_cons_of_mem _ (List.mem_append_left _ (List.mem_of_getElem? (i := 10) rfl))), (fun _ h => absurd h List.not_mem_nil)⟩) (by decide +kernel)
set_option maxRecDepth 20000 in
theorem gX6_set_X6_isIn : GoodIn wsX6_set (va_wsS RX6 76 yX6_isIn wsX6_isIn) := goodIn_app (goodIn_sub (List.forall_mem_cons.mpr ⟨(List.mem_cons_of_mem _ (List.mem_append_left _ (List.mem_of_getElem? (i := 8) rfl))), List.forall_mem_cons.mpr ⟨(List.mem_cons_of_mem _ (List.mem_append_left _ (List.mem_of_getElem? (i := 9) rfl))), List.forall_mem_cons.mpr ⟨(List.mem_cons_of_mem _ (List.mem_append_left _ (List.mem_of_getElem? (i := 5) rfl))), fun _ h => absurd h List.not_mem_nil⟩⟩⟩) (by decide +kernel)) ggX6_set_X6_isIn
theorem dX6_set_0 : decode cX6_set 0 = .ok (.iload_n 1, 1) := by decide +kernel
theorem dX6_set_1 : decode cX6_set 1 = .ok (.invokestatic 203, 3) := by decide +kernel
theorem dX6_set_4 : decode cX6_set 4 = .ok (.ifCond .ne 10, 3) := by decide +kernel
theorem dX6_set_7 : decode cX6_set 7 = .ok (.aload_n 0, 1) := by decide +kernel
theorem dX6_set_8 : decode cX6_set 8 = .ok (.bipush (-2), 2) := by decide +kernel
theorem dX6_set_10 : decode cX6_set 10 = .ok (.invokevirtual 101, 3) := by decide +kernel
theorem dX6_set_13 : decode cX6_set 13 = .ok (.ireturn, 1) := by decide +kernel
theorem dX6_set_14 : decode cX6_set 14 = .ok (.aload_n 0, 1) := by decide +kernel
theorem dX6_set_15 : decode cX6_set 15 = .ok (.iload_n 1, 1) := by decide +kernel
theorem dX6_set_16 : decode cX6_set 16 = .ok (.invokevirtual 210, 3) := by decide +kernel
theorem dX6_set_19 : decode cX6_set 19 = .ok (.ifCond .ge 13, 3) := by decide +kernel
theorem dX6_set_22 : decode cX6_set 22 = .ok (.aload_n 0, 1) := by decide +kernel
theorem dX6_set_23 : decode cX6_set 23 = .ok (.aload_n 0, 1) := by decide +kernel
theorem dX6_set_24 : decode cX6_set 24 = .ok (.iload_n 1, 1) := by decide +kernel
theorem dX6_set_25 : decode cX6_set 25 = .ok (.invokevirtual 210, 3) := by decide +kernel
theorem dX6_set_28 : decode cX6_set 28 = .ok (.invokevirtual 101, 3) := by decide +kernel
theorem dX6_set_31 : decode cX6_set 31 = .ok (.ireturn, 1) := by decide +kernel
theorem dX6_set_32 : decode cX6_set 32 = .ok (.iload_n 2, 1) := by decide +kernel
theorem dX6_set_33 : decode cX6_set 33 = .ok (.i2l, 1) := by decide +kernel
theorem dX6_set_34 : decode cX6_set 34 = .ok (.lconst 0, 1) := by decide +kernel
theorem dX6_set_35 : decode cX6_set 35 = .ok (.aload_n 0, 1) := by decide +kernel
theorem dX6_set_36 : decode cX6_set 36 = .ok (.getfield 57, 3) := by decide +kernel
theorem dX6_set_39 : decode cX6_set 39 = .ok (.iload_n 1, 1) := by decide +kernel
theorem dX6_set_40 : decode cX6_set 40 = .ok (.iaload, 1) := by decide +kernel
theorem dX6_set_41 : decode cX6_set 41 = .ok (.iconst 1, 1) := by decide +kernel
theorem dX6_set_42 : decode cX6_set 42 = .ok (.isub, 1) := by decide +kernel
theorem dX6_set_43 : decode cX6_set 43 = .ok (.i2l, 1) := by decide +kernel
theorem dX6_set_44 : decode cX6_set 44 = .ok (.invokestatic 76, 3) := by decide +kernel
theorem dX6_set_47 : decode cX6_set 47 = .ok (.ifCond .ne 10, 3) := by decide +kernel
theorem dX6_set_50 : decode cX6_set 50 = .ok (.aload_n 0, 1) := by decide +kernel
theorem dX6_set_51 : decode cX6_set 51 = .ok (.bipush (-2), 2) := by decide +kernel
theorem dX6_set_53 : decode cX6_set 53 = .ok (.invokevirtual 101, 3) := by decide +kernel
theorem dX6_set_56 : decode cX6_set 56 = .ok (.ireturn, 1) := by decide +kernel
theorem dX6_set_57 : decode cX6_set 57 = .ok (.aload_n 0, 1) := by decide +kernel
theorem dX6_set_58 : decode cX6_set 58 = .ok (.getfield 54, 3) := by decide +kernel
theorem dX6_set_61 : decode cX6_set 61 = .ok (.iload_n 1, 1) := by decide +kernel
theorem dX6_set_62 : decode cX6_set 62 = .ok (.iaload, 1) := by decide +kernel
theorem dX6_set_63 : decode cX6_set 63 = .ok (.istore 5, 2) := by decide +kernel
theorem dX6_set_65 : decode cX6_set 65 = .ok (.aload_n 0, 1) := by decide +kernel
theorem dX6_set_66 : decode cX6_set 66 = .ok (.getfield 60, 3) := by decide +kernel
theorem dX6_set_69 : decode cX6_set 69 = .ok (.bipush 40, 2) := by decide +kernel
theorem dX6_set_71 : decode cX6_set 71 = .ok (.iload_n 1, 1) := by decide +kernel
theorem dX6_set_72 : decode cX6_set 72 = .ok (.imul, 1) := by decide +kernel
theorem dX6_set_73 : decode cX6_set 73 = .ok (.iload_n 2, 1) := by decide +kernel
theorem dX6_set_74 : decode cX6_set 74 = .ok (.iadd, 1) := by decide +kernel
theorem dX6_set_75 : decode cX6_set 75 = .ok (.iload 5, 2) := by decide +kernel
theorem dX6_set_77 : decode cX6_set 77 = .ok (.ifCond .ne 10, 3) := by decide +kernel
theorem dX6_set_80 : decode cX6_set 80 = .ok (.lload_n 3, 1) := by decide +kernel
theorem dX6_set_81 : decode cX6_set 81 = .ok (.l2i, 1) := by decide +kernel
theorem dX6_set_82 : decode cX6_set 82 = .ok (.i2b, 1) := by decide +kernel
theorem dX6_set_83 : decode cX6_set 83 = .ok (.i2l, 1) := by decide +kernel
theorem dX6_set_84 : decode cX6_set 84 = .ok (.goto 49, 3) := by decide +kernel
theorem dX6_set_87 : decode cX6_set 87 = .ok (.iload 5, 2) := by decide +kernel
theorem dX6_set_89 : decode cX6_set 89 = .ok (.iconst 1, 1) := by decide +kernel
theorem dX6_set_90 : decode cX6_set 90 = .ok (.if_icmp .ne 10, 3) := by decide +kernel
theorem dX6_set_93 : decode cX6_set 93 = .ok (.lload_n 3, 1) := by decide +kernel
theorem dX6_set_94 : decode cX6_set 94 = .ok (.l2i, 1) := by decide +kernel
theorem dX6_set_95 : decode cX6_set 95 = .ok (.i2s, 1) := by decide +kernel
theorem dX6_set_96 : decode cX6_set 96 = .ok (.i2l, 1) := by decide +kernel
theorem dX6_set_97 : decode cX6_set 97 = .ok (.goto 36, 3) := by decide +kernel
theorem dX6_set_100 : decode cX6_set 100 = .ok (.iload 5, 2) := by decide +kernel
theorem dX6_set_102 : decode cX6_set 102 = .ok (.iconst 2, 1) := by decide +kernel
theorem dX6_set_103 : decode cX6_set 103 = .ok (.if_icmp .ne 9, 3) := by decide +kernel
theorem dX6_set_106 : decode cX6_set 106 = .ok (.lload_n 3, 1) := by decide +kernel
theorem dX6_set_107 : decode cX6_set 107 = .ok (.l2i, 1) := by decide +kernel
theorem dX6_set_108 : decode cX6_set 108 = .ok (.i2l, 1) := by decide +kernel
theorem dX6_set_109 : decode cX6_set 109 = .ok (.goto 24, 3) := by decide +kernel
theorem dX6_set_112 : decode cX6_set 112 = .ok (.iload 5, 2) := by decide +kernel
theorem dX6_set_114 : decode cX6_set 114 = .ok (.iconst 3, 1) := by decide +kernel
theorem dX6_set_115 : decode cX6_set 115 = .ok (.if_icmp .ne 7, 3) := by decide +kernel
theorem dX6_set_118 : decode cX6_set 118 = .ok (.lload_n 3, 1) := by decide +kernel
theorem dX6_set_119 : decode cX6_set 119 = .ok (.goto 14, 3) := by decide +kernel
theorem dX6_set_122 : decode cX6_set 122 = .ok (.lload_n 3, 1) := by decide +kernel
theorem dX6_set_123 : decode cX6_set 123 = .ok (.lconst 0, 1) := by decide +kernel
theorem dX6_set_124 : decode cX6_set 124 = .ok (.lcmp, 1) := by decide +kernel
theorem dX6_set_125 : decode cX6_set 125 = .ok (.ifCond .eq 7, 3) := by decide +kernel
theorem dX6_set_128 : decode cX6_set 128 = .ok (.lconst 1, 1) := by decide +kernel
theorem dX6_set_129 : decode cX6_set 129 = .ok (.goto 4, 3) := by decide +kernel
theorem dX6_set_132 : decode cX6_set 132 = .ok (.lconst 0, 1) := by decide +kernel
theorem dX6_set_133 : decode cX6_set 133 = .ok (.lastore, 1) := by decide +kernel
theorem dX6_set_134 : decode cX6_set 134 = .ok (.iconst 1, 1) := by decide +kernel
theorem dX6_set_135 : decode cX6_set 135 = .ok (.ireturn, 1) := by decide +kernel
set_option maxRecDepth 20000 in
theorem ggX6_copy_X6_isShelf : GoodIn wsX6_copy wsX6_isShelf := goodIn_sub (List.forall_mem_cons.mpr ⟨(List.mem_cons_of_mem _ (List.mem_append_left _ (List.mem_of_getElem? (i := 7) rfl))), (List.forall_mem_cons.mpr ⟨(List.mem_cons_of_mem _ (List.mem_append_left _ (List.mem_of_getElem? (i := 8) rfl))), List.forall_mem_cons.mpr ⟨(List.mem_cons_of_mem _ (List.mem_append_left _ (List.mem_of_getElem? (i := 9) rfl))), List.forall_mem_cons.mpr ⟨(List.mem_cons_of_mem _ (List.mem_append_left _ (List.mem_of_getElem? (i := 10) rfl))), List.forall_mem_cons.mpr ⟨(List.mem_cons_of_mem _ (List.mem_append_left _ (List.mem_of_getElem? (i := 6) rfl))), List.forall_mem_cons.mpr ⟨(List.mem_cons_of_mem _ (List.mem_append_left _ (List.mem_of_getElem? (i := 11) rfl))), fun _ h => absurd h List.not_mem_nil⟩⟩⟩⟩⟩)⟩) (by decide +kernel)
set_option maxRecDepth 20000 in
theorem gX6_copy_X6_isShelf : GoodIn wsX6_copy (va_wsS RX6 203 yX6_isShelf wsX6_isShelf) := goodIn_app (goodIn_sub (List.forall_mem_cons.mpr ⟨(List.mem_cons_of_mem _ (List.mem_append_left _ (List.mem_of_getElem? (i := 4) rfl))), List.forall_mem_cons.mpr ⟨(List.mem_cons_of_mem _ (List.mem_append_left _ (List.mem_of_getElem? (i := 5) rfl))), List.forall_mem_cons.mpr ⟨(List.mem_cons_of_mem _ (List.mem_append_left _ (List.mem_of_getElem? (i := 6) rfl))), fun _ h => absurd h List.not_mem_nil⟩⟩⟩) (by decide +kernel)) ggX6_copy_X6_isShelf
set_option maxRecDepth 20000 in
theorem pl_wsX6_copy_wsX60 : ∀ w ∈ wsX60, w ∈ wsX6_copy := fun _ h => List.mem_cons_of_mem _ (List.mem_append_right _ (h))
theorem ggX6_copy_X6_refuse : GoodIn wsX6_copy wsX6_refuse := goodIn_sub (List.forall_mem_cons.mpr ⟨(List.mem_cons_of_mem _ (List.mem_append_left _ (List.mem_of_getElem? (i := 15) rfl))), (fun w h => (List.mem_append.mp h).elim ((List.forall_mem_cons.mpr ⟨(List.mem_cons_of_mem _ (List.mem_append_left _ (List.mem_of_getElem? (i := 16) rfl))), fun _ h => absurd h List.not_mem_nil⟩) w) (pl_wsX6_copy_wsX60 w))⟩) (by decide +kernel)
set_option maxRecDepth 20000 in
theorem gX6_copy_X6_refuse : GoodIn wsX6_copy (wsV RX6 101 RX6 yX6_refuse wsX6_refuse) := goodIn_app (goodIn_sub (List.forall_mem_cons.mpr ⟨(List.mem_cons_of_mem _ (List.mem_append_left _ (List.mem_of_getElem? (i := 12) rfl))), List.forall_mem_cons.mpr ⟨(List.mem_cons_of_mem _ (List.mem_append_left _ (List.mem_of_getElem? (i := 13) rfl))), List.forall_mem_cons.mpr ⟨(List.mem_cons_of_mem _ (List.mem_append_left _ (List.mem_of_getElem? (i := 14) rfl))), List.forall_mem_cons.mpr ⟨(List.mem_cons_of_mem _ (List.mem_append_left _ (List.mem_of_getElem? (i := 6) rfl))), fun _ h => absurd h List.not_mem_nil⟩⟩⟩⟩) (by decide +kernel)) ggX6_copy_X6_refuse
theorem dX6_copy_0 : decode cX6_copy 0 = .ok (.iload_n 1, 1) := by decide +kernel
theorem dX6_copy_1 : decode cX6_copy 1 = .ok (.invokestatic 203, 3) := by decide +kernel
theorem dX6_copy_4 : decode cX6_copy 4 = .ok (.ifCond .eq 10, 3) := by decide +kernel
theorem dX6_copy_7 : decode cX6_copy 7 = .ok (.iload_n 2, 1) := by decide +kernel
theorem dX6_copy_8 : decode cX6_copy 8 = .ok (.invokestatic 203, 3) := by decide +kernel
theorem dX6_copy_11 : decode cX6_copy 11 = .ok (.ifCond .ne 10, 3) := by decide +kernel
theorem dX6_copy_14 : decode cX6_copy 14 = .ok (.aload_n 0, 1) := by decide +kernel
theorem dX6_copy_15 : decode cX6_copy 15 = .ok (.bipush (-2), 2) := by decide +kernel
theorem dX6_copy_17 : decode cX6_copy 17 = .ok (.invokevirtual 101, 3) := by decide +kernel
theorem dX6_copy_20 : decode cX6_copy 20 = .ok (.ireturn, 1) := by decide +kernel
theorem dX6_copy_21 : decode cX6_copy 21 = .ok (.aload_n 0, 1) := by decide +kernel
theorem dX6_copy_22 : decode cX6_copy 22 = .ok (.getfield 54, 3) := by decide +kernel
theorem dX6_copy_25 : decode cX6_copy 25 = .ok (.iload_n 1, 1) := by decide +kernel
theorem dX6_copy_26 : decode cX6_copy 26 = .ok (.iaload, 1) := by decide +kernel
theorem dX6_copy_27 : decode cX6_copy 27 = .ok (.iconst (-1), 1) := by decide +kernel
theorem dX6_copy_28 : decode cX6_copy 28 = .ok (.if_icmp .eq 17, 3) := by decide +kernel
theorem dX6_copy_31 : decode cX6_copy 31 = .ok (.aload_n 0, 1) := by decide +kernel
theorem dX6_copy_32 : decode cX6_copy 32 = .ok (.getfield 54, 3) := by decide +kernel
theorem dX6_copy_35 : decode cX6_copy 35 = .ok (.iload_n 2, 1) := by decide +kernel
theorem dX6_copy_36 : decode cX6_copy 36 = .ok (.iaload, 1) := by decide +kernel
theorem dX6_copy_37 : decode cX6_copy 37 = .ok (.iconst (-1), 1) := by decide +kernel
theorem dX6_copy_38 : decode cX6_copy 38 = .ok (.if_icmp .eq 7, 3) := by decide +kernel
theorem dX6_copy_41 : decode cX6_copy 41 = .ok (.iconst 1, 1) := by decide +kernel
theorem dX6_copy_42 : decode cX6_copy 42 = .ok (.goto 4, 3) := by decide +kernel
theorem dX6_copy_45 : decode cX6_copy 45 = .ok (.iconst 0, 1) := by decide +kernel
theorem dX6_copy_46 : decode cX6_copy 46 = .ok (.istore 6, 2) := by decide +kernel
theorem dX6_copy_48 : decode cX6_copy 48 = .ok (.aload_n 0, 1) := by decide +kernel
theorem dX6_copy_49 : decode cX6_copy 49 = .ok (.getfield 54, 3) := by decide +kernel
theorem dX6_copy_52 : decode cX6_copy 52 = .ok (.iload_n 1, 1) := by decide +kernel
theorem dX6_copy_53 : decode cX6_copy 53 = .ok (.iaload, 1) := by decide +kernel
theorem dX6_copy_54 : decode cX6_copy 54 = .ok (.bipush 10, 2) := by decide +kernel
theorem dX6_copy_56 : decode cX6_copy 56 = .ok (.if_icmp .ge 34, 3) := by decide +kernel
theorem dX6_copy_59 : decode cX6_copy 59 = .ok (.aload_n 0, 1) := by decide +kernel
theorem dX6_copy_60 : decode cX6_copy 60 = .ok (.getfield 54, 3) := by decide +kernel
theorem dX6_copy_63 : decode cX6_copy 63 = .ok (.iload_n 2, 1) := by decide +kernel
theorem dX6_copy_64 : decode cX6_copy 64 = .ok (.iaload, 1) := by decide +kernel
theorem dX6_copy_65 : decode cX6_copy 65 = .ok (.bipush 10, 2) := by decide +kernel
theorem dX6_copy_67 : decode cX6_copy 67 = .ok (.if_icmp .ge 23, 3) := by decide +kernel
theorem dX6_copy_70 : decode cX6_copy 70 = .ok (.iload 6, 2) := by decide +kernel
theorem dX6_copy_72 : decode cX6_copy 72 = .ok (.ifCond .eq 25, 3) := by decide +kernel
theorem dX6_copy_75 : decode cX6_copy 75 = .ok (.aload_n 0, 1) := by decide +kernel
theorem dX6_copy_76 : decode cX6_copy 76 = .ok (.getfield 54, 3) := by decide +kernel
theorem dX6_copy_79 : decode cX6_copy 79 = .ok (.iload_n 1, 1) := by decide +kernel
theorem dX6_copy_80 : decode cX6_copy 80 = .ok (.iaload, 1) := by decide +kernel
theorem dX6_copy_81 : decode cX6_copy 81 = .ok (.aload_n 0, 1) := by decide +kernel
theorem dX6_copy_82 : decode cX6_copy 82 = .ok (.getfield 54, 3) := by decide +kernel
theorem dX6_copy_85 : decode cX6_copy 85 = .ok (.iload_n 2, 1) := by decide +kernel
theorem dX6_copy_86 : decode cX6_copy 86 = .ok (.iaload, 1) := by decide +kernel
theorem dX6_copy_87 : decode cX6_copy 87 = .ok (.if_icmp .eq 10, 3) := by decide +kernel
theorem dX6_copy_90 : decode cX6_copy 90 = .ok (.aload_n 0, 1) := by decide +kernel
theorem dX6_copy_91 : decode cX6_copy 91 = .ok (.bipush (-3), 2) := by decide +kernel
theorem dX6_copy_93 : decode cX6_copy 93 = .ok (.invokevirtual 101, 3) := by decide +kernel
theorem dX6_copy_96 : decode cX6_copy 96 = .ok (.ireturn, 1) := by decide +kernel
theorem dX6_copy_97 : decode cX6_copy 97 = .ok (.iload 6, 2) := by decide +kernel
theorem dX6_copy_99 : decode cX6_copy 99 = .ok (.ifCond .ne 10, 3) := by decide +kernel
theorem dX6_copy_102 : decode cX6_copy 102 = .ok (.aload_n 0, 1) := by decide +kernel
theorem dX6_copy_103 : decode cX6_copy 103 = .ok (.bipush (-4), 2) := by decide +kernel
theorem dX6_copy_105 : decode cX6_copy 105 = .ok (.invokevirtual 101, 3) := by decide +kernel
theorem dX6_copy_108 : decode cX6_copy 108 = .ok (.ireturn, 1) := by decide +kernel
theorem dX6_copy_109 : decode cX6_copy 109 = .ok (.iload 5, 2) := by decide +kernel
theorem dX6_copy_111 : decode cX6_copy 111 = .ok (.ifCond .lt 39, 3) := by decide +kernel
theorem dX6_copy_114 : decode cX6_copy 114 = .ok (.iload_n 3, 1) := by decide +kernel
theorem dX6_copy_115 : decode cX6_copy 115 = .ok (.ifCond .lt 35, 3) := by decide +kernel
theorem dX6_copy_118 : decode cX6_copy 118 = .ok (.iload 4, 2) := by decide +kernel
theorem dX6_copy_120 : decode cX6_copy 120 = .ok (.ifCond .lt 30, 3) := by decide +kernel
theorem dX6_copy_123 : decode cX6_copy 123 = .ok (.iload 5, 2) := by decide +kernel
theorem dX6_copy_125 : decode cX6_copy 125 = .ok (.aload_n 0, 1) := by decide +kernel
theorem dX6_copy_126 : decode cX6_copy 126 = .ok (.getfield 57, 3) := by decide +kernel
theorem dX6_copy_129 : decode cX6_copy 129 = .ok (.iload_n 1, 1) := by decide +kernel
theorem dX6_copy_130 : decode cX6_copy 130 = .ok (.iaload, 1) := by decide +kernel
theorem dX6_copy_131 : decode cX6_copy 131 = .ok (.iload_n 3, 1) := by decide +kernel
theorem dX6_copy_132 : decode cX6_copy 132 = .ok (.isub, 1) := by decide +kernel
theorem dX6_copy_133 : decode cX6_copy 133 = .ok (.if_icmp .gt 17, 3) := by decide +kernel
theorem dX6_copy_136 : decode cX6_copy 136 = .ok (.iload 5, 2) := by decide +kernel
theorem dX6_copy_138 : decode cX6_copy 138 = .ok (.aload_n 0, 1) := by decide +kernel
theorem dX6_copy_139 : decode cX6_copy 139 = .ok (.getfield 57, 3) := by decide +kernel
theorem dX6_copy_142 : decode cX6_copy 142 = .ok (.iload_n 2, 1) := by decide +kernel
theorem dX6_copy_143 : decode cX6_copy 143 = .ok (.iaload, 1) := by decide +kernel
theorem dX6_copy_144 : decode cX6_copy 144 = .ok (.iload 4, 2) := by decide +kernel
theorem dX6_copy_146 : decode cX6_copy 146 = .ok (.isub, 1) := by decide +kernel
theorem dX6_copy_147 : decode cX6_copy 147 = .ok (.if_icmp .le 10, 3) := by decide +kernel
theorem dX6_copy_150 : decode cX6_copy 150 = .ok (.aload_n 0, 1) := by decide +kernel
theorem dX6_copy_151 : decode cX6_copy 151 = .ok (.bipush (-2), 2) := by decide +kernel
theorem dX6_copy_153 : decode cX6_copy 153 = .ok (.invokevirtual 101, 3) := by decide +kernel
theorem dX6_copy_156 : decode cX6_copy 156 = .ok (.ireturn, 1) := by decide +kernel
theorem dX6_copy_157 : decode cX6_copy 157 = .ok (.iconst 0, 1) := by decide +kernel
theorem dX6_copy_158 : decode cX6_copy 158 = .ok (.istore 7, 2) := by decide +kernel
theorem dX6_copy_160 : decode cX6_copy 160 = .ok (.iload 7, 2) := by decide +kernel
theorem dX6_copy_162 : decode cX6_copy 162 = .ok (.iload 5, 2) := by decide +kernel
theorem dX6_copy_164 : decode cX6_copy 164 = .ok (.if_icmp .ge 30, 3) := by decide +kernel
theorem dX6_copy_167 : decode cX6_copy 167 = .ok (.aload_n 0, 1) := by decide +kernel
theorem dX6_copy_168 : decode cX6_copy 168 = .ok (.getfield 64, 3) := by decide +kernel
theorem dX6_copy_171 : decode cX6_copy 171 = .ok (.iload 7, 2) := by decide +kernel
theorem dX6_copy_173 : decode cX6_copy 173 = .ok (.aload_n 0, 1) := by decide +kernel
theorem dX6_copy_174 : decode cX6_copy 174 = .ok (.getfield 60, 3) := by decide +kernel
theorem dX6_copy_177 : decode cX6_copy 177 = .ok (.bipush 40, 2) := by decide +kernel
theorem dX6_copy_179 : decode cX6_copy 179 = .ok (.iload_n 1, 1) := by decide +kernel
theorem dX6_copy_180 : decode cX6_copy 180 = .ok (.imul, 1) := by decide +kernel
theorem dX6_copy_181 : decode cX6_copy 181 = .ok (.iload_n 3, 1) := by decide +kernel
theorem dX6_copy_182 : decode cX6_copy 182 = .ok (.iadd, 1) := by decide +kernel
theorem dX6_copy_183 : decode cX6_copy 183 = .ok (.iload 7, 2) := by decide +kernel
theorem dX6_copy_185 : decode cX6_copy 185 = .ok (.iadd, 1) := by decide +kernel
theorem dX6_copy_186 : decode cX6_copy 186 = .ok (.laload, 1) := by decide +kernel
theorem dX6_copy_187 : decode cX6_copy 187 = .ok (.lastore, 1) := by decide +kernel
theorem dX6_copy_188 : decode cX6_copy 188 = .ok (.iinc 7 1, 3) := by decide +kernel
theorem dX6_copy_191 : decode cX6_copy 191 = .ok (.goto (-31), 3) := by decide +kernel
theorem dX6_copy_194 : decode cX6_copy 194 = .ok (.iconst 0, 1) := by decide +kernel
theorem dX6_copy_195 : decode cX6_copy 195 = .ok (.istore 7, 2) := by decide +kernel
theorem dX6_copy_197 : decode cX6_copy 197 = .ok (.iload 7, 2) := by decide +kernel
theorem dX6_copy_199 : decode cX6_copy 199 = .ok (.iload 5, 2) := by decide +kernel
theorem dX6_copy_201 : decode cX6_copy 201 = .ok (.if_icmp .ge 31, 3) := by decide +kernel
theorem dX6_copy_204 : decode cX6_copy 204 = .ok (.aload_n 0, 1) := by decide +kernel
theorem dX6_copy_205 : decode cX6_copy 205 = .ok (.getfield 60, 3) := by decide +kernel
theorem dX6_copy_208 : decode cX6_copy 208 = .ok (.bipush 40, 2) := by decide +kernel
theorem dX6_copy_210 : decode cX6_copy 210 = .ok (.iload_n 2, 1) := by decide +kernel
theorem dX6_copy_211 : decode cX6_copy 211 = .ok (.imul, 1) := by decide +kernel
theorem dX6_copy_212 : decode cX6_copy 212 = .ok (.iload 4, 2) := by decide +kernel
theorem dX6_copy_214 : decode cX6_copy 214 = .ok (.iadd, 1) := by decide +kernel
theorem dX6_copy_215 : decode cX6_copy 215 = .ok (.iload 7, 2) := by decide +kernel
theorem dX6_copy_217 : decode cX6_copy 217 = .ok (.iadd, 1) := by decide +kernel
theorem dX6_copy_218 : decode cX6_copy 218 = .ok (.aload_n 0, 1) := by decide +kernel
theorem dX6_copy_219 : decode cX6_copy 219 = .ok (.getfield 64, 3) := by decide +kernel
theorem dX6_copy_222 : decode cX6_copy 222 = .ok (.iload 7, 2) := by decide +kernel
theorem dX6_copy_224 : decode cX6_copy 224 = .ok (.laload, 1) := by decide +kernel
theorem dX6_copy_225 : decode cX6_copy 225 = .ok (.lastore, 1) := by decide +kernel
theorem dX6_copy_226 : decode cX6_copy 226 = .ok (.iinc 7 1, 3) := by decide +kernel
theorem dX6_copy_229 : decode cX6_copy 229 = .ok (.goto (-32), 3) := by decide +kernel
theorem dX6_copy_232 : decode cX6_copy 232 = .ok (.iload 5, 2) := by decide +kernel
theorem dX6_copy_234 : decode cX6_copy 234 = .ok (.ireturn, 1) := by decide +kernel
set_option maxRecDepth 20000 in
theorem ggX6_element_X6_isShelf : GoodIn wsX6_element wsX6_isShelf := goodIn_sub (List.forall_mem_cons.mpr ⟨(List.mem_cons_of_mem _ (List.mem_append_left _ (List.mem_of_getElem? (i := 7) rfl))), (List.forall_mem_cons.mpr ⟨(List.mem_cons_of_mem _ (List.mem_append_left _ (List.mem_of_getElem? (i := 8) rfl))), List.forall_mem_cons.mpr ⟨(List.mem_cons_of_mem _ (List.mem_append_left _ (List.mem_of_getElem? (i := 9) rfl))), List.forall_mem_cons.mpr ⟨(List.mem_cons_of_mem _ (List.mem_append_left _ (List.mem_of_getElem? (i := 10) rfl))), List.forall_mem_cons.mpr ⟨(List.mem_cons_of_mem _ (List.mem_append_left _ (List.mem_of_getElem? (i := 6) rfl))), List.forall_mem_cons.mpr ⟨(List.mem_cons_of_mem _ (List.mem_append_left _ (List.mem_of_getElem? (i := 11) rfl))), fun _ h => absurd h List.not_mem_nil⟩⟩⟩⟩⟩)⟩) (by decide +kernel)
set_option maxRecDepth 20000 in
theorem gX6_element_X6_isShelf : GoodIn wsX6_element (va_wsS RX6 203 yX6_isShelf wsX6_isShelf) := goodIn_app (goodIn_sub (List.forall_mem_cons.mpr ⟨(List.mem_cons_of_mem _ (List.mem_append_left _ (List.mem_of_getElem? (i := 4) rfl))), List.forall_mem_cons.mpr ⟨(List.mem_cons_of_mem _ (List.mem_append_left _ (List.mem_of_getElem? (i := 5) rfl))), List.forall_mem_cons.mpr ⟨(List.mem_cons_of_mem _ (List.mem_append_left _ (List.mem_of_getElem? (i := 6) rfl))), fun _ h => absurd h List.not_mem_nil⟩⟩⟩) (by decide +kernel)) ggX6_element_X6_isShelf
set_option maxRecDepth 20000 in
theorem ggX6_element_X6_isIn : GoodIn wsX6_element wsX6_isIn := goodIn_sub (List.forall_mem_cons.mpr ⟨(List.mem_cons_of_mem _ (List.mem_append_left _ (List.mem_of_getElem? (i := 11) rfl))), (fun _ h => absurd h List.not_mem_nil)⟩) (by decide +kernel)
set_option maxRecDepth 20000 in
theorem gX6_element_X6_isIn : GoodIn wsX6_element (va_wsS RX6 76 yX6_isIn wsX6_isIn) := goodIn_app (goodIn_sub (List.forall_mem_cons.mpr ⟨(List.mem_cons_of_mem _ (List.mem_append_left _ (List.mem_of_getElem? (i := 9) rfl))), List.forall_mem_cons.mpr ⟨(List.mem_cons_of_mem _ (List.mem_append_left _ (List.mem_of_getElem? (i := 10) rfl))), List.forall_mem_cons.mpr ⟨(List.mem_cons_of_mem _ (List.mem_append_left _ (List.mem_of_getElem? (i := 6) rfl))), fun _ h => absurd h List.not_mem_nil⟩⟩⟩) (by decide +kernel)) ggX6_element_X6_isIn
theorem dX6_element_0 : decode cX6_element 0 = .ok (.iload_n 1, 1) := by decide +kernel
theorem dX6_element_1 : decode cX6_element 1 = .ok (.invokestatic 203, 3) := by decide +kernel
theorem dX6_element_4 : decode cX6_element 4 = .ok (.ifCond .eq 52, 3) := by decide +kernel
theorem dX6_element_7 : decode cX6_element 7 = .ok (.aload_n 0, 1) := by decide +kernel
theorem dX6_element_8 : decode cX6_element 8 = .ok (.getfield 54, 3) := by decide +kernel
theorem dX6_element_11 : decode cX6_element 11 = .ok (.iload_n 1, 1) := by decide +kernel
theorem dX6_element_12 : decode cX6_element 12 = .ok (.iaload, 1) := by decide +kernel
theorem dX6_element_13 : decode cX6_element 13 = .ok (.i2l, 1) := by decide +kernel
theorem dX6_element_14 : decode cX6_element 14 = .ok (.lconst 0, 1) := by decide +kernel
theorem dX6_element_15 : decode cX6_element 15 = .ok (.ldc2_w 206, 3) := by decide +kernel
theorem dX6_element_18 : decode cX6_element 18 = .ok (.invokestatic 76, 3) := by decide +kernel
theorem dX6_element_21 : decode cX6_element 21 = .ok (.ifCond .eq 35, 3) := by decide +kernel
theorem dX6_element_24 : decode cX6_element 24 = .ok (.iload_n 2, 1) := by decide +kernel
theorem dX6_element_25 : decode cX6_element 25 = .ok (.i2l, 1) := by decide +kernel
theorem dX6_element_26 : decode cX6_element 26 = .ok (.lconst 0, 1) := by decide +kernel
theorem dX6_element_27 : decode cX6_element 27 = .ok (.aload_n 0, 1) := by decide +kernel
theorem dX6_element_28 : decode cX6_element 28 = .ok (.getfield 57, 3) := by decide +kernel
theorem dX6_element_31 : decode cX6_element 31 = .ok (.iload_n 1, 1) := by decide +kernel
theorem dX6_element_32 : decode cX6_element 32 = .ok (.iaload, 1) := by decide +kernel
theorem dX6_element_33 : decode cX6_element 33 = .ok (.iconst 1, 1) := by decide +kernel
theorem dX6_element_34 : decode cX6_element 34 = .ok (.isub, 1) := by decide +kernel
theorem dX6_element_35 : decode cX6_element 35 = .ok (.i2l, 1) := by decide +kernel
theorem dX6_element_36 : decode cX6_element 36 = .ok (.invokestatic 76, 3) := by decide +kernel
theorem dX6_element_39 : decode cX6_element 39 = .ok (.ifCond .eq 17, 3) := by decide +kernel
theorem dX6_element_42 : decode cX6_element 42 = .ok (.aload_n 0, 1) := by decide +kernel
theorem dX6_element_43 : decode cX6_element 43 = .ok (.getfield 60, 3) := by decide +kernel
theorem dX6_element_46 : decode cX6_element 46 = .ok (.bipush 40, 2) := by decide +kernel
theorem dX6_element_48 : decode cX6_element 48 = .ok (.iload_n 1, 1) := by decide +kernel
theorem dX6_element_49 : decode cX6_element 49 = .ok (.imul, 1) := by decide +kernel
theorem dX6_element_50 : decode cX6_element 50 = .ok (.iload_n 2, 1) := by decide +kernel
theorem dX6_element_51 : decode cX6_element 51 = .ok (.iadd, 1) := by decide +kernel
theorem dX6_element_52 : decode cX6_element 52 = .ok (.laload, 1) := by decide +kernel
theorem dX6_element_53 : decode cX6_element 53 = .ok (.goto 4, 3) := by decide +kernel
theorem dX6_element_56 : decode cX6_element 56 = .ok (.lconst 0, 1) := by decide +kernel
theorem dX6_element_57 : decode cX6_element 57 = .ok (.lreturn, 1) := by decide +kernel
set_option maxRecDepth 20000 in
theorem ggX6_holds_X6_isShelf : GoodIn wsX6_holds wsX6_isShelf := goodIn_sub (List.forall_mem_cons.mpr ⟨(List.mem_cons_of_mem _ (List.mem_append_left _ (List.mem_of_getElem? (i := 4) rfl))), (List.forall_mem_cons.mpr ⟨(List.mem_cons_of_mem _ (List.mem_append_left _ (List.mem_of_getElem? (i := 5) rfl))), List.forall_mem_cons.mpr ⟨(List.mem_cons_of_mem _ (List.mem_append_left _ (List.mem_of_getElem? (i := 6) rfl))), List.forall_mem_cons.mpr ⟨(List.mem_cons_of_mem _ (List.mem_append_left _ (List.mem_of_getElem? (i := 7) rfl))), List.forall_mem_cons.mpr ⟨(List.mem_cons_of_mem _ (List.mem_append_left _ (List.mem_of_getElem? (i := 3) rfl))), List.forall_mem_cons.mpr ⟨(List.mem_cons_of_mem _ (List.mem_append_left _ (List.mem_of_getElem? (i := 8) rfl))), fun _ h => absurd h List.not_mem_nil⟩⟩⟩⟩⟩)⟩) (by decide +kernel)
set_option maxRecDepth 20000 in
theorem gX6_holds_X6_isShelf : GoodIn wsX6_holds (va_wsS RX6 203 yX6_isShelf wsX6_isShelf) := goodIn_app (goodIn_sub (List.forall_mem_cons.mpr ⟨(List.mem_cons_of_mem _ (List.mem_append_left _ (List.mem_of_getElem? (i := 1) rfl))), List.forall_mem_cons.mpr ⟨(List.mem_cons_of_mem _ (List.mem_append_left _ (List.mem_of_getElem? (i := 2) rfl))), List.forall_mem_cons.mpr ⟨(List.mem_cons_of_mem _ (List.mem_append_left _ (List.mem_of_getElem? (i := 3) rfl))), fun _ h => absurd h List.not_mem_nil⟩⟩⟩) (by decide +kernel)) ggX6_holds_X6_isShelf
theorem dX6_holds_0 : decode cX6_holds 0 = .ok (.iload_n 1, 1) := by decide +kernel
theorem dX6_holds_1 : decode cX6_holds 1 = .ok (.invokestatic 203, 3) := by decide +kernel
theorem dX6_holds_4 : decode cX6_holds 4 = .ok (.ifCond .eq 12, 3) := by decide +kernel
theorem dX6_holds_7 : decode cX6_holds 7 = .ok (.aload_n 0, 1) := by decide +kernel
theorem dX6_holds_8 : decode cX6_holds 8 = .ok (.getfield 54, 3) := by decide +kernel
theorem dX6_holds_11 : decode cX6_holds 11 = .ok (.iload_n 1, 1) := by decide +kernel
theorem dX6_holds_12 : decode cX6_holds 12 = .ok (.iaload, 1) := by decide +kernel
theorem dX6_holds_13 : decode cX6_holds 13 = .ok (.goto 4, 3) := by decide +kernel
theorem dX6_holds_16 : decode cX6_holds 16 = .ok (.iconst (-1), 1) := by decide +kernel
theorem dX6_holds_17 : decode cX6_holds 17 = .ok (.ireturn, 1) := by decide +kernel
set_option maxRecDepth 20000 in
theorem ggX6_show_X6_isShelf : GoodIn wsX6_show wsX6_isShelf := goodIn_sub (List.forall_mem_cons.mpr ⟨(List.mem_cons_of_mem _ (List.mem_append_left _ (List.mem_of_getElem? (i := 4) rfl))), (List.forall_mem_cons.mpr ⟨(List.mem_cons_of_mem _ (List.mem_append_left _ (List.mem_of_getElem? (i := 5) rfl))), List.forall_mem_cons.mpr ⟨(List.mem_cons_of_mem _ (List.mem_append_left _ (List.mem_of_getElem? (i := 6) rfl))), List.forall_mem_cons.mpr ⟨(List.mem_cons_of_mem _ (List.mem_append_left _ (List.mem_of_getElem? (i := 7) rfl))), List.forall_mem_cons.mpr ⟨(List.mem_cons_of_mem _ (List.mem_append_left _ (List.mem_of_getElem? (i := 3) rfl))), List.forall_mem_cons.mpr ⟨(List.mem_cons_of_mem _ (List.mem_append_left _ (List.mem_of_getElem? (i := 8) rfl))), fun _ h => absurd h List.not_mem_nil⟩⟩⟩⟩⟩)⟩) (by decide +kernel)
set_option maxRecDepth 20000 in
theorem gX6_show_X6_isShelf : GoodIn wsX6_show (va_wsS RX6 203 yX6_isShelf wsX6_isShelf) := goodIn_app (goodIn_sub (List.forall_mem_cons.mpr ⟨(List.mem_cons_of_mem _ (List.mem_append_left _ (List.mem_of_getElem? (i := 1) rfl))), List.forall_mem_cons.mpr ⟨(List.mem_cons_of_mem _ (List.mem_append_left _ (List.mem_of_getElem? (i := 2) rfl))), List.forall_mem_cons.mpr ⟨(List.mem_cons_of_mem _ (List.mem_append_left _ (List.mem_of_getElem? (i := 3) rfl))), fun _ h => absurd h List.not_mem_nil⟩⟩⟩) (by decide +kernel)) ggX6_show_X6_isShelf
set_option maxRecDepth 20000 in
theorem pl_wsX6_show_wsX60 : ∀ w ∈ wsX60, w ∈ wsX6_show := fun _ h => List.mem_cons_of_mem _ (List.mem_append_right _ (h))
theorem ggX6_show_X6_isPerson : GoodIn wsX6_show wsX6_isPerson := goodIn_sub (List.forall_mem_cons.mpr ⟨(List.mem_cons_of_mem _ (List.mem_append_left _ (List.mem_of_getElem? (i := 12) rfl))), (fun w h => (List.mem_append.mp h).elim ((List.forall_mem_cons.mpr ⟨(List.mem_cons_of_mem _ (List.mem_append_left _ (List.mem_of_getElem? (i := 13) rfl))), List.forall_mem_cons.mpr ⟨(List.mem_cons_of_mem _ (List.mem_append_left _ (List.mem_of_getElem? (i := 6) rfl))), List.forall_mem_cons.mpr ⟨(List.mem_cons_of_mem _ (List.mem_append_left _ (List.mem_of_getElem? (i := 7) rfl))), List.forall_mem_cons.mpr ⟨(List.mem_cons_of_mem _ (List.mem_append_left _ (List.mem_of_getElem? (i := 3) rfl))), List.forall_mem_cons.mpr ⟨(List.mem_cons_of_mem _ (List.mem_append_left _ (List.mem_of_getElem? (i := 8) rfl))), fun _ h => absurd h List.not_mem_nil⟩⟩⟩⟩⟩) w) (pl_wsX6_show_wsX60 w))⟩) (by decide +kernel)
set_option maxRecDepth 20000 in
theorem gX6_show_X6_isPerson : GoodIn wsX6_show (wsV RX6 124 RX6 yX6_isPerson wsX6_isPerson) := goodIn_app (goodIn_sub (List.forall_mem_cons.mpr ⟨(List.mem_cons_of_mem _ (List.mem_append_left _ (List.mem_of_getElem? (i := 9) rfl))), List.forall_mem_cons.mpr ⟨(List.mem_cons_of_mem _ (List.mem_append_left _ (List.mem_of_getElem? (i := 10) rfl))), List.forall_mem_cons.mpr ⟨(List.mem_cons_of_mem _ (List.mem_append_left _ (List.mem_of_getElem? (i := 11) rfl))), List.forall_mem_cons.mpr ⟨(List.mem_cons_of_mem _ (List.mem_append_left _ (List.mem_of_getElem? (i := 3) rfl))), fun _ h => absurd h List.not_mem_nil⟩⟩⟩⟩) (by decide +kernel)) ggX6_show_X6_isPerson
set_option maxRecDepth 20000 in
theorem ggX6_show_X6_refuse : GoodIn wsX6_show wsX6_refuse := goodIn_sub (List.forall_mem_cons.mpr ⟨(List.mem_cons_of_mem _ (List.mem_append_left _ (List.mem_of_getElem? (i := 17) rfl))), (fun w h => (List.mem_append.mp h).elim ((List.forall_mem_cons.mpr ⟨(List.mem_cons_of_mem _ (List.mem_append_left _ (List.mem_of_getElem? (i := 18) rfl))), fun _ h => absurd h List.not_mem_nil⟩) w) (pl_wsX6_show_wsX60 w))⟩) (by decide +kernel)
set_option maxRecDepth 20000 in
theorem gX6_show_X6_refuse : GoodIn wsX6_show (wsV RX6 101 RX6 yX6_refuse wsX6_refuse) := goodIn_app (goodIn_sub (List.forall_mem_cons.mpr ⟨(List.mem_cons_of_mem _ (List.mem_append_left _ (List.mem_of_getElem? (i := 14) rfl))), List.forall_mem_cons.mpr ⟨(List.mem_cons_of_mem _ (List.mem_append_left _ (List.mem_of_getElem? (i := 15) rfl))), List.forall_mem_cons.mpr ⟨(List.mem_cons_of_mem _ (List.mem_append_left _ (List.mem_of_getElem? (i := 16) rfl))), List.forall_mem_cons.mpr ⟨(List.mem_cons_of_mem _ (List.mem_append_left _ (List.mem_of_getElem? (i := 3) rfl))), fun _ h => absurd h List.not_mem_nil⟩⟩⟩⟩) (by decide +kernel)) ggX6_show_X6_refuse
theorem dX6_show_0 : decode cX6_show 0 = .ok (.iload_n 1, 1) := by decide +kernel
theorem dX6_show_1 : decode cX6_show 1 = .ok (.invokestatic 203, 3) := by decide +kernel
theorem dX6_show_4 : decode cX6_show 4 = .ok (.ifCond .eq 16, 3) := by decide +kernel
theorem dX6_show_7 : decode cX6_show 7 = .ok (.iload_n 2, 1) := by decide +kernel
theorem dX6_show_8 : decode cX6_show 8 = .ok (.iconst (-1), 1) := by decide +kernel
theorem dX6_show_9 : decode cX6_show 9 = .ok (.if_icmp .eq 18, 3) := by decide +kernel
theorem dX6_show_12 : decode cX6_show 12 = .ok (.aload_n 0, 1) := by decide +kernel
theorem dX6_show_13 : decode cX6_show 13 = .ok (.iload_n 2, 1) := by decide +kernel
theorem dX6_show_14 : decode cX6_show 14 = .ok (.invokevirtual 124, 3) := by decide +kernel
theorem dX6_show_17 : decode cX6_show 17 = .ok (.ifCond .ne 10, 3) := by decide +kernel
theorem dX6_show_20 : decode cX6_show 20 = .ok (.aload_n 0, 1) := by decide +kernel
theorem dX6_show_21 : decode cX6_show 21 = .ok (.bipush (-2), 2) := by decide +kernel
theorem dX6_show_23 : decode cX6_show 23 = .ok (.invokevirtual 101, 3) := by decide +kernel
theorem dX6_show_26 : decode cX6_show 26 = .ok (.ireturn, 1) := by decide +kernel
theorem dX6_show_27 : decode cX6_show 27 = .ok (.aload_n 0, 1) := by decide +kernel
theorem dX6_show_28 : decode cX6_show 28 = .ok (.getfield 54, 3) := by decide +kernel
theorem dX6_show_31 : decode cX6_show 31 = .ok (.iload_n 1, 1) := by decide +kernel
theorem dX6_show_32 : decode cX6_show 32 = .ok (.iload_n 2, 1) := by decide +kernel
theorem dX6_show_33 : decode cX6_show 33 = .ok (.iconst (-1), 1) := by decide +kernel
theorem dX6_show_34 : decode cX6_show 34 = .ok (.if_icmp .ne 7, 3) := by decide +kernel
theorem dX6_show_37 : decode cX6_show 37 = .ok (.iconst (-1), 1) := by decide +kernel
theorem dX6_show_38 : decode cX6_show 38 = .ok (.goto 7, 3) := by decide +kernel
theorem dX6_show_41 : decode cX6_show 41 = .ok (.bipush 10, 2) := by decide +kernel
theorem dX6_show_43 : decode cX6_show 43 = .ok (.iload_n 2, 1) := by decide +kernel
theorem dX6_show_44 : decode cX6_show 44 = .ok (.iadd, 1) := by decide +kernel
theorem dX6_show_45 : decode cX6_show 45 = .ok (.iastore, 1) := by decide +kernel
theorem dX6_show_46 : decode cX6_show 46 = .ok (.iconst 1, 1) := by decide +kernel
theorem dX6_show_47 : decode cX6_show 47 = .ok (.ireturn, 1) := by decide +kernel
set_option maxRecDepth 20000 in
theorem pl_wsX6_says_wsX6_says_r1 : ∀ w ∈ wsX6_says_r1, w ∈ wsX6_says := fun _ h => List.mem_cons_of_mem _ (List.mem_append_left _ (List.mem_append_left _ (h)))
theorem ggX6_says_X6_isShelf : GoodIn wsX6_says wsX6_isShelf := goodIn_sub (List.forall_mem_cons.mpr ⟨(pl_wsX6_says_wsX6_says_r1 _ (List.mem_of_getElem? (i := 7) rfl)), (List.forall_mem_cons.mpr ⟨(pl_wsX6_says_wsX6_says_r1 _ (List.mem_of_getElem? (i := 8) rfl)), List.forall_mem_cons.mpr ⟨(pl_wsX6_says_wsX6_says_r1 _ (List.mem_of_getElem? (i := 9) rfl)), List.forall_mem_cons.mpr ⟨(pl_wsX6_says_wsX6_says_r1 _ (List.mem_of_getElem? (i := 10) rfl)), List.forall_mem_cons.mpr ⟨(pl_wsX6_says_wsX6_says_r1 _ (List.mem_of_getElem? (i := 6) rfl)), List.forall_mem_cons.mpr ⟨(pl_wsX6_says_wsX6_says_r1 _ (List.mem_of_getElem? (i := 11) rfl)), fun _ h => absurd h List.not_mem_nil⟩⟩⟩⟩⟩)⟩) (by decide +kernel)
set_option maxRecDepth 20000 in
theorem gX6_says_X6_isShelf : GoodIn wsX6_says (va_wsS RX6 203 yX6_isShelf wsX6_isShelf) := goodIn_app (goodIn_sub (List.forall_mem_cons.mpr ⟨(pl_wsX6_says_wsX6_says_r1 _ (List.mem_of_getElem? (i := 4) rfl)), List.forall_mem_cons.mpr ⟨(pl_wsX6_says_wsX6_says_r1 _ (List.mem_of_getElem? (i := 5) rfl)), List.forall_mem_cons.mpr ⟨(pl_wsX6_says_wsX6_says_r1 _ (List.mem_of_getElem? (i := 6) rfl)), fun _ h => absurd h List.not_mem_nil⟩⟩⟩) (by decide +kernel)) ggX6_says_X6_isShelf
set_option maxRecDepth 20000 in
theorem ggX6_says_X6_isIn : GoodIn wsX6_says wsX6_isIn := goodIn_sub (List.forall_mem_cons.mpr ⟨(pl_wsX6_says_wsX6_says_r1 _ (List.mem_of_getElem? (i := 11) rfl)), (fun _ h => absurd h List.not_mem_nil)⟩) (by decide +kernel)
set_option maxRecDepth 20000 in
theorem gX6_says_X6_isIn : GoodIn wsX6_says (va_wsS RX6 76 yX6_isIn wsX6_isIn) := goodIn_app (goodIn_sub (List.forall_mem_cons.mpr ⟨(pl_wsX6_says_wsX6_says_r1 _ (List.mem_of_getElem? (i := 9) rfl)), List.forall_mem_cons.mpr ⟨(pl_wsX6_says_wsX6_says_r1 _ (List.mem_of_getElem? (i := 10) rfl)), List.forall_mem_cons.mpr ⟨(pl_wsX6_says_wsX6_says_r1 _ (List.mem_of_getElem? (i := 6) rfl)), fun _ h => absurd h List.not_mem_nil⟩⟩⟩) (by decide +kernel)) ggX6_says_X6_isIn
set_option maxRecDepth 20000 in
theorem pl_wsX6_says_wsX60 : ∀ w ∈ wsX60, w ∈ wsX6_says := fun _ h => List.mem_cons_of_mem _ (List.mem_append_right _ (h))
theorem ggX6_says_X6_refuse : GoodIn wsX6_says wsX6_refuse := goodIn_sub (List.forall_mem_cons.mpr ⟨(pl_wsX6_says_wsX6_says_r1 _ (List.mem_of_getElem? (i := 15) rfl)), (fun w h => (List.mem_append.mp h).elim ((List.forall_mem_cons.mpr ⟨(pl_wsX6_says_wsX6_says_r1 _ (List.mem_of_getElem? (i := 16) rfl)), fun _ h => absurd h List.not_mem_nil⟩) w) (pl_wsX6_says_wsX60 w))⟩) (by decide +kernel)
set_option maxRecDepth 20000 in
theorem gX6_says_X6_refuse : GoodIn wsX6_says (wsV RX6 101 RX6 yX6_refuse wsX6_refuse) := goodIn_app (goodIn_sub (List.forall_mem_cons.mpr ⟨(pl_wsX6_says_wsX6_says_r1 _ (List.mem_of_getElem? (i := 12) rfl)), List.forall_mem_cons.mpr ⟨(pl_wsX6_says_wsX6_says_r1 _ (List.mem_of_getElem? (i := 13) rfl)), List.forall_mem_cons.mpr ⟨(pl_wsX6_says_wsX6_says_r1 _ (List.mem_of_getElem? (i := 14) rfl)), List.forall_mem_cons.mpr ⟨(pl_wsX6_says_wsX6_says_r1 _ (List.mem_of_getElem? (i := 6) rfl)), fun _ h => absurd h List.not_mem_nil⟩⟩⟩⟩) (by decide +kernel)) ggX6_says_X6_refuse
set_option maxRecDepth 20000 in
theorem ggX6_says_X6_kind : GoodIn wsX6_says wsX6_kind := goodIn_sub (List.forall_mem_cons.mpr ⟨(pl_wsX6_says_wsX6_says_r1 _ (List.mem_of_getElem? (i := 20) rfl)), (fun w h => (List.mem_append.mp h).elim ((List.forall_mem_cons.mpr ⟨(pl_wsX6_says_wsX6_says_r1 _ (List.mem_of_getElem? (i := 21) rfl)), fun _ h => absurd h List.not_mem_nil⟩) w) (pl_wsX6_says_wsX60 w))⟩) (by decide +kernel)
set_option maxRecDepth 20000 in
theorem gX6_says_X6_kind : GoodIn wsX6_says (wsV RX6 179 RX6 yX6_kind wsX6_kind) := goodIn_app (goodIn_sub (List.forall_mem_cons.mpr ⟨(pl_wsX6_says_wsX6_says_r1 _ (List.mem_of_getElem? (i := 17) rfl)), List.forall_mem_cons.mpr ⟨(pl_wsX6_says_wsX6_says_r1 _ (List.mem_of_getElem? (i := 18) rfl)), List.forall_mem_cons.mpr ⟨(pl_wsX6_says_wsX6_says_r1 _ (List.mem_of_getElem? (i := 19) rfl)), List.forall_mem_cons.mpr ⟨(pl_wsX6_says_wsX6_says_r1 _ (List.mem_of_getElem? (i := 6) rfl)), fun _ h => absurd h List.not_mem_nil⟩⟩⟩⟩) (by decide +kernel)) ggX6_says_X6_kind
set_option maxRecDepth 20000 in
theorem pl_wsX6_says_wsX6_says_r2 : ∀ w ∈ wsX6_says_r2, w ∈ wsX6_says := fun _ h => List.mem_cons_of_mem _ (List.mem_append_left _ (List.mem_append_right _ (List.mem_append_left _ (h))))
theorem ggX6_says_X6_a : GoodIn wsX6_says wsX6_a := goodIn_sub (List.forall_mem_cons.mpr ⟨(pl_wsX6_says_wsX6_says_r2 _ (List.mem_of_getElem? (i := 1) rfl)), (fun w h => (List.mem_append.mp h).elim ((List.forall_mem_cons.mpr ⟨(pl_wsX6_says_wsX6_says_r1 _ (List.mem_of_getElem? (i := 21) rfl)), fun _ h => absurd h List.not_mem_nil⟩) w) (pl_wsX6_says_wsX60 w))⟩) (by decide +kernel)
set_option maxRecDepth 20000 in
theorem gX6_says_X6_a : GoodIn wsX6_says (wsV RX6 213 RX6 yX6_a wsX6_a) := goodIn_app (goodIn_sub (List.forall_mem_cons.mpr ⟨(pl_wsX6_says_wsX6_says_r1 _ (List.mem_of_getElem? (i := 22) rfl)), List.forall_mem_cons.mpr ⟨(pl_wsX6_says_wsX6_says_r1 _ (List.mem_of_getElem? (i := 23) rfl)), List.forall_mem_cons.mpr ⟨(pl_wsX6_says_wsX6_says_r2 _ (List.mem_of_getElem? (i := 0) rfl)), List.forall_mem_cons.mpr ⟨(pl_wsX6_says_wsX6_says_r1 _ (List.mem_of_getElem? (i := 6) rfl)), fun _ h => absurd h List.not_mem_nil⟩⟩⟩⟩) (by decide +kernel)) ggX6_says_X6_a
set_option maxRecDepth 20000 in
theorem ggX6_says_X6_cell : GoodIn wsX6_says wsX6_cell := goodIn_sub (List.forall_mem_cons.mpr ⟨(pl_wsX6_says_wsX6_says_r2 _ (List.mem_of_getElem? (i := 5) rfl)), (fun w h => (List.mem_append.mp h).elim ((List.forall_mem_cons.mpr ⟨(pl_wsX6_says_wsX6_says_r1 _ (List.mem_of_getElem? (i := 21) rfl)), fun _ h => absurd h List.not_mem_nil⟩) w) (pl_wsX6_says_wsX60 w))⟩) (by decide +kernel)
set_option maxRecDepth 20000 in
theorem gX6_says_X6_cell : GoodIn wsX6_says (wsV RX6 88 RX6 yX6_cell wsX6_cell) := goodIn_app (goodIn_sub (List.forall_mem_cons.mpr ⟨(pl_wsX6_says_wsX6_says_r2 _ (List.mem_of_getElem? (i := 2) rfl)), List.forall_mem_cons.mpr ⟨(pl_wsX6_says_wsX6_says_r2 _ (List.mem_of_getElem? (i := 3) rfl)), List.forall_mem_cons.mpr ⟨(pl_wsX6_says_wsX6_says_r2 _ (List.mem_of_getElem? (i := 4) rfl)), List.forall_mem_cons.mpr ⟨(pl_wsX6_says_wsX6_says_r1 _ (List.mem_of_getElem? (i := 6) rfl)), fun _ h => absurd h List.not_mem_nil⟩⟩⟩⟩) (by decide +kernel)) ggX6_says_X6_cell
set_option maxRecDepth 20000 in
theorem ggX6_says_X6_faces : GoodIn wsX6_says wsX6_faces := goodIn_sub (List.forall_mem_cons.mpr ⟨(pl_wsX6_says_wsX6_says_r2 _ (List.mem_of_getElem? (i := 9) rfl)), (fun w h => (List.mem_append.mp h).elim ((List.forall_mem_cons.mpr ⟨(pl_wsX6_says_wsX6_says_r1 _ (List.mem_of_getElem? (i := 21) rfl)), fun _ h => absurd h List.not_mem_nil⟩) w) (pl_wsX6_says_wsX60 w))⟩) (by decide +kernel)
set_option maxRecDepth 20000 in
theorem gX6_says_X6_faces : GoodIn wsX6_says (wsV RX6 192 RX6 yX6_faces wsX6_faces) := goodIn_app (goodIn_sub (List.forall_mem_cons.mpr ⟨(pl_wsX6_says_wsX6_says_r2 _ (List.mem_of_getElem? (i := 6) rfl)), List.forall_mem_cons.mpr ⟨(pl_wsX6_says_wsX6_says_r2 _ (List.mem_of_getElem? (i := 7) rfl)), List.forall_mem_cons.mpr ⟨(pl_wsX6_says_wsX6_says_r2 _ (List.mem_of_getElem? (i := 8) rfl)), List.forall_mem_cons.mpr ⟨(pl_wsX6_says_wsX6_says_r1 _ (List.mem_of_getElem? (i := 6) rfl)), fun _ h => absurd h List.not_mem_nil⟩⟩⟩⟩) (by decide +kernel)) ggX6_says_X6_faces
set_option maxRecDepth 20000 in
theorem ggX6_says_X6_start : GoodIn wsX6_says wsX6_start := goodIn_sub (List.forall_mem_cons.mpr ⟨(pl_wsX6_says_wsX6_says_r2 _ (List.mem_of_getElem? (i := 13) rfl)), (fun w h => (List.mem_append.mp h).elim ((List.forall_mem_cons.mpr ⟨(pl_wsX6_says_wsX6_says_r2 _ (List.mem_of_getElem? (i := 14) rfl)), List.forall_mem_cons.mpr ⟨(pl_wsX6_says_wsX6_says_r1 _ (List.mem_of_getElem? (i := 3) rfl)), List.forall_mem_cons.mpr ⟨(pl_wsX6_says_wsX6_says_r2 _ (List.mem_of_getElem? (i := 15) rfl)), List.forall_mem_cons.mpr ⟨(pl_wsX6_says_wsX6_says_r2 _ (List.mem_of_getElem? (i := 16) rfl)), fun _ h => absurd h List.not_mem_nil⟩⟩⟩⟩) w) (pl_wsX6_says_wsX60 w))⟩) (by decide +kernel)
set_option maxRecDepth 20000 in
theorem gX6_says_X6_start : GoodIn wsX6_says (wsV RX6 195 RX6 yX6_start wsX6_start) := goodIn_app (goodIn_sub (List.forall_mem_cons.mpr ⟨(pl_wsX6_says_wsX6_says_r2 _ (List.mem_of_getElem? (i := 10) rfl)), List.forall_mem_cons.mpr ⟨(pl_wsX6_says_wsX6_says_r2 _ (List.mem_of_getElem? (i := 11) rfl)), List.forall_mem_cons.mpr ⟨(pl_wsX6_says_wsX6_says_r2 _ (List.mem_of_getElem? (i := 12) rfl)), List.forall_mem_cons.mpr ⟨(pl_wsX6_says_wsX6_says_r1 _ (List.mem_of_getElem? (i := 6) rfl)), fun _ h => absurd h List.not_mem_nil⟩⟩⟩⟩) (by decide +kernel)) ggX6_says_X6_start
set_option maxRecDepth 20000 in
theorem pl_wsX6_says_wsX6_says_r3 : ∀ w ∈ wsX6_says_r3, w ∈ wsX6_says := fun _ h => List.mem_cons_of_mem _ (List.mem_append_left _ (List.mem_append_right _ (List.mem_append_right _ (h))))
theorem ggX6_says_X6_step : GoodIn wsX6_says wsX6_step := goodIn_sub (List.forall_mem_cons.mpr ⟨(pl_wsX6_says_wsX6_says_r2 _ (List.mem_of_getElem? (i := 20) rfl)), (fun w h => (List.mem_append.mp h).elim ((fun w h => (List.mem_append.mp h).elim ((List.forall_mem_cons.mpr ⟨(pl_wsX6_says_wsX6_says_r2 _ (List.mem_of_getElem? (i := 16) rfl)), List.forall_mem_cons.mpr ⟨(pl_wsX6_says_wsX6_says_r2 _ (List.mem_of_getElem? (i := 14) rfl)), List.forall_mem_cons.mpr ⟨(pl_wsX6_says_wsX6_says_r1 _ (List.mem_of_getElem? (i := 3) rfl)), List.forall_mem_cons.mpr ⟨(pl_wsX6_says_wsX6_says_r2 _ (List.mem_of_getElem? (i := 21) rfl)), List.forall_mem_cons.mpr ⟨(pl_wsX6_says_wsX6_says_r2 _ (List.mem_of_getElem? (i := 15) rfl)), List.forall_mem_cons.mpr ⟨(pl_wsX6_says_wsX6_says_r2 _ (List.mem_of_getElem? (i := 22) rfl)), List.forall_mem_cons.mpr ⟨(pl_wsX6_says_wsX6_says_r2 _ (List.mem_of_getElem? (i := 23) rfl)), List.forall_mem_cons.mpr ⟨(pl_wsX6_says_wsX6_says_r3 _ (List.mem_of_getElem? (i := 0) rfl)), List.forall_mem_cons.mpr ⟨(pl_wsX6_says_wsX6_says_r3 _ (List.mem_of_getElem? (i := 1) rfl)), List.forall_mem_cons.mpr ⟨(pl_wsX6_says_wsX6_says_r3 _ (List.mem_of_getElem? (i := 2) rfl)), List.forall_mem_cons.mpr ⟨(pl_wsX6_says_wsX6_says_r1 _ (List.mem_of_getElem? (i := 6) rfl)), List.forall_mem_cons.mpr ⟨(pl_wsX6_says_wsX6_says_r3 _ (List.mem_of_getElem? (i := 3) rfl)), List.forall_mem_cons.mpr ⟨(pl_wsX6_says_wsX6_says_r1 _ (List.mem_of_getElem? (i := 21) rfl)), List.forall_mem_cons.mpr ⟨(pl_wsX6_says_wsX6_says_r1 _ (List.mem_of_getElem? (i := 9) rfl)), List.forall_mem_cons.mpr ⟨(pl_wsX6_says_wsX6_says_r1 _ (List.mem_of_getElem? (i := 10) rfl)), List.forall_mem_cons.mpr ⟨(pl_wsX6_says_wsX6_says_r1 _ (List.mem_of_getElem? (i := 11) rfl)), List.forall_mem_cons.mpr ⟨(pl_wsX6_says_wsX6_says_r3 _ (List.mem_of_getElem? (i := 4) rfl)), List.forall_mem_cons.mpr ⟨(pl_wsX6_says_wsX6_says_r3 _ (List.mem_of_getElem? (i := 5) rfl)), List.forall_mem_cons.mpr ⟨(pl_wsX6_says_wsX6_says_r3 _ (List.mem_of_getElem? (i := 6) rfl)), List.forall_mem_cons.mpr ⟨(pl_wsX6_says_wsX6_says_r3 _ (List.mem_of_getElem? (i := 7) rfl)), List.forall_mem_cons.mpr ⟨(pl_wsX6_says_wsX6_says_r3 _ (List.mem_of_getElem? (i := 8) rfl)), List.forall_mem_cons.mpr ⟨(pl_wsX6_says_wsX6_says_r3 _ (List.mem_of_getElem? (i := 9) rfl)), List.forall_mem_cons.mpr ⟨(pl_wsX6_says_wsX6_says_r3 _ (List.mem_of_getElem? (i := 10) rfl)), List.forall_mem_cons.mpr ⟨(pl_wsX6_says_wsX6_says_r3 _ (List.mem_of_getElem? (i := 11) rfl)), fun _ h => absurd h List.not_mem_nil⟩⟩⟩⟩⟩⟩⟩⟩⟩⟩⟩⟩⟩⟩⟩⟩⟩⟩⟩⟩⟩⟩⟩⟩) w) ((List.forall_mem_cons.mpr ⟨(pl_wsX6_says_wsX6_says_r3 _ (List.mem_of_getElem? (i := 12) rfl)), List.forall_mem_cons.mpr ⟨(pl_wsX6_says_wsX6_says_r3 _ (List.mem_of_getElem? (i := 13) rfl)), List.forall_mem_cons.mpr ⟨(pl_wsX6_says_wsX6_says_r3 _ (List.mem_of_getElem? (i := 14) rfl)), List.forall_mem_cons.mpr ⟨(pl_wsX6_says_wsX6_says_r1 _ (List.mem_of_getElem? (i := 17) rfl)), List.forall_mem_cons.mpr ⟨(pl_wsX6_says_wsX6_says_r1 _ (List.mem_of_getElem? (i := 18) rfl)), List.forall_mem_cons.mpr ⟨(pl_wsX6_says_wsX6_says_r1 _ (List.mem_of_getElem? (i := 19) rfl)), List.forall_mem_cons.mpr ⟨(pl_wsX6_says_wsX6_says_r1 _ (List.mem_of_getElem? (i := 20) rfl)), List.forall_mem_cons.mpr ⟨(pl_wsX6_says_wsX6_says_r3 _ (List.mem_of_getElem? (i := 15) rfl)), List.forall_mem_cons.mpr ⟨(pl_wsX6_says_wsX6_says_r3 _ (List.mem_of_getElem? (i := 16) rfl)), List.forall_mem_cons.mpr ⟨(pl_wsX6_says_wsX6_says_r3 _ (List.mem_of_getElem? (i := 17) rfl)), List.forall_mem_cons.mpr ⟨(pl_wsX6_says_wsX6_says_r3 _ (List.mem_of_getElem? (i := 18) rfl)), List.forall_mem_cons.mpr ⟨(pl_wsX6_says_wsX6_says_r3 _ (List.mem_of_getElem? (i := 19) rfl)), List.forall_mem_cons.mpr ⟨(pl_wsX6_says_wsX6_says_r3 _ (List.mem_of_getElem? (i := 20) rfl)), List.forall_mem_cons.mpr ⟨(pl_wsX6_says_wsX6_says_r3 _ (List.mem_of_getElem? (i := 21) rfl)), List.forall_mem_cons.mpr ⟨(pl_wsX6_says_wsX6_says_r3 _ (List.mem_of_getElem? (i := 22) rfl)), fun _ h => absurd h List.not_mem_nil⟩⟩⟩⟩⟩⟩⟩⟩⟩⟩⟩⟩⟩⟩⟩) w)) w) (pl_wsX6_says_wsX60 w))⟩) (by decide +kernel)
set_option maxRecDepth 20000 in
theorem gX6_says_X6_step : GoodIn wsX6_says (wsV RX6 199 RX6 yX6_step wsX6_step) := goodIn_app (goodIn_sub (List.forall_mem_cons.mpr ⟨(pl_wsX6_says_wsX6_says_r2 _ (List.mem_of_getElem? (i := 17) rfl)), List.forall_mem_cons.mpr ⟨(pl_wsX6_says_wsX6_says_r2 _ (List.mem_of_getElem? (i := 18) rfl)), List.forall_mem_cons.mpr ⟨(pl_wsX6_says_wsX6_says_r2 _ (List.mem_of_getElem? (i := 19) rfl)), List.forall_mem_cons.mpr ⟨(pl_wsX6_says_wsX6_says_r1 _ (List.mem_of_getElem? (i := 6) rfl)), fun _ h => absurd h List.not_mem_nil⟩⟩⟩⟩) (by decide +kernel)) ggX6_says_X6_step
theorem dX6_says_0 : decode cX6_says 0 = .ok (.iload_n 1, 1) := by decide +kernel
theorem dX6_says_1 : decode cX6_says 1 = .ok (.invokestatic 203, 3) := by decide +kernel
theorem dX6_says_4 : decode cX6_says 4 = .ok (.ifCond .eq 15, 3) := by decide +kernel
theorem dX6_says_7 : decode cX6_says 7 = .ok (.iload_n 2, 1) := by decide +kernel
theorem dX6_says_8 : decode cX6_says 8 = .ok (.i2l, 1) := by decide +kernel
theorem dX6_says_9 : decode cX6_says 9 = .ok (.lconst 0, 1) := by decide +kernel
theorem dX6_says_10 : decode cX6_says 10 = .ok (.ldc2_w 110, 3) := by decide +kernel
theorem dX6_says_13 : decode cX6_says 13 = .ok (.invokestatic 76, 3) := by decide +kernel
theorem dX6_says_16 : decode cX6_says 16 = .ok (.ifCond .ne 10, 3) := by decide +kernel
theorem dX6_says_19 : decode cX6_says 19 = .ok (.aload_n 0, 1) := by decide +kernel
theorem dX6_says_20 : decode cX6_says 20 = .ok (.bipush (-2), 2) := by decide +kernel
theorem dX6_says_22 : decode cX6_says 22 = .ok (.invokevirtual 101, 3) := by decide +kernel
theorem dX6_says_25 : decode cX6_says 25 = .ok (.ireturn, 1) := by decide +kernel
theorem dX6_says_26 : decode cX6_says 26 = .ok (.aload_n 0, 1) := by decide +kernel
theorem dX6_says_27 : decode cX6_says 27 = .ok (.getfield 54, 3) := by decide +kernel
theorem dX6_says_30 : decode cX6_says 30 = .ok (.iload_n 1, 1) := by decide +kernel
theorem dX6_says_31 : decode cX6_says 31 = .ok (.iaload, 1) := by decide +kernel
theorem dX6_says_32 : decode cX6_says 32 = .ok (.iconst (-1), 1) := by decide +kernel
theorem dX6_says_33 : decode cX6_says 33 = .ok (.if_icmp .ne 10, 3) := by decide +kernel
theorem dX6_says_36 : decode cX6_says 36 = .ok (.aload_n 0, 1) := by decide +kernel
theorem dX6_says_37 : decode cX6_says 37 = .ok (.bipush (-4), 2) := by decide +kernel
theorem dX6_says_39 : decode cX6_says 39 = .ok (.invokevirtual 101, 3) := by decide +kernel
theorem dX6_says_42 : decode cX6_says 42 = .ok (.ireturn, 1) := by decide +kernel
theorem dX6_says_43 : decode cX6_says 43 = .ok (.aload_n 0, 1) := by decide +kernel
theorem dX6_says_44 : decode cX6_says 44 = .ok (.getfield 54, 3) := by decide +kernel
theorem dX6_says_47 : decode cX6_says 47 = .ok (.iload_n 1, 1) := by decide +kernel
theorem dX6_says_48 : decode cX6_says 48 = .ok (.iaload, 1) := by decide +kernel
theorem dX6_says_49 : decode cX6_says 49 = .ok (.bipush 10, 2) := by decide +kernel
theorem dX6_says_51 : decode cX6_says 51 = .ok (.isub, 1) := by decide +kernel
theorem dX6_says_52 : decode cX6_says 52 = .ok (.istore_n 3, 1) := by decide +kernel
theorem dX6_says_53 : decode cX6_says 53 = .ok (.iload_n 3, 1) := by decide +kernel
theorem dX6_says_54 : decode cX6_says 54 = .ok (.ifCond .ge 7, 3) := by decide +kernel
theorem dX6_says_57 : decode cX6_says 57 = .ok (.iconst (-1), 1) := by decide +kernel
theorem dX6_says_58 : decode cX6_says 58 = .ok (.goto 8, 3) := by decide +kernel
theorem dX6_says_61 : decode cX6_says 61 = .ok (.aload_n 0, 1) := by decide +kernel
theorem dX6_says_62 : decode cX6_says 62 = .ok (.iload_n 3, 1) := by decide +kernel
theorem dX6_says_63 : decode cX6_says 63 = .ok (.invokevirtual 179, 3) := by decide +kernel
theorem dX6_says_66 : decode cX6_says 66 = .ok (.istore 4, 2) := by decide +kernel
theorem dX6_says_68 : decode cX6_says 68 = .ok (.iload 4, 2) := by decide +kernel
theorem dX6_says_70 : decode cX6_says 70 = .ok (.iconst (-1), 1) := by decide +kernel
theorem dX6_says_71 : decode cX6_says 71 = .ok (.if_icmp .eq 21, 3) := by decide +kernel
theorem dX6_says_74 : decode cX6_says 74 = .ok (.iload 4, 2) := by decide +kernel
theorem dX6_says_76 : decode cX6_says 76 = .ok (.iload_n 2, 1) := by decide +kernel
theorem dX6_says_77 : decode cX6_says 77 = .ok (.if_icmp .eq 15, 3) := by decide +kernel
theorem dX6_says_80 : decode cX6_says 80 = .ok (.aload_n 0, 1) := by decide +kernel
theorem dX6_says_81 : decode cX6_says 81 = .ok (.getfield 67, 3) := by decide +kernel
theorem dX6_says_84 : decode cX6_says 84 = .ok (.iload 4, 2) := by decide +kernel
theorem dX6_says_86 : decode cX6_says 86 = .ok (.iaload, 1) := by decide +kernel
theorem dX6_says_87 : decode cX6_says 87 = .ok (.istore 4, 2) := by decide +kernel
theorem dX6_says_89 : decode cX6_says 89 = .ok (.goto (-21), 3) := by decide +kernel
theorem dX6_says_92 : decode cX6_says 92 = .ok (.iload 4, 2) := by decide +kernel
theorem dX6_says_94 : decode cX6_says 94 = .ok (.iconst (-1), 1) := by decide +kernel
theorem dX6_says_95 : decode cX6_says 95 = .ok (.if_icmp .ne 10, 3) := by decide +kernel
theorem dX6_says_98 : decode cX6_says 98 = .ok (.aload_n 0, 1) := by decide +kernel
theorem dX6_says_99 : decode cX6_says 99 = .ok (.bipush (-3), 2) := by decide +kernel
theorem dX6_says_101 : decode cX6_says 101 = .ok (.invokevirtual 101, 3) := by decide +kernel
theorem dX6_says_104 : decode cX6_says 104 = .ok (.ireturn, 1) := by decide +kernel
theorem dX6_says_105 : decode cX6_says 105 = .ok (.iload_n 2, 1) := by decide +kernel
theorem dX6_says_106 : decode cX6_says 106 = .ok (.ifCond .ne 9, 3) := by decide +kernel
theorem dX6_says_109 : decode cX6_says 109 = .ok (.aload_n 0, 1) := by decide +kernel
theorem dX6_says_110 : decode cX6_says 110 = .ok (.iload_n 3, 1) := by decide +kernel
theorem dX6_says_111 : decode cX6_says 111 = .ok (.invokevirtual 213, 3) := by decide +kernel
theorem dX6_says_114 : decode cX6_says 114 = .ok (.ireturn, 1) := by decide +kernel
theorem dX6_says_115 : decode cX6_says 115 = .ok (.aload_n 0, 1) := by decide +kernel
theorem dX6_says_116 : decode cX6_says 116 = .ok (.iconst 0, 1) := by decide +kernel
theorem dX6_says_117 : decode cX6_says 117 = .ok (.aload_n 0, 1) := by decide +kernel
theorem dX6_says_118 : decode cX6_says 118 = .ok (.iload_n 3, 1) := by decide +kernel
theorem dX6_says_119 : decode cX6_says 119 = .ok (.invokevirtual 88, 3) := by decide +kernel
theorem dX6_says_122 : decode cX6_says 122 = .ok (.aload_n 0, 1) := by decide +kernel
theorem dX6_says_123 : decode cX6_says 123 = .ok (.iload_n 3, 1) := by decide +kernel
theorem dX6_says_124 : decode cX6_says 124 = .ok (.invokevirtual 192, 3) := by decide +kernel
theorem dX6_says_127 : decode cX6_says 127 = .ok (.invokevirtual 195, 3) := by decide +kernel
theorem dX6_says_130 : decode cX6_says 130 = .ok (.aload_n 0, 1) := by decide +kernel
theorem dX6_says_131 : decode cX6_says 131 = .ok (.iconst 0, 1) := by decide +kernel
theorem dX6_says_132 : decode cX6_says 132 = .ok (.iload_n 3, 1) := by decide +kernel
theorem dX6_says_133 : decode cX6_says 133 = .ok (.iconst 1, 1) := by decide +kernel
theorem dX6_says_134 : decode cX6_says 134 = .ok (.iconst 0, 1) := by decide +kernel
theorem dX6_says_135 : decode cX6_says 135 = .ok (.invokevirtual 199, 3) := by decide +kernel
theorem dX6_says_138 : decode cX6_says 138 = .ok (.aload_n 0, 1) := by decide +kernel
theorem dX6_says_139 : decode cX6_says 139 = .ok (.getfield 36, 3) := by decide +kernel
theorem dX6_says_142 : decode cX6_says 142 = .ok (.iconst 0, 1) := by decide +kernel
theorem dX6_says_143 : decode cX6_says 143 = .ok (.iaload, 1) := by decide +kernel
theorem dX6_says_144 : decode cX6_says 144 = .ok (.ireturn, 1) := by decide +kernel
set_option maxRecDepth 20000 in
theorem pl_wsX6_load_wsX60 : ∀ w ∈ wsX60, w ∈ wsX6_load := fun _ h => List.mem_cons_of_mem _ (List.mem_append_right _ (h))
theorem ggX6_load_X6_rowIn : GoodIn wsX6_load wsX6_rowIn := goodIn_sub (List.forall_mem_cons.mpr ⟨(List.mem_cons_of_mem _ (List.mem_append_left _ (List.mem_of_getElem? (i := 8) rfl))), (fun w h => (List.mem_append.mp h).elim ((List.forall_mem_cons.mpr ⟨(List.mem_cons_of_mem _ (List.mem_append_left _ (List.mem_of_getElem? (i := 9) rfl))), fun _ h => absurd h List.not_mem_nil⟩) w) (pl_wsX6_load_wsX60 w))⟩) (by decide +kernel)
set_option maxRecDepth 20000 in
theorem gX6_load_X6_rowIn : GoodIn wsX6_load (wsV RX6 210 RX6 yX6_rowIn wsX6_rowIn) := goodIn_app (goodIn_sub (List.forall_mem_cons.mpr ⟨(List.mem_cons_of_mem _ (List.mem_append_left _ (List.mem_of_getElem? (i := 4) rfl))), List.forall_mem_cons.mpr ⟨(List.mem_cons_of_mem _ (List.mem_append_left _ (List.mem_of_getElem? (i := 5) rfl))), List.forall_mem_cons.mpr ⟨(List.mem_cons_of_mem _ (List.mem_append_left _ (List.mem_of_getElem? (i := 6) rfl))), List.forall_mem_cons.mpr ⟨(List.mem_cons_of_mem _ (List.mem_append_left _ (List.mem_of_getElem? (i := 7) rfl))), fun _ h => absurd h List.not_mem_nil⟩⟩⟩⟩) (by decide +kernel)) ggX6_load_X6_rowIn
set_option maxRecDepth 20000 in
theorem ggX6_load_X6_isIn : GoodIn wsX6_load wsX6_isIn := goodIn_sub (List.forall_mem_cons.mpr ⟨(List.mem_cons_of_mem _ (List.mem_append_left _ (List.mem_of_getElem? (i := 12) rfl))), (fun _ h => absurd h List.not_mem_nil)⟩) (by decide +kernel)
set_option maxRecDepth 20000 in
theorem gX6_load_X6_isIn : GoodIn wsX6_load (va_wsS RX6 76 yX6_isIn wsX6_isIn) := goodIn_app (goodIn_sub (List.forall_mem_cons.mpr ⟨(List.mem_cons_of_mem _ (List.mem_append_left _ (List.mem_of_getElem? (i := 10) rfl))), List.forall_mem_cons.mpr ⟨(List.mem_cons_of_mem _ (List.mem_append_left _ (List.mem_of_getElem? (i := 11) rfl))), List.forall_mem_cons.mpr ⟨(List.mem_cons_of_mem _ (List.mem_append_left _ (List.mem_of_getElem? (i := 7) rfl))), fun _ h => absurd h List.not_mem_nil⟩⟩⟩) (by decide +kernel)) ggX6_load_X6_isIn
theorem dX6_load_0 : decode cX6_load 0 = .ok (.aload_n 0, 1) := by decide +kernel
theorem dX6_load_1 : decode cX6_load 1 = .ok (.iload_n 1, 1) := by decide +kernel
theorem dX6_load_2 : decode cX6_load 2 = .ok (.invokevirtual 210, 3) := by decide +kernel
theorem dX6_load_5 : decode cX6_load 5 = .ok (.ifCond .ge 9, 3) := by decide +kernel
theorem dX6_load_8 : decode cX6_load 8 = .ok (.aload_n 0, 1) := by decide +kernel
theorem dX6_load_9 : decode cX6_load 9 = .ok (.iload_n 1, 1) := by decide +kernel
theorem dX6_load_10 : decode cX6_load 10 = .ok (.invokevirtual 210, 3) := by decide +kernel
theorem dX6_load_13 : decode cX6_load 13 = .ok (.ireturn, 1) := by decide +kernel
theorem dX6_load_14 : decode cX6_load 14 = .ok (.iload_n 2, 1) := by decide +kernel
theorem dX6_load_15 : decode cX6_load 15 = .ok (.aload_n 0, 1) := by decide +kernel
theorem dX6_load_16 : decode cX6_load 16 = .ok (.getfield 57, 3) := by decide +kernel
theorem dX6_load_19 : decode cX6_load 19 = .ok (.iload_n 1, 1) := by decide +kernel
theorem dX6_load_20 : decode cX6_load 20 = .ok (.iaload, 1) := by decide +kernel
theorem dX6_load_21 : decode cX6_load 21 = .ok (.if_icmp .le 6, 3) := by decide +kernel
theorem dX6_load_24 : decode cX6_load 24 = .ok (.bipush (-2), 2) := by decide +kernel
theorem dX6_load_26 : decode cX6_load 26 = .ok (.ireturn, 1) := by decide +kernel
theorem dX6_load_27 : decode cX6_load 27 = .ok (.iconst 0, 1) := by decide +kernel
theorem dX6_load_28 : decode cX6_load 28 = .ok (.istore_n 3, 1) := by decide +kernel
theorem dX6_load_29 : decode cX6_load 29 = .ok (.iload_n 3, 1) := by decide +kernel
theorem dX6_load_30 : decode cX6_load 30 = .ok (.iload_n 2, 1) := by decide +kernel
theorem dX6_load_31 : decode cX6_load 31 = .ok (.if_icmp .ge 51, 3) := by decide +kernel
theorem dX6_load_34 : decode cX6_load 34 = .ok (.aload_n 0, 1) := by decide +kernel
theorem dX6_load_35 : decode cX6_load 35 = .ok (.getfield 60, 3) := by decide +kernel
theorem dX6_load_38 : decode cX6_load 38 = .ok (.bipush 40, 2) := by decide +kernel
theorem dX6_load_40 : decode cX6_load 40 = .ok (.iload_n 1, 1) := by decide +kernel
theorem dX6_load_41 : decode cX6_load 41 = .ok (.imul, 1) := by decide +kernel
theorem dX6_load_42 : decode cX6_load 42 = .ok (.iload_n 3, 1) := by decide +kernel
theorem dX6_load_43 : decode cX6_load 43 = .ok (.iadd, 1) := by decide +kernel
theorem dX6_load_44 : decode cX6_load 44 = .ok (.laload, 1) := by decide +kernel
theorem dX6_load_45 : decode cX6_load 45 = .ok (.lconst 0, 1) := by decide +kernel
theorem dX6_load_46 : decode cX6_load 46 = .ok (.ldc2_w 114, 3) := by decide +kernel
theorem dX6_load_49 : decode cX6_load 49 = .ok (.invokestatic 76, 3) := by decide +kernel
theorem dX6_load_52 : decode cX6_load 52 = .ok (.ifCond .ne 6, 3) := by decide +kernel
theorem dX6_load_55 : decode cX6_load 55 = .ok (.bipush (-5), 2) := by decide +kernel
theorem dX6_load_57 : decode cX6_load 57 = .ok (.ireturn, 1) := by decide +kernel
theorem dX6_load_58 : decode cX6_load 58 = .ok (.aload_n 0, 1) := by decide +kernel
theorem dX6_load_59 : decode cX6_load 59 = .ok (.getfield 51, 3) := by decide +kernel
theorem dX6_load_62 : decode cX6_load 62 = .ok (.iload_n 3, 1) := by decide +kernel
theorem dX6_load_63 : decode cX6_load 63 = .ok (.aload_n 0, 1) := by decide +kernel
theorem dX6_load_64 : decode cX6_load 64 = .ok (.getfield 60, 3) := by decide +kernel
theorem dX6_load_67 : decode cX6_load 67 = .ok (.bipush 40, 2) := by decide +kernel
theorem dX6_load_69 : decode cX6_load 69 = .ok (.iload_n 1, 1) := by decide +kernel
theorem dX6_load_70 : decode cX6_load 70 = .ok (.imul, 1) := by decide +kernel
theorem dX6_load_71 : decode cX6_load 71 = .ok (.iload_n 3, 1) := by decide +kernel
theorem dX6_load_72 : decode cX6_load 72 = .ok (.iadd, 1) := by decide +kernel
theorem dX6_load_73 : decode cX6_load 73 = .ok (.laload, 1) := by decide +kernel
theorem dX6_load_74 : decode cX6_load 74 = .ok (.l2i, 1) := by decide +kernel
theorem dX6_load_75 : decode cX6_load 75 = .ok (.iastore, 1) := by decide +kernel
theorem dX6_load_76 : decode cX6_load 76 = .ok (.iinc 3 1, 3) := by decide +kernel
theorem dX6_load_79 : decode cX6_load 79 = .ok (.goto (-50), 3) := by decide +kernel
theorem dX6_load_82 : decode cX6_load 82 = .ok (.iconst 1, 1) := by decide +kernel
theorem dX6_load_83 : decode cX6_load 83 = .ok (.ireturn, 1) := by decide +kernel
set_option maxRecDepth 20000 in
theorem ggX6_loadIf_X6_isShelf : GoodIn wsX6_loadIf wsX6_isShelf := goodIn_sub (List.forall_mem_cons.mpr ⟨(List.mem_cons_of_mem _ (List.mem_append_left _ (List.mem_of_getElem? (i := 4) rfl))), (List.forall_mem_cons.mpr ⟨(List.mem_cons_of_mem _ (List.mem_append_left _ (List.mem_of_getElem? (i := 5) rfl))), List.forall_mem_cons.mpr ⟨(List.mem_cons_of_mem _ (List.mem_append_left _ (List.mem_of_getElem? (i := 6) rfl))), List.forall_mem_cons.mpr ⟨(List.mem_cons_of_mem _ (List.mem_append_left _ (List.mem_of_getElem? (i := 7) rfl))), List.forall_mem_cons.mpr ⟨(List.mem_cons_of_mem _ (List.mem_append_left _ (List.mem_of_getElem? (i := 3) rfl))), List.forall_mem_cons.mpr ⟨(List.mem_cons_of_mem _ (List.mem_append_left _ (List.mem_of_getElem? (i := 8) rfl))), fun _ h => absurd h List.not_mem_nil⟩⟩⟩⟩⟩)⟩) (by decide +kernel)
set_option maxRecDepth 20000 in
theorem gX6_loadIf_X6_isShelf : GoodIn wsX6_loadIf (va_wsS RX6 203 yX6_isShelf wsX6_isShelf) := goodIn_app (goodIn_sub (List.forall_mem_cons.mpr ⟨(List.mem_cons_of_mem _ (List.mem_append_left _ (List.mem_of_getElem? (i := 1) rfl))), List.forall_mem_cons.mpr ⟨(List.mem_cons_of_mem _ (List.mem_append_left _ (List.mem_of_getElem? (i := 2) rfl))), List.forall_mem_cons.mpr ⟨(List.mem_cons_of_mem _ (List.mem_append_left _ (List.mem_of_getElem? (i := 3) rfl))), fun _ h => absurd h List.not_mem_nil⟩⟩⟩) (by decide +kernel)) ggX6_loadIf_X6_isShelf
set_option maxRecDepth 20000 in
theorem ggX6_loadIf_X6_isIn : GoodIn wsX6_loadIf wsX6_isIn := goodIn_sub (List.forall_mem_cons.mpr ⟨(List.mem_cons_of_mem _ (List.mem_append_left _ (List.mem_of_getElem? (i := 8) rfl))), (fun _ h => absurd h List.not_mem_nil)⟩) (by decide +kernel)
set_option maxRecDepth 20000 in
theorem gX6_loadIf_X6_isIn : GoodIn wsX6_loadIf (va_wsS RX6 76 yX6_isIn wsX6_isIn) := goodIn_app (goodIn_sub (List.forall_mem_cons.mpr ⟨(List.mem_cons_of_mem _ (List.mem_append_left _ (List.mem_of_getElem? (i := 6) rfl))), List.forall_mem_cons.mpr ⟨(List.mem_cons_of_mem _ (List.mem_append_left _ (List.mem_of_getElem? (i := 7) rfl))), List.forall_mem_cons.mpr ⟨(List.mem_cons_of_mem _ (List.mem_append_left _ (List.mem_of_getElem? (i := 3) rfl))), fun _ h => absurd h List.not_mem_nil⟩⟩⟩) (by decide +kernel)) ggX6_loadIf_X6_isIn
set_option maxRecDepth 20000 in
theorem pl_wsX6_loadIf_wsX60 : ∀ w ∈ wsX60, w ∈ wsX6_loadIf := fun _ h => List.mem_cons_of_mem _ (List.mem_append_right _ (h))
theorem ggX6_loadIf_X6_load : GoodIn wsX6_loadIf wsX6_load := goodIn_sub (List.forall_mem_cons.mpr ⟨(List.mem_cons_of_mem _ (List.mem_append_left _ (List.mem_of_getElem? (i := 12) rfl))), (fun w h => (List.mem_append.mp h).elim ((List.forall_mem_cons.mpr ⟨(List.mem_cons_of_mem _ (List.mem_append_left _ (List.mem_of_getElem? (i := 13) rfl))), List.forall_mem_cons.mpr ⟨(List.mem_cons_of_mem _ (List.mem_append_left _ (List.mem_of_getElem? (i := 14) rfl))), List.forall_mem_cons.mpr ⟨(List.mem_cons_of_mem _ (List.mem_append_left _ (List.mem_of_getElem? (i := 15) rfl))), List.forall_mem_cons.mpr ⟨(List.mem_cons_of_mem _ (List.mem_append_left _ (List.mem_of_getElem? (i := 16) rfl))), List.forall_mem_cons.mpr ⟨(List.mem_cons_of_mem _ (List.mem_append_left _ (List.mem_of_getElem? (i := 17) rfl))), List.forall_mem_cons.mpr ⟨(List.mem_cons_of_mem _ (List.mem_append_left _ (List.mem_of_getElem? (i := 18) rfl))), List.forall_mem_cons.mpr ⟨(List.mem_cons_of_mem _ (List.mem_append_left _ (List.mem_of_getElem? (i := 19) rfl))), List.forall_mem_cons.mpr ⟨(List.mem_cons_of_mem _ (List.mem_append_left _ (List.mem_of_getElem? (i := 3) rfl))), List.forall_mem_cons.mpr ⟨(List.mem_cons_of_mem _ (List.mem_append_left _ (List.mem_of_getElem? (i := 20) rfl))), List.forall_mem_cons.mpr ⟨(List.mem_cons_of_mem _ (List.mem_append_left _ (List.mem_of_getElem? (i := 21) rfl))), List.forall_mem_cons.mpr ⟨(List.mem_cons_of_mem _ (List.mem_append_left _ (List.mem_of_getElem? (i := 6) rfl))), List.forall_mem_cons.mpr ⟨(List.mem_cons_of_mem _ (List.mem_append_left _ (List.mem_of_getElem? (i := 7) rfl))), List.forall_mem_cons.mpr ⟨(List.mem_cons_of_mem _ (List.mem_append_left _ (List.mem_of_getElem? (i := 8) rfl))), fun _ h => absurd h List.not_mem_nil⟩⟩⟩⟩⟩⟩⟩⟩⟩⟩⟩⟩⟩) w) (pl_wsX6_loadIf_wsX60 w))⟩) (by decide +kernel)
set_option maxRecDepth 20000 in
theorem gX6_loadIf_X6_load : GoodIn wsX6_loadIf (wsV RX6 216 RX6 yX6_load wsX6_load) := goodIn_app (goodIn_sub (List.forall_mem_cons.mpr ⟨(List.mem_cons_of_mem _ (List.mem_append_left _ (List.mem_of_getElem? (i := 9) rfl))), List.forall_mem_cons.mpr ⟨(List.mem_cons_of_mem _ (List.mem_append_left _ (List.mem_of_getElem? (i := 10) rfl))), List.forall_mem_cons.mpr ⟨(List.mem_cons_of_mem _ (List.mem_append_left _ (List.mem_of_getElem? (i := 11) rfl))), List.forall_mem_cons.mpr ⟨(List.mem_cons_of_mem _ (List.mem_append_left _ (List.mem_of_getElem? (i := 3) rfl))), fun _ h => absurd h List.not_mem_nil⟩⟩⟩⟩) (by decide +kernel)) ggX6_loadIf_X6_load
theorem dX6_loadIf_0 : decode cX6_loadIf 0 = .ok (.iload_n 2, 1) := by decide +kernel
theorem dX6_loadIf_1 : decode cX6_loadIf 1 = .ok (.invokestatic 203, 3) := by decide +kernel
theorem dX6_loadIf_4 : decode cX6_loadIf 4 = .ok (.ifCond .eq 19, 3) := by decide +kernel
theorem dX6_loadIf_7 : decode cX6_loadIf 7 = .ok (.iload_n 3, 1) := by decide +kernel
theorem dX6_loadIf_8 : decode cX6_loadIf 8 = .ok (.i2l, 1) := by decide +kernel
theorem dX6_loadIf_9 : decode cX6_loadIf 9 = .ok (.lconst 0, 1) := by decide +kernel
theorem dX6_loadIf_10 : decode cX6_loadIf 10 = .ok (.ldc2_w 208, 3) := by decide +kernel
theorem dX6_loadIf_13 : decode cX6_loadIf 13 = .ok (.invokestatic 76, 3) := by decide +kernel
theorem dX6_loadIf_16 : decode cX6_loadIf 16 = .ok (.ifCond .eq 7, 3) := by decide +kernel
theorem dX6_loadIf_19 : decode cX6_loadIf 19 = .ok (.iload_n 1, 1) := by decide +kernel
theorem dX6_loadIf_20 : decode cX6_loadIf 20 = .ok (.ifCond .ne 8, 3) := by decide +kernel
theorem dX6_loadIf_23 : decode cX6_loadIf 23 = .ok (.bipush (-2), 2) := by decide +kernel
theorem dX6_loadIf_25 : decode cX6_loadIf 25 = .ok (.goto 9, 3) := by decide +kernel
theorem dX6_loadIf_28 : decode cX6_loadIf 28 = .ok (.aload_n 0, 1) := by decide +kernel
theorem dX6_loadIf_29 : decode cX6_loadIf 29 = .ok (.iload_n 2, 1) := by decide +kernel
theorem dX6_loadIf_30 : decode cX6_loadIf 30 = .ok (.iload_n 3, 1) := by decide +kernel
theorem dX6_loadIf_31 : decode cX6_loadIf 31 = .ok (.invokevirtual 216, 3) := by decide +kernel
theorem dX6_loadIf_34 : decode cX6_loadIf 34 = .ok (.ireturn, 1) := by decide +kernel
set_option maxRecDepth 20000 in
theorem pl_wsX6_comes_wsX6_comes_r1 : ∀ w ∈ wsX6_comes_r1, w ∈ wsX6_comes := fun _ h => List.mem_cons_of_mem _ (List.mem_append_left _ (List.mem_append_left _ (h)))
theorem pl_wsX6_comes_wsX60 : ∀ w ∈ wsX60, w ∈ wsX6_comes := fun _ h => List.mem_cons_of_mem _ (List.mem_append_right _ (h))
theorem ggX6_comes_X6_isPerson : GoodIn wsX6_comes wsX6_isPerson := goodIn_sub (List.forall_mem_cons.mpr ⟨(pl_wsX6_comes_wsX6_comes_r1 _ (List.mem_of_getElem? (i := 8) rfl)), (fun w h => (List.mem_append.mp h).elim ((List.forall_mem_cons.mpr ⟨(pl_wsX6_comes_wsX6_comes_r1 _ (List.mem_of_getElem? (i := 9) rfl)), List.forall_mem_cons.mpr ⟨(pl_wsX6_comes_wsX6_comes_r1 _ (List.mem_of_getElem? (i := 10) rfl)), List.forall_mem_cons.mpr ⟨(pl_wsX6_comes_wsX6_comes_r1 _ (List.mem_of_getElem? (i := 11) rfl)), List.forall_mem_cons.mpr ⟨(pl_wsX6_comes_wsX6_comes_r1 _ (List.mem_of_getElem? (i := 7) rfl)), List.forall_mem_cons.mpr ⟨(pl_wsX6_comes_wsX6_comes_r1 _ (List.mem_of_getElem? (i := 12) rfl)), fun _ h => absurd h List.not_mem_nil⟩⟩⟩⟩⟩) w) (pl_wsX6_comes_wsX60 w))⟩) (by decide +kernel)
set_option maxRecDepth 20000 in
theorem gX6_comes_X6_isPerson : GoodIn wsX6_comes (wsV RX6 124 RX6 yX6_isPerson wsX6_isPerson) := goodIn_app (goodIn_sub (List.forall_mem_cons.mpr ⟨(pl_wsX6_comes_wsX6_comes_r1 _ (List.mem_of_getElem? (i := 4) rfl)), List.forall_mem_cons.mpr ⟨(pl_wsX6_comes_wsX6_comes_r1 _ (List.mem_of_getElem? (i := 5) rfl)), List.forall_mem_cons.mpr ⟨(pl_wsX6_comes_wsX6_comes_r1 _ (List.mem_of_getElem? (i := 6) rfl)), List.forall_mem_cons.mpr ⟨(pl_wsX6_comes_wsX6_comes_r1 _ (List.mem_of_getElem? (i := 7) rfl)), fun _ h => absurd h List.not_mem_nil⟩⟩⟩⟩) (by decide +kernel)) ggX6_comes_X6_isPerson
set_option maxRecDepth 20000 in
theorem ggX6_comes_X6_isIn : GoodIn wsX6_comes wsX6_isIn := goodIn_sub (List.forall_mem_cons.mpr ⟨(pl_wsX6_comes_wsX6_comes_r1 _ (List.mem_of_getElem? (i := 12) rfl)), (fun _ h => absurd h List.not_mem_nil)⟩) (by decide +kernel)
set_option maxRecDepth 20000 in
theorem gX6_comes_X6_isIn : GoodIn wsX6_comes (va_wsS RX6 76 yX6_isIn wsX6_isIn) := goodIn_app (goodIn_sub (List.forall_mem_cons.mpr ⟨(pl_wsX6_comes_wsX6_comes_r1 _ (List.mem_of_getElem? (i := 10) rfl)), List.forall_mem_cons.mpr ⟨(pl_wsX6_comes_wsX6_comes_r1 _ (List.mem_of_getElem? (i := 11) rfl)), List.forall_mem_cons.mpr ⟨(pl_wsX6_comes_wsX6_comes_r1 _ (List.mem_of_getElem? (i := 7) rfl)), fun _ h => absurd h List.not_mem_nil⟩⟩⟩) (by decide +kernel)) ggX6_comes_X6_isIn
set_option maxRecDepth 20000 in
theorem pl_wsX6_comes_wsX6_comes_r2 : ∀ w ∈ wsX6_comes_r2, w ∈ wsX6_comes := fun _ h => List.mem_cons_of_mem _ (List.mem_append_left _ (List.mem_append_right _ (List.mem_append_left _ (h))))
theorem ggX6_comes_X6_loadIf : GoodIn wsX6_comes wsX6_loadIf := goodIn_sub (List.forall_mem_cons.mpr ⟨(pl_wsX6_comes_wsX6_comes_r1 _ (List.mem_of_getElem? (i := 16) rfl)), (fun w h => (List.mem_append.mp h).elim ((List.forall_mem_cons.mpr ⟨(pl_wsX6_comes_wsX6_comes_r1 _ (List.mem_of_getElem? (i := 17) rfl)), List.forall_mem_cons.mpr ⟨(pl_wsX6_comes_wsX6_comes_r1 _ (List.mem_of_getElem? (i := 18) rfl)), List.forall_mem_cons.mpr ⟨(pl_wsX6_comes_wsX6_comes_r1 _ (List.mem_of_getElem? (i := 19) rfl)), List.forall_mem_cons.mpr ⟨(pl_wsX6_comes_wsX6_comes_r1 _ (List.mem_of_getElem? (i := 7) rfl)), List.forall_mem_cons.mpr ⟨(pl_wsX6_comes_wsX6_comes_r1 _ (List.mem_of_getElem? (i := 20) rfl)), List.forall_mem_cons.mpr ⟨(pl_wsX6_comes_wsX6_comes_r1 _ (List.mem_of_getElem? (i := 21) rfl)), List.forall_mem_cons.mpr ⟨(pl_wsX6_comes_wsX6_comes_r1 _ (List.mem_of_getElem? (i := 10) rfl)), List.forall_mem_cons.mpr ⟨(pl_wsX6_comes_wsX6_comes_r1 _ (List.mem_of_getElem? (i := 11) rfl)), List.forall_mem_cons.mpr ⟨(pl_wsX6_comes_wsX6_comes_r1 _ (List.mem_of_getElem? (i := 12) rfl)), List.forall_mem_cons.mpr ⟨(pl_wsX6_comes_wsX6_comes_r1 _ (List.mem_of_getElem? (i := 22) rfl)), List.forall_mem_cons.mpr ⟨(pl_wsX6_comes_wsX6_comes_r1 _ (List.mem_of_getElem? (i := 23) rfl)), List.forall_mem_cons.mpr ⟨(pl_wsX6_comes_wsX6_comes_r2 _ (List.mem_of_getElem? (i := 0) rfl)), List.forall_mem_cons.mpr ⟨(pl_wsX6_comes_wsX6_comes_r2 _ (List.mem_of_getElem? (i := 1) rfl)), List.forall_mem_cons.mpr ⟨(pl_wsX6_comes_wsX6_comes_r2 _ (List.mem_of_getElem? (i := 2) rfl)), List.forall_mem_cons.mpr ⟨(pl_wsX6_comes_wsX6_comes_r2 _ (List.mem_of_getElem? (i := 3) rfl)), List.forall_mem_cons.mpr ⟨(pl_wsX6_comes_wsX6_comes_r2 _ (List.mem_of_getElem? (i := 4) rfl)), List.forall_mem_cons.mpr ⟨(pl_wsX6_comes_wsX6_comes_r2 _ (List.mem_of_getElem? (i := 5) rfl)), List.forall_mem_cons.mpr ⟨(pl_wsX6_comes_wsX6_comes_r2 _ (List.mem_of_getElem? (i := 6) rfl)), List.forall_mem_cons.mpr ⟨(pl_wsX6_comes_wsX6_comes_r2 _ (List.mem_of_getElem? (i := 7) rfl)), List.forall_mem_cons.mpr ⟨(pl_wsX6_comes_wsX6_comes_r2 _ (List.mem_of_getElem? (i := 8) rfl)), List.forall_mem_cons.mpr ⟨(pl_wsX6_comes_wsX6_comes_r2 _ (List.mem_of_getElem? (i := 9) rfl)), List.forall_mem_cons.mpr ⟨(pl_wsX6_comes_wsX6_comes_r2 _ (List.mem_of_getElem? (i := 10) rfl)), fun _ h => absurd h List.not_mem_nil⟩⟩⟩⟩⟩⟩⟩⟩⟩⟩⟩⟩⟩⟩⟩⟩⟩⟩⟩⟩⟩⟩) w) (pl_wsX6_comes_wsX60 w))⟩) (by decide +kernel)
set_option maxRecDepth 20000 in
theorem gX6_comes_X6_loadIf : GoodIn wsX6_comes (wsV RX6 219 RX6 yX6_loadIf wsX6_loadIf) := goodIn_app (goodIn_sub (List.forall_mem_cons.mpr ⟨(pl_wsX6_comes_wsX6_comes_r1 _ (List.mem_of_getElem? (i := 13) rfl)), List.forall_mem_cons.mpr ⟨(pl_wsX6_comes_wsX6_comes_r1 _ (List.mem_of_getElem? (i := 14) rfl)), List.forall_mem_cons.mpr ⟨(pl_wsX6_comes_wsX6_comes_r1 _ (List.mem_of_getElem? (i := 15) rfl)), List.forall_mem_cons.mpr ⟨(pl_wsX6_comes_wsX6_comes_r1 _ (List.mem_of_getElem? (i := 7) rfl)), fun _ h => absurd h List.not_mem_nil⟩⟩⟩⟩) (by decide +kernel)) ggX6_comes_X6_loadIf
set_option maxRecDepth 20000 in
theorem ggX6_comes_X6_refuse : GoodIn wsX6_comes wsX6_refuse := goodIn_sub (List.forall_mem_cons.mpr ⟨(pl_wsX6_comes_wsX6_comes_r2 _ (List.mem_of_getElem? (i := 14) rfl)), (fun w h => (List.mem_append.mp h).elim ((List.forall_mem_cons.mpr ⟨(pl_wsX6_comes_wsX6_comes_r2 _ (List.mem_of_getElem? (i := 15) rfl)), fun _ h => absurd h List.not_mem_nil⟩) w) (pl_wsX6_comes_wsX60 w))⟩) (by decide +kernel)
set_option maxRecDepth 20000 in
theorem gX6_comes_X6_refuse : GoodIn wsX6_comes (wsV RX6 101 RX6 yX6_refuse wsX6_refuse) := goodIn_app (goodIn_sub (List.forall_mem_cons.mpr ⟨(pl_wsX6_comes_wsX6_comes_r2 _ (List.mem_of_getElem? (i := 11) rfl)), List.forall_mem_cons.mpr ⟨(pl_wsX6_comes_wsX6_comes_r2 _ (List.mem_of_getElem? (i := 12) rfl)), List.forall_mem_cons.mpr ⟨(pl_wsX6_comes_wsX6_comes_r2 _ (List.mem_of_getElem? (i := 13) rfl)), List.forall_mem_cons.mpr ⟨(pl_wsX6_comes_wsX6_comes_r1 _ (List.mem_of_getElem? (i := 7) rfl)), fun _ h => absurd h List.not_mem_nil⟩⟩⟩⟩) (by decide +kernel)) ggX6_comes_X6_refuse
set_option maxRecDepth 20000 in
theorem pl_wsX6_comes_wsX6_comes_r3 : ∀ w ∈ wsX6_comes_r3, w ∈ wsX6_comes := fun _ h => List.mem_cons_of_mem _ (List.mem_append_left _ (List.mem_append_right _ (List.mem_append_right _ (List.mem_append_left _ (h)))))
theorem pl_wsX6_comes_wsX6_comes_r4 : ∀ w ∈ wsX6_comes_r4, w ∈ wsX6_comes := fun _ h => List.mem_cons_of_mem _ (List.mem_append_left _ (List.mem_append_right _ (List.mem_append_right _ (List.mem_append_right _ (h)))))
theorem ggX6_comes_X6_go : GoodIn wsX6_comes wsX6_go := goodIn_sub (List.forall_mem_cons.mpr ⟨(pl_wsX6_comes_wsX6_comes_r2 _ (List.mem_of_getElem? (i := 19) rfl)), (fun w h => (List.mem_append.mp h).elim ((fun w h => (List.mem_append.mp h).elim ((List.forall_mem_cons.mpr ⟨(pl_wsX6_comes_wsX6_comes_r2 _ (List.mem_of_getElem? (i := 5) rfl)), List.forall_mem_cons.mpr ⟨(pl_wsX6_comes_wsX6_comes_r2 _ (List.mem_of_getElem? (i := 20) rfl)), List.forall_mem_cons.mpr ⟨(pl_wsX6_comes_wsX6_comes_r2 _ (List.mem_of_getElem? (i := 21) rfl)), List.forall_mem_cons.mpr ⟨(pl_wsX6_comes_wsX6_comes_r2 _ (List.mem_of_getElem? (i := 22) rfl)), List.forall_mem_cons.mpr ⟨(pl_wsX6_comes_wsX6_comes_r1 _ (List.mem_of_getElem? (i := 7) rfl)), List.forall_mem_cons.mpr ⟨(pl_wsX6_comes_wsX6_comes_r2 _ (List.mem_of_getElem? (i := 23) rfl)), List.forall_mem_cons.mpr ⟨(pl_wsX6_comes_wsX6_comes_r1 _ (List.mem_of_getElem? (i := 9) rfl)), List.forall_mem_cons.mpr ⟨(pl_wsX6_comes_wsX6_comes_r3 _ (List.mem_of_getElem? (i := 0) rfl)), List.forall_mem_cons.mpr ⟨(pl_wsX6_comes_wsX6_comes_r3 _ (List.mem_of_getElem? (i := 1) rfl)), List.forall_mem_cons.mpr ⟨(pl_wsX6_comes_wsX6_comes_r3 _ (List.mem_of_getElem? (i := 2) rfl)), List.forall_mem_cons.mpr ⟨(pl_wsX6_comes_wsX6_comes_r3 _ (List.mem_of_getElem? (i := 3) rfl)), List.forall_mem_cons.mpr ⟨(pl_wsX6_comes_wsX6_comes_r3 _ (List.mem_of_getElem? (i := 4) rfl)), List.forall_mem_cons.mpr ⟨(pl_wsX6_comes_wsX6_comes_r3 _ (List.mem_of_getElem? (i := 5) rfl)), List.forall_mem_cons.mpr ⟨(pl_wsX6_comes_wsX6_comes_r3 _ (List.mem_of_getElem? (i := 6) rfl)), List.forall_mem_cons.mpr ⟨(pl_wsX6_comes_wsX6_comes_r3 _ (List.mem_of_getElem? (i := 7) rfl)), List.forall_mem_cons.mpr ⟨(pl_wsX6_comes_wsX6_comes_r1 _ (List.mem_of_getElem? (i := 1) rfl)), List.forall_mem_cons.mpr ⟨(pl_wsX6_comes_wsX6_comes_r1 _ (List.mem_of_getElem? (i := 2) rfl)), List.forall_mem_cons.mpr ⟨(pl_wsX6_comes_wsX6_comes_r3 _ (List.mem_of_getElem? (i := 8) rfl)), List.forall_mem_cons.mpr ⟨(pl_wsX6_comes_wsX6_comes_r1 _ (List.mem_of_getElem? (i := 3) rfl)), List.forall_mem_cons.mpr ⟨(pl_wsX6_comes_wsX6_comes_r3 _ (List.mem_of_getElem? (i := 9) rfl)), List.forall_mem_cons.mpr ⟨(pl_wsX6_comes_wsX6_comes_r3 _ (List.mem_of_getElem? (i := 10) rfl)), List.forall_mem_cons.mpr ⟨(pl_wsX6_comes_wsX6_comes_r3 _ (List.mem_of_getElem? (i := 11) rfl)), List.forall_mem_cons.mpr ⟨(pl_wsX6_comes_wsX6_comes_r3 _ (List.mem_of_getElem? (i := 12) rfl)), List.forall_mem_cons.mpr ⟨(pl_wsX6_comes_wsX6_comes_r3 _ (List.mem_of_getElem? (i := 13) rfl)), fun _ h => absurd h List.not_mem_nil⟩⟩⟩⟩⟩⟩⟩⟩⟩⟩⟩⟩⟩⟩⟩⟩⟩⟩⟩⟩⟩⟩⟩⟩) w) ((fun w h => (List.mem_append.mp h).elim ((List.forall_mem_cons.mpr ⟨(pl_wsX6_comes_wsX6_comes_r3 _ (List.mem_of_getElem? (i := 14) rfl)), List.forall_mem_cons.mpr ⟨(pl_wsX6_comes_wsX6_comes_r3 _ (List.mem_of_getElem? (i := 15) rfl)), List.forall_mem_cons.mpr ⟨(pl_wsX6_comes_wsX6_comes_r3 _ (List.mem_of_getElem? (i := 16) rfl)), List.forall_mem_cons.mpr ⟨(pl_wsX6_comes_wsX6_comes_r3 _ (List.mem_of_getElem? (i := 17) rfl)), List.forall_mem_cons.mpr ⟨(pl_wsX6_comes_wsX6_comes_r3 _ (List.mem_of_getElem? (i := 18) rfl)), List.forall_mem_cons.mpr ⟨(pl_wsX6_comes_wsX6_comes_r3 _ (List.mem_of_getElem? (i := 19) rfl)), List.forall_mem_cons.mpr ⟨(pl_wsX6_comes_wsX6_comes_r1 _ (List.mem_of_getElem? (i := 10) rfl)), List.forall_mem_cons.mpr ⟨(pl_wsX6_comes_wsX6_comes_r1 _ (List.mem_of_getElem? (i := 11) rfl)), List.forall_mem_cons.mpr ⟨(pl_wsX6_comes_wsX6_comes_r1 _ (List.mem_of_getElem? (i := 12) rfl)), List.forall_mem_cons.mpr ⟨(pl_wsX6_comes_wsX6_comes_r3 _ (List.mem_of_getElem? (i := 20) rfl)), List.forall_mem_cons.mpr ⟨(pl_wsX6_comes_wsX6_comes_r3 _ (List.mem_of_getElem? (i := 21) rfl)), List.forall_mem_cons.mpr ⟨(pl_wsX6_comes_wsX6_comes_r3 _ (List.mem_of_getElem? (i := 22) rfl)), List.forall_mem_cons.mpr ⟨(pl_wsX6_comes_wsX6_comes_r3 _ (List.mem_of_getElem? (i := 23) rfl)), List.forall_mem_cons.mpr ⟨(pl_wsX6_comes_wsX6_comes_r4 _ (List.mem_of_getElem? (i := 0) rfl)), List.forall_mem_cons.mpr ⟨(pl_wsX6_comes_wsX6_comes_r4 _ (List.mem_of_getElem? (i := 1) rfl)), List.forall_mem_cons.mpr ⟨(pl_wsX6_comes_wsX6_comes_r4 _ (List.mem_of_getElem? (i := 2) rfl)), List.forall_mem_cons.mpr ⟨(pl_wsX6_comes_wsX6_comes_r4 _ (List.mem_of_getElem? (i := 3) rfl)), List.forall_mem_cons.mpr ⟨(pl_wsX6_comes_wsX6_comes_r4 _ (List.mem_of_getElem? (i := 4) rfl)), List.forall_mem_cons.mpr ⟨(pl_wsX6_comes_wsX6_comes_r4 _ (List.mem_of_getElem? (i := 5) rfl)), List.forall_mem_cons.mpr ⟨(pl_wsX6_comes_wsX6_comes_r4 _ (List.mem_of_getElem? (i := 6) rfl)), List.forall_mem_cons.mpr ⟨(pl_wsX6_comes_wsX6_comes_r4 _ (List.mem_of_getElem? (i := 7) rfl)), List.forall_mem_cons.mpr ⟨(pl_wsX6_comes_wsX6_comes_r4 _ (List.mem_of_getElem? (i := 8) rfl)), List.forall_mem_cons.mpr ⟨(pl_wsX6_comes_wsX6_comes_r4 _ (List.mem_of_getElem? (i := 9) rfl)), List.forall_mem_cons.mpr ⟨(pl_wsX6_comes_wsX6_comes_r4 _ (List.mem_of_getElem? (i := 10) rfl)), fun _ h => absurd h List.not_mem_nil⟩⟩⟩⟩⟩⟩⟩⟩⟩⟩⟩⟩⟩⟩⟩⟩⟩⟩⟩⟩⟩⟩⟩⟩) w) ((List.forall_mem_cons.mpr ⟨(pl_wsX6_comes_wsX6_comes_r4 _ (List.mem_of_getElem? (i := 11) rfl)), List.forall_mem_cons.mpr ⟨(pl_wsX6_comes_wsX6_comes_r4 _ (List.mem_of_getElem? (i := 12) rfl)), List.forall_mem_cons.mpr ⟨(pl_wsX6_comes_wsX6_comes_r4 _ (List.mem_of_getElem? (i := 13) rfl)), List.forall_mem_cons.mpr ⟨(pl_wsX6_comes_wsX6_comes_r4 _ (List.mem_of_getElem? (i := 14) rfl)), List.forall_mem_cons.mpr ⟨(pl_wsX6_comes_wsX6_comes_r4 _ (List.mem_of_getElem? (i := 15) rfl)), List.forall_mem_cons.mpr ⟨(pl_wsX6_comes_wsX6_comes_r4 _ (List.mem_of_getElem? (i := 16) rfl)), List.forall_mem_cons.mpr ⟨(pl_wsX6_comes_wsX6_comes_r4 _ (List.mem_of_getElem? (i := 17) rfl)), List.forall_mem_cons.mpr ⟨(pl_wsX6_comes_wsX6_comes_r4 _ (List.mem_of_getElem? (i := 18) rfl)), fun _ h => absurd h List.not_mem_nil⟩⟩⟩⟩⟩⟩⟩⟩) w)) w)) w) (pl_wsX6_comes_wsX60 w))⟩) (by decide +kernel)
set_option maxRecDepth 20000 in
theorem gX6_comes_X6_go : GoodIn wsX6_comes (wsV RX6 223 RX6 yX6_go wsX6_go) := goodIn_app (goodIn_sub (List.forall_mem_cons.mpr ⟨(pl_wsX6_comes_wsX6_comes_r2 _ (List.mem_of_getElem? (i := 16) rfl)), List.forall_mem_cons.mpr ⟨(pl_wsX6_comes_wsX6_comes_r2 _ (List.mem_of_getElem? (i := 17) rfl)), List.forall_mem_cons.mpr ⟨(pl_wsX6_comes_wsX6_comes_r2 _ (List.mem_of_getElem? (i := 18) rfl)), List.forall_mem_cons.mpr ⟨(pl_wsX6_comes_wsX6_comes_r1 _ (List.mem_of_getElem? (i := 7) rfl)), fun _ h => absurd h List.not_mem_nil⟩⟩⟩⟩) (by decide +kernel)) ggX6_comes_X6_go
theorem dX6_comes_0 : decode cX6_comes 0 = .ok (.aload_n 0, 1) := by decide +kernel
theorem dX6_comes_1 : decode cX6_comes 1 = .ok (.aload_n 0, 1) := by decide +kernel
theorem dX6_comes_2 : decode cX6_comes 2 = .ok (.iload_n 3, 1) := by decide +kernel
theorem dX6_comes_3 : decode cX6_comes 3 = .ok (.invokevirtual 124, 3) := by decide +kernel
theorem dX6_comes_6 : decode cX6_comes 6 = .ok (.ifCond .eq 20, 3) := by decide +kernel
theorem dX6_comes_9 : decode cX6_comes 9 = .ok (.iload 4, 2) := by decide +kernel
theorem dX6_comes_11 : decode cX6_comes 11 = .ok (.i2l, 1) := by decide +kernel
theorem dX6_comes_12 : decode cX6_comes 12 = .ok (.lconst 0, 1) := by decide +kernel
theorem dX6_comes_13 : decode cX6_comes 13 = .ok (.ldc2_w 120, 3) := by decide +kernel
theorem dX6_comes_16 : decode cX6_comes 16 = .ok (.invokestatic 76, 3) := by decide +kernel
theorem dX6_comes_19 : decode cX6_comes 19 = .ok (.ifCond .eq 7, 3) := by decide +kernel
theorem dX6_comes_22 : decode cX6_comes 22 = .ok (.iconst 1, 1) := by decide +kernel
theorem dX6_comes_23 : decode cX6_comes 23 = .ok (.goto 4, 3) := by decide +kernel
theorem dX6_comes_26 : decode cX6_comes 26 = .ok (.iconst 0, 1) := by decide +kernel
theorem dX6_comes_27 : decode cX6_comes 27 = .ok (.iload_n 1, 1) := by decide +kernel
theorem dX6_comes_28 : decode cX6_comes 28 = .ok (.iload_n 2, 1) := by decide +kernel
theorem dX6_comes_29 : decode cX6_comes 29 = .ok (.invokevirtual 219, 3) := by decide +kernel
theorem dX6_comes_32 : decode cX6_comes 32 = .ok (.istore 5, 2) := by decide +kernel
theorem dX6_comes_34 : decode cX6_comes 34 = .ok (.iload 5, 2) := by decide +kernel
theorem dX6_comes_36 : decode cX6_comes 36 = .ok (.ifCond .ge 10, 3) := by decide +kernel
theorem dX6_comes_39 : decode cX6_comes 39 = .ok (.aload_n 0, 1) := by decide +kernel
theorem dX6_comes_40 : decode cX6_comes 40 = .ok (.iload 5, 2) := by decide +kernel
theorem dX6_comes_42 : decode cX6_comes 42 = .ok (.invokevirtual 101, 3) := by decide +kernel
theorem dX6_comes_45 : decode cX6_comes 45 = .ok (.ireturn, 1) := by decide +kernel
theorem dX6_comes_46 : decode cX6_comes 46 = .ok (.aload_n 0, 1) := by decide +kernel
theorem dX6_comes_47 : decode cX6_comes 47 = .ok (.iload_n 3, 1) := by decide +kernel
theorem dX6_comes_48 : decode cX6_comes 48 = .ok (.iload_n 2, 1) := by decide +kernel
theorem dX6_comes_49 : decode cX6_comes 49 = .ok (.invokevirtual 223, 3) := by decide +kernel
theorem dX6_comes_52 : decode cX6_comes 52 = .ok (.iload 4, 2) := by decide +kernel
theorem dX6_comes_54 : decode cX6_comes 54 = .ok (.ifCond .ne 12, 3) := by decide +kernel
theorem dX6_comes_57 : decode cX6_comes 57 = .ok (.aload_n 0, 1) := by decide +kernel
theorem dX6_comes_58 : decode cX6_comes 58 = .ok (.getfield 33, 3) := by decide +kernel
theorem dX6_comes_61 : decode cX6_comes 61 = .ok (.iconst 0, 1) := by decide +kernel
theorem dX6_comes_62 : decode cX6_comes 62 = .ok (.iaload, 1) := by decide +kernel
theorem dX6_comes_63 : decode cX6_comes 63 = .ok (.goto 24, 3) := by decide +kernel
theorem dX6_comes_66 : decode cX6_comes 66 = .ok (.iload 4, 2) := by decide +kernel
theorem dX6_comes_68 : decode cX6_comes 68 = .ok (.iconst 1, 1) := by decide +kernel
theorem dX6_comes_69 : decode cX6_comes 69 = .ok (.if_icmp .ne 12, 3) := by decide +kernel
theorem dX6_comes_72 : decode cX6_comes 72 = .ok (.aload_n 0, 1) := by decide +kernel
theorem dX6_comes_73 : decode cX6_comes 73 = .ok (.getfield 36, 3) := by decide +kernel
theorem dX6_comes_76 : decode cX6_comes 76 = .ok (.iconst 0, 1) := by decide +kernel
theorem dX6_comes_77 : decode cX6_comes 77 = .ok (.iaload, 1) := by decide +kernel
theorem dX6_comes_78 : decode cX6_comes 78 = .ok (.goto 9, 3) := by decide +kernel
theorem dX6_comes_81 : decode cX6_comes 81 = .ok (.aload_n 0, 1) := by decide +kernel
theorem dX6_comes_82 : decode cX6_comes 82 = .ok (.getfield 48, 3) := by decide +kernel
theorem dX6_comes_85 : decode cX6_comes 85 = .ok (.iconst 0, 1) := by decide +kernel
theorem dX6_comes_86 : decode cX6_comes 86 = .ok (.iaload, 1) := by decide +kernel
theorem dX6_comes_87 : decode cX6_comes 87 = .ok (.ireturn, 1) := by decide +kernel
set_option maxRecDepth 20000 in
theorem pl_wsX6_fell_wsX6_fell_r1 : ∀ w ∈ wsX6_fell_r1, w ∈ wsX6_fell := fun _ h => List.mem_cons_of_mem _ (List.mem_append_left _ (List.mem_append_left _ (h)))
theorem pl_wsX6_fell_wsX6_fell_r2 : ∀ w ∈ wsX6_fell_r2, w ∈ wsX6_fell := fun _ h => List.mem_cons_of_mem _ (List.mem_append_left _ (List.mem_append_right _ (List.mem_append_left _ (h))))
theorem pl_wsX6_fell_wsX60 : ∀ w ∈ wsX60, w ∈ wsX6_fell := fun _ h => List.mem_cons_of_mem _ (List.mem_append_right _ (h))
theorem ggX6_fell_X6_loadIf : GoodIn wsX6_fell wsX6_loadIf := goodIn_sub (List.forall_mem_cons.mpr ⟨(pl_wsX6_fell_wsX6_fell_r1 _ (List.mem_of_getElem? (i := 5) rfl)), (fun w h => (List.mem_append.mp h).elim ((List.forall_mem_cons.mpr ⟨(pl_wsX6_fell_wsX6_fell_r1 _ (List.mem_of_getElem? (i := 6) rfl)), List.forall_mem_cons.mpr ⟨(pl_wsX6_fell_wsX6_fell_r1 _ (List.mem_of_getElem? (i := 7) rfl)), List.forall_mem_cons.mpr ⟨(pl_wsX6_fell_wsX6_fell_r1 _ (List.mem_of_getElem? (i := 8) rfl)), List.forall_mem_cons.mpr ⟨(pl_wsX6_fell_wsX6_fell_r1 _ (List.mem_of_getElem? (i := 4) rfl)), List.forall_mem_cons.mpr ⟨(pl_wsX6_fell_wsX6_fell_r1 _ (List.mem_of_getElem? (i := 9) rfl)), List.forall_mem_cons.mpr ⟨(pl_wsX6_fell_wsX6_fell_r1 _ (List.mem_of_getElem? (i := 10) rfl)), List.forall_mem_cons.mpr ⟨(pl_wsX6_fell_wsX6_fell_r1 _ (List.mem_of_getElem? (i := 11) rfl)), List.forall_mem_cons.mpr ⟨(pl_wsX6_fell_wsX6_fell_r1 _ (List.mem_of_getElem? (i := 12) rfl)), List.forall_mem_cons.mpr ⟨(pl_wsX6_fell_wsX6_fell_r1 _ (List.mem_of_getElem? (i := 13) rfl)), List.forall_mem_cons.mpr ⟨(pl_wsX6_fell_wsX6_fell_r1 _ (List.mem_of_getElem? (i := 14) rfl)), List.forall_mem_cons.mpr ⟨(pl_wsX6_fell_wsX6_fell_r1 _ (List.mem_of_getElem? (i := 15) rfl)), List.forall_mem_cons.mpr ⟨(pl_wsX6_fell_wsX6_fell_r1 _ (List.mem_of_getElem? (i := 16) rfl)), List.forall_mem_cons.mpr ⟨(pl_wsX6_fell_wsX6_fell_r1 _ (List.mem_of_getElem? (i := 17) rfl)), List.forall_mem_cons.mpr ⟨(pl_wsX6_fell_wsX6_fell_r1 _ (List.mem_of_getElem? (i := 18) rfl)), List.forall_mem_cons.mpr ⟨(pl_wsX6_fell_wsX6_fell_r1 _ (List.mem_of_getElem? (i := 19) rfl)), List.forall_mem_cons.mpr ⟨(pl_wsX6_fell_wsX6_fell_r1 _ (List.mem_of_getElem? (i := 20) rfl)), List.forall_mem_cons.mpr ⟨(pl_wsX6_fell_wsX6_fell_r1 _ (List.mem_of_getElem? (i := 21) rfl)), List.forall_mem_cons.mpr ⟨(pl_wsX6_fell_wsX6_fell_r1 _ (List.mem_of_getElem? (i := 22) rfl)), List.forall_mem_cons.mpr ⟨(pl_wsX6_fell_wsX6_fell_r1 _ (List.mem_of_getElem? (i := 23) rfl)), List.forall_mem_cons.mpr ⟨(pl_wsX6_fell_wsX6_fell_r2 _ (List.mem_of_getElem? (i := 0) rfl)), List.forall_mem_cons.mpr ⟨(pl_wsX6_fell_wsX6_fell_r2 _ (List.mem_of_getElem? (i := 1) rfl)), List.forall_mem_cons.mpr ⟨(pl_wsX6_fell_wsX6_fell_r2 _ (List.mem_of_getElem? (i := 2) rfl)), fun _ h => absurd h List.not_mem_nil⟩⟩⟩⟩⟩⟩⟩⟩⟩⟩⟩⟩⟩⟩⟩⟩⟩⟩⟩⟩⟩⟩) w) (pl_wsX6_fell_wsX60 w))⟩) (by decide +kernel)
set_option maxRecDepth 20000 in
theorem gX6_fell_X6_loadIf : GoodIn wsX6_fell (wsV RX6 219 RX6 yX6_loadIf wsX6_loadIf) := goodIn_app (goodIn_sub (List.forall_mem_cons.mpr ⟨(pl_wsX6_fell_wsX6_fell_r1 _ (List.mem_of_getElem? (i := 1) rfl)), List.forall_mem_cons.mpr ⟨(pl_wsX6_fell_wsX6_fell_r1 _ (List.mem_of_getElem? (i := 2) rfl)), List.forall_mem_cons.mpr ⟨(pl_wsX6_fell_wsX6_fell_r1 _ (List.mem_of_getElem? (i := 3) rfl)), List.forall_mem_cons.mpr ⟨(pl_wsX6_fell_wsX6_fell_r1 _ (List.mem_of_getElem? (i := 4) rfl)), fun _ h => absurd h List.not_mem_nil⟩⟩⟩⟩) (by decide +kernel)) ggX6_fell_X6_loadIf
set_option maxRecDepth 20000 in
theorem ggX6_fell_X6_refuse : GoodIn wsX6_fell wsX6_refuse := goodIn_sub (List.forall_mem_cons.mpr ⟨(pl_wsX6_fell_wsX6_fell_r2 _ (List.mem_of_getElem? (i := 6) rfl)), (fun w h => (List.mem_append.mp h).elim ((List.forall_mem_cons.mpr ⟨(pl_wsX6_fell_wsX6_fell_r2 _ (List.mem_of_getElem? (i := 7) rfl)), fun _ h => absurd h List.not_mem_nil⟩) w) (pl_wsX6_fell_wsX60 w))⟩) (by decide +kernel)
set_option maxRecDepth 20000 in
theorem gX6_fell_X6_refuse : GoodIn wsX6_fell (wsV RX6 101 RX6 yX6_refuse wsX6_refuse) := goodIn_app (goodIn_sub (List.forall_mem_cons.mpr ⟨(pl_wsX6_fell_wsX6_fell_r2 _ (List.mem_of_getElem? (i := 3) rfl)), List.forall_mem_cons.mpr ⟨(pl_wsX6_fell_wsX6_fell_r2 _ (List.mem_of_getElem? (i := 4) rfl)), List.forall_mem_cons.mpr ⟨(pl_wsX6_fell_wsX6_fell_r2 _ (List.mem_of_getElem? (i := 5) rfl)), List.forall_mem_cons.mpr ⟨(pl_wsX6_fell_wsX6_fell_r1 _ (List.mem_of_getElem? (i := 4) rfl)), fun _ h => absurd h List.not_mem_nil⟩⟩⟩⟩) (by decide +kernel)) ggX6_fell_X6_refuse
set_option maxRecDepth 20000 in
theorem ggX6_fell_X6_many : GoodIn wsX6_fell wsX6_many := goodIn_sub (List.forall_mem_cons.mpr ⟨(pl_wsX6_fell_wsX6_fell_r2 _ (List.mem_of_getElem? (i := 11) rfl)), (fun w h => (List.mem_append.mp h).elim ((List.forall_mem_cons.mpr ⟨(pl_wsX6_fell_wsX6_fell_r2 _ (List.mem_of_getElem? (i := 12) rfl)), fun _ h => absurd h List.not_mem_nil⟩) w) (pl_wsX6_fell_wsX60 w))⟩) (by decide +kernel)
set_option maxRecDepth 20000 in
theorem gX6_fell_X6_many : GoodIn wsX6_fell (wsV RX6 84 RX6 yX6_many wsX6_many) := goodIn_app (goodIn_sub (List.forall_mem_cons.mpr ⟨(pl_wsX6_fell_wsX6_fell_r2 _ (List.mem_of_getElem? (i := 8) rfl)), List.forall_mem_cons.mpr ⟨(pl_wsX6_fell_wsX6_fell_r2 _ (List.mem_of_getElem? (i := 9) rfl)), List.forall_mem_cons.mpr ⟨(pl_wsX6_fell_wsX6_fell_r2 _ (List.mem_of_getElem? (i := 10) rfl)), List.forall_mem_cons.mpr ⟨(pl_wsX6_fell_wsX6_fell_r1 _ (List.mem_of_getElem? (i := 4) rfl)), fun _ h => absurd h List.not_mem_nil⟩⟩⟩⟩) (by decide +kernel)) ggX6_fell_X6_many
set_option maxRecDepth 20000 in
theorem pl_wsX6_fell_wsX6_fell_r3 : ∀ w ∈ wsX6_fell_r3, w ∈ wsX6_fell := fun _ h => List.mem_cons_of_mem _ (List.mem_append_left _ (List.mem_append_right _ (List.mem_append_right _ (List.mem_append_left _ (h)))))
theorem pl_wsX6_fell_wsX6_fell_r4 : ∀ w ∈ wsX6_fell_r4, w ∈ wsX6_fell := fun _ h => List.mem_cons_of_mem _ (List.mem_append_left _ (List.mem_append_right _ (List.mem_append_right _ (List.mem_append_right _ (h)))))
theorem ggX6_fell_X6_go : GoodIn wsX6_fell wsX6_go := goodIn_sub (List.forall_mem_cons.mpr ⟨(pl_wsX6_fell_wsX6_fell_r2 _ (List.mem_of_getElem? (i := 16) rfl)), (fun w h => (List.mem_append.mp h).elim ((fun w h => (List.mem_append.mp h).elim ((List.forall_mem_cons.mpr ⟨(pl_wsX6_fell_wsX6_fell_r1 _ (List.mem_of_getElem? (i := 21) rfl)), List.forall_mem_cons.mpr ⟨(pl_wsX6_fell_wsX6_fell_r2 _ (List.mem_of_getElem? (i := 17) rfl)), List.forall_mem_cons.mpr ⟨(pl_wsX6_fell_wsX6_fell_r2 _ (List.mem_of_getElem? (i := 18) rfl)), List.forall_mem_cons.mpr ⟨(pl_wsX6_fell_wsX6_fell_r2 _ (List.mem_of_getElem? (i := 19) rfl)), List.forall_mem_cons.mpr ⟨(pl_wsX6_fell_wsX6_fell_r1 _ (List.mem_of_getElem? (i := 4) rfl)), List.forall_mem_cons.mpr ⟨(pl_wsX6_fell_wsX6_fell_r2 _ (List.mem_of_getElem? (i := 20) rfl)), List.forall_mem_cons.mpr ⟨(pl_wsX6_fell_wsX6_fell_r2 _ (List.mem_of_getElem? (i := 12) rfl)), List.forall_mem_cons.mpr ⟨(pl_wsX6_fell_wsX6_fell_r2 _ (List.mem_of_getElem? (i := 21) rfl)), List.forall_mem_cons.mpr ⟨(pl_wsX6_fell_wsX6_fell_r2 _ (List.mem_of_getElem? (i := 22) rfl)), List.forall_mem_cons.mpr ⟨(pl_wsX6_fell_wsX6_fell_r2 _ (List.mem_of_getElem? (i := 23) rfl)), List.forall_mem_cons.mpr ⟨(pl_wsX6_fell_wsX6_fell_r3 _ (List.mem_of_getElem? (i := 0) rfl)), List.forall_mem_cons.mpr ⟨(pl_wsX6_fell_wsX6_fell_r3 _ (List.mem_of_getElem? (i := 1) rfl)), List.forall_mem_cons.mpr ⟨(pl_wsX6_fell_wsX6_fell_r3 _ (List.mem_of_getElem? (i := 2) rfl)), List.forall_mem_cons.mpr ⟨(pl_wsX6_fell_wsX6_fell_r3 _ (List.mem_of_getElem? (i := 3) rfl)), List.forall_mem_cons.mpr ⟨(pl_wsX6_fell_wsX6_fell_r3 _ (List.mem_of_getElem? (i := 4) rfl)), List.forall_mem_cons.mpr ⟨(pl_wsX6_fell_wsX6_fell_r3 _ (List.mem_of_getElem? (i := 5) rfl)), List.forall_mem_cons.mpr ⟨(pl_wsX6_fell_wsX6_fell_r3 _ (List.mem_of_getElem? (i := 6) rfl)), List.forall_mem_cons.mpr ⟨(pl_wsX6_fell_wsX6_fell_r3 _ (List.mem_of_getElem? (i := 7) rfl)), List.forall_mem_cons.mpr ⟨(pl_wsX6_fell_wsX6_fell_r1 _ (List.mem_of_getElem? (i := 0) rfl)), List.forall_mem_cons.mpr ⟨(pl_wsX6_fell_wsX6_fell_r3 _ (List.mem_of_getElem? (i := 8) rfl)), List.forall_mem_cons.mpr ⟨(pl_wsX6_fell_wsX6_fell_r3 _ (List.mem_of_getElem? (i := 9) rfl)), List.forall_mem_cons.mpr ⟨(pl_wsX6_fell_wsX6_fell_r3 _ (List.mem_of_getElem? (i := 10) rfl)), List.forall_mem_cons.mpr ⟨(pl_wsX6_fell_wsX6_fell_r3 _ (List.mem_of_getElem? (i := 11) rfl)), List.forall_mem_cons.mpr ⟨(pl_wsX6_fell_wsX6_fell_r3 _ (List.mem_of_getElem? (i := 12) rfl)), fun _ h => absurd h List.not_mem_nil⟩⟩⟩⟩⟩⟩⟩⟩⟩⟩⟩⟩⟩⟩⟩⟩⟩⟩⟩⟩⟩⟩⟩⟩) w) ((fun w h => (List.mem_append.mp h).elim ((List.forall_mem_cons.mpr ⟨(pl_wsX6_fell_wsX6_fell_r3 _ (List.mem_of_getElem? (i := 13) rfl)), List.forall_mem_cons.mpr ⟨(pl_wsX6_fell_wsX6_fell_r3 _ (List.mem_of_getElem? (i := 14) rfl)), List.forall_mem_cons.mpr ⟨(pl_wsX6_fell_wsX6_fell_r3 _ (List.mem_of_getElem? (i := 15) rfl)), List.forall_mem_cons.mpr ⟨(pl_wsX6_fell_wsX6_fell_r3 _ (List.mem_of_getElem? (i := 16) rfl)), List.forall_mem_cons.mpr ⟨(pl_wsX6_fell_wsX6_fell_r3 _ (List.mem_of_getElem? (i := 17) rfl)), List.forall_mem_cons.mpr ⟨(pl_wsX6_fell_wsX6_fell_r3 _ (List.mem_of_getElem? (i := 18) rfl)), List.forall_mem_cons.mpr ⟨(pl_wsX6_fell_wsX6_fell_r1 _ (List.mem_of_getElem? (i := 11) rfl)), List.forall_mem_cons.mpr ⟨(pl_wsX6_fell_wsX6_fell_r1 _ (List.mem_of_getElem? (i := 12) rfl)), List.forall_mem_cons.mpr ⟨(pl_wsX6_fell_wsX6_fell_r1 _ (List.mem_of_getElem? (i := 13) rfl)), List.forall_mem_cons.mpr ⟨(pl_wsX6_fell_wsX6_fell_r3 _ (List.mem_of_getElem? (i := 19) rfl)), List.forall_mem_cons.mpr ⟨(pl_wsX6_fell_wsX6_fell_r3 _ (List.mem_of_getElem? (i := 20) rfl)), List.forall_mem_cons.mpr ⟨(pl_wsX6_fell_wsX6_fell_r3 _ (List.mem_of_getElem? (i := 21) rfl)), List.forall_mem_cons.mpr ⟨(pl_wsX6_fell_wsX6_fell_r3 _ (List.mem_of_getElem? (i := 22) rfl)), List.forall_mem_cons.mpr ⟨(pl_wsX6_fell_wsX6_fell_r3 _ (List.mem_of_getElem? (i := 23) rfl)), List.forall_mem_cons.mpr ⟨(pl_wsX6_fell_wsX6_fell_r4 _ (List.mem_of_getElem? (i := 0) rfl)), List.forall_mem_cons.mpr ⟨(pl_wsX6_fell_wsX6_fell_r4 _ (List.mem_of_getElem? (i := 1) rfl)), List.forall_mem_cons.mpr ⟨(pl_wsX6_fell_wsX6_fell_r4 _ (List.mem_of_getElem? (i := 2) rfl)), List.forall_mem_cons.mpr ⟨(pl_wsX6_fell_wsX6_fell_r4 _ (List.mem_of_getElem? (i := 3) rfl)), List.forall_mem_cons.mpr ⟨(pl_wsX6_fell_wsX6_fell_r4 _ (List.mem_of_getElem? (i := 4) rfl)), List.forall_mem_cons.mpr ⟨(pl_wsX6_fell_wsX6_fell_r4 _ (List.mem_of_getElem? (i := 5) rfl)), List.forall_mem_cons.mpr ⟨(pl_wsX6_fell_wsX6_fell_r4 _ (List.mem_of_getElem? (i := 6) rfl)), List.forall_mem_cons.mpr ⟨(pl_wsX6_fell_wsX6_fell_r4 _ (List.mem_of_getElem? (i := 7) rfl)), List.forall_mem_cons.mpr ⟨(pl_wsX6_fell_wsX6_fell_r4 _ (List.mem_of_getElem? (i := 8) rfl)), List.forall_mem_cons.mpr ⟨(pl_wsX6_fell_wsX6_fell_r4 _ (List.mem_of_getElem? (i := 9) rfl)), fun _ h => absurd h List.not_mem_nil⟩⟩⟩⟩⟩⟩⟩⟩⟩⟩⟩⟩⟩⟩⟩⟩⟩⟩⟩⟩⟩⟩⟩⟩) w) ((List.forall_mem_cons.mpr ⟨(pl_wsX6_fell_wsX6_fell_r4 _ (List.mem_of_getElem? (i := 10) rfl)), List.forall_mem_cons.mpr ⟨(pl_wsX6_fell_wsX6_fell_r4 _ (List.mem_of_getElem? (i := 11) rfl)), List.forall_mem_cons.mpr ⟨(pl_wsX6_fell_wsX6_fell_r4 _ (List.mem_of_getElem? (i := 12) rfl)), List.forall_mem_cons.mpr ⟨(pl_wsX6_fell_wsX6_fell_r4 _ (List.mem_of_getElem? (i := 13) rfl)), List.forall_mem_cons.mpr ⟨(pl_wsX6_fell_wsX6_fell_r4 _ (List.mem_of_getElem? (i := 14) rfl)), List.forall_mem_cons.mpr ⟨(pl_wsX6_fell_wsX6_fell_r4 _ (List.mem_of_getElem? (i := 15) rfl)), List.forall_mem_cons.mpr ⟨(pl_wsX6_fell_wsX6_fell_r4 _ (List.mem_of_getElem? (i := 16) rfl)), List.forall_mem_cons.mpr ⟨(pl_wsX6_fell_wsX6_fell_r4 _ (List.mem_of_getElem? (i := 17) rfl)), fun _ h => absurd h List.not_mem_nil⟩⟩⟩⟩⟩⟩⟩⟩) w)) w)) w) (pl_wsX6_fell_wsX60 w))⟩) (by decide +kernel)
set_option maxRecDepth 20000 in
theorem gX6_fell_X6_go : GoodIn wsX6_fell (wsV RX6 223 RX6 yX6_go wsX6_go) := goodIn_app (goodIn_sub (List.forall_mem_cons.mpr ⟨(pl_wsX6_fell_wsX6_fell_r2 _ (List.mem_of_getElem? (i := 13) rfl)), List.forall_mem_cons.mpr ⟨(pl_wsX6_fell_wsX6_fell_r2 _ (List.mem_of_getElem? (i := 14) rfl)), List.forall_mem_cons.mpr ⟨(pl_wsX6_fell_wsX6_fell_r2 _ (List.mem_of_getElem? (i := 15) rfl)), List.forall_mem_cons.mpr ⟨(pl_wsX6_fell_wsX6_fell_r1 _ (List.mem_of_getElem? (i := 4) rfl)), fun _ h => absurd h List.not_mem_nil⟩⟩⟩⟩) (by decide +kernel)) ggX6_fell_X6_go
theorem dX6_fell_0 : decode cX6_fell 0 = .ok (.aload_n 0, 1) := by decide +kernel
theorem dX6_fell_1 : decode cX6_fell 1 = .ok (.iconst 1, 1) := by decide +kernel
theorem dX6_fell_2 : decode cX6_fell 2 = .ok (.iload_n 1, 1) := by decide +kernel
theorem dX6_fell_3 : decode cX6_fell 3 = .ok (.iload_n 2, 1) := by decide +kernel
theorem dX6_fell_4 : decode cX6_fell 4 = .ok (.invokevirtual 219, 3) := by decide +kernel
theorem dX6_fell_7 : decode cX6_fell 7 = .ok (.istore_n 3, 1) := by decide +kernel
theorem dX6_fell_8 : decode cX6_fell 8 = .ok (.iload_n 3, 1) := by decide +kernel
theorem dX6_fell_9 : decode cX6_fell 9 = .ok (.ifCond .ge 9, 3) := by decide +kernel
theorem dX6_fell_12 : decode cX6_fell 12 = .ok (.aload_n 0, 1) := by decide +kernel
theorem dX6_fell_13 : decode cX6_fell 13 = .ok (.iload_n 3, 1) := by decide +kernel
theorem dX6_fell_14 : decode cX6_fell 14 = .ok (.invokevirtual 101, 3) := by decide +kernel
theorem dX6_fell_17 : decode cX6_fell 17 = .ok (.ireturn, 1) := by decide +kernel
theorem dX6_fell_18 : decode cX6_fell 18 = .ok (.iconst 0, 1) := by decide +kernel
theorem dX6_fell_19 : decode cX6_fell 19 = .ok (.istore 4, 2) := by decide +kernel
theorem dX6_fell_21 : decode cX6_fell 21 = .ok (.iconst 0, 1) := by decide +kernel
theorem dX6_fell_22 : decode cX6_fell 22 = .ok (.istore 5, 2) := by decide +kernel
theorem dX6_fell_24 : decode cX6_fell 24 = .ok (.iload 5, 2) := by decide +kernel
theorem dX6_fell_26 : decode cX6_fell 26 = .ok (.aload_n 0, 1) := by decide +kernel
theorem dX6_fell_27 : decode cX6_fell 27 = .ok (.invokevirtual 84, 3) := by decide +kernel
theorem dX6_fell_30 : decode cX6_fell 30 = .ok (.if_icmp .ge 36, 3) := by decide +kernel
theorem dX6_fell_33 : decode cX6_fell 33 = .ok (.aload_n 0, 1) := by decide +kernel
theorem dX6_fell_34 : decode cX6_fell 34 = .ok (.iload 5, 2) := by decide +kernel
theorem dX6_fell_36 : decode cX6_fell 36 = .ok (.iload_n 2, 1) := by decide +kernel
theorem dX6_fell_37 : decode cX6_fell 37 = .ok (.invokevirtual 223, 3) := by decide +kernel
theorem dX6_fell_40 : decode cX6_fell 40 = .ok (.iload 4, 2) := by decide +kernel
theorem dX6_fell_42 : decode cX6_fell 42 = .ok (.aload_n 0, 1) := by decide +kernel
theorem dX6_fell_43 : decode cX6_fell 43 = .ok (.getfield 48, 3) := by decide +kernel
theorem dX6_fell_46 : decode cX6_fell 46 = .ok (.iconst 0, 1) := by decide +kernel
theorem dX6_fell_47 : decode cX6_fell 47 = .ok (.iaload, 1) := by decide +kernel
theorem dX6_fell_48 : decode cX6_fell 48 = .ok (.iconst (-1), 1) := by decide +kernel
theorem dX6_fell_49 : decode cX6_fell 49 = .ok (.if_icmp .ne 7, 3) := by decide +kernel
theorem dX6_fell_52 : decode cX6_fell 52 = .ok (.iconst 0, 1) := by decide +kernel
theorem dX6_fell_53 : decode cX6_fell 53 = .ok (.goto 4, 3) := by decide +kernel
theorem dX6_fell_56 : decode cX6_fell 56 = .ok (.iconst 1, 1) := by decide +kernel
theorem dX6_fell_57 : decode cX6_fell 57 = .ok (.iadd, 1) := by decide +kernel
theorem dX6_fell_58 : decode cX6_fell 58 = .ok (.istore 4, 2) := by decide +kernel
theorem dX6_fell_60 : decode cX6_fell 60 = .ok (.iinc 5 1, 3) := by decide +kernel
theorem dX6_fell_63 : decode cX6_fell 63 = .ok (.goto (-39), 3) := by decide +kernel
theorem dX6_fell_66 : decode cX6_fell 66 = .ok (.iload 4, 2) := by decide +kernel
theorem dX6_fell_68 : decode cX6_fell 68 = .ok (.ireturn, 1) := by decide +kernel
set_option maxRecDepth 20000 in
theorem pl_wsX6_ponds_wsX6_ponds_r1 : ∀ w ∈ wsX6_ponds_r1, w ∈ wsX6_ponds := fun _ h => List.mem_cons_of_mem _ (List.mem_append_left _ (List.mem_append_left _ (h)))
theorem pl_wsX6_ponds_wsX60 : ∀ w ∈ wsX60, w ∈ wsX6_ponds := fun _ h => List.mem_cons_of_mem _ (List.mem_append_right _ (h))
theorem ggX6_ponds_X6_isPerson : GoodIn wsX6_ponds wsX6_isPerson := goodIn_sub (List.forall_mem_cons.mpr ⟨(pl_wsX6_ponds_wsX6_ponds_r1 _ (List.mem_of_getElem? (i := 6) rfl)), (fun w h => (List.mem_append.mp h).elim ((List.forall_mem_cons.mpr ⟨(pl_wsX6_ponds_wsX6_ponds_r1 _ (List.mem_of_getElem? (i := 0) rfl)), List.forall_mem_cons.mpr ⟨(pl_wsX6_ponds_wsX6_ponds_r1 _ (List.mem_of_getElem? (i := 7) rfl)), List.forall_mem_cons.mpr ⟨(pl_wsX6_ponds_wsX6_ponds_r1 _ (List.mem_of_getElem? (i := 8) rfl)), List.forall_mem_cons.mpr ⟨(pl_wsX6_ponds_wsX6_ponds_r1 _ (List.mem_of_getElem? (i := 5) rfl)), List.forall_mem_cons.mpr ⟨(pl_wsX6_ponds_wsX6_ponds_r1 _ (List.mem_of_getElem? (i := 9) rfl)), fun _ h => absurd h List.not_mem_nil⟩⟩⟩⟩⟩) w) (pl_wsX6_ponds_wsX60 w))⟩) (by decide +kernel)
set_option maxRecDepth 20000 in
theorem gX6_ponds_X6_isPerson : GoodIn wsX6_ponds (wsV RX6 124 RX6 yX6_isPerson wsX6_isPerson) := goodIn_app (goodIn_sub (List.forall_mem_cons.mpr ⟨(pl_wsX6_ponds_wsX6_ponds_r1 _ (List.mem_of_getElem? (i := 2) rfl)), List.forall_mem_cons.mpr ⟨(pl_wsX6_ponds_wsX6_ponds_r1 _ (List.mem_of_getElem? (i := 3) rfl)), List.forall_mem_cons.mpr ⟨(pl_wsX6_ponds_wsX6_ponds_r1 _ (List.mem_of_getElem? (i := 4) rfl)), List.forall_mem_cons.mpr ⟨(pl_wsX6_ponds_wsX6_ponds_r1 _ (List.mem_of_getElem? (i := 5) rfl)), fun _ h => absurd h List.not_mem_nil⟩⟩⟩⟩) (by decide +kernel)) ggX6_ponds_X6_isPerson
set_option maxRecDepth 20000 in
theorem pl_wsX6_ponds_wsX6_ponds_r2 : ∀ w ∈ wsX6_ponds_r2, w ∈ wsX6_ponds := fun _ h => List.mem_cons_of_mem _ (List.mem_append_left _ (List.mem_append_right _ (List.mem_append_left _ (h))))
theorem ggX6_ponds_X6_loadIf : GoodIn wsX6_ponds wsX6_loadIf := goodIn_sub (List.forall_mem_cons.mpr ⟨(pl_wsX6_ponds_wsX6_ponds_r1 _ (List.mem_of_getElem? (i := 13) rfl)), (fun w h => (List.mem_append.mp h).elim ((List.forall_mem_cons.mpr ⟨(pl_wsX6_ponds_wsX6_ponds_r1 _ (List.mem_of_getElem? (i := 14) rfl)), List.forall_mem_cons.mpr ⟨(pl_wsX6_ponds_wsX6_ponds_r1 _ (List.mem_of_getElem? (i := 15) rfl)), List.forall_mem_cons.mpr ⟨(pl_wsX6_ponds_wsX6_ponds_r1 _ (List.mem_of_getElem? (i := 16) rfl)), List.forall_mem_cons.mpr ⟨(pl_wsX6_ponds_wsX6_ponds_r1 _ (List.mem_of_getElem? (i := 5) rfl)), List.forall_mem_cons.mpr ⟨(pl_wsX6_ponds_wsX6_ponds_r1 _ (List.mem_of_getElem? (i := 17) rfl)), List.forall_mem_cons.mpr ⟨(pl_wsX6_ponds_wsX6_ponds_r1 _ (List.mem_of_getElem? (i := 18) rfl)), List.forall_mem_cons.mpr ⟨(pl_wsX6_ponds_wsX6_ponds_r1 _ (List.mem_of_getElem? (i := 7) rfl)), List.forall_mem_cons.mpr ⟨(pl_wsX6_ponds_wsX6_ponds_r1 _ (List.mem_of_getElem? (i := 8) rfl)), List.forall_mem_cons.mpr ⟨(pl_wsX6_ponds_wsX6_ponds_r1 _ (List.mem_of_getElem? (i := 9) rfl)), List.forall_mem_cons.mpr ⟨(pl_wsX6_ponds_wsX6_ponds_r1 _ (List.mem_of_getElem? (i := 19) rfl)), List.forall_mem_cons.mpr ⟨(pl_wsX6_ponds_wsX6_ponds_r1 _ (List.mem_of_getElem? (i := 20) rfl)), List.forall_mem_cons.mpr ⟨(pl_wsX6_ponds_wsX6_ponds_r1 _ (List.mem_of_getElem? (i := 21) rfl)), List.forall_mem_cons.mpr ⟨(pl_wsX6_ponds_wsX6_ponds_r1 _ (List.mem_of_getElem? (i := 22) rfl)), List.forall_mem_cons.mpr ⟨(pl_wsX6_ponds_wsX6_ponds_r1 _ (List.mem_of_getElem? (i := 23) rfl)), List.forall_mem_cons.mpr ⟨(pl_wsX6_ponds_wsX6_ponds_r2 _ (List.mem_of_getElem? (i := 0) rfl)), List.forall_mem_cons.mpr ⟨(pl_wsX6_ponds_wsX6_ponds_r2 _ (List.mem_of_getElem? (i := 1) rfl)), List.forall_mem_cons.mpr ⟨(pl_wsX6_ponds_wsX6_ponds_r2 _ (List.mem_of_getElem? (i := 2) rfl)), List.forall_mem_cons.mpr ⟨(pl_wsX6_ponds_wsX6_ponds_r2 _ (List.mem_of_getElem? (i := 3) rfl)), List.forall_mem_cons.mpr ⟨(pl_wsX6_ponds_wsX6_ponds_r2 _ (List.mem_of_getElem? (i := 4) rfl)), List.forall_mem_cons.mpr ⟨(pl_wsX6_ponds_wsX6_ponds_r2 _ (List.mem_of_getElem? (i := 5) rfl)), List.forall_mem_cons.mpr ⟨(pl_wsX6_ponds_wsX6_ponds_r2 _ (List.mem_of_getElem? (i := 6) rfl)), List.forall_mem_cons.mpr ⟨(pl_wsX6_ponds_wsX6_ponds_r2 _ (List.mem_of_getElem? (i := 7) rfl)), fun _ h => absurd h List.not_mem_nil⟩⟩⟩⟩⟩⟩⟩⟩⟩⟩⟩⟩⟩⟩⟩⟩⟩⟩⟩⟩⟩⟩) w) (pl_wsX6_ponds_wsX60 w))⟩) (by decide +kernel)
set_option maxRecDepth 20000 in
theorem gX6_ponds_X6_loadIf : GoodIn wsX6_ponds (wsV RX6 219 RX6 yX6_loadIf wsX6_loadIf) := goodIn_app (goodIn_sub (List.forall_mem_cons.mpr ⟨(pl_wsX6_ponds_wsX6_ponds_r1 _ (List.mem_of_getElem? (i := 10) rfl)), List.forall_mem_cons.mpr ⟨(pl_wsX6_ponds_wsX6_ponds_r1 _ (List.mem_of_getElem? (i := 11) rfl)), List.forall_mem_cons.mpr ⟨(pl_wsX6_ponds_wsX6_ponds_r1 _ (List.mem_of_getElem? (i := 12) rfl)), List.forall_mem_cons.mpr ⟨(pl_wsX6_ponds_wsX6_ponds_r1 _ (List.mem_of_getElem? (i := 5) rfl)), fun _ h => absurd h List.not_mem_nil⟩⟩⟩⟩) (by decide +kernel)) ggX6_ponds_X6_loadIf
set_option maxRecDepth 20000 in
theorem ggX6_ponds_X6_refuse : GoodIn wsX6_ponds wsX6_refuse := goodIn_sub (List.forall_mem_cons.mpr ⟨(pl_wsX6_ponds_wsX6_ponds_r2 _ (List.mem_of_getElem? (i := 11) rfl)), (fun w h => (List.mem_append.mp h).elim ((List.forall_mem_cons.mpr ⟨(pl_wsX6_ponds_wsX6_ponds_r2 _ (List.mem_of_getElem? (i := 12) rfl)), fun _ h => absurd h List.not_mem_nil⟩) w) (pl_wsX6_ponds_wsX60 w))⟩) (by decide +kernel)
set_option maxRecDepth 20000 in
theorem gX6_ponds_X6_refuse : GoodIn wsX6_ponds (wsV RX6 101 RX6 yX6_refuse wsX6_refuse) := goodIn_app (goodIn_sub (List.forall_mem_cons.mpr ⟨(pl_wsX6_ponds_wsX6_ponds_r2 _ (List.mem_of_getElem? (i := 8) rfl)), List.forall_mem_cons.mpr ⟨(pl_wsX6_ponds_wsX6_ponds_r2 _ (List.mem_of_getElem? (i := 9) rfl)), List.forall_mem_cons.mpr ⟨(pl_wsX6_ponds_wsX6_ponds_r2 _ (List.mem_of_getElem? (i := 10) rfl)), List.forall_mem_cons.mpr ⟨(pl_wsX6_ponds_wsX6_ponds_r1 _ (List.mem_of_getElem? (i := 5) rfl)), fun _ h => absurd h List.not_mem_nil⟩⟩⟩⟩) (by decide +kernel)) ggX6_ponds_X6_refuse
set_option maxRecDepth 20000 in
theorem ggX6_ponds_X6_cell : GoodIn wsX6_ponds wsX6_cell := goodIn_sub (List.forall_mem_cons.mpr ⟨(pl_wsX6_ponds_wsX6_ponds_r2 _ (List.mem_of_getElem? (i := 16) rfl)), (fun w h => (List.mem_append.mp h).elim ((List.forall_mem_cons.mpr ⟨(pl_wsX6_ponds_wsX6_ponds_r1 _ (List.mem_of_getElem? (i := 0) rfl)), fun _ h => absurd h List.not_mem_nil⟩) w) (pl_wsX6_ponds_wsX60 w))⟩) (by decide +kernel)
set_option maxRecDepth 20000 in
theorem gX6_ponds_X6_cell : GoodIn wsX6_ponds (wsV RX6 88 RX6 yX6_cell wsX6_cell) := goodIn_app (goodIn_sub (List.forall_mem_cons.mpr ⟨(pl_wsX6_ponds_wsX6_ponds_r2 _ (List.mem_of_getElem? (i := 13) rfl)), List.forall_mem_cons.mpr ⟨(pl_wsX6_ponds_wsX6_ponds_r2 _ (List.mem_of_getElem? (i := 14) rfl)), List.forall_mem_cons.mpr ⟨(pl_wsX6_ponds_wsX6_ponds_r2 _ (List.mem_of_getElem? (i := 15) rfl)), List.forall_mem_cons.mpr ⟨(pl_wsX6_ponds_wsX6_ponds_r1 _ (List.mem_of_getElem? (i := 5) rfl)), fun _ h => absurd h List.not_mem_nil⟩⟩⟩⟩) (by decide +kernel)) ggX6_ponds_X6_cell
set_option maxRecDepth 20000 in
theorem ggX6_ponds_X6_isCell : GoodIn wsX6_ponds wsX6_isCell := goodIn_sub (List.forall_mem_cons.mpr ⟨(pl_wsX6_ponds_wsX6_ponds_r2 _ (List.mem_of_getElem? (i := 20) rfl)), (fun w h => (List.mem_append.mp h).elim ((List.forall_mem_cons.mpr ⟨(pl_wsX6_ponds_wsX6_ponds_r1 _ (List.mem_of_getElem? (i := 0) rfl)), fun _ h => absurd h List.not_mem_nil⟩) w) (pl_wsX6_ponds_wsX60 w))⟩) (by decide +kernel)
set_option maxRecDepth 20000 in
theorem gX6_ponds_X6_isCell : GoodIn wsX6_ponds (wsV RX6 104 RX6 yX6_isCell wsX6_isCell) := goodIn_app (goodIn_sub (List.forall_mem_cons.mpr ⟨(pl_wsX6_ponds_wsX6_ponds_r2 _ (List.mem_of_getElem? (i := 17) rfl)), List.forall_mem_cons.mpr ⟨(pl_wsX6_ponds_wsX6_ponds_r2 _ (List.mem_of_getElem? (i := 18) rfl)), List.forall_mem_cons.mpr ⟨(pl_wsX6_ponds_wsX6_ponds_r2 _ (List.mem_of_getElem? (i := 19) rfl)), List.forall_mem_cons.mpr ⟨(pl_wsX6_ponds_wsX6_ponds_r1 _ (List.mem_of_getElem? (i := 5) rfl)), fun _ h => absurd h List.not_mem_nil⟩⟩⟩⟩) (by decide +kernel)) ggX6_ponds_X6_isCell
set_option maxRecDepth 20000 in
theorem pl_wsX6_ponds_wsX6_ponds_r3 : ∀ w ∈ wsX6_ponds_r3, w ∈ wsX6_ponds := fun _ h => List.mem_cons_of_mem _ (List.mem_append_left _ (List.mem_append_right _ (List.mem_append_right _ (List.mem_append_left _ (h)))))
theorem ggX6_ponds_X6_hasPond : GoodIn wsX6_ponds wsX6_hasPond := goodIn_sub (List.forall_mem_cons.mpr ⟨(pl_wsX6_ponds_wsX6_ponds_r3 _ (List.mem_of_getElem? (i := 0) rfl)), (fun w h => (List.mem_append.mp h).elim ((List.forall_mem_cons.mpr ⟨(pl_wsX6_ponds_wsX6_ponds_r1 _ (List.mem_of_getElem? (i := 0) rfl)), List.forall_mem_cons.mpr ⟨(pl_wsX6_ponds_wsX6_ponds_r3 _ (List.mem_of_getElem? (i := 1) rfl)), List.forall_mem_cons.mpr ⟨(pl_wsX6_ponds_wsX6_ponds_r3 _ (List.mem_of_getElem? (i := 2) rfl)), List.forall_mem_cons.mpr ⟨(pl_wsX6_ponds_wsX6_ponds_r1 _ (List.mem_of_getElem? (i := 5) rfl)), List.forall_mem_cons.mpr ⟨(pl_wsX6_ponds_wsX6_ponds_r3 _ (List.mem_of_getElem? (i := 3) rfl)), fun _ h => absurd h List.not_mem_nil⟩⟩⟩⟩⟩) w) (pl_wsX6_ponds_wsX60 w))⟩) (by decide +kernel)
set_option maxRecDepth 20000 in
theorem gX6_ponds_X6_hasPond : GoodIn wsX6_ponds (wsV RX6 95 RX6 yX6_hasPond wsX6_hasPond) := goodIn_app (goodIn_sub (List.forall_mem_cons.mpr ⟨(pl_wsX6_ponds_wsX6_ponds_r2 _ (List.mem_of_getElem? (i := 21) rfl)), List.forall_mem_cons.mpr ⟨(pl_wsX6_ponds_wsX6_ponds_r2 _ (List.mem_of_getElem? (i := 22) rfl)), List.forall_mem_cons.mpr ⟨(pl_wsX6_ponds_wsX6_ponds_r2 _ (List.mem_of_getElem? (i := 23) rfl)), List.forall_mem_cons.mpr ⟨(pl_wsX6_ponds_wsX6_ponds_r1 _ (List.mem_of_getElem? (i := 5) rfl)), fun _ h => absurd h List.not_mem_nil⟩⟩⟩⟩) (by decide +kernel)) ggX6_ponds_X6_hasPond
set_option maxRecDepth 20000 in
theorem pl_wsX6_ponds_wsX6_ponds_r4 : ∀ w ∈ wsX6_ponds_r4, w ∈ wsX6_ponds := fun _ h => List.mem_cons_of_mem _ (List.mem_append_left _ (List.mem_append_right _ (List.mem_append_right _ (List.mem_append_right _ (h)))))
theorem ggX6_ponds_X6_go : GoodIn wsX6_ponds wsX6_go := goodIn_sub (List.forall_mem_cons.mpr ⟨(pl_wsX6_ponds_wsX6_ponds_r3 _ (List.mem_of_getElem? (i := 7) rfl)), (fun w h => (List.mem_append.mp h).elim ((fun w h => (List.mem_append.mp h).elim ((List.forall_mem_cons.mpr ⟨(pl_wsX6_ponds_wsX6_ponds_r2 _ (List.mem_of_getElem? (i := 2) rfl)), List.forall_mem_cons.mpr ⟨(pl_wsX6_ponds_wsX6_ponds_r2 _ (List.mem_of_getElem? (i := 13) rfl)), List.forall_mem_cons.mpr ⟨(pl_wsX6_ponds_wsX6_ponds_r2 _ (List.mem_of_getElem? (i := 14) rfl)), List.forall_mem_cons.mpr ⟨(pl_wsX6_ponds_wsX6_ponds_r2 _ (List.mem_of_getElem? (i := 15) rfl)), List.forall_mem_cons.mpr ⟨(pl_wsX6_ponds_wsX6_ponds_r1 _ (List.mem_of_getElem? (i := 5) rfl)), List.forall_mem_cons.mpr ⟨(pl_wsX6_ponds_wsX6_ponds_r2 _ (List.mem_of_getElem? (i := 16) rfl)), List.forall_mem_cons.mpr ⟨(pl_wsX6_ponds_wsX6_ponds_r1 _ (List.mem_of_getElem? (i := 0) rfl)), List.forall_mem_cons.mpr ⟨(pl_wsX6_ponds_wsX6_ponds_r3 _ (List.mem_of_getElem? (i := 8) rfl)), List.forall_mem_cons.mpr ⟨(pl_wsX6_ponds_wsX6_ponds_r3 _ (List.mem_of_getElem? (i := 9) rfl)), List.forall_mem_cons.mpr ⟨(pl_wsX6_ponds_wsX6_ponds_r3 _ (List.mem_of_getElem? (i := 10) rfl)), List.forall_mem_cons.mpr ⟨(pl_wsX6_ponds_wsX6_ponds_r3 _ (List.mem_of_getElem? (i := 11) rfl)), List.forall_mem_cons.mpr ⟨(pl_wsX6_ponds_wsX6_ponds_r3 _ (List.mem_of_getElem? (i := 12) rfl)), List.forall_mem_cons.mpr ⟨(pl_wsX6_ponds_wsX6_ponds_r3 _ (List.mem_of_getElem? (i := 13) rfl)), List.forall_mem_cons.mpr ⟨(pl_wsX6_ponds_wsX6_ponds_r3 _ (List.mem_of_getElem? (i := 14) rfl)), List.forall_mem_cons.mpr ⟨(pl_wsX6_ponds_wsX6_ponds_r3 _ (List.mem_of_getElem? (i := 15) rfl)), List.forall_mem_cons.mpr ⟨(pl_wsX6_ponds_wsX6_ponds_r3 _ (List.mem_of_getElem? (i := 16) rfl)), List.forall_mem_cons.mpr ⟨(pl_wsX6_ponds_wsX6_ponds_r3 _ (List.mem_of_getElem? (i := 17) rfl)), List.forall_mem_cons.mpr ⟨(pl_wsX6_ponds_wsX6_ponds_r3 _ (List.mem_of_getElem? (i := 18) rfl)), List.forall_mem_cons.mpr ⟨(pl_wsX6_ponds_wsX6_ponds_r1 _ (List.mem_of_getElem? (i := 1) rfl)), List.forall_mem_cons.mpr ⟨(pl_wsX6_ponds_wsX6_ponds_r3 _ (List.mem_of_getElem? (i := 19) rfl)), List.forall_mem_cons.mpr ⟨(pl_wsX6_ponds_wsX6_ponds_r3 _ (List.mem_of_getElem? (i := 20) rfl)), List.forall_mem_cons.mpr ⟨(pl_wsX6_ponds_wsX6_ponds_r3 _ (List.mem_of_getElem? (i := 21) rfl)), List.forall_mem_cons.mpr ⟨(pl_wsX6_ponds_wsX6_ponds_r3 _ (List.mem_of_getElem? (i := 22) rfl)), List.forall_mem_cons.mpr ⟨(pl_wsX6_ponds_wsX6_ponds_r3 _ (List.mem_of_getElem? (i := 23) rfl)), fun _ h => absurd h List.not_mem_nil⟩⟩⟩⟩⟩⟩⟩⟩⟩⟩⟩⟩⟩⟩⟩⟩⟩⟩⟩⟩⟩⟩⟩⟩) w) ((fun w h => (List.mem_append.mp h).elim ((List.forall_mem_cons.mpr ⟨(pl_wsX6_ponds_wsX6_ponds_r4 _ (List.mem_of_getElem? (i := 0) rfl)), List.forall_mem_cons.mpr ⟨(pl_wsX6_ponds_wsX6_ponds_r4 _ (List.mem_of_getElem? (i := 1) rfl)), List.forall_mem_cons.mpr ⟨(pl_wsX6_ponds_wsX6_ponds_r4 _ (List.mem_of_getElem? (i := 2) rfl)), List.forall_mem_cons.mpr ⟨(pl_wsX6_ponds_wsX6_ponds_r4 _ (List.mem_of_getElem? (i := 3) rfl)), List.forall_mem_cons.mpr ⟨(pl_wsX6_ponds_wsX6_ponds_r4 _ (List.mem_of_getElem? (i := 4) rfl)), List.forall_mem_cons.mpr ⟨(pl_wsX6_ponds_wsX6_ponds_r4 _ (List.mem_of_getElem? (i := 5) rfl)), List.forall_mem_cons.mpr ⟨(pl_wsX6_ponds_wsX6_ponds_r1 _ (List.mem_of_getElem? (i := 7) rfl)), List.forall_mem_cons.mpr ⟨(pl_wsX6_ponds_wsX6_ponds_r1 _ (List.mem_of_getElem? (i := 8) rfl)), List.forall_mem_cons.mpr ⟨(pl_wsX6_ponds_wsX6_ponds_r1 _ (List.mem_of_getElem? (i := 9) rfl)), List.forall_mem_cons.mpr ⟨(pl_wsX6_ponds_wsX6_ponds_r2 _ (List.mem_of_getElem? (i := 21) rfl)), List.forall_mem_cons.mpr ⟨(pl_wsX6_ponds_wsX6_ponds_r2 _ (List.mem_of_getElem? (i := 22) rfl)), List.forall_mem_cons.mpr ⟨(pl_wsX6_ponds_wsX6_ponds_r2 _ (List.mem_of_getElem? (i := 23) rfl)), List.forall_mem_cons.mpr ⟨(pl_wsX6_ponds_wsX6_ponds_r3 _ (List.mem_of_getElem? (i := 0) rfl)), List.forall_mem_cons.mpr ⟨(pl_wsX6_ponds_wsX6_ponds_r3 _ (List.mem_of_getElem? (i := 1) rfl)), List.forall_mem_cons.mpr ⟨(pl_wsX6_ponds_wsX6_ponds_r3 _ (List.mem_of_getElem? (i := 2) rfl)), List.forall_mem_cons.mpr ⟨(pl_wsX6_ponds_wsX6_ponds_r3 _ (List.mem_of_getElem? (i := 3) rfl)), List.forall_mem_cons.mpr ⟨(pl_wsX6_ponds_wsX6_ponds_r4 _ (List.mem_of_getElem? (i := 6) rfl)), List.forall_mem_cons.mpr ⟨(pl_wsX6_ponds_wsX6_ponds_r4 _ (List.mem_of_getElem? (i := 7) rfl)), List.forall_mem_cons.mpr ⟨(pl_wsX6_ponds_wsX6_ponds_r4 _ (List.mem_of_getElem? (i := 8) rfl)), List.forall_mem_cons.mpr ⟨(pl_wsX6_ponds_wsX6_ponds_r4 _ (List.mem_of_getElem? (i := 9) rfl)), List.forall_mem_cons.mpr ⟨(pl_wsX6_ponds_wsX6_ponds_r4 _ (List.mem_of_getElem? (i := 10) rfl)), List.forall_mem_cons.mpr ⟨(pl_wsX6_ponds_wsX6_ponds_r4 _ (List.mem_of_getElem? (i := 11) rfl)), List.forall_mem_cons.mpr ⟨(pl_wsX6_ponds_wsX6_ponds_r4 _ (List.mem_of_getElem? (i := 12) rfl)), List.forall_mem_cons.mpr ⟨(pl_wsX6_ponds_wsX6_ponds_r4 _ (List.mem_of_getElem? (i := 13) rfl)), fun _ h => absurd h List.not_mem_nil⟩⟩⟩⟩⟩⟩⟩⟩⟩⟩⟩⟩⟩⟩⟩⟩⟩⟩⟩⟩⟩⟩⟩⟩) w) ((List.forall_mem_cons.mpr ⟨(pl_wsX6_ponds_wsX6_ponds_r4 _ (List.mem_of_getElem? (i := 14) rfl)), List.forall_mem_cons.mpr ⟨(pl_wsX6_ponds_wsX6_ponds_r4 _ (List.mem_of_getElem? (i := 15) rfl)), List.forall_mem_cons.mpr ⟨(pl_wsX6_ponds_wsX6_ponds_r4 _ (List.mem_of_getElem? (i := 16) rfl)), List.forall_mem_cons.mpr ⟨(pl_wsX6_ponds_wsX6_ponds_r4 _ (List.mem_of_getElem? (i := 17) rfl)), List.forall_mem_cons.mpr ⟨(pl_wsX6_ponds_wsX6_ponds_r4 _ (List.mem_of_getElem? (i := 18) rfl)), List.forall_mem_cons.mpr ⟨(pl_wsX6_ponds_wsX6_ponds_r4 _ (List.mem_of_getElem? (i := 19) rfl)), List.forall_mem_cons.mpr ⟨(pl_wsX6_ponds_wsX6_ponds_r4 _ (List.mem_of_getElem? (i := 20) rfl)), List.forall_mem_cons.mpr ⟨(pl_wsX6_ponds_wsX6_ponds_r4 _ (List.mem_of_getElem? (i := 21) rfl)), fun _ h => absurd h List.not_mem_nil⟩⟩⟩⟩⟩⟩⟩⟩) w)) w)) w) (pl_wsX6_ponds_wsX60 w))⟩) (by decide +kernel)
set_option maxRecDepth 20000 in
theorem gX6_ponds_X6_go : GoodIn wsX6_ponds (wsV RX6 223 RX6 yX6_go wsX6_go) := goodIn_app (goodIn_sub (List.forall_mem_cons.mpr ⟨(pl_wsX6_ponds_wsX6_ponds_r3 _ (List.mem_of_getElem? (i := 4) rfl)), List.forall_mem_cons.mpr ⟨(pl_wsX6_ponds_wsX6_ponds_r3 _ (List.mem_of_getElem? (i := 5) rfl)), List.forall_mem_cons.mpr ⟨(pl_wsX6_ponds_wsX6_ponds_r3 _ (List.mem_of_getElem? (i := 6) rfl)), List.forall_mem_cons.mpr ⟨(pl_wsX6_ponds_wsX6_ponds_r1 _ (List.mem_of_getElem? (i := 5) rfl)), fun _ h => absurd h List.not_mem_nil⟩⟩⟩⟩) (by decide +kernel)) ggX6_ponds_X6_go
theorem dX6_ponds_0 : decode cX6_ponds 0 = .ok (.aload_n 0, 1) := by decide +kernel
theorem dX6_ponds_1 : decode cX6_ponds 1 = .ok (.aload_n 0, 1) := by decide +kernel
theorem dX6_ponds_2 : decode cX6_ponds 2 = .ok (.iload_n 3, 1) := by decide +kernel
theorem dX6_ponds_3 : decode cX6_ponds 3 = .ok (.invokevirtual 124, 3) := by decide +kernel
theorem dX6_ponds_6 : decode cX6_ponds 6 = .ok (.iload_n 1, 1) := by decide +kernel
theorem dX6_ponds_7 : decode cX6_ponds 7 = .ok (.iload_n 2, 1) := by decide +kernel
theorem dX6_ponds_8 : decode cX6_ponds 8 = .ok (.invokevirtual 219, 3) := by decide +kernel
theorem dX6_ponds_11 : decode cX6_ponds 11 = .ok (.istore 4, 2) := by decide +kernel
theorem dX6_ponds_13 : decode cX6_ponds 13 = .ok (.iload 4, 2) := by decide +kernel
theorem dX6_ponds_15 : decode cX6_ponds 15 = .ok (.ifCond .ge 10, 3) := by decide +kernel
theorem dX6_ponds_18 : decode cX6_ponds 18 = .ok (.aload_n 0, 1) := by decide +kernel
theorem dX6_ponds_19 : decode cX6_ponds 19 = .ok (.iload 4, 2) := by decide +kernel
theorem dX6_ponds_21 : decode cX6_ponds 21 = .ok (.invokevirtual 101, 3) := by decide +kernel
theorem dX6_ponds_24 : decode cX6_ponds 24 = .ok (.ireturn, 1) := by decide +kernel
theorem dX6_ponds_25 : decode cX6_ponds 25 = .ok (.aload_n 0, 1) := by decide +kernel
theorem dX6_ponds_26 : decode cX6_ponds 26 = .ok (.iload_n 3, 1) := by decide +kernel
theorem dX6_ponds_27 : decode cX6_ponds 27 = .ok (.invokevirtual 88, 3) := by decide +kernel
theorem dX6_ponds_30 : decode cX6_ponds 30 = .ok (.istore 5, 2) := by decide +kernel
theorem dX6_ponds_32 : decode cX6_ponds 32 = .ok (.iconst 0, 1) := by decide +kernel
theorem dX6_ponds_33 : decode cX6_ponds 33 = .ok (.istore 6, 2) := by decide +kernel
theorem dX6_ponds_35 : decode cX6_ponds 35 = .ok (.iconst 0, 1) := by decide +kernel
theorem dX6_ponds_36 : decode cX6_ponds 36 = .ok (.istore 7, 2) := by decide +kernel
theorem dX6_ponds_38 : decode cX6_ponds 38 = .ok (.iload 7, 2) := by decide +kernel
theorem dX6_ponds_40 : decode cX6_ponds 40 = .ok (.bipush 67, 2) := by decide +kernel
theorem dX6_ponds_42 : decode cX6_ponds 42 = .ok (.if_icmp .ge 65, 3) := by decide +kernel
theorem dX6_ponds_45 : decode cX6_ponds 45 = .ok (.aload_n 0, 1) := by decide +kernel
theorem dX6_ponds_46 : decode cX6_ponds 46 = .ok (.iload 7, 2) := by decide +kernel
theorem dX6_ponds_48 : decode cX6_ponds 48 = .ok (.invokevirtual 104, 3) := by decide +kernel
theorem dX6_ponds_51 : decode cX6_ponds 51 = .ok (.ifCond .eq 50, 3) := by decide +kernel
theorem dX6_ponds_54 : decode cX6_ponds 54 = .ok (.aload_n 0, 1) := by decide +kernel
theorem dX6_ponds_55 : decode cX6_ponds 55 = .ok (.iload 7, 2) := by decide +kernel
theorem dX6_ponds_57 : decode cX6_ponds 57 = .ok (.invokevirtual 95, 3) := by decide +kernel
theorem dX6_ponds_60 : decode cX6_ponds 60 = .ok (.ifCond .ne 41, 3) := by decide +kernel
theorem dX6_ponds_63 : decode cX6_ponds 63 = .ok (.aload_n 0, 1) := by decide +kernel
theorem dX6_ponds_64 : decode cX6_ponds 64 = .ok (.getfield 17, 3) := by decide +kernel
theorem dX6_ponds_67 : decode cX6_ponds 67 = .ok (.iconst 5, 1) := by decide +kernel
theorem dX6_ponds_68 : decode cX6_ponds 68 = .ok (.iload_n 3, 1) := by decide +kernel
theorem dX6_ponds_69 : decode cX6_ponds 69 = .ok (.imul, 1) := by decide +kernel
theorem dX6_ponds_70 : decode cX6_ponds 70 = .ok (.iconst 2, 1) := by decide +kernel
theorem dX6_ponds_71 : decode cX6_ponds 71 = .ok (.iadd, 1) := by decide +kernel
theorem dX6_ponds_72 : decode cX6_ponds 72 = .ok (.iload 7, 2) := by decide +kernel
theorem dX6_ponds_74 : decode cX6_ponds 74 = .ok (.iastore, 1) := by decide +kernel
theorem dX6_ponds_75 : decode cX6_ponds 75 = .ok (.aload_n 0, 1) := by decide +kernel
theorem dX6_ponds_76 : decode cX6_ponds 76 = .ok (.iload_n 3, 1) := by decide +kernel
theorem dX6_ponds_77 : decode cX6_ponds 77 = .ok (.iload_n 2, 1) := by decide +kernel
theorem dX6_ponds_78 : decode cX6_ponds 78 = .ok (.invokevirtual 223, 3) := by decide +kernel
theorem dX6_ponds_81 : decode cX6_ponds 81 = .ok (.iload 6, 2) := by decide +kernel
theorem dX6_ponds_83 : decode cX6_ponds 83 = .ok (.aload_n 0, 1) := by decide +kernel
theorem dX6_ponds_84 : decode cX6_ponds 84 = .ok (.getfield 48, 3) := by decide +kernel
theorem dX6_ponds_87 : decode cX6_ponds 87 = .ok (.iconst 0, 1) := by decide +kernel
theorem dX6_ponds_88 : decode cX6_ponds 88 = .ok (.iaload, 1) := by decide +kernel
theorem dX6_ponds_89 : decode cX6_ponds 89 = .ok (.iconst (-1), 1) := by decide +kernel
theorem dX6_ponds_90 : decode cX6_ponds 90 = .ok (.if_icmp .ne 7, 3) := by decide +kernel
theorem dX6_ponds_93 : decode cX6_ponds 93 = .ok (.iconst 0, 1) := by decide +kernel
theorem dX6_ponds_94 : decode cX6_ponds 94 = .ok (.goto 4, 3) := by decide +kernel
theorem dX6_ponds_97 : decode cX6_ponds 97 = .ok (.iconst 1, 1) := by decide +kernel
theorem dX6_ponds_98 : decode cX6_ponds 98 = .ok (.iadd, 1) := by decide +kernel
theorem dX6_ponds_99 : decode cX6_ponds 99 = .ok (.istore 6, 2) := by decide +kernel
theorem dX6_ponds_101 : decode cX6_ponds 101 = .ok (.iinc 7 1, 3) := by decide +kernel
theorem dX6_ponds_104 : decode cX6_ponds 104 = .ok (.goto (-66), 3) := by decide +kernel
theorem dX6_ponds_107 : decode cX6_ponds 107 = .ok (.aload_n 0, 1) := by decide +kernel
theorem dX6_ponds_108 : decode cX6_ponds 108 = .ok (.getfield 17, 3) := by decide +kernel
theorem dX6_ponds_111 : decode cX6_ponds 111 = .ok (.iconst 5, 1) := by decide +kernel
theorem dX6_ponds_112 : decode cX6_ponds 112 = .ok (.iload_n 3, 1) := by decide +kernel
theorem dX6_ponds_113 : decode cX6_ponds 113 = .ok (.imul, 1) := by decide +kernel
theorem dX6_ponds_114 : decode cX6_ponds 114 = .ok (.iconst 2, 1) := by decide +kernel
theorem dX6_ponds_115 : decode cX6_ponds 115 = .ok (.iadd, 1) := by decide +kernel
theorem dX6_ponds_116 : decode cX6_ponds 116 = .ok (.iload 5, 2) := by decide +kernel
theorem dX6_ponds_118 : decode cX6_ponds 118 = .ok (.iastore, 1) := by decide +kernel
theorem dX6_ponds_119 : decode cX6_ponds 119 = .ok (.iload 6, 2) := by decide +kernel
theorem dX6_ponds_121 : decode cX6_ponds 121 = .ok (.ireturn, 1) := by decide +kernel
set_option maxRecDepth 20000 in
theorem pl_wsX6_brings_wsX6_brings_r1 : ∀ w ∈ wsX6_brings_r1, w ∈ wsX6_brings := fun _ h => List.mem_cons_of_mem _ (List.mem_append_left _ (List.mem_append_left _ (h)))
theorem pl_wsX6_brings_wsX6_brings_r2 : ∀ w ∈ wsX6_brings_r2, w ∈ wsX6_brings := fun _ h => List.mem_cons_of_mem _ (List.mem_append_left _ (List.mem_append_right _ (List.mem_append_left _ (h))))
theorem pl_wsX6_brings_wsX6_brings_r3 : ∀ w ∈ wsX6_brings_r3, w ∈ wsX6_brings := fun _ h => List.mem_cons_of_mem _ (List.mem_append_left _ (List.mem_append_right _ (List.mem_append_right _ (h))))
theorem pl_wsX6_brings_wsX60 : ∀ w ∈ wsX60, w ∈ wsX6_brings := fun _ h => List.mem_cons_of_mem _ (List.mem_append_right _ (h))
theorem ggX6_brings_X6_go : GoodIn wsX6_brings wsX6_go := goodIn_sub (List.forall_mem_cons.mpr ⟨(pl_wsX6_brings_wsX6_brings_r1 _ (List.mem_of_getElem? (i := 7) rfl)), (fun w h => (List.mem_append.mp h).elim ((fun w h => (List.mem_append.mp h).elim ((List.forall_mem_cons.mpr ⟨(pl_wsX6_brings_wsX6_brings_r1 _ (List.mem_of_getElem? (i := 8) rfl)), List.forall_mem_cons.mpr ⟨(pl_wsX6_brings_wsX6_brings_r1 _ (List.mem_of_getElem? (i := 9) rfl)), List.forall_mem_cons.mpr ⟨(pl_wsX6_brings_wsX6_brings_r1 _ (List.mem_of_getElem? (i := 10) rfl)), List.forall_mem_cons.mpr ⟨(pl_wsX6_brings_wsX6_brings_r1 _ (List.mem_of_getElem? (i := 11) rfl)), List.forall_mem_cons.mpr ⟨(pl_wsX6_brings_wsX6_brings_r1 _ (List.mem_of_getElem? (i := 6) rfl)), List.forall_mem_cons.mpr ⟨(pl_wsX6_brings_wsX6_brings_r1 _ (List.mem_of_getElem? (i := 12) rfl)), List.forall_mem_cons.mpr ⟨(pl_wsX6_brings_wsX6_brings_r1 _ (List.mem_of_getElem? (i := 0) rfl)), List.forall_mem_cons.mpr ⟨(pl_wsX6_brings_wsX6_brings_r1 _ (List.mem_of_getElem? (i := 13) rfl)), List.forall_mem_cons.mpr ⟨(pl_wsX6_brings_wsX6_brings_r1 _ (List.mem_of_getElem? (i := 14) rfl)), List.forall_mem_cons.mpr ⟨(pl_wsX6_brings_wsX6_brings_r1 _ (List.mem_of_getElem? (i := 15) rfl)), List.forall_mem_cons.mpr ⟨(pl_wsX6_brings_wsX6_brings_r1 _ (List.mem_of_getElem? (i := 16) rfl)), List.forall_mem_cons.mpr ⟨(pl_wsX6_brings_wsX6_brings_r1 _ (List.mem_of_getElem? (i := 17) rfl)), List.forall_mem_cons.mpr ⟨(pl_wsX6_brings_wsX6_brings_r1 _ (List.mem_of_getElem? (i := 18) rfl)), List.forall_mem_cons.mpr ⟨(pl_wsX6_brings_wsX6_brings_r1 _ (List.mem_of_getElem? (i := 19) rfl)), List.forall_mem_cons.mpr ⟨(pl_wsX6_brings_wsX6_brings_r1 _ (List.mem_of_getElem? (i := 20) rfl)), List.forall_mem_cons.mpr ⟨(pl_wsX6_brings_wsX6_brings_r1 _ (List.mem_of_getElem? (i := 1) rfl)), List.forall_mem_cons.mpr ⟨(pl_wsX6_brings_wsX6_brings_r1 _ (List.mem_of_getElem? (i := 21) rfl)), List.forall_mem_cons.mpr ⟨(pl_wsX6_brings_wsX6_brings_r1 _ (List.mem_of_getElem? (i := 22) rfl)), List.forall_mem_cons.mpr ⟨(pl_wsX6_brings_wsX6_brings_r1 _ (List.mem_of_getElem? (i := 2) rfl)), List.forall_mem_cons.mpr ⟨(pl_wsX6_brings_wsX6_brings_r1 _ (List.mem_of_getElem? (i := 23) rfl)), List.forall_mem_cons.mpr ⟨(pl_wsX6_brings_wsX6_brings_r2 _ (List.mem_of_getElem? (i := 0) rfl)), List.forall_mem_cons.mpr ⟨(pl_wsX6_brings_wsX6_brings_r2 _ (List.mem_of_getElem? (i := 1) rfl)), List.forall_mem_cons.mpr ⟨(pl_wsX6_brings_wsX6_brings_r2 _ (List.mem_of_getElem? (i := 2) rfl)), List.forall_mem_cons.mpr ⟨(pl_wsX6_brings_wsX6_brings_r2 _ (List.mem_of_getElem? (i := 3) rfl)), fun _ h => absurd h List.not_mem_nil⟩⟩⟩⟩⟩⟩⟩⟩⟩⟩⟩⟩⟩⟩⟩⟩⟩⟩⟩⟩⟩⟩⟩⟩) w) ((fun w h => (List.mem_append.mp h).elim ((List.forall_mem_cons.mpr ⟨(pl_wsX6_brings_wsX6_brings_r2 _ (List.mem_of_getElem? (i := 4) rfl)), List.forall_mem_cons.mpr ⟨(pl_wsX6_brings_wsX6_brings_r2 _ (List.mem_of_getElem? (i := 5) rfl)), List.forall_mem_cons.mpr ⟨(pl_wsX6_brings_wsX6_brings_r2 _ (List.mem_of_getElem? (i := 6) rfl)), List.forall_mem_cons.mpr ⟨(pl_wsX6_brings_wsX6_brings_r2 _ (List.mem_of_getElem? (i := 7) rfl)), List.forall_mem_cons.mpr ⟨(pl_wsX6_brings_wsX6_brings_r2 _ (List.mem_of_getElem? (i := 8) rfl)), List.forall_mem_cons.mpr ⟨(pl_wsX6_brings_wsX6_brings_r2 _ (List.mem_of_getElem? (i := 9) rfl)), List.forall_mem_cons.mpr ⟨(pl_wsX6_brings_wsX6_brings_r2 _ (List.mem_of_getElem? (i := 10) rfl)), List.forall_mem_cons.mpr ⟨(pl_wsX6_brings_wsX6_brings_r2 _ (List.mem_of_getElem? (i := 11) rfl)), List.forall_mem_cons.mpr ⟨(pl_wsX6_brings_wsX6_brings_r2 _ (List.mem_of_getElem? (i := 12) rfl)), List.forall_mem_cons.mpr ⟨(pl_wsX6_brings_wsX6_brings_r2 _ (List.mem_of_getElem? (i := 13) rfl)), List.forall_mem_cons.mpr ⟨(pl_wsX6_brings_wsX6_brings_r2 _ (List.mem_of_getElem? (i := 14) rfl)), List.forall_mem_cons.mpr ⟨(pl_wsX6_brings_wsX6_brings_r2 _ (List.mem_of_getElem? (i := 15) rfl)), List.forall_mem_cons.mpr ⟨(pl_wsX6_brings_wsX6_brings_r2 _ (List.mem_of_getElem? (i := 16) rfl)), List.forall_mem_cons.mpr ⟨(pl_wsX6_brings_wsX6_brings_r2 _ (List.mem_of_getElem? (i := 17) rfl)), List.forall_mem_cons.mpr ⟨(pl_wsX6_brings_wsX6_brings_r2 _ (List.mem_of_getElem? (i := 18) rfl)), List.forall_mem_cons.mpr ⟨(pl_wsX6_brings_wsX6_brings_r2 _ (List.mem_of_getElem? (i := 19) rfl)), List.forall_mem_cons.mpr ⟨(pl_wsX6_brings_wsX6_brings_r2 _ (List.mem_of_getElem? (i := 20) rfl)), List.forall_mem_cons.mpr ⟨(pl_wsX6_brings_wsX6_brings_r2 _ (List.mem_of_getElem? (i := 21) rfl)), List.forall_mem_cons.mpr ⟨(pl_wsX6_brings_wsX6_brings_r2 _ (List.mem_of_getElem? (i := 22) rfl)), List.forall_mem_cons.mpr ⟨(pl_wsX6_brings_wsX6_brings_r2 _ (List.mem_of_getElem? (i := 23) rfl)), List.forall_mem_cons.mpr ⟨(pl_wsX6_brings_wsX6_brings_r3 _ (List.mem_of_getElem? (i := 0) rfl)), List.forall_mem_cons.mpr ⟨(pl_wsX6_brings_wsX6_brings_r3 _ (List.mem_of_getElem? (i := 1) rfl)), List.forall_mem_cons.mpr ⟨(pl_wsX6_brings_wsX6_brings_r3 _ (List.mem_of_getElem? (i := 2) rfl)), List.forall_mem_cons.mpr ⟨(pl_wsX6_brings_wsX6_brings_r3 _ (List.mem_of_getElem? (i := 3) rfl)), fun _ h => absurd h List.not_mem_nil⟩⟩⟩⟩⟩⟩⟩⟩⟩⟩⟩⟩⟩⟩⟩⟩⟩⟩⟩⟩⟩⟩⟩⟩) w) ((List.forall_mem_cons.mpr ⟨(pl_wsX6_brings_wsX6_brings_r3 _ (List.mem_of_getElem? (i := 4) rfl)), List.forall_mem_cons.mpr ⟨(pl_wsX6_brings_wsX6_brings_r3 _ (List.mem_of_getElem? (i := 5) rfl)), List.forall_mem_cons.mpr ⟨(pl_wsX6_brings_wsX6_brings_r3 _ (List.mem_of_getElem? (i := 6) rfl)), List.forall_mem_cons.mpr ⟨(pl_wsX6_brings_wsX6_brings_r3 _ (List.mem_of_getElem? (i := 7) rfl)), List.forall_mem_cons.mpr ⟨(pl_wsX6_brings_wsX6_brings_r3 _ (List.mem_of_getElem? (i := 8) rfl)), List.forall_mem_cons.mpr ⟨(pl_wsX6_brings_wsX6_brings_r3 _ (List.mem_of_getElem? (i := 9) rfl)), List.forall_mem_cons.mpr ⟨(pl_wsX6_brings_wsX6_brings_r3 _ (List.mem_of_getElem? (i := 10) rfl)), List.forall_mem_cons.mpr ⟨(pl_wsX6_brings_wsX6_brings_r3 _ (List.mem_of_getElem? (i := 11) rfl)), fun _ h => absurd h List.not_mem_nil⟩⟩⟩⟩⟩⟩⟩⟩) w)) w)) w) (pl_wsX6_brings_wsX60 w))⟩) (by decide +kernel)
set_option maxRecDepth 20000 in
theorem gX6_brings_X6_go : GoodIn wsX6_brings (wsV RX6 223 RX6 yX6_go wsX6_go) := goodIn_app (goodIn_sub (List.forall_mem_cons.mpr ⟨(pl_wsX6_brings_wsX6_brings_r1 _ (List.mem_of_getElem? (i := 3) rfl)), List.forall_mem_cons.mpr ⟨(pl_wsX6_brings_wsX6_brings_r1 _ (List.mem_of_getElem? (i := 4) rfl)), List.forall_mem_cons.mpr ⟨(pl_wsX6_brings_wsX6_brings_r1 _ (List.mem_of_getElem? (i := 5) rfl)), List.forall_mem_cons.mpr ⟨(pl_wsX6_brings_wsX6_brings_r1 _ (List.mem_of_getElem? (i := 6) rfl)), fun _ h => absurd h List.not_mem_nil⟩⟩⟩⟩) (by decide +kernel)) ggX6_brings_X6_go
theorem dX6_brings_0 : decode cX6_brings 0 = .ok (.aload_n 0, 1) := by decide +kernel
theorem dX6_brings_1 : decode cX6_brings 1 = .ok (.getfield 17, 3) := by decide +kernel
theorem dX6_brings_4 : decode cX6_brings 4 = .ok (.bipush 91, 2) := by decide +kernel
theorem dX6_brings_6 : decode cX6_brings 6 = .ok (.iaload, 1) := by decide +kernel
theorem dX6_brings_7 : decode cX6_brings 7 = .ok (.istore 5, 2) := by decide +kernel
theorem dX6_brings_9 : decode cX6_brings 9 = .ok (.aload_n 0, 1) := by decide +kernel
theorem dX6_brings_10 : decode cX6_brings 10 = .ok (.getfield 17, 3) := by decide +kernel
theorem dX6_brings_13 : decode cX6_brings 13 = .ok (.bipush 91, 2) := by decide +kernel
theorem dX6_brings_15 : decode cX6_brings 15 = .ok (.iload 4, 2) := by decide +kernel
theorem dX6_brings_17 : decode cX6_brings 17 = .ok (.iastore, 1) := by decide +kernel
theorem dX6_brings_18 : decode cX6_brings 18 = .ok (.aload_n 0, 1) := by decide +kernel
theorem dX6_brings_19 : decode cX6_brings 19 = .ok (.iload_n 1, 1) := by decide +kernel
theorem dX6_brings_20 : decode cX6_brings 20 = .ok (.iload_n 2, 1) := by decide +kernel
theorem dX6_brings_21 : decode cX6_brings 21 = .ok (.invokevirtual 223, 3) := by decide +kernel
theorem dX6_brings_24 : decode cX6_brings 24 = .ok (.aload_n 0, 1) := by decide +kernel
theorem dX6_brings_25 : decode cX6_brings 25 = .ok (.getfield 17, 3) := by decide +kernel
theorem dX6_brings_28 : decode cX6_brings 28 = .ok (.bipush 91, 2) := by decide +kernel
theorem dX6_brings_30 : decode cX6_brings 30 = .ok (.iload 5, 2) := by decide +kernel
theorem dX6_brings_32 : decode cX6_brings 32 = .ok (.iastore, 1) := by decide +kernel
theorem dX6_brings_33 : decode cX6_brings 33 = .ok (.aload_n 0, 1) := by decide +kernel
theorem dX6_brings_34 : decode cX6_brings 34 = .ok (.getfield 33, 3) := by decide +kernel
theorem dX6_brings_37 : decode cX6_brings 37 = .ok (.iconst 0, 1) := by decide +kernel
theorem dX6_brings_38 : decode cX6_brings 38 = .ok (.iaload, 1) := by decide +kernel
theorem dX6_brings_39 : decode cX6_brings 39 = .ok (.iload_n 3, 1) := by decide +kernel
theorem dX6_brings_40 : decode cX6_brings 40 = .ok (.if_icmp .ne 17, 3) := by decide +kernel
theorem dX6_brings_43 : decode cX6_brings 43 = .ok (.aload_n 0, 1) := by decide +kernel
theorem dX6_brings_44 : decode cX6_brings 44 = .ok (.getfield 48, 3) := by decide +kernel
theorem dX6_brings_47 : decode cX6_brings 47 = .ok (.iconst 0, 1) := by decide +kernel
theorem dX6_brings_48 : decode cX6_brings 48 = .ok (.iaload, 1) := by decide +kernel
theorem dX6_brings_49 : decode cX6_brings 49 = .ok (.iconst (-1), 1) := by decide +kernel
theorem dX6_brings_50 : decode cX6_brings 50 = .ok (.if_icmp .ne 7, 3) := by decide +kernel
theorem dX6_brings_53 : decode cX6_brings 53 = .ok (.iconst 1, 1) := by decide +kernel
theorem dX6_brings_54 : decode cX6_brings 54 = .ok (.goto 4, 3) := by decide +kernel
theorem dX6_brings_57 : decode cX6_brings 57 = .ok (.iconst 0, 1) := by decide +kernel
theorem dX6_brings_58 : decode cX6_brings 58 = .ok (.ireturn, 1) := by decide +kernel
theorem dX6_spell_0 : decode cX6_spell 0 = .ok (.iload_n 1, 1) := by decide +kernel
theorem dX6_spell_1 : decode cX6_spell 1 = .ok (.istore_n 3, 1) := by decide +kernel
theorem dX6_spell_2 : decode cX6_spell 2 = .ok (.iload_n 2, 1) := by decide +kernel
theorem dX6_spell_3 : decode cX6_spell 3 = .ok (.iconst 1, 1) := by decide +kernel
theorem dX6_spell_4 : decode cX6_spell 4 = .ok (.isub, 1) := by decide +kernel
theorem dX6_spell_5 : decode cX6_spell 5 = .ok (.istore 4, 2) := by decide +kernel
theorem dX6_spell_7 : decode cX6_spell 7 = .ok (.iload 4, 2) := by decide +kernel
theorem dX6_spell_9 : decode cX6_spell 9 = .ok (.ifCond .lt 23, 3) := by decide +kernel
theorem dX6_spell_12 : decode cX6_spell 12 = .ok (.aload_n 0, 1) := by decide +kernel
theorem dX6_spell_13 : decode cX6_spell 13 = .ok (.getfield 51, 3) := by decide +kernel
theorem dX6_spell_16 : decode cX6_spell 16 = .ok (.iload 4, 2) := by decide +kernel
theorem dX6_spell_18 : decode cX6_spell 18 = .ok (.iload_n 3, 1) := by decide +kernel
theorem dX6_spell_19 : decode cX6_spell 19 = .ok (.iconst 3, 1) := by decide +kernel
theorem dX6_spell_20 : decode cX6_spell 20 = .ok (.irem, 1) := by decide +kernel
theorem dX6_spell_21 : decode cX6_spell 21 = .ok (.iastore, 1) := by decide +kernel
theorem dX6_spell_22 : decode cX6_spell 22 = .ok (.iload_n 3, 1) := by decide +kernel
theorem dX6_spell_23 : decode cX6_spell 23 = .ok (.iconst 3, 1) := by decide +kernel
theorem dX6_spell_24 : decode cX6_spell 24 = .ok (.idiv, 1) := by decide +kernel
theorem dX6_spell_25 : decode cX6_spell 25 = .ok (.istore_n 3, 1) := by decide +kernel
theorem dX6_spell_26 : decode cX6_spell 26 = .ok (.iinc 4 (-1), 3) := by decide +kernel
theorem dX6_spell_29 : decode cX6_spell 29 = .ok (.goto (-22), 3) := by decide +kernel
theorem dX6_spell_32 : decode cX6_spell 32 = .ok (.return_, 1) := by decide +kernel
set_option maxRecDepth 20000 in
theorem pl_wsX6_safe_wsX6_safe_r1 : ∀ w ∈ wsX6_safe_r1, w ∈ wsX6_safe := fun _ h => List.mem_cons_of_mem _ (List.mem_append_left _ (List.mem_append_left _ (h)))
theorem pl_wsX6_safe_wsX60 : ∀ w ∈ wsX60, w ∈ wsX6_safe := fun _ h => List.mem_cons_of_mem _ (List.mem_append_right _ (h))
theorem ggX6_safe_X6_isPerson : GoodIn wsX6_safe wsX6_isPerson := goodIn_sub (List.forall_mem_cons.mpr ⟨(pl_wsX6_safe_wsX6_safe_r1 _ (List.mem_of_getElem? (i := 6) rfl)), (fun w h => (List.mem_append.mp h).elim ((List.forall_mem_cons.mpr ⟨(pl_wsX6_safe_wsX6_safe_r1 _ (List.mem_of_getElem? (i := 0) rfl)), List.forall_mem_cons.mpr ⟨(pl_wsX6_safe_wsX6_safe_r1 _ (List.mem_of_getElem? (i := 7) rfl)), List.forall_mem_cons.mpr ⟨(pl_wsX6_safe_wsX6_safe_r1 _ (List.mem_of_getElem? (i := 8) rfl)), List.forall_mem_cons.mpr ⟨(pl_wsX6_safe_wsX6_safe_r1 _ (List.mem_of_getElem? (i := 5) rfl)), List.forall_mem_cons.mpr ⟨(pl_wsX6_safe_wsX6_safe_r1 _ (List.mem_of_getElem? (i := 9) rfl)), fun _ h => absurd h List.not_mem_nil⟩⟩⟩⟩⟩) w) (pl_wsX6_safe_wsX60 w))⟩) (by decide +kernel)
set_option maxRecDepth 20000 in
theorem gX6_safe_X6_isPerson : GoodIn wsX6_safe (wsV RX6 124 RX6 yX6_isPerson wsX6_isPerson) := goodIn_app (goodIn_sub (List.forall_mem_cons.mpr ⟨(pl_wsX6_safe_wsX6_safe_r1 _ (List.mem_of_getElem? (i := 2) rfl)), List.forall_mem_cons.mpr ⟨(pl_wsX6_safe_wsX6_safe_r1 _ (List.mem_of_getElem? (i := 3) rfl)), List.forall_mem_cons.mpr ⟨(pl_wsX6_safe_wsX6_safe_r1 _ (List.mem_of_getElem? (i := 4) rfl)), List.forall_mem_cons.mpr ⟨(pl_wsX6_safe_wsX6_safe_r1 _ (List.mem_of_getElem? (i := 5) rfl)), fun _ h => absurd h List.not_mem_nil⟩⟩⟩⟩) (by decide +kernel)) ggX6_safe_X6_isPerson
set_option maxRecDepth 20000 in
theorem ggX6_safe_X6_isCell : GoodIn wsX6_safe wsX6_isCell := goodIn_sub (List.forall_mem_cons.mpr ⟨(pl_wsX6_safe_wsX6_safe_r1 _ (List.mem_of_getElem? (i := 13) rfl)), (fun w h => (List.mem_append.mp h).elim ((List.forall_mem_cons.mpr ⟨(pl_wsX6_safe_wsX6_safe_r1 _ (List.mem_of_getElem? (i := 0) rfl)), fun _ h => absurd h List.not_mem_nil⟩) w) (pl_wsX6_safe_wsX60 w))⟩) (by decide +kernel)
set_option maxRecDepth 20000 in
theorem gX6_safe_X6_isCell : GoodIn wsX6_safe (wsV RX6 104 RX6 yX6_isCell wsX6_isCell) := goodIn_app (goodIn_sub (List.forall_mem_cons.mpr ⟨(pl_wsX6_safe_wsX6_safe_r1 _ (List.mem_of_getElem? (i := 10) rfl)), List.forall_mem_cons.mpr ⟨(pl_wsX6_safe_wsX6_safe_r1 _ (List.mem_of_getElem? (i := 11) rfl)), List.forall_mem_cons.mpr ⟨(pl_wsX6_safe_wsX6_safe_r1 _ (List.mem_of_getElem? (i := 12) rfl)), List.forall_mem_cons.mpr ⟨(pl_wsX6_safe_wsX6_safe_r1 _ (List.mem_of_getElem? (i := 5) rfl)), fun _ h => absurd h List.not_mem_nil⟩⟩⟩⟩) (by decide +kernel)) ggX6_safe_X6_isCell
set_option maxRecDepth 20000 in
theorem ggX6_safe_X6_isIn : GoodIn wsX6_safe wsX6_isIn := goodIn_sub (List.forall_mem_cons.mpr ⟨(pl_wsX6_safe_wsX6_safe_r1 _ (List.mem_of_getElem? (i := 9) rfl)), (fun _ h => absurd h List.not_mem_nil)⟩) (by decide +kernel)
set_option maxRecDepth 20000 in
theorem gX6_safe_X6_isIn : GoodIn wsX6_safe (va_wsS RX6 76 yX6_isIn wsX6_isIn) := goodIn_app (goodIn_sub (List.forall_mem_cons.mpr ⟨(pl_wsX6_safe_wsX6_safe_r1 _ (List.mem_of_getElem? (i := 7) rfl)), List.forall_mem_cons.mpr ⟨(pl_wsX6_safe_wsX6_safe_r1 _ (List.mem_of_getElem? (i := 8) rfl)), List.forall_mem_cons.mpr ⟨(pl_wsX6_safe_wsX6_safe_r1 _ (List.mem_of_getElem? (i := 5) rfl)), fun _ h => absurd h List.not_mem_nil⟩⟩⟩) (by decide +kernel)) ggX6_safe_X6_isIn
set_option maxRecDepth 20000 in
theorem ggX6_safe_X6_refuse : GoodIn wsX6_safe wsX6_refuse := goodIn_sub (List.forall_mem_cons.mpr ⟨(pl_wsX6_safe_wsX6_safe_r1 _ (List.mem_of_getElem? (i := 17) rfl)), (fun w h => (List.mem_append.mp h).elim ((List.forall_mem_cons.mpr ⟨(pl_wsX6_safe_wsX6_safe_r1 _ (List.mem_of_getElem? (i := 18) rfl)), fun _ h => absurd h List.not_mem_nil⟩) w) (pl_wsX6_safe_wsX60 w))⟩) (by decide +kernel)
set_option maxRecDepth 20000 in
theorem gX6_safe_X6_refuse : GoodIn wsX6_safe (wsV RX6 101 RX6 yX6_refuse wsX6_refuse) := goodIn_app (goodIn_sub (List.forall_mem_cons.mpr ⟨(pl_wsX6_safe_wsX6_safe_r1 _ (List.mem_of_getElem? (i := 14) rfl)), List.forall_mem_cons.mpr ⟨(pl_wsX6_safe_wsX6_safe_r1 _ (List.mem_of_getElem? (i := 15) rfl)), List.forall_mem_cons.mpr ⟨(pl_wsX6_safe_wsX6_safe_r1 _ (List.mem_of_getElem? (i := 16) rfl)), List.forall_mem_cons.mpr ⟨(pl_wsX6_safe_wsX6_safe_r1 _ (List.mem_of_getElem? (i := 5) rfl)), fun _ h => absurd h List.not_mem_nil⟩⟩⟩⟩) (by decide +kernel)) ggX6_safe_X6_refuse
set_option maxRecDepth 20000 in
theorem ggX6_safe_X6_spell : GoodIn wsX6_safe wsX6_spell := goodIn_sub (List.forall_mem_cons.mpr ⟨(pl_wsX6_safe_wsX6_safe_r1 _ (List.mem_of_getElem? (i := 22) rfl)), (fun w h => (List.mem_append.mp h).elim ((List.forall_mem_cons.mpr ⟨(pl_wsX6_safe_wsX6_safe_r1 _ (List.mem_of_getElem? (i := 1) rfl)), fun _ h => absurd h List.not_mem_nil⟩) w) (pl_wsX6_safe_wsX60 w))⟩) (by decide +kernel)
set_option maxRecDepth 20000 in
theorem gX6_safe_X6_spell : GoodIn wsX6_safe (wsV RX6 227 RX6 yX6_spell wsX6_spell) := goodIn_app (goodIn_sub (List.forall_mem_cons.mpr ⟨(pl_wsX6_safe_wsX6_safe_r1 _ (List.mem_of_getElem? (i := 19) rfl)), List.forall_mem_cons.mpr ⟨(pl_wsX6_safe_wsX6_safe_r1 _ (List.mem_of_getElem? (i := 20) rfl)), List.forall_mem_cons.mpr ⟨(pl_wsX6_safe_wsX6_safe_r1 _ (List.mem_of_getElem? (i := 21) rfl)), List.forall_mem_cons.mpr ⟨(pl_wsX6_safe_wsX6_safe_r1 _ (List.mem_of_getElem? (i := 5) rfl)), fun _ h => absurd h List.not_mem_nil⟩⟩⟩⟩) (by decide +kernel)) ggX6_safe_X6_spell
set_option maxRecDepth 20000 in
theorem pl_wsX6_safe_wsX6_safe_r2 : ∀ w ∈ wsX6_safe_r2, w ∈ wsX6_safe := fun _ h => List.mem_cons_of_mem _ (List.mem_append_left _ (List.mem_append_right _ (List.mem_append_left _ (h))))
theorem pl_wsX6_safe_wsX6_safe_r3 : ∀ w ∈ wsX6_safe_r3, w ∈ wsX6_safe := fun _ h => List.mem_cons_of_mem _ (List.mem_append_left _ (List.mem_append_right _ (List.mem_append_right _ (List.mem_append_left _ (h)))))
theorem pl_wsX6_safe_wsX6_safe_r4 : ∀ w ∈ wsX6_safe_r4, w ∈ wsX6_safe := fun _ h => List.mem_cons_of_mem _ (List.mem_append_left _ (List.mem_append_right _ (List.mem_append_right _ (List.mem_append_right _ (h)))))
theorem ggX6_safe_X6_brings : GoodIn wsX6_safe wsX6_brings := goodIn_sub (List.forall_mem_cons.mpr ⟨(pl_wsX6_safe_wsX6_safe_r2 _ (List.mem_of_getElem? (i := 2) rfl)), (fun w h => (List.mem_append.mp h).elim ((fun w h => (List.mem_append.mp h).elim ((List.forall_mem_cons.mpr ⟨(pl_wsX6_safe_wsX6_safe_r1 _ (List.mem_of_getElem? (i := 0) rfl)), List.forall_mem_cons.mpr ⟨(pl_wsX6_safe_wsX6_safe_r2 _ (List.mem_of_getElem? (i := 3) rfl)), List.forall_mem_cons.mpr ⟨(pl_wsX6_safe_wsX6_safe_r2 _ (List.mem_of_getElem? (i := 4) rfl)), List.forall_mem_cons.mpr ⟨(pl_wsX6_safe_wsX6_safe_r2 _ (List.mem_of_getElem? (i := 5) rfl)), List.forall_mem_cons.mpr ⟨(pl_wsX6_safe_wsX6_safe_r2 _ (List.mem_of_getElem? (i := 6) rfl)), List.forall_mem_cons.mpr ⟨(pl_wsX6_safe_wsX6_safe_r2 _ (List.mem_of_getElem? (i := 7) rfl)), List.forall_mem_cons.mpr ⟨(pl_wsX6_safe_wsX6_safe_r1 _ (List.mem_of_getElem? (i := 5) rfl)), List.forall_mem_cons.mpr ⟨(pl_wsX6_safe_wsX6_safe_r2 _ (List.mem_of_getElem? (i := 8) rfl)), List.forall_mem_cons.mpr ⟨(pl_wsX6_safe_wsX6_safe_r1 _ (List.mem_of_getElem? (i := 1) rfl)), List.forall_mem_cons.mpr ⟨(pl_wsX6_safe_wsX6_safe_r2 _ (List.mem_of_getElem? (i := 9) rfl)), List.forall_mem_cons.mpr ⟨(pl_wsX6_safe_wsX6_safe_r2 _ (List.mem_of_getElem? (i := 10) rfl)), List.forall_mem_cons.mpr ⟨(pl_wsX6_safe_wsX6_safe_r2 _ (List.mem_of_getElem? (i := 11) rfl)), List.forall_mem_cons.mpr ⟨(pl_wsX6_safe_wsX6_safe_r2 _ (List.mem_of_getElem? (i := 12) rfl)), List.forall_mem_cons.mpr ⟨(pl_wsX6_safe_wsX6_safe_r2 _ (List.mem_of_getElem? (i := 13) rfl)), List.forall_mem_cons.mpr ⟨(pl_wsX6_safe_wsX6_safe_r2 _ (List.mem_of_getElem? (i := 14) rfl)), List.forall_mem_cons.mpr ⟨(pl_wsX6_safe_wsX6_safe_r2 _ (List.mem_of_getElem? (i := 15) rfl)), List.forall_mem_cons.mpr ⟨(pl_wsX6_safe_wsX6_safe_r2 _ (List.mem_of_getElem? (i := 16) rfl)), List.forall_mem_cons.mpr ⟨(pl_wsX6_safe_wsX6_safe_r2 _ (List.mem_of_getElem? (i := 17) rfl)), List.forall_mem_cons.mpr ⟨(pl_wsX6_safe_wsX6_safe_r2 _ (List.mem_of_getElem? (i := 18) rfl)), List.forall_mem_cons.mpr ⟨(pl_wsX6_safe_wsX6_safe_r2 _ (List.mem_of_getElem? (i := 19) rfl)), List.forall_mem_cons.mpr ⟨(pl_wsX6_safe_wsX6_safe_r2 _ (List.mem_of_getElem? (i := 20) rfl)), List.forall_mem_cons.mpr ⟨(pl_wsX6_safe_wsX6_safe_r2 _ (List.mem_of_getElem? (i := 21) rfl)), List.forall_mem_cons.mpr ⟨(pl_wsX6_safe_wsX6_safe_r2 _ (List.mem_of_getElem? (i := 22) rfl)), List.forall_mem_cons.mpr ⟨(pl_wsX6_safe_wsX6_safe_r2 _ (List.mem_of_getElem? (i := 23) rfl)), fun _ h => absurd h List.not_mem_nil⟩⟩⟩⟩⟩⟩⟩⟩⟩⟩⟩⟩⟩⟩⟩⟩⟩⟩⟩⟩⟩⟩⟩⟩) w) ((fun w h => (List.mem_append.mp h).elim ((List.forall_mem_cons.mpr ⟨(pl_wsX6_safe_wsX6_safe_r3 _ (List.mem_of_getElem? (i := 0) rfl)), List.forall_mem_cons.mpr ⟨(pl_wsX6_safe_wsX6_safe_r3 _ (List.mem_of_getElem? (i := 1) rfl)), List.forall_mem_cons.mpr ⟨(pl_wsX6_safe_wsX6_safe_r3 _ (List.mem_of_getElem? (i := 2) rfl)), List.forall_mem_cons.mpr ⟨(pl_wsX6_safe_wsX6_safe_r3 _ (List.mem_of_getElem? (i := 3) rfl)), List.forall_mem_cons.mpr ⟨(pl_wsX6_safe_wsX6_safe_r3 _ (List.mem_of_getElem? (i := 4) rfl)), List.forall_mem_cons.mpr ⟨(pl_wsX6_safe_wsX6_safe_r3 _ (List.mem_of_getElem? (i := 5) rfl)), List.forall_mem_cons.mpr ⟨(pl_wsX6_safe_wsX6_safe_r3 _ (List.mem_of_getElem? (i := 6) rfl)), List.forall_mem_cons.mpr ⟨(pl_wsX6_safe_wsX6_safe_r3 _ (List.mem_of_getElem? (i := 7) rfl)), List.forall_mem_cons.mpr ⟨(pl_wsX6_safe_wsX6_safe_r3 _ (List.mem_of_getElem? (i := 8) rfl)), List.forall_mem_cons.mpr ⟨(pl_wsX6_safe_wsX6_safe_r3 _ (List.mem_of_getElem? (i := 9) rfl)), List.forall_mem_cons.mpr ⟨(pl_wsX6_safe_wsX6_safe_r1 _ (List.mem_of_getElem? (i := 7) rfl)), List.forall_mem_cons.mpr ⟨(pl_wsX6_safe_wsX6_safe_r1 _ (List.mem_of_getElem? (i := 8) rfl)), List.forall_mem_cons.mpr ⟨(pl_wsX6_safe_wsX6_safe_r1 _ (List.mem_of_getElem? (i := 9) rfl)), List.forall_mem_cons.mpr ⟨(pl_wsX6_safe_wsX6_safe_r3 _ (List.mem_of_getElem? (i := 10) rfl)), List.forall_mem_cons.mpr ⟨(pl_wsX6_safe_wsX6_safe_r3 _ (List.mem_of_getElem? (i := 11) rfl)), List.forall_mem_cons.mpr ⟨(pl_wsX6_safe_wsX6_safe_r3 _ (List.mem_of_getElem? (i := 12) rfl)), List.forall_mem_cons.mpr ⟨(pl_wsX6_safe_wsX6_safe_r3 _ (List.mem_of_getElem? (i := 13) rfl)), List.forall_mem_cons.mpr ⟨(pl_wsX6_safe_wsX6_safe_r3 _ (List.mem_of_getElem? (i := 14) rfl)), List.forall_mem_cons.mpr ⟨(pl_wsX6_safe_wsX6_safe_r3 _ (List.mem_of_getElem? (i := 15) rfl)), List.forall_mem_cons.mpr ⟨(pl_wsX6_safe_wsX6_safe_r3 _ (List.mem_of_getElem? (i := 16) rfl)), List.forall_mem_cons.mpr ⟨(pl_wsX6_safe_wsX6_safe_r3 _ (List.mem_of_getElem? (i := 17) rfl)), List.forall_mem_cons.mpr ⟨(pl_wsX6_safe_wsX6_safe_r3 _ (List.mem_of_getElem? (i := 18) rfl)), List.forall_mem_cons.mpr ⟨(pl_wsX6_safe_wsX6_safe_r3 _ (List.mem_of_getElem? (i := 19) rfl)), List.forall_mem_cons.mpr ⟨(pl_wsX6_safe_wsX6_safe_r3 _ (List.mem_of_getElem? (i := 20) rfl)), fun _ h => absurd h List.not_mem_nil⟩⟩⟩⟩⟩⟩⟩⟩⟩⟩⟩⟩⟩⟩⟩⟩⟩⟩⟩⟩⟩⟩⟩⟩) w) ((List.forall_mem_cons.mpr ⟨(pl_wsX6_safe_wsX6_safe_r3 _ (List.mem_of_getElem? (i := 21) rfl)), List.forall_mem_cons.mpr ⟨(pl_wsX6_safe_wsX6_safe_r3 _ (List.mem_of_getElem? (i := 22) rfl)), List.forall_mem_cons.mpr ⟨(pl_wsX6_safe_wsX6_safe_r3 _ (List.mem_of_getElem? (i := 23) rfl)), List.forall_mem_cons.mpr ⟨(pl_wsX6_safe_wsX6_safe_r4 _ (List.mem_of_getElem? (i := 0) rfl)), List.forall_mem_cons.mpr ⟨(pl_wsX6_safe_wsX6_safe_r4 _ (List.mem_of_getElem? (i := 1) rfl)), List.forall_mem_cons.mpr ⟨(pl_wsX6_safe_wsX6_safe_r4 _ (List.mem_of_getElem? (i := 2) rfl)), List.forall_mem_cons.mpr ⟨(pl_wsX6_safe_wsX6_safe_r4 _ (List.mem_of_getElem? (i := 3) rfl)), List.forall_mem_cons.mpr ⟨(pl_wsX6_safe_wsX6_safe_r4 _ (List.mem_of_getElem? (i := 4) rfl)), List.forall_mem_cons.mpr ⟨(pl_wsX6_safe_wsX6_safe_r4 _ (List.mem_of_getElem? (i := 5) rfl)), List.forall_mem_cons.mpr ⟨(pl_wsX6_safe_wsX6_safe_r4 _ (List.mem_of_getElem? (i := 6) rfl)), List.forall_mem_cons.mpr ⟨(pl_wsX6_safe_wsX6_safe_r4 _ (List.mem_of_getElem? (i := 7) rfl)), List.forall_mem_cons.mpr ⟨(pl_wsX6_safe_wsX6_safe_r4 _ (List.mem_of_getElem? (i := 8) rfl)), fun _ h => absurd h List.not_mem_nil⟩⟩⟩⟩⟩⟩⟩⟩⟩⟩⟩⟩) w)) w)) w) (pl_wsX6_safe_wsX60 w))⟩) (by decide +kernel)
set_option maxRecDepth 20000 in
theorem gX6_safe_X6_brings : GoodIn wsX6_safe (wsV RX6 230 RX6 yX6_brings wsX6_brings) := goodIn_app (goodIn_sub (List.forall_mem_cons.mpr ⟨(pl_wsX6_safe_wsX6_safe_r1 _ (List.mem_of_getElem? (i := 23) rfl)), List.forall_mem_cons.mpr ⟨(pl_wsX6_safe_wsX6_safe_r2 _ (List.mem_of_getElem? (i := 0) rfl)), List.forall_mem_cons.mpr ⟨(pl_wsX6_safe_wsX6_safe_r2 _ (List.mem_of_getElem? (i := 1) rfl)), List.forall_mem_cons.mpr ⟨(pl_wsX6_safe_wsX6_safe_r1 _ (List.mem_of_getElem? (i := 5) rfl)), fun _ h => absurd h List.not_mem_nil⟩⟩⟩⟩) (by decide +kernel)) ggX6_safe_X6_brings
theorem dX6_safe_0 : decode cX6_safe 0 = .ok (.aload_n 0, 1) := by decide +kernel
theorem dX6_safe_1 : decode cX6_safe 1 = .ok (.iload_n 1, 1) := by decide +kernel
theorem dX6_safe_2 : decode cX6_safe 2 = .ok (.invokevirtual 124, 3) := by decide +kernel
theorem dX6_safe_5 : decode cX6_safe 5 = .ok (.ifCond .eq 27, 3) := by decide +kernel
theorem dX6_safe_8 : decode cX6_safe 8 = .ok (.aload_n 0, 1) := by decide +kernel
theorem dX6_safe_9 : decode cX6_safe 9 = .ok (.iload_n 2, 1) := by decide +kernel
theorem dX6_safe_10 : decode cX6_safe 10 = .ok (.invokevirtual 104, 3) := by decide +kernel
theorem dX6_safe_13 : decode cX6_safe 13 = .ok (.ifCond .eq 19, 3) := by decide +kernel
theorem dX6_safe_16 : decode cX6_safe 16 = .ok (.iload_n 3, 1) := by decide +kernel
theorem dX6_safe_17 : decode cX6_safe 17 = .ok (.i2l, 1) := by decide +kernel
theorem dX6_safe_18 : decode cX6_safe 18 = .ok (.lconst 0, 1) := by decide +kernel
theorem dX6_safe_19 : decode cX6_safe 19 = .ok (.lconst 1, 1) := by decide +kernel
theorem dX6_safe_20 : decode cX6_safe 20 = .ok (.invokestatic 76, 3) := by decide +kernel
theorem dX6_safe_23 : decode cX6_safe 23 = .ok (.ifCond .eq 9, 3) := by decide +kernel
theorem dX6_safe_26 : decode cX6_safe 26 = .ok (.iload 4, 2) := by decide +kernel
theorem dX6_safe_28 : decode cX6_safe 28 = .ok (.iconst (-1), 1) := by decide +kernel
theorem dX6_safe_29 : decode cX6_safe 29 = .ok (.if_icmp .ge 10, 3) := by decide +kernel
theorem dX6_safe_32 : decode cX6_safe 32 = .ok (.aload_n 0, 1) := by decide +kernel
theorem dX6_safe_33 : decode cX6_safe 33 = .ok (.bipush (-2), 2) := by decide +kernel
theorem dX6_safe_35 : decode cX6_safe 35 = .ok (.invokevirtual 101, 3) := by decide +kernel
theorem dX6_safe_38 : decode cX6_safe 38 = .ok (.ireturn, 1) := by decide +kernel
theorem dX6_safe_39 : decode cX6_safe 39 = .ok (.iconst 1, 1) := by decide +kernel
theorem dX6_safe_40 : decode cX6_safe 40 = .ok (.istore 5, 2) := by decide +kernel
theorem dX6_safe_42 : decode cX6_safe 42 = .ok (.iconst 0, 1) := by decide +kernel
theorem dX6_safe_43 : decode cX6_safe 43 = .ok (.istore 6, 2) := by decide +kernel
theorem dX6_safe_45 : decode cX6_safe 45 = .ok (.iload 6, 2) := by decide +kernel
theorem dX6_safe_47 : decode cX6_safe 47 = .ok (.bipush 6, 2) := by decide +kernel
theorem dX6_safe_49 : decode cX6_safe 49 = .ok (.if_icmp .gt 117, 3) := by decide +kernel
theorem dX6_safe_52 : decode cX6_safe 52 = .ok (.iconst 0, 1) := by decide +kernel
theorem dX6_safe_53 : decode cX6_safe 53 = .ok (.istore 7, 2) := by decide +kernel
theorem dX6_safe_55 : decode cX6_safe 55 = .ok (.iload 7, 2) := by decide +kernel
theorem dX6_safe_57 : decode cX6_safe 57 = .ok (.iload 5, 2) := by decide +kernel
theorem dX6_safe_59 : decode cX6_safe 59 = .ok (.if_icmp .ge 95, 3) := by decide +kernel
theorem dX6_safe_62 : decode cX6_safe 62 = .ok (.aload_n 0, 1) := by decide +kernel
theorem dX6_safe_63 : decode cX6_safe 63 = .ok (.iload 7, 2) := by decide +kernel
theorem dX6_safe_65 : decode cX6_safe 65 = .ok (.iload 6, 2) := by decide +kernel
theorem dX6_safe_67 : decode cX6_safe 67 = .ok (.invokevirtual 227, 3) := by decide +kernel
theorem dX6_safe_70 : decode cX6_safe 70 = .ok (.aload_n 0, 1) := by decide +kernel
theorem dX6_safe_71 : decode cX6_safe 71 = .ok (.iload_n 1, 1) := by decide +kernel
theorem dX6_safe_72 : decode cX6_safe 72 = .ok (.iload 6, 2) := by decide +kernel
theorem dX6_safe_74 : decode cX6_safe 74 = .ok (.iload_n 2, 1) := by decide +kernel
theorem dX6_safe_75 : decode cX6_safe 75 = .ok (.aload_n 0, 1) := by decide +kernel
theorem dX6_safe_76 : decode cX6_safe 76 = .ok (.getfield 17, 3) := by decide +kernel
theorem dX6_safe_79 : decode cX6_safe 79 = .ok (.bipush 91, 2) := by decide +kernel
theorem dX6_safe_81 : decode cX6_safe 81 = .ok (.iaload, 1) := by decide +kernel
theorem dX6_safe_82 : decode cX6_safe 82 = .ok (.invokevirtual 230, 3) := by decide +kernel
theorem dX6_safe_85 : decode cX6_safe 85 = .ok (.ifCond .eq 63, 3) := by decide +kernel
theorem dX6_safe_88 : decode cX6_safe 88 = .ok (.iload_n 3, 1) := by decide +kernel
theorem dX6_safe_89 : decode cX6_safe 89 = .ok (.iconst 1, 1) := by decide +kernel
theorem dX6_safe_90 : decode cX6_safe 90 = .ok (.if_icmp .eq 23, 3) := by decide +kernel
theorem dX6_safe_93 : decode cX6_safe 93 = .ok (.aload_n 0, 1) := by decide +kernel
theorem dX6_safe_94 : decode cX6_safe 94 = .ok (.iload_n 1, 1) := by decide +kernel
theorem dX6_safe_95 : decode cX6_safe 95 = .ok (.iload 6, 2) := by decide +kernel
theorem dX6_safe_97 : decode cX6_safe 97 = .ok (.iload_n 2, 1) := by decide +kernel
theorem dX6_safe_98 : decode cX6_safe 98 = .ok (.iconst 1, 1) := by decide +kernel
theorem dX6_safe_99 : decode cX6_safe 99 = .ok (.aload_n 0, 1) := by decide +kernel
theorem dX6_safe_100 : decode cX6_safe 100 = .ok (.getfield 17, 3) := by decide +kernel
theorem dX6_safe_103 : decode cX6_safe 103 = .ok (.bipush 91, 2) := by decide +kernel
theorem dX6_safe_105 : decode cX6_safe 105 = .ok (.iaload, 1) := by decide +kernel
theorem dX6_safe_106 : decode cX6_safe 106 = .ok (.isub, 1) := by decide +kernel
theorem dX6_safe_107 : decode cX6_safe 107 = .ok (.invokevirtual 230, 3) := by decide +kernel
theorem dX6_safe_110 : decode cX6_safe 110 = .ok (.ifCond .eq 38, 3) := by decide +kernel
theorem dX6_safe_113 : decode cX6_safe 113 = .ok (.iload 4, 2) := by decide +kernel
theorem dX6_safe_115 : decode cX6_safe 115 = .ok (.iconst (-1), 1) := by decide +kernel
theorem dX6_safe_116 : decode cX6_safe 116 = .ok (.if_icmp .ne 8, 3) := by decide +kernel
theorem dX6_safe_119 : decode cX6_safe 119 = .ok (.iload 6, 2) := by decide +kernel
theorem dX6_safe_121 : decode cX6_safe 121 = .ok (.goto 26, 3) := by decide +kernel
theorem dX6_safe_124 : decode cX6_safe 124 = .ok (.iload 4, 2) := by decide +kernel
theorem dX6_safe_126 : decode cX6_safe 126 = .ok (.iload 6, 2) := by decide +kernel
theorem dX6_safe_128 : decode cX6_safe 128 = .ok (.if_icmp .ge 13, 3) := by decide +kernel
theorem dX6_safe_131 : decode cX6_safe 131 = .ok (.aload_n 0, 1) := by decide +kernel
theorem dX6_safe_132 : decode cX6_safe 132 = .ok (.getfield 51, 3) := by decide +kernel
theorem dX6_safe_135 : decode cX6_safe 135 = .ok (.iload 4, 2) := by decide +kernel
theorem dX6_safe_137 : decode cX6_safe 137 = .ok (.iaload, 1) := by decide +kernel
theorem dX6_safe_138 : decode cX6_safe 138 = .ok (.goto 9, 3) := by decide +kernel
theorem dX6_safe_141 : decode cX6_safe 141 = .ok (.aload_n 0, 1) := by decide +kernel
theorem dX6_safe_142 : decode cX6_safe 142 = .ok (.bipush (-5), 2) := by decide +kernel
theorem dX6_safe_144 : decode cX6_safe 144 = .ok (.invokevirtual 101, 3) := by decide +kernel
theorem dX6_safe_147 : decode cX6_safe 147 = .ok (.ireturn, 1) := by decide +kernel
theorem dX6_safe_148 : decode cX6_safe 148 = .ok (.iinc 7 1, 3) := by decide +kernel
theorem dX6_safe_151 : decode cX6_safe 151 = .ok (.goto (-96), 3) := by decide +kernel
theorem dX6_safe_154 : decode cX6_safe 154 = .ok (.iload 5, 2) := by decide +kernel
theorem dX6_safe_156 : decode cX6_safe 156 = .ok (.iconst 3, 1) := by decide +kernel
theorem dX6_safe_157 : decode cX6_safe 157 = .ok (.imul, 1) := by decide +kernel
theorem dX6_safe_158 : decode cX6_safe 158 = .ok (.istore 5, 2) := by decide +kernel
theorem dX6_safe_160 : decode cX6_safe 160 = .ok (.iinc 6 1, 3) := by decide +kernel
theorem dX6_safe_163 : decode cX6_safe 163 = .ok (.goto (-118), 3) := by decide +kernel
theorem dX6_safe_166 : decode cX6_safe 166 = .ok (.iload 4, 2) := by decide +kernel
theorem dX6_safe_168 : decode cX6_safe 168 = .ok (.iconst (-1), 1) := by decide +kernel
theorem dX6_safe_169 : decode cX6_safe 169 = .ok (.if_icmp .ne 7, 3) := by decide +kernel
theorem dX6_safe_172 : decode cX6_safe 172 = .ok (.iconst (-1), 1) := by decide +kernel
theorem dX6_safe_173 : decode cX6_safe 173 = .ok (.goto 9, 3) := by decide +kernel
theorem dX6_safe_176 : decode cX6_safe 176 = .ok (.aload_n 0, 1) := by decide +kernel
theorem dX6_safe_177 : decode cX6_safe 177 = .ok (.bipush (-5), 2) := by decide +kernel
theorem dX6_safe_179 : decode cX6_safe 179 = .ok (.invokevirtual 101, 3) := by decide +kernel
theorem dX6_safe_182 : decode cX6_safe 182 = .ok (.ireturn, 1) := by decide +kernel
set_option maxRecDepth 20000 in
theorem pl_wsX6_kinds_wsX6_kinds_r1 : ∀ w ∈ wsX6_kinds_r1, w ∈ wsX6_kinds := fun _ h => List.mem_cons_of_mem _ (List.mem_append_left _ (List.mem_append_left _ (h)))
theorem pl_wsX6_kinds_wsX60 : ∀ w ∈ wsX60, w ∈ wsX6_kinds := fun _ h => List.mem_cons_of_mem _ (List.mem_append_right _ (h))
theorem ggX6_kinds_X6_isPerson : GoodIn wsX6_kinds wsX6_isPerson := goodIn_sub (List.forall_mem_cons.mpr ⟨(pl_wsX6_kinds_wsX6_kinds_r1 _ (List.mem_of_getElem? (i := 6) rfl)), (fun w h => (List.mem_append.mp h).elim ((List.forall_mem_cons.mpr ⟨(pl_wsX6_kinds_wsX6_kinds_r1 _ (List.mem_of_getElem? (i := 0) rfl)), List.forall_mem_cons.mpr ⟨(pl_wsX6_kinds_wsX6_kinds_r1 _ (List.mem_of_getElem? (i := 7) rfl)), List.forall_mem_cons.mpr ⟨(pl_wsX6_kinds_wsX6_kinds_r1 _ (List.mem_of_getElem? (i := 8) rfl)), List.forall_mem_cons.mpr ⟨(pl_wsX6_kinds_wsX6_kinds_r1 _ (List.mem_of_getElem? (i := 5) rfl)), List.forall_mem_cons.mpr ⟨(pl_wsX6_kinds_wsX6_kinds_r1 _ (List.mem_of_getElem? (i := 9) rfl)), fun _ h => absurd h List.not_mem_nil⟩⟩⟩⟩⟩) w) (pl_wsX6_kinds_wsX60 w))⟩) (by decide +kernel)
set_option maxRecDepth 20000 in
theorem gX6_kinds_X6_isPerson : GoodIn wsX6_kinds (wsV RX6 124 RX6 yX6_isPerson wsX6_isPerson) := goodIn_app (goodIn_sub (List.forall_mem_cons.mpr ⟨(pl_wsX6_kinds_wsX6_kinds_r1 _ (List.mem_of_getElem? (i := 2) rfl)), List.forall_mem_cons.mpr ⟨(pl_wsX6_kinds_wsX6_kinds_r1 _ (List.mem_of_getElem? (i := 3) rfl)), List.forall_mem_cons.mpr ⟨(pl_wsX6_kinds_wsX6_kinds_r1 _ (List.mem_of_getElem? (i := 4) rfl)), List.forall_mem_cons.mpr ⟨(pl_wsX6_kinds_wsX6_kinds_r1 _ (List.mem_of_getElem? (i := 5) rfl)), fun _ h => absurd h List.not_mem_nil⟩⟩⟩⟩) (by decide +kernel)) ggX6_kinds_X6_isPerson
set_option maxRecDepth 20000 in
theorem ggX6_kinds_X6_isCell : GoodIn wsX6_kinds wsX6_isCell := goodIn_sub (List.forall_mem_cons.mpr ⟨(pl_wsX6_kinds_wsX6_kinds_r1 _ (List.mem_of_getElem? (i := 13) rfl)), (fun w h => (List.mem_append.mp h).elim ((List.forall_mem_cons.mpr ⟨(pl_wsX6_kinds_wsX6_kinds_r1 _ (List.mem_of_getElem? (i := 0) rfl)), fun _ h => absurd h List.not_mem_nil⟩) w) (pl_wsX6_kinds_wsX60 w))⟩) (by decide +kernel)
set_option maxRecDepth 20000 in
theorem gX6_kinds_X6_isCell : GoodIn wsX6_kinds (wsV RX6 104 RX6 yX6_isCell wsX6_isCell) := goodIn_app (goodIn_sub (List.forall_mem_cons.mpr ⟨(pl_wsX6_kinds_wsX6_kinds_r1 _ (List.mem_of_getElem? (i := 10) rfl)), List.forall_mem_cons.mpr ⟨(pl_wsX6_kinds_wsX6_kinds_r1 _ (List.mem_of_getElem? (i := 11) rfl)), List.forall_mem_cons.mpr ⟨(pl_wsX6_kinds_wsX6_kinds_r1 _ (List.mem_of_getElem? (i := 12) rfl)), List.forall_mem_cons.mpr ⟨(pl_wsX6_kinds_wsX6_kinds_r1 _ (List.mem_of_getElem? (i := 5) rfl)), fun _ h => absurd h List.not_mem_nil⟩⟩⟩⟩) (by decide +kernel)) ggX6_kinds_X6_isCell
set_option maxRecDepth 20000 in
theorem ggX6_kinds_X6_isIn : GoodIn wsX6_kinds wsX6_isIn := goodIn_sub (List.forall_mem_cons.mpr ⟨(pl_wsX6_kinds_wsX6_kinds_r1 _ (List.mem_of_getElem? (i := 9) rfl)), (fun _ h => absurd h List.not_mem_nil)⟩) (by decide +kernel)
set_option maxRecDepth 20000 in
theorem gX6_kinds_X6_isIn : GoodIn wsX6_kinds (va_wsS RX6 76 yX6_isIn wsX6_isIn) := goodIn_app (goodIn_sub (List.forall_mem_cons.mpr ⟨(pl_wsX6_kinds_wsX6_kinds_r1 _ (List.mem_of_getElem? (i := 7) rfl)), List.forall_mem_cons.mpr ⟨(pl_wsX6_kinds_wsX6_kinds_r1 _ (List.mem_of_getElem? (i := 8) rfl)), List.forall_mem_cons.mpr ⟨(pl_wsX6_kinds_wsX6_kinds_r1 _ (List.mem_of_getElem? (i := 5) rfl)), fun _ h => absurd h List.not_mem_nil⟩⟩⟩) (by decide +kernel)) ggX6_kinds_X6_isIn
set_option maxRecDepth 20000 in
theorem pl_wsX6_kinds_wsX6_kinds_r2 : ∀ w ∈ wsX6_kinds_r2, w ∈ wsX6_kinds := fun _ h => List.mem_cons_of_mem _ (List.mem_append_left _ (List.mem_append_right _ (List.mem_append_left _ (h))))
theorem ggX6_kinds_X6_loadIf : GoodIn wsX6_kinds wsX6_loadIf := goodIn_sub (List.forall_mem_cons.mpr ⟨(pl_wsX6_kinds_wsX6_kinds_r1 _ (List.mem_of_getElem? (i := 17) rfl)), (fun w h => (List.mem_append.mp h).elim ((List.forall_mem_cons.mpr ⟨(pl_wsX6_kinds_wsX6_kinds_r1 _ (List.mem_of_getElem? (i := 18) rfl)), List.forall_mem_cons.mpr ⟨(pl_wsX6_kinds_wsX6_kinds_r1 _ (List.mem_of_getElem? (i := 19) rfl)), List.forall_mem_cons.mpr ⟨(pl_wsX6_kinds_wsX6_kinds_r1 _ (List.mem_of_getElem? (i := 20) rfl)), List.forall_mem_cons.mpr ⟨(pl_wsX6_kinds_wsX6_kinds_r1 _ (List.mem_of_getElem? (i := 5) rfl)), List.forall_mem_cons.mpr ⟨(pl_wsX6_kinds_wsX6_kinds_r1 _ (List.mem_of_getElem? (i := 21) rfl)), List.forall_mem_cons.mpr ⟨(pl_wsX6_kinds_wsX6_kinds_r1 _ (List.mem_of_getElem? (i := 22) rfl)), List.forall_mem_cons.mpr ⟨(pl_wsX6_kinds_wsX6_kinds_r1 _ (List.mem_of_getElem? (i := 7) rfl)), List.forall_mem_cons.mpr ⟨(pl_wsX6_kinds_wsX6_kinds_r1 _ (List.mem_of_getElem? (i := 8) rfl)), List.forall_mem_cons.mpr ⟨(pl_wsX6_kinds_wsX6_kinds_r1 _ (List.mem_of_getElem? (i := 9) rfl)), List.forall_mem_cons.mpr ⟨(pl_wsX6_kinds_wsX6_kinds_r1 _ (List.mem_of_getElem? (i := 23) rfl)), List.forall_mem_cons.mpr ⟨(pl_wsX6_kinds_wsX6_kinds_r2 _ (List.mem_of_getElem? (i := 0) rfl)), List.forall_mem_cons.mpr ⟨(pl_wsX6_kinds_wsX6_kinds_r2 _ (List.mem_of_getElem? (i := 1) rfl)), List.forall_mem_cons.mpr ⟨(pl_wsX6_kinds_wsX6_kinds_r2 _ (List.mem_of_getElem? (i := 2) rfl)), List.forall_mem_cons.mpr ⟨(pl_wsX6_kinds_wsX6_kinds_r2 _ (List.mem_of_getElem? (i := 3) rfl)), List.forall_mem_cons.mpr ⟨(pl_wsX6_kinds_wsX6_kinds_r2 _ (List.mem_of_getElem? (i := 4) rfl)), List.forall_mem_cons.mpr ⟨(pl_wsX6_kinds_wsX6_kinds_r2 _ (List.mem_of_getElem? (i := 5) rfl)), List.forall_mem_cons.mpr ⟨(pl_wsX6_kinds_wsX6_kinds_r2 _ (List.mem_of_getElem? (i := 6) rfl)), List.forall_mem_cons.mpr ⟨(pl_wsX6_kinds_wsX6_kinds_r2 _ (List.mem_of_getElem? (i := 7) rfl)), List.forall_mem_cons.mpr ⟨(pl_wsX6_kinds_wsX6_kinds_r2 _ (List.mem_of_getElem? (i := 8) rfl)), List.forall_mem_cons.mpr ⟨(pl_wsX6_kinds_wsX6_kinds_r2 _ (List.mem_of_getElem? (i := 9) rfl)), List.forall_mem_cons.mpr ⟨(pl_wsX6_kinds_wsX6_kinds_r2 _ (List.mem_of_getElem? (i := 10) rfl)), List.forall_mem_cons.mpr ⟨(pl_wsX6_kinds_wsX6_kinds_r2 _ (List.mem_of_getElem? (i := 11) rfl)), fun _ h => absurd h List.not_mem_nil⟩⟩⟩⟩⟩⟩⟩⟩⟩⟩⟩⟩⟩⟩⟩⟩⟩⟩⟩⟩⟩⟩) w) (pl_wsX6_kinds_wsX60 w))⟩) (by decide +kernel)
set_option maxRecDepth 20000 in
theorem gX6_kinds_X6_loadIf : GoodIn wsX6_kinds (wsV RX6 219 RX6 yX6_loadIf wsX6_loadIf) := goodIn_app (goodIn_sub (List.forall_mem_cons.mpr ⟨(pl_wsX6_kinds_wsX6_kinds_r1 _ (List.mem_of_getElem? (i := 14) rfl)), List.forall_mem_cons.mpr ⟨(pl_wsX6_kinds_wsX6_kinds_r1 _ (List.mem_of_getElem? (i := 15) rfl)), List.forall_mem_cons.mpr ⟨(pl_wsX6_kinds_wsX6_kinds_r1 _ (List.mem_of_getElem? (i := 16) rfl)), List.forall_mem_cons.mpr ⟨(pl_wsX6_kinds_wsX6_kinds_r1 _ (List.mem_of_getElem? (i := 5) rfl)), fun _ h => absurd h List.not_mem_nil⟩⟩⟩⟩) (by decide +kernel)) ggX6_kinds_X6_loadIf
set_option maxRecDepth 20000 in
theorem ggX6_kinds_X6_refuse : GoodIn wsX6_kinds wsX6_refuse := goodIn_sub (List.forall_mem_cons.mpr ⟨(pl_wsX6_kinds_wsX6_kinds_r2 _ (List.mem_of_getElem? (i := 15) rfl)), (fun w h => (List.mem_append.mp h).elim ((List.forall_mem_cons.mpr ⟨(pl_wsX6_kinds_wsX6_kinds_r2 _ (List.mem_of_getElem? (i := 16) rfl)), fun _ h => absurd h List.not_mem_nil⟩) w) (pl_wsX6_kinds_wsX60 w))⟩) (by decide +kernel)
set_option maxRecDepth 20000 in
theorem gX6_kinds_X6_refuse : GoodIn wsX6_kinds (wsV RX6 101 RX6 yX6_refuse wsX6_refuse) := goodIn_app (goodIn_sub (List.forall_mem_cons.mpr ⟨(pl_wsX6_kinds_wsX6_kinds_r2 _ (List.mem_of_getElem? (i := 12) rfl)), List.forall_mem_cons.mpr ⟨(pl_wsX6_kinds_wsX6_kinds_r2 _ (List.mem_of_getElem? (i := 13) rfl)), List.forall_mem_cons.mpr ⟨(pl_wsX6_kinds_wsX6_kinds_r2 _ (List.mem_of_getElem? (i := 14) rfl)), List.forall_mem_cons.mpr ⟨(pl_wsX6_kinds_wsX6_kinds_r1 _ (List.mem_of_getElem? (i := 5) rfl)), fun _ h => absurd h List.not_mem_nil⟩⟩⟩⟩) (by decide +kernel)) ggX6_kinds_X6_refuse
set_option maxRecDepth 20000 in
theorem pl_wsX6_kinds_wsX6_kinds_r3 : ∀ w ∈ wsX6_kinds_r3, w ∈ wsX6_kinds := fun _ h => List.mem_cons_of_mem _ (List.mem_append_left _ (List.mem_append_right _ (List.mem_append_right _ (List.mem_append_left _ (h)))))
theorem pl_wsX6_kinds_wsX6_kinds_r4 : ∀ w ∈ wsX6_kinds_r4, w ∈ wsX6_kinds := fun _ h => List.mem_cons_of_mem _ (List.mem_append_left _ (List.mem_append_right _ (List.mem_append_right _ (List.mem_append_right _ (h)))))
theorem ggX6_kinds_X6_go : GoodIn wsX6_kinds wsX6_go := goodIn_sub (List.forall_mem_cons.mpr ⟨(pl_wsX6_kinds_wsX6_kinds_r2 _ (List.mem_of_getElem? (i := 20) rfl)), (fun w h => (List.mem_append.mp h).elim ((fun w h => (List.mem_append.mp h).elim ((List.forall_mem_cons.mpr ⟨(pl_wsX6_kinds_wsX6_kinds_r2 _ (List.mem_of_getElem? (i := 6) rfl)), List.forall_mem_cons.mpr ⟨(pl_wsX6_kinds_wsX6_kinds_r2 _ (List.mem_of_getElem? (i := 21) rfl)), List.forall_mem_cons.mpr ⟨(pl_wsX6_kinds_wsX6_kinds_r2 _ (List.mem_of_getElem? (i := 22) rfl)), List.forall_mem_cons.mpr ⟨(pl_wsX6_kinds_wsX6_kinds_r2 _ (List.mem_of_getElem? (i := 23) rfl)), List.forall_mem_cons.mpr ⟨(pl_wsX6_kinds_wsX6_kinds_r1 _ (List.mem_of_getElem? (i := 5) rfl)), List.forall_mem_cons.mpr ⟨(pl_wsX6_kinds_wsX6_kinds_r3 _ (List.mem_of_getElem? (i := 0) rfl)), List.forall_mem_cons.mpr ⟨(pl_wsX6_kinds_wsX6_kinds_r1 _ (List.mem_of_getElem? (i := 0) rfl)), List.forall_mem_cons.mpr ⟨(pl_wsX6_kinds_wsX6_kinds_r3 _ (List.mem_of_getElem? (i := 1) rfl)), List.forall_mem_cons.mpr ⟨(pl_wsX6_kinds_wsX6_kinds_r3 _ (List.mem_of_getElem? (i := 2) rfl)), List.forall_mem_cons.mpr ⟨(pl_wsX6_kinds_wsX6_kinds_r3 _ (List.mem_of_getElem? (i := 3) rfl)), List.forall_mem_cons.mpr ⟨(pl_wsX6_kinds_wsX6_kinds_r3 _ (List.mem_of_getElem? (i := 4) rfl)), List.forall_mem_cons.mpr ⟨(pl_wsX6_kinds_wsX6_kinds_r3 _ (List.mem_of_getElem? (i := 5) rfl)), List.forall_mem_cons.mpr ⟨(pl_wsX6_kinds_wsX6_kinds_r3 _ (List.mem_of_getElem? (i := 6) rfl)), List.forall_mem_cons.mpr ⟨(pl_wsX6_kinds_wsX6_kinds_r3 _ (List.mem_of_getElem? (i := 7) rfl)), List.forall_mem_cons.mpr ⟨(pl_wsX6_kinds_wsX6_kinds_r3 _ (List.mem_of_getElem? (i := 8) rfl)), List.forall_mem_cons.mpr ⟨(pl_wsX6_kinds_wsX6_kinds_r1 _ (List.mem_of_getElem? (i := 1) rfl)), List.forall_mem_cons.mpr ⟨(pl_wsX6_kinds_wsX6_kinds_r3 _ (List.mem_of_getElem? (i := 9) rfl)), List.forall_mem_cons.mpr ⟨(pl_wsX6_kinds_wsX6_kinds_r3 _ (List.mem_of_getElem? (i := 10) rfl)), List.forall_mem_cons.mpr ⟨(pl_wsX6_kinds_wsX6_kinds_r3 _ (List.mem_of_getElem? (i := 11) rfl)), List.forall_mem_cons.mpr ⟨(pl_wsX6_kinds_wsX6_kinds_r3 _ (List.mem_of_getElem? (i := 12) rfl)), List.forall_mem_cons.mpr ⟨(pl_wsX6_kinds_wsX6_kinds_r3 _ (List.mem_of_getElem? (i := 13) rfl)), List.forall_mem_cons.mpr ⟨(pl_wsX6_kinds_wsX6_kinds_r3 _ (List.mem_of_getElem? (i := 14) rfl)), List.forall_mem_cons.mpr ⟨(pl_wsX6_kinds_wsX6_kinds_r3 _ (List.mem_of_getElem? (i := 15) rfl)), List.forall_mem_cons.mpr ⟨(pl_wsX6_kinds_wsX6_kinds_r3 _ (List.mem_of_getElem? (i := 16) rfl)), fun _ h => absurd h List.not_mem_nil⟩⟩⟩⟩⟩⟩⟩⟩⟩⟩⟩⟩⟩⟩⟩⟩⟩⟩⟩⟩⟩⟩⟩⟩) w) ((fun w h => (List.mem_append.mp h).elim ((List.forall_mem_cons.mpr ⟨(pl_wsX6_kinds_wsX6_kinds_r3 _ (List.mem_of_getElem? (i := 17) rfl)), List.forall_mem_cons.mpr ⟨(pl_wsX6_kinds_wsX6_kinds_r3 _ (List.mem_of_getElem? (i := 18) rfl)), List.forall_mem_cons.mpr ⟨(pl_wsX6_kinds_wsX6_kinds_r3 _ (List.mem_of_getElem? (i := 19) rfl)), List.forall_mem_cons.mpr ⟨(pl_wsX6_kinds_wsX6_kinds_r3 _ (List.mem_of_getElem? (i := 20) rfl)), List.forall_mem_cons.mpr ⟨(pl_wsX6_kinds_wsX6_kinds_r3 _ (List.mem_of_getElem? (i := 21) rfl)), List.forall_mem_cons.mpr ⟨(pl_wsX6_kinds_wsX6_kinds_r3 _ (List.mem_of_getElem? (i := 22) rfl)), List.forall_mem_cons.mpr ⟨(pl_wsX6_kinds_wsX6_kinds_r1 _ (List.mem_of_getElem? (i := 7) rfl)), List.forall_mem_cons.mpr ⟨(pl_wsX6_kinds_wsX6_kinds_r1 _ (List.mem_of_getElem? (i := 8) rfl)), List.forall_mem_cons.mpr ⟨(pl_wsX6_kinds_wsX6_kinds_r1 _ (List.mem_of_getElem? (i := 9) rfl)), List.forall_mem_cons.mpr ⟨(pl_wsX6_kinds_wsX6_kinds_r3 _ (List.mem_of_getElem? (i := 23) rfl)), List.forall_mem_cons.mpr ⟨(pl_wsX6_kinds_wsX6_kinds_r4 _ (List.mem_of_getElem? (i := 0) rfl)), List.forall_mem_cons.mpr ⟨(pl_wsX6_kinds_wsX6_kinds_r4 _ (List.mem_of_getElem? (i := 1) rfl)), List.forall_mem_cons.mpr ⟨(pl_wsX6_kinds_wsX6_kinds_r4 _ (List.mem_of_getElem? (i := 2) rfl)), List.forall_mem_cons.mpr ⟨(pl_wsX6_kinds_wsX6_kinds_r4 _ (List.mem_of_getElem? (i := 3) rfl)), List.forall_mem_cons.mpr ⟨(pl_wsX6_kinds_wsX6_kinds_r4 _ (List.mem_of_getElem? (i := 4) rfl)), List.forall_mem_cons.mpr ⟨(pl_wsX6_kinds_wsX6_kinds_r4 _ (List.mem_of_getElem? (i := 5) rfl)), List.forall_mem_cons.mpr ⟨(pl_wsX6_kinds_wsX6_kinds_r4 _ (List.mem_of_getElem? (i := 6) rfl)), List.forall_mem_cons.mpr ⟨(pl_wsX6_kinds_wsX6_kinds_r4 _ (List.mem_of_getElem? (i := 7) rfl)), List.forall_mem_cons.mpr ⟨(pl_wsX6_kinds_wsX6_kinds_r4 _ (List.mem_of_getElem? (i := 8) rfl)), List.forall_mem_cons.mpr ⟨(pl_wsX6_kinds_wsX6_kinds_r4 _ (List.mem_of_getElem? (i := 9) rfl)), List.forall_mem_cons.mpr ⟨(pl_wsX6_kinds_wsX6_kinds_r4 _ (List.mem_of_getElem? (i := 10) rfl)), List.forall_mem_cons.mpr ⟨(pl_wsX6_kinds_wsX6_kinds_r4 _ (List.mem_of_getElem? (i := 11) rfl)), List.forall_mem_cons.mpr ⟨(pl_wsX6_kinds_wsX6_kinds_r4 _ (List.mem_of_getElem? (i := 12) rfl)), List.forall_mem_cons.mpr ⟨(pl_wsX6_kinds_wsX6_kinds_r4 _ (List.mem_of_getElem? (i := 13) rfl)), fun _ h => absurd h List.not_mem_nil⟩⟩⟩⟩⟩⟩⟩⟩⟩⟩⟩⟩⟩⟩⟩⟩⟩⟩⟩⟩⟩⟩⟩⟩) w) ((List.forall_mem_cons.mpr ⟨(pl_wsX6_kinds_wsX6_kinds_r4 _ (List.mem_of_getElem? (i := 14) rfl)), List.forall_mem_cons.mpr ⟨(pl_wsX6_kinds_wsX6_kinds_r4 _ (List.mem_of_getElem? (i := 15) rfl)), List.forall_mem_cons.mpr ⟨(pl_wsX6_kinds_wsX6_kinds_r4 _ (List.mem_of_getElem? (i := 16) rfl)), List.forall_mem_cons.mpr ⟨(pl_wsX6_kinds_wsX6_kinds_r4 _ (List.mem_of_getElem? (i := 17) rfl)), List.forall_mem_cons.mpr ⟨(pl_wsX6_kinds_wsX6_kinds_r4 _ (List.mem_of_getElem? (i := 18) rfl)), List.forall_mem_cons.mpr ⟨(pl_wsX6_kinds_wsX6_kinds_r4 _ (List.mem_of_getElem? (i := 19) rfl)), List.forall_mem_cons.mpr ⟨(pl_wsX6_kinds_wsX6_kinds_r4 _ (List.mem_of_getElem? (i := 20) rfl)), List.forall_mem_cons.mpr ⟨(pl_wsX6_kinds_wsX6_kinds_r4 _ (List.mem_of_getElem? (i := 21) rfl)), fun _ h => absurd h List.not_mem_nil⟩⟩⟩⟩⟩⟩⟩⟩) w)) w)) w) (pl_wsX6_kinds_wsX60 w))⟩) (by decide +kernel)
set_option maxRecDepth 20000 in
theorem gX6_kinds_X6_go : GoodIn wsX6_kinds (wsV RX6 223 RX6 yX6_go wsX6_go) := goodIn_app (goodIn_sub (List.forall_mem_cons.mpr ⟨(pl_wsX6_kinds_wsX6_kinds_r2 _ (List.mem_of_getElem? (i := 17) rfl)), List.forall_mem_cons.mpr ⟨(pl_wsX6_kinds_wsX6_kinds_r2 _ (List.mem_of_getElem? (i := 18) rfl)), List.forall_mem_cons.mpr ⟨(pl_wsX6_kinds_wsX6_kinds_r2 _ (List.mem_of_getElem? (i := 19) rfl)), List.forall_mem_cons.mpr ⟨(pl_wsX6_kinds_wsX6_kinds_r1 _ (List.mem_of_getElem? (i := 5) rfl)), fun _ h => absurd h List.not_mem_nil⟩⟩⟩⟩) (by decide +kernel)) ggX6_kinds_X6_go
theorem dX6_kinds_0 : decode cX6_kinds 0 = .ok (.aload_n 0, 1) := by decide +kernel
theorem dX6_kinds_1 : decode cX6_kinds 1 = .ok (.aload_n 0, 1) := by decide +kernel
theorem dX6_kinds_2 : decode cX6_kinds 2 = .ok (.iload_n 3, 1) := by decide +kernel
theorem dX6_kinds_3 : decode cX6_kinds 3 = .ok (.invokevirtual 124, 3) := by decide +kernel
theorem dX6_kinds_6 : decode cX6_kinds 6 = .ok (.ifCond .eq 27, 3) := by decide +kernel
theorem dX6_kinds_9 : decode cX6_kinds 9 = .ok (.aload_n 0, 1) := by decide +kernel
theorem dX6_kinds_10 : decode cX6_kinds 10 = .ok (.iload 4, 2) := by decide +kernel
theorem dX6_kinds_12 : decode cX6_kinds 12 = .ok (.invokevirtual 104, 3) := by decide +kernel
theorem dX6_kinds_15 : decode cX6_kinds 15 = .ok (.ifCond .eq 18, 3) := by decide +kernel
theorem dX6_kinds_18 : decode cX6_kinds 18 = .ok (.iload 5, 2) := by decide +kernel
theorem dX6_kinds_20 : decode cX6_kinds 20 = .ok (.i2l, 1) := by decide +kernel
theorem dX6_kinds_21 : decode cX6_kinds 21 = .ok (.lconst 0, 1) := by decide +kernel
theorem dX6_kinds_22 : decode cX6_kinds 22 = .ok (.lconst 1, 1) := by decide +kernel
theorem dX6_kinds_23 : decode cX6_kinds 23 = .ok (.invokestatic 76, 3) := by decide +kernel
theorem dX6_kinds_26 : decode cX6_kinds 26 = .ok (.ifCond .eq 7, 3) := by decide +kernel
theorem dX6_kinds_29 : decode cX6_kinds 29 = .ok (.iconst 1, 1) := by decide +kernel
theorem dX6_kinds_30 : decode cX6_kinds 30 = .ok (.goto 4, 3) := by decide +kernel
theorem dX6_kinds_33 : decode cX6_kinds 33 = .ok (.iconst 0, 1) := by decide +kernel
theorem dX6_kinds_34 : decode cX6_kinds 34 = .ok (.iload_n 1, 1) := by decide +kernel
theorem dX6_kinds_35 : decode cX6_kinds 35 = .ok (.iload_n 2, 1) := by decide +kernel
theorem dX6_kinds_36 : decode cX6_kinds 36 = .ok (.invokevirtual 219, 3) := by decide +kernel
theorem dX6_kinds_39 : decode cX6_kinds 39 = .ok (.istore 6, 2) := by decide +kernel
theorem dX6_kinds_41 : decode cX6_kinds 41 = .ok (.iload 6, 2) := by decide +kernel
theorem dX6_kinds_43 : decode cX6_kinds 43 = .ok (.ifCond .ge 10, 3) := by decide +kernel
theorem dX6_kinds_46 : decode cX6_kinds 46 = .ok (.aload_n 0, 1) := by decide +kernel
theorem dX6_kinds_47 : decode cX6_kinds 47 = .ok (.iload 6, 2) := by decide +kernel
theorem dX6_kinds_49 : decode cX6_kinds 49 = .ok (.invokevirtual 101, 3) := by decide +kernel
theorem dX6_kinds_52 : decode cX6_kinds 52 = .ok (.ireturn, 1) := by decide +kernel
theorem dX6_kinds_53 : decode cX6_kinds 53 = .ok (.iload 5, 2) := by decide +kernel
theorem dX6_kinds_55 : decode cX6_kinds 55 = .ok (.ifCond .ne 9, 3) := by decide +kernel
theorem dX6_kinds_58 : decode cX6_kinds 58 = .ok (.iconst 5, 1) := by decide +kernel
theorem dX6_kinds_59 : decode cX6_kinds 59 = .ok (.iload_n 3, 1) := by decide +kernel
theorem dX6_kinds_60 : decode cX6_kinds 60 = .ok (.imul, 1) := by decide +kernel
theorem dX6_kinds_61 : decode cX6_kinds 61 = .ok (.goto 5, 3) := by decide +kernel
theorem dX6_kinds_64 : decode cX6_kinds 64 = .ok (.bipush 91, 2) := by decide +kernel
theorem dX6_kinds_66 : decode cX6_kinds 66 = .ok (.istore 7, 2) := by decide +kernel
theorem dX6_kinds_68 : decode cX6_kinds 68 = .ok (.aload_n 0, 1) := by decide +kernel
theorem dX6_kinds_69 : decode cX6_kinds 69 = .ok (.getfield 17, 3) := by decide +kernel
theorem dX6_kinds_72 : decode cX6_kinds 72 = .ok (.iload 7, 2) := by decide +kernel
theorem dX6_kinds_74 : decode cX6_kinds 74 = .ok (.iaload, 1) := by decide +kernel
theorem dX6_kinds_75 : decode cX6_kinds 75 = .ok (.istore 8, 2) := by decide +kernel
theorem dX6_kinds_77 : decode cX6_kinds 77 = .ok (.iconst 0, 1) := by decide +kernel
theorem dX6_kinds_78 : decode cX6_kinds 78 = .ok (.istore 9, 2) := by decide +kernel
theorem dX6_kinds_80 : decode cX6_kinds 80 = .ok (.iconst 0, 1) := by decide +kernel
theorem dX6_kinds_81 : decode cX6_kinds 81 = .ok (.istore 10, 2) := by decide +kernel
theorem dX6_kinds_83 : decode cX6_kinds 83 = .ok (.iload 10, 2) := by decide +kernel
theorem dX6_kinds_85 : decode cX6_kinds 85 = .ok (.iload 5, 2) := by decide +kernel
theorem dX6_kinds_87 : decode cX6_kinds 87 = .ok (.ifCond .ne 8, 3) := by decide +kernel
theorem dX6_kinds_90 : decode cX6_kinds 90 = .ok (.bipush 6, 2) := by decide +kernel
theorem dX6_kinds_92 : decode cX6_kinds 92 = .ok (.goto 4, 3) := by decide +kernel
theorem dX6_kinds_95 : decode cX6_kinds 95 = .ok (.iconst 2, 1) := by decide +kernel
theorem dX6_kinds_96 : decode cX6_kinds 96 = .ok (.if_icmp .ge 48, 3) := by decide +kernel
theorem dX6_kinds_99 : decode cX6_kinds 99 = .ok (.aload_n 0, 1) := by decide +kernel
theorem dX6_kinds_100 : decode cX6_kinds 100 = .ok (.getfield 17, 3) := by decide +kernel
theorem dX6_kinds_103 : decode cX6_kinds 103 = .ok (.iload 7, 2) := by decide +kernel
theorem dX6_kinds_105 : decode cX6_kinds 105 = .ok (.iload 10, 2) := by decide +kernel
theorem dX6_kinds_107 : decode cX6_kinds 107 = .ok (.iastore, 1) := by decide +kernel
theorem dX6_kinds_108 : decode cX6_kinds 108 = .ok (.aload_n 0, 1) := by decide +kernel
theorem dX6_kinds_109 : decode cX6_kinds 109 = .ok (.iload_n 3, 1) := by decide +kernel
theorem dX6_kinds_110 : decode cX6_kinds 110 = .ok (.iload_n 2, 1) := by decide +kernel
theorem dX6_kinds_111 : decode cX6_kinds 111 = .ok (.invokevirtual 223, 3) := by decide +kernel
theorem dX6_kinds_114 : decode cX6_kinds 114 = .ok (.iload 9, 2) := by decide +kernel
theorem dX6_kinds_116 : decode cX6_kinds 116 = .ok (.aload_n 0, 1) := by decide +kernel
theorem dX6_kinds_117 : decode cX6_kinds 117 = .ok (.getfield 33, 3) := by decide +kernel
theorem dX6_kinds_120 : decode cX6_kinds 120 = .ok (.iconst 0, 1) := by decide +kernel
theorem dX6_kinds_121 : decode cX6_kinds 121 = .ok (.iaload, 1) := by decide +kernel
theorem dX6_kinds_122 : decode cX6_kinds 122 = .ok (.iload 4, 2) := by decide +kernel
theorem dX6_kinds_124 : decode cX6_kinds 124 = .ok (.if_icmp .ne 10, 3) := by decide +kernel
theorem dX6_kinds_127 : decode cX6_kinds 127 = .ok (.iconst 1, 1) := by decide +kernel
theorem dX6_kinds_128 : decode cX6_kinds 128 = .ok (.iload 10, 2) := by decide +kernel
theorem dX6_kinds_130 : decode cX6_kinds 130 = .ok (.ishl, 1) := by decide +kernel
theorem dX6_kinds_131 : decode cX6_kinds 131 = .ok (.goto 4, 3) := by decide +kernel
theorem dX6_kinds_134 : decode cX6_kinds 134 = .ok (.iconst 0, 1) := by decide +kernel
theorem dX6_kinds_135 : decode cX6_kinds 135 = .ok (.ior, 1) := by decide +kernel
theorem dX6_kinds_136 : decode cX6_kinds 136 = .ok (.istore 9, 2) := by decide +kernel
theorem dX6_kinds_138 : decode cX6_kinds 138 = .ok (.iinc 10 1, 3) := by decide +kernel
theorem dX6_kinds_141 : decode cX6_kinds 141 = .ok (.goto (-58), 3) := by decide +kernel
theorem dX6_kinds_144 : decode cX6_kinds 144 = .ok (.aload_n 0, 1) := by decide +kernel
theorem dX6_kinds_145 : decode cX6_kinds 145 = .ok (.getfield 17, 3) := by decide +kernel
theorem dX6_kinds_148 : decode cX6_kinds 148 = .ok (.iload 7, 2) := by decide +kernel
theorem dX6_kinds_150 : decode cX6_kinds 150 = .ok (.iload 8, 2) := by decide +kernel
theorem dX6_kinds_152 : decode cX6_kinds 152 = .ok (.iastore, 1) := by decide +kernel
theorem dX6_kinds_153 : decode cX6_kinds 153 = .ok (.iload 9, 2) := by decide +kernel
theorem dX6_kinds_155 : decode cX6_kinds 155 = .ok (.ireturn, 1) := by decide +kernel
set_option maxRecDepth 20000 in
theorem pl_wsX6_who_wsX6_who_r1 : ∀ w ∈ wsX6_who_r1, w ∈ wsX6_who := fun _ h => List.mem_cons_of_mem _ (List.mem_append_left _ (List.mem_append_left _ (h)))
theorem pl_wsX6_who_wsX60 : ∀ w ∈ wsX60, w ∈ wsX6_who := fun _ h => List.mem_cons_of_mem _ (List.mem_append_right _ (h))
theorem ggX6_who_X6_isCell : GoodIn wsX6_who wsX6_isCell := goodIn_sub (List.forall_mem_cons.mpr ⟨(pl_wsX6_who_wsX6_who_r1 _ (List.mem_of_getElem? (i := 5) rfl)), (fun w h => (List.mem_append.mp h).elim ((List.forall_mem_cons.mpr ⟨(pl_wsX6_who_wsX6_who_r1 _ (List.mem_of_getElem? (i := 6) rfl)), fun _ h => absurd h List.not_mem_nil⟩) w) (pl_wsX6_who_wsX60 w))⟩) (by decide +kernel)
set_option maxRecDepth 20000 in
theorem gX6_who_X6_isCell : GoodIn wsX6_who (wsV RX6 104 RX6 yX6_isCell wsX6_isCell) := goodIn_app (goodIn_sub (List.forall_mem_cons.mpr ⟨(pl_wsX6_who_wsX6_who_r1 _ (List.mem_of_getElem? (i := 1) rfl)), List.forall_mem_cons.mpr ⟨(pl_wsX6_who_wsX6_who_r1 _ (List.mem_of_getElem? (i := 2) rfl)), List.forall_mem_cons.mpr ⟨(pl_wsX6_who_wsX6_who_r1 _ (List.mem_of_getElem? (i := 3) rfl)), List.forall_mem_cons.mpr ⟨(pl_wsX6_who_wsX6_who_r1 _ (List.mem_of_getElem? (i := 4) rfl)), fun _ h => absurd h List.not_mem_nil⟩⟩⟩⟩) (by decide +kernel)) ggX6_who_X6_isCell
set_option maxRecDepth 20000 in
theorem pl_wsX6_who_wsX6_who_r2 : ∀ w ∈ wsX6_who_r2, w ∈ wsX6_who := fun _ h => List.mem_cons_of_mem _ (List.mem_append_left _ (List.mem_append_right _ (List.mem_append_left _ (h))))
theorem ggX6_who_X6_loadIf : GoodIn wsX6_who wsX6_loadIf := goodIn_sub (List.forall_mem_cons.mpr ⟨(pl_wsX6_who_wsX6_who_r1 _ (List.mem_of_getElem? (i := 10) rfl)), (fun w h => (List.mem_append.mp h).elim ((List.forall_mem_cons.mpr ⟨(pl_wsX6_who_wsX6_who_r1 _ (List.mem_of_getElem? (i := 11) rfl)), List.forall_mem_cons.mpr ⟨(pl_wsX6_who_wsX6_who_r1 _ (List.mem_of_getElem? (i := 12) rfl)), List.forall_mem_cons.mpr ⟨(pl_wsX6_who_wsX6_who_r1 _ (List.mem_of_getElem? (i := 13) rfl)), List.forall_mem_cons.mpr ⟨(pl_wsX6_who_wsX6_who_r1 _ (List.mem_of_getElem? (i := 4) rfl)), List.forall_mem_cons.mpr ⟨(pl_wsX6_who_wsX6_who_r1 _ (List.mem_of_getElem? (i := 14) rfl)), List.forall_mem_cons.mpr ⟨(pl_wsX6_who_wsX6_who_r1 _ (List.mem_of_getElem? (i := 15) rfl)), List.forall_mem_cons.mpr ⟨(pl_wsX6_who_wsX6_who_r1 _ (List.mem_of_getElem? (i := 16) rfl)), List.forall_mem_cons.mpr ⟨(pl_wsX6_who_wsX6_who_r1 _ (List.mem_of_getElem? (i := 17) rfl)), List.forall_mem_cons.mpr ⟨(pl_wsX6_who_wsX6_who_r1 _ (List.mem_of_getElem? (i := 18) rfl)), List.forall_mem_cons.mpr ⟨(pl_wsX6_who_wsX6_who_r1 _ (List.mem_of_getElem? (i := 19) rfl)), List.forall_mem_cons.mpr ⟨(pl_wsX6_who_wsX6_who_r1 _ (List.mem_of_getElem? (i := 20) rfl)), List.forall_mem_cons.mpr ⟨(pl_wsX6_who_wsX6_who_r1 _ (List.mem_of_getElem? (i := 21) rfl)), List.forall_mem_cons.mpr ⟨(pl_wsX6_who_wsX6_who_r1 _ (List.mem_of_getElem? (i := 22) rfl)), List.forall_mem_cons.mpr ⟨(pl_wsX6_who_wsX6_who_r1 _ (List.mem_of_getElem? (i := 23) rfl)), List.forall_mem_cons.mpr ⟨(pl_wsX6_who_wsX6_who_r2 _ (List.mem_of_getElem? (i := 0) rfl)), List.forall_mem_cons.mpr ⟨(pl_wsX6_who_wsX6_who_r2 _ (List.mem_of_getElem? (i := 1) rfl)), List.forall_mem_cons.mpr ⟨(pl_wsX6_who_wsX6_who_r2 _ (List.mem_of_getElem? (i := 2) rfl)), List.forall_mem_cons.mpr ⟨(pl_wsX6_who_wsX6_who_r2 _ (List.mem_of_getElem? (i := 3) rfl)), List.forall_mem_cons.mpr ⟨(pl_wsX6_who_wsX6_who_r2 _ (List.mem_of_getElem? (i := 4) rfl)), List.forall_mem_cons.mpr ⟨(pl_wsX6_who_wsX6_who_r2 _ (List.mem_of_getElem? (i := 5) rfl)), List.forall_mem_cons.mpr ⟨(pl_wsX6_who_wsX6_who_r2 _ (List.mem_of_getElem? (i := 6) rfl)), List.forall_mem_cons.mpr ⟨(pl_wsX6_who_wsX6_who_r2 _ (List.mem_of_getElem? (i := 7) rfl)), fun _ h => absurd h List.not_mem_nil⟩⟩⟩⟩⟩⟩⟩⟩⟩⟩⟩⟩⟩⟩⟩⟩⟩⟩⟩⟩⟩⟩) w) (pl_wsX6_who_wsX60 w))⟩) (by decide +kernel)
set_option maxRecDepth 20000 in
theorem gX6_who_X6_loadIf : GoodIn wsX6_who (wsV RX6 219 RX6 yX6_loadIf wsX6_loadIf) := goodIn_app (goodIn_sub (List.forall_mem_cons.mpr ⟨(pl_wsX6_who_wsX6_who_r1 _ (List.mem_of_getElem? (i := 7) rfl)), List.forall_mem_cons.mpr ⟨(pl_wsX6_who_wsX6_who_r1 _ (List.mem_of_getElem? (i := 8) rfl)), List.forall_mem_cons.mpr ⟨(pl_wsX6_who_wsX6_who_r1 _ (List.mem_of_getElem? (i := 9) rfl)), List.forall_mem_cons.mpr ⟨(pl_wsX6_who_wsX6_who_r1 _ (List.mem_of_getElem? (i := 4) rfl)), fun _ h => absurd h List.not_mem_nil⟩⟩⟩⟩) (by decide +kernel)) ggX6_who_X6_loadIf
set_option maxRecDepth 20000 in
theorem ggX6_who_X6_refuse : GoodIn wsX6_who wsX6_refuse := goodIn_sub (List.forall_mem_cons.mpr ⟨(pl_wsX6_who_wsX6_who_r2 _ (List.mem_of_getElem? (i := 11) rfl)), (fun w h => (List.mem_append.mp h).elim ((List.forall_mem_cons.mpr ⟨(pl_wsX6_who_wsX6_who_r2 _ (List.mem_of_getElem? (i := 12) rfl)), fun _ h => absurd h List.not_mem_nil⟩) w) (pl_wsX6_who_wsX60 w))⟩) (by decide +kernel)
set_option maxRecDepth 20000 in
theorem gX6_who_X6_refuse : GoodIn wsX6_who (wsV RX6 101 RX6 yX6_refuse wsX6_refuse) := goodIn_app (goodIn_sub (List.forall_mem_cons.mpr ⟨(pl_wsX6_who_wsX6_who_r2 _ (List.mem_of_getElem? (i := 8) rfl)), List.forall_mem_cons.mpr ⟨(pl_wsX6_who_wsX6_who_r2 _ (List.mem_of_getElem? (i := 9) rfl)), List.forall_mem_cons.mpr ⟨(pl_wsX6_who_wsX6_who_r2 _ (List.mem_of_getElem? (i := 10) rfl)), List.forall_mem_cons.mpr ⟨(pl_wsX6_who_wsX6_who_r1 _ (List.mem_of_getElem? (i := 4) rfl)), fun _ h => absurd h List.not_mem_nil⟩⟩⟩⟩) (by decide +kernel)) ggX6_who_X6_refuse
set_option maxRecDepth 20000 in
theorem ggX6_who_X6_many : GoodIn wsX6_who wsX6_many := goodIn_sub (List.forall_mem_cons.mpr ⟨(pl_wsX6_who_wsX6_who_r2 _ (List.mem_of_getElem? (i := 16) rfl)), (fun w h => (List.mem_append.mp h).elim ((List.forall_mem_cons.mpr ⟨(pl_wsX6_who_wsX6_who_r1 _ (List.mem_of_getElem? (i := 6) rfl)), fun _ h => absurd h List.not_mem_nil⟩) w) (pl_wsX6_who_wsX60 w))⟩) (by decide +kernel)
set_option maxRecDepth 20000 in
theorem gX6_who_X6_many : GoodIn wsX6_who (wsV RX6 84 RX6 yX6_many wsX6_many) := goodIn_app (goodIn_sub (List.forall_mem_cons.mpr ⟨(pl_wsX6_who_wsX6_who_r2 _ (List.mem_of_getElem? (i := 13) rfl)), List.forall_mem_cons.mpr ⟨(pl_wsX6_who_wsX6_who_r2 _ (List.mem_of_getElem? (i := 14) rfl)), List.forall_mem_cons.mpr ⟨(pl_wsX6_who_wsX6_who_r2 _ (List.mem_of_getElem? (i := 15) rfl)), List.forall_mem_cons.mpr ⟨(pl_wsX6_who_wsX6_who_r1 _ (List.mem_of_getElem? (i := 4) rfl)), fun _ h => absurd h List.not_mem_nil⟩⟩⟩⟩) (by decide +kernel)) ggX6_who_X6_many
set_option maxRecDepth 20000 in
theorem pl_wsX6_who_wsX6_who_r3 : ∀ w ∈ wsX6_who_r3, w ∈ wsX6_who := fun _ h => List.mem_cons_of_mem _ (List.mem_append_left _ (List.mem_append_right _ (List.mem_append_right _ (List.mem_append_left _ (h)))))
theorem pl_wsX6_who_wsX6_who_r4 : ∀ w ∈ wsX6_who_r4, w ∈ wsX6_who := fun _ h => List.mem_cons_of_mem _ (List.mem_append_left _ (List.mem_append_right _ (List.mem_append_right _ (List.mem_append_right _ (h)))))
theorem ggX6_who_X6_go : GoodIn wsX6_who wsX6_go := goodIn_sub (List.forall_mem_cons.mpr ⟨(pl_wsX6_who_wsX6_who_r2 _ (List.mem_of_getElem? (i := 20) rfl)), (fun w h => (List.mem_append.mp h).elim ((fun w h => (List.mem_append.mp h).elim ((List.forall_mem_cons.mpr ⟨(pl_wsX6_who_wsX6_who_r2 _ (List.mem_of_getElem? (i := 2) rfl)), List.forall_mem_cons.mpr ⟨(pl_wsX6_who_wsX6_who_r2 _ (List.mem_of_getElem? (i := 21) rfl)), List.forall_mem_cons.mpr ⟨(pl_wsX6_who_wsX6_who_r2 _ (List.mem_of_getElem? (i := 22) rfl)), List.forall_mem_cons.mpr ⟨(pl_wsX6_who_wsX6_who_r2 _ (List.mem_of_getElem? (i := 23) rfl)), List.forall_mem_cons.mpr ⟨(pl_wsX6_who_wsX6_who_r1 _ (List.mem_of_getElem? (i := 4) rfl)), List.forall_mem_cons.mpr ⟨(pl_wsX6_who_wsX6_who_r3 _ (List.mem_of_getElem? (i := 0) rfl)), List.forall_mem_cons.mpr ⟨(pl_wsX6_who_wsX6_who_r1 _ (List.mem_of_getElem? (i := 6) rfl)), List.forall_mem_cons.mpr ⟨(pl_wsX6_who_wsX6_who_r3 _ (List.mem_of_getElem? (i := 1) rfl)), List.forall_mem_cons.mpr ⟨(pl_wsX6_who_wsX6_who_r3 _ (List.mem_of_getElem? (i := 2) rfl)), List.forall_mem_cons.mpr ⟨(pl_wsX6_who_wsX6_who_r3 _ (List.mem_of_getElem? (i := 3) rfl)), List.forall_mem_cons.mpr ⟨(pl_wsX6_who_wsX6_who_r3 _ (List.mem_of_getElem? (i := 4) rfl)), List.forall_mem_cons.mpr ⟨(pl_wsX6_who_wsX6_who_r3 _ (List.mem_of_getElem? (i := 5) rfl)), List.forall_mem_cons.mpr ⟨(pl_wsX6_who_wsX6_who_r3 _ (List.mem_of_getElem? (i := 6) rfl)), List.forall_mem_cons.mpr ⟨(pl_wsX6_who_wsX6_who_r3 _ (List.mem_of_getElem? (i := 7) rfl)), List.forall_mem_cons.mpr ⟨(pl_wsX6_who_wsX6_who_r3 _ (List.mem_of_getElem? (i := 8) rfl)), List.forall_mem_cons.mpr ⟨(pl_wsX6_who_wsX6_who_r1 _ (List.mem_of_getElem? (i := 0) rfl)), List.forall_mem_cons.mpr ⟨(pl_wsX6_who_wsX6_who_r3 _ (List.mem_of_getElem? (i := 9) rfl)), List.forall_mem_cons.mpr ⟨(pl_wsX6_who_wsX6_who_r3 _ (List.mem_of_getElem? (i := 10) rfl)), List.forall_mem_cons.mpr ⟨(pl_wsX6_who_wsX6_who_r3 _ (List.mem_of_getElem? (i := 11) rfl)), List.forall_mem_cons.mpr ⟨(pl_wsX6_who_wsX6_who_r3 _ (List.mem_of_getElem? (i := 12) rfl)), List.forall_mem_cons.mpr ⟨(pl_wsX6_who_wsX6_who_r3 _ (List.mem_of_getElem? (i := 13) rfl)), List.forall_mem_cons.mpr ⟨(pl_wsX6_who_wsX6_who_r3 _ (List.mem_of_getElem? (i := 14) rfl)), List.forall_mem_cons.mpr ⟨(pl_wsX6_who_wsX6_who_r3 _ (List.mem_of_getElem? (i := 15) rfl)), List.forall_mem_cons.mpr ⟨(pl_wsX6_who_wsX6_who_r3 _ (List.mem_of_getElem? (i := 16) rfl)), fun _ h => absurd h List.not_mem_nil⟩⟩⟩⟩⟩⟩⟩⟩⟩⟩⟩⟩⟩⟩⟩⟩⟩⟩⟩⟩⟩⟩⟩⟩) w) ((fun w h => (List.mem_append.mp h).elim ((List.forall_mem_cons.mpr ⟨(pl_wsX6_who_wsX6_who_r3 _ (List.mem_of_getElem? (i := 17) rfl)), List.forall_mem_cons.mpr ⟨(pl_wsX6_who_wsX6_who_r3 _ (List.mem_of_getElem? (i := 18) rfl)), List.forall_mem_cons.mpr ⟨(pl_wsX6_who_wsX6_who_r3 _ (List.mem_of_getElem? (i := 19) rfl)), List.forall_mem_cons.mpr ⟨(pl_wsX6_who_wsX6_who_r3 _ (List.mem_of_getElem? (i := 20) rfl)), List.forall_mem_cons.mpr ⟨(pl_wsX6_who_wsX6_who_r3 _ (List.mem_of_getElem? (i := 21) rfl)), List.forall_mem_cons.mpr ⟨(pl_wsX6_who_wsX6_who_r3 _ (List.mem_of_getElem? (i := 22) rfl)), List.forall_mem_cons.mpr ⟨(pl_wsX6_who_wsX6_who_r1 _ (List.mem_of_getElem? (i := 16) rfl)), List.forall_mem_cons.mpr ⟨(pl_wsX6_who_wsX6_who_r1 _ (List.mem_of_getElem? (i := 17) rfl)), List.forall_mem_cons.mpr ⟨(pl_wsX6_who_wsX6_who_r1 _ (List.mem_of_getElem? (i := 18) rfl)), List.forall_mem_cons.mpr ⟨(pl_wsX6_who_wsX6_who_r3 _ (List.mem_of_getElem? (i := 23) rfl)), List.forall_mem_cons.mpr ⟨(pl_wsX6_who_wsX6_who_r4 _ (List.mem_of_getElem? (i := 0) rfl)), List.forall_mem_cons.mpr ⟨(pl_wsX6_who_wsX6_who_r4 _ (List.mem_of_getElem? (i := 1) rfl)), List.forall_mem_cons.mpr ⟨(pl_wsX6_who_wsX6_who_r4 _ (List.mem_of_getElem? (i := 2) rfl)), List.forall_mem_cons.mpr ⟨(pl_wsX6_who_wsX6_who_r4 _ (List.mem_of_getElem? (i := 3) rfl)), List.forall_mem_cons.mpr ⟨(pl_wsX6_who_wsX6_who_r4 _ (List.mem_of_getElem? (i := 4) rfl)), List.forall_mem_cons.mpr ⟨(pl_wsX6_who_wsX6_who_r4 _ (List.mem_of_getElem? (i := 5) rfl)), List.forall_mem_cons.mpr ⟨(pl_wsX6_who_wsX6_who_r4 _ (List.mem_of_getElem? (i := 6) rfl)), List.forall_mem_cons.mpr ⟨(pl_wsX6_who_wsX6_who_r4 _ (List.mem_of_getElem? (i := 7) rfl)), List.forall_mem_cons.mpr ⟨(pl_wsX6_who_wsX6_who_r4 _ (List.mem_of_getElem? (i := 8) rfl)), List.forall_mem_cons.mpr ⟨(pl_wsX6_who_wsX6_who_r4 _ (List.mem_of_getElem? (i := 9) rfl)), List.forall_mem_cons.mpr ⟨(pl_wsX6_who_wsX6_who_r4 _ (List.mem_of_getElem? (i := 10) rfl)), List.forall_mem_cons.mpr ⟨(pl_wsX6_who_wsX6_who_r4 _ (List.mem_of_getElem? (i := 11) rfl)), List.forall_mem_cons.mpr ⟨(pl_wsX6_who_wsX6_who_r4 _ (List.mem_of_getElem? (i := 12) rfl)), List.forall_mem_cons.mpr ⟨(pl_wsX6_who_wsX6_who_r4 _ (List.mem_of_getElem? (i := 13) rfl)), fun _ h => absurd h List.not_mem_nil⟩⟩⟩⟩⟩⟩⟩⟩⟩⟩⟩⟩⟩⟩⟩⟩⟩⟩⟩⟩⟩⟩⟩⟩) w) ((List.forall_mem_cons.mpr ⟨(pl_wsX6_who_wsX6_who_r4 _ (List.mem_of_getElem? (i := 14) rfl)), List.forall_mem_cons.mpr ⟨(pl_wsX6_who_wsX6_who_r4 _ (List.mem_of_getElem? (i := 15) rfl)), List.forall_mem_cons.mpr ⟨(pl_wsX6_who_wsX6_who_r4 _ (List.mem_of_getElem? (i := 16) rfl)), List.forall_mem_cons.mpr ⟨(pl_wsX6_who_wsX6_who_r4 _ (List.mem_of_getElem? (i := 17) rfl)), List.forall_mem_cons.mpr ⟨(pl_wsX6_who_wsX6_who_r4 _ (List.mem_of_getElem? (i := 18) rfl)), List.forall_mem_cons.mpr ⟨(pl_wsX6_who_wsX6_who_r4 _ (List.mem_of_getElem? (i := 19) rfl)), List.forall_mem_cons.mpr ⟨(pl_wsX6_who_wsX6_who_r4 _ (List.mem_of_getElem? (i := 20) rfl)), List.forall_mem_cons.mpr ⟨(pl_wsX6_who_wsX6_who_r4 _ (List.mem_of_getElem? (i := 21) rfl)), fun _ h => absurd h List.not_mem_nil⟩⟩⟩⟩⟩⟩⟩⟩) w)) w)) w) (pl_wsX6_who_wsX60 w))⟩) (by decide +kernel)
set_option maxRecDepth 20000 in
theorem gX6_who_X6_go : GoodIn wsX6_who (wsV RX6 223 RX6 yX6_go wsX6_go) := goodIn_app (goodIn_sub (List.forall_mem_cons.mpr ⟨(pl_wsX6_who_wsX6_who_r2 _ (List.mem_of_getElem? (i := 17) rfl)), List.forall_mem_cons.mpr ⟨(pl_wsX6_who_wsX6_who_r2 _ (List.mem_of_getElem? (i := 18) rfl)), List.forall_mem_cons.mpr ⟨(pl_wsX6_who_wsX6_who_r2 _ (List.mem_of_getElem? (i := 19) rfl)), List.forall_mem_cons.mpr ⟨(pl_wsX6_who_wsX6_who_r1 _ (List.mem_of_getElem? (i := 4) rfl)), fun _ h => absurd h List.not_mem_nil⟩⟩⟩⟩) (by decide +kernel)) ggX6_who_X6_go
theorem dX6_who_0 : decode cX6_who 0 = .ok (.aload_n 0, 1) := by decide +kernel
theorem dX6_who_1 : decode cX6_who 1 = .ok (.aload_n 0, 1) := by decide +kernel
theorem dX6_who_2 : decode cX6_who 2 = .ok (.iload_n 3, 1) := by decide +kernel
theorem dX6_who_3 : decode cX6_who 3 = .ok (.invokevirtual 104, 3) := by decide +kernel
theorem dX6_who_6 : decode cX6_who 6 = .ok (.iload_n 1, 1) := by decide +kernel
theorem dX6_who_7 : decode cX6_who 7 = .ok (.iload_n 2, 1) := by decide +kernel
theorem dX6_who_8 : decode cX6_who 8 = .ok (.invokevirtual 219, 3) := by decide +kernel
theorem dX6_who_11 : decode cX6_who 11 = .ok (.istore 4, 2) := by decide +kernel
theorem dX6_who_13 : decode cX6_who 13 = .ok (.iload 4, 2) := by decide +kernel
theorem dX6_who_15 : decode cX6_who 15 = .ok (.ifCond .ge 10, 3) := by decide +kernel
theorem dX6_who_18 : decode cX6_who 18 = .ok (.aload_n 0, 1) := by decide +kernel
theorem dX6_who_19 : decode cX6_who 19 = .ok (.iload 4, 2) := by decide +kernel
theorem dX6_who_21 : decode cX6_who 21 = .ok (.invokevirtual 101, 3) := by decide +kernel
theorem dX6_who_24 : decode cX6_who 24 = .ok (.ireturn, 1) := by decide +kernel
theorem dX6_who_25 : decode cX6_who 25 = .ok (.iconst 0, 1) := by decide +kernel
theorem dX6_who_26 : decode cX6_who 26 = .ok (.istore 5, 2) := by decide +kernel
theorem dX6_who_28 : decode cX6_who 28 = .ok (.iconst 0, 1) := by decide +kernel
theorem dX6_who_29 : decode cX6_who 29 = .ok (.istore 6, 2) := by decide +kernel
theorem dX6_who_31 : decode cX6_who 31 = .ok (.iload 6, 2) := by decide +kernel
theorem dX6_who_33 : decode cX6_who 33 = .ok (.aload_n 0, 1) := by decide +kernel
theorem dX6_who_34 : decode cX6_who 34 = .ok (.invokevirtual 84, 3) := by decide +kernel
theorem dX6_who_37 : decode cX6_who 37 = .ok (.if_icmp .ge 39, 3) := by decide +kernel
theorem dX6_who_40 : decode cX6_who 40 = .ok (.aload_n 0, 1) := by decide +kernel
theorem dX6_who_41 : decode cX6_who 41 = .ok (.iload 6, 2) := by decide +kernel
theorem dX6_who_43 : decode cX6_who 43 = .ok (.iload_n 2, 1) := by decide +kernel
theorem dX6_who_44 : decode cX6_who 44 = .ok (.invokevirtual 223, 3) := by decide +kernel
theorem dX6_who_47 : decode cX6_who 47 = .ok (.iload 5, 2) := by decide +kernel
theorem dX6_who_49 : decode cX6_who 49 = .ok (.aload_n 0, 1) := by decide +kernel
theorem dX6_who_50 : decode cX6_who 50 = .ok (.getfield 33, 3) := by decide +kernel
theorem dX6_who_53 : decode cX6_who 53 = .ok (.iconst 0, 1) := by decide +kernel
theorem dX6_who_54 : decode cX6_who 54 = .ok (.iaload, 1) := by decide +kernel
theorem dX6_who_55 : decode cX6_who 55 = .ok (.iload_n 3, 1) := by decide +kernel
theorem dX6_who_56 : decode cX6_who 56 = .ok (.if_icmp .ne 10, 3) := by decide +kernel
theorem dX6_who_59 : decode cX6_who 59 = .ok (.iconst 1, 1) := by decide +kernel
theorem dX6_who_60 : decode cX6_who 60 = .ok (.iload 6, 2) := by decide +kernel
theorem dX6_who_62 : decode cX6_who 62 = .ok (.ishl, 1) := by decide +kernel
theorem dX6_who_63 : decode cX6_who 63 = .ok (.goto 4, 3) := by decide +kernel
theorem dX6_who_66 : decode cX6_who 66 = .ok (.iconst 0, 1) := by decide +kernel
theorem dX6_who_67 : decode cX6_who 67 = .ok (.ior, 1) := by decide +kernel
theorem dX6_who_68 : decode cX6_who 68 = .ok (.istore 5, 2) := by decide +kernel
theorem dX6_who_70 : decode cX6_who 70 = .ok (.iinc 6 1, 3) := by decide +kernel
theorem dX6_who_73 : decode cX6_who 73 = .ok (.goto (-42), 3) := by decide +kernel
theorem dX6_who_76 : decode cX6_who 76 = .ok (.iload 5, 2) := by decide +kernel
theorem dX6_who_78 : decode cX6_who 78 = .ok (.ireturn, 1) := by decide +kernel
set_option maxRecDepth 20000 in
theorem pl_wsX6_comeOut_wsX6_comeOut_r1 : ∀ w ∈ wsX6_comeOut_r1, w ∈ wsX6_comeOut := fun _ h => List.mem_cons_of_mem _ (List.mem_append_left _ (List.mem_append_left _ (h)))
theorem pl_wsX6_comeOut_wsX60 : ∀ w ∈ wsX60, w ∈ wsX6_comeOut := fun _ h => List.mem_cons_of_mem _ (List.mem_append_right _ (h))
theorem ggX6_comeOut_X6_many : GoodIn wsX6_comeOut wsX6_many := goodIn_sub (List.forall_mem_cons.mpr ⟨(pl_wsX6_comeOut_wsX6_comeOut_r1 _ (List.mem_of_getElem? (i := 6) rfl)), (fun w h => (List.mem_append.mp h).elim ((List.forall_mem_cons.mpr ⟨(pl_wsX6_comeOut_wsX6_comeOut_r1 _ (List.mem_of_getElem? (i := 7) rfl)), fun _ h => absurd h List.not_mem_nil⟩) w) (pl_wsX6_comeOut_wsX60 w))⟩) (by decide +kernel)
set_option maxRecDepth 20000 in
theorem gX6_comeOut_X6_many : GoodIn wsX6_comeOut (wsV RX6 84 RX6 yX6_many wsX6_many) := goodIn_app (goodIn_sub (List.forall_mem_cons.mpr ⟨(pl_wsX6_comeOut_wsX6_comeOut_r1 _ (List.mem_of_getElem? (i := 2) rfl)), List.forall_mem_cons.mpr ⟨(pl_wsX6_comeOut_wsX6_comeOut_r1 _ (List.mem_of_getElem? (i := 3) rfl)), List.forall_mem_cons.mpr ⟨(pl_wsX6_comeOut_wsX6_comeOut_r1 _ (List.mem_of_getElem? (i := 4) rfl)), List.forall_mem_cons.mpr ⟨(pl_wsX6_comeOut_wsX6_comeOut_r1 _ (List.mem_of_getElem? (i := 5) rfl)), fun _ h => absurd h List.not_mem_nil⟩⟩⟩⟩) (by decide +kernel)) ggX6_comeOut_X6_many
set_option maxRecDepth 20000 in
theorem pl_wsX6_comeOut_wsX6_comeOut_r2 : ∀ w ∈ wsX6_comeOut_r2, w ∈ wsX6_comeOut := fun _ h => List.mem_cons_of_mem _ (List.mem_append_left _ (List.mem_append_right _ (List.mem_append_left _ (h))))
theorem pl_wsX6_comeOut_wsX6_comeOut_r3 : ∀ w ∈ wsX6_comeOut_r3, w ∈ wsX6_comeOut := fun _ h => List.mem_cons_of_mem _ (List.mem_append_left _ (List.mem_append_right _ (List.mem_append_right _ (h))))
theorem ggX6_comeOut_X6_go : GoodIn wsX6_comeOut wsX6_go := goodIn_sub (List.forall_mem_cons.mpr ⟨(pl_wsX6_comeOut_wsX6_comeOut_r1 _ (List.mem_of_getElem? (i := 11) rfl)), (fun w h => (List.mem_append.mp h).elim ((fun w h => (List.mem_append.mp h).elim ((List.forall_mem_cons.mpr ⟨(pl_wsX6_comeOut_wsX6_comeOut_r1 _ (List.mem_of_getElem? (i := 12) rfl)), List.forall_mem_cons.mpr ⟨(pl_wsX6_comeOut_wsX6_comeOut_r1 _ (List.mem_of_getElem? (i := 13) rfl)), List.forall_mem_cons.mpr ⟨(pl_wsX6_comeOut_wsX6_comeOut_r1 _ (List.mem_of_getElem? (i := 14) rfl)), List.forall_mem_cons.mpr ⟨(pl_wsX6_comeOut_wsX6_comeOut_r1 _ (List.mem_of_getElem? (i := 15) rfl)), List.forall_mem_cons.mpr ⟨(pl_wsX6_comeOut_wsX6_comeOut_r1 _ (List.mem_of_getElem? (i := 5) rfl)), List.forall_mem_cons.mpr ⟨(pl_wsX6_comeOut_wsX6_comeOut_r1 _ (List.mem_of_getElem? (i := 16) rfl)), List.forall_mem_cons.mpr ⟨(pl_wsX6_comeOut_wsX6_comeOut_r1 _ (List.mem_of_getElem? (i := 7) rfl)), List.forall_mem_cons.mpr ⟨(pl_wsX6_comeOut_wsX6_comeOut_r1 _ (List.mem_of_getElem? (i := 17) rfl)), List.forall_mem_cons.mpr ⟨(pl_wsX6_comeOut_wsX6_comeOut_r1 _ (List.mem_of_getElem? (i := 18) rfl)), List.forall_mem_cons.mpr ⟨(pl_wsX6_comeOut_wsX6_comeOut_r1 _ (List.mem_of_getElem? (i := 19) rfl)), List.forall_mem_cons.mpr ⟨(pl_wsX6_comeOut_wsX6_comeOut_r1 _ (List.mem_of_getElem? (i := 20) rfl)), List.forall_mem_cons.mpr ⟨(pl_wsX6_comeOut_wsX6_comeOut_r1 _ (List.mem_of_getElem? (i := 21) rfl)), List.forall_mem_cons.mpr ⟨(pl_wsX6_comeOut_wsX6_comeOut_r1 _ (List.mem_of_getElem? (i := 22) rfl)), List.forall_mem_cons.mpr ⟨(pl_wsX6_comeOut_wsX6_comeOut_r1 _ (List.mem_of_getElem? (i := 23) rfl)), List.forall_mem_cons.mpr ⟨(pl_wsX6_comeOut_wsX6_comeOut_r2 _ (List.mem_of_getElem? (i := 0) rfl)), List.forall_mem_cons.mpr ⟨(pl_wsX6_comeOut_wsX6_comeOut_r1 _ (List.mem_of_getElem? (i := 1) rfl)), List.forall_mem_cons.mpr ⟨(pl_wsX6_comeOut_wsX6_comeOut_r2 _ (List.mem_of_getElem? (i := 1) rfl)), List.forall_mem_cons.mpr ⟨(pl_wsX6_comeOut_wsX6_comeOut_r2 _ (List.mem_of_getElem? (i := 2) rfl)), List.forall_mem_cons.mpr ⟨(pl_wsX6_comeOut_wsX6_comeOut_r2 _ (List.mem_of_getElem? (i := 3) rfl)), List.forall_mem_cons.mpr ⟨(pl_wsX6_comeOut_wsX6_comeOut_r2 _ (List.mem_of_getElem? (i := 4) rfl)), List.forall_mem_cons.mpr ⟨(pl_wsX6_comeOut_wsX6_comeOut_r2 _ (List.mem_of_getElem? (i := 5) rfl)), List.forall_mem_cons.mpr ⟨(pl_wsX6_comeOut_wsX6_comeOut_r2 _ (List.mem_of_getElem? (i := 6) rfl)), List.forall_mem_cons.mpr ⟨(pl_wsX6_comeOut_wsX6_comeOut_r2 _ (List.mem_of_getElem? (i := 7) rfl)), List.forall_mem_cons.mpr ⟨(pl_wsX6_comeOut_wsX6_comeOut_r2 _ (List.mem_of_getElem? (i := 8) rfl)), fun _ h => absurd h List.not_mem_nil⟩⟩⟩⟩⟩⟩⟩⟩⟩⟩⟩⟩⟩⟩⟩⟩⟩⟩⟩⟩⟩⟩⟩⟩) w) ((fun w h => (List.mem_append.mp h).elim ((List.forall_mem_cons.mpr ⟨(pl_wsX6_comeOut_wsX6_comeOut_r2 _ (List.mem_of_getElem? (i := 9) rfl)), List.forall_mem_cons.mpr ⟨(pl_wsX6_comeOut_wsX6_comeOut_r2 _ (List.mem_of_getElem? (i := 10) rfl)), List.forall_mem_cons.mpr ⟨(pl_wsX6_comeOut_wsX6_comeOut_r2 _ (List.mem_of_getElem? (i := 11) rfl)), List.forall_mem_cons.mpr ⟨(pl_wsX6_comeOut_wsX6_comeOut_r2 _ (List.mem_of_getElem? (i := 12) rfl)), List.forall_mem_cons.mpr ⟨(pl_wsX6_comeOut_wsX6_comeOut_r2 _ (List.mem_of_getElem? (i := 13) rfl)), List.forall_mem_cons.mpr ⟨(pl_wsX6_comeOut_wsX6_comeOut_r2 _ (List.mem_of_getElem? (i := 14) rfl)), List.forall_mem_cons.mpr ⟨(pl_wsX6_comeOut_wsX6_comeOut_r2 _ (List.mem_of_getElem? (i := 15) rfl)), List.forall_mem_cons.mpr ⟨(pl_wsX6_comeOut_wsX6_comeOut_r2 _ (List.mem_of_getElem? (i := 16) rfl)), List.forall_mem_cons.mpr ⟨(pl_wsX6_comeOut_wsX6_comeOut_r2 _ (List.mem_of_getElem? (i := 17) rfl)), List.forall_mem_cons.mpr ⟨(pl_wsX6_comeOut_wsX6_comeOut_r2 _ (List.mem_of_getElem? (i := 18) rfl)), List.forall_mem_cons.mpr ⟨(pl_wsX6_comeOut_wsX6_comeOut_r2 _ (List.mem_of_getElem? (i := 19) rfl)), List.forall_mem_cons.mpr ⟨(pl_wsX6_comeOut_wsX6_comeOut_r2 _ (List.mem_of_getElem? (i := 20) rfl)), List.forall_mem_cons.mpr ⟨(pl_wsX6_comeOut_wsX6_comeOut_r2 _ (List.mem_of_getElem? (i := 21) rfl)), List.forall_mem_cons.mpr ⟨(pl_wsX6_comeOut_wsX6_comeOut_r2 _ (List.mem_of_getElem? (i := 22) rfl)), List.forall_mem_cons.mpr ⟨(pl_wsX6_comeOut_wsX6_comeOut_r2 _ (List.mem_of_getElem? (i := 23) rfl)), List.forall_mem_cons.mpr ⟨(pl_wsX6_comeOut_wsX6_comeOut_r3 _ (List.mem_of_getElem? (i := 0) rfl)), List.forall_mem_cons.mpr ⟨(pl_wsX6_comeOut_wsX6_comeOut_r3 _ (List.mem_of_getElem? (i := 1) rfl)), List.forall_mem_cons.mpr ⟨(pl_wsX6_comeOut_wsX6_comeOut_r3 _ (List.mem_of_getElem? (i := 2) rfl)), List.forall_mem_cons.mpr ⟨(pl_wsX6_comeOut_wsX6_comeOut_r3 _ (List.mem_of_getElem? (i := 3) rfl)), List.forall_mem_cons.mpr ⟨(pl_wsX6_comeOut_wsX6_comeOut_r3 _ (List.mem_of_getElem? (i := 4) rfl)), List.forall_mem_cons.mpr ⟨(pl_wsX6_comeOut_wsX6_comeOut_r3 _ (List.mem_of_getElem? (i := 5) rfl)), List.forall_mem_cons.mpr ⟨(pl_wsX6_comeOut_wsX6_comeOut_r3 _ (List.mem_of_getElem? (i := 6) rfl)), List.forall_mem_cons.mpr ⟨(pl_wsX6_comeOut_wsX6_comeOut_r3 _ (List.mem_of_getElem? (i := 7) rfl)), List.forall_mem_cons.mpr ⟨(pl_wsX6_comeOut_wsX6_comeOut_r3 _ (List.mem_of_getElem? (i := 8) rfl)), fun _ h => absurd h List.not_mem_nil⟩⟩⟩⟩⟩⟩⟩⟩⟩⟩⟩⟩⟩⟩⟩⟩⟩⟩⟩⟩⟩⟩⟩⟩) w) ((List.forall_mem_cons.mpr ⟨(pl_wsX6_comeOut_wsX6_comeOut_r3 _ (List.mem_of_getElem? (i := 9) rfl)), List.forall_mem_cons.mpr ⟨(pl_wsX6_comeOut_wsX6_comeOut_r3 _ (List.mem_of_getElem? (i := 10) rfl)), List.forall_mem_cons.mpr ⟨(pl_wsX6_comeOut_wsX6_comeOut_r3 _ (List.mem_of_getElem? (i := 11) rfl)), List.forall_mem_cons.mpr ⟨(pl_wsX6_comeOut_wsX6_comeOut_r3 _ (List.mem_of_getElem? (i := 12) rfl)), List.forall_mem_cons.mpr ⟨(pl_wsX6_comeOut_wsX6_comeOut_r3 _ (List.mem_of_getElem? (i := 13) rfl)), List.forall_mem_cons.mpr ⟨(pl_wsX6_comeOut_wsX6_comeOut_r3 _ (List.mem_of_getElem? (i := 14) rfl)), List.forall_mem_cons.mpr ⟨(pl_wsX6_comeOut_wsX6_comeOut_r3 _ (List.mem_of_getElem? (i := 15) rfl)), List.forall_mem_cons.mpr ⟨(pl_wsX6_comeOut_wsX6_comeOut_r3 _ (List.mem_of_getElem? (i := 16) rfl)), fun _ h => absurd h List.not_mem_nil⟩⟩⟩⟩⟩⟩⟩⟩) w)) w)) w) (pl_wsX6_comeOut_wsX60 w))⟩) (by decide +kernel)
set_option maxRecDepth 20000 in
theorem gX6_comeOut_X6_go : GoodIn wsX6_comeOut (wsV RX6 223 RX6 yX6_go wsX6_go) := goodIn_app (goodIn_sub (List.forall_mem_cons.mpr ⟨(pl_wsX6_comeOut_wsX6_comeOut_r1 _ (List.mem_of_getElem? (i := 8) rfl)), List.forall_mem_cons.mpr ⟨(pl_wsX6_comeOut_wsX6_comeOut_r1 _ (List.mem_of_getElem? (i := 9) rfl)), List.forall_mem_cons.mpr ⟨(pl_wsX6_comeOut_wsX6_comeOut_r1 _ (List.mem_of_getElem? (i := 10) rfl)), List.forall_mem_cons.mpr ⟨(pl_wsX6_comeOut_wsX6_comeOut_r1 _ (List.mem_of_getElem? (i := 5) rfl)), fun _ h => absurd h List.not_mem_nil⟩⟩⟩⟩) (by decide +kernel)) ggX6_comeOut_X6_go
theorem dX6_comeOut_0 : decode cX6_comeOut 0 = .ok (.iconst 0, 1) := by decide +kernel
theorem dX6_comeOut_1 : decode cX6_comeOut 1 = .ok (.istore_n 2, 1) := by decide +kernel
theorem dX6_comeOut_2 : decode cX6_comeOut 2 = .ok (.iload_n 2, 1) := by decide +kernel
theorem dX6_comeOut_3 : decode cX6_comeOut 3 = .ok (.aload_n 0, 1) := by decide +kernel
theorem dX6_comeOut_4 : decode cX6_comeOut 4 = .ok (.invokevirtual 84, 3) := by decide +kernel
theorem dX6_comeOut_7 : decode cX6_comeOut 7 = .ok (.if_icmp .ge 27, 3) := by decide +kernel
theorem dX6_comeOut_10 : decode cX6_comeOut 10 = .ok (.aload_n 0, 1) := by decide +kernel
theorem dX6_comeOut_11 : decode cX6_comeOut 11 = .ok (.iload_n 2, 1) := by decide +kernel
theorem dX6_comeOut_12 : decode cX6_comeOut 12 = .ok (.iload_n 1, 1) := by decide +kernel
theorem dX6_comeOut_13 : decode cX6_comeOut 13 = .ok (.invokevirtual 223, 3) := by decide +kernel
theorem dX6_comeOut_16 : decode cX6_comeOut 16 = .ok (.aload_n 0, 1) := by decide +kernel
theorem dX6_comeOut_17 : decode cX6_comeOut 17 = .ok (.getfield 70, 3) := by decide +kernel
theorem dX6_comeOut_20 : decode cX6_comeOut 20 = .ok (.iload_n 2, 1) := by decide +kernel
theorem dX6_comeOut_21 : decode cX6_comeOut 21 = .ok (.aload_n 0, 1) := by decide +kernel
theorem dX6_comeOut_22 : decode cX6_comeOut 22 = .ok (.getfield 33, 3) := by decide +kernel
theorem dX6_comeOut_25 : decode cX6_comeOut 25 = .ok (.iconst 0, 1) := by decide +kernel
theorem dX6_comeOut_26 : decode cX6_comeOut 26 = .ok (.iaload, 1) := by decide +kernel
theorem dX6_comeOut_27 : decode cX6_comeOut 27 = .ok (.iastore, 1) := by decide +kernel
theorem dX6_comeOut_28 : decode cX6_comeOut 28 = .ok (.iinc 2 1, 3) := by decide +kernel
theorem dX6_comeOut_31 : decode cX6_comeOut 31 = .ok (.goto (-29), 3) := by decide +kernel
theorem dX6_comeOut_34 : decode cX6_comeOut 34 = .ok (.return_, 1) := by decide +kernel
set_option maxRecDepth 20000 in
theorem pl_wsX6_outIn_wsX60 : ∀ w ∈ wsX60, w ∈ wsX6_outIn := fun _ h => List.mem_cons_of_mem _ (List.mem_append_right _ (h))
theorem ggX6_outIn_X6_many : GoodIn wsX6_outIn wsX6_many := goodIn_sub (List.forall_mem_cons.mpr ⟨(List.mem_cons_of_mem _ (List.mem_append_left _ (List.mem_of_getElem? (i := 5) rfl))), (fun w h => (List.mem_append.mp h).elim ((List.forall_mem_cons.mpr ⟨(List.mem_cons_of_mem _ (List.mem_append_left _ (List.mem_of_getElem? (i := 6) rfl))), fun _ h => absurd h List.not_mem_nil⟩) w) (pl_wsX6_outIn_wsX60 w))⟩) (by decide +kernel)
set_option maxRecDepth 20000 in
theorem gX6_outIn_X6_many : GoodIn wsX6_outIn (wsV RX6 84 RX6 yX6_many wsX6_many) := goodIn_app (goodIn_sub (List.forall_mem_cons.mpr ⟨(List.mem_cons_of_mem _ (List.mem_append_left _ (List.mem_of_getElem? (i := 1) rfl))), List.forall_mem_cons.mpr ⟨(List.mem_cons_of_mem _ (List.mem_append_left _ (List.mem_of_getElem? (i := 2) rfl))), List.forall_mem_cons.mpr ⟨(List.mem_cons_of_mem _ (List.mem_append_left _ (List.mem_of_getElem? (i := 3) rfl))), List.forall_mem_cons.mpr ⟨(List.mem_cons_of_mem _ (List.mem_append_left _ (List.mem_of_getElem? (i := 4) rfl))), fun _ h => absurd h List.not_mem_nil⟩⟩⟩⟩) (by decide +kernel)) ggX6_outIn_X6_many
theorem dX6_outIn_0 : decode cX6_outIn 0 = .ok (.iconst 0, 1) := by decide +kernel
theorem dX6_outIn_1 : decode cX6_outIn 1 = .ok (.istore_n 2, 1) := by decide +kernel
theorem dX6_outIn_2 : decode cX6_outIn 2 = .ok (.iconst 0, 1) := by decide +kernel
theorem dX6_outIn_3 : decode cX6_outIn 3 = .ok (.istore_n 3, 1) := by decide +kernel
theorem dX6_outIn_4 : decode cX6_outIn 4 = .ok (.iload_n 3, 1) := by decide +kernel
theorem dX6_outIn_5 : decode cX6_outIn 5 = .ok (.aload_n 0, 1) := by decide +kernel
theorem dX6_outIn_6 : decode cX6_outIn 6 = .ok (.invokevirtual 84, 3) := by decide +kernel
theorem dX6_outIn_9 : decode cX6_outIn 9 = .ok (.if_icmp .ge 27, 3) := by decide +kernel
theorem dX6_outIn_12 : decode cX6_outIn 12 = .ok (.iload_n 2, 1) := by decide +kernel
theorem dX6_outIn_13 : decode cX6_outIn 13 = .ok (.aload_n 0, 1) := by decide +kernel
theorem dX6_outIn_14 : decode cX6_outIn 14 = .ok (.getfield 70, 3) := by decide +kernel
theorem dX6_outIn_17 : decode cX6_outIn 17 = .ok (.iload_n 3, 1) := by decide +kernel
theorem dX6_outIn_18 : decode cX6_outIn 18 = .ok (.iaload, 1) := by decide +kernel
theorem dX6_outIn_19 : decode cX6_outIn 19 = .ok (.iload_n 1, 1) := by decide +kernel
theorem dX6_outIn_20 : decode cX6_outIn 20 = .ok (.if_icmp .ne 7, 3) := by decide +kernel
theorem dX6_outIn_23 : decode cX6_outIn 23 = .ok (.iconst 1, 1) := by decide +kernel
theorem dX6_outIn_24 : decode cX6_outIn 24 = .ok (.goto 4, 3) := by decide +kernel
theorem dX6_outIn_27 : decode cX6_outIn 27 = .ok (.iconst 0, 1) := by decide +kernel
theorem dX6_outIn_28 : decode cX6_outIn 28 = .ok (.iadd, 1) := by decide +kernel
theorem dX6_outIn_29 : decode cX6_outIn 29 = .ok (.istore_n 2, 1) := by decide +kernel
theorem dX6_outIn_30 : decode cX6_outIn 30 = .ok (.iinc 3 1, 3) := by decide +kernel
theorem dX6_outIn_33 : decode cX6_outIn 33 = .ok (.goto (-29), 3) := by decide +kernel
theorem dX6_outIn_36 : decode cX6_outIn 36 = .ok (.iload_n 2, 1) := by decide +kernel
theorem dX6_outIn_37 : decode cX6_outIn 37 = .ok (.ireturn, 1) := by decide +kernel
set_option maxRecDepth 20000 in
theorem pl_wsX6_crowd_wsX6_crowd_r1 : ∀ w ∈ wsX6_crowd_r1, w ∈ wsX6_crowd := fun _ h => List.mem_cons_of_mem _ (List.mem_append_left _ (List.mem_append_left _ (h)))
theorem ggX6_crowd_X6_isIn : GoodIn wsX6_crowd wsX6_isIn := goodIn_sub (List.forall_mem_cons.mpr ⟨(pl_wsX6_crowd_wsX6_crowd_r1 _ (List.mem_of_getElem? (i := 3) rfl)), (fun _ h => absurd h List.not_mem_nil)⟩) (by decide +kernel)
set_option maxRecDepth 20000 in
theorem gX6_crowd_X6_isIn : GoodIn wsX6_crowd (va_wsS RX6 76 yX6_isIn wsX6_isIn) := goodIn_app (goodIn_sub (List.forall_mem_cons.mpr ⟨(pl_wsX6_crowd_wsX6_crowd_r1 _ (List.mem_of_getElem? (i := 0) rfl)), List.forall_mem_cons.mpr ⟨(pl_wsX6_crowd_wsX6_crowd_r1 _ (List.mem_of_getElem? (i := 1) rfl)), List.forall_mem_cons.mpr ⟨(pl_wsX6_crowd_wsX6_crowd_r1 _ (List.mem_of_getElem? (i := 2) rfl)), fun _ h => absurd h List.not_mem_nil⟩⟩⟩) (by decide +kernel)) ggX6_crowd_X6_isIn
set_option maxRecDepth 20000 in
theorem pl_wsX6_crowd_wsX6_crowd_r2 : ∀ w ∈ wsX6_crowd_r2, w ∈ wsX6_crowd := fun _ h => List.mem_cons_of_mem _ (List.mem_append_left _ (List.mem_append_right _ (List.mem_append_left _ (h))))
theorem pl_wsX6_crowd_wsX60 : ∀ w ∈ wsX60, w ∈ wsX6_crowd := fun _ h => List.mem_cons_of_mem _ (List.mem_append_right _ (h))
theorem ggX6_crowd_X6_loadIf : GoodIn wsX6_crowd wsX6_loadIf := goodIn_sub (List.forall_mem_cons.mpr ⟨(pl_wsX6_crowd_wsX6_crowd_r1 _ (List.mem_of_getElem? (i := 7) rfl)), (fun w h => (List.mem_append.mp h).elim ((List.forall_mem_cons.mpr ⟨(pl_wsX6_crowd_wsX6_crowd_r1 _ (List.mem_of_getElem? (i := 8) rfl)), List.forall_mem_cons.mpr ⟨(pl_wsX6_crowd_wsX6_crowd_r1 _ (List.mem_of_getElem? (i := 9) rfl)), List.forall_mem_cons.mpr ⟨(pl_wsX6_crowd_wsX6_crowd_r1 _ (List.mem_of_getElem? (i := 10) rfl)), List.forall_mem_cons.mpr ⟨(pl_wsX6_crowd_wsX6_crowd_r1 _ (List.mem_of_getElem? (i := 2) rfl)), List.forall_mem_cons.mpr ⟨(pl_wsX6_crowd_wsX6_crowd_r1 _ (List.mem_of_getElem? (i := 11) rfl)), List.forall_mem_cons.mpr ⟨(pl_wsX6_crowd_wsX6_crowd_r1 _ (List.mem_of_getElem? (i := 12) rfl)), List.forall_mem_cons.mpr ⟨(pl_wsX6_crowd_wsX6_crowd_r1 _ (List.mem_of_getElem? (i := 0) rfl)), List.forall_mem_cons.mpr ⟨(pl_wsX6_crowd_wsX6_crowd_r1 _ (List.mem_of_getElem? (i := 1) rfl)), List.forall_mem_cons.mpr ⟨(pl_wsX6_crowd_wsX6_crowd_r1 _ (List.mem_of_getElem? (i := 3) rfl)), List.forall_mem_cons.mpr ⟨(pl_wsX6_crowd_wsX6_crowd_r1 _ (List.mem_of_getElem? (i := 13) rfl)), List.forall_mem_cons.mpr ⟨(pl_wsX6_crowd_wsX6_crowd_r1 _ (List.mem_of_getElem? (i := 14) rfl)), List.forall_mem_cons.mpr ⟨(pl_wsX6_crowd_wsX6_crowd_r1 _ (List.mem_of_getElem? (i := 15) rfl)), List.forall_mem_cons.mpr ⟨(pl_wsX6_crowd_wsX6_crowd_r1 _ (List.mem_of_getElem? (i := 16) rfl)), List.forall_mem_cons.mpr ⟨(pl_wsX6_crowd_wsX6_crowd_r1 _ (List.mem_of_getElem? (i := 17) rfl)), List.forall_mem_cons.mpr ⟨(pl_wsX6_crowd_wsX6_crowd_r1 _ (List.mem_of_getElem? (i := 18) rfl)), List.forall_mem_cons.mpr ⟨(pl_wsX6_crowd_wsX6_crowd_r1 _ (List.mem_of_getElem? (i := 19) rfl)), List.forall_mem_cons.mpr ⟨(pl_wsX6_crowd_wsX6_crowd_r1 _ (List.mem_of_getElem? (i := 20) rfl)), List.forall_mem_cons.mpr ⟨(pl_wsX6_crowd_wsX6_crowd_r1 _ (List.mem_of_getElem? (i := 21) rfl)), List.forall_mem_cons.mpr ⟨(pl_wsX6_crowd_wsX6_crowd_r1 _ (List.mem_of_getElem? (i := 22) rfl)), List.forall_mem_cons.mpr ⟨(pl_wsX6_crowd_wsX6_crowd_r1 _ (List.mem_of_getElem? (i := 23) rfl)), List.forall_mem_cons.mpr ⟨(pl_wsX6_crowd_wsX6_crowd_r2 _ (List.mem_of_getElem? (i := 0) rfl)), List.forall_mem_cons.mpr ⟨(pl_wsX6_crowd_wsX6_crowd_r2 _ (List.mem_of_getElem? (i := 1) rfl)), fun _ h => absurd h List.not_mem_nil⟩⟩⟩⟩⟩⟩⟩⟩⟩⟩⟩⟩⟩⟩⟩⟩⟩⟩⟩⟩⟩⟩) w) (pl_wsX6_crowd_wsX60 w))⟩) (by decide +kernel)
set_option maxRecDepth 20000 in
theorem gX6_crowd_X6_loadIf : GoodIn wsX6_crowd (wsV RX6 219 RX6 yX6_loadIf wsX6_loadIf) := goodIn_app (goodIn_sub (List.forall_mem_cons.mpr ⟨(pl_wsX6_crowd_wsX6_crowd_r1 _ (List.mem_of_getElem? (i := 4) rfl)), List.forall_mem_cons.mpr ⟨(pl_wsX6_crowd_wsX6_crowd_r1 _ (List.mem_of_getElem? (i := 5) rfl)), List.forall_mem_cons.mpr ⟨(pl_wsX6_crowd_wsX6_crowd_r1 _ (List.mem_of_getElem? (i := 6) rfl)), List.forall_mem_cons.mpr ⟨(pl_wsX6_crowd_wsX6_crowd_r1 _ (List.mem_of_getElem? (i := 2) rfl)), fun _ h => absurd h List.not_mem_nil⟩⟩⟩⟩) (by decide +kernel)) ggX6_crowd_X6_loadIf
set_option maxRecDepth 20000 in
theorem ggX6_crowd_X6_many : GoodIn wsX6_crowd wsX6_many := goodIn_sub (List.forall_mem_cons.mpr ⟨(pl_wsX6_crowd_wsX6_crowd_r2 _ (List.mem_of_getElem? (i := 5) rfl)), (fun w h => (List.mem_append.mp h).elim ((List.forall_mem_cons.mpr ⟨(pl_wsX6_crowd_wsX6_crowd_r2 _ (List.mem_of_getElem? (i := 6) rfl)), fun _ h => absurd h List.not_mem_nil⟩) w) (pl_wsX6_crowd_wsX60 w))⟩) (by decide +kernel)
set_option maxRecDepth 20000 in
theorem gX6_crowd_X6_many : GoodIn wsX6_crowd (wsV RX6 84 RX6 yX6_many wsX6_many) := goodIn_app (goodIn_sub (List.forall_mem_cons.mpr ⟨(pl_wsX6_crowd_wsX6_crowd_r2 _ (List.mem_of_getElem? (i := 2) rfl)), List.forall_mem_cons.mpr ⟨(pl_wsX6_crowd_wsX6_crowd_r2 _ (List.mem_of_getElem? (i := 3) rfl)), List.forall_mem_cons.mpr ⟨(pl_wsX6_crowd_wsX6_crowd_r2 _ (List.mem_of_getElem? (i := 4) rfl)), List.forall_mem_cons.mpr ⟨(pl_wsX6_crowd_wsX6_crowd_r1 _ (List.mem_of_getElem? (i := 2) rfl)), fun _ h => absurd h List.not_mem_nil⟩⟩⟩⟩) (by decide +kernel)) ggX6_crowd_X6_many
set_option maxRecDepth 20000 in
theorem ggX6_crowd_X6_refuse : GoodIn wsX6_crowd wsX6_refuse := goodIn_sub (List.forall_mem_cons.mpr ⟨(pl_wsX6_crowd_wsX6_crowd_r2 _ (List.mem_of_getElem? (i := 10) rfl)), (fun w h => (List.mem_append.mp h).elim ((List.forall_mem_cons.mpr ⟨(pl_wsX6_crowd_wsX6_crowd_r2 _ (List.mem_of_getElem? (i := 11) rfl)), fun _ h => absurd h List.not_mem_nil⟩) w) (pl_wsX6_crowd_wsX60 w))⟩) (by decide +kernel)
set_option maxRecDepth 20000 in
theorem gX6_crowd_X6_refuse : GoodIn wsX6_crowd (wsV RX6 101 RX6 yX6_refuse wsX6_refuse) := goodIn_app (goodIn_sub (List.forall_mem_cons.mpr ⟨(pl_wsX6_crowd_wsX6_crowd_r2 _ (List.mem_of_getElem? (i := 7) rfl)), List.forall_mem_cons.mpr ⟨(pl_wsX6_crowd_wsX6_crowd_r2 _ (List.mem_of_getElem? (i := 8) rfl)), List.forall_mem_cons.mpr ⟨(pl_wsX6_crowd_wsX6_crowd_r2 _ (List.mem_of_getElem? (i := 9) rfl)), List.forall_mem_cons.mpr ⟨(pl_wsX6_crowd_wsX6_crowd_r1 _ (List.mem_of_getElem? (i := 2) rfl)), fun _ h => absurd h List.not_mem_nil⟩⟩⟩⟩) (by decide +kernel)) ggX6_crowd_X6_refuse
set_option maxRecDepth 20000 in
theorem pl_wsX6_crowd_wsX6_crowd_r3 : ∀ w ∈ wsX6_crowd_r3, w ∈ wsX6_crowd := fun _ h => List.mem_cons_of_mem _ (List.mem_append_left _ (List.mem_append_right _ (List.mem_append_right _ (List.mem_append_left _ (h)))))
theorem pl_wsX6_crowd_wsX6_crowd_r4 : ∀ w ∈ wsX6_crowd_r4, w ∈ wsX6_crowd := fun _ h => List.mem_cons_of_mem _ (List.mem_append_left _ (List.mem_append_right _ (List.mem_append_right _ (List.mem_append_right _ (List.mem_append_left _ (h))))))
theorem ggX6_crowd_X6_comeOut : GoodIn wsX6_crowd wsX6_comeOut := goodIn_sub (List.forall_mem_cons.mpr ⟨(pl_wsX6_crowd_wsX6_crowd_r2 _ (List.mem_of_getElem? (i := 15) rfl)), (fun w h => (List.mem_append.mp h).elim ((fun w h => (List.mem_append.mp h).elim ((List.forall_mem_cons.mpr ⟨(pl_wsX6_crowd_wsX6_crowd_r2 _ (List.mem_of_getElem? (i := 16) rfl)), List.forall_mem_cons.mpr ⟨(pl_wsX6_crowd_wsX6_crowd_r2 _ (List.mem_of_getElem? (i := 17) rfl)), List.forall_mem_cons.mpr ⟨(pl_wsX6_crowd_wsX6_crowd_r2 _ (List.mem_of_getElem? (i := 2) rfl)), List.forall_mem_cons.mpr ⟨(pl_wsX6_crowd_wsX6_crowd_r2 _ (List.mem_of_getElem? (i := 3) rfl)), List.forall_mem_cons.mpr ⟨(pl_wsX6_crowd_wsX6_crowd_r2 _ (List.mem_of_getElem? (i := 4) rfl)), List.forall_mem_cons.mpr ⟨(pl_wsX6_crowd_wsX6_crowd_r1 _ (List.mem_of_getElem? (i := 2) rfl)), List.forall_mem_cons.mpr ⟨(pl_wsX6_crowd_wsX6_crowd_r2 _ (List.mem_of_getElem? (i := 5) rfl)), List.forall_mem_cons.mpr ⟨(pl_wsX6_crowd_wsX6_crowd_r2 _ (List.mem_of_getElem? (i := 6) rfl)), List.forall_mem_cons.mpr ⟨(pl_wsX6_crowd_wsX6_crowd_r2 _ (List.mem_of_getElem? (i := 18) rfl)), List.forall_mem_cons.mpr ⟨(pl_wsX6_crowd_wsX6_crowd_r2 _ (List.mem_of_getElem? (i := 19) rfl)), List.forall_mem_cons.mpr ⟨(pl_wsX6_crowd_wsX6_crowd_r2 _ (List.mem_of_getElem? (i := 20) rfl)), List.forall_mem_cons.mpr ⟨(pl_wsX6_crowd_wsX6_crowd_r2 _ (List.mem_of_getElem? (i := 21) rfl)), List.forall_mem_cons.mpr ⟨(pl_wsX6_crowd_wsX6_crowd_r1 _ (List.mem_of_getElem? (i := 20) rfl)), List.forall_mem_cons.mpr ⟨(pl_wsX6_crowd_wsX6_crowd_r2 _ (List.mem_of_getElem? (i := 22) rfl)), List.forall_mem_cons.mpr ⟨(pl_wsX6_crowd_wsX6_crowd_r2 _ (List.mem_of_getElem? (i := 23) rfl)), List.forall_mem_cons.mpr ⟨(pl_wsX6_crowd_wsX6_crowd_r3 _ (List.mem_of_getElem? (i := 0) rfl)), List.forall_mem_cons.mpr ⟨(pl_wsX6_crowd_wsX6_crowd_r3 _ (List.mem_of_getElem? (i := 1) rfl)), List.forall_mem_cons.mpr ⟨(pl_wsX6_crowd_wsX6_crowd_r3 _ (List.mem_of_getElem? (i := 2) rfl)), List.forall_mem_cons.mpr ⟨(pl_wsX6_crowd_wsX6_crowd_r3 _ (List.mem_of_getElem? (i := 3) rfl)), List.forall_mem_cons.mpr ⟨(pl_wsX6_crowd_wsX6_crowd_r3 _ (List.mem_of_getElem? (i := 4) rfl)), List.forall_mem_cons.mpr ⟨(pl_wsX6_crowd_wsX6_crowd_r3 _ (List.mem_of_getElem? (i := 5) rfl)), List.forall_mem_cons.mpr ⟨(pl_wsX6_crowd_wsX6_crowd_r3 _ (List.mem_of_getElem? (i := 6) rfl)), List.forall_mem_cons.mpr ⟨(pl_wsX6_crowd_wsX6_crowd_r3 _ (List.mem_of_getElem? (i := 7) rfl)), List.forall_mem_cons.mpr ⟨(pl_wsX6_crowd_wsX6_crowd_r3 _ (List.mem_of_getElem? (i := 8) rfl)), fun _ h => absurd h List.not_mem_nil⟩⟩⟩⟩⟩⟩⟩⟩⟩⟩⟩⟩⟩⟩⟩⟩⟩⟩⟩⟩⟩⟩⟩⟩) w) ((fun w h => (List.mem_append.mp h).elim ((List.forall_mem_cons.mpr ⟨(pl_wsX6_crowd_wsX6_crowd_r3 _ (List.mem_of_getElem? (i := 9) rfl)), List.forall_mem_cons.mpr ⟨(pl_wsX6_crowd_wsX6_crowd_r3 _ (List.mem_of_getElem? (i := 10) rfl)), List.forall_mem_cons.mpr ⟨(pl_wsX6_crowd_wsX6_crowd_r3 _ (List.mem_of_getElem? (i := 11) rfl)), List.forall_mem_cons.mpr ⟨(pl_wsX6_crowd_wsX6_crowd_r3 _ (List.mem_of_getElem? (i := 12) rfl)), List.forall_mem_cons.mpr ⟨(pl_wsX6_crowd_wsX6_crowd_r3 _ (List.mem_of_getElem? (i := 13) rfl)), List.forall_mem_cons.mpr ⟨(pl_wsX6_crowd_wsX6_crowd_r3 _ (List.mem_of_getElem? (i := 14) rfl)), List.forall_mem_cons.mpr ⟨(pl_wsX6_crowd_wsX6_crowd_r3 _ (List.mem_of_getElem? (i := 15) rfl)), List.forall_mem_cons.mpr ⟨(pl_wsX6_crowd_wsX6_crowd_r3 _ (List.mem_of_getElem? (i := 16) rfl)), List.forall_mem_cons.mpr ⟨(pl_wsX6_crowd_wsX6_crowd_r3 _ (List.mem_of_getElem? (i := 17) rfl)), List.forall_mem_cons.mpr ⟨(pl_wsX6_crowd_wsX6_crowd_r3 _ (List.mem_of_getElem? (i := 18) rfl)), List.forall_mem_cons.mpr ⟨(pl_wsX6_crowd_wsX6_crowd_r3 _ (List.mem_of_getElem? (i := 19) rfl)), List.forall_mem_cons.mpr ⟨(pl_wsX6_crowd_wsX6_crowd_r3 _ (List.mem_of_getElem? (i := 20) rfl)), List.forall_mem_cons.mpr ⟨(pl_wsX6_crowd_wsX6_crowd_r3 _ (List.mem_of_getElem? (i := 21) rfl)), List.forall_mem_cons.mpr ⟨(pl_wsX6_crowd_wsX6_crowd_r3 _ (List.mem_of_getElem? (i := 22) rfl)), List.forall_mem_cons.mpr ⟨(pl_wsX6_crowd_wsX6_crowd_r3 _ (List.mem_of_getElem? (i := 23) rfl)), List.forall_mem_cons.mpr ⟨(pl_wsX6_crowd_wsX6_crowd_r1 _ (List.mem_of_getElem? (i := 0) rfl)), List.forall_mem_cons.mpr ⟨(pl_wsX6_crowd_wsX6_crowd_r1 _ (List.mem_of_getElem? (i := 1) rfl)), List.forall_mem_cons.mpr ⟨(pl_wsX6_crowd_wsX6_crowd_r1 _ (List.mem_of_getElem? (i := 3) rfl)), List.forall_mem_cons.mpr ⟨(pl_wsX6_crowd_wsX6_crowd_r4 _ (List.mem_of_getElem? (i := 0) rfl)), List.forall_mem_cons.mpr ⟨(pl_wsX6_crowd_wsX6_crowd_r4 _ (List.mem_of_getElem? (i := 1) rfl)), List.forall_mem_cons.mpr ⟨(pl_wsX6_crowd_wsX6_crowd_r4 _ (List.mem_of_getElem? (i := 2) rfl)), List.forall_mem_cons.mpr ⟨(pl_wsX6_crowd_wsX6_crowd_r4 _ (List.mem_of_getElem? (i := 3) rfl)), List.forall_mem_cons.mpr ⟨(pl_wsX6_crowd_wsX6_crowd_r4 _ (List.mem_of_getElem? (i := 4) rfl)), List.forall_mem_cons.mpr ⟨(pl_wsX6_crowd_wsX6_crowd_r4 _ (List.mem_of_getElem? (i := 5) rfl)), fun _ h => absurd h List.not_mem_nil⟩⟩⟩⟩⟩⟩⟩⟩⟩⟩⟩⟩⟩⟩⟩⟩⟩⟩⟩⟩⟩⟩⟩⟩) w) ((List.forall_mem_cons.mpr ⟨(pl_wsX6_crowd_wsX6_crowd_r4 _ (List.mem_of_getElem? (i := 6) rfl)), List.forall_mem_cons.mpr ⟨(pl_wsX6_crowd_wsX6_crowd_r4 _ (List.mem_of_getElem? (i := 7) rfl)), List.forall_mem_cons.mpr ⟨(pl_wsX6_crowd_wsX6_crowd_r4 _ (List.mem_of_getElem? (i := 8) rfl)), List.forall_mem_cons.mpr ⟨(pl_wsX6_crowd_wsX6_crowd_r4 _ (List.mem_of_getElem? (i := 9) rfl)), List.forall_mem_cons.mpr ⟨(pl_wsX6_crowd_wsX6_crowd_r4 _ (List.mem_of_getElem? (i := 10) rfl)), List.forall_mem_cons.mpr ⟨(pl_wsX6_crowd_wsX6_crowd_r4 _ (List.mem_of_getElem? (i := 11) rfl)), List.forall_mem_cons.mpr ⟨(pl_wsX6_crowd_wsX6_crowd_r4 _ (List.mem_of_getElem? (i := 12) rfl)), List.forall_mem_cons.mpr ⟨(pl_wsX6_crowd_wsX6_crowd_r4 _ (List.mem_of_getElem? (i := 13) rfl)), List.forall_mem_cons.mpr ⟨(pl_wsX6_crowd_wsX6_crowd_r4 _ (List.mem_of_getElem? (i := 14) rfl)), List.forall_mem_cons.mpr ⟨(pl_wsX6_crowd_wsX6_crowd_r4 _ (List.mem_of_getElem? (i := 15) rfl)), List.forall_mem_cons.mpr ⟨(pl_wsX6_crowd_wsX6_crowd_r4 _ (List.mem_of_getElem? (i := 16) rfl)), List.forall_mem_cons.mpr ⟨(pl_wsX6_crowd_wsX6_crowd_r4 _ (List.mem_of_getElem? (i := 17) rfl)), List.forall_mem_cons.mpr ⟨(pl_wsX6_crowd_wsX6_crowd_r4 _ (List.mem_of_getElem? (i := 18) rfl)), List.forall_mem_cons.mpr ⟨(pl_wsX6_crowd_wsX6_crowd_r4 _ (List.mem_of_getElem? (i := 19) rfl)), List.forall_mem_cons.mpr ⟨(pl_wsX6_crowd_wsX6_crowd_r4 _ (List.mem_of_getElem? (i := 20) rfl)), List.forall_mem_cons.mpr ⟨(pl_wsX6_crowd_wsX6_crowd_r4 _ (List.mem_of_getElem? (i := 21) rfl)), List.forall_mem_cons.mpr ⟨(pl_wsX6_crowd_wsX6_crowd_r4 _ (List.mem_of_getElem? (i := 22) rfl)), fun _ h => absurd h List.not_mem_nil⟩⟩⟩⟩⟩⟩⟩⟩⟩⟩⟩⟩⟩⟩⟩⟩⟩) w)) w)) w) (pl_wsX6_crowd_wsX60 w))⟩) (by decide +kernel)
set_option maxRecDepth 20000 in
theorem gX6_crowd_X6_comeOut : GoodIn wsX6_crowd (wsV RX6 234 RX6 yX6_comeOut wsX6_comeOut) := goodIn_app (goodIn_sub (List.forall_mem_cons.mpr ⟨(pl_wsX6_crowd_wsX6_crowd_r2 _ (List.mem_of_getElem? (i := 12) rfl)), List.forall_mem_cons.mpr ⟨(pl_wsX6_crowd_wsX6_crowd_r2 _ (List.mem_of_getElem? (i := 13) rfl)), List.forall_mem_cons.mpr ⟨(pl_wsX6_crowd_wsX6_crowd_r2 _ (List.mem_of_getElem? (i := 14) rfl)), List.forall_mem_cons.mpr ⟨(pl_wsX6_crowd_wsX6_crowd_r1 _ (List.mem_of_getElem? (i := 2) rfl)), fun _ h => absurd h List.not_mem_nil⟩⟩⟩⟩) (by decide +kernel)) ggX6_crowd_X6_comeOut
set_option maxRecDepth 20000 in
theorem pl_wsX6_crowd_wsX6_crowd_r5 : ∀ w ∈ wsX6_crowd_r5, w ∈ wsX6_crowd := fun _ h => List.mem_cons_of_mem _ (List.mem_append_left _ (List.mem_append_right _ (List.mem_append_right _ (List.mem_append_right _ (List.mem_append_right _ (h))))))
theorem ggX6_crowd_X6_outIn : GoodIn wsX6_crowd wsX6_outIn := goodIn_sub (List.forall_mem_cons.mpr ⟨(pl_wsX6_crowd_wsX6_crowd_r5 _ (List.mem_of_getElem? (i := 2) rfl)), (fun w h => (List.mem_append.mp h).elim ((List.forall_mem_cons.mpr ⟨(pl_wsX6_crowd_wsX6_crowd_r2 _ (List.mem_of_getElem? (i := 16) rfl)), List.forall_mem_cons.mpr ⟨(pl_wsX6_crowd_wsX6_crowd_r2 _ (List.mem_of_getElem? (i := 2) rfl)), List.forall_mem_cons.mpr ⟨(pl_wsX6_crowd_wsX6_crowd_r2 _ (List.mem_of_getElem? (i := 3) rfl)), List.forall_mem_cons.mpr ⟨(pl_wsX6_crowd_wsX6_crowd_r2 _ (List.mem_of_getElem? (i := 4) rfl)), List.forall_mem_cons.mpr ⟨(pl_wsX6_crowd_wsX6_crowd_r1 _ (List.mem_of_getElem? (i := 2) rfl)), List.forall_mem_cons.mpr ⟨(pl_wsX6_crowd_wsX6_crowd_r2 _ (List.mem_of_getElem? (i := 5) rfl)), List.forall_mem_cons.mpr ⟨(pl_wsX6_crowd_wsX6_crowd_r2 _ (List.mem_of_getElem? (i := 6) rfl)), fun _ h => absurd h List.not_mem_nil⟩⟩⟩⟩⟩⟩⟩) w) (pl_wsX6_crowd_wsX60 w))⟩) (by decide +kernel)
set_option maxRecDepth 20000 in
theorem gX6_crowd_X6_outIn : GoodIn wsX6_crowd (wsV RX6 238 RX6 yX6_outIn wsX6_outIn) := goodIn_app (goodIn_sub (List.forall_mem_cons.mpr ⟨(pl_wsX6_crowd_wsX6_crowd_r4 _ (List.mem_of_getElem? (i := 23) rfl)), List.forall_mem_cons.mpr ⟨(pl_wsX6_crowd_wsX6_crowd_r5 _ (List.mem_of_getElem? (i := 0) rfl)), List.forall_mem_cons.mpr ⟨(pl_wsX6_crowd_wsX6_crowd_r5 _ (List.mem_of_getElem? (i := 1) rfl)), List.forall_mem_cons.mpr ⟨(pl_wsX6_crowd_wsX6_crowd_r1 _ (List.mem_of_getElem? (i := 2) rfl)), fun _ h => absurd h List.not_mem_nil⟩⟩⟩⟩) (by decide +kernel)) ggX6_crowd_X6_outIn
theorem dX6_crowd_0 : decode cX6_crowd 0 = .ok (.aload_n 0, 1) := by decide +kernel
theorem dX6_crowd_1 : decode cX6_crowd 1 = .ok (.iload_n 3, 1) := by decide +kernel
theorem dX6_crowd_2 : decode cX6_crowd 2 = .ok (.i2l, 1) := by decide +kernel
theorem dX6_crowd_3 : decode cX6_crowd 3 = .ok (.lconst 0, 1) := by decide +kernel
theorem dX6_crowd_4 : decode cX6_crowd 4 = .ok (.lconst 1, 1) := by decide +kernel
theorem dX6_crowd_5 : decode cX6_crowd 5 = .ok (.invokestatic 76, 3) := by decide +kernel
theorem dX6_crowd_8 : decode cX6_crowd 8 = .ok (.iload_n 1, 1) := by decide +kernel
theorem dX6_crowd_9 : decode cX6_crowd 9 = .ok (.iload_n 2, 1) := by decide +kernel
theorem dX6_crowd_10 : decode cX6_crowd 10 = .ok (.invokevirtual 219, 3) := by decide +kernel
theorem dX6_crowd_13 : decode cX6_crowd 13 = .ok (.istore 4, 2) := by decide +kernel
theorem dX6_crowd_15 : decode cX6_crowd 15 = .ok (.iload 4, 2) := by decide +kernel
theorem dX6_crowd_17 : decode cX6_crowd 17 = .ok (.ifCond .lt 10, 3) := by decide +kernel
theorem dX6_crowd_20 : decode cX6_crowd 20 = .ok (.aload_n 0, 1) := by decide +kernel
theorem dX6_crowd_21 : decode cX6_crowd 21 = .ok (.invokevirtual 84, 3) := by decide +kernel
theorem dX6_crowd_24 : decode cX6_crowd 24 = .ok (.ifCond .ne 20, 3) := by decide +kernel
theorem dX6_crowd_27 : decode cX6_crowd 27 = .ok (.aload_n 0, 1) := by decide +kernel
theorem dX6_crowd_28 : decode cX6_crowd 28 = .ok (.iload 4, 2) := by decide +kernel
theorem dX6_crowd_30 : decode cX6_crowd 30 = .ok (.ifCond .ge 8, 3) := by decide +kernel
theorem dX6_crowd_33 : decode cX6_crowd 33 = .ok (.iload 4, 2) := by decide +kernel
theorem dX6_crowd_35 : decode cX6_crowd 35 = .ok (.goto 5, 3) := by decide +kernel
theorem dX6_crowd_38 : decode cX6_crowd 38 = .ok (.bipush (-5), 2) := by decide +kernel
theorem dX6_crowd_40 : decode cX6_crowd 40 = .ok (.invokevirtual 101, 3) := by decide +kernel
theorem dX6_crowd_43 : decode cX6_crowd 43 = .ok (.ireturn, 1) := by decide +kernel
theorem dX6_crowd_44 : decode cX6_crowd 44 = .ok (.aload_n 0, 1) := by decide +kernel
theorem dX6_crowd_45 : decode cX6_crowd 45 = .ok (.iload_n 2, 1) := by decide +kernel
theorem dX6_crowd_46 : decode cX6_crowd 46 = .ok (.invokevirtual 234, 3) := by decide +kernel
theorem dX6_crowd_49 : decode cX6_crowd 49 = .ok (.iconst 0, 1) := by decide +kernel
theorem dX6_crowd_50 : decode cX6_crowd 50 = .ok (.istore 5, 2) := by decide +kernel
theorem dX6_crowd_52 : decode cX6_crowd 52 = .ok (.iconst 1, 1) := by decide +kernel
theorem dX6_crowd_53 : decode cX6_crowd 53 = .ok (.istore 6, 2) := by decide +kernel
theorem dX6_crowd_55 : decode cX6_crowd 55 = .ok (.iload 6, 2) := by decide +kernel
theorem dX6_crowd_57 : decode cX6_crowd 57 = .ok (.bipush 67, 2) := by decide +kernel
theorem dX6_crowd_59 : decode cX6_crowd 59 = .ok (.if_icmp .ge 33, 3) := by decide +kernel
theorem dX6_crowd_62 : decode cX6_crowd 62 = .ok (.aload_n 0, 1) := by decide +kernel
theorem dX6_crowd_63 : decode cX6_crowd 63 = .ok (.iload 6, 2) := by decide +kernel
theorem dX6_crowd_65 : decode cX6_crowd 65 = .ok (.invokevirtual 238, 3) := by decide +kernel
theorem dX6_crowd_68 : decode cX6_crowd 68 = .ok (.aload_n 0, 1) := by decide +kernel
theorem dX6_crowd_69 : decode cX6_crowd 69 = .ok (.iload 5, 2) := by decide +kernel
theorem dX6_crowd_71 : decode cX6_crowd 71 = .ok (.invokevirtual 238, 3) := by decide +kernel
theorem dX6_crowd_74 : decode cX6_crowd 74 = .ok (.if_icmp .le 8, 3) := by decide +kernel
theorem dX6_crowd_77 : decode cX6_crowd 77 = .ok (.iload 6, 2) := by decide +kernel
theorem dX6_crowd_79 : decode cX6_crowd 79 = .ok (.goto 5, 3) := by decide +kernel
theorem dX6_crowd_82 : decode cX6_crowd 82 = .ok (.iload 5, 2) := by decide +kernel
theorem dX6_crowd_84 : decode cX6_crowd 84 = .ok (.istore 5, 2) := by decide +kernel
theorem dX6_crowd_86 : decode cX6_crowd 86 = .ok (.iinc 6 1, 3) := by decide +kernel
theorem dX6_crowd_89 : decode cX6_crowd 89 = .ok (.goto (-34), 3) := by decide +kernel
theorem dX6_crowd_92 : decode cX6_crowd 92 = .ok (.iload_n 3, 1) := by decide +kernel
theorem dX6_crowd_93 : decode cX6_crowd 93 = .ok (.ifCond .ne 8, 3) := by decide +kernel
theorem dX6_crowd_96 : decode cX6_crowd 96 = .ok (.iload 5, 2) := by decide +kernel
theorem dX6_crowd_98 : decode cX6_crowd 98 = .ok (.goto 9, 3) := by decide +kernel
theorem dX6_crowd_101 : decode cX6_crowd 101 = .ok (.aload_n 0, 1) := by decide +kernel
theorem dX6_crowd_102 : decode cX6_crowd 102 = .ok (.iload 5, 2) := by decide +kernel
theorem dX6_crowd_104 : decode cX6_crowd 104 = .ok (.invokevirtual 238, 3) := by decide +kernel
theorem dX6_crowd_107 : decode cX6_crowd 107 = .ok (.ireturn, 1) := by decide +kernel
set_option maxRecDepth 20000 in
theorem pl_wsX6_lonely_wsX6_lonely_r1 : ∀ w ∈ wsX6_lonely_r1, w ∈ wsX6_lonely := fun _ h => List.mem_cons_of_mem _ (List.mem_append_left _ (List.mem_append_left _ (h)))
theorem pl_wsX6_lonely_wsX6_lonely_r2 : ∀ w ∈ wsX6_lonely_r2, w ∈ wsX6_lonely := fun _ h => List.mem_cons_of_mem _ (List.mem_append_left _ (List.mem_append_right _ (List.mem_append_left _ (h))))
theorem pl_wsX6_lonely_wsX60 : ∀ w ∈ wsX60, w ∈ wsX6_lonely := fun _ h => List.mem_cons_of_mem _ (List.mem_append_right _ (h))
theorem ggX6_lonely_X6_loadIf : GoodIn wsX6_lonely wsX6_loadIf := goodIn_sub (List.forall_mem_cons.mpr ⟨(pl_wsX6_lonely_wsX6_lonely_r1 _ (List.mem_of_getElem? (i := 5) rfl)), (fun w h => (List.mem_append.mp h).elim ((List.forall_mem_cons.mpr ⟨(pl_wsX6_lonely_wsX6_lonely_r1 _ (List.mem_of_getElem? (i := 6) rfl)), List.forall_mem_cons.mpr ⟨(pl_wsX6_lonely_wsX6_lonely_r1 _ (List.mem_of_getElem? (i := 7) rfl)), List.forall_mem_cons.mpr ⟨(pl_wsX6_lonely_wsX6_lonely_r1 _ (List.mem_of_getElem? (i := 8) rfl)), List.forall_mem_cons.mpr ⟨(pl_wsX6_lonely_wsX6_lonely_r1 _ (List.mem_of_getElem? (i := 4) rfl)), List.forall_mem_cons.mpr ⟨(pl_wsX6_lonely_wsX6_lonely_r1 _ (List.mem_of_getElem? (i := 9) rfl)), List.forall_mem_cons.mpr ⟨(pl_wsX6_lonely_wsX6_lonely_r1 _ (List.mem_of_getElem? (i := 10) rfl)), List.forall_mem_cons.mpr ⟨(pl_wsX6_lonely_wsX6_lonely_r1 _ (List.mem_of_getElem? (i := 11) rfl)), List.forall_mem_cons.mpr ⟨(pl_wsX6_lonely_wsX6_lonely_r1 _ (List.mem_of_getElem? (i := 12) rfl)), List.forall_mem_cons.mpr ⟨(pl_wsX6_lonely_wsX6_lonely_r1 _ (List.mem_of_getElem? (i := 13) rfl)), List.forall_mem_cons.mpr ⟨(pl_wsX6_lonely_wsX6_lonely_r1 _ (List.mem_of_getElem? (i := 14) rfl)), List.forall_mem_cons.mpr ⟨(pl_wsX6_lonely_wsX6_lonely_r1 _ (List.mem_of_getElem? (i := 15) rfl)), List.forall_mem_cons.mpr ⟨(pl_wsX6_lonely_wsX6_lonely_r1 _ (List.mem_of_getElem? (i := 16) rfl)), List.forall_mem_cons.mpr ⟨(pl_wsX6_lonely_wsX6_lonely_r1 _ (List.mem_of_getElem? (i := 17) rfl)), List.forall_mem_cons.mpr ⟨(pl_wsX6_lonely_wsX6_lonely_r1 _ (List.mem_of_getElem? (i := 18) rfl)), List.forall_mem_cons.mpr ⟨(pl_wsX6_lonely_wsX6_lonely_r1 _ (List.mem_of_getElem? (i := 19) rfl)), List.forall_mem_cons.mpr ⟨(pl_wsX6_lonely_wsX6_lonely_r1 _ (List.mem_of_getElem? (i := 20) rfl)), List.forall_mem_cons.mpr ⟨(pl_wsX6_lonely_wsX6_lonely_r1 _ (List.mem_of_getElem? (i := 21) rfl)), List.forall_mem_cons.mpr ⟨(pl_wsX6_lonely_wsX6_lonely_r1 _ (List.mem_of_getElem? (i := 22) rfl)), List.forall_mem_cons.mpr ⟨(pl_wsX6_lonely_wsX6_lonely_r1 _ (List.mem_of_getElem? (i := 23) rfl)), List.forall_mem_cons.mpr ⟨(pl_wsX6_lonely_wsX6_lonely_r2 _ (List.mem_of_getElem? (i := 0) rfl)), List.forall_mem_cons.mpr ⟨(pl_wsX6_lonely_wsX6_lonely_r2 _ (List.mem_of_getElem? (i := 1) rfl)), List.forall_mem_cons.mpr ⟨(pl_wsX6_lonely_wsX6_lonely_r2 _ (List.mem_of_getElem? (i := 2) rfl)), fun _ h => absurd h List.not_mem_nil⟩⟩⟩⟩⟩⟩⟩⟩⟩⟩⟩⟩⟩⟩⟩⟩⟩⟩⟩⟩⟩⟩) w) (pl_wsX6_lonely_wsX60 w))⟩) (by decide +kernel)
set_option maxRecDepth 20000 in
theorem gX6_lonely_X6_loadIf : GoodIn wsX6_lonely (wsV RX6 219 RX6 yX6_loadIf wsX6_loadIf) := goodIn_app (goodIn_sub (List.forall_mem_cons.mpr ⟨(pl_wsX6_lonely_wsX6_lonely_r1 _ (List.mem_of_getElem? (i := 1) rfl)), List.forall_mem_cons.mpr ⟨(pl_wsX6_lonely_wsX6_lonely_r1 _ (List.mem_of_getElem? (i := 2) rfl)), List.forall_mem_cons.mpr ⟨(pl_wsX6_lonely_wsX6_lonely_r1 _ (List.mem_of_getElem? (i := 3) rfl)), List.forall_mem_cons.mpr ⟨(pl_wsX6_lonely_wsX6_lonely_r1 _ (List.mem_of_getElem? (i := 4) rfl)), fun _ h => absurd h List.not_mem_nil⟩⟩⟩⟩) (by decide +kernel)) ggX6_lonely_X6_loadIf
set_option maxRecDepth 20000 in
theorem ggX6_lonely_X6_refuse : GoodIn wsX6_lonely wsX6_refuse := goodIn_sub (List.forall_mem_cons.mpr ⟨(pl_wsX6_lonely_wsX6_lonely_r2 _ (List.mem_of_getElem? (i := 6) rfl)), (fun w h => (List.mem_append.mp h).elim ((List.forall_mem_cons.mpr ⟨(pl_wsX6_lonely_wsX6_lonely_r2 _ (List.mem_of_getElem? (i := 7) rfl)), fun _ h => absurd h List.not_mem_nil⟩) w) (pl_wsX6_lonely_wsX60 w))⟩) (by decide +kernel)
set_option maxRecDepth 20000 in
theorem gX6_lonely_X6_refuse : GoodIn wsX6_lonely (wsV RX6 101 RX6 yX6_refuse wsX6_refuse) := goodIn_app (goodIn_sub (List.forall_mem_cons.mpr ⟨(pl_wsX6_lonely_wsX6_lonely_r2 _ (List.mem_of_getElem? (i := 3) rfl)), List.forall_mem_cons.mpr ⟨(pl_wsX6_lonely_wsX6_lonely_r2 _ (List.mem_of_getElem? (i := 4) rfl)), List.forall_mem_cons.mpr ⟨(pl_wsX6_lonely_wsX6_lonely_r2 _ (List.mem_of_getElem? (i := 5) rfl)), List.forall_mem_cons.mpr ⟨(pl_wsX6_lonely_wsX6_lonely_r1 _ (List.mem_of_getElem? (i := 4) rfl)), fun _ h => absurd h List.not_mem_nil⟩⟩⟩⟩) (by decide +kernel)) ggX6_lonely_X6_refuse
set_option maxRecDepth 20000 in
theorem pl_wsX6_lonely_wsX6_lonely_r3 : ∀ w ∈ wsX6_lonely_r3, w ∈ wsX6_lonely := fun _ h => List.mem_cons_of_mem _ (List.mem_append_left _ (List.mem_append_right _ (List.mem_append_right _ (List.mem_append_left _ (h)))))
theorem pl_wsX6_lonely_wsX6_lonely_r4 : ∀ w ∈ wsX6_lonely_r4, w ∈ wsX6_lonely := fun _ h => List.mem_cons_of_mem _ (List.mem_append_left _ (List.mem_append_right _ (List.mem_append_right _ (List.mem_append_right _ (List.mem_append_left _ (h))))))
theorem ggX6_lonely_X6_comeOut : GoodIn wsX6_lonely wsX6_comeOut := goodIn_sub (List.forall_mem_cons.mpr ⟨(pl_wsX6_lonely_wsX6_lonely_r2 _ (List.mem_of_getElem? (i := 11) rfl)), (fun w h => (List.mem_append.mp h).elim ((fun w h => (List.mem_append.mp h).elim ((List.forall_mem_cons.mpr ⟨(pl_wsX6_lonely_wsX6_lonely_r1 _ (List.mem_of_getElem? (i := 0) rfl)), List.forall_mem_cons.mpr ⟨(pl_wsX6_lonely_wsX6_lonely_r2 _ (List.mem_of_getElem? (i := 12) rfl)), List.forall_mem_cons.mpr ⟨(pl_wsX6_lonely_wsX6_lonely_r2 _ (List.mem_of_getElem? (i := 13) rfl)), List.forall_mem_cons.mpr ⟨(pl_wsX6_lonely_wsX6_lonely_r2 _ (List.mem_of_getElem? (i := 14) rfl)), List.forall_mem_cons.mpr ⟨(pl_wsX6_lonely_wsX6_lonely_r2 _ (List.mem_of_getElem? (i := 15) rfl)), List.forall_mem_cons.mpr ⟨(pl_wsX6_lonely_wsX6_lonely_r1 _ (List.mem_of_getElem? (i := 4) rfl)), List.forall_mem_cons.mpr ⟨(pl_wsX6_lonely_wsX6_lonely_r2 _ (List.mem_of_getElem? (i := 16) rfl)), List.forall_mem_cons.mpr ⟨(pl_wsX6_lonely_wsX6_lonely_r2 _ (List.mem_of_getElem? (i := 17) rfl)), List.forall_mem_cons.mpr ⟨(pl_wsX6_lonely_wsX6_lonely_r2 _ (List.mem_of_getElem? (i := 18) rfl)), List.forall_mem_cons.mpr ⟨(pl_wsX6_lonely_wsX6_lonely_r2 _ (List.mem_of_getElem? (i := 19) rfl)), List.forall_mem_cons.mpr ⟨(pl_wsX6_lonely_wsX6_lonely_r2 _ (List.mem_of_getElem? (i := 20) rfl)), List.forall_mem_cons.mpr ⟨(pl_wsX6_lonely_wsX6_lonely_r2 _ (List.mem_of_getElem? (i := 21) rfl)), List.forall_mem_cons.mpr ⟨(pl_wsX6_lonely_wsX6_lonely_r1 _ (List.mem_of_getElem? (i := 21) rfl)), List.forall_mem_cons.mpr ⟨(pl_wsX6_lonely_wsX6_lonely_r2 _ (List.mem_of_getElem? (i := 22) rfl)), List.forall_mem_cons.mpr ⟨(pl_wsX6_lonely_wsX6_lonely_r2 _ (List.mem_of_getElem? (i := 23) rfl)), List.forall_mem_cons.mpr ⟨(pl_wsX6_lonely_wsX6_lonely_r3 _ (List.mem_of_getElem? (i := 0) rfl)), List.forall_mem_cons.mpr ⟨(pl_wsX6_lonely_wsX6_lonely_r3 _ (List.mem_of_getElem? (i := 1) rfl)), List.forall_mem_cons.mpr ⟨(pl_wsX6_lonely_wsX6_lonely_r3 _ (List.mem_of_getElem? (i := 2) rfl)), List.forall_mem_cons.mpr ⟨(pl_wsX6_lonely_wsX6_lonely_r3 _ (List.mem_of_getElem? (i := 3) rfl)), List.forall_mem_cons.mpr ⟨(pl_wsX6_lonely_wsX6_lonely_r3 _ (List.mem_of_getElem? (i := 4) rfl)), List.forall_mem_cons.mpr ⟨(pl_wsX6_lonely_wsX6_lonely_r3 _ (List.mem_of_getElem? (i := 5) rfl)), List.forall_mem_cons.mpr ⟨(pl_wsX6_lonely_wsX6_lonely_r3 _ (List.mem_of_getElem? (i := 6) rfl)), List.forall_mem_cons.mpr ⟨(pl_wsX6_lonely_wsX6_lonely_r3 _ (List.mem_of_getElem? (i := 7) rfl)), List.forall_mem_cons.mpr ⟨(pl_wsX6_lonely_wsX6_lonely_r3 _ (List.mem_of_getElem? (i := 8) rfl)), fun _ h => absurd h List.not_mem_nil⟩⟩⟩⟩⟩⟩⟩⟩⟩⟩⟩⟩⟩⟩⟩⟩⟩⟩⟩⟩⟩⟩⟩⟩) w) ((fun w h => (List.mem_append.mp h).elim ((List.forall_mem_cons.mpr ⟨(pl_wsX6_lonely_wsX6_lonely_r3 _ (List.mem_of_getElem? (i := 9) rfl)), List.forall_mem_cons.mpr ⟨(pl_wsX6_lonely_wsX6_lonely_r3 _ (List.mem_of_getElem? (i := 10) rfl)), List.forall_mem_cons.mpr ⟨(pl_wsX6_lonely_wsX6_lonely_r3 _ (List.mem_of_getElem? (i := 11) rfl)), List.forall_mem_cons.mpr ⟨(pl_wsX6_lonely_wsX6_lonely_r3 _ (List.mem_of_getElem? (i := 12) rfl)), List.forall_mem_cons.mpr ⟨(pl_wsX6_lonely_wsX6_lonely_r3 _ (List.mem_of_getElem? (i := 13) rfl)), List.forall_mem_cons.mpr ⟨(pl_wsX6_lonely_wsX6_lonely_r3 _ (List.mem_of_getElem? (i := 14) rfl)), List.forall_mem_cons.mpr ⟨(pl_wsX6_lonely_wsX6_lonely_r3 _ (List.mem_of_getElem? (i := 15) rfl)), List.forall_mem_cons.mpr ⟨(pl_wsX6_lonely_wsX6_lonely_r3 _ (List.mem_of_getElem? (i := 16) rfl)), List.forall_mem_cons.mpr ⟨(pl_wsX6_lonely_wsX6_lonely_r3 _ (List.mem_of_getElem? (i := 17) rfl)), List.forall_mem_cons.mpr ⟨(pl_wsX6_lonely_wsX6_lonely_r3 _ (List.mem_of_getElem? (i := 18) rfl)), List.forall_mem_cons.mpr ⟨(pl_wsX6_lonely_wsX6_lonely_r3 _ (List.mem_of_getElem? (i := 19) rfl)), List.forall_mem_cons.mpr ⟨(pl_wsX6_lonely_wsX6_lonely_r3 _ (List.mem_of_getElem? (i := 20) rfl)), List.forall_mem_cons.mpr ⟨(pl_wsX6_lonely_wsX6_lonely_r3 _ (List.mem_of_getElem? (i := 21) rfl)), List.forall_mem_cons.mpr ⟨(pl_wsX6_lonely_wsX6_lonely_r3 _ (List.mem_of_getElem? (i := 22) rfl)), List.forall_mem_cons.mpr ⟨(pl_wsX6_lonely_wsX6_lonely_r3 _ (List.mem_of_getElem? (i := 23) rfl)), List.forall_mem_cons.mpr ⟨(pl_wsX6_lonely_wsX6_lonely_r1 _ (List.mem_of_getElem? (i := 11) rfl)), List.forall_mem_cons.mpr ⟨(pl_wsX6_lonely_wsX6_lonely_r1 _ (List.mem_of_getElem? (i := 12) rfl)), List.forall_mem_cons.mpr ⟨(pl_wsX6_lonely_wsX6_lonely_r1 _ (List.mem_of_getElem? (i := 13) rfl)), List.forall_mem_cons.mpr ⟨(pl_wsX6_lonely_wsX6_lonely_r4 _ (List.mem_of_getElem? (i := 0) rfl)), List.forall_mem_cons.mpr ⟨(pl_wsX6_lonely_wsX6_lonely_r4 _ (List.mem_of_getElem? (i := 1) rfl)), List.forall_mem_cons.mpr ⟨(pl_wsX6_lonely_wsX6_lonely_r4 _ (List.mem_of_getElem? (i := 2) rfl)), List.forall_mem_cons.mpr ⟨(pl_wsX6_lonely_wsX6_lonely_r4 _ (List.mem_of_getElem? (i := 3) rfl)), List.forall_mem_cons.mpr ⟨(pl_wsX6_lonely_wsX6_lonely_r4 _ (List.mem_of_getElem? (i := 4) rfl)), List.forall_mem_cons.mpr ⟨(pl_wsX6_lonely_wsX6_lonely_r4 _ (List.mem_of_getElem? (i := 5) rfl)), fun _ h => absurd h List.not_mem_nil⟩⟩⟩⟩⟩⟩⟩⟩⟩⟩⟩⟩⟩⟩⟩⟩⟩⟩⟩⟩⟩⟩⟩⟩) w) ((List.forall_mem_cons.mpr ⟨(pl_wsX6_lonely_wsX6_lonely_r4 _ (List.mem_of_getElem? (i := 6) rfl)), List.forall_mem_cons.mpr ⟨(pl_wsX6_lonely_wsX6_lonely_r4 _ (List.mem_of_getElem? (i := 7) rfl)), List.forall_mem_cons.mpr ⟨(pl_wsX6_lonely_wsX6_lonely_r4 _ (List.mem_of_getElem? (i := 8) rfl)), List.forall_mem_cons.mpr ⟨(pl_wsX6_lonely_wsX6_lonely_r4 _ (List.mem_of_getElem? (i := 9) rfl)), List.forall_mem_cons.mpr ⟨(pl_wsX6_lonely_wsX6_lonely_r4 _ (List.mem_of_getElem? (i := 10) rfl)), List.forall_mem_cons.mpr ⟨(pl_wsX6_lonely_wsX6_lonely_r4 _ (List.mem_of_getElem? (i := 11) rfl)), List.forall_mem_cons.mpr ⟨(pl_wsX6_lonely_wsX6_lonely_r4 _ (List.mem_of_getElem? (i := 12) rfl)), List.forall_mem_cons.mpr ⟨(pl_wsX6_lonely_wsX6_lonely_r4 _ (List.mem_of_getElem? (i := 13) rfl)), List.forall_mem_cons.mpr ⟨(pl_wsX6_lonely_wsX6_lonely_r4 _ (List.mem_of_getElem? (i := 14) rfl)), List.forall_mem_cons.mpr ⟨(pl_wsX6_lonely_wsX6_lonely_r4 _ (List.mem_of_getElem? (i := 15) rfl)), List.forall_mem_cons.mpr ⟨(pl_wsX6_lonely_wsX6_lonely_r4 _ (List.mem_of_getElem? (i := 16) rfl)), List.forall_mem_cons.mpr ⟨(pl_wsX6_lonely_wsX6_lonely_r4 _ (List.mem_of_getElem? (i := 17) rfl)), List.forall_mem_cons.mpr ⟨(pl_wsX6_lonely_wsX6_lonely_r4 _ (List.mem_of_getElem? (i := 18) rfl)), List.forall_mem_cons.mpr ⟨(pl_wsX6_lonely_wsX6_lonely_r4 _ (List.mem_of_getElem? (i := 19) rfl)), List.forall_mem_cons.mpr ⟨(pl_wsX6_lonely_wsX6_lonely_r4 _ (List.mem_of_getElem? (i := 20) rfl)), List.forall_mem_cons.mpr ⟨(pl_wsX6_lonely_wsX6_lonely_r4 _ (List.mem_of_getElem? (i := 21) rfl)), List.forall_mem_cons.mpr ⟨(pl_wsX6_lonely_wsX6_lonely_r4 _ (List.mem_of_getElem? (i := 22) rfl)), fun _ h => absurd h List.not_mem_nil⟩⟩⟩⟩⟩⟩⟩⟩⟩⟩⟩⟩⟩⟩⟩⟩⟩) w)) w)) w) (pl_wsX6_lonely_wsX60 w))⟩) (by decide +kernel)
set_option maxRecDepth 20000 in
theorem gX6_lonely_X6_comeOut : GoodIn wsX6_lonely (wsV RX6 234 RX6 yX6_comeOut wsX6_comeOut) := goodIn_app (goodIn_sub (List.forall_mem_cons.mpr ⟨(pl_wsX6_lonely_wsX6_lonely_r2 _ (List.mem_of_getElem? (i := 8) rfl)), List.forall_mem_cons.mpr ⟨(pl_wsX6_lonely_wsX6_lonely_r2 _ (List.mem_of_getElem? (i := 9) rfl)), List.forall_mem_cons.mpr ⟨(pl_wsX6_lonely_wsX6_lonely_r2 _ (List.mem_of_getElem? (i := 10) rfl)), List.forall_mem_cons.mpr ⟨(pl_wsX6_lonely_wsX6_lonely_r1 _ (List.mem_of_getElem? (i := 4) rfl)), fun _ h => absurd h List.not_mem_nil⟩⟩⟩⟩) (by decide +kernel)) ggX6_lonely_X6_comeOut
set_option maxRecDepth 20000 in
theorem ggX6_lonely_X6_many : GoodIn wsX6_lonely wsX6_many := goodIn_sub (List.forall_mem_cons.mpr ⟨(pl_wsX6_lonely_wsX6_lonely_r2 _ (List.mem_of_getElem? (i := 16) rfl)), (fun w h => (List.mem_append.mp h).elim ((List.forall_mem_cons.mpr ⟨(pl_wsX6_lonely_wsX6_lonely_r2 _ (List.mem_of_getElem? (i := 17) rfl)), fun _ h => absurd h List.not_mem_nil⟩) w) (pl_wsX6_lonely_wsX60 w))⟩) (by decide +kernel)
set_option maxRecDepth 20000 in
theorem gX6_lonely_X6_many : GoodIn wsX6_lonely (wsV RX6 84 RX6 yX6_many wsX6_many) := goodIn_app (goodIn_sub (List.forall_mem_cons.mpr ⟨(pl_wsX6_lonely_wsX6_lonely_r2 _ (List.mem_of_getElem? (i := 13) rfl)), List.forall_mem_cons.mpr ⟨(pl_wsX6_lonely_wsX6_lonely_r2 _ (List.mem_of_getElem? (i := 14) rfl)), List.forall_mem_cons.mpr ⟨(pl_wsX6_lonely_wsX6_lonely_r2 _ (List.mem_of_getElem? (i := 15) rfl)), List.forall_mem_cons.mpr ⟨(pl_wsX6_lonely_wsX6_lonely_r1 _ (List.mem_of_getElem? (i := 4) rfl)), fun _ h => absurd h List.not_mem_nil⟩⟩⟩⟩) (by decide +kernel)) ggX6_lonely_X6_many
set_option maxRecDepth 20000 in
theorem pl_wsX6_lonely_wsX6_lonely_r5 : ∀ w ∈ wsX6_lonely_r5, w ∈ wsX6_lonely := fun _ h => List.mem_cons_of_mem _ (List.mem_append_left _ (List.mem_append_right _ (List.mem_append_right _ (List.mem_append_right _ (List.mem_append_right _ (h))))))
theorem ggX6_lonely_X6_outIn : GoodIn wsX6_lonely wsX6_outIn := goodIn_sub (List.forall_mem_cons.mpr ⟨(pl_wsX6_lonely_wsX6_lonely_r5 _ (List.mem_of_getElem? (i := 2) rfl)), (fun w h => (List.mem_append.mp h).elim ((List.forall_mem_cons.mpr ⟨(pl_wsX6_lonely_wsX6_lonely_r1 _ (List.mem_of_getElem? (i := 0) rfl)), List.forall_mem_cons.mpr ⟨(pl_wsX6_lonely_wsX6_lonely_r2 _ (List.mem_of_getElem? (i := 13) rfl)), List.forall_mem_cons.mpr ⟨(pl_wsX6_lonely_wsX6_lonely_r2 _ (List.mem_of_getElem? (i := 14) rfl)), List.forall_mem_cons.mpr ⟨(pl_wsX6_lonely_wsX6_lonely_r2 _ (List.mem_of_getElem? (i := 15) rfl)), List.forall_mem_cons.mpr ⟨(pl_wsX6_lonely_wsX6_lonely_r1 _ (List.mem_of_getElem? (i := 4) rfl)), List.forall_mem_cons.mpr ⟨(pl_wsX6_lonely_wsX6_lonely_r2 _ (List.mem_of_getElem? (i := 16) rfl)), List.forall_mem_cons.mpr ⟨(pl_wsX6_lonely_wsX6_lonely_r2 _ (List.mem_of_getElem? (i := 17) rfl)), fun _ h => absurd h List.not_mem_nil⟩⟩⟩⟩⟩⟩⟩) w) (pl_wsX6_lonely_wsX60 w))⟩) (by decide +kernel)
set_option maxRecDepth 20000 in
theorem gX6_lonely_X6_outIn : GoodIn wsX6_lonely (wsV RX6 238 RX6 yX6_outIn wsX6_outIn) := goodIn_app (goodIn_sub (List.forall_mem_cons.mpr ⟨(pl_wsX6_lonely_wsX6_lonely_r4 _ (List.mem_of_getElem? (i := 23) rfl)), List.forall_mem_cons.mpr ⟨(pl_wsX6_lonely_wsX6_lonely_r5 _ (List.mem_of_getElem? (i := 0) rfl)), List.forall_mem_cons.mpr ⟨(pl_wsX6_lonely_wsX6_lonely_r5 _ (List.mem_of_getElem? (i := 1) rfl)), List.forall_mem_cons.mpr ⟨(pl_wsX6_lonely_wsX6_lonely_r1 _ (List.mem_of_getElem? (i := 4) rfl)), fun _ h => absurd h List.not_mem_nil⟩⟩⟩⟩) (by decide +kernel)) ggX6_lonely_X6_outIn
theorem dX6_lonely_0 : decode cX6_lonely 0 = .ok (.aload_n 0, 1) := by decide +kernel
theorem dX6_lonely_1 : decode cX6_lonely 1 = .ok (.iconst 1, 1) := by decide +kernel
theorem dX6_lonely_2 : decode cX6_lonely 2 = .ok (.iload_n 1, 1) := by decide +kernel
theorem dX6_lonely_3 : decode cX6_lonely 3 = .ok (.iload_n 2, 1) := by decide +kernel
theorem dX6_lonely_4 : decode cX6_lonely 4 = .ok (.invokevirtual 219, 3) := by decide +kernel
theorem dX6_lonely_7 : decode cX6_lonely 7 = .ok (.istore_n 3, 1) := by decide +kernel
theorem dX6_lonely_8 : decode cX6_lonely 8 = .ok (.iload_n 3, 1) := by decide +kernel
theorem dX6_lonely_9 : decode cX6_lonely 9 = .ok (.ifCond .ge 9, 3) := by decide +kernel
theorem dX6_lonely_12 : decode cX6_lonely 12 = .ok (.aload_n 0, 1) := by decide +kernel
theorem dX6_lonely_13 : decode cX6_lonely 13 = .ok (.iload_n 3, 1) := by decide +kernel
theorem dX6_lonely_14 : decode cX6_lonely 14 = .ok (.invokevirtual 101, 3) := by decide +kernel
theorem dX6_lonely_17 : decode cX6_lonely 17 = .ok (.ireturn, 1) := by decide +kernel
theorem dX6_lonely_18 : decode cX6_lonely 18 = .ok (.aload_n 0, 1) := by decide +kernel
theorem dX6_lonely_19 : decode cX6_lonely 19 = .ok (.iload_n 2, 1) := by decide +kernel
theorem dX6_lonely_20 : decode cX6_lonely 20 = .ok (.invokevirtual 234, 3) := by decide +kernel
theorem dX6_lonely_23 : decode cX6_lonely 23 = .ok (.iconst 0, 1) := by decide +kernel
theorem dX6_lonely_24 : decode cX6_lonely 24 = .ok (.istore 4, 2) := by decide +kernel
theorem dX6_lonely_26 : decode cX6_lonely 26 = .ok (.iconst 0, 1) := by decide +kernel
theorem dX6_lonely_27 : decode cX6_lonely 27 = .ok (.istore 5, 2) := by decide +kernel
theorem dX6_lonely_29 : decode cX6_lonely 29 = .ok (.iload 5, 2) := by decide +kernel
theorem dX6_lonely_31 : decode cX6_lonely 31 = .ok (.aload_n 0, 1) := by decide +kernel
theorem dX6_lonely_32 : decode cX6_lonely 32 = .ok (.invokevirtual 84, 3) := by decide +kernel
theorem dX6_lonely_35 : decode cX6_lonely 35 = .ok (.if_icmp .ge 37, 3) := by decide +kernel
theorem dX6_lonely_38 : decode cX6_lonely 38 = .ok (.iload 4, 2) := by decide +kernel
theorem dX6_lonely_40 : decode cX6_lonely 40 = .ok (.aload_n 0, 1) := by decide +kernel
theorem dX6_lonely_41 : decode cX6_lonely 41 = .ok (.aload_n 0, 1) := by decide +kernel
theorem dX6_lonely_42 : decode cX6_lonely 42 = .ok (.getfield 70, 3) := by decide +kernel
theorem dX6_lonely_45 : decode cX6_lonely 45 = .ok (.iload 5, 2) := by decide +kernel
theorem dX6_lonely_47 : decode cX6_lonely 47 = .ok (.iaload, 1) := by decide +kernel
theorem dX6_lonely_48 : decode cX6_lonely 48 = .ok (.invokevirtual 238, 3) := by decide +kernel
theorem dX6_lonely_51 : decode cX6_lonely 51 = .ok (.iconst 1, 1) := by decide +kernel
theorem dX6_lonely_52 : decode cX6_lonely 52 = .ok (.if_icmp .ne 10, 3) := by decide +kernel
theorem dX6_lonely_55 : decode cX6_lonely 55 = .ok (.iconst 1, 1) := by decide +kernel
theorem dX6_lonely_56 : decode cX6_lonely 56 = .ok (.iload 5, 2) := by decide +kernel
theorem dX6_lonely_58 : decode cX6_lonely 58 = .ok (.ishl, 1) := by decide +kernel
theorem dX6_lonely_59 : decode cX6_lonely 59 = .ok (.goto 4, 3) := by decide +kernel
theorem dX6_lonely_62 : decode cX6_lonely 62 = .ok (.iconst 0, 1) := by decide +kernel
theorem dX6_lonely_63 : decode cX6_lonely 63 = .ok (.ior, 1) := by decide +kernel
theorem dX6_lonely_64 : decode cX6_lonely 64 = .ok (.istore 4, 2) := by decide +kernel
theorem dX6_lonely_66 : decode cX6_lonely 66 = .ok (.iinc 5 1, 3) := by decide +kernel
theorem dX6_lonely_69 : decode cX6_lonely 69 = .ok (.goto (-40), 3) := by decide +kernel
theorem dX6_lonely_72 : decode cX6_lonely 72 = .ok (.iload 4, 2) := by decide +kernel
theorem dX6_lonely_74 : decode cX6_lonely 74 = .ok (.ireturn, 1) := by decide +kernel
set_option maxRecDepth 20000 in
theorem pl_wsX6_firstFall_wsX6_firstFall_r1 : ∀ w ∈ wsX6_firstFall_r1, w ∈ wsX6_firstFall := fun _ h => List.mem_cons_of_mem _ (List.mem_append_left _ (List.mem_append_left _ (h)))
theorem pl_wsX6_firstFall_wsX6_firstFall_r2 : ∀ w ∈ wsX6_firstFall_r2, w ∈ wsX6_firstFall := fun _ h => List.mem_cons_of_mem _ (List.mem_append_left _ (List.mem_append_right _ (List.mem_append_left _ (h))))
theorem pl_wsX6_firstFall_wsX60 : ∀ w ∈ wsX60, w ∈ wsX6_firstFall := fun _ h => List.mem_cons_of_mem _ (List.mem_append_right _ (h))
theorem ggX6_firstFall_X6_loadIf : GoodIn wsX6_firstFall wsX6_loadIf := goodIn_sub (List.forall_mem_cons.mpr ⟨(pl_wsX6_firstFall_wsX6_firstFall_r1 _ (List.mem_of_getElem? (i := 5) rfl)), (fun w h => (List.mem_append.mp h).elim ((List.forall_mem_cons.mpr ⟨(pl_wsX6_firstFall_wsX6_firstFall_r1 _ (List.mem_of_getElem? (i := 6) rfl)), List.forall_mem_cons.mpr ⟨(pl_wsX6_firstFall_wsX6_firstFall_r1 _ (List.mem_of_getElem? (i := 7) rfl)), List.forall_mem_cons.mpr ⟨(pl_wsX6_firstFall_wsX6_firstFall_r1 _ (List.mem_of_getElem? (i := 8) rfl)), List.forall_mem_cons.mpr ⟨(pl_wsX6_firstFall_wsX6_firstFall_r1 _ (List.mem_of_getElem? (i := 4) rfl)), List.forall_mem_cons.mpr ⟨(pl_wsX6_firstFall_wsX6_firstFall_r1 _ (List.mem_of_getElem? (i := 9) rfl)), List.forall_mem_cons.mpr ⟨(pl_wsX6_firstFall_wsX6_firstFall_r1 _ (List.mem_of_getElem? (i := 10) rfl)), List.forall_mem_cons.mpr ⟨(pl_wsX6_firstFall_wsX6_firstFall_r1 _ (List.mem_of_getElem? (i := 11) rfl)), List.forall_mem_cons.mpr ⟨(pl_wsX6_firstFall_wsX6_firstFall_r1 _ (List.mem_of_getElem? (i := 12) rfl)), List.forall_mem_cons.mpr ⟨(pl_wsX6_firstFall_wsX6_firstFall_r1 _ (List.mem_of_getElem? (i := 13) rfl)), List.forall_mem_cons.mpr ⟨(pl_wsX6_firstFall_wsX6_firstFall_r1 _ (List.mem_of_getElem? (i := 14) rfl)), List.forall_mem_cons.mpr ⟨(pl_wsX6_firstFall_wsX6_firstFall_r1 _ (List.mem_of_getElem? (i := 15) rfl)), List.forall_mem_cons.mpr ⟨(pl_wsX6_firstFall_wsX6_firstFall_r1 _ (List.mem_of_getElem? (i := 16) rfl)), List.forall_mem_cons.mpr ⟨(pl_wsX6_firstFall_wsX6_firstFall_r1 _ (List.mem_of_getElem? (i := 17) rfl)), List.forall_mem_cons.mpr ⟨(pl_wsX6_firstFall_wsX6_firstFall_r1 _ (List.mem_of_getElem? (i := 18) rfl)), List.forall_mem_cons.mpr ⟨(pl_wsX6_firstFall_wsX6_firstFall_r1 _ (List.mem_of_getElem? (i := 19) rfl)), List.forall_mem_cons.mpr ⟨(pl_wsX6_firstFall_wsX6_firstFall_r1 _ (List.mem_of_getElem? (i := 20) rfl)), List.forall_mem_cons.mpr ⟨(pl_wsX6_firstFall_wsX6_firstFall_r1 _ (List.mem_of_getElem? (i := 21) rfl)), List.forall_mem_cons.mpr ⟨(pl_wsX6_firstFall_wsX6_firstFall_r1 _ (List.mem_of_getElem? (i := 22) rfl)), List.forall_mem_cons.mpr ⟨(pl_wsX6_firstFall_wsX6_firstFall_r1 _ (List.mem_of_getElem? (i := 23) rfl)), List.forall_mem_cons.mpr ⟨(pl_wsX6_firstFall_wsX6_firstFall_r2 _ (List.mem_of_getElem? (i := 0) rfl)), List.forall_mem_cons.mpr ⟨(pl_wsX6_firstFall_wsX6_firstFall_r2 _ (List.mem_of_getElem? (i := 1) rfl)), List.forall_mem_cons.mpr ⟨(pl_wsX6_firstFall_wsX6_firstFall_r2 _ (List.mem_of_getElem? (i := 2) rfl)), fun _ h => absurd h List.not_mem_nil⟩⟩⟩⟩⟩⟩⟩⟩⟩⟩⟩⟩⟩⟩⟩⟩⟩⟩⟩⟩⟩⟩) w) (pl_wsX6_firstFall_wsX60 w))⟩) (by decide +kernel)
set_option maxRecDepth 20000 in
theorem gX6_firstFall_X6_loadIf : GoodIn wsX6_firstFall (wsV RX6 219 RX6 yX6_loadIf wsX6_loadIf) := goodIn_app (goodIn_sub (List.forall_mem_cons.mpr ⟨(pl_wsX6_firstFall_wsX6_firstFall_r1 _ (List.mem_of_getElem? (i := 1) rfl)), List.forall_mem_cons.mpr ⟨(pl_wsX6_firstFall_wsX6_firstFall_r1 _ (List.mem_of_getElem? (i := 2) rfl)), List.forall_mem_cons.mpr ⟨(pl_wsX6_firstFall_wsX6_firstFall_r1 _ (List.mem_of_getElem? (i := 3) rfl)), List.forall_mem_cons.mpr ⟨(pl_wsX6_firstFall_wsX6_firstFall_r1 _ (List.mem_of_getElem? (i := 4) rfl)), fun _ h => absurd h List.not_mem_nil⟩⟩⟩⟩) (by decide +kernel)) ggX6_firstFall_X6_loadIf
set_option maxRecDepth 20000 in
theorem ggX6_firstFall_X6_refuse : GoodIn wsX6_firstFall wsX6_refuse := goodIn_sub (List.forall_mem_cons.mpr ⟨(pl_wsX6_firstFall_wsX6_firstFall_r2 _ (List.mem_of_getElem? (i := 6) rfl)), (fun w h => (List.mem_append.mp h).elim ((List.forall_mem_cons.mpr ⟨(pl_wsX6_firstFall_wsX6_firstFall_r2 _ (List.mem_of_getElem? (i := 7) rfl)), fun _ h => absurd h List.not_mem_nil⟩) w) (pl_wsX6_firstFall_wsX60 w))⟩) (by decide +kernel)
set_option maxRecDepth 20000 in
theorem gX6_firstFall_X6_refuse : GoodIn wsX6_firstFall (wsV RX6 101 RX6 yX6_refuse wsX6_refuse) := goodIn_app (goodIn_sub (List.forall_mem_cons.mpr ⟨(pl_wsX6_firstFall_wsX6_firstFall_r2 _ (List.mem_of_getElem? (i := 3) rfl)), List.forall_mem_cons.mpr ⟨(pl_wsX6_firstFall_wsX6_firstFall_r2 _ (List.mem_of_getElem? (i := 4) rfl)), List.forall_mem_cons.mpr ⟨(pl_wsX6_firstFall_wsX6_firstFall_r2 _ (List.mem_of_getElem? (i := 5) rfl)), List.forall_mem_cons.mpr ⟨(pl_wsX6_firstFall_wsX6_firstFall_r1 _ (List.mem_of_getElem? (i := 4) rfl)), fun _ h => absurd h List.not_mem_nil⟩⟩⟩⟩) (by decide +kernel)) ggX6_firstFall_X6_refuse
set_option maxRecDepth 20000 in
theorem ggX6_firstFall_X6_many : GoodIn wsX6_firstFall wsX6_many := goodIn_sub (List.forall_mem_cons.mpr ⟨(pl_wsX6_firstFall_wsX6_firstFall_r2 _ (List.mem_of_getElem? (i := 11) rfl)), (fun w h => (List.mem_append.mp h).elim ((List.forall_mem_cons.mpr ⟨(pl_wsX6_firstFall_wsX6_firstFall_r2 _ (List.mem_of_getElem? (i := 12) rfl)), fun _ h => absurd h List.not_mem_nil⟩) w) (pl_wsX6_firstFall_wsX60 w))⟩) (by decide +kernel)
set_option maxRecDepth 20000 in
theorem gX6_firstFall_X6_many : GoodIn wsX6_firstFall (wsV RX6 84 RX6 yX6_many wsX6_many) := goodIn_app (goodIn_sub (List.forall_mem_cons.mpr ⟨(pl_wsX6_firstFall_wsX6_firstFall_r2 _ (List.mem_of_getElem? (i := 8) rfl)), List.forall_mem_cons.mpr ⟨(pl_wsX6_firstFall_wsX6_firstFall_r2 _ (List.mem_of_getElem? (i := 9) rfl)), List.forall_mem_cons.mpr ⟨(pl_wsX6_firstFall_wsX6_firstFall_r2 _ (List.mem_of_getElem? (i := 10) rfl)), List.forall_mem_cons.mpr ⟨(pl_wsX6_firstFall_wsX6_firstFall_r1 _ (List.mem_of_getElem? (i := 4) rfl)), fun _ h => absurd h List.not_mem_nil⟩⟩⟩⟩) (by decide +kernel)) ggX6_firstFall_X6_many
set_option maxRecDepth 20000 in
theorem pl_wsX6_firstFall_wsX6_firstFall_r3 : ∀ w ∈ wsX6_firstFall_r3, w ∈ wsX6_firstFall := fun _ h => List.mem_cons_of_mem _ (List.mem_append_left _ (List.mem_append_right _ (List.mem_append_right _ (List.mem_append_left _ (h)))))
theorem pl_wsX6_firstFall_wsX6_firstFall_r4 : ∀ w ∈ wsX6_firstFall_r4, w ∈ wsX6_firstFall := fun _ h => List.mem_cons_of_mem _ (List.mem_append_left _ (List.mem_append_right _ (List.mem_append_right _ (List.mem_append_right _ (h)))))
theorem ggX6_firstFall_X6_go : GoodIn wsX6_firstFall wsX6_go := goodIn_sub (List.forall_mem_cons.mpr ⟨(pl_wsX6_firstFall_wsX6_firstFall_r2 _ (List.mem_of_getElem? (i := 16) rfl)), (fun w h => (List.mem_append.mp h).elim ((fun w h => (List.mem_append.mp h).elim ((List.forall_mem_cons.mpr ⟨(pl_wsX6_firstFall_wsX6_firstFall_r1 _ (List.mem_of_getElem? (i := 21) rfl)), List.forall_mem_cons.mpr ⟨(pl_wsX6_firstFall_wsX6_firstFall_r2 _ (List.mem_of_getElem? (i := 17) rfl)), List.forall_mem_cons.mpr ⟨(pl_wsX6_firstFall_wsX6_firstFall_r2 _ (List.mem_of_getElem? (i := 18) rfl)), List.forall_mem_cons.mpr ⟨(pl_wsX6_firstFall_wsX6_firstFall_r2 _ (List.mem_of_getElem? (i := 19) rfl)), List.forall_mem_cons.mpr ⟨(pl_wsX6_firstFall_wsX6_firstFall_r1 _ (List.mem_of_getElem? (i := 4) rfl)), List.forall_mem_cons.mpr ⟨(pl_wsX6_firstFall_wsX6_firstFall_r2 _ (List.mem_of_getElem? (i := 20) rfl)), List.forall_mem_cons.mpr ⟨(pl_wsX6_firstFall_wsX6_firstFall_r2 _ (List.mem_of_getElem? (i := 12) rfl)), List.forall_mem_cons.mpr ⟨(pl_wsX6_firstFall_wsX6_firstFall_r2 _ (List.mem_of_getElem? (i := 21) rfl)), List.forall_mem_cons.mpr ⟨(pl_wsX6_firstFall_wsX6_firstFall_r2 _ (List.mem_of_getElem? (i := 22) rfl)), List.forall_mem_cons.mpr ⟨(pl_wsX6_firstFall_wsX6_firstFall_r2 _ (List.mem_of_getElem? (i := 23) rfl)), List.forall_mem_cons.mpr ⟨(pl_wsX6_firstFall_wsX6_firstFall_r3 _ (List.mem_of_getElem? (i := 0) rfl)), List.forall_mem_cons.mpr ⟨(pl_wsX6_firstFall_wsX6_firstFall_r3 _ (List.mem_of_getElem? (i := 1) rfl)), List.forall_mem_cons.mpr ⟨(pl_wsX6_firstFall_wsX6_firstFall_r3 _ (List.mem_of_getElem? (i := 2) rfl)), List.forall_mem_cons.mpr ⟨(pl_wsX6_firstFall_wsX6_firstFall_r3 _ (List.mem_of_getElem? (i := 3) rfl)), List.forall_mem_cons.mpr ⟨(pl_wsX6_firstFall_wsX6_firstFall_r3 _ (List.mem_of_getElem? (i := 4) rfl)), List.forall_mem_cons.mpr ⟨(pl_wsX6_firstFall_wsX6_firstFall_r3 _ (List.mem_of_getElem? (i := 5) rfl)), List.forall_mem_cons.mpr ⟨(pl_wsX6_firstFall_wsX6_firstFall_r3 _ (List.mem_of_getElem? (i := 6) rfl)), List.forall_mem_cons.mpr ⟨(pl_wsX6_firstFall_wsX6_firstFall_r3 _ (List.mem_of_getElem? (i := 7) rfl)), List.forall_mem_cons.mpr ⟨(pl_wsX6_firstFall_wsX6_firstFall_r1 _ (List.mem_of_getElem? (i := 0) rfl)), List.forall_mem_cons.mpr ⟨(pl_wsX6_firstFall_wsX6_firstFall_r3 _ (List.mem_of_getElem? (i := 8) rfl)), List.forall_mem_cons.mpr ⟨(pl_wsX6_firstFall_wsX6_firstFall_r3 _ (List.mem_of_getElem? (i := 9) rfl)), List.forall_mem_cons.mpr ⟨(pl_wsX6_firstFall_wsX6_firstFall_r3 _ (List.mem_of_getElem? (i := 10) rfl)), List.forall_mem_cons.mpr ⟨(pl_wsX6_firstFall_wsX6_firstFall_r3 _ (List.mem_of_getElem? (i := 11) rfl)), List.forall_mem_cons.mpr ⟨(pl_wsX6_firstFall_wsX6_firstFall_r3 _ (List.mem_of_getElem? (i := 12) rfl)), fun _ h => absurd h List.not_mem_nil⟩⟩⟩⟩⟩⟩⟩⟩⟩⟩⟩⟩⟩⟩⟩⟩⟩⟩⟩⟩⟩⟩⟩⟩) w) ((fun w h => (List.mem_append.mp h).elim ((List.forall_mem_cons.mpr ⟨(pl_wsX6_firstFall_wsX6_firstFall_r3 _ (List.mem_of_getElem? (i := 13) rfl)), List.forall_mem_cons.mpr ⟨(pl_wsX6_firstFall_wsX6_firstFall_r3 _ (List.mem_of_getElem? (i := 14) rfl)), List.forall_mem_cons.mpr ⟨(pl_wsX6_firstFall_wsX6_firstFall_r3 _ (List.mem_of_getElem? (i := 15) rfl)), List.forall_mem_cons.mpr ⟨(pl_wsX6_firstFall_wsX6_firstFall_r3 _ (List.mem_of_getElem? (i := 16) rfl)), List.forall_mem_cons.mpr ⟨(pl_wsX6_firstFall_wsX6_firstFall_r3 _ (List.mem_of_getElem? (i := 17) rfl)), List.forall_mem_cons.mpr ⟨(pl_wsX6_firstFall_wsX6_firstFall_r3 _ (List.mem_of_getElem? (i := 18) rfl)), List.forall_mem_cons.mpr ⟨(pl_wsX6_firstFall_wsX6_firstFall_r1 _ (List.mem_of_getElem? (i := 11) rfl)), List.forall_mem_cons.mpr ⟨(pl_wsX6_firstFall_wsX6_firstFall_r1 _ (List.mem_of_getElem? (i := 12) rfl)), List.forall_mem_cons.mpr ⟨(pl_wsX6_firstFall_wsX6_firstFall_r1 _ (List.mem_of_getElem? (i := 13) rfl)), List.forall_mem_cons.mpr ⟨(pl_wsX6_firstFall_wsX6_firstFall_r3 _ (List.mem_of_getElem? (i := 19) rfl)), List.forall_mem_cons.mpr ⟨(pl_wsX6_firstFall_wsX6_firstFall_r3 _ (List.mem_of_getElem? (i := 20) rfl)), List.forall_mem_cons.mpr ⟨(pl_wsX6_firstFall_wsX6_firstFall_r3 _ (List.mem_of_getElem? (i := 21) rfl)), List.forall_mem_cons.mpr ⟨(pl_wsX6_firstFall_wsX6_firstFall_r3 _ (List.mem_of_getElem? (i := 22) rfl)), List.forall_mem_cons.mpr ⟨(pl_wsX6_firstFall_wsX6_firstFall_r3 _ (List.mem_of_getElem? (i := 23) rfl)), List.forall_mem_cons.mpr ⟨(pl_wsX6_firstFall_wsX6_firstFall_r4 _ (List.mem_of_getElem? (i := 0) rfl)), List.forall_mem_cons.mpr ⟨(pl_wsX6_firstFall_wsX6_firstFall_r4 _ (List.mem_of_getElem? (i := 1) rfl)), List.forall_mem_cons.mpr ⟨(pl_wsX6_firstFall_wsX6_firstFall_r4 _ (List.mem_of_getElem? (i := 2) rfl)), List.forall_mem_cons.mpr ⟨(pl_wsX6_firstFall_wsX6_firstFall_r4 _ (List.mem_of_getElem? (i := 3) rfl)), List.forall_mem_cons.mpr ⟨(pl_wsX6_firstFall_wsX6_firstFall_r4 _ (List.mem_of_getElem? (i := 4) rfl)), List.forall_mem_cons.mpr ⟨(pl_wsX6_firstFall_wsX6_firstFall_r4 _ (List.mem_of_getElem? (i := 5) rfl)), List.forall_mem_cons.mpr ⟨(pl_wsX6_firstFall_wsX6_firstFall_r4 _ (List.mem_of_getElem? (i := 6) rfl)), List.forall_mem_cons.mpr ⟨(pl_wsX6_firstFall_wsX6_firstFall_r4 _ (List.mem_of_getElem? (i := 7) rfl)), List.forall_mem_cons.mpr ⟨(pl_wsX6_firstFall_wsX6_firstFall_r4 _ (List.mem_of_getElem? (i := 8) rfl)), List.forall_mem_cons.mpr ⟨(pl_wsX6_firstFall_wsX6_firstFall_r4 _ (List.mem_of_getElem? (i := 9) rfl)), fun _ h => absurd h List.not_mem_nil⟩⟩⟩⟩⟩⟩⟩⟩⟩⟩⟩⟩⟩⟩⟩⟩⟩⟩⟩⟩⟩⟩⟩⟩) w) ((List.forall_mem_cons.mpr ⟨(pl_wsX6_firstFall_wsX6_firstFall_r4 _ (List.mem_of_getElem? (i := 10) rfl)), List.forall_mem_cons.mpr ⟨(pl_wsX6_firstFall_wsX6_firstFall_r4 _ (List.mem_of_getElem? (i := 11) rfl)), List.forall_mem_cons.mpr ⟨(pl_wsX6_firstFall_wsX6_firstFall_r4 _ (List.mem_of_getElem? (i := 12) rfl)), List.forall_mem_cons.mpr ⟨(pl_wsX6_firstFall_wsX6_firstFall_r4 _ (List.mem_of_getElem? (i := 13) rfl)), List.forall_mem_cons.mpr ⟨(pl_wsX6_firstFall_wsX6_firstFall_r4 _ (List.mem_of_getElem? (i := 14) rfl)), List.forall_mem_cons.mpr ⟨(pl_wsX6_firstFall_wsX6_firstFall_r4 _ (List.mem_of_getElem? (i := 15) rfl)), List.forall_mem_cons.mpr ⟨(pl_wsX6_firstFall_wsX6_firstFall_r4 _ (List.mem_of_getElem? (i := 16) rfl)), List.forall_mem_cons.mpr ⟨(pl_wsX6_firstFall_wsX6_firstFall_r4 _ (List.mem_of_getElem? (i := 17) rfl)), fun _ h => absurd h List.not_mem_nil⟩⟩⟩⟩⟩⟩⟩⟩) w)) w)) w) (pl_wsX6_firstFall_wsX60 w))⟩) (by decide +kernel)
set_option maxRecDepth 20000 in
theorem gX6_firstFall_X6_go : GoodIn wsX6_firstFall (wsV RX6 223 RX6 yX6_go wsX6_go) := goodIn_app (goodIn_sub (List.forall_mem_cons.mpr ⟨(pl_wsX6_firstFall_wsX6_firstFall_r2 _ (List.mem_of_getElem? (i := 13) rfl)), List.forall_mem_cons.mpr ⟨(pl_wsX6_firstFall_wsX6_firstFall_r2 _ (List.mem_of_getElem? (i := 14) rfl)), List.forall_mem_cons.mpr ⟨(pl_wsX6_firstFall_wsX6_firstFall_r2 _ (List.mem_of_getElem? (i := 15) rfl)), List.forall_mem_cons.mpr ⟨(pl_wsX6_firstFall_wsX6_firstFall_r1 _ (List.mem_of_getElem? (i := 4) rfl)), fun _ h => absurd h List.not_mem_nil⟩⟩⟩⟩) (by decide +kernel)) ggX6_firstFall_X6_go
theorem dX6_firstFall_0 : decode cX6_firstFall 0 = .ok (.aload_n 0, 1) := by decide +kernel
theorem dX6_firstFall_1 : decode cX6_firstFall 1 = .ok (.iconst 1, 1) := by decide +kernel
theorem dX6_firstFall_2 : decode cX6_firstFall 2 = .ok (.iload_n 1, 1) := by decide +kernel
theorem dX6_firstFall_3 : decode cX6_firstFall 3 = .ok (.iload_n 2, 1) := by decide +kernel
theorem dX6_firstFall_4 : decode cX6_firstFall 4 = .ok (.invokevirtual 219, 3) := by decide +kernel
theorem dX6_firstFall_7 : decode cX6_firstFall 7 = .ok (.istore_n 3, 1) := by decide +kernel
theorem dX6_firstFall_8 : decode cX6_firstFall 8 = .ok (.iload_n 3, 1) := by decide +kernel
theorem dX6_firstFall_9 : decode cX6_firstFall 9 = .ok (.ifCond .ge 9, 3) := by decide +kernel
theorem dX6_firstFall_12 : decode cX6_firstFall 12 = .ok (.aload_n 0, 1) := by decide +kernel
theorem dX6_firstFall_13 : decode cX6_firstFall 13 = .ok (.iload_n 3, 1) := by decide +kernel
theorem dX6_firstFall_14 : decode cX6_firstFall 14 = .ok (.invokevirtual 101, 3) := by decide +kernel
theorem dX6_firstFall_17 : decode cX6_firstFall 17 = .ok (.ireturn, 1) := by decide +kernel
theorem dX6_firstFall_18 : decode cX6_firstFall 18 = .ok (.iconst (-1), 1) := by decide +kernel
theorem dX6_firstFall_19 : decode cX6_firstFall 19 = .ok (.istore 4, 2) := by decide +kernel
theorem dX6_firstFall_21 : decode cX6_firstFall 21 = .ok (.iconst 0, 1) := by decide +kernel
theorem dX6_firstFall_22 : decode cX6_firstFall 22 = .ok (.istore 5, 2) := by decide +kernel
theorem dX6_firstFall_24 : decode cX6_firstFall 24 = .ok (.iload 5, 2) := by decide +kernel
theorem dX6_firstFall_26 : decode cX6_firstFall 26 = .ok (.aload_n 0, 1) := by decide +kernel
theorem dX6_firstFall_27 : decode cX6_firstFall 27 = .ok (.invokevirtual 84, 3) := by decide +kernel
theorem dX6_firstFall_30 : decode cX6_firstFall 30 = .ok (.if_icmp .ge 56, 3) := by decide +kernel
theorem dX6_firstFall_33 : decode cX6_firstFall 33 = .ok (.aload_n 0, 1) := by decide +kernel
theorem dX6_firstFall_34 : decode cX6_firstFall 34 = .ok (.iload 5, 2) := by decide +kernel
theorem dX6_firstFall_36 : decode cX6_firstFall 36 = .ok (.iload_n 2, 1) := by decide +kernel
theorem dX6_firstFall_37 : decode cX6_firstFall 37 = .ok (.invokevirtual 223, 3) := by decide +kernel
theorem dX6_firstFall_40 : decode cX6_firstFall 40 = .ok (.aload_n 0, 1) := by decide +kernel
theorem dX6_firstFall_41 : decode cX6_firstFall 41 = .ok (.getfield 48, 3) := by decide +kernel
theorem dX6_firstFall_44 : decode cX6_firstFall 44 = .ok (.iconst 0, 1) := by decide +kernel
theorem dX6_firstFall_45 : decode cX6_firstFall 45 = .ok (.iaload, 1) := by decide +kernel
theorem dX6_firstFall_46 : decode cX6_firstFall 46 = .ok (.iconst (-1), 1) := by decide +kernel
theorem dX6_firstFall_47 : decode cX6_firstFall 47 = .ok (.if_icmp .eq 29, 3) := by decide +kernel
theorem dX6_firstFall_50 : decode cX6_firstFall 50 = .ok (.iload 4, 2) := by decide +kernel
theorem dX6_firstFall_52 : decode cX6_firstFall 52 = .ok (.iconst (-1), 1) := by decide +kernel
theorem dX6_firstFall_53 : decode cX6_firstFall 53 = .ok (.if_icmp .eq 14, 3) := by decide +kernel
theorem dX6_firstFall_56 : decode cX6_firstFall 56 = .ok (.aload_n 0, 1) := by decide +kernel
theorem dX6_firstFall_57 : decode cX6_firstFall 57 = .ok (.getfield 48, 3) := by decide +kernel
theorem dX6_firstFall_60 : decode cX6_firstFall 60 = .ok (.iconst 0, 1) := by decide +kernel
theorem dX6_firstFall_61 : decode cX6_firstFall 61 = .ok (.iaload, 1) := by decide +kernel
theorem dX6_firstFall_62 : decode cX6_firstFall 62 = .ok (.iload 4, 2) := by decide +kernel
theorem dX6_firstFall_64 : decode cX6_firstFall 64 = .ok (.if_icmp .ge 12, 3) := by decide +kernel
theorem dX6_firstFall_67 : decode cX6_firstFall 67 = .ok (.aload_n 0, 1) := by decide +kernel
theorem dX6_firstFall_68 : decode cX6_firstFall 68 = .ok (.getfield 48, 3) := by decide +kernel
theorem dX6_firstFall_71 : decode cX6_firstFall 71 = .ok (.iconst 0, 1) := by decide +kernel
theorem dX6_firstFall_72 : decode cX6_firstFall 72 = .ok (.iaload, 1) := by decide +kernel
theorem dX6_firstFall_73 : decode cX6_firstFall 73 = .ok (.goto 5, 3) := by decide +kernel
theorem dX6_firstFall_76 : decode cX6_firstFall 76 = .ok (.iload 4, 2) := by decide +kernel
theorem dX6_firstFall_78 : decode cX6_firstFall 78 = .ok (.istore 4, 2) := by decide +kernel
theorem dX6_firstFall_80 : decode cX6_firstFall 80 = .ok (.iinc 5 1, 3) := by decide +kernel
theorem dX6_firstFall_83 : decode cX6_firstFall 83 = .ok (.goto (-59), 3) := by decide +kernel
theorem dX6_firstFall_86 : decode cX6_firstFall 86 = .ok (.iload 4, 2) := by decide +kernel
theorem dX6_firstFall_88 : decode cX6_firstFall 88 = .ok (.ireturn, 1) := by decide +kernel
set_option maxRecDepth 20000 in
theorem pl_wsX6_alike_wsX6_alike_r1 : ∀ w ∈ wsX6_alike_r1, w ∈ wsX6_alike := fun _ h => List.mem_cons_of_mem _ (List.mem_append_left _ (List.mem_append_left _ (h)))
theorem pl_wsX6_alike_wsX60 : ∀ w ∈ wsX60, w ∈ wsX6_alike := fun _ h => List.mem_cons_of_mem _ (List.mem_append_right _ (h))
theorem ggX6_alike_X6_isPerson : GoodIn wsX6_alike wsX6_isPerson := goodIn_sub (List.forall_mem_cons.mpr ⟨(pl_wsX6_alike_wsX6_alike_r1 _ (List.mem_of_getElem? (i := 7) rfl)), (fun w h => (List.mem_append.mp h).elim ((List.forall_mem_cons.mpr ⟨(pl_wsX6_alike_wsX6_alike_r1 _ (List.mem_of_getElem? (i := 0) rfl)), List.forall_mem_cons.mpr ⟨(pl_wsX6_alike_wsX6_alike_r1 _ (List.mem_of_getElem? (i := 8) rfl)), List.forall_mem_cons.mpr ⟨(pl_wsX6_alike_wsX6_alike_r1 _ (List.mem_of_getElem? (i := 9) rfl)), List.forall_mem_cons.mpr ⟨(pl_wsX6_alike_wsX6_alike_r1 _ (List.mem_of_getElem? (i := 6) rfl)), List.forall_mem_cons.mpr ⟨(pl_wsX6_alike_wsX6_alike_r1 _ (List.mem_of_getElem? (i := 10) rfl)), fun _ h => absurd h List.not_mem_nil⟩⟩⟩⟩⟩) w) (pl_wsX6_alike_wsX60 w))⟩) (by decide +kernel)
set_option maxRecDepth 20000 in
theorem gX6_alike_X6_isPerson : GoodIn wsX6_alike (wsV RX6 124 RX6 yX6_isPerson wsX6_isPerson) := goodIn_app (goodIn_sub (List.forall_mem_cons.mpr ⟨(pl_wsX6_alike_wsX6_alike_r1 _ (List.mem_of_getElem? (i := 3) rfl)), List.forall_mem_cons.mpr ⟨(pl_wsX6_alike_wsX6_alike_r1 _ (List.mem_of_getElem? (i := 4) rfl)), List.forall_mem_cons.mpr ⟨(pl_wsX6_alike_wsX6_alike_r1 _ (List.mem_of_getElem? (i := 5) rfl)), List.forall_mem_cons.mpr ⟨(pl_wsX6_alike_wsX6_alike_r1 _ (List.mem_of_getElem? (i := 6) rfl)), fun _ h => absurd h List.not_mem_nil⟩⟩⟩⟩) (by decide +kernel)) ggX6_alike_X6_isPerson
set_option maxRecDepth 20000 in
theorem pl_wsX6_alike_wsX6_alike_r2 : ∀ w ∈ wsX6_alike_r2, w ∈ wsX6_alike := fun _ h => List.mem_cons_of_mem _ (List.mem_append_left _ (List.mem_append_right _ (List.mem_append_left _ (h))))
theorem ggX6_alike_X6_loadIf : GoodIn wsX6_alike wsX6_loadIf := goodIn_sub (List.forall_mem_cons.mpr ⟨(pl_wsX6_alike_wsX6_alike_r1 _ (List.mem_of_getElem? (i := 14) rfl)), (fun w h => (List.mem_append.mp h).elim ((List.forall_mem_cons.mpr ⟨(pl_wsX6_alike_wsX6_alike_r1 _ (List.mem_of_getElem? (i := 15) rfl)), List.forall_mem_cons.mpr ⟨(pl_wsX6_alike_wsX6_alike_r1 _ (List.mem_of_getElem? (i := 16) rfl)), List.forall_mem_cons.mpr ⟨(pl_wsX6_alike_wsX6_alike_r1 _ (List.mem_of_getElem? (i := 17) rfl)), List.forall_mem_cons.mpr ⟨(pl_wsX6_alike_wsX6_alike_r1 _ (List.mem_of_getElem? (i := 6) rfl)), List.forall_mem_cons.mpr ⟨(pl_wsX6_alike_wsX6_alike_r1 _ (List.mem_of_getElem? (i := 18) rfl)), List.forall_mem_cons.mpr ⟨(pl_wsX6_alike_wsX6_alike_r1 _ (List.mem_of_getElem? (i := 19) rfl)), List.forall_mem_cons.mpr ⟨(pl_wsX6_alike_wsX6_alike_r1 _ (List.mem_of_getElem? (i := 8) rfl)), List.forall_mem_cons.mpr ⟨(pl_wsX6_alike_wsX6_alike_r1 _ (List.mem_of_getElem? (i := 9) rfl)), List.forall_mem_cons.mpr ⟨(pl_wsX6_alike_wsX6_alike_r1 _ (List.mem_of_getElem? (i := 10) rfl)), List.forall_mem_cons.mpr ⟨(pl_wsX6_alike_wsX6_alike_r1 _ (List.mem_of_getElem? (i := 20) rfl)), List.forall_mem_cons.mpr ⟨(pl_wsX6_alike_wsX6_alike_r1 _ (List.mem_of_getElem? (i := 21) rfl)), List.forall_mem_cons.mpr ⟨(pl_wsX6_alike_wsX6_alike_r1 _ (List.mem_of_getElem? (i := 22) rfl)), List.forall_mem_cons.mpr ⟨(pl_wsX6_alike_wsX6_alike_r1 _ (List.mem_of_getElem? (i := 23) rfl)), List.forall_mem_cons.mpr ⟨(pl_wsX6_alike_wsX6_alike_r2 _ (List.mem_of_getElem? (i := 0) rfl)), List.forall_mem_cons.mpr ⟨(pl_wsX6_alike_wsX6_alike_r2 _ (List.mem_of_getElem? (i := 1) rfl)), List.forall_mem_cons.mpr ⟨(pl_wsX6_alike_wsX6_alike_r2 _ (List.mem_of_getElem? (i := 2) rfl)), List.forall_mem_cons.mpr ⟨(pl_wsX6_alike_wsX6_alike_r2 _ (List.mem_of_getElem? (i := 3) rfl)), List.forall_mem_cons.mpr ⟨(pl_wsX6_alike_wsX6_alike_r2 _ (List.mem_of_getElem? (i := 4) rfl)), List.forall_mem_cons.mpr ⟨(pl_wsX6_alike_wsX6_alike_r2 _ (List.mem_of_getElem? (i := 5) rfl)), List.forall_mem_cons.mpr ⟨(pl_wsX6_alike_wsX6_alike_r2 _ (List.mem_of_getElem? (i := 6) rfl)), List.forall_mem_cons.mpr ⟨(pl_wsX6_alike_wsX6_alike_r2 _ (List.mem_of_getElem? (i := 7) rfl)), List.forall_mem_cons.mpr ⟨(pl_wsX6_alike_wsX6_alike_r2 _ (List.mem_of_getElem? (i := 8) rfl)), fun _ h => absurd h List.not_mem_nil⟩⟩⟩⟩⟩⟩⟩⟩⟩⟩⟩⟩⟩⟩⟩⟩⟩⟩⟩⟩⟩⟩) w) (pl_wsX6_alike_wsX60 w))⟩) (by decide +kernel)
set_option maxRecDepth 20000 in
theorem gX6_alike_X6_loadIf : GoodIn wsX6_alike (wsV RX6 219 RX6 yX6_loadIf wsX6_loadIf) := goodIn_app (goodIn_sub (List.forall_mem_cons.mpr ⟨(pl_wsX6_alike_wsX6_alike_r1 _ (List.mem_of_getElem? (i := 11) rfl)), List.forall_mem_cons.mpr ⟨(pl_wsX6_alike_wsX6_alike_r1 _ (List.mem_of_getElem? (i := 12) rfl)), List.forall_mem_cons.mpr ⟨(pl_wsX6_alike_wsX6_alike_r1 _ (List.mem_of_getElem? (i := 13) rfl)), List.forall_mem_cons.mpr ⟨(pl_wsX6_alike_wsX6_alike_r1 _ (List.mem_of_getElem? (i := 6) rfl)), fun _ h => absurd h List.not_mem_nil⟩⟩⟩⟩) (by decide +kernel)) ggX6_alike_X6_loadIf
set_option maxRecDepth 20000 in
theorem ggX6_alike_X6_refuse : GoodIn wsX6_alike wsX6_refuse := goodIn_sub (List.forall_mem_cons.mpr ⟨(pl_wsX6_alike_wsX6_alike_r2 _ (List.mem_of_getElem? (i := 12) rfl)), (fun w h => (List.mem_append.mp h).elim ((List.forall_mem_cons.mpr ⟨(pl_wsX6_alike_wsX6_alike_r2 _ (List.mem_of_getElem? (i := 13) rfl)), fun _ h => absurd h List.not_mem_nil⟩) w) (pl_wsX6_alike_wsX60 w))⟩) (by decide +kernel)
set_option maxRecDepth 20000 in
theorem gX6_alike_X6_refuse : GoodIn wsX6_alike (wsV RX6 101 RX6 yX6_refuse wsX6_refuse) := goodIn_app (goodIn_sub (List.forall_mem_cons.mpr ⟨(pl_wsX6_alike_wsX6_alike_r2 _ (List.mem_of_getElem? (i := 9) rfl)), List.forall_mem_cons.mpr ⟨(pl_wsX6_alike_wsX6_alike_r2 _ (List.mem_of_getElem? (i := 10) rfl)), List.forall_mem_cons.mpr ⟨(pl_wsX6_alike_wsX6_alike_r2 _ (List.mem_of_getElem? (i := 11) rfl)), List.forall_mem_cons.mpr ⟨(pl_wsX6_alike_wsX6_alike_r1 _ (List.mem_of_getElem? (i := 6) rfl)), fun _ h => absurd h List.not_mem_nil⟩⟩⟩⟩) (by decide +kernel)) ggX6_alike_X6_refuse
set_option maxRecDepth 20000 in
theorem pl_wsX6_alike_wsX6_alike_r3 : ∀ w ∈ wsX6_alike_r3, w ∈ wsX6_alike := fun _ h => List.mem_cons_of_mem _ (List.mem_append_left _ (List.mem_append_right _ (List.mem_append_right _ (List.mem_append_left _ (h)))))
theorem pl_wsX6_alike_wsX6_alike_r4 : ∀ w ∈ wsX6_alike_r4, w ∈ wsX6_alike := fun _ h => List.mem_cons_of_mem _ (List.mem_append_left _ (List.mem_append_right _ (List.mem_append_right _ (List.mem_append_right _ (h)))))
theorem ggX6_alike_X6_go : GoodIn wsX6_alike wsX6_go := goodIn_sub (List.forall_mem_cons.mpr ⟨(pl_wsX6_alike_wsX6_alike_r2 _ (List.mem_of_getElem? (i := 17) rfl)), (fun w h => (List.mem_append.mp h).elim ((fun w h => (List.mem_append.mp h).elim ((List.forall_mem_cons.mpr ⟨(pl_wsX6_alike_wsX6_alike_r2 _ (List.mem_of_getElem? (i := 3) rfl)), List.forall_mem_cons.mpr ⟨(pl_wsX6_alike_wsX6_alike_r2 _ (List.mem_of_getElem? (i := 18) rfl)), List.forall_mem_cons.mpr ⟨(pl_wsX6_alike_wsX6_alike_r2 _ (List.mem_of_getElem? (i := 19) rfl)), List.forall_mem_cons.mpr ⟨(pl_wsX6_alike_wsX6_alike_r2 _ (List.mem_of_getElem? (i := 20) rfl)), List.forall_mem_cons.mpr ⟨(pl_wsX6_alike_wsX6_alike_r1 _ (List.mem_of_getElem? (i := 6) rfl)), List.forall_mem_cons.mpr ⟨(pl_wsX6_alike_wsX6_alike_r2 _ (List.mem_of_getElem? (i := 21) rfl)), List.forall_mem_cons.mpr ⟨(pl_wsX6_alike_wsX6_alike_r1 _ (List.mem_of_getElem? (i := 0) rfl)), List.forall_mem_cons.mpr ⟨(pl_wsX6_alike_wsX6_alike_r2 _ (List.mem_of_getElem? (i := 22) rfl)), List.forall_mem_cons.mpr ⟨(pl_wsX6_alike_wsX6_alike_r2 _ (List.mem_of_getElem? (i := 23) rfl)), List.forall_mem_cons.mpr ⟨(pl_wsX6_alike_wsX6_alike_r3 _ (List.mem_of_getElem? (i := 0) rfl)), List.forall_mem_cons.mpr ⟨(pl_wsX6_alike_wsX6_alike_r3 _ (List.mem_of_getElem? (i := 1) rfl)), List.forall_mem_cons.mpr ⟨(pl_wsX6_alike_wsX6_alike_r3 _ (List.mem_of_getElem? (i := 2) rfl)), List.forall_mem_cons.mpr ⟨(pl_wsX6_alike_wsX6_alike_r3 _ (List.mem_of_getElem? (i := 3) rfl)), List.forall_mem_cons.mpr ⟨(pl_wsX6_alike_wsX6_alike_r3 _ (List.mem_of_getElem? (i := 4) rfl)), List.forall_mem_cons.mpr ⟨(pl_wsX6_alike_wsX6_alike_r3 _ (List.mem_of_getElem? (i := 5) rfl)), List.forall_mem_cons.mpr ⟨(pl_wsX6_alike_wsX6_alike_r1 _ (List.mem_of_getElem? (i := 1) rfl)), List.forall_mem_cons.mpr ⟨(pl_wsX6_alike_wsX6_alike_r1 _ (List.mem_of_getElem? (i := 2) rfl)), List.forall_mem_cons.mpr ⟨(pl_wsX6_alike_wsX6_alike_r3 _ (List.mem_of_getElem? (i := 6) rfl)), List.forall_mem_cons.mpr ⟨(pl_wsX6_alike_wsX6_alike_r3 _ (List.mem_of_getElem? (i := 7) rfl)), List.forall_mem_cons.mpr ⟨(pl_wsX6_alike_wsX6_alike_r3 _ (List.mem_of_getElem? (i := 8) rfl)), List.forall_mem_cons.mpr ⟨(pl_wsX6_alike_wsX6_alike_r3 _ (List.mem_of_getElem? (i := 9) rfl)), List.forall_mem_cons.mpr ⟨(pl_wsX6_alike_wsX6_alike_r3 _ (List.mem_of_getElem? (i := 10) rfl)), List.forall_mem_cons.mpr ⟨(pl_wsX6_alike_wsX6_alike_r3 _ (List.mem_of_getElem? (i := 11) rfl)), List.forall_mem_cons.mpr ⟨(pl_wsX6_alike_wsX6_alike_r3 _ (List.mem_of_getElem? (i := 12) rfl)), fun _ h => absurd h List.not_mem_nil⟩⟩⟩⟩⟩⟩⟩⟩⟩⟩⟩⟩⟩⟩⟩⟩⟩⟩⟩⟩⟩⟩⟩⟩) w) ((fun w h => (List.mem_append.mp h).elim ((List.forall_mem_cons.mpr ⟨(pl_wsX6_alike_wsX6_alike_r3 _ (List.mem_of_getElem? (i := 13) rfl)), List.forall_mem_cons.mpr ⟨(pl_wsX6_alike_wsX6_alike_r3 _ (List.mem_of_getElem? (i := 14) rfl)), List.forall_mem_cons.mpr ⟨(pl_wsX6_alike_wsX6_alike_r3 _ (List.mem_of_getElem? (i := 15) rfl)), List.forall_mem_cons.mpr ⟨(pl_wsX6_alike_wsX6_alike_r3 _ (List.mem_of_getElem? (i := 16) rfl)), List.forall_mem_cons.mpr ⟨(pl_wsX6_alike_wsX6_alike_r3 _ (List.mem_of_getElem? (i := 17) rfl)), List.forall_mem_cons.mpr ⟨(pl_wsX6_alike_wsX6_alike_r3 _ (List.mem_of_getElem? (i := 18) rfl)), List.forall_mem_cons.mpr ⟨(pl_wsX6_alike_wsX6_alike_r1 _ (List.mem_of_getElem? (i := 8) rfl)), List.forall_mem_cons.mpr ⟨(pl_wsX6_alike_wsX6_alike_r1 _ (List.mem_of_getElem? (i := 9) rfl)), List.forall_mem_cons.mpr ⟨(pl_wsX6_alike_wsX6_alike_r1 _ (List.mem_of_getElem? (i := 10) rfl)), List.forall_mem_cons.mpr ⟨(pl_wsX6_alike_wsX6_alike_r3 _ (List.mem_of_getElem? (i := 19) rfl)), List.forall_mem_cons.mpr ⟨(pl_wsX6_alike_wsX6_alike_r3 _ (List.mem_of_getElem? (i := 20) rfl)), List.forall_mem_cons.mpr ⟨(pl_wsX6_alike_wsX6_alike_r3 _ (List.mem_of_getElem? (i := 21) rfl)), List.forall_mem_cons.mpr ⟨(pl_wsX6_alike_wsX6_alike_r3 _ (List.mem_of_getElem? (i := 22) rfl)), List.forall_mem_cons.mpr ⟨(pl_wsX6_alike_wsX6_alike_r3 _ (List.mem_of_getElem? (i := 23) rfl)), List.forall_mem_cons.mpr ⟨(pl_wsX6_alike_wsX6_alike_r4 _ (List.mem_of_getElem? (i := 0) rfl)), List.forall_mem_cons.mpr ⟨(pl_wsX6_alike_wsX6_alike_r4 _ (List.mem_of_getElem? (i := 1) rfl)), List.forall_mem_cons.mpr ⟨(pl_wsX6_alike_wsX6_alike_r4 _ (List.mem_of_getElem? (i := 2) rfl)), List.forall_mem_cons.mpr ⟨(pl_wsX6_alike_wsX6_alike_r4 _ (List.mem_of_getElem? (i := 3) rfl)), List.forall_mem_cons.mpr ⟨(pl_wsX6_alike_wsX6_alike_r4 _ (List.mem_of_getElem? (i := 4) rfl)), List.forall_mem_cons.mpr ⟨(pl_wsX6_alike_wsX6_alike_r4 _ (List.mem_of_getElem? (i := 5) rfl)), List.forall_mem_cons.mpr ⟨(pl_wsX6_alike_wsX6_alike_r4 _ (List.mem_of_getElem? (i := 6) rfl)), List.forall_mem_cons.mpr ⟨(pl_wsX6_alike_wsX6_alike_r4 _ (List.mem_of_getElem? (i := 7) rfl)), List.forall_mem_cons.mpr ⟨(pl_wsX6_alike_wsX6_alike_r4 _ (List.mem_of_getElem? (i := 8) rfl)), List.forall_mem_cons.mpr ⟨(pl_wsX6_alike_wsX6_alike_r4 _ (List.mem_of_getElem? (i := 9) rfl)), fun _ h => absurd h List.not_mem_nil⟩⟩⟩⟩⟩⟩⟩⟩⟩⟩⟩⟩⟩⟩⟩⟩⟩⟩⟩⟩⟩⟩⟩⟩) w) ((List.forall_mem_cons.mpr ⟨(pl_wsX6_alike_wsX6_alike_r4 _ (List.mem_of_getElem? (i := 10) rfl)), List.forall_mem_cons.mpr ⟨(pl_wsX6_alike_wsX6_alike_r4 _ (List.mem_of_getElem? (i := 11) rfl)), List.forall_mem_cons.mpr ⟨(pl_wsX6_alike_wsX6_alike_r4 _ (List.mem_of_getElem? (i := 12) rfl)), List.forall_mem_cons.mpr ⟨(pl_wsX6_alike_wsX6_alike_r4 _ (List.mem_of_getElem? (i := 13) rfl)), List.forall_mem_cons.mpr ⟨(pl_wsX6_alike_wsX6_alike_r4 _ (List.mem_of_getElem? (i := 14) rfl)), List.forall_mem_cons.mpr ⟨(pl_wsX6_alike_wsX6_alike_r4 _ (List.mem_of_getElem? (i := 15) rfl)), List.forall_mem_cons.mpr ⟨(pl_wsX6_alike_wsX6_alike_r4 _ (List.mem_of_getElem? (i := 16) rfl)), List.forall_mem_cons.mpr ⟨(pl_wsX6_alike_wsX6_alike_r4 _ (List.mem_of_getElem? (i := 17) rfl)), fun _ h => absurd h List.not_mem_nil⟩⟩⟩⟩⟩⟩⟩⟩) w)) w)) w) (pl_wsX6_alike_wsX60 w))⟩) (by decide +kernel)
set_option maxRecDepth 20000 in
theorem gX6_alike_X6_go : GoodIn wsX6_alike (wsV RX6 223 RX6 yX6_go wsX6_go) := goodIn_app (goodIn_sub (List.forall_mem_cons.mpr ⟨(pl_wsX6_alike_wsX6_alike_r2 _ (List.mem_of_getElem? (i := 14) rfl)), List.forall_mem_cons.mpr ⟨(pl_wsX6_alike_wsX6_alike_r2 _ (List.mem_of_getElem? (i := 15) rfl)), List.forall_mem_cons.mpr ⟨(pl_wsX6_alike_wsX6_alike_r2 _ (List.mem_of_getElem? (i := 16) rfl)), List.forall_mem_cons.mpr ⟨(pl_wsX6_alike_wsX6_alike_r1 _ (List.mem_of_getElem? (i := 6) rfl)), fun _ h => absurd h List.not_mem_nil⟩⟩⟩⟩) (by decide +kernel)) ggX6_alike_X6_go
theorem dX6_alike_0 : decode cX6_alike 0 = .ok (.aload_n 0, 1) := by decide +kernel
theorem dX6_alike_1 : decode cX6_alike 1 = .ok (.aload_n 0, 1) := by decide +kernel
theorem dX6_alike_2 : decode cX6_alike 2 = .ok (.iload_n 3, 1) := by decide +kernel
theorem dX6_alike_3 : decode cX6_alike 3 = .ok (.invokevirtual 124, 3) := by decide +kernel
theorem dX6_alike_6 : decode cX6_alike 6 = .ok (.iload_n 1, 1) := by decide +kernel
theorem dX6_alike_7 : decode cX6_alike 7 = .ok (.iload_n 2, 1) := by decide +kernel
theorem dX6_alike_8 : decode cX6_alike 8 = .ok (.invokevirtual 219, 3) := by decide +kernel
theorem dX6_alike_11 : decode cX6_alike 11 = .ok (.istore 4, 2) := by decide +kernel
theorem dX6_alike_13 : decode cX6_alike 13 = .ok (.iload 4, 2) := by decide +kernel
theorem dX6_alike_15 : decode cX6_alike 15 = .ok (.ifCond .ge 10, 3) := by decide +kernel
theorem dX6_alike_18 : decode cX6_alike 18 = .ok (.aload_n 0, 1) := by decide +kernel
theorem dX6_alike_19 : decode cX6_alike 19 = .ok (.iload 4, 2) := by decide +kernel
theorem dX6_alike_21 : decode cX6_alike 21 = .ok (.invokevirtual 101, 3) := by decide +kernel
theorem dX6_alike_24 : decode cX6_alike 24 = .ok (.ireturn, 1) := by decide +kernel
theorem dX6_alike_25 : decode cX6_alike 25 = .ok (.aload_n 0, 1) := by decide +kernel
theorem dX6_alike_26 : decode cX6_alike 26 = .ok (.getfield 17, 3) := by decide +kernel
theorem dX6_alike_29 : decode cX6_alike 29 = .ok (.bipush 91, 2) := by decide +kernel
theorem dX6_alike_31 : decode cX6_alike 31 = .ok (.iaload, 1) := by decide +kernel
theorem dX6_alike_32 : decode cX6_alike 32 = .ok (.istore 5, 2) := by decide +kernel
theorem dX6_alike_34 : decode cX6_alike 34 = .ok (.aload_n 0, 1) := by decide +kernel
theorem dX6_alike_35 : decode cX6_alike 35 = .ok (.getfield 17, 3) := by decide +kernel
theorem dX6_alike_38 : decode cX6_alike 38 = .ok (.bipush 91, 2) := by decide +kernel
theorem dX6_alike_40 : decode cX6_alike 40 = .ok (.iconst 0, 1) := by decide +kernel
theorem dX6_alike_41 : decode cX6_alike 41 = .ok (.iastore, 1) := by decide +kernel
theorem dX6_alike_42 : decode cX6_alike 42 = .ok (.aload_n 0, 1) := by decide +kernel
theorem dX6_alike_43 : decode cX6_alike 43 = .ok (.iload_n 3, 1) := by decide +kernel
theorem dX6_alike_44 : decode cX6_alike 44 = .ok (.iload_n 2, 1) := by decide +kernel
theorem dX6_alike_45 : decode cX6_alike 45 = .ok (.invokevirtual 223, 3) := by decide +kernel
theorem dX6_alike_48 : decode cX6_alike 48 = .ok (.aload_n 0, 1) := by decide +kernel
theorem dX6_alike_49 : decode cX6_alike 49 = .ok (.getfield 33, 3) := by decide +kernel
theorem dX6_alike_52 : decode cX6_alike 52 = .ok (.iconst 0, 1) := by decide +kernel
theorem dX6_alike_53 : decode cX6_alike 53 = .ok (.iaload, 1) := by decide +kernel
theorem dX6_alike_54 : decode cX6_alike 54 = .ok (.istore 6, 2) := by decide +kernel
theorem dX6_alike_56 : decode cX6_alike 56 = .ok (.aload_n 0, 1) := by decide +kernel
theorem dX6_alike_57 : decode cX6_alike 57 = .ok (.getfield 36, 3) := by decide +kernel
theorem dX6_alike_60 : decode cX6_alike 60 = .ok (.iconst 0, 1) := by decide +kernel
theorem dX6_alike_61 : decode cX6_alike 61 = .ok (.iaload, 1) := by decide +kernel
theorem dX6_alike_62 : decode cX6_alike 62 = .ok (.istore 7, 2) := by decide +kernel
theorem dX6_alike_64 : decode cX6_alike 64 = .ok (.aload_n 0, 1) := by decide +kernel
theorem dX6_alike_65 : decode cX6_alike 65 = .ok (.getfield 17, 3) := by decide +kernel
theorem dX6_alike_68 : decode cX6_alike 68 = .ok (.bipush 91, 2) := by decide +kernel
theorem dX6_alike_70 : decode cX6_alike 70 = .ok (.iconst 1, 1) := by decide +kernel
theorem dX6_alike_71 : decode cX6_alike 71 = .ok (.iastore, 1) := by decide +kernel
theorem dX6_alike_72 : decode cX6_alike 72 = .ok (.aload_n 0, 1) := by decide +kernel
theorem dX6_alike_73 : decode cX6_alike 73 = .ok (.iload_n 3, 1) := by decide +kernel
theorem dX6_alike_74 : decode cX6_alike 74 = .ok (.iload_n 2, 1) := by decide +kernel
theorem dX6_alike_75 : decode cX6_alike 75 = .ok (.invokevirtual 223, 3) := by decide +kernel
theorem dX6_alike_78 : decode cX6_alike 78 = .ok (.aload_n 0, 1) := by decide +kernel
theorem dX6_alike_79 : decode cX6_alike 79 = .ok (.getfield 17, 3) := by decide +kernel
theorem dX6_alike_82 : decode cX6_alike 82 = .ok (.bipush 91, 2) := by decide +kernel
theorem dX6_alike_84 : decode cX6_alike 84 = .ok (.iload 5, 2) := by decide +kernel
theorem dX6_alike_86 : decode cX6_alike 86 = .ok (.iastore, 1) := by decide +kernel
theorem dX6_alike_87 : decode cX6_alike 87 = .ok (.aload_n 0, 1) := by decide +kernel
theorem dX6_alike_88 : decode cX6_alike 88 = .ok (.getfield 33, 3) := by decide +kernel
theorem dX6_alike_91 : decode cX6_alike 91 = .ok (.iconst 0, 1) := by decide +kernel
theorem dX6_alike_92 : decode cX6_alike 92 = .ok (.iaload, 1) := by decide +kernel
theorem dX6_alike_93 : decode cX6_alike 93 = .ok (.iload 6, 2) := by decide +kernel
theorem dX6_alike_95 : decode cX6_alike 95 = .ok (.if_icmp .ne 18, 3) := by decide +kernel
theorem dX6_alike_98 : decode cX6_alike 98 = .ok (.aload_n 0, 1) := by decide +kernel
theorem dX6_alike_99 : decode cX6_alike 99 = .ok (.getfield 36, 3) := by decide +kernel
theorem dX6_alike_102 : decode cX6_alike 102 = .ok (.iconst 0, 1) := by decide +kernel
theorem dX6_alike_103 : decode cX6_alike 103 = .ok (.iaload, 1) := by decide +kernel
theorem dX6_alike_104 : decode cX6_alike 104 = .ok (.iload 7, 2) := by decide +kernel
theorem dX6_alike_106 : decode cX6_alike 106 = .ok (.if_icmp .ne 7, 3) := by decide +kernel
theorem dX6_alike_109 : decode cX6_alike 109 = .ok (.iconst 1, 1) := by decide +kernel
theorem dX6_alike_110 : decode cX6_alike 110 = .ok (.goto 4, 3) := by decide +kernel
theorem dX6_alike_113 : decode cX6_alike 113 = .ok (.iconst 0, 1) := by decide +kernel
theorem dX6_alike_114 : decode cX6_alike 114 = .ok (.ireturn, 1) := by decide +kernel
set_option maxRecDepth 20000 in
theorem pl_wsX6_differ_wsX6_differ_r1 : ∀ w ∈ wsX6_differ_r1, w ∈ wsX6_differ := fun _ h => List.mem_cons_of_mem _ (List.mem_append_left _ (List.mem_append_left _ (h)))
theorem pl_wsX6_differ_wsX60 : ∀ w ∈ wsX60, w ∈ wsX6_differ := fun _ h => List.mem_cons_of_mem _ (List.mem_append_right _ (h))
theorem ggX6_differ_X6_isPerson : GoodIn wsX6_differ wsX6_isPerson := goodIn_sub (List.forall_mem_cons.mpr ⟨(pl_wsX6_differ_wsX6_differ_r1 _ (List.mem_of_getElem? (i := 7) rfl)), (fun w h => (List.mem_append.mp h).elim ((List.forall_mem_cons.mpr ⟨(pl_wsX6_differ_wsX6_differ_r1 _ (List.mem_of_getElem? (i := 8) rfl)), List.forall_mem_cons.mpr ⟨(pl_wsX6_differ_wsX6_differ_r1 _ (List.mem_of_getElem? (i := 9) rfl)), List.forall_mem_cons.mpr ⟨(pl_wsX6_differ_wsX6_differ_r1 _ (List.mem_of_getElem? (i := 10) rfl)), List.forall_mem_cons.mpr ⟨(pl_wsX6_differ_wsX6_differ_r1 _ (List.mem_of_getElem? (i := 6) rfl)), List.forall_mem_cons.mpr ⟨(pl_wsX6_differ_wsX6_differ_r1 _ (List.mem_of_getElem? (i := 11) rfl)), fun _ h => absurd h List.not_mem_nil⟩⟩⟩⟩⟩) w) (pl_wsX6_differ_wsX60 w))⟩) (by decide +kernel)
set_option maxRecDepth 20000 in
theorem gX6_differ_X6_isPerson : GoodIn wsX6_differ (wsV RX6 124 RX6 yX6_isPerson wsX6_isPerson) := goodIn_app (goodIn_sub (List.forall_mem_cons.mpr ⟨(pl_wsX6_differ_wsX6_differ_r1 _ (List.mem_of_getElem? (i := 3) rfl)), List.forall_mem_cons.mpr ⟨(pl_wsX6_differ_wsX6_differ_r1 _ (List.mem_of_getElem? (i := 4) rfl)), List.forall_mem_cons.mpr ⟨(pl_wsX6_differ_wsX6_differ_r1 _ (List.mem_of_getElem? (i := 5) rfl)), List.forall_mem_cons.mpr ⟨(pl_wsX6_differ_wsX6_differ_r1 _ (List.mem_of_getElem? (i := 6) rfl)), fun _ h => absurd h List.not_mem_nil⟩⟩⟩⟩) (by decide +kernel)) ggX6_differ_X6_isPerson
set_option maxRecDepth 20000 in
theorem pl_wsX6_differ_wsX6_differ_r2 : ∀ w ∈ wsX6_differ_r2, w ∈ wsX6_differ := fun _ h => List.mem_cons_of_mem _ (List.mem_append_left _ (List.mem_append_right _ (List.mem_append_left _ (h))))
theorem ggX6_differ_X6_loadIf : GoodIn wsX6_differ wsX6_loadIf := goodIn_sub (List.forall_mem_cons.mpr ⟨(pl_wsX6_differ_wsX6_differ_r1 _ (List.mem_of_getElem? (i := 15) rfl)), (fun w h => (List.mem_append.mp h).elim ((List.forall_mem_cons.mpr ⟨(pl_wsX6_differ_wsX6_differ_r1 _ (List.mem_of_getElem? (i := 16) rfl)), List.forall_mem_cons.mpr ⟨(pl_wsX6_differ_wsX6_differ_r1 _ (List.mem_of_getElem? (i := 17) rfl)), List.forall_mem_cons.mpr ⟨(pl_wsX6_differ_wsX6_differ_r1 _ (List.mem_of_getElem? (i := 18) rfl)), List.forall_mem_cons.mpr ⟨(pl_wsX6_differ_wsX6_differ_r1 _ (List.mem_of_getElem? (i := 6) rfl)), List.forall_mem_cons.mpr ⟨(pl_wsX6_differ_wsX6_differ_r1 _ (List.mem_of_getElem? (i := 19) rfl)), List.forall_mem_cons.mpr ⟨(pl_wsX6_differ_wsX6_differ_r1 _ (List.mem_of_getElem? (i := 20) rfl)), List.forall_mem_cons.mpr ⟨(pl_wsX6_differ_wsX6_differ_r1 _ (List.mem_of_getElem? (i := 9) rfl)), List.forall_mem_cons.mpr ⟨(pl_wsX6_differ_wsX6_differ_r1 _ (List.mem_of_getElem? (i := 10) rfl)), List.forall_mem_cons.mpr ⟨(pl_wsX6_differ_wsX6_differ_r1 _ (List.mem_of_getElem? (i := 11) rfl)), List.forall_mem_cons.mpr ⟨(pl_wsX6_differ_wsX6_differ_r1 _ (List.mem_of_getElem? (i := 21) rfl)), List.forall_mem_cons.mpr ⟨(pl_wsX6_differ_wsX6_differ_r1 _ (List.mem_of_getElem? (i := 22) rfl)), List.forall_mem_cons.mpr ⟨(pl_wsX6_differ_wsX6_differ_r1 _ (List.mem_of_getElem? (i := 23) rfl)), List.forall_mem_cons.mpr ⟨(pl_wsX6_differ_wsX6_differ_r2 _ (List.mem_of_getElem? (i := 0) rfl)), List.forall_mem_cons.mpr ⟨(pl_wsX6_differ_wsX6_differ_r2 _ (List.mem_of_getElem? (i := 1) rfl)), List.forall_mem_cons.mpr ⟨(pl_wsX6_differ_wsX6_differ_r2 _ (List.mem_of_getElem? (i := 2) rfl)), List.forall_mem_cons.mpr ⟨(pl_wsX6_differ_wsX6_differ_r2 _ (List.mem_of_getElem? (i := 3) rfl)), List.forall_mem_cons.mpr ⟨(pl_wsX6_differ_wsX6_differ_r1 _ (List.mem_of_getElem? (i := 0) rfl)), List.forall_mem_cons.mpr ⟨(pl_wsX6_differ_wsX6_differ_r2 _ (List.mem_of_getElem? (i := 4) rfl)), List.forall_mem_cons.mpr ⟨(pl_wsX6_differ_wsX6_differ_r2 _ (List.mem_of_getElem? (i := 5) rfl)), List.forall_mem_cons.mpr ⟨(pl_wsX6_differ_wsX6_differ_r2 _ (List.mem_of_getElem? (i := 6) rfl)), List.forall_mem_cons.mpr ⟨(pl_wsX6_differ_wsX6_differ_r2 _ (List.mem_of_getElem? (i := 7) rfl)), List.forall_mem_cons.mpr ⟨(pl_wsX6_differ_wsX6_differ_r2 _ (List.mem_of_getElem? (i := 8) rfl)), fun _ h => absurd h List.not_mem_nil⟩⟩⟩⟩⟩⟩⟩⟩⟩⟩⟩⟩⟩⟩⟩⟩⟩⟩⟩⟩⟩⟩) w) (pl_wsX6_differ_wsX60 w))⟩) (by decide +kernel)
set_option maxRecDepth 20000 in
theorem gX6_differ_X6_loadIf : GoodIn wsX6_differ (wsV RX6 219 RX6 yX6_loadIf wsX6_loadIf) := goodIn_app (goodIn_sub (List.forall_mem_cons.mpr ⟨(pl_wsX6_differ_wsX6_differ_r1 _ (List.mem_of_getElem? (i := 12) rfl)), List.forall_mem_cons.mpr ⟨(pl_wsX6_differ_wsX6_differ_r1 _ (List.mem_of_getElem? (i := 13) rfl)), List.forall_mem_cons.mpr ⟨(pl_wsX6_differ_wsX6_differ_r1 _ (List.mem_of_getElem? (i := 14) rfl)), List.forall_mem_cons.mpr ⟨(pl_wsX6_differ_wsX6_differ_r1 _ (List.mem_of_getElem? (i := 6) rfl)), fun _ h => absurd h List.not_mem_nil⟩⟩⟩⟩) (by decide +kernel)) ggX6_differ_X6_loadIf
set_option maxRecDepth 20000 in
theorem ggX6_differ_X6_refuse : GoodIn wsX6_differ wsX6_refuse := goodIn_sub (List.forall_mem_cons.mpr ⟨(pl_wsX6_differ_wsX6_differ_r2 _ (List.mem_of_getElem? (i := 12) rfl)), (fun w h => (List.mem_append.mp h).elim ((List.forall_mem_cons.mpr ⟨(pl_wsX6_differ_wsX6_differ_r2 _ (List.mem_of_getElem? (i := 13) rfl)), fun _ h => absurd h List.not_mem_nil⟩) w) (pl_wsX6_differ_wsX60 w))⟩) (by decide +kernel)
set_option maxRecDepth 20000 in
theorem gX6_differ_X6_refuse : GoodIn wsX6_differ (wsV RX6 101 RX6 yX6_refuse wsX6_refuse) := goodIn_app (goodIn_sub (List.forall_mem_cons.mpr ⟨(pl_wsX6_differ_wsX6_differ_r2 _ (List.mem_of_getElem? (i := 9) rfl)), List.forall_mem_cons.mpr ⟨(pl_wsX6_differ_wsX6_differ_r2 _ (List.mem_of_getElem? (i := 10) rfl)), List.forall_mem_cons.mpr ⟨(pl_wsX6_differ_wsX6_differ_r2 _ (List.mem_of_getElem? (i := 11) rfl)), List.forall_mem_cons.mpr ⟨(pl_wsX6_differ_wsX6_differ_r1 _ (List.mem_of_getElem? (i := 6) rfl)), fun _ h => absurd h List.not_mem_nil⟩⟩⟩⟩) (by decide +kernel)) ggX6_differ_X6_refuse
set_option maxRecDepth 20000 in
theorem ggX6_differ_X6_cell : GoodIn wsX6_differ wsX6_cell := goodIn_sub (List.forall_mem_cons.mpr ⟨(pl_wsX6_differ_wsX6_differ_r2 _ (List.mem_of_getElem? (i := 17) rfl)), (fun w h => (List.mem_append.mp h).elim ((List.forall_mem_cons.mpr ⟨(pl_wsX6_differ_wsX6_differ_r1 _ (List.mem_of_getElem? (i := 8) rfl)), fun _ h => absurd h List.not_mem_nil⟩) w) (pl_wsX6_differ_wsX60 w))⟩) (by decide +kernel)
set_option maxRecDepth 20000 in
theorem gX6_differ_X6_cell : GoodIn wsX6_differ (wsV RX6 88 RX6 yX6_cell wsX6_cell) := goodIn_app (goodIn_sub (List.forall_mem_cons.mpr ⟨(pl_wsX6_differ_wsX6_differ_r2 _ (List.mem_of_getElem? (i := 14) rfl)), List.forall_mem_cons.mpr ⟨(pl_wsX6_differ_wsX6_differ_r2 _ (List.mem_of_getElem? (i := 15) rfl)), List.forall_mem_cons.mpr ⟨(pl_wsX6_differ_wsX6_differ_r2 _ (List.mem_of_getElem? (i := 16) rfl)), List.forall_mem_cons.mpr ⟨(pl_wsX6_differ_wsX6_differ_r1 _ (List.mem_of_getElem? (i := 6) rfl)), fun _ h => absurd h List.not_mem_nil⟩⟩⟩⟩) (by decide +kernel)) ggX6_differ_X6_cell
set_option maxRecDepth 20000 in
theorem ggX6_differ_X6_faces : GoodIn wsX6_differ wsX6_faces := goodIn_sub (List.forall_mem_cons.mpr ⟨(pl_wsX6_differ_wsX6_differ_r2 _ (List.mem_of_getElem? (i := 21) rfl)), (fun w h => (List.mem_append.mp h).elim ((List.forall_mem_cons.mpr ⟨(pl_wsX6_differ_wsX6_differ_r1 _ (List.mem_of_getElem? (i := 8) rfl)), fun _ h => absurd h List.not_mem_nil⟩) w) (pl_wsX6_differ_wsX60 w))⟩) (by decide +kernel)
set_option maxRecDepth 20000 in
theorem gX6_differ_X6_faces : GoodIn wsX6_differ (wsV RX6 192 RX6 yX6_faces wsX6_faces) := goodIn_app (goodIn_sub (List.forall_mem_cons.mpr ⟨(pl_wsX6_differ_wsX6_differ_r2 _ (List.mem_of_getElem? (i := 18) rfl)), List.forall_mem_cons.mpr ⟨(pl_wsX6_differ_wsX6_differ_r2 _ (List.mem_of_getElem? (i := 19) rfl)), List.forall_mem_cons.mpr ⟨(pl_wsX6_differ_wsX6_differ_r2 _ (List.mem_of_getElem? (i := 20) rfl)), List.forall_mem_cons.mpr ⟨(pl_wsX6_differ_wsX6_differ_r1 _ (List.mem_of_getElem? (i := 6) rfl)), fun _ h => absurd h List.not_mem_nil⟩⟩⟩⟩) (by decide +kernel)) ggX6_differ_X6_faces
set_option maxRecDepth 20000 in
theorem pl_wsX6_differ_wsX6_differ_r3 : ∀ w ∈ wsX6_differ_r3, w ∈ wsX6_differ := fun _ h => List.mem_cons_of_mem _ (List.mem_append_left _ (List.mem_append_right _ (List.mem_append_right _ (List.mem_append_left _ (h)))))
theorem ggX6_differ_X6_start : GoodIn wsX6_differ wsX6_start := goodIn_sub (List.forall_mem_cons.mpr ⟨(pl_wsX6_differ_wsX6_differ_r3 _ (List.mem_of_getElem? (i := 1) rfl)), (fun w h => (List.mem_append.mp h).elim ((List.forall_mem_cons.mpr ⟨(pl_wsX6_differ_wsX6_differ_r1 _ (List.mem_of_getElem? (i := 1) rfl)), List.forall_mem_cons.mpr ⟨(pl_wsX6_differ_wsX6_differ_r1 _ (List.mem_of_getElem? (i := 2) rfl)), List.forall_mem_cons.mpr ⟨(pl_wsX6_differ_wsX6_differ_r3 _ (List.mem_of_getElem? (i := 2) rfl)), List.forall_mem_cons.mpr ⟨(pl_wsX6_differ_wsX6_differ_r3 _ (List.mem_of_getElem? (i := 3) rfl)), fun _ h => absurd h List.not_mem_nil⟩⟩⟩⟩) w) (pl_wsX6_differ_wsX60 w))⟩) (by decide +kernel)
set_option maxRecDepth 20000 in
theorem gX6_differ_X6_start : GoodIn wsX6_differ (wsV RX6 195 RX6 yX6_start wsX6_start) := goodIn_app (goodIn_sub (List.forall_mem_cons.mpr ⟨(pl_wsX6_differ_wsX6_differ_r2 _ (List.mem_of_getElem? (i := 22) rfl)), List.forall_mem_cons.mpr ⟨(pl_wsX6_differ_wsX6_differ_r2 _ (List.mem_of_getElem? (i := 23) rfl)), List.forall_mem_cons.mpr ⟨(pl_wsX6_differ_wsX6_differ_r3 _ (List.mem_of_getElem? (i := 0) rfl)), List.forall_mem_cons.mpr ⟨(pl_wsX6_differ_wsX6_differ_r1 _ (List.mem_of_getElem? (i := 6) rfl)), fun _ h => absurd h List.not_mem_nil⟩⟩⟩⟩) (by decide +kernel)) ggX6_differ_X6_start
set_option maxRecDepth 20000 in
theorem pl_wsX6_differ_wsX6_differ_r4 : ∀ w ∈ wsX6_differ_r4, w ∈ wsX6_differ := fun _ h => List.mem_cons_of_mem _ (List.mem_append_left _ (List.mem_append_right _ (List.mem_append_right _ (List.mem_append_right _ (h)))))
theorem ggX6_differ_X6_step : GoodIn wsX6_differ wsX6_step := goodIn_sub (List.forall_mem_cons.mpr ⟨(pl_wsX6_differ_wsX6_differ_r3 _ (List.mem_of_getElem? (i := 7) rfl)), (fun w h => (List.mem_append.mp h).elim ((fun w h => (List.mem_append.mp h).elim ((List.forall_mem_cons.mpr ⟨(pl_wsX6_differ_wsX6_differ_r3 _ (List.mem_of_getElem? (i := 3) rfl)), List.forall_mem_cons.mpr ⟨(pl_wsX6_differ_wsX6_differ_r1 _ (List.mem_of_getElem? (i := 1) rfl)), List.forall_mem_cons.mpr ⟨(pl_wsX6_differ_wsX6_differ_r1 _ (List.mem_of_getElem? (i := 2) rfl)), List.forall_mem_cons.mpr ⟨(pl_wsX6_differ_wsX6_differ_r3 _ (List.mem_of_getElem? (i := 8) rfl)), List.forall_mem_cons.mpr ⟨(pl_wsX6_differ_wsX6_differ_r3 _ (List.mem_of_getElem? (i := 2) rfl)), List.forall_mem_cons.mpr ⟨(pl_wsX6_differ_wsX6_differ_r3 _ (List.mem_of_getElem? (i := 9) rfl)), List.forall_mem_cons.mpr ⟨(pl_wsX6_differ_wsX6_differ_r3 _ (List.mem_of_getElem? (i := 10) rfl)), List.forall_mem_cons.mpr ⟨(pl_wsX6_differ_wsX6_differ_r3 _ (List.mem_of_getElem? (i := 11) rfl)), List.forall_mem_cons.mpr ⟨(pl_wsX6_differ_wsX6_differ_r3 _ (List.mem_of_getElem? (i := 12) rfl)), List.forall_mem_cons.mpr ⟨(pl_wsX6_differ_wsX6_differ_r3 _ (List.mem_of_getElem? (i := 13) rfl)), List.forall_mem_cons.mpr ⟨(pl_wsX6_differ_wsX6_differ_r1 _ (List.mem_of_getElem? (i := 6) rfl)), List.forall_mem_cons.mpr ⟨(pl_wsX6_differ_wsX6_differ_r3 _ (List.mem_of_getElem? (i := 14) rfl)), List.forall_mem_cons.mpr ⟨(pl_wsX6_differ_wsX6_differ_r1 _ (List.mem_of_getElem? (i := 8) rfl)), List.forall_mem_cons.mpr ⟨(pl_wsX6_differ_wsX6_differ_r1 _ (List.mem_of_getElem? (i := 9) rfl)), List.forall_mem_cons.mpr ⟨(pl_wsX6_differ_wsX6_differ_r1 _ (List.mem_of_getElem? (i := 10) rfl)), List.forall_mem_cons.mpr ⟨(pl_wsX6_differ_wsX6_differ_r1 _ (List.mem_of_getElem? (i := 11) rfl)), List.forall_mem_cons.mpr ⟨(pl_wsX6_differ_wsX6_differ_r3 _ (List.mem_of_getElem? (i := 15) rfl)), List.forall_mem_cons.mpr ⟨(pl_wsX6_differ_wsX6_differ_r3 _ (List.mem_of_getElem? (i := 16) rfl)), List.forall_mem_cons.mpr ⟨(pl_wsX6_differ_wsX6_differ_r3 _ (List.mem_of_getElem? (i := 17) rfl)), List.forall_mem_cons.mpr ⟨(pl_wsX6_differ_wsX6_differ_r3 _ (List.mem_of_getElem? (i := 18) rfl)), List.forall_mem_cons.mpr ⟨(pl_wsX6_differ_wsX6_differ_r3 _ (List.mem_of_getElem? (i := 19) rfl)), List.forall_mem_cons.mpr ⟨(pl_wsX6_differ_wsX6_differ_r3 _ (List.mem_of_getElem? (i := 20) rfl)), List.forall_mem_cons.mpr ⟨(pl_wsX6_differ_wsX6_differ_r3 _ (List.mem_of_getElem? (i := 21) rfl)), List.forall_mem_cons.mpr ⟨(pl_wsX6_differ_wsX6_differ_r3 _ (List.mem_of_getElem? (i := 22) rfl)), fun _ h => absurd h List.not_mem_nil⟩⟩⟩⟩⟩⟩⟩⟩⟩⟩⟩⟩⟩⟩⟩⟩⟩⟩⟩⟩⟩⟩⟩⟩) w) ((List.forall_mem_cons.mpr ⟨(pl_wsX6_differ_wsX6_differ_r3 _ (List.mem_of_getElem? (i := 23) rfl)), List.forall_mem_cons.mpr ⟨(pl_wsX6_differ_wsX6_differ_r4 _ (List.mem_of_getElem? (i := 0) rfl)), List.forall_mem_cons.mpr ⟨(pl_wsX6_differ_wsX6_differ_r4 _ (List.mem_of_getElem? (i := 1) rfl)), List.forall_mem_cons.mpr ⟨(pl_wsX6_differ_wsX6_differ_r4 _ (List.mem_of_getElem? (i := 2) rfl)), List.forall_mem_cons.mpr ⟨(pl_wsX6_differ_wsX6_differ_r4 _ (List.mem_of_getElem? (i := 3) rfl)), List.forall_mem_cons.mpr ⟨(pl_wsX6_differ_wsX6_differ_r4 _ (List.mem_of_getElem? (i := 4) rfl)), List.forall_mem_cons.mpr ⟨(pl_wsX6_differ_wsX6_differ_r4 _ (List.mem_of_getElem? (i := 5) rfl)), List.forall_mem_cons.mpr ⟨(pl_wsX6_differ_wsX6_differ_r4 _ (List.mem_of_getElem? (i := 6) rfl)), List.forall_mem_cons.mpr ⟨(pl_wsX6_differ_wsX6_differ_r4 _ (List.mem_of_getElem? (i := 7) rfl)), List.forall_mem_cons.mpr ⟨(pl_wsX6_differ_wsX6_differ_r4 _ (List.mem_of_getElem? (i := 8) rfl)), List.forall_mem_cons.mpr ⟨(pl_wsX6_differ_wsX6_differ_r4 _ (List.mem_of_getElem? (i := 9) rfl)), List.forall_mem_cons.mpr ⟨(pl_wsX6_differ_wsX6_differ_r4 _ (List.mem_of_getElem? (i := 10) rfl)), List.forall_mem_cons.mpr ⟨(pl_wsX6_differ_wsX6_differ_r4 _ (List.mem_of_getElem? (i := 11) rfl)), List.forall_mem_cons.mpr ⟨(pl_wsX6_differ_wsX6_differ_r4 _ (List.mem_of_getElem? (i := 12) rfl)), List.forall_mem_cons.mpr ⟨(pl_wsX6_differ_wsX6_differ_r4 _ (List.mem_of_getElem? (i := 13) rfl)), fun _ h => absurd h List.not_mem_nil⟩⟩⟩⟩⟩⟩⟩⟩⟩⟩⟩⟩⟩⟩⟩) w)) w) (pl_wsX6_differ_wsX60 w))⟩) (by decide +kernel)
set_option maxRecDepth 20000 in
theorem gX6_differ_X6_step : GoodIn wsX6_differ (wsV RX6 199 RX6 yX6_step wsX6_step) := goodIn_app (goodIn_sub (List.forall_mem_cons.mpr ⟨(pl_wsX6_differ_wsX6_differ_r3 _ (List.mem_of_getElem? (i := 4) rfl)), List.forall_mem_cons.mpr ⟨(pl_wsX6_differ_wsX6_differ_r3 _ (List.mem_of_getElem? (i := 5) rfl)), List.forall_mem_cons.mpr ⟨(pl_wsX6_differ_wsX6_differ_r3 _ (List.mem_of_getElem? (i := 6) rfl)), List.forall_mem_cons.mpr ⟨(pl_wsX6_differ_wsX6_differ_r1 _ (List.mem_of_getElem? (i := 6) rfl)), fun _ h => absurd h List.not_mem_nil⟩⟩⟩⟩) (by decide +kernel)) ggX6_differ_X6_step
theorem dX6_differ_0 : decode cX6_differ 0 = .ok (.aload_n 0, 1) := by decide +kernel
theorem dX6_differ_1 : decode cX6_differ 1 = .ok (.aload_n 0, 1) := by decide +kernel
theorem dX6_differ_2 : decode cX6_differ 2 = .ok (.iload_n 3, 1) := by decide +kernel
theorem dX6_differ_3 : decode cX6_differ 3 = .ok (.invokevirtual 124, 3) := by decide +kernel
theorem dX6_differ_6 : decode cX6_differ 6 = .ok (.ifCond .eq 22, 3) := by decide +kernel
theorem dX6_differ_9 : decode cX6_differ 9 = .ok (.aload_n 0, 1) := by decide +kernel
theorem dX6_differ_10 : decode cX6_differ 10 = .ok (.iload 4, 2) := by decide +kernel
theorem dX6_differ_12 : decode cX6_differ 12 = .ok (.invokevirtual 124, 3) := by decide +kernel
theorem dX6_differ_15 : decode cX6_differ 15 = .ok (.ifCond .eq 13, 3) := by decide +kernel
theorem dX6_differ_18 : decode cX6_differ 18 = .ok (.iload_n 3, 1) := by decide +kernel
theorem dX6_differ_19 : decode cX6_differ 19 = .ok (.iload 4, 2) := by decide +kernel
theorem dX6_differ_21 : decode cX6_differ 21 = .ok (.if_icmp .eq 7, 3) := by decide +kernel
theorem dX6_differ_24 : decode cX6_differ 24 = .ok (.iconst 1, 1) := by decide +kernel
theorem dX6_differ_25 : decode cX6_differ 25 = .ok (.goto 4, 3) := by decide +kernel
theorem dX6_differ_28 : decode cX6_differ 28 = .ok (.iconst 0, 1) := by decide +kernel
theorem dX6_differ_29 : decode cX6_differ 29 = .ok (.iload_n 1, 1) := by decide +kernel
theorem dX6_differ_30 : decode cX6_differ 30 = .ok (.iload_n 2, 1) := by decide +kernel
theorem dX6_differ_31 : decode cX6_differ 31 = .ok (.invokevirtual 219, 3) := by decide +kernel
theorem dX6_differ_34 : decode cX6_differ 34 = .ok (.istore 5, 2) := by decide +kernel
theorem dX6_differ_36 : decode cX6_differ 36 = .ok (.iload 5, 2) := by decide +kernel
theorem dX6_differ_38 : decode cX6_differ 38 = .ok (.ifCond .ge 10, 3) := by decide +kernel
theorem dX6_differ_41 : decode cX6_differ 41 = .ok (.aload_n 0, 1) := by decide +kernel
theorem dX6_differ_42 : decode cX6_differ 42 = .ok (.iload 5, 2) := by decide +kernel
theorem dX6_differ_44 : decode cX6_differ 44 = .ok (.invokevirtual 101, 3) := by decide +kernel
theorem dX6_differ_47 : decode cX6_differ 47 = .ok (.ireturn, 1) := by decide +kernel
theorem dX6_differ_48 : decode cX6_differ 48 = .ok (.aload_n 0, 1) := by decide +kernel
theorem dX6_differ_49 : decode cX6_differ 49 = .ok (.iconst 0, 1) := by decide +kernel
theorem dX6_differ_50 : decode cX6_differ 50 = .ok (.aload_n 0, 1) := by decide +kernel
theorem dX6_differ_51 : decode cX6_differ 51 = .ok (.iload_n 3, 1) := by decide +kernel
theorem dX6_differ_52 : decode cX6_differ 52 = .ok (.invokevirtual 88, 3) := by decide +kernel
theorem dX6_differ_55 : decode cX6_differ 55 = .ok (.aload_n 0, 1) := by decide +kernel
theorem dX6_differ_56 : decode cX6_differ 56 = .ok (.iload_n 3, 1) := by decide +kernel
theorem dX6_differ_57 : decode cX6_differ 57 = .ok (.invokevirtual 192, 3) := by decide +kernel
theorem dX6_differ_60 : decode cX6_differ 60 = .ok (.invokevirtual 195, 3) := by decide +kernel
theorem dX6_differ_63 : decode cX6_differ 63 = .ok (.aload_n 0, 1) := by decide +kernel
theorem dX6_differ_64 : decode cX6_differ 64 = .ok (.iconst 1, 1) := by decide +kernel
theorem dX6_differ_65 : decode cX6_differ 65 = .ok (.aload_n 0, 1) := by decide +kernel
theorem dX6_differ_66 : decode cX6_differ 66 = .ok (.iload_n 3, 1) := by decide +kernel
theorem dX6_differ_67 : decode cX6_differ 67 = .ok (.invokevirtual 88, 3) := by decide +kernel
theorem dX6_differ_70 : decode cX6_differ 70 = .ok (.aload_n 0, 1) := by decide +kernel
theorem dX6_differ_71 : decode cX6_differ 71 = .ok (.iload_n 3, 1) := by decide +kernel
theorem dX6_differ_72 : decode cX6_differ 72 = .ok (.invokevirtual 192, 3) := by decide +kernel
theorem dX6_differ_75 : decode cX6_differ 75 = .ok (.invokevirtual 195, 3) := by decide +kernel
theorem dX6_differ_78 : decode cX6_differ 78 = .ok (.iconst 0, 1) := by decide +kernel
theorem dX6_differ_79 : decode cX6_differ 79 = .ok (.istore 6, 2) := by decide +kernel
theorem dX6_differ_81 : decode cX6_differ 81 = .ok (.iload 6, 2) := by decide +kernel
theorem dX6_differ_83 : decode cX6_differ 83 = .ok (.iload_n 2, 1) := by decide +kernel
theorem dX6_differ_84 : decode cX6_differ 84 = .ok (.if_icmp .ge 75, 3) := by decide +kernel
theorem dX6_differ_87 : decode cX6_differ 87 = .ok (.aload_n 0, 1) := by decide +kernel
theorem dX6_differ_88 : decode cX6_differ 88 = .ok (.iconst 0, 1) := by decide +kernel
theorem dX6_differ_89 : decode cX6_differ 89 = .ok (.iload_n 3, 1) := by decide +kernel
theorem dX6_differ_90 : decode cX6_differ 90 = .ok (.aload_n 0, 1) := by decide +kernel
theorem dX6_differ_91 : decode cX6_differ 91 = .ok (.getfield 51, 3) := by decide +kernel
theorem dX6_differ_94 : decode cX6_differ 94 = .ok (.iload 6, 2) := by decide +kernel
theorem dX6_differ_96 : decode cX6_differ 96 = .ok (.iaload, 1) := by decide +kernel
theorem dX6_differ_97 : decode cX6_differ 97 = .ok (.iload 6, 2) := by decide +kernel
theorem dX6_differ_99 : decode cX6_differ 99 = .ok (.invokevirtual 199, 3) := by decide +kernel
theorem dX6_differ_102 : decode cX6_differ 102 = .ok (.aload_n 0, 1) := by decide +kernel
theorem dX6_differ_103 : decode cX6_differ 103 = .ok (.iconst 1, 1) := by decide +kernel
theorem dX6_differ_104 : decode cX6_differ 104 = .ok (.iload 4, 2) := by decide +kernel
theorem dX6_differ_106 : decode cX6_differ 106 = .ok (.aload_n 0, 1) := by decide +kernel
theorem dX6_differ_107 : decode cX6_differ 107 = .ok (.getfield 51, 3) := by decide +kernel
theorem dX6_differ_110 : decode cX6_differ 110 = .ok (.iload 6, 2) := by decide +kernel
theorem dX6_differ_112 : decode cX6_differ 112 = .ok (.iaload, 1) := by decide +kernel
theorem dX6_differ_113 : decode cX6_differ 113 = .ok (.iload 6, 2) := by decide +kernel
theorem dX6_differ_115 : decode cX6_differ 115 = .ok (.invokevirtual 199, 3) := by decide +kernel
theorem dX6_differ_118 : decode cX6_differ 118 = .ok (.aload_n 0, 1) := by decide +kernel
theorem dX6_differ_119 : decode cX6_differ 119 = .ok (.getfield 33, 3) := by decide +kernel
theorem dX6_differ_122 : decode cX6_differ 122 = .ok (.iconst 0, 1) := by decide +kernel
theorem dX6_differ_123 : decode cX6_differ 123 = .ok (.iaload, 1) := by decide +kernel
theorem dX6_differ_124 : decode cX6_differ 124 = .ok (.aload_n 0, 1) := by decide +kernel
theorem dX6_differ_125 : decode cX6_differ 125 = .ok (.getfield 33, 3) := by decide +kernel
theorem dX6_differ_128 : decode cX6_differ 128 = .ok (.iconst 1, 1) := by decide +kernel
theorem dX6_differ_129 : decode cX6_differ 129 = .ok (.iaload, 1) := by decide +kernel
theorem dX6_differ_130 : decode cX6_differ 130 = .ok (.if_icmp .ne 18, 3) := by decide +kernel
theorem dX6_differ_133 : decode cX6_differ 133 = .ok (.aload_n 0, 1) := by decide +kernel
theorem dX6_differ_134 : decode cX6_differ 134 = .ok (.getfield 36, 3) := by decide +kernel
theorem dX6_differ_137 : decode cX6_differ 137 = .ok (.iconst 0, 1) := by decide +kernel
theorem dX6_differ_138 : decode cX6_differ 138 = .ok (.iaload, 1) := by decide +kernel
theorem dX6_differ_139 : decode cX6_differ 139 = .ok (.aload_n 0, 1) := by decide +kernel
theorem dX6_differ_140 : decode cX6_differ 140 = .ok (.getfield 36, 3) := by decide +kernel
theorem dX6_differ_143 : decode cX6_differ 143 = .ok (.iconst 1, 1) := by decide +kernel
theorem dX6_differ_144 : decode cX6_differ 144 = .ok (.iaload, 1) := by decide +kernel
theorem dX6_differ_145 : decode cX6_differ 145 = .ok (.if_icmp .eq 8, 3) := by decide +kernel
theorem dX6_differ_148 : decode cX6_differ 148 = .ok (.iload 6, 2) := by decide +kernel
theorem dX6_differ_150 : decode cX6_differ 150 = .ok (.iconst 1, 1) := by decide +kernel
theorem dX6_differ_151 : decode cX6_differ 151 = .ok (.iadd, 1) := by decide +kernel
theorem dX6_differ_152 : decode cX6_differ 152 = .ok (.ireturn, 1) := by decide +kernel
theorem dX6_differ_153 : decode cX6_differ 153 = .ok (.iinc 6 1, 3) := by decide +kernel
theorem dX6_differ_156 : decode cX6_differ 156 = .ok (.goto (-75), 3) := by decide +kernel
theorem dX6_differ_159 : decode cX6_differ 159 = .ok (.iconst (-1), 1) := by decide +kernel
theorem dX6_differ_160 : decode cX6_differ 160 = .ok (.ireturn, 1) := by decide +kernel
set_option maxRecDepth 20000 in
theorem pl_wsX6_again_wsX6_again_r1 : ∀ w ∈ wsX6_again_r1, w ∈ wsX6_again := fun _ h => List.mem_cons_of_mem _ (List.mem_append_left _ (List.mem_append_left _ (h)))
theorem pl_wsX6_again_wsX60 : ∀ w ∈ wsX60, w ∈ wsX6_again := fun _ h => List.mem_cons_of_mem _ (List.mem_append_right _ (h))
theorem ggX6_again_X6_isPerson : GoodIn wsX6_again wsX6_isPerson := goodIn_sub (List.forall_mem_cons.mpr ⟨(pl_wsX6_again_wsX6_again_r1 _ (List.mem_of_getElem? (i := 7) rfl)), (fun w h => (List.mem_append.mp h).elim ((List.forall_mem_cons.mpr ⟨(pl_wsX6_again_wsX6_again_r1 _ (List.mem_of_getElem? (i := 8) rfl)), List.forall_mem_cons.mpr ⟨(pl_wsX6_again_wsX6_again_r1 _ (List.mem_of_getElem? (i := 9) rfl)), List.forall_mem_cons.mpr ⟨(pl_wsX6_again_wsX6_again_r1 _ (List.mem_of_getElem? (i := 10) rfl)), List.forall_mem_cons.mpr ⟨(pl_wsX6_again_wsX6_again_r1 _ (List.mem_of_getElem? (i := 6) rfl)), List.forall_mem_cons.mpr ⟨(pl_wsX6_again_wsX6_again_r1 _ (List.mem_of_getElem? (i := 11) rfl)), fun _ h => absurd h List.not_mem_nil⟩⟩⟩⟩⟩) w) (pl_wsX6_again_wsX60 w))⟩) (by decide +kernel)
set_option maxRecDepth 20000 in
theorem gX6_again_X6_isPerson : GoodIn wsX6_again (wsV RX6 124 RX6 yX6_isPerson wsX6_isPerson) := goodIn_app (goodIn_sub (List.forall_mem_cons.mpr ⟨(pl_wsX6_again_wsX6_again_r1 _ (List.mem_of_getElem? (i := 3) rfl)), List.forall_mem_cons.mpr ⟨(pl_wsX6_again_wsX6_again_r1 _ (List.mem_of_getElem? (i := 4) rfl)), List.forall_mem_cons.mpr ⟨(pl_wsX6_again_wsX6_again_r1 _ (List.mem_of_getElem? (i := 5) rfl)), List.forall_mem_cons.mpr ⟨(pl_wsX6_again_wsX6_again_r1 _ (List.mem_of_getElem? (i := 6) rfl)), fun _ h => absurd h List.not_mem_nil⟩⟩⟩⟩) (by decide +kernel)) ggX6_again_X6_isPerson
set_option maxRecDepth 20000 in
theorem ggX6_again_X6_isIn : GoodIn wsX6_again wsX6_isIn := goodIn_sub (List.forall_mem_cons.mpr ⟨(pl_wsX6_again_wsX6_again_r1 _ (List.mem_of_getElem? (i := 11) rfl)), (fun _ h => absurd h List.not_mem_nil)⟩) (by decide +kernel)
set_option maxRecDepth 20000 in
theorem gX6_again_X6_isIn : GoodIn wsX6_again (va_wsS RX6 76 yX6_isIn wsX6_isIn) := goodIn_app (goodIn_sub (List.forall_mem_cons.mpr ⟨(pl_wsX6_again_wsX6_again_r1 _ (List.mem_of_getElem? (i := 9) rfl)), List.forall_mem_cons.mpr ⟨(pl_wsX6_again_wsX6_again_r1 _ (List.mem_of_getElem? (i := 10) rfl)), List.forall_mem_cons.mpr ⟨(pl_wsX6_again_wsX6_again_r1 _ (List.mem_of_getElem? (i := 6) rfl)), fun _ h => absurd h List.not_mem_nil⟩⟩⟩) (by decide +kernel)) ggX6_again_X6_isIn
set_option maxRecDepth 20000 in
theorem pl_wsX6_again_wsX6_again_r2 : ∀ w ∈ wsX6_again_r2, w ∈ wsX6_again := fun _ h => List.mem_cons_of_mem _ (List.mem_append_left _ (List.mem_append_right _ (List.mem_append_left _ (h))))
theorem ggX6_again_X6_loadIf : GoodIn wsX6_again wsX6_loadIf := goodIn_sub (List.forall_mem_cons.mpr ⟨(pl_wsX6_again_wsX6_again_r1 _ (List.mem_of_getElem? (i := 15) rfl)), (fun w h => (List.mem_append.mp h).elim ((List.forall_mem_cons.mpr ⟨(pl_wsX6_again_wsX6_again_r1 _ (List.mem_of_getElem? (i := 16) rfl)), List.forall_mem_cons.mpr ⟨(pl_wsX6_again_wsX6_again_r1 _ (List.mem_of_getElem? (i := 17) rfl)), List.forall_mem_cons.mpr ⟨(pl_wsX6_again_wsX6_again_r1 _ (List.mem_of_getElem? (i := 18) rfl)), List.forall_mem_cons.mpr ⟨(pl_wsX6_again_wsX6_again_r1 _ (List.mem_of_getElem? (i := 6) rfl)), List.forall_mem_cons.mpr ⟨(pl_wsX6_again_wsX6_again_r1 _ (List.mem_of_getElem? (i := 19) rfl)), List.forall_mem_cons.mpr ⟨(pl_wsX6_again_wsX6_again_r1 _ (List.mem_of_getElem? (i := 20) rfl)), List.forall_mem_cons.mpr ⟨(pl_wsX6_again_wsX6_again_r1 _ (List.mem_of_getElem? (i := 9) rfl)), List.forall_mem_cons.mpr ⟨(pl_wsX6_again_wsX6_again_r1 _ (List.mem_of_getElem? (i := 10) rfl)), List.forall_mem_cons.mpr ⟨(pl_wsX6_again_wsX6_again_r1 _ (List.mem_of_getElem? (i := 11) rfl)), List.forall_mem_cons.mpr ⟨(pl_wsX6_again_wsX6_again_r1 _ (List.mem_of_getElem? (i := 21) rfl)), List.forall_mem_cons.mpr ⟨(pl_wsX6_again_wsX6_again_r1 _ (List.mem_of_getElem? (i := 22) rfl)), List.forall_mem_cons.mpr ⟨(pl_wsX6_again_wsX6_again_r1 _ (List.mem_of_getElem? (i := 23) rfl)), List.forall_mem_cons.mpr ⟨(pl_wsX6_again_wsX6_again_r2 _ (List.mem_of_getElem? (i := 0) rfl)), List.forall_mem_cons.mpr ⟨(pl_wsX6_again_wsX6_again_r2 _ (List.mem_of_getElem? (i := 1) rfl)), List.forall_mem_cons.mpr ⟨(pl_wsX6_again_wsX6_again_r2 _ (List.mem_of_getElem? (i := 2) rfl)), List.forall_mem_cons.mpr ⟨(pl_wsX6_again_wsX6_again_r2 _ (List.mem_of_getElem? (i := 3) rfl)), List.forall_mem_cons.mpr ⟨(pl_wsX6_again_wsX6_again_r1 _ (List.mem_of_getElem? (i := 1) rfl)), List.forall_mem_cons.mpr ⟨(pl_wsX6_again_wsX6_again_r2 _ (List.mem_of_getElem? (i := 4) rfl)), List.forall_mem_cons.mpr ⟨(pl_wsX6_again_wsX6_again_r2 _ (List.mem_of_getElem? (i := 5) rfl)), List.forall_mem_cons.mpr ⟨(pl_wsX6_again_wsX6_again_r2 _ (List.mem_of_getElem? (i := 6) rfl)), List.forall_mem_cons.mpr ⟨(pl_wsX6_again_wsX6_again_r2 _ (List.mem_of_getElem? (i := 7) rfl)), List.forall_mem_cons.mpr ⟨(pl_wsX6_again_wsX6_again_r2 _ (List.mem_of_getElem? (i := 8) rfl)), fun _ h => absurd h List.not_mem_nil⟩⟩⟩⟩⟩⟩⟩⟩⟩⟩⟩⟩⟩⟩⟩⟩⟩⟩⟩⟩⟩⟩) w) (pl_wsX6_again_wsX60 w))⟩) (by decide +kernel)
set_option maxRecDepth 20000 in
theorem gX6_again_X6_loadIf : GoodIn wsX6_again (wsV RX6 219 RX6 yX6_loadIf wsX6_loadIf) := goodIn_app (goodIn_sub (List.forall_mem_cons.mpr ⟨(pl_wsX6_again_wsX6_again_r1 _ (List.mem_of_getElem? (i := 12) rfl)), List.forall_mem_cons.mpr ⟨(pl_wsX6_again_wsX6_again_r1 _ (List.mem_of_getElem? (i := 13) rfl)), List.forall_mem_cons.mpr ⟨(pl_wsX6_again_wsX6_again_r1 _ (List.mem_of_getElem? (i := 14) rfl)), List.forall_mem_cons.mpr ⟨(pl_wsX6_again_wsX6_again_r1 _ (List.mem_of_getElem? (i := 6) rfl)), fun _ h => absurd h List.not_mem_nil⟩⟩⟩⟩) (by decide +kernel)) ggX6_again_X6_loadIf
set_option maxRecDepth 20000 in
theorem ggX6_again_X6_refuse : GoodIn wsX6_again wsX6_refuse := goodIn_sub (List.forall_mem_cons.mpr ⟨(pl_wsX6_again_wsX6_again_r2 _ (List.mem_of_getElem? (i := 12) rfl)), (fun w h => (List.mem_append.mp h).elim ((List.forall_mem_cons.mpr ⟨(pl_wsX6_again_wsX6_again_r2 _ (List.mem_of_getElem? (i := 13) rfl)), fun _ h => absurd h List.not_mem_nil⟩) w) (pl_wsX6_again_wsX60 w))⟩) (by decide +kernel)
set_option maxRecDepth 20000 in
theorem gX6_again_X6_refuse : GoodIn wsX6_again (wsV RX6 101 RX6 yX6_refuse wsX6_refuse) := goodIn_app (goodIn_sub (List.forall_mem_cons.mpr ⟨(pl_wsX6_again_wsX6_again_r2 _ (List.mem_of_getElem? (i := 9) rfl)), List.forall_mem_cons.mpr ⟨(pl_wsX6_again_wsX6_again_r2 _ (List.mem_of_getElem? (i := 10) rfl)), List.forall_mem_cons.mpr ⟨(pl_wsX6_again_wsX6_again_r2 _ (List.mem_of_getElem? (i := 11) rfl)), List.forall_mem_cons.mpr ⟨(pl_wsX6_again_wsX6_again_r1 _ (List.mem_of_getElem? (i := 6) rfl)), fun _ h => absurd h List.not_mem_nil⟩⟩⟩⟩) (by decide +kernel)) ggX6_again_X6_refuse
set_option maxRecDepth 20000 in
theorem ggX6_again_X6_cell : GoodIn wsX6_again wsX6_cell := goodIn_sub (List.forall_mem_cons.mpr ⟨(pl_wsX6_again_wsX6_again_r2 _ (List.mem_of_getElem? (i := 17) rfl)), (fun w h => (List.mem_append.mp h).elim ((List.forall_mem_cons.mpr ⟨(pl_wsX6_again_wsX6_again_r1 _ (List.mem_of_getElem? (i := 8) rfl)), fun _ h => absurd h List.not_mem_nil⟩) w) (pl_wsX6_again_wsX60 w))⟩) (by decide +kernel)
set_option maxRecDepth 20000 in
theorem gX6_again_X6_cell : GoodIn wsX6_again (wsV RX6 88 RX6 yX6_cell wsX6_cell) := goodIn_app (goodIn_sub (List.forall_mem_cons.mpr ⟨(pl_wsX6_again_wsX6_again_r2 _ (List.mem_of_getElem? (i := 14) rfl)), List.forall_mem_cons.mpr ⟨(pl_wsX6_again_wsX6_again_r2 _ (List.mem_of_getElem? (i := 15) rfl)), List.forall_mem_cons.mpr ⟨(pl_wsX6_again_wsX6_again_r2 _ (List.mem_of_getElem? (i := 16) rfl)), List.forall_mem_cons.mpr ⟨(pl_wsX6_again_wsX6_again_r1 _ (List.mem_of_getElem? (i := 6) rfl)), fun _ h => absurd h List.not_mem_nil⟩⟩⟩⟩) (by decide +kernel)) ggX6_again_X6_cell
set_option maxRecDepth 20000 in
theorem ggX6_again_X6_faces : GoodIn wsX6_again wsX6_faces := goodIn_sub (List.forall_mem_cons.mpr ⟨(pl_wsX6_again_wsX6_again_r2 _ (List.mem_of_getElem? (i := 21) rfl)), (fun w h => (List.mem_append.mp h).elim ((List.forall_mem_cons.mpr ⟨(pl_wsX6_again_wsX6_again_r1 _ (List.mem_of_getElem? (i := 8) rfl)), fun _ h => absurd h List.not_mem_nil⟩) w) (pl_wsX6_again_wsX60 w))⟩) (by decide +kernel)
set_option maxRecDepth 20000 in
theorem gX6_again_X6_faces : GoodIn wsX6_again (wsV RX6 192 RX6 yX6_faces wsX6_faces) := goodIn_app (goodIn_sub (List.forall_mem_cons.mpr ⟨(pl_wsX6_again_wsX6_again_r2 _ (List.mem_of_getElem? (i := 18) rfl)), List.forall_mem_cons.mpr ⟨(pl_wsX6_again_wsX6_again_r2 _ (List.mem_of_getElem? (i := 19) rfl)), List.forall_mem_cons.mpr ⟨(pl_wsX6_again_wsX6_again_r2 _ (List.mem_of_getElem? (i := 20) rfl)), List.forall_mem_cons.mpr ⟨(pl_wsX6_again_wsX6_again_r1 _ (List.mem_of_getElem? (i := 6) rfl)), fun _ h => absurd h List.not_mem_nil⟩⟩⟩⟩) (by decide +kernel)) ggX6_again_X6_faces
set_option maxRecDepth 20000 in
theorem pl_wsX6_again_wsX6_again_r3 : ∀ w ∈ wsX6_again_r3, w ∈ wsX6_again := fun _ h => List.mem_cons_of_mem _ (List.mem_append_left _ (List.mem_append_right _ (List.mem_append_right _ (List.mem_append_left _ (h)))))
theorem ggX6_again_X6_start : GoodIn wsX6_again wsX6_start := goodIn_sub (List.forall_mem_cons.mpr ⟨(pl_wsX6_again_wsX6_again_r3 _ (List.mem_of_getElem? (i := 1) rfl)), (fun w h => (List.mem_append.mp h).elim ((List.forall_mem_cons.mpr ⟨(pl_wsX6_again_wsX6_again_r1 _ (List.mem_of_getElem? (i := 2) rfl)), List.forall_mem_cons.mpr ⟨(pl_wsX6_again_wsX6_again_r3 _ (List.mem_of_getElem? (i := 2) rfl)), List.forall_mem_cons.mpr ⟨(pl_wsX6_again_wsX6_again_r3 _ (List.mem_of_getElem? (i := 3) rfl)), List.forall_mem_cons.mpr ⟨(pl_wsX6_again_wsX6_again_r3 _ (List.mem_of_getElem? (i := 4) rfl)), fun _ h => absurd h List.not_mem_nil⟩⟩⟩⟩) w) (pl_wsX6_again_wsX60 w))⟩) (by decide +kernel)
set_option maxRecDepth 20000 in
theorem gX6_again_X6_start : GoodIn wsX6_again (wsV RX6 195 RX6 yX6_start wsX6_start) := goodIn_app (goodIn_sub (List.forall_mem_cons.mpr ⟨(pl_wsX6_again_wsX6_again_r2 _ (List.mem_of_getElem? (i := 22) rfl)), List.forall_mem_cons.mpr ⟨(pl_wsX6_again_wsX6_again_r2 _ (List.mem_of_getElem? (i := 23) rfl)), List.forall_mem_cons.mpr ⟨(pl_wsX6_again_wsX6_again_r3 _ (List.mem_of_getElem? (i := 0) rfl)), List.forall_mem_cons.mpr ⟨(pl_wsX6_again_wsX6_again_r1 _ (List.mem_of_getElem? (i := 6) rfl)), fun _ h => absurd h List.not_mem_nil⟩⟩⟩⟩) (by decide +kernel)) ggX6_again_X6_start
set_option maxRecDepth 20000 in
theorem pl_wsX6_again_wsX6_again_r4 : ∀ w ∈ wsX6_again_r4, w ∈ wsX6_again := fun _ h => List.mem_cons_of_mem _ (List.mem_append_left _ (List.mem_append_right _ (List.mem_append_right _ (List.mem_append_right _ (h)))))
theorem ggX6_again_X6_step : GoodIn wsX6_again wsX6_step := goodIn_sub (List.forall_mem_cons.mpr ⟨(pl_wsX6_again_wsX6_again_r3 _ (List.mem_of_getElem? (i := 8) rfl)), (fun w h => (List.mem_append.mp h).elim ((fun w h => (List.mem_append.mp h).elim ((List.forall_mem_cons.mpr ⟨(pl_wsX6_again_wsX6_again_r3 _ (List.mem_of_getElem? (i := 4) rfl)), List.forall_mem_cons.mpr ⟨(pl_wsX6_again_wsX6_again_r1 _ (List.mem_of_getElem? (i := 2) rfl)), List.forall_mem_cons.mpr ⟨(pl_wsX6_again_wsX6_again_r3 _ (List.mem_of_getElem? (i := 2) rfl)), List.forall_mem_cons.mpr ⟨(pl_wsX6_again_wsX6_again_r3 _ (List.mem_of_getElem? (i := 9) rfl)), List.forall_mem_cons.mpr ⟨(pl_wsX6_again_wsX6_again_r3 _ (List.mem_of_getElem? (i := 3) rfl)), List.forall_mem_cons.mpr ⟨(pl_wsX6_again_wsX6_again_r3 _ (List.mem_of_getElem? (i := 10) rfl)), List.forall_mem_cons.mpr ⟨(pl_wsX6_again_wsX6_again_r3 _ (List.mem_of_getElem? (i := 11) rfl)), List.forall_mem_cons.mpr ⟨(pl_wsX6_again_wsX6_again_r3 _ (List.mem_of_getElem? (i := 12) rfl)), List.forall_mem_cons.mpr ⟨(pl_wsX6_again_wsX6_again_r3 _ (List.mem_of_getElem? (i := 13) rfl)), List.forall_mem_cons.mpr ⟨(pl_wsX6_again_wsX6_again_r3 _ (List.mem_of_getElem? (i := 14) rfl)), List.forall_mem_cons.mpr ⟨(pl_wsX6_again_wsX6_again_r1 _ (List.mem_of_getElem? (i := 6) rfl)), List.forall_mem_cons.mpr ⟨(pl_wsX6_again_wsX6_again_r3 _ (List.mem_of_getElem? (i := 15) rfl)), List.forall_mem_cons.mpr ⟨(pl_wsX6_again_wsX6_again_r1 _ (List.mem_of_getElem? (i := 8) rfl)), List.forall_mem_cons.mpr ⟨(pl_wsX6_again_wsX6_again_r1 _ (List.mem_of_getElem? (i := 9) rfl)), List.forall_mem_cons.mpr ⟨(pl_wsX6_again_wsX6_again_r1 _ (List.mem_of_getElem? (i := 10) rfl)), List.forall_mem_cons.mpr ⟨(pl_wsX6_again_wsX6_again_r1 _ (List.mem_of_getElem? (i := 11) rfl)), List.forall_mem_cons.mpr ⟨(pl_wsX6_again_wsX6_again_r3 _ (List.mem_of_getElem? (i := 16) rfl)), List.forall_mem_cons.mpr ⟨(pl_wsX6_again_wsX6_again_r3 _ (List.mem_of_getElem? (i := 17) rfl)), List.forall_mem_cons.mpr ⟨(pl_wsX6_again_wsX6_again_r3 _ (List.mem_of_getElem? (i := 18) rfl)), List.forall_mem_cons.mpr ⟨(pl_wsX6_again_wsX6_again_r3 _ (List.mem_of_getElem? (i := 19) rfl)), List.forall_mem_cons.mpr ⟨(pl_wsX6_again_wsX6_again_r3 _ (List.mem_of_getElem? (i := 20) rfl)), List.forall_mem_cons.mpr ⟨(pl_wsX6_again_wsX6_again_r3 _ (List.mem_of_getElem? (i := 21) rfl)), List.forall_mem_cons.mpr ⟨(pl_wsX6_again_wsX6_again_r3 _ (List.mem_of_getElem? (i := 22) rfl)), List.forall_mem_cons.mpr ⟨(pl_wsX6_again_wsX6_again_r3 _ (List.mem_of_getElem? (i := 23) rfl)), fun _ h => absurd h List.not_mem_nil⟩⟩⟩⟩⟩⟩⟩⟩⟩⟩⟩⟩⟩⟩⟩⟩⟩⟩⟩⟩⟩⟩⟩⟩) w) ((List.forall_mem_cons.mpr ⟨(pl_wsX6_again_wsX6_again_r4 _ (List.mem_of_getElem? (i := 0) rfl)), List.forall_mem_cons.mpr ⟨(pl_wsX6_again_wsX6_again_r4 _ (List.mem_of_getElem? (i := 1) rfl)), List.forall_mem_cons.mpr ⟨(pl_wsX6_again_wsX6_again_r4 _ (List.mem_of_getElem? (i := 2) rfl)), List.forall_mem_cons.mpr ⟨(pl_wsX6_again_wsX6_again_r4 _ (List.mem_of_getElem? (i := 3) rfl)), List.forall_mem_cons.mpr ⟨(pl_wsX6_again_wsX6_again_r4 _ (List.mem_of_getElem? (i := 4) rfl)), List.forall_mem_cons.mpr ⟨(pl_wsX6_again_wsX6_again_r4 _ (List.mem_of_getElem? (i := 5) rfl)), List.forall_mem_cons.mpr ⟨(pl_wsX6_again_wsX6_again_r4 _ (List.mem_of_getElem? (i := 6) rfl)), List.forall_mem_cons.mpr ⟨(pl_wsX6_again_wsX6_again_r4 _ (List.mem_of_getElem? (i := 7) rfl)), List.forall_mem_cons.mpr ⟨(pl_wsX6_again_wsX6_again_r4 _ (List.mem_of_getElem? (i := 8) rfl)), List.forall_mem_cons.mpr ⟨(pl_wsX6_again_wsX6_again_r4 _ (List.mem_of_getElem? (i := 9) rfl)), List.forall_mem_cons.mpr ⟨(pl_wsX6_again_wsX6_again_r4 _ (List.mem_of_getElem? (i := 10) rfl)), List.forall_mem_cons.mpr ⟨(pl_wsX6_again_wsX6_again_r4 _ (List.mem_of_getElem? (i := 11) rfl)), List.forall_mem_cons.mpr ⟨(pl_wsX6_again_wsX6_again_r4 _ (List.mem_of_getElem? (i := 12) rfl)), List.forall_mem_cons.mpr ⟨(pl_wsX6_again_wsX6_again_r4 _ (List.mem_of_getElem? (i := 13) rfl)), List.forall_mem_cons.mpr ⟨(pl_wsX6_again_wsX6_again_r4 _ (List.mem_of_getElem? (i := 14) rfl)), fun _ h => absurd h List.not_mem_nil⟩⟩⟩⟩⟩⟩⟩⟩⟩⟩⟩⟩⟩⟩⟩) w)) w) (pl_wsX6_again_wsX60 w))⟩) (by decide +kernel)
set_option maxRecDepth 20000 in
theorem gX6_again_X6_step : GoodIn wsX6_again (wsV RX6 199 RX6 yX6_step wsX6_step) := goodIn_app (goodIn_sub (List.forall_mem_cons.mpr ⟨(pl_wsX6_again_wsX6_again_r3 _ (List.mem_of_getElem? (i := 5) rfl)), List.forall_mem_cons.mpr ⟨(pl_wsX6_again_wsX6_again_r3 _ (List.mem_of_getElem? (i := 6) rfl)), List.forall_mem_cons.mpr ⟨(pl_wsX6_again_wsX6_again_r3 _ (List.mem_of_getElem? (i := 7) rfl)), List.forall_mem_cons.mpr ⟨(pl_wsX6_again_wsX6_again_r1 _ (List.mem_of_getElem? (i := 6) rfl)), fun _ h => absurd h List.not_mem_nil⟩⟩⟩⟩) (by decide +kernel)) ggX6_again_X6_step
theorem dX6_again_0 : decode cX6_again 0 = .ok (.aload_n 0, 1) := by decide +kernel
theorem dX6_again_1 : decode cX6_again 1 = .ok (.aload_n 0, 1) := by decide +kernel
theorem dX6_again_2 : decode cX6_again 2 = .ok (.iload_n 3, 1) := by decide +kernel
theorem dX6_again_3 : decode cX6_again 3 = .ok (.invokevirtual 124, 3) := by decide +kernel
theorem dX6_again_6 : decode cX6_again 6 = .ok (.ifCond .eq 20, 3) := by decide +kernel
theorem dX6_again_9 : decode cX6_again 9 = .ok (.iload 4, 2) := by decide +kernel
theorem dX6_again_11 : decode cX6_again 11 = .ok (.i2l, 1) := by decide +kernel
theorem dX6_again_12 : decode cX6_again 12 = .ok (.lconst 0, 1) := by decide +kernel
theorem dX6_again_13 : decode cX6_again 13 = .ok (.ldc2_w 241, 3) := by decide +kernel
theorem dX6_again_16 : decode cX6_again 16 = .ok (.invokestatic 76, 3) := by decide +kernel
theorem dX6_again_19 : decode cX6_again 19 = .ok (.ifCond .eq 7, 3) := by decide +kernel
theorem dX6_again_22 : decode cX6_again 22 = .ok (.iconst 1, 1) := by decide +kernel
theorem dX6_again_23 : decode cX6_again 23 = .ok (.goto 4, 3) := by decide +kernel
theorem dX6_again_26 : decode cX6_again 26 = .ok (.iconst 0, 1) := by decide +kernel
theorem dX6_again_27 : decode cX6_again 27 = .ok (.iload_n 1, 1) := by decide +kernel
theorem dX6_again_28 : decode cX6_again 28 = .ok (.iload_n 2, 1) := by decide +kernel
theorem dX6_again_29 : decode cX6_again 29 = .ok (.invokevirtual 219, 3) := by decide +kernel
theorem dX6_again_32 : decode cX6_again 32 = .ok (.istore 5, 2) := by decide +kernel
theorem dX6_again_34 : decode cX6_again 34 = .ok (.iload 5, 2) := by decide +kernel
theorem dX6_again_36 : decode cX6_again 36 = .ok (.ifCond .ge 10, 3) := by decide +kernel
theorem dX6_again_39 : decode cX6_again 39 = .ok (.aload_n 0, 1) := by decide +kernel
theorem dX6_again_40 : decode cX6_again 40 = .ok (.iload 5, 2) := by decide +kernel
theorem dX6_again_42 : decode cX6_again 42 = .ok (.invokevirtual 101, 3) := by decide +kernel
theorem dX6_again_45 : decode cX6_again 45 = .ok (.ireturn, 1) := by decide +kernel
theorem dX6_again_46 : decode cX6_again 46 = .ok (.aload_n 0, 1) := by decide +kernel
theorem dX6_again_47 : decode cX6_again 47 = .ok (.iconst 0, 1) := by decide +kernel
theorem dX6_again_48 : decode cX6_again 48 = .ok (.aload_n 0, 1) := by decide +kernel
theorem dX6_again_49 : decode cX6_again 49 = .ok (.iload_n 3, 1) := by decide +kernel
theorem dX6_again_50 : decode cX6_again 50 = .ok (.invokevirtual 88, 3) := by decide +kernel
theorem dX6_again_53 : decode cX6_again 53 = .ok (.aload_n 0, 1) := by decide +kernel
theorem dX6_again_54 : decode cX6_again 54 = .ok (.iload_n 3, 1) := by decide +kernel
theorem dX6_again_55 : decode cX6_again 55 = .ok (.invokevirtual 192, 3) := by decide +kernel
theorem dX6_again_58 : decode cX6_again 58 = .ok (.invokevirtual 195, 3) := by decide +kernel
theorem dX6_again_61 : decode cX6_again 61 = .ok (.iconst 0, 1) := by decide +kernel
theorem dX6_again_62 : decode cX6_again 62 = .ok (.istore 6, 2) := by decide +kernel
theorem dX6_again_64 : decode cX6_again 64 = .ok (.iload 6, 2) := by decide +kernel
theorem dX6_again_66 : decode cX6_again 66 = .ok (.iload_n 2, 1) := by decide +kernel
theorem dX6_again_67 : decode cX6_again 67 = .ok (.iload 4, 2) := by decide +kernel
theorem dX6_again_69 : decode cX6_again 69 = .ok (.imul, 1) := by decide +kernel
theorem dX6_again_70 : decode cX6_again 70 = .ok (.if_icmp .ge 26, 3) := by decide +kernel
theorem dX6_again_73 : decode cX6_again 73 = .ok (.aload_n 0, 1) := by decide +kernel
theorem dX6_again_74 : decode cX6_again 74 = .ok (.iconst 0, 1) := by decide +kernel
theorem dX6_again_75 : decode cX6_again 75 = .ok (.iload_n 3, 1) := by decide +kernel
theorem dX6_again_76 : decode cX6_again 76 = .ok (.aload_n 0, 1) := by decide +kernel
theorem dX6_again_77 : decode cX6_again 77 = .ok (.getfield 51, 3) := by decide +kernel
theorem dX6_again_80 : decode cX6_again 80 = .ok (.iload 6, 2) := by decide +kernel
theorem dX6_again_82 : decode cX6_again 82 = .ok (.iload_n 2, 1) := by decide +kernel
theorem dX6_again_83 : decode cX6_again 83 = .ok (.irem, 1) := by decide +kernel
theorem dX6_again_84 : decode cX6_again 84 = .ok (.iaload, 1) := by decide +kernel
theorem dX6_again_85 : decode cX6_again 85 = .ok (.iload 6, 2) := by decide +kernel
theorem dX6_again_87 : decode cX6_again 87 = .ok (.invokevirtual 199, 3) := by decide +kernel
theorem dX6_again_90 : decode cX6_again 90 = .ok (.iinc 6 1, 3) := by decide +kernel
theorem dX6_again_93 : decode cX6_again 93 = .ok (.goto (-29), 3) := by decide +kernel
theorem dX6_again_96 : decode cX6_again 96 = .ok (.aload_n 0, 1) := by decide +kernel
theorem dX6_again_97 : decode cX6_again 97 = .ok (.getfield 33, 3) := by decide +kernel
theorem dX6_again_100 : decode cX6_again 100 = .ok (.iconst 0, 1) := by decide +kernel
theorem dX6_again_101 : decode cX6_again 101 = .ok (.iaload, 1) := by decide +kernel
theorem dX6_again_102 : decode cX6_again 102 = .ok (.ireturn, 1) := by decide +kernel
set_option maxRecDepth 20000 in
theorem pl_wsX6_ring_wsX6_ring_r1 : ∀ w ∈ wsX6_ring_r1, w ∈ wsX6_ring := fun _ h => List.mem_cons_of_mem _ (List.mem_append_left _ (List.mem_append_left _ (h)))
theorem pl_wsX6_ring_wsX60 : ∀ w ∈ wsX60, w ∈ wsX6_ring := fun _ h => List.mem_cons_of_mem _ (List.mem_append_right _ (h))
theorem ggX6_ring_X6_isPerson : GoodIn wsX6_ring wsX6_isPerson := goodIn_sub (List.forall_mem_cons.mpr ⟨(pl_wsX6_ring_wsX6_ring_r1 _ (List.mem_of_getElem? (i := 7) rfl)), (fun w h => (List.mem_append.mp h).elim ((List.forall_mem_cons.mpr ⟨(pl_wsX6_ring_wsX6_ring_r1 _ (List.mem_of_getElem? (i := 8) rfl)), List.forall_mem_cons.mpr ⟨(pl_wsX6_ring_wsX6_ring_r1 _ (List.mem_of_getElem? (i := 9) rfl)), List.forall_mem_cons.mpr ⟨(pl_wsX6_ring_wsX6_ring_r1 _ (List.mem_of_getElem? (i := 10) rfl)), List.forall_mem_cons.mpr ⟨(pl_wsX6_ring_wsX6_ring_r1 _ (List.mem_of_getElem? (i := 6) rfl)), List.forall_mem_cons.mpr ⟨(pl_wsX6_ring_wsX6_ring_r1 _ (List.mem_of_getElem? (i := 11) rfl)), fun _ h => absurd h List.not_mem_nil⟩⟩⟩⟩⟩) w) (pl_wsX6_ring_wsX60 w))⟩) (by decide +kernel)
set_option maxRecDepth 20000 in
theorem gX6_ring_X6_isPerson : GoodIn wsX6_ring (wsV RX6 124 RX6 yX6_isPerson wsX6_isPerson) := goodIn_app (goodIn_sub (List.forall_mem_cons.mpr ⟨(pl_wsX6_ring_wsX6_ring_r1 _ (List.mem_of_getElem? (i := 3) rfl)), List.forall_mem_cons.mpr ⟨(pl_wsX6_ring_wsX6_ring_r1 _ (List.mem_of_getElem? (i := 4) rfl)), List.forall_mem_cons.mpr ⟨(pl_wsX6_ring_wsX6_ring_r1 _ (List.mem_of_getElem? (i := 5) rfl)), List.forall_mem_cons.mpr ⟨(pl_wsX6_ring_wsX6_ring_r1 _ (List.mem_of_getElem? (i := 6) rfl)), fun _ h => absurd h List.not_mem_nil⟩⟩⟩⟩) (by decide +kernel)) ggX6_ring_X6_isPerson
set_option maxRecDepth 20000 in
theorem pl_wsX6_ring_wsX6_ring_r2 : ∀ w ∈ wsX6_ring_r2, w ∈ wsX6_ring := fun _ h => List.mem_cons_of_mem _ (List.mem_append_left _ (List.mem_append_right _ (List.mem_append_left _ (h))))
theorem ggX6_ring_X6_loadIf : GoodIn wsX6_ring wsX6_loadIf := goodIn_sub (List.forall_mem_cons.mpr ⟨(pl_wsX6_ring_wsX6_ring_r1 _ (List.mem_of_getElem? (i := 15) rfl)), (fun w h => (List.mem_append.mp h).elim ((List.forall_mem_cons.mpr ⟨(pl_wsX6_ring_wsX6_ring_r1 _ (List.mem_of_getElem? (i := 16) rfl)), List.forall_mem_cons.mpr ⟨(pl_wsX6_ring_wsX6_ring_r1 _ (List.mem_of_getElem? (i := 17) rfl)), List.forall_mem_cons.mpr ⟨(pl_wsX6_ring_wsX6_ring_r1 _ (List.mem_of_getElem? (i := 18) rfl)), List.forall_mem_cons.mpr ⟨(pl_wsX6_ring_wsX6_ring_r1 _ (List.mem_of_getElem? (i := 6) rfl)), List.forall_mem_cons.mpr ⟨(pl_wsX6_ring_wsX6_ring_r1 _ (List.mem_of_getElem? (i := 19) rfl)), List.forall_mem_cons.mpr ⟨(pl_wsX6_ring_wsX6_ring_r1 _ (List.mem_of_getElem? (i := 20) rfl)), List.forall_mem_cons.mpr ⟨(pl_wsX6_ring_wsX6_ring_r1 _ (List.mem_of_getElem? (i := 9) rfl)), List.forall_mem_cons.mpr ⟨(pl_wsX6_ring_wsX6_ring_r1 _ (List.mem_of_getElem? (i := 10) rfl)), List.forall_mem_cons.mpr ⟨(pl_wsX6_ring_wsX6_ring_r1 _ (List.mem_of_getElem? (i := 11) rfl)), List.forall_mem_cons.mpr ⟨(pl_wsX6_ring_wsX6_ring_r1 _ (List.mem_of_getElem? (i := 21) rfl)), List.forall_mem_cons.mpr ⟨(pl_wsX6_ring_wsX6_ring_r1 _ (List.mem_of_getElem? (i := 22) rfl)), List.forall_mem_cons.mpr ⟨(pl_wsX6_ring_wsX6_ring_r1 _ (List.mem_of_getElem? (i := 23) rfl)), List.forall_mem_cons.mpr ⟨(pl_wsX6_ring_wsX6_ring_r2 _ (List.mem_of_getElem? (i := 0) rfl)), List.forall_mem_cons.mpr ⟨(pl_wsX6_ring_wsX6_ring_r2 _ (List.mem_of_getElem? (i := 1) rfl)), List.forall_mem_cons.mpr ⟨(pl_wsX6_ring_wsX6_ring_r2 _ (List.mem_of_getElem? (i := 2) rfl)), List.forall_mem_cons.mpr ⟨(pl_wsX6_ring_wsX6_ring_r2 _ (List.mem_of_getElem? (i := 3) rfl)), List.forall_mem_cons.mpr ⟨(pl_wsX6_ring_wsX6_ring_r1 _ (List.mem_of_getElem? (i := 0) rfl)), List.forall_mem_cons.mpr ⟨(pl_wsX6_ring_wsX6_ring_r2 _ (List.mem_of_getElem? (i := 4) rfl)), List.forall_mem_cons.mpr ⟨(pl_wsX6_ring_wsX6_ring_r2 _ (List.mem_of_getElem? (i := 5) rfl)), List.forall_mem_cons.mpr ⟨(pl_wsX6_ring_wsX6_ring_r2 _ (List.mem_of_getElem? (i := 6) rfl)), List.forall_mem_cons.mpr ⟨(pl_wsX6_ring_wsX6_ring_r2 _ (List.mem_of_getElem? (i := 7) rfl)), List.forall_mem_cons.mpr ⟨(pl_wsX6_ring_wsX6_ring_r2 _ (List.mem_of_getElem? (i := 8) rfl)), fun _ h => absurd h List.not_mem_nil⟩⟩⟩⟩⟩⟩⟩⟩⟩⟩⟩⟩⟩⟩⟩⟩⟩⟩⟩⟩⟩⟩) w) (pl_wsX6_ring_wsX60 w))⟩) (by decide +kernel)
set_option maxRecDepth 20000 in
theorem gX6_ring_X6_loadIf : GoodIn wsX6_ring (wsV RX6 219 RX6 yX6_loadIf wsX6_loadIf) := goodIn_app (goodIn_sub (List.forall_mem_cons.mpr ⟨(pl_wsX6_ring_wsX6_ring_r1 _ (List.mem_of_getElem? (i := 12) rfl)), List.forall_mem_cons.mpr ⟨(pl_wsX6_ring_wsX6_ring_r1 _ (List.mem_of_getElem? (i := 13) rfl)), List.forall_mem_cons.mpr ⟨(pl_wsX6_ring_wsX6_ring_r1 _ (List.mem_of_getElem? (i := 14) rfl)), List.forall_mem_cons.mpr ⟨(pl_wsX6_ring_wsX6_ring_r1 _ (List.mem_of_getElem? (i := 6) rfl)), fun _ h => absurd h List.not_mem_nil⟩⟩⟩⟩) (by decide +kernel)) ggX6_ring_X6_loadIf
set_option maxRecDepth 20000 in
theorem ggX6_ring_X6_refuse : GoodIn wsX6_ring wsX6_refuse := goodIn_sub (List.forall_mem_cons.mpr ⟨(pl_wsX6_ring_wsX6_ring_r2 _ (List.mem_of_getElem? (i := 12) rfl)), (fun w h => (List.mem_append.mp h).elim ((List.forall_mem_cons.mpr ⟨(pl_wsX6_ring_wsX6_ring_r2 _ (List.mem_of_getElem? (i := 13) rfl)), fun _ h => absurd h List.not_mem_nil⟩) w) (pl_wsX6_ring_wsX60 w))⟩) (by decide +kernel)
set_option maxRecDepth 20000 in
theorem gX6_ring_X6_refuse : GoodIn wsX6_ring (wsV RX6 101 RX6 yX6_refuse wsX6_refuse) := goodIn_app (goodIn_sub (List.forall_mem_cons.mpr ⟨(pl_wsX6_ring_wsX6_ring_r2 _ (List.mem_of_getElem? (i := 9) rfl)), List.forall_mem_cons.mpr ⟨(pl_wsX6_ring_wsX6_ring_r2 _ (List.mem_of_getElem? (i := 10) rfl)), List.forall_mem_cons.mpr ⟨(pl_wsX6_ring_wsX6_ring_r2 _ (List.mem_of_getElem? (i := 11) rfl)), List.forall_mem_cons.mpr ⟨(pl_wsX6_ring_wsX6_ring_r1 _ (List.mem_of_getElem? (i := 6) rfl)), fun _ h => absurd h List.not_mem_nil⟩⟩⟩⟩) (by decide +kernel)) ggX6_ring_X6_refuse
set_option maxRecDepth 20000 in
theorem ggX6_ring_X6_cell : GoodIn wsX6_ring wsX6_cell := goodIn_sub (List.forall_mem_cons.mpr ⟨(pl_wsX6_ring_wsX6_ring_r2 _ (List.mem_of_getElem? (i := 17) rfl)), (fun w h => (List.mem_append.mp h).elim ((List.forall_mem_cons.mpr ⟨(pl_wsX6_ring_wsX6_ring_r1 _ (List.mem_of_getElem? (i := 8) rfl)), fun _ h => absurd h List.not_mem_nil⟩) w) (pl_wsX6_ring_wsX60 w))⟩) (by decide +kernel)
set_option maxRecDepth 20000 in
theorem gX6_ring_X6_cell : GoodIn wsX6_ring (wsV RX6 88 RX6 yX6_cell wsX6_cell) := goodIn_app (goodIn_sub (List.forall_mem_cons.mpr ⟨(pl_wsX6_ring_wsX6_ring_r2 _ (List.mem_of_getElem? (i := 14) rfl)), List.forall_mem_cons.mpr ⟨(pl_wsX6_ring_wsX6_ring_r2 _ (List.mem_of_getElem? (i := 15) rfl)), List.forall_mem_cons.mpr ⟨(pl_wsX6_ring_wsX6_ring_r2 _ (List.mem_of_getElem? (i := 16) rfl)), List.forall_mem_cons.mpr ⟨(pl_wsX6_ring_wsX6_ring_r1 _ (List.mem_of_getElem? (i := 6) rfl)), fun _ h => absurd h List.not_mem_nil⟩⟩⟩⟩) (by decide +kernel)) ggX6_ring_X6_cell
set_option maxRecDepth 20000 in
theorem ggX6_ring_X6_faces : GoodIn wsX6_ring wsX6_faces := goodIn_sub (List.forall_mem_cons.mpr ⟨(pl_wsX6_ring_wsX6_ring_r2 _ (List.mem_of_getElem? (i := 21) rfl)), (fun w h => (List.mem_append.mp h).elim ((List.forall_mem_cons.mpr ⟨(pl_wsX6_ring_wsX6_ring_r1 _ (List.mem_of_getElem? (i := 8) rfl)), fun _ h => absurd h List.not_mem_nil⟩) w) (pl_wsX6_ring_wsX60 w))⟩) (by decide +kernel)
set_option maxRecDepth 20000 in
theorem gX6_ring_X6_faces : GoodIn wsX6_ring (wsV RX6 192 RX6 yX6_faces wsX6_faces) := goodIn_app (goodIn_sub (List.forall_mem_cons.mpr ⟨(pl_wsX6_ring_wsX6_ring_r2 _ (List.mem_of_getElem? (i := 18) rfl)), List.forall_mem_cons.mpr ⟨(pl_wsX6_ring_wsX6_ring_r2 _ (List.mem_of_getElem? (i := 19) rfl)), List.forall_mem_cons.mpr ⟨(pl_wsX6_ring_wsX6_ring_r2 _ (List.mem_of_getElem? (i := 20) rfl)), List.forall_mem_cons.mpr ⟨(pl_wsX6_ring_wsX6_ring_r1 _ (List.mem_of_getElem? (i := 6) rfl)), fun _ h => absurd h List.not_mem_nil⟩⟩⟩⟩) (by decide +kernel)) ggX6_ring_X6_faces
set_option maxRecDepth 20000 in
theorem pl_wsX6_ring_wsX6_ring_r3 : ∀ w ∈ wsX6_ring_r3, w ∈ wsX6_ring := fun _ h => List.mem_cons_of_mem _ (List.mem_append_left _ (List.mem_append_right _ (List.mem_append_right _ (List.mem_append_left _ (h)))))
theorem ggX6_ring_X6_start : GoodIn wsX6_ring wsX6_start := goodIn_sub (List.forall_mem_cons.mpr ⟨(pl_wsX6_ring_wsX6_ring_r3 _ (List.mem_of_getElem? (i := 1) rfl)), (fun w h => (List.mem_append.mp h).elim ((List.forall_mem_cons.mpr ⟨(pl_wsX6_ring_wsX6_ring_r1 _ (List.mem_of_getElem? (i := 1) rfl)), List.forall_mem_cons.mpr ⟨(pl_wsX6_ring_wsX6_ring_r1 _ (List.mem_of_getElem? (i := 2) rfl)), List.forall_mem_cons.mpr ⟨(pl_wsX6_ring_wsX6_ring_r3 _ (List.mem_of_getElem? (i := 2) rfl)), List.forall_mem_cons.mpr ⟨(pl_wsX6_ring_wsX6_ring_r3 _ (List.mem_of_getElem? (i := 3) rfl)), fun _ h => absurd h List.not_mem_nil⟩⟩⟩⟩) w) (pl_wsX6_ring_wsX60 w))⟩) (by decide +kernel)
set_option maxRecDepth 20000 in
theorem gX6_ring_X6_start : GoodIn wsX6_ring (wsV RX6 195 RX6 yX6_start wsX6_start) := goodIn_app (goodIn_sub (List.forall_mem_cons.mpr ⟨(pl_wsX6_ring_wsX6_ring_r2 _ (List.mem_of_getElem? (i := 22) rfl)), List.forall_mem_cons.mpr ⟨(pl_wsX6_ring_wsX6_ring_r2 _ (List.mem_of_getElem? (i := 23) rfl)), List.forall_mem_cons.mpr ⟨(pl_wsX6_ring_wsX6_ring_r3 _ (List.mem_of_getElem? (i := 0) rfl)), List.forall_mem_cons.mpr ⟨(pl_wsX6_ring_wsX6_ring_r1 _ (List.mem_of_getElem? (i := 6) rfl)), fun _ h => absurd h List.not_mem_nil⟩⟩⟩⟩) (by decide +kernel)) ggX6_ring_X6_start
set_option maxRecDepth 20000 in
theorem pl_wsX6_ring_wsX6_ring_r4 : ∀ w ∈ wsX6_ring_r4, w ∈ wsX6_ring := fun _ h => List.mem_cons_of_mem _ (List.mem_append_left _ (List.mem_append_right _ (List.mem_append_right _ (List.mem_append_right _ (h)))))
theorem ggX6_ring_X6_step : GoodIn wsX6_ring wsX6_step := goodIn_sub (List.forall_mem_cons.mpr ⟨(pl_wsX6_ring_wsX6_ring_r3 _ (List.mem_of_getElem? (i := 7) rfl)), (fun w h => (List.mem_append.mp h).elim ((fun w h => (List.mem_append.mp h).elim ((List.forall_mem_cons.mpr ⟨(pl_wsX6_ring_wsX6_ring_r3 _ (List.mem_of_getElem? (i := 3) rfl)), List.forall_mem_cons.mpr ⟨(pl_wsX6_ring_wsX6_ring_r1 _ (List.mem_of_getElem? (i := 1) rfl)), List.forall_mem_cons.mpr ⟨(pl_wsX6_ring_wsX6_ring_r1 _ (List.mem_of_getElem? (i := 2) rfl)), List.forall_mem_cons.mpr ⟨(pl_wsX6_ring_wsX6_ring_r3 _ (List.mem_of_getElem? (i := 8) rfl)), List.forall_mem_cons.mpr ⟨(pl_wsX6_ring_wsX6_ring_r3 _ (List.mem_of_getElem? (i := 2) rfl)), List.forall_mem_cons.mpr ⟨(pl_wsX6_ring_wsX6_ring_r3 _ (List.mem_of_getElem? (i := 9) rfl)), List.forall_mem_cons.mpr ⟨(pl_wsX6_ring_wsX6_ring_r3 _ (List.mem_of_getElem? (i := 10) rfl)), List.forall_mem_cons.mpr ⟨(pl_wsX6_ring_wsX6_ring_r3 _ (List.mem_of_getElem? (i := 11) rfl)), List.forall_mem_cons.mpr ⟨(pl_wsX6_ring_wsX6_ring_r3 _ (List.mem_of_getElem? (i := 12) rfl)), List.forall_mem_cons.mpr ⟨(pl_wsX6_ring_wsX6_ring_r3 _ (List.mem_of_getElem? (i := 13) rfl)), List.forall_mem_cons.mpr ⟨(pl_wsX6_ring_wsX6_ring_r1 _ (List.mem_of_getElem? (i := 6) rfl)), List.forall_mem_cons.mpr ⟨(pl_wsX6_ring_wsX6_ring_r3 _ (List.mem_of_getElem? (i := 14) rfl)), List.forall_mem_cons.mpr ⟨(pl_wsX6_ring_wsX6_ring_r1 _ (List.mem_of_getElem? (i := 8) rfl)), List.forall_mem_cons.mpr ⟨(pl_wsX6_ring_wsX6_ring_r1 _ (List.mem_of_getElem? (i := 9) rfl)), List.forall_mem_cons.mpr ⟨(pl_wsX6_ring_wsX6_ring_r1 _ (List.mem_of_getElem? (i := 10) rfl)), List.forall_mem_cons.mpr ⟨(pl_wsX6_ring_wsX6_ring_r1 _ (List.mem_of_getElem? (i := 11) rfl)), List.forall_mem_cons.mpr ⟨(pl_wsX6_ring_wsX6_ring_r3 _ (List.mem_of_getElem? (i := 15) rfl)), List.forall_mem_cons.mpr ⟨(pl_wsX6_ring_wsX6_ring_r3 _ (List.mem_of_getElem? (i := 16) rfl)), List.forall_mem_cons.mpr ⟨(pl_wsX6_ring_wsX6_ring_r3 _ (List.mem_of_getElem? (i := 17) rfl)), List.forall_mem_cons.mpr ⟨(pl_wsX6_ring_wsX6_ring_r3 _ (List.mem_of_getElem? (i := 18) rfl)), List.forall_mem_cons.mpr ⟨(pl_wsX6_ring_wsX6_ring_r3 _ (List.mem_of_getElem? (i := 19) rfl)), List.forall_mem_cons.mpr ⟨(pl_wsX6_ring_wsX6_ring_r3 _ (List.mem_of_getElem? (i := 20) rfl)), List.forall_mem_cons.mpr ⟨(pl_wsX6_ring_wsX6_ring_r3 _ (List.mem_of_getElem? (i := 21) rfl)), List.forall_mem_cons.mpr ⟨(pl_wsX6_ring_wsX6_ring_r3 _ (List.mem_of_getElem? (i := 22) rfl)), fun _ h => absurd h List.not_mem_nil⟩⟩⟩⟩⟩⟩⟩⟩⟩⟩⟩⟩⟩⟩⟩⟩⟩⟩⟩⟩⟩⟩⟩⟩) w) ((List.forall_mem_cons.mpr ⟨(pl_wsX6_ring_wsX6_ring_r3 _ (List.mem_of_getElem? (i := 23) rfl)), List.forall_mem_cons.mpr ⟨(pl_wsX6_ring_wsX6_ring_r4 _ (List.mem_of_getElem? (i := 0) rfl)), List.forall_mem_cons.mpr ⟨(pl_wsX6_ring_wsX6_ring_r4 _ (List.mem_of_getElem? (i := 1) rfl)), List.forall_mem_cons.mpr ⟨(pl_wsX6_ring_wsX6_ring_r4 _ (List.mem_of_getElem? (i := 2) rfl)), List.forall_mem_cons.mpr ⟨(pl_wsX6_ring_wsX6_ring_r4 _ (List.mem_of_getElem? (i := 3) rfl)), List.forall_mem_cons.mpr ⟨(pl_wsX6_ring_wsX6_ring_r4 _ (List.mem_of_getElem? (i := 4) rfl)), List.forall_mem_cons.mpr ⟨(pl_wsX6_ring_wsX6_ring_r4 _ (List.mem_of_getElem? (i := 5) rfl)), List.forall_mem_cons.mpr ⟨(pl_wsX6_ring_wsX6_ring_r4 _ (List.mem_of_getElem? (i := 6) rfl)), List.forall_mem_cons.mpr ⟨(pl_wsX6_ring_wsX6_ring_r4 _ (List.mem_of_getElem? (i := 7) rfl)), List.forall_mem_cons.mpr ⟨(pl_wsX6_ring_wsX6_ring_r4 _ (List.mem_of_getElem? (i := 8) rfl)), List.forall_mem_cons.mpr ⟨(pl_wsX6_ring_wsX6_ring_r4 _ (List.mem_of_getElem? (i := 9) rfl)), List.forall_mem_cons.mpr ⟨(pl_wsX6_ring_wsX6_ring_r4 _ (List.mem_of_getElem? (i := 10) rfl)), List.forall_mem_cons.mpr ⟨(pl_wsX6_ring_wsX6_ring_r4 _ (List.mem_of_getElem? (i := 11) rfl)), List.forall_mem_cons.mpr ⟨(pl_wsX6_ring_wsX6_ring_r4 _ (List.mem_of_getElem? (i := 12) rfl)), List.forall_mem_cons.mpr ⟨(pl_wsX6_ring_wsX6_ring_r4 _ (List.mem_of_getElem? (i := 13) rfl)), fun _ h => absurd h List.not_mem_nil⟩⟩⟩⟩⟩⟩⟩⟩⟩⟩⟩⟩⟩⟩⟩) w)) w) (pl_wsX6_ring_wsX60 w))⟩) (by decide +kernel)
set_option maxRecDepth 20000 in
theorem gX6_ring_X6_step : GoodIn wsX6_ring (wsV RX6 199 RX6 yX6_step wsX6_step) := goodIn_app (goodIn_sub (List.forall_mem_cons.mpr ⟨(pl_wsX6_ring_wsX6_ring_r3 _ (List.mem_of_getElem? (i := 4) rfl)), List.forall_mem_cons.mpr ⟨(pl_wsX6_ring_wsX6_ring_r3 _ (List.mem_of_getElem? (i := 5) rfl)), List.forall_mem_cons.mpr ⟨(pl_wsX6_ring_wsX6_ring_r3 _ (List.mem_of_getElem? (i := 6) rfl)), List.forall_mem_cons.mpr ⟨(pl_wsX6_ring_wsX6_ring_r1 _ (List.mem_of_getElem? (i := 6) rfl)), fun _ h => absurd h List.not_mem_nil⟩⟩⟩⟩) (by decide +kernel)) ggX6_ring_X6_step
theorem dX6_ring_0 : decode cX6_ring 0 = .ok (.aload_n 0, 1) := by decide +kernel
theorem dX6_ring_1 : decode cX6_ring 1 = .ok (.aload_n 0, 1) := by decide +kernel
theorem dX6_ring_2 : decode cX6_ring 2 = .ok (.iload_n 3, 1) := by decide +kernel
theorem dX6_ring_3 : decode cX6_ring 3 = .ok (.invokevirtual 124, 3) := by decide +kernel
theorem dX6_ring_6 : decode cX6_ring 6 = .ok (.iload_n 1, 1) := by decide +kernel
theorem dX6_ring_7 : decode cX6_ring 7 = .ok (.iload_n 2, 1) := by decide +kernel
theorem dX6_ring_8 : decode cX6_ring 8 = .ok (.invokevirtual 219, 3) := by decide +kernel
theorem dX6_ring_11 : decode cX6_ring 11 = .ok (.istore 4, 2) := by decide +kernel
theorem dX6_ring_13 : decode cX6_ring 13 = .ok (.iload 4, 2) := by decide +kernel
theorem dX6_ring_15 : decode cX6_ring 15 = .ok (.ifCond .ge 10, 3) := by decide +kernel
theorem dX6_ring_18 : decode cX6_ring 18 = .ok (.aload_n 0, 1) := by decide +kernel
theorem dX6_ring_19 : decode cX6_ring 19 = .ok (.iload 4, 2) := by decide +kernel
theorem dX6_ring_21 : decode cX6_ring 21 = .ok (.invokevirtual 101, 3) := by decide +kernel
theorem dX6_ring_24 : decode cX6_ring 24 = .ok (.ireturn, 1) := by decide +kernel
theorem dX6_ring_25 : decode cX6_ring 25 = .ok (.aload_n 0, 1) := by decide +kernel
theorem dX6_ring_26 : decode cX6_ring 26 = .ok (.iconst 0, 1) := by decide +kernel
theorem dX6_ring_27 : decode cX6_ring 27 = .ok (.aload_n 0, 1) := by decide +kernel
theorem dX6_ring_28 : decode cX6_ring 28 = .ok (.iload_n 3, 1) := by decide +kernel
theorem dX6_ring_29 : decode cX6_ring 29 = .ok (.invokevirtual 88, 3) := by decide +kernel
theorem dX6_ring_32 : decode cX6_ring 32 = .ok (.aload_n 0, 1) := by decide +kernel
theorem dX6_ring_33 : decode cX6_ring 33 = .ok (.iload_n 3, 1) := by decide +kernel
theorem dX6_ring_34 : decode cX6_ring 34 = .ok (.invokevirtual 192, 3) := by decide +kernel
theorem dX6_ring_37 : decode cX6_ring 37 = .ok (.invokevirtual 195, 3) := by decide +kernel
theorem dX6_ring_40 : decode cX6_ring 40 = .ok (.iconst 1, 1) := by decide +kernel
theorem dX6_ring_41 : decode cX6_ring 41 = .ok (.istore 5, 2) := by decide +kernel
theorem dX6_ring_43 : decode cX6_ring 43 = .ok (.iload 5, 2) := by decide +kernel
theorem dX6_ring_45 : decode cX6_ring 45 = .ok (.bipush 20, 2) := by decide +kernel
theorem dX6_ring_47 : decode cX6_ring 47 = .ok (.if_icmp .gt 70, 3) := by decide +kernel
theorem dX6_ring_50 : decode cX6_ring 50 = .ok (.iconst 0, 1) := by decide +kernel
theorem dX6_ring_51 : decode cX6_ring 51 = .ok (.istore 6, 2) := by decide +kernel
theorem dX6_ring_53 : decode cX6_ring 53 = .ok (.iload 6, 2) := by decide +kernel
theorem dX6_ring_55 : decode cX6_ring 55 = .ok (.iload_n 2, 1) := by decide +kernel
theorem dX6_ring_56 : decode cX6_ring 56 = .ok (.if_icmp .ge 24, 3) := by decide +kernel
theorem dX6_ring_59 : decode cX6_ring 59 = .ok (.aload_n 0, 1) := by decide +kernel
theorem dX6_ring_60 : decode cX6_ring 60 = .ok (.iconst 0, 1) := by decide +kernel
theorem dX6_ring_61 : decode cX6_ring 61 = .ok (.iload_n 3, 1) := by decide +kernel
theorem dX6_ring_62 : decode cX6_ring 62 = .ok (.aload_n 0, 1) := by decide +kernel
theorem dX6_ring_63 : decode cX6_ring 63 = .ok (.getfield 51, 3) := by decide +kernel
theorem dX6_ring_66 : decode cX6_ring 66 = .ok (.iload 6, 2) := by decide +kernel
theorem dX6_ring_68 : decode cX6_ring 68 = .ok (.iaload, 1) := by decide +kernel
theorem dX6_ring_69 : decode cX6_ring 69 = .ok (.iload 6, 2) := by decide +kernel
theorem dX6_ring_71 : decode cX6_ring 71 = .ok (.invokevirtual 199, 3) := by decide +kernel
theorem dX6_ring_74 : decode cX6_ring 74 = .ok (.iinc 6 1, 3) := by decide +kernel
theorem dX6_ring_77 : decode cX6_ring 77 = .ok (.goto (-24), 3) := by decide +kernel
theorem dX6_ring_80 : decode cX6_ring 80 = .ok (.aload_n 0, 1) := by decide +kernel
theorem dX6_ring_81 : decode cX6_ring 81 = .ok (.getfield 33, 3) := by decide +kernel
theorem dX6_ring_84 : decode cX6_ring 84 = .ok (.iconst 0, 1) := by decide +kernel
theorem dX6_ring_85 : decode cX6_ring 85 = .ok (.iaload, 1) := by decide +kernel
theorem dX6_ring_86 : decode cX6_ring 86 = .ok (.aload_n 0, 1) := by decide +kernel
theorem dX6_ring_87 : decode cX6_ring 87 = .ok (.iload_n 3, 1) := by decide +kernel
theorem dX6_ring_88 : decode cX6_ring 88 = .ok (.invokevirtual 88, 3) := by decide +kernel
theorem dX6_ring_91 : decode cX6_ring 91 = .ok (.if_icmp .ne 20, 3) := by decide +kernel
theorem dX6_ring_94 : decode cX6_ring 94 = .ok (.aload_n 0, 1) := by decide +kernel
theorem dX6_ring_95 : decode cX6_ring 95 = .ok (.getfield 36, 3) := by decide +kernel
theorem dX6_ring_98 : decode cX6_ring 98 = .ok (.iconst 0, 1) := by decide +kernel
theorem dX6_ring_99 : decode cX6_ring 99 = .ok (.iaload, 1) := by decide +kernel
theorem dX6_ring_100 : decode cX6_ring 100 = .ok (.aload_n 0, 1) := by decide +kernel
theorem dX6_ring_101 : decode cX6_ring 101 = .ok (.iload_n 3, 1) := by decide +kernel
theorem dX6_ring_102 : decode cX6_ring 102 = .ok (.invokevirtual 192, 3) := by decide +kernel
theorem dX6_ring_105 : decode cX6_ring 105 = .ok (.if_icmp .ne 6, 3) := by decide +kernel
theorem dX6_ring_108 : decode cX6_ring 108 = .ok (.iload 5, 2) := by decide +kernel
theorem dX6_ring_110 : decode cX6_ring 110 = .ok (.ireturn, 1) := by decide +kernel
theorem dX6_ring_111 : decode cX6_ring 111 = .ok (.iinc 5 1, 3) := by decide +kernel
theorem dX6_ring_114 : decode cX6_ring 114 = .ok (.goto (-71), 3) := by decide +kernel
theorem dX6_ring_117 : decode cX6_ring 117 = .ok (.iconst (-1), 1) := by decide +kernel
theorem dX6_ring_118 : decode cX6_ring 118 = .ok (.ireturn, 1) := by decide +kernel
set_option maxRecDepth 20000 in
theorem pl_wsX6_idle_wsX6_idle_r1 : ∀ w ∈ wsX6_idle_r1, w ∈ wsX6_idle := fun _ h => List.mem_cons_of_mem _ (List.mem_append_left _ (List.mem_append_left _ (h)))
theorem pl_wsX6_idle_wsX60 : ∀ w ∈ wsX60, w ∈ wsX6_idle := fun _ h => List.mem_cons_of_mem _ (List.mem_append_right _ (h))
theorem ggX6_idle_X6_isPerson : GoodIn wsX6_idle wsX6_isPerson := goodIn_sub (List.forall_mem_cons.mpr ⟨(pl_wsX6_idle_wsX6_idle_r1 _ (List.mem_of_getElem? (i := 6) rfl)), (fun w h => (List.mem_append.mp h).elim ((List.forall_mem_cons.mpr ⟨(pl_wsX6_idle_wsX6_idle_r1 _ (List.mem_of_getElem? (i := 7) rfl)), List.forall_mem_cons.mpr ⟨(pl_wsX6_idle_wsX6_idle_r1 _ (List.mem_of_getElem? (i := 8) rfl)), List.forall_mem_cons.mpr ⟨(pl_wsX6_idle_wsX6_idle_r1 _ (List.mem_of_getElem? (i := 9) rfl)), List.forall_mem_cons.mpr ⟨(pl_wsX6_idle_wsX6_idle_r1 _ (List.mem_of_getElem? (i := 5) rfl)), List.forall_mem_cons.mpr ⟨(pl_wsX6_idle_wsX6_idle_r1 _ (List.mem_of_getElem? (i := 10) rfl)), fun _ h => absurd h List.not_mem_nil⟩⟩⟩⟩⟩) w) (pl_wsX6_idle_wsX60 w))⟩) (by decide +kernel)
set_option maxRecDepth 20000 in
theorem gX6_idle_X6_isPerson : GoodIn wsX6_idle (wsV RX6 124 RX6 yX6_isPerson wsX6_isPerson) := goodIn_app (goodIn_sub (List.forall_mem_cons.mpr ⟨(pl_wsX6_idle_wsX6_idle_r1 _ (List.mem_of_getElem? (i := 2) rfl)), List.forall_mem_cons.mpr ⟨(pl_wsX6_idle_wsX6_idle_r1 _ (List.mem_of_getElem? (i := 3) rfl)), List.forall_mem_cons.mpr ⟨(pl_wsX6_idle_wsX6_idle_r1 _ (List.mem_of_getElem? (i := 4) rfl)), List.forall_mem_cons.mpr ⟨(pl_wsX6_idle_wsX6_idle_r1 _ (List.mem_of_getElem? (i := 5) rfl)), fun _ h => absurd h List.not_mem_nil⟩⟩⟩⟩) (by decide +kernel)) ggX6_idle_X6_isPerson
set_option maxRecDepth 20000 in
theorem pl_wsX6_idle_wsX6_idle_r2 : ∀ w ∈ wsX6_idle_r2, w ∈ wsX6_idle := fun _ h => List.mem_cons_of_mem _ (List.mem_append_left _ (List.mem_append_right _ (List.mem_append_left _ (h))))
theorem ggX6_idle_X6_loadIf : GoodIn wsX6_idle wsX6_loadIf := goodIn_sub (List.forall_mem_cons.mpr ⟨(pl_wsX6_idle_wsX6_idle_r1 _ (List.mem_of_getElem? (i := 14) rfl)), (fun w h => (List.mem_append.mp h).elim ((List.forall_mem_cons.mpr ⟨(pl_wsX6_idle_wsX6_idle_r1 _ (List.mem_of_getElem? (i := 15) rfl)), List.forall_mem_cons.mpr ⟨(pl_wsX6_idle_wsX6_idle_r1 _ (List.mem_of_getElem? (i := 16) rfl)), List.forall_mem_cons.mpr ⟨(pl_wsX6_idle_wsX6_idle_r1 _ (List.mem_of_getElem? (i := 17) rfl)), List.forall_mem_cons.mpr ⟨(pl_wsX6_idle_wsX6_idle_r1 _ (List.mem_of_getElem? (i := 5) rfl)), List.forall_mem_cons.mpr ⟨(pl_wsX6_idle_wsX6_idle_r1 _ (List.mem_of_getElem? (i := 18) rfl)), List.forall_mem_cons.mpr ⟨(pl_wsX6_idle_wsX6_idle_r1 _ (List.mem_of_getElem? (i := 19) rfl)), List.forall_mem_cons.mpr ⟨(pl_wsX6_idle_wsX6_idle_r1 _ (List.mem_of_getElem? (i := 8) rfl)), List.forall_mem_cons.mpr ⟨(pl_wsX6_idle_wsX6_idle_r1 _ (List.mem_of_getElem? (i := 9) rfl)), List.forall_mem_cons.mpr ⟨(pl_wsX6_idle_wsX6_idle_r1 _ (List.mem_of_getElem? (i := 10) rfl)), List.forall_mem_cons.mpr ⟨(pl_wsX6_idle_wsX6_idle_r1 _ (List.mem_of_getElem? (i := 20) rfl)), List.forall_mem_cons.mpr ⟨(pl_wsX6_idle_wsX6_idle_r1 _ (List.mem_of_getElem? (i := 21) rfl)), List.forall_mem_cons.mpr ⟨(pl_wsX6_idle_wsX6_idle_r1 _ (List.mem_of_getElem? (i := 22) rfl)), List.forall_mem_cons.mpr ⟨(pl_wsX6_idle_wsX6_idle_r1 _ (List.mem_of_getElem? (i := 23) rfl)), List.forall_mem_cons.mpr ⟨(pl_wsX6_idle_wsX6_idle_r2 _ (List.mem_of_getElem? (i := 0) rfl)), List.forall_mem_cons.mpr ⟨(pl_wsX6_idle_wsX6_idle_r2 _ (List.mem_of_getElem? (i := 1) rfl)), List.forall_mem_cons.mpr ⟨(pl_wsX6_idle_wsX6_idle_r2 _ (List.mem_of_getElem? (i := 2) rfl)), List.forall_mem_cons.mpr ⟨(pl_wsX6_idle_wsX6_idle_r1 _ (List.mem_of_getElem? (i := 1) rfl)), List.forall_mem_cons.mpr ⟨(pl_wsX6_idle_wsX6_idle_r2 _ (List.mem_of_getElem? (i := 3) rfl)), List.forall_mem_cons.mpr ⟨(pl_wsX6_idle_wsX6_idle_r2 _ (List.mem_of_getElem? (i := 4) rfl)), List.forall_mem_cons.mpr ⟨(pl_wsX6_idle_wsX6_idle_r2 _ (List.mem_of_getElem? (i := 5) rfl)), List.forall_mem_cons.mpr ⟨(pl_wsX6_idle_wsX6_idle_r2 _ (List.mem_of_getElem? (i := 6) rfl)), List.forall_mem_cons.mpr ⟨(pl_wsX6_idle_wsX6_idle_r2 _ (List.mem_of_getElem? (i := 7) rfl)), fun _ h => absurd h List.not_mem_nil⟩⟩⟩⟩⟩⟩⟩⟩⟩⟩⟩⟩⟩⟩⟩⟩⟩⟩⟩⟩⟩⟩) w) (pl_wsX6_idle_wsX60 w))⟩) (by decide +kernel)
set_option maxRecDepth 20000 in
theorem gX6_idle_X6_loadIf : GoodIn wsX6_idle (wsV RX6 219 RX6 yX6_loadIf wsX6_loadIf) := goodIn_app (goodIn_sub (List.forall_mem_cons.mpr ⟨(pl_wsX6_idle_wsX6_idle_r1 _ (List.mem_of_getElem? (i := 11) rfl)), List.forall_mem_cons.mpr ⟨(pl_wsX6_idle_wsX6_idle_r1 _ (List.mem_of_getElem? (i := 12) rfl)), List.forall_mem_cons.mpr ⟨(pl_wsX6_idle_wsX6_idle_r1 _ (List.mem_of_getElem? (i := 13) rfl)), List.forall_mem_cons.mpr ⟨(pl_wsX6_idle_wsX6_idle_r1 _ (List.mem_of_getElem? (i := 5) rfl)), fun _ h => absurd h List.not_mem_nil⟩⟩⟩⟩) (by decide +kernel)) ggX6_idle_X6_loadIf
set_option maxRecDepth 20000 in
theorem ggX6_idle_X6_refuse : GoodIn wsX6_idle wsX6_refuse := goodIn_sub (List.forall_mem_cons.mpr ⟨(pl_wsX6_idle_wsX6_idle_r2 _ (List.mem_of_getElem? (i := 11) rfl)), (fun w h => (List.mem_append.mp h).elim ((List.forall_mem_cons.mpr ⟨(pl_wsX6_idle_wsX6_idle_r2 _ (List.mem_of_getElem? (i := 12) rfl)), fun _ h => absurd h List.not_mem_nil⟩) w) (pl_wsX6_idle_wsX60 w))⟩) (by decide +kernel)
set_option maxRecDepth 20000 in
theorem gX6_idle_X6_refuse : GoodIn wsX6_idle (wsV RX6 101 RX6 yX6_refuse wsX6_refuse) := goodIn_app (goodIn_sub (List.forall_mem_cons.mpr ⟨(pl_wsX6_idle_wsX6_idle_r2 _ (List.mem_of_getElem? (i := 8) rfl)), List.forall_mem_cons.mpr ⟨(pl_wsX6_idle_wsX6_idle_r2 _ (List.mem_of_getElem? (i := 9) rfl)), List.forall_mem_cons.mpr ⟨(pl_wsX6_idle_wsX6_idle_r2 _ (List.mem_of_getElem? (i := 10) rfl)), List.forall_mem_cons.mpr ⟨(pl_wsX6_idle_wsX6_idle_r1 _ (List.mem_of_getElem? (i := 5) rfl)), fun _ h => absurd h List.not_mem_nil⟩⟩⟩⟩) (by decide +kernel)) ggX6_idle_X6_refuse
set_option maxRecDepth 20000 in
theorem ggX6_idle_X6_cell : GoodIn wsX6_idle wsX6_cell := goodIn_sub (List.forall_mem_cons.mpr ⟨(pl_wsX6_idle_wsX6_idle_r2 _ (List.mem_of_getElem? (i := 16) rfl)), (fun w h => (List.mem_append.mp h).elim ((List.forall_mem_cons.mpr ⟨(pl_wsX6_idle_wsX6_idle_r1 _ (List.mem_of_getElem? (i := 7) rfl)), fun _ h => absurd h List.not_mem_nil⟩) w) (pl_wsX6_idle_wsX60 w))⟩) (by decide +kernel)
set_option maxRecDepth 20000 in
theorem gX6_idle_X6_cell : GoodIn wsX6_idle (wsV RX6 88 RX6 yX6_cell wsX6_cell) := goodIn_app (goodIn_sub (List.forall_mem_cons.mpr ⟨(pl_wsX6_idle_wsX6_idle_r2 _ (List.mem_of_getElem? (i := 13) rfl)), List.forall_mem_cons.mpr ⟨(pl_wsX6_idle_wsX6_idle_r2 _ (List.mem_of_getElem? (i := 14) rfl)), List.forall_mem_cons.mpr ⟨(pl_wsX6_idle_wsX6_idle_r2 _ (List.mem_of_getElem? (i := 15) rfl)), List.forall_mem_cons.mpr ⟨(pl_wsX6_idle_wsX6_idle_r1 _ (List.mem_of_getElem? (i := 5) rfl)), fun _ h => absurd h List.not_mem_nil⟩⟩⟩⟩) (by decide +kernel)) ggX6_idle_X6_cell
set_option maxRecDepth 20000 in
theorem ggX6_idle_X6_faces : GoodIn wsX6_idle wsX6_faces := goodIn_sub (List.forall_mem_cons.mpr ⟨(pl_wsX6_idle_wsX6_idle_r2 _ (List.mem_of_getElem? (i := 20) rfl)), (fun w h => (List.mem_append.mp h).elim ((List.forall_mem_cons.mpr ⟨(pl_wsX6_idle_wsX6_idle_r1 _ (List.mem_of_getElem? (i := 7) rfl)), fun _ h => absurd h List.not_mem_nil⟩) w) (pl_wsX6_idle_wsX60 w))⟩) (by decide +kernel)
set_option maxRecDepth 20000 in
theorem gX6_idle_X6_faces : GoodIn wsX6_idle (wsV RX6 192 RX6 yX6_faces wsX6_faces) := goodIn_app (goodIn_sub (List.forall_mem_cons.mpr ⟨(pl_wsX6_idle_wsX6_idle_r2 _ (List.mem_of_getElem? (i := 17) rfl)), List.forall_mem_cons.mpr ⟨(pl_wsX6_idle_wsX6_idle_r2 _ (List.mem_of_getElem? (i := 18) rfl)), List.forall_mem_cons.mpr ⟨(pl_wsX6_idle_wsX6_idle_r2 _ (List.mem_of_getElem? (i := 19) rfl)), List.forall_mem_cons.mpr ⟨(pl_wsX6_idle_wsX6_idle_r1 _ (List.mem_of_getElem? (i := 5) rfl)), fun _ h => absurd h List.not_mem_nil⟩⟩⟩⟩) (by decide +kernel)) ggX6_idle_X6_faces
set_option maxRecDepth 20000 in
theorem pl_wsX6_idle_wsX6_idle_r3 : ∀ w ∈ wsX6_idle_r3, w ∈ wsX6_idle := fun _ h => List.mem_cons_of_mem _ (List.mem_append_left _ (List.mem_append_right _ (List.mem_append_right _ (List.mem_append_left _ (h)))))
theorem ggX6_idle_X6_start : GoodIn wsX6_idle wsX6_start := goodIn_sub (List.forall_mem_cons.mpr ⟨(pl_wsX6_idle_wsX6_idle_r3 _ (List.mem_of_getElem? (i := 0) rfl)), (fun w h => (List.mem_append.mp h).elim ((List.forall_mem_cons.mpr ⟨(pl_wsX6_idle_wsX6_idle_r1 _ (List.mem_of_getElem? (i := 0) rfl)), List.forall_mem_cons.mpr ⟨(pl_wsX6_idle_wsX6_idle_r3 _ (List.mem_of_getElem? (i := 1) rfl)), List.forall_mem_cons.mpr ⟨(pl_wsX6_idle_wsX6_idle_r3 _ (List.mem_of_getElem? (i := 2) rfl)), List.forall_mem_cons.mpr ⟨(pl_wsX6_idle_wsX6_idle_r3 _ (List.mem_of_getElem? (i := 3) rfl)), fun _ h => absurd h List.not_mem_nil⟩⟩⟩⟩) w) (pl_wsX6_idle_wsX60 w))⟩) (by decide +kernel)
set_option maxRecDepth 20000 in
theorem gX6_idle_X6_start : GoodIn wsX6_idle (wsV RX6 195 RX6 yX6_start wsX6_start) := goodIn_app (goodIn_sub (List.forall_mem_cons.mpr ⟨(pl_wsX6_idle_wsX6_idle_r2 _ (List.mem_of_getElem? (i := 21) rfl)), List.forall_mem_cons.mpr ⟨(pl_wsX6_idle_wsX6_idle_r2 _ (List.mem_of_getElem? (i := 22) rfl)), List.forall_mem_cons.mpr ⟨(pl_wsX6_idle_wsX6_idle_r2 _ (List.mem_of_getElem? (i := 23) rfl)), List.forall_mem_cons.mpr ⟨(pl_wsX6_idle_wsX6_idle_r1 _ (List.mem_of_getElem? (i := 5) rfl)), fun _ h => absurd h List.not_mem_nil⟩⟩⟩⟩) (by decide +kernel)) ggX6_idle_X6_start
set_option maxRecDepth 20000 in
theorem pl_wsX6_idle_wsX6_idle_r4 : ∀ w ∈ wsX6_idle_r4, w ∈ wsX6_idle := fun _ h => List.mem_cons_of_mem _ (List.mem_append_left _ (List.mem_append_right _ (List.mem_append_right _ (List.mem_append_right _ (h)))))
theorem ggX6_idle_X6_step : GoodIn wsX6_idle wsX6_step := goodIn_sub (List.forall_mem_cons.mpr ⟨(pl_wsX6_idle_wsX6_idle_r3 _ (List.mem_of_getElem? (i := 7) rfl)), (fun w h => (List.mem_append.mp h).elim ((fun w h => (List.mem_append.mp h).elim ((List.forall_mem_cons.mpr ⟨(pl_wsX6_idle_wsX6_idle_r3 _ (List.mem_of_getElem? (i := 3) rfl)), List.forall_mem_cons.mpr ⟨(pl_wsX6_idle_wsX6_idle_r1 _ (List.mem_of_getElem? (i := 0) rfl)), List.forall_mem_cons.mpr ⟨(pl_wsX6_idle_wsX6_idle_r3 _ (List.mem_of_getElem? (i := 1) rfl)), List.forall_mem_cons.mpr ⟨(pl_wsX6_idle_wsX6_idle_r3 _ (List.mem_of_getElem? (i := 8) rfl)), List.forall_mem_cons.mpr ⟨(pl_wsX6_idle_wsX6_idle_r3 _ (List.mem_of_getElem? (i := 2) rfl)), List.forall_mem_cons.mpr ⟨(pl_wsX6_idle_wsX6_idle_r3 _ (List.mem_of_getElem? (i := 9) rfl)), List.forall_mem_cons.mpr ⟨(pl_wsX6_idle_wsX6_idle_r3 _ (List.mem_of_getElem? (i := 10) rfl)), List.forall_mem_cons.mpr ⟨(pl_wsX6_idle_wsX6_idle_r3 _ (List.mem_of_getElem? (i := 11) rfl)), List.forall_mem_cons.mpr ⟨(pl_wsX6_idle_wsX6_idle_r3 _ (List.mem_of_getElem? (i := 12) rfl)), List.forall_mem_cons.mpr ⟨(pl_wsX6_idle_wsX6_idle_r3 _ (List.mem_of_getElem? (i := 13) rfl)), List.forall_mem_cons.mpr ⟨(pl_wsX6_idle_wsX6_idle_r1 _ (List.mem_of_getElem? (i := 5) rfl)), List.forall_mem_cons.mpr ⟨(pl_wsX6_idle_wsX6_idle_r3 _ (List.mem_of_getElem? (i := 14) rfl)), List.forall_mem_cons.mpr ⟨(pl_wsX6_idle_wsX6_idle_r1 _ (List.mem_of_getElem? (i := 7) rfl)), List.forall_mem_cons.mpr ⟨(pl_wsX6_idle_wsX6_idle_r1 _ (List.mem_of_getElem? (i := 8) rfl)), List.forall_mem_cons.mpr ⟨(pl_wsX6_idle_wsX6_idle_r1 _ (List.mem_of_getElem? (i := 9) rfl)), List.forall_mem_cons.mpr ⟨(pl_wsX6_idle_wsX6_idle_r1 _ (List.mem_of_getElem? (i := 10) rfl)), List.forall_mem_cons.mpr ⟨(pl_wsX6_idle_wsX6_idle_r3 _ (List.mem_of_getElem? (i := 15) rfl)), List.forall_mem_cons.mpr ⟨(pl_wsX6_idle_wsX6_idle_r3 _ (List.mem_of_getElem? (i := 16) rfl)), List.forall_mem_cons.mpr ⟨(pl_wsX6_idle_wsX6_idle_r3 _ (List.mem_of_getElem? (i := 17) rfl)), List.forall_mem_cons.mpr ⟨(pl_wsX6_idle_wsX6_idle_r3 _ (List.mem_of_getElem? (i := 18) rfl)), List.forall_mem_cons.mpr ⟨(pl_wsX6_idle_wsX6_idle_r3 _ (List.mem_of_getElem? (i := 19) rfl)), List.forall_mem_cons.mpr ⟨(pl_wsX6_idle_wsX6_idle_r3 _ (List.mem_of_getElem? (i := 20) rfl)), List.forall_mem_cons.mpr ⟨(pl_wsX6_idle_wsX6_idle_r3 _ (List.mem_of_getElem? (i := 21) rfl)), List.forall_mem_cons.mpr ⟨(pl_wsX6_idle_wsX6_idle_r3 _ (List.mem_of_getElem? (i := 22) rfl)), fun _ h => absurd h List.not_mem_nil⟩⟩⟩⟩⟩⟩⟩⟩⟩⟩⟩⟩⟩⟩⟩⟩⟩⟩⟩⟩⟩⟩⟩⟩) w) ((List.forall_mem_cons.mpr ⟨(pl_wsX6_idle_wsX6_idle_r3 _ (List.mem_of_getElem? (i := 23) rfl)), List.forall_mem_cons.mpr ⟨(pl_wsX6_idle_wsX6_idle_r4 _ (List.mem_of_getElem? (i := 0) rfl)), List.forall_mem_cons.mpr ⟨(pl_wsX6_idle_wsX6_idle_r4 _ (List.mem_of_getElem? (i := 1) rfl)), List.forall_mem_cons.mpr ⟨(pl_wsX6_idle_wsX6_idle_r4 _ (List.mem_of_getElem? (i := 2) rfl)), List.forall_mem_cons.mpr ⟨(pl_wsX6_idle_wsX6_idle_r4 _ (List.mem_of_getElem? (i := 3) rfl)), List.forall_mem_cons.mpr ⟨(pl_wsX6_idle_wsX6_idle_r4 _ (List.mem_of_getElem? (i := 4) rfl)), List.forall_mem_cons.mpr ⟨(pl_wsX6_idle_wsX6_idle_r4 _ (List.mem_of_getElem? (i := 5) rfl)), List.forall_mem_cons.mpr ⟨(pl_wsX6_idle_wsX6_idle_r4 _ (List.mem_of_getElem? (i := 6) rfl)), List.forall_mem_cons.mpr ⟨(pl_wsX6_idle_wsX6_idle_r4 _ (List.mem_of_getElem? (i := 7) rfl)), List.forall_mem_cons.mpr ⟨(pl_wsX6_idle_wsX6_idle_r4 _ (List.mem_of_getElem? (i := 8) rfl)), List.forall_mem_cons.mpr ⟨(pl_wsX6_idle_wsX6_idle_r4 _ (List.mem_of_getElem? (i := 9) rfl)), List.forall_mem_cons.mpr ⟨(pl_wsX6_idle_wsX6_idle_r4 _ (List.mem_of_getElem? (i := 10) rfl)), List.forall_mem_cons.mpr ⟨(pl_wsX6_idle_wsX6_idle_r4 _ (List.mem_of_getElem? (i := 11) rfl)), List.forall_mem_cons.mpr ⟨(pl_wsX6_idle_wsX6_idle_r4 _ (List.mem_of_getElem? (i := 12) rfl)), List.forall_mem_cons.mpr ⟨(pl_wsX6_idle_wsX6_idle_r4 _ (List.mem_of_getElem? (i := 13) rfl)), fun _ h => absurd h List.not_mem_nil⟩⟩⟩⟩⟩⟩⟩⟩⟩⟩⟩⟩⟩⟩⟩) w)) w) (pl_wsX6_idle_wsX60 w))⟩) (by decide +kernel)
set_option maxRecDepth 20000 in
theorem gX6_idle_X6_step : GoodIn wsX6_idle (wsV RX6 199 RX6 yX6_step wsX6_step) := goodIn_app (goodIn_sub (List.forall_mem_cons.mpr ⟨(pl_wsX6_idle_wsX6_idle_r3 _ (List.mem_of_getElem? (i := 4) rfl)), List.forall_mem_cons.mpr ⟨(pl_wsX6_idle_wsX6_idle_r3 _ (List.mem_of_getElem? (i := 5) rfl)), List.forall_mem_cons.mpr ⟨(pl_wsX6_idle_wsX6_idle_r3 _ (List.mem_of_getElem? (i := 6) rfl)), List.forall_mem_cons.mpr ⟨(pl_wsX6_idle_wsX6_idle_r1 _ (List.mem_of_getElem? (i := 5) rfl)), fun _ h => absurd h List.not_mem_nil⟩⟩⟩⟩) (by decide +kernel)) ggX6_idle_X6_step
theorem dX6_idle_0 : decode cX6_idle 0 = .ok (.aload_n 0, 1) := by decide +kernel
theorem dX6_idle_1 : decode cX6_idle 1 = .ok (.aload_n 0, 1) := by decide +kernel
theorem dX6_idle_2 : decode cX6_idle 2 = .ok (.iload_n 3, 1) := by decide +kernel
theorem dX6_idle_3 : decode cX6_idle 3 = .ok (.invokevirtual 124, 3) := by decide +kernel
theorem dX6_idle_6 : decode cX6_idle 6 = .ok (.iload_n 1, 1) := by decide +kernel
theorem dX6_idle_7 : decode cX6_idle 7 = .ok (.iload_n 2, 1) := by decide +kernel
theorem dX6_idle_8 : decode cX6_idle 8 = .ok (.invokevirtual 219, 3) := by decide +kernel
theorem dX6_idle_11 : decode cX6_idle 11 = .ok (.istore 4, 2) := by decide +kernel
theorem dX6_idle_13 : decode cX6_idle 13 = .ok (.iload 4, 2) := by decide +kernel
theorem dX6_idle_15 : decode cX6_idle 15 = .ok (.ifCond .ge 10, 3) := by decide +kernel
theorem dX6_idle_18 : decode cX6_idle 18 = .ok (.aload_n 0, 1) := by decide +kernel
theorem dX6_idle_19 : decode cX6_idle 19 = .ok (.iload 4, 2) := by decide +kernel
theorem dX6_idle_21 : decode cX6_idle 21 = .ok (.invokevirtual 101, 3) := by decide +kernel
theorem dX6_idle_24 : decode cX6_idle 24 = .ok (.ireturn, 1) := by decide +kernel
theorem dX6_idle_25 : decode cX6_idle 25 = .ok (.aload_n 0, 1) := by decide +kernel
theorem dX6_idle_26 : decode cX6_idle 26 = .ok (.iconst 0, 1) := by decide +kernel
theorem dX6_idle_27 : decode cX6_idle 27 = .ok (.aload_n 0, 1) := by decide +kernel
theorem dX6_idle_28 : decode cX6_idle 28 = .ok (.iload_n 3, 1) := by decide +kernel
theorem dX6_idle_29 : decode cX6_idle 29 = .ok (.invokevirtual 88, 3) := by decide +kernel
theorem dX6_idle_32 : decode cX6_idle 32 = .ok (.aload_n 0, 1) := by decide +kernel
theorem dX6_idle_33 : decode cX6_idle 33 = .ok (.iload_n 3, 1) := by decide +kernel
theorem dX6_idle_34 : decode cX6_idle 34 = .ok (.invokevirtual 192, 3) := by decide +kernel
theorem dX6_idle_37 : decode cX6_idle 37 = .ok (.invokevirtual 195, 3) := by decide +kernel
theorem dX6_idle_40 : decode cX6_idle 40 = .ok (.iconst 0, 1) := by decide +kernel
theorem dX6_idle_41 : decode cX6_idle 41 = .ok (.istore 5, 2) := by decide +kernel
theorem dX6_idle_43 : decode cX6_idle 43 = .ok (.iconst 0, 1) := by decide +kernel
theorem dX6_idle_44 : decode cX6_idle 44 = .ok (.istore 6, 2) := by decide +kernel
theorem dX6_idle_46 : decode cX6_idle 46 = .ok (.iload 6, 2) := by decide +kernel
theorem dX6_idle_48 : decode cX6_idle 48 = .ok (.iload_n 2, 1) := by decide +kernel
theorem dX6_idle_49 : decode cX6_idle 49 = .ok (.if_icmp .ge 53, 3) := by decide +kernel
theorem dX6_idle_52 : decode cX6_idle 52 = .ok (.aload_n 0, 1) := by decide +kernel
theorem dX6_idle_53 : decode cX6_idle 53 = .ok (.getfield 33, 3) := by decide +kernel
theorem dX6_idle_56 : decode cX6_idle 56 = .ok (.iconst 0, 1) := by decide +kernel
theorem dX6_idle_57 : decode cX6_idle 57 = .ok (.iaload, 1) := by decide +kernel
theorem dX6_idle_58 : decode cX6_idle 58 = .ok (.istore 7, 2) := by decide +kernel
theorem dX6_idle_60 : decode cX6_idle 60 = .ok (.aload_n 0, 1) := by decide +kernel
theorem dX6_idle_61 : decode cX6_idle 61 = .ok (.iconst 0, 1) := by decide +kernel
theorem dX6_idle_62 : decode cX6_idle 62 = .ok (.iload_n 3, 1) := by decide +kernel
theorem dX6_idle_63 : decode cX6_idle 63 = .ok (.aload_n 0, 1) := by decide +kernel
theorem dX6_idle_64 : decode cX6_idle 64 = .ok (.getfield 51, 3) := by decide +kernel
theorem dX6_idle_67 : decode cX6_idle 67 = .ok (.iload 6, 2) := by decide +kernel
theorem dX6_idle_69 : decode cX6_idle 69 = .ok (.iaload, 1) := by decide +kernel
theorem dX6_idle_70 : decode cX6_idle 70 = .ok (.iload 6, 2) := by decide +kernel
theorem dX6_idle_72 : decode cX6_idle 72 = .ok (.invokevirtual 199, 3) := by decide +kernel
theorem dX6_idle_75 : decode cX6_idle 75 = .ok (.iload 5, 2) := by decide +kernel
theorem dX6_idle_77 : decode cX6_idle 77 = .ok (.aload_n 0, 1) := by decide +kernel
theorem dX6_idle_78 : decode cX6_idle 78 = .ok (.getfield 33, 3) := by decide +kernel
theorem dX6_idle_81 : decode cX6_idle 81 = .ok (.iconst 0, 1) := by decide +kernel
theorem dX6_idle_82 : decode cX6_idle 82 = .ok (.iaload, 1) := by decide +kernel
theorem dX6_idle_83 : decode cX6_idle 83 = .ok (.iload 7, 2) := by decide +kernel
theorem dX6_idle_85 : decode cX6_idle 85 = .ok (.if_icmp .ne 7, 3) := by decide +kernel
theorem dX6_idle_88 : decode cX6_idle 88 = .ok (.iconst 1, 1) := by decide +kernel
theorem dX6_idle_89 : decode cX6_idle 89 = .ok (.goto 4, 3) := by decide +kernel
theorem dX6_idle_92 : decode cX6_idle 92 = .ok (.iconst 0, 1) := by decide +kernel
theorem dX6_idle_93 : decode cX6_idle 93 = .ok (.iadd, 1) := by decide +kernel
theorem dX6_idle_94 : decode cX6_idle 94 = .ok (.istore 5, 2) := by decide +kernel
theorem dX6_idle_96 : decode cX6_idle 96 = .ok (.iinc 6 1, 3) := by decide +kernel
theorem dX6_idle_99 : decode cX6_idle 99 = .ok (.goto (-53), 3) := by decide +kernel
theorem dX6_idle_102 : decode cX6_idle 102 = .ok (.iload 5, 2) := by decide +kernel
theorem dX6_idle_104 : decode cX6_idle 104 = .ok (.ireturn, 1) := by decide +kernel
set_option maxRecDepth 20000 in
theorem pl_wsX6_lefts_wsX6_lefts_r1 : ∀ w ∈ wsX6_lefts_r1, w ∈ wsX6_lefts := fun _ h => List.mem_cons_of_mem _ (List.mem_append_left _ (List.mem_append_left _ (h)))
theorem pl_wsX6_lefts_wsX60 : ∀ w ∈ wsX60, w ∈ wsX6_lefts := fun _ h => List.mem_cons_of_mem _ (List.mem_append_right _ (h))
theorem ggX6_lefts_X6_isPerson : GoodIn wsX6_lefts wsX6_isPerson := goodIn_sub (List.forall_mem_cons.mpr ⟨(pl_wsX6_lefts_wsX6_lefts_r1 _ (List.mem_of_getElem? (i := 6) rfl)), (fun w h => (List.mem_append.mp h).elim ((List.forall_mem_cons.mpr ⟨(pl_wsX6_lefts_wsX6_lefts_r1 _ (List.mem_of_getElem? (i := 7) rfl)), List.forall_mem_cons.mpr ⟨(pl_wsX6_lefts_wsX6_lefts_r1 _ (List.mem_of_getElem? (i := 8) rfl)), List.forall_mem_cons.mpr ⟨(pl_wsX6_lefts_wsX6_lefts_r1 _ (List.mem_of_getElem? (i := 9) rfl)), List.forall_mem_cons.mpr ⟨(pl_wsX6_lefts_wsX6_lefts_r1 _ (List.mem_of_getElem? (i := 5) rfl)), List.forall_mem_cons.mpr ⟨(pl_wsX6_lefts_wsX6_lefts_r1 _ (List.mem_of_getElem? (i := 10) rfl)), fun _ h => absurd h List.not_mem_nil⟩⟩⟩⟩⟩) w) (pl_wsX6_lefts_wsX60 w))⟩) (by decide +kernel)
set_option maxRecDepth 20000 in
theorem gX6_lefts_X6_isPerson : GoodIn wsX6_lefts (wsV RX6 124 RX6 yX6_isPerson wsX6_isPerson) := goodIn_app (goodIn_sub (List.forall_mem_cons.mpr ⟨(pl_wsX6_lefts_wsX6_lefts_r1 _ (List.mem_of_getElem? (i := 2) rfl)), List.forall_mem_cons.mpr ⟨(pl_wsX6_lefts_wsX6_lefts_r1 _ (List.mem_of_getElem? (i := 3) rfl)), List.forall_mem_cons.mpr ⟨(pl_wsX6_lefts_wsX6_lefts_r1 _ (List.mem_of_getElem? (i := 4) rfl)), List.forall_mem_cons.mpr ⟨(pl_wsX6_lefts_wsX6_lefts_r1 _ (List.mem_of_getElem? (i := 5) rfl)), fun _ h => absurd h List.not_mem_nil⟩⟩⟩⟩) (by decide +kernel)) ggX6_lefts_X6_isPerson
set_option maxRecDepth 20000 in
theorem ggX6_lefts_X6_isIn : GoodIn wsX6_lefts wsX6_isIn := goodIn_sub (List.forall_mem_cons.mpr ⟨(pl_wsX6_lefts_wsX6_lefts_r1 _ (List.mem_of_getElem? (i := 10) rfl)), (fun _ h => absurd h List.not_mem_nil)⟩) (by decide +kernel)
set_option maxRecDepth 20000 in
theorem gX6_lefts_X6_isIn : GoodIn wsX6_lefts (va_wsS RX6 76 yX6_isIn wsX6_isIn) := goodIn_app (goodIn_sub (List.forall_mem_cons.mpr ⟨(pl_wsX6_lefts_wsX6_lefts_r1 _ (List.mem_of_getElem? (i := 8) rfl)), List.forall_mem_cons.mpr ⟨(pl_wsX6_lefts_wsX6_lefts_r1 _ (List.mem_of_getElem? (i := 9) rfl)), List.forall_mem_cons.mpr ⟨(pl_wsX6_lefts_wsX6_lefts_r1 _ (List.mem_of_getElem? (i := 5) rfl)), fun _ h => absurd h List.not_mem_nil⟩⟩⟩) (by decide +kernel)) ggX6_lefts_X6_isIn
set_option maxRecDepth 20000 in
theorem ggX6_lefts_X6_refuse : GoodIn wsX6_lefts wsX6_refuse := goodIn_sub (List.forall_mem_cons.mpr ⟨(pl_wsX6_lefts_wsX6_lefts_r1 _ (List.mem_of_getElem? (i := 14) rfl)), (fun w h => (List.mem_append.mp h).elim ((List.forall_mem_cons.mpr ⟨(pl_wsX6_lefts_wsX6_lefts_r1 _ (List.mem_of_getElem? (i := 15) rfl)), fun _ h => absurd h List.not_mem_nil⟩) w) (pl_wsX6_lefts_wsX60 w))⟩) (by decide +kernel)
set_option maxRecDepth 20000 in
theorem gX6_lefts_X6_refuse : GoodIn wsX6_lefts (wsV RX6 101 RX6 yX6_refuse wsX6_refuse) := goodIn_app (goodIn_sub (List.forall_mem_cons.mpr ⟨(pl_wsX6_lefts_wsX6_lefts_r1 _ (List.mem_of_getElem? (i := 11) rfl)), List.forall_mem_cons.mpr ⟨(pl_wsX6_lefts_wsX6_lefts_r1 _ (List.mem_of_getElem? (i := 12) rfl)), List.forall_mem_cons.mpr ⟨(pl_wsX6_lefts_wsX6_lefts_r1 _ (List.mem_of_getElem? (i := 13) rfl)), List.forall_mem_cons.mpr ⟨(pl_wsX6_lefts_wsX6_lefts_r1 _ (List.mem_of_getElem? (i := 5) rfl)), fun _ h => absurd h List.not_mem_nil⟩⟩⟩⟩) (by decide +kernel)) ggX6_lefts_X6_refuse
set_option maxRecDepth 20000 in
theorem ggX6_lefts_X6_cell : GoodIn wsX6_lefts wsX6_cell := goodIn_sub (List.forall_mem_cons.mpr ⟨(pl_wsX6_lefts_wsX6_lefts_r1 _ (List.mem_of_getElem? (i := 19) rfl)), (fun w h => (List.mem_append.mp h).elim ((List.forall_mem_cons.mpr ⟨(pl_wsX6_lefts_wsX6_lefts_r1 _ (List.mem_of_getElem? (i := 7) rfl)), fun _ h => absurd h List.not_mem_nil⟩) w) (pl_wsX6_lefts_wsX60 w))⟩) (by decide +kernel)
set_option maxRecDepth 20000 in
theorem gX6_lefts_X6_cell : GoodIn wsX6_lefts (wsV RX6 88 RX6 yX6_cell wsX6_cell) := goodIn_app (goodIn_sub (List.forall_mem_cons.mpr ⟨(pl_wsX6_lefts_wsX6_lefts_r1 _ (List.mem_of_getElem? (i := 16) rfl)), List.forall_mem_cons.mpr ⟨(pl_wsX6_lefts_wsX6_lefts_r1 _ (List.mem_of_getElem? (i := 17) rfl)), List.forall_mem_cons.mpr ⟨(pl_wsX6_lefts_wsX6_lefts_r1 _ (List.mem_of_getElem? (i := 18) rfl)), List.forall_mem_cons.mpr ⟨(pl_wsX6_lefts_wsX6_lefts_r1 _ (List.mem_of_getElem? (i := 5) rfl)), fun _ h => absurd h List.not_mem_nil⟩⟩⟩⟩) (by decide +kernel)) ggX6_lefts_X6_cell
set_option maxRecDepth 20000 in
theorem ggX6_lefts_X6_faces : GoodIn wsX6_lefts wsX6_faces := goodIn_sub (List.forall_mem_cons.mpr ⟨(pl_wsX6_lefts_wsX6_lefts_r1 _ (List.mem_of_getElem? (i := 23) rfl)), (fun w h => (List.mem_append.mp h).elim ((List.forall_mem_cons.mpr ⟨(pl_wsX6_lefts_wsX6_lefts_r1 _ (List.mem_of_getElem? (i := 7) rfl)), fun _ h => absurd h List.not_mem_nil⟩) w) (pl_wsX6_lefts_wsX60 w))⟩) (by decide +kernel)
set_option maxRecDepth 20000 in
theorem gX6_lefts_X6_faces : GoodIn wsX6_lefts (wsV RX6 192 RX6 yX6_faces wsX6_faces) := goodIn_app (goodIn_sub (List.forall_mem_cons.mpr ⟨(pl_wsX6_lefts_wsX6_lefts_r1 _ (List.mem_of_getElem? (i := 20) rfl)), List.forall_mem_cons.mpr ⟨(pl_wsX6_lefts_wsX6_lefts_r1 _ (List.mem_of_getElem? (i := 21) rfl)), List.forall_mem_cons.mpr ⟨(pl_wsX6_lefts_wsX6_lefts_r1 _ (List.mem_of_getElem? (i := 22) rfl)), List.forall_mem_cons.mpr ⟨(pl_wsX6_lefts_wsX6_lefts_r1 _ (List.mem_of_getElem? (i := 5) rfl)), fun _ h => absurd h List.not_mem_nil⟩⟩⟩⟩) (by decide +kernel)) ggX6_lefts_X6_faces
set_option maxRecDepth 20000 in
theorem pl_wsX6_lefts_wsX6_lefts_r2 : ∀ w ∈ wsX6_lefts_r2, w ∈ wsX6_lefts := fun _ h => List.mem_cons_of_mem _ (List.mem_append_left _ (List.mem_append_right _ (List.mem_append_left _ (h))))
theorem ggX6_lefts_X6_start : GoodIn wsX6_lefts wsX6_start := goodIn_sub (List.forall_mem_cons.mpr ⟨(pl_wsX6_lefts_wsX6_lefts_r2 _ (List.mem_of_getElem? (i := 3) rfl)), (fun w h => (List.mem_append.mp h).elim ((List.forall_mem_cons.mpr ⟨(pl_wsX6_lefts_wsX6_lefts_r2 _ (List.mem_of_getElem? (i := 4) rfl)), List.forall_mem_cons.mpr ⟨(pl_wsX6_lefts_wsX6_lefts_r1 _ (List.mem_of_getElem? (i := 1) rfl)), List.forall_mem_cons.mpr ⟨(pl_wsX6_lefts_wsX6_lefts_r2 _ (List.mem_of_getElem? (i := 5) rfl)), List.forall_mem_cons.mpr ⟨(pl_wsX6_lefts_wsX6_lefts_r2 _ (List.mem_of_getElem? (i := 6) rfl)), fun _ h => absurd h List.not_mem_nil⟩⟩⟩⟩) w) (pl_wsX6_lefts_wsX60 w))⟩) (by decide +kernel)
set_option maxRecDepth 20000 in
theorem gX6_lefts_X6_start : GoodIn wsX6_lefts (wsV RX6 195 RX6 yX6_start wsX6_start) := goodIn_app (goodIn_sub (List.forall_mem_cons.mpr ⟨(pl_wsX6_lefts_wsX6_lefts_r2 _ (List.mem_of_getElem? (i := 0) rfl)), List.forall_mem_cons.mpr ⟨(pl_wsX6_lefts_wsX6_lefts_r2 _ (List.mem_of_getElem? (i := 1) rfl)), List.forall_mem_cons.mpr ⟨(pl_wsX6_lefts_wsX6_lefts_r2 _ (List.mem_of_getElem? (i := 2) rfl)), List.forall_mem_cons.mpr ⟨(pl_wsX6_lefts_wsX6_lefts_r1 _ (List.mem_of_getElem? (i := 5) rfl)), fun _ h => absurd h List.not_mem_nil⟩⟩⟩⟩) (by decide +kernel)) ggX6_lefts_X6_start
set_option maxRecDepth 20000 in
theorem pl_wsX6_lefts_wsX6_lefts_r3 : ∀ w ∈ wsX6_lefts_r3, w ∈ wsX6_lefts := fun _ h => List.mem_cons_of_mem _ (List.mem_append_left _ (List.mem_append_right _ (List.mem_append_right _ (h))))
theorem ggX6_lefts_X6_step : GoodIn wsX6_lefts wsX6_step := goodIn_sub (List.forall_mem_cons.mpr ⟨(pl_wsX6_lefts_wsX6_lefts_r2 _ (List.mem_of_getElem? (i := 10) rfl)), (fun w h => (List.mem_append.mp h).elim ((fun w h => (List.mem_append.mp h).elim ((List.forall_mem_cons.mpr ⟨(pl_wsX6_lefts_wsX6_lefts_r2 _ (List.mem_of_getElem? (i := 6) rfl)), List.forall_mem_cons.mpr ⟨(pl_wsX6_lefts_wsX6_lefts_r2 _ (List.mem_of_getElem? (i := 4) rfl)), List.forall_mem_cons.mpr ⟨(pl_wsX6_lefts_wsX6_lefts_r1 _ (List.mem_of_getElem? (i := 1) rfl)), List.forall_mem_cons.mpr ⟨(pl_wsX6_lefts_wsX6_lefts_r2 _ (List.mem_of_getElem? (i := 11) rfl)), List.forall_mem_cons.mpr ⟨(pl_wsX6_lefts_wsX6_lefts_r2 _ (List.mem_of_getElem? (i := 5) rfl)), List.forall_mem_cons.mpr ⟨(pl_wsX6_lefts_wsX6_lefts_r2 _ (List.mem_of_getElem? (i := 12) rfl)), List.forall_mem_cons.mpr ⟨(pl_wsX6_lefts_wsX6_lefts_r2 _ (List.mem_of_getElem? (i := 13) rfl)), List.forall_mem_cons.mpr ⟨(pl_wsX6_lefts_wsX6_lefts_r2 _ (List.mem_of_getElem? (i := 14) rfl)), List.forall_mem_cons.mpr ⟨(pl_wsX6_lefts_wsX6_lefts_r2 _ (List.mem_of_getElem? (i := 15) rfl)), List.forall_mem_cons.mpr ⟨(pl_wsX6_lefts_wsX6_lefts_r2 _ (List.mem_of_getElem? (i := 16) rfl)), List.forall_mem_cons.mpr ⟨(pl_wsX6_lefts_wsX6_lefts_r1 _ (List.mem_of_getElem? (i := 5) rfl)), List.forall_mem_cons.mpr ⟨(pl_wsX6_lefts_wsX6_lefts_r2 _ (List.mem_of_getElem? (i := 17) rfl)), List.forall_mem_cons.mpr ⟨(pl_wsX6_lefts_wsX6_lefts_r1 _ (List.mem_of_getElem? (i := 7) rfl)), List.forall_mem_cons.mpr ⟨(pl_wsX6_lefts_wsX6_lefts_r1 _ (List.mem_of_getElem? (i := 8) rfl)), List.forall_mem_cons.mpr ⟨(pl_wsX6_lefts_wsX6_lefts_r1 _ (List.mem_of_getElem? (i := 9) rfl)), List.forall_mem_cons.mpr ⟨(pl_wsX6_lefts_wsX6_lefts_r1 _ (List.mem_of_getElem? (i := 10) rfl)), List.forall_mem_cons.mpr ⟨(pl_wsX6_lefts_wsX6_lefts_r2 _ (List.mem_of_getElem? (i := 18) rfl)), List.forall_mem_cons.mpr ⟨(pl_wsX6_lefts_wsX6_lefts_r2 _ (List.mem_of_getElem? (i := 19) rfl)), List.forall_mem_cons.mpr ⟨(pl_wsX6_lefts_wsX6_lefts_r2 _ (List.mem_of_getElem? (i := 20) rfl)), List.forall_mem_cons.mpr ⟨(pl_wsX6_lefts_wsX6_lefts_r2 _ (List.mem_of_getElem? (i := 21) rfl)), List.forall_mem_cons.mpr ⟨(pl_wsX6_lefts_wsX6_lefts_r2 _ (List.mem_of_getElem? (i := 22) rfl)), List.forall_mem_cons.mpr ⟨(pl_wsX6_lefts_wsX6_lefts_r2 _ (List.mem_of_getElem? (i := 23) rfl)), List.forall_mem_cons.mpr ⟨(pl_wsX6_lefts_wsX6_lefts_r3 _ (List.mem_of_getElem? (i := 0) rfl)), List.forall_mem_cons.mpr ⟨(pl_wsX6_lefts_wsX6_lefts_r3 _ (List.mem_of_getElem? (i := 1) rfl)), fun _ h => absurd h List.not_mem_nil⟩⟩⟩⟩⟩⟩⟩⟩⟩⟩⟩⟩⟩⟩⟩⟩⟩⟩⟩⟩⟩⟩⟩⟩) w) ((List.forall_mem_cons.mpr ⟨(pl_wsX6_lefts_wsX6_lefts_r3 _ (List.mem_of_getElem? (i := 2) rfl)), List.forall_mem_cons.mpr ⟨(pl_wsX6_lefts_wsX6_lefts_r3 _ (List.mem_of_getElem? (i := 3) rfl)), List.forall_mem_cons.mpr ⟨(pl_wsX6_lefts_wsX6_lefts_r3 _ (List.mem_of_getElem? (i := 4) rfl)), List.forall_mem_cons.mpr ⟨(pl_wsX6_lefts_wsX6_lefts_r3 _ (List.mem_of_getElem? (i := 5) rfl)), List.forall_mem_cons.mpr ⟨(pl_wsX6_lefts_wsX6_lefts_r3 _ (List.mem_of_getElem? (i := 6) rfl)), List.forall_mem_cons.mpr ⟨(pl_wsX6_lefts_wsX6_lefts_r3 _ (List.mem_of_getElem? (i := 7) rfl)), List.forall_mem_cons.mpr ⟨(pl_wsX6_lefts_wsX6_lefts_r3 _ (List.mem_of_getElem? (i := 8) rfl)), List.forall_mem_cons.mpr ⟨(pl_wsX6_lefts_wsX6_lefts_r3 _ (List.mem_of_getElem? (i := 9) rfl)), List.forall_mem_cons.mpr ⟨(pl_wsX6_lefts_wsX6_lefts_r3 _ (List.mem_of_getElem? (i := 10) rfl)), List.forall_mem_cons.mpr ⟨(pl_wsX6_lefts_wsX6_lefts_r3 _ (List.mem_of_getElem? (i := 11) rfl)), List.forall_mem_cons.mpr ⟨(pl_wsX6_lefts_wsX6_lefts_r3 _ (List.mem_of_getElem? (i := 12) rfl)), List.forall_mem_cons.mpr ⟨(pl_wsX6_lefts_wsX6_lefts_r3 _ (List.mem_of_getElem? (i := 13) rfl)), List.forall_mem_cons.mpr ⟨(pl_wsX6_lefts_wsX6_lefts_r3 _ (List.mem_of_getElem? (i := 14) rfl)), List.forall_mem_cons.mpr ⟨(pl_wsX6_lefts_wsX6_lefts_r3 _ (List.mem_of_getElem? (i := 15) rfl)), List.forall_mem_cons.mpr ⟨(pl_wsX6_lefts_wsX6_lefts_r3 _ (List.mem_of_getElem? (i := 16) rfl)), fun _ h => absurd h List.not_mem_nil⟩⟩⟩⟩⟩⟩⟩⟩⟩⟩⟩⟩⟩⟩⟩) w)) w) (pl_wsX6_lefts_wsX60 w))⟩) (by decide +kernel)
set_option maxRecDepth 20000 in
theorem gX6_lefts_X6_step : GoodIn wsX6_lefts (wsV RX6 199 RX6 yX6_step wsX6_step) := goodIn_app (goodIn_sub (List.forall_mem_cons.mpr ⟨(pl_wsX6_lefts_wsX6_lefts_r2 _ (List.mem_of_getElem? (i := 7) rfl)), List.forall_mem_cons.mpr ⟨(pl_wsX6_lefts_wsX6_lefts_r2 _ (List.mem_of_getElem? (i := 8) rfl)), List.forall_mem_cons.mpr ⟨(pl_wsX6_lefts_wsX6_lefts_r2 _ (List.mem_of_getElem? (i := 9) rfl)), List.forall_mem_cons.mpr ⟨(pl_wsX6_lefts_wsX6_lefts_r1 _ (List.mem_of_getElem? (i := 5) rfl)), fun _ h => absurd h List.not_mem_nil⟩⟩⟩⟩) (by decide +kernel)) ggX6_lefts_X6_step
theorem dX6_lefts_0 : decode cX6_lefts 0 = .ok (.aload_n 0, 1) := by decide +kernel
theorem dX6_lefts_1 : decode cX6_lefts 1 = .ok (.iload_n 1, 1) := by decide +kernel
theorem dX6_lefts_2 : decode cX6_lefts 2 = .ok (.invokevirtual 124, 3) := by decide +kernel
theorem dX6_lefts_5 : decode cX6_lefts 5 = .ok (.ifCond .eq 15, 3) := by decide +kernel
theorem dX6_lefts_8 : decode cX6_lefts 8 = .ok (.iload_n 2, 1) := by decide +kernel
theorem dX6_lefts_9 : decode cX6_lefts 9 = .ok (.i2l, 1) := by decide +kernel
theorem dX6_lefts_10 : decode cX6_lefts 10 = .ok (.lconst 0, 1) := by decide +kernel
theorem dX6_lefts_11 : decode cX6_lefts 11 = .ok (.ldc2_w 114, 3) := by decide +kernel
theorem dX6_lefts_14 : decode cX6_lefts 14 = .ok (.invokestatic 76, 3) := by decide +kernel
theorem dX6_lefts_17 : decode cX6_lefts 17 = .ok (.ifCond .ne 10, 3) := by decide +kernel
theorem dX6_lefts_20 : decode cX6_lefts 20 = .ok (.aload_n 0, 1) := by decide +kernel
theorem dX6_lefts_21 : decode cX6_lefts 21 = .ok (.bipush (-2), 2) := by decide +kernel
theorem dX6_lefts_23 : decode cX6_lefts 23 = .ok (.invokevirtual 101, 3) := by decide +kernel
theorem dX6_lefts_26 : decode cX6_lefts 26 = .ok (.ireturn, 1) := by decide +kernel
theorem dX6_lefts_27 : decode cX6_lefts 27 = .ok (.aload_n 0, 1) := by decide +kernel
theorem dX6_lefts_28 : decode cX6_lefts 28 = .ok (.iconst 0, 1) := by decide +kernel
theorem dX6_lefts_29 : decode cX6_lefts 29 = .ok (.aload_n 0, 1) := by decide +kernel
theorem dX6_lefts_30 : decode cX6_lefts 30 = .ok (.iload_n 1, 1) := by decide +kernel
theorem dX6_lefts_31 : decode cX6_lefts 31 = .ok (.invokevirtual 88, 3) := by decide +kernel
theorem dX6_lefts_34 : decode cX6_lefts 34 = .ok (.aload_n 0, 1) := by decide +kernel
theorem dX6_lefts_35 : decode cX6_lefts 35 = .ok (.iload_n 1, 1) := by decide +kernel
theorem dX6_lefts_36 : decode cX6_lefts 36 = .ok (.invokevirtual 192, 3) := by decide +kernel
theorem dX6_lefts_39 : decode cX6_lefts 39 = .ok (.invokevirtual 195, 3) := by decide +kernel
theorem dX6_lefts_42 : decode cX6_lefts 42 = .ok (.iconst 0, 1) := by decide +kernel
theorem dX6_lefts_43 : decode cX6_lefts 43 = .ok (.istore_n 3, 1) := by decide +kernel
theorem dX6_lefts_44 : decode cX6_lefts 44 = .ok (.aload_n 0, 1) := by decide +kernel
theorem dX6_lefts_45 : decode cX6_lefts 45 = .ok (.getfield 36, 3) := by decide +kernel
theorem dX6_lefts_48 : decode cX6_lefts 48 = .ok (.iconst 0, 1) := by decide +kernel
theorem dX6_lefts_49 : decode cX6_lefts 49 = .ok (.iaload, 1) := by decide +kernel
theorem dX6_lefts_50 : decode cX6_lefts 50 = .ok (.iload_n 2, 1) := by decide +kernel
theorem dX6_lefts_51 : decode cX6_lefts 51 = .ok (.if_icmp .eq 23, 3) := by decide +kernel
theorem dX6_lefts_54 : decode cX6_lefts 54 = .ok (.iload_n 3, 1) := by decide +kernel
theorem dX6_lefts_55 : decode cX6_lefts 55 = .ok (.bipush 20, 2) := by decide +kernel
theorem dX6_lefts_57 : decode cX6_lefts 57 = .ok (.if_icmp .gt 17, 3) := by decide +kernel
theorem dX6_lefts_60 : decode cX6_lefts 60 = .ok (.aload_n 0, 1) := by decide +kernel
theorem dX6_lefts_61 : decode cX6_lefts 61 = .ok (.iconst 0, 1) := by decide +kernel
theorem dX6_lefts_62 : decode cX6_lefts 62 = .ok (.iload_n 1, 1) := by decide +kernel
theorem dX6_lefts_63 : decode cX6_lefts 63 = .ok (.iconst 1, 1) := by decide +kernel
theorem dX6_lefts_64 : decode cX6_lefts 64 = .ok (.iload_n 3, 1) := by decide +kernel
theorem dX6_lefts_65 : decode cX6_lefts 65 = .ok (.invokevirtual 199, 3) := by decide +kernel
theorem dX6_lefts_68 : decode cX6_lefts 68 = .ok (.iinc 3 1, 3) := by decide +kernel
theorem dX6_lefts_71 : decode cX6_lefts 71 = .ok (.goto (-27), 3) := by decide +kernel
theorem dX6_lefts_74 : decode cX6_lefts 74 = .ok (.iload_n 3, 1) := by decide +kernel
theorem dX6_lefts_75 : decode cX6_lefts 75 = .ok (.bipush 20, 2) := by decide +kernel
theorem dX6_lefts_77 : decode cX6_lefts 77 = .ok (.if_icmp .le 7, 3) := by decide +kernel
theorem dX6_lefts_80 : decode cX6_lefts 80 = .ok (.iconst (-1), 1) := by decide +kernel
theorem dX6_lefts_81 : decode cX6_lefts 81 = .ok (.goto 4, 3) := by decide +kernel
theorem dX6_lefts_84 : decode cX6_lefts 84 = .ok (.iload_n 3, 1) := by decide +kernel
theorem dX6_lefts_85 : decode cX6_lefts 85 = .ok (.ireturn, 1) := by decide +kernel
set_option maxRecDepth 20000 in
theorem pl_wsX6_reach_wsX6_reach_r1 : ∀ w ∈ wsX6_reach_r1, w ∈ wsX6_reach := fun _ h => List.mem_cons_of_mem _ (List.mem_append_left _ (List.mem_append_left _ (h)))
theorem pl_wsX6_reach_wsX60 : ∀ w ∈ wsX60, w ∈ wsX6_reach := fun _ h => List.mem_cons_of_mem _ (List.mem_append_right _ (h))
theorem ggX6_reach_X6_isPerson : GoodIn wsX6_reach wsX6_isPerson := goodIn_sub (List.forall_mem_cons.mpr ⟨(pl_wsX6_reach_wsX6_reach_r1 _ (List.mem_of_getElem? (i := 7) rfl)), (fun w h => (List.mem_append.mp h).elim ((List.forall_mem_cons.mpr ⟨(pl_wsX6_reach_wsX6_reach_r1 _ (List.mem_of_getElem? (i := 8) rfl)), List.forall_mem_cons.mpr ⟨(pl_wsX6_reach_wsX6_reach_r1 _ (List.mem_of_getElem? (i := 9) rfl)), List.forall_mem_cons.mpr ⟨(pl_wsX6_reach_wsX6_reach_r1 _ (List.mem_of_getElem? (i := 10) rfl)), List.forall_mem_cons.mpr ⟨(pl_wsX6_reach_wsX6_reach_r1 _ (List.mem_of_getElem? (i := 6) rfl)), List.forall_mem_cons.mpr ⟨(pl_wsX6_reach_wsX6_reach_r1 _ (List.mem_of_getElem? (i := 11) rfl)), fun _ h => absurd h List.not_mem_nil⟩⟩⟩⟩⟩) w) (pl_wsX6_reach_wsX60 w))⟩) (by decide +kernel)
set_option maxRecDepth 20000 in
theorem gX6_reach_X6_isPerson : GoodIn wsX6_reach (wsV RX6 124 RX6 yX6_isPerson wsX6_isPerson) := goodIn_app (goodIn_sub (List.forall_mem_cons.mpr ⟨(pl_wsX6_reach_wsX6_reach_r1 _ (List.mem_of_getElem? (i := 3) rfl)), List.forall_mem_cons.mpr ⟨(pl_wsX6_reach_wsX6_reach_r1 _ (List.mem_of_getElem? (i := 4) rfl)), List.forall_mem_cons.mpr ⟨(pl_wsX6_reach_wsX6_reach_r1 _ (List.mem_of_getElem? (i := 5) rfl)), List.forall_mem_cons.mpr ⟨(pl_wsX6_reach_wsX6_reach_r1 _ (List.mem_of_getElem? (i := 6) rfl)), fun _ h => absurd h List.not_mem_nil⟩⟩⟩⟩) (by decide +kernel)) ggX6_reach_X6_isPerson
set_option maxRecDepth 20000 in
theorem ggX6_reach_X6_isIn : GoodIn wsX6_reach wsX6_isIn := goodIn_sub (List.forall_mem_cons.mpr ⟨(pl_wsX6_reach_wsX6_reach_r1 _ (List.mem_of_getElem? (i := 11) rfl)), (fun _ h => absurd h List.not_mem_nil)⟩) (by decide +kernel)
set_option maxRecDepth 20000 in
theorem gX6_reach_X6_isIn : GoodIn wsX6_reach (va_wsS RX6 76 yX6_isIn wsX6_isIn) := goodIn_app (goodIn_sub (List.forall_mem_cons.mpr ⟨(pl_wsX6_reach_wsX6_reach_r1 _ (List.mem_of_getElem? (i := 9) rfl)), List.forall_mem_cons.mpr ⟨(pl_wsX6_reach_wsX6_reach_r1 _ (List.mem_of_getElem? (i := 10) rfl)), List.forall_mem_cons.mpr ⟨(pl_wsX6_reach_wsX6_reach_r1 _ (List.mem_of_getElem? (i := 6) rfl)), fun _ h => absurd h List.not_mem_nil⟩⟩⟩) (by decide +kernel)) ggX6_reach_X6_isIn
set_option maxRecDepth 20000 in
theorem ggX6_reach_X6_refuse : GoodIn wsX6_reach wsX6_refuse := goodIn_sub (List.forall_mem_cons.mpr ⟨(pl_wsX6_reach_wsX6_reach_r1 _ (List.mem_of_getElem? (i := 15) rfl)), (fun w h => (List.mem_append.mp h).elim ((List.forall_mem_cons.mpr ⟨(pl_wsX6_reach_wsX6_reach_r1 _ (List.mem_of_getElem? (i := 16) rfl)), fun _ h => absurd h List.not_mem_nil⟩) w) (pl_wsX6_reach_wsX60 w))⟩) (by decide +kernel)
set_option maxRecDepth 20000 in
theorem gX6_reach_X6_refuse : GoodIn wsX6_reach (wsV RX6 101 RX6 yX6_refuse wsX6_refuse) := goodIn_app (goodIn_sub (List.forall_mem_cons.mpr ⟨(pl_wsX6_reach_wsX6_reach_r1 _ (List.mem_of_getElem? (i := 12) rfl)), List.forall_mem_cons.mpr ⟨(pl_wsX6_reach_wsX6_reach_r1 _ (List.mem_of_getElem? (i := 13) rfl)), List.forall_mem_cons.mpr ⟨(pl_wsX6_reach_wsX6_reach_r1 _ (List.mem_of_getElem? (i := 14) rfl)), List.forall_mem_cons.mpr ⟨(pl_wsX6_reach_wsX6_reach_r1 _ (List.mem_of_getElem? (i := 6) rfl)), fun _ h => absurd h List.not_mem_nil⟩⟩⟩⟩) (by decide +kernel)) ggX6_reach_X6_refuse
set_option maxRecDepth 20000 in
theorem ggX6_reach_X6_spell : GoodIn wsX6_reach wsX6_spell := goodIn_sub (List.forall_mem_cons.mpr ⟨(pl_wsX6_reach_wsX6_reach_r1 _ (List.mem_of_getElem? (i := 20) rfl)), (fun w h => (List.mem_append.mp h).elim ((List.forall_mem_cons.mpr ⟨(pl_wsX6_reach_wsX6_reach_r1 _ (List.mem_of_getElem? (i := 21) rfl)), fun _ h => absurd h List.not_mem_nil⟩) w) (pl_wsX6_reach_wsX60 w))⟩) (by decide +kernel)
set_option maxRecDepth 20000 in
theorem gX6_reach_X6_spell : GoodIn wsX6_reach (wsV RX6 227 RX6 yX6_spell wsX6_spell) := goodIn_app (goodIn_sub (List.forall_mem_cons.mpr ⟨(pl_wsX6_reach_wsX6_reach_r1 _ (List.mem_of_getElem? (i := 17) rfl)), List.forall_mem_cons.mpr ⟨(pl_wsX6_reach_wsX6_reach_r1 _ (List.mem_of_getElem? (i := 18) rfl)), List.forall_mem_cons.mpr ⟨(pl_wsX6_reach_wsX6_reach_r1 _ (List.mem_of_getElem? (i := 19) rfl)), List.forall_mem_cons.mpr ⟨(pl_wsX6_reach_wsX6_reach_r1 _ (List.mem_of_getElem? (i := 6) rfl)), fun _ h => absurd h List.not_mem_nil⟩⟩⟩⟩) (by decide +kernel)) ggX6_reach_X6_spell
set_option maxRecDepth 20000 in
theorem pl_wsX6_reach_wsX6_reach_r2 : ∀ w ∈ wsX6_reach_r2, w ∈ wsX6_reach := fun _ h => List.mem_cons_of_mem _ (List.mem_append_left _ (List.mem_append_right _ (List.mem_append_left _ (h))))
theorem pl_wsX6_reach_wsX6_reach_r3 : ∀ w ∈ wsX6_reach_r3, w ∈ wsX6_reach := fun _ h => List.mem_cons_of_mem _ (List.mem_append_left _ (List.mem_append_right _ (List.mem_append_right _ (List.mem_append_left _ (h)))))
theorem pl_wsX6_reach_wsX6_reach_r4 : ∀ w ∈ wsX6_reach_r4, w ∈ wsX6_reach := fun _ h => List.mem_cons_of_mem _ (List.mem_append_left _ (List.mem_append_right _ (List.mem_append_right _ (List.mem_append_right _ (h)))))
theorem ggX6_reach_X6_go : GoodIn wsX6_reach wsX6_go := goodIn_sub (List.forall_mem_cons.mpr ⟨(pl_wsX6_reach_wsX6_reach_r2 _ (List.mem_of_getElem? (i := 1) rfl)), (fun w h => (List.mem_append.mp h).elim ((fun w h => (List.mem_append.mp h).elim ((List.forall_mem_cons.mpr ⟨(pl_wsX6_reach_wsX6_reach_r1 _ (List.mem_of_getElem? (i := 21) rfl)), List.forall_mem_cons.mpr ⟨(pl_wsX6_reach_wsX6_reach_r2 _ (List.mem_of_getElem? (i := 2) rfl)), List.forall_mem_cons.mpr ⟨(pl_wsX6_reach_wsX6_reach_r2 _ (List.mem_of_getElem? (i := 3) rfl)), List.forall_mem_cons.mpr ⟨(pl_wsX6_reach_wsX6_reach_r2 _ (List.mem_of_getElem? (i := 4) rfl)), List.forall_mem_cons.mpr ⟨(pl_wsX6_reach_wsX6_reach_r1 _ (List.mem_of_getElem? (i := 6) rfl)), List.forall_mem_cons.mpr ⟨(pl_wsX6_reach_wsX6_reach_r2 _ (List.mem_of_getElem? (i := 5) rfl)), List.forall_mem_cons.mpr ⟨(pl_wsX6_reach_wsX6_reach_r1 _ (List.mem_of_getElem? (i := 8) rfl)), List.forall_mem_cons.mpr ⟨(pl_wsX6_reach_wsX6_reach_r2 _ (List.mem_of_getElem? (i := 6) rfl)), List.forall_mem_cons.mpr ⟨(pl_wsX6_reach_wsX6_reach_r2 _ (List.mem_of_getElem? (i := 7) rfl)), List.forall_mem_cons.mpr ⟨(pl_wsX6_reach_wsX6_reach_r2 _ (List.mem_of_getElem? (i := 8) rfl)), List.forall_mem_cons.mpr ⟨(pl_wsX6_reach_wsX6_reach_r2 _ (List.mem_of_getElem? (i := 9) rfl)), List.forall_mem_cons.mpr ⟨(pl_wsX6_reach_wsX6_reach_r2 _ (List.mem_of_getElem? (i := 10) rfl)), List.forall_mem_cons.mpr ⟨(pl_wsX6_reach_wsX6_reach_r2 _ (List.mem_of_getElem? (i := 11) rfl)), List.forall_mem_cons.mpr ⟨(pl_wsX6_reach_wsX6_reach_r2 _ (List.mem_of_getElem? (i := 12) rfl)), List.forall_mem_cons.mpr ⟨(pl_wsX6_reach_wsX6_reach_r2 _ (List.mem_of_getElem? (i := 13) rfl)), List.forall_mem_cons.mpr ⟨(pl_wsX6_reach_wsX6_reach_r1 _ (List.mem_of_getElem? (i := 2) rfl)), List.forall_mem_cons.mpr ⟨(pl_wsX6_reach_wsX6_reach_r2 _ (List.mem_of_getElem? (i := 14) rfl)), List.forall_mem_cons.mpr ⟨(pl_wsX6_reach_wsX6_reach_r2 _ (List.mem_of_getElem? (i := 15) rfl)), List.forall_mem_cons.mpr ⟨(pl_wsX6_reach_wsX6_reach_r1 _ (List.mem_of_getElem? (i := 1) rfl)), List.forall_mem_cons.mpr ⟨(pl_wsX6_reach_wsX6_reach_r2 _ (List.mem_of_getElem? (i := 16) rfl)), List.forall_mem_cons.mpr ⟨(pl_wsX6_reach_wsX6_reach_r2 _ (List.mem_of_getElem? (i := 17) rfl)), List.forall_mem_cons.mpr ⟨(pl_wsX6_reach_wsX6_reach_r2 _ (List.mem_of_getElem? (i := 18) rfl)), List.forall_mem_cons.mpr ⟨(pl_wsX6_reach_wsX6_reach_r2 _ (List.mem_of_getElem? (i := 19) rfl)), List.forall_mem_cons.mpr ⟨(pl_wsX6_reach_wsX6_reach_r2 _ (List.mem_of_getElem? (i := 20) rfl)), fun _ h => absurd h List.not_mem_nil⟩⟩⟩⟩⟩⟩⟩⟩⟩⟩⟩⟩⟩⟩⟩⟩⟩⟩⟩⟩⟩⟩⟩⟩) w) ((fun w h => (List.mem_append.mp h).elim ((List.forall_mem_cons.mpr ⟨(pl_wsX6_reach_wsX6_reach_r2 _ (List.mem_of_getElem? (i := 21) rfl)), List.forall_mem_cons.mpr ⟨(pl_wsX6_reach_wsX6_reach_r2 _ (List.mem_of_getElem? (i := 22) rfl)), List.forall_mem_cons.mpr ⟨(pl_wsX6_reach_wsX6_reach_r2 _ (List.mem_of_getElem? (i := 23) rfl)), List.forall_mem_cons.mpr ⟨(pl_wsX6_reach_wsX6_reach_r3 _ (List.mem_of_getElem? (i := 0) rfl)), List.forall_mem_cons.mpr ⟨(pl_wsX6_reach_wsX6_reach_r3 _ (List.mem_of_getElem? (i := 1) rfl)), List.forall_mem_cons.mpr ⟨(pl_wsX6_reach_wsX6_reach_r3 _ (List.mem_of_getElem? (i := 2) rfl)), List.forall_mem_cons.mpr ⟨(pl_wsX6_reach_wsX6_reach_r1 _ (List.mem_of_getElem? (i := 9) rfl)), List.forall_mem_cons.mpr ⟨(pl_wsX6_reach_wsX6_reach_r1 _ (List.mem_of_getElem? (i := 10) rfl)), List.forall_mem_cons.mpr ⟨(pl_wsX6_reach_wsX6_reach_r1 _ (List.mem_of_getElem? (i := 11) rfl)), List.forall_mem_cons.mpr ⟨(pl_wsX6_reach_wsX6_reach_r3 _ (List.mem_of_getElem? (i := 3) rfl)), List.forall_mem_cons.mpr ⟨(pl_wsX6_reach_wsX6_reach_r3 _ (List.mem_of_getElem? (i := 4) rfl)), List.forall_mem_cons.mpr ⟨(pl_wsX6_reach_wsX6_reach_r3 _ (List.mem_of_getElem? (i := 5) rfl)), List.forall_mem_cons.mpr ⟨(pl_wsX6_reach_wsX6_reach_r3 _ (List.mem_of_getElem? (i := 6) rfl)), List.forall_mem_cons.mpr ⟨(pl_wsX6_reach_wsX6_reach_r3 _ (List.mem_of_getElem? (i := 7) rfl)), List.forall_mem_cons.mpr ⟨(pl_wsX6_reach_wsX6_reach_r3 _ (List.mem_of_getElem? (i := 8) rfl)), List.forall_mem_cons.mpr ⟨(pl_wsX6_reach_wsX6_reach_r3 _ (List.mem_of_getElem? (i := 9) rfl)), List.forall_mem_cons.mpr ⟨(pl_wsX6_reach_wsX6_reach_r3 _ (List.mem_of_getElem? (i := 10) rfl)), List.forall_mem_cons.mpr ⟨(pl_wsX6_reach_wsX6_reach_r3 _ (List.mem_of_getElem? (i := 11) rfl)), List.forall_mem_cons.mpr ⟨(pl_wsX6_reach_wsX6_reach_r3 _ (List.mem_of_getElem? (i := 12) rfl)), List.forall_mem_cons.mpr ⟨(pl_wsX6_reach_wsX6_reach_r3 _ (List.mem_of_getElem? (i := 13) rfl)), List.forall_mem_cons.mpr ⟨(pl_wsX6_reach_wsX6_reach_r3 _ (List.mem_of_getElem? (i := 14) rfl)), List.forall_mem_cons.mpr ⟨(pl_wsX6_reach_wsX6_reach_r3 _ (List.mem_of_getElem? (i := 15) rfl)), List.forall_mem_cons.mpr ⟨(pl_wsX6_reach_wsX6_reach_r3 _ (List.mem_of_getElem? (i := 16) rfl)), List.forall_mem_cons.mpr ⟨(pl_wsX6_reach_wsX6_reach_r3 _ (List.mem_of_getElem? (i := 17) rfl)), fun _ h => absurd h List.not_mem_nil⟩⟩⟩⟩⟩⟩⟩⟩⟩⟩⟩⟩⟩⟩⟩⟩⟩⟩⟩⟩⟩⟩⟩⟩) w) ((List.forall_mem_cons.mpr ⟨(pl_wsX6_reach_wsX6_reach_r3 _ (List.mem_of_getElem? (i := 18) rfl)), List.forall_mem_cons.mpr ⟨(pl_wsX6_reach_wsX6_reach_r3 _ (List.mem_of_getElem? (i := 19) rfl)), List.forall_mem_cons.mpr ⟨(pl_wsX6_reach_wsX6_reach_r3 _ (List.mem_of_getElem? (i := 20) rfl)), List.forall_mem_cons.mpr ⟨(pl_wsX6_reach_wsX6_reach_r3 _ (List.mem_of_getElem? (i := 21) rfl)), List.forall_mem_cons.mpr ⟨(pl_wsX6_reach_wsX6_reach_r3 _ (List.mem_of_getElem? (i := 22) rfl)), List.forall_mem_cons.mpr ⟨(pl_wsX6_reach_wsX6_reach_r3 _ (List.mem_of_getElem? (i := 23) rfl)), List.forall_mem_cons.mpr ⟨(pl_wsX6_reach_wsX6_reach_r4 _ (List.mem_of_getElem? (i := 0) rfl)), List.forall_mem_cons.mpr ⟨(pl_wsX6_reach_wsX6_reach_r4 _ (List.mem_of_getElem? (i := 1) rfl)), fun _ h => absurd h List.not_mem_nil⟩⟩⟩⟩⟩⟩⟩⟩) w)) w)) w) (pl_wsX6_reach_wsX60 w))⟩) (by decide +kernel)
set_option maxRecDepth 20000 in
theorem gX6_reach_X6_go : GoodIn wsX6_reach (wsV RX6 223 RX6 yX6_go wsX6_go) := goodIn_app (goodIn_sub (List.forall_mem_cons.mpr ⟨(pl_wsX6_reach_wsX6_reach_r1 _ (List.mem_of_getElem? (i := 22) rfl)), List.forall_mem_cons.mpr ⟨(pl_wsX6_reach_wsX6_reach_r1 _ (List.mem_of_getElem? (i := 23) rfl)), List.forall_mem_cons.mpr ⟨(pl_wsX6_reach_wsX6_reach_r2 _ (List.mem_of_getElem? (i := 0) rfl)), List.forall_mem_cons.mpr ⟨(pl_wsX6_reach_wsX6_reach_r1 _ (List.mem_of_getElem? (i := 6) rfl)), fun _ h => absurd h List.not_mem_nil⟩⟩⟩⟩) (by decide +kernel)) ggX6_reach_X6_go
set_option maxRecDepth 20000 in
theorem ggX6_reach_X6_pondAt : GoodIn wsX6_reach wsX6_pondAt := goodIn_sub (List.forall_mem_cons.mpr ⟨(pl_wsX6_reach_wsX6_reach_r3 _ (List.mem_of_getElem? (i := 9) rfl)), (fun _ h => absurd h List.not_mem_nil)⟩) (by decide +kernel)
set_option maxRecDepth 20000 in
theorem gX6_reach_X6_pondAt : GoodIn wsX6_reach (va_wsS RX6 80 yX6_pondAt wsX6_pondAt) := goodIn_app (goodIn_sub (List.forall_mem_cons.mpr ⟨(pl_wsX6_reach_wsX6_reach_r3 _ (List.mem_of_getElem? (i := 7) rfl)), List.forall_mem_cons.mpr ⟨(pl_wsX6_reach_wsX6_reach_r3 _ (List.mem_of_getElem? (i := 8) rfl)), List.forall_mem_cons.mpr ⟨(pl_wsX6_reach_wsX6_reach_r1 _ (List.mem_of_getElem? (i := 6) rfl)), fun _ h => absurd h List.not_mem_nil⟩⟩⟩) (by decide +kernel)) ggX6_reach_X6_pondAt
theorem dX6_reach_0 : decode cX6_reach 0 = .ok (.aload_n 0, 1) := by decide +kernel
theorem dX6_reach_1 : decode cX6_reach 1 = .ok (.iload_n 1, 1) := by decide +kernel
theorem dX6_reach_2 : decode cX6_reach 2 = .ok (.invokevirtual 124, 3) := by decide +kernel
theorem dX6_reach_5 : decode cX6_reach 5 = .ok (.ifCond .eq 15, 3) := by decide +kernel
theorem dX6_reach_8 : decode cX6_reach 8 = .ok (.iload_n 2, 1) := by decide +kernel
theorem dX6_reach_9 : decode cX6_reach 9 = .ok (.i2l, 1) := by decide +kernel
theorem dX6_reach_10 : decode cX6_reach 10 = .ok (.lconst 0, 1) := by decide +kernel
theorem dX6_reach_11 : decode cX6_reach 11 = .ok (.ldc2_w 243, 3) := by decide +kernel
theorem dX6_reach_14 : decode cX6_reach 14 = .ok (.invokestatic 76, 3) := by decide +kernel
theorem dX6_reach_17 : decode cX6_reach 17 = .ok (.ifCond .ne 10, 3) := by decide +kernel
theorem dX6_reach_20 : decode cX6_reach 20 = .ok (.aload_n 0, 1) := by decide +kernel
theorem dX6_reach_21 : decode cX6_reach 21 = .ok (.bipush (-2), 2) := by decide +kernel
theorem dX6_reach_23 : decode cX6_reach 23 = .ok (.invokevirtual 101, 3) := by decide +kernel
theorem dX6_reach_26 : decode cX6_reach 26 = .ok (.ireturn, 1) := by decide +kernel
theorem dX6_reach_27 : decode cX6_reach 27 = .ok (.lconst 0, 1) := by decide +kernel
theorem dX6_reach_28 : decode cX6_reach 28 = .ok (.lstore_n 3, 1) := by decide +kernel
theorem dX6_reach_29 : decode cX6_reach 29 = .ok (.iconst 1, 1) := by decide +kernel
theorem dX6_reach_30 : decode cX6_reach 30 = .ok (.istore 5, 2) := by decide +kernel
theorem dX6_reach_32 : decode cX6_reach 32 = .ok (.iconst 0, 1) := by decide +kernel
theorem dX6_reach_33 : decode cX6_reach 33 = .ok (.istore 6, 2) := by decide +kernel
theorem dX6_reach_35 : decode cX6_reach 35 = .ok (.iload 6, 2) := by decide +kernel
theorem dX6_reach_37 : decode cX6_reach 37 = .ok (.iload_n 2, 1) := by decide +kernel
theorem dX6_reach_38 : decode cX6_reach 38 = .ok (.if_icmp .gt 77, 3) := by decide +kernel
theorem dX6_reach_41 : decode cX6_reach 41 = .ok (.iconst 0, 1) := by decide +kernel
theorem dX6_reach_42 : decode cX6_reach 42 = .ok (.istore 7, 2) := by decide +kernel
theorem dX6_reach_44 : decode cX6_reach 44 = .ok (.iload 7, 2) := by decide +kernel
theorem dX6_reach_46 : decode cX6_reach 46 = .ok (.iload 5, 2) := by decide +kernel
theorem dX6_reach_48 : decode cX6_reach 48 = .ok (.if_icmp .ge 55, 3) := by decide +kernel
theorem dX6_reach_51 : decode cX6_reach 51 = .ok (.aload_n 0, 1) := by decide +kernel
theorem dX6_reach_52 : decode cX6_reach 52 = .ok (.iload 7, 2) := by decide +kernel
theorem dX6_reach_54 : decode cX6_reach 54 = .ok (.iload 6, 2) := by decide +kernel
theorem dX6_reach_56 : decode cX6_reach 56 = .ok (.invokevirtual 227, 3) := by decide +kernel
theorem dX6_reach_59 : decode cX6_reach 59 = .ok (.aload_n 0, 1) := by decide +kernel
theorem dX6_reach_60 : decode cX6_reach 60 = .ok (.iload_n 1, 1) := by decide +kernel
theorem dX6_reach_61 : decode cX6_reach 61 = .ok (.iload 6, 2) := by decide +kernel
theorem dX6_reach_63 : decode cX6_reach 63 = .ok (.invokevirtual 223, 3) := by decide +kernel
theorem dX6_reach_66 : decode cX6_reach 66 = .ok (.lload_n 3, 1) := by decide +kernel
theorem dX6_reach_67 : decode cX6_reach 67 = .ok (.aload_n 0, 1) := by decide +kernel
theorem dX6_reach_68 : decode cX6_reach 68 = .ok (.getfield 48, 3) := by decide +kernel
theorem dX6_reach_71 : decode cX6_reach 71 = .ok (.iconst 0, 1) := by decide +kernel
theorem dX6_reach_72 : decode cX6_reach 72 = .ok (.iaload, 1) := by decide +kernel
theorem dX6_reach_73 : decode cX6_reach 73 = .ok (.iconst (-1), 1) := by decide +kernel
theorem dX6_reach_74 : decode cX6_reach 74 = .ok (.if_icmp .ne 20, 3) := by decide +kernel
theorem dX6_reach_77 : decode cX6_reach 77 = .ok (.lconst 1, 1) := by decide +kernel
theorem dX6_reach_78 : decode cX6_reach 78 = .ok (.aload_n 0, 1) := by decide +kernel
theorem dX6_reach_79 : decode cX6_reach 79 = .ok (.getfield 33, 3) := by decide +kernel
theorem dX6_reach_82 : decode cX6_reach 82 = .ok (.iconst 0, 1) := by decide +kernel
theorem dX6_reach_83 : decode cX6_reach 83 = .ok (.iaload, 1) := by decide +kernel
theorem dX6_reach_84 : decode cX6_reach 84 = .ok (.invokestatic 80, 3) := by decide +kernel
theorem dX6_reach_87 : decode cX6_reach 87 = .ok (.bipush 40, 2) := by decide +kernel
theorem dX6_reach_89 : decode cX6_reach 89 = .ok (.isub, 1) := by decide +kernel
theorem dX6_reach_90 : decode cX6_reach 90 = .ok (.lshl, 1) := by decide +kernel
theorem dX6_reach_91 : decode cX6_reach 91 = .ok (.goto 4, 3) := by decide +kernel
theorem dX6_reach_94 : decode cX6_reach 94 = .ok (.lconst 0, 1) := by decide +kernel
theorem dX6_reach_95 : decode cX6_reach 95 = .ok (.lor, 1) := by decide +kernel
theorem dX6_reach_96 : decode cX6_reach 96 = .ok (.lstore_n 3, 1) := by decide +kernel
theorem dX6_reach_97 : decode cX6_reach 97 = .ok (.iinc 7 1, 3) := by decide +kernel
theorem dX6_reach_100 : decode cX6_reach 100 = .ok (.goto (-56), 3) := by decide +kernel
theorem dX6_reach_103 : decode cX6_reach 103 = .ok (.iload 5, 2) := by decide +kernel
theorem dX6_reach_105 : decode cX6_reach 105 = .ok (.iconst 3, 1) := by decide +kernel
theorem dX6_reach_106 : decode cX6_reach 106 = .ok (.imul, 1) := by decide +kernel
theorem dX6_reach_107 : decode cX6_reach 107 = .ok (.istore 5, 2) := by decide +kernel
theorem dX6_reach_109 : decode cX6_reach 109 = .ok (.iinc 6 1, 3) := by decide +kernel
theorem dX6_reach_112 : decode cX6_reach 112 = .ok (.goto (-77), 3) := by decide +kernel
theorem dX6_reach_115 : decode cX6_reach 115 = .ok (.iconst 0, 1) := by decide +kernel
theorem dX6_reach_116 : decode cX6_reach 116 = .ok (.istore 6, 2) := by decide +kernel
theorem dX6_reach_118 : decode cX6_reach 118 = .ok (.iconst 0, 1) := by decide +kernel
theorem dX6_reach_119 : decode cX6_reach 119 = .ok (.istore 7, 2) := by decide +kernel
theorem dX6_reach_121 : decode cX6_reach 121 = .ok (.iload 7, 2) := by decide +kernel
theorem dX6_reach_123 : decode cX6_reach 123 = .ok (.bipush 49, 2) := by decide +kernel
theorem dX6_reach_125 : decode cX6_reach 125 = .ok (.if_icmp .ge 21, 3) := by decide +kernel
theorem dX6_reach_128 : decode cX6_reach 128 = .ok (.iload 6, 2) := by decide +kernel
theorem dX6_reach_130 : decode cX6_reach 130 = .ok (.lload_n 3, 1) := by decide +kernel
theorem dX6_reach_131 : decode cX6_reach 131 = .ok (.iload 7, 2) := by decide +kernel
theorem dX6_reach_133 : decode cX6_reach 133 = .ok (.lshr, 1) := by decide +kernel
theorem dX6_reach_134 : decode cX6_reach 134 = .ok (.lconst 1, 1) := by decide +kernel
theorem dX6_reach_135 : decode cX6_reach 135 = .ok (.land, 1) := by decide +kernel
theorem dX6_reach_136 : decode cX6_reach 136 = .ok (.l2i, 1) := by decide +kernel
theorem dX6_reach_137 : decode cX6_reach 137 = .ok (.iadd, 1) := by decide +kernel
theorem dX6_reach_138 : decode cX6_reach 138 = .ok (.istore 6, 2) := by decide +kernel
theorem dX6_reach_140 : decode cX6_reach 140 = .ok (.iinc 7 1, 3) := by decide +kernel
theorem dX6_reach_143 : decode cX6_reach 143 = .ok (.goto (-22), 3) := by decide +kernel
theorem dX6_reach_146 : decode cX6_reach 146 = .ok (.iload 6, 2) := by decide +kernel
theorem dX6_reach_148 : decode cX6_reach 148 = .ok (.ireturn, 1) := by decide +kernel
set_option maxRecDepth 20000 in
theorem pl_wsX6_open_wsX6_open_r1 : ∀ w ∈ wsX6_open_r1, w ∈ wsX6_open := fun _ h => List.mem_cons_of_mem _ (List.mem_append_left _ (List.mem_append_left _ (h)))
theorem pl_wsX6_open_wsX60 : ∀ w ∈ wsX60, w ∈ wsX6_open := fun _ h => List.mem_cons_of_mem _ (List.mem_append_right _ (h))
theorem ggX6_open_X6_isCell : GoodIn wsX6_open wsX6_isCell := goodIn_sub (List.forall_mem_cons.mpr ⟨(pl_wsX6_open_wsX6_open_r1 _ (List.mem_of_getElem? (i := 5) rfl)), (fun w h => (List.mem_append.mp h).elim ((List.forall_mem_cons.mpr ⟨(pl_wsX6_open_wsX6_open_r1 _ (List.mem_of_getElem? (i := 6) rfl)), fun _ h => absurd h List.not_mem_nil⟩) w) (pl_wsX6_open_wsX60 w))⟩) (by decide +kernel)
set_option maxRecDepth 20000 in
theorem gX6_open_X6_isCell : GoodIn wsX6_open (wsV RX6 104 RX6 yX6_isCell wsX6_isCell) := goodIn_app (goodIn_sub (List.forall_mem_cons.mpr ⟨(pl_wsX6_open_wsX6_open_r1 _ (List.mem_of_getElem? (i := 1) rfl)), List.forall_mem_cons.mpr ⟨(pl_wsX6_open_wsX6_open_r1 _ (List.mem_of_getElem? (i := 2) rfl)), List.forall_mem_cons.mpr ⟨(pl_wsX6_open_wsX6_open_r1 _ (List.mem_of_getElem? (i := 3) rfl)), List.forall_mem_cons.mpr ⟨(pl_wsX6_open_wsX6_open_r1 _ (List.mem_of_getElem? (i := 4) rfl)), fun _ h => absurd h List.not_mem_nil⟩⟩⟩⟩) (by decide +kernel)) ggX6_open_X6_isCell
set_option maxRecDepth 20000 in
theorem ggX6_open_X6_isIn : GoodIn wsX6_open wsX6_isIn := goodIn_sub (List.forall_mem_cons.mpr ⟨(pl_wsX6_open_wsX6_open_r1 _ (List.mem_of_getElem? (i := 9) rfl)), (fun _ h => absurd h List.not_mem_nil)⟩) (by decide +kernel)
set_option maxRecDepth 20000 in
theorem gX6_open_X6_isIn : GoodIn wsX6_open (va_wsS RX6 76 yX6_isIn wsX6_isIn) := goodIn_app (goodIn_sub (List.forall_mem_cons.mpr ⟨(pl_wsX6_open_wsX6_open_r1 _ (List.mem_of_getElem? (i := 7) rfl)), List.forall_mem_cons.mpr ⟨(pl_wsX6_open_wsX6_open_r1 _ (List.mem_of_getElem? (i := 8) rfl)), List.forall_mem_cons.mpr ⟨(pl_wsX6_open_wsX6_open_r1 _ (List.mem_of_getElem? (i := 4) rfl)), fun _ h => absurd h List.not_mem_nil⟩⟩⟩) (by decide +kernel)) ggX6_open_X6_isIn
set_option maxRecDepth 20000 in
theorem ggX6_open_X6_refuse : GoodIn wsX6_open wsX6_refuse := goodIn_sub (List.forall_mem_cons.mpr ⟨(pl_wsX6_open_wsX6_open_r1 _ (List.mem_of_getElem? (i := 13) rfl)), (fun w h => (List.mem_append.mp h).elim ((List.forall_mem_cons.mpr ⟨(pl_wsX6_open_wsX6_open_r1 _ (List.mem_of_getElem? (i := 14) rfl)), fun _ h => absurd h List.not_mem_nil⟩) w) (pl_wsX6_open_wsX60 w))⟩) (by decide +kernel)
set_option maxRecDepth 20000 in
theorem gX6_open_X6_refuse : GoodIn wsX6_open (wsV RX6 101 RX6 yX6_refuse wsX6_refuse) := goodIn_app (goodIn_sub (List.forall_mem_cons.mpr ⟨(pl_wsX6_open_wsX6_open_r1 _ (List.mem_of_getElem? (i := 10) rfl)), List.forall_mem_cons.mpr ⟨(pl_wsX6_open_wsX6_open_r1 _ (List.mem_of_getElem? (i := 11) rfl)), List.forall_mem_cons.mpr ⟨(pl_wsX6_open_wsX6_open_r1 _ (List.mem_of_getElem? (i := 12) rfl)), List.forall_mem_cons.mpr ⟨(pl_wsX6_open_wsX6_open_r1 _ (List.mem_of_getElem? (i := 4) rfl)), fun _ h => absurd h List.not_mem_nil⟩⟩⟩⟩) (by decide +kernel)) ggX6_open_X6_refuse
set_option maxRecDepth 20000 in
theorem ggX6_open_X6_beside : GoodIn wsX6_open wsX6_beside := goodIn_sub (List.forall_mem_cons.mpr ⟨(pl_wsX6_open_wsX6_open_r1 _ (List.mem_of_getElem? (i := 18) rfl)), (fun w h => (List.mem_append.mp h).elim ((List.forall_mem_cons.mpr ⟨(pl_wsX6_open_wsX6_open_r1 _ (List.mem_of_getElem? (i := 6) rfl)), List.forall_mem_cons.mpr ⟨(pl_wsX6_open_wsX6_open_r1 _ (List.mem_of_getElem? (i := 7) rfl)), List.forall_mem_cons.mpr ⟨(pl_wsX6_open_wsX6_open_r1 _ (List.mem_of_getElem? (i := 8) rfl)), List.forall_mem_cons.mpr ⟨(pl_wsX6_open_wsX6_open_r1 _ (List.mem_of_getElem? (i := 4) rfl)), List.forall_mem_cons.mpr ⟨(pl_wsX6_open_wsX6_open_r1 _ (List.mem_of_getElem? (i := 9) rfl)), fun _ h => absurd h List.not_mem_nil⟩⟩⟩⟩⟩) w) (pl_wsX6_open_wsX60 w))⟩) (by decide +kernel)
set_option maxRecDepth 20000 in
theorem gX6_open_X6_beside : GoodIn wsX6_open (wsV RX6 91 RX6 yX6_beside wsX6_beside) := goodIn_app (goodIn_sub (List.forall_mem_cons.mpr ⟨(pl_wsX6_open_wsX6_open_r1 _ (List.mem_of_getElem? (i := 15) rfl)), List.forall_mem_cons.mpr ⟨(pl_wsX6_open_wsX6_open_r1 _ (List.mem_of_getElem? (i := 16) rfl)), List.forall_mem_cons.mpr ⟨(pl_wsX6_open_wsX6_open_r1 _ (List.mem_of_getElem? (i := 17) rfl)), List.forall_mem_cons.mpr ⟨(pl_wsX6_open_wsX6_open_r1 _ (List.mem_of_getElem? (i := 4) rfl)), fun _ h => absurd h List.not_mem_nil⟩⟩⟩⟩) (by decide +kernel)) ggX6_open_X6_beside
set_option maxRecDepth 20000 in
theorem pl_wsX6_open_wsX6_open_r2 : ∀ w ∈ wsX6_open_r2, w ∈ wsX6_open := fun _ h => List.mem_cons_of_mem _ (List.mem_append_left _ (List.mem_append_right _ (h)))
theorem ggX6_open_X6_hasPond : GoodIn wsX6_open wsX6_hasPond := goodIn_sub (List.forall_mem_cons.mpr ⟨(pl_wsX6_open_wsX6_open_r1 _ (List.mem_of_getElem? (i := 22) rfl)), (fun w h => (List.mem_append.mp h).elim ((List.forall_mem_cons.mpr ⟨(pl_wsX6_open_wsX6_open_r1 _ (List.mem_of_getElem? (i := 6) rfl)), List.forall_mem_cons.mpr ⟨(pl_wsX6_open_wsX6_open_r1 _ (List.mem_of_getElem? (i := 23) rfl)), List.forall_mem_cons.mpr ⟨(pl_wsX6_open_wsX6_open_r2 _ (List.mem_of_getElem? (i := 0) rfl)), List.forall_mem_cons.mpr ⟨(pl_wsX6_open_wsX6_open_r1 _ (List.mem_of_getElem? (i := 4) rfl)), List.forall_mem_cons.mpr ⟨(pl_wsX6_open_wsX6_open_r2 _ (List.mem_of_getElem? (i := 1) rfl)), fun _ h => absurd h List.not_mem_nil⟩⟩⟩⟩⟩) w) (pl_wsX6_open_wsX60 w))⟩) (by decide +kernel)
set_option maxRecDepth 20000 in
theorem gX6_open_X6_hasPond : GoodIn wsX6_open (wsV RX6 95 RX6 yX6_hasPond wsX6_hasPond) := goodIn_app (goodIn_sub (List.forall_mem_cons.mpr ⟨(pl_wsX6_open_wsX6_open_r1 _ (List.mem_of_getElem? (i := 19) rfl)), List.forall_mem_cons.mpr ⟨(pl_wsX6_open_wsX6_open_r1 _ (List.mem_of_getElem? (i := 20) rfl)), List.forall_mem_cons.mpr ⟨(pl_wsX6_open_wsX6_open_r1 _ (List.mem_of_getElem? (i := 21) rfl)), List.forall_mem_cons.mpr ⟨(pl_wsX6_open_wsX6_open_r1 _ (List.mem_of_getElem? (i := 4) rfl)), fun _ h => absurd h List.not_mem_nil⟩⟩⟩⟩) (by decide +kernel)) ggX6_open_X6_hasPond
theorem dX6_open_0 : decode cX6_open 0 = .ok (.aload_n 0, 1) := by decide +kernel
theorem dX6_open_1 : decode cX6_open 1 = .ok (.iload_n 1, 1) := by decide +kernel
theorem dX6_open_2 : decode cX6_open 2 = .ok (.invokevirtual 104, 3) := by decide +kernel
theorem dX6_open_5 : decode cX6_open 5 = .ok (.ifCond .eq 15, 3) := by decide +kernel
theorem dX6_open_8 : decode cX6_open 8 = .ok (.iload_n 2, 1) := by decide +kernel
theorem dX6_open_9 : decode cX6_open 9 = .ok (.i2l, 1) := by decide +kernel
theorem dX6_open_10 : decode cX6_open 10 = .ok (.lconst 0, 1) := by decide +kernel
theorem dX6_open_11 : decode cX6_open 11 = .ok (.ldc2_w 114, 3) := by decide +kernel
theorem dX6_open_14 : decode cX6_open 14 = .ok (.invokestatic 76, 3) := by decide +kernel
theorem dX6_open_17 : decode cX6_open 17 = .ok (.ifCond .ne 10, 3) := by decide +kernel
theorem dX6_open_20 : decode cX6_open 20 = .ok (.aload_n 0, 1) := by decide +kernel
theorem dX6_open_21 : decode cX6_open 21 = .ok (.bipush (-2), 2) := by decide +kernel
theorem dX6_open_23 : decode cX6_open 23 = .ok (.invokevirtual 101, 3) := by decide +kernel
theorem dX6_open_26 : decode cX6_open 26 = .ok (.ireturn, 1) := by decide +kernel
theorem dX6_open_27 : decode cX6_open 27 = .ok (.iconst 0, 1) := by decide +kernel
theorem dX6_open_28 : decode cX6_open 28 = .ok (.istore_n 3, 1) := by decide +kernel
theorem dX6_open_29 : decode cX6_open 29 = .ok (.aload_n 0, 1) := by decide +kernel
theorem dX6_open_30 : decode cX6_open 30 = .ok (.iload_n 1, 1) := by decide +kernel
theorem dX6_open_31 : decode cX6_open 31 = .ok (.iload_n 2, 1) := by decide +kernel
theorem dX6_open_32 : decode cX6_open 32 = .ok (.invokevirtual 91, 3) := by decide +kernel
theorem dX6_open_35 : decode cX6_open 35 = .ok (.istore 4, 2) := by decide +kernel
theorem dX6_open_37 : decode cX6_open 37 = .ok (.iload 4, 2) := by decide +kernel
theorem dX6_open_39 : decode cX6_open 39 = .ok (.iconst (-1), 1) := by decide +kernel
theorem dX6_open_40 : decode cX6_open 40 = .ok (.if_icmp .eq 27, 3) := by decide +kernel
theorem dX6_open_43 : decode cX6_open 43 = .ok (.aload_n 0, 1) := by decide +kernel
theorem dX6_open_44 : decode cX6_open 44 = .ok (.iload 4, 2) := by decide +kernel
theorem dX6_open_46 : decode cX6_open 46 = .ok (.invokevirtual 95, 3) := by decide +kernel
theorem dX6_open_49 : decode cX6_open 49 = .ok (.ifCond .ne 18, 3) := by decide +kernel
theorem dX6_open_52 : decode cX6_open 52 = .ok (.iinc 3 1, 3) := by decide +kernel
theorem dX6_open_55 : decode cX6_open 55 = .ok (.aload_n 0, 1) := by decide +kernel
theorem dX6_open_56 : decode cX6_open 56 = .ok (.iload 4, 2) := by decide +kernel
theorem dX6_open_58 : decode cX6_open 58 = .ok (.iload_n 2, 1) := by decide +kernel
theorem dX6_open_59 : decode cX6_open 59 = .ok (.invokevirtual 91, 3) := by decide +kernel
theorem dX6_open_62 : decode cX6_open 62 = .ok (.istore 4, 2) := by decide +kernel
theorem dX6_open_64 : decode cX6_open 64 = .ok (.goto (-27), 3) := by decide +kernel
theorem dX6_open_67 : decode cX6_open 67 = .ok (.iload_n 3, 1) := by decide +kernel
theorem dX6_open_68 : decode cX6_open 68 = .ok (.ireturn, 1) := by decide +kernel
set_option maxRecDepth 20000 in
theorem pl_wsX6_shore_wsX60 : ∀ w ∈ wsX60, w ∈ wsX6_shore := fun _ h => List.mem_cons_of_mem _ (List.mem_append_right _ (h))
theorem ggX6_shore_X6_isCell : GoodIn wsX6_shore wsX6_isCell := goodIn_sub (List.forall_mem_cons.mpr ⟨(List.mem_cons_of_mem _ (List.mem_append_left _ (List.mem_of_getElem? (i := 4) rfl))), (fun w h => (List.mem_append.mp h).elim ((List.forall_mem_cons.mpr ⟨(List.mem_cons_of_mem _ (List.mem_append_left _ (List.mem_of_getElem? (i := 5) rfl))), fun _ h => absurd h List.not_mem_nil⟩) w) (pl_wsX6_shore_wsX60 w))⟩) (by decide +kernel)
set_option maxRecDepth 20000 in
theorem gX6_shore_X6_isCell : GoodIn wsX6_shore (wsV RX6 104 RX6 yX6_isCell wsX6_isCell) := goodIn_app (goodIn_sub (List.forall_mem_cons.mpr ⟨(List.mem_cons_of_mem _ (List.mem_append_left _ (List.mem_of_getElem? (i := 0) rfl))), List.forall_mem_cons.mpr ⟨(List.mem_cons_of_mem _ (List.mem_append_left _ (List.mem_of_getElem? (i := 1) rfl))), List.forall_mem_cons.mpr ⟨(List.mem_cons_of_mem _ (List.mem_append_left _ (List.mem_of_getElem? (i := 2) rfl))), List.forall_mem_cons.mpr ⟨(List.mem_cons_of_mem _ (List.mem_append_left _ (List.mem_of_getElem? (i := 3) rfl))), fun _ h => absurd h List.not_mem_nil⟩⟩⟩⟩) (by decide +kernel)) ggX6_shore_X6_isCell
set_option maxRecDepth 20000 in
theorem ggX6_shore_X6_hasPond : GoodIn wsX6_shore wsX6_hasPond := goodIn_sub (List.forall_mem_cons.mpr ⟨(List.mem_cons_of_mem _ (List.mem_append_left _ (List.mem_of_getElem? (i := 9) rfl))), (fun w h => (List.mem_append.mp h).elim ((List.forall_mem_cons.mpr ⟨(List.mem_cons_of_mem _ (List.mem_append_left _ (List.mem_of_getElem? (i := 5) rfl))), List.forall_mem_cons.mpr ⟨(List.mem_cons_of_mem _ (List.mem_append_left _ (List.mem_of_getElem? (i := 10) rfl))), List.forall_mem_cons.mpr ⟨(List.mem_cons_of_mem _ (List.mem_append_left _ (List.mem_of_getElem? (i := 11) rfl))), List.forall_mem_cons.mpr ⟨(List.mem_cons_of_mem _ (List.mem_append_left _ (List.mem_of_getElem? (i := 3) rfl))), List.forall_mem_cons.mpr ⟨(List.mem_cons_of_mem _ (List.mem_append_left _ (List.mem_of_getElem? (i := 12) rfl))), fun _ h => absurd h List.not_mem_nil⟩⟩⟩⟩⟩) w) (pl_wsX6_shore_wsX60 w))⟩) (by decide +kernel)
set_option maxRecDepth 20000 in
theorem gX6_shore_X6_hasPond : GoodIn wsX6_shore (wsV RX6 95 RX6 yX6_hasPond wsX6_hasPond) := goodIn_app (goodIn_sub (List.forall_mem_cons.mpr ⟨(List.mem_cons_of_mem _ (List.mem_append_left _ (List.mem_of_getElem? (i := 6) rfl))), List.forall_mem_cons.mpr ⟨(List.mem_cons_of_mem _ (List.mem_append_left _ (List.mem_of_getElem? (i := 7) rfl))), List.forall_mem_cons.mpr ⟨(List.mem_cons_of_mem _ (List.mem_append_left _ (List.mem_of_getElem? (i := 8) rfl))), List.forall_mem_cons.mpr ⟨(List.mem_cons_of_mem _ (List.mem_append_left _ (List.mem_of_getElem? (i := 3) rfl))), fun _ h => absurd h List.not_mem_nil⟩⟩⟩⟩) (by decide +kernel)) ggX6_shore_X6_hasPond
set_option maxRecDepth 20000 in
theorem ggX6_shore_X6_isShore : GoodIn wsX6_shore wsX6_isShore := goodIn_sub (List.forall_mem_cons.mpr ⟨(List.mem_cons_of_mem _ (List.mem_append_left _ (List.mem_of_getElem? (i := 16) rfl))), (fun w h => (List.mem_append.mp h).elim ((List.forall_mem_cons.mpr ⟨(List.mem_cons_of_mem _ (List.mem_append_left _ (List.mem_of_getElem? (i := 17) rfl))), List.forall_mem_cons.mpr ⟨(List.mem_cons_of_mem _ (List.mem_append_left _ (List.mem_of_getElem? (i := 18) rfl))), List.forall_mem_cons.mpr ⟨(List.mem_cons_of_mem _ (List.mem_append_left _ (List.mem_of_getElem? (i := 19) rfl))), List.forall_mem_cons.mpr ⟨(List.mem_cons_of_mem _ (List.mem_append_left _ (List.mem_of_getElem? (i := 3) rfl))), List.forall_mem_cons.mpr ⟨(List.mem_cons_of_mem _ (List.mem_append_left _ (List.mem_of_getElem? (i := 20) rfl))), List.forall_mem_cons.mpr ⟨(List.mem_cons_of_mem _ (List.mem_append_left _ (List.mem_of_getElem? (i := 5) rfl))), List.forall_mem_cons.mpr ⟨(List.mem_cons_of_mem _ (List.mem_append_left _ (List.mem_of_getElem? (i := 21) rfl))), List.forall_mem_cons.mpr ⟨(List.mem_cons_of_mem _ (List.mem_append_left _ (List.mem_of_getElem? (i := 22) rfl))), List.forall_mem_cons.mpr ⟨(List.mem_cons_of_mem _ (List.mem_append_left _ (List.mem_of_getElem? (i := 23) rfl))), List.forall_mem_cons.mpr ⟨(List.mem_cons_of_mem _ (List.mem_append_left _ (List.mem_of_getElem? (i := 6) rfl))), List.forall_mem_cons.mpr ⟨(List.mem_cons_of_mem _ (List.mem_append_left _ (List.mem_of_getElem? (i := 7) rfl))), List.forall_mem_cons.mpr ⟨(List.mem_cons_of_mem _ (List.mem_append_left _ (List.mem_of_getElem? (i := 8) rfl))), List.forall_mem_cons.mpr ⟨(List.mem_cons_of_mem _ (List.mem_append_left _ (List.mem_of_getElem? (i := 9) rfl))), List.forall_mem_cons.mpr ⟨(List.mem_cons_of_mem _ (List.mem_append_left _ (List.mem_of_getElem? (i := 10) rfl))), List.forall_mem_cons.mpr ⟨(List.mem_cons_of_mem _ (List.mem_append_left _ (List.mem_of_getElem? (i := 11) rfl))), List.forall_mem_cons.mpr ⟨(List.mem_cons_of_mem _ (List.mem_append_left _ (List.mem_of_getElem? (i := 12) rfl))), fun _ h => absurd h List.not_mem_nil⟩⟩⟩⟩⟩⟩⟩⟩⟩⟩⟩⟩⟩⟩⟩⟩) w) (pl_wsX6_shore_wsX60 w))⟩) (by decide +kernel)
set_option maxRecDepth 20000 in
theorem gX6_shore_X6_isShore : GoodIn wsX6_shore (wsV RX6 182 RX6 yX6_isShore wsX6_isShore) := goodIn_app (goodIn_sub (List.forall_mem_cons.mpr ⟨(List.mem_cons_of_mem _ (List.mem_append_left _ (List.mem_of_getElem? (i := 13) rfl))), List.forall_mem_cons.mpr ⟨(List.mem_cons_of_mem _ (List.mem_append_left _ (List.mem_of_getElem? (i := 14) rfl))), List.forall_mem_cons.mpr ⟨(List.mem_cons_of_mem _ (List.mem_append_left _ (List.mem_of_getElem? (i := 15) rfl))), List.forall_mem_cons.mpr ⟨(List.mem_cons_of_mem _ (List.mem_append_left _ (List.mem_of_getElem? (i := 3) rfl))), fun _ h => absurd h List.not_mem_nil⟩⟩⟩⟩) (by decide +kernel)) ggX6_shore_X6_isShore
theorem dX6_shore_0 : decode cX6_shore 0 = .ok (.iconst 0, 1) := by decide +kernel
theorem dX6_shore_1 : decode cX6_shore 1 = .ok (.istore_n 1, 1) := by decide +kernel
theorem dX6_shore_2 : decode cX6_shore 2 = .ok (.iconst 0, 1) := by decide +kernel
theorem dX6_shore_3 : decode cX6_shore 3 = .ok (.istore_n 2, 1) := by decide +kernel
theorem dX6_shore_4 : decode cX6_shore 4 = .ok (.iload_n 2, 1) := by decide +kernel
theorem dX6_shore_5 : decode cX6_shore 5 = .ok (.bipush 67, 2) := by decide +kernel
theorem dX6_shore_7 : decode cX6_shore 7 = .ok (.if_icmp .ge 41, 3) := by decide +kernel
theorem dX6_shore_10 : decode cX6_shore 10 = .ok (.iload_n 1, 1) := by decide +kernel
theorem dX6_shore_11 : decode cX6_shore 11 = .ok (.aload_n 0, 1) := by decide +kernel
theorem dX6_shore_12 : decode cX6_shore 12 = .ok (.iload_n 2, 1) := by decide +kernel
theorem dX6_shore_13 : decode cX6_shore 13 = .ok (.invokevirtual 104, 3) := by decide +kernel
theorem dX6_shore_16 : decode cX6_shore 16 = .ok (.ifCond .eq 23, 3) := by decide +kernel
theorem dX6_shore_19 : decode cX6_shore 19 = .ok (.aload_n 0, 1) := by decide +kernel
theorem dX6_shore_20 : decode cX6_shore 20 = .ok (.iload_n 2, 1) := by decide +kernel
theorem dX6_shore_21 : decode cX6_shore 21 = .ok (.invokevirtual 95, 3) := by decide +kernel
theorem dX6_shore_24 : decode cX6_shore 24 = .ok (.ifCond .ne 15, 3) := by decide +kernel
theorem dX6_shore_27 : decode cX6_shore 27 = .ok (.aload_n 0, 1) := by decide +kernel
theorem dX6_shore_28 : decode cX6_shore 28 = .ok (.iload_n 2, 1) := by decide +kernel
theorem dX6_shore_29 : decode cX6_shore 29 = .ok (.invokevirtual 182, 3) := by decide +kernel
theorem dX6_shore_32 : decode cX6_shore 32 = .ok (.ifCond .eq 7, 3) := by decide +kernel
theorem dX6_shore_35 : decode cX6_shore 35 = .ok (.iconst 1, 1) := by decide +kernel
theorem dX6_shore_36 : decode cX6_shore 36 = .ok (.goto 4, 3) := by decide +kernel
theorem dX6_shore_39 : decode cX6_shore 39 = .ok (.iconst 0, 1) := by decide +kernel
theorem dX6_shore_40 : decode cX6_shore 40 = .ok (.iadd, 1) := by decide +kernel
theorem dX6_shore_41 : decode cX6_shore 41 = .ok (.istore_n 1, 1) := by decide +kernel
theorem dX6_shore_42 : decode cX6_shore 42 = .ok (.iinc 2 1, 3) := by decide +kernel
theorem dX6_shore_45 : decode cX6_shore 45 = .ok (.goto (-41), 3) := by decide +kernel
theorem dX6_shore_48 : decode cX6_shore 48 = .ok (.iload_n 1, 1) := by decide +kernel
theorem dX6_shore_49 : decode cX6_shore 49 = .ok (.ireturn, 1) := by decide +kernel
set_option maxRecDepth 20000 in
theorem pl_wsX6_weigh_wsX60 : ∀ w ∈ wsX60, w ∈ wsX6_weigh := fun _ h => List.mem_cons_of_mem _ (List.mem_append_right _ (h))
theorem ggX6_weigh_X6_many : GoodIn wsX6_weigh wsX6_many := goodIn_sub (List.forall_mem_cons.mpr ⟨(List.mem_cons_of_mem _ (List.mem_append_left _ (List.mem_of_getElem? (i := 4) rfl))), (fun w h => (List.mem_append.mp h).elim ((List.forall_mem_cons.mpr ⟨(List.mem_cons_of_mem _ (List.mem_append_left _ (List.mem_of_getElem? (i := 5) rfl))), fun _ h => absurd h List.not_mem_nil⟩) w) (pl_wsX6_weigh_wsX60 w))⟩) (by decide +kernel)
set_option maxRecDepth 20000 in
theorem gX6_weigh_X6_many : GoodIn wsX6_weigh (wsV RX6 84 RX6 yX6_many wsX6_many) := goodIn_app (goodIn_sub (List.forall_mem_cons.mpr ⟨(List.mem_cons_of_mem _ (List.mem_append_left _ (List.mem_of_getElem? (i := 0) rfl))), List.forall_mem_cons.mpr ⟨(List.mem_cons_of_mem _ (List.mem_append_left _ (List.mem_of_getElem? (i := 1) rfl))), List.forall_mem_cons.mpr ⟨(List.mem_cons_of_mem _ (List.mem_append_left _ (List.mem_of_getElem? (i := 2) rfl))), List.forall_mem_cons.mpr ⟨(List.mem_cons_of_mem _ (List.mem_append_left _ (List.mem_of_getElem? (i := 3) rfl))), fun _ h => absurd h List.not_mem_nil⟩⟩⟩⟩) (by decide +kernel)) ggX6_weigh_X6_many
set_option maxRecDepth 20000 in
theorem ggX6_weigh_X6_isFor : GoodIn wsX6_weigh wsX6_isFor := goodIn_sub (List.forall_mem_cons.mpr ⟨(List.mem_cons_of_mem _ (List.mem_append_left _ (List.mem_of_getElem? (i := 9) rfl))), (fun w h => (List.mem_append.mp h).elim ((List.forall_mem_cons.mpr ⟨(List.mem_cons_of_mem _ (List.mem_append_left _ (List.mem_of_getElem? (i := 5) rfl))), fun _ h => absurd h List.not_mem_nil⟩) w) (pl_wsX6_weigh_wsX60 w))⟩) (by decide +kernel)
set_option maxRecDepth 20000 in
theorem gX6_weigh_X6_isFor : GoodIn wsX6_weigh (wsV RX6 127 RX6 yX6_isFor wsX6_isFor) := goodIn_app (goodIn_sub (List.forall_mem_cons.mpr ⟨(List.mem_cons_of_mem _ (List.mem_append_left _ (List.mem_of_getElem? (i := 6) rfl))), List.forall_mem_cons.mpr ⟨(List.mem_cons_of_mem _ (List.mem_append_left _ (List.mem_of_getElem? (i := 7) rfl))), List.forall_mem_cons.mpr ⟨(List.mem_cons_of_mem _ (List.mem_append_left _ (List.mem_of_getElem? (i := 8) rfl))), List.forall_mem_cons.mpr ⟨(List.mem_cons_of_mem _ (List.mem_append_left _ (List.mem_of_getElem? (i := 3) rfl))), fun _ h => absurd h List.not_mem_nil⟩⟩⟩⟩) (by decide +kernel)) ggX6_weigh_X6_isFor
set_option maxRecDepth 20000 in
theorem ggX6_weigh_X6_a : GoodIn wsX6_weigh wsX6_a := goodIn_sub (List.forall_mem_cons.mpr ⟨(List.mem_cons_of_mem _ (List.mem_append_left _ (List.mem_of_getElem? (i := 13) rfl))), (fun w h => (List.mem_append.mp h).elim ((List.forall_mem_cons.mpr ⟨(List.mem_cons_of_mem _ (List.mem_append_left _ (List.mem_of_getElem? (i := 5) rfl))), fun _ h => absurd h List.not_mem_nil⟩) w) (pl_wsX6_weigh_wsX60 w))⟩) (by decide +kernel)
set_option maxRecDepth 20000 in
theorem gX6_weigh_X6_a : GoodIn wsX6_weigh (wsV RX6 213 RX6 yX6_a wsX6_a) := goodIn_app (goodIn_sub (List.forall_mem_cons.mpr ⟨(List.mem_cons_of_mem _ (List.mem_append_left _ (List.mem_of_getElem? (i := 10) rfl))), List.forall_mem_cons.mpr ⟨(List.mem_cons_of_mem _ (List.mem_append_left _ (List.mem_of_getElem? (i := 11) rfl))), List.forall_mem_cons.mpr ⟨(List.mem_cons_of_mem _ (List.mem_append_left _ (List.mem_of_getElem? (i := 12) rfl))), List.forall_mem_cons.mpr ⟨(List.mem_cons_of_mem _ (List.mem_append_left _ (List.mem_of_getElem? (i := 3) rfl))), fun _ h => absurd h List.not_mem_nil⟩⟩⟩⟩) (by decide +kernel)) ggX6_weigh_X6_a
theorem dX6_weigh_0 : decode cX6_weigh 0 = .ok (.iconst 0, 1) := by decide +kernel
theorem dX6_weigh_1 : decode cX6_weigh 1 = .ok (.istore_n 2, 1) := by decide +kernel
theorem dX6_weigh_2 : decode cX6_weigh 2 = .ok (.iconst 0, 1) := by decide +kernel
theorem dX6_weigh_3 : decode cX6_weigh 3 = .ok (.istore_n 3, 1) := by decide +kernel
theorem dX6_weigh_4 : decode cX6_weigh 4 = .ok (.iload_n 3, 1) := by decide +kernel
theorem dX6_weigh_5 : decode cX6_weigh 5 = .ok (.aload_n 0, 1) := by decide +kernel
theorem dX6_weigh_6 : decode cX6_weigh 6 = .ok (.invokevirtual 84, 3) := by decide +kernel
theorem dX6_weigh_9 : decode cX6_weigh 9 = .ok (.if_icmp .ge 30, 3) := by decide +kernel
theorem dX6_weigh_12 : decode cX6_weigh 12 = .ok (.iload_n 2, 1) := by decide +kernel
theorem dX6_weigh_13 : decode cX6_weigh 13 = .ok (.aload_n 0, 1) := by decide +kernel
theorem dX6_weigh_14 : decode cX6_weigh 14 = .ok (.iload_n 3, 1) := by decide +kernel
theorem dX6_weigh_15 : decode cX6_weigh 15 = .ok (.invokevirtual 127, 3) := by decide +kernel
theorem dX6_weigh_18 : decode cX6_weigh 18 = .ok (.iload_n 1, 1) := by decide +kernel
theorem dX6_weigh_19 : decode cX6_weigh 19 = .ok (.if_icmp .ne 11, 3) := by decide +kernel
theorem dX6_weigh_22 : decode cX6_weigh 22 = .ok (.aload_n 0, 1) := by decide +kernel
theorem dX6_weigh_23 : decode cX6_weigh 23 = .ok (.iload_n 3, 1) := by decide +kernel
theorem dX6_weigh_24 : decode cX6_weigh 24 = .ok (.invokevirtual 213, 3) := by decide +kernel
theorem dX6_weigh_27 : decode cX6_weigh 27 = .ok (.goto 4, 3) := by decide +kernel
theorem dX6_weigh_30 : decode cX6_weigh 30 = .ok (.iconst 0, 1) := by decide +kernel
theorem dX6_weigh_31 : decode cX6_weigh 31 = .ok (.iadd, 1) := by decide +kernel
theorem dX6_weigh_32 : decode cX6_weigh 32 = .ok (.istore_n 2, 1) := by decide +kernel
theorem dX6_weigh_33 : decode cX6_weigh 33 = .ok (.iinc 3 1, 3) := by decide +kernel
theorem dX6_weigh_36 : decode cX6_weigh 36 = .ok (.goto (-32), 3) := by decide +kernel
theorem dX6_weigh_39 : decode cX6_weigh 39 = .ok (.iload_n 2, 1) := by decide +kernel
theorem dX6_weigh_40 : decode cX6_weigh 40 = .ok (.ireturn, 1) := by decide +kernel
set_option maxRecDepth 20000 in
theorem pl_wsX6_bloc_wsX6_bloc_r1 : ∀ w ∈ wsX6_bloc_r1, w ∈ wsX6_bloc := fun _ h => List.mem_cons_of_mem _ (List.mem_append_left _ (List.mem_append_left _ (h)))
theorem ggX6_bloc_X6_isIn : GoodIn wsX6_bloc wsX6_isIn := goodIn_sub (List.forall_mem_cons.mpr ⟨(pl_wsX6_bloc_wsX6_bloc_r1 _ (List.mem_of_getElem? (i := 3) rfl)), (fun _ h => absurd h List.not_mem_nil)⟩) (by decide +kernel)
set_option maxRecDepth 20000 in
theorem gX6_bloc_X6_isIn : GoodIn wsX6_bloc (va_wsS RX6 76 yX6_isIn wsX6_isIn) := goodIn_app (goodIn_sub (List.forall_mem_cons.mpr ⟨(pl_wsX6_bloc_wsX6_bloc_r1 _ (List.mem_of_getElem? (i := 0) rfl)), List.forall_mem_cons.mpr ⟨(pl_wsX6_bloc_wsX6_bloc_r1 _ (List.mem_of_getElem? (i := 1) rfl)), List.forall_mem_cons.mpr ⟨(pl_wsX6_bloc_wsX6_bloc_r1 _ (List.mem_of_getElem? (i := 2) rfl)), fun _ h => absurd h List.not_mem_nil⟩⟩⟩) (by decide +kernel)) ggX6_bloc_X6_isIn
set_option maxRecDepth 20000 in
theorem pl_wsX6_bloc_wsX60 : ∀ w ∈ wsX60, w ∈ wsX6_bloc := fun _ h => List.mem_cons_of_mem _ (List.mem_append_right _ (h))
theorem ggX6_bloc_X6_weigh : GoodIn wsX6_bloc wsX6_weigh := goodIn_sub (List.forall_mem_cons.mpr ⟨(pl_wsX6_bloc_wsX6_bloc_r1 _ (List.mem_of_getElem? (i := 7) rfl)), (fun w h => (List.mem_append.mp h).elim ((List.forall_mem_cons.mpr ⟨(pl_wsX6_bloc_wsX6_bloc_r1 _ (List.mem_of_getElem? (i := 8) rfl)), List.forall_mem_cons.mpr ⟨(pl_wsX6_bloc_wsX6_bloc_r1 _ (List.mem_of_getElem? (i := 9) rfl)), List.forall_mem_cons.mpr ⟨(pl_wsX6_bloc_wsX6_bloc_r1 _ (List.mem_of_getElem? (i := 10) rfl)), List.forall_mem_cons.mpr ⟨(pl_wsX6_bloc_wsX6_bloc_r1 _ (List.mem_of_getElem? (i := 2) rfl)), List.forall_mem_cons.mpr ⟨(pl_wsX6_bloc_wsX6_bloc_r1 _ (List.mem_of_getElem? (i := 11) rfl)), List.forall_mem_cons.mpr ⟨(pl_wsX6_bloc_wsX6_bloc_r1 _ (List.mem_of_getElem? (i := 12) rfl)), List.forall_mem_cons.mpr ⟨(pl_wsX6_bloc_wsX6_bloc_r1 _ (List.mem_of_getElem? (i := 13) rfl)), List.forall_mem_cons.mpr ⟨(pl_wsX6_bloc_wsX6_bloc_r1 _ (List.mem_of_getElem? (i := 14) rfl)), List.forall_mem_cons.mpr ⟨(pl_wsX6_bloc_wsX6_bloc_r1 _ (List.mem_of_getElem? (i := 15) rfl)), List.forall_mem_cons.mpr ⟨(pl_wsX6_bloc_wsX6_bloc_r1 _ (List.mem_of_getElem? (i := 16) rfl)), List.forall_mem_cons.mpr ⟨(pl_wsX6_bloc_wsX6_bloc_r1 _ (List.mem_of_getElem? (i := 17) rfl)), List.forall_mem_cons.mpr ⟨(pl_wsX6_bloc_wsX6_bloc_r1 _ (List.mem_of_getElem? (i := 18) rfl)), List.forall_mem_cons.mpr ⟨(pl_wsX6_bloc_wsX6_bloc_r1 _ (List.mem_of_getElem? (i := 19) rfl)), List.forall_mem_cons.mpr ⟨(pl_wsX6_bloc_wsX6_bloc_r1 _ (List.mem_of_getElem? (i := 20) rfl)), fun _ h => absurd h List.not_mem_nil⟩⟩⟩⟩⟩⟩⟩⟩⟩⟩⟩⟩⟩⟩) w) (pl_wsX6_bloc_wsX60 w))⟩) (by decide +kernel)
set_option maxRecDepth 20000 in
theorem gX6_bloc_X6_weigh : GoodIn wsX6_bloc (wsV RX6 245 RX6 yX6_weigh wsX6_weigh) := goodIn_app (goodIn_sub (List.forall_mem_cons.mpr ⟨(pl_wsX6_bloc_wsX6_bloc_r1 _ (List.mem_of_getElem? (i := 4) rfl)), List.forall_mem_cons.mpr ⟨(pl_wsX6_bloc_wsX6_bloc_r1 _ (List.mem_of_getElem? (i := 5) rfl)), List.forall_mem_cons.mpr ⟨(pl_wsX6_bloc_wsX6_bloc_r1 _ (List.mem_of_getElem? (i := 6) rfl)), List.forall_mem_cons.mpr ⟨(pl_wsX6_bloc_wsX6_bloc_r1 _ (List.mem_of_getElem? (i := 2) rfl)), fun _ h => absurd h List.not_mem_nil⟩⟩⟩⟩) (by decide +kernel)) ggX6_bloc_X6_weigh
set_option maxRecDepth 20000 in
theorem pl_wsX6_bloc_wsX6_bloc_r2 : ∀ w ∈ wsX6_bloc_r2, w ∈ wsX6_bloc := fun _ h => List.mem_cons_of_mem _ (List.mem_append_left _ (List.mem_append_right _ (h)))
theorem ggX6_bloc_X6_refuse : GoodIn wsX6_bloc wsX6_refuse := goodIn_sub (List.forall_mem_cons.mpr ⟨(pl_wsX6_bloc_wsX6_bloc_r2 _ (List.mem_of_getElem? (i := 0) rfl)), (fun w h => (List.mem_append.mp h).elim ((List.forall_mem_cons.mpr ⟨(pl_wsX6_bloc_wsX6_bloc_r2 _ (List.mem_of_getElem? (i := 1) rfl)), fun _ h => absurd h List.not_mem_nil⟩) w) (pl_wsX6_bloc_wsX60 w))⟩) (by decide +kernel)
set_option maxRecDepth 20000 in
theorem gX6_bloc_X6_refuse : GoodIn wsX6_bloc (wsV RX6 101 RX6 yX6_refuse wsX6_refuse) := goodIn_app (goodIn_sub (List.forall_mem_cons.mpr ⟨(pl_wsX6_bloc_wsX6_bloc_r1 _ (List.mem_of_getElem? (i := 21) rfl)), List.forall_mem_cons.mpr ⟨(pl_wsX6_bloc_wsX6_bloc_r1 _ (List.mem_of_getElem? (i := 22) rfl)), List.forall_mem_cons.mpr ⟨(pl_wsX6_bloc_wsX6_bloc_r1 _ (List.mem_of_getElem? (i := 23) rfl)), List.forall_mem_cons.mpr ⟨(pl_wsX6_bloc_wsX6_bloc_r1 _ (List.mem_of_getElem? (i := 2) rfl)), fun _ h => absurd h List.not_mem_nil⟩⟩⟩⟩) (by decide +kernel)) ggX6_bloc_X6_refuse
theorem dX6_bloc_0 : decode cX6_bloc 0 = .ok (.iload_n 1, 1) := by decide +kernel
theorem dX6_bloc_1 : decode cX6_bloc 1 = .ok (.i2l, 1) := by decide +kernel
theorem dX6_bloc_2 : decode cX6_bloc 2 = .ok (.lconst 0, 1) := by decide +kernel
theorem dX6_bloc_3 : decode cX6_bloc 3 = .ok (.lconst 1, 1) := by decide +kernel
theorem dX6_bloc_4 : decode cX6_bloc 4 = .ok (.invokestatic 76, 3) := by decide +kernel
theorem dX6_bloc_7 : decode cX6_bloc 7 = .ok (.ifCond .eq 11, 3) := by decide +kernel
theorem dX6_bloc_10 : decode cX6_bloc 10 = .ok (.aload_n 0, 1) := by decide +kernel
theorem dX6_bloc_11 : decode cX6_bloc 11 = .ok (.iload_n 1, 1) := by decide +kernel
theorem dX6_bloc_12 : decode cX6_bloc 12 = .ok (.invokevirtual 245, 3) := by decide +kernel
theorem dX6_bloc_15 : decode cX6_bloc 15 = .ok (.goto 9, 3) := by decide +kernel
theorem dX6_bloc_18 : decode cX6_bloc 18 = .ok (.aload_n 0, 1) := by decide +kernel
theorem dX6_bloc_19 : decode cX6_bloc 19 = .ok (.bipush (-2), 2) := by decide +kernel
theorem dX6_bloc_21 : decode cX6_bloc 21 = .ok (.invokevirtual 101, 3) := by decide +kernel
theorem dX6_bloc_24 : decode cX6_bloc 24 = .ok (.ireturn, 1) := by decide +kernel
set_option maxRecDepth 20000 in
theorem pl_wsX6_carries_wsX60 : ∀ w ∈ wsX60, w ∈ wsX6_carries := fun _ h => List.mem_cons_of_mem _ (List.mem_append_right _ (h))
theorem ggX6_carries_X6_weigh : GoodIn wsX6_carries wsX6_weigh := goodIn_sub (List.forall_mem_cons.mpr ⟨(List.mem_cons_of_mem _ (List.mem_append_left _ (List.mem_of_getElem? (i := 5) rfl))), (fun w h => (List.mem_append.mp h).elim ((List.forall_mem_cons.mpr ⟨(List.mem_cons_of_mem _ (List.mem_append_left _ (List.mem_of_getElem? (i := 6) rfl))), List.forall_mem_cons.mpr ⟨(List.mem_cons_of_mem _ (List.mem_append_left _ (List.mem_of_getElem? (i := 7) rfl))), List.forall_mem_cons.mpr ⟨(List.mem_cons_of_mem _ (List.mem_append_left _ (List.mem_of_getElem? (i := 8) rfl))), List.forall_mem_cons.mpr ⟨(List.mem_cons_of_mem _ (List.mem_append_left _ (List.mem_of_getElem? (i := 4) rfl))), List.forall_mem_cons.mpr ⟨(List.mem_cons_of_mem _ (List.mem_append_left _ (List.mem_of_getElem? (i := 9) rfl))), List.forall_mem_cons.mpr ⟨(List.mem_cons_of_mem _ (List.mem_append_left _ (List.mem_of_getElem? (i := 0) rfl))), List.forall_mem_cons.mpr ⟨(List.mem_cons_of_mem _ (List.mem_append_left _ (List.mem_of_getElem? (i := 10) rfl))), List.forall_mem_cons.mpr ⟨(List.mem_cons_of_mem _ (List.mem_append_left _ (List.mem_of_getElem? (i := 11) rfl))), List.forall_mem_cons.mpr ⟨(List.mem_cons_of_mem _ (List.mem_append_left _ (List.mem_of_getElem? (i := 12) rfl))), List.forall_mem_cons.mpr ⟨(List.mem_cons_of_mem _ (List.mem_append_left _ (List.mem_of_getElem? (i := 13) rfl))), List.forall_mem_cons.mpr ⟨(List.mem_cons_of_mem _ (List.mem_append_left _ (List.mem_of_getElem? (i := 14) rfl))), List.forall_mem_cons.mpr ⟨(List.mem_cons_of_mem _ (List.mem_append_left _ (List.mem_of_getElem? (i := 15) rfl))), List.forall_mem_cons.mpr ⟨(List.mem_cons_of_mem _ (List.mem_append_left _ (List.mem_of_getElem? (i := 16) rfl))), List.forall_mem_cons.mpr ⟨(List.mem_cons_of_mem _ (List.mem_append_left _ (List.mem_of_getElem? (i := 17) rfl))), fun _ h => absurd h List.not_mem_nil⟩⟩⟩⟩⟩⟩⟩⟩⟩⟩⟩⟩⟩⟩) w) (pl_wsX6_carries_wsX60 w))⟩) (by decide +kernel)
set_option maxRecDepth 20000 in
theorem gX6_carries_X6_weigh : GoodIn wsX6_carries (wsV RX6 245 RX6 yX6_weigh wsX6_weigh) := goodIn_app (goodIn_sub (List.forall_mem_cons.mpr ⟨(List.mem_cons_of_mem _ (List.mem_append_left _ (List.mem_of_getElem? (i := 1) rfl))), List.forall_mem_cons.mpr ⟨(List.mem_cons_of_mem _ (List.mem_append_left _ (List.mem_of_getElem? (i := 2) rfl))), List.forall_mem_cons.mpr ⟨(List.mem_cons_of_mem _ (List.mem_append_left _ (List.mem_of_getElem? (i := 3) rfl))), List.forall_mem_cons.mpr ⟨(List.mem_cons_of_mem _ (List.mem_append_left _ (List.mem_of_getElem? (i := 4) rfl))), fun _ h => absurd h List.not_mem_nil⟩⟩⟩⟩) (by decide +kernel)) ggX6_carries_X6_weigh
theorem dX6_carries_0 : decode cX6_carries 0 = .ok (.aload_n 0, 1) := by decide +kernel
theorem dX6_carries_1 : decode cX6_carries 1 = .ok (.iconst 1, 1) := by decide +kernel
theorem dX6_carries_2 : decode cX6_carries 2 = .ok (.invokevirtual 245, 3) := by decide +kernel
theorem dX6_carries_5 : decode cX6_carries 5 = .ok (.aload_n 0, 1) := by decide +kernel
theorem dX6_carries_6 : decode cX6_carries 6 = .ok (.iconst 0, 1) := by decide +kernel
theorem dX6_carries_7 : decode cX6_carries 7 = .ok (.invokevirtual 245, 3) := by decide +kernel
theorem dX6_carries_10 : decode cX6_carries 10 = .ok (.isub, 1) := by decide +kernel
theorem dX6_carries_11 : decode cX6_carries 11 = .ok (.istore_n 1, 1) := by decide +kernel
theorem dX6_carries_12 : decode cX6_carries 12 = .ok (.iload_n 1, 1) := by decide +kernel
theorem dX6_carries_13 : decode cX6_carries 13 = .ok (.ifCond .le 7, 3) := by decide +kernel
theorem dX6_carries_16 : decode cX6_carries 16 = .ok (.iconst 1, 1) := by decide +kernel
theorem dX6_carries_17 : decode cX6_carries 17 = .ok (.goto 18, 3) := by decide +kernel
theorem dX6_carries_20 : decode cX6_carries 20 = .ok (.iload_n 1, 1) := by decide +kernel
theorem dX6_carries_21 : decode cX6_carries 21 = .ok (.ifCond .ge 7, 3) := by decide +kernel
theorem dX6_carries_24 : decode cX6_carries 24 = .ok (.iconst 0, 1) := by decide +kernel
theorem dX6_carries_25 : decode cX6_carries 25 = .ok (.goto 10, 3) := by decide +kernel
theorem dX6_carries_28 : decode cX6_carries 28 = .ok (.aload_n 0, 1) := by decide +kernel
theorem dX6_carries_29 : decode cX6_carries 29 = .ok (.getfield 17, 3) := by decide +kernel
theorem dX6_carries_32 : decode cX6_carries 32 = .ok (.bipush 91, 2) := by decide +kernel
theorem dX6_carries_34 : decode cX6_carries 34 = .ok (.iaload, 1) := by decide +kernel
theorem dX6_carries_35 : decode cX6_carries 35 = .ok (.ireturn, 1) := by decide +kernel
set_option maxRecDepth 20000 in
theorem pl_wsX6_power_wsX60 : ∀ w ∈ wsX60, w ∈ wsX6_power := fun _ h => List.mem_cons_of_mem _ (List.mem_append_right _ (h))
theorem ggX6_power_X6_weigh : GoodIn wsX6_power wsX6_weigh := goodIn_sub (List.forall_mem_cons.mpr ⟨(List.mem_cons_of_mem _ (List.mem_append_left _ (List.mem_of_getElem? (i := 4) rfl))), (fun w h => (List.mem_append.mp h).elim ((List.forall_mem_cons.mpr ⟨(List.mem_cons_of_mem _ (List.mem_append_left _ (List.mem_of_getElem? (i := 5) rfl))), List.forall_mem_cons.mpr ⟨(List.mem_cons_of_mem _ (List.mem_append_left _ (List.mem_of_getElem? (i := 6) rfl))), List.forall_mem_cons.mpr ⟨(List.mem_cons_of_mem _ (List.mem_append_left _ (List.mem_of_getElem? (i := 7) rfl))), List.forall_mem_cons.mpr ⟨(List.mem_cons_of_mem _ (List.mem_append_left _ (List.mem_of_getElem? (i := 3) rfl))), List.forall_mem_cons.mpr ⟨(List.mem_cons_of_mem _ (List.mem_append_left _ (List.mem_of_getElem? (i := 8) rfl))), List.forall_mem_cons.mpr ⟨(List.mem_cons_of_mem _ (List.mem_append_left _ (List.mem_of_getElem? (i := 9) rfl))), List.forall_mem_cons.mpr ⟨(List.mem_cons_of_mem _ (List.mem_append_left _ (List.mem_of_getElem? (i := 10) rfl))), List.forall_mem_cons.mpr ⟨(List.mem_cons_of_mem _ (List.mem_append_left _ (List.mem_of_getElem? (i := 11) rfl))), List.forall_mem_cons.mpr ⟨(List.mem_cons_of_mem _ (List.mem_append_left _ (List.mem_of_getElem? (i := 12) rfl))), List.forall_mem_cons.mpr ⟨(List.mem_cons_of_mem _ (List.mem_append_left _ (List.mem_of_getElem? (i := 13) rfl))), List.forall_mem_cons.mpr ⟨(List.mem_cons_of_mem _ (List.mem_append_left _ (List.mem_of_getElem? (i := 14) rfl))), List.forall_mem_cons.mpr ⟨(List.mem_cons_of_mem _ (List.mem_append_left _ (List.mem_of_getElem? (i := 15) rfl))), List.forall_mem_cons.mpr ⟨(List.mem_cons_of_mem _ (List.mem_append_left _ (List.mem_of_getElem? (i := 16) rfl))), List.forall_mem_cons.mpr ⟨(List.mem_cons_of_mem _ (List.mem_append_left _ (List.mem_of_getElem? (i := 17) rfl))), fun _ h => absurd h List.not_mem_nil⟩⟩⟩⟩⟩⟩⟩⟩⟩⟩⟩⟩⟩⟩) w) (pl_wsX6_power_wsX60 w))⟩) (by decide +kernel)
set_option maxRecDepth 20000 in
theorem gX6_power_X6_weigh : GoodIn wsX6_power (wsV RX6 245 RX6 yX6_weigh wsX6_weigh) := goodIn_app (goodIn_sub (List.forall_mem_cons.mpr ⟨(List.mem_cons_of_mem _ (List.mem_append_left _ (List.mem_of_getElem? (i := 0) rfl))), List.forall_mem_cons.mpr ⟨(List.mem_cons_of_mem _ (List.mem_append_left _ (List.mem_of_getElem? (i := 1) rfl))), List.forall_mem_cons.mpr ⟨(List.mem_cons_of_mem _ (List.mem_append_left _ (List.mem_of_getElem? (i := 2) rfl))), List.forall_mem_cons.mpr ⟨(List.mem_cons_of_mem _ (List.mem_append_left _ (List.mem_of_getElem? (i := 3) rfl))), fun _ h => absurd h List.not_mem_nil⟩⟩⟩⟩) (by decide +kernel)) ggX6_power_X6_weigh
set_option maxRecDepth 20000 in
theorem ggX6_power_X6_many : GoodIn wsX6_power wsX6_many := goodIn_sub (List.forall_mem_cons.mpr ⟨(List.mem_cons_of_mem _ (List.mem_append_left _ (List.mem_of_getElem? (i := 8) rfl))), (fun w h => (List.mem_append.mp h).elim ((List.forall_mem_cons.mpr ⟨(List.mem_cons_of_mem _ (List.mem_append_left _ (List.mem_of_getElem? (i := 9) rfl))), fun _ h => absurd h List.not_mem_nil⟩) w) (pl_wsX6_power_wsX60 w))⟩) (by decide +kernel)
set_option maxRecDepth 20000 in
theorem gX6_power_X6_many : GoodIn wsX6_power (wsV RX6 84 RX6 yX6_many wsX6_many) := goodIn_app (goodIn_sub (List.forall_mem_cons.mpr ⟨(List.mem_cons_of_mem _ (List.mem_append_left _ (List.mem_of_getElem? (i := 5) rfl))), List.forall_mem_cons.mpr ⟨(List.mem_cons_of_mem _ (List.mem_append_left _ (List.mem_of_getElem? (i := 6) rfl))), List.forall_mem_cons.mpr ⟨(List.mem_cons_of_mem _ (List.mem_append_left _ (List.mem_of_getElem? (i := 7) rfl))), List.forall_mem_cons.mpr ⟨(List.mem_cons_of_mem _ (List.mem_append_left _ (List.mem_of_getElem? (i := 3) rfl))), fun _ h => absurd h List.not_mem_nil⟩⟩⟩⟩) (by decide +kernel)) ggX6_power_X6_many
set_option maxRecDepth 20000 in
theorem ggX6_power_X6_a : GoodIn wsX6_power wsX6_a := goodIn_sub (List.forall_mem_cons.mpr ⟨(List.mem_cons_of_mem _ (List.mem_append_left _ (List.mem_of_getElem? (i := 17) rfl))), (fun w h => (List.mem_append.mp h).elim ((List.forall_mem_cons.mpr ⟨(List.mem_cons_of_mem _ (List.mem_append_left _ (List.mem_of_getElem? (i := 9) rfl))), fun _ h => absurd h List.not_mem_nil⟩) w) (pl_wsX6_power_wsX60 w))⟩) (by decide +kernel)
set_option maxRecDepth 20000 in
theorem gX6_power_X6_a : GoodIn wsX6_power (wsV RX6 213 RX6 yX6_a wsX6_a) := goodIn_app (goodIn_sub (List.forall_mem_cons.mpr ⟨(List.mem_cons_of_mem _ (List.mem_append_left _ (List.mem_of_getElem? (i := 14) rfl))), List.forall_mem_cons.mpr ⟨(List.mem_cons_of_mem _ (List.mem_append_left _ (List.mem_of_getElem? (i := 15) rfl))), List.forall_mem_cons.mpr ⟨(List.mem_cons_of_mem _ (List.mem_append_left _ (List.mem_of_getElem? (i := 16) rfl))), List.forall_mem_cons.mpr ⟨(List.mem_cons_of_mem _ (List.mem_append_left _ (List.mem_of_getElem? (i := 3) rfl))), fun _ h => absurd h List.not_mem_nil⟩⟩⟩⟩) (by decide +kernel)) ggX6_power_X6_a
theorem dX6_power_0 : decode cX6_power 0 = .ok (.aload_n 0, 1) := by decide +kernel
theorem dX6_power_1 : decode cX6_power 1 = .ok (.iconst 0, 1) := by decide +kernel
theorem dX6_power_2 : decode cX6_power 2 = .ok (.invokevirtual 245, 3) := by decide +kernel
theorem dX6_power_5 : decode cX6_power 5 = .ok (.aload_n 0, 1) := by decide +kernel
theorem dX6_power_6 : decode cX6_power 6 = .ok (.iconst 1, 1) := by decide +kernel
theorem dX6_power_7 : decode cX6_power 7 = .ok (.invokevirtual 245, 3) := by decide +kernel
theorem dX6_power_10 : decode cX6_power 10 = .ok (.iadd, 1) := by decide +kernel
theorem dX6_power_11 : decode cX6_power 11 = .ok (.istore_n 2, 1) := by decide +kernel
theorem dX6_power_12 : decode cX6_power 12 = .ok (.iconst 0, 1) := by decide +kernel
theorem dX6_power_13 : decode cX6_power 13 = .ok (.istore_n 3, 1) := by decide +kernel
theorem dX6_power_14 : decode cX6_power 14 = .ok (.iconst 0, 1) := by decide +kernel
theorem dX6_power_15 : decode cX6_power 15 = .ok (.istore 4, 2) := by decide +kernel
theorem dX6_power_17 : decode cX6_power 17 = .ok (.iload 4, 2) := by decide +kernel
theorem dX6_power_19 : decode cX6_power 19 = .ok (.iconst 1, 1) := by decide +kernel
theorem dX6_power_20 : decode cX6_power 20 = .ok (.aload_n 0, 1) := by decide +kernel
theorem dX6_power_21 : decode cX6_power 21 = .ok (.invokevirtual 84, 3) := by decide +kernel
theorem dX6_power_24 : decode cX6_power 24 = .ok (.ishl, 1) := by decide +kernel
theorem dX6_power_25 : decode cX6_power 25 = .ok (.if_icmp .ge 88, 3) := by decide +kernel
theorem dX6_power_28 : decode cX6_power 28 = .ok (.iload 4, 2) := by decide +kernel
theorem dX6_power_30 : decode cX6_power 30 = .ok (.iload_n 1, 1) := by decide +kernel
theorem dX6_power_31 : decode cX6_power 31 = .ok (.ishr, 1) := by decide +kernel
theorem dX6_power_32 : decode cX6_power 32 = .ok (.iconst 1, 1) := by decide +kernel
theorem dX6_power_33 : decode cX6_power 33 = .ok (.iand, 1) := by decide +kernel
theorem dX6_power_34 : decode cX6_power 34 = .ok (.ifCond .ne 73, 3) := by decide +kernel
theorem dX6_power_37 : decode cX6_power 37 = .ok (.iconst 0, 1) := by decide +kernel
theorem dX6_power_38 : decode cX6_power 38 = .ok (.istore 5, 2) := by decide +kernel
theorem dX6_power_40 : decode cX6_power 40 = .ok (.iconst 0, 1) := by decide +kernel
theorem dX6_power_41 : decode cX6_power 41 = .ok (.istore 6, 2) := by decide +kernel
theorem dX6_power_43 : decode cX6_power 43 = .ok (.iload 6, 2) := by decide +kernel
theorem dX6_power_45 : decode cX6_power 45 = .ok (.aload_n 0, 1) := by decide +kernel
theorem dX6_power_46 : decode cX6_power 46 = .ok (.invokevirtual 84, 3) := by decide +kernel
theorem dX6_power_49 : decode cX6_power 49 = .ok (.if_icmp .ge 28, 3) := by decide +kernel
theorem dX6_power_52 : decode cX6_power 52 = .ok (.iload 5, 2) := by decide +kernel
theorem dX6_power_54 : decode cX6_power 54 = .ok (.iload 4, 2) := by decide +kernel
theorem dX6_power_56 : decode cX6_power 56 = .ok (.iload 6, 2) := by decide +kernel
theorem dX6_power_58 : decode cX6_power 58 = .ok (.ishr, 1) := by decide +kernel
theorem dX6_power_59 : decode cX6_power 59 = .ok (.iconst 1, 1) := by decide +kernel
theorem dX6_power_60 : decode cX6_power 60 = .ok (.iand, 1) := by decide +kernel
theorem dX6_power_61 : decode cX6_power 61 = .ok (.aload_n 0, 1) := by decide +kernel
theorem dX6_power_62 : decode cX6_power 62 = .ok (.iload 6, 2) := by decide +kernel
theorem dX6_power_64 : decode cX6_power 64 = .ok (.invokevirtual 213, 3) := by decide +kernel
theorem dX6_power_67 : decode cX6_power 67 = .ok (.imul, 1) := by decide +kernel
theorem dX6_power_68 : decode cX6_power 68 = .ok (.iadd, 1) := by decide +kernel
theorem dX6_power_69 : decode cX6_power 69 = .ok (.istore 5, 2) := by decide +kernel
theorem dX6_power_71 : decode cX6_power 71 = .ok (.iinc 6 1, 3) := by decide +kernel
theorem dX6_power_74 : decode cX6_power 74 = .ok (.goto (-31), 3) := by decide +kernel
theorem dX6_power_77 : decode cX6_power 77 = .ok (.iload_n 3, 1) := by decide +kernel
theorem dX6_power_78 : decode cX6_power 78 = .ok (.iconst 2, 1) := by decide +kernel
theorem dX6_power_79 : decode cX6_power 79 = .ok (.iload 5, 2) := by decide +kernel
theorem dX6_power_81 : decode cX6_power 81 = .ok (.imul, 1) := by decide +kernel
theorem dX6_power_82 : decode cX6_power 82 = .ok (.iload_n 2, 1) := by decide +kernel
theorem dX6_power_83 : decode cX6_power 83 = .ok (.if_icmp .gt 21, 3) := by decide +kernel
theorem dX6_power_86 : decode cX6_power 86 = .ok (.iconst 2, 1) := by decide +kernel
theorem dX6_power_87 : decode cX6_power 87 = .ok (.iload 5, 2) := by decide +kernel
theorem dX6_power_89 : decode cX6_power 89 = .ok (.aload_n 0, 1) := by decide +kernel
theorem dX6_power_90 : decode cX6_power 90 = .ok (.iload_n 1, 1) := by decide +kernel
theorem dX6_power_91 : decode cX6_power 91 = .ok (.invokevirtual 213, 3) := by decide +kernel
theorem dX6_power_94 : decode cX6_power 94 = .ok (.iadd, 1) := by decide +kernel
theorem dX6_power_95 : decode cX6_power 95 = .ok (.imul, 1) := by decide +kernel
theorem dX6_power_96 : decode cX6_power 96 = .ok (.iload_n 2, 1) := by decide +kernel
theorem dX6_power_97 : decode cX6_power 97 = .ok (.if_icmp .le 7, 3) := by decide +kernel
theorem dX6_power_100 : decode cX6_power 100 = .ok (.iconst 1, 1) := by decide +kernel
theorem dX6_power_101 : decode cX6_power 101 = .ok (.goto 4, 3) := by decide +kernel
theorem dX6_power_104 : decode cX6_power 104 = .ok (.iconst 0, 1) := by decide +kernel
theorem dX6_power_105 : decode cX6_power 105 = .ok (.iadd, 1) := by decide +kernel
theorem dX6_power_106 : decode cX6_power 106 = .ok (.istore_n 3, 1) := by decide +kernel
theorem dX6_power_107 : decode cX6_power 107 = .ok (.iinc 4 1, 3) := by decide +kernel
theorem dX6_power_110 : decode cX6_power 110 = .ok (.goto (-93), 3) := by decide +kernel
theorem dX6_power_113 : decode cX6_power 113 = .ok (.iload_n 3, 1) := by decide +kernel
theorem dX6_power_114 : decode cX6_power 114 = .ok (.ireturn, 1) := by decide +kernel
set_option maxRecDepth 20000 in
theorem pl_wsX6_personOf_wsX6_personOf_r1 : ∀ w ∈ wsX6_personOf_r1, w ∈ wsX6_personOf := fun _ h => List.mem_cons_of_mem _ (List.mem_append_left _ (List.mem_append_left _ (h)))
theorem pl_wsX6_personOf_wsX60 : ∀ w ∈ wsX60, w ∈ wsX6_personOf := fun _ h => List.mem_cons_of_mem _ (List.mem_append_right _ (h))
theorem ggX6_personOf_X6_isPerson : GoodIn wsX6_personOf wsX6_isPerson := goodIn_sub (List.forall_mem_cons.mpr ⟨(pl_wsX6_personOf_wsX6_personOf_r1 _ (List.mem_of_getElem? (i := 6) rfl)), (fun w h => (List.mem_append.mp h).elim ((List.forall_mem_cons.mpr ⟨(pl_wsX6_personOf_wsX6_personOf_r1 _ (List.mem_of_getElem? (i := 1) rfl)), List.forall_mem_cons.mpr ⟨(pl_wsX6_personOf_wsX6_personOf_r1 _ (List.mem_of_getElem? (i := 7) rfl)), List.forall_mem_cons.mpr ⟨(pl_wsX6_personOf_wsX6_personOf_r1 _ (List.mem_of_getElem? (i := 8) rfl)), List.forall_mem_cons.mpr ⟨(pl_wsX6_personOf_wsX6_personOf_r1 _ (List.mem_of_getElem? (i := 5) rfl)), List.forall_mem_cons.mpr ⟨(pl_wsX6_personOf_wsX6_personOf_r1 _ (List.mem_of_getElem? (i := 9) rfl)), fun _ h => absurd h List.not_mem_nil⟩⟩⟩⟩⟩) w) (pl_wsX6_personOf_wsX60 w))⟩) (by decide +kernel)
set_option maxRecDepth 20000 in
theorem gX6_personOf_X6_isPerson : GoodIn wsX6_personOf (wsV RX6 124 RX6 yX6_isPerson wsX6_isPerson) := goodIn_app (goodIn_sub (List.forall_mem_cons.mpr ⟨(pl_wsX6_personOf_wsX6_personOf_r1 _ (List.mem_of_getElem? (i := 2) rfl)), List.forall_mem_cons.mpr ⟨(pl_wsX6_personOf_wsX6_personOf_r1 _ (List.mem_of_getElem? (i := 3) rfl)), List.forall_mem_cons.mpr ⟨(pl_wsX6_personOf_wsX6_personOf_r1 _ (List.mem_of_getElem? (i := 4) rfl)), List.forall_mem_cons.mpr ⟨(pl_wsX6_personOf_wsX6_personOf_r1 _ (List.mem_of_getElem? (i := 5) rfl)), fun _ h => absurd h List.not_mem_nil⟩⟩⟩⟩) (by decide +kernel)) ggX6_personOf_X6_isPerson
set_option maxRecDepth 20000 in
theorem ggX6_personOf_X6_isIn : GoodIn wsX6_personOf wsX6_isIn := goodIn_sub (List.forall_mem_cons.mpr ⟨(pl_wsX6_personOf_wsX6_personOf_r1 _ (List.mem_of_getElem? (i := 9) rfl)), (fun _ h => absurd h List.not_mem_nil)⟩) (by decide +kernel)
set_option maxRecDepth 20000 in
theorem gX6_personOf_X6_isIn : GoodIn wsX6_personOf (va_wsS RX6 76 yX6_isIn wsX6_isIn) := goodIn_app (goodIn_sub (List.forall_mem_cons.mpr ⟨(pl_wsX6_personOf_wsX6_personOf_r1 _ (List.mem_of_getElem? (i := 7) rfl)), List.forall_mem_cons.mpr ⟨(pl_wsX6_personOf_wsX6_personOf_r1 _ (List.mem_of_getElem? (i := 8) rfl)), List.forall_mem_cons.mpr ⟨(pl_wsX6_personOf_wsX6_personOf_r1 _ (List.mem_of_getElem? (i := 5) rfl)), fun _ h => absurd h List.not_mem_nil⟩⟩⟩) (by decide +kernel)) ggX6_personOf_X6_isIn
set_option maxRecDepth 20000 in
theorem ggX6_personOf_X6_refuse : GoodIn wsX6_personOf wsX6_refuse := goodIn_sub (List.forall_mem_cons.mpr ⟨(pl_wsX6_personOf_wsX6_personOf_r1 _ (List.mem_of_getElem? (i := 13) rfl)), (fun w h => (List.mem_append.mp h).elim ((List.forall_mem_cons.mpr ⟨(pl_wsX6_personOf_wsX6_personOf_r1 _ (List.mem_of_getElem? (i := 14) rfl)), fun _ h => absurd h List.not_mem_nil⟩) w) (pl_wsX6_personOf_wsX60 w))⟩) (by decide +kernel)
set_option maxRecDepth 20000 in
theorem gX6_personOf_X6_refuse : GoodIn wsX6_personOf (wsV RX6 101 RX6 yX6_refuse wsX6_refuse) := goodIn_app (goodIn_sub (List.forall_mem_cons.mpr ⟨(pl_wsX6_personOf_wsX6_personOf_r1 _ (List.mem_of_getElem? (i := 10) rfl)), List.forall_mem_cons.mpr ⟨(pl_wsX6_personOf_wsX6_personOf_r1 _ (List.mem_of_getElem? (i := 11) rfl)), List.forall_mem_cons.mpr ⟨(pl_wsX6_personOf_wsX6_personOf_r1 _ (List.mem_of_getElem? (i := 12) rfl)), List.forall_mem_cons.mpr ⟨(pl_wsX6_personOf_wsX6_personOf_r1 _ (List.mem_of_getElem? (i := 5) rfl)), fun _ h => absurd h List.not_mem_nil⟩⟩⟩⟩) (by decide +kernel)) ggX6_personOf_X6_refuse
set_option maxRecDepth 20000 in
theorem pl_wsX6_personOf_wsX6_personOf_r2 : ∀ w ∈ wsX6_personOf_r2, w ∈ wsX6_personOf := fun _ h => List.mem_cons_of_mem _ (List.mem_append_left _ (List.mem_append_right _ (h)))
theorem ggX6_personOf_X6_power : GoodIn wsX6_personOf wsX6_power := goodIn_sub (List.forall_mem_cons.mpr ⟨(pl_wsX6_personOf_wsX6_personOf_r1 _ (List.mem_of_getElem? (i := 18) rfl)), (fun w h => (List.mem_append.mp h).elim ((List.forall_mem_cons.mpr ⟨(pl_wsX6_personOf_wsX6_personOf_r1 _ (List.mem_of_getElem? (i := 19) rfl)), List.forall_mem_cons.mpr ⟨(pl_wsX6_personOf_wsX6_personOf_r1 _ (List.mem_of_getElem? (i := 20) rfl)), List.forall_mem_cons.mpr ⟨(pl_wsX6_personOf_wsX6_personOf_r1 _ (List.mem_of_getElem? (i := 21) rfl)), List.forall_mem_cons.mpr ⟨(pl_wsX6_personOf_wsX6_personOf_r1 _ (List.mem_of_getElem? (i := 5) rfl)), List.forall_mem_cons.mpr ⟨(pl_wsX6_personOf_wsX6_personOf_r1 _ (List.mem_of_getElem? (i := 22) rfl)), List.forall_mem_cons.mpr ⟨(pl_wsX6_personOf_wsX6_personOf_r1 _ (List.mem_of_getElem? (i := 23) rfl)), List.forall_mem_cons.mpr ⟨(pl_wsX6_personOf_wsX6_personOf_r2 _ (List.mem_of_getElem? (i := 0) rfl)), List.forall_mem_cons.mpr ⟨(pl_wsX6_personOf_wsX6_personOf_r2 _ (List.mem_of_getElem? (i := 1) rfl)), List.forall_mem_cons.mpr ⟨(pl_wsX6_personOf_wsX6_personOf_r2 _ (List.mem_of_getElem? (i := 2) rfl)), List.forall_mem_cons.mpr ⟨(pl_wsX6_personOf_wsX6_personOf_r1 _ (List.mem_of_getElem? (i := 1) rfl)), List.forall_mem_cons.mpr ⟨(pl_wsX6_personOf_wsX6_personOf_r2 _ (List.mem_of_getElem? (i := 3) rfl)), List.forall_mem_cons.mpr ⟨(pl_wsX6_personOf_wsX6_personOf_r2 _ (List.mem_of_getElem? (i := 4) rfl)), List.forall_mem_cons.mpr ⟨(pl_wsX6_personOf_wsX6_personOf_r2 _ (List.mem_of_getElem? (i := 5) rfl)), List.forall_mem_cons.mpr ⟨(pl_wsX6_personOf_wsX6_personOf_r2 _ (List.mem_of_getElem? (i := 6) rfl)), List.forall_mem_cons.mpr ⟨(pl_wsX6_personOf_wsX6_personOf_r2 _ (List.mem_of_getElem? (i := 7) rfl)), List.forall_mem_cons.mpr ⟨(pl_wsX6_personOf_wsX6_personOf_r2 _ (List.mem_of_getElem? (i := 8) rfl)), List.forall_mem_cons.mpr ⟨(pl_wsX6_personOf_wsX6_personOf_r2 _ (List.mem_of_getElem? (i := 9) rfl)), List.forall_mem_cons.mpr ⟨(pl_wsX6_personOf_wsX6_personOf_r2 _ (List.mem_of_getElem? (i := 10) rfl)), fun _ h => absurd h List.not_mem_nil⟩⟩⟩⟩⟩⟩⟩⟩⟩⟩⟩⟩⟩⟩⟩⟩⟩⟩) w) (pl_wsX6_personOf_wsX60 w))⟩) (by decide +kernel)
set_option maxRecDepth 20000 in
theorem gX6_personOf_X6_power : GoodIn wsX6_personOf (wsV RX6 248 RX6 yX6_power wsX6_power) := goodIn_app (goodIn_sub (List.forall_mem_cons.mpr ⟨(pl_wsX6_personOf_wsX6_personOf_r1 _ (List.mem_of_getElem? (i := 15) rfl)), List.forall_mem_cons.mpr ⟨(pl_wsX6_personOf_wsX6_personOf_r1 _ (List.mem_of_getElem? (i := 16) rfl)), List.forall_mem_cons.mpr ⟨(pl_wsX6_personOf_wsX6_personOf_r1 _ (List.mem_of_getElem? (i := 17) rfl)), List.forall_mem_cons.mpr ⟨(pl_wsX6_personOf_wsX6_personOf_r1 _ (List.mem_of_getElem? (i := 5) rfl)), fun _ h => absurd h List.not_mem_nil⟩⟩⟩⟩) (by decide +kernel)) ggX6_personOf_X6_power
theorem dX6_personOf_0 : decode cX6_personOf 0 = .ok (.aload_n 0, 1) := by decide +kernel
theorem dX6_personOf_1 : decode cX6_personOf 1 = .ok (.iload_n 1, 1) := by decide +kernel
theorem dX6_personOf_2 : decode cX6_personOf 2 = .ok (.invokevirtual 124, 3) := by decide +kernel
theorem dX6_personOf_5 : decode cX6_personOf 5 = .ok (.ifCond .eq 15, 3) := by decide +kernel
theorem dX6_personOf_8 : decode cX6_personOf 8 = .ok (.iload_n 2, 1) := by decide +kernel
theorem dX6_personOf_9 : decode cX6_personOf 9 = .ok (.i2l, 1) := by decide +kernel
theorem dX6_personOf_10 : decode cX6_personOf 10 = .ok (.lconst 0, 1) := by decide +kernel
theorem dX6_personOf_11 : decode cX6_personOf 11 = .ok (.ldc2_w 110, 3) := by decide +kernel
theorem dX6_personOf_14 : decode cX6_personOf 14 = .ok (.invokestatic 76, 3) := by decide +kernel
theorem dX6_personOf_17 : decode cX6_personOf 17 = .ok (.ifCond .ne 10, 3) := by decide +kernel
theorem dX6_personOf_20 : decode cX6_personOf 20 = .ok (.aload_n 0, 1) := by decide +kernel
theorem dX6_personOf_21 : decode cX6_personOf 21 = .ok (.bipush (-2), 2) := by decide +kernel
theorem dX6_personOf_23 : decode cX6_personOf 23 = .ok (.invokevirtual 101, 3) := by decide +kernel
theorem dX6_personOf_26 : decode cX6_personOf 26 = .ok (.ireturn, 1) := by decide +kernel
theorem dX6_personOf_27 : decode cX6_personOf 27 = .ok (.iload_n 2, 1) := by decide +kernel
theorem dX6_personOf_28 : decode cX6_personOf 28 = .ok (.iconst 5, 1) := by decide +kernel
theorem dX6_personOf_29 : decode cX6_personOf 29 = .ok (.if_icmp .ge 16, 3) := by decide +kernel
theorem dX6_personOf_32 : decode cX6_personOf 32 = .ok (.aload_n 0, 1) := by decide +kernel
theorem dX6_personOf_33 : decode cX6_personOf 33 = .ok (.getfield 17, 3) := by decide +kernel
theorem dX6_personOf_36 : decode cX6_personOf 36 = .ok (.iconst 5, 1) := by decide +kernel
theorem dX6_personOf_37 : decode cX6_personOf 37 = .ok (.iload_n 1, 1) := by decide +kernel
theorem dX6_personOf_38 : decode cX6_personOf 38 = .ok (.imul, 1) := by decide +kernel
theorem dX6_personOf_39 : decode cX6_personOf 39 = .ok (.iload_n 2, 1) := by decide +kernel
theorem dX6_personOf_40 : decode cX6_personOf 40 = .ok (.iadd, 1) := by decide +kernel
theorem dX6_personOf_41 : decode cX6_personOf 41 = .ok (.iaload, 1) := by decide +kernel
theorem dX6_personOf_42 : decode cX6_personOf 42 = .ok (.goto 8, 3) := by decide +kernel
theorem dX6_personOf_45 : decode cX6_personOf 45 = .ok (.aload_n 0, 1) := by decide +kernel
theorem dX6_personOf_46 : decode cX6_personOf 46 = .ok (.iload_n 1, 1) := by decide +kernel
theorem dX6_personOf_47 : decode cX6_personOf 47 = .ok (.invokevirtual 248, 3) := by decide +kernel
theorem dX6_personOf_50 : decode cX6_personOf 50 = .ok (.ireturn, 1) := by decide +kernel
set_option maxRecDepth 20000 in
theorem pl_wsX6_mightiest_wsX6_mightiest_r1 : ∀ w ∈ wsX6_mightiest_r1, w ∈ wsX6_mightiest := fun _ h => List.mem_cons_of_mem _ (List.mem_append_left _ (List.mem_append_left _ (h)))
theorem pl_wsX6_mightiest_wsX60 : ∀ w ∈ wsX60, w ∈ wsX6_mightiest := fun _ h => List.mem_cons_of_mem _ (List.mem_append_right _ (h))
theorem ggX6_mightiest_X6_many : GoodIn wsX6_mightiest wsX6_many := goodIn_sub (List.forall_mem_cons.mpr ⟨(pl_wsX6_mightiest_wsX6_mightiest_r1 _ (List.mem_of_getElem? (i := 4) rfl)), (fun w h => (List.mem_append.mp h).elim ((List.forall_mem_cons.mpr ⟨(pl_wsX6_mightiest_wsX6_mightiest_r1 _ (List.mem_of_getElem? (i := 5) rfl)), fun _ h => absurd h List.not_mem_nil⟩) w) (pl_wsX6_mightiest_wsX60 w))⟩) (by decide +kernel)
set_option maxRecDepth 20000 in
theorem gX6_mightiest_X6_many : GoodIn wsX6_mightiest (wsV RX6 84 RX6 yX6_many wsX6_many) := goodIn_app (goodIn_sub (List.forall_mem_cons.mpr ⟨(pl_wsX6_mightiest_wsX6_mightiest_r1 _ (List.mem_of_getElem? (i := 0) rfl)), List.forall_mem_cons.mpr ⟨(pl_wsX6_mightiest_wsX6_mightiest_r1 _ (List.mem_of_getElem? (i := 1) rfl)), List.forall_mem_cons.mpr ⟨(pl_wsX6_mightiest_wsX6_mightiest_r1 _ (List.mem_of_getElem? (i := 2) rfl)), List.forall_mem_cons.mpr ⟨(pl_wsX6_mightiest_wsX6_mightiest_r1 _ (List.mem_of_getElem? (i := 3) rfl)), fun _ h => absurd h List.not_mem_nil⟩⟩⟩⟩) (by decide +kernel)) ggX6_mightiest_X6_many
set_option maxRecDepth 20000 in
theorem ggX6_mightiest_X6_refuse : GoodIn wsX6_mightiest wsX6_refuse := goodIn_sub (List.forall_mem_cons.mpr ⟨(pl_wsX6_mightiest_wsX6_mightiest_r1 _ (List.mem_of_getElem? (i := 9) rfl)), (fun w h => (List.mem_append.mp h).elim ((List.forall_mem_cons.mpr ⟨(pl_wsX6_mightiest_wsX6_mightiest_r1 _ (List.mem_of_getElem? (i := 10) rfl)), fun _ h => absurd h List.not_mem_nil⟩) w) (pl_wsX6_mightiest_wsX60 w))⟩) (by decide +kernel)
set_option maxRecDepth 20000 in
theorem gX6_mightiest_X6_refuse : GoodIn wsX6_mightiest (wsV RX6 101 RX6 yX6_refuse wsX6_refuse) := goodIn_app (goodIn_sub (List.forall_mem_cons.mpr ⟨(pl_wsX6_mightiest_wsX6_mightiest_r1 _ (List.mem_of_getElem? (i := 6) rfl)), List.forall_mem_cons.mpr ⟨(pl_wsX6_mightiest_wsX6_mightiest_r1 _ (List.mem_of_getElem? (i := 7) rfl)), List.forall_mem_cons.mpr ⟨(pl_wsX6_mightiest_wsX6_mightiest_r1 _ (List.mem_of_getElem? (i := 8) rfl)), List.forall_mem_cons.mpr ⟨(pl_wsX6_mightiest_wsX6_mightiest_r1 _ (List.mem_of_getElem? (i := 3) rfl)), fun _ h => absurd h List.not_mem_nil⟩⟩⟩⟩) (by decide +kernel)) ggX6_mightiest_X6_refuse
set_option maxRecDepth 20000 in
theorem pl_wsX6_mightiest_wsX6_mightiest_r2 : ∀ w ∈ wsX6_mightiest_r2, w ∈ wsX6_mightiest := fun _ h => List.mem_cons_of_mem _ (List.mem_append_left _ (List.mem_append_right _ (h)))
theorem ggX6_mightiest_X6_power : GoodIn wsX6_mightiest wsX6_power := goodIn_sub (List.forall_mem_cons.mpr ⟨(pl_wsX6_mightiest_wsX6_mightiest_r1 _ (List.mem_of_getElem? (i := 14) rfl)), (fun w h => (List.mem_append.mp h).elim ((List.forall_mem_cons.mpr ⟨(pl_wsX6_mightiest_wsX6_mightiest_r1 _ (List.mem_of_getElem? (i := 15) rfl)), List.forall_mem_cons.mpr ⟨(pl_wsX6_mightiest_wsX6_mightiest_r1 _ (List.mem_of_getElem? (i := 16) rfl)), List.forall_mem_cons.mpr ⟨(pl_wsX6_mightiest_wsX6_mightiest_r1 _ (List.mem_of_getElem? (i := 17) rfl)), List.forall_mem_cons.mpr ⟨(pl_wsX6_mightiest_wsX6_mightiest_r1 _ (List.mem_of_getElem? (i := 3) rfl)), List.forall_mem_cons.mpr ⟨(pl_wsX6_mightiest_wsX6_mightiest_r1 _ (List.mem_of_getElem? (i := 18) rfl)), List.forall_mem_cons.mpr ⟨(pl_wsX6_mightiest_wsX6_mightiest_r1 _ (List.mem_of_getElem? (i := 0) rfl)), List.forall_mem_cons.mpr ⟨(pl_wsX6_mightiest_wsX6_mightiest_r1 _ (List.mem_of_getElem? (i := 1) rfl)), List.forall_mem_cons.mpr ⟨(pl_wsX6_mightiest_wsX6_mightiest_r1 _ (List.mem_of_getElem? (i := 2) rfl)), List.forall_mem_cons.mpr ⟨(pl_wsX6_mightiest_wsX6_mightiest_r1 _ (List.mem_of_getElem? (i := 4) rfl)), List.forall_mem_cons.mpr ⟨(pl_wsX6_mightiest_wsX6_mightiest_r1 _ (List.mem_of_getElem? (i := 5) rfl)), List.forall_mem_cons.mpr ⟨(pl_wsX6_mightiest_wsX6_mightiest_r1 _ (List.mem_of_getElem? (i := 19) rfl)), List.forall_mem_cons.mpr ⟨(pl_wsX6_mightiest_wsX6_mightiest_r1 _ (List.mem_of_getElem? (i := 20) rfl)), List.forall_mem_cons.mpr ⟨(pl_wsX6_mightiest_wsX6_mightiest_r1 _ (List.mem_of_getElem? (i := 21) rfl)), List.forall_mem_cons.mpr ⟨(pl_wsX6_mightiest_wsX6_mightiest_r1 _ (List.mem_of_getElem? (i := 22) rfl)), List.forall_mem_cons.mpr ⟨(pl_wsX6_mightiest_wsX6_mightiest_r1 _ (List.mem_of_getElem? (i := 23) rfl)), List.forall_mem_cons.mpr ⟨(pl_wsX6_mightiest_wsX6_mightiest_r2 _ (List.mem_of_getElem? (i := 0) rfl)), List.forall_mem_cons.mpr ⟨(pl_wsX6_mightiest_wsX6_mightiest_r2 _ (List.mem_of_getElem? (i := 1) rfl)), List.forall_mem_cons.mpr ⟨(pl_wsX6_mightiest_wsX6_mightiest_r2 _ (List.mem_of_getElem? (i := 2) rfl)), fun _ h => absurd h List.not_mem_nil⟩⟩⟩⟩⟩⟩⟩⟩⟩⟩⟩⟩⟩⟩⟩⟩⟩⟩) w) (pl_wsX6_mightiest_wsX60 w))⟩) (by decide +kernel)
set_option maxRecDepth 20000 in
theorem gX6_mightiest_X6_power : GoodIn wsX6_mightiest (wsV RX6 248 RX6 yX6_power wsX6_power) := goodIn_app (goodIn_sub (List.forall_mem_cons.mpr ⟨(pl_wsX6_mightiest_wsX6_mightiest_r1 _ (List.mem_of_getElem? (i := 11) rfl)), List.forall_mem_cons.mpr ⟨(pl_wsX6_mightiest_wsX6_mightiest_r1 _ (List.mem_of_getElem? (i := 12) rfl)), List.forall_mem_cons.mpr ⟨(pl_wsX6_mightiest_wsX6_mightiest_r1 _ (List.mem_of_getElem? (i := 13) rfl)), List.forall_mem_cons.mpr ⟨(pl_wsX6_mightiest_wsX6_mightiest_r1 _ (List.mem_of_getElem? (i := 3) rfl)), fun _ h => absurd h List.not_mem_nil⟩⟩⟩⟩) (by decide +kernel)) ggX6_mightiest_X6_power
theorem dX6_mightiest_0 : decode cX6_mightiest 0 = .ok (.aload_n 0, 1) := by decide +kernel
theorem dX6_mightiest_1 : decode cX6_mightiest 1 = .ok (.invokevirtual 84, 3) := by decide +kernel
theorem dX6_mightiest_4 : decode cX6_mightiest 4 = .ok (.ifCond .ne 10, 3) := by decide +kernel
theorem dX6_mightiest_7 : decode cX6_mightiest 7 = .ok (.aload_n 0, 1) := by decide +kernel
theorem dX6_mightiest_8 : decode cX6_mightiest 8 = .ok (.bipush (-5), 2) := by decide +kernel
theorem dX6_mightiest_10 : decode cX6_mightiest 10 = .ok (.invokevirtual 101, 3) := by decide +kernel
theorem dX6_mightiest_13 : decode cX6_mightiest 13 = .ok (.ireturn, 1) := by decide +kernel
theorem dX6_mightiest_14 : decode cX6_mightiest 14 = .ok (.iconst 0, 1) := by decide +kernel
theorem dX6_mightiest_15 : decode cX6_mightiest 15 = .ok (.istore_n 1, 1) := by decide +kernel
theorem dX6_mightiest_16 : decode cX6_mightiest 16 = .ok (.iconst 1, 1) := by decide +kernel
theorem dX6_mightiest_17 : decode cX6_mightiest 17 = .ok (.istore_n 2, 1) := by decide +kernel
theorem dX6_mightiest_18 : decode cX6_mightiest 18 = .ok (.iload_n 2, 1) := by decide +kernel
theorem dX6_mightiest_19 : decode cX6_mightiest 19 = .ok (.aload_n 0, 1) := by decide +kernel
theorem dX6_mightiest_20 : decode cX6_mightiest 20 = .ok (.invokevirtual 84, 3) := by decide +kernel
theorem dX6_mightiest_23 : decode cX6_mightiest 23 = .ok (.if_icmp .ge 28, 3) := by decide +kernel
theorem dX6_mightiest_26 : decode cX6_mightiest 26 = .ok (.aload_n 0, 1) := by decide +kernel
theorem dX6_mightiest_27 : decode cX6_mightiest 27 = .ok (.iload_n 2, 1) := by decide +kernel
theorem dX6_mightiest_28 : decode cX6_mightiest 28 = .ok (.invokevirtual 248, 3) := by decide +kernel
theorem dX6_mightiest_31 : decode cX6_mightiest 31 = .ok (.aload_n 0, 1) := by decide +kernel
theorem dX6_mightiest_32 : decode cX6_mightiest 32 = .ok (.iload_n 1, 1) := by decide +kernel
theorem dX6_mightiest_33 : decode cX6_mightiest 33 = .ok (.invokevirtual 248, 3) := by decide +kernel
theorem dX6_mightiest_36 : decode cX6_mightiest 36 = .ok (.if_icmp .le 7, 3) := by decide +kernel
theorem dX6_mightiest_39 : decode cX6_mightiest 39 = .ok (.iload_n 2, 1) := by decide +kernel
theorem dX6_mightiest_40 : decode cX6_mightiest 40 = .ok (.goto 4, 3) := by decide +kernel
theorem dX6_mightiest_43 : decode cX6_mightiest 43 = .ok (.iload_n 1, 1) := by decide +kernel
theorem dX6_mightiest_44 : decode cX6_mightiest 44 = .ok (.istore_n 1, 1) := by decide +kernel
theorem dX6_mightiest_45 : decode cX6_mightiest 45 = .ok (.iinc 2 1, 3) := by decide +kernel
theorem dX6_mightiest_48 : decode cX6_mightiest 48 = .ok (.goto (-30), 3) := by decide +kernel
theorem dX6_mightiest_51 : decode cX6_mightiest 51 = .ok (.iload_n 1, 1) := by decide +kernel
theorem dX6_mightiest_52 : decode cX6_mightiest 52 = .ok (.ireturn, 1) := by decide +kernel
set_option maxRecDepth 20000 in
theorem pl_wsX6_change_wsX60 : ∀ w ∈ wsX60, w ∈ wsX6_change := fun _ h => List.mem_cons_of_mem _ (List.mem_append_right _ (h))
theorem ggX6_change_X6_many : GoodIn wsX6_change wsX6_many := goodIn_sub (List.forall_mem_cons.mpr ⟨(List.mem_cons_of_mem _ (List.mem_append_left _ (List.mem_of_getElem? (i := 5) rfl))), (fun w h => (List.mem_append.mp h).elim ((List.forall_mem_cons.mpr ⟨(List.mem_cons_of_mem _ (List.mem_append_left _ (List.mem_of_getElem? (i := 0) rfl))), fun _ h => absurd h List.not_mem_nil⟩) w) (pl_wsX6_change_wsX60 w))⟩) (by decide +kernel)
set_option maxRecDepth 20000 in
theorem gX6_change_X6_many : GoodIn wsX6_change (wsV RX6 84 RX6 yX6_many wsX6_many) := goodIn_app (goodIn_sub (List.forall_mem_cons.mpr ⟨(List.mem_cons_of_mem _ (List.mem_append_left _ (List.mem_of_getElem? (i := 1) rfl))), List.forall_mem_cons.mpr ⟨(List.mem_cons_of_mem _ (List.mem_append_left _ (List.mem_of_getElem? (i := 2) rfl))), List.forall_mem_cons.mpr ⟨(List.mem_cons_of_mem _ (List.mem_append_left _ (List.mem_of_getElem? (i := 3) rfl))), List.forall_mem_cons.mpr ⟨(List.mem_cons_of_mem _ (List.mem_append_left _ (List.mem_of_getElem? (i := 4) rfl))), fun _ h => absurd h List.not_mem_nil⟩⟩⟩⟩) (by decide +kernel)) ggX6_change_X6_many
theorem dX6_change_0 : decode cX6_change 0 = .ok (.iconst 0, 1) := by decide +kernel
theorem dX6_change_1 : decode cX6_change 1 = .ok (.istore_n 2, 1) := by decide +kernel
theorem dX6_change_2 : decode cX6_change 2 = .ok (.iload_n 2, 1) := by decide +kernel
theorem dX6_change_3 : decode cX6_change 3 = .ok (.aload_n 0, 1) := by decide +kernel
theorem dX6_change_4 : decode cX6_change 4 = .ok (.invokevirtual 84, 3) := by decide +kernel
theorem dX6_change_7 : decode cX6_change 7 = .ok (.if_icmp .ge 27, 3) := by decide +kernel
theorem dX6_change_10 : decode cX6_change 10 = .ok (.aload_n 0, 1) := by decide +kernel
theorem dX6_change_11 : decode cX6_change 11 = .ok (.getfield 17, 3) := by decide +kernel
theorem dX6_change_14 : decode cX6_change 14 = .ok (.iconst 5, 1) := by decide +kernel
theorem dX6_change_15 : decode cX6_change 15 = .ok (.iload_n 2, 1) := by decide +kernel
theorem dX6_change_16 : decode cX6_change 16 = .ok (.imul, 1) := by decide +kernel
theorem dX6_change_17 : decode cX6_change 17 = .ok (.iconst 4, 1) := by decide +kernel
theorem dX6_change_18 : decode cX6_change 18 = .ok (.iadd, 1) := by decide +kernel
theorem dX6_change_19 : decode cX6_change 19 = .ok (.dup2, 1) := by decide +kernel
theorem dX6_change_20 : decode cX6_change 20 = .ok (.iaload, 1) := by decide +kernel
theorem dX6_change_21 : decode cX6_change 21 = .ok (.iload_n 1, 1) := by decide +kernel
theorem dX6_change_22 : decode cX6_change 22 = .ok (.iload_n 2, 1) := by decide +kernel
theorem dX6_change_23 : decode cX6_change 23 = .ok (.ishr, 1) := by decide +kernel
theorem dX6_change_24 : decode cX6_change 24 = .ok (.iconst 1, 1) := by decide +kernel
theorem dX6_change_25 : decode cX6_change 25 = .ok (.iand, 1) := by decide +kernel
theorem dX6_change_26 : decode cX6_change 26 = .ok (.ixor, 1) := by decide +kernel
theorem dX6_change_27 : decode cX6_change 27 = .ok (.iastore, 1) := by decide +kernel
theorem dX6_change_28 : decode cX6_change 28 = .ok (.iinc 2 1, 3) := by decide +kernel
theorem dX6_change_31 : decode cX6_change 31 = .ok (.goto (-29), 3) := by decide +kernel
theorem dX6_change_34 : decode cX6_change 34 = .ok (.return_, 1) := by decide +kernel
set_option maxRecDepth 20000 in
theorem pl_wsX6_swing_wsX6_swing_r1 : ∀ w ∈ wsX6_swing_r1, w ∈ wsX6_swing := fun _ h => List.mem_cons_of_mem _ (List.mem_append_left _ (List.mem_append_left _ (h)))
theorem pl_wsX6_swing_wsX60 : ∀ w ∈ wsX60, w ∈ wsX6_swing := fun _ h => List.mem_cons_of_mem _ (List.mem_append_right _ (h))
theorem ggX6_swing_X6_isPerson : GoodIn wsX6_swing wsX6_isPerson := goodIn_sub (List.forall_mem_cons.mpr ⟨(pl_wsX6_swing_wsX6_swing_r1 _ (List.mem_of_getElem? (i := 4) rfl)), (fun w h => (List.mem_append.mp h).elim ((List.forall_mem_cons.mpr ⟨(pl_wsX6_swing_wsX6_swing_r1 _ (List.mem_of_getElem? (i := 5) rfl)), List.forall_mem_cons.mpr ⟨(pl_wsX6_swing_wsX6_swing_r1 _ (List.mem_of_getElem? (i := 6) rfl)), List.forall_mem_cons.mpr ⟨(pl_wsX6_swing_wsX6_swing_r1 _ (List.mem_of_getElem? (i := 7) rfl)), List.forall_mem_cons.mpr ⟨(pl_wsX6_swing_wsX6_swing_r1 _ (List.mem_of_getElem? (i := 3) rfl)), List.forall_mem_cons.mpr ⟨(pl_wsX6_swing_wsX6_swing_r1 _ (List.mem_of_getElem? (i := 8) rfl)), fun _ h => absurd h List.not_mem_nil⟩⟩⟩⟩⟩) w) (pl_wsX6_swing_wsX60 w))⟩) (by decide +kernel)
set_option maxRecDepth 20000 in
theorem gX6_swing_X6_isPerson : GoodIn wsX6_swing (wsV RX6 124 RX6 yX6_isPerson wsX6_isPerson) := goodIn_app (goodIn_sub (List.forall_mem_cons.mpr ⟨(pl_wsX6_swing_wsX6_swing_r1 _ (List.mem_of_getElem? (i := 0) rfl)), List.forall_mem_cons.mpr ⟨(pl_wsX6_swing_wsX6_swing_r1 _ (List.mem_of_getElem? (i := 1) rfl)), List.forall_mem_cons.mpr ⟨(pl_wsX6_swing_wsX6_swing_r1 _ (List.mem_of_getElem? (i := 2) rfl)), List.forall_mem_cons.mpr ⟨(pl_wsX6_swing_wsX6_swing_r1 _ (List.mem_of_getElem? (i := 3) rfl)), fun _ h => absurd h List.not_mem_nil⟩⟩⟩⟩) (by decide +kernel)) ggX6_swing_X6_isPerson
set_option maxRecDepth 20000 in
theorem ggX6_swing_X6_refuse : GoodIn wsX6_swing wsX6_refuse := goodIn_sub (List.forall_mem_cons.mpr ⟨(pl_wsX6_swing_wsX6_swing_r1 _ (List.mem_of_getElem? (i := 12) rfl)), (fun w h => (List.mem_append.mp h).elim ((List.forall_mem_cons.mpr ⟨(pl_wsX6_swing_wsX6_swing_r1 _ (List.mem_of_getElem? (i := 13) rfl)), fun _ h => absurd h List.not_mem_nil⟩) w) (pl_wsX6_swing_wsX60 w))⟩) (by decide +kernel)
set_option maxRecDepth 20000 in
theorem gX6_swing_X6_refuse : GoodIn wsX6_swing (wsV RX6 101 RX6 yX6_refuse wsX6_refuse) := goodIn_app (goodIn_sub (List.forall_mem_cons.mpr ⟨(pl_wsX6_swing_wsX6_swing_r1 _ (List.mem_of_getElem? (i := 9) rfl)), List.forall_mem_cons.mpr ⟨(pl_wsX6_swing_wsX6_swing_r1 _ (List.mem_of_getElem? (i := 10) rfl)), List.forall_mem_cons.mpr ⟨(pl_wsX6_swing_wsX6_swing_r1 _ (List.mem_of_getElem? (i := 11) rfl)), List.forall_mem_cons.mpr ⟨(pl_wsX6_swing_wsX6_swing_r1 _ (List.mem_of_getElem? (i := 3) rfl)), fun _ h => absurd h List.not_mem_nil⟩⟩⟩⟩) (by decide +kernel)) ggX6_swing_X6_refuse
set_option maxRecDepth 20000 in
theorem pl_wsX6_swing_wsX6_swing_r2 : ∀ w ∈ wsX6_swing_r2, w ∈ wsX6_swing := fun _ h => List.mem_cons_of_mem _ (List.mem_append_left _ (List.mem_append_right _ (h)))
theorem ggX6_swing_X6_carries : GoodIn wsX6_swing wsX6_carries := goodIn_sub (List.forall_mem_cons.mpr ⟨(pl_wsX6_swing_wsX6_swing_r1 _ (List.mem_of_getElem? (i := 17) rfl)), (fun w h => (List.mem_append.mp h).elim ((List.forall_mem_cons.mpr ⟨(pl_wsX6_swing_wsX6_swing_r1 _ (List.mem_of_getElem? (i := 5) rfl)), List.forall_mem_cons.mpr ⟨(pl_wsX6_swing_wsX6_swing_r1 _ (List.mem_of_getElem? (i := 18) rfl)), List.forall_mem_cons.mpr ⟨(pl_wsX6_swing_wsX6_swing_r1 _ (List.mem_of_getElem? (i := 19) rfl)), List.forall_mem_cons.mpr ⟨(pl_wsX6_swing_wsX6_swing_r1 _ (List.mem_of_getElem? (i := 20) rfl)), List.forall_mem_cons.mpr ⟨(pl_wsX6_swing_wsX6_swing_r1 _ (List.mem_of_getElem? (i := 3) rfl)), List.forall_mem_cons.mpr ⟨(pl_wsX6_swing_wsX6_swing_r1 _ (List.mem_of_getElem? (i := 21) rfl)), List.forall_mem_cons.mpr ⟨(pl_wsX6_swing_wsX6_swing_r1 _ (List.mem_of_getElem? (i := 22) rfl)), List.forall_mem_cons.mpr ⟨(pl_wsX6_swing_wsX6_swing_r1 _ (List.mem_of_getElem? (i := 23) rfl)), List.forall_mem_cons.mpr ⟨(pl_wsX6_swing_wsX6_swing_r2 _ (List.mem_of_getElem? (i := 0) rfl)), List.forall_mem_cons.mpr ⟨(pl_wsX6_swing_wsX6_swing_r2 _ (List.mem_of_getElem? (i := 1) rfl)), List.forall_mem_cons.mpr ⟨(pl_wsX6_swing_wsX6_swing_r2 _ (List.mem_of_getElem? (i := 2) rfl)), List.forall_mem_cons.mpr ⟨(pl_wsX6_swing_wsX6_swing_r2 _ (List.mem_of_getElem? (i := 3) rfl)), List.forall_mem_cons.mpr ⟨(pl_wsX6_swing_wsX6_swing_r2 _ (List.mem_of_getElem? (i := 4) rfl)), List.forall_mem_cons.mpr ⟨(pl_wsX6_swing_wsX6_swing_r2 _ (List.mem_of_getElem? (i := 5) rfl)), List.forall_mem_cons.mpr ⟨(pl_wsX6_swing_wsX6_swing_r2 _ (List.mem_of_getElem? (i := 6) rfl)), List.forall_mem_cons.mpr ⟨(pl_wsX6_swing_wsX6_swing_r2 _ (List.mem_of_getElem? (i := 7) rfl)), List.forall_mem_cons.mpr ⟨(pl_wsX6_swing_wsX6_swing_r2 _ (List.mem_of_getElem? (i := 8) rfl)), List.forall_mem_cons.mpr ⟨(pl_wsX6_swing_wsX6_swing_r2 _ (List.mem_of_getElem? (i := 9) rfl)), fun _ h => absurd h List.not_mem_nil⟩⟩⟩⟩⟩⟩⟩⟩⟩⟩⟩⟩⟩⟩⟩⟩⟩⟩) w) (pl_wsX6_swing_wsX60 w))⟩) (by decide +kernel)
set_option maxRecDepth 20000 in
theorem gX6_swing_X6_carries : GoodIn wsX6_swing (wsV RX6 251 RX6 yX6_carries wsX6_carries) := goodIn_app (goodIn_sub (List.forall_mem_cons.mpr ⟨(pl_wsX6_swing_wsX6_swing_r1 _ (List.mem_of_getElem? (i := 14) rfl)), List.forall_mem_cons.mpr ⟨(pl_wsX6_swing_wsX6_swing_r1 _ (List.mem_of_getElem? (i := 15) rfl)), List.forall_mem_cons.mpr ⟨(pl_wsX6_swing_wsX6_swing_r1 _ (List.mem_of_getElem? (i := 16) rfl)), List.forall_mem_cons.mpr ⟨(pl_wsX6_swing_wsX6_swing_r1 _ (List.mem_of_getElem? (i := 3) rfl)), fun _ h => absurd h List.not_mem_nil⟩⟩⟩⟩) (by decide +kernel)) ggX6_swing_X6_carries
set_option maxRecDepth 20000 in
theorem ggX6_swing_X6_change : GoodIn wsX6_swing wsX6_change := goodIn_sub (List.forall_mem_cons.mpr ⟨(pl_wsX6_swing_wsX6_swing_r2 _ (List.mem_of_getElem? (i := 13) rfl)), (fun w h => (List.mem_append.mp h).elim ((List.forall_mem_cons.mpr ⟨(pl_wsX6_swing_wsX6_swing_r1 _ (List.mem_of_getElem? (i := 5) rfl)), List.forall_mem_cons.mpr ⟨(pl_wsX6_swing_wsX6_swing_r1 _ (List.mem_of_getElem? (i := 22) rfl)), List.forall_mem_cons.mpr ⟨(pl_wsX6_swing_wsX6_swing_r1 _ (List.mem_of_getElem? (i := 23) rfl)), List.forall_mem_cons.mpr ⟨(pl_wsX6_swing_wsX6_swing_r2 _ (List.mem_of_getElem? (i := 0) rfl)), List.forall_mem_cons.mpr ⟨(pl_wsX6_swing_wsX6_swing_r1 _ (List.mem_of_getElem? (i := 3) rfl)), List.forall_mem_cons.mpr ⟨(pl_wsX6_swing_wsX6_swing_r2 _ (List.mem_of_getElem? (i := 1) rfl)), fun _ h => absurd h List.not_mem_nil⟩⟩⟩⟩⟩⟩) w) (pl_wsX6_swing_wsX60 w))⟩) (by decide +kernel)
set_option maxRecDepth 20000 in
theorem gX6_swing_X6_change : GoodIn wsX6_swing (wsV RX6 254 RX6 yX6_change wsX6_change) := goodIn_app (goodIn_sub (List.forall_mem_cons.mpr ⟨(pl_wsX6_swing_wsX6_swing_r2 _ (List.mem_of_getElem? (i := 10) rfl)), List.forall_mem_cons.mpr ⟨(pl_wsX6_swing_wsX6_swing_r2 _ (List.mem_of_getElem? (i := 11) rfl)), List.forall_mem_cons.mpr ⟨(pl_wsX6_swing_wsX6_swing_r2 _ (List.mem_of_getElem? (i := 12) rfl)), List.forall_mem_cons.mpr ⟨(pl_wsX6_swing_wsX6_swing_r1 _ (List.mem_of_getElem? (i := 3) rfl)), fun _ h => absurd h List.not_mem_nil⟩⟩⟩⟩) (by decide +kernel)) ggX6_swing_X6_change
theorem dX6_swing_0 : decode cX6_swing 0 = .ok (.aload_n 0, 1) := by decide +kernel
theorem dX6_swing_1 : decode cX6_swing 1 = .ok (.iload_n 1, 1) := by decide +kernel
theorem dX6_swing_2 : decode cX6_swing 2 = .ok (.invokevirtual 124, 3) := by decide +kernel
theorem dX6_swing_5 : decode cX6_swing 5 = .ok (.ifCond .ne 10, 3) := by decide +kernel
theorem dX6_swing_8 : decode cX6_swing 8 = .ok (.aload_n 0, 1) := by decide +kernel
theorem dX6_swing_9 : decode cX6_swing 9 = .ok (.bipush (-2), 2) := by decide +kernel
theorem dX6_swing_11 : decode cX6_swing 11 = .ok (.invokevirtual 101, 3) := by decide +kernel
theorem dX6_swing_14 : decode cX6_swing 14 = .ok (.ireturn, 1) := by decide +kernel
theorem dX6_swing_15 : decode cX6_swing 15 = .ok (.aload_n 0, 1) := by decide +kernel
theorem dX6_swing_16 : decode cX6_swing 16 = .ok (.invokevirtual 251, 3) := by decide +kernel
theorem dX6_swing_19 : decode cX6_swing 19 = .ok (.istore_n 2, 1) := by decide +kernel
theorem dX6_swing_20 : decode cX6_swing 20 = .ok (.aload_n 0, 1) := by decide +kernel
theorem dX6_swing_21 : decode cX6_swing 21 = .ok (.iconst 1, 1) := by decide +kernel
theorem dX6_swing_22 : decode cX6_swing 22 = .ok (.iload_n 1, 1) := by decide +kernel
theorem dX6_swing_23 : decode cX6_swing 23 = .ok (.ishl, 1) := by decide +kernel
theorem dX6_swing_24 : decode cX6_swing 24 = .ok (.invokevirtual 254, 3) := by decide +kernel
theorem dX6_swing_27 : decode cX6_swing 27 = .ok (.aload_n 0, 1) := by decide +kernel
theorem dX6_swing_28 : decode cX6_swing 28 = .ok (.invokevirtual 251, 3) := by decide +kernel
theorem dX6_swing_31 : decode cX6_swing 31 = .ok (.istore_n 3, 1) := by decide +kernel
theorem dX6_swing_32 : decode cX6_swing 32 = .ok (.aload_n 0, 1) := by decide +kernel
theorem dX6_swing_33 : decode cX6_swing 33 = .ok (.iconst 1, 1) := by decide +kernel
theorem dX6_swing_34 : decode cX6_swing 34 = .ok (.iload_n 1, 1) := by decide +kernel
theorem dX6_swing_35 : decode cX6_swing 35 = .ok (.ishl, 1) := by decide +kernel
theorem dX6_swing_36 : decode cX6_swing 36 = .ok (.invokevirtual 254, 3) := by decide +kernel
theorem dX6_swing_39 : decode cX6_swing 39 = .ok (.iload_n 2, 1) := by decide +kernel
theorem dX6_swing_40 : decode cX6_swing 40 = .ok (.iload_n 3, 1) := by decide +kernel
theorem dX6_swing_41 : decode cX6_swing 41 = .ok (.if_icmp .ne 7, 3) := by decide +kernel
theorem dX6_swing_44 : decode cX6_swing 44 = .ok (.iconst 0, 1) := by decide +kernel
theorem dX6_swing_45 : decode cX6_swing 45 = .ok (.goto 4, 3) := by decide +kernel
theorem dX6_swing_48 : decode cX6_swing 48 = .ok (.iconst 1, 1) := by decide +kernel
theorem dX6_swing_49 : decode cX6_swing 49 = .ok (.ireturn, 1) := by decide +kernel
theorem dX6_ones_0 : decode cX6_ones 0 = .ok (.iconst 0, 1) := by decide +kernel
theorem dX6_ones_1 : decode cX6_ones 1 = .ok (.istore_n 1, 1) := by decide +kernel
theorem dX6_ones_2 : decode cX6_ones 2 = .ok (.iconst 0, 1) := by decide +kernel
theorem dX6_ones_3 : decode cX6_ones 3 = .ok (.istore_n 2, 1) := by decide +kernel
theorem dX6_ones_4 : decode cX6_ones 4 = .ok (.iload_n 2, 1) := by decide +kernel
theorem dX6_ones_5 : decode cX6_ones 5 = .ok (.bipush 8, 2) := by decide +kernel
theorem dX6_ones_7 : decode cX6_ones 7 = .ok (.if_icmp .ge 17, 3) := by decide +kernel
theorem dX6_ones_10 : decode cX6_ones 10 = .ok (.iload_n 1, 1) := by decide +kernel
theorem dX6_ones_11 : decode cX6_ones 11 = .ok (.iload_n 0, 1) := by decide +kernel
theorem dX6_ones_12 : decode cX6_ones 12 = .ok (.iload_n 2, 1) := by decide +kernel
theorem dX6_ones_13 : decode cX6_ones 13 = .ok (.ishr, 1) := by decide +kernel
theorem dX6_ones_14 : decode cX6_ones 14 = .ok (.iconst 1, 1) := by decide +kernel
theorem dX6_ones_15 : decode cX6_ones 15 = .ok (.iand, 1) := by decide +kernel
theorem dX6_ones_16 : decode cX6_ones 16 = .ok (.iadd, 1) := by decide +kernel
theorem dX6_ones_17 : decode cX6_ones 17 = .ok (.istore_n 1, 1) := by decide +kernel
theorem dX6_ones_18 : decode cX6_ones 18 = .ok (.iinc 2 1, 3) := by decide +kernel
theorem dX6_ones_21 : decode cX6_ones 21 = .ok (.goto (-17), 3) := by decide +kernel
theorem dX6_ones_24 : decode cX6_ones 24 = .ok (.iload_n 1, 1) := by decide +kernel
theorem dX6_ones_25 : decode cX6_ones 25 = .ok (.ireturn, 1) := by decide +kernel
set_option maxRecDepth 20000 in
theorem pl_wsX6_turn_wsX6_turn_r1 : ∀ w ∈ wsX6_turn_r1, w ∈ wsX6_turn := fun _ h => List.mem_cons_of_mem _ (List.mem_append_left _ (List.mem_append_left _ (h)))
theorem ggX6_turn_X6_isIn : GoodIn wsX6_turn wsX6_isIn := goodIn_sub (List.forall_mem_cons.mpr ⟨(pl_wsX6_turn_wsX6_turn_r1 _ (List.mem_of_getElem? (i := 3) rfl)), (fun _ h => absurd h List.not_mem_nil)⟩) (by decide +kernel)
set_option maxRecDepth 20000 in
theorem gX6_turn_X6_isIn : GoodIn wsX6_turn (va_wsS RX6 76 yX6_isIn wsX6_isIn) := goodIn_app (goodIn_sub (List.forall_mem_cons.mpr ⟨(pl_wsX6_turn_wsX6_turn_r1 _ (List.mem_of_getElem? (i := 0) rfl)), List.forall_mem_cons.mpr ⟨(pl_wsX6_turn_wsX6_turn_r1 _ (List.mem_of_getElem? (i := 1) rfl)), List.forall_mem_cons.mpr ⟨(pl_wsX6_turn_wsX6_turn_r1 _ (List.mem_of_getElem? (i := 2) rfl)), fun _ h => absurd h List.not_mem_nil⟩⟩⟩) (by decide +kernel)) ggX6_turn_X6_isIn
set_option maxRecDepth 20000 in
theorem pl_wsX6_turn_wsX60 : ∀ w ∈ wsX60, w ∈ wsX6_turn := fun _ h => List.mem_cons_of_mem _ (List.mem_append_right _ (h))
theorem ggX6_turn_X6_refuse : GoodIn wsX6_turn wsX6_refuse := goodIn_sub (List.forall_mem_cons.mpr ⟨(pl_wsX6_turn_wsX6_turn_r1 _ (List.mem_of_getElem? (i := 7) rfl)), (fun w h => (List.mem_append.mp h).elim ((List.forall_mem_cons.mpr ⟨(pl_wsX6_turn_wsX6_turn_r1 _ (List.mem_of_getElem? (i := 8) rfl)), fun _ h => absurd h List.not_mem_nil⟩) w) (pl_wsX6_turn_wsX60 w))⟩) (by decide +kernel)
set_option maxRecDepth 20000 in
theorem gX6_turn_X6_refuse : GoodIn wsX6_turn (wsV RX6 101 RX6 yX6_refuse wsX6_refuse) := goodIn_app (goodIn_sub (List.forall_mem_cons.mpr ⟨(pl_wsX6_turn_wsX6_turn_r1 _ (List.mem_of_getElem? (i := 4) rfl)), List.forall_mem_cons.mpr ⟨(pl_wsX6_turn_wsX6_turn_r1 _ (List.mem_of_getElem? (i := 5) rfl)), List.forall_mem_cons.mpr ⟨(pl_wsX6_turn_wsX6_turn_r1 _ (List.mem_of_getElem? (i := 6) rfl)), List.forall_mem_cons.mpr ⟨(pl_wsX6_turn_wsX6_turn_r1 _ (List.mem_of_getElem? (i := 2) rfl)), fun _ h => absurd h List.not_mem_nil⟩⟩⟩⟩) (by decide +kernel)) ggX6_turn_X6_refuse
set_option maxRecDepth 20000 in
theorem pl_wsX6_turn_wsX6_turn_r2 : ∀ w ∈ wsX6_turn_r2, w ∈ wsX6_turn := fun _ h => List.mem_cons_of_mem _ (List.mem_append_left _ (List.mem_append_right _ (h)))
theorem ggX6_turn_X6_carries : GoodIn wsX6_turn wsX6_carries := goodIn_sub (List.forall_mem_cons.mpr ⟨(pl_wsX6_turn_wsX6_turn_r1 _ (List.mem_of_getElem? (i := 12) rfl)), (fun w h => (List.mem_append.mp h).elim ((List.forall_mem_cons.mpr ⟨(pl_wsX6_turn_wsX6_turn_r1 _ (List.mem_of_getElem? (i := 13) rfl)), List.forall_mem_cons.mpr ⟨(pl_wsX6_turn_wsX6_turn_r1 _ (List.mem_of_getElem? (i := 14) rfl)), List.forall_mem_cons.mpr ⟨(pl_wsX6_turn_wsX6_turn_r1 _ (List.mem_of_getElem? (i := 15) rfl)), List.forall_mem_cons.mpr ⟨(pl_wsX6_turn_wsX6_turn_r1 _ (List.mem_of_getElem? (i := 16) rfl)), List.forall_mem_cons.mpr ⟨(pl_wsX6_turn_wsX6_turn_r1 _ (List.mem_of_getElem? (i := 2) rfl)), List.forall_mem_cons.mpr ⟨(pl_wsX6_turn_wsX6_turn_r1 _ (List.mem_of_getElem? (i := 17) rfl)), List.forall_mem_cons.mpr ⟨(pl_wsX6_turn_wsX6_turn_r1 _ (List.mem_of_getElem? (i := 18) rfl)), List.forall_mem_cons.mpr ⟨(pl_wsX6_turn_wsX6_turn_r1 _ (List.mem_of_getElem? (i := 19) rfl)), List.forall_mem_cons.mpr ⟨(pl_wsX6_turn_wsX6_turn_r1 _ (List.mem_of_getElem? (i := 20) rfl)), List.forall_mem_cons.mpr ⟨(pl_wsX6_turn_wsX6_turn_r1 _ (List.mem_of_getElem? (i := 21) rfl)), List.forall_mem_cons.mpr ⟨(pl_wsX6_turn_wsX6_turn_r1 _ (List.mem_of_getElem? (i := 22) rfl)), List.forall_mem_cons.mpr ⟨(pl_wsX6_turn_wsX6_turn_r1 _ (List.mem_of_getElem? (i := 23) rfl)), List.forall_mem_cons.mpr ⟨(pl_wsX6_turn_wsX6_turn_r2 _ (List.mem_of_getElem? (i := 0) rfl)), List.forall_mem_cons.mpr ⟨(pl_wsX6_turn_wsX6_turn_r2 _ (List.mem_of_getElem? (i := 1) rfl)), List.forall_mem_cons.mpr ⟨(pl_wsX6_turn_wsX6_turn_r2 _ (List.mem_of_getElem? (i := 2) rfl)), List.forall_mem_cons.mpr ⟨(pl_wsX6_turn_wsX6_turn_r2 _ (List.mem_of_getElem? (i := 3) rfl)), List.forall_mem_cons.mpr ⟨(pl_wsX6_turn_wsX6_turn_r2 _ (List.mem_of_getElem? (i := 4) rfl)), List.forall_mem_cons.mpr ⟨(pl_wsX6_turn_wsX6_turn_r2 _ (List.mem_of_getElem? (i := 5) rfl)), fun _ h => absurd h List.not_mem_nil⟩⟩⟩⟩⟩⟩⟩⟩⟩⟩⟩⟩⟩⟩⟩⟩⟩⟩) w) (pl_wsX6_turn_wsX60 w))⟩) (by decide +kernel)
set_option maxRecDepth 20000 in
theorem gX6_turn_X6_carries : GoodIn wsX6_turn (wsV RX6 251 RX6 yX6_carries wsX6_carries) := goodIn_app (goodIn_sub (List.forall_mem_cons.mpr ⟨(pl_wsX6_turn_wsX6_turn_r1 _ (List.mem_of_getElem? (i := 9) rfl)), List.forall_mem_cons.mpr ⟨(pl_wsX6_turn_wsX6_turn_r1 _ (List.mem_of_getElem? (i := 10) rfl)), List.forall_mem_cons.mpr ⟨(pl_wsX6_turn_wsX6_turn_r1 _ (List.mem_of_getElem? (i := 11) rfl)), List.forall_mem_cons.mpr ⟨(pl_wsX6_turn_wsX6_turn_r1 _ (List.mem_of_getElem? (i := 2) rfl)), fun _ h => absurd h List.not_mem_nil⟩⟩⟩⟩) (by decide +kernel)) ggX6_turn_X6_carries
set_option maxRecDepth 20000 in
theorem ggX6_turn_X6_many : GoodIn wsX6_turn wsX6_many := goodIn_sub (List.forall_mem_cons.mpr ⟨(pl_wsX6_turn_wsX6_turn_r1 _ (List.mem_of_getElem? (i := 21) rfl)), (fun w h => (List.mem_append.mp h).elim ((List.forall_mem_cons.mpr ⟨(pl_wsX6_turn_wsX6_turn_r1 _ (List.mem_of_getElem? (i := 13) rfl)), fun _ h => absurd h List.not_mem_nil⟩) w) (pl_wsX6_turn_wsX60 w))⟩) (by decide +kernel)
set_option maxRecDepth 20000 in
theorem gX6_turn_X6_many : GoodIn wsX6_turn (wsV RX6 84 RX6 yX6_many wsX6_many) := goodIn_app (goodIn_sub (List.forall_mem_cons.mpr ⟨(pl_wsX6_turn_wsX6_turn_r1 _ (List.mem_of_getElem? (i := 18) rfl)), List.forall_mem_cons.mpr ⟨(pl_wsX6_turn_wsX6_turn_r1 _ (List.mem_of_getElem? (i := 19) rfl)), List.forall_mem_cons.mpr ⟨(pl_wsX6_turn_wsX6_turn_r1 _ (List.mem_of_getElem? (i := 20) rfl)), List.forall_mem_cons.mpr ⟨(pl_wsX6_turn_wsX6_turn_r1 _ (List.mem_of_getElem? (i := 2) rfl)), fun _ h => absurd h List.not_mem_nil⟩⟩⟩⟩) (by decide +kernel)) ggX6_turn_X6_many
set_option maxRecDepth 20000 in
theorem ggX6_turn_X6_change : GoodIn wsX6_turn wsX6_change := goodIn_sub (List.forall_mem_cons.mpr ⟨(pl_wsX6_turn_wsX6_turn_r2 _ (List.mem_of_getElem? (i := 9) rfl)), (fun w h => (List.mem_append.mp h).elim ((List.forall_mem_cons.mpr ⟨(pl_wsX6_turn_wsX6_turn_r1 _ (List.mem_of_getElem? (i := 13) rfl)), List.forall_mem_cons.mpr ⟨(pl_wsX6_turn_wsX6_turn_r1 _ (List.mem_of_getElem? (i := 18) rfl)), List.forall_mem_cons.mpr ⟨(pl_wsX6_turn_wsX6_turn_r1 _ (List.mem_of_getElem? (i := 19) rfl)), List.forall_mem_cons.mpr ⟨(pl_wsX6_turn_wsX6_turn_r1 _ (List.mem_of_getElem? (i := 20) rfl)), List.forall_mem_cons.mpr ⟨(pl_wsX6_turn_wsX6_turn_r1 _ (List.mem_of_getElem? (i := 2) rfl)), List.forall_mem_cons.mpr ⟨(pl_wsX6_turn_wsX6_turn_r1 _ (List.mem_of_getElem? (i := 21) rfl)), fun _ h => absurd h List.not_mem_nil⟩⟩⟩⟩⟩⟩) w) (pl_wsX6_turn_wsX60 w))⟩) (by decide +kernel)
set_option maxRecDepth 20000 in
theorem gX6_turn_X6_change : GoodIn wsX6_turn (wsV RX6 254 RX6 yX6_change wsX6_change) := goodIn_app (goodIn_sub (List.forall_mem_cons.mpr ⟨(pl_wsX6_turn_wsX6_turn_r2 _ (List.mem_of_getElem? (i := 6) rfl)), List.forall_mem_cons.mpr ⟨(pl_wsX6_turn_wsX6_turn_r2 _ (List.mem_of_getElem? (i := 7) rfl)), List.forall_mem_cons.mpr ⟨(pl_wsX6_turn_wsX6_turn_r2 _ (List.mem_of_getElem? (i := 8) rfl)), List.forall_mem_cons.mpr ⟨(pl_wsX6_turn_wsX6_turn_r1 _ (List.mem_of_getElem? (i := 2) rfl)), fun _ h => absurd h List.not_mem_nil⟩⟩⟩⟩) (by decide +kernel)) ggX6_turn_X6_change
set_option maxRecDepth 20000 in
theorem ggX6_turn_X6_ones : GoodIn wsX6_turn wsX6_ones := goodIn_sub (List.forall_mem_cons.mpr ⟨(pl_wsX6_turn_wsX6_turn_r2 _ (List.mem_of_getElem? (i := 12) rfl)), (fun _ h => absurd h List.not_mem_nil)⟩) (by decide +kernel)
set_option maxRecDepth 20000 in
theorem gX6_turn_X6_ones : GoodIn wsX6_turn (va_wsS RX6 257 yX6_ones wsX6_ones) := goodIn_app (goodIn_sub (List.forall_mem_cons.mpr ⟨(pl_wsX6_turn_wsX6_turn_r2 _ (List.mem_of_getElem? (i := 10) rfl)), List.forall_mem_cons.mpr ⟨(pl_wsX6_turn_wsX6_turn_r2 _ (List.mem_of_getElem? (i := 11) rfl)), List.forall_mem_cons.mpr ⟨(pl_wsX6_turn_wsX6_turn_r1 _ (List.mem_of_getElem? (i := 2) rfl)), fun _ h => absurd h List.not_mem_nil⟩⟩⟩) (by decide +kernel)) ggX6_turn_X6_ones
theorem dX6_turn_0 : decode cX6_turn 0 = .ok (.iload_n 1, 1) := by decide +kernel
theorem dX6_turn_1 : decode cX6_turn 1 = .ok (.i2l, 1) := by decide +kernel
theorem dX6_turn_2 : decode cX6_turn 2 = .ok (.lconst 0, 1) := by decide +kernel
theorem dX6_turn_3 : decode cX6_turn 3 = .ok (.lconst 1, 1) := by decide +kernel
theorem dX6_turn_4 : decode cX6_turn 4 = .ok (.invokestatic 76, 3) := by decide +kernel
theorem dX6_turn_7 : decode cX6_turn 7 = .ok (.ifCond .ne 10, 3) := by decide +kernel
theorem dX6_turn_10 : decode cX6_turn 10 = .ok (.aload_n 0, 1) := by decide +kernel
theorem dX6_turn_11 : decode cX6_turn 11 = .ok (.bipush (-2), 2) := by decide +kernel
theorem dX6_turn_13 : decode cX6_turn 13 = .ok (.invokevirtual 101, 3) := by decide +kernel
theorem dX6_turn_16 : decode cX6_turn 16 = .ok (.ireturn, 1) := by decide +kernel
theorem dX6_turn_17 : decode cX6_turn 17 = .ok (.aload_n 0, 1) := by decide +kernel
theorem dX6_turn_18 : decode cX6_turn 18 = .ok (.invokevirtual 251, 3) := by decide +kernel
theorem dX6_turn_21 : decode cX6_turn 21 = .ok (.istore_n 2, 1) := by decide +kernel
theorem dX6_turn_22 : decode cX6_turn 22 = .ok (.iconst (-1), 1) := by decide +kernel
theorem dX6_turn_23 : decode cX6_turn 23 = .ok (.istore_n 3, 1) := by decide +kernel
theorem dX6_turn_24 : decode cX6_turn 24 = .ok (.iconst 1, 1) := by decide +kernel
theorem dX6_turn_25 : decode cX6_turn 25 = .ok (.istore 4, 2) := by decide +kernel
theorem dX6_turn_27 : decode cX6_turn 27 = .ok (.iload 4, 2) := by decide +kernel
theorem dX6_turn_29 : decode cX6_turn 29 = .ok (.iconst 1, 1) := by decide +kernel
theorem dX6_turn_30 : decode cX6_turn 30 = .ok (.aload_n 0, 1) := by decide +kernel
theorem dX6_turn_31 : decode cX6_turn 31 = .ok (.invokevirtual 84, 3) := by decide +kernel
theorem dX6_turn_34 : decode cX6_turn 34 = .ok (.ishl, 1) := by decide +kernel
theorem dX6_turn_35 : decode cX6_turn 35 = .ok (.if_icmp .ge 65, 3) := by decide +kernel
theorem dX6_turn_38 : decode cX6_turn 38 = .ok (.aload_n 0, 1) := by decide +kernel
theorem dX6_turn_39 : decode cX6_turn 39 = .ok (.iload 4, 2) := by decide +kernel
theorem dX6_turn_41 : decode cX6_turn 41 = .ok (.invokevirtual 254, 3) := by decide +kernel
theorem dX6_turn_44 : decode cX6_turn 44 = .ok (.aload_n 0, 1) := by decide +kernel
theorem dX6_turn_45 : decode cX6_turn 45 = .ok (.invokevirtual 251, 3) := by decide +kernel
theorem dX6_turn_48 : decode cX6_turn 48 = .ok (.iload_n 2, 1) := by decide +kernel
theorem dX6_turn_49 : decode cX6_turn 49 = .ok (.if_icmp .eq 7, 3) := by decide +kernel
theorem dX6_turn_52 : decode cX6_turn 52 = .ok (.iconst 1, 1) := by decide +kernel
theorem dX6_turn_53 : decode cX6_turn 53 = .ok (.goto 4, 3) := by decide +kernel
theorem dX6_turn_56 : decode cX6_turn 56 = .ok (.iconst 0, 1) := by decide +kernel
theorem dX6_turn_57 : decode cX6_turn 57 = .ok (.istore 5, 2) := by decide +kernel
theorem dX6_turn_59 : decode cX6_turn 59 = .ok (.aload_n 0, 1) := by decide +kernel
theorem dX6_turn_60 : decode cX6_turn 60 = .ok (.iload 4, 2) := by decide +kernel
theorem dX6_turn_62 : decode cX6_turn 62 = .ok (.invokevirtual 254, 3) := by decide +kernel
theorem dX6_turn_65 : decode cX6_turn 65 = .ok (.iload 5, 2) := by decide +kernel
theorem dX6_turn_67 : decode cX6_turn 67 = .ok (.ifCond .eq 25, 3) := by decide +kernel
theorem dX6_turn_70 : decode cX6_turn 70 = .ok (.iload_n 3, 1) := by decide +kernel
theorem dX6_turn_71 : decode cX6_turn 71 = .ok (.iconst (-1), 1) := by decide +kernel
theorem dX6_turn_72 : decode cX6_turn 72 = .ok (.if_icmp .eq 15, 3) := by decide +kernel
theorem dX6_turn_75 : decode cX6_turn 75 = .ok (.iload 4, 2) := by decide +kernel
theorem dX6_turn_77 : decode cX6_turn 77 = .ok (.invokestatic 257, 3) := by decide +kernel
theorem dX6_turn_80 : decode cX6_turn 80 = .ok (.iload_n 3, 1) := by decide +kernel
theorem dX6_turn_81 : decode cX6_turn 81 = .ok (.invokestatic 257, 3) := by decide +kernel
theorem dX6_turn_84 : decode cX6_turn 84 = .ok (.if_icmp .ge 8, 3) := by decide +kernel
theorem dX6_turn_87 : decode cX6_turn 87 = .ok (.iload 4, 2) := by decide +kernel
theorem dX6_turn_89 : decode cX6_turn 89 = .ok (.goto 4, 3) := by decide +kernel
theorem dX6_turn_92 : decode cX6_turn 92 = .ok (.iload_n 3, 1) := by decide +kernel
theorem dX6_turn_93 : decode cX6_turn 93 = .ok (.istore_n 3, 1) := by decide +kernel
theorem dX6_turn_94 : decode cX6_turn 94 = .ok (.iinc 4 1, 3) := by decide +kernel
theorem dX6_turn_97 : decode cX6_turn 97 = .ok (.goto (-70), 3) := by decide +kernel
theorem dX6_turn_100 : decode cX6_turn 100 = .ok (.iload_n 3, 1) := by decide +kernel
theorem dX6_turn_101 : decode cX6_turn 101 = .ok (.iconst (-1), 1) := by decide +kernel
theorem dX6_turn_102 : decode cX6_turn 102 = .ok (.if_icmp .ne 7, 3) := by decide +kernel
theorem dX6_turn_105 : decode cX6_turn 105 = .ok (.iconst (-1), 1) := by decide +kernel
theorem dX6_turn_106 : decode cX6_turn 106 = .ok (.goto 15, 3) := by decide +kernel
theorem dX6_turn_109 : decode cX6_turn 109 = .ok (.iload_n 1, 1) := by decide +kernel
theorem dX6_turn_110 : decode cX6_turn 110 = .ok (.ifCond .ne 10, 3) := by decide +kernel
theorem dX6_turn_113 : decode cX6_turn 113 = .ok (.iload_n 3, 1) := by decide +kernel
theorem dX6_turn_114 : decode cX6_turn 114 = .ok (.invokestatic 257, 3) := by decide +kernel
theorem dX6_turn_117 : decode cX6_turn 117 = .ok (.goto 4, 3) := by decide +kernel
theorem dX6_turn_120 : decode cX6_turn 120 = .ok (.iload_n 3, 1) := by decide +kernel
theorem dX6_turn_121 : decode cX6_turn 121 = .ok (.ireturn, 1) := by decide +kernel
set_option maxRecDepth 20000 in
theorem pl_wsX6_agreed_wsX6_agreed_r1 : ∀ w ∈ wsX6_agreed_r1, w ∈ wsX6_agreed := fun _ h => List.mem_cons_of_mem _ (List.mem_append_left _ (List.mem_append_left _ (h)))
theorem pl_wsX6_agreed_wsX60 : ∀ w ∈ wsX60, w ∈ wsX6_agreed := fun _ h => List.mem_cons_of_mem _ (List.mem_append_right _ (h))
theorem ggX6_agreed_X6_many : GoodIn wsX6_agreed wsX6_many := goodIn_sub (List.forall_mem_cons.mpr ⟨(pl_wsX6_agreed_wsX6_agreed_r1 _ (List.mem_of_getElem? (i := 5) rfl)), (fun w h => (List.mem_append.mp h).elim ((List.forall_mem_cons.mpr ⟨(pl_wsX6_agreed_wsX6_agreed_r1 _ (List.mem_of_getElem? (i := 0) rfl)), fun _ h => absurd h List.not_mem_nil⟩) w) (pl_wsX6_agreed_wsX60 w))⟩) (by decide +kernel)
set_option maxRecDepth 20000 in
theorem gX6_agreed_X6_many : GoodIn wsX6_agreed (wsV RX6 84 RX6 yX6_many wsX6_many) := goodIn_app (goodIn_sub (List.forall_mem_cons.mpr ⟨(pl_wsX6_agreed_wsX6_agreed_r1 _ (List.mem_of_getElem? (i := 1) rfl)), List.forall_mem_cons.mpr ⟨(pl_wsX6_agreed_wsX6_agreed_r1 _ (List.mem_of_getElem? (i := 2) rfl)), List.forall_mem_cons.mpr ⟨(pl_wsX6_agreed_wsX6_agreed_r1 _ (List.mem_of_getElem? (i := 3) rfl)), List.forall_mem_cons.mpr ⟨(pl_wsX6_agreed_wsX6_agreed_r1 _ (List.mem_of_getElem? (i := 4) rfl)), fun _ h => absurd h List.not_mem_nil⟩⟩⟩⟩) (by decide +kernel)) ggX6_agreed_X6_many
set_option maxRecDepth 20000 in
theorem ggX6_agreed_X6_cell : GoodIn wsX6_agreed wsX6_cell := goodIn_sub (List.forall_mem_cons.mpr ⟨(pl_wsX6_agreed_wsX6_agreed_r1 _ (List.mem_of_getElem? (i := 9) rfl)), (fun w h => (List.mem_append.mp h).elim ((List.forall_mem_cons.mpr ⟨(pl_wsX6_agreed_wsX6_agreed_r1 _ (List.mem_of_getElem? (i := 0) rfl)), fun _ h => absurd h List.not_mem_nil⟩) w) (pl_wsX6_agreed_wsX60 w))⟩) (by decide +kernel)
set_option maxRecDepth 20000 in
theorem gX6_agreed_X6_cell : GoodIn wsX6_agreed (wsV RX6 88 RX6 yX6_cell wsX6_cell) := goodIn_app (goodIn_sub (List.forall_mem_cons.mpr ⟨(pl_wsX6_agreed_wsX6_agreed_r1 _ (List.mem_of_getElem? (i := 6) rfl)), List.forall_mem_cons.mpr ⟨(pl_wsX6_agreed_wsX6_agreed_r1 _ (List.mem_of_getElem? (i := 7) rfl)), List.forall_mem_cons.mpr ⟨(pl_wsX6_agreed_wsX6_agreed_r1 _ (List.mem_of_getElem? (i := 8) rfl)), List.forall_mem_cons.mpr ⟨(pl_wsX6_agreed_wsX6_agreed_r1 _ (List.mem_of_getElem? (i := 4) rfl)), fun _ h => absurd h List.not_mem_nil⟩⟩⟩⟩) (by decide +kernel)) ggX6_agreed_X6_cell
set_option maxRecDepth 20000 in
theorem ggX6_agreed_X6_faces : GoodIn wsX6_agreed wsX6_faces := goodIn_sub (List.forall_mem_cons.mpr ⟨(pl_wsX6_agreed_wsX6_agreed_r1 _ (List.mem_of_getElem? (i := 13) rfl)), (fun w h => (List.mem_append.mp h).elim ((List.forall_mem_cons.mpr ⟨(pl_wsX6_agreed_wsX6_agreed_r1 _ (List.mem_of_getElem? (i := 0) rfl)), fun _ h => absurd h List.not_mem_nil⟩) w) (pl_wsX6_agreed_wsX60 w))⟩) (by decide +kernel)
set_option maxRecDepth 20000 in
theorem gX6_agreed_X6_faces : GoodIn wsX6_agreed (wsV RX6 192 RX6 yX6_faces wsX6_faces) := goodIn_app (goodIn_sub (List.forall_mem_cons.mpr ⟨(pl_wsX6_agreed_wsX6_agreed_r1 _ (List.mem_of_getElem? (i := 10) rfl)), List.forall_mem_cons.mpr ⟨(pl_wsX6_agreed_wsX6_agreed_r1 _ (List.mem_of_getElem? (i := 11) rfl)), List.forall_mem_cons.mpr ⟨(pl_wsX6_agreed_wsX6_agreed_r1 _ (List.mem_of_getElem? (i := 12) rfl)), List.forall_mem_cons.mpr ⟨(pl_wsX6_agreed_wsX6_agreed_r1 _ (List.mem_of_getElem? (i := 4) rfl)), fun _ h => absurd h List.not_mem_nil⟩⟩⟩⟩) (by decide +kernel)) ggX6_agreed_X6_faces
set_option maxRecDepth 20000 in
theorem ggX6_agreed_X6_start : GoodIn wsX6_agreed wsX6_start := goodIn_sub (List.forall_mem_cons.mpr ⟨(pl_wsX6_agreed_wsX6_agreed_r1 _ (List.mem_of_getElem? (i := 17) rfl)), (fun w h => (List.mem_append.mp h).elim ((List.forall_mem_cons.mpr ⟨(pl_wsX6_agreed_wsX6_agreed_r1 _ (List.mem_of_getElem? (i := 18) rfl)), List.forall_mem_cons.mpr ⟨(pl_wsX6_agreed_wsX6_agreed_r1 _ (List.mem_of_getElem? (i := 19) rfl)), List.forall_mem_cons.mpr ⟨(pl_wsX6_agreed_wsX6_agreed_r1 _ (List.mem_of_getElem? (i := 20) rfl)), List.forall_mem_cons.mpr ⟨(pl_wsX6_agreed_wsX6_agreed_r1 _ (List.mem_of_getElem? (i := 21) rfl)), fun _ h => absurd h List.not_mem_nil⟩⟩⟩⟩) w) (pl_wsX6_agreed_wsX60 w))⟩) (by decide +kernel)
set_option maxRecDepth 20000 in
theorem gX6_agreed_X6_start : GoodIn wsX6_agreed (wsV RX6 195 RX6 yX6_start wsX6_start) := goodIn_app (goodIn_sub (List.forall_mem_cons.mpr ⟨(pl_wsX6_agreed_wsX6_agreed_r1 _ (List.mem_of_getElem? (i := 14) rfl)), List.forall_mem_cons.mpr ⟨(pl_wsX6_agreed_wsX6_agreed_r1 _ (List.mem_of_getElem? (i := 15) rfl)), List.forall_mem_cons.mpr ⟨(pl_wsX6_agreed_wsX6_agreed_r1 _ (List.mem_of_getElem? (i := 16) rfl)), List.forall_mem_cons.mpr ⟨(pl_wsX6_agreed_wsX6_agreed_r1 _ (List.mem_of_getElem? (i := 4) rfl)), fun _ h => absurd h List.not_mem_nil⟩⟩⟩⟩) (by decide +kernel)) ggX6_agreed_X6_start
set_option maxRecDepth 20000 in
theorem pl_wsX6_agreed_wsX6_agreed_r2 : ∀ w ∈ wsX6_agreed_r2, w ∈ wsX6_agreed := fun _ h => List.mem_cons_of_mem _ (List.mem_append_left _ (List.mem_append_right _ (List.mem_append_left _ (h))))
theorem pl_wsX6_agreed_wsX6_agreed_r3 : ∀ w ∈ wsX6_agreed_r3, w ∈ wsX6_agreed := fun _ h => List.mem_cons_of_mem _ (List.mem_append_left _ (List.mem_append_right _ (List.mem_append_right _ (h))))
theorem ggX6_agreed_X6_goesBy : GoodIn wsX6_agreed wsX6_goesBy := goodIn_sub (List.forall_mem_cons.mpr ⟨(pl_wsX6_agreed_wsX6_agreed_r2 _ (List.mem_of_getElem? (i := 1) rfl)), (fun w h => (List.mem_append.mp h).elim ((fun w h => (List.mem_append.mp h).elim ((List.forall_mem_cons.mpr ⟨(pl_wsX6_agreed_wsX6_agreed_r1 _ (List.mem_of_getElem? (i := 0) rfl)), List.forall_mem_cons.mpr ⟨(pl_wsX6_agreed_wsX6_agreed_r1 _ (List.mem_of_getElem? (i := 20) rfl)), List.forall_mem_cons.mpr ⟨(pl_wsX6_agreed_wsX6_agreed_r1 _ (List.mem_of_getElem? (i := 18) rfl)), List.forall_mem_cons.mpr ⟨(pl_wsX6_agreed_wsX6_agreed_r2 _ (List.mem_of_getElem? (i := 2) rfl)), List.forall_mem_cons.mpr ⟨(pl_wsX6_agreed_wsX6_agreed_r2 _ (List.mem_of_getElem? (i := 3) rfl)), List.forall_mem_cons.mpr ⟨(pl_wsX6_agreed_wsX6_agreed_r2 _ (List.mem_of_getElem? (i := 4) rfl)), List.forall_mem_cons.mpr ⟨(pl_wsX6_agreed_wsX6_agreed_r2 _ (List.mem_of_getElem? (i := 5) rfl)), List.forall_mem_cons.mpr ⟨(pl_wsX6_agreed_wsX6_agreed_r2 _ (List.mem_of_getElem? (i := 6) rfl)), List.forall_mem_cons.mpr ⟨(pl_wsX6_agreed_wsX6_agreed_r1 _ (List.mem_of_getElem? (i := 4) rfl)), List.forall_mem_cons.mpr ⟨(pl_wsX6_agreed_wsX6_agreed_r2 _ (List.mem_of_getElem? (i := 7) rfl)), List.forall_mem_cons.mpr ⟨(pl_wsX6_agreed_wsX6_agreed_r2 _ (List.mem_of_getElem? (i := 8) rfl)), List.forall_mem_cons.mpr ⟨(pl_wsX6_agreed_wsX6_agreed_r2 _ (List.mem_of_getElem? (i := 9) rfl)), List.forall_mem_cons.mpr ⟨(pl_wsX6_agreed_wsX6_agreed_r2 _ (List.mem_of_getElem? (i := 10) rfl)), List.forall_mem_cons.mpr ⟨(pl_wsX6_agreed_wsX6_agreed_r2 _ (List.mem_of_getElem? (i := 11) rfl)), List.forall_mem_cons.mpr ⟨(pl_wsX6_agreed_wsX6_agreed_r2 _ (List.mem_of_getElem? (i := 12) rfl)), List.forall_mem_cons.mpr ⟨(pl_wsX6_agreed_wsX6_agreed_r2 _ (List.mem_of_getElem? (i := 13) rfl)), List.forall_mem_cons.mpr ⟨(pl_wsX6_agreed_wsX6_agreed_r2 _ (List.mem_of_getElem? (i := 14) rfl)), List.forall_mem_cons.mpr ⟨(pl_wsX6_agreed_wsX6_agreed_r2 _ (List.mem_of_getElem? (i := 15) rfl)), List.forall_mem_cons.mpr ⟨(pl_wsX6_agreed_wsX6_agreed_r2 _ (List.mem_of_getElem? (i := 16) rfl)), List.forall_mem_cons.mpr ⟨(pl_wsX6_agreed_wsX6_agreed_r2 _ (List.mem_of_getElem? (i := 17) rfl)), List.forall_mem_cons.mpr ⟨(pl_wsX6_agreed_wsX6_agreed_r2 _ (List.mem_of_getElem? (i := 18) rfl)), List.forall_mem_cons.mpr ⟨(pl_wsX6_agreed_wsX6_agreed_r2 _ (List.mem_of_getElem? (i := 19) rfl)), List.forall_mem_cons.mpr ⟨(pl_wsX6_agreed_wsX6_agreed_r2 _ (List.mem_of_getElem? (i := 20) rfl)), List.forall_mem_cons.mpr ⟨(pl_wsX6_agreed_wsX6_agreed_r2 _ (List.mem_of_getElem? (i := 21) rfl)), fun _ h => absurd h List.not_mem_nil⟩⟩⟩⟩⟩⟩⟩⟩⟩⟩⟩⟩⟩⟩⟩⟩⟩⟩⟩⟩⟩⟩⟩⟩) w) ((List.forall_mem_cons.mpr ⟨(pl_wsX6_agreed_wsX6_agreed_r2 _ (List.mem_of_getElem? (i := 22) rfl)), List.forall_mem_cons.mpr ⟨(pl_wsX6_agreed_wsX6_agreed_r2 _ (List.mem_of_getElem? (i := 23) rfl)), List.forall_mem_cons.mpr ⟨(pl_wsX6_agreed_wsX6_agreed_r3 _ (List.mem_of_getElem? (i := 0) rfl)), List.forall_mem_cons.mpr ⟨(pl_wsX6_agreed_wsX6_agreed_r3 _ (List.mem_of_getElem? (i := 1) rfl)), List.forall_mem_cons.mpr ⟨(pl_wsX6_agreed_wsX6_agreed_r3 _ (List.mem_of_getElem? (i := 2) rfl)), List.forall_mem_cons.mpr ⟨(pl_wsX6_agreed_wsX6_agreed_r3 _ (List.mem_of_getElem? (i := 3) rfl)), List.forall_mem_cons.mpr ⟨(pl_wsX6_agreed_wsX6_agreed_r3 _ (List.mem_of_getElem? (i := 4) rfl)), List.forall_mem_cons.mpr ⟨(pl_wsX6_agreed_wsX6_agreed_r3 _ (List.mem_of_getElem? (i := 5) rfl)), fun _ h => absurd h List.not_mem_nil⟩⟩⟩⟩⟩⟩⟩⟩) w)) w) (pl_wsX6_agreed_wsX60 w))⟩) (by decide +kernel)
set_option maxRecDepth 20000 in
theorem gX6_agreed_X6_goesBy : GoodIn wsX6_agreed (wsV RX6 188 RX6 yX6_goesBy wsX6_goesBy) := goodIn_app (goodIn_sub (List.forall_mem_cons.mpr ⟨(pl_wsX6_agreed_wsX6_agreed_r1 _ (List.mem_of_getElem? (i := 22) rfl)), List.forall_mem_cons.mpr ⟨(pl_wsX6_agreed_wsX6_agreed_r1 _ (List.mem_of_getElem? (i := 23) rfl)), List.forall_mem_cons.mpr ⟨(pl_wsX6_agreed_wsX6_agreed_r2 _ (List.mem_of_getElem? (i := 0) rfl)), List.forall_mem_cons.mpr ⟨(pl_wsX6_agreed_wsX6_agreed_r1 _ (List.mem_of_getElem? (i := 4) rfl)), fun _ h => absurd h List.not_mem_nil⟩⟩⟩⟩) (by decide +kernel)) ggX6_agreed_X6_goesBy
theorem dX6_agreed_0 : decode cX6_agreed 0 = .ok (.iconst 0, 1) := by decide +kernel
theorem dX6_agreed_1 : decode cX6_agreed 1 = .ok (.istore_n 1, 1) := by decide +kernel
theorem dX6_agreed_2 : decode cX6_agreed 2 = .ok (.iconst 0, 1) := by decide +kernel
theorem dX6_agreed_3 : decode cX6_agreed 3 = .ok (.istore_n 2, 1) := by decide +kernel
theorem dX6_agreed_4 : decode cX6_agreed 4 = .ok (.iload_n 2, 1) := by decide +kernel
theorem dX6_agreed_5 : decode cX6_agreed 5 = .ok (.aload_n 0, 1) := by decide +kernel
theorem dX6_agreed_6 : decode cX6_agreed 6 = .ok (.invokevirtual 84, 3) := by decide +kernel
theorem dX6_agreed_9 : decode cX6_agreed 9 = .ok (.if_icmp .ge 51, 3) := by decide +kernel
theorem dX6_agreed_12 : decode cX6_agreed 12 = .ok (.aload_n 0, 1) := by decide +kernel
theorem dX6_agreed_13 : decode cX6_agreed 13 = .ok (.iconst 0, 1) := by decide +kernel
theorem dX6_agreed_14 : decode cX6_agreed 14 = .ok (.aload_n 0, 1) := by decide +kernel
theorem dX6_agreed_15 : decode cX6_agreed 15 = .ok (.iload_n 2, 1) := by decide +kernel
theorem dX6_agreed_16 : decode cX6_agreed 16 = .ok (.invokevirtual 88, 3) := by decide +kernel
theorem dX6_agreed_19 : decode cX6_agreed 19 = .ok (.aload_n 0, 1) := by decide +kernel
theorem dX6_agreed_20 : decode cX6_agreed 20 = .ok (.iload_n 2, 1) := by decide +kernel
theorem dX6_agreed_21 : decode cX6_agreed 21 = .ok (.invokevirtual 192, 3) := by decide +kernel
theorem dX6_agreed_24 : decode cX6_agreed 24 = .ok (.invokevirtual 195, 3) := by decide +kernel
theorem dX6_agreed_27 : decode cX6_agreed 27 = .ok (.iload_n 1, 1) := by decide +kernel
theorem dX6_agreed_28 : decode cX6_agreed 28 = .ok (.aload_n 0, 1) := by decide +kernel
theorem dX6_agreed_29 : decode cX6_agreed 29 = .ok (.iconst 0, 1) := by decide +kernel
theorem dX6_agreed_30 : decode cX6_agreed 30 = .ok (.iload_n 2, 1) := by decide +kernel
theorem dX6_agreed_31 : decode cX6_agreed 31 = .ok (.iconst 1, 1) := by decide +kernel
theorem dX6_agreed_32 : decode cX6_agreed 32 = .ok (.invokevirtual 188, 3) := by decide +kernel
theorem dX6_agreed_35 : decode cX6_agreed 35 = .ok (.aload_n 0, 1) := by decide +kernel
theorem dX6_agreed_36 : decode cX6_agreed 36 = .ok (.getfield 17, 3) := by decide +kernel
theorem dX6_agreed_39 : decode cX6_agreed 39 = .ok (.bipush 91, 2) := by decide +kernel
theorem dX6_agreed_41 : decode cX6_agreed 41 = .ok (.iaload, 1) := by decide +kernel
theorem dX6_agreed_42 : decode cX6_agreed 42 = .ok (.if_icmp .ne 9, 3) := by decide +kernel
theorem dX6_agreed_45 : decode cX6_agreed 45 = .ok (.iconst 1, 1) := by decide +kernel
theorem dX6_agreed_46 : decode cX6_agreed 46 = .ok (.iload_n 2, 1) := by decide +kernel
theorem dX6_agreed_47 : decode cX6_agreed 47 = .ok (.ishl, 1) := by decide +kernel
theorem dX6_agreed_48 : decode cX6_agreed 48 = .ok (.goto 4, 3) := by decide +kernel
theorem dX6_agreed_51 : decode cX6_agreed 51 = .ok (.iconst 0, 1) := by decide +kernel
theorem dX6_agreed_52 : decode cX6_agreed 52 = .ok (.ior, 1) := by decide +kernel
theorem dX6_agreed_53 : decode cX6_agreed 53 = .ok (.istore_n 1, 1) := by decide +kernel
theorem dX6_agreed_54 : decode cX6_agreed 54 = .ok (.iinc 2 1, 3) := by decide +kernel
theorem dX6_agreed_57 : decode cX6_agreed 57 = .ok (.goto (-53), 3) := by decide +kernel
theorem dX6_agreed_60 : decode cX6_agreed 60 = .ok (.iload_n 1, 1) := by decide +kernel
theorem dX6_agreed_61 : decode cX6_agreed 61 = .ok (.ireturn, 1) := by decide +kernel
set_option maxRecDepth 20000 in
theorem pl_wsX6_loadBoth_wsX6_loadBoth_r1 : ∀ w ∈ wsX6_loadBoth_r1, w ∈ wsX6_loadBoth := fun _ h => List.mem_cons_of_mem _ (List.mem_append_left _ (List.mem_append_left _ (h)))
theorem ggX6_loadBoth_X6_isShelf : GoodIn wsX6_loadBoth wsX6_isShelf := goodIn_sub (List.forall_mem_cons.mpr ⟨(pl_wsX6_loadBoth_wsX6_loadBoth_r1 _ (List.mem_of_getElem? (i := 8) rfl)), (List.forall_mem_cons.mpr ⟨(pl_wsX6_loadBoth_wsX6_loadBoth_r1 _ (List.mem_of_getElem? (i := 9) rfl)), List.forall_mem_cons.mpr ⟨(pl_wsX6_loadBoth_wsX6_loadBoth_r1 _ (List.mem_of_getElem? (i := 10) rfl)), List.forall_mem_cons.mpr ⟨(pl_wsX6_loadBoth_wsX6_loadBoth_r1 _ (List.mem_of_getElem? (i := 11) rfl)), List.forall_mem_cons.mpr ⟨(pl_wsX6_loadBoth_wsX6_loadBoth_r1 _ (List.mem_of_getElem? (i := 7) rfl)), List.forall_mem_cons.mpr ⟨(pl_wsX6_loadBoth_wsX6_loadBoth_r1 _ (List.mem_of_getElem? (i := 12) rfl)), fun _ h => absurd h List.not_mem_nil⟩⟩⟩⟩⟩)⟩) (by decide +kernel)
set_option maxRecDepth 20000 in
theorem gX6_loadBoth_X6_isShelf : GoodIn wsX6_loadBoth (va_wsS RX6 203 yX6_isShelf wsX6_isShelf) := goodIn_app (goodIn_sub (List.forall_mem_cons.mpr ⟨(pl_wsX6_loadBoth_wsX6_loadBoth_r1 _ (List.mem_of_getElem? (i := 5) rfl)), List.forall_mem_cons.mpr ⟨(pl_wsX6_loadBoth_wsX6_loadBoth_r1 _ (List.mem_of_getElem? (i := 6) rfl)), List.forall_mem_cons.mpr ⟨(pl_wsX6_loadBoth_wsX6_loadBoth_r1 _ (List.mem_of_getElem? (i := 7) rfl)), fun _ h => absurd h List.not_mem_nil⟩⟩⟩) (by decide +kernel)) ggX6_loadBoth_X6_isShelf
set_option maxRecDepth 20000 in
theorem ggX6_loadBoth_X6_isIn : GoodIn wsX6_loadBoth wsX6_isIn := goodIn_sub (List.forall_mem_cons.mpr ⟨(pl_wsX6_loadBoth_wsX6_loadBoth_r1 _ (List.mem_of_getElem? (i := 12) rfl)), (fun _ h => absurd h List.not_mem_nil)⟩) (by decide +kernel)
set_option maxRecDepth 20000 in
theorem gX6_loadBoth_X6_isIn : GoodIn wsX6_loadBoth (va_wsS RX6 76 yX6_isIn wsX6_isIn) := goodIn_app (goodIn_sub (List.forall_mem_cons.mpr ⟨(pl_wsX6_loadBoth_wsX6_loadBoth_r1 _ (List.mem_of_getElem? (i := 10) rfl)), List.forall_mem_cons.mpr ⟨(pl_wsX6_loadBoth_wsX6_loadBoth_r1 _ (List.mem_of_getElem? (i := 11) rfl)), List.forall_mem_cons.mpr ⟨(pl_wsX6_loadBoth_wsX6_loadBoth_r1 _ (List.mem_of_getElem? (i := 7) rfl)), fun _ h => absurd h List.not_mem_nil⟩⟩⟩) (by decide +kernel)) ggX6_loadBoth_X6_isIn
set_option maxRecDepth 20000 in
theorem pl_wsX6_loadBoth_wsX60 : ∀ w ∈ wsX60, w ∈ wsX6_loadBoth := fun _ h => List.mem_cons_of_mem _ (List.mem_append_right _ (h))
theorem ggX6_loadBoth_X6_isPerson : GoodIn wsX6_loadBoth wsX6_isPerson := goodIn_sub (List.forall_mem_cons.mpr ⟨(pl_wsX6_loadBoth_wsX6_loadBoth_r1 _ (List.mem_of_getElem? (i := 16) rfl)), (fun w h => (List.mem_append.mp h).elim ((List.forall_mem_cons.mpr ⟨(pl_wsX6_loadBoth_wsX6_loadBoth_r1 _ (List.mem_of_getElem? (i := 17) rfl)), List.forall_mem_cons.mpr ⟨(pl_wsX6_loadBoth_wsX6_loadBoth_r1 _ (List.mem_of_getElem? (i := 10) rfl)), List.forall_mem_cons.mpr ⟨(pl_wsX6_loadBoth_wsX6_loadBoth_r1 _ (List.mem_of_getElem? (i := 11) rfl)), List.forall_mem_cons.mpr ⟨(pl_wsX6_loadBoth_wsX6_loadBoth_r1 _ (List.mem_of_getElem? (i := 7) rfl)), List.forall_mem_cons.mpr ⟨(pl_wsX6_loadBoth_wsX6_loadBoth_r1 _ (List.mem_of_getElem? (i := 12) rfl)), fun _ h => absurd h List.not_mem_nil⟩⟩⟩⟩⟩) w) (pl_wsX6_loadBoth_wsX60 w))⟩) (by decide +kernel)
set_option maxRecDepth 20000 in
theorem gX6_loadBoth_X6_isPerson : GoodIn wsX6_loadBoth (wsV RX6 124 RX6 yX6_isPerson wsX6_isPerson) := goodIn_app (goodIn_sub (List.forall_mem_cons.mpr ⟨(pl_wsX6_loadBoth_wsX6_loadBoth_r1 _ (List.mem_of_getElem? (i := 13) rfl)), List.forall_mem_cons.mpr ⟨(pl_wsX6_loadBoth_wsX6_loadBoth_r1 _ (List.mem_of_getElem? (i := 14) rfl)), List.forall_mem_cons.mpr ⟨(pl_wsX6_loadBoth_wsX6_loadBoth_r1 _ (List.mem_of_getElem? (i := 15) rfl)), List.forall_mem_cons.mpr ⟨(pl_wsX6_loadBoth_wsX6_loadBoth_r1 _ (List.mem_of_getElem? (i := 7) rfl)), fun _ h => absurd h List.not_mem_nil⟩⟩⟩⟩) (by decide +kernel)) ggX6_loadBoth_X6_isPerson
set_option maxRecDepth 20000 in
theorem pl_wsX6_loadBoth_wsX6_loadBoth_r2 : ∀ w ∈ wsX6_loadBoth_r2, w ∈ wsX6_loadBoth := fun _ h => List.mem_cons_of_mem _ (List.mem_append_left _ (List.mem_append_right _ (h)))
theorem ggX6_loadBoth_X6_load : GoodIn wsX6_loadBoth wsX6_load := goodIn_sub (List.forall_mem_cons.mpr ⟨(pl_wsX6_loadBoth_wsX6_loadBoth_r1 _ (List.mem_of_getElem? (i := 21) rfl)), (fun w h => (List.mem_append.mp h).elim ((List.forall_mem_cons.mpr ⟨(pl_wsX6_loadBoth_wsX6_loadBoth_r1 _ (List.mem_of_getElem? (i := 2) rfl)), List.forall_mem_cons.mpr ⟨(pl_wsX6_loadBoth_wsX6_loadBoth_r1 _ (List.mem_of_getElem? (i := 22) rfl)), List.forall_mem_cons.mpr ⟨(pl_wsX6_loadBoth_wsX6_loadBoth_r1 _ (List.mem_of_getElem? (i := 23) rfl)), List.forall_mem_cons.mpr ⟨(pl_wsX6_loadBoth_wsX6_loadBoth_r1 _ (List.mem_of_getElem? (i := 4) rfl)), List.forall_mem_cons.mpr ⟨(pl_wsX6_loadBoth_wsX6_loadBoth_r2 _ (List.mem_of_getElem? (i := 0) rfl)), List.forall_mem_cons.mpr ⟨(pl_wsX6_loadBoth_wsX6_loadBoth_r2 _ (List.mem_of_getElem? (i := 1) rfl)), List.forall_mem_cons.mpr ⟨(pl_wsX6_loadBoth_wsX6_loadBoth_r2 _ (List.mem_of_getElem? (i := 2) rfl)), List.forall_mem_cons.mpr ⟨(pl_wsX6_loadBoth_wsX6_loadBoth_r1 _ (List.mem_of_getElem? (i := 7) rfl)), List.forall_mem_cons.mpr ⟨(pl_wsX6_loadBoth_wsX6_loadBoth_r2 _ (List.mem_of_getElem? (i := 3) rfl)), List.forall_mem_cons.mpr ⟨(pl_wsX6_loadBoth_wsX6_loadBoth_r1 _ (List.mem_of_getElem? (i := 1) rfl)), List.forall_mem_cons.mpr ⟨(pl_wsX6_loadBoth_wsX6_loadBoth_r1 _ (List.mem_of_getElem? (i := 10) rfl)), List.forall_mem_cons.mpr ⟨(pl_wsX6_loadBoth_wsX6_loadBoth_r1 _ (List.mem_of_getElem? (i := 11) rfl)), List.forall_mem_cons.mpr ⟨(pl_wsX6_loadBoth_wsX6_loadBoth_r1 _ (List.mem_of_getElem? (i := 12) rfl)), fun _ h => absurd h List.not_mem_nil⟩⟩⟩⟩⟩⟩⟩⟩⟩⟩⟩⟩⟩) w) (pl_wsX6_loadBoth_wsX60 w))⟩) (by decide +kernel)
set_option maxRecDepth 20000 in
theorem gX6_loadBoth_X6_load : GoodIn wsX6_loadBoth (wsV RX6 216 RX6 yX6_load wsX6_load) := goodIn_app (goodIn_sub (List.forall_mem_cons.mpr ⟨(pl_wsX6_loadBoth_wsX6_loadBoth_r1 _ (List.mem_of_getElem? (i := 18) rfl)), List.forall_mem_cons.mpr ⟨(pl_wsX6_loadBoth_wsX6_loadBoth_r1 _ (List.mem_of_getElem? (i := 19) rfl)), List.forall_mem_cons.mpr ⟨(pl_wsX6_loadBoth_wsX6_loadBoth_r1 _ (List.mem_of_getElem? (i := 20) rfl)), List.forall_mem_cons.mpr ⟨(pl_wsX6_loadBoth_wsX6_loadBoth_r1 _ (List.mem_of_getElem? (i := 7) rfl)), fun _ h => absurd h List.not_mem_nil⟩⟩⟩⟩) (by decide +kernel)) ggX6_loadBoth_X6_load
theorem dX6_loadBoth_0 : decode cX6_loadBoth 0 = .ok (.iload_n 1, 1) := by decide +kernel
theorem dX6_loadBoth_1 : decode cX6_loadBoth 1 = .ok (.invokestatic 203, 3) := by decide +kernel
theorem dX6_loadBoth_4 : decode cX6_loadBoth 4 = .ok (.ifCond .eq 59, 3) := by decide +kernel
theorem dX6_loadBoth_7 : decode cX6_loadBoth 7 = .ok (.iload 4, 2) := by decide +kernel
theorem dX6_loadBoth_9 : decode cX6_loadBoth 9 = .ok (.invokestatic 203, 3) := by decide +kernel
theorem dX6_loadBoth_12 : decode cX6_loadBoth 12 = .ok (.ifCond .eq 51, 3) := by decide +kernel
theorem dX6_loadBoth_15 : decode cX6_loadBoth 15 = .ok (.iload_n 2, 1) := by decide +kernel
theorem dX6_loadBoth_16 : decode cX6_loadBoth 16 = .ok (.i2l, 1) := by decide +kernel
theorem dX6_loadBoth_17 : decode cX6_loadBoth 17 = .ok (.lconst 0, 1) := by decide +kernel
theorem dX6_loadBoth_18 : decode cX6_loadBoth 18 = .ok (.ldc2_w 208, 3) := by decide +kernel
theorem dX6_loadBoth_21 : decode cX6_loadBoth 21 = .ok (.invokestatic 76, 3) := by decide +kernel
theorem dX6_loadBoth_24 : decode cX6_loadBoth 24 = .ok (.ifCond .eq 39, 3) := by decide +kernel
theorem dX6_loadBoth_27 : decode cX6_loadBoth 27 = .ok (.iload 5, 2) := by decide +kernel
theorem dX6_loadBoth_29 : decode cX6_loadBoth 29 = .ok (.i2l, 1) := by decide +kernel
theorem dX6_loadBoth_30 : decode cX6_loadBoth 30 = .ok (.lconst 0, 1) := by decide +kernel
theorem dX6_loadBoth_31 : decode cX6_loadBoth 31 = .ok (.ldc2_w 208, 3) := by decide +kernel
theorem dX6_loadBoth_34 : decode cX6_loadBoth 34 = .ok (.invokestatic 76, 3) := by decide +kernel
theorem dX6_loadBoth_37 : decode cX6_loadBoth 37 = .ok (.ifCond .eq 26, 3) := by decide +kernel
theorem dX6_loadBoth_40 : decode cX6_loadBoth 40 = .ok (.aload_n 0, 1) := by decide +kernel
theorem dX6_loadBoth_41 : decode cX6_loadBoth 41 = .ok (.iload_n 3, 1) := by decide +kernel
theorem dX6_loadBoth_42 : decode cX6_loadBoth 42 = .ok (.invokevirtual 124, 3) := by decide +kernel
theorem dX6_loadBoth_45 : decode cX6_loadBoth 45 = .ok (.ifCond .eq 18, 3) := by decide +kernel
theorem dX6_loadBoth_48 : decode cX6_loadBoth 48 = .ok (.aload_n 0, 1) := by decide +kernel
theorem dX6_loadBoth_49 : decode cX6_loadBoth 49 = .ok (.iload 6, 2) := by decide +kernel
theorem dX6_loadBoth_51 : decode cX6_loadBoth 51 = .ok (.invokevirtual 124, 3) := by decide +kernel
theorem dX6_loadBoth_54 : decode cX6_loadBoth 54 = .ok (.ifCond .eq 9, 3) := by decide +kernel
theorem dX6_loadBoth_57 : decode cX6_loadBoth 57 = .ok (.iload_n 3, 1) := by decide +kernel
theorem dX6_loadBoth_58 : decode cX6_loadBoth 58 = .ok (.iload 6, 2) := by decide +kernel
theorem dX6_loadBoth_60 : decode cX6_loadBoth 60 = .ok (.if_icmp .ne 6, 3) := by decide +kernel
theorem dX6_loadBoth_63 : decode cX6_loadBoth 63 = .ok (.bipush (-2), 2) := by decide +kernel
theorem dX6_loadBoth_65 : decode cX6_loadBoth 65 = .ok (.ireturn, 1) := by decide +kernel
theorem dX6_loadBoth_66 : decode cX6_loadBoth 66 = .ok (.aload_n 0, 1) := by decide +kernel
theorem dX6_loadBoth_67 : decode cX6_loadBoth 67 = .ok (.getfield 54, 3) := by decide +kernel
theorem dX6_loadBoth_70 : decode cX6_loadBoth 70 = .ok (.iload_n 1, 1) := by decide +kernel
theorem dX6_loadBoth_71 : decode cX6_loadBoth 71 = .ok (.iaload, 1) := by decide +kernel
theorem dX6_loadBoth_72 : decode cX6_loadBoth 72 = .ok (.bipush 10, 2) := by decide +kernel
theorem dX6_loadBoth_74 : decode cX6_loadBoth 74 = .ok (.if_icmp .ge 15, 3) := by decide +kernel
theorem dX6_loadBoth_77 : decode cX6_loadBoth 77 = .ok (.aload_n 0, 1) := by decide +kernel
theorem dX6_loadBoth_78 : decode cX6_loadBoth 78 = .ok (.getfield 54, 3) := by decide +kernel
theorem dX6_loadBoth_81 : decode cX6_loadBoth 81 = .ok (.iload 4, 2) := by decide +kernel
theorem dX6_loadBoth_83 : decode cX6_loadBoth 83 = .ok (.iaload, 1) := by decide +kernel
theorem dX6_loadBoth_84 : decode cX6_loadBoth 84 = .ok (.bipush 10, 2) := by decide +kernel
theorem dX6_loadBoth_86 : decode cX6_loadBoth 86 = .ok (.if_icmp .lt 6, 3) := by decide +kernel
theorem dX6_loadBoth_89 : decode cX6_loadBoth 89 = .ok (.bipush (-3), 2) := by decide +kernel
theorem dX6_loadBoth_91 : decode cX6_loadBoth 91 = .ok (.ireturn, 1) := by decide +kernel
theorem dX6_loadBoth_92 : decode cX6_loadBoth 92 = .ok (.aload_n 0, 1) := by decide +kernel
theorem dX6_loadBoth_93 : decode cX6_loadBoth 93 = .ok (.getfield 54, 3) := by decide +kernel
theorem dX6_loadBoth_96 : decode cX6_loadBoth 96 = .ok (.iload_n 1, 1) := by decide +kernel
theorem dX6_loadBoth_97 : decode cX6_loadBoth 97 = .ok (.iaload, 1) := by decide +kernel
theorem dX6_loadBoth_98 : decode cX6_loadBoth 98 = .ok (.iconst (-1), 1) := by decide +kernel
theorem dX6_loadBoth_99 : decode cX6_loadBoth 99 = .ok (.if_icmp .eq 14, 3) := by decide +kernel
theorem dX6_loadBoth_102 : decode cX6_loadBoth 102 = .ok (.aload_n 0, 1) := by decide +kernel
theorem dX6_loadBoth_103 : decode cX6_loadBoth 103 = .ok (.getfield 54, 3) := by decide +kernel
theorem dX6_loadBoth_106 : decode cX6_loadBoth 106 = .ok (.iload 4, 2) := by decide +kernel
theorem dX6_loadBoth_108 : decode cX6_loadBoth 108 = .ok (.iaload, 1) := by decide +kernel
theorem dX6_loadBoth_109 : decode cX6_loadBoth 109 = .ok (.iconst (-1), 1) := by decide +kernel
theorem dX6_loadBoth_110 : decode cX6_loadBoth 110 = .ok (.if_icmp .ne 6, 3) := by decide +kernel
theorem dX6_loadBoth_113 : decode cX6_loadBoth 113 = .ok (.bipush (-4), 2) := by decide +kernel
theorem dX6_loadBoth_115 : decode cX6_loadBoth 115 = .ok (.ireturn, 1) := by decide +kernel
theorem dX6_loadBoth_116 : decode cX6_loadBoth 116 = .ok (.iload_n 2, 1) := by decide +kernel
theorem dX6_loadBoth_117 : decode cX6_loadBoth 117 = .ok (.aload_n 0, 1) := by decide +kernel
theorem dX6_loadBoth_118 : decode cX6_loadBoth 118 = .ok (.getfield 57, 3) := by decide +kernel
theorem dX6_loadBoth_121 : decode cX6_loadBoth 121 = .ok (.iload_n 1, 1) := by decide +kernel
theorem dX6_loadBoth_122 : decode cX6_loadBoth 122 = .ok (.iaload, 1) := by decide +kernel
theorem dX6_loadBoth_123 : decode cX6_loadBoth 123 = .ok (.if_icmp .gt 15, 3) := by decide +kernel
theorem dX6_loadBoth_126 : decode cX6_loadBoth 126 = .ok (.iload 5, 2) := by decide +kernel
theorem dX6_loadBoth_128 : decode cX6_loadBoth 128 = .ok (.aload_n 0, 1) := by decide +kernel
theorem dX6_loadBoth_129 : decode cX6_loadBoth 129 = .ok (.getfield 57, 3) := by decide +kernel
theorem dX6_loadBoth_132 : decode cX6_loadBoth 132 = .ok (.iload 4, 2) := by decide +kernel
theorem dX6_loadBoth_134 : decode cX6_loadBoth 134 = .ok (.iaload, 1) := by decide +kernel
theorem dX6_loadBoth_135 : decode cX6_loadBoth 135 = .ok (.if_icmp .le 6, 3) := by decide +kernel
theorem dX6_loadBoth_138 : decode cX6_loadBoth 138 = .ok (.bipush (-2), 2) := by decide +kernel
theorem dX6_loadBoth_140 : decode cX6_loadBoth 140 = .ok (.ireturn, 1) := by decide +kernel
theorem dX6_loadBoth_141 : decode cX6_loadBoth 141 = .ok (.aload_n 0, 1) := by decide +kernel
theorem dX6_loadBoth_142 : decode cX6_loadBoth 142 = .ok (.iload_n 1, 1) := by decide +kernel
theorem dX6_loadBoth_143 : decode cX6_loadBoth 143 = .ok (.iload_n 2, 1) := by decide +kernel
theorem dX6_loadBoth_144 : decode cX6_loadBoth 144 = .ok (.invokevirtual 216, 3) := by decide +kernel
theorem dX6_loadBoth_147 : decode cX6_loadBoth 147 = .ok (.istore 7, 2) := by decide +kernel
theorem dX6_loadBoth_149 : decode cX6_loadBoth 149 = .ok (.iconst 0, 1) := by decide +kernel
theorem dX6_loadBoth_150 : decode cX6_loadBoth 150 = .ok (.istore 8, 2) := by decide +kernel
theorem dX6_loadBoth_152 : decode cX6_loadBoth 152 = .ok (.iload 8, 2) := by decide +kernel
theorem dX6_loadBoth_154 : decode cX6_loadBoth 154 = .ok (.iload_n 2, 1) := by decide +kernel
theorem dX6_loadBoth_155 : decode cX6_loadBoth 155 = .ok (.if_icmp .ge 29, 3) := by decide +kernel
theorem dX6_loadBoth_158 : decode cX6_loadBoth 158 = .ok (.iload 7, 2) := by decide +kernel
theorem dX6_loadBoth_160 : decode cX6_loadBoth 160 = .ok (.iconst 1, 1) := by decide +kernel
theorem dX6_loadBoth_161 : decode cX6_loadBoth 161 = .ok (.if_icmp .ne 23, 3) := by decide +kernel
theorem dX6_loadBoth_164 : decode cX6_loadBoth 164 = .ok (.aload_n 0, 1) := by decide +kernel
theorem dX6_loadBoth_165 : decode cX6_loadBoth 165 = .ok (.getfield 73, 3) := by decide +kernel
theorem dX6_loadBoth_168 : decode cX6_loadBoth 168 = .ok (.iload 8, 2) := by decide +kernel
theorem dX6_loadBoth_170 : decode cX6_loadBoth 170 = .ok (.aload_n 0, 1) := by decide +kernel
theorem dX6_loadBoth_171 : decode cX6_loadBoth 171 = .ok (.getfield 51, 3) := by decide +kernel
theorem dX6_loadBoth_174 : decode cX6_loadBoth 174 = .ok (.iload 8, 2) := by decide +kernel
theorem dX6_loadBoth_176 : decode cX6_loadBoth 176 = .ok (.iaload, 1) := by decide +kernel
theorem dX6_loadBoth_177 : decode cX6_loadBoth 177 = .ok (.iastore, 1) := by decide +kernel
theorem dX6_loadBoth_178 : decode cX6_loadBoth 178 = .ok (.iinc 8 1, 3) := by decide +kernel
theorem dX6_loadBoth_181 : decode cX6_loadBoth 181 = .ok (.goto (-29), 3) := by decide +kernel
theorem dX6_loadBoth_184 : decode cX6_loadBoth 184 = .ok (.iload 7, 2) := by decide +kernel
theorem dX6_loadBoth_186 : decode cX6_loadBoth 186 = .ok (.iconst 1, 1) := by decide +kernel
theorem dX6_loadBoth_187 : decode cX6_loadBoth 187 = .ok (.if_icmp .ne 14, 3) := by decide +kernel
theorem dX6_loadBoth_190 : decode cX6_loadBoth 190 = .ok (.aload_n 0, 1) := by decide +kernel
theorem dX6_loadBoth_191 : decode cX6_loadBoth 191 = .ok (.iload 4, 2) := by decide +kernel
theorem dX6_loadBoth_193 : decode cX6_loadBoth 193 = .ok (.iload 5, 2) := by decide +kernel
theorem dX6_loadBoth_195 : decode cX6_loadBoth 195 = .ok (.invokevirtual 216, 3) := by decide +kernel
theorem dX6_loadBoth_198 : decode cX6_loadBoth 198 = .ok (.goto 5, 3) := by decide +kernel
theorem dX6_loadBoth_201 : decode cX6_loadBoth 201 = .ok (.iload 7, 2) := by decide +kernel
theorem dX6_loadBoth_203 : decode cX6_loadBoth 203 = .ok (.ireturn, 1) := by decide +kernel
set_option maxRecDepth 20000 in
theorem pl_wsX6_met_wsX6_met_r1 : ∀ w ∈ wsX6_met_r1, w ∈ wsX6_met := fun _ h => List.mem_cons_of_mem _ (List.mem_append_left _ (List.mem_append_left _ (h)))
theorem pl_wsX6_met_wsX60 : ∀ w ∈ wsX60, w ∈ wsX6_met := fun _ h => List.mem_cons_of_mem _ (List.mem_append_right _ (h))
theorem ggX6_met_X6_cell : GoodIn wsX6_met wsX6_cell := goodIn_sub (List.forall_mem_cons.mpr ⟨(pl_wsX6_met_wsX6_met_r1 _ (List.mem_of_getElem? (i := 11) rfl)), (fun w h => (List.mem_append.mp h).elim ((List.forall_mem_cons.mpr ⟨(pl_wsX6_met_wsX6_met_r1 _ (List.mem_of_getElem? (i := 12) rfl)), fun _ h => absurd h List.not_mem_nil⟩) w) (pl_wsX6_met_wsX60 w))⟩) (by decide +kernel)
set_option maxRecDepth 20000 in
theorem gX6_met_X6_cell : GoodIn wsX6_met (wsV RX6 88 RX6 yX6_cell wsX6_cell) := goodIn_app (goodIn_sub (List.forall_mem_cons.mpr ⟨(pl_wsX6_met_wsX6_met_r1 _ (List.mem_of_getElem? (i := 7) rfl)), List.forall_mem_cons.mpr ⟨(pl_wsX6_met_wsX6_met_r1 _ (List.mem_of_getElem? (i := 8) rfl)), List.forall_mem_cons.mpr ⟨(pl_wsX6_met_wsX6_met_r1 _ (List.mem_of_getElem? (i := 9) rfl)), List.forall_mem_cons.mpr ⟨(pl_wsX6_met_wsX6_met_r1 _ (List.mem_of_getElem? (i := 10) rfl)), fun _ h => absurd h List.not_mem_nil⟩⟩⟩⟩) (by decide +kernel)) ggX6_met_X6_cell
set_option maxRecDepth 20000 in
theorem ggX6_met_X6_faces : GoodIn wsX6_met wsX6_faces := goodIn_sub (List.forall_mem_cons.mpr ⟨(pl_wsX6_met_wsX6_met_r1 _ (List.mem_of_getElem? (i := 16) rfl)), (fun w h => (List.mem_append.mp h).elim ((List.forall_mem_cons.mpr ⟨(pl_wsX6_met_wsX6_met_r1 _ (List.mem_of_getElem? (i := 12) rfl)), fun _ h => absurd h List.not_mem_nil⟩) w) (pl_wsX6_met_wsX60 w))⟩) (by decide +kernel)
set_option maxRecDepth 20000 in
theorem gX6_met_X6_faces : GoodIn wsX6_met (wsV RX6 192 RX6 yX6_faces wsX6_faces) := goodIn_app (goodIn_sub (List.forall_mem_cons.mpr ⟨(pl_wsX6_met_wsX6_met_r1 _ (List.mem_of_getElem? (i := 13) rfl)), List.forall_mem_cons.mpr ⟨(pl_wsX6_met_wsX6_met_r1 _ (List.mem_of_getElem? (i := 14) rfl)), List.forall_mem_cons.mpr ⟨(pl_wsX6_met_wsX6_met_r1 _ (List.mem_of_getElem? (i := 15) rfl)), List.forall_mem_cons.mpr ⟨(pl_wsX6_met_wsX6_met_r1 _ (List.mem_of_getElem? (i := 10) rfl)), fun _ h => absurd h List.not_mem_nil⟩⟩⟩⟩) (by decide +kernel)) ggX6_met_X6_faces
set_option maxRecDepth 20000 in
theorem ggX6_met_X6_start : GoodIn wsX6_met wsX6_start := goodIn_sub (List.forall_mem_cons.mpr ⟨(pl_wsX6_met_wsX6_met_r1 _ (List.mem_of_getElem? (i := 20) rfl)), (fun w h => (List.mem_append.mp h).elim ((List.forall_mem_cons.mpr ⟨(pl_wsX6_met_wsX6_met_r1 _ (List.mem_of_getElem? (i := 0) rfl)), List.forall_mem_cons.mpr ⟨(pl_wsX6_met_wsX6_met_r1 _ (List.mem_of_getElem? (i := 21) rfl)), List.forall_mem_cons.mpr ⟨(pl_wsX6_met_wsX6_met_r1 _ (List.mem_of_getElem? (i := 22) rfl)), List.forall_mem_cons.mpr ⟨(pl_wsX6_met_wsX6_met_r1 _ (List.mem_of_getElem? (i := 23) rfl)), fun _ h => absurd h List.not_mem_nil⟩⟩⟩⟩) w) (pl_wsX6_met_wsX60 w))⟩) (by decide +kernel)
set_option maxRecDepth 20000 in
theorem gX6_met_X6_start : GoodIn wsX6_met (wsV RX6 195 RX6 yX6_start wsX6_start) := goodIn_app (goodIn_sub (List.forall_mem_cons.mpr ⟨(pl_wsX6_met_wsX6_met_r1 _ (List.mem_of_getElem? (i := 17) rfl)), List.forall_mem_cons.mpr ⟨(pl_wsX6_met_wsX6_met_r1 _ (List.mem_of_getElem? (i := 18) rfl)), List.forall_mem_cons.mpr ⟨(pl_wsX6_met_wsX6_met_r1 _ (List.mem_of_getElem? (i := 19) rfl)), List.forall_mem_cons.mpr ⟨(pl_wsX6_met_wsX6_met_r1 _ (List.mem_of_getElem? (i := 10) rfl)), fun _ h => absurd h List.not_mem_nil⟩⟩⟩⟩) (by decide +kernel)) ggX6_met_X6_start
set_option maxRecDepth 20000 in
theorem pl_wsX6_met_wsX6_met_r2 : ∀ w ∈ wsX6_met_r2, w ∈ wsX6_met := fun _ h => List.mem_cons_of_mem _ (List.mem_append_left _ (List.mem_append_right _ (List.mem_append_left _ (h))))
theorem pl_wsX6_met_wsX6_met_r3 : ∀ w ∈ wsX6_met_r3, w ∈ wsX6_met := fun _ h => List.mem_cons_of_mem _ (List.mem_append_left _ (List.mem_append_right _ (List.mem_append_right _ (h))))
theorem ggX6_met_X6_step : GoodIn wsX6_met wsX6_step := goodIn_sub (List.forall_mem_cons.mpr ⟨(pl_wsX6_met_wsX6_met_r2 _ (List.mem_of_getElem? (i := 3) rfl)), (fun w h => (List.mem_append.mp h).elim ((fun w h => (List.mem_append.mp h).elim ((List.forall_mem_cons.mpr ⟨(pl_wsX6_met_wsX6_met_r1 _ (List.mem_of_getElem? (i := 23) rfl)), List.forall_mem_cons.mpr ⟨(pl_wsX6_met_wsX6_met_r1 _ (List.mem_of_getElem? (i := 0) rfl)), List.forall_mem_cons.mpr ⟨(pl_wsX6_met_wsX6_met_r1 _ (List.mem_of_getElem? (i := 21) rfl)), List.forall_mem_cons.mpr ⟨(pl_wsX6_met_wsX6_met_r2 _ (List.mem_of_getElem? (i := 4) rfl)), List.forall_mem_cons.mpr ⟨(pl_wsX6_met_wsX6_met_r1 _ (List.mem_of_getElem? (i := 22) rfl)), List.forall_mem_cons.mpr ⟨(pl_wsX6_met_wsX6_met_r2 _ (List.mem_of_getElem? (i := 5) rfl)), List.forall_mem_cons.mpr ⟨(pl_wsX6_met_wsX6_met_r2 _ (List.mem_of_getElem? (i := 6) rfl)), List.forall_mem_cons.mpr ⟨(pl_wsX6_met_wsX6_met_r2 _ (List.mem_of_getElem? (i := 7) rfl)), List.forall_mem_cons.mpr ⟨(pl_wsX6_met_wsX6_met_r2 _ (List.mem_of_getElem? (i := 8) rfl)), List.forall_mem_cons.mpr ⟨(pl_wsX6_met_wsX6_met_r2 _ (List.mem_of_getElem? (i := 9) rfl)), List.forall_mem_cons.mpr ⟨(pl_wsX6_met_wsX6_met_r1 _ (List.mem_of_getElem? (i := 10) rfl)), List.forall_mem_cons.mpr ⟨(pl_wsX6_met_wsX6_met_r2 _ (List.mem_of_getElem? (i := 10) rfl)), List.forall_mem_cons.mpr ⟨(pl_wsX6_met_wsX6_met_r1 _ (List.mem_of_getElem? (i := 12) rfl)), List.forall_mem_cons.mpr ⟨(pl_wsX6_met_wsX6_met_r2 _ (List.mem_of_getElem? (i := 11) rfl)), List.forall_mem_cons.mpr ⟨(pl_wsX6_met_wsX6_met_r2 _ (List.mem_of_getElem? (i := 12) rfl)), List.forall_mem_cons.mpr ⟨(pl_wsX6_met_wsX6_met_r2 _ (List.mem_of_getElem? (i := 13) rfl)), List.forall_mem_cons.mpr ⟨(pl_wsX6_met_wsX6_met_r2 _ (List.mem_of_getElem? (i := 14) rfl)), List.forall_mem_cons.mpr ⟨(pl_wsX6_met_wsX6_met_r2 _ (List.mem_of_getElem? (i := 15) rfl)), List.forall_mem_cons.mpr ⟨(pl_wsX6_met_wsX6_met_r2 _ (List.mem_of_getElem? (i := 16) rfl)), List.forall_mem_cons.mpr ⟨(pl_wsX6_met_wsX6_met_r2 _ (List.mem_of_getElem? (i := 17) rfl)), List.forall_mem_cons.mpr ⟨(pl_wsX6_met_wsX6_met_r2 _ (List.mem_of_getElem? (i := 18) rfl)), List.forall_mem_cons.mpr ⟨(pl_wsX6_met_wsX6_met_r2 _ (List.mem_of_getElem? (i := 19) rfl)), List.forall_mem_cons.mpr ⟨(pl_wsX6_met_wsX6_met_r2 _ (List.mem_of_getElem? (i := 20) rfl)), List.forall_mem_cons.mpr ⟨(pl_wsX6_met_wsX6_met_r2 _ (List.mem_of_getElem? (i := 21) rfl)), fun _ h => absurd h List.not_mem_nil⟩⟩⟩⟩⟩⟩⟩⟩⟩⟩⟩⟩⟩⟩⟩⟩⟩⟩⟩⟩⟩⟩⟩⟩) w) ((List.forall_mem_cons.mpr ⟨(pl_wsX6_met_wsX6_met_r2 _ (List.mem_of_getElem? (i := 22) rfl)), List.forall_mem_cons.mpr ⟨(pl_wsX6_met_wsX6_met_r2 _ (List.mem_of_getElem? (i := 23) rfl)), List.forall_mem_cons.mpr ⟨(pl_wsX6_met_wsX6_met_r3 _ (List.mem_of_getElem? (i := 0) rfl)), List.forall_mem_cons.mpr ⟨(pl_wsX6_met_wsX6_met_r3 _ (List.mem_of_getElem? (i := 1) rfl)), List.forall_mem_cons.mpr ⟨(pl_wsX6_met_wsX6_met_r3 _ (List.mem_of_getElem? (i := 2) rfl)), List.forall_mem_cons.mpr ⟨(pl_wsX6_met_wsX6_met_r3 _ (List.mem_of_getElem? (i := 3) rfl)), List.forall_mem_cons.mpr ⟨(pl_wsX6_met_wsX6_met_r3 _ (List.mem_of_getElem? (i := 4) rfl)), List.forall_mem_cons.mpr ⟨(pl_wsX6_met_wsX6_met_r3 _ (List.mem_of_getElem? (i := 5) rfl)), List.forall_mem_cons.mpr ⟨(pl_wsX6_met_wsX6_met_r3 _ (List.mem_of_getElem? (i := 6) rfl)), List.forall_mem_cons.mpr ⟨(pl_wsX6_met_wsX6_met_r3 _ (List.mem_of_getElem? (i := 7) rfl)), List.forall_mem_cons.mpr ⟨(pl_wsX6_met_wsX6_met_r3 _ (List.mem_of_getElem? (i := 8) rfl)), List.forall_mem_cons.mpr ⟨(pl_wsX6_met_wsX6_met_r3 _ (List.mem_of_getElem? (i := 9) rfl)), List.forall_mem_cons.mpr ⟨(pl_wsX6_met_wsX6_met_r3 _ (List.mem_of_getElem? (i := 10) rfl)), List.forall_mem_cons.mpr ⟨(pl_wsX6_met_wsX6_met_r3 _ (List.mem_of_getElem? (i := 11) rfl)), List.forall_mem_cons.mpr ⟨(pl_wsX6_met_wsX6_met_r3 _ (List.mem_of_getElem? (i := 12) rfl)), fun _ h => absurd h List.not_mem_nil⟩⟩⟩⟩⟩⟩⟩⟩⟩⟩⟩⟩⟩⟩⟩) w)) w) (pl_wsX6_met_wsX60 w))⟩) (by decide +kernel)
set_option maxRecDepth 20000 in
theorem gX6_met_X6_step : GoodIn wsX6_met (wsV RX6 199 RX6 yX6_step wsX6_step) := goodIn_app (goodIn_sub (List.forall_mem_cons.mpr ⟨(pl_wsX6_met_wsX6_met_r2 _ (List.mem_of_getElem? (i := 0) rfl)), List.forall_mem_cons.mpr ⟨(pl_wsX6_met_wsX6_met_r2 _ (List.mem_of_getElem? (i := 1) rfl)), List.forall_mem_cons.mpr ⟨(pl_wsX6_met_wsX6_met_r2 _ (List.mem_of_getElem? (i := 2) rfl)), List.forall_mem_cons.mpr ⟨(pl_wsX6_met_wsX6_met_r1 _ (List.mem_of_getElem? (i := 10) rfl)), fun _ h => absurd h List.not_mem_nil⟩⟩⟩⟩) (by decide +kernel)) ggX6_met_X6_step
set_option maxRecDepth 20000 in
theorem ggX6_met_X6_isIn : GoodIn wsX6_met wsX6_isIn := goodIn_sub (List.forall_mem_cons.mpr ⟨(pl_wsX6_met_wsX6_met_r2 _ (List.mem_of_getElem? (i := 13) rfl)), (fun _ h => absurd h List.not_mem_nil)⟩) (by decide +kernel)
set_option maxRecDepth 20000 in
theorem gX6_met_X6_isIn : GoodIn wsX6_met (va_wsS RX6 76 yX6_isIn wsX6_isIn) := goodIn_app (goodIn_sub (List.forall_mem_cons.mpr ⟨(pl_wsX6_met_wsX6_met_r2 _ (List.mem_of_getElem? (i := 11) rfl)), List.forall_mem_cons.mpr ⟨(pl_wsX6_met_wsX6_met_r2 _ (List.mem_of_getElem? (i := 12) rfl)), List.forall_mem_cons.mpr ⟨(pl_wsX6_met_wsX6_met_r1 _ (List.mem_of_getElem? (i := 10) rfl)), fun _ h => absurd h List.not_mem_nil⟩⟩⟩) (by decide +kernel)) ggX6_met_X6_isIn
theorem dX6_met_0 : decode cX6_met 0 = .ok (.aload_n 0, 1) := by decide +kernel
theorem dX6_met_1 : decode cX6_met 1 = .ok (.iconst 0, 1) := by decide +kernel
theorem dX6_met_2 : decode cX6_met 2 = .ok (.aload_n 0, 1) := by decide +kernel
theorem dX6_met_3 : decode cX6_met 3 = .ok (.iload_n 2, 1) := by decide +kernel
theorem dX6_met_4 : decode cX6_met 4 = .ok (.invokevirtual 88, 3) := by decide +kernel
theorem dX6_met_7 : decode cX6_met 7 = .ok (.aload_n 0, 1) := by decide +kernel
theorem dX6_met_8 : decode cX6_met 8 = .ok (.iload_n 2, 1) := by decide +kernel
theorem dX6_met_9 : decode cX6_met 9 = .ok (.invokevirtual 192, 3) := by decide +kernel
theorem dX6_met_12 : decode cX6_met 12 = .ok (.invokevirtual 195, 3) := by decide +kernel
theorem dX6_met_15 : decode cX6_met 15 = .ok (.aload_n 0, 1) := by decide +kernel
theorem dX6_met_16 : decode cX6_met 16 = .ok (.iconst 1, 1) := by decide +kernel
theorem dX6_met_17 : decode cX6_met 17 = .ok (.aload_n 0, 1) := by decide +kernel
theorem dX6_met_18 : decode cX6_met 18 = .ok (.iload 4, 2) := by decide +kernel
theorem dX6_met_20 : decode cX6_met 20 = .ok (.invokevirtual 88, 3) := by decide +kernel
theorem dX6_met_23 : decode cX6_met 23 = .ok (.aload_n 0, 1) := by decide +kernel
theorem dX6_met_24 : decode cX6_met 24 = .ok (.iload 4, 2) := by decide +kernel
theorem dX6_met_26 : decode cX6_met 26 = .ok (.invokevirtual 192, 3) := by decide +kernel
theorem dX6_met_29 : decode cX6_met 29 = .ok (.invokevirtual 195, 3) := by decide +kernel
theorem dX6_met_32 : decode cX6_met 32 = .ok (.aload_n 0, 1) := by decide +kernel
theorem dX6_met_33 : decode cX6_met 33 = .ok (.getfield 33, 3) := by decide +kernel
theorem dX6_met_36 : decode cX6_met 36 = .ok (.iconst 0, 1) := by decide +kernel
theorem dX6_met_37 : decode cX6_met 37 = .ok (.iaload, 1) := by decide +kernel
theorem dX6_met_38 : decode cX6_met 38 = .ok (.aload_n 0, 1) := by decide +kernel
theorem dX6_met_39 : decode cX6_met 39 = .ok (.getfield 33, 3) := by decide +kernel
theorem dX6_met_42 : decode cX6_met 42 = .ok (.iconst 1, 1) := by decide +kernel
theorem dX6_met_43 : decode cX6_met 43 = .ok (.iaload, 1) := by decide +kernel
theorem dX6_met_44 : decode cX6_met 44 = .ok (.if_icmp .ne 5, 3) := by decide +kernel
theorem dX6_met_47 : decode cX6_met 47 = .ok (.iconst 0, 1) := by decide +kernel
theorem dX6_met_48 : decode cX6_met 48 = .ok (.ireturn, 1) := by decide +kernel
theorem dX6_met_49 : decode cX6_met 49 = .ok (.iconst 0, 1) := by decide +kernel
theorem dX6_met_50 : decode cX6_met 50 = .ok (.istore 6, 2) := by decide +kernel
theorem dX6_met_52 : decode cX6_met 52 = .ok (.iload 6, 2) := by decide +kernel
theorem dX6_met_54 : decode cX6_met 54 = .ok (.iload_n 1, 1) := by decide +kernel
theorem dX6_met_55 : decode cX6_met 55 = .ok (.iload_n 3, 1) := by decide +kernel
theorem dX6_met_56 : decode cX6_met 56 = .ok (.iload 5, 2) := by decide +kernel
theorem dX6_met_58 : decode cX6_met 58 = .ok (.iadd, 1) := by decide +kernel
theorem dX6_met_59 : decode cX6_met 59 = .ok (.invokestatic 260, 3) := by decide +kernel
theorem dX6_met_62 : decode cX6_met 62 = .ok (.if_icmp .ge 134, 3) := by decide +kernel
theorem dX6_met_65 : decode cX6_met 65 = .ok (.aload_n 0, 1) := by decide +kernel
theorem dX6_met_66 : decode cX6_met 66 = .ok (.getfield 33, 3) := by decide +kernel
theorem dX6_met_69 : decode cX6_met 69 = .ok (.iconst 0, 1) := by decide +kernel
theorem dX6_met_70 : decode cX6_met 70 = .ok (.iaload, 1) := by decide +kernel
theorem dX6_met_71 : decode cX6_met 71 = .ok (.istore 7, 2) := by decide +kernel
theorem dX6_met_73 : decode cX6_met 73 = .ok (.aload_n 0, 1) := by decide +kernel
theorem dX6_met_74 : decode cX6_met 74 = .ok (.getfield 33, 3) := by decide +kernel
theorem dX6_met_77 : decode cX6_met 77 = .ok (.iconst 1, 1) := by decide +kernel
theorem dX6_met_78 : decode cX6_met 78 = .ok (.iaload, 1) := by decide +kernel
theorem dX6_met_79 : decode cX6_met 79 = .ok (.istore 8, 2) := by decide +kernel
theorem dX6_met_81 : decode cX6_met 81 = .ok (.aload_n 0, 1) := by decide +kernel
theorem dX6_met_82 : decode cX6_met 82 = .ok (.iconst 0, 1) := by decide +kernel
theorem dX6_met_83 : decode cX6_met 83 = .ok (.iload_n 2, 1) := by decide +kernel
theorem dX6_met_84 : decode cX6_met 84 = .ok (.iload 6, 2) := by decide +kernel
theorem dX6_met_86 : decode cX6_met 86 = .ok (.iload_n 1, 1) := by decide +kernel
theorem dX6_met_87 : decode cX6_met 87 = .ok (.if_icmp .ge 13, 3) := by decide +kernel
theorem dX6_met_90 : decode cX6_met 90 = .ok (.aload_n 0, 1) := by decide +kernel
theorem dX6_met_91 : decode cX6_met 91 = .ok (.getfield 73, 3) := by decide +kernel
theorem dX6_met_94 : decode cX6_met 94 = .ok (.iload 6, 2) := by decide +kernel
theorem dX6_met_96 : decode cX6_met 96 = .ok (.iaload, 1) := by decide +kernel
theorem dX6_met_97 : decode cX6_met 97 = .ok (.goto 4, 3) := by decide +kernel
theorem dX6_met_100 : decode cX6_met 100 = .ok (.iconst 3, 1) := by decide +kernel
theorem dX6_met_101 : decode cX6_met 101 = .ok (.iload 6, 2) := by decide +kernel
theorem dX6_met_103 : decode cX6_met 103 = .ok (.invokevirtual 199, 3) := by decide +kernel
theorem dX6_met_106 : decode cX6_met 106 = .ok (.aload_n 0, 1) := by decide +kernel
theorem dX6_met_107 : decode cX6_met 107 = .ok (.iconst 1, 1) := by decide +kernel
theorem dX6_met_108 : decode cX6_met 108 = .ok (.iload 4, 2) := by decide +kernel
theorem dX6_met_110 : decode cX6_met 110 = .ok (.iload 6, 2) := by decide +kernel
theorem dX6_met_112 : decode cX6_met 112 = .ok (.i2l, 1) := by decide +kernel
theorem dX6_met_113 : decode cX6_met 113 = .ok (.iload 5, 2) := by decide +kernel
theorem dX6_met_115 : decode cX6_met 115 = .ok (.i2l, 1) := by decide +kernel
theorem dX6_met_116 : decode cX6_met 116 = .ok (.iload_n 3, 1) := by decide +kernel
theorem dX6_met_117 : decode cX6_met 117 = .ok (.iload 5, 2) := by decide +kernel
theorem dX6_met_119 : decode cX6_met 119 = .ok (.iadd, 1) := by decide +kernel
theorem dX6_met_120 : decode cX6_met 120 = .ok (.iconst 1, 1) := by decide +kernel
theorem dX6_met_121 : decode cX6_met 121 = .ok (.isub, 1) := by decide +kernel
theorem dX6_met_122 : decode cX6_met 122 = .ok (.i2l, 1) := by decide +kernel
theorem dX6_met_123 : decode cX6_met 123 = .ok (.invokestatic 76, 3) := by decide +kernel
theorem dX6_met_126 : decode cX6_met 126 = .ok (.ifCond .eq 16, 3) := by decide +kernel
theorem dX6_met_129 : decode cX6_met 129 = .ok (.aload_n 0, 1) := by decide +kernel
theorem dX6_met_130 : decode cX6_met 130 = .ok (.getfield 51, 3) := by decide +kernel
theorem dX6_met_133 : decode cX6_met 133 = .ok (.iload 6, 2) := by decide +kernel
theorem dX6_met_135 : decode cX6_met 135 = .ok (.iload 5, 2) := by decide +kernel
theorem dX6_met_137 : decode cX6_met 137 = .ok (.isub, 1) := by decide +kernel
theorem dX6_met_138 : decode cX6_met 138 = .ok (.iaload, 1) := by decide +kernel
theorem dX6_met_139 : decode cX6_met 139 = .ok (.goto 4, 3) := by decide +kernel
theorem dX6_met_142 : decode cX6_met 142 = .ok (.iconst 3, 1) := by decide +kernel
theorem dX6_met_143 : decode cX6_met 143 = .ok (.iload 6, 2) := by decide +kernel
theorem dX6_met_145 : decode cX6_met 145 = .ok (.invokevirtual 199, 3) := by decide +kernel
theorem dX6_met_148 : decode cX6_met 148 = .ok (.aload_n 0, 1) := by decide +kernel
theorem dX6_met_149 : decode cX6_met 149 = .ok (.getfield 33, 3) := by decide +kernel
theorem dX6_met_152 : decode cX6_met 152 = .ok (.iconst 0, 1) := by decide +kernel
theorem dX6_met_153 : decode cX6_met 153 = .ok (.iaload, 1) := by decide +kernel
theorem dX6_met_154 : decode cX6_met 154 = .ok (.aload_n 0, 1) := by decide +kernel
theorem dX6_met_155 : decode cX6_met 155 = .ok (.getfield 33, 3) := by decide +kernel
theorem dX6_met_158 : decode cX6_met 158 = .ok (.iconst 1, 1) := by decide +kernel
theorem dX6_met_159 : decode cX6_met 159 = .ok (.iaload, 1) := by decide +kernel
theorem dX6_met_160 : decode cX6_met 160 = .ok (.if_icmp .eq 25, 3) := by decide +kernel
theorem dX6_met_163 : decode cX6_met 163 = .ok (.aload_n 0, 1) := by decide +kernel
theorem dX6_met_164 : decode cX6_met 164 = .ok (.getfield 33, 3) := by decide +kernel
theorem dX6_met_167 : decode cX6_met 167 = .ok (.iconst 0, 1) := by decide +kernel
theorem dX6_met_168 : decode cX6_met 168 = .ok (.iaload, 1) := by decide +kernel
theorem dX6_met_169 : decode cX6_met 169 = .ok (.iload 8, 2) := by decide +kernel
theorem dX6_met_171 : decode cX6_met 171 = .ok (.if_icmp .ne 19, 3) := by decide +kernel
theorem dX6_met_174 : decode cX6_met 174 = .ok (.aload_n 0, 1) := by decide +kernel
theorem dX6_met_175 : decode cX6_met 175 = .ok (.getfield 33, 3) := by decide +kernel
theorem dX6_met_178 : decode cX6_met 178 = .ok (.iconst 1, 1) := by decide +kernel
theorem dX6_met_179 : decode cX6_met 179 = .ok (.iaload, 1) := by decide +kernel
theorem dX6_met_180 : decode cX6_met 180 = .ok (.iload 7, 2) := by decide +kernel
theorem dX6_met_182 : decode cX6_met 182 = .ok (.if_icmp .ne 8, 3) := by decide +kernel
theorem dX6_met_185 : decode cX6_met 185 = .ok (.iload 6, 2) := by decide +kernel
theorem dX6_met_187 : decode cX6_met 187 = .ok (.iconst 1, 1) := by decide +kernel
theorem dX6_met_188 : decode cX6_met 188 = .ok (.iadd, 1) := by decide +kernel
theorem dX6_met_189 : decode cX6_met 189 = .ok (.ireturn, 1) := by decide +kernel
theorem dX6_met_190 : decode cX6_met 190 = .ok (.iinc 6 1, 3) := by decide +kernel
theorem dX6_met_193 : decode cX6_met 193 = .ok (.goto (-141), 3) := by decide +kernel
theorem dX6_met_196 : decode cX6_met 196 = .ok (.iconst (-1), 1) := by decide +kernel
theorem dX6_met_197 : decode cX6_met 197 = .ok (.ireturn, 1) := by decide +kernel
set_option maxRecDepth 20000 in
theorem pl_wsX6_meet_wsX6_meet_r1 : ∀ w ∈ wsX6_meet_r1, w ∈ wsX6_meet := fun _ h => List.mem_cons_of_mem _ (List.mem_append_left _ (List.mem_append_left _ (h)))
theorem pl_wsX6_meet_wsX6_meet_r2 : ∀ w ∈ wsX6_meet_r2, w ∈ wsX6_meet := fun _ h => List.mem_cons_of_mem _ (List.mem_append_left _ (List.mem_append_right _ (List.mem_append_left _ (h))))
theorem pl_wsX6_meet_wsX60 : ∀ w ∈ wsX60, w ∈ wsX6_meet := fun _ h => List.mem_cons_of_mem _ (List.mem_append_right _ (h))
theorem ggX6_meet_X6_loadBoth : GoodIn wsX6_meet wsX6_loadBoth := goodIn_sub (List.forall_mem_cons.mpr ⟨(pl_wsX6_meet_wsX6_meet_r1 _ (List.mem_of_getElem? (i := 4) rfl)), (fun w h => (List.mem_append.mp h).elim ((fun w h => (List.mem_append.mp h).elim ((List.forall_mem_cons.mpr ⟨(pl_wsX6_meet_wsX6_meet_r1 _ (List.mem_of_getElem? (i := 5) rfl)), List.forall_mem_cons.mpr ⟨(pl_wsX6_meet_wsX6_meet_r1 _ (List.mem_of_getElem? (i := 6) rfl)), List.forall_mem_cons.mpr ⟨(pl_wsX6_meet_wsX6_meet_r1 _ (List.mem_of_getElem? (i := 7) rfl)), List.forall_mem_cons.mpr ⟨(pl_wsX6_meet_wsX6_meet_r1 _ (List.mem_of_getElem? (i := 8) rfl)), List.forall_mem_cons.mpr ⟨(pl_wsX6_meet_wsX6_meet_r1 _ (List.mem_of_getElem? (i := 9) rfl)), List.forall_mem_cons.mpr ⟨(pl_wsX6_meet_wsX6_meet_r1 _ (List.mem_of_getElem? (i := 10) rfl)), List.forall_mem_cons.mpr ⟨(pl_wsX6_meet_wsX6_meet_r1 _ (List.mem_of_getElem? (i := 11) rfl)), List.forall_mem_cons.mpr ⟨(pl_wsX6_meet_wsX6_meet_r1 _ (List.mem_of_getElem? (i := 3) rfl)), List.forall_mem_cons.mpr ⟨(pl_wsX6_meet_wsX6_meet_r1 _ (List.mem_of_getElem? (i := 12) rfl)), List.forall_mem_cons.mpr ⟨(pl_wsX6_meet_wsX6_meet_r1 _ (List.mem_of_getElem? (i := 13) rfl)), List.forall_mem_cons.mpr ⟨(pl_wsX6_meet_wsX6_meet_r1 _ (List.mem_of_getElem? (i := 14) rfl)), List.forall_mem_cons.mpr ⟨(pl_wsX6_meet_wsX6_meet_r1 _ (List.mem_of_getElem? (i := 15) rfl)), List.forall_mem_cons.mpr ⟨(pl_wsX6_meet_wsX6_meet_r1 _ (List.mem_of_getElem? (i := 16) rfl)), List.forall_mem_cons.mpr ⟨(pl_wsX6_meet_wsX6_meet_r1 _ (List.mem_of_getElem? (i := 17) rfl)), List.forall_mem_cons.mpr ⟨(pl_wsX6_meet_wsX6_meet_r1 _ (List.mem_of_getElem? (i := 18) rfl)), List.forall_mem_cons.mpr ⟨(pl_wsX6_meet_wsX6_meet_r1 _ (List.mem_of_getElem? (i := 19) rfl)), List.forall_mem_cons.mpr ⟨(pl_wsX6_meet_wsX6_meet_r1 _ (List.mem_of_getElem? (i := 20) rfl)), List.forall_mem_cons.mpr ⟨(pl_wsX6_meet_wsX6_meet_r1 _ (List.mem_of_getElem? (i := 21) rfl)), List.forall_mem_cons.mpr ⟨(pl_wsX6_meet_wsX6_meet_r1 _ (List.mem_of_getElem? (i := 22) rfl)), List.forall_mem_cons.mpr ⟨(pl_wsX6_meet_wsX6_meet_r1 _ (List.mem_of_getElem? (i := 23) rfl)), List.forall_mem_cons.mpr ⟨(pl_wsX6_meet_wsX6_meet_r2 _ (List.mem_of_getElem? (i := 0) rfl)), List.forall_mem_cons.mpr ⟨(pl_wsX6_meet_wsX6_meet_r2 _ (List.mem_of_getElem? (i := 1) rfl)), List.forall_mem_cons.mpr ⟨(pl_wsX6_meet_wsX6_meet_r2 _ (List.mem_of_getElem? (i := 2) rfl)), List.forall_mem_cons.mpr ⟨(pl_wsX6_meet_wsX6_meet_r2 _ (List.mem_of_getElem? (i := 3) rfl)), fun _ h => absurd h List.not_mem_nil⟩⟩⟩⟩⟩⟩⟩⟩⟩⟩⟩⟩⟩⟩⟩⟩⟩⟩⟩⟩⟩⟩⟩⟩) w) ((List.forall_mem_cons.mpr ⟨(pl_wsX6_meet_wsX6_meet_r2 _ (List.mem_of_getElem? (i := 4) rfl)), List.forall_mem_cons.mpr ⟨(pl_wsX6_meet_wsX6_meet_r2 _ (List.mem_of_getElem? (i := 5) rfl)), List.forall_mem_cons.mpr ⟨(pl_wsX6_meet_wsX6_meet_r2 _ (List.mem_of_getElem? (i := 6) rfl)), List.forall_mem_cons.mpr ⟨(pl_wsX6_meet_wsX6_meet_r2 _ (List.mem_of_getElem? (i := 7) rfl)), fun _ h => absurd h List.not_mem_nil⟩⟩⟩⟩) w)) w) (pl_wsX6_meet_wsX60 w))⟩) (by decide +kernel)
set_option maxRecDepth 20000 in
theorem gX6_meet_X6_loadBoth : GoodIn wsX6_meet (wsV RX6 265 RX6 yX6_loadBoth wsX6_loadBoth) := goodIn_app (goodIn_sub (List.forall_mem_cons.mpr ⟨(pl_wsX6_meet_wsX6_meet_r1 _ (List.mem_of_getElem? (i := 0) rfl)), List.forall_mem_cons.mpr ⟨(pl_wsX6_meet_wsX6_meet_r1 _ (List.mem_of_getElem? (i := 1) rfl)), List.forall_mem_cons.mpr ⟨(pl_wsX6_meet_wsX6_meet_r1 _ (List.mem_of_getElem? (i := 2) rfl)), List.forall_mem_cons.mpr ⟨(pl_wsX6_meet_wsX6_meet_r1 _ (List.mem_of_getElem? (i := 3) rfl)), fun _ h => absurd h List.not_mem_nil⟩⟩⟩⟩) (by decide +kernel)) ggX6_meet_X6_loadBoth
set_option maxRecDepth 20000 in
theorem ggX6_meet_X6_refuse : GoodIn wsX6_meet wsX6_refuse := goodIn_sub (List.forall_mem_cons.mpr ⟨(pl_wsX6_meet_wsX6_meet_r2 _ (List.mem_of_getElem? (i := 11) rfl)), (fun w h => (List.mem_append.mp h).elim ((List.forall_mem_cons.mpr ⟨(pl_wsX6_meet_wsX6_meet_r2 _ (List.mem_of_getElem? (i := 12) rfl)), fun _ h => absurd h List.not_mem_nil⟩) w) (pl_wsX6_meet_wsX60 w))⟩) (by decide +kernel)
set_option maxRecDepth 20000 in
theorem gX6_meet_X6_refuse : GoodIn wsX6_meet (wsV RX6 101 RX6 yX6_refuse wsX6_refuse) := goodIn_app (goodIn_sub (List.forall_mem_cons.mpr ⟨(pl_wsX6_meet_wsX6_meet_r2 _ (List.mem_of_getElem? (i := 8) rfl)), List.forall_mem_cons.mpr ⟨(pl_wsX6_meet_wsX6_meet_r2 _ (List.mem_of_getElem? (i := 9) rfl)), List.forall_mem_cons.mpr ⟨(pl_wsX6_meet_wsX6_meet_r2 _ (List.mem_of_getElem? (i := 10) rfl)), List.forall_mem_cons.mpr ⟨(pl_wsX6_meet_wsX6_meet_r1 _ (List.mem_of_getElem? (i := 3) rfl)), fun _ h => absurd h List.not_mem_nil⟩⟩⟩⟩) (by decide +kernel)) ggX6_meet_X6_refuse
set_option maxRecDepth 20000 in
theorem pl_wsX6_meet_wsX6_meet_r3 : ∀ w ∈ wsX6_meet_r3, w ∈ wsX6_meet := fun _ h => List.mem_cons_of_mem _ (List.mem_append_left _ (List.mem_append_right _ (List.mem_append_right _ (List.mem_append_left _ (h)))))
theorem pl_wsX6_meet_wsX6_meet_r4 : ∀ w ∈ wsX6_meet_r4, w ∈ wsX6_meet := fun _ h => List.mem_cons_of_mem _ (List.mem_append_left _ (List.mem_append_right _ (List.mem_append_right _ (List.mem_append_right _ (h)))))
theorem ggX6_meet_X6_met : GoodIn wsX6_meet wsX6_met := goodIn_sub (List.forall_mem_cons.mpr ⟨(pl_wsX6_meet_wsX6_meet_r2 _ (List.mem_of_getElem? (i := 16) rfl)), (fun w h => (List.mem_append.mp h).elim ((fun w h => (List.mem_append.mp h).elim ((List.forall_mem_cons.mpr ⟨(pl_wsX6_meet_wsX6_meet_r2 _ (List.mem_of_getElem? (i := 17) rfl)), List.forall_mem_cons.mpr ⟨(pl_wsX6_meet_wsX6_meet_r2 _ (List.mem_of_getElem? (i := 18) rfl)), List.forall_mem_cons.mpr ⟨(pl_wsX6_meet_wsX6_meet_r2 _ (List.mem_of_getElem? (i := 19) rfl)), List.forall_mem_cons.mpr ⟨(pl_wsX6_meet_wsX6_meet_r2 _ (List.mem_of_getElem? (i := 20) rfl)), List.forall_mem_cons.mpr ⟨(pl_wsX6_meet_wsX6_meet_r2 _ (List.mem_of_getElem? (i := 21) rfl)), List.forall_mem_cons.mpr ⟨(pl_wsX6_meet_wsX6_meet_r1 _ (List.mem_of_getElem? (i := 8) rfl)), List.forall_mem_cons.mpr ⟨(pl_wsX6_meet_wsX6_meet_r1 _ (List.mem_of_getElem? (i := 9) rfl)), List.forall_mem_cons.mpr ⟨(pl_wsX6_meet_wsX6_meet_r2 _ (List.mem_of_getElem? (i := 22) rfl)), List.forall_mem_cons.mpr ⟨(pl_wsX6_meet_wsX6_meet_r2 _ (List.mem_of_getElem? (i := 23) rfl)), List.forall_mem_cons.mpr ⟨(pl_wsX6_meet_wsX6_meet_r3 _ (List.mem_of_getElem? (i := 0) rfl)), List.forall_mem_cons.mpr ⟨(pl_wsX6_meet_wsX6_meet_r1 _ (List.mem_of_getElem? (i := 3) rfl)), List.forall_mem_cons.mpr ⟨(pl_wsX6_meet_wsX6_meet_r3 _ (List.mem_of_getElem? (i := 1) rfl)), List.forall_mem_cons.mpr ⟨(pl_wsX6_meet_wsX6_meet_r1 _ (List.mem_of_getElem? (i := 21) rfl)), List.forall_mem_cons.mpr ⟨(pl_wsX6_meet_wsX6_meet_r3 _ (List.mem_of_getElem? (i := 2) rfl)), List.forall_mem_cons.mpr ⟨(pl_wsX6_meet_wsX6_meet_r3 _ (List.mem_of_getElem? (i := 3) rfl)), List.forall_mem_cons.mpr ⟨(pl_wsX6_meet_wsX6_meet_r3 _ (List.mem_of_getElem? (i := 4) rfl)), List.forall_mem_cons.mpr ⟨(pl_wsX6_meet_wsX6_meet_r3 _ (List.mem_of_getElem? (i := 5) rfl)), List.forall_mem_cons.mpr ⟨(pl_wsX6_meet_wsX6_meet_r3 _ (List.mem_of_getElem? (i := 6) rfl)), List.forall_mem_cons.mpr ⟨(pl_wsX6_meet_wsX6_meet_r3 _ (List.mem_of_getElem? (i := 7) rfl)), List.forall_mem_cons.mpr ⟨(pl_wsX6_meet_wsX6_meet_r3 _ (List.mem_of_getElem? (i := 8) rfl)), List.forall_mem_cons.mpr ⟨(pl_wsX6_meet_wsX6_meet_r3 _ (List.mem_of_getElem? (i := 9) rfl)), List.forall_mem_cons.mpr ⟨(pl_wsX6_meet_wsX6_meet_r3 _ (List.mem_of_getElem? (i := 10) rfl)), List.forall_mem_cons.mpr ⟨(pl_wsX6_meet_wsX6_meet_r3 _ (List.mem_of_getElem? (i := 11) rfl)), List.forall_mem_cons.mpr ⟨(pl_wsX6_meet_wsX6_meet_r3 _ (List.mem_of_getElem? (i := 12) rfl)), fun _ h => absurd h List.not_mem_nil⟩⟩⟩⟩⟩⟩⟩⟩⟩⟩⟩⟩⟩⟩⟩⟩⟩⟩⟩⟩⟩⟩⟩⟩) w) ((fun w h => (List.mem_append.mp h).elim ((List.forall_mem_cons.mpr ⟨(pl_wsX6_meet_wsX6_meet_r3 _ (List.mem_of_getElem? (i := 13) rfl)), List.forall_mem_cons.mpr ⟨(pl_wsX6_meet_wsX6_meet_r3 _ (List.mem_of_getElem? (i := 14) rfl)), List.forall_mem_cons.mpr ⟨(pl_wsX6_meet_wsX6_meet_r3 _ (List.mem_of_getElem? (i := 15) rfl)), List.forall_mem_cons.mpr ⟨(pl_wsX6_meet_wsX6_meet_r3 _ (List.mem_of_getElem? (i := 16) rfl)), List.forall_mem_cons.mpr ⟨(pl_wsX6_meet_wsX6_meet_r3 _ (List.mem_of_getElem? (i := 17) rfl)), List.forall_mem_cons.mpr ⟨(pl_wsX6_meet_wsX6_meet_r3 _ (List.mem_of_getElem? (i := 18) rfl)), List.forall_mem_cons.mpr ⟨(pl_wsX6_meet_wsX6_meet_r3 _ (List.mem_of_getElem? (i := 19) rfl)), List.forall_mem_cons.mpr ⟨(pl_wsX6_meet_wsX6_meet_r3 _ (List.mem_of_getElem? (i := 20) rfl)), List.forall_mem_cons.mpr ⟨(pl_wsX6_meet_wsX6_meet_r3 _ (List.mem_of_getElem? (i := 21) rfl)), List.forall_mem_cons.mpr ⟨(pl_wsX6_meet_wsX6_meet_r3 _ (List.mem_of_getElem? (i := 22) rfl)), List.forall_mem_cons.mpr ⟨(pl_wsX6_meet_wsX6_meet_r3 _ (List.mem_of_getElem? (i := 23) rfl)), List.forall_mem_cons.mpr ⟨(pl_wsX6_meet_wsX6_meet_r1 _ (List.mem_of_getElem? (i := 14) rfl)), List.forall_mem_cons.mpr ⟨(pl_wsX6_meet_wsX6_meet_r1 _ (List.mem_of_getElem? (i := 15) rfl)), List.forall_mem_cons.mpr ⟨(pl_wsX6_meet_wsX6_meet_r1 _ (List.mem_of_getElem? (i := 16) rfl)), List.forall_mem_cons.mpr ⟨(pl_wsX6_meet_wsX6_meet_r4 _ (List.mem_of_getElem? (i := 0) rfl)), List.forall_mem_cons.mpr ⟨(pl_wsX6_meet_wsX6_meet_r4 _ (List.mem_of_getElem? (i := 1) rfl)), List.forall_mem_cons.mpr ⟨(pl_wsX6_meet_wsX6_meet_r4 _ (List.mem_of_getElem? (i := 2) rfl)), List.forall_mem_cons.mpr ⟨(pl_wsX6_meet_wsX6_meet_r4 _ (List.mem_of_getElem? (i := 3) rfl)), List.forall_mem_cons.mpr ⟨(pl_wsX6_meet_wsX6_meet_r4 _ (List.mem_of_getElem? (i := 4) rfl)), List.forall_mem_cons.mpr ⟨(pl_wsX6_meet_wsX6_meet_r4 _ (List.mem_of_getElem? (i := 5) rfl)), List.forall_mem_cons.mpr ⟨(pl_wsX6_meet_wsX6_meet_r4 _ (List.mem_of_getElem? (i := 6) rfl)), List.forall_mem_cons.mpr ⟨(pl_wsX6_meet_wsX6_meet_r4 _ (List.mem_of_getElem? (i := 7) rfl)), List.forall_mem_cons.mpr ⟨(pl_wsX6_meet_wsX6_meet_r4 _ (List.mem_of_getElem? (i := 8) rfl)), List.forall_mem_cons.mpr ⟨(pl_wsX6_meet_wsX6_meet_r4 _ (List.mem_of_getElem? (i := 9) rfl)), fun _ h => absurd h List.not_mem_nil⟩⟩⟩⟩⟩⟩⟩⟩⟩⟩⟩⟩⟩⟩⟩⟩⟩⟩⟩⟩⟩⟩⟩⟩) w) ((List.forall_mem_cons.mpr ⟨(pl_wsX6_meet_wsX6_meet_r4 _ (List.mem_of_getElem? (i := 10) rfl)), List.forall_mem_cons.mpr ⟨(pl_wsX6_meet_wsX6_meet_r4 _ (List.mem_of_getElem? (i := 11) rfl)), List.forall_mem_cons.mpr ⟨(pl_wsX6_meet_wsX6_meet_r4 _ (List.mem_of_getElem? (i := 12) rfl)), List.forall_mem_cons.mpr ⟨(pl_wsX6_meet_wsX6_meet_r4 _ (List.mem_of_getElem? (i := 13) rfl)), List.forall_mem_cons.mpr ⟨(pl_wsX6_meet_wsX6_meet_r4 _ (List.mem_of_getElem? (i := 14) rfl)), List.forall_mem_cons.mpr ⟨(pl_wsX6_meet_wsX6_meet_r4 _ (List.mem_of_getElem? (i := 15) rfl)), List.forall_mem_cons.mpr ⟨(pl_wsX6_meet_wsX6_meet_r4 _ (List.mem_of_getElem? (i := 16) rfl)), List.forall_mem_cons.mpr ⟨(pl_wsX6_meet_wsX6_meet_r4 _ (List.mem_of_getElem? (i := 17) rfl)), List.forall_mem_cons.mpr ⟨(pl_wsX6_meet_wsX6_meet_r4 _ (List.mem_of_getElem? (i := 18) rfl)), List.forall_mem_cons.mpr ⟨(pl_wsX6_meet_wsX6_meet_r4 _ (List.mem_of_getElem? (i := 19) rfl)), List.forall_mem_cons.mpr ⟨(pl_wsX6_meet_wsX6_meet_r4 _ (List.mem_of_getElem? (i := 20) rfl)), List.forall_mem_cons.mpr ⟨(pl_wsX6_meet_wsX6_meet_r4 _ (List.mem_of_getElem? (i := 21) rfl)), List.forall_mem_cons.mpr ⟨(pl_wsX6_meet_wsX6_meet_r4 _ (List.mem_of_getElem? (i := 22) rfl)), fun _ h => absurd h List.not_mem_nil⟩⟩⟩⟩⟩⟩⟩⟩⟩⟩⟩⟩⟩) w)) w)) w) (pl_wsX6_meet_wsX60 w))⟩) (by decide +kernel)
set_option maxRecDepth 20000 in
theorem gX6_meet_X6_met : GoodIn wsX6_meet (wsV RX6 269 RX6 yX6_met wsX6_met) := goodIn_app (goodIn_sub (List.forall_mem_cons.mpr ⟨(pl_wsX6_meet_wsX6_meet_r2 _ (List.mem_of_getElem? (i := 13) rfl)), List.forall_mem_cons.mpr ⟨(pl_wsX6_meet_wsX6_meet_r2 _ (List.mem_of_getElem? (i := 14) rfl)), List.forall_mem_cons.mpr ⟨(pl_wsX6_meet_wsX6_meet_r2 _ (List.mem_of_getElem? (i := 15) rfl)), List.forall_mem_cons.mpr ⟨(pl_wsX6_meet_wsX6_meet_r1 _ (List.mem_of_getElem? (i := 3) rfl)), fun _ h => absurd h List.not_mem_nil⟩⟩⟩⟩) (by decide +kernel)) ggX6_meet_X6_met
theorem dX6_meet_0 : decode cX6_meet 0 = .ok (.aload_n 0, 1) := by decide +kernel
theorem dX6_meet_1 : decode cX6_meet 1 = .ok (.iload_n 1, 1) := by decide +kernel
theorem dX6_meet_2 : decode cX6_meet 2 = .ok (.iload_n 2, 1) := by decide +kernel
theorem dX6_meet_3 : decode cX6_meet 3 = .ok (.iload_n 3, 1) := by decide +kernel
theorem dX6_meet_4 : decode cX6_meet 4 = .ok (.iload 4, 2) := by decide +kernel
theorem dX6_meet_6 : decode cX6_meet 6 = .ok (.iload 5, 2) := by decide +kernel
theorem dX6_meet_8 : decode cX6_meet 8 = .ok (.iload 6, 2) := by decide +kernel
theorem dX6_meet_10 : decode cX6_meet 10 = .ok (.invokevirtual 265, 3) := by decide +kernel
theorem dX6_meet_13 : decode cX6_meet 13 = .ok (.istore 7, 2) := by decide +kernel
theorem dX6_meet_15 : decode cX6_meet 15 = .ok (.iload 7, 2) := by decide +kernel
theorem dX6_meet_17 : decode cX6_meet 17 = .ok (.ifCond .ge 12, 3) := by decide +kernel
theorem dX6_meet_20 : decode cX6_meet 20 = .ok (.aload_n 0, 1) := by decide +kernel
theorem dX6_meet_21 : decode cX6_meet 21 = .ok (.iload 7, 2) := by decide +kernel
theorem dX6_meet_23 : decode cX6_meet 23 = .ok (.invokevirtual 101, 3) := by decide +kernel
theorem dX6_meet_26 : decode cX6_meet 26 = .ok (.goto 14, 3) := by decide +kernel
theorem dX6_meet_29 : decode cX6_meet 29 = .ok (.aload_n 0, 1) := by decide +kernel
theorem dX6_meet_30 : decode cX6_meet 30 = .ok (.iload_n 2, 1) := by decide +kernel
theorem dX6_meet_31 : decode cX6_meet 31 = .ok (.iload_n 3, 1) := by decide +kernel
theorem dX6_meet_32 : decode cX6_meet 32 = .ok (.iload 5, 2) := by decide +kernel
theorem dX6_meet_34 : decode cX6_meet 34 = .ok (.iload 6, 2) := by decide +kernel
theorem dX6_meet_36 : decode cX6_meet 36 = .ok (.iconst 0, 1) := by decide +kernel
theorem dX6_meet_37 : decode cX6_meet 37 = .ok (.invokevirtual 269, 3) := by decide +kernel
theorem dX6_meet_40 : decode cX6_meet 40 = .ok (.ireturn, 1) := by decide +kernel
set_option maxRecDepth 20000 in
theorem pl_wsX6_waits_wsX6_waits_r1 : ∀ w ∈ wsX6_waits_r1, w ∈ wsX6_waits := fun _ h => List.mem_cons_of_mem _ (List.mem_append_left _ (List.mem_append_left _ (h)))
theorem pl_wsX6_waits_wsX6_waits_r2 : ∀ w ∈ wsX6_waits_r2, w ∈ wsX6_waits := fun _ h => List.mem_cons_of_mem _ (List.mem_append_left _ (List.mem_append_right _ (List.mem_append_left _ (h))))
theorem pl_wsX6_waits_wsX60 : ∀ w ∈ wsX60, w ∈ wsX6_waits := fun _ h => List.mem_cons_of_mem _ (List.mem_append_right _ (h))
theorem ggX6_waits_X6_loadBoth : GoodIn wsX6_waits wsX6_loadBoth := goodIn_sub (List.forall_mem_cons.mpr ⟨(pl_wsX6_waits_wsX6_waits_r1 _ (List.mem_of_getElem? (i := 4) rfl)), (fun w h => (List.mem_append.mp h).elim ((fun w h => (List.mem_append.mp h).elim ((List.forall_mem_cons.mpr ⟨(pl_wsX6_waits_wsX6_waits_r1 _ (List.mem_of_getElem? (i := 5) rfl)), List.forall_mem_cons.mpr ⟨(pl_wsX6_waits_wsX6_waits_r1 _ (List.mem_of_getElem? (i := 6) rfl)), List.forall_mem_cons.mpr ⟨(pl_wsX6_waits_wsX6_waits_r1 _ (List.mem_of_getElem? (i := 7) rfl)), List.forall_mem_cons.mpr ⟨(pl_wsX6_waits_wsX6_waits_r1 _ (List.mem_of_getElem? (i := 8) rfl)), List.forall_mem_cons.mpr ⟨(pl_wsX6_waits_wsX6_waits_r1 _ (List.mem_of_getElem? (i := 9) rfl)), List.forall_mem_cons.mpr ⟨(pl_wsX6_waits_wsX6_waits_r1 _ (List.mem_of_getElem? (i := 10) rfl)), List.forall_mem_cons.mpr ⟨(pl_wsX6_waits_wsX6_waits_r1 _ (List.mem_of_getElem? (i := 11) rfl)), List.forall_mem_cons.mpr ⟨(pl_wsX6_waits_wsX6_waits_r1 _ (List.mem_of_getElem? (i := 3) rfl)), List.forall_mem_cons.mpr ⟨(pl_wsX6_waits_wsX6_waits_r1 _ (List.mem_of_getElem? (i := 12) rfl)), List.forall_mem_cons.mpr ⟨(pl_wsX6_waits_wsX6_waits_r1 _ (List.mem_of_getElem? (i := 13) rfl)), List.forall_mem_cons.mpr ⟨(pl_wsX6_waits_wsX6_waits_r1 _ (List.mem_of_getElem? (i := 14) rfl)), List.forall_mem_cons.mpr ⟨(pl_wsX6_waits_wsX6_waits_r1 _ (List.mem_of_getElem? (i := 15) rfl)), List.forall_mem_cons.mpr ⟨(pl_wsX6_waits_wsX6_waits_r1 _ (List.mem_of_getElem? (i := 16) rfl)), List.forall_mem_cons.mpr ⟨(pl_wsX6_waits_wsX6_waits_r1 _ (List.mem_of_getElem? (i := 17) rfl)), List.forall_mem_cons.mpr ⟨(pl_wsX6_waits_wsX6_waits_r1 _ (List.mem_of_getElem? (i := 18) rfl)), List.forall_mem_cons.mpr ⟨(pl_wsX6_waits_wsX6_waits_r1 _ (List.mem_of_getElem? (i := 19) rfl)), List.forall_mem_cons.mpr ⟨(pl_wsX6_waits_wsX6_waits_r1 _ (List.mem_of_getElem? (i := 20) rfl)), List.forall_mem_cons.mpr ⟨(pl_wsX6_waits_wsX6_waits_r1 _ (List.mem_of_getElem? (i := 21) rfl)), List.forall_mem_cons.mpr ⟨(pl_wsX6_waits_wsX6_waits_r1 _ (List.mem_of_getElem? (i := 22) rfl)), List.forall_mem_cons.mpr ⟨(pl_wsX6_waits_wsX6_waits_r1 _ (List.mem_of_getElem? (i := 23) rfl)), List.forall_mem_cons.mpr ⟨(pl_wsX6_waits_wsX6_waits_r2 _ (List.mem_of_getElem? (i := 0) rfl)), List.forall_mem_cons.mpr ⟨(pl_wsX6_waits_wsX6_waits_r2 _ (List.mem_of_getElem? (i := 1) rfl)), List.forall_mem_cons.mpr ⟨(pl_wsX6_waits_wsX6_waits_r2 _ (List.mem_of_getElem? (i := 2) rfl)), List.forall_mem_cons.mpr ⟨(pl_wsX6_waits_wsX6_waits_r2 _ (List.mem_of_getElem? (i := 3) rfl)), fun _ h => absurd h List.not_mem_nil⟩⟩⟩⟩⟩⟩⟩⟩⟩⟩⟩⟩⟩⟩⟩⟩⟩⟩⟩⟩⟩⟩⟩⟩) w) ((List.forall_mem_cons.mpr ⟨(pl_wsX6_waits_wsX6_waits_r2 _ (List.mem_of_getElem? (i := 4) rfl)), List.forall_mem_cons.mpr ⟨(pl_wsX6_waits_wsX6_waits_r2 _ (List.mem_of_getElem? (i := 5) rfl)), List.forall_mem_cons.mpr ⟨(pl_wsX6_waits_wsX6_waits_r2 _ (List.mem_of_getElem? (i := 6) rfl)), List.forall_mem_cons.mpr ⟨(pl_wsX6_waits_wsX6_waits_r2 _ (List.mem_of_getElem? (i := 7) rfl)), fun _ h => absurd h List.not_mem_nil⟩⟩⟩⟩) w)) w) (pl_wsX6_waits_wsX60 w))⟩) (by decide +kernel)
set_option maxRecDepth 20000 in
theorem gX6_waits_X6_loadBoth : GoodIn wsX6_waits (wsV RX6 265 RX6 yX6_loadBoth wsX6_loadBoth) := goodIn_app (goodIn_sub (List.forall_mem_cons.mpr ⟨(pl_wsX6_waits_wsX6_waits_r1 _ (List.mem_of_getElem? (i := 0) rfl)), List.forall_mem_cons.mpr ⟨(pl_wsX6_waits_wsX6_waits_r1 _ (List.mem_of_getElem? (i := 1) rfl)), List.forall_mem_cons.mpr ⟨(pl_wsX6_waits_wsX6_waits_r1 _ (List.mem_of_getElem? (i := 2) rfl)), List.forall_mem_cons.mpr ⟨(pl_wsX6_waits_wsX6_waits_r1 _ (List.mem_of_getElem? (i := 3) rfl)), fun _ h => absurd h List.not_mem_nil⟩⟩⟩⟩) (by decide +kernel)) ggX6_waits_X6_loadBoth
set_option maxRecDepth 20000 in
theorem ggX6_waits_X6_refuse : GoodIn wsX6_waits wsX6_refuse := goodIn_sub (List.forall_mem_cons.mpr ⟨(pl_wsX6_waits_wsX6_waits_r2 _ (List.mem_of_getElem? (i := 11) rfl)), (fun w h => (List.mem_append.mp h).elim ((List.forall_mem_cons.mpr ⟨(pl_wsX6_waits_wsX6_waits_r2 _ (List.mem_of_getElem? (i := 12) rfl)), fun _ h => absurd h List.not_mem_nil⟩) w) (pl_wsX6_waits_wsX60 w))⟩) (by decide +kernel)
set_option maxRecDepth 20000 in
theorem gX6_waits_X6_refuse : GoodIn wsX6_waits (wsV RX6 101 RX6 yX6_refuse wsX6_refuse) := goodIn_app (goodIn_sub (List.forall_mem_cons.mpr ⟨(pl_wsX6_waits_wsX6_waits_r2 _ (List.mem_of_getElem? (i := 8) rfl)), List.forall_mem_cons.mpr ⟨(pl_wsX6_waits_wsX6_waits_r2 _ (List.mem_of_getElem? (i := 9) rfl)), List.forall_mem_cons.mpr ⟨(pl_wsX6_waits_wsX6_waits_r2 _ (List.mem_of_getElem? (i := 10) rfl)), List.forall_mem_cons.mpr ⟨(pl_wsX6_waits_wsX6_waits_r1 _ (List.mem_of_getElem? (i := 3) rfl)), fun _ h => absurd h List.not_mem_nil⟩⟩⟩⟩) (by decide +kernel)) ggX6_waits_X6_refuse
set_option maxRecDepth 20000 in
theorem pl_wsX6_waits_wsX6_waits_r3 : ∀ w ∈ wsX6_waits_r3, w ∈ wsX6_waits := fun _ h => List.mem_cons_of_mem _ (List.mem_append_left _ (List.mem_append_right _ (List.mem_append_right _ (List.mem_append_left _ (h)))))
theorem pl_wsX6_waits_wsX6_waits_r4 : ∀ w ∈ wsX6_waits_r4, w ∈ wsX6_waits := fun _ h => List.mem_cons_of_mem _ (List.mem_append_left _ (List.mem_append_right _ (List.mem_append_right _ (List.mem_append_right _ (h)))))
theorem ggX6_waits_X6_met : GoodIn wsX6_waits wsX6_met := goodIn_sub (List.forall_mem_cons.mpr ⟨(pl_wsX6_waits_wsX6_waits_r2 _ (List.mem_of_getElem? (i := 16) rfl)), (fun w h => (List.mem_append.mp h).elim ((fun w h => (List.mem_append.mp h).elim ((List.forall_mem_cons.mpr ⟨(pl_wsX6_waits_wsX6_waits_r2 _ (List.mem_of_getElem? (i := 17) rfl)), List.forall_mem_cons.mpr ⟨(pl_wsX6_waits_wsX6_waits_r2 _ (List.mem_of_getElem? (i := 18) rfl)), List.forall_mem_cons.mpr ⟨(pl_wsX6_waits_wsX6_waits_r2 _ (List.mem_of_getElem? (i := 19) rfl)), List.forall_mem_cons.mpr ⟨(pl_wsX6_waits_wsX6_waits_r2 _ (List.mem_of_getElem? (i := 20) rfl)), List.forall_mem_cons.mpr ⟨(pl_wsX6_waits_wsX6_waits_r2 _ (List.mem_of_getElem? (i := 21) rfl)), List.forall_mem_cons.mpr ⟨(pl_wsX6_waits_wsX6_waits_r1 _ (List.mem_of_getElem? (i := 8) rfl)), List.forall_mem_cons.mpr ⟨(pl_wsX6_waits_wsX6_waits_r1 _ (List.mem_of_getElem? (i := 9) rfl)), List.forall_mem_cons.mpr ⟨(pl_wsX6_waits_wsX6_waits_r2 _ (List.mem_of_getElem? (i := 22) rfl)), List.forall_mem_cons.mpr ⟨(pl_wsX6_waits_wsX6_waits_r2 _ (List.mem_of_getElem? (i := 23) rfl)), List.forall_mem_cons.mpr ⟨(pl_wsX6_waits_wsX6_waits_r3 _ (List.mem_of_getElem? (i := 0) rfl)), List.forall_mem_cons.mpr ⟨(pl_wsX6_waits_wsX6_waits_r1 _ (List.mem_of_getElem? (i := 3) rfl)), List.forall_mem_cons.mpr ⟨(pl_wsX6_waits_wsX6_waits_r3 _ (List.mem_of_getElem? (i := 1) rfl)), List.forall_mem_cons.mpr ⟨(pl_wsX6_waits_wsX6_waits_r1 _ (List.mem_of_getElem? (i := 21) rfl)), List.forall_mem_cons.mpr ⟨(pl_wsX6_waits_wsX6_waits_r3 _ (List.mem_of_getElem? (i := 2) rfl)), List.forall_mem_cons.mpr ⟨(pl_wsX6_waits_wsX6_waits_r3 _ (List.mem_of_getElem? (i := 3) rfl)), List.forall_mem_cons.mpr ⟨(pl_wsX6_waits_wsX6_waits_r3 _ (List.mem_of_getElem? (i := 4) rfl)), List.forall_mem_cons.mpr ⟨(pl_wsX6_waits_wsX6_waits_r3 _ (List.mem_of_getElem? (i := 5) rfl)), List.forall_mem_cons.mpr ⟨(pl_wsX6_waits_wsX6_waits_r3 _ (List.mem_of_getElem? (i := 6) rfl)), List.forall_mem_cons.mpr ⟨(pl_wsX6_waits_wsX6_waits_r3 _ (List.mem_of_getElem? (i := 7) rfl)), List.forall_mem_cons.mpr ⟨(pl_wsX6_waits_wsX6_waits_r3 _ (List.mem_of_getElem? (i := 8) rfl)), List.forall_mem_cons.mpr ⟨(pl_wsX6_waits_wsX6_waits_r3 _ (List.mem_of_getElem? (i := 9) rfl)), List.forall_mem_cons.mpr ⟨(pl_wsX6_waits_wsX6_waits_r3 _ (List.mem_of_getElem? (i := 10) rfl)), List.forall_mem_cons.mpr ⟨(pl_wsX6_waits_wsX6_waits_r3 _ (List.mem_of_getElem? (i := 11) rfl)), List.forall_mem_cons.mpr ⟨(pl_wsX6_waits_wsX6_waits_r3 _ (List.mem_of_getElem? (i := 12) rfl)), fun _ h => absurd h List.not_mem_nil⟩⟩⟩⟩⟩⟩⟩⟩⟩⟩⟩⟩⟩⟩⟩⟩⟩⟩⟩⟩⟩⟩⟩⟩) w) ((fun w h => (List.mem_append.mp h).elim ((List.forall_mem_cons.mpr ⟨(pl_wsX6_waits_wsX6_waits_r3 _ (List.mem_of_getElem? (i := 13) rfl)), List.forall_mem_cons.mpr ⟨(pl_wsX6_waits_wsX6_waits_r3 _ (List.mem_of_getElem? (i := 14) rfl)), List.forall_mem_cons.mpr ⟨(pl_wsX6_waits_wsX6_waits_r3 _ (List.mem_of_getElem? (i := 15) rfl)), List.forall_mem_cons.mpr ⟨(pl_wsX6_waits_wsX6_waits_r3 _ (List.mem_of_getElem? (i := 16) rfl)), List.forall_mem_cons.mpr ⟨(pl_wsX6_waits_wsX6_waits_r3 _ (List.mem_of_getElem? (i := 17) rfl)), List.forall_mem_cons.mpr ⟨(pl_wsX6_waits_wsX6_waits_r3 _ (List.mem_of_getElem? (i := 18) rfl)), List.forall_mem_cons.mpr ⟨(pl_wsX6_waits_wsX6_waits_r3 _ (List.mem_of_getElem? (i := 19) rfl)), List.forall_mem_cons.mpr ⟨(pl_wsX6_waits_wsX6_waits_r3 _ (List.mem_of_getElem? (i := 20) rfl)), List.forall_mem_cons.mpr ⟨(pl_wsX6_waits_wsX6_waits_r3 _ (List.mem_of_getElem? (i := 21) rfl)), List.forall_mem_cons.mpr ⟨(pl_wsX6_waits_wsX6_waits_r3 _ (List.mem_of_getElem? (i := 22) rfl)), List.forall_mem_cons.mpr ⟨(pl_wsX6_waits_wsX6_waits_r3 _ (List.mem_of_getElem? (i := 23) rfl)), List.forall_mem_cons.mpr ⟨(pl_wsX6_waits_wsX6_waits_r1 _ (List.mem_of_getElem? (i := 14) rfl)), List.forall_mem_cons.mpr ⟨(pl_wsX6_waits_wsX6_waits_r1 _ (List.mem_of_getElem? (i := 15) rfl)), List.forall_mem_cons.mpr ⟨(pl_wsX6_waits_wsX6_waits_r1 _ (List.mem_of_getElem? (i := 16) rfl)), List.forall_mem_cons.mpr ⟨(pl_wsX6_waits_wsX6_waits_r4 _ (List.mem_of_getElem? (i := 0) rfl)), List.forall_mem_cons.mpr ⟨(pl_wsX6_waits_wsX6_waits_r4 _ (List.mem_of_getElem? (i := 1) rfl)), List.forall_mem_cons.mpr ⟨(pl_wsX6_waits_wsX6_waits_r4 _ (List.mem_of_getElem? (i := 2) rfl)), List.forall_mem_cons.mpr ⟨(pl_wsX6_waits_wsX6_waits_r4 _ (List.mem_of_getElem? (i := 3) rfl)), List.forall_mem_cons.mpr ⟨(pl_wsX6_waits_wsX6_waits_r4 _ (List.mem_of_getElem? (i := 4) rfl)), List.forall_mem_cons.mpr ⟨(pl_wsX6_waits_wsX6_waits_r4 _ (List.mem_of_getElem? (i := 5) rfl)), List.forall_mem_cons.mpr ⟨(pl_wsX6_waits_wsX6_waits_r4 _ (List.mem_of_getElem? (i := 6) rfl)), List.forall_mem_cons.mpr ⟨(pl_wsX6_waits_wsX6_waits_r4 _ (List.mem_of_getElem? (i := 7) rfl)), List.forall_mem_cons.mpr ⟨(pl_wsX6_waits_wsX6_waits_r4 _ (List.mem_of_getElem? (i := 8) rfl)), List.forall_mem_cons.mpr ⟨(pl_wsX6_waits_wsX6_waits_r4 _ (List.mem_of_getElem? (i := 9) rfl)), fun _ h => absurd h List.not_mem_nil⟩⟩⟩⟩⟩⟩⟩⟩⟩⟩⟩⟩⟩⟩⟩⟩⟩⟩⟩⟩⟩⟩⟩⟩) w) ((List.forall_mem_cons.mpr ⟨(pl_wsX6_waits_wsX6_waits_r4 _ (List.mem_of_getElem? (i := 10) rfl)), List.forall_mem_cons.mpr ⟨(pl_wsX6_waits_wsX6_waits_r4 _ (List.mem_of_getElem? (i := 11) rfl)), List.forall_mem_cons.mpr ⟨(pl_wsX6_waits_wsX6_waits_r4 _ (List.mem_of_getElem? (i := 12) rfl)), List.forall_mem_cons.mpr ⟨(pl_wsX6_waits_wsX6_waits_r4 _ (List.mem_of_getElem? (i := 13) rfl)), List.forall_mem_cons.mpr ⟨(pl_wsX6_waits_wsX6_waits_r4 _ (List.mem_of_getElem? (i := 14) rfl)), List.forall_mem_cons.mpr ⟨(pl_wsX6_waits_wsX6_waits_r4 _ (List.mem_of_getElem? (i := 15) rfl)), List.forall_mem_cons.mpr ⟨(pl_wsX6_waits_wsX6_waits_r4 _ (List.mem_of_getElem? (i := 16) rfl)), List.forall_mem_cons.mpr ⟨(pl_wsX6_waits_wsX6_waits_r4 _ (List.mem_of_getElem? (i := 17) rfl)), List.forall_mem_cons.mpr ⟨(pl_wsX6_waits_wsX6_waits_r4 _ (List.mem_of_getElem? (i := 18) rfl)), List.forall_mem_cons.mpr ⟨(pl_wsX6_waits_wsX6_waits_r4 _ (List.mem_of_getElem? (i := 19) rfl)), List.forall_mem_cons.mpr ⟨(pl_wsX6_waits_wsX6_waits_r4 _ (List.mem_of_getElem? (i := 20) rfl)), List.forall_mem_cons.mpr ⟨(pl_wsX6_waits_wsX6_waits_r4 _ (List.mem_of_getElem? (i := 21) rfl)), List.forall_mem_cons.mpr ⟨(pl_wsX6_waits_wsX6_waits_r4 _ (List.mem_of_getElem? (i := 22) rfl)), fun _ h => absurd h List.not_mem_nil⟩⟩⟩⟩⟩⟩⟩⟩⟩⟩⟩⟩⟩) w)) w)) w) (pl_wsX6_waits_wsX60 w))⟩) (by decide +kernel)
set_option maxRecDepth 20000 in
theorem gX6_waits_X6_met : GoodIn wsX6_waits (wsV RX6 269 RX6 yX6_met wsX6_met) := goodIn_app (goodIn_sub (List.forall_mem_cons.mpr ⟨(pl_wsX6_waits_wsX6_waits_r2 _ (List.mem_of_getElem? (i := 13) rfl)), List.forall_mem_cons.mpr ⟨(pl_wsX6_waits_wsX6_waits_r2 _ (List.mem_of_getElem? (i := 14) rfl)), List.forall_mem_cons.mpr ⟨(pl_wsX6_waits_wsX6_waits_r2 _ (List.mem_of_getElem? (i := 15) rfl)), List.forall_mem_cons.mpr ⟨(pl_wsX6_waits_wsX6_waits_r1 _ (List.mem_of_getElem? (i := 3) rfl)), fun _ h => absurd h List.not_mem_nil⟩⟩⟩⟩) (by decide +kernel)) ggX6_waits_X6_met
theorem dX6_waits_0 : decode cX6_waits 0 = .ok (.aload_n 0, 1) := by decide +kernel
theorem dX6_waits_1 : decode cX6_waits 1 = .ok (.iload_n 1, 1) := by decide +kernel
theorem dX6_waits_2 : decode cX6_waits 2 = .ok (.iload_n 2, 1) := by decide +kernel
theorem dX6_waits_3 : decode cX6_waits 3 = .ok (.iload_n 3, 1) := by decide +kernel
theorem dX6_waits_4 : decode cX6_waits 4 = .ok (.iload 4, 2) := by decide +kernel
theorem dX6_waits_6 : decode cX6_waits 6 = .ok (.iload 5, 2) := by decide +kernel
theorem dX6_waits_8 : decode cX6_waits 8 = .ok (.iload 6, 2) := by decide +kernel
theorem dX6_waits_10 : decode cX6_waits 10 = .ok (.invokevirtual 265, 3) := by decide +kernel
theorem dX6_waits_13 : decode cX6_waits 13 = .ok (.istore 7, 2) := by decide +kernel
theorem dX6_waits_15 : decode cX6_waits 15 = .ok (.iload 7, 2) := by decide +kernel
theorem dX6_waits_17 : decode cX6_waits 17 = .ok (.ifCond .ge 10, 3) := by decide +kernel
theorem dX6_waits_20 : decode cX6_waits 20 = .ok (.aload_n 0, 1) := by decide +kernel
theorem dX6_waits_21 : decode cX6_waits 21 = .ok (.iload 7, 2) := by decide +kernel
theorem dX6_waits_23 : decode cX6_waits 23 = .ok (.invokevirtual 101, 3) := by decide +kernel
theorem dX6_waits_26 : decode cX6_waits 26 = .ok (.ireturn, 1) := by decide +kernel
theorem dX6_waits_27 : decode cX6_waits 27 = .ok (.iconst 0, 1) := by decide +kernel
theorem dX6_waits_28 : decode cX6_waits 28 = .ok (.istore 8, 2) := by decide +kernel
theorem dX6_waits_30 : decode cX6_waits 30 = .ok (.iload 8, 2) := by decide +kernel
theorem dX6_waits_32 : decode cX6_waits 32 = .ok (.bipush 10, 2) := by decide +kernel
theorem dX6_waits_34 : decode cX6_waits 34 = .ok (.if_icmp .ge 28, 3) := by decide +kernel
theorem dX6_waits_37 : decode cX6_waits 37 = .ok (.aload_n 0, 1) := by decide +kernel
theorem dX6_waits_38 : decode cX6_waits 38 = .ok (.iload_n 2, 1) := by decide +kernel
theorem dX6_waits_39 : decode cX6_waits 39 = .ok (.iload_n 3, 1) := by decide +kernel
theorem dX6_waits_40 : decode cX6_waits 40 = .ok (.iload 5, 2) := by decide +kernel
theorem dX6_waits_42 : decode cX6_waits 42 = .ok (.iload 6, 2) := by decide +kernel
theorem dX6_waits_44 : decode cX6_waits 44 = .ok (.iload 8, 2) := by decide +kernel
theorem dX6_waits_46 : decode cX6_waits 46 = .ok (.invokevirtual 269, 3) := by decide +kernel
theorem dX6_waits_49 : decode cX6_waits 49 = .ok (.iconst (-1), 1) := by decide +kernel
theorem dX6_waits_50 : decode cX6_waits 50 = .ok (.if_icmp .ne 6, 3) := by decide +kernel
theorem dX6_waits_53 : decode cX6_waits 53 = .ok (.iload 8, 2) := by decide +kernel
theorem dX6_waits_55 : decode cX6_waits 55 = .ok (.ireturn, 1) := by decide +kernel
theorem dX6_waits_56 : decode cX6_waits 56 = .ok (.iinc 8 1, 3) := by decide +kernel
theorem dX6_waits_59 : decode cX6_waits 59 = .ok (.goto (-29), 3) := by decide +kernel
theorem dX6_waits_62 : decode cX6_waits 62 = .ok (.iconst (-1), 1) := by decide +kernel
theorem dX6_waits_63 : decode cX6_waits 63 = .ok (.ireturn, 1) := by decide +kernel
set_option maxRecDepth 20000 in
theorem ggX6_judge_X6_isShelf : GoodIn wsX6_judge wsX6_isShelf := goodIn_sub (List.forall_mem_cons.mpr ⟨(List.mem_cons_of_mem _ (List.mem_append_left _ (List.mem_of_getElem? (i := 7) rfl))), (List.forall_mem_cons.mpr ⟨(List.mem_cons_of_mem _ (List.mem_append_left _ (List.mem_of_getElem? (i := 8) rfl))), List.forall_mem_cons.mpr ⟨(List.mem_cons_of_mem _ (List.mem_append_left _ (List.mem_of_getElem? (i := 9) rfl))), List.forall_mem_cons.mpr ⟨(List.mem_cons_of_mem _ (List.mem_append_left _ (List.mem_of_getElem? (i := 10) rfl))), List.forall_mem_cons.mpr ⟨(List.mem_cons_of_mem _ (List.mem_append_left _ (List.mem_of_getElem? (i := 6) rfl))), List.forall_mem_cons.mpr ⟨(List.mem_cons_of_mem _ (List.mem_append_left _ (List.mem_of_getElem? (i := 11) rfl))), fun _ h => absurd h List.not_mem_nil⟩⟩⟩⟩⟩)⟩) (by decide +kernel)
set_option maxRecDepth 20000 in
theorem gX6_judge_X6_isShelf : GoodIn wsX6_judge (va_wsS RX6 203 yX6_isShelf wsX6_isShelf) := goodIn_app (goodIn_sub (List.forall_mem_cons.mpr ⟨(List.mem_cons_of_mem _ (List.mem_append_left _ (List.mem_of_getElem? (i := 4) rfl))), List.forall_mem_cons.mpr ⟨(List.mem_cons_of_mem _ (List.mem_append_left _ (List.mem_of_getElem? (i := 5) rfl))), List.forall_mem_cons.mpr ⟨(List.mem_cons_of_mem _ (List.mem_append_left _ (List.mem_of_getElem? (i := 6) rfl))), fun _ h => absurd h List.not_mem_nil⟩⟩⟩) (by decide +kernel)) ggX6_judge_X6_isShelf
set_option maxRecDepth 20000 in
theorem ggX6_judge_X6_isIn : GoodIn wsX6_judge wsX6_isIn := goodIn_sub (List.forall_mem_cons.mpr ⟨(List.mem_cons_of_mem _ (List.mem_append_left _ (List.mem_of_getElem? (i := 11) rfl))), (fun _ h => absurd h List.not_mem_nil)⟩) (by decide +kernel)
set_option maxRecDepth 20000 in
theorem gX6_judge_X6_isIn : GoodIn wsX6_judge (va_wsS RX6 76 yX6_isIn wsX6_isIn) := goodIn_app (goodIn_sub (List.forall_mem_cons.mpr ⟨(List.mem_cons_of_mem _ (List.mem_append_left _ (List.mem_of_getElem? (i := 9) rfl))), List.forall_mem_cons.mpr ⟨(List.mem_cons_of_mem _ (List.mem_append_left _ (List.mem_of_getElem? (i := 10) rfl))), List.forall_mem_cons.mpr ⟨(List.mem_cons_of_mem _ (List.mem_append_left _ (List.mem_of_getElem? (i := 6) rfl))), fun _ h => absurd h List.not_mem_nil⟩⟩⟩) (by decide +kernel)) ggX6_judge_X6_isIn
set_option maxRecDepth 20000 in
theorem pl_wsX6_judge_wsX60 : ∀ w ∈ wsX60, w ∈ wsX6_judge := fun _ h => List.mem_cons_of_mem _ (List.mem_append_right _ (h))
theorem ggX6_judge_X6_refuse : GoodIn wsX6_judge wsX6_refuse := goodIn_sub (List.forall_mem_cons.mpr ⟨(List.mem_cons_of_mem _ (List.mem_append_left _ (List.mem_of_getElem? (i := 15) rfl))), (fun w h => (List.mem_append.mp h).elim ((List.forall_mem_cons.mpr ⟨(List.mem_cons_of_mem _ (List.mem_append_left _ (List.mem_of_getElem? (i := 16) rfl))), fun _ h => absurd h List.not_mem_nil⟩) w) (pl_wsX6_judge_wsX60 w))⟩) (by decide +kernel)
set_option maxRecDepth 20000 in
theorem gX6_judge_X6_refuse : GoodIn wsX6_judge (wsV RX6 101 RX6 yX6_refuse wsX6_refuse) := goodIn_app (goodIn_sub (List.forall_mem_cons.mpr ⟨(List.mem_cons_of_mem _ (List.mem_append_left _ (List.mem_of_getElem? (i := 12) rfl))), List.forall_mem_cons.mpr ⟨(List.mem_cons_of_mem _ (List.mem_append_left _ (List.mem_of_getElem? (i := 13) rfl))), List.forall_mem_cons.mpr ⟨(List.mem_cons_of_mem _ (List.mem_append_left _ (List.mem_of_getElem? (i := 14) rfl))), List.forall_mem_cons.mpr ⟨(List.mem_cons_of_mem _ (List.mem_append_left _ (List.mem_of_getElem? (i := 6) rfl))), fun _ h => absurd h List.not_mem_nil⟩⟩⟩⟩) (by decide +kernel)) ggX6_judge_X6_refuse
set_option maxRecDepth 20000 in
theorem ggX6_judge_X6_rowIn : GoodIn wsX6_judge wsX6_rowIn := goodIn_sub (List.forall_mem_cons.mpr ⟨(List.mem_cons_of_mem _ (List.mem_append_left _ (List.mem_of_getElem? (i := 20) rfl))), (fun w h => (List.mem_append.mp h).elim ((List.forall_mem_cons.mpr ⟨(List.mem_cons_of_mem _ (List.mem_append_left _ (List.mem_of_getElem? (i := 21) rfl))), fun _ h => absurd h List.not_mem_nil⟩) w) (pl_wsX6_judge_wsX60 w))⟩) (by decide +kernel)
set_option maxRecDepth 20000 in
theorem gX6_judge_X6_rowIn : GoodIn wsX6_judge (wsV RX6 210 RX6 yX6_rowIn wsX6_rowIn) := goodIn_app (goodIn_sub (List.forall_mem_cons.mpr ⟨(List.mem_cons_of_mem _ (List.mem_append_left _ (List.mem_of_getElem? (i := 17) rfl))), List.forall_mem_cons.mpr ⟨(List.mem_cons_of_mem _ (List.mem_append_left _ (List.mem_of_getElem? (i := 18) rfl))), List.forall_mem_cons.mpr ⟨(List.mem_cons_of_mem _ (List.mem_append_left _ (List.mem_of_getElem? (i := 19) rfl))), List.forall_mem_cons.mpr ⟨(List.mem_cons_of_mem _ (List.mem_append_left _ (List.mem_of_getElem? (i := 6) rfl))), fun _ h => absurd h List.not_mem_nil⟩⟩⟩⟩) (by decide +kernel)) ggX6_judge_X6_rowIn
theorem dX6_judge_0 : decode cX6_judge 0 = .ok (.iload_n 1, 1) := by decide +kernel
theorem dX6_judge_1 : decode cX6_judge 1 = .ok (.invokestatic 203, 3) := by decide +kernel
theorem dX6_judge_4 : decode cX6_judge 4 = .ok (.ifCond .eq 15, 3) := by decide +kernel
theorem dX6_judge_7 : decode cX6_judge 7 = .ok (.iload_n 2, 1) := by decide +kernel
theorem dX6_judge_8 : decode cX6_judge 8 = .ok (.i2l, 1) := by decide +kernel
theorem dX6_judge_9 : decode cX6_judge 9 = .ok (.lconst 0, 1) := by decide +kernel
theorem dX6_judge_10 : decode cX6_judge 10 = .ok (.ldc2_w 208, 3) := by decide +kernel
theorem dX6_judge_13 : decode cX6_judge 13 = .ok (.invokestatic 76, 3) := by decide +kernel
theorem dX6_judge_16 : decode cX6_judge 16 = .ok (.ifCond .ne 10, 3) := by decide +kernel
theorem dX6_judge_19 : decode cX6_judge 19 = .ok (.aload_n 0, 1) := by decide +kernel
theorem dX6_judge_20 : decode cX6_judge 20 = .ok (.bipush (-2), 2) := by decide +kernel
theorem dX6_judge_22 : decode cX6_judge 22 = .ok (.invokevirtual 101, 3) := by decide +kernel
theorem dX6_judge_25 : decode cX6_judge 25 = .ok (.ireturn, 1) := by decide +kernel
theorem dX6_judge_26 : decode cX6_judge 26 = .ok (.aload_n 0, 1) := by decide +kernel
theorem dX6_judge_27 : decode cX6_judge 27 = .ok (.iload_n 1, 1) := by decide +kernel
theorem dX6_judge_28 : decode cX6_judge 28 = .ok (.invokevirtual 210, 3) := by decide +kernel
theorem dX6_judge_31 : decode cX6_judge 31 = .ok (.ifCond .ge 13, 3) := by decide +kernel
theorem dX6_judge_34 : decode cX6_judge 34 = .ok (.aload_n 0, 1) := by decide +kernel
theorem dX6_judge_35 : decode cX6_judge 35 = .ok (.aload_n 0, 1) := by decide +kernel
theorem dX6_judge_36 : decode cX6_judge 36 = .ok (.iload_n 1, 1) := by decide +kernel
theorem dX6_judge_37 : decode cX6_judge 37 = .ok (.invokevirtual 210, 3) := by decide +kernel
theorem dX6_judge_40 : decode cX6_judge 40 = .ok (.invokevirtual 101, 3) := by decide +kernel
theorem dX6_judge_43 : decode cX6_judge 43 = .ok (.ireturn, 1) := by decide +kernel
theorem dX6_judge_44 : decode cX6_judge 44 = .ok (.iload_n 2, 1) := by decide +kernel
theorem dX6_judge_45 : decode cX6_judge 45 = .ok (.aload_n 0, 1) := by decide +kernel
theorem dX6_judge_46 : decode cX6_judge 46 = .ok (.getfield 57, 3) := by decide +kernel
theorem dX6_judge_49 : decode cX6_judge 49 = .ok (.iload_n 1, 1) := by decide +kernel
theorem dX6_judge_50 : decode cX6_judge 50 = .ok (.iaload, 1) := by decide +kernel
theorem dX6_judge_51 : decode cX6_judge 51 = .ok (.if_icmp .le 10, 3) := by decide +kernel
theorem dX6_judge_54 : decode cX6_judge 54 = .ok (.aload_n 0, 1) := by decide +kernel
theorem dX6_judge_55 : decode cX6_judge 55 = .ok (.bipush (-2), 2) := by decide +kernel
theorem dX6_judge_57 : decode cX6_judge 57 = .ok (.invokevirtual 101, 3) := by decide +kernel
theorem dX6_judge_60 : decode cX6_judge 60 = .ok (.ireturn, 1) := by decide +kernel
theorem dX6_judge_61 : decode cX6_judge 61 = .ok (.iconst 0, 1) := by decide +kernel
theorem dX6_judge_62 : decode cX6_judge 62 = .ok (.istore_n 3, 1) := by decide +kernel
theorem dX6_judge_63 : decode cX6_judge 63 = .ok (.iload_n 3, 1) := by decide +kernel
theorem dX6_judge_64 : decode cX6_judge 64 = .ok (.iload_n 2, 1) := by decide +kernel
theorem dX6_judge_65 : decode cX6_judge 65 = .ok (.if_icmp .ge 32, 3) := by decide +kernel
theorem dX6_judge_68 : decode cX6_judge 68 = .ok (.aload_n 0, 1) := by decide +kernel
theorem dX6_judge_69 : decode cX6_judge 69 = .ok (.getfield 60, 3) := by decide +kernel
theorem dX6_judge_72 : decode cX6_judge 72 = .ok (.bipush 40, 2) := by decide +kernel
theorem dX6_judge_74 : decode cX6_judge 74 = .ok (.iload_n 1, 1) := by decide +kernel
theorem dX6_judge_75 : decode cX6_judge 75 = .ok (.imul, 1) := by decide +kernel
theorem dX6_judge_76 : decode cX6_judge 76 = .ok (.iload_n 3, 1) := by decide +kernel
theorem dX6_judge_77 : decode cX6_judge 77 = .ok (.iadd, 1) := by decide +kernel
theorem dX6_judge_78 : decode cX6_judge 78 = .ok (.laload, 1) := by decide +kernel
theorem dX6_judge_79 : decode cX6_judge 79 = .ok (.lconst 0, 1) := by decide +kernel
theorem dX6_judge_80 : decode cX6_judge 80 = .ok (.ldc2_w 114, 3) := by decide +kernel
theorem dX6_judge_83 : decode cX6_judge 83 = .ok (.invokestatic 76, 3) := by decide +kernel
theorem dX6_judge_86 : decode cX6_judge 86 = .ok (.ifCond .ne 5, 3) := by decide +kernel
theorem dX6_judge_89 : decode cX6_judge 89 = .ok (.iload_n 3, 1) := by decide +kernel
theorem dX6_judge_90 : decode cX6_judge 90 = .ok (.ireturn, 1) := by decide +kernel
theorem dX6_judge_91 : decode cX6_judge 91 = .ok (.iinc 3 1, 3) := by decide +kernel
theorem dX6_judge_94 : decode cX6_judge 94 = .ok (.goto (-31), 3) := by decide +kernel
theorem dX6_judge_97 : decode cX6_judge 97 = .ok (.iconst (-1), 1) := by decide +kernel
theorem dX6_judge_98 : decode cX6_judge 98 = .ok (.ireturn, 1) := by decide +kernel
set_option maxRecDepth 20000 in
theorem pl_wsX6_walk_wsX6_walk_r1 : ∀ w ∈ wsX6_walk_r1, w ∈ wsX6_walk := fun _ h => List.mem_cons_of_mem _ (List.mem_append_left _ (List.mem_append_left _ (h)))
theorem pl_wsX6_walk_wsX60 : ∀ w ∈ wsX60, w ∈ wsX6_walk := fun _ h => List.mem_cons_of_mem _ (List.mem_append_right _ (h))
theorem ggX6_walk_X6_isPerson : GoodIn wsX6_walk wsX6_isPerson := goodIn_sub (List.forall_mem_cons.mpr ⟨(pl_wsX6_walk_wsX6_walk_r1 _ (List.mem_of_getElem? (i := 9) rfl)), (fun w h => (List.mem_append.mp h).elim ((List.forall_mem_cons.mpr ⟨(pl_wsX6_walk_wsX6_walk_r1 _ (List.mem_of_getElem? (i := 1) rfl)), List.forall_mem_cons.mpr ⟨(pl_wsX6_walk_wsX6_walk_r1 _ (List.mem_of_getElem? (i := 10) rfl)), List.forall_mem_cons.mpr ⟨(pl_wsX6_walk_wsX6_walk_r1 _ (List.mem_of_getElem? (i := 11) rfl)), List.forall_mem_cons.mpr ⟨(pl_wsX6_walk_wsX6_walk_r1 _ (List.mem_of_getElem? (i := 8) rfl)), List.forall_mem_cons.mpr ⟨(pl_wsX6_walk_wsX6_walk_r1 _ (List.mem_of_getElem? (i := 12) rfl)), fun _ h => absurd h List.not_mem_nil⟩⟩⟩⟩⟩) w) (pl_wsX6_walk_wsX60 w))⟩) (by decide +kernel)
set_option maxRecDepth 20000 in
theorem gX6_walk_X6_isPerson : GoodIn wsX6_walk (wsV RX6 124 RX6 yX6_isPerson wsX6_isPerson) := goodIn_app (goodIn_sub (List.forall_mem_cons.mpr ⟨(pl_wsX6_walk_wsX6_walk_r1 _ (List.mem_of_getElem? (i := 5) rfl)), List.forall_mem_cons.mpr ⟨(pl_wsX6_walk_wsX6_walk_r1 _ (List.mem_of_getElem? (i := 6) rfl)), List.forall_mem_cons.mpr ⟨(pl_wsX6_walk_wsX6_walk_r1 _ (List.mem_of_getElem? (i := 7) rfl)), List.forall_mem_cons.mpr ⟨(pl_wsX6_walk_wsX6_walk_r1 _ (List.mem_of_getElem? (i := 8) rfl)), fun _ h => absurd h List.not_mem_nil⟩⟩⟩⟩) (by decide +kernel)) ggX6_walk_X6_isPerson
set_option maxRecDepth 20000 in
theorem pl_wsX6_walk_wsX6_walk_r2 : ∀ w ∈ wsX6_walk_r2, w ∈ wsX6_walk := fun _ h => List.mem_cons_of_mem _ (List.mem_append_left _ (List.mem_append_right _ (List.mem_append_left _ (h))))
theorem ggX6_walk_X6_loadIf : GoodIn wsX6_walk wsX6_loadIf := goodIn_sub (List.forall_mem_cons.mpr ⟨(pl_wsX6_walk_wsX6_walk_r1 _ (List.mem_of_getElem? (i := 16) rfl)), (fun w h => (List.mem_append.mp h).elim ((List.forall_mem_cons.mpr ⟨(pl_wsX6_walk_wsX6_walk_r1 _ (List.mem_of_getElem? (i := 17) rfl)), List.forall_mem_cons.mpr ⟨(pl_wsX6_walk_wsX6_walk_r1 _ (List.mem_of_getElem? (i := 18) rfl)), List.forall_mem_cons.mpr ⟨(pl_wsX6_walk_wsX6_walk_r1 _ (List.mem_of_getElem? (i := 19) rfl)), List.forall_mem_cons.mpr ⟨(pl_wsX6_walk_wsX6_walk_r1 _ (List.mem_of_getElem? (i := 8) rfl)), List.forall_mem_cons.mpr ⟨(pl_wsX6_walk_wsX6_walk_r1 _ (List.mem_of_getElem? (i := 20) rfl)), List.forall_mem_cons.mpr ⟨(pl_wsX6_walk_wsX6_walk_r1 _ (List.mem_of_getElem? (i := 21) rfl)), List.forall_mem_cons.mpr ⟨(pl_wsX6_walk_wsX6_walk_r1 _ (List.mem_of_getElem? (i := 10) rfl)), List.forall_mem_cons.mpr ⟨(pl_wsX6_walk_wsX6_walk_r1 _ (List.mem_of_getElem? (i := 11) rfl)), List.forall_mem_cons.mpr ⟨(pl_wsX6_walk_wsX6_walk_r1 _ (List.mem_of_getElem? (i := 12) rfl)), List.forall_mem_cons.mpr ⟨(pl_wsX6_walk_wsX6_walk_r1 _ (List.mem_of_getElem? (i := 22) rfl)), List.forall_mem_cons.mpr ⟨(pl_wsX6_walk_wsX6_walk_r1 _ (List.mem_of_getElem? (i := 23) rfl)), List.forall_mem_cons.mpr ⟨(pl_wsX6_walk_wsX6_walk_r2 _ (List.mem_of_getElem? (i := 0) rfl)), List.forall_mem_cons.mpr ⟨(pl_wsX6_walk_wsX6_walk_r2 _ (List.mem_of_getElem? (i := 1) rfl)), List.forall_mem_cons.mpr ⟨(pl_wsX6_walk_wsX6_walk_r2 _ (List.mem_of_getElem? (i := 2) rfl)), List.forall_mem_cons.mpr ⟨(pl_wsX6_walk_wsX6_walk_r2 _ (List.mem_of_getElem? (i := 3) rfl)), List.forall_mem_cons.mpr ⟨(pl_wsX6_walk_wsX6_walk_r2 _ (List.mem_of_getElem? (i := 4) rfl)), List.forall_mem_cons.mpr ⟨(pl_wsX6_walk_wsX6_walk_r2 _ (List.mem_of_getElem? (i := 5) rfl)), List.forall_mem_cons.mpr ⟨(pl_wsX6_walk_wsX6_walk_r2 _ (List.mem_of_getElem? (i := 6) rfl)), List.forall_mem_cons.mpr ⟨(pl_wsX6_walk_wsX6_walk_r2 _ (List.mem_of_getElem? (i := 7) rfl)), List.forall_mem_cons.mpr ⟨(pl_wsX6_walk_wsX6_walk_r2 _ (List.mem_of_getElem? (i := 8) rfl)), List.forall_mem_cons.mpr ⟨(pl_wsX6_walk_wsX6_walk_r2 _ (List.mem_of_getElem? (i := 9) rfl)), List.forall_mem_cons.mpr ⟨(pl_wsX6_walk_wsX6_walk_r2 _ (List.mem_of_getElem? (i := 10) rfl)), fun _ h => absurd h List.not_mem_nil⟩⟩⟩⟩⟩⟩⟩⟩⟩⟩⟩⟩⟩⟩⟩⟩⟩⟩⟩⟩⟩⟩) w) (pl_wsX6_walk_wsX60 w))⟩) (by decide +kernel)
set_option maxRecDepth 20000 in
theorem gX6_walk_X6_loadIf : GoodIn wsX6_walk (wsV RX6 219 RX6 yX6_loadIf wsX6_loadIf) := goodIn_app (goodIn_sub (List.forall_mem_cons.mpr ⟨(pl_wsX6_walk_wsX6_walk_r1 _ (List.mem_of_getElem? (i := 13) rfl)), List.forall_mem_cons.mpr ⟨(pl_wsX6_walk_wsX6_walk_r1 _ (List.mem_of_getElem? (i := 14) rfl)), List.forall_mem_cons.mpr ⟨(pl_wsX6_walk_wsX6_walk_r1 _ (List.mem_of_getElem? (i := 15) rfl)), List.forall_mem_cons.mpr ⟨(pl_wsX6_walk_wsX6_walk_r1 _ (List.mem_of_getElem? (i := 8) rfl)), fun _ h => absurd h List.not_mem_nil⟩⟩⟩⟩) (by decide +kernel)) ggX6_walk_X6_loadIf
set_option maxRecDepth 20000 in
theorem ggX6_walk_X6_refuse : GoodIn wsX6_walk wsX6_refuse := goodIn_sub (List.forall_mem_cons.mpr ⟨(pl_wsX6_walk_wsX6_walk_r2 _ (List.mem_of_getElem? (i := 14) rfl)), (fun w h => (List.mem_append.mp h).elim ((List.forall_mem_cons.mpr ⟨(pl_wsX6_walk_wsX6_walk_r2 _ (List.mem_of_getElem? (i := 15) rfl)), fun _ h => absurd h List.not_mem_nil⟩) w) (pl_wsX6_walk_wsX60 w))⟩) (by decide +kernel)
set_option maxRecDepth 20000 in
theorem gX6_walk_X6_refuse : GoodIn wsX6_walk (wsV RX6 101 RX6 yX6_refuse wsX6_refuse) := goodIn_app (goodIn_sub (List.forall_mem_cons.mpr ⟨(pl_wsX6_walk_wsX6_walk_r2 _ (List.mem_of_getElem? (i := 11) rfl)), List.forall_mem_cons.mpr ⟨(pl_wsX6_walk_wsX6_walk_r2 _ (List.mem_of_getElem? (i := 12) rfl)), List.forall_mem_cons.mpr ⟨(pl_wsX6_walk_wsX6_walk_r2 _ (List.mem_of_getElem? (i := 13) rfl)), List.forall_mem_cons.mpr ⟨(pl_wsX6_walk_wsX6_walk_r1 _ (List.mem_of_getElem? (i := 8) rfl)), fun _ h => absurd h List.not_mem_nil⟩⟩⟩⟩) (by decide +kernel)) ggX6_walk_X6_refuse
set_option maxRecDepth 20000 in
theorem pl_wsX6_walk_wsX6_walk_r3 : ∀ w ∈ wsX6_walk_r3, w ∈ wsX6_walk := fun _ h => List.mem_cons_of_mem _ (List.mem_append_left _ (List.mem_append_right _ (List.mem_append_right _ (List.mem_append_left _ (h)))))
theorem pl_wsX6_walk_wsX6_walk_r4 : ∀ w ∈ wsX6_walk_r4, w ∈ wsX6_walk := fun _ h => List.mem_cons_of_mem _ (List.mem_append_left _ (List.mem_append_right _ (List.mem_append_right _ (List.mem_append_right _ (h)))))
theorem ggX6_walk_X6_go : GoodIn wsX6_walk wsX6_go := goodIn_sub (List.forall_mem_cons.mpr ⟨(pl_wsX6_walk_wsX6_walk_r2 _ (List.mem_of_getElem? (i := 19) rfl)), (fun w h => (List.mem_append.mp h).elim ((fun w h => (List.mem_append.mp h).elim ((List.forall_mem_cons.mpr ⟨(pl_wsX6_walk_wsX6_walk_r2 _ (List.mem_of_getElem? (i := 5) rfl)), List.forall_mem_cons.mpr ⟨(pl_wsX6_walk_wsX6_walk_r2 _ (List.mem_of_getElem? (i := 20) rfl)), List.forall_mem_cons.mpr ⟨(pl_wsX6_walk_wsX6_walk_r2 _ (List.mem_of_getElem? (i := 21) rfl)), List.forall_mem_cons.mpr ⟨(pl_wsX6_walk_wsX6_walk_r2 _ (List.mem_of_getElem? (i := 22) rfl)), List.forall_mem_cons.mpr ⟨(pl_wsX6_walk_wsX6_walk_r1 _ (List.mem_of_getElem? (i := 8) rfl)), List.forall_mem_cons.mpr ⟨(pl_wsX6_walk_wsX6_walk_r2 _ (List.mem_of_getElem? (i := 23) rfl)), List.forall_mem_cons.mpr ⟨(pl_wsX6_walk_wsX6_walk_r1 _ (List.mem_of_getElem? (i := 1) rfl)), List.forall_mem_cons.mpr ⟨(pl_wsX6_walk_wsX6_walk_r3 _ (List.mem_of_getElem? (i := 0) rfl)), List.forall_mem_cons.mpr ⟨(pl_wsX6_walk_wsX6_walk_r3 _ (List.mem_of_getElem? (i := 1) rfl)), List.forall_mem_cons.mpr ⟨(pl_wsX6_walk_wsX6_walk_r3 _ (List.mem_of_getElem? (i := 2) rfl)), List.forall_mem_cons.mpr ⟨(pl_wsX6_walk_wsX6_walk_r3 _ (List.mem_of_getElem? (i := 3) rfl)), List.forall_mem_cons.mpr ⟨(pl_wsX6_walk_wsX6_walk_r3 _ (List.mem_of_getElem? (i := 4) rfl)), List.forall_mem_cons.mpr ⟨(pl_wsX6_walk_wsX6_walk_r3 _ (List.mem_of_getElem? (i := 5) rfl)), List.forall_mem_cons.mpr ⟨(pl_wsX6_walk_wsX6_walk_r3 _ (List.mem_of_getElem? (i := 6) rfl)), List.forall_mem_cons.mpr ⟨(pl_wsX6_walk_wsX6_walk_r3 _ (List.mem_of_getElem? (i := 7) rfl)), List.forall_mem_cons.mpr ⟨(pl_wsX6_walk_wsX6_walk_r1 _ (List.mem_of_getElem? (i := 3) rfl)), List.forall_mem_cons.mpr ⟨(pl_wsX6_walk_wsX6_walk_r1 _ (List.mem_of_getElem? (i := 4) rfl)), List.forall_mem_cons.mpr ⟨(pl_wsX6_walk_wsX6_walk_r3 _ (List.mem_of_getElem? (i := 8) rfl)), List.forall_mem_cons.mpr ⟨(pl_wsX6_walk_wsX6_walk_r1 _ (List.mem_of_getElem? (i := 0) rfl)), List.forall_mem_cons.mpr ⟨(pl_wsX6_walk_wsX6_walk_r3 _ (List.mem_of_getElem? (i := 9) rfl)), List.forall_mem_cons.mpr ⟨(pl_wsX6_walk_wsX6_walk_r3 _ (List.mem_of_getElem? (i := 10) rfl)), List.forall_mem_cons.mpr ⟨(pl_wsX6_walk_wsX6_walk_r3 _ (List.mem_of_getElem? (i := 11) rfl)), List.forall_mem_cons.mpr ⟨(pl_wsX6_walk_wsX6_walk_r3 _ (List.mem_of_getElem? (i := 12) rfl)), List.forall_mem_cons.mpr ⟨(pl_wsX6_walk_wsX6_walk_r1 _ (List.mem_of_getElem? (i := 2) rfl)), fun _ h => absurd h List.not_mem_nil⟩⟩⟩⟩⟩⟩⟩⟩⟩⟩⟩⟩⟩⟩⟩⟩⟩⟩⟩⟩⟩⟩⟩⟩) w) ((fun w h => (List.mem_append.mp h).elim ((List.forall_mem_cons.mpr ⟨(pl_wsX6_walk_wsX6_walk_r3 _ (List.mem_of_getElem? (i := 13) rfl)), List.forall_mem_cons.mpr ⟨(pl_wsX6_walk_wsX6_walk_r3 _ (List.mem_of_getElem? (i := 14) rfl)), List.forall_mem_cons.mpr ⟨(pl_wsX6_walk_wsX6_walk_r3 _ (List.mem_of_getElem? (i := 15) rfl)), List.forall_mem_cons.mpr ⟨(pl_wsX6_walk_wsX6_walk_r3 _ (List.mem_of_getElem? (i := 16) rfl)), List.forall_mem_cons.mpr ⟨(pl_wsX6_walk_wsX6_walk_r3 _ (List.mem_of_getElem? (i := 17) rfl)), List.forall_mem_cons.mpr ⟨(pl_wsX6_walk_wsX6_walk_r3 _ (List.mem_of_getElem? (i := 18) rfl)), List.forall_mem_cons.mpr ⟨(pl_wsX6_walk_wsX6_walk_r1 _ (List.mem_of_getElem? (i := 10) rfl)), List.forall_mem_cons.mpr ⟨(pl_wsX6_walk_wsX6_walk_r1 _ (List.mem_of_getElem? (i := 11) rfl)), List.forall_mem_cons.mpr ⟨(pl_wsX6_walk_wsX6_walk_r1 _ (List.mem_of_getElem? (i := 12) rfl)), List.forall_mem_cons.mpr ⟨(pl_wsX6_walk_wsX6_walk_r3 _ (List.mem_of_getElem? (i := 19) rfl)), List.forall_mem_cons.mpr ⟨(pl_wsX6_walk_wsX6_walk_r3 _ (List.mem_of_getElem? (i := 20) rfl)), List.forall_mem_cons.mpr ⟨(pl_wsX6_walk_wsX6_walk_r3 _ (List.mem_of_getElem? (i := 21) rfl)), List.forall_mem_cons.mpr ⟨(pl_wsX6_walk_wsX6_walk_r3 _ (List.mem_of_getElem? (i := 22) rfl)), List.forall_mem_cons.mpr ⟨(pl_wsX6_walk_wsX6_walk_r3 _ (List.mem_of_getElem? (i := 23) rfl)), List.forall_mem_cons.mpr ⟨(pl_wsX6_walk_wsX6_walk_r4 _ (List.mem_of_getElem? (i := 0) rfl)), List.forall_mem_cons.mpr ⟨(pl_wsX6_walk_wsX6_walk_r4 _ (List.mem_of_getElem? (i := 1) rfl)), List.forall_mem_cons.mpr ⟨(pl_wsX6_walk_wsX6_walk_r4 _ (List.mem_of_getElem? (i := 2) rfl)), List.forall_mem_cons.mpr ⟨(pl_wsX6_walk_wsX6_walk_r4 _ (List.mem_of_getElem? (i := 3) rfl)), List.forall_mem_cons.mpr ⟨(pl_wsX6_walk_wsX6_walk_r4 _ (List.mem_of_getElem? (i := 4) rfl)), List.forall_mem_cons.mpr ⟨(pl_wsX6_walk_wsX6_walk_r4 _ (List.mem_of_getElem? (i := 5) rfl)), List.forall_mem_cons.mpr ⟨(pl_wsX6_walk_wsX6_walk_r4 _ (List.mem_of_getElem? (i := 6) rfl)), List.forall_mem_cons.mpr ⟨(pl_wsX6_walk_wsX6_walk_r4 _ (List.mem_of_getElem? (i := 7) rfl)), List.forall_mem_cons.mpr ⟨(pl_wsX6_walk_wsX6_walk_r4 _ (List.mem_of_getElem? (i := 8) rfl)), List.forall_mem_cons.mpr ⟨(pl_wsX6_walk_wsX6_walk_r4 _ (List.mem_of_getElem? (i := 9) rfl)), fun _ h => absurd h List.not_mem_nil⟩⟩⟩⟩⟩⟩⟩⟩⟩⟩⟩⟩⟩⟩⟩⟩⟩⟩⟩⟩⟩⟩⟩⟩) w) ((List.forall_mem_cons.mpr ⟨(pl_wsX6_walk_wsX6_walk_r4 _ (List.mem_of_getElem? (i := 10) rfl)), List.forall_mem_cons.mpr ⟨(pl_wsX6_walk_wsX6_walk_r4 _ (List.mem_of_getElem? (i := 11) rfl)), List.forall_mem_cons.mpr ⟨(pl_wsX6_walk_wsX6_walk_r4 _ (List.mem_of_getElem? (i := 12) rfl)), List.forall_mem_cons.mpr ⟨(pl_wsX6_walk_wsX6_walk_r4 _ (List.mem_of_getElem? (i := 13) rfl)), List.forall_mem_cons.mpr ⟨(pl_wsX6_walk_wsX6_walk_r4 _ (List.mem_of_getElem? (i := 14) rfl)), List.forall_mem_cons.mpr ⟨(pl_wsX6_walk_wsX6_walk_r4 _ (List.mem_of_getElem? (i := 15) rfl)), List.forall_mem_cons.mpr ⟨(pl_wsX6_walk_wsX6_walk_r4 _ (List.mem_of_getElem? (i := 16) rfl)), List.forall_mem_cons.mpr ⟨(pl_wsX6_walk_wsX6_walk_r4 _ (List.mem_of_getElem? (i := 17) rfl)), fun _ h => absurd h List.not_mem_nil⟩⟩⟩⟩⟩⟩⟩⟩) w)) w)) w) (pl_wsX6_walk_wsX60 w))⟩) (by decide +kernel)
set_option maxRecDepth 20000 in
theorem gX6_walk_X6_go : GoodIn wsX6_walk (wsV RX6 223 RX6 yX6_go wsX6_go) := goodIn_app (goodIn_sub (List.forall_mem_cons.mpr ⟨(pl_wsX6_walk_wsX6_walk_r2 _ (List.mem_of_getElem? (i := 16) rfl)), List.forall_mem_cons.mpr ⟨(pl_wsX6_walk_wsX6_walk_r2 _ (List.mem_of_getElem? (i := 17) rfl)), List.forall_mem_cons.mpr ⟨(pl_wsX6_walk_wsX6_walk_r2 _ (List.mem_of_getElem? (i := 18) rfl)), List.forall_mem_cons.mpr ⟨(pl_wsX6_walk_wsX6_walk_r1 _ (List.mem_of_getElem? (i := 8) rfl)), fun _ h => absurd h List.not_mem_nil⟩⟩⟩⟩) (by decide +kernel)) ggX6_walk_X6_go
set_option maxRecDepth 20000 in
theorem ggX6_walk_X6_cell : GoodIn wsX6_walk wsX6_cell := goodIn_sub (List.forall_mem_cons.mpr ⟨(pl_wsX6_walk_wsX6_walk_r2 _ (List.mem_of_getElem? (i := 23) rfl)), (fun w h => (List.mem_append.mp h).elim ((List.forall_mem_cons.mpr ⟨(pl_wsX6_walk_wsX6_walk_r1 _ (List.mem_of_getElem? (i := 1) rfl)), fun _ h => absurd h List.not_mem_nil⟩) w) (pl_wsX6_walk_wsX60 w))⟩) (by decide +kernel)
set_option maxRecDepth 20000 in
theorem gX6_walk_X6_cell : GoodIn wsX6_walk (wsV RX6 88 RX6 yX6_cell wsX6_cell) := goodIn_app (goodIn_sub (List.forall_mem_cons.mpr ⟨(pl_wsX6_walk_wsX6_walk_r2 _ (List.mem_of_getElem? (i := 20) rfl)), List.forall_mem_cons.mpr ⟨(pl_wsX6_walk_wsX6_walk_r2 _ (List.mem_of_getElem? (i := 21) rfl)), List.forall_mem_cons.mpr ⟨(pl_wsX6_walk_wsX6_walk_r2 _ (List.mem_of_getElem? (i := 22) rfl)), List.forall_mem_cons.mpr ⟨(pl_wsX6_walk_wsX6_walk_r1 _ (List.mem_of_getElem? (i := 8) rfl)), fun _ h => absurd h List.not_mem_nil⟩⟩⟩⟩) (by decide +kernel)) ggX6_walk_X6_cell
theorem dX6_walk_0 : decode cX6_walk 0 = .ok (.aload_n 0, 1) := by decide +kernel
theorem dX6_walk_1 : decode cX6_walk 1 = .ok (.aload_n 0, 1) := by decide +kernel
theorem dX6_walk_2 : decode cX6_walk 2 = .ok (.iload_n 3, 1) := by decide +kernel
theorem dX6_walk_3 : decode cX6_walk 3 = .ok (.invokevirtual 124, 3) := by decide +kernel
theorem dX6_walk_6 : decode cX6_walk 6 = .ok (.iload_n 1, 1) := by decide +kernel
theorem dX6_walk_7 : decode cX6_walk 7 = .ok (.iload_n 2, 1) := by decide +kernel
theorem dX6_walk_8 : decode cX6_walk 8 = .ok (.invokevirtual 219, 3) := by decide +kernel
theorem dX6_walk_11 : decode cX6_walk 11 = .ok (.istore 4, 2) := by decide +kernel
theorem dX6_walk_13 : decode cX6_walk 13 = .ok (.iload 4, 2) := by decide +kernel
theorem dX6_walk_15 : decode cX6_walk 15 = .ok (.ifCond .ge 10, 3) := by decide +kernel
theorem dX6_walk_18 : decode cX6_walk 18 = .ok (.aload_n 0, 1) := by decide +kernel
theorem dX6_walk_19 : decode cX6_walk 19 = .ok (.iload 4, 2) := by decide +kernel
theorem dX6_walk_21 : decode cX6_walk 21 = .ok (.invokevirtual 101, 3) := by decide +kernel
theorem dX6_walk_24 : decode cX6_walk 24 = .ok (.ireturn, 1) := by decide +kernel
theorem dX6_walk_25 : decode cX6_walk 25 = .ok (.aload_n 0, 1) := by decide +kernel
theorem dX6_walk_26 : decode cX6_walk 26 = .ok (.iload_n 3, 1) := by decide +kernel
theorem dX6_walk_27 : decode cX6_walk 27 = .ok (.iload_n 2, 1) := by decide +kernel
theorem dX6_walk_28 : decode cX6_walk 28 = .ok (.invokevirtual 223, 3) := by decide +kernel
theorem dX6_walk_31 : decode cX6_walk 31 = .ok (.aload_n 0, 1) := by decide +kernel
theorem dX6_walk_32 : decode cX6_walk 32 = .ok (.getfield 48, 3) := by decide +kernel
theorem dX6_walk_35 : decode cX6_walk 35 = .ok (.iconst 0, 1) := by decide +kernel
theorem dX6_walk_36 : decode cX6_walk 36 = .ok (.iaload, 1) := by decide +kernel
theorem dX6_walk_37 : decode cX6_walk 37 = .ok (.iconst (-1), 1) := by decide +kernel
theorem dX6_walk_38 : decode cX6_walk 38 = .ok (.if_icmp .eq 7, 3) := by decide +kernel
theorem dX6_walk_41 : decode cX6_walk 41 = .ok (.iconst 1, 1) := by decide +kernel
theorem dX6_walk_42 : decode cX6_walk 42 = .ok (.goto 4, 3) := by decide +kernel
theorem dX6_walk_45 : decode cX6_walk 45 = .ok (.iconst 0, 1) := by decide +kernel
theorem dX6_walk_46 : decode cX6_walk 46 = .ok (.istore 5, 2) := by decide +kernel
theorem dX6_walk_48 : decode cX6_walk 48 = .ok (.aload_n 0, 1) := by decide +kernel
theorem dX6_walk_49 : decode cX6_walk 49 = .ok (.getfield 17, 3) := by decide +kernel
theorem dX6_walk_52 : decode cX6_walk 52 = .ok (.iconst 5, 1) := by decide +kernel
theorem dX6_walk_53 : decode cX6_walk 53 = .ok (.iload_n 3, 1) := by decide +kernel
theorem dX6_walk_54 : decode cX6_walk 54 = .ok (.imul, 1) := by decide +kernel
theorem dX6_walk_55 : decode cX6_walk 55 = .ok (.iconst 2, 1) := by decide +kernel
theorem dX6_walk_56 : decode cX6_walk 56 = .ok (.iadd, 1) := by decide +kernel
theorem dX6_walk_57 : decode cX6_walk 57 = .ok (.iload 5, 2) := by decide +kernel
theorem dX6_walk_59 : decode cX6_walk 59 = .ok (.ifCond .eq 10, 3) := by decide +kernel
theorem dX6_walk_62 : decode cX6_walk 62 = .ok (.aload_n 0, 1) := by decide +kernel
theorem dX6_walk_63 : decode cX6_walk 63 = .ok (.getfield 185, 3) := by decide +kernel
theorem dX6_walk_66 : decode cX6_walk 66 = .ok (.goto 9, 3) := by decide +kernel
theorem dX6_walk_69 : decode cX6_walk 69 = .ok (.aload_n 0, 1) := by decide +kernel
theorem dX6_walk_70 : decode cX6_walk 70 = .ok (.getfield 33, 3) := by decide +kernel
theorem dX6_walk_73 : decode cX6_walk 73 = .ok (.iconst 0, 1) := by decide +kernel
theorem dX6_walk_74 : decode cX6_walk 74 = .ok (.iaload, 1) := by decide +kernel
theorem dX6_walk_75 : decode cX6_walk 75 = .ok (.iastore, 1) := by decide +kernel
theorem dX6_walk_76 : decode cX6_walk 76 = .ok (.aload_n 0, 1) := by decide +kernel
theorem dX6_walk_77 : decode cX6_walk 77 = .ok (.getfield 17, 3) := by decide +kernel
theorem dX6_walk_80 : decode cX6_walk 80 = .ok (.iconst 5, 1) := by decide +kernel
theorem dX6_walk_81 : decode cX6_walk 81 = .ok (.iload_n 3, 1) := by decide +kernel
theorem dX6_walk_82 : decode cX6_walk 82 = .ok (.imul, 1) := by decide +kernel
theorem dX6_walk_83 : decode cX6_walk 83 = .ok (.iconst 3, 1) := by decide +kernel
theorem dX6_walk_84 : decode cX6_walk 84 = .ok (.iadd, 1) := by decide +kernel
theorem dX6_walk_85 : decode cX6_walk 85 = .ok (.aload_n 0, 1) := by decide +kernel
theorem dX6_walk_86 : decode cX6_walk 86 = .ok (.getfield 36, 3) := by decide +kernel
theorem dX6_walk_89 : decode cX6_walk 89 = .ok (.iconst 0, 1) := by decide +kernel
theorem dX6_walk_90 : decode cX6_walk 90 = .ok (.iaload, 1) := by decide +kernel
theorem dX6_walk_91 : decode cX6_walk 91 = .ok (.iastore, 1) := by decide +kernel
theorem dX6_walk_92 : decode cX6_walk 92 = .ok (.aload_n 0, 1) := by decide +kernel
theorem dX6_walk_93 : decode cX6_walk 93 = .ok (.getfield 17, 3) := by decide +kernel
theorem dX6_walk_96 : decode cX6_walk 96 = .ok (.bipush 95, 2) := by decide +kernel
theorem dX6_walk_98 : decode cX6_walk 98 = .ok (.dup2, 1) := by decide +kernel
theorem dX6_walk_99 : decode cX6_walk 99 = .ok (.iaload, 1) := by decide +kernel
theorem dX6_walk_100 : decode cX6_walk 100 = .ok (.iload 5, 2) := by decide +kernel
theorem dX6_walk_102 : decode cX6_walk 102 = .ok (.ifCond .eq 7, 3) := by decide +kernel
theorem dX6_walk_105 : decode cX6_walk 105 = .ok (.iconst 1, 1) := by decide +kernel
theorem dX6_walk_106 : decode cX6_walk 106 = .ok (.goto 4, 3) := by decide +kernel
theorem dX6_walk_109 : decode cX6_walk 109 = .ok (.iconst 0, 1) := by decide +kernel
theorem dX6_walk_110 : decode cX6_walk 110 = .ok (.iadd, 1) := by decide +kernel
theorem dX6_walk_111 : decode cX6_walk 111 = .ok (.iastore, 1) := by decide +kernel
theorem dX6_walk_112 : decode cX6_walk 112 = .ok (.aload_n 0, 1) := by decide +kernel
theorem dX6_walk_113 : decode cX6_walk 113 = .ok (.iload_n 3, 1) := by decide +kernel
theorem dX6_walk_114 : decode cX6_walk 114 = .ok (.invokevirtual 88, 3) := by decide +kernel
theorem dX6_walk_117 : decode cX6_walk 117 = .ok (.ireturn, 1) := by decide +kernel
theorem dX6_draw_0 : decode cX6_draw 0 = .ok (.aload_n 0, 1) := by decide +kernel
theorem dX6_draw_1 : decode cX6_draw 1 = .ok (.getfield 17, 3) := by decide +kernel
theorem dX6_draw_4 : decode cX6_draw 4 = .ok (.bipush 96, 2) := by decide +kernel
theorem dX6_draw_6 : decode cX6_draw 6 = .ok (.aload_n 0, 1) := by decide +kernel
theorem dX6_draw_7 : decode cX6_draw 7 = .ok (.getfield 17, 3) := by decide +kernel
theorem dX6_draw_10 : decode cX6_draw 10 = .ok (.bipush 96, 2) := by decide +kernel
theorem dX6_draw_12 : decode cX6_draw 12 = .ok (.iaload, 1) := by decide +kernel
theorem dX6_draw_13 : decode cX6_draw 13 = .ok (.ldc_w 273, 3) := by decide +kernel
theorem dX6_draw_16 : decode cX6_draw 16 = .ok (.imul, 1) := by decide +kernel
theorem dX6_draw_17 : decode cX6_draw 17 = .ok (.sipush 12345, 3) := by decide +kernel
theorem dX6_draw_20 : decode cX6_draw 20 = .ok (.iadd, 1) := by decide +kernel
theorem dX6_draw_21 : decode cX6_draw 21 = .ok (.iastore, 1) := by decide +kernel
theorem dX6_draw_22 : decode cX6_draw 22 = .ok (.aload_n 0, 1) := by decide +kernel
theorem dX6_draw_23 : decode cX6_draw 23 = .ok (.getfield 17, 3) := by decide +kernel
theorem dX6_draw_26 : decode cX6_draw 26 = .ok (.bipush 96, 2) := by decide +kernel
theorem dX6_draw_28 : decode cX6_draw 28 = .ok (.iaload, 1) := by decide +kernel
theorem dX6_draw_29 : decode cX6_draw 29 = .ok (.bipush 16, 2) := by decide +kernel
theorem dX6_draw_31 : decode cX6_draw 31 = .ok (.iushr, 1) := by decide +kernel
theorem dX6_draw_32 : decode cX6_draw 32 = .ok (.iload_n 1, 1) := by decide +kernel
theorem dX6_draw_33 : decode cX6_draw 33 = .ok (.irem, 1) := by decide +kernel
theorem dX6_draw_34 : decode cX6_draw 34 = .ok (.ireturn, 1) := by decide +kernel
set_option maxRecDepth 20000 in
theorem pl_wsX6_years_wsX6_years_r1 : ∀ w ∈ wsX6_years_r1, w ∈ wsX6_years := fun _ h => List.mem_cons_of_mem _ (List.mem_append_left _ (List.mem_append_left _ (h)))
theorem ggX6_years_X6_isIn : GoodIn wsX6_years wsX6_isIn := goodIn_sub (List.forall_mem_cons.mpr ⟨(pl_wsX6_years_wsX6_years_r1 _ (List.mem_of_getElem? (i := 5) rfl)), (fun _ h => absurd h List.not_mem_nil)⟩) (by decide +kernel)
set_option maxRecDepth 20000 in
theorem gX6_years_X6_isIn : GoodIn wsX6_years (va_wsS RX6 76 yX6_isIn wsX6_isIn) := goodIn_app (goodIn_sub (List.forall_mem_cons.mpr ⟨(pl_wsX6_years_wsX6_years_r1 _ (List.mem_of_getElem? (i := 2) rfl)), List.forall_mem_cons.mpr ⟨(pl_wsX6_years_wsX6_years_r1 _ (List.mem_of_getElem? (i := 3) rfl)), List.forall_mem_cons.mpr ⟨(pl_wsX6_years_wsX6_years_r1 _ (List.mem_of_getElem? (i := 4) rfl)), fun _ h => absurd h List.not_mem_nil⟩⟩⟩) (by decide +kernel)) ggX6_years_X6_isIn
set_option maxRecDepth 20000 in
theorem pl_wsX6_years_wsX60 : ∀ w ∈ wsX60, w ∈ wsX6_years := fun _ h => List.mem_cons_of_mem _ (List.mem_append_right _ (h))
theorem ggX6_years_X6_refuse : GoodIn wsX6_years wsX6_refuse := goodIn_sub (List.forall_mem_cons.mpr ⟨(pl_wsX6_years_wsX6_years_r1 _ (List.mem_of_getElem? (i := 9) rfl)), (fun w h => (List.mem_append.mp h).elim ((List.forall_mem_cons.mpr ⟨(pl_wsX6_years_wsX6_years_r1 _ (List.mem_of_getElem? (i := 10) rfl)), fun _ h => absurd h List.not_mem_nil⟩) w) (pl_wsX6_years_wsX60 w))⟩) (by decide +kernel)
set_option maxRecDepth 20000 in
theorem gX6_years_X6_refuse : GoodIn wsX6_years (wsV RX6 101 RX6 yX6_refuse wsX6_refuse) := goodIn_app (goodIn_sub (List.forall_mem_cons.mpr ⟨(pl_wsX6_years_wsX6_years_r1 _ (List.mem_of_getElem? (i := 6) rfl)), List.forall_mem_cons.mpr ⟨(pl_wsX6_years_wsX6_years_r1 _ (List.mem_of_getElem? (i := 7) rfl)), List.forall_mem_cons.mpr ⟨(pl_wsX6_years_wsX6_years_r1 _ (List.mem_of_getElem? (i := 8) rfl)), List.forall_mem_cons.mpr ⟨(pl_wsX6_years_wsX6_years_r1 _ (List.mem_of_getElem? (i := 4) rfl)), fun _ h => absurd h List.not_mem_nil⟩⟩⟩⟩) (by decide +kernel)) ggX6_years_X6_refuse
set_option maxRecDepth 20000 in
theorem pl_wsX6_years_wsX6_years_r2 : ∀ w ∈ wsX6_years_r2, w ∈ wsX6_years := fun _ h => List.mem_cons_of_mem _ (List.mem_append_left _ (List.mem_append_right _ (h)))
theorem ggX6_years_X6_carries : GoodIn wsX6_years wsX6_carries := goodIn_sub (List.forall_mem_cons.mpr ⟨(pl_wsX6_years_wsX6_years_r1 _ (List.mem_of_getElem? (i := 14) rfl)), (fun w h => (List.mem_append.mp h).elim ((List.forall_mem_cons.mpr ⟨(pl_wsX6_years_wsX6_years_r1 _ (List.mem_of_getElem? (i := 1) rfl)), List.forall_mem_cons.mpr ⟨(pl_wsX6_years_wsX6_years_r1 _ (List.mem_of_getElem? (i := 15) rfl)), List.forall_mem_cons.mpr ⟨(pl_wsX6_years_wsX6_years_r1 _ (List.mem_of_getElem? (i := 16) rfl)), List.forall_mem_cons.mpr ⟨(pl_wsX6_years_wsX6_years_r1 _ (List.mem_of_getElem? (i := 17) rfl)), List.forall_mem_cons.mpr ⟨(pl_wsX6_years_wsX6_years_r1 _ (List.mem_of_getElem? (i := 4) rfl)), List.forall_mem_cons.mpr ⟨(pl_wsX6_years_wsX6_years_r1 _ (List.mem_of_getElem? (i := 18) rfl)), List.forall_mem_cons.mpr ⟨(pl_wsX6_years_wsX6_years_r1 _ (List.mem_of_getElem? (i := 19) rfl)), List.forall_mem_cons.mpr ⟨(pl_wsX6_years_wsX6_years_r1 _ (List.mem_of_getElem? (i := 20) rfl)), List.forall_mem_cons.mpr ⟨(pl_wsX6_years_wsX6_years_r1 _ (List.mem_of_getElem? (i := 21) rfl)), List.forall_mem_cons.mpr ⟨(pl_wsX6_years_wsX6_years_r1 _ (List.mem_of_getElem? (i := 22) rfl)), List.forall_mem_cons.mpr ⟨(pl_wsX6_years_wsX6_years_r1 _ (List.mem_of_getElem? (i := 23) rfl)), List.forall_mem_cons.mpr ⟨(pl_wsX6_years_wsX6_years_r2 _ (List.mem_of_getElem? (i := 0) rfl)), List.forall_mem_cons.mpr ⟨(pl_wsX6_years_wsX6_years_r2 _ (List.mem_of_getElem? (i := 1) rfl)), List.forall_mem_cons.mpr ⟨(pl_wsX6_years_wsX6_years_r2 _ (List.mem_of_getElem? (i := 2) rfl)), List.forall_mem_cons.mpr ⟨(pl_wsX6_years_wsX6_years_r2 _ (List.mem_of_getElem? (i := 3) rfl)), List.forall_mem_cons.mpr ⟨(pl_wsX6_years_wsX6_years_r2 _ (List.mem_of_getElem? (i := 4) rfl)), List.forall_mem_cons.mpr ⟨(pl_wsX6_years_wsX6_years_r2 _ (List.mem_of_getElem? (i := 5) rfl)), List.forall_mem_cons.mpr ⟨(pl_wsX6_years_wsX6_years_r2 _ (List.mem_of_getElem? (i := 6) rfl)), fun _ h => absurd h List.not_mem_nil⟩⟩⟩⟩⟩⟩⟩⟩⟩⟩⟩⟩⟩⟩⟩⟩⟩⟩) w) (pl_wsX6_years_wsX60 w))⟩) (by decide +kernel)
set_option maxRecDepth 20000 in
theorem gX6_years_X6_carries : GoodIn wsX6_years (wsV RX6 251 RX6 yX6_carries wsX6_carries) := goodIn_app (goodIn_sub (List.forall_mem_cons.mpr ⟨(pl_wsX6_years_wsX6_years_r1 _ (List.mem_of_getElem? (i := 11) rfl)), List.forall_mem_cons.mpr ⟨(pl_wsX6_years_wsX6_years_r1 _ (List.mem_of_getElem? (i := 12) rfl)), List.forall_mem_cons.mpr ⟨(pl_wsX6_years_wsX6_years_r1 _ (List.mem_of_getElem? (i := 13) rfl)), List.forall_mem_cons.mpr ⟨(pl_wsX6_years_wsX6_years_r1 _ (List.mem_of_getElem? (i := 4) rfl)), fun _ h => absurd h List.not_mem_nil⟩⟩⟩⟩) (by decide +kernel)) ggX6_years_X6_carries
set_option maxRecDepth 20000 in
theorem ggX6_years_X6_many : GoodIn wsX6_years wsX6_many := goodIn_sub (List.forall_mem_cons.mpr ⟨(pl_wsX6_years_wsX6_years_r1 _ (List.mem_of_getElem? (i := 22) rfl)), (fun w h => (List.mem_append.mp h).elim ((List.forall_mem_cons.mpr ⟨(pl_wsX6_years_wsX6_years_r1 _ (List.mem_of_getElem? (i := 1) rfl)), fun _ h => absurd h List.not_mem_nil⟩) w) (pl_wsX6_years_wsX60 w))⟩) (by decide +kernel)
set_option maxRecDepth 20000 in
theorem gX6_years_X6_many : GoodIn wsX6_years (wsV RX6 84 RX6 yX6_many wsX6_many) := goodIn_app (goodIn_sub (List.forall_mem_cons.mpr ⟨(pl_wsX6_years_wsX6_years_r1 _ (List.mem_of_getElem? (i := 19) rfl)), List.forall_mem_cons.mpr ⟨(pl_wsX6_years_wsX6_years_r1 _ (List.mem_of_getElem? (i := 20) rfl)), List.forall_mem_cons.mpr ⟨(pl_wsX6_years_wsX6_years_r1 _ (List.mem_of_getElem? (i := 21) rfl)), List.forall_mem_cons.mpr ⟨(pl_wsX6_years_wsX6_years_r1 _ (List.mem_of_getElem? (i := 4) rfl)), fun _ h => absurd h List.not_mem_nil⟩⟩⟩⟩) (by decide +kernel)) ggX6_years_X6_many
set_option maxRecDepth 20000 in
theorem ggX6_years_X6_draw : GoodIn wsX6_years wsX6_draw := goodIn_sub (List.forall_mem_cons.mpr ⟨(pl_wsX6_years_wsX6_years_r2 _ (List.mem_of_getElem? (i := 10) rfl)), (fun w h => (List.mem_append.mp h).elim ((List.forall_mem_cons.mpr ⟨(pl_wsX6_years_wsX6_years_r1 _ (List.mem_of_getElem? (i := 1) rfl)), List.forall_mem_cons.mpr ⟨(pl_wsX6_years_wsX6_years_r2 _ (List.mem_of_getElem? (i := 11) rfl)), fun _ h => absurd h List.not_mem_nil⟩⟩) w) (pl_wsX6_years_wsX60 w))⟩) (by decide +kernel)
set_option maxRecDepth 20000 in
theorem gX6_years_X6_draw : GoodIn wsX6_years (wsV RX6 276 RX6 yX6_draw wsX6_draw) := goodIn_app (goodIn_sub (List.forall_mem_cons.mpr ⟨(pl_wsX6_years_wsX6_years_r2 _ (List.mem_of_getElem? (i := 7) rfl)), List.forall_mem_cons.mpr ⟨(pl_wsX6_years_wsX6_years_r2 _ (List.mem_of_getElem? (i := 8) rfl)), List.forall_mem_cons.mpr ⟨(pl_wsX6_years_wsX6_years_r2 _ (List.mem_of_getElem? (i := 9) rfl)), List.forall_mem_cons.mpr ⟨(pl_wsX6_years_wsX6_years_r1 _ (List.mem_of_getElem? (i := 4) rfl)), fun _ h => absurd h List.not_mem_nil⟩⟩⟩⟩) (by decide +kernel)) ggX6_years_X6_draw
theorem dX6_years_0 : decode cX6_years 0 = .ok (.iload_n 1, 1) := by decide +kernel
theorem dX6_years_1 : decode cX6_years 1 = .ok (.i2l, 1) := by decide +kernel
theorem dX6_years_2 : decode cX6_years 2 = .ok (.lconst 1, 1) := by decide +kernel
theorem dX6_years_3 : decode cX6_years 3 = .ok (.ldc2_w 274, 3) := by decide +kernel
theorem dX6_years_6 : decode cX6_years 6 = .ok (.invokestatic 76, 3) := by decide +kernel
theorem dX6_years_9 : decode cX6_years 9 = .ok (.ifCond .ne 10, 3) := by decide +kernel
theorem dX6_years_12 : decode cX6_years 12 = .ok (.aload_n 0, 1) := by decide +kernel
theorem dX6_years_13 : decode cX6_years 13 = .ok (.bipush (-2), 2) := by decide +kernel
theorem dX6_years_15 : decode cX6_years 15 = .ok (.invokevirtual 101, 3) := by decide +kernel
theorem dX6_years_18 : decode cX6_years 18 = .ok (.ireturn, 1) := by decide +kernel
theorem dX6_years_19 : decode cX6_years 19 = .ok (.iconst 0, 1) := by decide +kernel
theorem dX6_years_20 : decode cX6_years 20 = .ok (.istore_n 2, 1) := by decide +kernel
theorem dX6_years_21 : decode cX6_years 21 = .ok (.iload_n 2, 1) := by decide +kernel
theorem dX6_years_22 : decode cX6_years 22 = .ok (.iload_n 1, 1) := by decide +kernel
theorem dX6_years_23 : decode cX6_years 23 = .ok (.if_icmp .ge 100, 3) := by decide +kernel
theorem dX6_years_26 : decode cX6_years 26 = .ok (.aload_n 0, 1) := by decide +kernel
theorem dX6_years_27 : decode cX6_years 27 = .ok (.invokevirtual 251, 3) := by decide +kernel
theorem dX6_years_30 : decode cX6_years 30 = .ok (.istore_n 3, 1) := by decide +kernel
theorem dX6_years_31 : decode cX6_years 31 = .ok (.aload_n 0, 1) := by decide +kernel
theorem dX6_years_32 : decode cX6_years 32 = .ok (.getfield 17, 3) := by decide +kernel
theorem dX6_years_35 : decode cX6_years 35 = .ok (.bipush 92, 2) := by decide +kernel
theorem dX6_years_37 : decode cX6_years 37 = .ok (.aload_n 0, 1) := by decide +kernel
theorem dX6_years_38 : decode cX6_years 38 = .ok (.getfield 17, 3) := by decide +kernel
theorem dX6_years_41 : decode cX6_years 41 = .ok (.bipush 91, 2) := by decide +kernel
theorem dX6_years_43 : decode cX6_years 43 = .ok (.iaload, 1) := by decide +kernel
theorem dX6_years_44 : decode cX6_years 44 = .ok (.iastore, 1) := by decide +kernel
theorem dX6_years_45 : decode cX6_years 45 = .ok (.aload_n 0, 1) := by decide +kernel
theorem dX6_years_46 : decode cX6_years 46 = .ok (.getfield 17, 3) := by decide +kernel
theorem dX6_years_49 : decode cX6_years 49 = .ok (.bipush 91, 2) := by decide +kernel
theorem dX6_years_51 : decode cX6_years 51 = .ok (.iload_n 3, 1) := by decide +kernel
theorem dX6_years_52 : decode cX6_years 52 = .ok (.iastore, 1) := by decide +kernel
theorem dX6_years_53 : decode cX6_years 53 = .ok (.iconst 0, 1) := by decide +kernel
theorem dX6_years_54 : decode cX6_years 54 = .ok (.istore 4, 2) := by decide +kernel
theorem dX6_years_56 : decode cX6_years 56 = .ok (.iload 4, 2) := by decide +kernel
theorem dX6_years_58 : decode cX6_years 58 = .ok (.aload_n 0, 1) := by decide +kernel
theorem dX6_years_59 : decode cX6_years 59 = .ok (.invokevirtual 84, 3) := by decide +kernel
theorem dX6_years_62 : decode cX6_years 62 = .ok (.if_icmp .ge 44, 3) := by decide +kernel
theorem dX6_years_65 : decode cX6_years 65 = .ok (.aload_n 0, 1) := by decide +kernel
theorem dX6_years_66 : decode cX6_years 66 = .ok (.getfield 17, 3) := by decide +kernel
theorem dX6_years_69 : decode cX6_years 69 = .ok (.iconst 5, 1) := by decide +kernel
theorem dX6_years_70 : decode cX6_years 70 = .ok (.iload 4, 2) := by decide +kernel
theorem dX6_years_72 : decode cX6_years 72 = .ok (.imul, 1) := by decide +kernel
theorem dX6_years_73 : decode cX6_years 73 = .ok (.iconst 4, 1) := by decide +kernel
theorem dX6_years_74 : decode cX6_years 74 = .ok (.iadd, 1) := by decide +kernel
theorem dX6_years_75 : decode cX6_years 75 = .ok (.dup2, 1) := by decide +kernel
theorem dX6_years_76 : decode cX6_years 76 = .ok (.iaload, 1) := by decide +kernel
theorem dX6_years_77 : decode cX6_years 77 = .ok (.aload_n 0, 1) := by decide +kernel
theorem dX6_years_78 : decode cX6_years 78 = .ok (.bipush 12, 2) := by decide +kernel
theorem dX6_years_80 : decode cX6_years 80 = .ok (.invokevirtual 276, 3) := by decide +kernel
theorem dX6_years_83 : decode cX6_years 83 = .ok (.aload_n 0, 1) := by decide +kernel
theorem dX6_years_84 : decode cX6_years 84 = .ok (.getfield 17, 3) := by decide +kernel
theorem dX6_years_87 : decode cX6_years 87 = .ok (.bipush 93, 2) := by decide +kernel
theorem dX6_years_89 : decode cX6_years 89 = .ok (.iaload, 1) := by decide +kernel
theorem dX6_years_90 : decode cX6_years 90 = .ok (.if_icmp .ge 7, 3) := by decide +kernel
theorem dX6_years_93 : decode cX6_years 93 = .ok (.iconst 1, 1) := by decide +kernel
theorem dX6_years_94 : decode cX6_years 94 = .ok (.goto 4, 3) := by decide +kernel
theorem dX6_years_97 : decode cX6_years 97 = .ok (.iconst 0, 1) := by decide +kernel
theorem dX6_years_98 : decode cX6_years 98 = .ok (.ixor, 1) := by decide +kernel
theorem dX6_years_99 : decode cX6_years 99 = .ok (.iastore, 1) := by decide +kernel
theorem dX6_years_100 : decode cX6_years 100 = .ok (.iinc 4 1, 3) := by decide +kernel
theorem dX6_years_103 : decode cX6_years 103 = .ok (.goto (-47), 3) := by decide +kernel
theorem dX6_years_106 : decode cX6_years 106 = .ok (.aload_n 0, 1) := by decide +kernel
theorem dX6_years_107 : decode cX6_years 107 = .ok (.getfield 17, 3) := by decide +kernel
theorem dX6_years_110 : decode cX6_years 110 = .ok (.bipush 94, 2) := by decide +kernel
theorem dX6_years_112 : decode cX6_years 112 = .ok (.dup2, 1) := by decide +kernel
theorem dX6_years_113 : decode cX6_years 113 = .ok (.iaload, 1) := by decide +kernel
theorem dX6_years_114 : decode cX6_years 114 = .ok (.iconst 1, 1) := by decide +kernel
theorem dX6_years_115 : decode cX6_years 115 = .ok (.iadd, 1) := by decide +kernel
theorem dX6_years_116 : decode cX6_years 116 = .ok (.iastore, 1) := by decide +kernel
theorem dX6_years_117 : decode cX6_years 117 = .ok (.iinc 2 1, 3) := by decide +kernel
theorem dX6_years_120 : decode cX6_years 120 = .ok (.goto (-99), 3) := by decide +kernel
theorem dX6_years_123 : decode cX6_years 123 = .ok (.aload_n 0, 1) := by decide +kernel
theorem dX6_years_124 : decode cX6_years 124 = .ok (.getfield 17, 3) := by decide +kernel
theorem dX6_years_127 : decode cX6_years 127 = .ok (.bipush 91, 2) := by decide +kernel
theorem dX6_years_129 : decode cX6_years 129 = .ok (.iaload, 1) := by decide +kernel
theorem dX6_years_130 : decode cX6_years 130 = .ok (.ireturn, 1) := by decide +kernel
theorem dX6_seed_0 : decode cX6_seed 0 = .ok (.aload_n 0, 1) := by decide +kernel
theorem dX6_seed_1 : decode cX6_seed 1 = .ok (.getfield 17, 3) := by decide +kernel
theorem dX6_seed_4 : decode cX6_seed 4 = .ok (.bipush 96, 2) := by decide +kernel
theorem dX6_seed_6 : decode cX6_seed 6 = .ok (.iaload, 1) := by decide +kernel
theorem dX6_seed_7 : decode cX6_seed 7 = .ok (.istore_n 2, 1) := by decide +kernel
theorem dX6_seed_8 : decode cX6_seed 8 = .ok (.aload_n 0, 1) := by decide +kernel
theorem dX6_seed_9 : decode cX6_seed 9 = .ok (.getfield 17, 3) := by decide +kernel
theorem dX6_seed_12 : decode cX6_seed 12 = .ok (.bipush 96, 2) := by decide +kernel
theorem dX6_seed_14 : decode cX6_seed 14 = .ok (.iload_n 1, 1) := by decide +kernel
theorem dX6_seed_15 : decode cX6_seed 15 = .ok (.iastore, 1) := by decide +kernel
theorem dX6_seed_16 : decode cX6_seed 16 = .ok (.iload_n 2, 1) := by decide +kernel
theorem dX6_seed_17 : decode cX6_seed 17 = .ok (.ireturn, 1) := by decide +kernel
set_option maxRecDepth 20000 in
theorem ggX6_image_X6_move : GoodIn wsX6_image wsX6_move := goodIn_sub (List.forall_mem_cons.mpr ⟨(List.mem_cons_of_mem _ (List.mem_append_left _ (List.mem_of_getElem? (i := 6) rfl))), (fun _ h => absurd h List.not_mem_nil)⟩) (by decide +kernel)
set_option maxRecDepth 20000 in
theorem gX6_image_X6_move : GoodIn wsX6_image (va_wsS RX6 172 yX6_move wsX6_move) := goodIn_app (goodIn_sub (List.forall_mem_cons.mpr ⟨(List.mem_cons_of_mem _ (List.mem_append_left _ (List.mem_of_getElem? (i := 3) rfl))), List.forall_mem_cons.mpr ⟨(List.mem_cons_of_mem _ (List.mem_append_left _ (List.mem_of_getElem? (i := 4) rfl))), List.forall_mem_cons.mpr ⟨(List.mem_cons_of_mem _ (List.mem_append_left _ (List.mem_of_getElem? (i := 5) rfl))), fun _ h => absurd h List.not_mem_nil⟩⟩⟩) (by decide +kernel)) ggX6_image_X6_move
theorem dX6_image_0 : decode cX6_image 0 = .ok (.aload_n 0, 1) := by decide +kernel
theorem dX6_image_1 : decode cX6_image 1 = .ok (.getfield 17, 3) := by decide +kernel
theorem dX6_image_4 : decode cX6_image 4 = .ok (.aload_n 0, 1) := by decide +kernel
theorem dX6_image_5 : decode cX6_image 5 = .ok (.getfield 20, 3) := by decide +kernel
theorem dX6_image_8 : decode cX6_image 8 = .ok (.invokestatic 172, 3) := by decide +kernel
theorem dX6_image_11 : decode cX6_image 11 = .ok (.aload_n 0, 1) := by decide +kernel
theorem dX6_image_12 : decode cX6_image 12 = .ok (.iconst 1, 1) := by decide +kernel
theorem dX6_image_13 : decode cX6_image 13 = .ok (.putfield 279, 3) := by decide +kernel
theorem dX6_image_16 : decode cX6_image 16 = .ok (.iconst 1, 1) := by decide +kernel
theorem dX6_image_17 : decode cX6_image 17 = .ok (.ireturn, 1) := by decide +kernel
set_option maxRecDepth 20000 in
theorem pl_wsX6_back_wsX60 : ∀ w ∈ wsX60, w ∈ wsX6_back := fun _ h => List.mem_cons_of_mem _ (List.mem_append_right _ (h))
theorem ggX6_back_X6_refuse : GoodIn wsX6_back wsX6_refuse := goodIn_sub (List.forall_mem_cons.mpr ⟨(List.mem_cons_of_mem _ (List.mem_append_left _ (List.mem_of_getElem? (i := 8) rfl))), (fun w h => (List.mem_append.mp h).elim ((List.forall_mem_cons.mpr ⟨(List.mem_cons_of_mem _ (List.mem_append_left _ (List.mem_of_getElem? (i := 9) rfl))), fun _ h => absurd h List.not_mem_nil⟩) w) (pl_wsX6_back_wsX60 w))⟩) (by decide +kernel)
set_option maxRecDepth 20000 in
theorem gX6_back_X6_refuse : GoodIn wsX6_back (wsV RX6 101 RX6 yX6_refuse wsX6_refuse) := goodIn_app (goodIn_sub (List.forall_mem_cons.mpr ⟨(List.mem_cons_of_mem _ (List.mem_append_left _ (List.mem_of_getElem? (i := 4) rfl))), List.forall_mem_cons.mpr ⟨(List.mem_cons_of_mem _ (List.mem_append_left _ (List.mem_of_getElem? (i := 5) rfl))), List.forall_mem_cons.mpr ⟨(List.mem_cons_of_mem _ (List.mem_append_left _ (List.mem_of_getElem? (i := 6) rfl))), List.forall_mem_cons.mpr ⟨(List.mem_cons_of_mem _ (List.mem_append_left _ (List.mem_of_getElem? (i := 7) rfl))), fun _ h => absurd h List.not_mem_nil⟩⟩⟩⟩) (by decide +kernel)) ggX6_back_X6_refuse
set_option maxRecDepth 20000 in
theorem ggX6_back_X6_move : GoodIn wsX6_back wsX6_move := goodIn_sub (List.forall_mem_cons.mpr ⟨(List.mem_cons_of_mem _ (List.mem_append_left _ (List.mem_of_getElem? (i := 12) rfl))), (fun _ h => absurd h List.not_mem_nil)⟩) (by decide +kernel)
set_option maxRecDepth 20000 in
theorem gX6_back_X6_move : GoodIn wsX6_back (va_wsS RX6 172 yX6_move wsX6_move) := goodIn_app (goodIn_sub (List.forall_mem_cons.mpr ⟨(List.mem_cons_of_mem _ (List.mem_append_left _ (List.mem_of_getElem? (i := 10) rfl))), List.forall_mem_cons.mpr ⟨(List.mem_cons_of_mem _ (List.mem_append_left _ (List.mem_of_getElem? (i := 11) rfl))), List.forall_mem_cons.mpr ⟨(List.mem_cons_of_mem _ (List.mem_append_left _ (List.mem_of_getElem? (i := 7) rfl))), fun _ h => absurd h List.not_mem_nil⟩⟩⟩) (by decide +kernel)) ggX6_back_X6_move
set_option maxRecDepth 20000 in
theorem ggX6_back_X6_many : GoodIn wsX6_back wsX6_many := goodIn_sub (List.forall_mem_cons.mpr ⟨(List.mem_cons_of_mem _ (List.mem_append_left _ (List.mem_of_getElem? (i := 16) rfl))), (fun w h => (List.mem_append.mp h).elim ((List.forall_mem_cons.mpr ⟨(List.mem_cons_of_mem _ (List.mem_append_left _ (List.mem_of_getElem? (i := 2) rfl))), fun _ h => absurd h List.not_mem_nil⟩) w) (pl_wsX6_back_wsX60 w))⟩) (by decide +kernel)
set_option maxRecDepth 20000 in
theorem gX6_back_X6_many : GoodIn wsX6_back (wsV RX6 84 RX6 yX6_many wsX6_many) := goodIn_app (goodIn_sub (List.forall_mem_cons.mpr ⟨(List.mem_cons_of_mem _ (List.mem_append_left _ (List.mem_of_getElem? (i := 13) rfl))), List.forall_mem_cons.mpr ⟨(List.mem_cons_of_mem _ (List.mem_append_left _ (List.mem_of_getElem? (i := 14) rfl))), List.forall_mem_cons.mpr ⟨(List.mem_cons_of_mem _ (List.mem_append_left _ (List.mem_of_getElem? (i := 15) rfl))), List.forall_mem_cons.mpr ⟨(List.mem_cons_of_mem _ (List.mem_append_left _ (List.mem_of_getElem? (i := 7) rfl))), fun _ h => absurd h List.not_mem_nil⟩⟩⟩⟩) (by decide +kernel)) ggX6_back_X6_many
theorem dX6_back_0 : decode cX6_back 0 = .ok (.aload_n 0, 1) := by decide +kernel
theorem dX6_back_1 : decode cX6_back 1 = .ok (.getfield 279, 3) := by decide +kernel
theorem dX6_back_4 : decode cX6_back 4 = .ok (.ifCond .ne 10, 3) := by decide +kernel
theorem dX6_back_7 : decode cX6_back 7 = .ok (.aload_n 0, 1) := by decide +kernel
theorem dX6_back_8 : decode cX6_back 8 = .ok (.bipush (-5), 2) := by decide +kernel
theorem dX6_back_10 : decode cX6_back 10 = .ok (.invokevirtual 101, 3) := by decide +kernel
theorem dX6_back_13 : decode cX6_back 13 = .ok (.ireturn, 1) := by decide +kernel
theorem dX6_back_14 : decode cX6_back 14 = .ok (.aload_n 0, 1) := by decide +kernel
theorem dX6_back_15 : decode cX6_back 15 = .ok (.getfield 20, 3) := by decide +kernel
theorem dX6_back_18 : decode cX6_back 18 = .ok (.aload_n 0, 1) := by decide +kernel
theorem dX6_back_19 : decode cX6_back 19 = .ok (.getfield 17, 3) := by decide +kernel
theorem dX6_back_22 : decode cX6_back 22 = .ok (.invokestatic 172, 3) := by decide +kernel
theorem dX6_back_25 : decode cX6_back 25 = .ok (.iconst 0, 1) := by decide +kernel
theorem dX6_back_26 : decode cX6_back 26 = .ok (.istore_n 1, 1) := by decide +kernel
theorem dX6_back_27 : decode cX6_back 27 = .ok (.iload_n 1, 1) := by decide +kernel
theorem dX6_back_28 : decode cX6_back 28 = .ok (.bipush 8, 2) := by decide +kernel
theorem dX6_back_30 : decode cX6_back 30 = .ok (.if_icmp .ge 41, 3) := by decide +kernel
theorem dX6_back_33 : decode cX6_back 33 = .ok (.aload_n 0, 1) := by decide +kernel
theorem dX6_back_34 : decode cX6_back 34 = .ok (.getfield 54, 3) := by decide +kernel
theorem dX6_back_37 : decode cX6_back 37 = .ok (.iload_n 1, 1) := by decide +kernel
theorem dX6_back_38 : decode cX6_back 38 = .ok (.aload_n 0, 1) := by decide +kernel
theorem dX6_back_39 : decode cX6_back 39 = .ok (.getfield 54, 3) := by decide +kernel
theorem dX6_back_42 : decode cX6_back 42 = .ok (.iload_n 1, 1) := by decide +kernel
theorem dX6_back_43 : decode cX6_back 43 = .ok (.iaload, 1) := by decide +kernel
theorem dX6_back_44 : decode cX6_back 44 = .ok (.bipush 10, 2) := by decide +kernel
theorem dX6_back_46 : decode cX6_back 46 = .ok (.aload_n 0, 1) := by decide +kernel
theorem dX6_back_47 : decode cX6_back 47 = .ok (.invokevirtual 84, 3) := by decide +kernel
theorem dX6_back_50 : decode cX6_back 50 = .ok (.iadd, 1) := by decide +kernel
theorem dX6_back_51 : decode cX6_back 51 = .ok (.if_icmp .lt 7, 3) := by decide +kernel
theorem dX6_back_54 : decode cX6_back 54 = .ok (.iconst (-1), 1) := by decide +kernel
theorem dX6_back_55 : decode cX6_back 55 = .ok (.goto 9, 3) := by decide +kernel
theorem dX6_back_58 : decode cX6_back 58 = .ok (.aload_n 0, 1) := by decide +kernel
theorem dX6_back_59 : decode cX6_back 59 = .ok (.getfield 54, 3) := by decide +kernel
theorem dX6_back_62 : decode cX6_back 62 = .ok (.iload_n 1, 1) := by decide +kernel
theorem dX6_back_63 : decode cX6_back 63 = .ok (.iaload, 1) := by decide +kernel
theorem dX6_back_64 : decode cX6_back 64 = .ok (.iastore, 1) := by decide +kernel
theorem dX6_back_65 : decode cX6_back 65 = .ok (.iinc 1 1, 3) := by decide +kernel
theorem dX6_back_68 : decode cX6_back 68 = .ok (.goto (-41), 3) := by decide +kernel
theorem dX6_back_71 : decode cX6_back 71 = .ok (.iconst 1, 1) := by decide +kernel
theorem dX6_back_72 : decode cX6_back 72 = .ok (.ireturn, 1) := by decide +kernel
set_option maxRecDepth 20000 in
theorem ggX6_status_X6_isIn : GoodIn wsX6_status wsX6_isIn := goodIn_sub (List.forall_mem_cons.mpr ⟨(List.mem_cons_of_mem _ (List.mem_append_left _ (List.mem_of_getElem? (i := 9) rfl))), (fun _ h => absurd h List.not_mem_nil)⟩) (by decide +kernel)
set_option maxRecDepth 20000 in
theorem gX6_status_X6_isIn : GoodIn wsX6_status (va_wsS RX6 76 yX6_isIn wsX6_isIn) := goodIn_app (goodIn_sub (List.forall_mem_cons.mpr ⟨(List.mem_cons_of_mem _ (List.mem_append_left _ (List.mem_of_getElem? (i := 6) rfl))), List.forall_mem_cons.mpr ⟨(List.mem_cons_of_mem _ (List.mem_append_left _ (List.mem_of_getElem? (i := 7) rfl))), List.forall_mem_cons.mpr ⟨(List.mem_cons_of_mem _ (List.mem_append_left _ (List.mem_of_getElem? (i := 8) rfl))), fun _ h => absurd h List.not_mem_nil⟩⟩⟩) (by decide +kernel)) ggX6_status_X6_isIn
set_option maxRecDepth 20000 in
theorem pl_wsX6_status_wsX60 : ∀ w ∈ wsX60, w ∈ wsX6_status := fun _ h => List.mem_cons_of_mem _ (List.mem_append_right _ (h))
theorem ggX6_status_X6_many : GoodIn wsX6_status wsX6_many := goodIn_sub (List.forall_mem_cons.mpr ⟨(List.mem_cons_of_mem _ (List.mem_append_left _ (List.mem_of_getElem? (i := 13) rfl))), (fun w h => (List.mem_append.mp h).elim ((List.forall_mem_cons.mpr ⟨(List.mem_cons_of_mem _ (List.mem_append_left _ (List.mem_of_getElem? (i := 3) rfl))), fun _ h => absurd h List.not_mem_nil⟩) w) (pl_wsX6_status_wsX60 w))⟩) (by decide +kernel)
set_option maxRecDepth 20000 in
theorem gX6_status_X6_many : GoodIn wsX6_status (wsV RX6 84 RX6 yX6_many wsX6_many) := goodIn_app (goodIn_sub (List.forall_mem_cons.mpr ⟨(List.mem_cons_of_mem _ (List.mem_append_left _ (List.mem_of_getElem? (i := 10) rfl))), List.forall_mem_cons.mpr ⟨(List.mem_cons_of_mem _ (List.mem_append_left _ (List.mem_of_getElem? (i := 11) rfl))), List.forall_mem_cons.mpr ⟨(List.mem_cons_of_mem _ (List.mem_append_left _ (List.mem_of_getElem? (i := 12) rfl))), List.forall_mem_cons.mpr ⟨(List.mem_cons_of_mem _ (List.mem_append_left _ (List.mem_of_getElem? (i := 8) rfl))), fun _ h => absurd h List.not_mem_nil⟩⟩⟩⟩) (by decide +kernel)) ggX6_status_X6_many
theorem dX6_status_0 : decode cX6_status 0 = .ok (.iload_n 1, 1) := by decide +kernel
theorem dX6_status_1 : decode cX6_status 1 = .ok (.i2l, 1) := by decide +kernel
theorem dX6_status_2 : decode cX6_status 2 = .ok (.ldc2_w 122, 3) := by decide +kernel
theorem dX6_status_5 : decode cX6_status 5 = .ok (.ldc2_w 283, 3) := by decide +kernel
theorem dX6_status_8 : decode cX6_status 8 = .ok (.invokestatic 76, 3) := by decide +kernel
theorem dX6_status_11 : decode cX6_status 11 = .ok (.ifCond .eq 13, 3) := by decide +kernel
theorem dX6_status_14 : decode cX6_status 14 = .ok (.aload_n 0, 1) := by decide +kernel
theorem dX6_status_15 : decode cX6_status 15 = .ok (.getfield 7, 3) := by decide +kernel
theorem dX6_status_18 : decode cX6_status 18 = .ok (.iload_n 1, 1) := by decide +kernel
theorem dX6_status_19 : decode cX6_status 19 = .ok (.bipush 10, 2) := by decide +kernel
theorem dX6_status_21 : decode cX6_status 21 = .ok (.isub, 1) := by decide +kernel
theorem dX6_status_22 : decode cX6_status 22 = .ok (.iaload, 1) := by decide +kernel
theorem dX6_status_23 : decode cX6_status 23 = .ok (.ireturn, 1) := by decide +kernel
theorem dX6_status_24 : decode cX6_status 24 = .ok (.iconst 0, 1) := by decide +kernel
theorem dX6_status_25 : decode cX6_status 25 = .ok (.istore_n 2, 1) := by decide +kernel
theorem dX6_status_26 : decode cX6_status 26 = .ok (.iload_n 1, 1) := by decide +kernel
theorem dX6_status_27 : decode cX6_status 27 = .ok (.tableswitch 162 0 10 #[57, 62, 62, 62, 62, 74, 102, 102, 115, 120, 128], 57) := by decide +kernel
theorem dX6_status_84 : decode cX6_status 84 = .ok (.aload_n 0, 1) := by decide +kernel
theorem dX6_status_85 : decode cX6_status 85 = .ok (.invokevirtual 84, 3) := by decide +kernel
theorem dX6_status_88 : decode cX6_status 88 = .ok (.ireturn, 1) := by decide +kernel
theorem dX6_status_89 : decode cX6_status 89 = .ok (.aload_n 0, 1) := by decide +kernel
theorem dX6_status_90 : decode cX6_status 90 = .ok (.getfield 17, 3) := by decide +kernel
theorem dX6_status_93 : decode cX6_status 93 = .ok (.bipush 90, 2) := by decide +kernel
theorem dX6_status_95 : decode cX6_status 95 = .ok (.iload_n 1, 1) := by decide +kernel
theorem dX6_status_96 : decode cX6_status 96 = .ok (.iadd, 1) := by decide +kernel
theorem dX6_status_97 : decode cX6_status 97 = .ok (.iconst 1, 1) := by decide +kernel
theorem dX6_status_98 : decode cX6_status 98 = .ok (.isub, 1) := by decide +kernel
theorem dX6_status_99 : decode cX6_status 99 = .ok (.iaload, 1) := by decide +kernel
theorem dX6_status_100 : decode cX6_status 100 = .ok (.ireturn, 1) := by decide +kernel
theorem dX6_status_101 : decode cX6_status 101 = .ok (.iconst 0, 1) := by decide +kernel
theorem dX6_status_102 : decode cX6_status 102 = .ok (.istore_n 3, 1) := by decide +kernel
theorem dX6_status_103 : decode cX6_status 103 = .ok (.iload_n 3, 1) := by decide +kernel
theorem dX6_status_104 : decode cX6_status 104 = .ok (.bipush 49, 2) := by decide +kernel
theorem dX6_status_106 : decode cX6_status 106 = .ok (.if_icmp .ge 21, 3) := by decide +kernel
theorem dX6_status_109 : decode cX6_status 109 = .ok (.iload_n 2, 1) := by decide +kernel
theorem dX6_status_110 : decode cX6_status 110 = .ok (.aload_n 0, 1) := by decide +kernel
theorem dX6_status_111 : decode cX6_status 111 = .ok (.getfield 17, 3) := by decide +kernel
theorem dX6_status_114 : decode cX6_status 114 = .ok (.bipush 40, 2) := by decide +kernel
theorem dX6_status_116 : decode cX6_status 116 = .ok (.iload_n 3, 1) := by decide +kernel
theorem dX6_status_117 : decode cX6_status 117 = .ok (.iadd, 1) := by decide +kernel
theorem dX6_status_118 : decode cX6_status 118 = .ok (.iaload, 1) := by decide +kernel
theorem dX6_status_119 : decode cX6_status 119 = .ok (.iadd, 1) := by decide +kernel
theorem dX6_status_120 : decode cX6_status 120 = .ok (.istore_n 2, 1) := by decide +kernel
theorem dX6_status_121 : decode cX6_status 121 = .ok (.iinc 3 1, 3) := by decide +kernel
theorem dX6_status_124 : decode cX6_status 124 = .ok (.goto (-21), 3) := by decide +kernel
theorem dX6_status_127 : decode cX6_status 127 = .ok (.iload_n 2, 1) := by decide +kernel
theorem dX6_status_128 : decode cX6_status 128 = .ok (.ireturn, 1) := by decide +kernel
theorem dX6_status_129 : decode cX6_status 129 = .ok (.aload_n 0, 1) := by decide +kernel
theorem dX6_status_130 : decode cX6_status 130 = .ok (.getfield 17, 3) := by decide +kernel
theorem dX6_status_133 : decode cX6_status 133 = .ok (.bipush 94, 2) := by decide +kernel
theorem dX6_status_135 : decode cX6_status 135 = .ok (.iload_n 1, 1) := by decide +kernel
theorem dX6_status_136 : decode cX6_status 136 = .ok (.iadd, 1) := by decide +kernel
theorem dX6_status_137 : decode cX6_status 137 = .ok (.bipush 6, 2) := by decide +kernel
theorem dX6_status_139 : decode cX6_status 139 = .ok (.isub, 1) := by decide +kernel
theorem dX6_status_140 : decode cX6_status 140 = .ok (.iaload, 1) := by decide +kernel
theorem dX6_status_141 : decode cX6_status 141 = .ok (.ireturn, 1) := by decide +kernel
theorem dX6_status_142 : decode cX6_status 142 = .ok (.aload_n 0, 1) := by decide +kernel
theorem dX6_status_143 : decode cX6_status 143 = .ok (.getfield 132, 3) := by decide +kernel
theorem dX6_status_146 : decode cX6_status 146 = .ok (.ireturn, 1) := by decide +kernel
theorem dX6_status_147 : decode cX6_status 147 = .ok (.aload_n 0, 1) := by decide +kernel
theorem dX6_status_148 : decode cX6_status 148 = .ok (.getfield 17, 3) := by decide +kernel
theorem dX6_status_151 : decode cX6_status 151 = .ok (.bipush 96, 2) := by decide +kernel
theorem dX6_status_153 : decode cX6_status 153 = .ok (.iaload, 1) := by decide +kernel
theorem dX6_status_154 : decode cX6_status 154 = .ok (.ireturn, 1) := by decide +kernel
theorem dX6_status_155 : decode cX6_status 155 = .ok (.iconst 0, 1) := by decide +kernel
theorem dX6_status_156 : decode cX6_status 156 = .ok (.istore_n 3, 1) := by decide +kernel
theorem dX6_status_157 : decode cX6_status 157 = .ok (.iload_n 3, 1) := by decide +kernel
theorem dX6_status_158 : decode cX6_status 158 = .ok (.bipush 8, 2) := by decide +kernel
theorem dX6_status_160 : decode cX6_status 160 = .ok (.if_icmp .ge 27, 3) := by decide +kernel
theorem dX6_status_163 : decode cX6_status 163 = .ok (.iload_n 2, 1) := by decide +kernel
theorem dX6_status_164 : decode cX6_status 164 = .ok (.aload_n 0, 1) := by decide +kernel
theorem dX6_status_165 : decode cX6_status 165 = .ok (.getfield 54, 3) := by decide +kernel
theorem dX6_status_168 : decode cX6_status 168 = .ok (.iload_n 3, 1) := by decide +kernel
theorem dX6_status_169 : decode cX6_status 169 = .ok (.iaload, 1) := by decide +kernel
theorem dX6_status_170 : decode cX6_status 170 = .ok (.iconst (-1), 1) := by decide +kernel
theorem dX6_status_171 : decode cX6_status 171 = .ok (.if_icmp .ne 7, 3) := by decide +kernel
theorem dX6_status_174 : decode cX6_status 174 = .ok (.iconst 0, 1) := by decide +kernel
theorem dX6_status_175 : decode cX6_status 175 = .ok (.goto 4, 3) := by decide +kernel
theorem dX6_status_178 : decode cX6_status 178 = .ok (.iconst 1, 1) := by decide +kernel
theorem dX6_status_179 : decode cX6_status 179 = .ok (.iadd, 1) := by decide +kernel
theorem dX6_status_180 : decode cX6_status 180 = .ok (.istore_n 2, 1) := by decide +kernel
theorem dX6_status_181 : decode cX6_status 181 = .ok (.iinc 3 1, 3) := by decide +kernel
theorem dX6_status_184 : decode cX6_status 184 = .ok (.goto (-27), 3) := by decide +kernel
theorem dX6_status_187 : decode cX6_status 187 = .ok (.iload_n 2, 1) := by decide +kernel
theorem dX6_status_188 : decode cX6_status 188 = .ok (.ireturn, 1) := by decide +kernel
theorem dX6_status_189 : decode cX6_status 189 = .ok (.iconst (-1), 1) := by decide +kernel
theorem dX6_status_190 : decode cX6_status 190 = .ok (.ireturn, 1) := by decide +kernel
