/-! the reference is made -/
theorem dX13_init_0 : decode cX13_init 0 = .ok (.aload_n 0, 1) := by decide +kernel
theorem dX13_init_1 : decode cX13_init 1 = .ok (.invokespecial 1, 3) := by decide +kernel
theorem dX13_init_4 : decode cX13_init 4 = .ok (.aload_n 0, 1) := by decide +kernel
theorem dX13_init_5 : decode cX13_init 5 = .ok (.sipush 1600, 3) := by decide +kernel
theorem dX13_init_8 : decode cX13_init 8 = .ok (.newarray .int, 2) := by decide +kernel
theorem dX13_init_10 : decode cX13_init 10 = .ok (.putfield 7, 3) := by decide +kernel
theorem dX13_init_13 : decode cX13_init 13 = .ok (.aload_n 0, 1) := by decide +kernel
theorem dX13_init_14 : decode cX13_init 14 = .ok (.iconst (-1), 1) := by decide +kernel
theorem dX13_init_15 : decode cX13_init 15 = .ok (.putfield 13, 3) := by decide +kernel
theorem dX13_init_18 : decode cX13_init 18 = .ok (.aload_n 0, 1) := by decide +kernel
theorem dX13_init_19 : decode cX13_init 19 = .ok (.bipush 6, 2) := by decide +kernel
theorem dX13_init_21 : decode cX13_init 21 = .ok (.newarray .int, 2) := by decide +kernel
theorem dX13_init_23 : decode cX13_init 23 = .ok (.putfield 17, 3) := by decide +kernel
theorem dX13_init_26 : decode cX13_init 26 = .ok (.aload_n 0, 1) := by decide +kernel
theorem dX13_init_27 : decode cX13_init 27 = .ok (.iconst 4, 1) := by decide +kernel
theorem dX13_init_28 : decode cX13_init 28 = .ok (.newarray .char, 2) := by decide +kernel
theorem dX13_init_30 : decode cX13_init 30 = .ok (.dup, 1) := by decide +kernel
theorem dX13_init_31 : decode cX13_init 31 = .ok (.iconst 0, 1) := by decide +kernel
theorem dX13_init_32 : decode cX13_init 32 = .ok (.bipush 102, 2) := by decide +kernel
theorem dX13_init_34 : decode cX13_init 34 = .ok (.castore, 1) := by decide +kernel
theorem dX13_init_35 : decode cX13_init 35 = .ok (.dup, 1) := by decide +kernel
theorem dX13_init_36 : decode cX13_init 36 = .ok (.iconst 1, 1) := by decide +kernel
theorem dX13_init_37 : decode cX13_init 37 = .ok (.bipush 97, 2) := by decide +kernel
theorem dX13_init_39 : decode cX13_init 39 = .ok (.castore, 1) := by decide +kernel
theorem dX13_init_40 : decode cX13_init 40 = .ok (.dup, 1) := by decide +kernel
theorem dX13_init_41 : decode cX13_init 41 = .ok (.iconst 2, 1) := by decide +kernel
theorem dX13_init_42 : decode cX13_init 42 = .ok (.bipush 99, 2) := by decide +kernel
theorem dX13_init_44 : decode cX13_init 44 = .ok (.castore, 1) := by decide +kernel
theorem dX13_init_45 : decode cX13_init 45 = .ok (.dup, 1) := by decide +kernel
theorem dX13_init_46 : decode cX13_init 46 = .ok (.iconst 3, 1) := by decide +kernel
theorem dX13_init_47 : decode cX13_init 47 = .ok (.bipush 116, 2) := by decide +kernel
theorem dX13_init_49 : decode cX13_init 49 = .ok (.castore, 1) := by decide +kernel
theorem dX13_init_50 : decode cX13_init 50 = .ok (.putfield 20, 3) := by decide +kernel
theorem dX13_init_53 : decode cX13_init 53 = .ok (.aload_n 0, 1) := by decide +kernel
theorem dX13_init_54 : decode cX13_init 54 = .ok (.iconst 5, 1) := by decide +kernel
theorem dX13_init_55 : decode cX13_init 55 = .ok (.newarray .char, 2) := by decide +kernel
theorem dX13_init_57 : decode cX13_init 57 = .ok (.dup, 1) := by decide +kernel
theorem dX13_init_58 : decode cX13_init 58 = .ok (.iconst 0, 1) := by decide +kernel
theorem dX13_init_59 : decode cX13_init 59 = .ok (.bipush 119, 2) := by decide +kernel
theorem dX13_init_61 : decode cX13_init 61 = .ok (.castore, 1) := by decide +kernel
theorem dX13_init_62 : decode cX13_init 62 = .ok (.dup, 1) := by decide +kernel
theorem dX13_init_63 : decode cX13_init 63 = .ok (.iconst 1, 1) := by decide +kernel
theorem dX13_init_64 : decode cX13_init 64 = .ok (.bipush 111, 2) := by decide +kernel
theorem dX13_init_66 : decode cX13_init 66 = .ok (.castore, 1) := by decide +kernel
theorem dX13_init_67 : decode cX13_init 67 = .ok (.dup, 1) := by decide +kernel
theorem dX13_init_68 : decode cX13_init 68 = .ok (.iconst 2, 1) := by decide +kernel
theorem dX13_init_69 : decode cX13_init 69 = .ok (.bipush 114, 2) := by decide +kernel
theorem dX13_init_71 : decode cX13_init 71 = .ok (.castore, 1) := by decide +kernel
theorem dX13_init_72 : decode cX13_init 72 = .ok (.dup, 1) := by decide +kernel
theorem dX13_init_73 : decode cX13_init 73 = .ok (.iconst 3, 1) := by decide +kernel
theorem dX13_init_74 : decode cX13_init 74 = .ok (.bipush 116, 2) := by decide +kernel
theorem dX13_init_76 : decode cX13_init 76 = .ok (.castore, 1) := by decide +kernel
theorem dX13_init_77 : decode cX13_init 77 = .ok (.dup, 1) := by decide +kernel
theorem dX13_init_78 : decode cX13_init 78 = .ok (.iconst 4, 1) := by decide +kernel
theorem dX13_init_79 : decode cX13_init 79 = .ok (.bipush 104, 2) := by decide +kernel
theorem dX13_init_81 : decode cX13_init 81 = .ok (.castore, 1) := by decide +kernel
theorem dX13_init_82 : decode cX13_init 82 = .ok (.putfield 24, 3) := by decide +kernel
theorem dX13_init_85 : decode cX13_init 85 = .ok (.aload_n 0, 1) := by decide +kernel
theorem dX13_init_86 : decode cX13_init 86 = .ok (.bipush 6, 2) := by decide +kernel
theorem dX13_init_88 : decode cX13_init 88 = .ok (.newarray .char, 2) := by decide +kernel
theorem dX13_init_90 : decode cX13_init 90 = .ok (.dup, 1) := by decide +kernel
theorem dX13_init_91 : decode cX13_init 91 = .ok (.iconst 0, 1) := by decide +kernel
theorem dX13_init_92 : decode cX13_init 92 = .ok (.bipush 112, 2) := by decide +kernel
theorem dX13_init_94 : decode cX13_init 94 = .ok (.castore, 1) := by decide +kernel
theorem dX13_init_95 : decode cX13_init 95 = .ok (.dup, 1) := by decide +kernel
theorem dX13_init_96 : decode cX13_init 96 = .ok (.iconst 1, 1) := by decide +kernel
theorem dX13_init_97 : decode cX13_init 97 = .ok (.bipush 101, 2) := by decide +kernel
theorem dX13_init_99 : decode cX13_init 99 = .ok (.castore, 1) := by decide +kernel
theorem dX13_init_100 : decode cX13_init 100 = .ok (.dup, 1) := by decide +kernel
theorem dX13_init_101 : decode cX13_init 101 = .ok (.iconst 2, 1) := by decide +kernel
theorem dX13_init_102 : decode cX13_init 102 = .ok (.bipush 114, 2) := by decide +kernel
theorem dX13_init_104 : decode cX13_init 104 = .ok (.castore, 1) := by decide +kernel
theorem dX13_init_105 : decode cX13_init 105 = .ok (.dup, 1) := by decide +kernel
theorem dX13_init_106 : decode cX13_init 106 = .ok (.iconst 3, 1) := by decide +kernel
theorem dX13_init_107 : decode cX13_init 107 = .ok (.bipush 115, 2) := by decide +kernel
theorem dX13_init_109 : decode cX13_init 109 = .ok (.castore, 1) := by decide +kernel
theorem dX13_init_110 : decode cX13_init 110 = .ok (.dup, 1) := by decide +kernel
theorem dX13_init_111 : decode cX13_init 111 = .ok (.iconst 4, 1) := by decide +kernel
theorem dX13_init_112 : decode cX13_init 112 = .ok (.bipush 111, 2) := by decide +kernel
theorem dX13_init_114 : decode cX13_init 114 = .ok (.castore, 1) := by decide +kernel
theorem dX13_init_115 : decode cX13_init 115 = .ok (.dup, 1) := by decide +kernel
theorem dX13_init_116 : decode cX13_init 116 = .ok (.iconst 5, 1) := by decide +kernel
theorem dX13_init_117 : decode cX13_init 117 = .ok (.bipush 110, 2) := by decide +kernel
theorem dX13_init_119 : decode cX13_init 119 = .ok (.castore, 1) := by decide +kernel
theorem dX13_init_120 : decode cX13_init 120 = .ok (.putfield 27, 3) := by decide +kernel
theorem dX13_init_123 : decode cX13_init 123 = .ok (.aload_n 0, 1) := by decide +kernel
theorem dX13_init_124 : decode cX13_init 124 = .ok (.iconst 4, 1) := by decide +kernel
theorem dX13_init_125 : decode cX13_init 125 = .ok (.newarray .char, 2) := by decide +kernel
theorem dX13_init_127 : decode cX13_init 127 = .ok (.dup, 1) := by decide +kernel
theorem dX13_init_128 : decode cX13_init 128 = .ok (.iconst 0, 1) := by decide +kernel
theorem dX13_init_129 : decode cX13_init 129 = .ok (.bipush 99, 2) := by decide +kernel
theorem dX13_init_131 : decode cX13_init 131 = .ok (.castore, 1) := by decide +kernel
theorem dX13_init_132 : decode cX13_init 132 = .ok (.dup, 1) := by decide +kernel
theorem dX13_init_133 : decode cX13_init 133 = .ok (.iconst 1, 1) := by decide +kernel
theorem dX13_init_134 : decode cX13_init 134 = .ok (.bipush 97, 2) := by decide +kernel
theorem dX13_init_136 : decode cX13_init 136 = .ok (.castore, 1) := by decide +kernel
theorem dX13_init_137 : decode cX13_init 137 = .ok (.dup, 1) := by decide +kernel
theorem dX13_init_138 : decode cX13_init 138 = .ok (.iconst 2, 1) := by decide +kernel
theorem dX13_init_139 : decode cX13_init 139 = .ok (.bipush 108, 2) := by decide +kernel
theorem dX13_init_141 : decode cX13_init 141 = .ok (.castore, 1) := by decide +kernel
theorem dX13_init_142 : decode cX13_init 142 = .ok (.dup, 1) := by decide +kernel
theorem dX13_init_143 : decode cX13_init 143 = .ok (.iconst 3, 1) := by decide +kernel
theorem dX13_init_144 : decode cX13_init 144 = .ok (.bipush 109, 2) := by decide +kernel
theorem dX13_init_146 : decode cX13_init 146 = .ok (.castore, 1) := by decide +kernel
theorem dX13_init_147 : decode cX13_init 147 = .ok (.putfield 30, 3) := by decide +kernel
theorem dX13_init_150 : decode cX13_init 150 = .ok (.aload_n 0, 1) := by decide +kernel
theorem dX13_init_151 : decode cX13_init 151 = .ok (.iconst 5, 1) := by decide +kernel
theorem dX13_init_152 : decode cX13_init 152 = .ok (.newarray .char, 2) := by decide +kernel
theorem dX13_init_154 : decode cX13_init 154 = .ok (.dup, 1) := by decide +kernel
theorem dX13_init_155 : decode cX13_init 155 = .ok (.iconst 0, 1) := by decide +kernel
theorem dX13_init_156 : decode cX13_init 156 = .ok (.bipush 107, 2) := by decide +kernel
theorem dX13_init_158 : decode cX13_init 158 = .ok (.castore, 1) := by decide +kernel
theorem dX13_init_159 : decode cX13_init 159 = .ok (.dup, 1) := by decide +kernel
theorem dX13_init_160 : decode cX13_init 160 = .ok (.iconst 1, 1) := by decide +kernel
theorem dX13_init_161 : decode cX13_init 161 = .ok (.bipush 110, 2) := by decide +kernel
theorem dX13_init_163 : decode cX13_init 163 = .ok (.castore, 1) := by decide +kernel
theorem dX13_init_164 : decode cX13_init 164 = .ok (.dup, 1) := by decide +kernel
theorem dX13_init_165 : decode cX13_init 165 = .ok (.iconst 2, 1) := by decide +kernel
theorem dX13_init_166 : decode cX13_init 166 = .ok (.bipush 111, 2) := by decide +kernel
theorem dX13_init_168 : decode cX13_init 168 = .ok (.castore, 1) := by decide +kernel
theorem dX13_init_169 : decode cX13_init 169 = .ok (.dup, 1) := by decide +kernel
theorem dX13_init_170 : decode cX13_init 170 = .ok (.iconst 3, 1) := by decide +kernel
theorem dX13_init_171 : decode cX13_init 171 = .ok (.bipush 119, 2) := by decide +kernel
theorem dX13_init_173 : decode cX13_init 173 = .ok (.castore, 1) := by decide +kernel
theorem dX13_init_174 : decode cX13_init 174 = .ok (.dup, 1) := by decide +kernel
theorem dX13_init_175 : decode cX13_init 175 = .ok (.iconst 4, 1) := by decide +kernel
theorem dX13_init_176 : decode cX13_init 176 = .ok (.bipush 115, 2) := by decide +kernel
theorem dX13_init_178 : decode cX13_init 178 = .ok (.castore, 1) := by decide +kernel
theorem dX13_init_179 : decode cX13_init 179 = .ok (.putfield 33, 3) := by decide +kernel
theorem dX13_init_182 : decode cX13_init 182 = .ok (.aload_n 0, 1) := by decide +kernel
theorem dX13_init_183 : decode cX13_init 183 = .ok (.iconst 4, 1) := by decide +kernel
theorem dX13_init_184 : decode cX13_init 184 = .ok (.newarray .char, 2) := by decide +kernel
theorem dX13_init_186 : decode cX13_init 186 = .ok (.dup, 1) := by decide +kernel
theorem dX13_init_187 : decode cX13_init 187 = .ok (.iconst 0, 1) := by decide +kernel
theorem dX13_init_188 : decode cX13_init 188 = .ok (.bipush 101, 2) := by decide +kernel
theorem dX13_init_190 : decode cX13_init 190 = .ok (.castore, 1) := by decide +kernel
theorem dX13_init_191 : decode cX13_init 191 = .ok (.dup, 1) := by decide +kernel
theorem dX13_init_192 : decode cX13_init 192 = .ok (.iconst 1, 1) := by decide +kernel
theorem dX13_init_193 : decode cX13_init 193 = .ok (.bipush 114, 2) := by decide +kernel
theorem dX13_init_195 : decode cX13_init 195 = .ok (.castore, 1) := by decide +kernel
theorem dX13_init_196 : decode cX13_init 196 = .ok (.dup, 1) := by decide +kernel
theorem dX13_init_197 : decode cX13_init 197 = .ok (.iconst 2, 1) := by decide +kernel
theorem dX13_init_198 : decode cX13_init 198 = .ok (.bipush 114, 2) := by decide +kernel
theorem dX13_init_200 : decode cX13_init 200 = .ok (.castore, 1) := by decide +kernel
theorem dX13_init_201 : decode cX13_init 201 = .ok (.dup, 1) := by decide +kernel
theorem dX13_init_202 : decode cX13_init 202 = .ok (.iconst 3, 1) := by decide +kernel
theorem dX13_init_203 : decode cX13_init 203 = .ok (.bipush 115, 2) := by decide +kernel
theorem dX13_init_205 : decode cX13_init 205 = .ok (.castore, 1) := by decide +kernel
theorem dX13_init_206 : decode cX13_init 206 = .ok (.putfield 36, 3) := by decide +kernel
theorem dX13_init_209 : decode cX13_init 209 = .ok (.aload_n 0, 1) := by decide +kernel
theorem dX13_init_210 : decode cX13_init 210 = .ok (.bipush 6, 2) := by decide +kernel
theorem dX13_init_212 : decode cX13_init 212 = .ok (.newarray .char, 2) := by decide +kernel
theorem dX13_init_214 : decode cX13_init 214 = .ok (.dup, 1) := by decide +kernel
theorem dX13_init_215 : decode cX13_init 215 = .ok (.iconst 0, 1) := by decide +kernel
theorem dX13_init_216 : decode cX13_init 216 = .ok (.bipush 116, 2) := by decide +kernel
theorem dX13_init_218 : decode cX13_init 218 = .ok (.castore, 1) := by decide +kernel
theorem dX13_init_219 : decode cX13_init 219 = .ok (.dup, 1) := by decide +kernel
theorem dX13_init_220 : decode cX13_init 220 = .ok (.iconst 1, 1) := by decide +kernel
theorem dX13_init_221 : decode cX13_init 221 = .ok (.bipush 97, 2) := by decide +kernel
theorem dX13_init_223 : decode cX13_init 223 = .ok (.castore, 1) := by decide +kernel
theorem dX13_init_224 : decode cX13_init 224 = .ok (.dup, 1) := by decide +kernel
theorem dX13_init_225 : decode cX13_init 225 = .ok (.iconst 2, 1) := by decide +kernel
theorem dX13_init_226 : decode cX13_init 226 = .ok (.bipush 117, 2) := by decide +kernel
theorem dX13_init_228 : decode cX13_init 228 = .ok (.castore, 1) := by decide +kernel
theorem dX13_init_229 : decode cX13_init 229 = .ok (.dup, 1) := by decide +kernel
theorem dX13_init_230 : decode cX13_init 230 = .ok (.iconst 3, 1) := by decide +kernel
theorem dX13_init_231 : decode cX13_init 231 = .ok (.bipush 103, 2) := by decide +kernel
theorem dX13_init_233 : decode cX13_init 233 = .ok (.castore, 1) := by decide +kernel
theorem dX13_init_234 : decode cX13_init 234 = .ok (.dup, 1) := by decide +kernel
theorem dX13_init_235 : decode cX13_init 235 = .ok (.iconst 4, 1) := by decide +kernel
theorem dX13_init_236 : decode cX13_init 236 = .ok (.bipush 104, 2) := by decide +kernel
theorem dX13_init_238 : decode cX13_init 238 = .ok (.castore, 1) := by decide +kernel
theorem dX13_init_239 : decode cX13_init 239 = .ok (.dup, 1) := by decide +kernel
theorem dX13_init_240 : decode cX13_init 240 = .ok (.iconst 5, 1) := by decide +kernel
theorem dX13_init_241 : decode cX13_init 241 = .ok (.bipush 116, 2) := by decide +kernel
theorem dX13_init_243 : decode cX13_init 243 = .ok (.castore, 1) := by decide +kernel
theorem dX13_init_244 : decode cX13_init 244 = .ok (.putfield 39, 3) := by decide +kernel
theorem dX13_init_247 : decode cX13_init 247 = .ok (.aload_n 0, 1) := by decide +kernel
theorem dX13_init_248 : decode cX13_init 248 = .ok (.iconst 2, 1) := by decide +kernel
theorem dX13_init_249 : decode cX13_init 249 = .ok (.newarray .char, 2) := by decide +kernel
theorem dX13_init_251 : decode cX13_init 251 = .ok (.dup, 1) := by decide +kernel
theorem dX13_init_252 : decode cX13_init 252 = .ok (.iconst 0, 1) := by decide +kernel
theorem dX13_init_253 : decode cX13_init 253 = .ok (.bipush 98, 2) := by decide +kernel
theorem dX13_init_255 : decode cX13_init 255 = .ok (.castore, 1) := by decide +kernel
theorem dX13_init_256 : decode cX13_init 256 = .ok (.dup, 1) := by decide +kernel
theorem dX13_init_257 : decode cX13_init 257 = .ok (.iconst 1, 1) := by decide +kernel
theorem dX13_init_258 : decode cX13_init 258 = .ok (.bipush 121, 2) := by decide +kernel
theorem dX13_init_260 : decode cX13_init 260 = .ok (.castore, 1) := by decide +kernel
theorem dX13_init_261 : decode cX13_init 261 = .ok (.putfield 42, 3) := by decide +kernel
theorem dX13_init_264 : decode cX13_init 264 = .ok (.aload_n 0, 1) := by decide +kernel
theorem dX13_init_265 : decode cX13_init 265 = .ok (.iconst 5, 1) := by decide +kernel
theorem dX13_init_266 : decode cX13_init 266 = .ok (.newarray .char, 2) := by decide +kernel
theorem dX13_init_268 : decode cX13_init 268 = .ok (.dup, 1) := by decide +kernel
theorem dX13_init_269 : decode cX13_init 269 = .ok (.iconst 0, 1) := by decide +kernel
theorem dX13_init_270 : decode cX13_init 270 = .ok (.bipush 116, 2) := by decide +kernel
theorem dX13_init_272 : decode cX13_init 272 = .ok (.castore, 1) := by decide +kernel
theorem dX13_init_273 : decode cX13_init 273 = .ok (.dup, 1) := by decide +kernel
theorem dX13_init_274 : decode cX13_init 274 = .ok (.iconst 1, 1) := by decide +kernel
theorem dX13_init_275 : decode cX13_init 275 = .ok (.bipush 97, 2) := by decide +kernel
theorem dX13_init_277 : decode cX13_init 277 = .ok (.castore, 1) := by decide +kernel
theorem dX13_init_278 : decode cX13_init 278 = .ok (.dup, 1) := by decide +kernel
theorem dX13_init_279 : decode cX13_init 279 = .ok (.iconst 2, 1) := by decide +kernel
theorem dX13_init_280 : decode cX13_init 280 = .ok (.bipush 107, 2) := by decide +kernel
theorem dX13_init_282 : decode cX13_init 282 = .ok (.castore, 1) := by decide +kernel
theorem dX13_init_283 : decode cX13_init 283 = .ok (.dup, 1) := by decide +kernel
theorem dX13_init_284 : decode cX13_init 284 = .ok (.iconst 3, 1) := by decide +kernel
theorem dX13_init_285 : decode cX13_init 285 = .ok (.bipush 101, 2) := by decide +kernel
theorem dX13_init_287 : decode cX13_init 287 = .ok (.castore, 1) := by decide +kernel
theorem dX13_init_288 : decode cX13_init 288 = .ok (.dup, 1) := by decide +kernel
theorem dX13_init_289 : decode cX13_init 289 = .ok (.iconst 4, 1) := by decide +kernel
theorem dX13_init_290 : decode cX13_init 290 = .ok (.bipush 115, 2) := by decide +kernel
theorem dX13_init_292 : decode cX13_init 292 = .ok (.castore, 1) := by decide +kernel
theorem dX13_init_293 : decode cX13_init 293 = .ok (.putfield 45, 3) := by decide +kernel
theorem dX13_init_296 : decode cX13_init 296 = .ok (.aload_n 0, 1) := by decide +kernel
theorem dX13_init_297 : decode cX13_init 297 = .ok (.bipush 6, 2) := by decide +kernel
theorem dX13_init_299 : decode cX13_init 299 = .ok (.newarray .char, 2) := by decide +kernel
theorem dX13_init_301 : decode cX13_init 301 = .ok (.dup, 1) := by decide +kernel
theorem dX13_init_302 : decode cX13_init 302 = .ok (.iconst 0, 1) := by decide +kernel
theorem dX13_init_303 : decode cX13_init 303 = .ok (.bipush 103, 2) := by decide +kernel
theorem dX13_init_305 : decode cX13_init 305 = .ok (.castore, 1) := by decide +kernel
theorem dX13_init_306 : decode cX13_init 306 = .ok (.dup, 1) := by decide +kernel
theorem dX13_init_307 : decode cX13_init 307 = .ok (.iconst 1, 1) := by decide +kernel
theorem dX13_init_308 : decode cX13_init 308 = .ok (.bipush 97, 2) := by decide +kernel
theorem dX13_init_310 : decode cX13_init 310 = .ok (.castore, 1) := by decide +kernel
theorem dX13_init_311 : decode cX13_init 311 = .ok (.dup, 1) := by decide +kernel
theorem dX13_init_312 : decode cX13_init 312 = .ok (.iconst 2, 1) := by decide +kernel
theorem dX13_init_313 : decode cX13_init 313 = .ok (.bipush 114, 2) := by decide +kernel
theorem dX13_init_315 : decode cX13_init 315 = .ok (.castore, 1) := by decide +kernel
theorem dX13_init_316 : decode cX13_init 316 = .ok (.dup, 1) := by decide +kernel
theorem dX13_init_317 : decode cX13_init 317 = .ok (.iconst 3, 1) := by decide +kernel
theorem dX13_init_318 : decode cX13_init 318 = .ok (.bipush 98, 2) := by decide +kernel
theorem dX13_init_320 : decode cX13_init 320 = .ok (.castore, 1) := by decide +kernel
theorem dX13_init_321 : decode cX13_init 321 = .ok (.dup, 1) := by decide +kernel
theorem dX13_init_322 : decode cX13_init 322 = .ok (.iconst 4, 1) := by decide +kernel
theorem dX13_init_323 : decode cX13_init 323 = .ok (.bipush 108, 2) := by decide +kernel
theorem dX13_init_325 : decode cX13_init 325 = .ok (.castore, 1) := by decide +kernel
theorem dX13_init_326 : decode cX13_init 326 = .ok (.dup, 1) := by decide +kernel
theorem dX13_init_327 : decode cX13_init 327 = .ok (.iconst 5, 1) := by decide +kernel
theorem dX13_init_328 : decode cX13_init 328 = .ok (.bipush 101, 2) := by decide +kernel
theorem dX13_init_330 : decode cX13_init 330 = .ok (.castore, 1) := by decide +kernel
theorem dX13_init_331 : decode cX13_init 331 = .ok (.putfield 48, 3) := by decide +kernel
theorem dX13_init_334 : decode cX13_init 334 = .ok (.aload_n 0, 1) := by decide +kernel
theorem dX13_init_335 : decode cX13_init 335 = .ok (.iconst 4, 1) := by decide +kernel
theorem dX13_init_336 : decode cX13_init 336 = .ok (.newarray .char, 2) := by decide +kernel
theorem dX13_init_338 : decode cX13_init 338 = .ok (.dup, 1) := by decide +kernel
theorem dX13_init_339 : decode cX13_init 339 = .ok (.iconst 0, 1) := by decide +kernel
theorem dX13_init_340 : decode cX13_init 340 = .ok (.bipush 115, 2) := by decide +kernel
theorem dX13_init_342 : decode cX13_init 342 = .ok (.castore, 1) := by decide +kernel
theorem dX13_init_343 : decode cX13_init 343 = .ok (.dup, 1) := by decide +kernel
theorem dX13_init_344 : decode cX13_init 344 = .ok (.iconst 1, 1) := by decide +kernel
theorem dX13_init_345 : decode cX13_init 345 = .ok (.bipush 105, 2) := by decide +kernel
theorem dX13_init_347 : decode cX13_init 347 = .ok (.castore, 1) := by decide +kernel
theorem dX13_init_348 : decode cX13_init 348 = .ok (.dup, 1) := by decide +kernel
theorem dX13_init_349 : decode cX13_init 349 = .ok (.iconst 2, 1) := by decide +kernel
theorem dX13_init_350 : decode cX13_init 350 = .ok (.bipush 116, 2) := by decide +kernel
theorem dX13_init_352 : decode cX13_init 352 = .ok (.castore, 1) := by decide +kernel
theorem dX13_init_353 : decode cX13_init 353 = .ok (.dup, 1) := by decide +kernel
theorem dX13_init_354 : decode cX13_init 354 = .ok (.iconst 3, 1) := by decide +kernel
theorem dX13_init_355 : decode cX13_init 355 = .ok (.bipush 115, 2) := by decide +kernel
theorem dX13_init_357 : decode cX13_init 357 = .ok (.castore, 1) := by decide +kernel
theorem dX13_init_358 : decode cX13_init 358 = .ok (.putfield 51, 3) := by decide +kernel
theorem dX13_init_361 : decode cX13_init 361 = .ok (.aload_n 0, 1) := by decide +kernel
theorem dX13_init_362 : decode cX13_init 362 = .ok (.iconst 4, 1) := by decide +kernel
theorem dX13_init_363 : decode cX13_init 363 = .ok (.newarray .char, 2) := by decide +kernel
theorem dX13_init_365 : decode cX13_init 365 = .ok (.dup, 1) := by decide +kernel
theorem dX13_init_366 : decode cX13_init 366 = .ok (.iconst 0, 1) := by decide +kernel
theorem dX13_init_367 : decode cX13_init 367 = .ok (.bipush 112, 2) := by decide +kernel
theorem dX13_init_369 : decode cX13_init 369 = .ok (.castore, 1) := by decide +kernel
theorem dX13_init_370 : decode cX13_init 370 = .ok (.dup, 1) := by decide +kernel
theorem dX13_init_371 : decode cX13_init 371 = .ok (.iconst 1, 1) := by decide +kernel
theorem dX13_init_372 : decode cX13_init 372 = .ok (.bipush 97, 2) := by decide +kernel
theorem dX13_init_374 : decode cX13_init 374 = .ok (.castore, 1) := by decide +kernel
theorem dX13_init_375 : decode cX13_init 375 = .ok (.dup, 1) := by decide +kernel
theorem dX13_init_376 : decode cX13_init 376 = .ok (.iconst 2, 1) := by decide +kernel
theorem dX13_init_377 : decode cX13_init 377 = .ok (.bipush 115, 2) := by decide +kernel
theorem dX13_init_379 : decode cX13_init 379 = .ok (.castore, 1) := by decide +kernel
theorem dX13_init_380 : decode cX13_init 380 = .ok (.dup, 1) := by decide +kernel
theorem dX13_init_381 : decode cX13_init 381 = .ok (.iconst 3, 1) := by decide +kernel
theorem dX13_init_382 : decode cX13_init 382 = .ok (.bipush 115, 2) := by decide +kernel
theorem dX13_init_384 : decode cX13_init 384 = .ok (.castore, 1) := by decide +kernel
theorem dX13_init_385 : decode cX13_init 385 = .ok (.putfield 54, 3) := by decide +kernel
theorem dX13_init_388 : decode cX13_init 388 = .ok (.aload_n 0, 1) := by decide +kernel
theorem dX13_init_389 : decode cX13_init 389 = .ok (.iconst 5, 1) := by decide +kernel
theorem dX13_init_390 : decode cX13_init 390 = .ok (.newarray .char, 2) := by decide +kernel
theorem dX13_init_392 : decode cX13_init 392 = .ok (.dup, 1) := by decide +kernel
theorem dX13_init_393 : decode cX13_init 393 = .ok (.iconst 0, 1) := by decide +kernel
theorem dX13_init_394 : decode cX13_init 394 = .ok (.bipush 116, 2) := by decide +kernel
theorem dX13_init_396 : decode cX13_init 396 = .ok (.castore, 1) := by decide +kernel
theorem dX13_init_397 : decode cX13_init 397 = .ok (.dup, 1) := by decide +kernel
theorem dX13_init_398 : decode cX13_init 398 = .ok (.iconst 1, 1) := by decide +kernel
theorem dX13_init_399 : decode cX13_init 399 = .ok (.bipush 114, 2) := by decide +kernel
theorem dX13_init_401 : decode cX13_init 401 = .ok (.castore, 1) := by decide +kernel
theorem dX13_init_402 : decode cX13_init 402 = .ok (.dup, 1) := by decide +kernel
theorem dX13_init_403 : decode cX13_init 403 = .ok (.iconst 2, 1) := by decide +kernel
theorem dX13_init_404 : decode cX13_init 404 = .ok (.bipush 105, 2) := by decide +kernel
theorem dX13_init_406 : decode cX13_init 406 = .ok (.castore, 1) := by decide +kernel
theorem dX13_init_407 : decode cX13_init 407 = .ok (.dup, 1) := by decide +kernel
theorem dX13_init_408 : decode cX13_init 408 = .ok (.iconst 3, 1) := by decide +kernel
theorem dX13_init_409 : decode cX13_init 409 = .ok (.bipush 101, 2) := by decide +kernel
theorem dX13_init_411 : decode cX13_init 411 = .ok (.castore, 1) := by decide +kernel
theorem dX13_init_412 : decode cX13_init 412 = .ok (.dup, 1) := by decide +kernel
theorem dX13_init_413 : decode cX13_init 413 = .ok (.iconst 4, 1) := by decide +kernel
theorem dX13_init_414 : decode cX13_init 414 = .ok (.bipush 115, 2) := by decide +kernel
theorem dX13_init_416 : decode cX13_init 416 = .ok (.castore, 1) := by decide +kernel
theorem dX13_init_417 : decode cX13_init 417 = .ok (.putfield 57, 3) := by decide +kernel
theorem dX13_init_420 : decode cX13_init 420 = .ok (.aload_n 0, 1) := by decide +kernel
theorem dX13_init_421 : decode cX13_init 421 = .ok (.iconst 3, 1) := by decide +kernel
theorem dX13_init_422 : decode cX13_init 422 = .ok (.newarray .char, 2) := by decide +kernel
theorem dX13_init_424 : decode cX13_init 424 = .ok (.dup, 1) := by decide +kernel
theorem dX13_init_425 : decode cX13_init 425 = .ok (.iconst 0, 1) := by decide +kernel
theorem dX13_init_426 : decode cX13_init 426 = .ok (.bipush 105, 2) := by decide +kernel
theorem dX13_init_428 : decode cX13_init 428 = .ok (.castore, 1) := by decide +kernel
theorem dX13_init_429 : decode cX13_init 429 = .ok (.dup, 1) := by decide +kernel
theorem dX13_init_430 : decode cX13_init 430 = .ok (.iconst 1, 1) := by decide +kernel
theorem dX13_init_431 : decode cX13_init 431 = .ok (.bipush 108, 2) := by decide +kernel
theorem dX13_init_433 : decode cX13_init 433 = .ok (.castore, 1) := by decide +kernel
theorem dX13_init_434 : decode cX13_init 434 = .ok (.dup, 1) := by decide +kernel
theorem dX13_init_435 : decode cX13_init 435 = .ok (.iconst 2, 1) := by decide +kernel
theorem dX13_init_436 : decode cX13_init 436 = .ok (.bipush 108, 2) := by decide +kernel
theorem dX13_init_438 : decode cX13_init 438 = .ok (.castore, 1) := by decide +kernel
theorem dX13_init_439 : decode cX13_init 439 = .ok (.putfield 60, 3) := by decide +kernel
theorem dX13_init_442 : decode cX13_init 442 = .ok (.aload_n 0, 1) := by decide +kernel
theorem dX13_init_443 : decode cX13_init 443 = .ok (.iconst 5, 1) := by decide +kernel
theorem dX13_init_444 : decode cX13_init 444 = .ok (.newarray .char, 2) := by decide +kernel
theorem dX13_init_446 : decode cX13_init 446 = .ok (.dup, 1) := by decide +kernel
theorem dX13_init_447 : decode cX13_init 447 = .ok (.iconst 0, 1) := by decide +kernel
theorem dX13_init_448 : decode cX13_init 448 = .ok (.bipush 114, 2) := by decide +kernel
theorem dX13_init_450 : decode cX13_init 450 = .ok (.castore, 1) := by decide +kernel
theorem dX13_init_451 : decode cX13_init 451 = .ok (.dup, 1) := by decide +kernel
theorem dX13_init_452 : decode cX13_init 452 = .ok (.iconst 1, 1) := by decide +kernel
theorem dX13_init_453 : decode cX13_init 453 = .ok (.bipush 105, 2) := by decide +kernel
theorem dX13_init_455 : decode cX13_init 455 = .ok (.castore, 1) := by decide +kernel
theorem dX13_init_456 : decode cX13_init 456 = .ok (.dup, 1) := by decide +kernel
theorem dX13_init_457 : decode cX13_init 457 = .ok (.iconst 2, 1) := by decide +kernel
theorem dX13_init_458 : decode cX13_init 458 = .ok (.bipush 103, 2) := by decide +kernel
theorem dX13_init_460 : decode cX13_init 460 = .ok (.castore, 1) := by decide +kernel
theorem dX13_init_461 : decode cX13_init 461 = .ok (.dup, 1) := by decide +kernel
theorem dX13_init_462 : decode cX13_init 462 = .ok (.iconst 3, 1) := by decide +kernel
theorem dX13_init_463 : decode cX13_init 463 = .ok (.bipush 104, 2) := by decide +kernel
theorem dX13_init_465 : decode cX13_init 465 = .ok (.castore, 1) := by decide +kernel
theorem dX13_init_466 : decode cX13_init 466 = .ok (.dup, 1) := by decide +kernel
theorem dX13_init_467 : decode cX13_init 467 = .ok (.iconst 4, 1) := by decide +kernel
theorem dX13_init_468 : decode cX13_init 468 = .ok (.bipush 116, 2) := by decide +kernel
theorem dX13_init_470 : decode cX13_init 470 = .ok (.castore, 1) := by decide +kernel
theorem dX13_init_471 : decode cX13_init 471 = .ok (.putfield 63, 3) := by decide +kernel
theorem dX13_init_474 : decode cX13_init 474 = .ok (.aload_n 0, 1) := by decide +kernel
theorem dX13_init_475 : decode cX13_init 475 = .ok (.iconst 5, 1) := by decide +kernel
theorem dX13_init_476 : decode cX13_init 476 = .ok (.newarray .char, 2) := by decide +kernel
theorem dX13_init_478 : decode cX13_init 478 = .ok (.dup, 1) := by decide +kernel
theorem dX13_init_479 : decode cX13_init 479 = .ok (.iconst 0, 1) := by decide +kernel
theorem dX13_init_480 : decode cX13_init 480 = .ok (.bipush 119, 2) := by decide +kernel
theorem dX13_init_482 : decode cX13_init 482 = .ok (.castore, 1) := by decide +kernel
theorem dX13_init_483 : decode cX13_init 483 = .ok (.dup, 1) := by decide +kernel
theorem dX13_init_484 : decode cX13_init 484 = .ok (.iconst 1, 1) := by decide +kernel
theorem dX13_init_485 : decode cX13_init 485 = .ok (.bipush 114, 2) := by decide +kernel
theorem dX13_init_487 : decode cX13_init 487 = .ok (.castore, 1) := by decide +kernel
theorem dX13_init_488 : decode cX13_init 488 = .ok (.dup, 1) := by decide +kernel
theorem dX13_init_489 : decode cX13_init 489 = .ok (.iconst 2, 1) := by decide +kernel
theorem dX13_init_490 : decode cX13_init 490 = .ok (.bipush 111, 2) := by decide +kernel
theorem dX13_init_492 : decode cX13_init 492 = .ok (.castore, 1) := by decide +kernel
theorem dX13_init_493 : decode cX13_init 493 = .ok (.dup, 1) := by decide +kernel
theorem dX13_init_494 : decode cX13_init 494 = .ok (.iconst 3, 1) := by decide +kernel
theorem dX13_init_495 : decode cX13_init 495 = .ok (.bipush 110, 2) := by decide +kernel
theorem dX13_init_497 : decode cX13_init 497 = .ok (.castore, 1) := by decide +kernel
theorem dX13_init_498 : decode cX13_init 498 = .ok (.dup, 1) := by decide +kernel
theorem dX13_init_499 : decode cX13_init 499 = .ok (.iconst 4, 1) := by decide +kernel
theorem dX13_init_500 : decode cX13_init 500 = .ok (.bipush 103, 2) := by decide +kernel
theorem dX13_init_502 : decode cX13_init 502 = .ok (.castore, 1) := by decide +kernel
theorem dX13_init_503 : decode cX13_init 503 = .ok (.putfield 66, 3) := by decide +kernel
theorem dX13_init_506 : decode cX13_init 506 = .ok (.aload_n 0, 1) := by decide +kernel
theorem dX13_init_507 : decode cX13_init 507 = .ok (.iconst 4, 1) := by decide +kernel
theorem dX13_init_508 : decode cX13_init 508 = .ok (.newarray .char, 2) := by decide +kernel
theorem dX13_init_510 : decode cX13_init 510 = .ok (.dup, 1) := by decide +kernel
theorem dX13_init_511 : decode cX13_init 511 = .ok (.iconst 0, 1) := by decide +kernel
theorem dX13_init_512 : decode cX13_init 512 = .ok (.bipush 121, 2) := by decide +kernel
theorem dX13_init_514 : decode cX13_init 514 = .ok (.castore, 1) := by decide +kernel
theorem dX13_init_515 : decode cX13_init 515 = .ok (.dup, 1) := by decide +kernel
theorem dX13_init_516 : decode cX13_init 516 = .ok (.iconst 1, 1) := by decide +kernel
theorem dX13_init_517 : decode cX13_init 517 = .ok (.bipush 101, 2) := by decide +kernel
theorem dX13_init_519 : decode cX13_init 519 = .ok (.castore, 1) := by decide +kernel
theorem dX13_init_520 : decode cX13_init 520 = .ok (.dup, 1) := by decide +kernel
theorem dX13_init_521 : decode cX13_init 521 = .ok (.iconst 2, 1) := by decide +kernel
theorem dX13_init_522 : decode cX13_init 522 = .ok (.bipush 97, 2) := by decide +kernel
theorem dX13_init_524 : decode cX13_init 524 = .ok (.castore, 1) := by decide +kernel
theorem dX13_init_525 : decode cX13_init 525 = .ok (.dup, 1) := by decide +kernel
theorem dX13_init_526 : decode cX13_init 526 = .ok (.iconst 3, 1) := by decide +kernel
theorem dX13_init_527 : decode cX13_init 527 = .ok (.bipush 114, 2) := by decide +kernel
theorem dX13_init_529 : decode cX13_init 529 = .ok (.castore, 1) := by decide +kernel
theorem dX13_init_530 : decode cX13_init 530 = .ok (.putfield 69, 3) := by decide +kernel
theorem dX13_init_533 : decode cX13_init 533 = .ok (.aload_n 0, 1) := by decide +kernel
theorem dX13_init_534 : decode cX13_init 534 = .ok (.iconst 5, 1) := by decide +kernel
theorem dX13_init_535 : decode cX13_init 535 = .ok (.newarray .char, 2) := by decide +kernel
theorem dX13_init_537 : decode cX13_init 537 = .ok (.dup, 1) := by decide +kernel
theorem dX13_init_538 : decode cX13_init 538 = .ok (.iconst 0, 1) := by decide +kernel
theorem dX13_init_539 : decode cX13_init 539 = .ok (.bipush 99, 2) := by decide +kernel
theorem dX13_init_541 : decode cX13_init 541 = .ok (.castore, 1) := by decide +kernel
theorem dX13_init_542 : decode cX13_init 542 = .ok (.dup, 1) := by decide +kernel
theorem dX13_init_543 : decode cX13_init 543 = .ok (.iconst 1, 1) := by decide +kernel
theorem dX13_init_544 : decode cX13_init 544 = .ok (.bipush 108, 2) := by decide +kernel
theorem dX13_init_546 : decode cX13_init 546 = .ok (.castore, 1) := by decide +kernel
theorem dX13_init_547 : decode cX13_init 547 = .ok (.dup, 1) := by decide +kernel
theorem dX13_init_548 : decode cX13_init 548 = .ok (.iconst 2, 1) := by decide +kernel
theorem dX13_init_549 : decode cX13_init 549 = .ok (.bipush 97, 2) := by decide +kernel
theorem dX13_init_551 : decode cX13_init 551 = .ok (.castore, 1) := by decide +kernel
theorem dX13_init_552 : decode cX13_init 552 = .ok (.dup, 1) := by decide +kernel
theorem dX13_init_553 : decode cX13_init 553 = .ok (.iconst 3, 1) := by decide +kernel
theorem dX13_init_554 : decode cX13_init 554 = .ok (.bipush 115, 2) := by decide +kernel
theorem dX13_init_556 : decode cX13_init 556 = .ok (.castore, 1) := by decide +kernel
theorem dX13_init_557 : decode cX13_init 557 = .ok (.dup, 1) := by decide +kernel
theorem dX13_init_558 : decode cX13_init 558 = .ok (.iconst 4, 1) := by decide +kernel
theorem dX13_init_559 : decode cX13_init 559 = .ok (.bipush 115, 2) := by decide +kernel
theorem dX13_init_561 : decode cX13_init 561 = .ok (.castore, 1) := by decide +kernel
theorem dX13_init_562 : decode cX13_init 562 = .ok (.putfield 72, 3) := by decide +kernel
theorem dX13_init_565 : decode cX13_init 565 = .ok (.aload_n 0, 1) := by decide +kernel
theorem dX13_init_566 : decode cX13_init 566 = .ok (.iconst 5, 1) := by decide +kernel
theorem dX13_init_567 : decode cX13_init 567 = .ok (.newarray .char, 2) := by decide +kernel
theorem dX13_init_569 : decode cX13_init 569 = .ok (.dup, 1) := by decide +kernel
theorem dX13_init_570 : decode cX13_init 570 = .ok (.iconst 0, 1) := by decide +kernel
theorem dX13_init_571 : decode cX13_init 571 = .ok (.bipush 109, 2) := by decide +kernel
theorem dX13_init_573 : decode cX13_init 573 = .ok (.castore, 1) := by decide +kernel
theorem dX13_init_574 : decode cX13_init 574 = .ok (.dup, 1) := by decide +kernel
theorem dX13_init_575 : decode cX13_init 575 = .ok (.iconst 1, 1) := by decide +kernel
theorem dX13_init_576 : decode cX13_init 576 = .ok (.bipush 99, 2) := by decide +kernel
theorem dX13_init_578 : decode cX13_init 578 = .ok (.castore, 1) := by decide +kernel
theorem dX13_init_579 : decode cX13_init 579 = .ok (.dup, 1) := by decide +kernel
theorem dX13_init_580 : decode cX13_init 580 = .ok (.iconst 2, 1) := by decide +kernel
theorem dX13_init_581 : decode cX13_init 581 = .ok (.bipush 97, 2) := by decide +kernel
theorem dX13_init_583 : decode cX13_init 583 = .ok (.castore, 1) := by decide +kernel
theorem dX13_init_584 : decode cX13_init 584 = .ok (.dup, 1) := by decide +kernel
theorem dX13_init_585 : decode cX13_init 585 = .ok (.iconst 3, 1) := by decide +kernel
theorem dX13_init_586 : decode cX13_init 586 = .ok (.bipush 108, 2) := by decide +kernel
theorem dX13_init_588 : decode cX13_init 588 = .ok (.castore, 1) := by decide +kernel
theorem dX13_init_589 : decode cX13_init 589 = .ok (.dup, 1) := by decide +kernel
theorem dX13_init_590 : decode cX13_init 590 = .ok (.iconst 4, 1) := by decide +kernel
theorem dX13_init_591 : decode cX13_init 591 = .ok (.bipush 109, 2) := by decide +kernel
theorem dX13_init_593 : decode cX13_init 593 = .ok (.castore, 1) := by decide +kernel
theorem dX13_init_594 : decode cX13_init 594 = .ok (.putfield 75, 3) := by decide +kernel
theorem dX13_init_597 : decode cX13_init 597 = .ok (.aload_n 0, 1) := by decide +kernel
theorem dX13_init_598 : decode cX13_init 598 = .ok (.iconst 4, 1) := by decide +kernel
theorem dX13_init_599 : decode cX13_init 599 = .ok (.newarray .char, 2) := by decide +kernel
theorem dX13_init_601 : decode cX13_init 601 = .ok (.dup, 1) := by decide +kernel
theorem dX13_init_602 : decode cX13_init 602 = .ok (.iconst 0, 1) := by decide +kernel
theorem dX13_init_603 : decode cX13_init 603 = .ok (.bipush 108, 2) := by decide +kernel
theorem dX13_init_605 : decode cX13_init 605 = .ok (.castore, 1) := by decide +kernel
theorem dX13_init_606 : decode cX13_init 606 = .ok (.dup, 1) := by decide +kernel
theorem dX13_init_607 : decode cX13_init 607 = .ok (.iconst 1, 1) := by decide +kernel
theorem dX13_init_608 : decode cX13_init 608 = .ok (.bipush 101, 2) := by decide +kernel
theorem dX13_init_610 : decode cX13_init 610 = .ok (.castore, 1) := by decide +kernel
theorem dX13_init_611 : decode cX13_init 611 = .ok (.dup, 1) := by decide +kernel
theorem dX13_init_612 : decode cX13_init 612 = .ok (.iconst 2, 1) := by decide +kernel
theorem dX13_init_613 : decode cX13_init 613 = .ok (.bipush 102, 2) := by decide +kernel
theorem dX13_init_615 : decode cX13_init 615 = .ok (.castore, 1) := by decide +kernel
theorem dX13_init_616 : decode cX13_init 616 = .ok (.dup, 1) := by decide +kernel
theorem dX13_init_617 : decode cX13_init 617 = .ok (.iconst 3, 1) := by decide +kernel
theorem dX13_init_618 : decode cX13_init 618 = .ok (.bipush 116, 2) := by decide +kernel
theorem dX13_init_620 : decode cX13_init 620 = .ok (.castore, 1) := by decide +kernel
theorem dX13_init_621 : decode cX13_init 621 = .ok (.putfield 78, 3) := by decide +kernel
theorem dX13_init_624 : decode cX13_init 624 = .ok (.aload_n 0, 1) := by decide +kernel
theorem dX13_init_625 : decode cX13_init 625 = .ok (.iconst 5, 1) := by decide +kernel
theorem dX13_init_626 : decode cX13_init 626 = .ok (.newarray .char, 2) := by decide +kernel
theorem dX13_init_628 : decode cX13_init 628 = .ok (.dup, 1) := by decide +kernel
theorem dX13_init_629 : decode cX13_init 629 = .ok (.iconst 0, 1) := by decide +kernel
theorem dX13_init_630 : decode cX13_init 630 = .ok (.bipush 109, 2) := by decide +kernel
theorem dX13_init_632 : decode cX13_init 632 = .ok (.castore, 1) := by decide +kernel
theorem dX13_init_633 : decode cX13_init 633 = .ok (.dup, 1) := by decide +kernel
theorem dX13_init_634 : decode cX13_init 634 = .ok (.iconst 1, 1) := by decide +kernel
theorem dX13_init_635 : decode cX13_init 635 = .ok (.bipush 97, 2) := by decide +kernel
theorem dX13_init_637 : decode cX13_init 637 = .ok (.castore, 1) := by decide +kernel
theorem dX13_init_638 : decode cX13_init 638 = .ok (.dup, 1) := by decide +kernel
theorem dX13_init_639 : decode cX13_init 639 = .ok (.iconst 2, 1) := by decide +kernel
theorem dX13_init_640 : decode cX13_init 640 = .ok (.bipush 114, 2) := by decide +kernel
theorem dX13_init_642 : decode cX13_init 642 = .ok (.castore, 1) := by decide +kernel
theorem dX13_init_643 : decode cX13_init 643 = .ok (.dup, 1) := by decide +kernel
theorem dX13_init_644 : decode cX13_init 644 = .ok (.iconst 3, 1) := by decide +kernel
theorem dX13_init_645 : decode cX13_init 645 = .ok (.bipush 107, 2) := by decide +kernel
theorem dX13_init_647 : decode cX13_init 647 = .ok (.castore, 1) := by decide +kernel
theorem dX13_init_648 : decode cX13_init 648 = .ok (.dup, 1) := by decide +kernel
theorem dX13_init_649 : decode cX13_init 649 = .ok (.iconst 4, 1) := by decide +kernel
theorem dX13_init_650 : decode cX13_init 650 = .ok (.bipush 115, 2) := by decide +kernel
theorem dX13_init_652 : decode cX13_init 652 = .ok (.castore, 1) := by decide +kernel
theorem dX13_init_653 : decode cX13_init 653 = .ok (.putfield 81, 3) := by decide +kernel
theorem dX13_init_656 : decode cX13_init 656 = .ok (.aload_n 0, 1) := by decide +kernel
theorem dX13_init_657 : decode cX13_init 657 = .ok (.bipush 6, 2) := by decide +kernel
theorem dX13_init_659 : decode cX13_init 659 = .ok (.newarray .char, 2) := by decide +kernel
theorem dX13_init_661 : decode cX13_init 661 = .ok (.dup, 1) := by decide +kernel
theorem dX13_init_662 : decode cX13_init 662 = .ok (.iconst 0, 1) := by decide +kernel
theorem dX13_init_663 : decode cX13_init 663 = .ok (.bipush 110, 2) := by decide +kernel
theorem dX13_init_665 : decode cX13_init 665 = .ok (.castore, 1) := by decide +kernel
theorem dX13_init_666 : decode cX13_init 666 = .ok (.dup, 1) := by decide +kernel
theorem dX13_init_667 : decode cX13_init 667 = .ok (.iconst 1, 1) := by decide +kernel
theorem dX13_init_668 : decode cX13_init 668 = .ok (.bipush 117, 2) := by decide +kernel
theorem dX13_init_670 : decode cX13_init 670 = .ok (.castore, 1) := by decide +kernel
theorem dX13_init_671 : decode cX13_init 671 = .ok (.dup, 1) := by decide +kernel
theorem dX13_init_672 : decode cX13_init 672 = .ok (.iconst 2, 1) := by decide +kernel
theorem dX13_init_673 : decode cX13_init 673 = .ok (.bipush 109, 2) := by decide +kernel
theorem dX13_init_675 : decode cX13_init 675 = .ok (.castore, 1) := by decide +kernel
theorem dX13_init_676 : decode cX13_init 676 = .ok (.dup, 1) := by decide +kernel
theorem dX13_init_677 : decode cX13_init 677 = .ok (.iconst 3, 1) := by decide +kernel
theorem dX13_init_678 : decode cX13_init 678 = .ok (.bipush 98, 2) := by decide +kernel
theorem dX13_init_680 : decode cX13_init 680 = .ok (.castore, 1) := by decide +kernel
theorem dX13_init_681 : decode cX13_init 681 = .ok (.dup, 1) := by decide +kernel
theorem dX13_init_682 : decode cX13_init 682 = .ok (.iconst 4, 1) := by decide +kernel
theorem dX13_init_683 : decode cX13_init 683 = .ok (.bipush 101, 2) := by decide +kernel
theorem dX13_init_685 : decode cX13_init 685 = .ok (.castore, 1) := by decide +kernel
theorem dX13_init_686 : decode cX13_init 686 = .ok (.dup, 1) := by decide +kernel
theorem dX13_init_687 : decode cX13_init 687 = .ok (.iconst 5, 1) := by decide +kernel
theorem dX13_init_688 : decode cX13_init 688 = .ok (.bipush 114, 2) := by decide +kernel
theorem dX13_init_690 : decode cX13_init 690 = .ok (.castore, 1) := by decide +kernel
theorem dX13_init_691 : decode cX13_init 691 = .ok (.putfield 84, 3) := by decide +kernel
theorem dX13_init_694 : decode cX13_init 694 = .ok (.aload_n 0, 1) := by decide +kernel
theorem dX13_init_695 : decode cX13_init 695 = .ok (.iconst 2, 1) := by decide +kernel
theorem dX13_init_696 : decode cX13_init 696 = .ok (.newarray .char, 2) := by decide +kernel
theorem dX13_init_698 : decode cX13_init 698 = .ok (.dup, 1) := by decide +kernel
theorem dX13_init_699 : decode cX13_init 699 = .ok (.iconst 0, 1) := by decide +kernel
theorem dX13_init_700 : decode cX13_init 700 = .ok (.bipush 111, 2) := by decide +kernel
theorem dX13_init_702 : decode cX13_init 702 = .ok (.castore, 1) := by decide +kernel
theorem dX13_init_703 : decode cX13_init 703 = .ok (.dup, 1) := by decide +kernel
theorem dX13_init_704 : decode cX13_init 704 = .ok (.iconst 1, 1) := by decide +kernel
theorem dX13_init_705 : decode cX13_init 705 = .ok (.bipush 114, 2) := by decide +kernel
theorem dX13_init_707 : decode cX13_init 707 = .ok (.castore, 1) := by decide +kernel
theorem dX13_init_708 : decode cX13_init 708 = .ok (.putfield 87, 3) := by decide +kernel
theorem dX13_init_711 : decode cX13_init 711 = .ok (.aload_n 0, 1) := by decide +kernel
theorem dX13_init_712 : decode cX13_init 712 = .ok (.iconst 3, 1) := by decide +kernel
theorem dX13_init_713 : decode cX13_init 713 = .ok (.newarray .char, 2) := by decide +kernel
theorem dX13_init_715 : decode cX13_init 715 = .ok (.dup, 1) := by decide +kernel
theorem dX13_init_716 : decode cX13_init 716 = .ok (.iconst 0, 1) := by decide +kernel
theorem dX13_init_717 : decode cX13_init 717 = .ok (.bipush 97, 2) := by decide +kernel
theorem dX13_init_719 : decode cX13_init 719 = .ok (.castore, 1) := by decide +kernel
theorem dX13_init_720 : decode cX13_init 720 = .ok (.dup, 1) := by decide +kernel
theorem dX13_init_721 : decode cX13_init 721 = .ok (.iconst 1, 1) := by decide +kernel
theorem dX13_init_722 : decode cX13_init 722 = .ok (.bipush 110, 2) := by decide +kernel
theorem dX13_init_724 : decode cX13_init 724 = .ok (.castore, 1) := by decide +kernel
theorem dX13_init_725 : decode cX13_init 725 = .ok (.dup, 1) := by decide +kernel
theorem dX13_init_726 : decode cX13_init 726 = .ok (.iconst 2, 1) := by decide +kernel
theorem dX13_init_727 : decode cX13_init 727 = .ok (.bipush 100, 2) := by decide +kernel
theorem dX13_init_729 : decode cX13_init 729 = .ok (.castore, 1) := by decide +kernel
theorem dX13_init_730 : decode cX13_init 730 = .ok (.putfield 90, 3) := by decide +kernel
theorem dX13_init_733 : decode cX13_init 733 = .ok (.aload_n 0, 1) := by decide +kernel
theorem dX13_init_734 : decode cX13_init 734 = .ok (.iconst 3, 1) := by decide +kernel
theorem dX13_init_735 : decode cX13_init 735 = .ok (.newarray .char, 2) := by decide +kernel
theorem dX13_init_737 : decode cX13_init 737 = .ok (.dup, 1) := by decide +kernel
theorem dX13_init_738 : decode cX13_init 738 = .ok (.iconst 0, 1) := by decide +kernel
theorem dX13_init_739 : decode cX13_init 739 = .ok (.bipush 110, 2) := by decide +kernel
theorem dX13_init_741 : decode cX13_init 741 = .ok (.castore, 1) := by decide +kernel
theorem dX13_init_742 : decode cX13_init 742 = .ok (.dup, 1) := by decide +kernel
theorem dX13_init_743 : decode cX13_init 743 = .ok (.iconst 1, 1) := by decide +kernel
theorem dX13_init_744 : decode cX13_init 744 = .ok (.bipush 111, 2) := by decide +kernel
theorem dX13_init_746 : decode cX13_init 746 = .ok (.castore, 1) := by decide +kernel
theorem dX13_init_747 : decode cX13_init 747 = .ok (.dup, 1) := by decide +kernel
theorem dX13_init_748 : decode cX13_init 748 = .ok (.iconst 2, 1) := by decide +kernel
theorem dX13_init_749 : decode cX13_init 749 = .ok (.bipush 116, 2) := by decide +kernel
theorem dX13_init_751 : decode cX13_init 751 = .ok (.castore, 1) := by decide +kernel
theorem dX13_init_752 : decode cX13_init 752 = .ok (.putfield 93, 3) := by decide +kernel
theorem dX13_init_755 : decode cX13_init 755 = .ok (.aload_n 0, 1) := by decide +kernel
theorem dX13_init_756 : decode cX13_init 756 = .ok (.iconst 3, 1) := by decide +kernel
theorem dX13_init_757 : decode cX13_init 757 = .ok (.newarray .char, 2) := by decide +kernel
theorem dX13_init_759 : decode cX13_init 759 = .ok (.dup, 1) := by decide +kernel
theorem dX13_init_760 : decode cX13_init 760 = .ok (.iconst 0, 1) := by decide +kernel
theorem dX13_init_761 : decode cX13_init 761 = .ok (.bipush 97, 2) := by decide +kernel
theorem dX13_init_763 : decode cX13_init 763 = .ok (.castore, 1) := by decide +kernel
theorem dX13_init_764 : decode cX13_init 764 = .ok (.dup, 1) := by decide +kernel
theorem dX13_init_765 : decode cX13_init 765 = .ok (.iconst 1, 1) := by decide +kernel
theorem dX13_init_766 : decode cX13_init 766 = .ok (.bipush 108, 2) := by decide +kernel
theorem dX13_init_768 : decode cX13_init 768 = .ok (.castore, 1) := by decide +kernel
theorem dX13_init_769 : decode cX13_init 769 = .ok (.dup, 1) := by decide +kernel
theorem dX13_init_770 : decode cX13_init 770 = .ok (.iconst 2, 1) := by decide +kernel
theorem dX13_init_771 : decode cX13_init 771 = .ok (.bipush 108, 2) := by decide +kernel
theorem dX13_init_773 : decode cX13_init 773 = .ok (.castore, 1) := by decide +kernel
theorem dX13_init_774 : decode cX13_init 774 = .ok (.putfield 96, 3) := by decide +kernel
theorem dX13_init_777 : decode cX13_init 777 = .ok (.aload_n 0, 1) := by decide +kernel
theorem dX13_init_778 : decode cX13_init 778 = .ok (.iconst 3, 1) := by decide +kernel
theorem dX13_init_779 : decode cX13_init 779 = .ok (.newarray .char, 2) := by decide +kernel
theorem dX13_init_781 : decode cX13_init 781 = .ok (.dup, 1) := by decide +kernel
theorem dX13_init_782 : decode cX13_init 782 = .ok (.iconst 0, 1) := by decide +kernel
theorem dX13_init_783 : decode cX13_init 783 = .ok (.bipush 109, 2) := by decide +kernel
theorem dX13_init_785 : decode cX13_init 785 = .ok (.castore, 1) := by decide +kernel
theorem dX13_init_786 : decode cX13_init 786 = .ok (.dup, 1) := by decide +kernel
theorem dX13_init_787 : decode cX13_init 787 = .ok (.iconst 1, 1) := by decide +kernel
theorem dX13_init_788 : decode cX13_init 788 = .ok (.bipush 105, 2) := by decide +kernel
theorem dX13_init_790 : decode cX13_init 790 = .ok (.castore, 1) := by decide +kernel
theorem dX13_init_791 : decode cX13_init 791 = .ok (.dup, 1) := by decide +kernel
theorem dX13_init_792 : decode cX13_init 792 = .ok (.iconst 2, 1) := by decide +kernel
theorem dX13_init_793 : decode cX13_init 793 = .ok (.bipush 110, 2) := by decide +kernel
theorem dX13_init_795 : decode cX13_init 795 = .ok (.castore, 1) := by decide +kernel
theorem dX13_init_796 : decode cX13_init 796 = .ok (.putfield 99, 3) := by decide +kernel
theorem dX13_init_799 : decode cX13_init 799 = .ok (.aload_n 0, 1) := by decide +kernel
theorem dX13_init_800 : decode cX13_init 800 = .ok (.iconst 3, 1) := by decide +kernel
theorem dX13_init_801 : decode cX13_init 801 = .ok (.newarray .char, 2) := by decide +kernel
theorem dX13_init_803 : decode cX13_init 803 = .ok (.dup, 1) := by decide +kernel
theorem dX13_init_804 : decode cX13_init 804 = .ok (.iconst 0, 1) := by decide +kernel
theorem dX13_init_805 : decode cX13_init 805 = .ok (.bipush 109, 2) := by decide +kernel
theorem dX13_init_807 : decode cX13_init 807 = .ok (.castore, 1) := by decide +kernel
theorem dX13_init_808 : decode cX13_init 808 = .ok (.dup, 1) := by decide +kernel
theorem dX13_init_809 : decode cX13_init 809 = .ok (.iconst 1, 1) := by decide +kernel
theorem dX13_init_810 : decode cX13_init 810 = .ok (.bipush 97, 2) := by decide +kernel
theorem dX13_init_812 : decode cX13_init 812 = .ok (.castore, 1) := by decide +kernel
theorem dX13_init_813 : decode cX13_init 813 = .ok (.dup, 1) := by decide +kernel
theorem dX13_init_814 : decode cX13_init 814 = .ok (.iconst 2, 1) := by decide +kernel
theorem dX13_init_815 : decode cX13_init 815 = .ok (.bipush 120, 2) := by decide +kernel
theorem dX13_init_817 : decode cX13_init 817 = .ok (.castore, 1) := by decide +kernel
theorem dX13_init_818 : decode cX13_init 818 = .ok (.putfield 102, 3) := by decide +kernel
theorem dX13_init_821 : decode cX13_init 821 = .ok (.aload_n 0, 1) := by decide +kernel
theorem dX13_init_822 : decode cX13_init 822 = .ok (.iconst 4, 1) := by decide +kernel
theorem dX13_init_823 : decode cX13_init 823 = .ok (.newarray .int, 2) := by decide +kernel
theorem dX13_init_825 : decode cX13_init 825 = .ok (.putfield 105, 3) := by decide +kernel
theorem dX13_init_828 : decode cX13_init 828 = .ok (.aload_n 0, 1) := by decide +kernel
theorem dX13_init_829 : decode cX13_init 829 = .ok (.bipush 32, 2) := by decide +kernel
theorem dX13_init_831 : decode cX13_init 831 = .ok (.newarray .long, 2) := by decide +kernel
theorem dX13_init_833 : decode cX13_init 833 = .ok (.putfield 108, 3) := by decide +kernel
theorem dX13_init_836 : decode cX13_init 836 = .ok (.aload_n 0, 1) := by decide +kernel
theorem dX13_init_837 : decode cX13_init 837 = .ok (.bipush 16, 2) := by decide +kernel
theorem dX13_init_839 : decode cX13_init 839 = .ok (.newarray .int, 2) := by decide +kernel
theorem dX13_init_841 : decode cX13_init 841 = .ok (.putfield 112, 3) := by decide +kernel
theorem dX13_init_844 : decode cX13_init 844 = .ok (.aload_n 0, 1) := by decide +kernel
theorem dX13_init_845 : decode cX13_init 845 = .ok (.bipush 16, 2) := by decide +kernel
theorem dX13_init_847 : decode cX13_init 847 = .ok (.newarray .int, 2) := by decide +kernel
theorem dX13_init_849 : decode cX13_init 849 = .ok (.putfield 115, 3) := by decide +kernel
theorem dX13_init_852 : decode cX13_init 852 = .ok (.aload_n 0, 1) := by decide +kernel
theorem dX13_init_853 : decode cX13_init 853 = .ok (.bipush 8, 2) := by decide +kernel
theorem dX13_init_855 : decode cX13_init 855 = .ok (.newarray .int, 2) := by decide +kernel
theorem dX13_init_857 : decode cX13_init 857 = .ok (.putfield 118, 3) := by decide +kernel
theorem dX13_init_860 : decode cX13_init 860 = .ok (.aload_n 0, 1) := by decide +kernel
theorem dX13_init_861 : decode cX13_init 861 = .ok (.bipush 8, 2) := by decide +kernel
theorem dX13_init_863 : decode cX13_init 863 = .ok (.newarray .int, 2) := by decide +kernel
theorem dX13_init_865 : decode cX13_init 865 = .ok (.putfield 121, 3) := by decide +kernel
theorem dX13_init_868 : decode cX13_init 868 = .ok (.aload_n 0, 1) := by decide +kernel
theorem dX13_init_869 : decode cX13_init 869 = .ok (.bipush 8, 2) := by decide +kernel
theorem dX13_init_871 : decode cX13_init 871 = .ok (.newarray .int, 2) := by decide +kernel
theorem dX13_init_873 : decode cX13_init 873 = .ok (.putfield 124, 3) := by decide +kernel
theorem dX13_init_876 : decode cX13_init 876 = .ok (.aload_n 0, 1) := by decide +kernel
theorem dX13_init_877 : decode cX13_init 877 = .ok (.bipush 6, 2) := by decide +kernel
theorem dX13_init_879 : decode cX13_init 879 = .ok (.newarray .int, 2) := by decide +kernel
theorem dX13_init_881 : decode cX13_init 881 = .ok (.dup, 1) := by decide +kernel
theorem dX13_init_882 : decode cX13_init 882 = .ok (.iconst 0, 1) := by decide +kernel
theorem dX13_init_883 : decode cX13_init 883 = .ok (.bipush 10, 2) := by decide +kernel
theorem dX13_init_885 : decode cX13_init 885 = .ok (.iastore, 1) := by decide +kernel
theorem dX13_init_886 : decode cX13_init 886 = .ok (.dup, 1) := by decide +kernel
theorem dX13_init_887 : decode cX13_init 887 = .ok (.iconst 1, 1) := by decide +kernel
theorem dX13_init_888 : decode cX13_init 888 = .ok (.iconst 3, 1) := by decide +kernel
theorem dX13_init_889 : decode cX13_init 889 = .ok (.iastore, 1) := by decide +kernel
theorem dX13_init_890 : decode cX13_init 890 = .ok (.dup, 1) := by decide +kernel
theorem dX13_init_891 : decode cX13_init 891 = .ok (.iconst 2, 1) := by decide +kernel
theorem dX13_init_892 : decode cX13_init 892 = .ok (.iconst 0, 1) := by decide +kernel
theorem dX13_init_893 : decode cX13_init 893 = .ok (.iastore, 1) := by decide +kernel
theorem dX13_init_894 : decode cX13_init 894 = .ok (.dup, 1) := by decide +kernel
theorem dX13_init_895 : decode cX13_init 895 = .ok (.iconst 3, 1) := by decide +kernel
theorem dX13_init_896 : decode cX13_init 896 = .ok (.bipush 10, 2) := by decide +kernel
theorem dX13_init_898 : decode cX13_init 898 = .ok (.iastore, 1) := by decide +kernel
theorem dX13_init_899 : decode cX13_init 899 = .ok (.dup, 1) := by decide +kernel
theorem dX13_init_900 : decode cX13_init 900 = .ok (.iconst 4, 1) := by decide +kernel
theorem dX13_init_901 : decode cX13_init 901 = .ok (.iconst 3, 1) := by decide +kernel
theorem dX13_init_902 : decode cX13_init 902 = .ok (.iastore, 1) := by decide +kernel
theorem dX13_init_903 : decode cX13_init 903 = .ok (.dup, 1) := by decide +kernel
theorem dX13_init_904 : decode cX13_init 904 = .ok (.iconst 5, 1) := by decide +kernel
theorem dX13_init_905 : decode cX13_init 905 = .ok (.iconst 0, 1) := by decide +kernel
theorem dX13_init_906 : decode cX13_init 906 = .ok (.iastore, 1) := by decide +kernel
theorem dX13_init_907 : decode cX13_init 907 = .ok (.putfield 127, 3) := by decide +kernel
theorem dX13_init_910 : decode cX13_init 910 = .ok (.aload_n 0, 1) := by decide +kernel
theorem dX13_init_911 : decode cX13_init 911 = .ok (.bipush 6, 2) := by decide +kernel
theorem dX13_init_913 : decode cX13_init 913 = .ok (.newarray .int, 2) := by decide +kernel
theorem dX13_init_915 : decode cX13_init 915 = .ok (.dup, 1) := by decide +kernel
theorem dX13_init_916 : decode cX13_init 916 = .ok (.iconst 0, 1) := by decide +kernel
theorem dX13_init_917 : decode cX13_init 917 = .ok (.iconst (-1), 1) := by decide +kernel
theorem dX13_init_918 : decode cX13_init 918 = .ok (.iastore, 1) := by decide +kernel
theorem dX13_init_919 : decode cX13_init 919 = .ok (.dup, 1) := by decide +kernel
theorem dX13_init_920 : decode cX13_init 920 = .ok (.iconst 1, 1) := by decide +kernel
theorem dX13_init_921 : decode cX13_init 921 = .ok (.iconst (-1), 1) := by decide +kernel
theorem dX13_init_922 : decode cX13_init 922 = .ok (.iastore, 1) := by decide +kernel
theorem dX13_init_923 : decode cX13_init 923 = .ok (.dup, 1) := by decide +kernel
theorem dX13_init_924 : decode cX13_init 924 = .ok (.iconst 2, 1) := by decide +kernel
theorem dX13_init_925 : decode cX13_init 925 = .ok (.iconst (-1), 1) := by decide +kernel
theorem dX13_init_926 : decode cX13_init 926 = .ok (.iastore, 1) := by decide +kernel
theorem dX13_init_927 : decode cX13_init 927 = .ok (.dup, 1) := by decide +kernel
theorem dX13_init_928 : decode cX13_init 928 = .ok (.iconst 3, 1) := by decide +kernel
theorem dX13_init_929 : decode cX13_init 929 = .ok (.iconst (-1), 1) := by decide +kernel
theorem dX13_init_930 : decode cX13_init 930 = .ok (.iastore, 1) := by decide +kernel
theorem dX13_init_931 : decode cX13_init 931 = .ok (.dup, 1) := by decide +kernel
theorem dX13_init_932 : decode cX13_init 932 = .ok (.iconst 4, 1) := by decide +kernel
theorem dX13_init_933 : decode cX13_init 933 = .ok (.iconst (-1), 1) := by decide +kernel
theorem dX13_init_934 : decode cX13_init 934 = .ok (.iastore, 1) := by decide +kernel
theorem dX13_init_935 : decode cX13_init 935 = .ok (.dup, 1) := by decide +kernel
theorem dX13_init_936 : decode cX13_init 936 = .ok (.iconst 5, 1) := by decide +kernel
theorem dX13_init_937 : decode cX13_init 937 = .ok (.iconst (-1), 1) := by decide +kernel
theorem dX13_init_938 : decode cX13_init 938 = .ok (.iastore, 1) := by decide +kernel
theorem dX13_init_939 : decode cX13_init 939 = .ok (.putfield 130, 3) := by decide +kernel
theorem dX13_init_942 : decode cX13_init 942 = .ok (.aload_n 0, 1) := by decide +kernel
theorem dX13_init_943 : decode cX13_init 943 = .ok (.bipush 6, 2) := by decide +kernel
theorem dX13_init_945 : decode cX13_init 945 = .ok (.newarray .int, 2) := by decide +kernel
theorem dX13_init_947 : decode cX13_init 947 = .ok (.putfield 133, 3) := by decide +kernel
theorem dX13_init_950 : decode cX13_init 950 = .ok (.aload_n 0, 1) := by decide +kernel
theorem dX13_init_951 : decode cX13_init 951 = .ok (.sipush 3200, 3) := by decide +kernel
theorem dX13_init_954 : decode cX13_init 954 = .ok (.newarray .int, 2) := by decide +kernel
theorem dX13_init_956 : decode cX13_init 956 = .ok (.putfield 136, 3) := by decide +kernel
theorem dX13_init_959 : decode cX13_init 959 = .ok (.aload_n 0, 1) := by decide +kernel
theorem dX13_init_960 : decode cX13_init 960 = .ok (.sipush 132, 3) := by decide +kernel
theorem dX13_init_963 : decode cX13_init 963 = .ok (.newarray .int, 2) := by decide +kernel
theorem dX13_init_965 : decode cX13_init 965 = .ok (.putfield 139, 3) := by decide +kernel
theorem dX13_init_968 : decode cX13_init 968 = .ok (.aload_n 0, 1) := by decide +kernel
theorem dX13_init_969 : decode cX13_init 969 = .ok (.bipush 41, 2) := by decide +kernel
theorem dX13_init_971 : decode cX13_init 971 = .ok (.newarray .int, 2) := by decide +kernel
theorem dX13_init_973 : decode cX13_init 973 = .ok (.putfield 142, 3) := by decide +kernel
theorem dX13_init_976 : decode cX13_init 976 = .ok (.aload_n 0, 1) := by decide +kernel
theorem dX13_init_977 : decode cX13_init 977 = .ok (.bipush 8, 2) := by decide +kernel
theorem dX13_init_979 : decode cX13_init 979 = .ok (.newarray .int, 2) := by decide +kernel
theorem dX13_init_981 : decode cX13_init 981 = .ok (.putfield 145, 3) := by decide +kernel
theorem dX13_init_984 : decode cX13_init 984 = .ok (.aload_n 0, 1) := by decide +kernel
theorem dX13_init_985 : decode cX13_init 985 = .ok (.bipush 8, 2) := by decide +kernel
theorem dX13_init_987 : decode cX13_init 987 = .ok (.newarray .int, 2) := by decide +kernel
theorem dX13_init_989 : decode cX13_init 989 = .ok (.putfield 148, 3) := by decide +kernel
theorem dX13_init_992 : decode cX13_init 992 = .ok (.aload_n 0, 1) := by decide +kernel
theorem dX13_init_993 : decode cX13_init 993 = .ok (.bipush 32, 2) := by decide +kernel
theorem dX13_init_995 : decode cX13_init 995 = .ok (.newarray .int, 2) := by decide +kernel
theorem dX13_init_997 : decode cX13_init 997 = .ok (.putfield 151, 3) := by decide +kernel
theorem dX13_init_1000 : decode cX13_init 1000 = .ok (.aload_n 0, 1) := by decide +kernel
theorem dX13_init_1001 : decode cX13_init 1001 = .ok (.bipush 8, 2) := by decide +kernel
theorem dX13_init_1003 : decode cX13_init 1003 = .ok (.newarray .int, 2) := by decide +kernel
theorem dX13_init_1005 : decode cX13_init 1005 = .ok (.putfield 154, 3) := by decide +kernel
theorem dX13_init_1008 : decode cX13_init 1008 = .ok (.aload_n 0, 1) := by decide +kernel
theorem dX13_init_1009 : decode cX13_init 1009 = .ok (.bipush 24, 2) := by decide +kernel
theorem dX13_init_1011 : decode cX13_init 1011 = .ok (.newarray .int, 2) := by decide +kernel
theorem dX13_init_1013 : decode cX13_init 1013 = .ok (.putfield 157, 3) := by decide +kernel
theorem dX13_init_1016 : decode cX13_init 1016 = .ok (.aload_n 0, 1) := by decide +kernel
theorem dX13_init_1017 : decode cX13_init 1017 = .ok (.sipush 2640, 3) := by decide +kernel
theorem dX13_init_1020 : decode cX13_init 1020 = .ok (.newarray .int, 2) := by decide +kernel
theorem dX13_init_1022 : decode cX13_init 1022 = .ok (.putfield 160, 3) := by decide +kernel
theorem dX13_init_1025 : decode cX13_init 1025 = .ok (.aload_n 0, 1) := by decide +kernel
theorem dX13_init_1026 : decode cX13_init 1026 = .ok (.lconst 1, 1) := by decide +kernel
theorem dX13_init_1027 : decode cX13_init 1027 = .ok (.putfield 163, 3) := by decide +kernel
theorem dX13_init_1030 : decode cX13_init 1030 = .ok (.aload_n 0, 1) := by decide +kernel
theorem dX13_init_1031 : decode cX13_init 1031 = .ok (.iconst 5, 1) := by decide +kernel
theorem dX13_init_1032 : decode cX13_init 1032 = .ok (.newarray .char, 2) := by decide +kernel
theorem dX13_init_1034 : decode cX13_init 1034 = .ok (.dup, 1) := by decide +kernel
theorem dX13_init_1035 : decode cX13_init 1035 = .ok (.iconst 0, 1) := by decide +kernel
theorem dX13_init_1036 : decode cX13_init 1036 = .ok (.bipush 102, 2) := by decide +kernel
theorem dX13_init_1038 : decode cX13_init 1038 = .ok (.castore, 1) := by decide +kernel
theorem dX13_init_1039 : decode cX13_init 1039 = .ok (.dup, 1) := by decide +kernel
theorem dX13_init_1040 : decode cX13_init 1040 = .ok (.iconst 1, 1) := by decide +kernel
theorem dX13_init_1041 : decode cX13_init 1041 = .ok (.bipush 105, 2) := by decide +kernel
theorem dX13_init_1043 : decode cX13_init 1043 = .ok (.castore, 1) := by decide +kernel
theorem dX13_init_1044 : decode cX13_init 1044 = .ok (.dup, 1) := by decide +kernel
theorem dX13_init_1045 : decode cX13_init 1045 = .ok (.iconst 2, 1) := by decide +kernel
theorem dX13_init_1046 : decode cX13_init 1046 = .ok (.bipush 114, 2) := by decide +kernel
theorem dX13_init_1048 : decode cX13_init 1048 = .ok (.castore, 1) := by decide +kernel
theorem dX13_init_1049 : decode cX13_init 1049 = .ok (.dup, 1) := by decide +kernel
theorem dX13_init_1050 : decode cX13_init 1050 = .ok (.iconst 3, 1) := by decide +kernel
theorem dX13_init_1051 : decode cX13_init 1051 = .ok (.bipush 115, 2) := by decide +kernel
theorem dX13_init_1053 : decode cX13_init 1053 = .ok (.castore, 1) := by decide +kernel
theorem dX13_init_1054 : decode cX13_init 1054 = .ok (.dup, 1) := by decide +kernel
theorem dX13_init_1055 : decode cX13_init 1055 = .ok (.iconst 4, 1) := by decide +kernel
theorem dX13_init_1056 : decode cX13_init 1056 = .ok (.bipush 116, 2) := by decide +kernel
theorem dX13_init_1058 : decode cX13_init 1058 = .ok (.castore, 1) := by decide +kernel
theorem dX13_init_1059 : decode cX13_init 1059 = .ok (.putfield 167, 3) := by decide +kernel
theorem dX13_init_1062 : decode cX13_init 1062 = .ok (.aload_n 0, 1) := by decide +kernel
theorem dX13_init_1063 : decode cX13_init 1063 = .ok (.iconst 4, 1) := by decide +kernel
theorem dX13_init_1064 : decode cX13_init 1064 = .ok (.newarray .char, 2) := by decide +kernel
theorem dX13_init_1066 : decode cX13_init 1066 = .ok (.dup, 1) := by decide +kernel
theorem dX13_init_1067 : decode cX13_init 1067 = .ok (.iconst 0, 1) := by decide +kernel
theorem dX13_init_1068 : decode cX13_init 1068 = .ok (.bipush 108, 2) := by decide +kernel
theorem dX13_init_1070 : decode cX13_init 1070 = .ok (.castore, 1) := by decide +kernel
theorem dX13_init_1071 : decode cX13_init 1071 = .ok (.dup, 1) := by decide +kernel
theorem dX13_init_1072 : decode cX13_init 1072 = .ok (.iconst 1, 1) := by decide +kernel
theorem dX13_init_1073 : decode cX13_init 1073 = .ok (.bipush 97, 2) := by decide +kernel
theorem dX13_init_1075 : decode cX13_init 1075 = .ok (.castore, 1) := by decide +kernel
theorem dX13_init_1076 : decode cX13_init 1076 = .ok (.dup, 1) := by decide +kernel
theorem dX13_init_1077 : decode cX13_init 1077 = .ok (.iconst 2, 1) := by decide +kernel
theorem dX13_init_1078 : decode cX13_init 1078 = .ok (.bipush 115, 2) := by decide +kernel
theorem dX13_init_1080 : decode cX13_init 1080 = .ok (.castore, 1) := by decide +kernel
theorem dX13_init_1081 : decode cX13_init 1081 = .ok (.dup, 1) := by decide +kernel
theorem dX13_init_1082 : decode cX13_init 1082 = .ok (.iconst 3, 1) := by decide +kernel
theorem dX13_init_1083 : decode cX13_init 1083 = .ok (.bipush 116, 2) := by decide +kernel
theorem dX13_init_1085 : decode cX13_init 1085 = .ok (.castore, 1) := by decide +kernel
theorem dX13_init_1086 : decode cX13_init 1086 = .ok (.putfield 170, 3) := by decide +kernel
theorem dX13_init_1089 : decode cX13_init 1089 = .ok (.aload_n 0, 1) := by decide +kernel
theorem dX13_init_1090 : decode cX13_init 1090 = .ok (.iconst 5, 1) := by decide +kernel
theorem dX13_init_1091 : decode cX13_init 1091 = .ok (.newarray .char, 2) := by decide +kernel
theorem dX13_init_1093 : decode cX13_init 1093 = .ok (.dup, 1) := by decide +kernel
theorem dX13_init_1094 : decode cX13_init 1094 = .ok (.iconst 0, 1) := by decide +kernel
theorem dX13_init_1095 : decode cX13_init 1095 = .ok (.bipush 111, 2) := by decide +kernel
theorem dX13_init_1097 : decode cX13_init 1097 = .ok (.castore, 1) := by decide +kernel
theorem dX13_init_1098 : decode cX13_init 1098 = .ok (.dup, 1) := by decide +kernel
theorem dX13_init_1099 : decode cX13_init 1099 = .ok (.iconst 1, 1) := by decide +kernel
theorem dX13_init_1100 : decode cX13_init 1100 = .ok (.bipush 102, 2) := by decide +kernel
theorem dX13_init_1102 : decode cX13_init 1102 = .ok (.castore, 1) := by decide +kernel
theorem dX13_init_1103 : decode cX13_init 1103 = .ok (.dup, 1) := by decide +kernel
theorem dX13_init_1104 : decode cX13_init 1104 = .ok (.iconst 2, 1) := by decide +kernel
theorem dX13_init_1105 : decode cX13_init 1105 = .ok (.bipush 116, 2) := by decide +kernel
theorem dX13_init_1107 : decode cX13_init 1107 = .ok (.castore, 1) := by decide +kernel
theorem dX13_init_1108 : decode cX13_init 1108 = .ok (.dup, 1) := by decide +kernel
theorem dX13_init_1109 : decode cX13_init 1109 = .ok (.iconst 3, 1) := by decide +kernel
theorem dX13_init_1110 : decode cX13_init 1110 = .ok (.bipush 101, 2) := by decide +kernel
theorem dX13_init_1112 : decode cX13_init 1112 = .ok (.castore, 1) := by decide +kernel
theorem dX13_init_1113 : decode cX13_init 1113 = .ok (.dup, 1) := by decide +kernel
theorem dX13_init_1114 : decode cX13_init 1114 = .ok (.iconst 4, 1) := by decide +kernel
theorem dX13_init_1115 : decode cX13_init 1115 = .ok (.bipush 110, 2) := by decide +kernel
theorem dX13_init_1117 : decode cX13_init 1117 = .ok (.castore, 1) := by decide +kernel
theorem dX13_init_1118 : decode cX13_init 1118 = .ok (.putfield 173, 3) := by decide +kernel
theorem dX13_init_1121 : decode cX13_init 1121 = .ok (.aload_n 0, 1) := by decide +kernel
theorem dX13_init_1122 : decode cX13_init 1122 = .ok (.iconst 5, 1) := by decide +kernel
theorem dX13_init_1123 : decode cX13_init 1123 = .ok (.newarray .char, 2) := by decide +kernel
theorem dX13_init_1125 : decode cX13_init 1125 = .ok (.dup, 1) := by decide +kernel
theorem dX13_init_1126 : decode cX13_init 1126 = .ok (.iconst 0, 1) := by decide +kernel
theorem dX13_init_1127 : decode cX13_init 1127 = .ok (.bipush 116, 2) := by decide +kernel
theorem dX13_init_1129 : decode cX13_init 1129 = .ok (.castore, 1) := by decide +kernel
theorem dX13_init_1130 : decode cX13_init 1130 = .ok (.dup, 1) := by decide +kernel
theorem dX13_init_1131 : decode cX13_init 1131 = .ok (.iconst 1, 1) := by decide +kernel
theorem dX13_init_1132 : decode cX13_init 1132 = .ok (.bipush 111, 2) := by decide +kernel
theorem dX13_init_1134 : decode cX13_init 1134 = .ok (.castore, 1) := by decide +kernel
theorem dX13_init_1135 : decode cX13_init 1135 = .ok (.dup, 1) := by decide +kernel
theorem dX13_init_1136 : decode cX13_init 1136 = .ok (.iconst 2, 1) := by decide +kernel
theorem dX13_init_1137 : decode cX13_init 1137 = .ok (.bipush 116, 2) := by decide +kernel
theorem dX13_init_1139 : decode cX13_init 1139 = .ok (.castore, 1) := by decide +kernel
theorem dX13_init_1140 : decode cX13_init 1140 = .ok (.dup, 1) := by decide +kernel
theorem dX13_init_1141 : decode cX13_init 1141 = .ok (.iconst 3, 1) := by decide +kernel
theorem dX13_init_1142 : decode cX13_init 1142 = .ok (.bipush 97, 2) := by decide +kernel
theorem dX13_init_1144 : decode cX13_init 1144 = .ok (.castore, 1) := by decide +kernel
theorem dX13_init_1145 : decode cX13_init 1145 = .ok (.dup, 1) := by decide +kernel
theorem dX13_init_1146 : decode cX13_init 1146 = .ok (.iconst 4, 1) := by decide +kernel
theorem dX13_init_1147 : decode cX13_init 1147 = .ok (.bipush 108, 2) := by decide +kernel
theorem dX13_init_1149 : decode cX13_init 1149 = .ok (.castore, 1) := by decide +kernel
theorem dX13_init_1150 : decode cX13_init 1150 = .ok (.putfield 176, 3) := by decide +kernel
theorem dX13_init_1153 : decode cX13_init 1153 = .ok (.aload_n 0, 1) := by decide +kernel
theorem dX13_init_1154 : decode cX13_init 1154 = .ok (.iconst 4, 1) := by decide +kernel
theorem dX13_init_1155 : decode cX13_init 1155 = .ok (.newarray .char, 2) := by decide +kernel
theorem dX13_init_1157 : decode cX13_init 1157 = .ok (.dup, 1) := by decide +kernel
theorem dX13_init_1158 : decode cX13_init 1158 = .ok (.iconst 0, 1) := by decide +kernel
theorem dX13_init_1159 : decode cX13_init 1159 = .ok (.bipush 109, 2) := by decide +kernel
theorem dX13_init_1161 : decode cX13_init 1161 = .ok (.castore, 1) := by decide +kernel
theorem dX13_init_1162 : decode cX13_init 1162 = .ok (.dup, 1) := by decide +kernel
theorem dX13_init_1163 : decode cX13_init 1163 = .ok (.iconst 1, 1) := by decide +kernel
theorem dX13_init_1164 : decode cX13_init 1164 = .ok (.bipush 111, 2) := by decide +kernel
theorem dX13_init_1166 : decode cX13_init 1166 = .ok (.castore, 1) := by decide +kernel
theorem dX13_init_1167 : decode cX13_init 1167 = .ok (.dup, 1) := by decide +kernel
theorem dX13_init_1168 : decode cX13_init 1168 = .ok (.iconst 2, 1) := by decide +kernel
theorem dX13_init_1169 : decode cX13_init 1169 = .ok (.bipush 115, 2) := by decide +kernel
theorem dX13_init_1171 : decode cX13_init 1171 = .ok (.castore, 1) := by decide +kernel
theorem dX13_init_1172 : decode cX13_init 1172 = .ok (.dup, 1) := by decide +kernel
theorem dX13_init_1173 : decode cX13_init 1173 = .ok (.iconst 3, 1) := by decide +kernel
theorem dX13_init_1174 : decode cX13_init 1174 = .ok (.bipush 116, 2) := by decide +kernel
theorem dX13_init_1176 : decode cX13_init 1176 = .ok (.castore, 1) := by decide +kernel
theorem dX13_init_1177 : decode cX13_init 1177 = .ok (.putfield 179, 3) := by decide +kernel
theorem dX13_init_1180 : decode cX13_init 1180 = .ok (.aload_n 0, 1) := by decide +kernel
theorem dX13_init_1181 : decode cX13_init 1181 = .ok (.iconst 5, 1) := by decide +kernel
theorem dX13_init_1182 : decode cX13_init 1182 = .ok (.newarray .char, 2) := by decide +kernel
theorem dX13_init_1184 : decode cX13_init 1184 = .ok (.dup, 1) := by decide +kernel
theorem dX13_init_1185 : decode cX13_init 1185 = .ok (.iconst 0, 1) := by decide +kernel
theorem dX13_init_1186 : decode cX13_init 1186 = .ok (.bipush 108, 2) := by decide +kernel
theorem dX13_init_1188 : decode cX13_init 1188 = .ok (.castore, 1) := by decide +kernel
theorem dX13_init_1189 : decode cX13_init 1189 = .ok (.dup, 1) := by decide +kernel
theorem dX13_init_1190 : decode cX13_init 1190 = .ok (.iconst 1, 1) := by decide +kernel
theorem dX13_init_1191 : decode cX13_init 1191 = .ok (.bipush 101, 2) := by decide +kernel
theorem dX13_init_1193 : decode cX13_init 1193 = .ok (.castore, 1) := by decide +kernel
theorem dX13_init_1194 : decode cX13_init 1194 = .ok (.dup, 1) := by decide +kernel
theorem dX13_init_1195 : decode cX13_init 1195 = .ok (.iconst 2, 1) := by decide +kernel
theorem dX13_init_1196 : decode cX13_init 1196 = .ok (.bipush 97, 2) := by decide +kernel
theorem dX13_init_1198 : decode cX13_init 1198 = .ok (.castore, 1) := by decide +kernel
theorem dX13_init_1199 : decode cX13_init 1199 = .ok (.dup, 1) := by decide +kernel
theorem dX13_init_1200 : decode cX13_init 1200 = .ok (.iconst 3, 1) := by decide +kernel
theorem dX13_init_1201 : decode cX13_init 1201 = .ok (.bipush 115, 2) := by decide +kernel
theorem dX13_init_1203 : decode cX13_init 1203 = .ok (.castore, 1) := by decide +kernel
theorem dX13_init_1204 : decode cX13_init 1204 = .ok (.dup, 1) := by decide +kernel
theorem dX13_init_1205 : decode cX13_init 1205 = .ok (.iconst 4, 1) := by decide +kernel
theorem dX13_init_1206 : decode cX13_init 1206 = .ok (.bipush 116, 2) := by decide +kernel
theorem dX13_init_1208 : decode cX13_init 1208 = .ok (.castore, 1) := by decide +kernel
theorem dX13_init_1209 : decode cX13_init 1209 = .ok (.putfield 182, 3) := by decide +kernel
theorem dX13_init_1212 : decode cX13_init 1212 = .ok (.aload_n 0, 1) := by decide +kernel
theorem dX13_init_1213 : decode cX13_init 1213 = .ok (.iconst 3, 1) := by decide +kernel
theorem dX13_init_1214 : decode cX13_init 1214 = .ok (.newarray .char, 2) := by decide +kernel
theorem dX13_init_1216 : decode cX13_init 1216 = .ok (.dup, 1) := by decide +kernel
theorem dX13_init_1217 : decode cX13_init 1217 = .ok (.iconst 0, 1) := by decide +kernel
theorem dX13_init_1218 : decode cX13_init 1218 = .ok (.bipush 110, 2) := by decide +kernel
theorem dX13_init_1220 : decode cX13_init 1220 = .ok (.castore, 1) := by decide +kernel
theorem dX13_init_1221 : decode cX13_init 1221 = .ok (.dup, 1) := by decide +kernel
theorem dX13_init_1222 : decode cX13_init 1222 = .ok (.iconst 1, 1) := by decide +kernel
theorem dX13_init_1223 : decode cX13_init 1223 = .ok (.bipush 111, 2) := by decide +kernel
theorem dX13_init_1225 : decode cX13_init 1225 = .ok (.castore, 1) := by decide +kernel
theorem dX13_init_1226 : decode cX13_init 1226 = .ok (.dup, 1) := by decide +kernel
theorem dX13_init_1227 : decode cX13_init 1227 = .ok (.iconst 2, 1) := by decide +kernel
theorem dX13_init_1228 : decode cX13_init 1228 = .ok (.bipush 116, 2) := by decide +kernel
theorem dX13_init_1230 : decode cX13_init 1230 = .ok (.castore, 1) := by decide +kernel
theorem dX13_init_1231 : decode cX13_init 1231 = .ok (.putfield 185, 3) := by decide +kernel
theorem dX13_init_1234 : decode cX13_init 1234 = .ok (.aload_n 0, 1) := by decide +kernel
theorem dX13_init_1235 : decode cX13_init 1235 = .ok (.iconst 3, 1) := by decide +kernel
theorem dX13_init_1236 : decode cX13_init 1236 = .ok (.newarray .char, 2) := by decide +kernel
theorem dX13_init_1238 : decode cX13_init 1238 = .ok (.dup, 1) := by decide +kernel
theorem dX13_init_1239 : decode cX13_init 1239 = .ok (.iconst 0, 1) := by decide +kernel
theorem dX13_init_1240 : decode cX13_init 1240 = .ok (.bipush 97, 2) := by decide +kernel
theorem dX13_init_1242 : decode cX13_init 1242 = .ok (.castore, 1) := by decide +kernel
theorem dX13_init_1243 : decode cX13_init 1243 = .ok (.dup, 1) := by decide +kernel
theorem dX13_init_1244 : decode cX13_init 1244 = .ok (.iconst 1, 1) := by decide +kernel
theorem dX13_init_1245 : decode cX13_init 1245 = .ok (.bipush 110, 2) := by decide +kernel
theorem dX13_init_1247 : decode cX13_init 1247 = .ok (.castore, 1) := by decide +kernel
theorem dX13_init_1248 : decode cX13_init 1248 = .ok (.dup, 1) := by decide +kernel
theorem dX13_init_1249 : decode cX13_init 1249 = .ok (.iconst 2, 1) := by decide +kernel
theorem dX13_init_1250 : decode cX13_init 1250 = .ok (.bipush 100, 2) := by decide +kernel
theorem dX13_init_1252 : decode cX13_init 1252 = .ok (.castore, 1) := by decide +kernel
theorem dX13_init_1253 : decode cX13_init 1253 = .ok (.putfield 188, 3) := by decide +kernel
theorem dX13_init_1256 : decode cX13_init 1256 = .ok (.aload_n 0, 1) := by decide +kernel
theorem dX13_init_1257 : decode cX13_init 1257 = .ok (.iconst 2, 1) := by decide +kernel
theorem dX13_init_1258 : decode cX13_init 1258 = .ok (.newarray .char, 2) := by decide +kernel
theorem dX13_init_1260 : decode cX13_init 1260 = .ok (.dup, 1) := by decide +kernel
theorem dX13_init_1261 : decode cX13_init 1261 = .ok (.iconst 0, 1) := by decide +kernel
theorem dX13_init_1262 : decode cX13_init 1262 = .ok (.bipush 111, 2) := by decide +kernel
theorem dX13_init_1264 : decode cX13_init 1264 = .ok (.castore, 1) := by decide +kernel
theorem dX13_init_1265 : decode cX13_init 1265 = .ok (.dup, 1) := by decide +kernel
theorem dX13_init_1266 : decode cX13_init 1266 = .ok (.iconst 1, 1) := by decide +kernel
theorem dX13_init_1267 : decode cX13_init 1267 = .ok (.bipush 114, 2) := by decide +kernel
theorem dX13_init_1269 : decode cX13_init 1269 = .ok (.castore, 1) := by decide +kernel
theorem dX13_init_1270 : decode cX13_init 1270 = .ok (.putfield 191, 3) := by decide +kernel
theorem dX13_init_1273 : decode cX13_init 1273 = .ok (.aload_n 0, 1) := by decide +kernel
theorem dX13_init_1274 : decode cX13_init 1274 = .ok (.iconst 3, 1) := by decide +kernel
theorem dX13_init_1275 : decode cX13_init 1275 = .ok (.newarray .char, 2) := by decide +kernel
theorem dX13_init_1277 : decode cX13_init 1277 = .ok (.dup, 1) := by decide +kernel
theorem dX13_init_1278 : decode cX13_init 1278 = .ok (.iconst 0, 1) := by decide +kernel
theorem dX13_init_1279 : decode cX13_init 1279 = .ok (.bipush 97, 2) := by decide +kernel
theorem dX13_init_1281 : decode cX13_init 1281 = .ok (.castore, 1) := by decide +kernel
theorem dX13_init_1282 : decode cX13_init 1282 = .ok (.dup, 1) := by decide +kernel
theorem dX13_init_1283 : decode cX13_init 1283 = .ok (.iconst 1, 1) := by decide +kernel
theorem dX13_init_1284 : decode cX13_init 1284 = .ok (.bipush 108, 2) := by decide +kernel
theorem dX13_init_1286 : decode cX13_init 1286 = .ok (.castore, 1) := by decide +kernel
theorem dX13_init_1287 : decode cX13_init 1287 = .ok (.dup, 1) := by decide +kernel
theorem dX13_init_1288 : decode cX13_init 1288 = .ok (.iconst 2, 1) := by decide +kernel
theorem dX13_init_1289 : decode cX13_init 1289 = .ok (.bipush 108, 2) := by decide +kernel
theorem dX13_init_1291 : decode cX13_init 1291 = .ok (.castore, 1) := by decide +kernel
theorem dX13_init_1292 : decode cX13_init 1292 = .ok (.putfield 194, 3) := by decide +kernel
theorem dX13_init_1295 : decode cX13_init 1295 = .ok (.aload_n 0, 1) := by decide +kernel
theorem dX13_init_1296 : decode cX13_init 1296 = .ok (.iconst 3, 1) := by decide +kernel
theorem dX13_init_1297 : decode cX13_init 1297 = .ok (.newarray .char, 2) := by decide +kernel
theorem dX13_init_1299 : decode cX13_init 1299 = .ok (.dup, 1) := by decide +kernel
theorem dX13_init_1300 : decode cX13_init 1300 = .ok (.iconst 0, 1) := by decide +kernel
theorem dX13_init_1301 : decode cX13_init 1301 = .ok (.bipush 109, 2) := by decide +kernel
theorem dX13_init_1303 : decode cX13_init 1303 = .ok (.castore, 1) := by decide +kernel
theorem dX13_init_1304 : decode cX13_init 1304 = .ok (.dup, 1) := by decide +kernel
theorem dX13_init_1305 : decode cX13_init 1305 = .ok (.iconst 1, 1) := by decide +kernel
theorem dX13_init_1306 : decode cX13_init 1306 = .ok (.bipush 105, 2) := by decide +kernel
theorem dX13_init_1308 : decode cX13_init 1308 = .ok (.castore, 1) := by decide +kernel
theorem dX13_init_1309 : decode cX13_init 1309 = .ok (.dup, 1) := by decide +kernel
theorem dX13_init_1310 : decode cX13_init 1310 = .ok (.iconst 2, 1) := by decide +kernel
theorem dX13_init_1311 : decode cX13_init 1311 = .ok (.bipush 110, 2) := by decide +kernel
theorem dX13_init_1313 : decode cX13_init 1313 = .ok (.castore, 1) := by decide +kernel
theorem dX13_init_1314 : decode cX13_init 1314 = .ok (.putfield 197, 3) := by decide +kernel
theorem dX13_init_1317 : decode cX13_init 1317 = .ok (.aload_n 0, 1) := by decide +kernel
theorem dX13_init_1318 : decode cX13_init 1318 = .ok (.iconst 3, 1) := by decide +kernel
theorem dX13_init_1319 : decode cX13_init 1319 = .ok (.newarray .char, 2) := by decide +kernel
theorem dX13_init_1321 : decode cX13_init 1321 = .ok (.dup, 1) := by decide +kernel
theorem dX13_init_1322 : decode cX13_init 1322 = .ok (.iconst 0, 1) := by decide +kernel
theorem dX13_init_1323 : decode cX13_init 1323 = .ok (.bipush 109, 2) := by decide +kernel
theorem dX13_init_1325 : decode cX13_init 1325 = .ok (.castore, 1) := by decide +kernel
theorem dX13_init_1326 : decode cX13_init 1326 = .ok (.dup, 1) := by decide +kernel
theorem dX13_init_1327 : decode cX13_init 1327 = .ok (.iconst 1, 1) := by decide +kernel
theorem dX13_init_1328 : decode cX13_init 1328 = .ok (.bipush 97, 2) := by decide +kernel
theorem dX13_init_1330 : decode cX13_init 1330 = .ok (.castore, 1) := by decide +kernel
theorem dX13_init_1331 : decode cX13_init 1331 = .ok (.dup, 1) := by decide +kernel
theorem dX13_init_1332 : decode cX13_init 1332 = .ok (.iconst 2, 1) := by decide +kernel
theorem dX13_init_1333 : decode cX13_init 1333 = .ok (.bipush 120, 2) := by decide +kernel
theorem dX13_init_1335 : decode cX13_init 1335 = .ok (.castore, 1) := by decide +kernel
theorem dX13_init_1336 : decode cX13_init 1336 = .ok (.putfield 200, 3) := by decide +kernel
theorem dX13_init_1339 : decode cX13_init 1339 = .ok (.aload_n 0, 1) := by decide +kernel
theorem dX13_init_1340 : decode cX13_init 1340 = .ok (.iconst 4, 1) := by decide +kernel
theorem dX13_init_1341 : decode cX13_init 1341 = .ok (.newarray .char, 2) := by decide +kernel
theorem dX13_init_1343 : decode cX13_init 1343 = .ok (.dup, 1) := by decide +kernel
theorem dX13_init_1344 : decode cX13_init 1344 = .ok (.iconst 0, 1) := by decide +kernel
theorem dX13_init_1345 : decode cX13_init 1345 = .ok (.bipush 99, 2) := by decide +kernel
theorem dX13_init_1347 : decode cX13_init 1347 = .ok (.castore, 1) := by decide +kernel
theorem dX13_init_1348 : decode cX13_init 1348 = .ok (.dup, 1) := by decide +kernel
theorem dX13_init_1349 : decode cX13_init 1349 = .ok (.iconst 1, 1) := by decide +kernel
theorem dX13_init_1350 : decode cX13_init 1350 = .ok (.bipush 97, 2) := by decide +kernel
theorem dX13_init_1352 : decode cX13_init 1352 = .ok (.castore, 1) := by decide +kernel
theorem dX13_init_1353 : decode cX13_init 1353 = .ok (.dup, 1) := by decide +kernel
theorem dX13_init_1354 : decode cX13_init 1354 = .ok (.iconst 2, 1) := by decide +kernel
theorem dX13_init_1355 : decode cX13_init 1355 = .ok (.bipush 108, 2) := by decide +kernel
theorem dX13_init_1357 : decode cX13_init 1357 = .ok (.castore, 1) := by decide +kernel
theorem dX13_init_1358 : decode cX13_init 1358 = .ok (.dup, 1) := by decide +kernel
theorem dX13_init_1359 : decode cX13_init 1359 = .ok (.iconst 3, 1) := by decide +kernel
theorem dX13_init_1360 : decode cX13_init 1360 = .ok (.bipush 109, 2) := by decide +kernel
theorem dX13_init_1362 : decode cX13_init 1362 = .ok (.castore, 1) := by decide +kernel
theorem dX13_init_1363 : decode cX13_init 1363 = .ok (.putfield 203, 3) := by decide +kernel
theorem dX13_init_1366 : decode cX13_init 1366 = .ok (.aload_n 0, 1) := by decide +kernel
theorem dX13_init_1367 : decode cX13_init 1367 = .ok (.iconst 5, 1) := by decide +kernel
theorem dX13_init_1368 : decode cX13_init 1368 = .ok (.newarray .char, 2) := by decide +kernel
theorem dX13_init_1370 : decode cX13_init 1370 = .ok (.dup, 1) := by decide +kernel
theorem dX13_init_1371 : decode cX13_init 1371 = .ok (.iconst 0, 1) := by decide +kernel
theorem dX13_init_1372 : decode cX13_init 1372 = .ok (.bipush 114, 2) := by decide +kernel
theorem dX13_init_1374 : decode cX13_init 1374 = .ok (.castore, 1) := by decide +kernel
theorem dX13_init_1375 : decode cX13_init 1375 = .ok (.dup, 1) := by decide +kernel
theorem dX13_init_1376 : decode cX13_init 1376 = .ok (.iconst 1, 1) := by decide +kernel
theorem dX13_init_1377 : decode cX13_init 1377 = .ok (.bipush 105, 2) := by decide +kernel
theorem dX13_init_1379 : decode cX13_init 1379 = .ok (.castore, 1) := by decide +kernel
theorem dX13_init_1380 : decode cX13_init 1380 = .ok (.dup, 1) := by decide +kernel
theorem dX13_init_1381 : decode cX13_init 1381 = .ok (.iconst 2, 1) := by decide +kernel
theorem dX13_init_1382 : decode cX13_init 1382 = .ok (.bipush 103, 2) := by decide +kernel
theorem dX13_init_1384 : decode cX13_init 1384 = .ok (.castore, 1) := by decide +kernel
theorem dX13_init_1385 : decode cX13_init 1385 = .ok (.dup, 1) := by decide +kernel
theorem dX13_init_1386 : decode cX13_init 1386 = .ok (.iconst 3, 1) := by decide +kernel
theorem dX13_init_1387 : decode cX13_init 1387 = .ok (.bipush 104, 2) := by decide +kernel
theorem dX13_init_1389 : decode cX13_init 1389 = .ok (.castore, 1) := by decide +kernel
theorem dX13_init_1390 : decode cX13_init 1390 = .ok (.dup, 1) := by decide +kernel
theorem dX13_init_1391 : decode cX13_init 1391 = .ok (.iconst 4, 1) := by decide +kernel
theorem dX13_init_1392 : decode cX13_init 1392 = .ok (.bipush 116, 2) := by decide +kernel
theorem dX13_init_1394 : decode cX13_init 1394 = .ok (.castore, 1) := by decide +kernel
theorem dX13_init_1395 : decode cX13_init 1395 = .ok (.putfield 206, 3) := by decide +kernel
theorem dX13_init_1398 : decode cX13_init 1398 = .ok (.aload_n 0, 1) := by decide +kernel
theorem dX13_init_1399 : decode cX13_init 1399 = .ok (.iconst 5, 1) := by decide +kernel
theorem dX13_init_1400 : decode cX13_init 1400 = .ok (.newarray .char, 2) := by decide +kernel
theorem dX13_init_1402 : decode cX13_init 1402 = .ok (.dup, 1) := by decide +kernel
theorem dX13_init_1403 : decode cX13_init 1403 = .ok (.iconst 0, 1) := by decide +kernel
theorem dX13_init_1404 : decode cX13_init 1404 = .ok (.bipush 119, 2) := by decide +kernel
theorem dX13_init_1406 : decode cX13_init 1406 = .ok (.castore, 1) := by decide +kernel
theorem dX13_init_1407 : decode cX13_init 1407 = .ok (.dup, 1) := by decide +kernel
theorem dX13_init_1408 : decode cX13_init 1408 = .ok (.iconst 1, 1) := by decide +kernel
theorem dX13_init_1409 : decode cX13_init 1409 = .ok (.bipush 114, 2) := by decide +kernel
theorem dX13_init_1411 : decode cX13_init 1411 = .ok (.castore, 1) := by decide +kernel
theorem dX13_init_1412 : decode cX13_init 1412 = .ok (.dup, 1) := by decide +kernel
theorem dX13_init_1413 : decode cX13_init 1413 = .ok (.iconst 2, 1) := by decide +kernel
theorem dX13_init_1414 : decode cX13_init 1414 = .ok (.bipush 111, 2) := by decide +kernel
theorem dX13_init_1416 : decode cX13_init 1416 = .ok (.castore, 1) := by decide +kernel
theorem dX13_init_1417 : decode cX13_init 1417 = .ok (.dup, 1) := by decide +kernel
theorem dX13_init_1418 : decode cX13_init 1418 = .ok (.iconst 3, 1) := by decide +kernel
theorem dX13_init_1419 : decode cX13_init 1419 = .ok (.bipush 110, 2) := by decide +kernel
theorem dX13_init_1421 : decode cX13_init 1421 = .ok (.castore, 1) := by decide +kernel
theorem dX13_init_1422 : decode cX13_init 1422 = .ok (.dup, 1) := by decide +kernel
theorem dX13_init_1423 : decode cX13_init 1423 = .ok (.iconst 4, 1) := by decide +kernel
theorem dX13_init_1424 : decode cX13_init 1424 = .ok (.bipush 103, 2) := by decide +kernel
theorem dX13_init_1426 : decode cX13_init 1426 = .ok (.castore, 1) := by decide +kernel
theorem dX13_init_1427 : decode cX13_init 1427 = .ok (.putfield 209, 3) := by decide +kernel
theorem dX13_init_1430 : decode cX13_init 1430 = .ok (.aload_n 0, 1) := by decide +kernel
theorem dX13_init_1431 : decode cX13_init 1431 = .ok (.iconst 4, 1) := by decide +kernel
theorem dX13_init_1432 : decode cX13_init 1432 = .ok (.newarray .char, 2) := by decide +kernel
theorem dX13_init_1434 : decode cX13_init 1434 = .ok (.dup, 1) := by decide +kernel
theorem dX13_init_1435 : decode cX13_init 1435 = .ok (.iconst 0, 1) := by decide +kernel
theorem dX13_init_1436 : decode cX13_init 1436 = .ok (.bipush 121, 2) := by decide +kernel
theorem dX13_init_1438 : decode cX13_init 1438 = .ok (.castore, 1) := by decide +kernel
theorem dX13_init_1439 : decode cX13_init 1439 = .ok (.dup, 1) := by decide +kernel
theorem dX13_init_1440 : decode cX13_init 1440 = .ok (.iconst 1, 1) := by decide +kernel
theorem dX13_init_1441 : decode cX13_init 1441 = .ok (.bipush 101, 2) := by decide +kernel
theorem dX13_init_1443 : decode cX13_init 1443 = .ok (.castore, 1) := by decide +kernel
theorem dX13_init_1444 : decode cX13_init 1444 = .ok (.dup, 1) := by decide +kernel
theorem dX13_init_1445 : decode cX13_init 1445 = .ok (.iconst 2, 1) := by decide +kernel
theorem dX13_init_1446 : decode cX13_init 1446 = .ok (.bipush 97, 2) := by decide +kernel
theorem dX13_init_1448 : decode cX13_init 1448 = .ok (.castore, 1) := by decide +kernel
theorem dX13_init_1449 : decode cX13_init 1449 = .ok (.dup, 1) := by decide +kernel
theorem dX13_init_1450 : decode cX13_init 1450 = .ok (.iconst 3, 1) := by decide +kernel
theorem dX13_init_1451 : decode cX13_init 1451 = .ok (.bipush 114, 2) := by decide +kernel
theorem dX13_init_1453 : decode cX13_init 1453 = .ok (.castore, 1) := by decide +kernel
theorem dX13_init_1454 : decode cX13_init 1454 = .ok (.putfield 212, 3) := by decide +kernel
theorem dX13_init_1457 : decode cX13_init 1457 = .ok (.aload_n 0, 1) := by decide +kernel
theorem dX13_init_1458 : decode cX13_init 1458 = .ok (.iconst 5, 1) := by decide +kernel
theorem dX13_init_1459 : decode cX13_init 1459 = .ok (.newarray .char, 2) := by decide +kernel
theorem dX13_init_1461 : decode cX13_init 1461 = .ok (.dup, 1) := by decide +kernel
theorem dX13_init_1462 : decode cX13_init 1462 = .ok (.iconst 0, 1) := by decide +kernel
theorem dX13_init_1463 : decode cX13_init 1463 = .ok (.bipush 119, 2) := by decide +kernel
theorem dX13_init_1465 : decode cX13_init 1465 = .ok (.castore, 1) := by decide +kernel
theorem dX13_init_1466 : decode cX13_init 1466 = .ok (.dup, 1) := by decide +kernel
theorem dX13_init_1467 : decode cX13_init 1467 = .ok (.iconst 1, 1) := by decide +kernel
theorem dX13_init_1468 : decode cX13_init 1468 = .ok (.bipush 111, 2) := by decide +kernel
theorem dX13_init_1470 : decode cX13_init 1470 = .ok (.castore, 1) := by decide +kernel
theorem dX13_init_1471 : decode cX13_init 1471 = .ok (.dup, 1) := by decide +kernel
theorem dX13_init_1472 : decode cX13_init 1472 = .ok (.iconst 2, 1) := by decide +kernel
theorem dX13_init_1473 : decode cX13_init 1473 = .ok (.bipush 114, 2) := by decide +kernel
theorem dX13_init_1475 : decode cX13_init 1475 = .ok (.castore, 1) := by decide +kernel
theorem dX13_init_1476 : decode cX13_init 1476 = .ok (.dup, 1) := by decide +kernel
theorem dX13_init_1477 : decode cX13_init 1477 = .ok (.iconst 3, 1) := by decide +kernel
theorem dX13_init_1478 : decode cX13_init 1478 = .ok (.bipush 116, 2) := by decide +kernel
theorem dX13_init_1480 : decode cX13_init 1480 = .ok (.castore, 1) := by decide +kernel
theorem dX13_init_1481 : decode cX13_init 1481 = .ok (.dup, 1) := by decide +kernel
theorem dX13_init_1482 : decode cX13_init 1482 = .ok (.iconst 4, 1) := by decide +kernel
theorem dX13_init_1483 : decode cX13_init 1483 = .ok (.bipush 104, 2) := by decide +kernel
theorem dX13_init_1485 : decode cX13_init 1485 = .ok (.castore, 1) := by decide +kernel
theorem dX13_init_1486 : decode cX13_init 1486 = .ok (.putfield 215, 3) := by decide +kernel
theorem dX13_init_1489 : decode cX13_init 1489 = .ok (.aload_n 0, 1) := by decide +kernel
theorem dX13_init_1490 : decode cX13_init 1490 = .ok (.iconst 5, 1) := by decide +kernel
theorem dX13_init_1491 : decode cX13_init 1491 = .ok (.newarray .char, 2) := by decide +kernel
theorem dX13_init_1493 : decode cX13_init 1493 = .ok (.dup, 1) := by decide +kernel
theorem dX13_init_1494 : decode cX13_init 1494 = .ok (.iconst 0, 1) := by decide +kernel
theorem dX13_init_1495 : decode cX13_init 1495 = .ok (.bipush 99, 2) := by decide +kernel
theorem dX13_init_1497 : decode cX13_init 1497 = .ok (.castore, 1) := by decide +kernel
theorem dX13_init_1498 : decode cX13_init 1498 = .ok (.dup, 1) := by decide +kernel
theorem dX13_init_1499 : decode cX13_init 1499 = .ok (.iconst 1, 1) := by decide +kernel
theorem dX13_init_1500 : decode cX13_init 1500 = .ok (.bipush 108, 2) := by decide +kernel
theorem dX13_init_1502 : decode cX13_init 1502 = .ok (.castore, 1) := by decide +kernel
theorem dX13_init_1503 : decode cX13_init 1503 = .ok (.dup, 1) := by decide +kernel
theorem dX13_init_1504 : decode cX13_init 1504 = .ok (.iconst 2, 1) := by decide +kernel
theorem dX13_init_1505 : decode cX13_init 1505 = .ok (.bipush 97, 2) := by decide +kernel
theorem dX13_init_1507 : decode cX13_init 1507 = .ok (.castore, 1) := by decide +kernel
theorem dX13_init_1508 : decode cX13_init 1508 = .ok (.dup, 1) := by decide +kernel
theorem dX13_init_1509 : decode cX13_init 1509 = .ok (.iconst 3, 1) := by decide +kernel
theorem dX13_init_1510 : decode cX13_init 1510 = .ok (.bipush 115, 2) := by decide +kernel
theorem dX13_init_1512 : decode cX13_init 1512 = .ok (.castore, 1) := by decide +kernel
theorem dX13_init_1513 : decode cX13_init 1513 = .ok (.dup, 1) := by decide +kernel
theorem dX13_init_1514 : decode cX13_init 1514 = .ok (.iconst 4, 1) := by decide +kernel
theorem dX13_init_1515 : decode cX13_init 1515 = .ok (.bipush 115, 2) := by decide +kernel
theorem dX13_init_1517 : decode cX13_init 1517 = .ok (.castore, 1) := by decide +kernel
theorem dX13_init_1518 : decode cX13_init 1518 = .ok (.putfield 218, 3) := by decide +kernel
theorem dX13_init_1521 : decode cX13_init 1521 = .ok (.aload_n 0, 1) := by decide +kernel
theorem dX13_init_1522 : decode cX13_init 1522 = .ok (.iconst 5, 1) := by decide +kernel
theorem dX13_init_1523 : decode cX13_init 1523 = .ok (.newarray .char, 2) := by decide +kernel
theorem dX13_init_1525 : decode cX13_init 1525 = .ok (.dup, 1) := by decide +kernel
theorem dX13_init_1526 : decode cX13_init 1526 = .ok (.iconst 0, 1) := by decide +kernel
theorem dX13_init_1527 : decode cX13_init 1527 = .ok (.bipush 109, 2) := by decide +kernel
theorem dX13_init_1529 : decode cX13_init 1529 = .ok (.castore, 1) := by decide +kernel
theorem dX13_init_1530 : decode cX13_init 1530 = .ok (.dup, 1) := by decide +kernel
theorem dX13_init_1531 : decode cX13_init 1531 = .ok (.iconst 1, 1) := by decide +kernel
theorem dX13_init_1532 : decode cX13_init 1532 = .ok (.bipush 99, 2) := by decide +kernel
theorem dX13_init_1534 : decode cX13_init 1534 = .ok (.castore, 1) := by decide +kernel
theorem dX13_init_1535 : decode cX13_init 1535 = .ok (.dup, 1) := by decide +kernel
theorem dX13_init_1536 : decode cX13_init 1536 = .ok (.iconst 2, 1) := by decide +kernel
theorem dX13_init_1537 : decode cX13_init 1537 = .ok (.bipush 97, 2) := by decide +kernel
theorem dX13_init_1539 : decode cX13_init 1539 = .ok (.castore, 1) := by decide +kernel
theorem dX13_init_1540 : decode cX13_init 1540 = .ok (.dup, 1) := by decide +kernel
theorem dX13_init_1541 : decode cX13_init 1541 = .ok (.iconst 3, 1) := by decide +kernel
theorem dX13_init_1542 : decode cX13_init 1542 = .ok (.bipush 108, 2) := by decide +kernel
theorem dX13_init_1544 : decode cX13_init 1544 = .ok (.castore, 1) := by decide +kernel
theorem dX13_init_1545 : decode cX13_init 1545 = .ok (.dup, 1) := by decide +kernel
theorem dX13_init_1546 : decode cX13_init 1546 = .ok (.iconst 4, 1) := by decide +kernel
theorem dX13_init_1547 : decode cX13_init 1547 = .ok (.bipush 109, 2) := by decide +kernel
theorem dX13_init_1549 : decode cX13_init 1549 = .ok (.castore, 1) := by decide +kernel
theorem dX13_init_1550 : decode cX13_init 1550 = .ok (.putfield 221, 3) := by decide +kernel
theorem dX13_init_1553 : decode cX13_init 1553 = .ok (.aload_n 0, 1) := by decide +kernel
theorem dX13_init_1554 : decode cX13_init 1554 = .ok (.iconst 4, 1) := by decide +kernel
theorem dX13_init_1555 : decode cX13_init 1555 = .ok (.newarray .char, 2) := by decide +kernel
theorem dX13_init_1557 : decode cX13_init 1557 = .ok (.dup, 1) := by decide +kernel
theorem dX13_init_1558 : decode cX13_init 1558 = .ok (.iconst 0, 1) := by decide +kernel
theorem dX13_init_1559 : decode cX13_init 1559 = .ok (.bipush 108, 2) := by decide +kernel
theorem dX13_init_1561 : decode cX13_init 1561 = .ok (.castore, 1) := by decide +kernel
theorem dX13_init_1562 : decode cX13_init 1562 = .ok (.dup, 1) := by decide +kernel
theorem dX13_init_1563 : decode cX13_init 1563 = .ok (.iconst 1, 1) := by decide +kernel
theorem dX13_init_1564 : decode cX13_init 1564 = .ok (.bipush 101, 2) := by decide +kernel
theorem dX13_init_1566 : decode cX13_init 1566 = .ok (.castore, 1) := by decide +kernel
theorem dX13_init_1567 : decode cX13_init 1567 = .ok (.dup, 1) := by decide +kernel
theorem dX13_init_1568 : decode cX13_init 1568 = .ok (.iconst 2, 1) := by decide +kernel
theorem dX13_init_1569 : decode cX13_init 1569 = .ok (.bipush 102, 2) := by decide +kernel
theorem dX13_init_1571 : decode cX13_init 1571 = .ok (.castore, 1) := by decide +kernel
theorem dX13_init_1572 : decode cX13_init 1572 = .ok (.dup, 1) := by decide +kernel
theorem dX13_init_1573 : decode cX13_init 1573 = .ok (.iconst 3, 1) := by decide +kernel
theorem dX13_init_1574 : decode cX13_init 1574 = .ok (.bipush 116, 2) := by decide +kernel
theorem dX13_init_1576 : decode cX13_init 1576 = .ok (.castore, 1) := by decide +kernel
theorem dX13_init_1577 : decode cX13_init 1577 = .ok (.putfield 224, 3) := by decide +kernel
theorem dX13_init_1580 : decode cX13_init 1580 = .ok (.aload_n 0, 1) := by decide +kernel
theorem dX13_init_1581 : decode cX13_init 1581 = .ok (.iconst 5, 1) := by decide +kernel
theorem dX13_init_1582 : decode cX13_init 1582 = .ok (.newarray .char, 2) := by decide +kernel
theorem dX13_init_1584 : decode cX13_init 1584 = .ok (.dup, 1) := by decide +kernel
theorem dX13_init_1585 : decode cX13_init 1585 = .ok (.iconst 0, 1) := by decide +kernel
theorem dX13_init_1586 : decode cX13_init 1586 = .ok (.bipush 109, 2) := by decide +kernel
theorem dX13_init_1588 : decode cX13_init 1588 = .ok (.castore, 1) := by decide +kernel
theorem dX13_init_1589 : decode cX13_init 1589 = .ok (.dup, 1) := by decide +kernel
theorem dX13_init_1590 : decode cX13_init 1590 = .ok (.iconst 1, 1) := by decide +kernel
theorem dX13_init_1591 : decode cX13_init 1591 = .ok (.bipush 97, 2) := by decide +kernel
theorem dX13_init_1593 : decode cX13_init 1593 = .ok (.castore, 1) := by decide +kernel
theorem dX13_init_1594 : decode cX13_init 1594 = .ok (.dup, 1) := by decide +kernel
theorem dX13_init_1595 : decode cX13_init 1595 = .ok (.iconst 2, 1) := by decide +kernel
theorem dX13_init_1596 : decode cX13_init 1596 = .ok (.bipush 114, 2) := by decide +kernel
theorem dX13_init_1598 : decode cX13_init 1598 = .ok (.castore, 1) := by decide +kernel
theorem dX13_init_1599 : decode cX13_init 1599 = .ok (.dup, 1) := by decide +kernel
theorem dX13_init_1600 : decode cX13_init 1600 = .ok (.iconst 3, 1) := by decide +kernel
theorem dX13_init_1601 : decode cX13_init 1601 = .ok (.bipush 107, 2) := by decide +kernel
theorem dX13_init_1603 : decode cX13_init 1603 = .ok (.castore, 1) := by decide +kernel
theorem dX13_init_1604 : decode cX13_init 1604 = .ok (.dup, 1) := by decide +kernel
theorem dX13_init_1605 : decode cX13_init 1605 = .ok (.iconst 4, 1) := by decide +kernel
theorem dX13_init_1606 : decode cX13_init 1606 = .ok (.bipush 115, 2) := by decide +kernel
theorem dX13_init_1608 : decode cX13_init 1608 = .ok (.castore, 1) := by decide +kernel
theorem dX13_init_1609 : decode cX13_init 1609 = .ok (.putfield 227, 3) := by decide +kernel
theorem dX13_init_1612 : decode cX13_init 1612 = .ok (.aload_n 0, 1) := by decide +kernel
theorem dX13_init_1613 : decode cX13_init 1613 = .ok (.bipush 6, 2) := by decide +kernel
theorem dX13_init_1615 : decode cX13_init 1615 = .ok (.newarray .char, 2) := by decide +kernel
theorem dX13_init_1617 : decode cX13_init 1617 = .ok (.dup, 1) := by decide +kernel
theorem dX13_init_1618 : decode cX13_init 1618 = .ok (.iconst 0, 1) := by decide +kernel
theorem dX13_init_1619 : decode cX13_init 1619 = .ok (.bipush 110, 2) := by decide +kernel
theorem dX13_init_1621 : decode cX13_init 1621 = .ok (.castore, 1) := by decide +kernel
theorem dX13_init_1622 : decode cX13_init 1622 = .ok (.dup, 1) := by decide +kernel
theorem dX13_init_1623 : decode cX13_init 1623 = .ok (.iconst 1, 1) := by decide +kernel
theorem dX13_init_1624 : decode cX13_init 1624 = .ok (.bipush 117, 2) := by decide +kernel
theorem dX13_init_1626 : decode cX13_init 1626 = .ok (.castore, 1) := by decide +kernel
theorem dX13_init_1627 : decode cX13_init 1627 = .ok (.dup, 1) := by decide +kernel
theorem dX13_init_1628 : decode cX13_init 1628 = .ok (.iconst 2, 1) := by decide +kernel
theorem dX13_init_1629 : decode cX13_init 1629 = .ok (.bipush 109, 2) := by decide +kernel
theorem dX13_init_1631 : decode cX13_init 1631 = .ok (.castore, 1) := by decide +kernel
theorem dX13_init_1632 : decode cX13_init 1632 = .ok (.dup, 1) := by decide +kernel
theorem dX13_init_1633 : decode cX13_init 1633 = .ok (.iconst 3, 1) := by decide +kernel
theorem dX13_init_1634 : decode cX13_init 1634 = .ok (.bipush 98, 2) := by decide +kernel
theorem dX13_init_1636 : decode cX13_init 1636 = .ok (.castore, 1) := by decide +kernel
theorem dX13_init_1637 : decode cX13_init 1637 = .ok (.dup, 1) := by decide +kernel
theorem dX13_init_1638 : decode cX13_init 1638 = .ok (.iconst 4, 1) := by decide +kernel
theorem dX13_init_1639 : decode cX13_init 1639 = .ok (.bipush 101, 2) := by decide +kernel
theorem dX13_init_1641 : decode cX13_init 1641 = .ok (.castore, 1) := by decide +kernel
theorem dX13_init_1642 : decode cX13_init 1642 = .ok (.dup, 1) := by decide +kernel
theorem dX13_init_1643 : decode cX13_init 1643 = .ok (.iconst 5, 1) := by decide +kernel
theorem dX13_init_1644 : decode cX13_init 1644 = .ok (.bipush 114, 2) := by decide +kernel
theorem dX13_init_1646 : decode cX13_init 1646 = .ok (.castore, 1) := by decide +kernel
theorem dX13_init_1647 : decode cX13_init 1647 = .ok (.putfield 230, 3) := by decide +kernel
theorem dX13_init_1650 : decode cX13_init 1650 = .ok (.aload_n 0, 1) := by decide +kernel
theorem dX13_init_1651 : decode cX13_init 1651 = .ok (.iconst 5, 1) := by decide +kernel
theorem dX13_init_1652 : decode cX13_init 1652 = .ok (.newarray .char, 2) := by decide +kernel
theorem dX13_init_1654 : decode cX13_init 1654 = .ok (.dup, 1) := by decide +kernel
theorem dX13_init_1655 : decode cX13_init 1655 = .ok (.iconst 0, 1) := by decide +kernel
theorem dX13_init_1656 : decode cX13_init 1656 = .ok (.bipush 107, 2) := by decide +kernel
theorem dX13_init_1658 : decode cX13_init 1658 = .ok (.castore, 1) := by decide +kernel
theorem dX13_init_1659 : decode cX13_init 1659 = .ok (.dup, 1) := by decide +kernel
theorem dX13_init_1660 : decode cX13_init 1660 = .ok (.iconst 1, 1) := by decide +kernel
theorem dX13_init_1661 : decode cX13_init 1661 = .ok (.bipush 110, 2) := by decide +kernel
theorem dX13_init_1663 : decode cX13_init 1663 = .ok (.castore, 1) := by decide +kernel
theorem dX13_init_1664 : decode cX13_init 1664 = .ok (.dup, 1) := by decide +kernel
theorem dX13_init_1665 : decode cX13_init 1665 = .ok (.iconst 2, 1) := by decide +kernel
theorem dX13_init_1666 : decode cX13_init 1666 = .ok (.bipush 111, 2) := by decide +kernel
theorem dX13_init_1668 : decode cX13_init 1668 = .ok (.castore, 1) := by decide +kernel
theorem dX13_init_1669 : decode cX13_init 1669 = .ok (.dup, 1) := by decide +kernel
theorem dX13_init_1670 : decode cX13_init 1670 = .ok (.iconst 3, 1) := by decide +kernel
theorem dX13_init_1671 : decode cX13_init 1671 = .ok (.bipush 119, 2) := by decide +kernel
theorem dX13_init_1673 : decode cX13_init 1673 = .ok (.castore, 1) := by decide +kernel
theorem dX13_init_1674 : decode cX13_init 1674 = .ok (.dup, 1) := by decide +kernel
theorem dX13_init_1675 : decode cX13_init 1675 = .ok (.iconst 4, 1) := by decide +kernel
theorem dX13_init_1676 : decode cX13_init 1676 = .ok (.bipush 115, 2) := by decide +kernel
theorem dX13_init_1678 : decode cX13_init 1678 = .ok (.castore, 1) := by decide +kernel
theorem dX13_init_1679 : decode cX13_init 1679 = .ok (.putfield 233, 3) := by decide +kernel
theorem dX13_init_1682 : decode cX13_init 1682 = .ok (.aload_n 0, 1) := by decide +kernel
theorem dX13_init_1683 : decode cX13_init 1683 = .ok (.iconst 4, 1) := by decide +kernel
theorem dX13_init_1684 : decode cX13_init 1684 = .ok (.newarray .char, 2) := by decide +kernel
theorem dX13_init_1686 : decode cX13_init 1686 = .ok (.dup, 1) := by decide +kernel
theorem dX13_init_1687 : decode cX13_init 1687 = .ok (.iconst 0, 1) := by decide +kernel
theorem dX13_init_1688 : decode cX13_init 1688 = .ok (.bipush 101, 2) := by decide +kernel
theorem dX13_init_1690 : decode cX13_init 1690 = .ok (.castore, 1) := by decide +kernel
theorem dX13_init_1691 : decode cX13_init 1691 = .ok (.dup, 1) := by decide +kernel
theorem dX13_init_1692 : decode cX13_init 1692 = .ok (.iconst 1, 1) := by decide +kernel
theorem dX13_init_1693 : decode cX13_init 1693 = .ok (.bipush 114, 2) := by decide +kernel
theorem dX13_init_1695 : decode cX13_init 1695 = .ok (.castore, 1) := by decide +kernel
theorem dX13_init_1696 : decode cX13_init 1696 = .ok (.dup, 1) := by decide +kernel
theorem dX13_init_1697 : decode cX13_init 1697 = .ok (.iconst 2, 1) := by decide +kernel
theorem dX13_init_1698 : decode cX13_init 1698 = .ok (.bipush 114, 2) := by decide +kernel
theorem dX13_init_1700 : decode cX13_init 1700 = .ok (.castore, 1) := by decide +kernel
theorem dX13_init_1701 : decode cX13_init 1701 = .ok (.dup, 1) := by decide +kernel
theorem dX13_init_1702 : decode cX13_init 1702 = .ok (.iconst 3, 1) := by decide +kernel
theorem dX13_init_1703 : decode cX13_init 1703 = .ok (.bipush 115, 2) := by decide +kernel
theorem dX13_init_1705 : decode cX13_init 1705 = .ok (.castore, 1) := by decide +kernel
theorem dX13_init_1706 : decode cX13_init 1706 = .ok (.putfield 236, 3) := by decide +kernel
theorem dX13_init_1709 : decode cX13_init 1709 = .ok (.aload_n 0, 1) := by decide +kernel
theorem dX13_init_1710 : decode cX13_init 1710 = .ok (.iconst 2, 1) := by decide +kernel
theorem dX13_init_1711 : decode cX13_init 1711 = .ok (.newarray .char, 2) := by decide +kernel
theorem dX13_init_1713 : decode cX13_init 1713 = .ok (.dup, 1) := by decide +kernel
theorem dX13_init_1714 : decode cX13_init 1714 = .ok (.iconst 0, 1) := by decide +kernel
theorem dX13_init_1715 : decode cX13_init 1715 = .ok (.bipush 98, 2) := by decide +kernel
theorem dX13_init_1717 : decode cX13_init 1717 = .ok (.castore, 1) := by decide +kernel
theorem dX13_init_1718 : decode cX13_init 1718 = .ok (.dup, 1) := by decide +kernel
theorem dX13_init_1719 : decode cX13_init 1719 = .ok (.iconst 1, 1) := by decide +kernel
theorem dX13_init_1720 : decode cX13_init 1720 = .ok (.bipush 121, 2) := by decide +kernel
theorem dX13_init_1722 : decode cX13_init 1722 = .ok (.castore, 1) := by decide +kernel
theorem dX13_init_1723 : decode cX13_init 1723 = .ok (.putfield 239, 3) := by decide +kernel
theorem dX13_init_1726 : decode cX13_init 1726 = .ok (.aload_n 0, 1) := by decide +kernel
theorem dX13_init_1727 : decode cX13_init 1727 = .ok (.sipush 1700, 3) := by decide +kernel
theorem dX13_init_1730 : decode cX13_init 1730 = .ok (.newarray .int, 2) := by decide +kernel
theorem dX13_init_1732 : decode cX13_init 1732 = .ok (.putfield 242, 3) := by decide +kernel
theorem dX13_init_1735 : decode cX13_init 1735 = .ok (.aload_n 0, 1) := by decide +kernel
theorem dX13_init_1736 : decode cX13_init 1736 = .ok (.sipush 1700, 3) := by decide +kernel
theorem dX13_init_1739 : decode cX13_init 1739 = .ok (.newarray .int, 2) := by decide +kernel
theorem dX13_init_1741 : decode cX13_init 1741 = .ok (.putfield 245, 3) := by decide +kernel
theorem dX13_init_1744 : decode cX13_init 1744 = .ok (.aload_n 0, 1) := by decide +kernel
theorem dX13_init_1745 : decode cX13_init 1745 = .ok (.sipush 1700, 3) := by decide +kernel
theorem dX13_init_1748 : decode cX13_init 1748 = .ok (.newarray .long, 2) := by decide +kernel
theorem dX13_init_1750 : decode cX13_init 1750 = .ok (.putfield 248, 3) := by decide +kernel
theorem dX13_init_1753 : decode cX13_init 1753 = .ok (.aload_n 0, 1) := by decide +kernel
theorem dX13_init_1754 : decode cX13_init 1754 = .ok (.bipush 43, 2) := by decide +kernel
theorem dX13_init_1756 : decode cX13_init 1756 = .ok (.newarray .int, 2) := by decide +kernel
theorem dX13_init_1758 : decode cX13_init 1758 = .ok (.putfield 251, 3) := by decide +kernel
theorem dX13_init_1761 : decode cX13_init 1761 = .ok (.return_, 1) := by decide +kernel
def FMl : List (List Int32) := [[0, 0, 0, 0, 0, 0, 0, 0, -1], [], [], [102, 97, 99, 116], [119, 111, 114, 116, 104], [112, 101, 114, 115, 111, 110], [99, 97, 108, 109], [107, 110, 111, 119, 115], [101, 114, 114, 115], [116, 97, 117, 103, 104, 116], [98, 121], [116, 97, 107, 101, 115], [103, 97, 114, 98, 108, 101], [115, 105, 116, 115], [112, 97, 115, 115], [116, 114, 105, 101, 115], [105, 108, 108], [114, 105, 103, 104, 116], [119, 114, 111, 110, 103], [121, 101, 97, 114], [99, 108, 97, 115, 115], [109, 99, 97, 108, 109], [108, 101, 102, 116], [109, 97, 114, 107, 115], [110, 117, 109, 98, 101, 114], [111, 114], [97, 110, 100], [110, 111, 116], [97, 108, 108], [109, 105, 110], [109, 97, 120], [], [], [], [], [], [], [], [10, 3, 0, 10, 3, 0], [(-1), (-1), (-1), (-1), (-1), (-1)], [], [], [], [], [], [], [], [], [], [], [102, 105, 114, 115, 116], [108, 97, 115, 116], [111, 102, 116, 101, 110], [116, 111, 116, 97, 108], [109, 111, 115, 116], [108, 101, 97, 115, 116], [110, 111, 116], [97, 110, 100], [111, 114], [97, 108, 108], [109, 105, 110], [109, 97, 120], [99, 97, 108, 109], [114, 105, 103, 104, 116], [119, 114, 111, 110, 103], [121, 101, 97, 114], [119, 111, 114, 116, 104], [99, 108, 97, 115, 115], [109, 99, 97, 108, 109], [108, 101, 102, 116], [109, 97, 114, 107, 115], [110, 117, 109, 98, 101, 114], [107, 110, 111, 119, 115], [101, 114, 114, 115], [98, 121], [], [], [], []]
def FM (a k : Nat) : Int32 := (FMl.getD a []).getD k 0
def FM0 (a k : Nat) : Int32 := if a = 0 then 0 else FM a k
theorem FM_hi {a k L : Nat} (hL : (FMl.getD a []).length = L) (h : L ≤ k) : FM a k = 0 := by
  unfold FM
  rw [List.getD_eq_getElem?_getD, List.getElem?_eq_none (by omega)]
  rfl
theorem rs2_st {F : Ii} {n j i : Nat} {v : Int32} (hi : i = j) (hv : F n j = v) : u2 (rs2 F n j) n i v = rs2 F n (j + 1) := by
  subst hi; subst hv; exact rs2_s
theorem FM_start : (fun _ _ => 0 : Ii) = rs2 FM0 1 0 := by
  funext a k
  unfold rs2 FM0
  by_cases e : a < 1
  · rw [if_pos e, if_pos (by omega)]
  · rw [if_neg e, if_neg (by omega)]
theorem FM_put : u2 (rs2 FM0 2 0) 0 8 (-1) = rs2 FM 2 0 := by
  funext a k
  by_cases e : a = 0
  · subst e
    by_cases e2 : k = 8
    · subst e2; rw [u2_at]; rfl
    · rw [u2_k e2]
      unfold rs2 FM0
      rw [if_pos (by omega), if_pos rfl, if_pos (by omega)]
      by_cases e3 : k < 9
      · have : ∀ k, k < 9 → k ≠ 8 → (0 : Int32) = FM 0 k := by decide
        exact this k e3 e2
      · exact (FM_hi (a := 0) (L := 9) rfl (by omega)).symm
  · rw [u2_row e]
    unfold rs2 FM0
    by_cases e3 : a < 2
    · rw [if_pos e3, if_pos e3, if_neg e]
    · rw [if_neg e3, if_neg e3, if_neg (by omega), if_neg (by omega)]
def PFm (P : Rf) (n : Nat) : Prop := ∀ j, P 0 j = (z_PMl.getD j none).bind (fun a => if a < n then some a else none)
theorem pm_inj : ∀ i, i < 105 → ∀ j, j < 105 → ∀ n, n ∈ z_PMl.getD i none → n ∈ z_PMl.getD j none → i = j := by decide +kernel
theorem pm_hi {j : Nat} (h : ¬ j < 105) : z_PMl.getD j none = none := by
  rw [List.getD_eq_getElem?_getD, List.getElem?_eq_none (Nat.le_trans (show z_PMl.length ≤ 105 by decide +kernel) (Nat.le_of_not_lt h))]
  rfl
theorem PFm.s {P : Rf} {n k : Nat} (h : PFm P n) (hk : z_PMl.getD k none = some n) : PFm (p2 P 0 k n) (n + 1) := by
  intro j
  have hk5 : k < 105 := by
    rcases Nat.lt_or_ge k 105 with y | y
    · exact y
    · rw [pm_hi (by omega)] at hk; cases hk
  by_cases e : j = k
  · subst e
    rw [hk]
    simp [p2]
  · have e1 : p2 P 0 k n 0 j = P 0 j := by simp [p2, e]
    rw [e1, h j]
    cases hj : z_PMl.getD j none with
    | none => rfl
    | some a =>
      have hj5 : j < 105 := by
        rcases Nat.lt_or_ge j 105 with y | y
        · exact y
        · rw [pm_hi (by omega)] at hj; cases hj
      have hne : a ≠ n := fun y => e (by subst y; exact pm_inj j hj5 k hk5 a (by rw [hj]; rfl) (by rw [hk]; rfl))
      simp only [Option.bind_some]
      by_cases e2 : a < n
      · rw [if_pos e2, if_pos (by omega)]
      · rw [if_neg e2, if_neg (by omega)]
section NM
variable {d : Nat} {P : Rf} {J : Jj} {Q : QN}
theorem mc_0 (hJ : ∀ a, a ≠ 0 → J a = fun _ => 0) (h : GoN wM.1 (d + 1) 78 13175 mX13_init 13 [(0, .ref 0)] [] 2 1 1600 (p2 P 0 0 1) (rs2 FM0 2 0) J 79 Q) : GoN wM.1 (d + 1) 78 13175 mX13_init 0 [(0, .ref 0)] [] 1 0 0 P (rs2 FM0 1 0) J 79 Q := by
  refine n_aload_n dX13_init_0 0 0 rfl rfl ?_
  refine n_obj dX13_init_1 (z_c5 166 (by decide +kernel) rfl) (z_c1 26 (by decide +kernel) rfl) (z_c1 27 (by decide +kernel) rfl) (by omega) ?_
  refine n_aload_n dX13_init_4 0 0 rfl rfl ?_
  refine n_sipush (v := 1600) dX13_init_5 (by decide) ?_
  refine n_newI (k := 1600) dX13_init_8 (z_c1 72 (by decide +kernel) rfl) rfl rs2_0 (by decide) (by decide) (by decide) (by decide) (by decide) (by decide) ?_
  rw [rs2_n (F := FM0) (n := 1) (l := 0) (fun k hk => by unfold FM0; rw [if_neg (by omega)]; exact FM_hi (L := 0) (by decide) hk)]
  refine n_putR (a := 1) dX13_init_10 fl_X13_7 rfl rfl rfl (fun _ => rfl) (fun _ => rfl) ⟨rfl, (by show 0 < 2; omega), by decide, by decide⟩ ?_
  exact h
theorem mc_1 (h : GoN wM.1 (d + 1) 78 13175 mX13_init 18 [(0, .ref 0)] [] 2 1 1600 P (rs2 FM 2 0) J 79 Q) : GoN wM.1 (d + 1) 78 13175 mX13_init 13 [(0, .ref 0)] [] 2 1 1600 P (rs2 FM0 2 0) J 79 Q := by
  refine n_aload_n dX13_init_13 0 0 rfl rfl ?_
  refine n_iconst (v := (-1)) dX13_init_14 (by decide) ?_
  refine n_putI dX13_init_15 fl_X13_13 rfl rfl rfl rfl ⟨rfl, (by show 0 < 2; omega), by decide, by decide⟩ ?_
  rw [FM_put]
  exact h
theorem mc_2 (hJ : ∀ a, a ≠ 0 → J a = fun _ => 0) (h : GoN wM.1 (d + 1) 78 13175 mX13_init 26 [(0, .ref 0)] [] 3 2 1606 (p2 P 0 9 2) (rs2 FM 3 0) J 79 Q) : GoN wM.1 (d + 1) 78 13175 mX13_init 18 [(0, .ref 0)] [] 2 1 1600 P (rs2 FM 2 0) J 79 Q := by
  refine n_aload_n dX13_init_18 0 0 rfl rfl ?_
  refine n_bipush (v := 6) dX13_init_19 (by decide) ?_
  refine n_newI (k := 6) dX13_init_21 (z_c1 72 (by decide +kernel) rfl) rfl rs2_0 (by decide) (by decide) (by decide) (by decide) (by decide) (by decide) ?_
  rw [rs2_n (F := FM) (n := 2) (l := 0) (fun k hk => FM_hi (L := 0) (by decide) hk)]
  refine n_putR (a := 2) dX13_init_23 fl_X13_17 rfl rfl rfl (fun _ => rfl) (fun _ => rfl) ⟨rfl, (by show 0 < 3; omega), by decide, by decide⟩ ?_
  exact h
theorem mc_3 (hJ : ∀ a, a ≠ 0 → J a = fun _ => 0) (h : GoN wM.1 (d + 1) 78 13175 mX13_init 53 [(0, .ref 0)] [] 4 3 1610 (p2 P 0 10 3) (rs2 FM 4 0) J 79 Q) : GoN wM.1 (d + 1) 78 13175 mX13_init 26 [(0, .ref 0)] [] 3 2 1606 P (rs2 FM 3 0) J 79 Q := by
  refine n_aload_n dX13_init_26 0 0 rfl rfl ?_
  refine n_iconst (v := 4) dX13_init_27 (by decide) ?_
  refine n_newC (k := 4) dX13_init_28 (z_c7 3 (by decide +kernel) rfl) rfl rs2_0 (by decide) (by decide) (by decide) (by decide) (by decide) (by decide) ?_
  refine n_dup dX13_init_30 rfl ?_
  refine n_iconst (v := 0) dX13_init_31 (by decide) ?_
  refine n_bipush (v := 102) dX13_init_32 (by decide) ?_
  refine n_cast (a := 3) (k := 4) dX13_init_34 ⟨rfl, (by show 3 < 4; omega), by decide⟩ (by unfold vp_in; decide) (by decide) ?_
  rw [rs2_st (F := FM) (n := 3) (j := 0) (by decide) (by decide)]
  refine n_dup dX13_init_35 rfl ?_
  refine n_iconst (v := 1) dX13_init_36 (by decide) ?_
  refine n_bipush (v := 97) dX13_init_37 (by decide) ?_
  refine n_cast (a := 3) (k := 4) dX13_init_39 ⟨rfl, (by show 3 < 4; omega), by decide⟩ (by unfold vp_in; decide) (by decide) ?_
  rw [rs2_st (F := FM) (n := 3) (j := 1) (by decide) (by decide)]
  refine n_dup dX13_init_40 rfl ?_
  refine n_iconst (v := 2) dX13_init_41 (by decide) ?_
  refine n_bipush (v := 99) dX13_init_42 (by decide) ?_
  refine n_cast (a := 3) (k := 4) dX13_init_44 ⟨rfl, (by show 3 < 4; omega), by decide⟩ (by unfold vp_in; decide) (by decide) ?_
  rw [rs2_st (F := FM) (n := 3) (j := 2) (by decide) (by decide)]
  refine n_dup dX13_init_45 rfl ?_
  refine n_iconst (v := 3) dX13_init_46 (by decide) ?_
  refine n_bipush (v := 116) dX13_init_47 (by decide) ?_
  refine n_cast (a := 3) (k := 4) dX13_init_49 ⟨rfl, (by show 3 < 4; omega), by decide⟩ (by unfold vp_in; decide) (by decide) ?_
  rw [rs2_st (F := FM) (n := 3) (j := 3) (by decide) (by decide)]
  rw [rs2_n (F := FM) (n := 3) (l := 4) (fun k hk => FM_hi (L := 4) (by decide) hk)]
  refine n_putR (a := 3) dX13_init_50 fl_X13_20 rfl rfl rfl (fun _ => rfl) (fun _ => rfl) ⟨rfl, (by show 0 < 4; omega), by decide, by decide⟩ ?_
  exact h
theorem mc_4 (hJ : ∀ a, a ≠ 0 → J a = fun _ => 0) (h : GoN wM.1 (d + 1) 78 13175 mX13_init 85 [(0, .ref 0)] [] 5 4 1615 (p2 P 0 11 4) (rs2 FM 5 0) J 79 Q) : GoN wM.1 (d + 1) 78 13175 mX13_init 53 [(0, .ref 0)] [] 4 3 1610 P (rs2 FM 4 0) J 79 Q := by
  refine n_aload_n dX13_init_53 0 0 rfl rfl ?_
  refine n_iconst (v := 5) dX13_init_54 (by decide) ?_
  refine n_newC (k := 5) dX13_init_55 (z_c7 3 (by decide +kernel) rfl) rfl rs2_0 (by decide) (by decide) (by decide) (by decide) (by decide) (by decide) ?_
  refine n_dup dX13_init_57 rfl ?_
  refine n_iconst (v := 0) dX13_init_58 (by decide) ?_
  refine n_bipush (v := 119) dX13_init_59 (by decide) ?_
  refine n_cast (a := 4) (k := 5) dX13_init_61 ⟨rfl, (by show 4 < 5; omega), by decide⟩ (by unfold vp_in; decide) (by decide) ?_
  rw [rs2_st (F := FM) (n := 4) (j := 0) (by decide) (by decide)]
  refine n_dup dX13_init_62 rfl ?_
  refine n_iconst (v := 1) dX13_init_63 (by decide) ?_
  refine n_bipush (v := 111) dX13_init_64 (by decide) ?_
  refine n_cast (a := 4) (k := 5) dX13_init_66 ⟨rfl, (by show 4 < 5; omega), by decide⟩ (by unfold vp_in; decide) (by decide) ?_
  rw [rs2_st (F := FM) (n := 4) (j := 1) (by decide) (by decide)]
  refine n_dup dX13_init_67 rfl ?_
  refine n_iconst (v := 2) dX13_init_68 (by decide) ?_
  refine n_bipush (v := 114) dX13_init_69 (by decide) ?_
  refine n_cast (a := 4) (k := 5) dX13_init_71 ⟨rfl, (by show 4 < 5; omega), by decide⟩ (by unfold vp_in; decide) (by decide) ?_
  rw [rs2_st (F := FM) (n := 4) (j := 2) (by decide) (by decide)]
  refine n_dup dX13_init_72 rfl ?_
  refine n_iconst (v := 3) dX13_init_73 (by decide) ?_
  refine n_bipush (v := 116) dX13_init_74 (by decide) ?_
  refine n_cast (a := 4) (k := 5) dX13_init_76 ⟨rfl, (by show 4 < 5; omega), by decide⟩ (by unfold vp_in; decide) (by decide) ?_
  rw [rs2_st (F := FM) (n := 4) (j := 3) (by decide) (by decide)]
  refine n_dup dX13_init_77 rfl ?_
  refine n_iconst (v := 4) dX13_init_78 (by decide) ?_
  refine n_bipush (v := 104) dX13_init_79 (by decide) ?_
  refine n_cast (a := 4) (k := 5) dX13_init_81 ⟨rfl, (by show 4 < 5; omega), by decide⟩ (by unfold vp_in; decide) (by decide) ?_
  rw [rs2_st (F := FM) (n := 4) (j := 4) (by decide) (by decide)]
  rw [rs2_n (F := FM) (n := 4) (l := 5) (fun k hk => FM_hi (L := 5) (by decide) hk)]
  refine n_putR (a := 4) dX13_init_82 fl_X13_24 rfl rfl rfl (fun _ => rfl) (fun _ => rfl) ⟨rfl, (by show 0 < 5; omega), by decide, by decide⟩ ?_
  exact h
theorem mc_5 (hJ : ∀ a, a ≠ 0 → J a = fun _ => 0) (h : GoN wM.1 (d + 1) 78 13175 mX13_init 123 [(0, .ref 0)] [] 6 5 1621 (p2 P 0 12 5) (rs2 FM 6 0) J 79 Q) : GoN wM.1 (d + 1) 78 13175 mX13_init 85 [(0, .ref 0)] [] 5 4 1615 P (rs2 FM 5 0) J 79 Q := by
  refine n_aload_n dX13_init_85 0 0 rfl rfl ?_
  refine n_bipush (v := 6) dX13_init_86 (by decide) ?_
  refine n_newC (k := 6) dX13_init_88 (z_c7 3 (by decide +kernel) rfl) rfl rs2_0 (by decide) (by decide) (by decide) (by decide) (by decide) (by decide) ?_
  refine n_dup dX13_init_90 rfl ?_
  refine n_iconst (v := 0) dX13_init_91 (by decide) ?_
  refine n_bipush (v := 112) dX13_init_92 (by decide) ?_
  refine n_cast (a := 5) (k := 6) dX13_init_94 ⟨rfl, (by show 5 < 6; omega), by decide⟩ (by unfold vp_in; decide) (by decide) ?_
  rw [rs2_st (F := FM) (n := 5) (j := 0) (by decide) (by decide)]
  refine n_dup dX13_init_95 rfl ?_
  refine n_iconst (v := 1) dX13_init_96 (by decide) ?_
  refine n_bipush (v := 101) dX13_init_97 (by decide) ?_
  refine n_cast (a := 5) (k := 6) dX13_init_99 ⟨rfl, (by show 5 < 6; omega), by decide⟩ (by unfold vp_in; decide) (by decide) ?_
  rw [rs2_st (F := FM) (n := 5) (j := 1) (by decide) (by decide)]
  refine n_dup dX13_init_100 rfl ?_
  refine n_iconst (v := 2) dX13_init_101 (by decide) ?_
  refine n_bipush (v := 114) dX13_init_102 (by decide) ?_
  refine n_cast (a := 5) (k := 6) dX13_init_104 ⟨rfl, (by show 5 < 6; omega), by decide⟩ (by unfold vp_in; decide) (by decide) ?_
  rw [rs2_st (F := FM) (n := 5) (j := 2) (by decide) (by decide)]
  refine n_dup dX13_init_105 rfl ?_
  refine n_iconst (v := 3) dX13_init_106 (by decide) ?_
  refine n_bipush (v := 115) dX13_init_107 (by decide) ?_
  refine n_cast (a := 5) (k := 6) dX13_init_109 ⟨rfl, (by show 5 < 6; omega), by decide⟩ (by unfold vp_in; decide) (by decide) ?_
  rw [rs2_st (F := FM) (n := 5) (j := 3) (by decide) (by decide)]
  refine n_dup dX13_init_110 rfl ?_
  refine n_iconst (v := 4) dX13_init_111 (by decide) ?_
  refine n_bipush (v := 111) dX13_init_112 (by decide) ?_
  refine n_cast (a := 5) (k := 6) dX13_init_114 ⟨rfl, (by show 5 < 6; omega), by decide⟩ (by unfold vp_in; decide) (by decide) ?_
  rw [rs2_st (F := FM) (n := 5) (j := 4) (by decide) (by decide)]
  refine n_dup dX13_init_115 rfl ?_
  refine n_iconst (v := 5) dX13_init_116 (by decide) ?_
  refine n_bipush (v := 110) dX13_init_117 (by decide) ?_
  refine n_cast (a := 5) (k := 6) dX13_init_119 ⟨rfl, (by show 5 < 6; omega), by decide⟩ (by unfold vp_in; decide) (by decide) ?_
  rw [rs2_st (F := FM) (n := 5) (j := 5) (by decide) (by decide)]
  rw [rs2_n (F := FM) (n := 5) (l := 6) (fun k hk => FM_hi (L := 6) (by decide) hk)]
  refine n_putR (a := 5) dX13_init_120 fl_X13_27 rfl rfl rfl (fun _ => rfl) (fun _ => rfl) ⟨rfl, (by show 0 < 6; omega), by decide, by decide⟩ ?_
  exact h
theorem mc_6 (hJ : ∀ a, a ≠ 0 → J a = fun _ => 0) (h : GoN wM.1 (d + 1) 78 13175 mX13_init 150 [(0, .ref 0)] [] 7 6 1625 (p2 P 0 13 6) (rs2 FM 7 0) J 79 Q) : GoN wM.1 (d + 1) 78 13175 mX13_init 123 [(0, .ref 0)] [] 6 5 1621 P (rs2 FM 6 0) J 79 Q := by
  refine n_aload_n dX13_init_123 0 0 rfl rfl ?_
  refine n_iconst (v := 4) dX13_init_124 (by decide) ?_
  refine n_newC (k := 4) dX13_init_125 (z_c7 3 (by decide +kernel) rfl) rfl rs2_0 (by decide) (by decide) (by decide) (by decide) (by decide) (by decide) ?_
  refine n_dup dX13_init_127 rfl ?_
  refine n_iconst (v := 0) dX13_init_128 (by decide) ?_
  refine n_bipush (v := 99) dX13_init_129 (by decide) ?_
  refine n_cast (a := 6) (k := 4) dX13_init_131 ⟨rfl, (by show 6 < 7; omega), by decide⟩ (by unfold vp_in; decide) (by decide) ?_
  rw [rs2_st (F := FM) (n := 6) (j := 0) (by decide) (by decide)]
  refine n_dup dX13_init_132 rfl ?_
  refine n_iconst (v := 1) dX13_init_133 (by decide) ?_
  refine n_bipush (v := 97) dX13_init_134 (by decide) ?_
  refine n_cast (a := 6) (k := 4) dX13_init_136 ⟨rfl, (by show 6 < 7; omega), by decide⟩ (by unfold vp_in; decide) (by decide) ?_
  rw [rs2_st (F := FM) (n := 6) (j := 1) (by decide) (by decide)]
  refine n_dup dX13_init_137 rfl ?_
  refine n_iconst (v := 2) dX13_init_138 (by decide) ?_
  refine n_bipush (v := 108) dX13_init_139 (by decide) ?_
  refine n_cast (a := 6) (k := 4) dX13_init_141 ⟨rfl, (by show 6 < 7; omega), by decide⟩ (by unfold vp_in; decide) (by decide) ?_
  rw [rs2_st (F := FM) (n := 6) (j := 2) (by decide) (by decide)]
  refine n_dup dX13_init_142 rfl ?_
  refine n_iconst (v := 3) dX13_init_143 (by decide) ?_
  refine n_bipush (v := 109) dX13_init_144 (by decide) ?_
  refine n_cast (a := 6) (k := 4) dX13_init_146 ⟨rfl, (by show 6 < 7; omega), by decide⟩ (by unfold vp_in; decide) (by decide) ?_
  rw [rs2_st (F := FM) (n := 6) (j := 3) (by decide) (by decide)]
  rw [rs2_n (F := FM) (n := 6) (l := 4) (fun k hk => FM_hi (L := 4) (by decide) hk)]
  refine n_putR (a := 6) dX13_init_147 fl_X13_30 rfl rfl rfl (fun _ => rfl) (fun _ => rfl) ⟨rfl, (by show 0 < 7; omega), by decide, by decide⟩ ?_
  exact h
theorem mc_7 (hJ : ∀ a, a ≠ 0 → J a = fun _ => 0) (h : GoN wM.1 (d + 1) 78 13175 mX13_init 182 [(0, .ref 0)] [] 8 7 1630 (p2 P 0 14 7) (rs2 FM 8 0) J 79 Q) : GoN wM.1 (d + 1) 78 13175 mX13_init 150 [(0, .ref 0)] [] 7 6 1625 P (rs2 FM 7 0) J 79 Q := by
  refine n_aload_n dX13_init_150 0 0 rfl rfl ?_
  refine n_iconst (v := 5) dX13_init_151 (by decide) ?_
  refine n_newC (k := 5) dX13_init_152 (z_c7 3 (by decide +kernel) rfl) rfl rs2_0 (by decide) (by decide) (by decide) (by decide) (by decide) (by decide) ?_
  refine n_dup dX13_init_154 rfl ?_
  refine n_iconst (v := 0) dX13_init_155 (by decide) ?_
  refine n_bipush (v := 107) dX13_init_156 (by decide) ?_
  refine n_cast (a := 7) (k := 5) dX13_init_158 ⟨rfl, (by show 7 < 8; omega), by decide⟩ (by unfold vp_in; decide) (by decide) ?_
  rw [rs2_st (F := FM) (n := 7) (j := 0) (by decide) (by decide)]
  refine n_dup dX13_init_159 rfl ?_
  refine n_iconst (v := 1) dX13_init_160 (by decide) ?_
  refine n_bipush (v := 110) dX13_init_161 (by decide) ?_
  refine n_cast (a := 7) (k := 5) dX13_init_163 ⟨rfl, (by show 7 < 8; omega), by decide⟩ (by unfold vp_in; decide) (by decide) ?_
  rw [rs2_st (F := FM) (n := 7) (j := 1) (by decide) (by decide)]
  refine n_dup dX13_init_164 rfl ?_
  refine n_iconst (v := 2) dX13_init_165 (by decide) ?_
  refine n_bipush (v := 111) dX13_init_166 (by decide) ?_
  refine n_cast (a := 7) (k := 5) dX13_init_168 ⟨rfl, (by show 7 < 8; omega), by decide⟩ (by unfold vp_in; decide) (by decide) ?_
  rw [rs2_st (F := FM) (n := 7) (j := 2) (by decide) (by decide)]
  refine n_dup dX13_init_169 rfl ?_
  refine n_iconst (v := 3) dX13_init_170 (by decide) ?_
  refine n_bipush (v := 119) dX13_init_171 (by decide) ?_
  refine n_cast (a := 7) (k := 5) dX13_init_173 ⟨rfl, (by show 7 < 8; omega), by decide⟩ (by unfold vp_in; decide) (by decide) ?_
  rw [rs2_st (F := FM) (n := 7) (j := 3) (by decide) (by decide)]
  refine n_dup dX13_init_174 rfl ?_
  refine n_iconst (v := 4) dX13_init_175 (by decide) ?_
  refine n_bipush (v := 115) dX13_init_176 (by decide) ?_
  refine n_cast (a := 7) (k := 5) dX13_init_178 ⟨rfl, (by show 7 < 8; omega), by decide⟩ (by unfold vp_in; decide) (by decide) ?_
  rw [rs2_st (F := FM) (n := 7) (j := 4) (by decide) (by decide)]
  rw [rs2_n (F := FM) (n := 7) (l := 5) (fun k hk => FM_hi (L := 5) (by decide) hk)]
  refine n_putR (a := 7) dX13_init_179 fl_X13_33 rfl rfl rfl (fun _ => rfl) (fun _ => rfl) ⟨rfl, (by show 0 < 8; omega), by decide, by decide⟩ ?_
  exact h
theorem mc_8 (hJ : ∀ a, a ≠ 0 → J a = fun _ => 0) (h : GoN wM.1 (d + 1) 78 13175 mX13_init 209 [(0, .ref 0)] [] 9 8 1634 (p2 P 0 15 8) (rs2 FM 9 0) J 79 Q) : GoN wM.1 (d + 1) 78 13175 mX13_init 182 [(0, .ref 0)] [] 8 7 1630 P (rs2 FM 8 0) J 79 Q := by
  refine n_aload_n dX13_init_182 0 0 rfl rfl ?_
  refine n_iconst (v := 4) dX13_init_183 (by decide) ?_
  refine n_newC (k := 4) dX13_init_184 (z_c7 3 (by decide +kernel) rfl) rfl rs2_0 (by decide) (by decide) (by decide) (by decide) (by decide) (by decide) ?_
  refine n_dup dX13_init_186 rfl ?_
  refine n_iconst (v := 0) dX13_init_187 (by decide) ?_
  refine n_bipush (v := 101) dX13_init_188 (by decide) ?_
  refine n_cast (a := 8) (k := 4) dX13_init_190 ⟨rfl, (by show 8 < 9; omega), by decide⟩ (by unfold vp_in; decide) (by decide) ?_
  rw [rs2_st (F := FM) (n := 8) (j := 0) (by decide) (by decide)]
  refine n_dup dX13_init_191 rfl ?_
  refine n_iconst (v := 1) dX13_init_192 (by decide) ?_
  refine n_bipush (v := 114) dX13_init_193 (by decide) ?_
  refine n_cast (a := 8) (k := 4) dX13_init_195 ⟨rfl, (by show 8 < 9; omega), by decide⟩ (by unfold vp_in; decide) (by decide) ?_
  rw [rs2_st (F := FM) (n := 8) (j := 1) (by decide) (by decide)]
  refine n_dup dX13_init_196 rfl ?_
  refine n_iconst (v := 2) dX13_init_197 (by decide) ?_
  refine n_bipush (v := 114) dX13_init_198 (by decide) ?_
  refine n_cast (a := 8) (k := 4) dX13_init_200 ⟨rfl, (by show 8 < 9; omega), by decide⟩ (by unfold vp_in; decide) (by decide) ?_
  rw [rs2_st (F := FM) (n := 8) (j := 2) (by decide) (by decide)]
  refine n_dup dX13_init_201 rfl ?_
  refine n_iconst (v := 3) dX13_init_202 (by decide) ?_
  refine n_bipush (v := 115) dX13_init_203 (by decide) ?_
  refine n_cast (a := 8) (k := 4) dX13_init_205 ⟨rfl, (by show 8 < 9; omega), by decide⟩ (by unfold vp_in; decide) (by decide) ?_
  rw [rs2_st (F := FM) (n := 8) (j := 3) (by decide) (by decide)]
  rw [rs2_n (F := FM) (n := 8) (l := 4) (fun k hk => FM_hi (L := 4) (by decide) hk)]
  refine n_putR (a := 8) dX13_init_206 fl_X13_36 rfl rfl rfl (fun _ => rfl) (fun _ => rfl) ⟨rfl, (by show 0 < 9; omega), by decide, by decide⟩ ?_
  exact h
theorem mc_9 (hJ : ∀ a, a ≠ 0 → J a = fun _ => 0) (h : GoN wM.1 (d + 1) 78 13175 mX13_init 247 [(0, .ref 0)] [] 10 9 1640 (p2 P 0 16 9) (rs2 FM 10 0) J 79 Q) : GoN wM.1 (d + 1) 78 13175 mX13_init 209 [(0, .ref 0)] [] 9 8 1634 P (rs2 FM 9 0) J 79 Q := by
  refine n_aload_n dX13_init_209 0 0 rfl rfl ?_
  refine n_bipush (v := 6) dX13_init_210 (by decide) ?_
  refine n_newC (k := 6) dX13_init_212 (z_c7 3 (by decide +kernel) rfl) rfl rs2_0 (by decide) (by decide) (by decide) (by decide) (by decide) (by decide) ?_
  refine n_dup dX13_init_214 rfl ?_
  refine n_iconst (v := 0) dX13_init_215 (by decide) ?_
  refine n_bipush (v := 116) dX13_init_216 (by decide) ?_
  refine n_cast (a := 9) (k := 6) dX13_init_218 ⟨rfl, (by show 9 < 10; omega), by decide⟩ (by unfold vp_in; decide) (by decide) ?_
  rw [rs2_st (F := FM) (n := 9) (j := 0) (by decide) (by decide)]
  refine n_dup dX13_init_219 rfl ?_
  refine n_iconst (v := 1) dX13_init_220 (by decide) ?_
  refine n_bipush (v := 97) dX13_init_221 (by decide) ?_
  refine n_cast (a := 9) (k := 6) dX13_init_223 ⟨rfl, (by show 9 < 10; omega), by decide⟩ (by unfold vp_in; decide) (by decide) ?_
  rw [rs2_st (F := FM) (n := 9) (j := 1) (by decide) (by decide)]
  refine n_dup dX13_init_224 rfl ?_
  refine n_iconst (v := 2) dX13_init_225 (by decide) ?_
  refine n_bipush (v := 117) dX13_init_226 (by decide) ?_
  refine n_cast (a := 9) (k := 6) dX13_init_228 ⟨rfl, (by show 9 < 10; omega), by decide⟩ (by unfold vp_in; decide) (by decide) ?_
  rw [rs2_st (F := FM) (n := 9) (j := 2) (by decide) (by decide)]
  refine n_dup dX13_init_229 rfl ?_
  refine n_iconst (v := 3) dX13_init_230 (by decide) ?_
  refine n_bipush (v := 103) dX13_init_231 (by decide) ?_
  refine n_cast (a := 9) (k := 6) dX13_init_233 ⟨rfl, (by show 9 < 10; omega), by decide⟩ (by unfold vp_in; decide) (by decide) ?_
  rw [rs2_st (F := FM) (n := 9) (j := 3) (by decide) (by decide)]
  refine n_dup dX13_init_234 rfl ?_
  refine n_iconst (v := 4) dX13_init_235 (by decide) ?_
  refine n_bipush (v := 104) dX13_init_236 (by decide) ?_
  refine n_cast (a := 9) (k := 6) dX13_init_238 ⟨rfl, (by show 9 < 10; omega), by decide⟩ (by unfold vp_in; decide) (by decide) ?_
  rw [rs2_st (F := FM) (n := 9) (j := 4) (by decide) (by decide)]
  refine n_dup dX13_init_239 rfl ?_
  refine n_iconst (v := 5) dX13_init_240 (by decide) ?_
  refine n_bipush (v := 116) dX13_init_241 (by decide) ?_
  refine n_cast (a := 9) (k := 6) dX13_init_243 ⟨rfl, (by show 9 < 10; omega), by decide⟩ (by unfold vp_in; decide) (by decide) ?_
  rw [rs2_st (F := FM) (n := 9) (j := 5) (by decide) (by decide)]
  rw [rs2_n (F := FM) (n := 9) (l := 6) (fun k hk => FM_hi (L := 6) (by decide) hk)]
  refine n_putR (a := 9) dX13_init_244 fl_X13_39 rfl rfl rfl (fun _ => rfl) (fun _ => rfl) ⟨rfl, (by show 0 < 10; omega), by decide, by decide⟩ ?_
  exact h
theorem mc_10 (hJ : ∀ a, a ≠ 0 → J a = fun _ => 0) (h : GoN wM.1 (d + 1) 78 13175 mX13_init 264 [(0, .ref 0)] [] 11 10 1642 (p2 P 0 17 10) (rs2 FM 11 0) J 79 Q) : GoN wM.1 (d + 1) 78 13175 mX13_init 247 [(0, .ref 0)] [] 10 9 1640 P (rs2 FM 10 0) J 79 Q := by
  refine n_aload_n dX13_init_247 0 0 rfl rfl ?_
  refine n_iconst (v := 2) dX13_init_248 (by decide) ?_
  refine n_newC (k := 2) dX13_init_249 (z_c7 3 (by decide +kernel) rfl) rfl rs2_0 (by decide) (by decide) (by decide) (by decide) (by decide) (by decide) ?_
  refine n_dup dX13_init_251 rfl ?_
  refine n_iconst (v := 0) dX13_init_252 (by decide) ?_
  refine n_bipush (v := 98) dX13_init_253 (by decide) ?_
  refine n_cast (a := 10) (k := 2) dX13_init_255 ⟨rfl, (by show 10 < 11; omega), by decide⟩ (by unfold vp_in; decide) (by decide) ?_
  rw [rs2_st (F := FM) (n := 10) (j := 0) (by decide) (by decide)]
  refine n_dup dX13_init_256 rfl ?_
  refine n_iconst (v := 1) dX13_init_257 (by decide) ?_
  refine n_bipush (v := 121) dX13_init_258 (by decide) ?_
  refine n_cast (a := 10) (k := 2) dX13_init_260 ⟨rfl, (by show 10 < 11; omega), by decide⟩ (by unfold vp_in; decide) (by decide) ?_
  rw [rs2_st (F := FM) (n := 10) (j := 1) (by decide) (by decide)]
  rw [rs2_n (F := FM) (n := 10) (l := 2) (fun k hk => FM_hi (L := 2) (by decide) hk)]
  refine n_putR (a := 10) dX13_init_261 fl_X13_42 rfl rfl rfl (fun _ => rfl) (fun _ => rfl) ⟨rfl, (by show 0 < 11; omega), by decide, by decide⟩ ?_
  exact h
theorem mc_11 (hJ : ∀ a, a ≠ 0 → J a = fun _ => 0) (h : GoN wM.1 (d + 1) 78 13175 mX13_init 296 [(0, .ref 0)] [] 12 11 1647 (p2 P 0 18 11) (rs2 FM 12 0) J 79 Q) : GoN wM.1 (d + 1) 78 13175 mX13_init 264 [(0, .ref 0)] [] 11 10 1642 P (rs2 FM 11 0) J 79 Q := by
  refine n_aload_n dX13_init_264 0 0 rfl rfl ?_
  refine n_iconst (v := 5) dX13_init_265 (by decide) ?_
  refine n_newC (k := 5) dX13_init_266 (z_c7 3 (by decide +kernel) rfl) rfl rs2_0 (by decide) (by decide) (by decide) (by decide) (by decide) (by decide) ?_
  refine n_dup dX13_init_268 rfl ?_
  refine n_iconst (v := 0) dX13_init_269 (by decide) ?_
  refine n_bipush (v := 116) dX13_init_270 (by decide) ?_
  refine n_cast (a := 11) (k := 5) dX13_init_272 ⟨rfl, (by show 11 < 12; omega), by decide⟩ (by unfold vp_in; decide) (by decide) ?_
  rw [rs2_st (F := FM) (n := 11) (j := 0) (by decide) (by decide)]
  refine n_dup dX13_init_273 rfl ?_
  refine n_iconst (v := 1) dX13_init_274 (by decide) ?_
  refine n_bipush (v := 97) dX13_init_275 (by decide) ?_
  refine n_cast (a := 11) (k := 5) dX13_init_277 ⟨rfl, (by show 11 < 12; omega), by decide⟩ (by unfold vp_in; decide) (by decide) ?_
  rw [rs2_st (F := FM) (n := 11) (j := 1) (by decide) (by decide)]
  refine n_dup dX13_init_278 rfl ?_
  refine n_iconst (v := 2) dX13_init_279 (by decide) ?_
  refine n_bipush (v := 107) dX13_init_280 (by decide) ?_
  refine n_cast (a := 11) (k := 5) dX13_init_282 ⟨rfl, (by show 11 < 12; omega), by decide⟩ (by unfold vp_in; decide) (by decide) ?_
  rw [rs2_st (F := FM) (n := 11) (j := 2) (by decide) (by decide)]
  refine n_dup dX13_init_283 rfl ?_
  refine n_iconst (v := 3) dX13_init_284 (by decide) ?_
  refine n_bipush (v := 101) dX13_init_285 (by decide) ?_
  refine n_cast (a := 11) (k := 5) dX13_init_287 ⟨rfl, (by show 11 < 12; omega), by decide⟩ (by unfold vp_in; decide) (by decide) ?_
  rw [rs2_st (F := FM) (n := 11) (j := 3) (by decide) (by decide)]
  refine n_dup dX13_init_288 rfl ?_
  refine n_iconst (v := 4) dX13_init_289 (by decide) ?_
  refine n_bipush (v := 115) dX13_init_290 (by decide) ?_
  refine n_cast (a := 11) (k := 5) dX13_init_292 ⟨rfl, (by show 11 < 12; omega), by decide⟩ (by unfold vp_in; decide) (by decide) ?_
  rw [rs2_st (F := FM) (n := 11) (j := 4) (by decide) (by decide)]
  rw [rs2_n (F := FM) (n := 11) (l := 5) (fun k hk => FM_hi (L := 5) (by decide) hk)]
  refine n_putR (a := 11) dX13_init_293 fl_X13_45 rfl rfl rfl (fun _ => rfl) (fun _ => rfl) ⟨rfl, (by show 0 < 12; omega), by decide, by decide⟩ ?_
  exact h
theorem mc_12 (hJ : ∀ a, a ≠ 0 → J a = fun _ => 0) (h : GoN wM.1 (d + 1) 78 13175 mX13_init 334 [(0, .ref 0)] [] 13 12 1653 (p2 P 0 19 12) (rs2 FM 13 0) J 79 Q) : GoN wM.1 (d + 1) 78 13175 mX13_init 296 [(0, .ref 0)] [] 12 11 1647 P (rs2 FM 12 0) J 79 Q := by
  refine n_aload_n dX13_init_296 0 0 rfl rfl ?_
  refine n_bipush (v := 6) dX13_init_297 (by decide) ?_
  refine n_newC (k := 6) dX13_init_299 (z_c7 3 (by decide +kernel) rfl) rfl rs2_0 (by decide) (by decide) (by decide) (by decide) (by decide) (by decide) ?_
  refine n_dup dX13_init_301 rfl ?_
  refine n_iconst (v := 0) dX13_init_302 (by decide) ?_
  refine n_bipush (v := 103) dX13_init_303 (by decide) ?_
  refine n_cast (a := 12) (k := 6) dX13_init_305 ⟨rfl, (by show 12 < 13; omega), by decide⟩ (by unfold vp_in; decide) (by decide) ?_
  rw [rs2_st (F := FM) (n := 12) (j := 0) (by decide) (by decide)]
  refine n_dup dX13_init_306 rfl ?_
  refine n_iconst (v := 1) dX13_init_307 (by decide) ?_
  refine n_bipush (v := 97) dX13_init_308 (by decide) ?_
  refine n_cast (a := 12) (k := 6) dX13_init_310 ⟨rfl, (by show 12 < 13; omega), by decide⟩ (by unfold vp_in; decide) (by decide) ?_
  rw [rs2_st (F := FM) (n := 12) (j := 1) (by decide) (by decide)]
  refine n_dup dX13_init_311 rfl ?_
  refine n_iconst (v := 2) dX13_init_312 (by decide) ?_
  refine n_bipush (v := 114) dX13_init_313 (by decide) ?_
  refine n_cast (a := 12) (k := 6) dX13_init_315 ⟨rfl, (by show 12 < 13; omega), by decide⟩ (by unfold vp_in; decide) (by decide) ?_
  rw [rs2_st (F := FM) (n := 12) (j := 2) (by decide) (by decide)]
  refine n_dup dX13_init_316 rfl ?_
  refine n_iconst (v := 3) dX13_init_317 (by decide) ?_
  refine n_bipush (v := 98) dX13_init_318 (by decide) ?_
  refine n_cast (a := 12) (k := 6) dX13_init_320 ⟨rfl, (by show 12 < 13; omega), by decide⟩ (by unfold vp_in; decide) (by decide) ?_
  rw [rs2_st (F := FM) (n := 12) (j := 3) (by decide) (by decide)]
  refine n_dup dX13_init_321 rfl ?_
  refine n_iconst (v := 4) dX13_init_322 (by decide) ?_
  refine n_bipush (v := 108) dX13_init_323 (by decide) ?_
  refine n_cast (a := 12) (k := 6) dX13_init_325 ⟨rfl, (by show 12 < 13; omega), by decide⟩ (by unfold vp_in; decide) (by decide) ?_
  rw [rs2_st (F := FM) (n := 12) (j := 4) (by decide) (by decide)]
  refine n_dup dX13_init_326 rfl ?_
  refine n_iconst (v := 5) dX13_init_327 (by decide) ?_
  refine n_bipush (v := 101) dX13_init_328 (by decide) ?_
  refine n_cast (a := 12) (k := 6) dX13_init_330 ⟨rfl, (by show 12 < 13; omega), by decide⟩ (by unfold vp_in; decide) (by decide) ?_
  rw [rs2_st (F := FM) (n := 12) (j := 5) (by decide) (by decide)]
  rw [rs2_n (F := FM) (n := 12) (l := 6) (fun k hk => FM_hi (L := 6) (by decide) hk)]
  refine n_putR (a := 12) dX13_init_331 fl_X13_48 rfl rfl rfl (fun _ => rfl) (fun _ => rfl) ⟨rfl, (by show 0 < 13; omega), by decide, by decide⟩ ?_
  exact h
theorem mc_13 (hJ : ∀ a, a ≠ 0 → J a = fun _ => 0) (h : GoN wM.1 (d + 1) 78 13175 mX13_init 361 [(0, .ref 0)] [] 14 13 1657 (p2 P 0 20 13) (rs2 FM 14 0) J 79 Q) : GoN wM.1 (d + 1) 78 13175 mX13_init 334 [(0, .ref 0)] [] 13 12 1653 P (rs2 FM 13 0) J 79 Q := by
  refine n_aload_n dX13_init_334 0 0 rfl rfl ?_
  refine n_iconst (v := 4) dX13_init_335 (by decide) ?_
  refine n_newC (k := 4) dX13_init_336 (z_c7 3 (by decide +kernel) rfl) rfl rs2_0 (by decide) (by decide) (by decide) (by decide) (by decide) (by decide) ?_
  refine n_dup dX13_init_338 rfl ?_
  refine n_iconst (v := 0) dX13_init_339 (by decide) ?_
  refine n_bipush (v := 115) dX13_init_340 (by decide) ?_
  refine n_cast (a := 13) (k := 4) dX13_init_342 ⟨rfl, (by show 13 < 14; omega), by decide⟩ (by unfold vp_in; decide) (by decide) ?_
  rw [rs2_st (F := FM) (n := 13) (j := 0) (by decide) (by decide)]
  refine n_dup dX13_init_343 rfl ?_
  refine n_iconst (v := 1) dX13_init_344 (by decide) ?_
  refine n_bipush (v := 105) dX13_init_345 (by decide) ?_
  refine n_cast (a := 13) (k := 4) dX13_init_347 ⟨rfl, (by show 13 < 14; omega), by decide⟩ (by unfold vp_in; decide) (by decide) ?_
  rw [rs2_st (F := FM) (n := 13) (j := 1) (by decide) (by decide)]
  refine n_dup dX13_init_348 rfl ?_
  refine n_iconst (v := 2) dX13_init_349 (by decide) ?_
  refine n_bipush (v := 116) dX13_init_350 (by decide) ?_
  refine n_cast (a := 13) (k := 4) dX13_init_352 ⟨rfl, (by show 13 < 14; omega), by decide⟩ (by unfold vp_in; decide) (by decide) ?_
  rw [rs2_st (F := FM) (n := 13) (j := 2) (by decide) (by decide)]
  refine n_dup dX13_init_353 rfl ?_
  refine n_iconst (v := 3) dX13_init_354 (by decide) ?_
  refine n_bipush (v := 115) dX13_init_355 (by decide) ?_
  refine n_cast (a := 13) (k := 4) dX13_init_357 ⟨rfl, (by show 13 < 14; omega), by decide⟩ (by unfold vp_in; decide) (by decide) ?_
  rw [rs2_st (F := FM) (n := 13) (j := 3) (by decide) (by decide)]
  rw [rs2_n (F := FM) (n := 13) (l := 4) (fun k hk => FM_hi (L := 4) (by decide) hk)]
  refine n_putR (a := 13) dX13_init_358 fl_X13_51 rfl rfl rfl (fun _ => rfl) (fun _ => rfl) ⟨rfl, (by show 0 < 14; omega), by decide, by decide⟩ ?_
  exact h
theorem mc_14 (hJ : ∀ a, a ≠ 0 → J a = fun _ => 0) (h : GoN wM.1 (d + 1) 78 13175 mX13_init 388 [(0, .ref 0)] [] 15 14 1661 (p2 P 0 21 14) (rs2 FM 15 0) J 79 Q) : GoN wM.1 (d + 1) 78 13175 mX13_init 361 [(0, .ref 0)] [] 14 13 1657 P (rs2 FM 14 0) J 79 Q := by
  refine n_aload_n dX13_init_361 0 0 rfl rfl ?_
  refine n_iconst (v := 4) dX13_init_362 (by decide) ?_
  refine n_newC (k := 4) dX13_init_363 (z_c7 3 (by decide +kernel) rfl) rfl rs2_0 (by decide) (by decide) (by decide) (by decide) (by decide) (by decide) ?_
  refine n_dup dX13_init_365 rfl ?_
  refine n_iconst (v := 0) dX13_init_366 (by decide) ?_
  refine n_bipush (v := 112) dX13_init_367 (by decide) ?_
  refine n_cast (a := 14) (k := 4) dX13_init_369 ⟨rfl, (by show 14 < 15; omega), by decide⟩ (by unfold vp_in; decide) (by decide) ?_
  rw [rs2_st (F := FM) (n := 14) (j := 0) (by decide) (by decide)]
  refine n_dup dX13_init_370 rfl ?_
  refine n_iconst (v := 1) dX13_init_371 (by decide) ?_
  refine n_bipush (v := 97) dX13_init_372 (by decide) ?_
  refine n_cast (a := 14) (k := 4) dX13_init_374 ⟨rfl, (by show 14 < 15; omega), by decide⟩ (by unfold vp_in; decide) (by decide) ?_
  rw [rs2_st (F := FM) (n := 14) (j := 1) (by decide) (by decide)]
  refine n_dup dX13_init_375 rfl ?_
  refine n_iconst (v := 2) dX13_init_376 (by decide) ?_
  refine n_bipush (v := 115) dX13_init_377 (by decide) ?_
  refine n_cast (a := 14) (k := 4) dX13_init_379 ⟨rfl, (by show 14 < 15; omega), by decide⟩ (by unfold vp_in; decide) (by decide) ?_
  rw [rs2_st (F := FM) (n := 14) (j := 2) (by decide) (by decide)]
  refine n_dup dX13_init_380 rfl ?_
  refine n_iconst (v := 3) dX13_init_381 (by decide) ?_
  refine n_bipush (v := 115) dX13_init_382 (by decide) ?_
  refine n_cast (a := 14) (k := 4) dX13_init_384 ⟨rfl, (by show 14 < 15; omega), by decide⟩ (by unfold vp_in; decide) (by decide) ?_
  rw [rs2_st (F := FM) (n := 14) (j := 3) (by decide) (by decide)]
  rw [rs2_n (F := FM) (n := 14) (l := 4) (fun k hk => FM_hi (L := 4) (by decide) hk)]
  refine n_putR (a := 14) dX13_init_385 fl_X13_54 rfl rfl rfl (fun _ => rfl) (fun _ => rfl) ⟨rfl, (by show 0 < 15; omega), by decide, by decide⟩ ?_
  exact h
theorem mc_15 (hJ : ∀ a, a ≠ 0 → J a = fun _ => 0) (h : GoN wM.1 (d + 1) 78 13175 mX13_init 420 [(0, .ref 0)] [] 16 15 1666 (p2 P 0 22 15) (rs2 FM 16 0) J 79 Q) : GoN wM.1 (d + 1) 78 13175 mX13_init 388 [(0, .ref 0)] [] 15 14 1661 P (rs2 FM 15 0) J 79 Q := by
  refine n_aload_n dX13_init_388 0 0 rfl rfl ?_
  refine n_iconst (v := 5) dX13_init_389 (by decide) ?_
  refine n_newC (k := 5) dX13_init_390 (z_c7 3 (by decide +kernel) rfl) rfl rs2_0 (by decide) (by decide) (by decide) (by decide) (by decide) (by decide) ?_
  refine n_dup dX13_init_392 rfl ?_
  refine n_iconst (v := 0) dX13_init_393 (by decide) ?_
  refine n_bipush (v := 116) dX13_init_394 (by decide) ?_
  refine n_cast (a := 15) (k := 5) dX13_init_396 ⟨rfl, (by show 15 < 16; omega), by decide⟩ (by unfold vp_in; decide) (by decide) ?_
  rw [rs2_st (F := FM) (n := 15) (j := 0) (by decide) (by decide)]
  refine n_dup dX13_init_397 rfl ?_
  refine n_iconst (v := 1) dX13_init_398 (by decide) ?_
  refine n_bipush (v := 114) dX13_init_399 (by decide) ?_
  refine n_cast (a := 15) (k := 5) dX13_init_401 ⟨rfl, (by show 15 < 16; omega), by decide⟩ (by unfold vp_in; decide) (by decide) ?_
  rw [rs2_st (F := FM) (n := 15) (j := 1) (by decide) (by decide)]
  refine n_dup dX13_init_402 rfl ?_
  refine n_iconst (v := 2) dX13_init_403 (by decide) ?_
  refine n_bipush (v := 105) dX13_init_404 (by decide) ?_
  refine n_cast (a := 15) (k := 5) dX13_init_406 ⟨rfl, (by show 15 < 16; omega), by decide⟩ (by unfold vp_in; decide) (by decide) ?_
  rw [rs2_st (F := FM) (n := 15) (j := 2) (by decide) (by decide)]
  refine n_dup dX13_init_407 rfl ?_
  refine n_iconst (v := 3) dX13_init_408 (by decide) ?_
  refine n_bipush (v := 101) dX13_init_409 (by decide) ?_
  refine n_cast (a := 15) (k := 5) dX13_init_411 ⟨rfl, (by show 15 < 16; omega), by decide⟩ (by unfold vp_in; decide) (by decide) ?_
  rw [rs2_st (F := FM) (n := 15) (j := 3) (by decide) (by decide)]
  refine n_dup dX13_init_412 rfl ?_
  refine n_iconst (v := 4) dX13_init_413 (by decide) ?_
  refine n_bipush (v := 115) dX13_init_414 (by decide) ?_
  refine n_cast (a := 15) (k := 5) dX13_init_416 ⟨rfl, (by show 15 < 16; omega), by decide⟩ (by unfold vp_in; decide) (by decide) ?_
  rw [rs2_st (F := FM) (n := 15) (j := 4) (by decide) (by decide)]
  rw [rs2_n (F := FM) (n := 15) (l := 5) (fun k hk => FM_hi (L := 5) (by decide) hk)]
  refine n_putR (a := 15) dX13_init_417 fl_X13_57 rfl rfl rfl (fun _ => rfl) (fun _ => rfl) ⟨rfl, (by show 0 < 16; omega), by decide, by decide⟩ ?_
  exact h
theorem mc_16 (hJ : ∀ a, a ≠ 0 → J a = fun _ => 0) (h : GoN wM.1 (d + 1) 78 13175 mX13_init 442 [(0, .ref 0)] [] 17 16 1669 (p2 P 0 23 16) (rs2 FM 17 0) J 79 Q) : GoN wM.1 (d + 1) 78 13175 mX13_init 420 [(0, .ref 0)] [] 16 15 1666 P (rs2 FM 16 0) J 79 Q := by
  refine n_aload_n dX13_init_420 0 0 rfl rfl ?_
  refine n_iconst (v := 3) dX13_init_421 (by decide) ?_
  refine n_newC (k := 3) dX13_init_422 (z_c7 3 (by decide +kernel) rfl) rfl rs2_0 (by decide) (by decide) (by decide) (by decide) (by decide) (by decide) ?_
  refine n_dup dX13_init_424 rfl ?_
  refine n_iconst (v := 0) dX13_init_425 (by decide) ?_
  refine n_bipush (v := 105) dX13_init_426 (by decide) ?_
  refine n_cast (a := 16) (k := 3) dX13_init_428 ⟨rfl, (by show 16 < 17; omega), by decide⟩ (by unfold vp_in; decide) (by decide) ?_
  rw [rs2_st (F := FM) (n := 16) (j := 0) (by decide) (by decide)]
  refine n_dup dX13_init_429 rfl ?_
  refine n_iconst (v := 1) dX13_init_430 (by decide) ?_
  refine n_bipush (v := 108) dX13_init_431 (by decide) ?_
  refine n_cast (a := 16) (k := 3) dX13_init_433 ⟨rfl, (by show 16 < 17; omega), by decide⟩ (by unfold vp_in; decide) (by decide) ?_
  rw [rs2_st (F := FM) (n := 16) (j := 1) (by decide) (by decide)]
  refine n_dup dX13_init_434 rfl ?_
  refine n_iconst (v := 2) dX13_init_435 (by decide) ?_
  refine n_bipush (v := 108) dX13_init_436 (by decide) ?_
  refine n_cast (a := 16) (k := 3) dX13_init_438 ⟨rfl, (by show 16 < 17; omega), by decide⟩ (by unfold vp_in; decide) (by decide) ?_
  rw [rs2_st (F := FM) (n := 16) (j := 2) (by decide) (by decide)]
  rw [rs2_n (F := FM) (n := 16) (l := 3) (fun k hk => FM_hi (L := 3) (by decide) hk)]
  refine n_putR (a := 16) dX13_init_439 fl_X13_60 rfl rfl rfl (fun _ => rfl) (fun _ => rfl) ⟨rfl, (by show 0 < 17; omega), by decide, by decide⟩ ?_
  exact h
theorem mc_17 (hJ : ∀ a, a ≠ 0 → J a = fun _ => 0) (h : GoN wM.1 (d + 1) 78 13175 mX13_init 474 [(0, .ref 0)] [] 18 17 1674 (p2 P 0 24 17) (rs2 FM 18 0) J 79 Q) : GoN wM.1 (d + 1) 78 13175 mX13_init 442 [(0, .ref 0)] [] 17 16 1669 P (rs2 FM 17 0) J 79 Q := by
  refine n_aload_n dX13_init_442 0 0 rfl rfl ?_
  refine n_iconst (v := 5) dX13_init_443 (by decide) ?_
  refine n_newC (k := 5) dX13_init_444 (z_c7 3 (by decide +kernel) rfl) rfl rs2_0 (by decide) (by decide) (by decide) (by decide) (by decide) (by decide) ?_
  refine n_dup dX13_init_446 rfl ?_
  refine n_iconst (v := 0) dX13_init_447 (by decide) ?_
  refine n_bipush (v := 114) dX13_init_448 (by decide) ?_
  refine n_cast (a := 17) (k := 5) dX13_init_450 ⟨rfl, (by show 17 < 18; omega), by decide⟩ (by unfold vp_in; decide) (by decide) ?_
  rw [rs2_st (F := FM) (n := 17) (j := 0) (by decide) (by decide)]
  refine n_dup dX13_init_451 rfl ?_
  refine n_iconst (v := 1) dX13_init_452 (by decide) ?_
  refine n_bipush (v := 105) dX13_init_453 (by decide) ?_
  refine n_cast (a := 17) (k := 5) dX13_init_455 ⟨rfl, (by show 17 < 18; omega), by decide⟩ (by unfold vp_in; decide) (by decide) ?_
  rw [rs2_st (F := FM) (n := 17) (j := 1) (by decide) (by decide)]
  refine n_dup dX13_init_456 rfl ?_
  refine n_iconst (v := 2) dX13_init_457 (by decide) ?_
  refine n_bipush (v := 103) dX13_init_458 (by decide) ?_
  refine n_cast (a := 17) (k := 5) dX13_init_460 ⟨rfl, (by show 17 < 18; omega), by decide⟩ (by unfold vp_in; decide) (by decide) ?_
  rw [rs2_st (F := FM) (n := 17) (j := 2) (by decide) (by decide)]
  refine n_dup dX13_init_461 rfl ?_
  refine n_iconst (v := 3) dX13_init_462 (by decide) ?_
  refine n_bipush (v := 104) dX13_init_463 (by decide) ?_
  refine n_cast (a := 17) (k := 5) dX13_init_465 ⟨rfl, (by show 17 < 18; omega), by decide⟩ (by unfold vp_in; decide) (by decide) ?_
  rw [rs2_st (F := FM) (n := 17) (j := 3) (by decide) (by decide)]
  refine n_dup dX13_init_466 rfl ?_
  refine n_iconst (v := 4) dX13_init_467 (by decide) ?_
  refine n_bipush (v := 116) dX13_init_468 (by decide) ?_
  refine n_cast (a := 17) (k := 5) dX13_init_470 ⟨rfl, (by show 17 < 18; omega), by decide⟩ (by unfold vp_in; decide) (by decide) ?_
  rw [rs2_st (F := FM) (n := 17) (j := 4) (by decide) (by decide)]
  rw [rs2_n (F := FM) (n := 17) (l := 5) (fun k hk => FM_hi (L := 5) (by decide) hk)]
  refine n_putR (a := 17) dX13_init_471 fl_X13_63 rfl rfl rfl (fun _ => rfl) (fun _ => rfl) ⟨rfl, (by show 0 < 18; omega), by decide, by decide⟩ ?_
  exact h
theorem mc_18 (hJ : ∀ a, a ≠ 0 → J a = fun _ => 0) (h : GoN wM.1 (d + 1) 78 13175 mX13_init 506 [(0, .ref 0)] [] 19 18 1679 (p2 P 0 25 18) (rs2 FM 19 0) J 79 Q) : GoN wM.1 (d + 1) 78 13175 mX13_init 474 [(0, .ref 0)] [] 18 17 1674 P (rs2 FM 18 0) J 79 Q := by
  refine n_aload_n dX13_init_474 0 0 rfl rfl ?_
  refine n_iconst (v := 5) dX13_init_475 (by decide) ?_
  refine n_newC (k := 5) dX13_init_476 (z_c7 3 (by decide +kernel) rfl) rfl rs2_0 (by decide) (by decide) (by decide) (by decide) (by decide) (by decide) ?_
  refine n_dup dX13_init_478 rfl ?_
  refine n_iconst (v := 0) dX13_init_479 (by decide) ?_
  refine n_bipush (v := 119) dX13_init_480 (by decide) ?_
  refine n_cast (a := 18) (k := 5) dX13_init_482 ⟨rfl, (by show 18 < 19; omega), by decide⟩ (by unfold vp_in; decide) (by decide) ?_
  rw [rs2_st (F := FM) (n := 18) (j := 0) (by decide) (by decide)]
  refine n_dup dX13_init_483 rfl ?_
  refine n_iconst (v := 1) dX13_init_484 (by decide) ?_
  refine n_bipush (v := 114) dX13_init_485 (by decide) ?_
  refine n_cast (a := 18) (k := 5) dX13_init_487 ⟨rfl, (by show 18 < 19; omega), by decide⟩ (by unfold vp_in; decide) (by decide) ?_
  rw [rs2_st (F := FM) (n := 18) (j := 1) (by decide) (by decide)]
  refine n_dup dX13_init_488 rfl ?_
  refine n_iconst (v := 2) dX13_init_489 (by decide) ?_
  refine n_bipush (v := 111) dX13_init_490 (by decide) ?_
  refine n_cast (a := 18) (k := 5) dX13_init_492 ⟨rfl, (by show 18 < 19; omega), by decide⟩ (by unfold vp_in; decide) (by decide) ?_
  rw [rs2_st (F := FM) (n := 18) (j := 2) (by decide) (by decide)]
  refine n_dup dX13_init_493 rfl ?_
  refine n_iconst (v := 3) dX13_init_494 (by decide) ?_
  refine n_bipush (v := 110) dX13_init_495 (by decide) ?_
  refine n_cast (a := 18) (k := 5) dX13_init_497 ⟨rfl, (by show 18 < 19; omega), by decide⟩ (by unfold vp_in; decide) (by decide) ?_
  rw [rs2_st (F := FM) (n := 18) (j := 3) (by decide) (by decide)]
  refine n_dup dX13_init_498 rfl ?_
  refine n_iconst (v := 4) dX13_init_499 (by decide) ?_
  refine n_bipush (v := 103) dX13_init_500 (by decide) ?_
  refine n_cast (a := 18) (k := 5) dX13_init_502 ⟨rfl, (by show 18 < 19; omega), by decide⟩ (by unfold vp_in; decide) (by decide) ?_
  rw [rs2_st (F := FM) (n := 18) (j := 4) (by decide) (by decide)]
  rw [rs2_n (F := FM) (n := 18) (l := 5) (fun k hk => FM_hi (L := 5) (by decide) hk)]
  refine n_putR (a := 18) dX13_init_503 fl_X13_66 rfl rfl rfl (fun _ => rfl) (fun _ => rfl) ⟨rfl, (by show 0 < 19; omega), by decide, by decide⟩ ?_
  exact h
theorem mc_19 (hJ : ∀ a, a ≠ 0 → J a = fun _ => 0) (h : GoN wM.1 (d + 1) 78 13175 mX13_init 533 [(0, .ref 0)] [] 20 19 1683 (p2 P 0 26 19) (rs2 FM 20 0) J 79 Q) : GoN wM.1 (d + 1) 78 13175 mX13_init 506 [(0, .ref 0)] [] 19 18 1679 P (rs2 FM 19 0) J 79 Q := by
  refine n_aload_n dX13_init_506 0 0 rfl rfl ?_
  refine n_iconst (v := 4) dX13_init_507 (by decide) ?_
  refine n_newC (k := 4) dX13_init_508 (z_c7 3 (by decide +kernel) rfl) rfl rs2_0 (by decide) (by decide) (by decide) (by decide) (by decide) (by decide) ?_
  refine n_dup dX13_init_510 rfl ?_
  refine n_iconst (v := 0) dX13_init_511 (by decide) ?_
  refine n_bipush (v := 121) dX13_init_512 (by decide) ?_
  refine n_cast (a := 19) (k := 4) dX13_init_514 ⟨rfl, (by show 19 < 20; omega), by decide⟩ (by unfold vp_in; decide) (by decide) ?_
  rw [rs2_st (F := FM) (n := 19) (j := 0) (by decide) (by decide)]
  refine n_dup dX13_init_515 rfl ?_
  refine n_iconst (v := 1) dX13_init_516 (by decide) ?_
  refine n_bipush (v := 101) dX13_init_517 (by decide) ?_
  refine n_cast (a := 19) (k := 4) dX13_init_519 ⟨rfl, (by show 19 < 20; omega), by decide⟩ (by unfold vp_in; decide) (by decide) ?_
  rw [rs2_st (F := FM) (n := 19) (j := 1) (by decide) (by decide)]
  refine n_dup dX13_init_520 rfl ?_
  refine n_iconst (v := 2) dX13_init_521 (by decide) ?_
  refine n_bipush (v := 97) dX13_init_522 (by decide) ?_
  refine n_cast (a := 19) (k := 4) dX13_init_524 ⟨rfl, (by show 19 < 20; omega), by decide⟩ (by unfold vp_in; decide) (by decide) ?_
  rw [rs2_st (F := FM) (n := 19) (j := 2) (by decide) (by decide)]
  refine n_dup dX13_init_525 rfl ?_
  refine n_iconst (v := 3) dX13_init_526 (by decide) ?_
  refine n_bipush (v := 114) dX13_init_527 (by decide) ?_
  refine n_cast (a := 19) (k := 4) dX13_init_529 ⟨rfl, (by show 19 < 20; omega), by decide⟩ (by unfold vp_in; decide) (by decide) ?_
  rw [rs2_st (F := FM) (n := 19) (j := 3) (by decide) (by decide)]
  rw [rs2_n (F := FM) (n := 19) (l := 4) (fun k hk => FM_hi (L := 4) (by decide) hk)]
  refine n_putR (a := 19) dX13_init_530 fl_X13_69 rfl rfl rfl (fun _ => rfl) (fun _ => rfl) ⟨rfl, (by show 0 < 20; omega), by decide, by decide⟩ ?_
  exact h
theorem mc_20 (hJ : ∀ a, a ≠ 0 → J a = fun _ => 0) (h : GoN wM.1 (d + 1) 78 13175 mX13_init 565 [(0, .ref 0)] [] 21 20 1688 (p2 P 0 27 20) (rs2 FM 21 0) J 79 Q) : GoN wM.1 (d + 1) 78 13175 mX13_init 533 [(0, .ref 0)] [] 20 19 1683 P (rs2 FM 20 0) J 79 Q := by
  refine n_aload_n dX13_init_533 0 0 rfl rfl ?_
  refine n_iconst (v := 5) dX13_init_534 (by decide) ?_
  refine n_newC (k := 5) dX13_init_535 (z_c7 3 (by decide +kernel) rfl) rfl rs2_0 (by decide) (by decide) (by decide) (by decide) (by decide) (by decide) ?_
  refine n_dup dX13_init_537 rfl ?_
  refine n_iconst (v := 0) dX13_init_538 (by decide) ?_
  refine n_bipush (v := 99) dX13_init_539 (by decide) ?_
  refine n_cast (a := 20) (k := 5) dX13_init_541 ⟨rfl, (by show 20 < 21; omega), by decide⟩ (by unfold vp_in; decide) (by decide) ?_
  rw [rs2_st (F := FM) (n := 20) (j := 0) (by decide) (by decide)]
  refine n_dup dX13_init_542 rfl ?_
  refine n_iconst (v := 1) dX13_init_543 (by decide) ?_
  refine n_bipush (v := 108) dX13_init_544 (by decide) ?_
  refine n_cast (a := 20) (k := 5) dX13_init_546 ⟨rfl, (by show 20 < 21; omega), by decide⟩ (by unfold vp_in; decide) (by decide) ?_
  rw [rs2_st (F := FM) (n := 20) (j := 1) (by decide) (by decide)]
  refine n_dup dX13_init_547 rfl ?_
  refine n_iconst (v := 2) dX13_init_548 (by decide) ?_
  refine n_bipush (v := 97) dX13_init_549 (by decide) ?_
  refine n_cast (a := 20) (k := 5) dX13_init_551 ⟨rfl, (by show 20 < 21; omega), by decide⟩ (by unfold vp_in; decide) (by decide) ?_
  rw [rs2_st (F := FM) (n := 20) (j := 2) (by decide) (by decide)]
  refine n_dup dX13_init_552 rfl ?_
  refine n_iconst (v := 3) dX13_init_553 (by decide) ?_
  refine n_bipush (v := 115) dX13_init_554 (by decide) ?_
  refine n_cast (a := 20) (k := 5) dX13_init_556 ⟨rfl, (by show 20 < 21; omega), by decide⟩ (by unfold vp_in; decide) (by decide) ?_
  rw [rs2_st (F := FM) (n := 20) (j := 3) (by decide) (by decide)]
  refine n_dup dX13_init_557 rfl ?_
  refine n_iconst (v := 4) dX13_init_558 (by decide) ?_
  refine n_bipush (v := 115) dX13_init_559 (by decide) ?_
  refine n_cast (a := 20) (k := 5) dX13_init_561 ⟨rfl, (by show 20 < 21; omega), by decide⟩ (by unfold vp_in; decide) (by decide) ?_
  rw [rs2_st (F := FM) (n := 20) (j := 4) (by decide) (by decide)]
  rw [rs2_n (F := FM) (n := 20) (l := 5) (fun k hk => FM_hi (L := 5) (by decide) hk)]
  refine n_putR (a := 20) dX13_init_562 fl_X13_72 rfl rfl rfl (fun _ => rfl) (fun _ => rfl) ⟨rfl, (by show 0 < 21; omega), by decide, by decide⟩ ?_
  exact h
theorem mc_21 (hJ : ∀ a, a ≠ 0 → J a = fun _ => 0) (h : GoN wM.1 (d + 1) 78 13175 mX13_init 597 [(0, .ref 0)] [] 22 21 1693 (p2 P 0 28 21) (rs2 FM 22 0) J 79 Q) : GoN wM.1 (d + 1) 78 13175 mX13_init 565 [(0, .ref 0)] [] 21 20 1688 P (rs2 FM 21 0) J 79 Q := by
  refine n_aload_n dX13_init_565 0 0 rfl rfl ?_
  refine n_iconst (v := 5) dX13_init_566 (by decide) ?_
  refine n_newC (k := 5) dX13_init_567 (z_c7 3 (by decide +kernel) rfl) rfl rs2_0 (by decide) (by decide) (by decide) (by decide) (by decide) (by decide) ?_
  refine n_dup dX13_init_569 rfl ?_
  refine n_iconst (v := 0) dX13_init_570 (by decide) ?_
  refine n_bipush (v := 109) dX13_init_571 (by decide) ?_
  refine n_cast (a := 21) (k := 5) dX13_init_573 ⟨rfl, (by show 21 < 22; omega), by decide⟩ (by unfold vp_in; decide) (by decide) ?_
  rw [rs2_st (F := FM) (n := 21) (j := 0) (by decide) (by decide)]
  refine n_dup dX13_init_574 rfl ?_
  refine n_iconst (v := 1) dX13_init_575 (by decide) ?_
  refine n_bipush (v := 99) dX13_init_576 (by decide) ?_
  refine n_cast (a := 21) (k := 5) dX13_init_578 ⟨rfl, (by show 21 < 22; omega), by decide⟩ (by unfold vp_in; decide) (by decide) ?_
  rw [rs2_st (F := FM) (n := 21) (j := 1) (by decide) (by decide)]
  refine n_dup dX13_init_579 rfl ?_
  refine n_iconst (v := 2) dX13_init_580 (by decide) ?_
  refine n_bipush (v := 97) dX13_init_581 (by decide) ?_
  refine n_cast (a := 21) (k := 5) dX13_init_583 ⟨rfl, (by show 21 < 22; omega), by decide⟩ (by unfold vp_in; decide) (by decide) ?_
  rw [rs2_st (F := FM) (n := 21) (j := 2) (by decide) (by decide)]
  refine n_dup dX13_init_584 rfl ?_
  refine n_iconst (v := 3) dX13_init_585 (by decide) ?_
  refine n_bipush (v := 108) dX13_init_586 (by decide) ?_
  refine n_cast (a := 21) (k := 5) dX13_init_588 ⟨rfl, (by show 21 < 22; omega), by decide⟩ (by unfold vp_in; decide) (by decide) ?_
  rw [rs2_st (F := FM) (n := 21) (j := 3) (by decide) (by decide)]
  refine n_dup dX13_init_589 rfl ?_
  refine n_iconst (v := 4) dX13_init_590 (by decide) ?_
  refine n_bipush (v := 109) dX13_init_591 (by decide) ?_
  refine n_cast (a := 21) (k := 5) dX13_init_593 ⟨rfl, (by show 21 < 22; omega), by decide⟩ (by unfold vp_in; decide) (by decide) ?_
  rw [rs2_st (F := FM) (n := 21) (j := 4) (by decide) (by decide)]
  rw [rs2_n (F := FM) (n := 21) (l := 5) (fun k hk => FM_hi (L := 5) (by decide) hk)]
  refine n_putR (a := 21) dX13_init_594 fl_X13_75 rfl rfl rfl (fun _ => rfl) (fun _ => rfl) ⟨rfl, (by show 0 < 22; omega), by decide, by decide⟩ ?_
  exact h
theorem mc_22 (hJ : ∀ a, a ≠ 0 → J a = fun _ => 0) (h : GoN wM.1 (d + 1) 78 13175 mX13_init 624 [(0, .ref 0)] [] 23 22 1697 (p2 P 0 29 22) (rs2 FM 23 0) J 79 Q) : GoN wM.1 (d + 1) 78 13175 mX13_init 597 [(0, .ref 0)] [] 22 21 1693 P (rs2 FM 22 0) J 79 Q := by
  refine n_aload_n dX13_init_597 0 0 rfl rfl ?_
  refine n_iconst (v := 4) dX13_init_598 (by decide) ?_
  refine n_newC (k := 4) dX13_init_599 (z_c7 3 (by decide +kernel) rfl) rfl rs2_0 (by decide) (by decide) (by decide) (by decide) (by decide) (by decide) ?_
  refine n_dup dX13_init_601 rfl ?_
  refine n_iconst (v := 0) dX13_init_602 (by decide) ?_
  refine n_bipush (v := 108) dX13_init_603 (by decide) ?_
  refine n_cast (a := 22) (k := 4) dX13_init_605 ⟨rfl, (by show 22 < 23; omega), by decide⟩ (by unfold vp_in; decide) (by decide) ?_
  rw [rs2_st (F := FM) (n := 22) (j := 0) (by decide) (by decide)]
  refine n_dup dX13_init_606 rfl ?_
  refine n_iconst (v := 1) dX13_init_607 (by decide) ?_
  refine n_bipush (v := 101) dX13_init_608 (by decide) ?_
  refine n_cast (a := 22) (k := 4) dX13_init_610 ⟨rfl, (by show 22 < 23; omega), by decide⟩ (by unfold vp_in; decide) (by decide) ?_
  rw [rs2_st (F := FM) (n := 22) (j := 1) (by decide) (by decide)]
  refine n_dup dX13_init_611 rfl ?_
  refine n_iconst (v := 2) dX13_init_612 (by decide) ?_
  refine n_bipush (v := 102) dX13_init_613 (by decide) ?_
  refine n_cast (a := 22) (k := 4) dX13_init_615 ⟨rfl, (by show 22 < 23; omega), by decide⟩ (by unfold vp_in; decide) (by decide) ?_
  rw [rs2_st (F := FM) (n := 22) (j := 2) (by decide) (by decide)]
  refine n_dup dX13_init_616 rfl ?_
  refine n_iconst (v := 3) dX13_init_617 (by decide) ?_
  refine n_bipush (v := 116) dX13_init_618 (by decide) ?_
  refine n_cast (a := 22) (k := 4) dX13_init_620 ⟨rfl, (by show 22 < 23; omega), by decide⟩ (by unfold vp_in; decide) (by decide) ?_
  rw [rs2_st (F := FM) (n := 22) (j := 3) (by decide) (by decide)]
  rw [rs2_n (F := FM) (n := 22) (l := 4) (fun k hk => FM_hi (L := 4) (by decide) hk)]
  refine n_putR (a := 22) dX13_init_621 fl_X13_78 rfl rfl rfl (fun _ => rfl) (fun _ => rfl) ⟨rfl, (by show 0 < 23; omega), by decide, by decide⟩ ?_
  exact h
theorem mc_23 (hJ : ∀ a, a ≠ 0 → J a = fun _ => 0) (h : GoN wM.1 (d + 1) 78 13175 mX13_init 656 [(0, .ref 0)] [] 24 23 1702 (p2 P 0 30 23) (rs2 FM 24 0) J 79 Q) : GoN wM.1 (d + 1) 78 13175 mX13_init 624 [(0, .ref 0)] [] 23 22 1697 P (rs2 FM 23 0) J 79 Q := by
  refine n_aload_n dX13_init_624 0 0 rfl rfl ?_
  refine n_iconst (v := 5) dX13_init_625 (by decide) ?_
  refine n_newC (k := 5) dX13_init_626 (z_c7 3 (by decide +kernel) rfl) rfl rs2_0 (by decide) (by decide) (by decide) (by decide) (by decide) (by decide) ?_
  refine n_dup dX13_init_628 rfl ?_
  refine n_iconst (v := 0) dX13_init_629 (by decide) ?_
  refine n_bipush (v := 109) dX13_init_630 (by decide) ?_
  refine n_cast (a := 23) (k := 5) dX13_init_632 ⟨rfl, (by show 23 < 24; omega), by decide⟩ (by unfold vp_in; decide) (by decide) ?_
  rw [rs2_st (F := FM) (n := 23) (j := 0) (by decide) (by decide)]
  refine n_dup dX13_init_633 rfl ?_
  refine n_iconst (v := 1) dX13_init_634 (by decide) ?_
  refine n_bipush (v := 97) dX13_init_635 (by decide) ?_
  refine n_cast (a := 23) (k := 5) dX13_init_637 ⟨rfl, (by show 23 < 24; omega), by decide⟩ (by unfold vp_in; decide) (by decide) ?_
  rw [rs2_st (F := FM) (n := 23) (j := 1) (by decide) (by decide)]
  refine n_dup dX13_init_638 rfl ?_
  refine n_iconst (v := 2) dX13_init_639 (by decide) ?_
  refine n_bipush (v := 114) dX13_init_640 (by decide) ?_
  refine n_cast (a := 23) (k := 5) dX13_init_642 ⟨rfl, (by show 23 < 24; omega), by decide⟩ (by unfold vp_in; decide) (by decide) ?_
  rw [rs2_st (F := FM) (n := 23) (j := 2) (by decide) (by decide)]
  refine n_dup dX13_init_643 rfl ?_
  refine n_iconst (v := 3) dX13_init_644 (by decide) ?_
  refine n_bipush (v := 107) dX13_init_645 (by decide) ?_
  refine n_cast (a := 23) (k := 5) dX13_init_647 ⟨rfl, (by show 23 < 24; omega), by decide⟩ (by unfold vp_in; decide) (by decide) ?_
  rw [rs2_st (F := FM) (n := 23) (j := 3) (by decide) (by decide)]
  refine n_dup dX13_init_648 rfl ?_
  refine n_iconst (v := 4) dX13_init_649 (by decide) ?_
  refine n_bipush (v := 115) dX13_init_650 (by decide) ?_
  refine n_cast (a := 23) (k := 5) dX13_init_652 ⟨rfl, (by show 23 < 24; omega), by decide⟩ (by unfold vp_in; decide) (by decide) ?_
  rw [rs2_st (F := FM) (n := 23) (j := 4) (by decide) (by decide)]
  rw [rs2_n (F := FM) (n := 23) (l := 5) (fun k hk => FM_hi (L := 5) (by decide) hk)]
  refine n_putR (a := 23) dX13_init_653 fl_X13_81 rfl rfl rfl (fun _ => rfl) (fun _ => rfl) ⟨rfl, (by show 0 < 24; omega), by decide, by decide⟩ ?_
  exact h
theorem mc_24 (hJ : ∀ a, a ≠ 0 → J a = fun _ => 0) (h : GoN wM.1 (d + 1) 78 13175 mX13_init 694 [(0, .ref 0)] [] 25 24 1708 (p2 P 0 31 24) (rs2 FM 25 0) J 79 Q) : GoN wM.1 (d + 1) 78 13175 mX13_init 656 [(0, .ref 0)] [] 24 23 1702 P (rs2 FM 24 0) J 79 Q := by
  refine n_aload_n dX13_init_656 0 0 rfl rfl ?_
  refine n_bipush (v := 6) dX13_init_657 (by decide) ?_
  refine n_newC (k := 6) dX13_init_659 (z_c7 3 (by decide +kernel) rfl) rfl rs2_0 (by decide) (by decide) (by decide) (by decide) (by decide) (by decide) ?_
  refine n_dup dX13_init_661 rfl ?_
  refine n_iconst (v := 0) dX13_init_662 (by decide) ?_
  refine n_bipush (v := 110) dX13_init_663 (by decide) ?_
  refine n_cast (a := 24) (k := 6) dX13_init_665 ⟨rfl, (by show 24 < 25; omega), by decide⟩ (by unfold vp_in; decide) (by decide) ?_
  rw [rs2_st (F := FM) (n := 24) (j := 0) (by decide) (by decide)]
  refine n_dup dX13_init_666 rfl ?_
  refine n_iconst (v := 1) dX13_init_667 (by decide) ?_
  refine n_bipush (v := 117) dX13_init_668 (by decide) ?_
  refine n_cast (a := 24) (k := 6) dX13_init_670 ⟨rfl, (by show 24 < 25; omega), by decide⟩ (by unfold vp_in; decide) (by decide) ?_
  rw [rs2_st (F := FM) (n := 24) (j := 1) (by decide) (by decide)]
  refine n_dup dX13_init_671 rfl ?_
  refine n_iconst (v := 2) dX13_init_672 (by decide) ?_
  refine n_bipush (v := 109) dX13_init_673 (by decide) ?_
  refine n_cast (a := 24) (k := 6) dX13_init_675 ⟨rfl, (by show 24 < 25; omega), by decide⟩ (by unfold vp_in; decide) (by decide) ?_
  rw [rs2_st (F := FM) (n := 24) (j := 2) (by decide) (by decide)]
  refine n_dup dX13_init_676 rfl ?_
  refine n_iconst (v := 3) dX13_init_677 (by decide) ?_
  refine n_bipush (v := 98) dX13_init_678 (by decide) ?_
  refine n_cast (a := 24) (k := 6) dX13_init_680 ⟨rfl, (by show 24 < 25; omega), by decide⟩ (by unfold vp_in; decide) (by decide) ?_
  rw [rs2_st (F := FM) (n := 24) (j := 3) (by decide) (by decide)]
  refine n_dup dX13_init_681 rfl ?_
  refine n_iconst (v := 4) dX13_init_682 (by decide) ?_
  refine n_bipush (v := 101) dX13_init_683 (by decide) ?_
  refine n_cast (a := 24) (k := 6) dX13_init_685 ⟨rfl, (by show 24 < 25; omega), by decide⟩ (by unfold vp_in; decide) (by decide) ?_
  rw [rs2_st (F := FM) (n := 24) (j := 4) (by decide) (by decide)]
  refine n_dup dX13_init_686 rfl ?_
  refine n_iconst (v := 5) dX13_init_687 (by decide) ?_
  refine n_bipush (v := 114) dX13_init_688 (by decide) ?_
  refine n_cast (a := 24) (k := 6) dX13_init_690 ⟨rfl, (by show 24 < 25; omega), by decide⟩ (by unfold vp_in; decide) (by decide) ?_
  rw [rs2_st (F := FM) (n := 24) (j := 5) (by decide) (by decide)]
  rw [rs2_n (F := FM) (n := 24) (l := 6) (fun k hk => FM_hi (L := 6) (by decide) hk)]
  refine n_putR (a := 24) dX13_init_691 fl_X13_84 rfl rfl rfl (fun _ => rfl) (fun _ => rfl) ⟨rfl, (by show 0 < 25; omega), by decide, by decide⟩ ?_
  exact h
theorem mc_25 (hJ : ∀ a, a ≠ 0 → J a = fun _ => 0) (h : GoN wM.1 (d + 1) 78 13175 mX13_init 711 [(0, .ref 0)] [] 26 25 1710 (p2 P 0 32 25) (rs2 FM 26 0) J 79 Q) : GoN wM.1 (d + 1) 78 13175 mX13_init 694 [(0, .ref 0)] [] 25 24 1708 P (rs2 FM 25 0) J 79 Q := by
  refine n_aload_n dX13_init_694 0 0 rfl rfl ?_
  refine n_iconst (v := 2) dX13_init_695 (by decide) ?_
  refine n_newC (k := 2) dX13_init_696 (z_c7 3 (by decide +kernel) rfl) rfl rs2_0 (by decide) (by decide) (by decide) (by decide) (by decide) (by decide) ?_
  refine n_dup dX13_init_698 rfl ?_
  refine n_iconst (v := 0) dX13_init_699 (by decide) ?_
  refine n_bipush (v := 111) dX13_init_700 (by decide) ?_
  refine n_cast (a := 25) (k := 2) dX13_init_702 ⟨rfl, (by show 25 < 26; omega), by decide⟩ (by unfold vp_in; decide) (by decide) ?_
  rw [rs2_st (F := FM) (n := 25) (j := 0) (by decide) (by decide)]
  refine n_dup dX13_init_703 rfl ?_
  refine n_iconst (v := 1) dX13_init_704 (by decide) ?_
  refine n_bipush (v := 114) dX13_init_705 (by decide) ?_
  refine n_cast (a := 25) (k := 2) dX13_init_707 ⟨rfl, (by show 25 < 26; omega), by decide⟩ (by unfold vp_in; decide) (by decide) ?_
  rw [rs2_st (F := FM) (n := 25) (j := 1) (by decide) (by decide)]
  rw [rs2_n (F := FM) (n := 25) (l := 2) (fun k hk => FM_hi (L := 2) (by decide) hk)]
  refine n_putR (a := 25) dX13_init_708 fl_X13_87 rfl rfl rfl (fun _ => rfl) (fun _ => rfl) ⟨rfl, (by show 0 < 26; omega), by decide, by decide⟩ ?_
  exact h
theorem mc_26 (hJ : ∀ a, a ≠ 0 → J a = fun _ => 0) (h : GoN wM.1 (d + 1) 78 13175 mX13_init 733 [(0, .ref 0)] [] 27 26 1713 (p2 P 0 33 26) (rs2 FM 27 0) J 79 Q) : GoN wM.1 (d + 1) 78 13175 mX13_init 711 [(0, .ref 0)] [] 26 25 1710 P (rs2 FM 26 0) J 79 Q := by
  refine n_aload_n dX13_init_711 0 0 rfl rfl ?_
  refine n_iconst (v := 3) dX13_init_712 (by decide) ?_
  refine n_newC (k := 3) dX13_init_713 (z_c7 3 (by decide +kernel) rfl) rfl rs2_0 (by decide) (by decide) (by decide) (by decide) (by decide) (by decide) ?_
  refine n_dup dX13_init_715 rfl ?_
  refine n_iconst (v := 0) dX13_init_716 (by decide) ?_
  refine n_bipush (v := 97) dX13_init_717 (by decide) ?_
  refine n_cast (a := 26) (k := 3) dX13_init_719 ⟨rfl, (by show 26 < 27; omega), by decide⟩ (by unfold vp_in; decide) (by decide) ?_
  rw [rs2_st (F := FM) (n := 26) (j := 0) (by decide) (by decide)]
  refine n_dup dX13_init_720 rfl ?_
  refine n_iconst (v := 1) dX13_init_721 (by decide) ?_
  refine n_bipush (v := 110) dX13_init_722 (by decide) ?_
  refine n_cast (a := 26) (k := 3) dX13_init_724 ⟨rfl, (by show 26 < 27; omega), by decide⟩ (by unfold vp_in; decide) (by decide) ?_
  rw [rs2_st (F := FM) (n := 26) (j := 1) (by decide) (by decide)]
  refine n_dup dX13_init_725 rfl ?_
  refine n_iconst (v := 2) dX13_init_726 (by decide) ?_
  refine n_bipush (v := 100) dX13_init_727 (by decide) ?_
  refine n_cast (a := 26) (k := 3) dX13_init_729 ⟨rfl, (by show 26 < 27; omega), by decide⟩ (by unfold vp_in; decide) (by decide) ?_
  rw [rs2_st (F := FM) (n := 26) (j := 2) (by decide) (by decide)]
  rw [rs2_n (F := FM) (n := 26) (l := 3) (fun k hk => FM_hi (L := 3) (by decide) hk)]
  refine n_putR (a := 26) dX13_init_730 fl_X13_90 rfl rfl rfl (fun _ => rfl) (fun _ => rfl) ⟨rfl, (by show 0 < 27; omega), by decide, by decide⟩ ?_
  exact h
theorem mc_27 (hJ : ∀ a, a ≠ 0 → J a = fun _ => 0) (h : GoN wM.1 (d + 1) 78 13175 mX13_init 755 [(0, .ref 0)] [] 28 27 1716 (p2 P 0 34 27) (rs2 FM 28 0) J 79 Q) : GoN wM.1 (d + 1) 78 13175 mX13_init 733 [(0, .ref 0)] [] 27 26 1713 P (rs2 FM 27 0) J 79 Q := by
  refine n_aload_n dX13_init_733 0 0 rfl rfl ?_
  refine n_iconst (v := 3) dX13_init_734 (by decide) ?_
  refine n_newC (k := 3) dX13_init_735 (z_c7 3 (by decide +kernel) rfl) rfl rs2_0 (by decide) (by decide) (by decide) (by decide) (by decide) (by decide) ?_
  refine n_dup dX13_init_737 rfl ?_
  refine n_iconst (v := 0) dX13_init_738 (by decide) ?_
  refine n_bipush (v := 110) dX13_init_739 (by decide) ?_
  refine n_cast (a := 27) (k := 3) dX13_init_741 ⟨rfl, (by show 27 < 28; omega), by decide⟩ (by unfold vp_in; decide) (by decide) ?_
  rw [rs2_st (F := FM) (n := 27) (j := 0) (by decide) (by decide)]
  refine n_dup dX13_init_742 rfl ?_
  refine n_iconst (v := 1) dX13_init_743 (by decide) ?_
  refine n_bipush (v := 111) dX13_init_744 (by decide) ?_
  refine n_cast (a := 27) (k := 3) dX13_init_746 ⟨rfl, (by show 27 < 28; omega), by decide⟩ (by unfold vp_in; decide) (by decide) ?_
  rw [rs2_st (F := FM) (n := 27) (j := 1) (by decide) (by decide)]
  refine n_dup dX13_init_747 rfl ?_
  refine n_iconst (v := 2) dX13_init_748 (by decide) ?_
  refine n_bipush (v := 116) dX13_init_749 (by decide) ?_
  refine n_cast (a := 27) (k := 3) dX13_init_751 ⟨rfl, (by show 27 < 28; omega), by decide⟩ (by unfold vp_in; decide) (by decide) ?_
  rw [rs2_st (F := FM) (n := 27) (j := 2) (by decide) (by decide)]
  rw [rs2_n (F := FM) (n := 27) (l := 3) (fun k hk => FM_hi (L := 3) (by decide) hk)]
  refine n_putR (a := 27) dX13_init_752 fl_X13_93 rfl rfl rfl (fun _ => rfl) (fun _ => rfl) ⟨rfl, (by show 0 < 28; omega), by decide, by decide⟩ ?_
  exact h
theorem mc_28 (hJ : ∀ a, a ≠ 0 → J a = fun _ => 0) (h : GoN wM.1 (d + 1) 78 13175 mX13_init 777 [(0, .ref 0)] [] 29 28 1719 (p2 P 0 35 28) (rs2 FM 29 0) J 79 Q) : GoN wM.1 (d + 1) 78 13175 mX13_init 755 [(0, .ref 0)] [] 28 27 1716 P (rs2 FM 28 0) J 79 Q := by
  refine n_aload_n dX13_init_755 0 0 rfl rfl ?_
  refine n_iconst (v := 3) dX13_init_756 (by decide) ?_
  refine n_newC (k := 3) dX13_init_757 (z_c7 3 (by decide +kernel) rfl) rfl rs2_0 (by decide) (by decide) (by decide) (by decide) (by decide) (by decide) ?_
  refine n_dup dX13_init_759 rfl ?_
  refine n_iconst (v := 0) dX13_init_760 (by decide) ?_
  refine n_bipush (v := 97) dX13_init_761 (by decide) ?_
  refine n_cast (a := 28) (k := 3) dX13_init_763 ⟨rfl, (by show 28 < 29; omega), by decide⟩ (by unfold vp_in; decide) (by decide) ?_
  rw [rs2_st (F := FM) (n := 28) (j := 0) (by decide) (by decide)]
  refine n_dup dX13_init_764 rfl ?_
  refine n_iconst (v := 1) dX13_init_765 (by decide) ?_
  refine n_bipush (v := 108) dX13_init_766 (by decide) ?_
  refine n_cast (a := 28) (k := 3) dX13_init_768 ⟨rfl, (by show 28 < 29; omega), by decide⟩ (by unfold vp_in; decide) (by decide) ?_
  rw [rs2_st (F := FM) (n := 28) (j := 1) (by decide) (by decide)]
  refine n_dup dX13_init_769 rfl ?_
  refine n_iconst (v := 2) dX13_init_770 (by decide) ?_
  refine n_bipush (v := 108) dX13_init_771 (by decide) ?_
  refine n_cast (a := 28) (k := 3) dX13_init_773 ⟨rfl, (by show 28 < 29; omega), by decide⟩ (by unfold vp_in; decide) (by decide) ?_
  rw [rs2_st (F := FM) (n := 28) (j := 2) (by decide) (by decide)]
  rw [rs2_n (F := FM) (n := 28) (l := 3) (fun k hk => FM_hi (L := 3) (by decide) hk)]
  refine n_putR (a := 28) dX13_init_774 fl_X13_96 rfl rfl rfl (fun _ => rfl) (fun _ => rfl) ⟨rfl, (by show 0 < 29; omega), by decide, by decide⟩ ?_
  exact h
theorem mc_29 (hJ : ∀ a, a ≠ 0 → J a = fun _ => 0) (h : GoN wM.1 (d + 1) 78 13175 mX13_init 799 [(0, .ref 0)] [] 30 29 1722 (p2 P 0 36 29) (rs2 FM 30 0) J 79 Q) : GoN wM.1 (d + 1) 78 13175 mX13_init 777 [(0, .ref 0)] [] 29 28 1719 P (rs2 FM 29 0) J 79 Q := by
  refine n_aload_n dX13_init_777 0 0 rfl rfl ?_
  refine n_iconst (v := 3) dX13_init_778 (by decide) ?_
  refine n_newC (k := 3) dX13_init_779 (z_c7 3 (by decide +kernel) rfl) rfl rs2_0 (by decide) (by decide) (by decide) (by decide) (by decide) (by decide) ?_
  refine n_dup dX13_init_781 rfl ?_
  refine n_iconst (v := 0) dX13_init_782 (by decide) ?_
  refine n_bipush (v := 109) dX13_init_783 (by decide) ?_
  refine n_cast (a := 29) (k := 3) dX13_init_785 ⟨rfl, (by show 29 < 30; omega), by decide⟩ (by unfold vp_in; decide) (by decide) ?_
  rw [rs2_st (F := FM) (n := 29) (j := 0) (by decide) (by decide)]
  refine n_dup dX13_init_786 rfl ?_
  refine n_iconst (v := 1) dX13_init_787 (by decide) ?_
  refine n_bipush (v := 105) dX13_init_788 (by decide) ?_
  refine n_cast (a := 29) (k := 3) dX13_init_790 ⟨rfl, (by show 29 < 30; omega), by decide⟩ (by unfold vp_in; decide) (by decide) ?_
  rw [rs2_st (F := FM) (n := 29) (j := 1) (by decide) (by decide)]
  refine n_dup dX13_init_791 rfl ?_
  refine n_iconst (v := 2) dX13_init_792 (by decide) ?_
  refine n_bipush (v := 110) dX13_init_793 (by decide) ?_
  refine n_cast (a := 29) (k := 3) dX13_init_795 ⟨rfl, (by show 29 < 30; omega), by decide⟩ (by unfold vp_in; decide) (by decide) ?_
  rw [rs2_st (F := FM) (n := 29) (j := 2) (by decide) (by decide)]
  rw [rs2_n (F := FM) (n := 29) (l := 3) (fun k hk => FM_hi (L := 3) (by decide) hk)]
  refine n_putR (a := 29) dX13_init_796 fl_X13_99 rfl rfl rfl (fun _ => rfl) (fun _ => rfl) ⟨rfl, (by show 0 < 30; omega), by decide, by decide⟩ ?_
  exact h
theorem mc_30 (hJ : ∀ a, a ≠ 0 → J a = fun _ => 0) (h : GoN wM.1 (d + 1) 78 13175 mX13_init 821 [(0, .ref 0)] [] 31 30 1725 (p2 P 0 37 30) (rs2 FM 31 0) J 79 Q) : GoN wM.1 (d + 1) 78 13175 mX13_init 799 [(0, .ref 0)] [] 30 29 1722 P (rs2 FM 30 0) J 79 Q := by
  refine n_aload_n dX13_init_799 0 0 rfl rfl ?_
  refine n_iconst (v := 3) dX13_init_800 (by decide) ?_
  refine n_newC (k := 3) dX13_init_801 (z_c7 3 (by decide +kernel) rfl) rfl rs2_0 (by decide) (by decide) (by decide) (by decide) (by decide) (by decide) ?_
  refine n_dup dX13_init_803 rfl ?_
  refine n_iconst (v := 0) dX13_init_804 (by decide) ?_
  refine n_bipush (v := 109) dX13_init_805 (by decide) ?_
  refine n_cast (a := 30) (k := 3) dX13_init_807 ⟨rfl, (by show 30 < 31; omega), by decide⟩ (by unfold vp_in; decide) (by decide) ?_
  rw [rs2_st (F := FM) (n := 30) (j := 0) (by decide) (by decide)]
  refine n_dup dX13_init_808 rfl ?_
  refine n_iconst (v := 1) dX13_init_809 (by decide) ?_
  refine n_bipush (v := 97) dX13_init_810 (by decide) ?_
  refine n_cast (a := 30) (k := 3) dX13_init_812 ⟨rfl, (by show 30 < 31; omega), by decide⟩ (by unfold vp_in; decide) (by decide) ?_
  rw [rs2_st (F := FM) (n := 30) (j := 1) (by decide) (by decide)]
  refine n_dup dX13_init_813 rfl ?_
  refine n_iconst (v := 2) dX13_init_814 (by decide) ?_
  refine n_bipush (v := 120) dX13_init_815 (by decide) ?_
  refine n_cast (a := 30) (k := 3) dX13_init_817 ⟨rfl, (by show 30 < 31; omega), by decide⟩ (by unfold vp_in; decide) (by decide) ?_
  rw [rs2_st (F := FM) (n := 30) (j := 2) (by decide) (by decide)]
  rw [rs2_n (F := FM) (n := 30) (l := 3) (fun k hk => FM_hi (L := 3) (by decide) hk)]
  refine n_putR (a := 30) dX13_init_818 fl_X13_102 rfl rfl rfl (fun _ => rfl) (fun _ => rfl) ⟨rfl, (by show 0 < 31; omega), by decide, by decide⟩ ?_
  exact h
theorem mc_31 (hJ : ∀ a, a ≠ 0 → J a = fun _ => 0) (h : GoN wM.1 (d + 1) 78 13175 mX13_init 828 [(0, .ref 0)] [] 32 31 1729 (p2 P 0 39 31) (rs2 FM 32 0) J 79 Q) : GoN wM.1 (d + 1) 78 13175 mX13_init 821 [(0, .ref 0)] [] 31 30 1725 P (rs2 FM 31 0) J 79 Q := by
  refine n_aload_n dX13_init_821 0 0 rfl rfl ?_
  refine n_iconst (v := 4) dX13_init_822 (by decide) ?_
  refine n_newI (k := 4) dX13_init_823 (z_c1 72 (by decide +kernel) rfl) rfl rs2_0 (by decide) (by decide) (by decide) (by decide) (by decide) (by decide) ?_
  rw [rs2_n (F := FM) (n := 31) (l := 0) (fun k hk => FM_hi (L := 0) (by decide) hk)]
  refine n_putR (a := 31) dX13_init_825 fl_X13_105 rfl rfl rfl (fun _ => rfl) (fun _ => rfl) ⟨rfl, (by show 0 < 32; omega), by decide, by decide⟩ ?_
  exact h
theorem mc_32 (hJ : ∀ a, a ≠ 0 → J a = fun _ => 0) (h : GoN wM.1 (d + 1) 78 13175 mX13_init 836 [(0, .ref 0)] [] 33 32 1761 (p2 P 0 40 32) (rs2 FM 33 0) J 79 Q) : GoN wM.1 (d + 1) 78 13175 mX13_init 828 [(0, .ref 0)] [] 32 31 1729 P (rs2 FM 32 0) J 79 Q := by
  refine n_aload_n dX13_init_828 0 0 rfl rfl ?_
  refine n_bipush (v := 32) dX13_init_829 (by decide) ?_
  refine n_newL (k := 32) dX13_init_831 (z_c7 4 (by decide +kernel) rfl) rfl (hJ 32 (by omega)) (by decide) (by decide) (by decide) (by decide) (by decide) (by decide) ?_
  rw [rs2_n (F := FM) (n := 32) (l := 0) (fun k hk => FM_hi (L := 0) (by decide) hk)]
  refine n_putR (a := 32) dX13_init_833 fl_X13_108 rfl rfl rfl (fun _ => rfl) (fun _ => rfl) ⟨rfl, (by show 0 < 33; omega), by decide, by decide⟩ ?_
  exact h
theorem mc_33 (hJ : ∀ a, a ≠ 0 → J a = fun _ => 0) (h : GoN wM.1 (d + 1) 78 13175 mX13_init 844 [(0, .ref 0)] [] 34 33 1777 (p2 P 0 41 33) (rs2 FM 34 0) J 79 Q) : GoN wM.1 (d + 1) 78 13175 mX13_init 836 [(0, .ref 0)] [] 33 32 1761 P (rs2 FM 33 0) J 79 Q := by
  refine n_aload_n dX13_init_836 0 0 rfl rfl ?_
  refine n_bipush (v := 16) dX13_init_837 (by decide) ?_
  refine n_newI (k := 16) dX13_init_839 (z_c1 72 (by decide +kernel) rfl) rfl rs2_0 (by decide) (by decide) (by decide) (by decide) (by decide) (by decide) ?_
  rw [rs2_n (F := FM) (n := 33) (l := 0) (fun k hk => FM_hi (L := 0) (by decide) hk)]
  refine n_putR (a := 33) dX13_init_841 fl_X13_112 rfl rfl rfl (fun _ => rfl) (fun _ => rfl) ⟨rfl, (by show 0 < 34; omega), by decide, by decide⟩ ?_
  exact h
theorem mc_34 (hJ : ∀ a, a ≠ 0 → J a = fun _ => 0) (h : GoN wM.1 (d + 1) 78 13175 mX13_init 852 [(0, .ref 0)] [] 35 34 1793 (p2 P 0 42 34) (rs2 FM 35 0) J 79 Q) : GoN wM.1 (d + 1) 78 13175 mX13_init 844 [(0, .ref 0)] [] 34 33 1777 P (rs2 FM 34 0) J 79 Q := by
  refine n_aload_n dX13_init_844 0 0 rfl rfl ?_
  refine n_bipush (v := 16) dX13_init_845 (by decide) ?_
  refine n_newI (k := 16) dX13_init_847 (z_c1 72 (by decide +kernel) rfl) rfl rs2_0 (by decide) (by decide) (by decide) (by decide) (by decide) (by decide) ?_
  rw [rs2_n (F := FM) (n := 34) (l := 0) (fun k hk => FM_hi (L := 0) (by decide) hk)]
  refine n_putR (a := 34) dX13_init_849 fl_X13_115 rfl rfl rfl (fun _ => rfl) (fun _ => rfl) ⟨rfl, (by show 0 < 35; omega), by decide, by decide⟩ ?_
  exact h
theorem mc_35 (hJ : ∀ a, a ≠ 0 → J a = fun _ => 0) (h : GoN wM.1 (d + 1) 78 13175 mX13_init 860 [(0, .ref 0)] [] 36 35 1801 (p2 P 0 43 35) (rs2 FM 36 0) J 79 Q) : GoN wM.1 (d + 1) 78 13175 mX13_init 852 [(0, .ref 0)] [] 35 34 1793 P (rs2 FM 35 0) J 79 Q := by
  refine n_aload_n dX13_init_852 0 0 rfl rfl ?_
  refine n_bipush (v := 8) dX13_init_853 (by decide) ?_
  refine n_newI (k := 8) dX13_init_855 (z_c1 72 (by decide +kernel) rfl) rfl rs2_0 (by decide) (by decide) (by decide) (by decide) (by decide) (by decide) ?_
  rw [rs2_n (F := FM) (n := 35) (l := 0) (fun k hk => FM_hi (L := 0) (by decide) hk)]
  refine n_putR (a := 35) dX13_init_857 fl_X13_118 rfl rfl rfl (fun _ => rfl) (fun _ => rfl) ⟨rfl, (by show 0 < 36; omega), by decide, by decide⟩ ?_
  exact h
theorem mc_36 (hJ : ∀ a, a ≠ 0 → J a = fun _ => 0) (h : GoN wM.1 (d + 1) 78 13175 mX13_init 868 [(0, .ref 0)] [] 37 36 1809 (p2 P 0 44 36) (rs2 FM 37 0) J 79 Q) : GoN wM.1 (d + 1) 78 13175 mX13_init 860 [(0, .ref 0)] [] 36 35 1801 P (rs2 FM 36 0) J 79 Q := by
  refine n_aload_n dX13_init_860 0 0 rfl rfl ?_
  refine n_bipush (v := 8) dX13_init_861 (by decide) ?_
  refine n_newI (k := 8) dX13_init_863 (z_c1 72 (by decide +kernel) rfl) rfl rs2_0 (by decide) (by decide) (by decide) (by decide) (by decide) (by decide) ?_
  rw [rs2_n (F := FM) (n := 36) (l := 0) (fun k hk => FM_hi (L := 0) (by decide) hk)]
  refine n_putR (a := 36) dX13_init_865 fl_X13_121 rfl rfl rfl (fun _ => rfl) (fun _ => rfl) ⟨rfl, (by show 0 < 37; omega), by decide, by decide⟩ ?_
  exact h
theorem mc_37 (hJ : ∀ a, a ≠ 0 → J a = fun _ => 0) (h : GoN wM.1 (d + 1) 78 13175 mX13_init 876 [(0, .ref 0)] [] 38 37 1817 (p2 P 0 45 37) (rs2 FM 38 0) J 79 Q) : GoN wM.1 (d + 1) 78 13175 mX13_init 868 [(0, .ref 0)] [] 37 36 1809 P (rs2 FM 37 0) J 79 Q := by
  refine n_aload_n dX13_init_868 0 0 rfl rfl ?_
  refine n_bipush (v := 8) dX13_init_869 (by decide) ?_
  refine n_newI (k := 8) dX13_init_871 (z_c1 72 (by decide +kernel) rfl) rfl rs2_0 (by decide) (by decide) (by decide) (by decide) (by decide) (by decide) ?_
  rw [rs2_n (F := FM) (n := 37) (l := 0) (fun k hk => FM_hi (L := 0) (by decide) hk)]
  refine n_putR (a := 37) dX13_init_873 fl_X13_124 rfl rfl rfl (fun _ => rfl) (fun _ => rfl) ⟨rfl, (by show 0 < 38; omega), by decide, by decide⟩ ?_
  exact h
theorem mc_38 (hJ : ∀ a, a ≠ 0 → J a = fun _ => 0) (h : GoN wM.1 (d + 1) 78 13175 mX13_init 910 [(0, .ref 0)] [] 39 38 1823 (p2 P 0 46 38) (rs2 FM 39 0) J 79 Q) : GoN wM.1 (d + 1) 78 13175 mX13_init 876 [(0, .ref 0)] [] 38 37 1817 P (rs2 FM 38 0) J 79 Q := by
  refine n_aload_n dX13_init_876 0 0 rfl rfl ?_
  refine n_bipush (v := 6) dX13_init_877 (by decide) ?_
  refine n_newI (k := 6) dX13_init_879 (z_c1 72 (by decide +kernel) rfl) rfl rs2_0 (by decide) (by decide) (by decide) (by decide) (by decide) (by decide) ?_
  refine n_dup dX13_init_881 rfl ?_
  refine n_iconst (v := 0) dX13_init_882 (by decide) ?_
  refine n_bipush (v := 10) dX13_init_883 (by decide) ?_
  refine n_iast (a := 38) (k := 6) dX13_init_885 ⟨rfl, (by show 38 < 39; omega), by decide⟩ (by unfold vp_in; decide) ?_
  rw [rs2_st (F := FM) (n := 38) (j := 0) (by decide) (by decide)]
  refine n_dup dX13_init_886 rfl ?_
  refine n_iconst (v := 1) dX13_init_887 (by decide) ?_
  refine n_iconst (v := 3) dX13_init_888 (by decide) ?_
  refine n_iast (a := 38) (k := 6) dX13_init_889 ⟨rfl, (by show 38 < 39; omega), by decide⟩ (by unfold vp_in; decide) ?_
  rw [rs2_st (F := FM) (n := 38) (j := 1) (by decide) (by decide)]
  refine n_dup dX13_init_890 rfl ?_
  refine n_iconst (v := 2) dX13_init_891 (by decide) ?_
  refine n_iconst (v := 0) dX13_init_892 (by decide) ?_
  refine n_iast (a := 38) (k := 6) dX13_init_893 ⟨rfl, (by show 38 < 39; omega), by decide⟩ (by unfold vp_in; decide) ?_
  rw [rs2_st (F := FM) (n := 38) (j := 2) (by decide) (by decide)]
  refine n_dup dX13_init_894 rfl ?_
  refine n_iconst (v := 3) dX13_init_895 (by decide) ?_
  refine n_bipush (v := 10) dX13_init_896 (by decide) ?_
  refine n_iast (a := 38) (k := 6) dX13_init_898 ⟨rfl, (by show 38 < 39; omega), by decide⟩ (by unfold vp_in; decide) ?_
  rw [rs2_st (F := FM) (n := 38) (j := 3) (by decide) (by decide)]
  refine n_dup dX13_init_899 rfl ?_
  refine n_iconst (v := 4) dX13_init_900 (by decide) ?_
  refine n_iconst (v := 3) dX13_init_901 (by decide) ?_
  refine n_iast (a := 38) (k := 6) dX13_init_902 ⟨rfl, (by show 38 < 39; omega), by decide⟩ (by unfold vp_in; decide) ?_
  rw [rs2_st (F := FM) (n := 38) (j := 4) (by decide) (by decide)]
  refine n_dup dX13_init_903 rfl ?_
  refine n_iconst (v := 5) dX13_init_904 (by decide) ?_
  refine n_iconst (v := 0) dX13_init_905 (by decide) ?_
  refine n_iast (a := 38) (k := 6) dX13_init_906 ⟨rfl, (by show 38 < 39; omega), by decide⟩ (by unfold vp_in; decide) ?_
  rw [rs2_st (F := FM) (n := 38) (j := 5) (by decide) (by decide)]
  rw [rs2_n (F := FM) (n := 38) (l := 6) (fun k hk => FM_hi (L := 6) (by decide) hk)]
  refine n_putR (a := 38) dX13_init_907 fl_X13_127 rfl rfl rfl (fun _ => rfl) (fun _ => rfl) ⟨rfl, (by show 0 < 39; omega), by decide, by decide⟩ ?_
  exact h
theorem mc_39 (hJ : ∀ a, a ≠ 0 → J a = fun _ => 0) (h : GoN wM.1 (d + 1) 78 13175 mX13_init 942 [(0, .ref 0)] [] 40 39 1829 (p2 P 0 47 39) (rs2 FM 40 0) J 79 Q) : GoN wM.1 (d + 1) 78 13175 mX13_init 910 [(0, .ref 0)] [] 39 38 1823 P (rs2 FM 39 0) J 79 Q := by
  refine n_aload_n dX13_init_910 0 0 rfl rfl ?_
  refine n_bipush (v := 6) dX13_init_911 (by decide) ?_
  refine n_newI (k := 6) dX13_init_913 (z_c1 72 (by decide +kernel) rfl) rfl rs2_0 (by decide) (by decide) (by decide) (by decide) (by decide) (by decide) ?_
  refine n_dup dX13_init_915 rfl ?_
  refine n_iconst (v := 0) dX13_init_916 (by decide) ?_
  refine n_iconst (v := (-1)) dX13_init_917 (by decide) ?_
  refine n_iast (a := 39) (k := 6) dX13_init_918 ⟨rfl, (by show 39 < 40; omega), by decide⟩ (by unfold vp_in; decide) ?_
  rw [rs2_st (F := FM) (n := 39) (j := 0) (by decide) (by decide)]
  refine n_dup dX13_init_919 rfl ?_
  refine n_iconst (v := 1) dX13_init_920 (by decide) ?_
  refine n_iconst (v := (-1)) dX13_init_921 (by decide) ?_
  refine n_iast (a := 39) (k := 6) dX13_init_922 ⟨rfl, (by show 39 < 40; omega), by decide⟩ (by unfold vp_in; decide) ?_
  rw [rs2_st (F := FM) (n := 39) (j := 1) (by decide) (by decide)]
  refine n_dup dX13_init_923 rfl ?_
  refine n_iconst (v := 2) dX13_init_924 (by decide) ?_
  refine n_iconst (v := (-1)) dX13_init_925 (by decide) ?_
  refine n_iast (a := 39) (k := 6) dX13_init_926 ⟨rfl, (by show 39 < 40; omega), by decide⟩ (by unfold vp_in; decide) ?_
  rw [rs2_st (F := FM) (n := 39) (j := 2) (by decide) (by decide)]
  refine n_dup dX13_init_927 rfl ?_
  refine n_iconst (v := 3) dX13_init_928 (by decide) ?_
  refine n_iconst (v := (-1)) dX13_init_929 (by decide) ?_
  refine n_iast (a := 39) (k := 6) dX13_init_930 ⟨rfl, (by show 39 < 40; omega), by decide⟩ (by unfold vp_in; decide) ?_
  rw [rs2_st (F := FM) (n := 39) (j := 3) (by decide) (by decide)]
  refine n_dup dX13_init_931 rfl ?_
  refine n_iconst (v := 4) dX13_init_932 (by decide) ?_
  refine n_iconst (v := (-1)) dX13_init_933 (by decide) ?_
  refine n_iast (a := 39) (k := 6) dX13_init_934 ⟨rfl, (by show 39 < 40; omega), by decide⟩ (by unfold vp_in; decide) ?_
  rw [rs2_st (F := FM) (n := 39) (j := 4) (by decide) (by decide)]
  refine n_dup dX13_init_935 rfl ?_
  refine n_iconst (v := 5) dX13_init_936 (by decide) ?_
  refine n_iconst (v := (-1)) dX13_init_937 (by decide) ?_
  refine n_iast (a := 39) (k := 6) dX13_init_938 ⟨rfl, (by show 39 < 40; omega), by decide⟩ (by unfold vp_in; decide) ?_
  rw [rs2_st (F := FM) (n := 39) (j := 5) (by decide) (by decide)]
  rw [rs2_n (F := FM) (n := 39) (l := 6) (fun k hk => FM_hi (L := 6) (by decide) hk)]
  refine n_putR (a := 39) dX13_init_939 fl_X13_130 rfl rfl rfl (fun _ => rfl) (fun _ => rfl) ⟨rfl, (by show 0 < 40; omega), by decide, by decide⟩ ?_
  exact h
theorem mc_40 (hJ : ∀ a, a ≠ 0 → J a = fun _ => 0) (h : GoN wM.1 (d + 1) 78 13175 mX13_init 950 [(0, .ref 0)] [] 41 40 1835 (p2 P 0 48 40) (rs2 FM 41 0) J 79 Q) : GoN wM.1 (d + 1) 78 13175 mX13_init 942 [(0, .ref 0)] [] 40 39 1829 P (rs2 FM 40 0) J 79 Q := by
  refine n_aload_n dX13_init_942 0 0 rfl rfl ?_
  refine n_bipush (v := 6) dX13_init_943 (by decide) ?_
  refine n_newI (k := 6) dX13_init_945 (z_c1 72 (by decide +kernel) rfl) rfl rs2_0 (by decide) (by decide) (by decide) (by decide) (by decide) (by decide) ?_
  rw [rs2_n (F := FM) (n := 40) (l := 0) (fun k hk => FM_hi (L := 0) (by decide) hk)]
  refine n_putR (a := 40) dX13_init_947 fl_X13_133 rfl rfl rfl (fun _ => rfl) (fun _ => rfl) ⟨rfl, (by show 0 < 41; omega), by decide, by decide⟩ ?_
  exact h
theorem mc_41 (hJ : ∀ a, a ≠ 0 → J a = fun _ => 0) (h : GoN wM.1 (d + 1) 78 13175 mX13_init 959 [(0, .ref 0)] [] 42 41 5035 (p2 P 0 49 41) (rs2 FM 42 0) J 79 Q) : GoN wM.1 (d + 1) 78 13175 mX13_init 950 [(0, .ref 0)] [] 41 40 1835 P (rs2 FM 41 0) J 79 Q := by
  refine n_aload_n dX13_init_950 0 0 rfl rfl ?_
  refine n_sipush (v := 3200) dX13_init_951 (by decide) ?_
  refine n_newI (k := 3200) dX13_init_954 (z_c1 72 (by decide +kernel) rfl) rfl rs2_0 (by decide) (by decide) (by decide) (by decide) (by decide) (by decide) ?_
  rw [rs2_n (F := FM) (n := 41) (l := 0) (fun k hk => FM_hi (L := 0) (by decide) hk)]
  refine n_putR (a := 41) dX13_init_956 fl_X13_136 rfl rfl rfl (fun _ => rfl) (fun _ => rfl) ⟨rfl, (by show 0 < 42; omega), by decide, by decide⟩ ?_
  exact h
theorem mc_42 (hJ : ∀ a, a ≠ 0 → J a = fun _ => 0) (h : GoN wM.1 (d + 1) 78 13175 mX13_init 968 [(0, .ref 0)] [] 43 42 5167 (p2 P 0 53 42) (rs2 FM 43 0) J 79 Q) : GoN wM.1 (d + 1) 78 13175 mX13_init 959 [(0, .ref 0)] [] 42 41 5035 P (rs2 FM 42 0) J 79 Q := by
  refine n_aload_n dX13_init_959 0 0 rfl rfl ?_
  refine n_sipush (v := 132) dX13_init_960 (by decide) ?_
  refine n_newI (k := 132) dX13_init_963 (z_c1 72 (by decide +kernel) rfl) rfl rs2_0 (by decide) (by decide) (by decide) (by decide) (by decide) (by decide) ?_
  rw [rs2_n (F := FM) (n := 42) (l := 0) (fun k hk => FM_hi (L := 0) (by decide) hk)]
  refine n_putR (a := 42) dX13_init_965 fl_X13_139 rfl rfl rfl (fun _ => rfl) (fun _ => rfl) ⟨rfl, (by show 0 < 43; omega), by decide, by decide⟩ ?_
  exact h
theorem mc_43 (hJ : ∀ a, a ≠ 0 → J a = fun _ => 0) (h : GoN wM.1 (d + 1) 78 13175 mX13_init 976 [(0, .ref 0)] [] 44 43 5208 (p2 P 0 54 43) (rs2 FM 44 0) J 79 Q) : GoN wM.1 (d + 1) 78 13175 mX13_init 968 [(0, .ref 0)] [] 43 42 5167 P (rs2 FM 43 0) J 79 Q := by
  refine n_aload_n dX13_init_968 0 0 rfl rfl ?_
  refine n_bipush (v := 41) dX13_init_969 (by decide) ?_
  refine n_newI (k := 41) dX13_init_971 (z_c1 72 (by decide +kernel) rfl) rfl rs2_0 (by decide) (by decide) (by decide) (by decide) (by decide) (by decide) ?_
  rw [rs2_n (F := FM) (n := 43) (l := 0) (fun k hk => FM_hi (L := 0) (by decide) hk)]
  refine n_putR (a := 43) dX13_init_973 fl_X13_142 rfl rfl rfl (fun _ => rfl) (fun _ => rfl) ⟨rfl, (by show 0 < 44; omega), by decide, by decide⟩ ?_
  exact h
theorem mc_44 (hJ : ∀ a, a ≠ 0 → J a = fun _ => 0) (h : GoN wM.1 (d + 1) 78 13175 mX13_init 984 [(0, .ref 0)] [] 45 44 5216 (p2 P 0 56 44) (rs2 FM 45 0) J 79 Q) : GoN wM.1 (d + 1) 78 13175 mX13_init 976 [(0, .ref 0)] [] 44 43 5208 P (rs2 FM 44 0) J 79 Q := by
  refine n_aload_n dX13_init_976 0 0 rfl rfl ?_
  refine n_bipush (v := 8) dX13_init_977 (by decide) ?_
  refine n_newI (k := 8) dX13_init_979 (z_c1 72 (by decide +kernel) rfl) rfl rs2_0 (by decide) (by decide) (by decide) (by decide) (by decide) (by decide) ?_
  rw [rs2_n (F := FM) (n := 44) (l := 0) (fun k hk => FM_hi (L := 0) (by decide) hk)]
  refine n_putR (a := 44) dX13_init_981 fl_X13_145 rfl rfl rfl (fun _ => rfl) (fun _ => rfl) ⟨rfl, (by show 0 < 45; omega), by decide, by decide⟩ ?_
  exact h
theorem mc_45 (hJ : ∀ a, a ≠ 0 → J a = fun _ => 0) (h : GoN wM.1 (d + 1) 78 13175 mX13_init 992 [(0, .ref 0)] [] 46 45 5224 (p2 P 0 57 45) (rs2 FM 46 0) J 79 Q) : GoN wM.1 (d + 1) 78 13175 mX13_init 984 [(0, .ref 0)] [] 45 44 5216 P (rs2 FM 45 0) J 79 Q := by
  refine n_aload_n dX13_init_984 0 0 rfl rfl ?_
  refine n_bipush (v := 8) dX13_init_985 (by decide) ?_
  refine n_newI (k := 8) dX13_init_987 (z_c1 72 (by decide +kernel) rfl) rfl rs2_0 (by decide) (by decide) (by decide) (by decide) (by decide) (by decide) ?_
  rw [rs2_n (F := FM) (n := 45) (l := 0) (fun k hk => FM_hi (L := 0) (by decide) hk)]
  refine n_putR (a := 45) dX13_init_989 fl_X13_148 rfl rfl rfl (fun _ => rfl) (fun _ => rfl) ⟨rfl, (by show 0 < 46; omega), by decide, by decide⟩ ?_
  exact h
theorem mc_46 (hJ : ∀ a, a ≠ 0 → J a = fun _ => 0) (h : GoN wM.1 (d + 1) 78 13175 mX13_init 1000 [(0, .ref 0)] [] 47 46 5256 (p2 P 0 61 46) (rs2 FM 47 0) J 79 Q) : GoN wM.1 (d + 1) 78 13175 mX13_init 992 [(0, .ref 0)] [] 46 45 5224 P (rs2 FM 46 0) J 79 Q := by
  refine n_aload_n dX13_init_992 0 0 rfl rfl ?_
  refine n_bipush (v := 32) dX13_init_993 (by decide) ?_
  refine n_newI (k := 32) dX13_init_995 (z_c1 72 (by decide +kernel) rfl) rfl rs2_0 (by decide) (by decide) (by decide) (by decide) (by decide) (by decide) ?_
  rw [rs2_n (F := FM) (n := 46) (l := 0) (fun k hk => FM_hi (L := 0) (by decide) hk)]
  refine n_putR (a := 46) dX13_init_997 fl_X13_151 rfl rfl rfl (fun _ => rfl) (fun _ => rfl) ⟨rfl, (by show 0 < 47; omega), by decide, by decide⟩ ?_
  exact h
theorem mc_47 (hJ : ∀ a, a ≠ 0 → J a = fun _ => 0) (h : GoN wM.1 (d + 1) 78 13175 mX13_init 1008 [(0, .ref 0)] [] 48 47 5264 (p2 P 0 62 47) (rs2 FM 48 0) J 79 Q) : GoN wM.1 (d + 1) 78 13175 mX13_init 1000 [(0, .ref 0)] [] 47 46 5256 P (rs2 FM 47 0) J 79 Q := by
  refine n_aload_n dX13_init_1000 0 0 rfl rfl ?_
  refine n_bipush (v := 8) dX13_init_1001 (by decide) ?_
  refine n_newI (k := 8) dX13_init_1003 (z_c1 72 (by decide +kernel) rfl) rfl rs2_0 (by decide) (by decide) (by decide) (by decide) (by decide) (by decide) ?_
  rw [rs2_n (F := FM) (n := 47) (l := 0) (fun k hk => FM_hi (L := 0) (by decide) hk)]
  refine n_putR (a := 47) dX13_init_1005 fl_X13_154 rfl rfl rfl (fun _ => rfl) (fun _ => rfl) ⟨rfl, (by show 0 < 48; omega), by decide, by decide⟩ ?_
  exact h
theorem mc_48 (hJ : ∀ a, a ≠ 0 → J a = fun _ => 0) (h : GoN wM.1 (d + 1) 78 13175 mX13_init 1016 [(0, .ref 0)] [] 49 48 5288 (p2 P 0 63 48) (rs2 FM 49 0) J 79 Q) : GoN wM.1 (d + 1) 78 13175 mX13_init 1008 [(0, .ref 0)] [] 48 47 5264 P (rs2 FM 48 0) J 79 Q := by
  refine n_aload_n dX13_init_1008 0 0 rfl rfl ?_
  refine n_bipush (v := 24) dX13_init_1009 (by decide) ?_
  refine n_newI (k := 24) dX13_init_1011 (z_c1 72 (by decide +kernel) rfl) rfl rs2_0 (by decide) (by decide) (by decide) (by decide) (by decide) (by decide) ?_
  rw [rs2_n (F := FM) (n := 48) (l := 0) (fun k hk => FM_hi (L := 0) (by decide) hk)]
  refine n_putR (a := 48) dX13_init_1013 fl_X13_157 rfl rfl rfl (fun _ => rfl) (fun _ => rfl) ⟨rfl, (by show 0 < 49; omega), by decide, by decide⟩ ?_
  exact h
theorem mc_49 (hJ : ∀ a, a ≠ 0 → J a = fun _ => 0) (h : GoN wM.1 (d + 1) 78 13175 mX13_init 1025 [(0, .ref 0)] [] 50 49 7928 (p2 P 0 64 49) (rs2 FM 50 0) J 79 Q) : GoN wM.1 (d + 1) 78 13175 mX13_init 1016 [(0, .ref 0)] [] 49 48 5288 P (rs2 FM 49 0) J 79 Q := by
  refine n_aload_n dX13_init_1016 0 0 rfl rfl ?_
  refine n_sipush (v := 2640) dX13_init_1017 (by decide) ?_
  refine n_newI (k := 2640) dX13_init_1020 (z_c1 72 (by decide +kernel) rfl) rfl rs2_0 (by decide) (by decide) (by decide) (by decide) (by decide) (by decide) ?_
  rw [rs2_n (F := FM) (n := 49) (l := 0) (fun k hk => FM_hi (L := 0) (by decide) hk)]
  refine n_putR (a := 49) dX13_init_1022 fl_X13_160 rfl rfl rfl (fun _ => rfl) (fun _ => rfl) ⟨rfl, (by show 0 < 50; omega), by decide, by decide⟩ ?_
  exact h
theorem mc_50 (h : GoN wM.1 (d + 1) 78 13175 mX13_init 1030 [(0, .ref 0)] [] 50 49 7928 P (rs2 FM 50 0) (w2 J 0 67 1) 79 Q) : GoN wM.1 (d + 1) 78 13175 mX13_init 1025 [(0, .ref 0)] [] 50 49 7928 P (rs2 FM 50 0) J 79 Q := by
  refine n_aload_n dX13_init_1025 0 0 rfl rfl ?_
  refine n_lconst (v := 1) dX13_init_1026 (by decide) ?_
  refine n_putJ dX13_init_1027 fl_X13_163 rfl rfl ⟨rfl, (by show 0 < 50; omega), by decide, by decide⟩ ?_
  exact h
theorem mc_51 (hJ : ∀ a, a ≠ 0 → J a = fun _ => 0) (h : GoN wM.1 (d + 1) 78 13175 mX13_init 1062 [(0, .ref 0)] [] 51 50 7933 (p2 P 0 68 50) (rs2 FM 51 0) J 79 Q) : GoN wM.1 (d + 1) 78 13175 mX13_init 1030 [(0, .ref 0)] [] 50 49 7928 P (rs2 FM 50 0) J 79 Q := by
  refine n_aload_n dX13_init_1030 0 0 rfl rfl ?_
  refine n_iconst (v := 5) dX13_init_1031 (by decide) ?_
  refine n_newC (k := 5) dX13_init_1032 (z_c7 3 (by decide +kernel) rfl) rfl rs2_0 (by decide) (by decide) (by decide) (by decide) (by decide) (by decide) ?_
  refine n_dup dX13_init_1034 rfl ?_
  refine n_iconst (v := 0) dX13_init_1035 (by decide) ?_
  refine n_bipush (v := 102) dX13_init_1036 (by decide) ?_
  refine n_cast (a := 50) (k := 5) dX13_init_1038 ⟨rfl, (by show 50 < 51; omega), by decide⟩ (by unfold vp_in; decide) (by decide) ?_
  rw [rs2_st (F := FM) (n := 50) (j := 0) (by decide) (by decide)]
  refine n_dup dX13_init_1039 rfl ?_
  refine n_iconst (v := 1) dX13_init_1040 (by decide) ?_
  refine n_bipush (v := 105) dX13_init_1041 (by decide) ?_
  refine n_cast (a := 50) (k := 5) dX13_init_1043 ⟨rfl, (by show 50 < 51; omega), by decide⟩ (by unfold vp_in; decide) (by decide) ?_
  rw [rs2_st (F := FM) (n := 50) (j := 1) (by decide) (by decide)]
  refine n_dup dX13_init_1044 rfl ?_
  refine n_iconst (v := 2) dX13_init_1045 (by decide) ?_
  refine n_bipush (v := 114) dX13_init_1046 (by decide) ?_
  refine n_cast (a := 50) (k := 5) dX13_init_1048 ⟨rfl, (by show 50 < 51; omega), by decide⟩ (by unfold vp_in; decide) (by decide) ?_
  rw [rs2_st (F := FM) (n := 50) (j := 2) (by decide) (by decide)]
  refine n_dup dX13_init_1049 rfl ?_
  refine n_iconst (v := 3) dX13_init_1050 (by decide) ?_
  refine n_bipush (v := 115) dX13_init_1051 (by decide) ?_
  refine n_cast (a := 50) (k := 5) dX13_init_1053 ⟨rfl, (by show 50 < 51; omega), by decide⟩ (by unfold vp_in; decide) (by decide) ?_
  rw [rs2_st (F := FM) (n := 50) (j := 3) (by decide) (by decide)]
  refine n_dup dX13_init_1054 rfl ?_
  refine n_iconst (v := 4) dX13_init_1055 (by decide) ?_
  refine n_bipush (v := 116) dX13_init_1056 (by decide) ?_
  refine n_cast (a := 50) (k := 5) dX13_init_1058 ⟨rfl, (by show 50 < 51; omega), by decide⟩ (by unfold vp_in; decide) (by decide) ?_
  rw [rs2_st (F := FM) (n := 50) (j := 4) (by decide) (by decide)]
  rw [rs2_n (F := FM) (n := 50) (l := 5) (fun k hk => FM_hi (L := 5) (by decide) hk)]
  refine n_putR (a := 50) dX13_init_1059 fl_X13_167 rfl rfl rfl (fun _ => rfl) (fun _ => rfl) ⟨rfl, (by show 0 < 51; omega), by decide, by decide⟩ ?_
  exact h
theorem mc_52 (hJ : ∀ a, a ≠ 0 → J a = fun _ => 0) (h : GoN wM.1 (d + 1) 78 13175 mX13_init 1089 [(0, .ref 0)] [] 52 51 7937 (p2 P 0 69 51) (rs2 FM 52 0) J 79 Q) : GoN wM.1 (d + 1) 78 13175 mX13_init 1062 [(0, .ref 0)] [] 51 50 7933 P (rs2 FM 51 0) J 79 Q := by
  refine n_aload_n dX13_init_1062 0 0 rfl rfl ?_
  refine n_iconst (v := 4) dX13_init_1063 (by decide) ?_
  refine n_newC (k := 4) dX13_init_1064 (z_c7 3 (by decide +kernel) rfl) rfl rs2_0 (by decide) (by decide) (by decide) (by decide) (by decide) (by decide) ?_
  refine n_dup dX13_init_1066 rfl ?_
  refine n_iconst (v := 0) dX13_init_1067 (by decide) ?_
  refine n_bipush (v := 108) dX13_init_1068 (by decide) ?_
  refine n_cast (a := 51) (k := 4) dX13_init_1070 ⟨rfl, (by show 51 < 52; omega), by decide⟩ (by unfold vp_in; decide) (by decide) ?_
  rw [rs2_st (F := FM) (n := 51) (j := 0) (by decide) (by decide)]
  refine n_dup dX13_init_1071 rfl ?_
  refine n_iconst (v := 1) dX13_init_1072 (by decide) ?_
  refine n_bipush (v := 97) dX13_init_1073 (by decide) ?_
  refine n_cast (a := 51) (k := 4) dX13_init_1075 ⟨rfl, (by show 51 < 52; omega), by decide⟩ (by unfold vp_in; decide) (by decide) ?_
  rw [rs2_st (F := FM) (n := 51) (j := 1) (by decide) (by decide)]
  refine n_dup dX13_init_1076 rfl ?_
  refine n_iconst (v := 2) dX13_init_1077 (by decide) ?_
  refine n_bipush (v := 115) dX13_init_1078 (by decide) ?_
  refine n_cast (a := 51) (k := 4) dX13_init_1080 ⟨rfl, (by show 51 < 52; omega), by decide⟩ (by unfold vp_in; decide) (by decide) ?_
  rw [rs2_st (F := FM) (n := 51) (j := 2) (by decide) (by decide)]
  refine n_dup dX13_init_1081 rfl ?_
  refine n_iconst (v := 3) dX13_init_1082 (by decide) ?_
  refine n_bipush (v := 116) dX13_init_1083 (by decide) ?_
  refine n_cast (a := 51) (k := 4) dX13_init_1085 ⟨rfl, (by show 51 < 52; omega), by decide⟩ (by unfold vp_in; decide) (by decide) ?_
  rw [rs2_st (F := FM) (n := 51) (j := 3) (by decide) (by decide)]
  rw [rs2_n (F := FM) (n := 51) (l := 4) (fun k hk => FM_hi (L := 4) (by decide) hk)]
  refine n_putR (a := 51) dX13_init_1086 fl_X13_170 rfl rfl rfl (fun _ => rfl) (fun _ => rfl) ⟨rfl, (by show 0 < 52; omega), by decide, by decide⟩ ?_
  exact h
theorem mc_53 (hJ : ∀ a, a ≠ 0 → J a = fun _ => 0) (h : GoN wM.1 (d + 1) 78 13175 mX13_init 1121 [(0, .ref 0)] [] 53 52 7942 (p2 P 0 70 52) (rs2 FM 53 0) J 79 Q) : GoN wM.1 (d + 1) 78 13175 mX13_init 1089 [(0, .ref 0)] [] 52 51 7937 P (rs2 FM 52 0) J 79 Q := by
  refine n_aload_n dX13_init_1089 0 0 rfl rfl ?_
  refine n_iconst (v := 5) dX13_init_1090 (by decide) ?_
  refine n_newC (k := 5) dX13_init_1091 (z_c7 3 (by decide +kernel) rfl) rfl rs2_0 (by decide) (by decide) (by decide) (by decide) (by decide) (by decide) ?_
  refine n_dup dX13_init_1093 rfl ?_
  refine n_iconst (v := 0) dX13_init_1094 (by decide) ?_
  refine n_bipush (v := 111) dX13_init_1095 (by decide) ?_
  refine n_cast (a := 52) (k := 5) dX13_init_1097 ⟨rfl, (by show 52 < 53; omega), by decide⟩ (by unfold vp_in; decide) (by decide) ?_
  rw [rs2_st (F := FM) (n := 52) (j := 0) (by decide) (by decide)]
  refine n_dup dX13_init_1098 rfl ?_
  refine n_iconst (v := 1) dX13_init_1099 (by decide) ?_
  refine n_bipush (v := 102) dX13_init_1100 (by decide) ?_
  refine n_cast (a := 52) (k := 5) dX13_init_1102 ⟨rfl, (by show 52 < 53; omega), by decide⟩ (by unfold vp_in; decide) (by decide) ?_
  rw [rs2_st (F := FM) (n := 52) (j := 1) (by decide) (by decide)]
  refine n_dup dX13_init_1103 rfl ?_
  refine n_iconst (v := 2) dX13_init_1104 (by decide) ?_
  refine n_bipush (v := 116) dX13_init_1105 (by decide) ?_
  refine n_cast (a := 52) (k := 5) dX13_init_1107 ⟨rfl, (by show 52 < 53; omega), by decide⟩ (by unfold vp_in; decide) (by decide) ?_
  rw [rs2_st (F := FM) (n := 52) (j := 2) (by decide) (by decide)]
  refine n_dup dX13_init_1108 rfl ?_
  refine n_iconst (v := 3) dX13_init_1109 (by decide) ?_
  refine n_bipush (v := 101) dX13_init_1110 (by decide) ?_
  refine n_cast (a := 52) (k := 5) dX13_init_1112 ⟨rfl, (by show 52 < 53; omega), by decide⟩ (by unfold vp_in; decide) (by decide) ?_
  rw [rs2_st (F := FM) (n := 52) (j := 3) (by decide) (by decide)]
  refine n_dup dX13_init_1113 rfl ?_
  refine n_iconst (v := 4) dX13_init_1114 (by decide) ?_
  refine n_bipush (v := 110) dX13_init_1115 (by decide) ?_
  refine n_cast (a := 52) (k := 5) dX13_init_1117 ⟨rfl, (by show 52 < 53; omega), by decide⟩ (by unfold vp_in; decide) (by decide) ?_
  rw [rs2_st (F := FM) (n := 52) (j := 4) (by decide) (by decide)]
  rw [rs2_n (F := FM) (n := 52) (l := 5) (fun k hk => FM_hi (L := 5) (by decide) hk)]
  refine n_putR (a := 52) dX13_init_1118 fl_X13_173 rfl rfl rfl (fun _ => rfl) (fun _ => rfl) ⟨rfl, (by show 0 < 53; omega), by decide, by decide⟩ ?_
  exact h
theorem mc_54 (hJ : ∀ a, a ≠ 0 → J a = fun _ => 0) (h : GoN wM.1 (d + 1) 78 13175 mX13_init 1153 [(0, .ref 0)] [] 54 53 7947 (p2 P 0 71 53) (rs2 FM 54 0) J 79 Q) : GoN wM.1 (d + 1) 78 13175 mX13_init 1121 [(0, .ref 0)] [] 53 52 7942 P (rs2 FM 53 0) J 79 Q := by
  refine n_aload_n dX13_init_1121 0 0 rfl rfl ?_
  refine n_iconst (v := 5) dX13_init_1122 (by decide) ?_
  refine n_newC (k := 5) dX13_init_1123 (z_c7 3 (by decide +kernel) rfl) rfl rs2_0 (by decide) (by decide) (by decide) (by decide) (by decide) (by decide) ?_
  refine n_dup dX13_init_1125 rfl ?_
  refine n_iconst (v := 0) dX13_init_1126 (by decide) ?_
  refine n_bipush (v := 116) dX13_init_1127 (by decide) ?_
  refine n_cast (a := 53) (k := 5) dX13_init_1129 ⟨rfl, (by show 53 < 54; omega), by decide⟩ (by unfold vp_in; decide) (by decide) ?_
  rw [rs2_st (F := FM) (n := 53) (j := 0) (by decide) (by decide)]
  refine n_dup dX13_init_1130 rfl ?_
  refine n_iconst (v := 1) dX13_init_1131 (by decide) ?_
  refine n_bipush (v := 111) dX13_init_1132 (by decide) ?_
  refine n_cast (a := 53) (k := 5) dX13_init_1134 ⟨rfl, (by show 53 < 54; omega), by decide⟩ (by unfold vp_in; decide) (by decide) ?_
  rw [rs2_st (F := FM) (n := 53) (j := 1) (by decide) (by decide)]
  refine n_dup dX13_init_1135 rfl ?_
  refine n_iconst (v := 2) dX13_init_1136 (by decide) ?_
  refine n_bipush (v := 116) dX13_init_1137 (by decide) ?_
  refine n_cast (a := 53) (k := 5) dX13_init_1139 ⟨rfl, (by show 53 < 54; omega), by decide⟩ (by unfold vp_in; decide) (by decide) ?_
  rw [rs2_st (F := FM) (n := 53) (j := 2) (by decide) (by decide)]
  refine n_dup dX13_init_1140 rfl ?_
  refine n_iconst (v := 3) dX13_init_1141 (by decide) ?_
  refine n_bipush (v := 97) dX13_init_1142 (by decide) ?_
  refine n_cast (a := 53) (k := 5) dX13_init_1144 ⟨rfl, (by show 53 < 54; omega), by decide⟩ (by unfold vp_in; decide) (by decide) ?_
  rw [rs2_st (F := FM) (n := 53) (j := 3) (by decide) (by decide)]
  refine n_dup dX13_init_1145 rfl ?_
  refine n_iconst (v := 4) dX13_init_1146 (by decide) ?_
  refine n_bipush (v := 108) dX13_init_1147 (by decide) ?_
  refine n_cast (a := 53) (k := 5) dX13_init_1149 ⟨rfl, (by show 53 < 54; omega), by decide⟩ (by unfold vp_in; decide) (by decide) ?_
  rw [rs2_st (F := FM) (n := 53) (j := 4) (by decide) (by decide)]
  rw [rs2_n (F := FM) (n := 53) (l := 5) (fun k hk => FM_hi (L := 5) (by decide) hk)]
  refine n_putR (a := 53) dX13_init_1150 fl_X13_176 rfl rfl rfl (fun _ => rfl) (fun _ => rfl) ⟨rfl, (by show 0 < 54; omega), by decide, by decide⟩ ?_
  exact h
theorem mc_55 (hJ : ∀ a, a ≠ 0 → J a = fun _ => 0) (h : GoN wM.1 (d + 1) 78 13175 mX13_init 1180 [(0, .ref 0)] [] 55 54 7951 (p2 P 0 72 54) (rs2 FM 55 0) J 79 Q) : GoN wM.1 (d + 1) 78 13175 mX13_init 1153 [(0, .ref 0)] [] 54 53 7947 P (rs2 FM 54 0) J 79 Q := by
  refine n_aload_n dX13_init_1153 0 0 rfl rfl ?_
  refine n_iconst (v := 4) dX13_init_1154 (by decide) ?_
  refine n_newC (k := 4) dX13_init_1155 (z_c7 3 (by decide +kernel) rfl) rfl rs2_0 (by decide) (by decide) (by decide) (by decide) (by decide) (by decide) ?_
  refine n_dup dX13_init_1157 rfl ?_
  refine n_iconst (v := 0) dX13_init_1158 (by decide) ?_
  refine n_bipush (v := 109) dX13_init_1159 (by decide) ?_
  refine n_cast (a := 54) (k := 4) dX13_init_1161 ⟨rfl, (by show 54 < 55; omega), by decide⟩ (by unfold vp_in; decide) (by decide) ?_
  rw [rs2_st (F := FM) (n := 54) (j := 0) (by decide) (by decide)]
  refine n_dup dX13_init_1162 rfl ?_
  refine n_iconst (v := 1) dX13_init_1163 (by decide) ?_
  refine n_bipush (v := 111) dX13_init_1164 (by decide) ?_
  refine n_cast (a := 54) (k := 4) dX13_init_1166 ⟨rfl, (by show 54 < 55; omega), by decide⟩ (by unfold vp_in; decide) (by decide) ?_
  rw [rs2_st (F := FM) (n := 54) (j := 1) (by decide) (by decide)]
  refine n_dup dX13_init_1167 rfl ?_
  refine n_iconst (v := 2) dX13_init_1168 (by decide) ?_
  refine n_bipush (v := 115) dX13_init_1169 (by decide) ?_
  refine n_cast (a := 54) (k := 4) dX13_init_1171 ⟨rfl, (by show 54 < 55; omega), by decide⟩ (by unfold vp_in; decide) (by decide) ?_
  rw [rs2_st (F := FM) (n := 54) (j := 2) (by decide) (by decide)]
  refine n_dup dX13_init_1172 rfl ?_
  refine n_iconst (v := 3) dX13_init_1173 (by decide) ?_
  refine n_bipush (v := 116) dX13_init_1174 (by decide) ?_
  refine n_cast (a := 54) (k := 4) dX13_init_1176 ⟨rfl, (by show 54 < 55; omega), by decide⟩ (by unfold vp_in; decide) (by decide) ?_
  rw [rs2_st (F := FM) (n := 54) (j := 3) (by decide) (by decide)]
  rw [rs2_n (F := FM) (n := 54) (l := 4) (fun k hk => FM_hi (L := 4) (by decide) hk)]
  refine n_putR (a := 54) dX13_init_1177 fl_X13_179 rfl rfl rfl (fun _ => rfl) (fun _ => rfl) ⟨rfl, (by show 0 < 55; omega), by decide, by decide⟩ ?_
  exact h
theorem mc_56 (hJ : ∀ a, a ≠ 0 → J a = fun _ => 0) (h : GoN wM.1 (d + 1) 78 13175 mX13_init 1212 [(0, .ref 0)] [] 56 55 7956 (p2 P 0 73 55) (rs2 FM 56 0) J 79 Q) : GoN wM.1 (d + 1) 78 13175 mX13_init 1180 [(0, .ref 0)] [] 55 54 7951 P (rs2 FM 55 0) J 79 Q := by
  refine n_aload_n dX13_init_1180 0 0 rfl rfl ?_
  refine n_iconst (v := 5) dX13_init_1181 (by decide) ?_
  refine n_newC (k := 5) dX13_init_1182 (z_c7 3 (by decide +kernel) rfl) rfl rs2_0 (by decide) (by decide) (by decide) (by decide) (by decide) (by decide) ?_
  refine n_dup dX13_init_1184 rfl ?_
  refine n_iconst (v := 0) dX13_init_1185 (by decide) ?_
  refine n_bipush (v := 108) dX13_init_1186 (by decide) ?_
  refine n_cast (a := 55) (k := 5) dX13_init_1188 ⟨rfl, (by show 55 < 56; omega), by decide⟩ (by unfold vp_in; decide) (by decide) ?_
  rw [rs2_st (F := FM) (n := 55) (j := 0) (by decide) (by decide)]
  refine n_dup dX13_init_1189 rfl ?_
  refine n_iconst (v := 1) dX13_init_1190 (by decide) ?_
  refine n_bipush (v := 101) dX13_init_1191 (by decide) ?_
  refine n_cast (a := 55) (k := 5) dX13_init_1193 ⟨rfl, (by show 55 < 56; omega), by decide⟩ (by unfold vp_in; decide) (by decide) ?_
  rw [rs2_st (F := FM) (n := 55) (j := 1) (by decide) (by decide)]
  refine n_dup dX13_init_1194 rfl ?_
  refine n_iconst (v := 2) dX13_init_1195 (by decide) ?_
  refine n_bipush (v := 97) dX13_init_1196 (by decide) ?_
  refine n_cast (a := 55) (k := 5) dX13_init_1198 ⟨rfl, (by show 55 < 56; omega), by decide⟩ (by unfold vp_in; decide) (by decide) ?_
  rw [rs2_st (F := FM) (n := 55) (j := 2) (by decide) (by decide)]
  refine n_dup dX13_init_1199 rfl ?_
  refine n_iconst (v := 3) dX13_init_1200 (by decide) ?_
  refine n_bipush (v := 115) dX13_init_1201 (by decide) ?_
  refine n_cast (a := 55) (k := 5) dX13_init_1203 ⟨rfl, (by show 55 < 56; omega), by decide⟩ (by unfold vp_in; decide) (by decide) ?_
  rw [rs2_st (F := FM) (n := 55) (j := 3) (by decide) (by decide)]
  refine n_dup dX13_init_1204 rfl ?_
  refine n_iconst (v := 4) dX13_init_1205 (by decide) ?_
  refine n_bipush (v := 116) dX13_init_1206 (by decide) ?_
  refine n_cast (a := 55) (k := 5) dX13_init_1208 ⟨rfl, (by show 55 < 56; omega), by decide⟩ (by unfold vp_in; decide) (by decide) ?_
  rw [rs2_st (F := FM) (n := 55) (j := 4) (by decide) (by decide)]
  rw [rs2_n (F := FM) (n := 55) (l := 5) (fun k hk => FM_hi (L := 5) (by decide) hk)]
  refine n_putR (a := 55) dX13_init_1209 fl_X13_182 rfl rfl rfl (fun _ => rfl) (fun _ => rfl) ⟨rfl, (by show 0 < 56; omega), by decide, by decide⟩ ?_
  exact h
theorem mc_57 (hJ : ∀ a, a ≠ 0 → J a = fun _ => 0) (h : GoN wM.1 (d + 1) 78 13175 mX13_init 1234 [(0, .ref 0)] [] 57 56 7959 (p2 P 0 74 56) (rs2 FM 57 0) J 79 Q) : GoN wM.1 (d + 1) 78 13175 mX13_init 1212 [(0, .ref 0)] [] 56 55 7956 P (rs2 FM 56 0) J 79 Q := by
  refine n_aload_n dX13_init_1212 0 0 rfl rfl ?_
  refine n_iconst (v := 3) dX13_init_1213 (by decide) ?_
  refine n_newC (k := 3) dX13_init_1214 (z_c7 3 (by decide +kernel) rfl) rfl rs2_0 (by decide) (by decide) (by decide) (by decide) (by decide) (by decide) ?_
  refine n_dup dX13_init_1216 rfl ?_
  refine n_iconst (v := 0) dX13_init_1217 (by decide) ?_
  refine n_bipush (v := 110) dX13_init_1218 (by decide) ?_
  refine n_cast (a := 56) (k := 3) dX13_init_1220 ⟨rfl, (by show 56 < 57; omega), by decide⟩ (by unfold vp_in; decide) (by decide) ?_
  rw [rs2_st (F := FM) (n := 56) (j := 0) (by decide) (by decide)]
  refine n_dup dX13_init_1221 rfl ?_
  refine n_iconst (v := 1) dX13_init_1222 (by decide) ?_
  refine n_bipush (v := 111) dX13_init_1223 (by decide) ?_
  refine n_cast (a := 56) (k := 3) dX13_init_1225 ⟨rfl, (by show 56 < 57; omega), by decide⟩ (by unfold vp_in; decide) (by decide) ?_
  rw [rs2_st (F := FM) (n := 56) (j := 1) (by decide) (by decide)]
  refine n_dup dX13_init_1226 rfl ?_
  refine n_iconst (v := 2) dX13_init_1227 (by decide) ?_
  refine n_bipush (v := 116) dX13_init_1228 (by decide) ?_
  refine n_cast (a := 56) (k := 3) dX13_init_1230 ⟨rfl, (by show 56 < 57; omega), by decide⟩ (by unfold vp_in; decide) (by decide) ?_
  rw [rs2_st (F := FM) (n := 56) (j := 2) (by decide) (by decide)]
  rw [rs2_n (F := FM) (n := 56) (l := 3) (fun k hk => FM_hi (L := 3) (by decide) hk)]
  refine n_putR (a := 56) dX13_init_1231 fl_X13_185 rfl rfl rfl (fun _ => rfl) (fun _ => rfl) ⟨rfl, (by show 0 < 57; omega), by decide, by decide⟩ ?_
  exact h
theorem mc_58 (hJ : ∀ a, a ≠ 0 → J a = fun _ => 0) (h : GoN wM.1 (d + 1) 78 13175 mX13_init 1256 [(0, .ref 0)] [] 58 57 7962 (p2 P 0 75 57) (rs2 FM 58 0) J 79 Q) : GoN wM.1 (d + 1) 78 13175 mX13_init 1234 [(0, .ref 0)] [] 57 56 7959 P (rs2 FM 57 0) J 79 Q := by
  refine n_aload_n dX13_init_1234 0 0 rfl rfl ?_
  refine n_iconst (v := 3) dX13_init_1235 (by decide) ?_
  refine n_newC (k := 3) dX13_init_1236 (z_c7 3 (by decide +kernel) rfl) rfl rs2_0 (by decide) (by decide) (by decide) (by decide) (by decide) (by decide) ?_
  refine n_dup dX13_init_1238 rfl ?_
  refine n_iconst (v := 0) dX13_init_1239 (by decide) ?_
  refine n_bipush (v := 97) dX13_init_1240 (by decide) ?_
  refine n_cast (a := 57) (k := 3) dX13_init_1242 ⟨rfl, (by show 57 < 58; omega), by decide⟩ (by unfold vp_in; decide) (by decide) ?_
  rw [rs2_st (F := FM) (n := 57) (j := 0) (by decide) (by decide)]
  refine n_dup dX13_init_1243 rfl ?_
  refine n_iconst (v := 1) dX13_init_1244 (by decide) ?_
  refine n_bipush (v := 110) dX13_init_1245 (by decide) ?_
  refine n_cast (a := 57) (k := 3) dX13_init_1247 ⟨rfl, (by show 57 < 58; omega), by decide⟩ (by unfold vp_in; decide) (by decide) ?_
  rw [rs2_st (F := FM) (n := 57) (j := 1) (by decide) (by decide)]
  refine n_dup dX13_init_1248 rfl ?_
  refine n_iconst (v := 2) dX13_init_1249 (by decide) ?_
  refine n_bipush (v := 100) dX13_init_1250 (by decide) ?_
  refine n_cast (a := 57) (k := 3) dX13_init_1252 ⟨rfl, (by show 57 < 58; omega), by decide⟩ (by unfold vp_in; decide) (by decide) ?_
  rw [rs2_st (F := FM) (n := 57) (j := 2) (by decide) (by decide)]
  rw [rs2_n (F := FM) (n := 57) (l := 3) (fun k hk => FM_hi (L := 3) (by decide) hk)]
  refine n_putR (a := 57) dX13_init_1253 fl_X13_188 rfl rfl rfl (fun _ => rfl) (fun _ => rfl) ⟨rfl, (by show 0 < 58; omega), by decide, by decide⟩ ?_
  exact h
theorem mc_59 (hJ : ∀ a, a ≠ 0 → J a = fun _ => 0) (h : GoN wM.1 (d + 1) 78 13175 mX13_init 1273 [(0, .ref 0)] [] 59 58 7964 (p2 P 0 76 58) (rs2 FM 59 0) J 79 Q) : GoN wM.1 (d + 1) 78 13175 mX13_init 1256 [(0, .ref 0)] [] 58 57 7962 P (rs2 FM 58 0) J 79 Q := by
  refine n_aload_n dX13_init_1256 0 0 rfl rfl ?_
  refine n_iconst (v := 2) dX13_init_1257 (by decide) ?_
  refine n_newC (k := 2) dX13_init_1258 (z_c7 3 (by decide +kernel) rfl) rfl rs2_0 (by decide) (by decide) (by decide) (by decide) (by decide) (by decide) ?_
  refine n_dup dX13_init_1260 rfl ?_
  refine n_iconst (v := 0) dX13_init_1261 (by decide) ?_
  refine n_bipush (v := 111) dX13_init_1262 (by decide) ?_
  refine n_cast (a := 58) (k := 2) dX13_init_1264 ⟨rfl, (by show 58 < 59; omega), by decide⟩ (by unfold vp_in; decide) (by decide) ?_
  rw [rs2_st (F := FM) (n := 58) (j := 0) (by decide) (by decide)]
  refine n_dup dX13_init_1265 rfl ?_
  refine n_iconst (v := 1) dX13_init_1266 (by decide) ?_
  refine n_bipush (v := 114) dX13_init_1267 (by decide) ?_
  refine n_cast (a := 58) (k := 2) dX13_init_1269 ⟨rfl, (by show 58 < 59; omega), by decide⟩ (by unfold vp_in; decide) (by decide) ?_
  rw [rs2_st (F := FM) (n := 58) (j := 1) (by decide) (by decide)]
  rw [rs2_n (F := FM) (n := 58) (l := 2) (fun k hk => FM_hi (L := 2) (by decide) hk)]
  refine n_putR (a := 58) dX13_init_1270 fl_X13_191 rfl rfl rfl (fun _ => rfl) (fun _ => rfl) ⟨rfl, (by show 0 < 59; omega), by decide, by decide⟩ ?_
  exact h
theorem mc_60 (hJ : ∀ a, a ≠ 0 → J a = fun _ => 0) (h : GoN wM.1 (d + 1) 78 13175 mX13_init 1295 [(0, .ref 0)] [] 60 59 7967 (p2 P 0 77 59) (rs2 FM 60 0) J 79 Q) : GoN wM.1 (d + 1) 78 13175 mX13_init 1273 [(0, .ref 0)] [] 59 58 7964 P (rs2 FM 59 0) J 79 Q := by
  refine n_aload_n dX13_init_1273 0 0 rfl rfl ?_
  refine n_iconst (v := 3) dX13_init_1274 (by decide) ?_
  refine n_newC (k := 3) dX13_init_1275 (z_c7 3 (by decide +kernel) rfl) rfl rs2_0 (by decide) (by decide) (by decide) (by decide) (by decide) (by decide) ?_
  refine n_dup dX13_init_1277 rfl ?_
  refine n_iconst (v := 0) dX13_init_1278 (by decide) ?_
  refine n_bipush (v := 97) dX13_init_1279 (by decide) ?_
  refine n_cast (a := 59) (k := 3) dX13_init_1281 ⟨rfl, (by show 59 < 60; omega), by decide⟩ (by unfold vp_in; decide) (by decide) ?_
  rw [rs2_st (F := FM) (n := 59) (j := 0) (by decide) (by decide)]
  refine n_dup dX13_init_1282 rfl ?_
  refine n_iconst (v := 1) dX13_init_1283 (by decide) ?_
  refine n_bipush (v := 108) dX13_init_1284 (by decide) ?_
  refine n_cast (a := 59) (k := 3) dX13_init_1286 ⟨rfl, (by show 59 < 60; omega), by decide⟩ (by unfold vp_in; decide) (by decide) ?_
  rw [rs2_st (F := FM) (n := 59) (j := 1) (by decide) (by decide)]
  refine n_dup dX13_init_1287 rfl ?_
  refine n_iconst (v := 2) dX13_init_1288 (by decide) ?_
  refine n_bipush (v := 108) dX13_init_1289 (by decide) ?_
  refine n_cast (a := 59) (k := 3) dX13_init_1291 ⟨rfl, (by show 59 < 60; omega), by decide⟩ (by unfold vp_in; decide) (by decide) ?_
  rw [rs2_st (F := FM) (n := 59) (j := 2) (by decide) (by decide)]
  rw [rs2_n (F := FM) (n := 59) (l := 3) (fun k hk => FM_hi (L := 3) (by decide) hk)]
  refine n_putR (a := 59) dX13_init_1292 fl_X13_194 rfl rfl rfl (fun _ => rfl) (fun _ => rfl) ⟨rfl, (by show 0 < 60; omega), by decide, by decide⟩ ?_
  exact h
theorem mc_61 (hJ : ∀ a, a ≠ 0 → J a = fun _ => 0) (h : GoN wM.1 (d + 1) 78 13175 mX13_init 1317 [(0, .ref 0)] [] 61 60 7970 (p2 P 0 78 60) (rs2 FM 61 0) J 79 Q) : GoN wM.1 (d + 1) 78 13175 mX13_init 1295 [(0, .ref 0)] [] 60 59 7967 P (rs2 FM 60 0) J 79 Q := by
  refine n_aload_n dX13_init_1295 0 0 rfl rfl ?_
  refine n_iconst (v := 3) dX13_init_1296 (by decide) ?_
  refine n_newC (k := 3) dX13_init_1297 (z_c7 3 (by decide +kernel) rfl) rfl rs2_0 (by decide) (by decide) (by decide) (by decide) (by decide) (by decide) ?_
  refine n_dup dX13_init_1299 rfl ?_
  refine n_iconst (v := 0) dX13_init_1300 (by decide) ?_
  refine n_bipush (v := 109) dX13_init_1301 (by decide) ?_
  refine n_cast (a := 60) (k := 3) dX13_init_1303 ⟨rfl, (by show 60 < 61; omega), by decide⟩ (by unfold vp_in; decide) (by decide) ?_
  rw [rs2_st (F := FM) (n := 60) (j := 0) (by decide) (by decide)]
  refine n_dup dX13_init_1304 rfl ?_
  refine n_iconst (v := 1) dX13_init_1305 (by decide) ?_
  refine n_bipush (v := 105) dX13_init_1306 (by decide) ?_
  refine n_cast (a := 60) (k := 3) dX13_init_1308 ⟨rfl, (by show 60 < 61; omega), by decide⟩ (by unfold vp_in; decide) (by decide) ?_
  rw [rs2_st (F := FM) (n := 60) (j := 1) (by decide) (by decide)]
  refine n_dup dX13_init_1309 rfl ?_
  refine n_iconst (v := 2) dX13_init_1310 (by decide) ?_
  refine n_bipush (v := 110) dX13_init_1311 (by decide) ?_
  refine n_cast (a := 60) (k := 3) dX13_init_1313 ⟨rfl, (by show 60 < 61; omega), by decide⟩ (by unfold vp_in; decide) (by decide) ?_
  rw [rs2_st (F := FM) (n := 60) (j := 2) (by decide) (by decide)]
  rw [rs2_n (F := FM) (n := 60) (l := 3) (fun k hk => FM_hi (L := 3) (by decide) hk)]
  refine n_putR (a := 60) dX13_init_1314 fl_X13_197 rfl rfl rfl (fun _ => rfl) (fun _ => rfl) ⟨rfl, (by show 0 < 61; omega), by decide, by decide⟩ ?_
  exact h
theorem mc_62 (hJ : ∀ a, a ≠ 0 → J a = fun _ => 0) (h : GoN wM.1 (d + 1) 78 13175 mX13_init 1339 [(0, .ref 0)] [] 62 61 7973 (p2 P 0 79 61) (rs2 FM 62 0) J 79 Q) : GoN wM.1 (d + 1) 78 13175 mX13_init 1317 [(0, .ref 0)] [] 61 60 7970 P (rs2 FM 61 0) J 79 Q := by
  refine n_aload_n dX13_init_1317 0 0 rfl rfl ?_
  refine n_iconst (v := 3) dX13_init_1318 (by decide) ?_
  refine n_newC (k := 3) dX13_init_1319 (z_c7 3 (by decide +kernel) rfl) rfl rs2_0 (by decide) (by decide) (by decide) (by decide) (by decide) (by decide) ?_
  refine n_dup dX13_init_1321 rfl ?_
  refine n_iconst (v := 0) dX13_init_1322 (by decide) ?_
  refine n_bipush (v := 109) dX13_init_1323 (by decide) ?_
  refine n_cast (a := 61) (k := 3) dX13_init_1325 ⟨rfl, (by show 61 < 62; omega), by decide⟩ (by unfold vp_in; decide) (by decide) ?_
  rw [rs2_st (F := FM) (n := 61) (j := 0) (by decide) (by decide)]
  refine n_dup dX13_init_1326 rfl ?_
  refine n_iconst (v := 1) dX13_init_1327 (by decide) ?_
  refine n_bipush (v := 97) dX13_init_1328 (by decide) ?_
  refine n_cast (a := 61) (k := 3) dX13_init_1330 ⟨rfl, (by show 61 < 62; omega), by decide⟩ (by unfold vp_in; decide) (by decide) ?_
  rw [rs2_st (F := FM) (n := 61) (j := 1) (by decide) (by decide)]
  refine n_dup dX13_init_1331 rfl ?_
  refine n_iconst (v := 2) dX13_init_1332 (by decide) ?_
  refine n_bipush (v := 120) dX13_init_1333 (by decide) ?_
  refine n_cast (a := 61) (k := 3) dX13_init_1335 ⟨rfl, (by show 61 < 62; omega), by decide⟩ (by unfold vp_in; decide) (by decide) ?_
  rw [rs2_st (F := FM) (n := 61) (j := 2) (by decide) (by decide)]
  rw [rs2_n (F := FM) (n := 61) (l := 3) (fun k hk => FM_hi (L := 3) (by decide) hk)]
  refine n_putR (a := 61) dX13_init_1336 fl_X13_200 rfl rfl rfl (fun _ => rfl) (fun _ => rfl) ⟨rfl, (by show 0 < 62; omega), by decide, by decide⟩ ?_
  exact h
theorem mc_63 (hJ : ∀ a, a ≠ 0 → J a = fun _ => 0) (h : GoN wM.1 (d + 1) 78 13175 mX13_init 1366 [(0, .ref 0)] [] 63 62 7977 (p2 P 0 80 62) (rs2 FM 63 0) J 79 Q) : GoN wM.1 (d + 1) 78 13175 mX13_init 1339 [(0, .ref 0)] [] 62 61 7973 P (rs2 FM 62 0) J 79 Q := by
  refine n_aload_n dX13_init_1339 0 0 rfl rfl ?_
  refine n_iconst (v := 4) dX13_init_1340 (by decide) ?_
  refine n_newC (k := 4) dX13_init_1341 (z_c7 3 (by decide +kernel) rfl) rfl rs2_0 (by decide) (by decide) (by decide) (by decide) (by decide) (by decide) ?_
  refine n_dup dX13_init_1343 rfl ?_
  refine n_iconst (v := 0) dX13_init_1344 (by decide) ?_
  refine n_bipush (v := 99) dX13_init_1345 (by decide) ?_
  refine n_cast (a := 62) (k := 4) dX13_init_1347 ⟨rfl, (by show 62 < 63; omega), by decide⟩ (by unfold vp_in; decide) (by decide) ?_
  rw [rs2_st (F := FM) (n := 62) (j := 0) (by decide) (by decide)]
  refine n_dup dX13_init_1348 rfl ?_
  refine n_iconst (v := 1) dX13_init_1349 (by decide) ?_
  refine n_bipush (v := 97) dX13_init_1350 (by decide) ?_
  refine n_cast (a := 62) (k := 4) dX13_init_1352 ⟨rfl, (by show 62 < 63; omega), by decide⟩ (by unfold vp_in; decide) (by decide) ?_
  rw [rs2_st (F := FM) (n := 62) (j := 1) (by decide) (by decide)]
  refine n_dup dX13_init_1353 rfl ?_
  refine n_iconst (v := 2) dX13_init_1354 (by decide) ?_
  refine n_bipush (v := 108) dX13_init_1355 (by decide) ?_
  refine n_cast (a := 62) (k := 4) dX13_init_1357 ⟨rfl, (by show 62 < 63; omega), by decide⟩ (by unfold vp_in; decide) (by decide) ?_
  rw [rs2_st (F := FM) (n := 62) (j := 2) (by decide) (by decide)]
  refine n_dup dX13_init_1358 rfl ?_
  refine n_iconst (v := 3) dX13_init_1359 (by decide) ?_
  refine n_bipush (v := 109) dX13_init_1360 (by decide) ?_
  refine n_cast (a := 62) (k := 4) dX13_init_1362 ⟨rfl, (by show 62 < 63; omega), by decide⟩ (by unfold vp_in; decide) (by decide) ?_
  rw [rs2_st (F := FM) (n := 62) (j := 3) (by decide) (by decide)]
  rw [rs2_n (F := FM) (n := 62) (l := 4) (fun k hk => FM_hi (L := 4) (by decide) hk)]
  refine n_putR (a := 62) dX13_init_1363 fl_X13_203 rfl rfl rfl (fun _ => rfl) (fun _ => rfl) ⟨rfl, (by show 0 < 63; omega), by decide, by decide⟩ ?_
  exact h
theorem mc_64 (hJ : ∀ a, a ≠ 0 → J a = fun _ => 0) (h : GoN wM.1 (d + 1) 78 13175 mX13_init 1398 [(0, .ref 0)] [] 64 63 7982 (p2 P 0 81 63) (rs2 FM 64 0) J 79 Q) : GoN wM.1 (d + 1) 78 13175 mX13_init 1366 [(0, .ref 0)] [] 63 62 7977 P (rs2 FM 63 0) J 79 Q := by
  refine n_aload_n dX13_init_1366 0 0 rfl rfl ?_
  refine n_iconst (v := 5) dX13_init_1367 (by decide) ?_
  refine n_newC (k := 5) dX13_init_1368 (z_c7 3 (by decide +kernel) rfl) rfl rs2_0 (by decide) (by decide) (by decide) (by decide) (by decide) (by decide) ?_
  refine n_dup dX13_init_1370 rfl ?_
  refine n_iconst (v := 0) dX13_init_1371 (by decide) ?_
  refine n_bipush (v := 114) dX13_init_1372 (by decide) ?_
  refine n_cast (a := 63) (k := 5) dX13_init_1374 ⟨rfl, (by show 63 < 64; omega), by decide⟩ (by unfold vp_in; decide) (by decide) ?_
  rw [rs2_st (F := FM) (n := 63) (j := 0) (by decide) (by decide)]
  refine n_dup dX13_init_1375 rfl ?_
  refine n_iconst (v := 1) dX13_init_1376 (by decide) ?_
  refine n_bipush (v := 105) dX13_init_1377 (by decide) ?_
  refine n_cast (a := 63) (k := 5) dX13_init_1379 ⟨rfl, (by show 63 < 64; omega), by decide⟩ (by unfold vp_in; decide) (by decide) ?_
  rw [rs2_st (F := FM) (n := 63) (j := 1) (by decide) (by decide)]
  refine n_dup dX13_init_1380 rfl ?_
  refine n_iconst (v := 2) dX13_init_1381 (by decide) ?_
  refine n_bipush (v := 103) dX13_init_1382 (by decide) ?_
  refine n_cast (a := 63) (k := 5) dX13_init_1384 ⟨rfl, (by show 63 < 64; omega), by decide⟩ (by unfold vp_in; decide) (by decide) ?_
  rw [rs2_st (F := FM) (n := 63) (j := 2) (by decide) (by decide)]
  refine n_dup dX13_init_1385 rfl ?_
  refine n_iconst (v := 3) dX13_init_1386 (by decide) ?_
  refine n_bipush (v := 104) dX13_init_1387 (by decide) ?_
  refine n_cast (a := 63) (k := 5) dX13_init_1389 ⟨rfl, (by show 63 < 64; omega), by decide⟩ (by unfold vp_in; decide) (by decide) ?_
  rw [rs2_st (F := FM) (n := 63) (j := 3) (by decide) (by decide)]
  refine n_dup dX13_init_1390 rfl ?_
  refine n_iconst (v := 4) dX13_init_1391 (by decide) ?_
  refine n_bipush (v := 116) dX13_init_1392 (by decide) ?_
  refine n_cast (a := 63) (k := 5) dX13_init_1394 ⟨rfl, (by show 63 < 64; omega), by decide⟩ (by unfold vp_in; decide) (by decide) ?_
  rw [rs2_st (F := FM) (n := 63) (j := 4) (by decide) (by decide)]
  rw [rs2_n (F := FM) (n := 63) (l := 5) (fun k hk => FM_hi (L := 5) (by decide) hk)]
  refine n_putR (a := 63) dX13_init_1395 fl_X13_206 rfl rfl rfl (fun _ => rfl) (fun _ => rfl) ⟨rfl, (by show 0 < 64; omega), by decide, by decide⟩ ?_
  exact h
theorem mc_65 (hJ : ∀ a, a ≠ 0 → J a = fun _ => 0) (h : GoN wM.1 (d + 1) 78 13175 mX13_init 1430 [(0, .ref 0)] [] 65 64 7987 (p2 P 0 82 64) (rs2 FM 65 0) J 79 Q) : GoN wM.1 (d + 1) 78 13175 mX13_init 1398 [(0, .ref 0)] [] 64 63 7982 P (rs2 FM 64 0) J 79 Q := by
  refine n_aload_n dX13_init_1398 0 0 rfl rfl ?_
  refine n_iconst (v := 5) dX13_init_1399 (by decide) ?_
  refine n_newC (k := 5) dX13_init_1400 (z_c7 3 (by decide +kernel) rfl) rfl rs2_0 (by decide) (by decide) (by decide) (by decide) (by decide) (by decide) ?_
  refine n_dup dX13_init_1402 rfl ?_
  refine n_iconst (v := 0) dX13_init_1403 (by decide) ?_
  refine n_bipush (v := 119) dX13_init_1404 (by decide) ?_
  refine n_cast (a := 64) (k := 5) dX13_init_1406 ⟨rfl, (by show 64 < 65; omega), by decide⟩ (by unfold vp_in; decide) (by decide) ?_
  rw [rs2_st (F := FM) (n := 64) (j := 0) (by decide) (by decide)]
  refine n_dup dX13_init_1407 rfl ?_
  refine n_iconst (v := 1) dX13_init_1408 (by decide) ?_
  refine n_bipush (v := 114) dX13_init_1409 (by decide) ?_
  refine n_cast (a := 64) (k := 5) dX13_init_1411 ⟨rfl, (by show 64 < 65; omega), by decide⟩ (by unfold vp_in; decide) (by decide) ?_
  rw [rs2_st (F := FM) (n := 64) (j := 1) (by decide) (by decide)]
  refine n_dup dX13_init_1412 rfl ?_
  refine n_iconst (v := 2) dX13_init_1413 (by decide) ?_
  refine n_bipush (v := 111) dX13_init_1414 (by decide) ?_
  refine n_cast (a := 64) (k := 5) dX13_init_1416 ⟨rfl, (by show 64 < 65; omega), by decide⟩ (by unfold vp_in; decide) (by decide) ?_
  rw [rs2_st (F := FM) (n := 64) (j := 2) (by decide) (by decide)]
  refine n_dup dX13_init_1417 rfl ?_
  refine n_iconst (v := 3) dX13_init_1418 (by decide) ?_
  refine n_bipush (v := 110) dX13_init_1419 (by decide) ?_
  refine n_cast (a := 64) (k := 5) dX13_init_1421 ⟨rfl, (by show 64 < 65; omega), by decide⟩ (by unfold vp_in; decide) (by decide) ?_
  rw [rs2_st (F := FM) (n := 64) (j := 3) (by decide) (by decide)]
  refine n_dup dX13_init_1422 rfl ?_
  refine n_iconst (v := 4) dX13_init_1423 (by decide) ?_
  refine n_bipush (v := 103) dX13_init_1424 (by decide) ?_
  refine n_cast (a := 64) (k := 5) dX13_init_1426 ⟨rfl, (by show 64 < 65; omega), by decide⟩ (by unfold vp_in; decide) (by decide) ?_
  rw [rs2_st (F := FM) (n := 64) (j := 4) (by decide) (by decide)]
  rw [rs2_n (F := FM) (n := 64) (l := 5) (fun k hk => FM_hi (L := 5) (by decide) hk)]
  refine n_putR (a := 64) dX13_init_1427 fl_X13_209 rfl rfl rfl (fun _ => rfl) (fun _ => rfl) ⟨rfl, (by show 0 < 65; omega), by decide, by decide⟩ ?_
  exact h
theorem mc_66 (hJ : ∀ a, a ≠ 0 → J a = fun _ => 0) (h : GoN wM.1 (d + 1) 78 13175 mX13_init 1457 [(0, .ref 0)] [] 66 65 7991 (p2 P 0 83 65) (rs2 FM 66 0) J 79 Q) : GoN wM.1 (d + 1) 78 13175 mX13_init 1430 [(0, .ref 0)] [] 65 64 7987 P (rs2 FM 65 0) J 79 Q := by
  refine n_aload_n dX13_init_1430 0 0 rfl rfl ?_
  refine n_iconst (v := 4) dX13_init_1431 (by decide) ?_
  refine n_newC (k := 4) dX13_init_1432 (z_c7 3 (by decide +kernel) rfl) rfl rs2_0 (by decide) (by decide) (by decide) (by decide) (by decide) (by decide) ?_
  refine n_dup dX13_init_1434 rfl ?_
  refine n_iconst (v := 0) dX13_init_1435 (by decide) ?_
  refine n_bipush (v := 121) dX13_init_1436 (by decide) ?_
  refine n_cast (a := 65) (k := 4) dX13_init_1438 ⟨rfl, (by show 65 < 66; omega), by decide⟩ (by unfold vp_in; decide) (by decide) ?_
  rw [rs2_st (F := FM) (n := 65) (j := 0) (by decide) (by decide)]
  refine n_dup dX13_init_1439 rfl ?_
  refine n_iconst (v := 1) dX13_init_1440 (by decide) ?_
  refine n_bipush (v := 101) dX13_init_1441 (by decide) ?_
  refine n_cast (a := 65) (k := 4) dX13_init_1443 ⟨rfl, (by show 65 < 66; omega), by decide⟩ (by unfold vp_in; decide) (by decide) ?_
  rw [rs2_st (F := FM) (n := 65) (j := 1) (by decide) (by decide)]
  refine n_dup dX13_init_1444 rfl ?_
  refine n_iconst (v := 2) dX13_init_1445 (by decide) ?_
  refine n_bipush (v := 97) dX13_init_1446 (by decide) ?_
  refine n_cast (a := 65) (k := 4) dX13_init_1448 ⟨rfl, (by show 65 < 66; omega), by decide⟩ (by unfold vp_in; decide) (by decide) ?_
  rw [rs2_st (F := FM) (n := 65) (j := 2) (by decide) (by decide)]
  refine n_dup dX13_init_1449 rfl ?_
  refine n_iconst (v := 3) dX13_init_1450 (by decide) ?_
  refine n_bipush (v := 114) dX13_init_1451 (by decide) ?_
  refine n_cast (a := 65) (k := 4) dX13_init_1453 ⟨rfl, (by show 65 < 66; omega), by decide⟩ (by unfold vp_in; decide) (by decide) ?_
  rw [rs2_st (F := FM) (n := 65) (j := 3) (by decide) (by decide)]
  rw [rs2_n (F := FM) (n := 65) (l := 4) (fun k hk => FM_hi (L := 4) (by decide) hk)]
  refine n_putR (a := 65) dX13_init_1454 fl_X13_212 rfl rfl rfl (fun _ => rfl) (fun _ => rfl) ⟨rfl, (by show 0 < 66; omega), by decide, by decide⟩ ?_
  exact h
theorem mc_67 (hJ : ∀ a, a ≠ 0 → J a = fun _ => 0) (h : GoN wM.1 (d + 1) 78 13175 mX13_init 1489 [(0, .ref 0)] [] 67 66 7996 (p2 P 0 84 66) (rs2 FM 67 0) J 79 Q) : GoN wM.1 (d + 1) 78 13175 mX13_init 1457 [(0, .ref 0)] [] 66 65 7991 P (rs2 FM 66 0) J 79 Q := by
  refine n_aload_n dX13_init_1457 0 0 rfl rfl ?_
  refine n_iconst (v := 5) dX13_init_1458 (by decide) ?_
  refine n_newC (k := 5) dX13_init_1459 (z_c7 3 (by decide +kernel) rfl) rfl rs2_0 (by decide) (by decide) (by decide) (by decide) (by decide) (by decide) ?_
  refine n_dup dX13_init_1461 rfl ?_
  refine n_iconst (v := 0) dX13_init_1462 (by decide) ?_
  refine n_bipush (v := 119) dX13_init_1463 (by decide) ?_
  refine n_cast (a := 66) (k := 5) dX13_init_1465 ⟨rfl, (by show 66 < 67; omega), by decide⟩ (by unfold vp_in; decide) (by decide) ?_
  rw [rs2_st (F := FM) (n := 66) (j := 0) (by decide) (by decide)]
  refine n_dup dX13_init_1466 rfl ?_
  refine n_iconst (v := 1) dX13_init_1467 (by decide) ?_
  refine n_bipush (v := 111) dX13_init_1468 (by decide) ?_
  refine n_cast (a := 66) (k := 5) dX13_init_1470 ⟨rfl, (by show 66 < 67; omega), by decide⟩ (by unfold vp_in; decide) (by decide) ?_
  rw [rs2_st (F := FM) (n := 66) (j := 1) (by decide) (by decide)]
  refine n_dup dX13_init_1471 rfl ?_
  refine n_iconst (v := 2) dX13_init_1472 (by decide) ?_
  refine n_bipush (v := 114) dX13_init_1473 (by decide) ?_
  refine n_cast (a := 66) (k := 5) dX13_init_1475 ⟨rfl, (by show 66 < 67; omega), by decide⟩ (by unfold vp_in; decide) (by decide) ?_
  rw [rs2_st (F := FM) (n := 66) (j := 2) (by decide) (by decide)]
  refine n_dup dX13_init_1476 rfl ?_
  refine n_iconst (v := 3) dX13_init_1477 (by decide) ?_
  refine n_bipush (v := 116) dX13_init_1478 (by decide) ?_
  refine n_cast (a := 66) (k := 5) dX13_init_1480 ⟨rfl, (by show 66 < 67; omega), by decide⟩ (by unfold vp_in; decide) (by decide) ?_
  rw [rs2_st (F := FM) (n := 66) (j := 3) (by decide) (by decide)]
  refine n_dup dX13_init_1481 rfl ?_
  refine n_iconst (v := 4) dX13_init_1482 (by decide) ?_
  refine n_bipush (v := 104) dX13_init_1483 (by decide) ?_
  refine n_cast (a := 66) (k := 5) dX13_init_1485 ⟨rfl, (by show 66 < 67; omega), by decide⟩ (by unfold vp_in; decide) (by decide) ?_
  rw [rs2_st (F := FM) (n := 66) (j := 4) (by decide) (by decide)]
  rw [rs2_n (F := FM) (n := 66) (l := 5) (fun k hk => FM_hi (L := 5) (by decide) hk)]
  refine n_putR (a := 66) dX13_init_1486 fl_X13_215 rfl rfl rfl (fun _ => rfl) (fun _ => rfl) ⟨rfl, (by show 0 < 67; omega), by decide, by decide⟩ ?_
  exact h
theorem mc_68 (hJ : ∀ a, a ≠ 0 → J a = fun _ => 0) (h : GoN wM.1 (d + 1) 78 13175 mX13_init 1521 [(0, .ref 0)] [] 68 67 8001 (p2 P 0 85 67) (rs2 FM 68 0) J 79 Q) : GoN wM.1 (d + 1) 78 13175 mX13_init 1489 [(0, .ref 0)] [] 67 66 7996 P (rs2 FM 67 0) J 79 Q := by
  refine n_aload_n dX13_init_1489 0 0 rfl rfl ?_
  refine n_iconst (v := 5) dX13_init_1490 (by decide) ?_
  refine n_newC (k := 5) dX13_init_1491 (z_c7 3 (by decide +kernel) rfl) rfl rs2_0 (by decide) (by decide) (by decide) (by decide) (by decide) (by decide) ?_
  refine n_dup dX13_init_1493 rfl ?_
  refine n_iconst (v := 0) dX13_init_1494 (by decide) ?_
  refine n_bipush (v := 99) dX13_init_1495 (by decide) ?_
  refine n_cast (a := 67) (k := 5) dX13_init_1497 ⟨rfl, (by show 67 < 68; omega), by decide⟩ (by unfold vp_in; decide) (by decide) ?_
  rw [rs2_st (F := FM) (n := 67) (j := 0) (by decide) (by decide)]
  refine n_dup dX13_init_1498 rfl ?_
  refine n_iconst (v := 1) dX13_init_1499 (by decide) ?_
  refine n_bipush (v := 108) dX13_init_1500 (by decide) ?_
  refine n_cast (a := 67) (k := 5) dX13_init_1502 ⟨rfl, (by show 67 < 68; omega), by decide⟩ (by unfold vp_in; decide) (by decide) ?_
  rw [rs2_st (F := FM) (n := 67) (j := 1) (by decide) (by decide)]
  refine n_dup dX13_init_1503 rfl ?_
  refine n_iconst (v := 2) dX13_init_1504 (by decide) ?_
  refine n_bipush (v := 97) dX13_init_1505 (by decide) ?_
  refine n_cast (a := 67) (k := 5) dX13_init_1507 ⟨rfl, (by show 67 < 68; omega), by decide⟩ (by unfold vp_in; decide) (by decide) ?_
  rw [rs2_st (F := FM) (n := 67) (j := 2) (by decide) (by decide)]
  refine n_dup dX13_init_1508 rfl ?_
  refine n_iconst (v := 3) dX13_init_1509 (by decide) ?_
  refine n_bipush (v := 115) dX13_init_1510 (by decide) ?_
  refine n_cast (a := 67) (k := 5) dX13_init_1512 ⟨rfl, (by show 67 < 68; omega), by decide⟩ (by unfold vp_in; decide) (by decide) ?_
  rw [rs2_st (F := FM) (n := 67) (j := 3) (by decide) (by decide)]
  refine n_dup dX13_init_1513 rfl ?_
  refine n_iconst (v := 4) dX13_init_1514 (by decide) ?_
  refine n_bipush (v := 115) dX13_init_1515 (by decide) ?_
  refine n_cast (a := 67) (k := 5) dX13_init_1517 ⟨rfl, (by show 67 < 68; omega), by decide⟩ (by unfold vp_in; decide) (by decide) ?_
  rw [rs2_st (F := FM) (n := 67) (j := 4) (by decide) (by decide)]
  rw [rs2_n (F := FM) (n := 67) (l := 5) (fun k hk => FM_hi (L := 5) (by decide) hk)]
  refine n_putR (a := 67) dX13_init_1518 fl_X13_218 rfl rfl rfl (fun _ => rfl) (fun _ => rfl) ⟨rfl, (by show 0 < 68; omega), by decide, by decide⟩ ?_
  exact h
theorem mc_69 (hJ : ∀ a, a ≠ 0 → J a = fun _ => 0) (h : GoN wM.1 (d + 1) 78 13175 mX13_init 1553 [(0, .ref 0)] [] 69 68 8006 (p2 P 0 86 68) (rs2 FM 69 0) J 79 Q) : GoN wM.1 (d + 1) 78 13175 mX13_init 1521 [(0, .ref 0)] [] 68 67 8001 P (rs2 FM 68 0) J 79 Q := by
  refine n_aload_n dX13_init_1521 0 0 rfl rfl ?_
  refine n_iconst (v := 5) dX13_init_1522 (by decide) ?_
  refine n_newC (k := 5) dX13_init_1523 (z_c7 3 (by decide +kernel) rfl) rfl rs2_0 (by decide) (by decide) (by decide) (by decide) (by decide) (by decide) ?_
  refine n_dup dX13_init_1525 rfl ?_
  refine n_iconst (v := 0) dX13_init_1526 (by decide) ?_
  refine n_bipush (v := 109) dX13_init_1527 (by decide) ?_
  refine n_cast (a := 68) (k := 5) dX13_init_1529 ⟨rfl, (by show 68 < 69; omega), by decide⟩ (by unfold vp_in; decide) (by decide) ?_
  rw [rs2_st (F := FM) (n := 68) (j := 0) (by decide) (by decide)]
  refine n_dup dX13_init_1530 rfl ?_
  refine n_iconst (v := 1) dX13_init_1531 (by decide) ?_
  refine n_bipush (v := 99) dX13_init_1532 (by decide) ?_
  refine n_cast (a := 68) (k := 5) dX13_init_1534 ⟨rfl, (by show 68 < 69; omega), by decide⟩ (by unfold vp_in; decide) (by decide) ?_
  rw [rs2_st (F := FM) (n := 68) (j := 1) (by decide) (by decide)]
  refine n_dup dX13_init_1535 rfl ?_
  refine n_iconst (v := 2) dX13_init_1536 (by decide) ?_
  refine n_bipush (v := 97) dX13_init_1537 (by decide) ?_
  refine n_cast (a := 68) (k := 5) dX13_init_1539 ⟨rfl, (by show 68 < 69; omega), by decide⟩ (by unfold vp_in; decide) (by decide) ?_
  rw [rs2_st (F := FM) (n := 68) (j := 2) (by decide) (by decide)]
  refine n_dup dX13_init_1540 rfl ?_
  refine n_iconst (v := 3) dX13_init_1541 (by decide) ?_
  refine n_bipush (v := 108) dX13_init_1542 (by decide) ?_
  refine n_cast (a := 68) (k := 5) dX13_init_1544 ⟨rfl, (by show 68 < 69; omega), by decide⟩ (by unfold vp_in; decide) (by decide) ?_
  rw [rs2_st (F := FM) (n := 68) (j := 3) (by decide) (by decide)]
  refine n_dup dX13_init_1545 rfl ?_
  refine n_iconst (v := 4) dX13_init_1546 (by decide) ?_
  refine n_bipush (v := 109) dX13_init_1547 (by decide) ?_
  refine n_cast (a := 68) (k := 5) dX13_init_1549 ⟨rfl, (by show 68 < 69; omega), by decide⟩ (by unfold vp_in; decide) (by decide) ?_
  rw [rs2_st (F := FM) (n := 68) (j := 4) (by decide) (by decide)]
  rw [rs2_n (F := FM) (n := 68) (l := 5) (fun k hk => FM_hi (L := 5) (by decide) hk)]
  refine n_putR (a := 68) dX13_init_1550 fl_X13_221 rfl rfl rfl (fun _ => rfl) (fun _ => rfl) ⟨rfl, (by show 0 < 69; omega), by decide, by decide⟩ ?_
  exact h
theorem mc_70 (hJ : ∀ a, a ≠ 0 → J a = fun _ => 0) (h : GoN wM.1 (d + 1) 78 13175 mX13_init 1580 [(0, .ref 0)] [] 70 69 8010 (p2 P 0 87 69) (rs2 FM 70 0) J 79 Q) : GoN wM.1 (d + 1) 78 13175 mX13_init 1553 [(0, .ref 0)] [] 69 68 8006 P (rs2 FM 69 0) J 79 Q := by
  refine n_aload_n dX13_init_1553 0 0 rfl rfl ?_
  refine n_iconst (v := 4) dX13_init_1554 (by decide) ?_
  refine n_newC (k := 4) dX13_init_1555 (z_c7 3 (by decide +kernel) rfl) rfl rs2_0 (by decide) (by decide) (by decide) (by decide) (by decide) (by decide) ?_
  refine n_dup dX13_init_1557 rfl ?_
  refine n_iconst (v := 0) dX13_init_1558 (by decide) ?_
  refine n_bipush (v := 108) dX13_init_1559 (by decide) ?_
  refine n_cast (a := 69) (k := 4) dX13_init_1561 ⟨rfl, (by show 69 < 70; omega), by decide⟩ (by unfold vp_in; decide) (by decide) ?_
  rw [rs2_st (F := FM) (n := 69) (j := 0) (by decide) (by decide)]
  refine n_dup dX13_init_1562 rfl ?_
  refine n_iconst (v := 1) dX13_init_1563 (by decide) ?_
  refine n_bipush (v := 101) dX13_init_1564 (by decide) ?_
  refine n_cast (a := 69) (k := 4) dX13_init_1566 ⟨rfl, (by show 69 < 70; omega), by decide⟩ (by unfold vp_in; decide) (by decide) ?_
  rw [rs2_st (F := FM) (n := 69) (j := 1) (by decide) (by decide)]
  refine n_dup dX13_init_1567 rfl ?_
  refine n_iconst (v := 2) dX13_init_1568 (by decide) ?_
  refine n_bipush (v := 102) dX13_init_1569 (by decide) ?_
  refine n_cast (a := 69) (k := 4) dX13_init_1571 ⟨rfl, (by show 69 < 70; omega), by decide⟩ (by unfold vp_in; decide) (by decide) ?_
  rw [rs2_st (F := FM) (n := 69) (j := 2) (by decide) (by decide)]
  refine n_dup dX13_init_1572 rfl ?_
  refine n_iconst (v := 3) dX13_init_1573 (by decide) ?_
  refine n_bipush (v := 116) dX13_init_1574 (by decide) ?_
  refine n_cast (a := 69) (k := 4) dX13_init_1576 ⟨rfl, (by show 69 < 70; omega), by decide⟩ (by unfold vp_in; decide) (by decide) ?_
  rw [rs2_st (F := FM) (n := 69) (j := 3) (by decide) (by decide)]
  rw [rs2_n (F := FM) (n := 69) (l := 4) (fun k hk => FM_hi (L := 4) (by decide) hk)]
  refine n_putR (a := 69) dX13_init_1577 fl_X13_224 rfl rfl rfl (fun _ => rfl) (fun _ => rfl) ⟨rfl, (by show 0 < 70; omega), by decide, by decide⟩ ?_
  exact h
theorem mc_71 (hJ : ∀ a, a ≠ 0 → J a = fun _ => 0) (h : GoN wM.1 (d + 1) 78 13175 mX13_init 1612 [(0, .ref 0)] [] 71 70 8015 (p2 P 0 88 70) (rs2 FM 71 0) J 79 Q) : GoN wM.1 (d + 1) 78 13175 mX13_init 1580 [(0, .ref 0)] [] 70 69 8010 P (rs2 FM 70 0) J 79 Q := by
  refine n_aload_n dX13_init_1580 0 0 rfl rfl ?_
  refine n_iconst (v := 5) dX13_init_1581 (by decide) ?_
  refine n_newC (k := 5) dX13_init_1582 (z_c7 3 (by decide +kernel) rfl) rfl rs2_0 (by decide) (by decide) (by decide) (by decide) (by decide) (by decide) ?_
  refine n_dup dX13_init_1584 rfl ?_
  refine n_iconst (v := 0) dX13_init_1585 (by decide) ?_
  refine n_bipush (v := 109) dX13_init_1586 (by decide) ?_
  refine n_cast (a := 70) (k := 5) dX13_init_1588 ⟨rfl, (by show 70 < 71; omega), by decide⟩ (by unfold vp_in; decide) (by decide) ?_
  rw [rs2_st (F := FM) (n := 70) (j := 0) (by decide) (by decide)]
  refine n_dup dX13_init_1589 rfl ?_
  refine n_iconst (v := 1) dX13_init_1590 (by decide) ?_
  refine n_bipush (v := 97) dX13_init_1591 (by decide) ?_
  refine n_cast (a := 70) (k := 5) dX13_init_1593 ⟨rfl, (by show 70 < 71; omega), by decide⟩ (by unfold vp_in; decide) (by decide) ?_
  rw [rs2_st (F := FM) (n := 70) (j := 1) (by decide) (by decide)]
  refine n_dup dX13_init_1594 rfl ?_
  refine n_iconst (v := 2) dX13_init_1595 (by decide) ?_
  refine n_bipush (v := 114) dX13_init_1596 (by decide) ?_
  refine n_cast (a := 70) (k := 5) dX13_init_1598 ⟨rfl, (by show 70 < 71; omega), by decide⟩ (by unfold vp_in; decide) (by decide) ?_
  rw [rs2_st (F := FM) (n := 70) (j := 2) (by decide) (by decide)]
  refine n_dup dX13_init_1599 rfl ?_
  refine n_iconst (v := 3) dX13_init_1600 (by decide) ?_
  refine n_bipush (v := 107) dX13_init_1601 (by decide) ?_
  refine n_cast (a := 70) (k := 5) dX13_init_1603 ⟨rfl, (by show 70 < 71; omega), by decide⟩ (by unfold vp_in; decide) (by decide) ?_
  rw [rs2_st (F := FM) (n := 70) (j := 3) (by decide) (by decide)]
  refine n_dup dX13_init_1604 rfl ?_
  refine n_iconst (v := 4) dX13_init_1605 (by decide) ?_
  refine n_bipush (v := 115) dX13_init_1606 (by decide) ?_
  refine n_cast (a := 70) (k := 5) dX13_init_1608 ⟨rfl, (by show 70 < 71; omega), by decide⟩ (by unfold vp_in; decide) (by decide) ?_
  rw [rs2_st (F := FM) (n := 70) (j := 4) (by decide) (by decide)]
  rw [rs2_n (F := FM) (n := 70) (l := 5) (fun k hk => FM_hi (L := 5) (by decide) hk)]
  refine n_putR (a := 70) dX13_init_1609 fl_X13_227 rfl rfl rfl (fun _ => rfl) (fun _ => rfl) ⟨rfl, (by show 0 < 71; omega), by decide, by decide⟩ ?_
  exact h
theorem mc_72 (hJ : ∀ a, a ≠ 0 → J a = fun _ => 0) (h : GoN wM.1 (d + 1) 78 13175 mX13_init 1650 [(0, .ref 0)] [] 72 71 8021 (p2 P 0 89 71) (rs2 FM 72 0) J 79 Q) : GoN wM.1 (d + 1) 78 13175 mX13_init 1612 [(0, .ref 0)] [] 71 70 8015 P (rs2 FM 71 0) J 79 Q := by
  refine n_aload_n dX13_init_1612 0 0 rfl rfl ?_
  refine n_bipush (v := 6) dX13_init_1613 (by decide) ?_
  refine n_newC (k := 6) dX13_init_1615 (z_c7 3 (by decide +kernel) rfl) rfl rs2_0 (by decide) (by decide) (by decide) (by decide) (by decide) (by decide) ?_
  refine n_dup dX13_init_1617 rfl ?_
  refine n_iconst (v := 0) dX13_init_1618 (by decide) ?_
  refine n_bipush (v := 110) dX13_init_1619 (by decide) ?_
  refine n_cast (a := 71) (k := 6) dX13_init_1621 ⟨rfl, (by show 71 < 72; omega), by decide⟩ (by unfold vp_in; decide) (by decide) ?_
  rw [rs2_st (F := FM) (n := 71) (j := 0) (by decide) (by decide)]
  refine n_dup dX13_init_1622 rfl ?_
  refine n_iconst (v := 1) dX13_init_1623 (by decide) ?_
  refine n_bipush (v := 117) dX13_init_1624 (by decide) ?_
  refine n_cast (a := 71) (k := 6) dX13_init_1626 ⟨rfl, (by show 71 < 72; omega), by decide⟩ (by unfold vp_in; decide) (by decide) ?_
  rw [rs2_st (F := FM) (n := 71) (j := 1) (by decide) (by decide)]
  refine n_dup dX13_init_1627 rfl ?_
  refine n_iconst (v := 2) dX13_init_1628 (by decide) ?_
  refine n_bipush (v := 109) dX13_init_1629 (by decide) ?_
  refine n_cast (a := 71) (k := 6) dX13_init_1631 ⟨rfl, (by show 71 < 72; omega), by decide⟩ (by unfold vp_in; decide) (by decide) ?_
  rw [rs2_st (F := FM) (n := 71) (j := 2) (by decide) (by decide)]
  refine n_dup dX13_init_1632 rfl ?_
  refine n_iconst (v := 3) dX13_init_1633 (by decide) ?_
  refine n_bipush (v := 98) dX13_init_1634 (by decide) ?_
  refine n_cast (a := 71) (k := 6) dX13_init_1636 ⟨rfl, (by show 71 < 72; omega), by decide⟩ (by unfold vp_in; decide) (by decide) ?_
  rw [rs2_st (F := FM) (n := 71) (j := 3) (by decide) (by decide)]
  refine n_dup dX13_init_1637 rfl ?_
  refine n_iconst (v := 4) dX13_init_1638 (by decide) ?_
  refine n_bipush (v := 101) dX13_init_1639 (by decide) ?_
  refine n_cast (a := 71) (k := 6) dX13_init_1641 ⟨rfl, (by show 71 < 72; omega), by decide⟩ (by unfold vp_in; decide) (by decide) ?_
  rw [rs2_st (F := FM) (n := 71) (j := 4) (by decide) (by decide)]
  refine n_dup dX13_init_1642 rfl ?_
  refine n_iconst (v := 5) dX13_init_1643 (by decide) ?_
  refine n_bipush (v := 114) dX13_init_1644 (by decide) ?_
  refine n_cast (a := 71) (k := 6) dX13_init_1646 ⟨rfl, (by show 71 < 72; omega), by decide⟩ (by unfold vp_in; decide) (by decide) ?_
  rw [rs2_st (F := FM) (n := 71) (j := 5) (by decide) (by decide)]
  rw [rs2_n (F := FM) (n := 71) (l := 6) (fun k hk => FM_hi (L := 6) (by decide) hk)]
  refine n_putR (a := 71) dX13_init_1647 fl_X13_230 rfl rfl rfl (fun _ => rfl) (fun _ => rfl) ⟨rfl, (by show 0 < 72; omega), by decide, by decide⟩ ?_
  exact h
theorem mc_73 (hJ : ∀ a, a ≠ 0 → J a = fun _ => 0) (h : GoN wM.1 (d + 1) 78 13175 mX13_init 1682 [(0, .ref 0)] [] 73 72 8026 (p2 P 0 90 72) (rs2 FM 73 0) J 79 Q) : GoN wM.1 (d + 1) 78 13175 mX13_init 1650 [(0, .ref 0)] [] 72 71 8021 P (rs2 FM 72 0) J 79 Q := by
  refine n_aload_n dX13_init_1650 0 0 rfl rfl ?_
  refine n_iconst (v := 5) dX13_init_1651 (by decide) ?_
  refine n_newC (k := 5) dX13_init_1652 (z_c7 3 (by decide +kernel) rfl) rfl rs2_0 (by decide) (by decide) (by decide) (by decide) (by decide) (by decide) ?_
  refine n_dup dX13_init_1654 rfl ?_
  refine n_iconst (v := 0) dX13_init_1655 (by decide) ?_
  refine n_bipush (v := 107) dX13_init_1656 (by decide) ?_
  refine n_cast (a := 72) (k := 5) dX13_init_1658 ⟨rfl, (by show 72 < 73; omega), by decide⟩ (by unfold vp_in; decide) (by decide) ?_
  rw [rs2_st (F := FM) (n := 72) (j := 0) (by decide) (by decide)]
  refine n_dup dX13_init_1659 rfl ?_
  refine n_iconst (v := 1) dX13_init_1660 (by decide) ?_
  refine n_bipush (v := 110) dX13_init_1661 (by decide) ?_
  refine n_cast (a := 72) (k := 5) dX13_init_1663 ⟨rfl, (by show 72 < 73; omega), by decide⟩ (by unfold vp_in; decide) (by decide) ?_
  rw [rs2_st (F := FM) (n := 72) (j := 1) (by decide) (by decide)]
  refine n_dup dX13_init_1664 rfl ?_
  refine n_iconst (v := 2) dX13_init_1665 (by decide) ?_
  refine n_bipush (v := 111) dX13_init_1666 (by decide) ?_
  refine n_cast (a := 72) (k := 5) dX13_init_1668 ⟨rfl, (by show 72 < 73; omega), by decide⟩ (by unfold vp_in; decide) (by decide) ?_
  rw [rs2_st (F := FM) (n := 72) (j := 2) (by decide) (by decide)]
  refine n_dup dX13_init_1669 rfl ?_
  refine n_iconst (v := 3) dX13_init_1670 (by decide) ?_
  refine n_bipush (v := 119) dX13_init_1671 (by decide) ?_
  refine n_cast (a := 72) (k := 5) dX13_init_1673 ⟨rfl, (by show 72 < 73; omega), by decide⟩ (by unfold vp_in; decide) (by decide) ?_
  rw [rs2_st (F := FM) (n := 72) (j := 3) (by decide) (by decide)]
  refine n_dup dX13_init_1674 rfl ?_
  refine n_iconst (v := 4) dX13_init_1675 (by decide) ?_
  refine n_bipush (v := 115) dX13_init_1676 (by decide) ?_
  refine n_cast (a := 72) (k := 5) dX13_init_1678 ⟨rfl, (by show 72 < 73; omega), by decide⟩ (by unfold vp_in; decide) (by decide) ?_
  rw [rs2_st (F := FM) (n := 72) (j := 4) (by decide) (by decide)]
  rw [rs2_n (F := FM) (n := 72) (l := 5) (fun k hk => FM_hi (L := 5) (by decide) hk)]
  refine n_putR (a := 72) dX13_init_1679 fl_X13_233 rfl rfl rfl (fun _ => rfl) (fun _ => rfl) ⟨rfl, (by show 0 < 73; omega), by decide, by decide⟩ ?_
  exact h
theorem mc_74 (hJ : ∀ a, a ≠ 0 → J a = fun _ => 0) (h : GoN wM.1 (d + 1) 78 13175 mX13_init 1709 [(0, .ref 0)] [] 74 73 8030 (p2 P 0 91 73) (rs2 FM 74 0) J 79 Q) : GoN wM.1 (d + 1) 78 13175 mX13_init 1682 [(0, .ref 0)] [] 73 72 8026 P (rs2 FM 73 0) J 79 Q := by
  refine n_aload_n dX13_init_1682 0 0 rfl rfl ?_
  refine n_iconst (v := 4) dX13_init_1683 (by decide) ?_
  refine n_newC (k := 4) dX13_init_1684 (z_c7 3 (by decide +kernel) rfl) rfl rs2_0 (by decide) (by decide) (by decide) (by decide) (by decide) (by decide) ?_
  refine n_dup dX13_init_1686 rfl ?_
  refine n_iconst (v := 0) dX13_init_1687 (by decide) ?_
  refine n_bipush (v := 101) dX13_init_1688 (by decide) ?_
  refine n_cast (a := 73) (k := 4) dX13_init_1690 ⟨rfl, (by show 73 < 74; omega), by decide⟩ (by unfold vp_in; decide) (by decide) ?_
  rw [rs2_st (F := FM) (n := 73) (j := 0) (by decide) (by decide)]
  refine n_dup dX13_init_1691 rfl ?_
  refine n_iconst (v := 1) dX13_init_1692 (by decide) ?_
  refine n_bipush (v := 114) dX13_init_1693 (by decide) ?_
  refine n_cast (a := 73) (k := 4) dX13_init_1695 ⟨rfl, (by show 73 < 74; omega), by decide⟩ (by unfold vp_in; decide) (by decide) ?_
  rw [rs2_st (F := FM) (n := 73) (j := 1) (by decide) (by decide)]
  refine n_dup dX13_init_1696 rfl ?_
  refine n_iconst (v := 2) dX13_init_1697 (by decide) ?_
  refine n_bipush (v := 114) dX13_init_1698 (by decide) ?_
  refine n_cast (a := 73) (k := 4) dX13_init_1700 ⟨rfl, (by show 73 < 74; omega), by decide⟩ (by unfold vp_in; decide) (by decide) ?_
  rw [rs2_st (F := FM) (n := 73) (j := 2) (by decide) (by decide)]
  refine n_dup dX13_init_1701 rfl ?_
  refine n_iconst (v := 3) dX13_init_1702 (by decide) ?_
  refine n_bipush (v := 115) dX13_init_1703 (by decide) ?_
  refine n_cast (a := 73) (k := 4) dX13_init_1705 ⟨rfl, (by show 73 < 74; omega), by decide⟩ (by unfold vp_in; decide) (by decide) ?_
  rw [rs2_st (F := FM) (n := 73) (j := 3) (by decide) (by decide)]
  rw [rs2_n (F := FM) (n := 73) (l := 4) (fun k hk => FM_hi (L := 4) (by decide) hk)]
  refine n_putR (a := 73) dX13_init_1706 fl_X13_236 rfl rfl rfl (fun _ => rfl) (fun _ => rfl) ⟨rfl, (by show 0 < 74; omega), by decide, by decide⟩ ?_
  exact h
theorem mc_75 (hJ : ∀ a, a ≠ 0 → J a = fun _ => 0) (h : GoN wM.1 (d + 1) 78 13175 mX13_init 1726 [(0, .ref 0)] [] 75 74 8032 (p2 P 0 92 74) (rs2 FM 75 0) J 79 Q) : GoN wM.1 (d + 1) 78 13175 mX13_init 1709 [(0, .ref 0)] [] 74 73 8030 P (rs2 FM 74 0) J 79 Q := by
  refine n_aload_n dX13_init_1709 0 0 rfl rfl ?_
  refine n_iconst (v := 2) dX13_init_1710 (by decide) ?_
  refine n_newC (k := 2) dX13_init_1711 (z_c7 3 (by decide +kernel) rfl) rfl rs2_0 (by decide) (by decide) (by decide) (by decide) (by decide) (by decide) ?_
  refine n_dup dX13_init_1713 rfl ?_
  refine n_iconst (v := 0) dX13_init_1714 (by decide) ?_
  refine n_bipush (v := 98) dX13_init_1715 (by decide) ?_
  refine n_cast (a := 74) (k := 2) dX13_init_1717 ⟨rfl, (by show 74 < 75; omega), by decide⟩ (by unfold vp_in; decide) (by decide) ?_
  rw [rs2_st (F := FM) (n := 74) (j := 0) (by decide) (by decide)]
  refine n_dup dX13_init_1718 rfl ?_
  refine n_iconst (v := 1) dX13_init_1719 (by decide) ?_
  refine n_bipush (v := 121) dX13_init_1720 (by decide) ?_
  refine n_cast (a := 74) (k := 2) dX13_init_1722 ⟨rfl, (by show 74 < 75; omega), by decide⟩ (by unfold vp_in; decide) (by decide) ?_
  rw [rs2_st (F := FM) (n := 74) (j := 1) (by decide) (by decide)]
  rw [rs2_n (F := FM) (n := 74) (l := 2) (fun k hk => FM_hi (L := 2) (by decide) hk)]
  refine n_putR (a := 74) dX13_init_1723 fl_X13_239 rfl rfl rfl (fun _ => rfl) (fun _ => rfl) ⟨rfl, (by show 0 < 75; omega), by decide, by decide⟩ ?_
  exact h
theorem mc_76 (hJ : ∀ a, a ≠ 0 → J a = fun _ => 0) (h : GoN wM.1 (d + 1) 78 13175 mX13_init 1735 [(0, .ref 0)] [] 76 75 9732 (p2 P 0 93 75) (rs2 FM 76 0) J 79 Q) : GoN wM.1 (d + 1) 78 13175 mX13_init 1726 [(0, .ref 0)] [] 75 74 8032 P (rs2 FM 75 0) J 79 Q := by
  refine n_aload_n dX13_init_1726 0 0 rfl rfl ?_
  refine n_sipush (v := 1700) dX13_init_1727 (by decide) ?_
  refine n_newI (k := 1700) dX13_init_1730 (z_c1 72 (by decide +kernel) rfl) rfl rs2_0 (by decide) (by decide) (by decide) (by decide) (by decide) (by decide) ?_
  rw [rs2_n (F := FM) (n := 75) (l := 0) (fun k hk => FM_hi (L := 0) (by decide) hk)]
  refine n_putR (a := 75) dX13_init_1732 fl_X13_242 rfl rfl rfl (fun _ => rfl) (fun _ => rfl) ⟨rfl, (by show 0 < 76; omega), by decide, by decide⟩ ?_
  exact h
theorem mc_77 (hJ : ∀ a, a ≠ 0 → J a = fun _ => 0) (h : GoN wM.1 (d + 1) 78 13175 mX13_init 1744 [(0, .ref 0)] [] 77 76 11432 (p2 P 0 95 76) (rs2 FM 77 0) J 79 Q) : GoN wM.1 (d + 1) 78 13175 mX13_init 1735 [(0, .ref 0)] [] 76 75 9732 P (rs2 FM 76 0) J 79 Q := by
  refine n_aload_n dX13_init_1735 0 0 rfl rfl ?_
  refine n_sipush (v := 1700) dX13_init_1736 (by decide) ?_
  refine n_newI (k := 1700) dX13_init_1739 (z_c1 72 (by decide +kernel) rfl) rfl rs2_0 (by decide) (by decide) (by decide) (by decide) (by decide) (by decide) ?_
  rw [rs2_n (F := FM) (n := 76) (l := 0) (fun k hk => FM_hi (L := 0) (by decide) hk)]
  refine n_putR (a := 76) dX13_init_1741 fl_X13_245 rfl rfl rfl (fun _ => rfl) (fun _ => rfl) ⟨rfl, (by show 0 < 77; omega), by decide, by decide⟩ ?_
  exact h
theorem mc_78 (hJ : ∀ a, a ≠ 0 → J a = fun _ => 0) (h : GoN wM.1 (d + 1) 78 13175 mX13_init 1753 [(0, .ref 0)] [] 78 77 13132 (p2 P 0 99 77) (rs2 FM 78 0) J 79 Q) : GoN wM.1 (d + 1) 78 13175 mX13_init 1744 [(0, .ref 0)] [] 77 76 11432 P (rs2 FM 77 0) J 79 Q := by
  refine n_aload_n dX13_init_1744 0 0 rfl rfl ?_
  refine n_sipush (v := 1700) dX13_init_1745 (by decide) ?_
  refine n_newL (k := 1700) dX13_init_1748 (z_c7 4 (by decide +kernel) rfl) rfl (hJ 77 (by omega)) (by decide) (by decide) (by decide) (by decide) (by decide) (by decide) ?_
  rw [rs2_n (F := FM) (n := 77) (l := 0) (fun k hk => FM_hi (L := 0) (by decide) hk)]
  refine n_putR (a := 77) dX13_init_1750 fl_X13_248 rfl rfl rfl (fun _ => rfl) (fun _ => rfl) ⟨rfl, (by show 0 < 78; omega), by decide, by decide⟩ ?_
  exact h
theorem mc_79 (hJ : ∀ a, a ≠ 0 → J a = fun _ => 0) (h : GoN wM.1 (d + 1) 78 13175 mX13_init 1761 [(0, .ref 0)] [] 79 78 13175 (p2 P 0 103 78) (rs2 FM 79 0) J 79 Q) : GoN wM.1 (d + 1) 78 13175 mX13_init 1753 [(0, .ref 0)] [] 78 77 13132 P (rs2 FM 78 0) J 79 Q := by
  refine n_aload_n dX13_init_1753 0 0 rfl rfl ?_
  refine n_bipush (v := 43) dX13_init_1754 (by decide) ?_
  refine n_newI (k := 43) dX13_init_1756 (z_c1 72 (by decide +kernel) rfl) rfl rs2_0 (by decide) (by decide) (by decide) (by decide) (by decide) (by decide) ?_
  rw [rs2_n (F := FM) (n := 78) (l := 0) (fun k hk => FM_hi (L := 0) (by decide) hk)]
  refine n_putR (a := 78) dX13_init_1758 fl_X13_251 rfl rfl rfl (fun _ => rfl) (fun _ => rfl) ⟨rfl, (by show 0 < 79; omega), by decide, by decide⟩ ?_
  exact h
theorem m_make {P0 : Rf} (hP0 : P0 0 = fun _ => none) (h : ∀ P', (∀ j, P' 0 j = z_PMl.getD j none) → Q P' (rs2 FM 79 0) (w2 (fun _ _ => 0) 0 67 1)) : CalN wM.1 (d + 1) 78 13175 mX13_init [.ref 0] 1 P0 (fun _ _ => 0) (fun _ _ => 0) 79 Q := by
  refine CalN.of (by omega) (by decide) rfl (Nat.le_of_ble_eq_true rfl) ?_
  rw [FM_start]
  have hz : ∀ a, a ≠ 0 → (fun _ _ => 0 : Jj) a = fun _ => 0 := fun _ _ => rfl
  have hz2 : ∀ a, a ≠ 0 → (w2 (fun _ _ => 0) 0 67 1 : Jj) a = fun _ => 0 := fun a ha => by funext j; rw [w2_o ha]
  have p1 : PFm P0 1 := fun j => by
    rw [hP0]
    cases hj : z_PMl.getD j none with
    | none => rfl
    | some a =>
      have h1 : ∀ j, j < 105 → ∀ a, a ∈ z_PMl.getD j none → 1 ≤ a := by decide +kernel
      have hj5 : j < 105 := by
        rcases Nat.lt_or_ge j 105 with y | y
        · exact y
        · rw [pm_hi (by omega)] at hj; cases hj
      have := h1 j hj5 a (by rw [hj]; rfl)
      simp only [Option.bind_some]
      rw [if_neg (by omega)]
  refine mc_0 hz ?_
  have p2 := PFm.s p1 (k := 0) rfl
  refine mc_1 ?_
  refine mc_2 hz ?_
  have p3 := PFm.s p2 (k := 9) rfl
  refine mc_3 hz ?_
  have p4 := PFm.s p3 (k := 10) rfl
  refine mc_4 hz ?_
  have p5 := PFm.s p4 (k := 11) rfl
  refine mc_5 hz ?_
  have p6 := PFm.s p5 (k := 12) rfl
  refine mc_6 hz ?_
  have p7 := PFm.s p6 (k := 13) rfl
  refine mc_7 hz ?_
  have p8 := PFm.s p7 (k := 14) rfl
  refine mc_8 hz ?_
  have p9 := PFm.s p8 (k := 15) rfl
  refine mc_9 hz ?_
  have p10 := PFm.s p9 (k := 16) rfl
  refine mc_10 hz ?_
  have p11 := PFm.s p10 (k := 17) rfl
  refine mc_11 hz ?_
  have p12 := PFm.s p11 (k := 18) rfl
  refine mc_12 hz ?_
  have p13 := PFm.s p12 (k := 19) rfl
  refine mc_13 hz ?_
  have p14 := PFm.s p13 (k := 20) rfl
  refine mc_14 hz ?_
  have p15 := PFm.s p14 (k := 21) rfl
  refine mc_15 hz ?_
  have p16 := PFm.s p15 (k := 22) rfl
  refine mc_16 hz ?_
  have p17 := PFm.s p16 (k := 23) rfl
  refine mc_17 hz ?_
  have p18 := PFm.s p17 (k := 24) rfl
  refine mc_18 hz ?_
  have p19 := PFm.s p18 (k := 25) rfl
  refine mc_19 hz ?_
  have p20 := PFm.s p19 (k := 26) rfl
  refine mc_20 hz ?_
  have p21 := PFm.s p20 (k := 27) rfl
  refine mc_21 hz ?_
  have p22 := PFm.s p21 (k := 28) rfl
  refine mc_22 hz ?_
  have p23 := PFm.s p22 (k := 29) rfl
  refine mc_23 hz ?_
  have p24 := PFm.s p23 (k := 30) rfl
  refine mc_24 hz ?_
  have p25 := PFm.s p24 (k := 31) rfl
  refine mc_25 hz ?_
  have p26 := PFm.s p25 (k := 32) rfl
  refine mc_26 hz ?_
  have p27 := PFm.s p26 (k := 33) rfl
  refine mc_27 hz ?_
  have p28 := PFm.s p27 (k := 34) rfl
  refine mc_28 hz ?_
  have p29 := PFm.s p28 (k := 35) rfl
  refine mc_29 hz ?_
  have p30 := PFm.s p29 (k := 36) rfl
  refine mc_30 hz ?_
  have p31 := PFm.s p30 (k := 37) rfl
  refine mc_31 hz ?_
  have p32 := PFm.s p31 (k := 39) rfl
  refine mc_32 hz ?_
  have p33 := PFm.s p32 (k := 40) rfl
  refine mc_33 hz ?_
  have p34 := PFm.s p33 (k := 41) rfl
  refine mc_34 hz ?_
  have p35 := PFm.s p34 (k := 42) rfl
  refine mc_35 hz ?_
  have p36 := PFm.s p35 (k := 43) rfl
  refine mc_36 hz ?_
  have p37 := PFm.s p36 (k := 44) rfl
  refine mc_37 hz ?_
  have p38 := PFm.s p37 (k := 45) rfl
  refine mc_38 hz ?_
  have p39 := PFm.s p38 (k := 46) rfl
  refine mc_39 hz ?_
  have p40 := PFm.s p39 (k := 47) rfl
  refine mc_40 hz ?_
  have p41 := PFm.s p40 (k := 48) rfl
  refine mc_41 hz ?_
  have p42 := PFm.s p41 (k := 49) rfl
  refine mc_42 hz ?_
  have p43 := PFm.s p42 (k := 53) rfl
  refine mc_43 hz ?_
  have p44 := PFm.s p43 (k := 54) rfl
  refine mc_44 hz ?_
  have p45 := PFm.s p44 (k := 56) rfl
  refine mc_45 hz ?_
  have p46 := PFm.s p45 (k := 57) rfl
  refine mc_46 hz ?_
  have p47 := PFm.s p46 (k := 61) rfl
  refine mc_47 hz ?_
  have p48 := PFm.s p47 (k := 62) rfl
  refine mc_48 hz ?_
  have p49 := PFm.s p48 (k := 63) rfl
  refine mc_49 hz ?_
  have p50 := PFm.s p49 (k := 64) rfl
  refine mc_50 ?_
  refine mc_51 hz2 ?_
  have p51 := PFm.s p50 (k := 68) rfl
  refine mc_52 hz2 ?_
  have p52 := PFm.s p51 (k := 69) rfl
  refine mc_53 hz2 ?_
  have p53 := PFm.s p52 (k := 70) rfl
  refine mc_54 hz2 ?_
  have p54 := PFm.s p53 (k := 71) rfl
  refine mc_55 hz2 ?_
  have p55 := PFm.s p54 (k := 72) rfl
  refine mc_56 hz2 ?_
  have p56 := PFm.s p55 (k := 73) rfl
  refine mc_57 hz2 ?_
  have p57 := PFm.s p56 (k := 74) rfl
  refine mc_58 hz2 ?_
  have p58 := PFm.s p57 (k := 75) rfl
  refine mc_59 hz2 ?_
  have p59 := PFm.s p58 (k := 76) rfl
  refine mc_60 hz2 ?_
  have p60 := PFm.s p59 (k := 77) rfl
  refine mc_61 hz2 ?_
  have p61 := PFm.s p60 (k := 78) rfl
  refine mc_62 hz2 ?_
  have p62 := PFm.s p61 (k := 79) rfl
  refine mc_63 hz2 ?_
  have p63 := PFm.s p62 (k := 80) rfl
  refine mc_64 hz2 ?_
  have p64 := PFm.s p63 (k := 81) rfl
  refine mc_65 hz2 ?_
  have p65 := PFm.s p64 (k := 82) rfl
  refine mc_66 hz2 ?_
  have p66 := PFm.s p65 (k := 83) rfl
  refine mc_67 hz2 ?_
  have p67 := PFm.s p66 (k := 84) rfl
  refine mc_68 hz2 ?_
  have p68 := PFm.s p67 (k := 85) rfl
  refine mc_69 hz2 ?_
  have p69 := PFm.s p68 (k := 86) rfl
  refine mc_70 hz2 ?_
  have p70 := PFm.s p69 (k := 87) rfl
  refine mc_71 hz2 ?_
  have p71 := PFm.s p70 (k := 88) rfl
  refine mc_72 hz2 ?_
  have p72 := PFm.s p71 (k := 89) rfl
  refine mc_73 hz2 ?_
  have p73 := PFm.s p72 (k := 90) rfl
  refine mc_74 hz2 ?_
  have p74 := PFm.s p73 (k := 91) rfl
  refine mc_75 hz2 ?_
  have p75 := PFm.s p74 (k := 92) rfl
  refine mc_76 hz2 ?_
  have p76 := PFm.s p75 (k := 93) rfl
  refine mc_77 hz2 ?_
  have p77 := PFm.s p76 (k := 95) rfl
  refine mc_78 hz2 ?_
  have p78 := PFm.s p77 (k := 99) rfl
  refine mc_79 hz2 ?_
  have p79 := PFm.s p78 (k := 103) rfl
  refine n_return dX13_init_1761 rfl (by decide) (by decide) (h _ (fun j => ?_))
  rw [p79 j]
  cases hj : z_PMl.getD j none with
  | none => rfl
  | some a =>
    have h1 : ∀ j, j < 105 → ∀ a, a ∈ z_PMl.getD j none → a < 79 := by decide +kernel
    have hj5 : j < 105 := by
      rcases Nat.lt_or_ge j 105 with y | y
      · exact y
      · rw [pm_hi (by omega)] at hj; cases hj
    have := h1 j hj5 a (by rw [hj]; rfl)
    simp only [Option.bind_some]
    rw [if_pos (by omega)]
end NM
