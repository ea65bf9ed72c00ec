def dfl11 : List Value := [.null, .null, .null, .null, .null, .int 0, .null, .int 0, .int 0, .int 0, .int 0, .int 0, .int 0, .int 0, .int 0, .int 0, .int 0, .int 0, .null, .int 0, .int 0, .null, .null, .null, .null, .int 0, .null, .null, .null, .null, .null, .null, .int 0, .int 0, .null, .null, .null, .null, .null, .int 0, .int 0, .int 0, .int 0, .null, .null, .null, .null, .null, .null, .null, .int 0, .int 0]
theorem dfv11 : ∀ j, j < 52 → defaultValue (tyX11 j) = vp_V dfl11 j := by decide +kernel
theorem wci_11 : Cond.code yX11_init cX11_init 1 none ∈ ws0 := tb_6 181 rfl rfl
theorem wii_11 : Cond.instanceMethod yX11_init ∈ ws0 := tb_6 180 (by decide +kernel) rfl
theorem win_11 : Cond.instantiable RX11 52 ∈ ws0 := tb_6 178 (by decide +kernel) rfl
theorem dX11_init_0 : decode cX11_init 0 = .ok (.aload_n 0, 1) := by decide +kernel
theorem dX11_init_1 : decode cX11_init 1 = .ok (.invokespecial 1, 3) := by decide +kernel
theorem dX11_init_4 : decode cX11_init 4 = .ok (.aload_n 0, 1) := by decide +kernel
theorem dX11_init_5 : decode cX11_init 5 = .ok (.sipush 140, 3) := by decide +kernel
theorem dX11_init_8 : decode cX11_init 8 = .ok (.newarray .int, 2) := by decide +kernel
theorem dX11_init_10 : decode cX11_init 10 = .ok (.putfield 7, 3) := by decide +kernel
theorem dX11_init_13 : decode cX11_init 13 = .ok (.aload_n 0, 1) := by decide +kernel
theorem dX11_init_14 : decode cX11_init 14 = .ok (.iconst 2, 1) := by decide +kernel
theorem dX11_init_15 : decode cX11_init 15 = .ok (.newarray .int, 2) := by decide +kernel
theorem dX11_init_17 : decode cX11_init 17 = .ok (.putfield 13, 3) := by decide +kernel
theorem dX11_init_20 : decode cX11_init 20 = .ok (.aload_n 0, 1) := by decide +kernel
theorem dX11_init_21 : decode cX11_init 21 = .ok (.iconst 2, 1) := by decide +kernel
theorem dX11_init_22 : decode cX11_init 22 = .ok (.newarray .int, 2) := by decide +kernel
theorem dX11_init_24 : decode cX11_init 24 = .ok (.putfield 16, 3) := by decide +kernel
theorem dX11_init_27 : decode cX11_init 27 = .ok (.aload_n 0, 1) := by decide +kernel
theorem dX11_init_28 : decode cX11_init 28 = .ok (.iconst 2, 1) := by decide +kernel
theorem dX11_init_29 : decode cX11_init 29 = .ok (.newarray .int, 2) := by decide +kernel
theorem dX11_init_31 : decode cX11_init 31 = .ok (.putfield 19, 3) := by decide +kernel
theorem dX11_init_34 : decode cX11_init 34 = .ok (.aload_n 0, 1) := by decide +kernel
theorem dX11_init_35 : decode cX11_init 35 = .ok (.sipush 280, 3) := by decide +kernel
theorem dX11_init_38 : decode cX11_init 38 = .ok (.newarray .int, 2) := by decide +kernel
theorem dX11_init_40 : decode cX11_init 40 = .ok (.putfield 22, 3) := by decide +kernel
theorem dX11_init_43 : decode cX11_init 43 = .ok (.aload_n 0, 1) := by decide +kernel
theorem dX11_init_44 : decode cX11_init 44 = .ok (.sipush 800, 3) := by decide +kernel
theorem dX11_init_47 : decode cX11_init 47 = .ok (.newarray .byte, 2) := by decide +kernel
theorem dX11_init_49 : decode cX11_init 49 = .ok (.putfield 25, 3) := by decide +kernel
theorem dX11_init_52 : decode cX11_init 52 = .ok (.aload_n 0, 1) := by decide +kernel
theorem dX11_init_53 : decode cX11_init 53 = .ok (.iconst (-1), 1) := by decide +kernel
theorem dX11_init_54 : decode cX11_init 54 = .ok (.putfield 29, 3) := by decide +kernel
theorem dX11_init_57 : decode cX11_init 57 = .ok (.aload_n 0, 1) := by decide +kernel
theorem dX11_init_58 : decode cX11_init 58 = .ok (.bipush 69, 2) := by decide +kernel
theorem dX11_init_60 : decode cX11_init 60 = .ok (.newarray .byte, 2) := by decide +kernel
theorem dX11_init_62 : decode cX11_init 62 = .ok (.dup, 1) := by decide +kernel
theorem dX11_init_63 : decode cX11_init 63 = .ok (.iconst 0, 1) := by decide +kernel
theorem dX11_init_64 : decode cX11_init 64 = .ok (.bipush 110, 2) := by decide +kernel
theorem dX11_init_66 : decode cX11_init 66 = .ok (.bastore, 1) := by decide +kernel
theorem dX11_init_67 : decode cX11_init 67 = .ok (.dup, 1) := by decide +kernel
theorem dX11_init_68 : decode cX11_init 68 = .ok (.iconst 1, 1) := by decide +kernel
theorem dX11_init_69 : decode cX11_init 69 = .ok (.bipush 111, 2) := by decide +kernel
theorem dX11_init_71 : decode cX11_init 71 = .ok (.bastore, 1) := by decide +kernel
theorem dX11_init_72 : decode cX11_init 72 = .ok (.dup, 1) := by decide +kernel
theorem dX11_init_73 : decode cX11_init 73 = .ok (.iconst 2, 1) := by decide +kernel
theorem dX11_init_74 : decode cX11_init 74 = .ok (.bipush 110, 2) := by decide +kernel
theorem dX11_init_76 : decode cX11_init 76 = .ok (.bastore, 1) := by decide +kernel
theorem dX11_init_77 : decode cX11_init 77 = .ok (.dup, 1) := by decide +kernel
theorem dX11_init_78 : decode cX11_init 78 = .ok (.iconst 3, 1) := by decide +kernel
theorem dX11_init_79 : decode cX11_init 79 = .ok (.bipush 101, 2) := by decide +kernel
theorem dX11_init_81 : decode cX11_init 81 = .ok (.bastore, 1) := by decide +kernel
theorem dX11_init_82 : decode cX11_init 82 = .ok (.dup, 1) := by decide +kernel
theorem dX11_init_83 : decode cX11_init 83 = .ok (.iconst 4, 1) := by decide +kernel
theorem dX11_init_84 : decode cX11_init 84 = .ok (.bipush 32, 2) := by decide +kernel
theorem dX11_init_86 : decode cX11_init 86 = .ok (.bastore, 1) := by decide +kernel
theorem dX11_init_87 : decode cX11_init 87 = .ok (.dup, 1) := by decide +kernel
theorem dX11_init_88 : decode cX11_init 88 = .ok (.iconst 5, 1) := by decide +kernel
theorem dX11_init_89 : decode cX11_init 89 = .ok (.bipush 99, 2) := by decide +kernel
theorem dX11_init_91 : decode cX11_init 91 = .ok (.bastore, 1) := by decide +kernel
theorem dX11_init_92 : decode cX11_init 92 = .ok (.dup, 1) := by decide +kernel
theorem dX11_init_93 : decode cX11_init 93 = .ok (.bipush 6, 2) := by decide +kernel
theorem dX11_init_95 : decode cX11_init 95 = .ok (.bipush 111, 2) := by decide +kernel
theorem dX11_init_97 : decode cX11_init 97 = .ok (.bastore, 1) := by decide +kernel
theorem dX11_init_98 : decode cX11_init 98 = .ok (.dup, 1) := by decide +kernel
theorem dX11_init_99 : decode cX11_init 99 = .ok (.bipush 7, 2) := by decide +kernel
theorem dX11_init_101 : decode cX11_init 101 = .ok (.bipush 109, 2) := by decide +kernel
theorem dX11_init_103 : decode cX11_init 103 = .ok (.bastore, 1) := by decide +kernel
theorem dX11_init_104 : decode cX11_init 104 = .ok (.dup, 1) := by decide +kernel
theorem dX11_init_105 : decode cX11_init 105 = .ok (.bipush 8, 2) := by decide +kernel
theorem dX11_init_107 : decode cX11_init 107 = .ok (.bipush 98, 2) := by decide +kernel
theorem dX11_init_109 : decode cX11_init 109 = .ok (.bastore, 1) := by decide +kernel
theorem dX11_init_110 : decode cX11_init 110 = .ok (.dup, 1) := by decide +kernel
theorem dX11_init_111 : decode cX11_init 111 = .ok (.bipush 9, 2) := by decide +kernel
theorem dX11_init_113 : decode cX11_init 113 = .ok (.bipush 32, 2) := by decide +kernel
theorem dX11_init_115 : decode cX11_init 115 = .ok (.bastore, 1) := by decide +kernel
theorem dX11_init_116 : decode cX11_init 116 = .ok (.dup, 1) := by decide +kernel
theorem dX11_init_117 : decode cX11_init 117 = .ok (.bipush 10, 2) := by decide +kernel
theorem dX11_init_119 : decode cX11_init 119 = .ok (.bipush 116, 2) := by decide +kernel
theorem dX11_init_121 : decode cX11_init 121 = .ok (.bastore, 1) := by decide +kernel
theorem dX11_init_122 : decode cX11_init 122 = .ok (.dup, 1) := by decide +kernel
theorem dX11_init_123 : decode cX11_init 123 = .ok (.bipush 11, 2) := by decide +kernel
theorem dX11_init_125 : decode cX11_init 125 = .ok (.bipush 104, 2) := by decide +kernel
theorem dX11_init_127 : decode cX11_init 127 = .ok (.bastore, 1) := by decide +kernel
theorem dX11_init_128 : decode cX11_init 128 = .ok (.dup, 1) := by decide +kernel
theorem dX11_init_129 : decode cX11_init 129 = .ok (.bipush 12, 2) := by decide +kernel
theorem dX11_init_131 : decode cX11_init 131 = .ok (.bipush 114, 2) := by decide +kernel
theorem dX11_init_133 : decode cX11_init 133 = .ok (.bastore, 1) := by decide +kernel
theorem dX11_init_134 : decode cX11_init 134 = .ok (.dup, 1) := by decide +kernel
theorem dX11_init_135 : decode cX11_init 135 = .ok (.bipush 13, 2) := by decide +kernel
theorem dX11_init_137 : decode cX11_init 137 = .ok (.bipush 117, 2) := by decide +kernel
theorem dX11_init_139 : decode cX11_init 139 = .ok (.bastore, 1) := by decide +kernel
theorem dX11_init_140 : decode cX11_init 140 = .ok (.dup, 1) := by decide +kernel
theorem dX11_init_141 : decode cX11_init 141 = .ok (.bipush 14, 2) := by decide +kernel
theorem dX11_init_143 : decode cX11_init 143 = .ok (.bipush 32, 2) := by decide +kernel
theorem dX11_init_145 : decode cX11_init 145 = .ok (.bastore, 1) := by decide +kernel
theorem dX11_init_146 : decode cX11_init 146 = .ok (.dup, 1) := by decide +kernel
theorem dX11_init_147 : decode cX11_init 147 = .ok (.bipush 15, 2) := by decide +kernel
theorem dX11_init_149 : decode cX11_init 149 = .ok (.bipush 112, 2) := by decide +kernel
theorem dX11_init_151 : decode cX11_init 151 = .ok (.bastore, 1) := by decide +kernel
theorem dX11_init_152 : decode cX11_init 152 = .ok (.dup, 1) := by decide +kernel
theorem dX11_init_153 : decode cX11_init 153 = .ok (.bipush 16, 2) := by decide +kernel
theorem dX11_init_155 : decode cX11_init 155 = .ok (.bipush 114, 2) := by decide +kernel
theorem dX11_init_157 : decode cX11_init 157 = .ok (.bastore, 1) := by decide +kernel
theorem dX11_init_158 : decode cX11_init 158 = .ok (.dup, 1) := by decide +kernel
theorem dX11_init_159 : decode cX11_init 159 = .ok (.bipush 17, 2) := by decide +kernel
theorem dX11_init_161 : decode cX11_init 161 = .ok (.bipush 111, 2) := by decide +kernel
theorem dX11_init_163 : decode cX11_init 163 = .ok (.bastore, 1) := by decide +kernel
theorem dX11_init_164 : decode cX11_init 164 = .ok (.dup, 1) := by decide +kernel
theorem dX11_init_165 : decode cX11_init 165 = .ok (.bipush 18, 2) := by decide +kernel
theorem dX11_init_167 : decode cX11_init 167 = .ok (.bipush 116, 2) := by decide +kernel
theorem dX11_init_169 : decode cX11_init 169 = .ok (.bastore, 1) := by decide +kernel
theorem dX11_init_170 : decode cX11_init 170 = .ok (.dup, 1) := by decide +kernel
theorem dX11_init_171 : decode cX11_init 171 = .ok (.bipush 19, 2) := by decide +kernel
theorem dX11_init_173 : decode cX11_init 173 = .ok (.bipush 32, 2) := by decide +kernel
theorem dX11_init_175 : decode cX11_init 175 = .ok (.bastore, 1) := by decide +kernel
theorem dX11_init_176 : decode cX11_init 176 = .ok (.dup, 1) := by decide +kernel
theorem dX11_init_177 : decode cX11_init 177 = .ok (.bipush 20, 2) := by decide +kernel
theorem dX11_init_179 : decode cX11_init 179 = .ok (.bipush 98, 2) := by decide +kernel
theorem dX11_init_181 : decode cX11_init 181 = .ok (.bastore, 1) := by decide +kernel
theorem dX11_init_182 : decode cX11_init 182 = .ok (.dup, 1) := by decide +kernel
theorem dX11_init_183 : decode cX11_init 183 = .ok (.bipush 21, 2) := by decide +kernel
theorem dX11_init_185 : decode cX11_init 185 = .ok (.bipush 97, 2) := by decide +kernel
theorem dX11_init_187 : decode cX11_init 187 = .ok (.bastore, 1) := by decide +kernel
theorem dX11_init_188 : decode cX11_init 188 = .ok (.dup, 1) := by decide +kernel
theorem dX11_init_189 : decode cX11_init 189 = .ok (.bipush 22, 2) := by decide +kernel
theorem dX11_init_191 : decode cX11_init 191 = .ok (.bipush 99, 2) := by decide +kernel
theorem dX11_init_193 : decode cX11_init 193 = .ok (.bastore, 1) := by decide +kernel
theorem dX11_init_194 : decode cX11_init 194 = .ok (.dup, 1) := by decide +kernel
theorem dX11_init_195 : decode cX11_init 195 = .ok (.bipush 23, 2) := by decide +kernel
theorem dX11_init_197 : decode cX11_init 197 = .ok (.bipush 107, 2) := by decide +kernel
theorem dX11_init_199 : decode cX11_init 199 = .ok (.bastore, 1) := by decide +kernel
theorem dX11_init_200 : decode cX11_init 200 = .ok (.dup, 1) := by decide +kernel
theorem dX11_init_201 : decode cX11_init 201 = .ok (.bipush 24, 2) := by decide +kernel
theorem dX11_init_203 : decode cX11_init 203 = .ok (.bipush 32, 2) := by decide +kernel
theorem dX11_init_205 : decode cX11_init 205 = .ok (.bastore, 1) := by decide +kernel
theorem dX11_init_206 : decode cX11_init 206 = .ok (.dup, 1) := by decide +kernel
theorem dX11_init_207 : decode cX11_init 207 = .ok (.bipush 25, 2) := by decide +kernel
theorem dX11_init_209 : decode cX11_init 209 = .ok (.bipush 115, 2) := by decide +kernel
theorem dX11_init_211 : decode cX11_init 211 = .ok (.bastore, 1) := by decide +kernel
theorem dX11_init_212 : decode cX11_init 212 = .ok (.dup, 1) := by decide +kernel
theorem dX11_init_213 : decode cX11_init 213 = .ok (.bipush 26, 2) := by decide +kernel
theorem dX11_init_215 : decode cX11_init 215 = .ok (.bipush 112, 2) := by decide +kernel
theorem dX11_init_217 : decode cX11_init 217 = .ok (.bastore, 1) := by decide +kernel
theorem dX11_init_218 : decode cX11_init 218 = .ok (.dup, 1) := by decide +kernel
theorem dX11_init_219 : decode cX11_init 219 = .ok (.bipush 27, 2) := by decide +kernel
theorem dX11_init_221 : decode cX11_init 221 = .ok (.bipush 97, 2) := by decide +kernel
theorem dX11_init_223 : decode cX11_init 223 = .ok (.bastore, 1) := by decide +kernel
theorem dX11_init_224 : decode cX11_init 224 = .ok (.dup, 1) := by decide +kernel
theorem dX11_init_225 : decode cX11_init 225 = .ok (.bipush 28, 2) := by decide +kernel
theorem dX11_init_227 : decode cX11_init 227 = .ok (.bipush 99, 2) := by decide +kernel
theorem dX11_init_229 : decode cX11_init 229 = .ok (.bastore, 1) := by decide +kernel
theorem dX11_init_230 : decode cX11_init 230 = .ok (.dup, 1) := by decide +kernel
theorem dX11_init_231 : decode cX11_init 231 = .ok (.bipush 29, 2) := by decide +kernel
theorem dX11_init_233 : decode cX11_init 233 = .ok (.bipush 101, 2) := by decide +kernel
theorem dX11_init_235 : decode cX11_init 235 = .ok (.bastore, 1) := by decide +kernel
theorem dX11_init_236 : decode cX11_init 236 = .ok (.dup, 1) := by decide +kernel
theorem dX11_init_237 : decode cX11_init 237 = .ok (.bipush 30, 2) := by decide +kernel
theorem dX11_init_239 : decode cX11_init 239 = .ok (.bipush 32, 2) := by decide +kernel
theorem dX11_init_241 : decode cX11_init 241 = .ok (.bastore, 1) := by decide +kernel
theorem dX11_init_242 : decode cX11_init 242 = .ok (.dup, 1) := by decide +kernel
theorem dX11_init_243 : decode cX11_init 243 = .ok (.bipush 31, 2) := by decide +kernel
theorem dX11_init_245 : decode cX11_init 245 = .ok (.bipush 114, 2) := by decide +kernel
theorem dX11_init_247 : decode cX11_init 247 = .ok (.bastore, 1) := by decide +kernel
theorem dX11_init_248 : decode cX11_init 248 = .ok (.dup, 1) := by decide +kernel
theorem dX11_init_249 : decode cX11_init 249 = .ok (.bipush 32, 2) := by decide +kernel
theorem dX11_init_251 : decode cX11_init 251 = .ok (.bipush 101, 2) := by decide +kernel
theorem dX11_init_253 : decode cX11_init 253 = .ok (.bastore, 1) := by decide +kernel
theorem dX11_init_254 : decode cX11_init 254 = .ok (.dup, 1) := by decide +kernel
theorem dX11_init_255 : decode cX11_init 255 = .ok (.bipush 33, 2) := by decide +kernel
theorem dX11_init_257 : decode cX11_init 257 = .ok (.bipush 103, 2) := by decide +kernel
theorem dX11_init_259 : decode cX11_init 259 = .ok (.bastore, 1) := by decide +kernel
theorem dX11_init_260 : decode cX11_init 260 = .ok (.dup, 1) := by decide +kernel
theorem dX11_init_261 : decode cX11_init 261 = .ok (.bipush 34, 2) := by decide +kernel
theorem dX11_init_263 : decode cX11_init 263 = .ok (.bipush 105, 2) := by decide +kernel
theorem dX11_init_265 : decode cX11_init 265 = .ok (.bastore, 1) := by decide +kernel
theorem dX11_init_266 : decode cX11_init 266 = .ok (.dup, 1) := by decide +kernel
theorem dX11_init_267 : decode cX11_init 267 = .ok (.bipush 35, 2) := by decide +kernel
theorem dX11_init_269 : decode cX11_init 269 = .ok (.bipush 115, 2) := by decide +kernel
theorem dX11_init_271 : decode cX11_init 271 = .ok (.bastore, 1) := by decide +kernel
theorem dX11_init_272 : decode cX11_init 272 = .ok (.dup, 1) := by decide +kernel
theorem dX11_init_273 : decode cX11_init 273 = .ok (.bipush 36, 2) := by decide +kernel
theorem dX11_init_275 : decode cX11_init 275 = .ok (.bipush 116, 2) := by decide +kernel
theorem dX11_init_277 : decode cX11_init 277 = .ok (.bastore, 1) := by decide +kernel
theorem dX11_init_278 : decode cX11_init 278 = .ok (.dup, 1) := by decide +kernel
theorem dX11_init_279 : decode cX11_init 279 = .ok (.bipush 37, 2) := by decide +kernel
theorem dX11_init_281 : decode cX11_init 281 = .ok (.bipush 101, 2) := by decide +kernel
theorem dX11_init_283 : decode cX11_init 283 = .ok (.bastore, 1) := by decide +kernel
theorem dX11_init_284 : decode cX11_init 284 = .ok (.dup, 1) := by decide +kernel
theorem dX11_init_285 : decode cX11_init 285 = .ok (.bipush 38, 2) := by decide +kernel
theorem dX11_init_287 : decode cX11_init 287 = .ok (.bipush 114, 2) := by decide +kernel
theorem dX11_init_289 : decode cX11_init 289 = .ok (.bastore, 1) := by decide +kernel
theorem dX11_init_290 : decode cX11_init 290 = .ok (.dup, 1) := by decide +kernel
theorem dX11_init_291 : decode cX11_init 291 = .ok (.bipush 39, 2) := by decide +kernel
theorem dX11_init_293 : decode cX11_init 293 = .ok (.bipush 115, 2) := by decide +kernel
theorem dX11_init_295 : decode cX11_init 295 = .ok (.bastore, 1) := by decide +kernel
theorem dX11_init_296 : decode cX11_init 296 = .ok (.dup, 1) := by decide +kernel
theorem dX11_init_297 : decode cX11_init 297 = .ok (.bipush 40, 2) := by decide +kernel
theorem dX11_init_299 : decode cX11_init 299 = .ok (.bipush 32, 2) := by decide +kernel
theorem dX11_init_301 : decode cX11_init 301 = .ok (.bastore, 1) := by decide +kernel
theorem dX11_init_302 : decode cX11_init 302 = .ok (.dup, 1) := by decide +kernel
theorem dX11_init_303 : decode cX11_init 303 = .ok (.bipush 41, 2) := by decide +kernel
theorem dX11_init_305 : decode cX11_init 305 = .ok (.bipush 100, 2) := by decide +kernel
theorem dX11_init_307 : decode cX11_init 307 = .ok (.bastore, 1) := by decide +kernel
theorem dX11_init_308 : decode cX11_init 308 = .ok (.dup, 1) := by decide +kernel
theorem dX11_init_309 : decode cX11_init 309 = .ok (.bipush 42, 2) := by decide +kernel
theorem dX11_init_311 : decode cX11_init 311 = .ok (.bipush 101, 2) := by decide +kernel
theorem dX11_init_313 : decode cX11_init 313 = .ok (.bastore, 1) := by decide +kernel
theorem dX11_init_314 : decode cX11_init 314 = .ok (.dup, 1) := by decide +kernel
theorem dX11_init_315 : decode cX11_init 315 = .ok (.bipush 43, 2) := by decide +kernel
theorem dX11_init_317 : decode cX11_init 317 = .ok (.bipush 102, 2) := by decide +kernel
theorem dX11_init_319 : decode cX11_init 319 = .ok (.bastore, 1) := by decide +kernel
theorem dX11_init_320 : decode cX11_init 320 = .ok (.dup, 1) := by decide +kernel
theorem dX11_init_321 : decode cX11_init 321 = .ok (.bipush 44, 2) := by decide +kernel
theorem dX11_init_323 : decode cX11_init 323 = .ok (.bipush 97, 2) := by decide +kernel
theorem dX11_init_325 : decode cX11_init 325 = .ok (.bastore, 1) := by decide +kernel
theorem dX11_init_326 : decode cX11_init 326 = .ok (.dup, 1) := by decide +kernel
theorem dX11_init_327 : decode cX11_init 327 = .ok (.bipush 45, 2) := by decide +kernel
theorem dX11_init_329 : decode cX11_init 329 = .ok (.bipush 117, 2) := by decide +kernel
theorem dX11_init_331 : decode cX11_init 331 = .ok (.bastore, 1) := by decide +kernel
theorem dX11_init_332 : decode cX11_init 332 = .ok (.dup, 1) := by decide +kernel
theorem dX11_init_333 : decode cX11_init 333 = .ok (.bipush 46, 2) := by decide +kernel
theorem dX11_init_335 : decode cX11_init 335 = .ok (.bipush 108, 2) := by decide +kernel
theorem dX11_init_337 : decode cX11_init 337 = .ok (.bastore, 1) := by decide +kernel
theorem dX11_init_338 : decode cX11_init 338 = .ok (.dup, 1) := by decide +kernel
theorem dX11_init_339 : decode cX11_init 339 = .ok (.bipush 47, 2) := by decide +kernel
theorem dX11_init_341 : decode cX11_init 341 = .ok (.bipush 116, 2) := by decide +kernel
theorem dX11_init_343 : decode cX11_init 343 = .ok (.bastore, 1) := by decide +kernel
theorem dX11_init_344 : decode cX11_init 344 = .ok (.dup, 1) := by decide +kernel
theorem dX11_init_345 : decode cX11_init 345 = .ok (.bipush 48, 2) := by decide +kernel
theorem dX11_init_347 : decode cX11_init 347 = .ok (.bipush 32, 2) := by decide +kernel
theorem dX11_init_349 : decode cX11_init 349 = .ok (.bastore, 1) := by decide +kernel
theorem dX11_init_350 : decode cX11_init 350 = .ok (.dup, 1) := by decide +kernel
theorem dX11_init_351 : decode cX11_init 351 = .ok (.bipush 49, 2) := by decide +kernel
theorem dX11_init_353 : decode cX11_init 353 = .ok (.bipush 102, 2) := by decide +kernel
theorem dX11_init_355 : decode cX11_init 355 = .ok (.bastore, 1) := by decide +kernel
theorem dX11_init_356 : decode cX11_init 356 = .ok (.dup, 1) := by decide +kernel
theorem dX11_init_357 : decode cX11_init 357 = .ok (.bipush 50, 2) := by decide +kernel
theorem dX11_init_359 : decode cX11_init 359 = .ok (.bipush 105, 2) := by decide +kernel
theorem dX11_init_361 : decode cX11_init 361 = .ok (.bastore, 1) := by decide +kernel
theorem dX11_init_362 : decode cX11_init 362 = .ok (.dup, 1) := by decide +kernel
theorem dX11_init_363 : decode cX11_init 363 = .ok (.bipush 51, 2) := by decide +kernel
theorem dX11_init_365 : decode cX11_init 365 = .ok (.bipush 120, 2) := by decide +kernel
theorem dX11_init_367 : decode cX11_init 367 = .ok (.bastore, 1) := by decide +kernel
theorem dX11_init_368 : decode cX11_init 368 = .ok (.dup, 1) := by decide +kernel
theorem dX11_init_369 : decode cX11_init 369 = .ok (.bipush 52, 2) := by decide +kernel
theorem dX11_init_371 : decode cX11_init 371 = .ok (.bipush 101, 2) := by decide +kernel
theorem dX11_init_373 : decode cX11_init 373 = .ok (.bastore, 1) := by decide +kernel
theorem dX11_init_374 : decode cX11_init 374 = .ok (.dup, 1) := by decide +kernel
theorem dX11_init_375 : decode cX11_init 375 = .ok (.bipush 53, 2) := by decide +kernel
theorem dX11_init_377 : decode cX11_init 377 = .ok (.bipush 100, 2) := by decide +kernel
theorem dX11_init_379 : decode cX11_init 379 = .ok (.bastore, 1) := by decide +kernel
theorem dX11_init_380 : decode cX11_init 380 = .ok (.dup, 1) := by decide +kernel
theorem dX11_init_381 : decode cX11_init 381 = .ok (.bipush 54, 2) := by decide +kernel
theorem dX11_init_383 : decode cX11_init 383 = .ok (.bipush 32, 2) := by decide +kernel
theorem dX11_init_385 : decode cX11_init 385 = .ok (.bastore, 1) := by decide +kernel
theorem dX11_init_386 : decode cX11_init 386 = .ok (.dup, 1) := by decide +kernel
theorem dX11_init_387 : decode cX11_init 387 = .ok (.bipush 55, 2) := by decide +kernel
theorem dX11_init_389 : decode cX11_init 389 = .ok (.bipush 115, 2) := by decide +kernel
theorem dX11_init_391 : decode cX11_init 391 = .ok (.bastore, 1) := by decide +kernel
theorem dX11_init_392 : decode cX11_init 392 = .ok (.dup, 1) := by decide +kernel
theorem dX11_init_393 : decode cX11_init 393 = .ok (.bipush 56, 2) := by decide +kernel
theorem dX11_init_395 : decode cX11_init 395 = .ok (.bipush 112, 2) := by decide +kernel
theorem dX11_init_397 : decode cX11_init 397 = .ok (.bastore, 1) := by decide +kernel
theorem dX11_init_398 : decode cX11_init 398 = .ok (.dup, 1) := by decide +kernel
theorem dX11_init_399 : decode cX11_init 399 = .ok (.bipush 57, 2) := by decide +kernel
theorem dX11_init_401 : decode cX11_init 401 = .ok (.bipush 97, 2) := by decide +kernel
theorem dX11_init_403 : decode cX11_init 403 = .ok (.bastore, 1) := by decide +kernel
theorem dX11_init_404 : decode cX11_init 404 = .ok (.dup, 1) := by decide +kernel
theorem dX11_init_405 : decode cX11_init 405 = .ok (.bipush 58, 2) := by decide +kernel
theorem dX11_init_407 : decode cX11_init 407 = .ok (.bipush 110, 2) := by decide +kernel
theorem dX11_init_409 : decode cX11_init 409 = .ok (.bastore, 1) := by decide +kernel
theorem dX11_init_410 : decode cX11_init 410 = .ok (.dup, 1) := by decide +kernel
theorem dX11_init_411 : decode cX11_init 411 = .ok (.bipush 59, 2) := by decide +kernel
theorem dX11_init_413 : decode cX11_init 413 = .ok (.bipush 32, 2) := by decide +kernel
theorem dX11_init_415 : decode cX11_init 415 = .ok (.bastore, 1) := by decide +kernel
theorem dX11_init_416 : decode cX11_init 416 = .ok (.dup, 1) := by decide +kernel
theorem dX11_init_417 : decode cX11_init 417 = .ok (.bipush 60, 2) := by decide +kernel
theorem dX11_init_419 : decode cX11_init 419 = .ok (.bipush 114, 2) := by decide +kernel
theorem dX11_init_421 : decode cX11_init 421 = .ok (.bastore, 1) := by decide +kernel
theorem dX11_init_422 : decode cX11_init 422 = .ok (.dup, 1) := by decide +kernel
theorem dX11_init_423 : decode cX11_init 423 = .ok (.bipush 61, 2) := by decide +kernel
theorem dX11_init_425 : decode cX11_init 425 = .ok (.bipush 101, 2) := by decide +kernel
theorem dX11_init_427 : decode cX11_init 427 = .ok (.bastore, 1) := by decide +kernel
theorem dX11_init_428 : decode cX11_init 428 = .ok (.dup, 1) := by decide +kernel
theorem dX11_init_429 : decode cX11_init 429 = .ok (.bipush 62, 2) := by decide +kernel
theorem dX11_init_431 : decode cX11_init 431 = .ok (.bipush 103, 2) := by decide +kernel
theorem dX11_init_433 : decode cX11_init 433 = .ok (.bastore, 1) := by decide +kernel
theorem dX11_init_434 : decode cX11_init 434 = .ok (.dup, 1) := by decide +kernel
theorem dX11_init_435 : decode cX11_init 435 = .ok (.bipush 63, 2) := by decide +kernel
theorem dX11_init_437 : decode cX11_init 437 = .ok (.bipush 32, 2) := by decide +kernel
theorem dX11_init_439 : decode cX11_init 439 = .ok (.bastore, 1) := by decide +kernel
theorem dX11_init_440 : decode cX11_init 440 = .ok (.dup, 1) := by decide +kernel
theorem dX11_init_441 : decode cX11_init 441 = .ok (.bipush 64, 2) := by decide +kernel
theorem dX11_init_443 : decode cX11_init 443 = .ok (.bipush 112, 2) := by decide +kernel
theorem dX11_init_445 : decode cX11_init 445 = .ok (.bastore, 1) := by decide +kernel
theorem dX11_init_446 : decode cX11_init 446 = .ok (.dup, 1) := by decide +kernel
theorem dX11_init_447 : decode cX11_init 447 = .ok (.bipush 65, 2) := by decide +kernel
theorem dX11_init_449 : decode cX11_init 449 = .ok (.bipush 97, 2) := by decide +kernel
theorem dX11_init_451 : decode cX11_init 451 = .ok (.bastore, 1) := by decide +kernel
theorem dX11_init_452 : decode cX11_init 452 = .ok (.dup, 1) := by decide +kernel
theorem dX11_init_453 : decode cX11_init 453 = .ok (.bipush 66, 2) := by decide +kernel
theorem dX11_init_455 : decode cX11_init 455 = .ok (.bipush 103, 2) := by decide +kernel
theorem dX11_init_457 : decode cX11_init 457 = .ok (.bastore, 1) := by decide +kernel
theorem dX11_init_458 : decode cX11_init 458 = .ok (.dup, 1) := by decide +kernel
theorem dX11_init_459 : decode cX11_init 459 = .ok (.bipush 67, 2) := by decide +kernel
theorem dX11_init_461 : decode cX11_init 461 = .ok (.bipush 101, 2) := by decide +kernel
theorem dX11_init_463 : decode cX11_init 463 = .ok (.bastore, 1) := by decide +kernel
theorem dX11_init_464 : decode cX11_init 464 = .ok (.dup, 1) := by decide +kernel
theorem dX11_init_465 : decode cX11_init 465 = .ok (.bipush 68, 2) := by decide +kernel
theorem dX11_init_467 : decode cX11_init 467 = .ok (.bipush 32, 2) := by decide +kernel
theorem dX11_init_469 : decode cX11_init 469 = .ok (.bastore, 1) := by decide +kernel
theorem dX11_init_470 : decode cX11_init 470 = .ok (.putfield 33, 3) := by decide +kernel
theorem dX11_init_473 : decode cX11_init 473 = .ok (.aload_n 0, 1) := by decide +kernel
theorem dX11_init_474 : decode cX11_init 474 = .ok (.sipush 2048, 3) := by decide +kernel
theorem dX11_init_477 : decode cX11_init 477 = .ok (.newarray .int, 2) := by decide +kernel
theorem dX11_init_479 : decode cX11_init 479 = .ok (.putfield 36, 3) := by decide +kernel
theorem dX11_init_482 : decode cX11_init 482 = .ok (.aload_n 0, 1) := by decide +kernel
theorem dX11_init_483 : decode cX11_init 483 = .ok (.sipush 12288, 3) := by decide +kernel
theorem dX11_init_486 : decode cX11_init 486 = .ok (.newarray .int, 2) := by decide +kernel
theorem dX11_init_488 : decode cX11_init 488 = .ok (.putfield 39, 3) := by decide +kernel
theorem dX11_init_491 : decode cX11_init 491 = .ok (.aload_n 0, 1) := by decide +kernel
theorem dX11_init_492 : decode cX11_init 492 = .ok (.sipush 2048, 3) := by decide +kernel
theorem dX11_init_495 : decode cX11_init 495 = .ok (.newarray .int, 2) := by decide +kernel
theorem dX11_init_497 : decode cX11_init 497 = .ok (.putfield 42, 3) := by decide +kernel
theorem dX11_init_500 : decode cX11_init 500 = .ok (.aload_n 0, 1) := by decide +kernel
theorem dX11_init_501 : decode cX11_init 501 = .ok (.sipush 12288, 3) := by decide +kernel
theorem dX11_init_504 : decode cX11_init 504 = .ok (.newarray .int, 2) := by decide +kernel
theorem dX11_init_506 : decode cX11_init 506 = .ok (.putfield 45, 3) := by decide +kernel
theorem dX11_init_509 : decode cX11_init 509 = .ok (.aload_n 0, 1) := by decide +kernel
theorem dX11_init_510 : decode cX11_init 510 = .ok (.sipush 4200, 3) := by decide +kernel
theorem dX11_init_513 : decode cX11_init 513 = .ok (.newarray .int, 2) := by decide +kernel
theorem dX11_init_515 : decode cX11_init 515 = .ok (.putfield 48, 3) := by decide +kernel
theorem dX11_init_518 : decode cX11_init 518 = .ok (.aload_n 0, 1) := by decide +kernel
theorem dX11_init_519 : decode cX11_init 519 = .ok (.sipush 4200, 3) := by decide +kernel
theorem dX11_init_522 : decode cX11_init 522 = .ok (.newarray .int, 2) := by decide +kernel
theorem dX11_init_524 : decode cX11_init 524 = .ok (.putfield 51, 3) := by decide +kernel
theorem dX11_init_527 : decode cX11_init 527 = .ok (.aload_n 0, 1) := by decide +kernel
theorem dX11_init_528 : decode cX11_init 528 = .ok (.sipush 2100, 3) := by decide +kernel
theorem dX11_init_531 : decode cX11_init 531 = .ok (.newarray .int, 2) := by decide +kernel
theorem dX11_init_533 : decode cX11_init 533 = .ok (.putfield 54, 3) := by decide +kernel
theorem dX11_init_536 : decode cX11_init 536 = .ok (.aload_n 0, 1) := by decide +kernel
theorem dX11_init_537 : decode cX11_init 537 = .ok (.sipush 2100, 3) := by decide +kernel
theorem dX11_init_540 : decode cX11_init 540 = .ok (.newarray .int, 2) := by decide +kernel
theorem dX11_init_542 : decode cX11_init 542 = .ok (.putfield 57, 3) := by decide +kernel
theorem dX11_init_545 : decode cX11_init 545 = .ok (.aload_n 0, 1) := by decide +kernel
theorem dX11_init_546 : decode cX11_init 546 = .ok (.sipush 2100, 3) := by decide +kernel
theorem dX11_init_549 : decode cX11_init 549 = .ok (.newarray .int, 2) := by decide +kernel
theorem dX11_init_551 : decode cX11_init 551 = .ok (.putfield 60, 3) := by decide +kernel
theorem dX11_init_554 : decode cX11_init 554 = .ok (.aload_n 0, 1) := by decide +kernel
theorem dX11_init_555 : decode cX11_init 555 = .ok (.bipush 64, 2) := by decide +kernel
theorem dX11_init_557 : decode cX11_init 557 = .ok (.newarray .int, 2) := by decide +kernel
theorem dX11_init_559 : decode cX11_init 559 = .ok (.putfield 63, 3) := by decide +kernel
theorem dX11_init_562 : decode cX11_init 562 = .ok (.aload_n 0, 1) := by decide +kernel
theorem dX11_init_563 : decode cX11_init 563 = .ok (.ldc 66, 2) := by decide +kernel
theorem dX11_init_565 : decode cX11_init 565 = .ok (.newarray .int, 2) := by decide +kernel
theorem dX11_init_567 : decode cX11_init 567 = .ok (.putfield 67, 3) := by decide +kernel
theorem dX11_init_570 : decode cX11_init 570 = .ok (.aload_n 0, 1) := by decide +kernel
theorem dX11_init_571 : decode cX11_init 571 = .ok (.sipush 4200, 3) := by decide +kernel
theorem dX11_init_574 : decode cX11_init 574 = .ok (.newarray .int, 2) := by decide +kernel
theorem dX11_init_576 : decode cX11_init 576 = .ok (.putfield 70, 3) := by decide +kernel
theorem dX11_init_579 : decode cX11_init 579 = .ok (.aload_n 0, 1) := by decide +kernel
theorem dX11_init_580 : decode cX11_init 580 = .ok (.bipush 32, 2) := by decide +kernel
theorem dX11_init_582 : decode cX11_init 582 = .ok (.newarray .int, 2) := by decide +kernel
theorem dX11_init_584 : decode cX11_init 584 = .ok (.putfield 73, 3) := by decide +kernel
theorem dX11_init_587 : decode cX11_init 587 = .ok (.aload_n 0, 1) := by decide +kernel
theorem dX11_init_588 : decode cX11_init 588 = .ok (.bipush 100, 2) := by decide +kernel
theorem dX11_init_590 : decode cX11_init 590 = .ok (.newarray .int, 2) := by decide +kernel
theorem dX11_init_592 : decode cX11_init 592 = .ok (.putfield 76, 3) := by decide +kernel
theorem dX11_init_595 : decode cX11_init 595 = .ok (.aload_n 0, 1) := by decide +kernel
theorem dX11_init_596 : decode cX11_init 596 = .ok (.sipush 4096, 3) := by decide +kernel
theorem dX11_init_599 : decode cX11_init 599 = .ok (.newarray .boolean, 2) := by decide +kernel
theorem dX11_init_601 : decode cX11_init 601 = .ok (.putfield 79, 3) := by decide +kernel
theorem dX11_init_604 : decode cX11_init 604 = .ok (.aload_n 0, 1) := by decide +kernel
theorem dX11_init_605 : decode cX11_init 605 = .ok (.bipush 36, 2) := by decide +kernel
theorem dX11_init_607 : decode cX11_init 607 = .ok (.newarray .int, 2) := by decide +kernel
theorem dX11_init_609 : decode cX11_init 609 = .ok (.putfield 83, 3) := by decide +kernel
theorem dX11_init_612 : decode cX11_init 612 = .ok (.aload_n 0, 1) := by decide +kernel
theorem dX11_init_613 : decode cX11_init 613 = .ok (.sipush 1024, 3) := by decide +kernel
theorem dX11_init_616 : decode cX11_init 616 = .ok (.newarray .int, 2) := by decide +kernel
theorem dX11_init_618 : decode cX11_init 618 = .ok (.putfield 86, 3) := by decide +kernel
theorem dX11_init_621 : decode cX11_init 621 = .ok (.aload_n 0, 1) := by decide +kernel
theorem dX11_init_622 : decode cX11_init 622 = .ok (.sipush 1024, 3) := by decide +kernel
theorem dX11_init_625 : decode cX11_init 625 = .ok (.newarray .int, 2) := by decide +kernel
theorem dX11_init_627 : decode cX11_init 627 = .ok (.putfield 89, 3) := by decide +kernel
theorem dX11_init_630 : decode cX11_init 630 = .ok (.aload_n 0, 1) := by decide +kernel
theorem dX11_init_631 : decode cX11_init 631 = .ok (.sipush 140, 3) := by decide +kernel
theorem dX11_init_634 : decode cX11_init 634 = .ok (.newarray .int, 2) := by decide +kernel
theorem dX11_init_636 : decode cX11_init 636 = .ok (.putfield 92, 3) := by decide +kernel
theorem dX11_init_639 : decode cX11_init 639 = .ok (.aload_n 0, 1) := by decide +kernel
theorem dX11_init_640 : decode cX11_init 640 = .ok (.sipush 2380, 3) := by decide +kernel
theorem dX11_init_643 : decode cX11_init 643 = .ok (.newarray .int, 2) := by decide +kernel
theorem dX11_init_645 : decode cX11_init 645 = .ok (.putfield 95, 3) := by decide +kernel
theorem dX11_init_648 : decode cX11_init 648 = .ok (.aload_n 0, 1) := by decide +kernel
theorem dX11_init_649 : decode cX11_init 649 = .ok (.sipush 280, 3) := by decide +kernel
theorem dX11_init_652 : decode cX11_init 652 = .ok (.newarray .int, 2) := by decide +kernel
theorem dX11_init_654 : decode cX11_init 654 = .ok (.putfield 98, 3) := by decide +kernel
theorem dX11_init_657 : decode cX11_init 657 = .ok (.aload_n 0, 1) := by decide +kernel
theorem dX11_init_658 : decode cX11_init 658 = .ok (.iconst 2, 1) := by decide +kernel
theorem dX11_init_659 : decode cX11_init 659 = .ok (.newarray .boolean, 2) := by decide +kernel
theorem dX11_init_661 : decode cX11_init 661 = .ok (.putfield 101, 3) := by decide +kernel
theorem dX11_init_664 : decode cX11_init 664 = .ok (.aload_n 0, 1) := by decide +kernel
theorem dX11_init_665 : decode cX11_init 665 = .ok (.iconst 0, 1) := by decide +kernel
theorem dX11_init_666 : decode cX11_init 666 = .ok (.invokevirtual 104, 3) := by decide +kernel
theorem dX11_init_669 : decode cX11_init 669 = .ok (.aload_n 0, 1) := by decide +kernel
theorem dX11_init_670 : decode cX11_init 670 = .ok (.invokevirtual 108, 3) := by decide +kernel
theorem dX11_init_673 : decode cX11_init 673 = .ok (.return_, 1) := by decide +kernel
theorem ob_X11 : Cond.methodLink RX11 1 objectInit ∈ ws0 := tb_6 182 (by decide +kernel) rfl
theorem lq_X11_66 : Cond.constant RX11 66 (135168) ∈ ws0 := tb_6 183 (by decide +kernel) rfl
def nL11 (a : Nat) (L : Lay) : Lay := (a, (16, 0)) :: (L ++ [(a + 1, (0, 140))] ++ [(a + 2, (0, 2))] ++ [(a + 3, (0, 2))] ++ [(a + 4, (0, 2))] ++ [(a + 5, (0, 280))] ++ [(a + 6, (2, 800))] ++ [(a + 7, (2, 69))] ++ [(a + 8, (0, 2048))] ++ [(a + 9, (0, 12288))] ++ [(a + 10, (0, 2048))] ++ [(a + 11, (0, 12288))] ++ [(a + 12, (0, 4200))] ++ [(a + 13, (0, 4200))] ++ [(a + 14, (0, 2100))] ++ [(a + 15, (0, 2100))] ++ [(a + 16, (0, 2100))] ++ [(a + 17, (0, 64))] ++ [(a + 18, (0, 135168))] ++ [(a + 19, (0, 4200))] ++ [(a + 20, (0, 32))] ++ [(a + 21, (0, 100))] ++ [(a + 22, (1, 4096))] ++ [(a + 23, (0, 36))] ++ [(a + 24, (0, 1024))] ++ [(a + 25, (0, 1024))] ++ [(a + 26, (0, 140))] ++ [(a + 27, (0, 2380))] ++ [(a + 28, (0, 280))] ++ [(a + 29, (1, 2))])
theorem sL11 (a : Nat) (L : Lay) : ∀ p ∈ L, p ∈ nL11 a L := fun p hp => List.mem_cons_of_mem _ (List.mem_append_left _ (List.mem_append_left _ (List.mem_append_left _ (List.mem_append_left _ (List.mem_append_left _ (List.mem_append_left _ (List.mem_append_left _ (List.mem_append_left _ (List.mem_append_left _ (List.mem_append_left _ (List.mem_append_left _ (List.mem_append_left _ (List.mem_append_left _ (List.mem_append_left _ (List.mem_append_left _ (List.mem_append_left _ (List.mem_append_left _ (List.mem_append_left _ (List.mem_append_left _ (List.mem_append_left _ (List.mem_append_left _ (List.mem_append_left _ (List.mem_append_left _ (List.mem_append_left _ (List.mem_append_left _ (List.mem_append_left _ (List.mem_append_left _ (List.mem_append_left _ (List.mem_append_left _ (hp))))))))))))))))))))))))))))))
def U11 : Lay := [(0, (16, 0))] ++ ([(1, (0, 140))] ++ ([(2, (0, 2))] ++ ([(3, (0, 2))] ++ ([(4, (0, 2))] ++ ([(5, (0, 280))] ++ ([(6, (2, 800))] ++ ([(7, (2, 69))] ++ ([(8, (0, 2048))] ++ ([(9, (0, 12288))] ++ ([(10, (0, 2048))] ++ ([(11, (0, 12288))] ++ ([(12, (0, 4200))] ++ ([(13, (0, 4200))] ++ ([(14, (0, 2100))] ++ ([(15, (0, 2100))] ++ ([(16, (0, 2100))] ++ ([(17, (0, 64))] ++ ([(18, (0, 135168))] ++ ([(19, (0, 4200))] ++ ([(20, (0, 32))] ++ ([(21, (0, 100))] ++ ([(22, (1, 4096))] ++ ([(23, (0, 36))] ++ ([(24, (0, 1024))] ++ ([(25, (0, 1024))] ++ ([(26, (0, 140))] ++ ([(27, (0, 2380))] ++ ([(28, (0, 280))] ++ ([(29, (1, 2))])))))))))))))))))))))))))))))
theorem U11_all : T11.all (fun p => U11.contains p) = true := by decide +kernel
theorem aU11 (a : Nat) (L : Lay) : At (nL11 a L) a U11 := At.app (At.one (k := 0) (List.mem_cons_self)) (At.app (At.one (k := 1) (List.mem_cons_of_mem _ (List.mem_append_left _ (List.mem_append_left _ (List.mem_append_left _ (List.mem_append_left _ (List.mem_append_left _ (List.mem_append_left _ (List.mem_append_left _ (List.mem_append_left _ (List.mem_append_left _ (List.mem_append_left _ (List.mem_append_left _ (List.mem_append_left _ (List.mem_append_left _ (List.mem_append_left _ (List.mem_append_left _ (List.mem_append_left _ (List.mem_append_left _ (List.mem_append_left _ (List.mem_append_left _ (List.mem_append_left _ (List.mem_append_left _ (List.mem_append_left _ (List.mem_append_left _ (List.mem_append_left _ (List.mem_append_left _ (List.mem_append_left _ (List.mem_append_left _ (List.mem_append_left _ (List.mem_append_right _ (List.mem_singleton.mpr rfl)))))))))))))))))))))))))))))))) (At.app (At.one (k := 2) (List.mem_cons_of_mem _ (List.mem_append_left _ (List.mem_append_left _ (List.mem_append_left _ (List.mem_append_left _ (List.mem_append_left _ (List.mem_append_left _ (List.mem_append_left _ (List.mem_append_left _ (List.mem_append_left _ (List.mem_append_left _ (List.mem_append_left _ (List.mem_append_left _ (List.mem_append_left _ (List.mem_append_left _ (List.mem_append_left _ (List.mem_append_left _ (List.mem_append_left _ (List.mem_append_left _ (List.mem_append_left _ (List.mem_append_left _ (List.mem_append_left _ (List.mem_append_left _ (List.mem_append_left _ (List.mem_append_left _ (List.mem_append_left _ (List.mem_append_left _ (List.mem_append_left _ (List.mem_append_right _ (List.mem_singleton.mpr rfl))))))))))))))))))))))))))))))) (At.app (At.one (k := 3) (List.mem_cons_of_mem _ (List.mem_append_left _ (List.mem_append_left _ (List.mem_append_left _ (List.mem_append_left _ (List.mem_append_left _ (List.mem_append_left _ (List.mem_append_left _ (List.mem_append_left _ (List.mem_append_left _ (List.mem_append_left _ (List.mem_append_left _ (List.mem_append_left _ (List.mem_append_left _ (List.mem_append_left _ (List.mem_append_left _ (List.mem_append_left _ (List.mem_append_left _ (List.mem_append_left _ (List.mem_append_left _ (List.mem_append_left _ (List.mem_append_left _ (List.mem_append_left _ (List.mem_append_left _ (List.mem_append_left _ (List.mem_append_left _ (List.mem_append_left _ (List.mem_append_right _ (List.mem_singleton.mpr rfl)))))))))))))))))))))))))))))) (At.app (At.one (k := 4) (List.mem_cons_of_mem _ (List.mem_append_left _ (List.mem_append_left _ (List.mem_append_left _ (List.mem_append_left _ (List.mem_append_left _ (List.mem_append_left _ (List.mem_append_left _ (List.mem_append_left _ (List.mem_append_left _ (List.mem_append_left _ (List.mem_append_left _ (List.mem_append_left _ (List.mem_append_left _ (List.mem_append_left _ (List.mem_append_left _ (List.mem_append_left _ (List.mem_append_left _ (List.mem_append_left _ (List.mem_append_left _ (List.mem_append_left _ (List.mem_append_left _ (List.mem_append_left _ (List.mem_append_left _ (List.mem_append_left _ (List.mem_append_left _ (List.mem_append_right _ (List.mem_singleton.mpr rfl))))))))))))))))))))))))))))) (At.app (At.one (k := 5) (List.mem_cons_of_mem _ (List.mem_append_left _ (List.mem_append_left _ (List.mem_append_left _ (List.mem_append_left _ (List.mem_append_left _ (List.mem_append_left _ (List.mem_append_left _ (List.mem_append_left _ (List.mem_append_left _ (List.mem_append_left _ (List.mem_append_left _ (List.mem_append_left _ (List.mem_append_left _ (List.mem_append_left _ (List.mem_append_left _ (List.mem_append_left _ (List.mem_append_left _ (List.mem_append_left _ (List.mem_append_left _ (List.mem_append_left _ (List.mem_append_left _ (List.mem_append_left _ (List.mem_append_left _ (List.mem_append_left _ (List.mem_append_right _ (List.mem_singleton.mpr rfl)))))))))))))))))))))))))))) (At.app (At.one (k := 6) (List.mem_cons_of_mem _ (List.mem_append_left _ (List.mem_append_left _ (List.mem_append_left _ (List.mem_append_left _ (List.mem_append_left _ (List.mem_append_left _ (List.mem_append_left _ (List.mem_append_left _ (List.mem_append_left _ (List.mem_append_left _ (List.mem_append_left _ (List.mem_append_left _ (List.mem_append_left _ (List.mem_append_left _ (List.mem_append_left _ (List.mem_append_left _ (List.mem_append_left _ (List.mem_append_left _ (List.mem_append_left _ (List.mem_append_left _ (List.mem_append_left _ (List.mem_append_left _ (List.mem_append_left _ (List.mem_append_right _ (List.mem_singleton.mpr rfl))))))))))))))))))))))))))) (At.app (At.one (k := 7) (List.mem_cons_of_mem _ (List.mem_append_left _ (List.mem_append_left _ (List.mem_append_left _ (List.mem_append_left _ (List.mem_append_left _ (List.mem_append_left _ (List.mem_append_left _ (List.mem_append_left _ (List.mem_append_left _ (List.mem_append_left _ (List.mem_append_left _ (List.mem_append_left _ (List.mem_append_left _ (List.mem_append_left _ (List.mem_append_left _ (List.mem_append_left _ (List.mem_append_left _ (List.mem_append_left _ (List.mem_append_left _ (List.mem_append_left _ (List.mem_append_left _ (List.mem_append_left _ (List.mem_append_right _ (List.mem_singleton.mpr rfl)))))))))))))))))))))))))) (At.app (At.one (k := 8) (List.mem_cons_of_mem _ (List.mem_append_left _ (List.mem_append_left _ (List.mem_append_left _ (List.mem_append_left _ (List.mem_append_left _ (List.mem_append_left _ (List.mem_append_left _ (List.mem_append_left _ (List.mem_append_left _ (List.mem_append_left _ (List.mem_append_left _ (List.mem_append_left _ (List.mem_append_left _ (List.mem_append_left _ (List.mem_append_left _ (List.mem_append_left _ (List.mem_append_left _ (List.mem_append_left _ (List.mem_append_left _ (List.mem_append_left _ (List.mem_append_left _ (List.mem_append_right _ (List.mem_singleton.mpr rfl))))))))))))))))))))))))) (At.app (At.one (k := 9) (List.mem_cons_of_mem _ (List.mem_append_left _ (List.mem_append_left _ (List.mem_append_left _ (List.mem_append_left _ (List.mem_append_left _ (List.mem_append_left _ (List.mem_append_left _ (List.mem_append_left _ (List.mem_append_left _ (List.mem_append_left _ (List.mem_append_left _ (List.mem_append_left _ (List.mem_append_left _ (List.mem_append_left _ (List.mem_append_left _ (List.mem_append_left _ (List.mem_append_left _ (List.mem_append_left _ (List.mem_append_left _ (List.mem_append_left _ (List.mem_append_right _ (List.mem_singleton.mpr rfl)))))))))))))))))))))))) (At.app (At.one (k := 10) (List.mem_cons_of_mem _ (List.mem_append_left _ (List.mem_append_left _ (List.mem_append_left _ (List.mem_append_left _ (List.mem_append_left _ (List.mem_append_left _ (List.mem_append_left _ (List.mem_append_left _ (List.mem_append_left _ (List.mem_append_left _ (List.mem_append_left _ (List.mem_append_left _ (List.mem_append_left _ (List.mem_append_left _ (List.mem_append_left _ (List.mem_append_left _ (List.mem_append_left _ (List.mem_append_left _ (List.mem_append_left _ (List.mem_append_right _ (List.mem_singleton.mpr rfl))))))))))))))))))))))) (At.app (At.one (k := 11) (List.mem_cons_of_mem _ (List.mem_append_left _ (List.mem_append_left _ (List.mem_append_left _ (List.mem_append_left _ (List.mem_append_left _ (List.mem_append_left _ (List.mem_append_left _ (List.mem_append_left _ (List.mem_append_left _ (List.mem_append_left _ (List.mem_append_left _ (List.mem_append_left _ (List.mem_append_left _ (List.mem_append_left _ (List.mem_append_left _ (List.mem_append_left _ (List.mem_append_left _ (List.mem_append_left _ (List.mem_append_right _ (List.mem_singleton.mpr rfl)))))))))))))))))))))) (At.app (At.one (k := 12) (List.mem_cons_of_mem _ (List.mem_append_left _ (List.mem_append_left _ (List.mem_append_left _ (List.mem_append_left _ (List.mem_append_left _ (List.mem_append_left _ (List.mem_append_left _ (List.mem_append_left _ (List.mem_append_left _ (List.mem_append_left _ (List.mem_append_left _ (List.mem_append_left _ (List.mem_append_left _ (List.mem_append_left _ (List.mem_append_left _ (List.mem_append_left _ (List.mem_append_left _ (List.mem_append_right _ (List.mem_singleton.mpr rfl))))))))))))))))))))) (At.app (At.one (k := 13) (List.mem_cons_of_mem _ (List.mem_append_left _ (List.mem_append_left _ (List.mem_append_left _ (List.mem_append_left _ (List.mem_append_left _ (List.mem_append_left _ (List.mem_append_left _ (List.mem_append_left _ (List.mem_append_left _ (List.mem_append_left _ (List.mem_append_left _ (List.mem_append_left _ (List.mem_append_left _ (List.mem_append_left _ (List.mem_append_left _ (List.mem_append_left _ (List.mem_append_right _ (List.mem_singleton.mpr rfl)))))))))))))))))))) (At.app (At.one (k := 14) (List.mem_cons_of_mem _ (List.mem_append_left _ (List.mem_append_left _ (List.mem_append_left _ (List.mem_append_left _ (List.mem_append_left _ (List.mem_append_left _ (List.mem_append_left _ (List.mem_append_left _ (List.mem_append_left _ (List.mem_append_left _ (List.mem_append_left _ (List.mem_append_left _ (List.mem_append_left _ (List.mem_append_left _ (List.mem_append_left _ (List.mem_append_right _ (List.mem_singleton.mpr rfl))))))))))))))))))) (At.app (At.one (k := 15) (List.mem_cons_of_mem _ (List.mem_append_left _ (List.mem_append_left _ (List.mem_append_left _ (List.mem_append_left _ (List.mem_append_left _ (List.mem_append_left _ (List.mem_append_left _ (List.mem_append_left _ (List.mem_append_left _ (List.mem_append_left _ (List.mem_append_left _ (List.mem_append_left _ (List.mem_append_left _ (List.mem_append_left _ (List.mem_append_right _ (List.mem_singleton.mpr rfl)))))))))))))))))) (At.app (At.one (k := 16) (List.mem_cons_of_mem _ (List.mem_append_left _ (List.mem_append_left _ (List.mem_append_left _ (List.mem_append_left _ (List.mem_append_left _ (List.mem_append_left _ (List.mem_append_left _ (List.mem_append_left _ (List.mem_append_left _ (List.mem_append_left _ (List.mem_append_left _ (List.mem_append_left _ (List.mem_append_left _ (List.mem_append_right _ (List.mem_singleton.mpr rfl))))))))))))))))) (At.app (At.one (k := 17) (List.mem_cons_of_mem _ (List.mem_append_left _ (List.mem_append_left _ (List.mem_append_left _ (List.mem_append_left _ (List.mem_append_left _ (List.mem_append_left _ (List.mem_append_left _ (List.mem_append_left _ (List.mem_append_left _ (List.mem_append_left _ (List.mem_append_left _ (List.mem_append_left _ (List.mem_append_right _ (List.mem_singleton.mpr rfl)))))))))))))))) (At.app (At.one (k := 18) (List.mem_cons_of_mem _ (List.mem_append_left _ (List.mem_append_left _ (List.mem_append_left _ (List.mem_append_left _ (List.mem_append_left _ (List.mem_append_left _ (List.mem_append_left _ (List.mem_append_left _ (List.mem_append_left _ (List.mem_append_left _ (List.mem_append_left _ (List.mem_append_right _ (List.mem_singleton.mpr rfl))))))))))))))) (At.app (At.one (k := 19) (List.mem_cons_of_mem _ (List.mem_append_left _ (List.mem_append_left _ (List.mem_append_left _ (List.mem_append_left _ (List.mem_append_left _ (List.mem_append_left _ (List.mem_append_left _ (List.mem_append_left _ (List.mem_append_left _ (List.mem_append_left _ (List.mem_append_right _ (List.mem_singleton.mpr rfl)))))))))))))) (At.app (At.one (k := 20) (List.mem_cons_of_mem _ (List.mem_append_left _ (List.mem_append_left _ (List.mem_append_left _ (List.mem_append_left _ (List.mem_append_left _ (List.mem_append_left _ (List.mem_append_left _ (List.mem_append_left _ (List.mem_append_left _ (List.mem_append_right _ (List.mem_singleton.mpr rfl))))))))))))) (At.app (At.one (k := 21) (List.mem_cons_of_mem _ (List.mem_append_left _ (List.mem_append_left _ (List.mem_append_left _ (List.mem_append_left _ (List.mem_append_left _ (List.mem_append_left _ (List.mem_append_left _ (List.mem_append_left _ (List.mem_append_right _ (List.mem_singleton.mpr rfl)))))))))))) (At.app (At.one (k := 22) (List.mem_cons_of_mem _ (List.mem_append_left _ (List.mem_append_left _ (List.mem_append_left _ (List.mem_append_left _ (List.mem_append_left _ (List.mem_append_left _ (List.mem_append_left _ (List.mem_append_right _ (List.mem_singleton.mpr rfl))))))))))) (At.app (At.one (k := 23) (List.mem_cons_of_mem _ (List.mem_append_left _ (List.mem_append_left _ (List.mem_append_left _ (List.mem_append_left _ (List.mem_append_left _ (List.mem_append_left _ (List.mem_append_right _ (List.mem_singleton.mpr rfl)))))))))) (At.app (At.one (k := 24) (List.mem_cons_of_mem _ (List.mem_append_left _ (List.mem_append_left _ (List.mem_append_left _ (List.mem_append_left _ (List.mem_append_left _ (List.mem_append_right _ (List.mem_singleton.mpr rfl))))))))) (At.app (At.one (k := 25) (List.mem_cons_of_mem _ (List.mem_append_left _ (List.mem_append_left _ (List.mem_append_left _ (List.mem_append_left _ (List.mem_append_right _ (List.mem_singleton.mpr rfl)))))))) (At.app (At.one (k := 26) (List.mem_cons_of_mem _ (List.mem_append_left _ (List.mem_append_left _ (List.mem_append_left _ (List.mem_append_right _ (List.mem_singleton.mpr rfl))))))) (At.app (At.one (k := 27) (List.mem_cons_of_mem _ (List.mem_append_left _ (List.mem_append_left _ (List.mem_append_right _ (List.mem_singleton.mpr rfl)))))) (At.app (At.one (k := 28) (List.mem_cons_of_mem _ (List.mem_append_left _ (List.mem_append_right _ (List.mem_singleton.mpr rfl))))) (At.one (k := 29) (List.mem_cons_of_mem _ (List.mem_append_right _ (List.mem_singleton.mpr rfl))))))))))))))))))))))))))))))))
theorem aL11 (a : Nat) (L : Lay) : At (nL11 a L) a T11 := fun p hp => aU11 a L p (List.contains_iff_mem.mp (List.all_eq_true.mp U11_all p hp))
theorem nL11_last (a : Nat) (L : Lay) : ∃ p ∈ nL11 a L, p.1 = a + 29 := ⟨(a + 29, (1, 2)), aL11 a L (29, (1, 2)) (List.contains_iff_mem.mp (show T11.contains _ = true by decide +kernel)), rfl⟩
def iC11 (fu a : Nat) (M : Mm) : Option Mm :=
  lt (wI M (a + 7) 0 (vp_nar .byte 110)) fun M1 =>
  lt (wI M1 (a + 7) 1 (vp_nar .byte 111)) fun M2 =>
  lt (wI M2 (a + 7) 2 (vp_nar .byte 110)) fun M3 =>
  lt (wI M3 (a + 7) 3 (vp_nar .byte 101)) fun M4 =>
  lt (wI M4 (a + 7) 4 (vp_nar .byte 32)) fun M5 =>
  lt (wI M5 (a + 7) 5 (vp_nar .byte 99)) fun M6 =>
  lt (wI M6 (a + 7) 6 (vp_nar .byte 111)) fun M7 =>
  lt (wI M7 (a + 7) 7 (vp_nar .byte 109)) fun M8 =>
  lt (wI M8 (a + 7) 8 (vp_nar .byte 98)) fun M9 =>
  lt (wI M9 (a + 7) 9 (vp_nar .byte 32)) fun M10 =>
  lt (wI M10 (a + 7) 10 (vp_nar .byte 116)) fun M11 =>
  lt (wI M11 (a + 7) 11 (vp_nar .byte 104)) fun M12 =>
  lt (wI M12 (a + 7) 12 (vp_nar .byte 114)) fun M13 =>
  lt (wI M13 (a + 7) 13 (vp_nar .byte 117)) fun M14 =>
  lt (wI M14 (a + 7) 14 (vp_nar .byte 32)) fun M15 =>
  lt (wI M15 (a + 7) 15 (vp_nar .byte 112)) fun M16 =>
  lt (wI M16 (a + 7) 16 (vp_nar .byte 114)) fun M17 =>
  lt (wI M17 (a + 7) 17 (vp_nar .byte 111)) fun M18 =>
  lt (wI M18 (a + 7) 18 (vp_nar .byte 116)) fun M19 =>
  lt (wI M19 (a + 7) 19 (vp_nar .byte 32)) fun M20 =>
  lt (wI M20 (a + 7) 20 (vp_nar .byte 98)) fun M21 =>
  lt (wI M21 (a + 7) 21 (vp_nar .byte 97)) fun M22 =>
  lt (wI M22 (a + 7) 22 (vp_nar .byte 99)) fun M23 =>
  lt (wI M23 (a + 7) 23 (vp_nar .byte 107)) fun M24 =>
  lt (wI M24 (a + 7) 24 (vp_nar .byte 32)) fun M25 =>
  lt (wI M25 (a + 7) 25 (vp_nar .byte 115)) fun M26 =>
  lt (wI M26 (a + 7) 26 (vp_nar .byte 112)) fun M27 =>
  lt (wI M27 (a + 7) 27 (vp_nar .byte 97)) fun M28 =>
  lt (wI M28 (a + 7) 28 (vp_nar .byte 99)) fun M29 =>
  lt (wI M29 (a + 7) 29 (vp_nar .byte 101)) fun M30 =>
  lt (wI M30 (a + 7) 30 (vp_nar .byte 32)) fun M31 =>
  lt (wI M31 (a + 7) 31 (vp_nar .byte 114)) fun M32 =>
  lt (wI M32 (a + 7) 32 (vp_nar .byte 101)) fun M33 =>
  lt (wI M33 (a + 7) 33 (vp_nar .byte 103)) fun M34 =>
  lt (wI M34 (a + 7) 34 (vp_nar .byte 105)) fun M35 =>
  lt (wI M35 (a + 7) 35 (vp_nar .byte 115)) fun M36 =>
  lt (wI M36 (a + 7) 36 (vp_nar .byte 116)) fun M37 =>
  lt (wI M37 (a + 7) 37 (vp_nar .byte 101)) fun M38 =>
  lt (wI M38 (a + 7) 38 (vp_nar .byte 114)) fun M39 =>
  lt (wI M39 (a + 7) 39 (vp_nar .byte 115)) fun M40 =>
  lt (wI M40 (a + 7) 40 (vp_nar .byte 32)) fun M41 =>
  lt (wI M41 (a + 7) 41 (vp_nar .byte 100)) fun M42 =>
  lt (wI M42 (a + 7) 42 (vp_nar .byte 101)) fun M43 =>
  lt (wI M43 (a + 7) 43 (vp_nar .byte 102)) fun M44 =>
  lt (wI M44 (a + 7) 44 (vp_nar .byte 97)) fun M45 =>
  lt (wI M45 (a + 7) 45 (vp_nar .byte 117)) fun M46 =>
  lt (wI M46 (a + 7) 46 (vp_nar .byte 108)) fun M47 =>
  lt (wI M47 (a + 7) 47 (vp_nar .byte 116)) fun M48 =>
  lt (wI M48 (a + 7) 48 (vp_nar .byte 32)) fun M49 =>
  lt (wI M49 (a + 7) 49 (vp_nar .byte 102)) fun M50 =>
  lt (wI M50 (a + 7) 50 (vp_nar .byte 105)) fun M51 =>
  lt (wI M51 (a + 7) 51 (vp_nar .byte 120)) fun M52 =>
  lt (wI M52 (a + 7) 52 (vp_nar .byte 101)) fun M53 =>
  lt (wI M53 (a + 7) 53 (vp_nar .byte 100)) fun M54 =>
  lt (wI M54 (a + 7) 54 (vp_nar .byte 32)) fun M55 =>
  lt (wI M55 (a + 7) 55 (vp_nar .byte 115)) fun M56 =>
  lt (wI M56 (a + 7) 56 (vp_nar .byte 112)) fun M57 =>
  lt (wI M57 (a + 7) 57 (vp_nar .byte 97)) fun M58 =>
  lt (wI M58 (a + 7) 58 (vp_nar .byte 110)) fun M59 =>
  lt (wI M59 (a + 7) 59 (vp_nar .byte 32)) fun M60 =>
  lt (wI M60 (a + 7) 60 (vp_nar .byte 114)) fun M61 =>
  lt (wI M61 (a + 7) 61 (vp_nar .byte 101)) fun M62 =>
  lt (wI M62 (a + 7) 62 (vp_nar .byte 103)) fun M63 =>
  lt (wI M63 (a + 7) 63 (vp_nar .byte 32)) fun M64 =>
  lt (wI M64 (a + 7) 64 (vp_nar .byte 112)) fun M65 =>
  lt (wI M65 (a + 7) 65 (vp_nar .byte 97)) fun M66 =>
  lt (wI M66 (a + 7) 66 (vp_nar .byte 103)) fun M67 =>
  lt (wI M67 (a + 7) 67 (vp_nar .byte 101)) fun M68 =>
  lt (wI M68 (a + 7) 68 (vp_nar .byte 32)) fun M69 =>
  lt (pt a (fun k => if k = 17 then (-1) else 0) M69) fun M70 =>
  bm (fX11_clearBank fu a 0 M70) fun M71a =>
  lt (trunc (a + 30) M71a) fun M71 =>
  bm (fX11_startAnew fu a M71) fun M72a =>
  lt (trunc (a + 30) M72a) fun M72 =>
  some M72
theorem iC11_Z {fu a : Nat} {M M' : Mm} (h : iC11 fu a M = some M') (hZ : Zr (a + 1) M) : Zr (a + 1 + 29) M' := by
  unfold iC11 at h
  obtain ⟨M1, eM1, h⟩ := lt_el h
  have zM1 : Zr (a + 1 + 29) M1 := by rw [eM1]; exact ((hZ.mono (by omega) : Zr (a + 1 + 29) _)).wI (by omega)
  obtain ⟨M2, eM2, h⟩ := lt_el h
  have zM2 : Zr (a + 1 + 29) M2 := by rw [eM2]; exact ((zM1 : Zr (a + 1 + 29) _)).wI (by omega)
  obtain ⟨M3, eM3, h⟩ := lt_el h
  have zM3 : Zr (a + 1 + 29) M3 := by rw [eM3]; exact ((zM2 : Zr (a + 1 + 29) _)).wI (by omega)
  obtain ⟨M4, eM4, h⟩ := lt_el h
  have zM4 : Zr (a + 1 + 29) M4 := by rw [eM4]; exact ((zM3 : Zr (a + 1 + 29) _)).wI (by omega)
  obtain ⟨M5, eM5, h⟩ := lt_el h
  have zM5 : Zr (a + 1 + 29) M5 := by rw [eM5]; exact ((zM4 : Zr (a + 1 + 29) _)).wI (by omega)
  obtain ⟨M6, eM6, h⟩ := lt_el h
  have zM6 : Zr (a + 1 + 29) M6 := by rw [eM6]; exact ((zM5 : Zr (a + 1 + 29) _)).wI (by omega)
  obtain ⟨M7, eM7, h⟩ := lt_el h
  have zM7 : Zr (a + 1 + 29) M7 := by rw [eM7]; exact ((zM6 : Zr (a + 1 + 29) _)).wI (by omega)
  obtain ⟨M8, eM8, h⟩ := lt_el h
  have zM8 : Zr (a + 1 + 29) M8 := by rw [eM8]; exact ((zM7 : Zr (a + 1 + 29) _)).wI (by omega)
  obtain ⟨M9, eM9, h⟩ := lt_el h
  have zM9 : Zr (a + 1 + 29) M9 := by rw [eM9]; exact ((zM8 : Zr (a + 1 + 29) _)).wI (by omega)
  obtain ⟨M10, eM10, h⟩ := lt_el h
  have zM10 : Zr (a + 1 + 29) M10 := by rw [eM10]; exact ((zM9 : Zr (a + 1 + 29) _)).wI (by omega)
  obtain ⟨M11, eM11, h⟩ := lt_el h
  have zM11 : Zr (a + 1 + 29) M11 := by rw [eM11]; exact ((zM10 : Zr (a + 1 + 29) _)).wI (by omega)
  obtain ⟨M12, eM12, h⟩ := lt_el h
  have zM12 : Zr (a + 1 + 29) M12 := by rw [eM12]; exact ((zM11 : Zr (a + 1 + 29) _)).wI (by omega)
  obtain ⟨M13, eM13, h⟩ := lt_el h
  have zM13 : Zr (a + 1 + 29) M13 := by rw [eM13]; exact ((zM12 : Zr (a + 1 + 29) _)).wI (by omega)
  obtain ⟨M14, eM14, h⟩ := lt_el h
  have zM14 : Zr (a + 1 + 29) M14 := by rw [eM14]; exact ((zM13 : Zr (a + 1 + 29) _)).wI (by omega)
  obtain ⟨M15, eM15, h⟩ := lt_el h
  have zM15 : Zr (a + 1 + 29) M15 := by rw [eM15]; exact ((zM14 : Zr (a + 1 + 29) _)).wI (by omega)
  obtain ⟨M16, eM16, h⟩ := lt_el h
  have zM16 : Zr (a + 1 + 29) M16 := by rw [eM16]; exact ((zM15 : Zr (a + 1 + 29) _)).wI (by omega)
  obtain ⟨M17, eM17, h⟩ := lt_el h
  have zM17 : Zr (a + 1 + 29) M17 := by rw [eM17]; exact ((zM16 : Zr (a + 1 + 29) _)).wI (by omega)
  obtain ⟨M18, eM18, h⟩ := lt_el h
  have zM18 : Zr (a + 1 + 29) M18 := by rw [eM18]; exact ((zM17 : Zr (a + 1 + 29) _)).wI (by omega)
  obtain ⟨M19, eM19, h⟩ := lt_el h
  have zM19 : Zr (a + 1 + 29) M19 := by rw [eM19]; exact ((zM18 : Zr (a + 1 + 29) _)).wI (by omega)
  obtain ⟨M20, eM20, h⟩ := lt_el h
  have zM20 : Zr (a + 1 + 29) M20 := by rw [eM20]; exact ((zM19 : Zr (a + 1 + 29) _)).wI (by omega)
  obtain ⟨M21, eM21, h⟩ := lt_el h
  have zM21 : Zr (a + 1 + 29) M21 := by rw [eM21]; exact ((zM20 : Zr (a + 1 + 29) _)).wI (by omega)
  obtain ⟨M22, eM22, h⟩ := lt_el h
  have zM22 : Zr (a + 1 + 29) M22 := by rw [eM22]; exact ((zM21 : Zr (a + 1 + 29) _)).wI (by omega)
  obtain ⟨M23, eM23, h⟩ := lt_el h
  have zM23 : Zr (a + 1 + 29) M23 := by rw [eM23]; exact ((zM22 : Zr (a + 1 + 29) _)).wI (by omega)
  obtain ⟨M24, eM24, h⟩ := lt_el h
  have zM24 : Zr (a + 1 + 29) M24 := by rw [eM24]; exact ((zM23 : Zr (a + 1 + 29) _)).wI (by omega)
  obtain ⟨M25, eM25, h⟩ := lt_el h
  have zM25 : Zr (a + 1 + 29) M25 := by rw [eM25]; exact ((zM24 : Zr (a + 1 + 29) _)).wI (by omega)
  obtain ⟨M26, eM26, h⟩ := lt_el h
  have zM26 : Zr (a + 1 + 29) M26 := by rw [eM26]; exact ((zM25 : Zr (a + 1 + 29) _)).wI (by omega)
  obtain ⟨M27, eM27, h⟩ := lt_el h
  have zM27 : Zr (a + 1 + 29) M27 := by rw [eM27]; exact ((zM26 : Zr (a + 1 + 29) _)).wI (by omega)
  obtain ⟨M28, eM28, h⟩ := lt_el h
  have zM28 : Zr (a + 1 + 29) M28 := by rw [eM28]; exact ((zM27 : Zr (a + 1 + 29) _)).wI (by omega)
  obtain ⟨M29, eM29, h⟩ := lt_el h
  have zM29 : Zr (a + 1 + 29) M29 := by rw [eM29]; exact ((zM28 : Zr (a + 1 + 29) _)).wI (by omega)
  obtain ⟨M30, eM30, h⟩ := lt_el h
  have zM30 : Zr (a + 1 + 29) M30 := by rw [eM30]; exact ((zM29 : Zr (a + 1 + 29) _)).wI (by omega)
  obtain ⟨M31, eM31, h⟩ := lt_el h
  have zM31 : Zr (a + 1 + 29) M31 := by rw [eM31]; exact ((zM30 : Zr (a + 1 + 29) _)).wI (by omega)
  obtain ⟨M32, eM32, h⟩ := lt_el h
  have zM32 : Zr (a + 1 + 29) M32 := by rw [eM32]; exact ((zM31 : Zr (a + 1 + 29) _)).wI (by omega)
  obtain ⟨M33, eM33, h⟩ := lt_el h
  have zM33 : Zr (a + 1 + 29) M33 := by rw [eM33]; exact ((zM32 : Zr (a + 1 + 29) _)).wI (by omega)
  obtain ⟨M34, eM34, h⟩ := lt_el h
  have zM34 : Zr (a + 1 + 29) M34 := by rw [eM34]; exact ((zM33 : Zr (a + 1 + 29) _)).wI (by omega)
  obtain ⟨M35, eM35, h⟩ := lt_el h
  have zM35 : Zr (a + 1 + 29) M35 := by rw [eM35]; exact ((zM34 : Zr (a + 1 + 29) _)).wI (by omega)
  obtain ⟨M36, eM36, h⟩ := lt_el h
  have zM36 : Zr (a + 1 + 29) M36 := by rw [eM36]; exact ((zM35 : Zr (a + 1 + 29) _)).wI (by omega)
  obtain ⟨M37, eM37, h⟩ := lt_el h
  have zM37 : Zr (a + 1 + 29) M37 := by rw [eM37]; exact ((zM36 : Zr (a + 1 + 29) _)).wI (by omega)
  obtain ⟨M38, eM38, h⟩ := lt_el h
  have zM38 : Zr (a + 1 + 29) M38 := by rw [eM38]; exact ((zM37 : Zr (a + 1 + 29) _)).wI (by omega)
  obtain ⟨M39, eM39, h⟩ := lt_el h
  have zM39 : Zr (a + 1 + 29) M39 := by rw [eM39]; exact ((zM38 : Zr (a + 1 + 29) _)).wI (by omega)
  obtain ⟨M40, eM40, h⟩ := lt_el h
  have zM40 : Zr (a + 1 + 29) M40 := by rw [eM40]; exact ((zM39 : Zr (a + 1 + 29) _)).wI (by omega)
  obtain ⟨M41, eM41, h⟩ := lt_el h
  have zM41 : Zr (a + 1 + 29) M41 := by rw [eM41]; exact ((zM40 : Zr (a + 1 + 29) _)).wI (by omega)
  obtain ⟨M42, eM42, h⟩ := lt_el h
  have zM42 : Zr (a + 1 + 29) M42 := by rw [eM42]; exact ((zM41 : Zr (a + 1 + 29) _)).wI (by omega)
  obtain ⟨M43, eM43, h⟩ := lt_el h
  have zM43 : Zr (a + 1 + 29) M43 := by rw [eM43]; exact ((zM42 : Zr (a + 1 + 29) _)).wI (by omega)
  obtain ⟨M44, eM44, h⟩ := lt_el h
  have zM44 : Zr (a + 1 + 29) M44 := by rw [eM44]; exact ((zM43 : Zr (a + 1 + 29) _)).wI (by omega)
  obtain ⟨M45, eM45, h⟩ := lt_el h
  have zM45 : Zr (a + 1 + 29) M45 := by rw [eM45]; exact ((zM44 : Zr (a + 1 + 29) _)).wI (by omega)
  obtain ⟨M46, eM46, h⟩ := lt_el h
  have zM46 : Zr (a + 1 + 29) M46 := by rw [eM46]; exact ((zM45 : Zr (a + 1 + 29) _)).wI (by omega)
  obtain ⟨M47, eM47, h⟩ := lt_el h
  have zM47 : Zr (a + 1 + 29) M47 := by rw [eM47]; exact ((zM46 : Zr (a + 1 + 29) _)).wI (by omega)
  obtain ⟨M48, eM48, h⟩ := lt_el h
  have zM48 : Zr (a + 1 + 29) M48 := by rw [eM48]; exact ((zM47 : Zr (a + 1 + 29) _)).wI (by omega)
  obtain ⟨M49, eM49, h⟩ := lt_el h
  have zM49 : Zr (a + 1 + 29) M49 := by rw [eM49]; exact ((zM48 : Zr (a + 1 + 29) _)).wI (by omega)
  obtain ⟨M50, eM50, h⟩ := lt_el h
  have zM50 : Zr (a + 1 + 29) M50 := by rw [eM50]; exact ((zM49 : Zr (a + 1 + 29) _)).wI (by omega)
  obtain ⟨M51, eM51, h⟩ := lt_el h
  have zM51 : Zr (a + 1 + 29) M51 := by rw [eM51]; exact ((zM50 : Zr (a + 1 + 29) _)).wI (by omega)
  obtain ⟨M52, eM52, h⟩ := lt_el h
  have zM52 : Zr (a + 1 + 29) M52 := by rw [eM52]; exact ((zM51 : Zr (a + 1 + 29) _)).wI (by omega)
  obtain ⟨M53, eM53, h⟩ := lt_el h
  have zM53 : Zr (a + 1 + 29) M53 := by rw [eM53]; exact ((zM52 : Zr (a + 1 + 29) _)).wI (by omega)
  obtain ⟨M54, eM54, h⟩ := lt_el h
  have zM54 : Zr (a + 1 + 29) M54 := by rw [eM54]; exact ((zM53 : Zr (a + 1 + 29) _)).wI (by omega)
  obtain ⟨M55, eM55, h⟩ := lt_el h
  have zM55 : Zr (a + 1 + 29) M55 := by rw [eM55]; exact ((zM54 : Zr (a + 1 + 29) _)).wI (by omega)
  obtain ⟨M56, eM56, h⟩ := lt_el h
  have zM56 : Zr (a + 1 + 29) M56 := by rw [eM56]; exact ((zM55 : Zr (a + 1 + 29) _)).wI (by omega)
  obtain ⟨M57, eM57, h⟩ := lt_el h
  have zM57 : Zr (a + 1 + 29) M57 := by rw [eM57]; exact ((zM56 : Zr (a + 1 + 29) _)).wI (by omega)
  obtain ⟨M58, eM58, h⟩ := lt_el h
  have zM58 : Zr (a + 1 + 29) M58 := by rw [eM58]; exact ((zM57 : Zr (a + 1 + 29) _)).wI (by omega)
  obtain ⟨M59, eM59, h⟩ := lt_el h
  have zM59 : Zr (a + 1 + 29) M59 := by rw [eM59]; exact ((zM58 : Zr (a + 1 + 29) _)).wI (by omega)
  obtain ⟨M60, eM60, h⟩ := lt_el h
  have zM60 : Zr (a + 1 + 29) M60 := by rw [eM60]; exact ((zM59 : Zr (a + 1 + 29) _)).wI (by omega)
  obtain ⟨M61, eM61, h⟩ := lt_el h
  have zM61 : Zr (a + 1 + 29) M61 := by rw [eM61]; exact ((zM60 : Zr (a + 1 + 29) _)).wI (by omega)
  obtain ⟨M62, eM62, h⟩ := lt_el h
  have zM62 : Zr (a + 1 + 29) M62 := by rw [eM62]; exact ((zM61 : Zr (a + 1 + 29) _)).wI (by omega)
  obtain ⟨M63, eM63, h⟩ := lt_el h
  have zM63 : Zr (a + 1 + 29) M63 := by rw [eM63]; exact ((zM62 : Zr (a + 1 + 29) _)).wI (by omega)
  obtain ⟨M64, eM64, h⟩ := lt_el h
  have zM64 : Zr (a + 1 + 29) M64 := by rw [eM64]; exact ((zM63 : Zr (a + 1 + 29) _)).wI (by omega)
  obtain ⟨M65, eM65, h⟩ := lt_el h
  have zM65 : Zr (a + 1 + 29) M65 := by rw [eM65]; exact ((zM64 : Zr (a + 1 + 29) _)).wI (by omega)
  obtain ⟨M66, eM66, h⟩ := lt_el h
  have zM66 : Zr (a + 1 + 29) M66 := by rw [eM66]; exact ((zM65 : Zr (a + 1 + 29) _)).wI (by omega)
  obtain ⟨M67, eM67, h⟩ := lt_el h
  have zM67 : Zr (a + 1 + 29) M67 := by rw [eM67]; exact ((zM66 : Zr (a + 1 + 29) _)).wI (by omega)
  obtain ⟨M68, eM68, h⟩ := lt_el h
  have zM68 : Zr (a + 1 + 29) M68 := by rw [eM68]; exact ((zM67 : Zr (a + 1 + 29) _)).wI (by omega)
  obtain ⟨M69, eM69, h⟩ := lt_el h
  have zM69 : Zr (a + 1 + 29) M69 := by rw [eM69]; exact ((zM68 : Zr (a + 1 + 29) _)).wI (by omega)
  obtain ⟨M70, eM70, h⟩ := lt_el h
  have zM70 : Zr (a + 1 + 29) M70 := by rw [eM70]; exact pt_Zr (zM69) (by omega)
  obtain ⟨M71a, hcM71a, h⟩ := bm_el h
  obtain ⟨M71, eM71, h⟩ := lt_el h
  have zM71 : Zr (a + 30) M71 := by rw [eM71]; exact trunc_Zr _ _
  obtain ⟨M72a, hcM72a, h⟩ := bm_el h
  obtain ⟨M72, eM72, h⟩ := lt_el h
  have zM72 : Zr (a + 30) M72 := by rw [eM72]; exact trunc_Zr _ _
  cases h
  exact (zM72).mono (by omega)
set_option maxRecDepth 100000 in
set_option maxHeartbeats 4000000 in
theorem kC11 {l : Launch} {E : Ge} (fu d : Nat) {a : Nat} {L : Lay} {M M' : Mm} (hZ0 : Zr a M) (h : iC11 fu a M = some M') : Cn l E 11 dfl11 yX11_init cX11_init 1 (d + 1) 29 (193213) a [] L M (nL11 a L) M' := by
  refine Cn.of (by decide) hZ0 ?_
  intro p e s m below meth c hr hlk hnm Y hs0 hN
  have Y : By p s m _ c cX11_init 1 RX11 E := Y
  have hx := Y.1
  have hb := Y.2.1
  have hin : meth.name = "<init>" := hnm
  have hl := lv_entry ([.ref a]) (n := 1) (Nat.le_of_ble_eq_true rfl)
  rw [lg_entry_eq]
  generalize (lg_sl ([.ref a]) ++ List.replicate (1 - (lg_sl ([.ref a])).length) Slot.unset).toArray = ls at hl ⊢
  have hl : lv_has ls 1 [(0, .ref a)] := hl
  unfold iC11 at h
  have hN : Nx s E [(a, .inr (11, [.null, .null, .null, .null, .null, .int 0, .null, .int 0, .int 0, .int 0, .int 0, .int 0, .int 0, .int 0, .int 0, .int 0, .int 0, .int 0, .null, .int 0, .int 0, .null, .null, .null, .null, .int 0, .null, .null, .null, .null, .null, .null, .int 0, .int 0, .null, .null, .null, .null, .null, .int 0, .int 0, .int 0, .int 0, .null, .null, .null, .null, .null, .null, .null, .int 0, .int 0]))] L M (a + 1) 0 s.heap [] := hN
  refine lv_aload_n hx hb dX11_init_0 rfl (lv_at hl 0 rfl) ?_
  refine n_obj Y ob_X11 hl.1 dX11_init_1 (by show 1 ≤ d + 1; omega) (by show 0 + 12 ≤ 42 * (d + 1); omega) ?_
  refine lv_aload_n hx hb dX11_init_4 rfl (lv_at hl 0 rfl) ?_
  refine lv_sipush (v := 140) hx hb dX11_init_5 (by decide) ?_
  refine n_arrI (N := 140) Y hN (by decide) (by decide +kernel) (Nat.le_of_ble_eq_true rfl) (Nat.le_of_ble_eq_true rfl) (Nat.le_of_ble_eq_true rfl) dX11_init_8 (fun H hN => ?_)
  have hN : Nx s E [(a, .inr (11, [.null, .null, .null, .null, .null, .int 0, .null, .int 0, .int 0, .int 0, .int 0, .int 0, .int 0, .int 0, .int 0, .int 0, .int 0, .int 0, .null, .int 0, .int 0, .null, .null, .null, .null, .int 0, .null, .null, .null, .null, .null, .null, .int 0, .int 0, .null, .null, .null, .null, .null, .int 0, .int 0, .int 0, .int 0, .null, .null, .null, .null, .null, .null, .null, .int 0, .int 0]))] (L ++ [(a + 1, (0, 140))]) M (a + 2) 1 H [] := hN
  refine n_putF (er := []) (ci := 11) (C := RX11) (T := TX11) (N := 52) (k := 0) (ty0 := tyX11) (fs := [.null, .null, .null, .null, .null, .int 0, .null, .int 0, .int 0, .int 0, .int 0, .int 0, .int 0, .int 0, .int 0, .int 0, .int 0, .int 0, .null, .int 0, .int 0, .null, .null, .null, .null, .int 0, .null, .null, .null, .null, .null, .null, .int 0, .int 0, .null, .null, .null, .null, .null, .int 0, .int 0, .int 0, .int 0, .null, .null, .null, .null, .null, .null, .null, .int 0, .int 0]) (fs' := [.ref (a + 1), .null, .null, .null, .null, .int 0, .null, .int 0, .int 0, .int 0, .int 0, .int 0, .int 0, .int 0, .int 0, .int 0, .int 0, .int 0, .null, .int 0, .int 0, .null, .null, .null, .null, .int 0, .null, .null, .null, .null, .null, .null, .int 0, .int 0, .null, .null, .null, .null, .null, .int 0, .int 0, .int 0, .int 0, .null, .null, .null, .null, .null, .null, .null, .int 0, .int 0]) Y hN rfl in11 tyX11_ok nmX11 (by decide) lk_X11_7 rfl hin rfl rfl rfl (Nat.le_of_ble_eq_true rfl) rfl dX11_init_10 (fun H locs hN => ?_)
  have hN : Nx s E [(a, .inr (11, [.ref (a + 1), .null, .null, .null, .null, .int 0, .null, .int 0, .int 0, .int 0, .int 0, .int 0, .int 0, .int 0, .int 0, .int 0, .int 0, .int 0, .null, .int 0, .int 0, .null, .null, .null, .null, .int 0, .null, .null, .null, .null, .null, .null, .int 0, .int 0, .null, .null, .null, .null, .null, .int 0, .int 0, .int 0, .int 0, .null, .null, .null, .null, .null, .null, .null, .int 0, .int 0]))] (L ++ [(a + 1, (0, 140))]) M (a + 2) 1 H locs := hN
  refine lv_aload_n hx hb dX11_init_13 rfl (lv_at hl 0 rfl) ?_
  refine lv_iconst (v := 2) hx hb dX11_init_14 (by decide) ?_
  refine n_arrI (N := 2) Y hN (by decide) (by decide +kernel) (Nat.le_of_ble_eq_true rfl) (Nat.le_of_ble_eq_true rfl) (Nat.le_of_ble_eq_true rfl) dX11_init_15 (fun H hN => ?_)
  have hN : Nx s E [(a, .inr (11, [.ref (a + 1), .null, .null, .null, .null, .int 0, .null, .int 0, .int 0, .int 0, .int 0, .int 0, .int 0, .int 0, .int 0, .int 0, .int 0, .int 0, .null, .int 0, .int 0, .null, .null, .null, .null, .int 0, .null, .null, .null, .null, .null, .null, .int 0, .int 0, .null, .null, .null, .null, .null, .int 0, .int 0, .int 0, .int 0, .null, .null, .null, .null, .null, .null, .null, .int 0, .int 0]))] (L ++ [(a + 1, (0, 140))] ++ [(a + 2, (0, 2))]) M (a + 3) 2 H locs := hN
  refine n_putF (er := []) (ci := 11) (C := RX11) (T := TX11) (N := 52) (k := 1) (ty0 := tyX11) (fs := [.ref (a + 1), .null, .null, .null, .null, .int 0, .null, .int 0, .int 0, .int 0, .int 0, .int 0, .int 0, .int 0, .int 0, .int 0, .int 0, .int 0, .null, .int 0, .int 0, .null, .null, .null, .null, .int 0, .null, .null, .null, .null, .null, .null, .int 0, .int 0, .null, .null, .null, .null, .null, .int 0, .int 0, .int 0, .int 0, .null, .null, .null, .null, .null, .null, .null, .int 0, .int 0]) (fs' := [.ref (a + 1), .ref (a + 2), .null, .null, .null, .int 0, .null, .int 0, .int 0, .int 0, .int 0, .int 0, .int 0, .int 0, .int 0, .int 0, .int 0, .int 0, .null, .int 0, .int 0, .null, .null, .null, .null, .int 0, .null, .null, .null, .null, .null, .null, .int 0, .int 0, .null, .null, .null, .null, .null, .int 0, .int 0, .int 0, .int 0, .null, .null, .null, .null, .null, .null, .null, .int 0, .int 0]) Y hN rfl in11 tyX11_ok nmX11 (by decide) lk_X11_13 rfl hin rfl rfl rfl (Nat.le_of_ble_eq_true rfl) rfl dX11_init_17 (fun H locs hN => ?_)
  have hN : Nx s E [(a, .inr (11, [.ref (a + 1), .ref (a + 2), .null, .null, .null, .int 0, .null, .int 0, .int 0, .int 0, .int 0, .int 0, .int 0, .int 0, .int 0, .int 0, .int 0, .int 0, .null, .int 0, .int 0, .null, .null, .null, .null, .int 0, .null, .null, .null, .null, .null, .null, .int 0, .int 0, .null, .null, .null, .null, .null, .int 0, .int 0, .int 0, .int 0, .null, .null, .null, .null, .null, .null, .null, .int 0, .int 0]))] (L ++ [(a + 1, (0, 140))] ++ [(a + 2, (0, 2))]) M (a + 3) 2 H locs := hN
  refine lv_aload_n hx hb dX11_init_20 rfl (lv_at hl 0 rfl) ?_
  refine lv_iconst (v := 2) hx hb dX11_init_21 (by decide) ?_
  refine n_arrI (N := 2) Y hN (by decide) (by decide +kernel) (Nat.le_of_ble_eq_true rfl) (Nat.le_of_ble_eq_true rfl) (Nat.le_of_ble_eq_true rfl) dX11_init_22 (fun H hN => ?_)
  have hN : Nx s E [(a, .inr (11, [.ref (a + 1), .ref (a + 2), .null, .null, .null, .int 0, .null, .int 0, .int 0, .int 0, .int 0, .int 0, .int 0, .int 0, .int 0, .int 0, .int 0, .int 0, .null, .int 0, .int 0, .null, .null, .null, .null, .int 0, .null, .null, .null, .null, .null, .null, .int 0, .int 0, .null, .null, .null, .null, .null, .int 0, .int 0, .int 0, .int 0, .null, .null, .null, .null, .null, .null, .null, .int 0, .int 0]))] (L ++ [(a + 1, (0, 140))] ++ [(a + 2, (0, 2))] ++ [(a + 3, (0, 2))]) M (a + 4) 3 H locs := hN
  refine n_putF (er := []) (ci := 11) (C := RX11) (T := TX11) (N := 52) (k := 2) (ty0 := tyX11) (fs := [.ref (a + 1), .ref (a + 2), .null, .null, .null, .int 0, .null, .int 0, .int 0, .int 0, .int 0, .int 0, .int 0, .int 0, .int 0, .int 0, .int 0, .int 0, .null, .int 0, .int 0, .null, .null, .null, .null, .int 0, .null, .null, .null, .null, .null, .null, .int 0, .int 0, .null, .null, .null, .null, .null, .int 0, .int 0, .int 0, .int 0, .null, .null, .null, .null, .null, .null, .null, .int 0, .int 0]) (fs' := [.ref (a + 1), .ref (a + 2), .ref (a + 3), .null, .null, .int 0, .null, .int 0, .int 0, .int 0, .int 0, .int 0, .int 0, .int 0, .int 0, .int 0, .int 0, .int 0, .null, .int 0, .int 0, .null, .null, .null, .null, .int 0, .null, .null, .null, .null, .null, .null, .int 0, .int 0, .null, .null, .null, .null, .null, .int 0, .int 0, .int 0, .int 0, .null, .null, .null, .null, .null, .null, .null, .int 0, .int 0]) Y hN rfl in11 tyX11_ok nmX11 (by decide) lk_X11_16 rfl hin rfl rfl rfl (Nat.le_of_ble_eq_true rfl) rfl dX11_init_24 (fun H locs hN => ?_)
  have hN : Nx s E [(a, .inr (11, [.ref (a + 1), .ref (a + 2), .ref (a + 3), .null, .null, .int 0, .null, .int 0, .int 0, .int 0, .int 0, .int 0, .int 0, .int 0, .int 0, .int 0, .int 0, .int 0, .null, .int 0, .int 0, .null, .null, .null, .null, .int 0, .null, .null, .null, .null, .null, .null, .int 0, .int 0, .null, .null, .null, .null, .null, .int 0, .int 0, .int 0, .int 0, .null, .null, .null, .null, .null, .null, .null, .int 0, .int 0]))] (L ++ [(a + 1, (0, 140))] ++ [(a + 2, (0, 2))] ++ [(a + 3, (0, 2))]) M (a + 4) 3 H locs := hN
  refine lv_aload_n hx hb dX11_init_27 rfl (lv_at hl 0 rfl) ?_
  refine lv_iconst (v := 2) hx hb dX11_init_28 (by decide) ?_
  refine n_arrI (N := 2) Y hN (by decide) (by decide +kernel) (Nat.le_of_ble_eq_true rfl) (Nat.le_of_ble_eq_true rfl) (Nat.le_of_ble_eq_true rfl) dX11_init_29 (fun H hN => ?_)
  have hN : Nx s E [(a, .inr (11, [.ref (a + 1), .ref (a + 2), .ref (a + 3), .null, .null, .int 0, .null, .int 0, .int 0, .int 0, .int 0, .int 0, .int 0, .int 0, .int 0, .int 0, .int 0, .int 0, .null, .int 0, .int 0, .null, .null, .null, .null, .int 0, .null, .null, .null, .null, .null, .null, .int 0, .int 0, .null, .null, .null, .null, .null, .int 0, .int 0, .int 0, .int 0, .null, .null, .null, .null, .null, .null, .null, .int 0, .int 0]))] (L ++ [(a + 1, (0, 140))] ++ [(a + 2, (0, 2))] ++ [(a + 3, (0, 2))] ++ [(a + 4, (0, 2))]) M (a + 5) 4 H locs := hN
  refine n_putF (er := []) (ci := 11) (C := RX11) (T := TX11) (N := 52) (k := 3) (ty0 := tyX11) (fs := [.ref (a + 1), .ref (a + 2), .ref (a + 3), .null, .null, .int 0, .null, .int 0, .int 0, .int 0, .int 0, .int 0, .int 0, .int 0, .int 0, .int 0, .int 0, .int 0, .null, .int 0, .int 0, .null, .null, .null, .null, .int 0, .null, .null, .null, .null, .null, .null, .int 0, .int 0, .null, .null, .null, .null, .null, .int 0, .int 0, .int 0, .int 0, .null, .null, .null, .null, .null, .null, .null, .int 0, .int 0]) (fs' := [.ref (a + 1), .ref (a + 2), .ref (a + 3), .ref (a + 4), .null, .int 0, .null, .int 0, .int 0, .int 0, .int 0, .int 0, .int 0, .int 0, .int 0, .int 0, .int 0, .int 0, .null, .int 0, .int 0, .null, .null, .null, .null, .int 0, .null, .null, .null, .null, .null, .null, .int 0, .int 0, .null, .null, .null, .null, .null, .int 0, .int 0, .int 0, .int 0, .null, .null, .null, .null, .null, .null, .null, .int 0, .int 0]) Y hN rfl in11 tyX11_ok nmX11 (by decide) lk_X11_19 rfl hin rfl rfl rfl (Nat.le_of_ble_eq_true rfl) rfl dX11_init_31 (fun H locs hN => ?_)
  have hN : Nx s E [(a, .inr (11, [.ref (a + 1), .ref (a + 2), .ref (a + 3), .ref (a + 4), .null, .int 0, .null, .int 0, .int 0, .int 0, .int 0, .int 0, .int 0, .int 0, .int 0, .int 0, .int 0, .int 0, .null, .int 0, .int 0, .null, .null, .null, .null, .int 0, .null, .null, .null, .null, .null, .null, .int 0, .int 0, .null, .null, .null, .null, .null, .int 0, .int 0, .int 0, .int 0, .null, .null, .null, .null, .null, .null, .null, .int 0, .int 0]))] (L ++ [(a + 1, (0, 140))] ++ [(a + 2, (0, 2))] ++ [(a + 3, (0, 2))] ++ [(a + 4, (0, 2))]) M (a + 5) 4 H locs := hN
  refine lv_aload_n hx hb dX11_init_34 rfl (lv_at hl 0 rfl) ?_
  refine lv_sipush (v := 280) hx hb dX11_init_35 (by decide) ?_
  refine n_arrI (N := 280) Y hN (by decide) (by decide +kernel) (Nat.le_of_ble_eq_true rfl) (Nat.le_of_ble_eq_true rfl) (Nat.le_of_ble_eq_true rfl) dX11_init_38 (fun H hN => ?_)
  have hN : Nx s E [(a, .inr (11, [.ref (a + 1), .ref (a + 2), .ref (a + 3), .ref (a + 4), .null, .int 0, .null, .int 0, .int 0, .int 0, .int 0, .int 0, .int 0, .int 0, .int 0, .int 0, .int 0, .int 0, .null, .int 0, .int 0, .null, .null, .null, .null, .int 0, .null, .null, .null, .null, .null, .null, .int 0, .int 0, .null, .null, .null, .null, .null, .int 0, .int 0, .int 0, .int 0, .null, .null, .null, .null, .null, .null, .null, .int 0, .int 0]))] (L ++ [(a + 1, (0, 140))] ++ [(a + 2, (0, 2))] ++ [(a + 3, (0, 2))] ++ [(a + 4, (0, 2))] ++ [(a + 5, (0, 280))]) M (a + 6) 5 H locs := hN
  refine n_putF (er := []) (ci := 11) (C := RX11) (T := TX11) (N := 52) (k := 4) (ty0 := tyX11) (fs := [.ref (a + 1), .ref (a + 2), .ref (a + 3), .ref (a + 4), .null, .int 0, .null, .int 0, .int 0, .int 0, .int 0, .int 0, .int 0, .int 0, .int 0, .int 0, .int 0, .int 0, .null, .int 0, .int 0, .null, .null, .null, .null, .int 0, .null, .null, .null, .null, .null, .null, .int 0, .int 0, .null, .null, .null, .null, .null, .int 0, .int 0, .int 0, .int 0, .null, .null, .null, .null, .null, .null, .null, .int 0, .int 0]) (fs' := [.ref (a + 1), .ref (a + 2), .ref (a + 3), .ref (a + 4), .ref (a + 5), .int 0, .null, .int 0, .int 0, .int 0, .int 0, .int 0, .int 0, .int 0, .int 0, .int 0, .int 0, .int 0, .null, .int 0, .int 0, .null, .null, .null, .null, .int 0, .null, .null, .null, .null, .null, .null, .int 0, .int 0, .null, .null, .null, .null, .null, .int 0, .int 0, .int 0, .int 0, .null, .null, .null, .null, .null, .null, .null, .int 0, .int 0]) Y hN rfl in11 tyX11_ok nmX11 (by decide) lk_X11_22 rfl hin rfl rfl rfl (Nat.le_of_ble_eq_true rfl) rfl dX11_init_40 (fun H locs hN => ?_)
  have hN : Nx s E [(a, .inr (11, [.ref (a + 1), .ref (a + 2), .ref (a + 3), .ref (a + 4), .ref (a + 5), .int 0, .null, .int 0, .int 0, .int 0, .int 0, .int 0, .int 0, .int 0, .int 0, .int 0, .int 0, .int 0, .null, .int 0, .int 0, .null, .null, .null, .null, .int 0, .null, .null, .null, .null, .null, .null, .int 0, .int 0, .null, .null, .null, .null, .null, .int 0, .int 0, .int 0, .int 0, .null, .null, .null, .null, .null, .null, .null, .int 0, .int 0]))] (L ++ [(a + 1, (0, 140))] ++ [(a + 2, (0, 2))] ++ [(a + 3, (0, 2))] ++ [(a + 4, (0, 2))] ++ [(a + 5, (0, 280))]) M (a + 6) 5 H locs := hN
  refine lv_aload_n hx hb dX11_init_43 rfl (lv_at hl 0 rfl) ?_
  refine lv_sipush (v := 800) hx hb dX11_init_44 (by decide) ?_
  refine n_arrB (N := 800) Y hN (by decide) (by decide +kernel) (Nat.le_of_ble_eq_true rfl) (Nat.le_of_ble_eq_true rfl) (Nat.le_of_ble_eq_true rfl) dX11_init_47 (fun H hN => ?_)
  have hN : Nx s E [(a, .inr (11, [.ref (a + 1), .ref (a + 2), .ref (a + 3), .ref (a + 4), .ref (a + 5), .int 0, .null, .int 0, .int 0, .int 0, .int 0, .int 0, .int 0, .int 0, .int 0, .int 0, .int 0, .int 0, .null, .int 0, .int 0, .null, .null, .null, .null, .int 0, .null, .null, .null, .null, .null, .null, .int 0, .int 0, .null, .null, .null, .null, .null, .int 0, .int 0, .int 0, .int 0, .null, .null, .null, .null, .null, .null, .null, .int 0, .int 0]))] (L ++ [(a + 1, (0, 140))] ++ [(a + 2, (0, 2))] ++ [(a + 3, (0, 2))] ++ [(a + 4, (0, 2))] ++ [(a + 5, (0, 280))] ++ [(a + 6, (2, 800))]) M (a + 7) 6 H locs := hN
  refine n_putF (er := []) (ci := 11) (C := RX11) (T := TX11) (N := 52) (k := 6) (ty0 := tyX11) (fs := [.ref (a + 1), .ref (a + 2), .ref (a + 3), .ref (a + 4), .ref (a + 5), .int 0, .null, .int 0, .int 0, .int 0, .int 0, .int 0, .int 0, .int 0, .int 0, .int 0, .int 0, .int 0, .null, .int 0, .int 0, .null, .null, .null, .null, .int 0, .null, .null, .null, .null, .null, .null, .int 0, .int 0, .null, .null, .null, .null, .null, .int 0, .int 0, .int 0, .int 0, .null, .null, .null, .null, .null, .null, .null, .int 0, .int 0]) (fs' := [.ref (a + 1), .ref (a + 2), .ref (a + 3), .ref (a + 4), .ref (a + 5), .int 0, .ref (a + 6), .int 0, .int 0, .int 0, .int 0, .int 0, .int 0, .int 0, .int 0, .int 0, .int 0, .int 0, .null, .int 0, .int 0, .null, .null, .null, .null, .int 0, .null, .null, .null, .null, .null, .null, .int 0, .int 0, .null, .null, .null, .null, .null, .int 0, .int 0, .int 0, .int 0, .null, .null, .null, .null, .null, .null, .null, .int 0, .int 0]) Y hN rfl in11 tyX11_ok nmX11 (by decide) lk_X11_25 rfl hin rfl rfl rfl (Nat.le_of_ble_eq_true rfl) rfl dX11_init_49 (fun H locs hN => ?_)
  have hN : Nx s E [(a, .inr (11, [.ref (a + 1), .ref (a + 2), .ref (a + 3), .ref (a + 4), .ref (a + 5), .int 0, .ref (a + 6), .int 0, .int 0, .int 0, .int 0, .int 0, .int 0, .int 0, .int 0, .int 0, .int 0, .int 0, .null, .int 0, .int 0, .null, .null, .null, .null, .int 0, .null, .null, .null, .null, .null, .null, .int 0, .int 0, .null, .null, .null, .null, .null, .int 0, .int 0, .int 0, .int 0, .null, .null, .null, .null, .null, .null, .null, .int 0, .int 0]))] (L ++ [(a + 1, (0, 140))] ++ [(a + 2, (0, 2))] ++ [(a + 3, (0, 2))] ++ [(a + 4, (0, 2))] ++ [(a + 5, (0, 280))] ++ [(a + 6, (2, 800))]) M (a + 7) 6 H locs := hN
  refine lv_aload_n hx hb dX11_init_52 rfl (lv_at hl 0 rfl) ?_
  refine lv_iconst (v := (-1)) hx hb dX11_init_53 (by decide) ?_
  refine n_putI (er := []) (ci := 11) (C := RX11) (T := TX11) (N := 52) (k := 17) (ty0 := tyX11) (fs := [.ref (a + 1), .ref (a + 2), .ref (a + 3), .ref (a + 4), .ref (a + 5), .int 0, .ref (a + 6), .int 0, .int 0, .int 0, .int 0, .int 0, .int 0, .int 0, .int 0, .int 0, .int 0, .int 0, .null, .int 0, .int 0, .null, .null, .null, .null, .int 0, .null, .null, .null, .null, .null, .null, .int 0, .int 0, .null, .null, .null, .null, .null, .int 0, .int 0, .int 0, .int 0, .null, .null, .null, .null, .null, .null, .null, .int 0, .int 0]) (fs' := [.ref (a + 1), .ref (a + 2), .ref (a + 3), .ref (a + 4), .ref (a + 5), .int 0, .ref (a + 6), .int 0, .int 0, .int 0, .int 0, .int 0, .int 0, .int 0, .int 0, .int 0, .int 0, .int (-1), .null, .int 0, .int 0, .null, .null, .null, .null, .int 0, .null, .null, .null, .null, .null, .null, .int 0, .int 0, .null, .null, .null, .null, .null, .int 0, .int 0, .int 0, .int 0, .null, .null, .null, .null, .null, .null, .null, .int 0, .int 0]) Y hN rfl in11 tyX11_ok nmX11 (by decide) lk_X11_29 rfl rfl rfl (Nat.le_of_ble_eq_true rfl) rfl dX11_init_54 (fun H locs hN => ?_)
  have hN : Nx s E [(a, .inr (11, [.ref (a + 1), .ref (a + 2), .ref (a + 3), .ref (a + 4), .ref (a + 5), .int 0, .ref (a + 6), .int 0, .int 0, .int 0, .int 0, .int 0, .int 0, .int 0, .int 0, .int 0, .int 0, .int (-1), .null, .int 0, .int 0, .null, .null, .null, .null, .int 0, .null, .null, .null, .null, .null, .null, .int 0, .int 0, .null, .null, .null, .null, .null, .int 0, .int 0, .int 0, .int 0, .null, .null, .null, .null, .null, .null, .null, .int 0, .int 0]))] (L ++ [(a + 1, (0, 140))] ++ [(a + 2, (0, 2))] ++ [(a + 3, (0, 2))] ++ [(a + 4, (0, 2))] ++ [(a + 5, (0, 280))] ++ [(a + 6, (2, 800))]) M (a + 7) 6 H locs := hN
  refine lv_aload_n hx hb dX11_init_57 rfl (lv_at hl 0 rfl) ?_
  refine lv_bipush (v := 69) hx hb dX11_init_58 (by decide) ?_
  refine n_arrB (N := 69) Y hN (by decide) (by decide +kernel) (Nat.le_of_ble_eq_true rfl) (Nat.le_of_ble_eq_true rfl) (Nat.le_of_ble_eq_true rfl) dX11_init_60 (fun H hN => ?_)
  have hN : Nx s E [(a, .inr (11, [.ref (a + 1), .ref (a + 2), .ref (a + 3), .ref (a + 4), .ref (a + 5), .int 0, .ref (a + 6), .int 0, .int 0, .int 0, .int 0, .int 0, .int 0, .int 0, .int 0, .int 0, .int 0, .int (-1), .null, .int 0, .int 0, .null, .null, .null, .null, .int 0, .null, .null, .null, .null, .null, .null, .int 0, .int 0, .null, .null, .null, .null, .null, .int 0, .int 0, .int 0, .int 0, .null, .null, .null, .null, .null, .null, .null, .int 0, .int 0]))] (L ++ [(a + 1, (0, 140))] ++ [(a + 2, (0, 2))] ++ [(a + 3, (0, 2))] ++ [(a + 4, (0, 2))] ++ [(a + 5, (0, 280))] ++ [(a + 6, (2, 800))] ++ [(a + 7, (2, 69))]) M (a + 8) 7 H locs := hN
  refine lv_dup hx hb dX11_init_62 rfl ?_
  refine lv_iconst (v := 0) hx hb dX11_init_63 (by decide) ?_
  refine lv_bipush (v := 110) hx hb dX11_init_64 (by decide) ?_
  obtain ⟨M1, eM1, h⟩ := lt_el h
  refine n_bast (q := a + 7) (i := 0) (x := 110) Y hN (List.mem_append_right _ (List.mem_singleton.mpr rfl)) (by decide +kernel) dX11_init_66 (fun H locs hN => ?_)
  have hN : Nx s E [(a, .inr (11, [.ref (a + 1), .ref (a + 2), .ref (a + 3), .ref (a + 4), .ref (a + 5), .int 0, .ref (a + 6), .int 0, .int 0, .int 0, .int 0, .int 0, .int 0, .int 0, .int 0, .int 0, .int 0, .int (-1), .null, .int 0, .int 0, .null, .null, .null, .null, .int 0, .null, .null, .null, .null, .null, .null, .int 0, .int 0, .null, .null, .null, .null, .null, .int 0, .int 0, .int 0, .int 0, .null, .null, .null, .null, .null, .null, .null, .int 0, .int 0]))] (L ++ [(a + 1, (0, 140))] ++ [(a + 2, (0, 2))] ++ [(a + 3, (0, 2))] ++ [(a + 4, (0, 2))] ++ [(a + 5, (0, 280))] ++ [(a + 6, (2, 800))] ++ [(a + 7, (2, 69))]) (wI M (a + 7) 0 (vp_nar .byte 110)) (a + 8) 7 H locs := hN
  rw [← eM1] at hN
  refine lv_dup hx hb dX11_init_67 rfl ?_
  refine lv_iconst (v := 1) hx hb dX11_init_68 (by decide) ?_
  refine lv_bipush (v := 111) hx hb dX11_init_69 (by decide) ?_
  obtain ⟨M2, eM2, h⟩ := lt_el h
  refine n_bast (q := a + 7) (i := 1) (x := 111) Y hN (List.mem_append_right _ (List.mem_singleton.mpr rfl)) (by decide +kernel) dX11_init_71 (fun H locs hN => ?_)
  have hN : Nx s E [(a, .inr (11, [.ref (a + 1), .ref (a + 2), .ref (a + 3), .ref (a + 4), .ref (a + 5), .int 0, .ref (a + 6), .int 0, .int 0, .int 0, .int 0, .int 0, .int 0, .int 0, .int 0, .int 0, .int 0, .int (-1), .null, .int 0, .int 0, .null, .null, .null, .null, .int 0, .null, .null, .null, .null, .null, .null, .int 0, .int 0, .null, .null, .null, .null, .null, .int 0, .int 0, .int 0, .int 0, .null, .null, .null, .null, .null, .null, .null, .int 0, .int 0]))] (L ++ [(a + 1, (0, 140))] ++ [(a + 2, (0, 2))] ++ [(a + 3, (0, 2))] ++ [(a + 4, (0, 2))] ++ [(a + 5, (0, 280))] ++ [(a + 6, (2, 800))] ++ [(a + 7, (2, 69))]) (wI M1 (a + 7) 1 (vp_nar .byte 111)) (a + 8) 7 H locs := hN
  rw [← eM2] at hN
  refine lv_dup hx hb dX11_init_72 rfl ?_
  refine lv_iconst (v := 2) hx hb dX11_init_73 (by decide) ?_
  refine lv_bipush (v := 110) hx hb dX11_init_74 (by decide) ?_
  obtain ⟨M3, eM3, h⟩ := lt_el h
  refine n_bast (q := a + 7) (i := 2) (x := 110) Y hN (List.mem_append_right _ (List.mem_singleton.mpr rfl)) (by decide +kernel) dX11_init_76 (fun H locs hN => ?_)
  have hN : Nx s E [(a, .inr (11, [.ref (a + 1), .ref (a + 2), .ref (a + 3), .ref (a + 4), .ref (a + 5), .int 0, .ref (a + 6), .int 0, .int 0, .int 0, .int 0, .int 0, .int 0, .int 0, .int 0, .int 0, .int 0, .int (-1), .null, .int 0, .int 0, .null, .null, .null, .null, .int 0, .null, .null, .null, .null, .null, .null, .int 0, .int 0, .null, .null, .null, .null, .null, .int 0, .int 0, .int 0, .int 0, .null, .null, .null, .null, .null, .null, .null, .int 0, .int 0]))] (L ++ [(a + 1, (0, 140))] ++ [(a + 2, (0, 2))] ++ [(a + 3, (0, 2))] ++ [(a + 4, (0, 2))] ++ [(a + 5, (0, 280))] ++ [(a + 6, (2, 800))] ++ [(a + 7, (2, 69))]) (wI M2 (a + 7) 2 (vp_nar .byte 110)) (a + 8) 7 H locs := hN
  rw [← eM3] at hN
  refine lv_dup hx hb dX11_init_77 rfl ?_
  refine lv_iconst (v := 3) hx hb dX11_init_78 (by decide) ?_
  refine lv_bipush (v := 101) hx hb dX11_init_79 (by decide) ?_
  obtain ⟨M4, eM4, h⟩ := lt_el h
  refine n_bast (q := a + 7) (i := 3) (x := 101) Y hN (List.mem_append_right _ (List.mem_singleton.mpr rfl)) (by decide +kernel) dX11_init_81 (fun H locs hN => ?_)
  have hN : Nx s E [(a, .inr (11, [.ref (a + 1), .ref (a + 2), .ref (a + 3), .ref (a + 4), .ref (a + 5), .int 0, .ref (a + 6), .int 0, .int 0, .int 0, .int 0, .int 0, .int 0, .int 0, .int 0, .int 0, .int 0, .int (-1), .null, .int 0, .int 0, .null, .null, .null, .null, .int 0, .null, .null, .null, .null, .null, .null, .int 0, .int 0, .null, .null, .null, .null, .null, .int 0, .int 0, .int 0, .int 0, .null, .null, .null, .null, .null, .null, .null, .int 0, .int 0]))] (L ++ [(a + 1, (0, 140))] ++ [(a + 2, (0, 2))] ++ [(a + 3, (0, 2))] ++ [(a + 4, (0, 2))] ++ [(a + 5, (0, 280))] ++ [(a + 6, (2, 800))] ++ [(a + 7, (2, 69))]) (wI M3 (a + 7) 3 (vp_nar .byte 101)) (a + 8) 7 H locs := hN
  rw [← eM4] at hN
  refine lv_dup hx hb dX11_init_82 rfl ?_
  refine lv_iconst (v := 4) hx hb dX11_init_83 (by decide) ?_
  refine lv_bipush (v := 32) hx hb dX11_init_84 (by decide) ?_
  obtain ⟨M5, eM5, h⟩ := lt_el h
  refine n_bast (q := a + 7) (i := 4) (x := 32) Y hN (List.mem_append_right _ (List.mem_singleton.mpr rfl)) (by decide +kernel) dX11_init_86 (fun H locs hN => ?_)
  have hN : Nx s E [(a, .inr (11, [.ref (a + 1), .ref (a + 2), .ref (a + 3), .ref (a + 4), .ref (a + 5), .int 0, .ref (a + 6), .int 0, .int 0, .int 0, .int 0, .int 0, .int 0, .int 0, .int 0, .int 0, .int 0, .int (-1), .null, .int 0, .int 0, .null, .null, .null, .null, .int 0, .null, .null, .null, .null, .null, .null, .int 0, .int 0, .null, .null, .null, .null, .null, .int 0, .int 0, .int 0, .int 0, .null, .null, .null, .null, .null, .null, .null, .int 0, .int 0]))] (L ++ [(a + 1, (0, 140))] ++ [(a + 2, (0, 2))] ++ [(a + 3, (0, 2))] ++ [(a + 4, (0, 2))] ++ [(a + 5, (0, 280))] ++ [(a + 6, (2, 800))] ++ [(a + 7, (2, 69))]) (wI M4 (a + 7) 4 (vp_nar .byte 32)) (a + 8) 7 H locs := hN
  rw [← eM5] at hN
  refine lv_dup hx hb dX11_init_87 rfl ?_
  refine lv_iconst (v := 5) hx hb dX11_init_88 (by decide) ?_
  refine lv_bipush (v := 99) hx hb dX11_init_89 (by decide) ?_
  obtain ⟨M6, eM6, h⟩ := lt_el h
  refine n_bast (q := a + 7) (i := 5) (x := 99) Y hN (List.mem_append_right _ (List.mem_singleton.mpr rfl)) (by decide +kernel) dX11_init_91 (fun H locs hN => ?_)
  have hN : Nx s E [(a, .inr (11, [.ref (a + 1), .ref (a + 2), .ref (a + 3), .ref (a + 4), .ref (a + 5), .int 0, .ref (a + 6), .int 0, .int 0, .int 0, .int 0, .int 0, .int 0, .int 0, .int 0, .int 0, .int 0, .int (-1), .null, .int 0, .int 0, .null, .null, .null, .null, .int 0, .null, .null, .null, .null, .null, .null, .int 0, .int 0, .null, .null, .null, .null, .null, .int 0, .int 0, .int 0, .int 0, .null, .null, .null, .null, .null, .null, .null, .int 0, .int 0]))] (L ++ [(a + 1, (0, 140))] ++ [(a + 2, (0, 2))] ++ [(a + 3, (0, 2))] ++ [(a + 4, (0, 2))] ++ [(a + 5, (0, 280))] ++ [(a + 6, (2, 800))] ++ [(a + 7, (2, 69))]) (wI M5 (a + 7) 5 (vp_nar .byte 99)) (a + 8) 7 H locs := hN
  rw [← eM6] at hN
  refine lv_dup hx hb dX11_init_92 rfl ?_
  refine lv_bipush (v := 6) hx hb dX11_init_93 (by decide) ?_
  refine lv_bipush (v := 111) hx hb dX11_init_95 (by decide) ?_
  obtain ⟨M7, eM7, h⟩ := lt_el h
  refine n_bast (q := a + 7) (i := 6) (x := 111) Y hN (List.mem_append_right _ (List.mem_singleton.mpr rfl)) (by decide +kernel) dX11_init_97 (fun H locs hN => ?_)
  have hN : Nx s E [(a, .inr (11, [.ref (a + 1), .ref (a + 2), .ref (a + 3), .ref (a + 4), .ref (a + 5), .int 0, .ref (a + 6), .int 0, .int 0, .int 0, .int 0, .int 0, .int 0, .int 0, .int 0, .int 0, .int 0, .int (-1), .null, .int 0, .int 0, .null, .null, .null, .null, .int 0, .null, .null, .null, .null, .null, .null, .int 0, .int 0, .null, .null, .null, .null, .null, .int 0, .int 0, .int 0, .int 0, .null, .null, .null, .null, .null, .null, .null, .int 0, .int 0]))] (L ++ [(a + 1, (0, 140))] ++ [(a + 2, (0, 2))] ++ [(a + 3, (0, 2))] ++ [(a + 4, (0, 2))] ++ [(a + 5, (0, 280))] ++ [(a + 6, (2, 800))] ++ [(a + 7, (2, 69))]) (wI M6 (a + 7) 6 (vp_nar .byte 111)) (a + 8) 7 H locs := hN
  rw [← eM7] at hN
  refine lv_dup hx hb dX11_init_98 rfl ?_
  refine lv_bipush (v := 7) hx hb dX11_init_99 (by decide) ?_
  refine lv_bipush (v := 109) hx hb dX11_init_101 (by decide) ?_
  obtain ⟨M8, eM8, h⟩ := lt_el h
  refine n_bast (q := a + 7) (i := 7) (x := 109) Y hN (List.mem_append_right _ (List.mem_singleton.mpr rfl)) (by decide +kernel) dX11_init_103 (fun H locs hN => ?_)
  have hN : Nx s E [(a, .inr (11, [.ref (a + 1), .ref (a + 2), .ref (a + 3), .ref (a + 4), .ref (a + 5), .int 0, .ref (a + 6), .int 0, .int 0, .int 0, .int 0, .int 0, .int 0, .int 0, .int 0, .int 0, .int 0, .int (-1), .null, .int 0, .int 0, .null, .null, .null, .null, .int 0, .null, .null, .null, .null, .null, .null, .int 0, .int 0, .null, .null, .null, .null, .null, .int 0, .int 0, .int 0, .int 0, .null, .null, .null, .null, .null, .null, .null, .int 0, .int 0]))] (L ++ [(a + 1, (0, 140))] ++ [(a + 2, (0, 2))] ++ [(a + 3, (0, 2))] ++ [(a + 4, (0, 2))] ++ [(a + 5, (0, 280))] ++ [(a + 6, (2, 800))] ++ [(a + 7, (2, 69))]) (wI M7 (a + 7) 7 (vp_nar .byte 109)) (a + 8) 7 H locs := hN
  rw [← eM8] at hN
  refine lv_dup hx hb dX11_init_104 rfl ?_
  refine lv_bipush (v := 8) hx hb dX11_init_105 (by decide) ?_
  refine lv_bipush (v := 98) hx hb dX11_init_107 (by decide) ?_
  obtain ⟨M9, eM9, h⟩ := lt_el h
  refine n_bast (q := a + 7) (i := 8) (x := 98) Y hN (List.mem_append_right _ (List.mem_singleton.mpr rfl)) (by decide +kernel) dX11_init_109 (fun H locs hN => ?_)
  have hN : Nx s E [(a, .inr (11, [.ref (a + 1), .ref (a + 2), .ref (a + 3), .ref (a + 4), .ref (a + 5), .int 0, .ref (a + 6), .int 0, .int 0, .int 0, .int 0, .int 0, .int 0, .int 0, .int 0, .int 0, .int 0, .int (-1), .null, .int 0, .int 0, .null, .null, .null, .null, .int 0, .null, .null, .null, .null, .null, .null, .int 0, .int 0, .null, .null, .null, .null, .null, .int 0, .int 0, .int 0, .int 0, .null, .null, .null, .null, .null, .null, .null, .int 0, .int 0]))] (L ++ [(a + 1, (0, 140))] ++ [(a + 2, (0, 2))] ++ [(a + 3, (0, 2))] ++ [(a + 4, (0, 2))] ++ [(a + 5, (0, 280))] ++ [(a + 6, (2, 800))] ++ [(a + 7, (2, 69))]) (wI M8 (a + 7) 8 (vp_nar .byte 98)) (a + 8) 7 H locs := hN
  rw [← eM9] at hN
  refine lv_dup hx hb dX11_init_110 rfl ?_
  refine lv_bipush (v := 9) hx hb dX11_init_111 (by decide) ?_
  refine lv_bipush (v := 32) hx hb dX11_init_113 (by decide) ?_
  obtain ⟨M10, eM10, h⟩ := lt_el h
  refine n_bast (q := a + 7) (i := 9) (x := 32) Y hN (List.mem_append_right _ (List.mem_singleton.mpr rfl)) (by decide +kernel) dX11_init_115 (fun H locs hN => ?_)
  have hN : Nx s E [(a, .inr (11, [.ref (a + 1), .ref (a + 2), .ref (a + 3), .ref (a + 4), .ref (a + 5), .int 0, .ref (a + 6), .int 0, .int 0, .int 0, .int 0, .int 0, .int 0, .int 0, .int 0, .int 0, .int 0, .int (-1), .null, .int 0, .int 0, .null, .null, .null, .null, .int 0, .null, .null, .null, .null, .null, .null, .int 0, .int 0, .null, .null, .null, .null, .null, .int 0, .int 0, .int 0, .int 0, .null, .null, .null, .null, .null, .null, .null, .int 0, .int 0]))] (L ++ [(a + 1, (0, 140))] ++ [(a + 2, (0, 2))] ++ [(a + 3, (0, 2))] ++ [(a + 4, (0, 2))] ++ [(a + 5, (0, 280))] ++ [(a + 6, (2, 800))] ++ [(a + 7, (2, 69))]) (wI M9 (a + 7) 9 (vp_nar .byte 32)) (a + 8) 7 H locs := hN
  rw [← eM10] at hN
  refine lv_dup hx hb dX11_init_116 rfl ?_
  refine lv_bipush (v := 10) hx hb dX11_init_117 (by decide) ?_
  refine lv_bipush (v := 116) hx hb dX11_init_119 (by decide) ?_
  obtain ⟨M11, eM11, h⟩ := lt_el h
  refine n_bast (q := a + 7) (i := 10) (x := 116) Y hN (List.mem_append_right _ (List.mem_singleton.mpr rfl)) (by decide +kernel) dX11_init_121 (fun H locs hN => ?_)
  have hN : Nx s E [(a, .inr (11, [.ref (a + 1), .ref (a + 2), .ref (a + 3), .ref (a + 4), .ref (a + 5), .int 0, .ref (a + 6), .int 0, .int 0, .int 0, .int 0, .int 0, .int 0, .int 0, .int 0, .int 0, .int 0, .int (-1), .null, .int 0, .int 0, .null, .null, .null, .null, .int 0, .null, .null, .null, .null, .null, .null, .int 0, .int 0, .null, .null, .null, .null, .null, .int 0, .int 0, .int 0, .int 0, .null, .null, .null, .null, .null, .null, .null, .int 0, .int 0]))] (L ++ [(a + 1, (0, 140))] ++ [(a + 2, (0, 2))] ++ [(a + 3, (0, 2))] ++ [(a + 4, (0, 2))] ++ [(a + 5, (0, 280))] ++ [(a + 6, (2, 800))] ++ [(a + 7, (2, 69))]) (wI M10 (a + 7) 10 (vp_nar .byte 116)) (a + 8) 7 H locs := hN
  rw [← eM11] at hN
  refine lv_dup hx hb dX11_init_122 rfl ?_
  refine lv_bipush (v := 11) hx hb dX11_init_123 (by decide) ?_
  refine lv_bipush (v := 104) hx hb dX11_init_125 (by decide) ?_
  obtain ⟨M12, eM12, h⟩ := lt_el h
  refine n_bast (q := a + 7) (i := 11) (x := 104) Y hN (List.mem_append_right _ (List.mem_singleton.mpr rfl)) (by decide +kernel) dX11_init_127 (fun H locs hN => ?_)
  have hN : Nx s E [(a, .inr (11, [.ref (a + 1), .ref (a + 2), .ref (a + 3), .ref (a + 4), .ref (a + 5), .int 0, .ref (a + 6), .int 0, .int 0, .int 0, .int 0, .int 0, .int 0, .int 0, .int 0, .int 0, .int 0, .int (-1), .null, .int 0, .int 0, .null, .null, .null, .null, .int 0, .null, .null, .null, .null, .null, .null, .int 0, .int 0, .null, .null, .null, .null, .null, .int 0, .int 0, .int 0, .int 0, .null, .null, .null, .null, .null, .null, .null, .int 0, .int 0]))] (L ++ [(a + 1, (0, 140))] ++ [(a + 2, (0, 2))] ++ [(a + 3, (0, 2))] ++ [(a + 4, (0, 2))] ++ [(a + 5, (0, 280))] ++ [(a + 6, (2, 800))] ++ [(a + 7, (2, 69))]) (wI M11 (a + 7) 11 (vp_nar .byte 104)) (a + 8) 7 H locs := hN
  rw [← eM12] at hN
  refine lv_dup hx hb dX11_init_128 rfl ?_
  refine lv_bipush (v := 12) hx hb dX11_init_129 (by decide) ?_
  refine lv_bipush (v := 114) hx hb dX11_init_131 (by decide) ?_
  obtain ⟨M13, eM13, h⟩ := lt_el h
  refine n_bast (q := a + 7) (i := 12) (x := 114) Y hN (List.mem_append_right _ (List.mem_singleton.mpr rfl)) (by decide +kernel) dX11_init_133 (fun H locs hN => ?_)
  have hN : Nx s E [(a, .inr (11, [.ref (a + 1), .ref (a + 2), .ref (a + 3), .ref (a + 4), .ref (a + 5), .int 0, .ref (a + 6), .int 0, .int 0, .int 0, .int 0, .int 0, .int 0, .int 0, .int 0, .int 0, .int 0, .int (-1), .null, .int 0, .int 0, .null, .null, .null, .null, .int 0, .null, .null, .null, .null, .null, .null, .int 0, .int 0, .null, .null, .null, .null, .null, .int 0, .int 0, .int 0, .int 0, .null, .null, .null, .null, .null, .null, .null, .int 0, .int 0]))] (L ++ [(a + 1, (0, 140))] ++ [(a + 2, (0, 2))] ++ [(a + 3, (0, 2))] ++ [(a + 4, (0, 2))] ++ [(a + 5, (0, 280))] ++ [(a + 6, (2, 800))] ++ [(a + 7, (2, 69))]) (wI M12 (a + 7) 12 (vp_nar .byte 114)) (a + 8) 7 H locs := hN
  rw [← eM13] at hN
  refine lv_dup hx hb dX11_init_134 rfl ?_
  refine lv_bipush (v := 13) hx hb dX11_init_135 (by decide) ?_
  refine lv_bipush (v := 117) hx hb dX11_init_137 (by decide) ?_
  obtain ⟨M14, eM14, h⟩ := lt_el h
  refine n_bast (q := a + 7) (i := 13) (x := 117) Y hN (List.mem_append_right _ (List.mem_singleton.mpr rfl)) (by decide +kernel) dX11_init_139 (fun H locs hN => ?_)
  have hN : Nx s E [(a, .inr (11, [.ref (a + 1), .ref (a + 2), .ref (a + 3), .ref (a + 4), .ref (a + 5), .int 0, .ref (a + 6), .int 0, .int 0, .int 0, .int 0, .int 0, .int 0, .int 0, .int 0, .int 0, .int 0, .int (-1), .null, .int 0, .int 0, .null, .null, .null, .null, .int 0, .null, .null, .null, .null, .null, .null, .int 0, .int 0, .null, .null, .null, .null, .null, .int 0, .int 0, .int 0, .int 0, .null, .null, .null, .null, .null, .null, .null, .int 0, .int 0]))] (L ++ [(a + 1, (0, 140))] ++ [(a + 2, (0, 2))] ++ [(a + 3, (0, 2))] ++ [(a + 4, (0, 2))] ++ [(a + 5, (0, 280))] ++ [(a + 6, (2, 800))] ++ [(a + 7, (2, 69))]) (wI M13 (a + 7) 13 (vp_nar .byte 117)) (a + 8) 7 H locs := hN
  rw [← eM14] at hN
  refine lv_dup hx hb dX11_init_140 rfl ?_
  refine lv_bipush (v := 14) hx hb dX11_init_141 (by decide) ?_
  refine lv_bipush (v := 32) hx hb dX11_init_143 (by decide) ?_
  obtain ⟨M15, eM15, h⟩ := lt_el h
  refine n_bast (q := a + 7) (i := 14) (x := 32) Y hN (List.mem_append_right _ (List.mem_singleton.mpr rfl)) (by decide +kernel) dX11_init_145 (fun H locs hN => ?_)
  have hN : Nx s E [(a, .inr (11, [.ref (a + 1), .ref (a + 2), .ref (a + 3), .ref (a + 4), .ref (a + 5), .int 0, .ref (a + 6), .int 0, .int 0, .int 0, .int 0, .int 0, .int 0, .int 0, .int 0, .int 0, .int 0, .int (-1), .null, .int 0, .int 0, .null, .null, .null, .null, .int 0, .null, .null, .null, .null, .null, .null, .int 0, .int 0, .null, .null, .null, .null, .null, .int 0, .int 0, .int 0, .int 0, .null, .null, .null, .null, .null, .null, .null, .int 0, .int 0]))] (L ++ [(a + 1, (0, 140))] ++ [(a + 2, (0, 2))] ++ [(a + 3, (0, 2))] ++ [(a + 4, (0, 2))] ++ [(a + 5, (0, 280))] ++ [(a + 6, (2, 800))] ++ [(a + 7, (2, 69))]) (wI M14 (a + 7) 14 (vp_nar .byte 32)) (a + 8) 7 H locs := hN
  rw [← eM15] at hN
  refine lv_dup hx hb dX11_init_146 rfl ?_
  refine lv_bipush (v := 15) hx hb dX11_init_147 (by decide) ?_
  refine lv_bipush (v := 112) hx hb dX11_init_149 (by decide) ?_
  obtain ⟨M16, eM16, h⟩ := lt_el h
  refine n_bast (q := a + 7) (i := 15) (x := 112) Y hN (List.mem_append_right _ (List.mem_singleton.mpr rfl)) (by decide +kernel) dX11_init_151 (fun H locs hN => ?_)
  have hN : Nx s E [(a, .inr (11, [.ref (a + 1), .ref (a + 2), .ref (a + 3), .ref (a + 4), .ref (a + 5), .int 0, .ref (a + 6), .int 0, .int 0, .int 0, .int 0, .int 0, .int 0, .int 0, .int 0, .int 0, .int 0, .int (-1), .null, .int 0, .int 0, .null, .null, .null, .null, .int 0, .null, .null, .null, .null, .null, .null, .int 0, .int 0, .null, .null, .null, .null, .null, .int 0, .int 0, .int 0, .int 0, .null, .null, .null, .null, .null, .null, .null, .int 0, .int 0]))] (L ++ [(a + 1, (0, 140))] ++ [(a + 2, (0, 2))] ++ [(a + 3, (0, 2))] ++ [(a + 4, (0, 2))] ++ [(a + 5, (0, 280))] ++ [(a + 6, (2, 800))] ++ [(a + 7, (2, 69))]) (wI M15 (a + 7) 15 (vp_nar .byte 112)) (a + 8) 7 H locs := hN
  rw [← eM16] at hN
  refine lv_dup hx hb dX11_init_152 rfl ?_
  refine lv_bipush (v := 16) hx hb dX11_init_153 (by decide) ?_
  refine lv_bipush (v := 114) hx hb dX11_init_155 (by decide) ?_
  obtain ⟨M17, eM17, h⟩ := lt_el h
  refine n_bast (q := a + 7) (i := 16) (x := 114) Y hN (List.mem_append_right _ (List.mem_singleton.mpr rfl)) (by decide +kernel) dX11_init_157 (fun H locs hN => ?_)
  have hN : Nx s E [(a, .inr (11, [.ref (a + 1), .ref (a + 2), .ref (a + 3), .ref (a + 4), .ref (a + 5), .int 0, .ref (a + 6), .int 0, .int 0, .int 0, .int 0, .int 0, .int 0, .int 0, .int 0, .int 0, .int 0, .int (-1), .null, .int 0, .int 0, .null, .null, .null, .null, .int 0, .null, .null, .null, .null, .null, .null, .int 0, .int 0, .null, .null, .null, .null, .null, .int 0, .int 0, .int 0, .int 0, .null, .null, .null, .null, .null, .null, .null, .int 0, .int 0]))] (L ++ [(a + 1, (0, 140))] ++ [(a + 2, (0, 2))] ++ [(a + 3, (0, 2))] ++ [(a + 4, (0, 2))] ++ [(a + 5, (0, 280))] ++ [(a + 6, (2, 800))] ++ [(a + 7, (2, 69))]) (wI M16 (a + 7) 16 (vp_nar .byte 114)) (a + 8) 7 H locs := hN
  rw [← eM17] at hN
  refine lv_dup hx hb dX11_init_158 rfl ?_
  refine lv_bipush (v := 17) hx hb dX11_init_159 (by decide) ?_
  refine lv_bipush (v := 111) hx hb dX11_init_161 (by decide) ?_
  obtain ⟨M18, eM18, h⟩ := lt_el h
  refine n_bast (q := a + 7) (i := 17) (x := 111) Y hN (List.mem_append_right _ (List.mem_singleton.mpr rfl)) (by decide +kernel) dX11_init_163 (fun H locs hN => ?_)
  have hN : Nx s E [(a, .inr (11, [.ref (a + 1), .ref (a + 2), .ref (a + 3), .ref (a + 4), .ref (a + 5), .int 0, .ref (a + 6), .int 0, .int 0, .int 0, .int 0, .int 0, .int 0, .int 0, .int 0, .int 0, .int 0, .int (-1), .null, .int 0, .int 0, .null, .null, .null, .null, .int 0, .null, .null, .null, .null, .null, .null, .int 0, .int 0, .null, .null, .null, .null, .null, .int 0, .int 0, .int 0, .int 0, .null, .null, .null, .null, .null, .null, .null, .int 0, .int 0]))] (L ++ [(a + 1, (0, 140))] ++ [(a + 2, (0, 2))] ++ [(a + 3, (0, 2))] ++ [(a + 4, (0, 2))] ++ [(a + 5, (0, 280))] ++ [(a + 6, (2, 800))] ++ [(a + 7, (2, 69))]) (wI M17 (a + 7) 17 (vp_nar .byte 111)) (a + 8) 7 H locs := hN
  rw [← eM18] at hN
  refine lv_dup hx hb dX11_init_164 rfl ?_
  refine lv_bipush (v := 18) hx hb dX11_init_165 (by decide) ?_
  refine lv_bipush (v := 116) hx hb dX11_init_167 (by decide) ?_
  obtain ⟨M19, eM19, h⟩ := lt_el h
  refine n_bast (q := a + 7) (i := 18) (x := 116) Y hN (List.mem_append_right _ (List.mem_singleton.mpr rfl)) (by decide +kernel) dX11_init_169 (fun H locs hN => ?_)
  have hN : Nx s E [(a, .inr (11, [.ref (a + 1), .ref (a + 2), .ref (a + 3), .ref (a + 4), .ref (a + 5), .int 0, .ref (a + 6), .int 0, .int 0, .int 0, .int 0, .int 0, .int 0, .int 0, .int 0, .int 0, .int 0, .int (-1), .null, .int 0, .int 0, .null, .null, .null, .null, .int 0, .null, .null, .null, .null, .null, .null, .int 0, .int 0, .null, .null, .null, .null, .null, .int 0, .int 0, .int 0, .int 0, .null, .null, .null, .null, .null, .null, .null, .int 0, .int 0]))] (L ++ [(a + 1, (0, 140))] ++ [(a + 2, (0, 2))] ++ [(a + 3, (0, 2))] ++ [(a + 4, (0, 2))] ++ [(a + 5, (0, 280))] ++ [(a + 6, (2, 800))] ++ [(a + 7, (2, 69))]) (wI M18 (a + 7) 18 (vp_nar .byte 116)) (a + 8) 7 H locs := hN
  rw [← eM19] at hN
  refine lv_dup hx hb dX11_init_170 rfl ?_
  refine lv_bipush (v := 19) hx hb dX11_init_171 (by decide) ?_
  refine lv_bipush (v := 32) hx hb dX11_init_173 (by decide) ?_
  obtain ⟨M20, eM20, h⟩ := lt_el h
  refine n_bast (q := a + 7) (i := 19) (x := 32) Y hN (List.mem_append_right _ (List.mem_singleton.mpr rfl)) (by decide +kernel) dX11_init_175 (fun H locs hN => ?_)
  have hN : Nx s E [(a, .inr (11, [.ref (a + 1), .ref (a + 2), .ref (a + 3), .ref (a + 4), .ref (a + 5), .int 0, .ref (a + 6), .int 0, .int 0, .int 0, .int 0, .int 0, .int 0, .int 0, .int 0, .int 0, .int 0, .int (-1), .null, .int 0, .int 0, .null, .null, .null, .null, .int 0, .null, .null, .null, .null, .null, .null, .int 0, .int 0, .null, .null, .null, .null, .null, .int 0, .int 0, .int 0, .int 0, .null, .null, .null, .null, .null, .null, .null, .int 0, .int 0]))] (L ++ [(a + 1, (0, 140))] ++ [(a + 2, (0, 2))] ++ [(a + 3, (0, 2))] ++ [(a + 4, (0, 2))] ++ [(a + 5, (0, 280))] ++ [(a + 6, (2, 800))] ++ [(a + 7, (2, 69))]) (wI M19 (a + 7) 19 (vp_nar .byte 32)) (a + 8) 7 H locs := hN
  rw [← eM20] at hN
  refine lv_dup hx hb dX11_init_176 rfl ?_
  refine lv_bipush (v := 20) hx hb dX11_init_177 (by decide) ?_
  refine lv_bipush (v := 98) hx hb dX11_init_179 (by decide) ?_
  obtain ⟨M21, eM21, h⟩ := lt_el h
  refine n_bast (q := a + 7) (i := 20) (x := 98) Y hN (List.mem_append_right _ (List.mem_singleton.mpr rfl)) (by decide +kernel) dX11_init_181 (fun H locs hN => ?_)
  have hN : Nx s E [(a, .inr (11, [.ref (a + 1), .ref (a + 2), .ref (a + 3), .ref (a + 4), .ref (a + 5), .int 0, .ref (a + 6), .int 0, .int 0, .int 0, .int 0, .int 0, .int 0, .int 0, .int 0, .int 0, .int 0, .int (-1), .null, .int 0, .int 0, .null, .null, .null, .null, .int 0, .null, .null, .null, .null, .null, .null, .int 0, .int 0, .null, .null, .null, .null, .null, .int 0, .int 0, .int 0, .int 0, .null, .null, .null, .null, .null, .null, .null, .int 0, .int 0]))] (L ++ [(a + 1, (0, 140))] ++ [(a + 2, (0, 2))] ++ [(a + 3, (0, 2))] ++ [(a + 4, (0, 2))] ++ [(a + 5, (0, 280))] ++ [(a + 6, (2, 800))] ++ [(a + 7, (2, 69))]) (wI M20 (a + 7) 20 (vp_nar .byte 98)) (a + 8) 7 H locs := hN
  rw [← eM21] at hN
  refine lv_dup hx hb dX11_init_182 rfl ?_
  refine lv_bipush (v := 21) hx hb dX11_init_183 (by decide) ?_
  refine lv_bipush (v := 97) hx hb dX11_init_185 (by decide) ?_
  obtain ⟨M22, eM22, h⟩ := lt_el h
  refine n_bast (q := a + 7) (i := 21) (x := 97) Y hN (List.mem_append_right _ (List.mem_singleton.mpr rfl)) (by decide +kernel) dX11_init_187 (fun H locs hN => ?_)
  have hN : Nx s E [(a, .inr (11, [.ref (a + 1), .ref (a + 2), .ref (a + 3), .ref (a + 4), .ref (a + 5), .int 0, .ref (a + 6), .int 0, .int 0, .int 0, .int 0, .int 0, .int 0, .int 0, .int 0, .int 0, .int 0, .int (-1), .null, .int 0, .int 0, .null, .null, .null, .null, .int 0, .null, .null, .null, .null, .null, .null, .int 0, .int 0, .null, .null, .null, .null, .null, .int 0, .int 0, .int 0, .int 0, .null, .null, .null, .null, .null, .null, .null, .int 0, .int 0]))] (L ++ [(a + 1, (0, 140))] ++ [(a + 2, (0, 2))] ++ [(a + 3, (0, 2))] ++ [(a + 4, (0, 2))] ++ [(a + 5, (0, 280))] ++ [(a + 6, (2, 800))] ++ [(a + 7, (2, 69))]) (wI M21 (a + 7) 21 (vp_nar .byte 97)) (a + 8) 7 H locs := hN
  rw [← eM22] at hN
  refine lv_dup hx hb dX11_init_188 rfl ?_
  refine lv_bipush (v := 22) hx hb dX11_init_189 (by decide) ?_
  refine lv_bipush (v := 99) hx hb dX11_init_191 (by decide) ?_
  obtain ⟨M23, eM23, h⟩ := lt_el h
  refine n_bast (q := a + 7) (i := 22) (x := 99) Y hN (List.mem_append_right _ (List.mem_singleton.mpr rfl)) (by decide +kernel) dX11_init_193 (fun H locs hN => ?_)
  have hN : Nx s E [(a, .inr (11, [.ref (a + 1), .ref (a + 2), .ref (a + 3), .ref (a + 4), .ref (a + 5), .int 0, .ref (a + 6), .int 0, .int 0, .int 0, .int 0, .int 0, .int 0, .int 0, .int 0, .int 0, .int 0, .int (-1), .null, .int 0, .int 0, .null, .null, .null, .null, .int 0, .null, .null, .null, .null, .null, .null, .int 0, .int 0, .null, .null, .null, .null, .null, .int 0, .int 0, .int 0, .int 0, .null, .null, .null, .null, .null, .null, .null, .int 0, .int 0]))] (L ++ [(a + 1, (0, 140))] ++ [(a + 2, (0, 2))] ++ [(a + 3, (0, 2))] ++ [(a + 4, (0, 2))] ++ [(a + 5, (0, 280))] ++ [(a + 6, (2, 800))] ++ [(a + 7, (2, 69))]) (wI M22 (a + 7) 22 (vp_nar .byte 99)) (a + 8) 7 H locs := hN
  rw [← eM23] at hN
  refine lv_dup hx hb dX11_init_194 rfl ?_
  refine lv_bipush (v := 23) hx hb dX11_init_195 (by decide) ?_
  refine lv_bipush (v := 107) hx hb dX11_init_197 (by decide) ?_
  obtain ⟨M24, eM24, h⟩ := lt_el h
  refine n_bast (q := a + 7) (i := 23) (x := 107) Y hN (List.mem_append_right _ (List.mem_singleton.mpr rfl)) (by decide +kernel) dX11_init_199 (fun H locs hN => ?_)
  have hN : Nx s E [(a, .inr (11, [.ref (a + 1), .ref (a + 2), .ref (a + 3), .ref (a + 4), .ref (a + 5), .int 0, .ref (a + 6), .int 0, .int 0, .int 0, .int 0, .int 0, .int 0, .int 0, .int 0, .int 0, .int 0, .int (-1), .null, .int 0, .int 0, .null, .null, .null, .null, .int 0, .null, .null, .null, .null, .null, .null, .int 0, .int 0, .null, .null, .null, .null, .null, .int 0, .int 0, .int 0, .int 0, .null, .null, .null, .null, .null, .null, .null, .int 0, .int 0]))] (L ++ [(a + 1, (0, 140))] ++ [(a + 2, (0, 2))] ++ [(a + 3, (0, 2))] ++ [(a + 4, (0, 2))] ++ [(a + 5, (0, 280))] ++ [(a + 6, (2, 800))] ++ [(a + 7, (2, 69))]) (wI M23 (a + 7) 23 (vp_nar .byte 107)) (a + 8) 7 H locs := hN
  rw [← eM24] at hN
  refine lv_dup hx hb dX11_init_200 rfl ?_
  refine lv_bipush (v := 24) hx hb dX11_init_201 (by decide) ?_
  refine lv_bipush (v := 32) hx hb dX11_init_203 (by decide) ?_
  obtain ⟨M25, eM25, h⟩ := lt_el h
  refine n_bast (q := a + 7) (i := 24) (x := 32) Y hN (List.mem_append_right _ (List.mem_singleton.mpr rfl)) (by decide +kernel) dX11_init_205 (fun H locs hN => ?_)
  have hN : Nx s E [(a, .inr (11, [.ref (a + 1), .ref (a + 2), .ref (a + 3), .ref (a + 4), .ref (a + 5), .int 0, .ref (a + 6), .int 0, .int 0, .int 0, .int 0, .int 0, .int 0, .int 0, .int 0, .int 0, .int 0, .int (-1), .null, .int 0, .int 0, .null, .null, .null, .null, .int 0, .null, .null, .null, .null, .null, .null, .int 0, .int 0, .null, .null, .null, .null, .null, .int 0, .int 0, .int 0, .int 0, .null, .null, .null, .null, .null, .null, .null, .int 0, .int 0]))] (L ++ [(a + 1, (0, 140))] ++ [(a + 2, (0, 2))] ++ [(a + 3, (0, 2))] ++ [(a + 4, (0, 2))] ++ [(a + 5, (0, 280))] ++ [(a + 6, (2, 800))] ++ [(a + 7, (2, 69))]) (wI M24 (a + 7) 24 (vp_nar .byte 32)) (a + 8) 7 H locs := hN
  rw [← eM25] at hN
  refine lv_dup hx hb dX11_init_206 rfl ?_
  refine lv_bipush (v := 25) hx hb dX11_init_207 (by decide) ?_
  refine lv_bipush (v := 115) hx hb dX11_init_209 (by decide) ?_
  obtain ⟨M26, eM26, h⟩ := lt_el h
  refine n_bast (q := a + 7) (i := 25) (x := 115) Y hN (List.mem_append_right _ (List.mem_singleton.mpr rfl)) (by decide +kernel) dX11_init_211 (fun H locs hN => ?_)
  have hN : Nx s E [(a, .inr (11, [.ref (a + 1), .ref (a + 2), .ref (a + 3), .ref (a + 4), .ref (a + 5), .int 0, .ref (a + 6), .int 0, .int 0, .int 0, .int 0, .int 0, .int 0, .int 0, .int 0, .int 0, .int 0, .int (-1), .null, .int 0, .int 0, .null, .null, .null, .null, .int 0, .null, .null, .null, .null, .null, .null, .int 0, .int 0, .null, .null, .null, .null, .null, .int 0, .int 0, .int 0, .int 0, .null, .null, .null, .null, .null, .null, .null, .int 0, .int 0]))] (L ++ [(a + 1, (0, 140))] ++ [(a + 2, (0, 2))] ++ [(a + 3, (0, 2))] ++ [(a + 4, (0, 2))] ++ [(a + 5, (0, 280))] ++ [(a + 6, (2, 800))] ++ [(a + 7, (2, 69))]) (wI M25 (a + 7) 25 (vp_nar .byte 115)) (a + 8) 7 H locs := hN
  rw [← eM26] at hN
  refine lv_dup hx hb dX11_init_212 rfl ?_
  refine lv_bipush (v := 26) hx hb dX11_init_213 (by decide) ?_
  refine lv_bipush (v := 112) hx hb dX11_init_215 (by decide) ?_
  obtain ⟨M27, eM27, h⟩ := lt_el h
  refine n_bast (q := a + 7) (i := 26) (x := 112) Y hN (List.mem_append_right _ (List.mem_singleton.mpr rfl)) (by decide +kernel) dX11_init_217 (fun H locs hN => ?_)
  have hN : Nx s E [(a, .inr (11, [.ref (a + 1), .ref (a + 2), .ref (a + 3), .ref (a + 4), .ref (a + 5), .int 0, .ref (a + 6), .int 0, .int 0, .int 0, .int 0, .int 0, .int 0, .int 0, .int 0, .int 0, .int 0, .int (-1), .null, .int 0, .int 0, .null, .null, .null, .null, .int 0, .null, .null, .null, .null, .null, .null, .int 0, .int 0, .null, .null, .null, .null, .null, .int 0, .int 0, .int 0, .int 0, .null, .null, .null, .null, .null, .null, .null, .int 0, .int 0]))] (L ++ [(a + 1, (0, 140))] ++ [(a + 2, (0, 2))] ++ [(a + 3, (0, 2))] ++ [(a + 4, (0, 2))] ++ [(a + 5, (0, 280))] ++ [(a + 6, (2, 800))] ++ [(a + 7, (2, 69))]) (wI M26 (a + 7) 26 (vp_nar .byte 112)) (a + 8) 7 H locs := hN
  rw [← eM27] at hN
  refine lv_dup hx hb dX11_init_218 rfl ?_
  refine lv_bipush (v := 27) hx hb dX11_init_219 (by decide) ?_
  refine lv_bipush (v := 97) hx hb dX11_init_221 (by decide) ?_
  obtain ⟨M28, eM28, h⟩ := lt_el h
  refine n_bast (q := a + 7) (i := 27) (x := 97) Y hN (List.mem_append_right _ (List.mem_singleton.mpr rfl)) (by decide +kernel) dX11_init_223 (fun H locs hN => ?_)
  have hN : Nx s E [(a, .inr (11, [.ref (a + 1), .ref (a + 2), .ref (a + 3), .ref (a + 4), .ref (a + 5), .int 0, .ref (a + 6), .int 0, .int 0, .int 0, .int 0, .int 0, .int 0, .int 0, .int 0, .int 0, .int 0, .int (-1), .null, .int 0, .int 0, .null, .null, .null, .null, .int 0, .null, .null, .null, .null, .null, .null, .int 0, .int 0, .null, .null, .null, .null, .null, .int 0, .int 0, .int 0, .int 0, .null, .null, .null, .null, .null, .null, .null, .int 0, .int 0]))] (L ++ [(a + 1, (0, 140))] ++ [(a + 2, (0, 2))] ++ [(a + 3, (0, 2))] ++ [(a + 4, (0, 2))] ++ [(a + 5, (0, 280))] ++ [(a + 6, (2, 800))] ++ [(a + 7, (2, 69))]) (wI M27 (a + 7) 27 (vp_nar .byte 97)) (a + 8) 7 H locs := hN
  rw [← eM28] at hN
  refine lv_dup hx hb dX11_init_224 rfl ?_
  refine lv_bipush (v := 28) hx hb dX11_init_225 (by decide) ?_
  refine lv_bipush (v := 99) hx hb dX11_init_227 (by decide) ?_
  obtain ⟨M29, eM29, h⟩ := lt_el h
  refine n_bast (q := a + 7) (i := 28) (x := 99) Y hN (List.mem_append_right _ (List.mem_singleton.mpr rfl)) (by decide +kernel) dX11_init_229 (fun H locs hN => ?_)
  have hN : Nx s E [(a, .inr (11, [.ref (a + 1), .ref (a + 2), .ref (a + 3), .ref (a + 4), .ref (a + 5), .int 0, .ref (a + 6), .int 0, .int 0, .int 0, .int 0, .int 0, .int 0, .int 0, .int 0, .int 0, .int 0, .int (-1), .null, .int 0, .int 0, .null, .null, .null, .null, .int 0, .null, .null, .null, .null, .null, .null, .int 0, .int 0, .null, .null, .null, .null, .null, .int 0, .int 0, .int 0, .int 0, .null, .null, .null, .null, .null, .null, .null, .int 0, .int 0]))] (L ++ [(a + 1, (0, 140))] ++ [(a + 2, (0, 2))] ++ [(a + 3, (0, 2))] ++ [(a + 4, (0, 2))] ++ [(a + 5, (0, 280))] ++ [(a + 6, (2, 800))] ++ [(a + 7, (2, 69))]) (wI M28 (a + 7) 28 (vp_nar .byte 99)) (a + 8) 7 H locs := hN
  rw [← eM29] at hN
  refine lv_dup hx hb dX11_init_230 rfl ?_
  refine lv_bipush (v := 29) hx hb dX11_init_231 (by decide) ?_
  refine lv_bipush (v := 101) hx hb dX11_init_233 (by decide) ?_
  obtain ⟨M30, eM30, h⟩ := lt_el h
  refine n_bast (q := a + 7) (i := 29) (x := 101) Y hN (List.mem_append_right _ (List.mem_singleton.mpr rfl)) (by decide +kernel) dX11_init_235 (fun H locs hN => ?_)
  have hN : Nx s E [(a, .inr (11, [.ref (a + 1), .ref (a + 2), .ref (a + 3), .ref (a + 4), .ref (a + 5), .int 0, .ref (a + 6), .int 0, .int 0, .int 0, .int 0, .int 0, .int 0, .int 0, .int 0, .int 0, .int 0, .int (-1), .null, .int 0, .int 0, .null, .null, .null, .null, .int 0, .null, .null, .null, .null, .null, .null, .int 0, .int 0, .null, .null, .null, .null, .null, .int 0, .int 0, .int 0, .int 0, .null, .null, .null, .null, .null, .null, .null, .int 0, .int 0]))] (L ++ [(a + 1, (0, 140))] ++ [(a + 2, (0, 2))] ++ [(a + 3, (0, 2))] ++ [(a + 4, (0, 2))] ++ [(a + 5, (0, 280))] ++ [(a + 6, (2, 800))] ++ [(a + 7, (2, 69))]) (wI M29 (a + 7) 29 (vp_nar .byte 101)) (a + 8) 7 H locs := hN
  rw [← eM30] at hN
  refine lv_dup hx hb dX11_init_236 rfl ?_
  refine lv_bipush (v := 30) hx hb dX11_init_237 (by decide) ?_
  refine lv_bipush (v := 32) hx hb dX11_init_239 (by decide) ?_
  obtain ⟨M31, eM31, h⟩ := lt_el h
  refine n_bast (q := a + 7) (i := 30) (x := 32) Y hN (List.mem_append_right _ (List.mem_singleton.mpr rfl)) (by decide +kernel) dX11_init_241 (fun H locs hN => ?_)
  have hN : Nx s E [(a, .inr (11, [.ref (a + 1), .ref (a + 2), .ref (a + 3), .ref (a + 4), .ref (a + 5), .int 0, .ref (a + 6), .int 0, .int 0, .int 0, .int 0, .int 0, .int 0, .int 0, .int 0, .int 0, .int 0, .int (-1), .null, .int 0, .int 0, .null, .null, .null, .null, .int 0, .null, .null, .null, .null, .null, .null, .int 0, .int 0, .null, .null, .null, .null, .null, .int 0, .int 0, .int 0, .int 0, .null, .null, .null, .null, .null, .null, .null, .int 0, .int 0]))] (L ++ [(a + 1, (0, 140))] ++ [(a + 2, (0, 2))] ++ [(a + 3, (0, 2))] ++ [(a + 4, (0, 2))] ++ [(a + 5, (0, 280))] ++ [(a + 6, (2, 800))] ++ [(a + 7, (2, 69))]) (wI M30 (a + 7) 30 (vp_nar .byte 32)) (a + 8) 7 H locs := hN
  rw [← eM31] at hN
  refine lv_dup hx hb dX11_init_242 rfl ?_
  refine lv_bipush (v := 31) hx hb dX11_init_243 (by decide) ?_
  refine lv_bipush (v := 114) hx hb dX11_init_245 (by decide) ?_
  obtain ⟨M32, eM32, h⟩ := lt_el h
  refine n_bast (q := a + 7) (i := 31) (x := 114) Y hN (List.mem_append_right _ (List.mem_singleton.mpr rfl)) (by decide +kernel) dX11_init_247 (fun H locs hN => ?_)
  have hN : Nx s E [(a, .inr (11, [.ref (a + 1), .ref (a + 2), .ref (a + 3), .ref (a + 4), .ref (a + 5), .int 0, .ref (a + 6), .int 0, .int 0, .int 0, .int 0, .int 0, .int 0, .int 0, .int 0, .int 0, .int 0, .int (-1), .null, .int 0, .int 0, .null, .null, .null, .null, .int 0, .null, .null, .null, .null, .null, .null, .int 0, .int 0, .null, .null, .null, .null, .null, .int 0, .int 0, .int 0, .int 0, .null, .null, .null, .null, .null, .null, .null, .int 0, .int 0]))] (L ++ [(a + 1, (0, 140))] ++ [(a + 2, (0, 2))] ++ [(a + 3, (0, 2))] ++ [(a + 4, (0, 2))] ++ [(a + 5, (0, 280))] ++ [(a + 6, (2, 800))] ++ [(a + 7, (2, 69))]) (wI M31 (a + 7) 31 (vp_nar .byte 114)) (a + 8) 7 H locs := hN
  rw [← eM32] at hN
  refine lv_dup hx hb dX11_init_248 rfl ?_
  refine lv_bipush (v := 32) hx hb dX11_init_249 (by decide) ?_
  refine lv_bipush (v := 101) hx hb dX11_init_251 (by decide) ?_
  obtain ⟨M33, eM33, h⟩ := lt_el h
  refine n_bast (q := a + 7) (i := 32) (x := 101) Y hN (List.mem_append_right _ (List.mem_singleton.mpr rfl)) (by decide +kernel) dX11_init_253 (fun H locs hN => ?_)
  have hN : Nx s E [(a, .inr (11, [.ref (a + 1), .ref (a + 2), .ref (a + 3), .ref (a + 4), .ref (a + 5), .int 0, .ref (a + 6), .int 0, .int 0, .int 0, .int 0, .int 0, .int 0, .int 0, .int 0, .int 0, .int 0, .int (-1), .null, .int 0, .int 0, .null, .null, .null, .null, .int 0, .null, .null, .null, .null, .null, .null, .int 0, .int 0, .null, .null, .null, .null, .null, .int 0, .int 0, .int 0, .int 0, .null, .null, .null, .null, .null, .null, .null, .int 0, .int 0]))] (L ++ [(a + 1, (0, 140))] ++ [(a + 2, (0, 2))] ++ [(a + 3, (0, 2))] ++ [(a + 4, (0, 2))] ++ [(a + 5, (0, 280))] ++ [(a + 6, (2, 800))] ++ [(a + 7, (2, 69))]) (wI M32 (a + 7) 32 (vp_nar .byte 101)) (a + 8) 7 H locs := hN
  rw [← eM33] at hN
  refine lv_dup hx hb dX11_init_254 rfl ?_
  refine lv_bipush (v := 33) hx hb dX11_init_255 (by decide) ?_
  refine lv_bipush (v := 103) hx hb dX11_init_257 (by decide) ?_
  obtain ⟨M34, eM34, h⟩ := lt_el h
  refine n_bast (q := a + 7) (i := 33) (x := 103) Y hN (List.mem_append_right _ (List.mem_singleton.mpr rfl)) (by decide +kernel) dX11_init_259 (fun H locs hN => ?_)
  have hN : Nx s E [(a, .inr (11, [.ref (a + 1), .ref (a + 2), .ref (a + 3), .ref (a + 4), .ref (a + 5), .int 0, .ref (a + 6), .int 0, .int 0, .int 0, .int 0, .int 0, .int 0, .int 0, .int 0, .int 0, .int 0, .int (-1), .null, .int 0, .int 0, .null, .null, .null, .null, .int 0, .null, .null, .null, .null, .null, .null, .int 0, .int 0, .null, .null, .null, .null, .null, .int 0, .int 0, .int 0, .int 0, .null, .null, .null, .null, .null, .null, .null, .int 0, .int 0]))] (L ++ [(a + 1, (0, 140))] ++ [(a + 2, (0, 2))] ++ [(a + 3, (0, 2))] ++ [(a + 4, (0, 2))] ++ [(a + 5, (0, 280))] ++ [(a + 6, (2, 800))] ++ [(a + 7, (2, 69))]) (wI M33 (a + 7) 33 (vp_nar .byte 103)) (a + 8) 7 H locs := hN
  rw [← eM34] at hN
  refine lv_dup hx hb dX11_init_260 rfl ?_
  refine lv_bipush (v := 34) hx hb dX11_init_261 (by decide) ?_
  refine lv_bipush (v := 105) hx hb dX11_init_263 (by decide) ?_
  obtain ⟨M35, eM35, h⟩ := lt_el h
  refine n_bast (q := a + 7) (i := 34) (x := 105) Y hN (List.mem_append_right _ (List.mem_singleton.mpr rfl)) (by decide +kernel) dX11_init_265 (fun H locs hN => ?_)
  have hN : Nx s E [(a, .inr (11, [.ref (a + 1), .ref (a + 2), .ref (a + 3), .ref (a + 4), .ref (a + 5), .int 0, .ref (a + 6), .int 0, .int 0, .int 0, .int 0, .int 0, .int 0, .int 0, .int 0, .int 0, .int 0, .int (-1), .null, .int 0, .int 0, .null, .null, .null, .null, .int 0, .null, .null, .null, .null, .null, .null, .int 0, .int 0, .null, .null, .null, .null, .null, .int 0, .int 0, .int 0, .int 0, .null, .null, .null, .null, .null, .null, .null, .int 0, .int 0]))] (L ++ [(a + 1, (0, 140))] ++ [(a + 2, (0, 2))] ++ [(a + 3, (0, 2))] ++ [(a + 4, (0, 2))] ++ [(a + 5, (0, 280))] ++ [(a + 6, (2, 800))] ++ [(a + 7, (2, 69))]) (wI M34 (a + 7) 34 (vp_nar .byte 105)) (a + 8) 7 H locs := hN
  rw [← eM35] at hN
  refine lv_dup hx hb dX11_init_266 rfl ?_
  refine lv_bipush (v := 35) hx hb dX11_init_267 (by decide) ?_
  refine lv_bipush (v := 115) hx hb dX11_init_269 (by decide) ?_
  obtain ⟨M36, eM36, h⟩ := lt_el h
  refine n_bast (q := a + 7) (i := 35) (x := 115) Y hN (List.mem_append_right _ (List.mem_singleton.mpr rfl)) (by decide +kernel) dX11_init_271 (fun H locs hN => ?_)
  have hN : Nx s E [(a, .inr (11, [.ref (a + 1), .ref (a + 2), .ref (a + 3), .ref (a + 4), .ref (a + 5), .int 0, .ref (a + 6), .int 0, .int 0, .int 0, .int 0, .int 0, .int 0, .int 0, .int 0, .int 0, .int 0, .int (-1), .null, .int 0, .int 0, .null, .null, .null, .null, .int 0, .null, .null, .null, .null, .null, .null, .int 0, .int 0, .null, .null, .null, .null, .null, .int 0, .int 0, .int 0, .int 0, .null, .null, .null, .null, .null, .null, .null, .int 0, .int 0]))] (L ++ [(a + 1, (0, 140))] ++ [(a + 2, (0, 2))] ++ [(a + 3, (0, 2))] ++ [(a + 4, (0, 2))] ++ [(a + 5, (0, 280))] ++ [(a + 6, (2, 800))] ++ [(a + 7, (2, 69))]) (wI M35 (a + 7) 35 (vp_nar .byte 115)) (a + 8) 7 H locs := hN
  rw [← eM36] at hN
  refine lv_dup hx hb dX11_init_272 rfl ?_
  refine lv_bipush (v := 36) hx hb dX11_init_273 (by decide) ?_
  refine lv_bipush (v := 116) hx hb dX11_init_275 (by decide) ?_
  obtain ⟨M37, eM37, h⟩ := lt_el h
  refine n_bast (q := a + 7) (i := 36) (x := 116) Y hN (List.mem_append_right _ (List.mem_singleton.mpr rfl)) (by decide +kernel) dX11_init_277 (fun H locs hN => ?_)
  have hN : Nx s E [(a, .inr (11, [.ref (a + 1), .ref (a + 2), .ref (a + 3), .ref (a + 4), .ref (a + 5), .int 0, .ref (a + 6), .int 0, .int 0, .int 0, .int 0, .int 0, .int 0, .int 0, .int 0, .int 0, .int 0, .int (-1), .null, .int 0, .int 0, .null, .null, .null, .null, .int 0, .null, .null, .null, .null, .null, .null, .int 0, .int 0, .null, .null, .null, .null, .null, .int 0, .int 0, .int 0, .int 0, .null, .null, .null, .null, .null, .null, .null, .int 0, .int 0]))] (L ++ [(a + 1, (0, 140))] ++ [(a + 2, (0, 2))] ++ [(a + 3, (0, 2))] ++ [(a + 4, (0, 2))] ++ [(a + 5, (0, 280))] ++ [(a + 6, (2, 800))] ++ [(a + 7, (2, 69))]) (wI M36 (a + 7) 36 (vp_nar .byte 116)) (a + 8) 7 H locs := hN
  rw [← eM37] at hN
  refine lv_dup hx hb dX11_init_278 rfl ?_
  refine lv_bipush (v := 37) hx hb dX11_init_279 (by decide) ?_
  refine lv_bipush (v := 101) hx hb dX11_init_281 (by decide) ?_
  obtain ⟨M38, eM38, h⟩ := lt_el h
  refine n_bast (q := a + 7) (i := 37) (x := 101) Y hN (List.mem_append_right _ (List.mem_singleton.mpr rfl)) (by decide +kernel) dX11_init_283 (fun H locs hN => ?_)
  have hN : Nx s E [(a, .inr (11, [.ref (a + 1), .ref (a + 2), .ref (a + 3), .ref (a + 4), .ref (a + 5), .int 0, .ref (a + 6), .int 0, .int 0, .int 0, .int 0, .int 0, .int 0, .int 0, .int 0, .int 0, .int 0, .int (-1), .null, .int 0, .int 0, .null, .null, .null, .null, .int 0, .null, .null, .null, .null, .null, .null, .int 0, .int 0, .null, .null, .null, .null, .null, .int 0, .int 0, .int 0, .int 0, .null, .null, .null, .null, .null, .null, .null, .int 0, .int 0]))] (L ++ [(a + 1, (0, 140))] ++ [(a + 2, (0, 2))] ++ [(a + 3, (0, 2))] ++ [(a + 4, (0, 2))] ++ [(a + 5, (0, 280))] ++ [(a + 6, (2, 800))] ++ [(a + 7, (2, 69))]) (wI M37 (a + 7) 37 (vp_nar .byte 101)) (a + 8) 7 H locs := hN
  rw [← eM38] at hN
  refine lv_dup hx hb dX11_init_284 rfl ?_
  refine lv_bipush (v := 38) hx hb dX11_init_285 (by decide) ?_
  refine lv_bipush (v := 114) hx hb dX11_init_287 (by decide) ?_
  obtain ⟨M39, eM39, h⟩ := lt_el h
  refine n_bast (q := a + 7) (i := 38) (x := 114) Y hN (List.mem_append_right _ (List.mem_singleton.mpr rfl)) (by decide +kernel) dX11_init_289 (fun H locs hN => ?_)
  have hN : Nx s E [(a, .inr (11, [.ref (a + 1), .ref (a + 2), .ref (a + 3), .ref (a + 4), .ref (a + 5), .int 0, .ref (a + 6), .int 0, .int 0, .int 0, .int 0, .int 0, .int 0, .int 0, .int 0, .int 0, .int 0, .int (-1), .null, .int 0, .int 0, .null, .null, .null, .null, .int 0, .null, .null, .null, .null, .null, .null, .int 0, .int 0, .null, .null, .null, .null, .null, .int 0, .int 0, .int 0, .int 0, .null, .null, .null, .null, .null, .null, .null, .int 0, .int 0]))] (L ++ [(a + 1, (0, 140))] ++ [(a + 2, (0, 2))] ++ [(a + 3, (0, 2))] ++ [(a + 4, (0, 2))] ++ [(a + 5, (0, 280))] ++ [(a + 6, (2, 800))] ++ [(a + 7, (2, 69))]) (wI M38 (a + 7) 38 (vp_nar .byte 114)) (a + 8) 7 H locs := hN
  rw [← eM39] at hN
  refine lv_dup hx hb dX11_init_290 rfl ?_
  refine lv_bipush (v := 39) hx hb dX11_init_291 (by decide) ?_
  refine lv_bipush (v := 115) hx hb dX11_init_293 (by decide) ?_
  obtain ⟨M40, eM40, h⟩ := lt_el h
  refine n_bast (q := a + 7) (i := 39) (x := 115) Y hN (List.mem_append_right _ (List.mem_singleton.mpr rfl)) (by decide +kernel) dX11_init_295 (fun H locs hN => ?_)
  have hN : Nx s E [(a, .inr (11, [.ref (a + 1), .ref (a + 2), .ref (a + 3), .ref (a + 4), .ref (a + 5), .int 0, .ref (a + 6), .int 0, .int 0, .int 0, .int 0, .int 0, .int 0, .int 0, .int 0, .int 0, .int 0, .int (-1), .null, .int 0, .int 0, .null, .null, .null, .null, .int 0, .null, .null, .null, .null, .null, .null, .int 0, .int 0, .null, .null, .null, .null, .null, .int 0, .int 0, .int 0, .int 0, .null, .null, .null, .null, .null, .null, .null, .int 0, .int 0]))] (L ++ [(a + 1, (0, 140))] ++ [(a + 2, (0, 2))] ++ [(a + 3, (0, 2))] ++ [(a + 4, (0, 2))] ++ [(a + 5, (0, 280))] ++ [(a + 6, (2, 800))] ++ [(a + 7, (2, 69))]) (wI M39 (a + 7) 39 (vp_nar .byte 115)) (a + 8) 7 H locs := hN
  rw [← eM40] at hN
  refine lv_dup hx hb dX11_init_296 rfl ?_
  refine lv_bipush (v := 40) hx hb dX11_init_297 (by decide) ?_
  refine lv_bipush (v := 32) hx hb dX11_init_299 (by decide) ?_
  obtain ⟨M41, eM41, h⟩ := lt_el h
  refine n_bast (q := a + 7) (i := 40) (x := 32) Y hN (List.mem_append_right _ (List.mem_singleton.mpr rfl)) (by decide +kernel) dX11_init_301 (fun H locs hN => ?_)
  have hN : Nx s E [(a, .inr (11, [.ref (a + 1), .ref (a + 2), .ref (a + 3), .ref (a + 4), .ref (a + 5), .int 0, .ref (a + 6), .int 0, .int 0, .int 0, .int 0, .int 0, .int 0, .int 0, .int 0, .int 0, .int 0, .int (-1), .null, .int 0, .int 0, .null, .null, .null, .null, .int 0, .null, .null, .null, .null, .null, .null, .int 0, .int 0, .null, .null, .null, .null, .null, .int 0, .int 0, .int 0, .int 0, .null, .null, .null, .null, .null, .null, .null, .int 0, .int 0]))] (L ++ [(a + 1, (0, 140))] ++ [(a + 2, (0, 2))] ++ [(a + 3, (0, 2))] ++ [(a + 4, (0, 2))] ++ [(a + 5, (0, 280))] ++ [(a + 6, (2, 800))] ++ [(a + 7, (2, 69))]) (wI M40 (a + 7) 40 (vp_nar .byte 32)) (a + 8) 7 H locs := hN
  rw [← eM41] at hN
  refine lv_dup hx hb dX11_init_302 rfl ?_
  refine lv_bipush (v := 41) hx hb dX11_init_303 (by decide) ?_
  refine lv_bipush (v := 100) hx hb dX11_init_305 (by decide) ?_
  obtain ⟨M42, eM42, h⟩ := lt_el h
  refine n_bast (q := a + 7) (i := 41) (x := 100) Y hN (List.mem_append_right _ (List.mem_singleton.mpr rfl)) (by decide +kernel) dX11_init_307 (fun H locs hN => ?_)
  have hN : Nx s E [(a, .inr (11, [.ref (a + 1), .ref (a + 2), .ref (a + 3), .ref (a + 4), .ref (a + 5), .int 0, .ref (a + 6), .int 0, .int 0, .int 0, .int 0, .int 0, .int 0, .int 0, .int 0, .int 0, .int 0, .int (-1), .null, .int 0, .int 0, .null, .null, .null, .null, .int 0, .null, .null, .null, .null, .null, .null, .int 0, .int 0, .null, .null, .null, .null, .null, .int 0, .int 0, .int 0, .int 0, .null, .null, .null, .null, .null, .null, .null, .int 0, .int 0]))] (L ++ [(a + 1, (0, 140))] ++ [(a + 2, (0, 2))] ++ [(a + 3, (0, 2))] ++ [(a + 4, (0, 2))] ++ [(a + 5, (0, 280))] ++ [(a + 6, (2, 800))] ++ [(a + 7, (2, 69))]) (wI M41 (a + 7) 41 (vp_nar .byte 100)) (a + 8) 7 H locs := hN
  rw [← eM42] at hN
  refine lv_dup hx hb dX11_init_308 rfl ?_
  refine lv_bipush (v := 42) hx hb dX11_init_309 (by decide) ?_
  refine lv_bipush (v := 101) hx hb dX11_init_311 (by decide) ?_
  obtain ⟨M43, eM43, h⟩ := lt_el h
  refine n_bast (q := a + 7) (i := 42) (x := 101) Y hN (List.mem_append_right _ (List.mem_singleton.mpr rfl)) (by decide +kernel) dX11_init_313 (fun H locs hN => ?_)
  have hN : Nx s E [(a, .inr (11, [.ref (a + 1), .ref (a + 2), .ref (a + 3), .ref (a + 4), .ref (a + 5), .int 0, .ref (a + 6), .int 0, .int 0, .int 0, .int 0, .int 0, .int 0, .int 0, .int 0, .int 0, .int 0, .int (-1), .null, .int 0, .int 0, .null, .null, .null, .null, .int 0, .null, .null, .null, .null, .null, .null, .int 0, .int 0, .null, .null, .null, .null, .null, .int 0, .int 0, .int 0, .int 0, .null, .null, .null, .null, .null, .null, .null, .int 0, .int 0]))] (L ++ [(a + 1, (0, 140))] ++ [(a + 2, (0, 2))] ++ [(a + 3, (0, 2))] ++ [(a + 4, (0, 2))] ++ [(a + 5, (0, 280))] ++ [(a + 6, (2, 800))] ++ [(a + 7, (2, 69))]) (wI M42 (a + 7) 42 (vp_nar .byte 101)) (a + 8) 7 H locs := hN
  rw [← eM43] at hN
  refine lv_dup hx hb dX11_init_314 rfl ?_
  refine lv_bipush (v := 43) hx hb dX11_init_315 (by decide) ?_
  refine lv_bipush (v := 102) hx hb dX11_init_317 (by decide) ?_
  obtain ⟨M44, eM44, h⟩ := lt_el h
  refine n_bast (q := a + 7) (i := 43) (x := 102) Y hN (List.mem_append_right _ (List.mem_singleton.mpr rfl)) (by decide +kernel) dX11_init_319 (fun H locs hN => ?_)
  have hN : Nx s E [(a, .inr (11, [.ref (a + 1), .ref (a + 2), .ref (a + 3), .ref (a + 4), .ref (a + 5), .int 0, .ref (a + 6), .int 0, .int 0, .int 0, .int 0, .int 0, .int 0, .int 0, .int 0, .int 0, .int 0, .int (-1), .null, .int 0, .int 0, .null, .null, .null, .null, .int 0, .null, .null, .null, .null, .null, .null, .int 0, .int 0, .null, .null, .null, .null, .null, .int 0, .int 0, .int 0, .int 0, .null, .null, .null, .null, .null, .null, .null, .int 0, .int 0]))] (L ++ [(a + 1, (0, 140))] ++ [(a + 2, (0, 2))] ++ [(a + 3, (0, 2))] ++ [(a + 4, (0, 2))] ++ [(a + 5, (0, 280))] ++ [(a + 6, (2, 800))] ++ [(a + 7, (2, 69))]) (wI M43 (a + 7) 43 (vp_nar .byte 102)) (a + 8) 7 H locs := hN
  rw [← eM44] at hN
  refine lv_dup hx hb dX11_init_320 rfl ?_
  refine lv_bipush (v := 44) hx hb dX11_init_321 (by decide) ?_
  refine lv_bipush (v := 97) hx hb dX11_init_323 (by decide) ?_
  obtain ⟨M45, eM45, h⟩ := lt_el h
  refine n_bast (q := a + 7) (i := 44) (x := 97) Y hN (List.mem_append_right _ (List.mem_singleton.mpr rfl)) (by decide +kernel) dX11_init_325 (fun H locs hN => ?_)
  have hN : Nx s E [(a, .inr (11, [.ref (a + 1), .ref (a + 2), .ref (a + 3), .ref (a + 4), .ref (a + 5), .int 0, .ref (a + 6), .int 0, .int 0, .int 0, .int 0, .int 0, .int 0, .int 0, .int 0, .int 0, .int 0, .int (-1), .null, .int 0, .int 0, .null, .null, .null, .null, .int 0, .null, .null, .null, .null, .null, .null, .int 0, .int 0, .null, .null, .null, .null, .null, .int 0, .int 0, .int 0, .int 0, .null, .null, .null, .null, .null, .null, .null, .int 0, .int 0]))] (L ++ [(a + 1, (0, 140))] ++ [(a + 2, (0, 2))] ++ [(a + 3, (0, 2))] ++ [(a + 4, (0, 2))] ++ [(a + 5, (0, 280))] ++ [(a + 6, (2, 800))] ++ [(a + 7, (2, 69))]) (wI M44 (a + 7) 44 (vp_nar .byte 97)) (a + 8) 7 H locs := hN
  rw [← eM45] at hN
  refine lv_dup hx hb dX11_init_326 rfl ?_
  refine lv_bipush (v := 45) hx hb dX11_init_327 (by decide) ?_
  refine lv_bipush (v := 117) hx hb dX11_init_329 (by decide) ?_
  obtain ⟨M46, eM46, h⟩ := lt_el h
  refine n_bast (q := a + 7) (i := 45) (x := 117) Y hN (List.mem_append_right _ (List.mem_singleton.mpr rfl)) (by decide +kernel) dX11_init_331 (fun H locs hN => ?_)
  have hN : Nx s E [(a, .inr (11, [.ref (a + 1), .ref (a + 2), .ref (a + 3), .ref (a + 4), .ref (a + 5), .int 0, .ref (a + 6), .int 0, .int 0, .int 0, .int 0, .int 0, .int 0, .int 0, .int 0, .int 0, .int 0, .int (-1), .null, .int 0, .int 0, .null, .null, .null, .null, .int 0, .null, .null, .null, .null, .null, .null, .int 0, .int 0, .null, .null, .null, .null, .null, .int 0, .int 0, .int 0, .int 0, .null, .null, .null, .null, .null, .null, .null, .int 0, .int 0]))] (L ++ [(a + 1, (0, 140))] ++ [(a + 2, (0, 2))] ++ [(a + 3, (0, 2))] ++ [(a + 4, (0, 2))] ++ [(a + 5, (0, 280))] ++ [(a + 6, (2, 800))] ++ [(a + 7, (2, 69))]) (wI M45 (a + 7) 45 (vp_nar .byte 117)) (a + 8) 7 H locs := hN
  rw [← eM46] at hN
  refine lv_dup hx hb dX11_init_332 rfl ?_
  refine lv_bipush (v := 46) hx hb dX11_init_333 (by decide) ?_
  refine lv_bipush (v := 108) hx hb dX11_init_335 (by decide) ?_
  obtain ⟨M47, eM47, h⟩ := lt_el h
  refine n_bast (q := a + 7) (i := 46) (x := 108) Y hN (List.mem_append_right _ (List.mem_singleton.mpr rfl)) (by decide +kernel) dX11_init_337 (fun H locs hN => ?_)
  have hN : Nx s E [(a, .inr (11, [.ref (a + 1), .ref (a + 2), .ref (a + 3), .ref (a + 4), .ref (a + 5), .int 0, .ref (a + 6), .int 0, .int 0, .int 0, .int 0, .int 0, .int 0, .int 0, .int 0, .int 0, .int 0, .int (-1), .null, .int 0, .int 0, .null, .null, .null, .null, .int 0, .null, .null, .null, .null, .null, .null, .int 0, .int 0, .null, .null, .null, .null, .null, .int 0, .int 0, .int 0, .int 0, .null, .null, .null, .null, .null, .null, .null, .int 0, .int 0]))] (L ++ [(a + 1, (0, 140))] ++ [(a + 2, (0, 2))] ++ [(a + 3, (0, 2))] ++ [(a + 4, (0, 2))] ++ [(a + 5, (0, 280))] ++ [(a + 6, (2, 800))] ++ [(a + 7, (2, 69))]) (wI M46 (a + 7) 46 (vp_nar .byte 108)) (a + 8) 7 H locs := hN
  rw [← eM47] at hN
  refine lv_dup hx hb dX11_init_338 rfl ?_
  refine lv_bipush (v := 47) hx hb dX11_init_339 (by decide) ?_
  refine lv_bipush (v := 116) hx hb dX11_init_341 (by decide) ?_
  obtain ⟨M48, eM48, h⟩ := lt_el h
  refine n_bast (q := a + 7) (i := 47) (x := 116) Y hN (List.mem_append_right _ (List.mem_singleton.mpr rfl)) (by decide +kernel) dX11_init_343 (fun H locs hN => ?_)
  have hN : Nx s E [(a, .inr (11, [.ref (a + 1), .ref (a + 2), .ref (a + 3), .ref (a + 4), .ref (a + 5), .int 0, .ref (a + 6), .int 0, .int 0, .int 0, .int 0, .int 0, .int 0, .int 0, .int 0, .int 0, .int 0, .int (-1), .null, .int 0, .int 0, .null, .null, .null, .null, .int 0, .null, .null, .null, .null, .null, .null, .int 0, .int 0, .null, .null, .null, .null, .null, .int 0, .int 0, .int 0, .int 0, .null, .null, .null, .null, .null, .null, .null, .int 0, .int 0]))] (L ++ [(a + 1, (0, 140))] ++ [(a + 2, (0, 2))] ++ [(a + 3, (0, 2))] ++ [(a + 4, (0, 2))] ++ [(a + 5, (0, 280))] ++ [(a + 6, (2, 800))] ++ [(a + 7, (2, 69))]) (wI M47 (a + 7) 47 (vp_nar .byte 116)) (a + 8) 7 H locs := hN
  rw [← eM48] at hN
  refine lv_dup hx hb dX11_init_344 rfl ?_
  refine lv_bipush (v := 48) hx hb dX11_init_345 (by decide) ?_
  refine lv_bipush (v := 32) hx hb dX11_init_347 (by decide) ?_
  obtain ⟨M49, eM49, h⟩ := lt_el h
  refine n_bast (q := a + 7) (i := 48) (x := 32) Y hN (List.mem_append_right _ (List.mem_singleton.mpr rfl)) (by decide +kernel) dX11_init_349 (fun H locs hN => ?_)
  have hN : Nx s E [(a, .inr (11, [.ref (a + 1), .ref (a + 2), .ref (a + 3), .ref (a + 4), .ref (a + 5), .int 0, .ref (a + 6), .int 0, .int 0, .int 0, .int 0, .int 0, .int 0, .int 0, .int 0, .int 0, .int 0, .int (-1), .null, .int 0, .int 0, .null, .null, .null, .null, .int 0, .null, .null, .null, .null, .null, .null, .int 0, .int 0, .null, .null, .null, .null, .null, .int 0, .int 0, .int 0, .int 0, .null, .null, .null, .null, .null, .null, .null, .int 0, .int 0]))] (L ++ [(a + 1, (0, 140))] ++ [(a + 2, (0, 2))] ++ [(a + 3, (0, 2))] ++ [(a + 4, (0, 2))] ++ [(a + 5, (0, 280))] ++ [(a + 6, (2, 800))] ++ [(a + 7, (2, 69))]) (wI M48 (a + 7) 48 (vp_nar .byte 32)) (a + 8) 7 H locs := hN
  rw [← eM49] at hN
  refine lv_dup hx hb dX11_init_350 rfl ?_
  refine lv_bipush (v := 49) hx hb dX11_init_351 (by decide) ?_
  refine lv_bipush (v := 102) hx hb dX11_init_353 (by decide) ?_
  obtain ⟨M50, eM50, h⟩ := lt_el h
  refine n_bast (q := a + 7) (i := 49) (x := 102) Y hN (List.mem_append_right _ (List.mem_singleton.mpr rfl)) (by decide +kernel) dX11_init_355 (fun H locs hN => ?_)
  have hN : Nx s E [(a, .inr (11, [.ref (a + 1), .ref (a + 2), .ref (a + 3), .ref (a + 4), .ref (a + 5), .int 0, .ref (a + 6), .int 0, .int 0, .int 0, .int 0, .int 0, .int 0, .int 0, .int 0, .int 0, .int 0, .int (-1), .null, .int 0, .int 0, .null, .null, .null, .null, .int 0, .null, .null, .null, .null, .null, .null, .int 0, .int 0, .null, .null, .null, .null, .null, .int 0, .int 0, .int 0, .int 0, .null, .null, .null, .null, .null, .null, .null, .int 0, .int 0]))] (L ++ [(a + 1, (0, 140))] ++ [(a + 2, (0, 2))] ++ [(a + 3, (0, 2))] ++ [(a + 4, (0, 2))] ++ [(a + 5, (0, 280))] ++ [(a + 6, (2, 800))] ++ [(a + 7, (2, 69))]) (wI M49 (a + 7) 49 (vp_nar .byte 102)) (a + 8) 7 H locs := hN
  rw [← eM50] at hN
  refine lv_dup hx hb dX11_init_356 rfl ?_
  refine lv_bipush (v := 50) hx hb dX11_init_357 (by decide) ?_
  refine lv_bipush (v := 105) hx hb dX11_init_359 (by decide) ?_
  obtain ⟨M51, eM51, h⟩ := lt_el h
  refine n_bast (q := a + 7) (i := 50) (x := 105) Y hN (List.mem_append_right _ (List.mem_singleton.mpr rfl)) (by decide +kernel) dX11_init_361 (fun H locs hN => ?_)
  have hN : Nx s E [(a, .inr (11, [.ref (a + 1), .ref (a + 2), .ref (a + 3), .ref (a + 4), .ref (a + 5), .int 0, .ref (a + 6), .int 0, .int 0, .int 0, .int 0, .int 0, .int 0, .int 0, .int 0, .int 0, .int 0, .int (-1), .null, .int 0, .int 0, .null, .null, .null, .null, .int 0, .null, .null, .null, .null, .null, .null, .int 0, .int 0, .null, .null, .null, .null, .null, .int 0, .int 0, .int 0, .int 0, .null, .null, .null, .null, .null, .null, .null, .int 0, .int 0]))] (L ++ [(a + 1, (0, 140))] ++ [(a + 2, (0, 2))] ++ [(a + 3, (0, 2))] ++ [(a + 4, (0, 2))] ++ [(a + 5, (0, 280))] ++ [(a + 6, (2, 800))] ++ [(a + 7, (2, 69))]) (wI M50 (a + 7) 50 (vp_nar .byte 105)) (a + 8) 7 H locs := hN
  rw [← eM51] at hN
  refine lv_dup hx hb dX11_init_362 rfl ?_
  refine lv_bipush (v := 51) hx hb dX11_init_363 (by decide) ?_
  refine lv_bipush (v := 120) hx hb dX11_init_365 (by decide) ?_
  obtain ⟨M52, eM52, h⟩ := lt_el h
  refine n_bast (q := a + 7) (i := 51) (x := 120) Y hN (List.mem_append_right _ (List.mem_singleton.mpr rfl)) (by decide +kernel) dX11_init_367 (fun H locs hN => ?_)
  have hN : Nx s E [(a, .inr (11, [.ref (a + 1), .ref (a + 2), .ref (a + 3), .ref (a + 4), .ref (a + 5), .int 0, .ref (a + 6), .int 0, .int 0, .int 0, .int 0, .int 0, .int 0, .int 0, .int 0, .int 0, .int 0, .int (-1), .null, .int 0, .int 0, .null, .null, .null, .null, .int 0, .null, .null, .null, .null, .null, .null, .int 0, .int 0, .null, .null, .null, .null, .null, .int 0, .int 0, .int 0, .int 0, .null, .null, .null, .null, .null, .null, .null, .int 0, .int 0]))] (L ++ [(a + 1, (0, 140))] ++ [(a + 2, (0, 2))] ++ [(a + 3, (0, 2))] ++ [(a + 4, (0, 2))] ++ [(a + 5, (0, 280))] ++ [(a + 6, (2, 800))] ++ [(a + 7, (2, 69))]) (wI M51 (a + 7) 51 (vp_nar .byte 120)) (a + 8) 7 H locs := hN
  rw [← eM52] at hN
  refine lv_dup hx hb dX11_init_368 rfl ?_
  refine lv_bipush (v := 52) hx hb dX11_init_369 (by decide) ?_
  refine lv_bipush (v := 101) hx hb dX11_init_371 (by decide) ?_
  obtain ⟨M53, eM53, h⟩ := lt_el h
  refine n_bast (q := a + 7) (i := 52) (x := 101) Y hN (List.mem_append_right _ (List.mem_singleton.mpr rfl)) (by decide +kernel) dX11_init_373 (fun H locs hN => ?_)
  have hN : Nx s E [(a, .inr (11, [.ref (a + 1), .ref (a + 2), .ref (a + 3), .ref (a + 4), .ref (a + 5), .int 0, .ref (a + 6), .int 0, .int 0, .int 0, .int 0, .int 0, .int 0, .int 0, .int 0, .int 0, .int 0, .int (-1), .null, .int 0, .int 0, .null, .null, .null, .null, .int 0, .null, .null, .null, .null, .null, .null, .int 0, .int 0, .null, .null, .null, .null, .null, .int 0, .int 0, .int 0, .int 0, .null, .null, .null, .null, .null, .null, .null, .int 0, .int 0]))] (L ++ [(a + 1, (0, 140))] ++ [(a + 2, (0, 2))] ++ [(a + 3, (0, 2))] ++ [(a + 4, (0, 2))] ++ [(a + 5, (0, 280))] ++ [(a + 6, (2, 800))] ++ [(a + 7, (2, 69))]) (wI M52 (a + 7) 52 (vp_nar .byte 101)) (a + 8) 7 H locs := hN
  rw [← eM53] at hN
  refine lv_dup hx hb dX11_init_374 rfl ?_
  refine lv_bipush (v := 53) hx hb dX11_init_375 (by decide) ?_
  refine lv_bipush (v := 100) hx hb dX11_init_377 (by decide) ?_
  obtain ⟨M54, eM54, h⟩ := lt_el h
  refine n_bast (q := a + 7) (i := 53) (x := 100) Y hN (List.mem_append_right _ (List.mem_singleton.mpr rfl)) (by decide +kernel) dX11_init_379 (fun H locs hN => ?_)
  have hN : Nx s E [(a, .inr (11, [.ref (a + 1), .ref (a + 2), .ref (a + 3), .ref (a + 4), .ref (a + 5), .int 0, .ref (a + 6), .int 0, .int 0, .int 0, .int 0, .int 0, .int 0, .int 0, .int 0, .int 0, .int 0, .int (-1), .null, .int 0, .int 0, .null, .null, .null, .null, .int 0, .null, .null, .null, .null, .null, .null, .int 0, .int 0, .null, .null, .null, .null, .null, .int 0, .int 0, .int 0, .int 0, .null, .null, .null, .null, .null, .null, .null, .int 0, .int 0]))] (L ++ [(a + 1, (0, 140))] ++ [(a + 2, (0, 2))] ++ [(a + 3, (0, 2))] ++ [(a + 4, (0, 2))] ++ [(a + 5, (0, 280))] ++ [(a + 6, (2, 800))] ++ [(a + 7, (2, 69))]) (wI M53 (a + 7) 53 (vp_nar .byte 100)) (a + 8) 7 H locs := hN
  rw [← eM54] at hN
  refine lv_dup hx hb dX11_init_380 rfl ?_
  refine lv_bipush (v := 54) hx hb dX11_init_381 (by decide) ?_
  refine lv_bipush (v := 32) hx hb dX11_init_383 (by decide) ?_
  obtain ⟨M55, eM55, h⟩ := lt_el h
  refine n_bast (q := a + 7) (i := 54) (x := 32) Y hN (List.mem_append_right _ (List.mem_singleton.mpr rfl)) (by decide +kernel) dX11_init_385 (fun H locs hN => ?_)
  have hN : Nx s E [(a, .inr (11, [.ref (a + 1), .ref (a + 2), .ref (a + 3), .ref (a + 4), .ref (a + 5), .int 0, .ref (a + 6), .int 0, .int 0, .int 0, .int 0, .int 0, .int 0, .int 0, .int 0, .int 0, .int 0, .int (-1), .null, .int 0, .int 0, .null, .null, .null, .null, .int 0, .null, .null, .null, .null, .null, .null, .int 0, .int 0, .null, .null, .null, .null, .null, .int 0, .int 0, .int 0, .int 0, .null, .null, .null, .null, .null, .null, .null, .int 0, .int 0]))] (L ++ [(a + 1, (0, 140))] ++ [(a + 2, (0, 2))] ++ [(a + 3, (0, 2))] ++ [(a + 4, (0, 2))] ++ [(a + 5, (0, 280))] ++ [(a + 6, (2, 800))] ++ [(a + 7, (2, 69))]) (wI M54 (a + 7) 54 (vp_nar .byte 32)) (a + 8) 7 H locs := hN
  rw [← eM55] at hN
  refine lv_dup hx hb dX11_init_386 rfl ?_
  refine lv_bipush (v := 55) hx hb dX11_init_387 (by decide) ?_
  refine lv_bipush (v := 115) hx hb dX11_init_389 (by decide) ?_
  obtain ⟨M56, eM56, h⟩ := lt_el h
  refine n_bast (q := a + 7) (i := 55) (x := 115) Y hN (List.mem_append_right _ (List.mem_singleton.mpr rfl)) (by decide +kernel) dX11_init_391 (fun H locs hN => ?_)
  have hN : Nx s E [(a, .inr (11, [.ref (a + 1), .ref (a + 2), .ref (a + 3), .ref (a + 4), .ref (a + 5), .int 0, .ref (a + 6), .int 0, .int 0, .int 0, .int 0, .int 0, .int 0, .int 0, .int 0, .int 0, .int 0, .int (-1), .null, .int 0, .int 0, .null, .null, .null, .null, .int 0, .null, .null, .null, .null, .null, .null, .int 0, .int 0, .null, .null, .null, .null, .null, .int 0, .int 0, .int 0, .int 0, .null, .null, .null, .null, .null, .null, .null, .int 0, .int 0]))] (L ++ [(a + 1, (0, 140))] ++ [(a + 2, (0, 2))] ++ [(a + 3, (0, 2))] ++ [(a + 4, (0, 2))] ++ [(a + 5, (0, 280))] ++ [(a + 6, (2, 800))] ++ [(a + 7, (2, 69))]) (wI M55 (a + 7) 55 (vp_nar .byte 115)) (a + 8) 7 H locs := hN
  rw [← eM56] at hN
  refine lv_dup hx hb dX11_init_392 rfl ?_
  refine lv_bipush (v := 56) hx hb dX11_init_393 (by decide) ?_
  refine lv_bipush (v := 112) hx hb dX11_init_395 (by decide) ?_
  obtain ⟨M57, eM57, h⟩ := lt_el h
  refine n_bast (q := a + 7) (i := 56) (x := 112) Y hN (List.mem_append_right _ (List.mem_singleton.mpr rfl)) (by decide +kernel) dX11_init_397 (fun H locs hN => ?_)
  have hN : Nx s E [(a, .inr (11, [.ref (a + 1), .ref (a + 2), .ref (a + 3), .ref (a + 4), .ref (a + 5), .int 0, .ref (a + 6), .int 0, .int 0, .int 0, .int 0, .int 0, .int 0, .int 0, .int 0, .int 0, .int 0, .int (-1), .null, .int 0, .int 0, .null, .null, .null, .null, .int 0, .null, .null, .null, .null, .null, .null, .int 0, .int 0, .null, .null, .null, .null, .null, .int 0, .int 0, .int 0, .int 0, .null, .null, .null, .null, .null, .null, .null, .int 0, .int 0]))] (L ++ [(a + 1, (0, 140))] ++ [(a + 2, (0, 2))] ++ [(a + 3, (0, 2))] ++ [(a + 4, (0, 2))] ++ [(a + 5, (0, 280))] ++ [(a + 6, (2, 800))] ++ [(a + 7, (2, 69))]) (wI M56 (a + 7) 56 (vp_nar .byte 112)) (a + 8) 7 H locs := hN
  rw [← eM57] at hN
  refine lv_dup hx hb dX11_init_398 rfl ?_
  refine lv_bipush (v := 57) hx hb dX11_init_399 (by decide) ?_
  refine lv_bipush (v := 97) hx hb dX11_init_401 (by decide) ?_
  obtain ⟨M58, eM58, h⟩ := lt_el h
  refine n_bast (q := a + 7) (i := 57) (x := 97) Y hN (List.mem_append_right _ (List.mem_singleton.mpr rfl)) (by decide +kernel) dX11_init_403 (fun H locs hN => ?_)
  have hN : Nx s E [(a, .inr (11, [.ref (a + 1), .ref (a + 2), .ref (a + 3), .ref (a + 4), .ref (a + 5), .int 0, .ref (a + 6), .int 0, .int 0, .int 0, .int 0, .int 0, .int 0, .int 0, .int 0, .int 0, .int 0, .int (-1), .null, .int 0, .int 0, .null, .null, .null, .null, .int 0, .null, .null, .null, .null, .null, .null, .int 0, .int 0, .null, .null, .null, .null, .null, .int 0, .int 0, .int 0, .int 0, .null, .null, .null, .null, .null, .null, .null, .int 0, .int 0]))] (L ++ [(a + 1, (0, 140))] ++ [(a + 2, (0, 2))] ++ [(a + 3, (0, 2))] ++ [(a + 4, (0, 2))] ++ [(a + 5, (0, 280))] ++ [(a + 6, (2, 800))] ++ [(a + 7, (2, 69))]) (wI M57 (a + 7) 57 (vp_nar .byte 97)) (a + 8) 7 H locs := hN
  rw [← eM58] at hN
  refine lv_dup hx hb dX11_init_404 rfl ?_
  refine lv_bipush (v := 58) hx hb dX11_init_405 (by decide) ?_
  refine lv_bipush (v := 110) hx hb dX11_init_407 (by decide) ?_
  obtain ⟨M59, eM59, h⟩ := lt_el h
  refine n_bast (q := a + 7) (i := 58) (x := 110) Y hN (List.mem_append_right _ (List.mem_singleton.mpr rfl)) (by decide +kernel) dX11_init_409 (fun H locs hN => ?_)
  have hN : Nx s E [(a, .inr (11, [.ref (a + 1), .ref (a + 2), .ref (a + 3), .ref (a + 4), .ref (a + 5), .int 0, .ref (a + 6), .int 0, .int 0, .int 0, .int 0, .int 0, .int 0, .int 0, .int 0, .int 0, .int 0, .int (-1), .null, .int 0, .int 0, .null, .null, .null, .null, .int 0, .null, .null, .null, .null, .null, .null, .int 0, .int 0, .null, .null, .null, .null, .null, .int 0, .int 0, .int 0, .int 0, .null, .null, .null, .null, .null, .null, .null, .int 0, .int 0]))] (L ++ [(a + 1, (0, 140))] ++ [(a + 2, (0, 2))] ++ [(a + 3, (0, 2))] ++ [(a + 4, (0, 2))] ++ [(a + 5, (0, 280))] ++ [(a + 6, (2, 800))] ++ [(a + 7, (2, 69))]) (wI M58 (a + 7) 58 (vp_nar .byte 110)) (a + 8) 7 H locs := hN
  rw [← eM59] at hN
  refine lv_dup hx hb dX11_init_410 rfl ?_
  refine lv_bipush (v := 59) hx hb dX11_init_411 (by decide) ?_
  refine lv_bipush (v := 32) hx hb dX11_init_413 (by decide) ?_
  obtain ⟨M60, eM60, h⟩ := lt_el h
  refine n_bast (q := a + 7) (i := 59) (x := 32) Y hN (List.mem_append_right _ (List.mem_singleton.mpr rfl)) (by decide +kernel) dX11_init_415 (fun H locs hN => ?_)
  have hN : Nx s E [(a, .inr (11, [.ref (a + 1), .ref (a + 2), .ref (a + 3), .ref (a + 4), .ref (a + 5), .int 0, .ref (a + 6), .int 0, .int 0, .int 0, .int 0, .int 0, .int 0, .int 0, .int 0, .int 0, .int 0, .int (-1), .null, .int 0, .int 0, .null, .null, .null, .null, .int 0, .null, .null, .null, .null, .null, .null, .int 0, .int 0, .null, .null, .null, .null, .null, .int 0, .int 0, .int 0, .int 0, .null, .null, .null, .null, .null, .null, .null, .int 0, .int 0]))] (L ++ [(a + 1, (0, 140))] ++ [(a + 2, (0, 2))] ++ [(a + 3, (0, 2))] ++ [(a + 4, (0, 2))] ++ [(a + 5, (0, 280))] ++ [(a + 6, (2, 800))] ++ [(a + 7, (2, 69))]) (wI M59 (a + 7) 59 (vp_nar .byte 32)) (a + 8) 7 H locs := hN
  rw [← eM60] at hN
  refine lv_dup hx hb dX11_init_416 rfl ?_
  refine lv_bipush (v := 60) hx hb dX11_init_417 (by decide) ?_
  refine lv_bipush (v := 114) hx hb dX11_init_419 (by decide) ?_
  obtain ⟨M61, eM61, h⟩ := lt_el h
  refine n_bast (q := a + 7) (i := 60) (x := 114) Y hN (List.mem_append_right _ (List.mem_singleton.mpr rfl)) (by decide +kernel) dX11_init_421 (fun H locs hN => ?_)
  have hN : Nx s E [(a, .inr (11, [.ref (a + 1), .ref (a + 2), .ref (a + 3), .ref (a + 4), .ref (a + 5), .int 0, .ref (a + 6), .int 0, .int 0, .int 0, .int 0, .int 0, .int 0, .int 0, .int 0, .int 0, .int 0, .int (-1), .null, .int 0, .int 0, .null, .null, .null, .null, .int 0, .null, .null, .null, .null, .null, .null, .int 0, .int 0, .null, .null, .null, .null, .null, .int 0, .int 0, .int 0, .int 0, .null, .null, .null, .null, .null, .null, .null, .int 0, .int 0]))] (L ++ [(a + 1, (0, 140))] ++ [(a + 2, (0, 2))] ++ [(a + 3, (0, 2))] ++ [(a + 4, (0, 2))] ++ [(a + 5, (0, 280))] ++ [(a + 6, (2, 800))] ++ [(a + 7, (2, 69))]) (wI M60 (a + 7) 60 (vp_nar .byte 114)) (a + 8) 7 H locs := hN
  rw [← eM61] at hN
  refine lv_dup hx hb dX11_init_422 rfl ?_
  refine lv_bipush (v := 61) hx hb dX11_init_423 (by decide) ?_
  refine lv_bipush (v := 101) hx hb dX11_init_425 (by decide) ?_
  obtain ⟨M62, eM62, h⟩ := lt_el h
  refine n_bast (q := a + 7) (i := 61) (x := 101) Y hN (List.mem_append_right _ (List.mem_singleton.mpr rfl)) (by decide +kernel) dX11_init_427 (fun H locs hN => ?_)
  have hN : Nx s E [(a, .inr (11, [.ref (a + 1), .ref (a + 2), .ref (a + 3), .ref (a + 4), .ref (a + 5), .int 0, .ref (a + 6), .int 0, .int 0, .int 0, .int 0, .int 0, .int 0, .int 0, .int 0, .int 0, .int 0, .int (-1), .null, .int 0, .int 0, .null, .null, .null, .null, .int 0, .null, .null, .null, .null, .null, .null, .int 0, .int 0, .null, .null, .null, .null, .null, .int 0, .int 0, .int 0, .int 0, .null, .null, .null, .null, .null, .null, .null, .int 0, .int 0]))] (L ++ [(a + 1, (0, 140))] ++ [(a + 2, (0, 2))] ++ [(a + 3, (0, 2))] ++ [(a + 4, (0, 2))] ++ [(a + 5, (0, 280))] ++ [(a + 6, (2, 800))] ++ [(a + 7, (2, 69))]) (wI M61 (a + 7) 61 (vp_nar .byte 101)) (a + 8) 7 H locs := hN
  rw [← eM62] at hN
  refine lv_dup hx hb dX11_init_428 rfl ?_
  refine lv_bipush (v := 62) hx hb dX11_init_429 (by decide) ?_
  refine lv_bipush (v := 103) hx hb dX11_init_431 (by decide) ?_
  obtain ⟨M63, eM63, h⟩ := lt_el h
  refine n_bast (q := a + 7) (i := 62) (x := 103) Y hN (List.mem_append_right _ (List.mem_singleton.mpr rfl)) (by decide +kernel) dX11_init_433 (fun H locs hN => ?_)
  have hN : Nx s E [(a, .inr (11, [.ref (a + 1), .ref (a + 2), .ref (a + 3), .ref (a + 4), .ref (a + 5), .int 0, .ref (a + 6), .int 0, .int 0, .int 0, .int 0, .int 0, .int 0, .int 0, .int 0, .int 0, .int 0, .int (-1), .null, .int 0, .int 0, .null, .null, .null, .null, .int 0, .null, .null, .null, .null, .null, .null, .int 0, .int 0, .null, .null, .null, .null, .null, .int 0, .int 0, .int 0, .int 0, .null, .null, .null, .null, .null, .null, .null, .int 0, .int 0]))] (L ++ [(a + 1, (0, 140))] ++ [(a + 2, (0, 2))] ++ [(a + 3, (0, 2))] ++ [(a + 4, (0, 2))] ++ [(a + 5, (0, 280))] ++ [(a + 6, (2, 800))] ++ [(a + 7, (2, 69))]) (wI M62 (a + 7) 62 (vp_nar .byte 103)) (a + 8) 7 H locs := hN
  rw [← eM63] at hN
  refine lv_dup hx hb dX11_init_434 rfl ?_
  refine lv_bipush (v := 63) hx hb dX11_init_435 (by decide) ?_
  refine lv_bipush (v := 32) hx hb dX11_init_437 (by decide) ?_
  obtain ⟨M64, eM64, h⟩ := lt_el h
  refine n_bast (q := a + 7) (i := 63) (x := 32) Y hN (List.mem_append_right _ (List.mem_singleton.mpr rfl)) (by decide +kernel) dX11_init_439 (fun H locs hN => ?_)
  have hN : Nx s E [(a, .inr (11, [.ref (a + 1), .ref (a + 2), .ref (a + 3), .ref (a + 4), .ref (a + 5), .int 0, .ref (a + 6), .int 0, .int 0, .int 0, .int 0, .int 0, .int 0, .int 0, .int 0, .int 0, .int 0, .int (-1), .null, .int 0, .int 0, .null, .null, .null, .null, .int 0, .null, .null, .null, .null, .null, .null, .int 0, .int 0, .null, .null, .null, .null, .null, .int 0, .int 0, .int 0, .int 0, .null, .null, .null, .null, .null, .null, .null, .int 0, .int 0]))] (L ++ [(a + 1, (0, 140))] ++ [(a + 2, (0, 2))] ++ [(a + 3, (0, 2))] ++ [(a + 4, (0, 2))] ++ [(a + 5, (0, 280))] ++ [(a + 6, (2, 800))] ++ [(a + 7, (2, 69))]) (wI M63 (a + 7) 63 (vp_nar .byte 32)) (a + 8) 7 H locs := hN
  rw [← eM64] at hN
  refine lv_dup hx hb dX11_init_440 rfl ?_
  refine lv_bipush (v := 64) hx hb dX11_init_441 (by decide) ?_
  refine lv_bipush (v := 112) hx hb dX11_init_443 (by decide) ?_
  obtain ⟨M65, eM65, h⟩ := lt_el h
  refine n_bast (q := a + 7) (i := 64) (x := 112) Y hN (List.mem_append_right _ (List.mem_singleton.mpr rfl)) (by decide +kernel) dX11_init_445 (fun H locs hN => ?_)
  have hN : Nx s E [(a, .inr (11, [.ref (a + 1), .ref (a + 2), .ref (a + 3), .ref (a + 4), .ref (a + 5), .int 0, .ref (a + 6), .int 0, .int 0, .int 0, .int 0, .int 0, .int 0, .int 0, .int 0, .int 0, .int 0, .int (-1), .null, .int 0, .int 0, .null, .null, .null, .null, .int 0, .null, .null, .null, .null, .null, .null, .int 0, .int 0, .null, .null, .null, .null, .null, .int 0, .int 0, .int 0, .int 0, .null, .null, .null, .null, .null, .null, .null, .int 0, .int 0]))] (L ++ [(a + 1, (0, 140))] ++ [(a + 2, (0, 2))] ++ [(a + 3, (0, 2))] ++ [(a + 4, (0, 2))] ++ [(a + 5, (0, 280))] ++ [(a + 6, (2, 800))] ++ [(a + 7, (2, 69))]) (wI M64 (a + 7) 64 (vp_nar .byte 112)) (a + 8) 7 H locs := hN
  rw [← eM65] at hN
  refine lv_dup hx hb dX11_init_446 rfl ?_
  refine lv_bipush (v := 65) hx hb dX11_init_447 (by decide) ?_
  refine lv_bipush (v := 97) hx hb dX11_init_449 (by decide) ?_
  obtain ⟨M66, eM66, h⟩ := lt_el h
  refine n_bast (q := a + 7) (i := 65) (x := 97) Y hN (List.mem_append_right _ (List.mem_singleton.mpr rfl)) (by decide +kernel) dX11_init_451 (fun H locs hN => ?_)
  have hN : Nx s E [(a, .inr (11, [.ref (a + 1), .ref (a + 2), .ref (a + 3), .ref (a + 4), .ref (a + 5), .int 0, .ref (a + 6), .int 0, .int 0, .int 0, .int 0, .int 0, .int 0, .int 0, .int 0, .int 0, .int 0, .int (-1), .null, .int 0, .int 0, .null, .null, .null, .null, .int 0, .null, .null, .null, .null, .null, .null, .int 0, .int 0, .null, .null, .null, .null, .null, .int 0, .int 0, .int 0, .int 0, .null, .null, .null, .null, .null, .null, .null, .int 0, .int 0]))] (L ++ [(a + 1, (0, 140))] ++ [(a + 2, (0, 2))] ++ [(a + 3, (0, 2))] ++ [(a + 4, (0, 2))] ++ [(a + 5, (0, 280))] ++ [(a + 6, (2, 800))] ++ [(a + 7, (2, 69))]) (wI M65 (a + 7) 65 (vp_nar .byte 97)) (a + 8) 7 H locs := hN
  rw [← eM66] at hN
  refine lv_dup hx hb dX11_init_452 rfl ?_
  refine lv_bipush (v := 66) hx hb dX11_init_453 (by decide) ?_
  refine lv_bipush (v := 103) hx hb dX11_init_455 (by decide) ?_
  obtain ⟨M67, eM67, h⟩ := lt_el h
  refine n_bast (q := a + 7) (i := 66) (x := 103) Y hN (List.mem_append_right _ (List.mem_singleton.mpr rfl)) (by decide +kernel) dX11_init_457 (fun H locs hN => ?_)
  have hN : Nx s E [(a, .inr (11, [.ref (a + 1), .ref (a + 2), .ref (a + 3), .ref (a + 4), .ref (a + 5), .int 0, .ref (a + 6), .int 0, .int 0, .int 0, .int 0, .int 0, .int 0, .int 0, .int 0, .int 0, .int 0, .int (-1), .null, .int 0, .int 0, .null, .null, .null, .null, .int 0, .null, .null, .null, .null, .null, .null, .int 0, .int 0, .null, .null, .null, .null, .null, .int 0, .int 0, .int 0, .int 0, .null, .null, .null, .null, .null, .null, .null, .int 0, .int 0]))] (L ++ [(a + 1, (0, 140))] ++ [(a + 2, (0, 2))] ++ [(a + 3, (0, 2))] ++ [(a + 4, (0, 2))] ++ [(a + 5, (0, 280))] ++ [(a + 6, (2, 800))] ++ [(a + 7, (2, 69))]) (wI M66 (a + 7) 66 (vp_nar .byte 103)) (a + 8) 7 H locs := hN
  rw [← eM67] at hN
  refine lv_dup hx hb dX11_init_458 rfl ?_
  refine lv_bipush (v := 67) hx hb dX11_init_459 (by decide) ?_
  refine lv_bipush (v := 101) hx hb dX11_init_461 (by decide) ?_
  obtain ⟨M68, eM68, h⟩ := lt_el h
  refine n_bast (q := a + 7) (i := 67) (x := 101) Y hN (List.mem_append_right _ (List.mem_singleton.mpr rfl)) (by decide +kernel) dX11_init_463 (fun H locs hN => ?_)
  have hN : Nx s E [(a, .inr (11, [.ref (a + 1), .ref (a + 2), .ref (a + 3), .ref (a + 4), .ref (a + 5), .int 0, .ref (a + 6), .int 0, .int 0, .int 0, .int 0, .int 0, .int 0, .int 0, .int 0, .int 0, .int 0, .int (-1), .null, .int 0, .int 0, .null, .null, .null, .null, .int 0, .null, .null, .null, .null, .null, .null, .int 0, .int 0, .null, .null, .null, .null, .null, .int 0, .int 0, .int 0, .int 0, .null, .null, .null, .null, .null, .null, .null, .int 0, .int 0]))] (L ++ [(a + 1, (0, 140))] ++ [(a + 2, (0, 2))] ++ [(a + 3, (0, 2))] ++ [(a + 4, (0, 2))] ++ [(a + 5, (0, 280))] ++ [(a + 6, (2, 800))] ++ [(a + 7, (2, 69))]) (wI M67 (a + 7) 67 (vp_nar .byte 101)) (a + 8) 7 H locs := hN
  rw [← eM68] at hN
  refine lv_dup hx hb dX11_init_464 rfl ?_
  refine lv_bipush (v := 68) hx hb dX11_init_465 (by decide) ?_
  refine lv_bipush (v := 32) hx hb dX11_init_467 (by decide) ?_
  obtain ⟨M69, eM69, h⟩ := lt_el h
  refine n_bast (q := a + 7) (i := 68) (x := 32) Y hN (List.mem_append_right _ (List.mem_singleton.mpr rfl)) (by decide +kernel) dX11_init_469 (fun H locs hN => ?_)
  have hN : Nx s E [(a, .inr (11, [.ref (a + 1), .ref (a + 2), .ref (a + 3), .ref (a + 4), .ref (a + 5), .int 0, .ref (a + 6), .int 0, .int 0, .int 0, .int 0, .int 0, .int 0, .int 0, .int 0, .int 0, .int 0, .int (-1), .null, .int 0, .int 0, .null, .null, .null, .null, .int 0, .null, .null, .null, .null, .null, .null, .int 0, .int 0, .null, .null, .null, .null, .null, .int 0, .int 0, .int 0, .int 0, .null, .null, .null, .null, .null, .null, .null, .int 0, .int 0]))] (L ++ [(a + 1, (0, 140))] ++ [(a + 2, (0, 2))] ++ [(a + 3, (0, 2))] ++ [(a + 4, (0, 2))] ++ [(a + 5, (0, 280))] ++ [(a + 6, (2, 800))] ++ [(a + 7, (2, 69))]) (wI M68 (a + 7) 68 (vp_nar .byte 32)) (a + 8) 7 H locs := hN
  rw [← eM69] at hN
  refine n_putF (er := []) (ci := 11) (C := RX11) (T := TX11) (N := 52) (k := 18) (ty0 := tyX11) (fs := [.ref (a + 1), .ref (a + 2), .ref (a + 3), .ref (a + 4), .ref (a + 5), .int 0, .ref (a + 6), .int 0, .int 0, .int 0, .int 0, .int 0, .int 0, .int 0, .int 0, .int 0, .int 0, .int (-1), .null, .int 0, .int 0, .null, .null, .null, .null, .int 0, .null, .null, .null, .null, .null, .null, .int 0, .int 0, .null, .null, .null, .null, .null, .int 0, .int 0, .int 0, .int 0, .null, .null, .null, .null, .null, .null, .null, .int 0, .int 0]) (fs' := [.ref (a + 1), .ref (a + 2), .ref (a + 3), .ref (a + 4), .ref (a + 5), .int 0, .ref (a + 6), .int 0, .int 0, .int 0, .int 0, .int 0, .int 0, .int 0, .int 0, .int 0, .int 0, .int (-1), .ref (a + 7), .int 0, .int 0, .null, .null, .null, .null, .int 0, .null, .null, .null, .null, .null, .null, .int 0, .int 0, .null, .null, .null, .null, .null, .int 0, .int 0, .int 0, .int 0, .null, .null, .null, .null, .null, .null, .null, .int 0, .int 0]) Y hN rfl in11 tyX11_ok nmX11 (by decide) lk_X11_33 rfl hin rfl rfl rfl (Nat.le_of_ble_eq_true rfl) rfl dX11_init_470 (fun H locs hN => ?_)
  have hN : Nx s E [(a, .inr (11, [.ref (a + 1), .ref (a + 2), .ref (a + 3), .ref (a + 4), .ref (a + 5), .int 0, .ref (a + 6), .int 0, .int 0, .int 0, .int 0, .int 0, .int 0, .int 0, .int 0, .int 0, .int 0, .int (-1), .ref (a + 7), .int 0, .int 0, .null, .null, .null, .null, .int 0, .null, .null, .null, .null, .null, .null, .int 0, .int 0, .null, .null, .null, .null, .null, .int 0, .int 0, .int 0, .int 0, .null, .null, .null, .null, .null, .null, .null, .int 0, .int 0]))] (L ++ [(a + 1, (0, 140))] ++ [(a + 2, (0, 2))] ++ [(a + 3, (0, 2))] ++ [(a + 4, (0, 2))] ++ [(a + 5, (0, 280))] ++ [(a + 6, (2, 800))] ++ [(a + 7, (2, 69))]) M69 (a + 8) 7 H locs := hN
  refine lv_aload_n hx hb dX11_init_473 rfl (lv_at hl 0 rfl) ?_
  refine lv_sipush (v := 2048) hx hb dX11_init_474 (by decide) ?_
  refine n_arrI (N := 2048) Y hN (by decide) (by decide +kernel) (Nat.le_of_ble_eq_true rfl) (Nat.le_of_ble_eq_true rfl) (Nat.le_of_ble_eq_true rfl) dX11_init_477 (fun H hN => ?_)
  have hN : Nx s E [(a, .inr (11, [.ref (a + 1), .ref (a + 2), .ref (a + 3), .ref (a + 4), .ref (a + 5), .int 0, .ref (a + 6), .int 0, .int 0, .int 0, .int 0, .int 0, .int 0, .int 0, .int 0, .int 0, .int 0, .int (-1), .ref (a + 7), .int 0, .int 0, .null, .null, .null, .null, .int 0, .null, .null, .null, .null, .null, .null, .int 0, .int 0, .null, .null, .null, .null, .null, .int 0, .int 0, .int 0, .int 0, .null, .null, .null, .null, .null, .null, .null, .int 0, .int 0]))] (L ++ [(a + 1, (0, 140))] ++ [(a + 2, (0, 2))] ++ [(a + 3, (0, 2))] ++ [(a + 4, (0, 2))] ++ [(a + 5, (0, 280))] ++ [(a + 6, (2, 800))] ++ [(a + 7, (2, 69))] ++ [(a + 8, (0, 2048))]) M69 (a + 9) 8 H locs := hN
  refine n_putF (er := []) (ci := 11) (C := RX11) (T := TX11) (N := 52) (k := 21) (ty0 := tyX11) (fs := [.ref (a + 1), .ref (a + 2), .ref (a + 3), .ref (a + 4), .ref (a + 5), .int 0, .ref (a + 6), .int 0, .int 0, .int 0, .int 0, .int 0, .int 0, .int 0, .int 0, .int 0, .int 0, .int (-1), .ref (a + 7), .int 0, .int 0, .null, .null, .null, .null, .int 0, .null, .null, .null, .null, .null, .null, .int 0, .int 0, .null, .null, .null, .null, .null, .int 0, .int 0, .int 0, .int 0, .null, .null, .null, .null, .null, .null, .null, .int 0, .int 0]) (fs' := [.ref (a + 1), .ref (a + 2), .ref (a + 3), .ref (a + 4), .ref (a + 5), .int 0, .ref (a + 6), .int 0, .int 0, .int 0, .int 0, .int 0, .int 0, .int 0, .int 0, .int 0, .int 0, .int (-1), .ref (a + 7), .int 0, .int 0, .ref (a + 8), .null, .null, .null, .int 0, .null, .null, .null, .null, .null, .null, .int 0, .int 0, .null, .null, .null, .null, .null, .int 0, .int 0, .int 0, .int 0, .null, .null, .null, .null, .null, .null, .null, .int 0, .int 0]) Y hN rfl in11 tyX11_ok nmX11 (by decide) lk_X11_36 rfl hin rfl rfl rfl (Nat.le_of_ble_eq_true rfl) rfl dX11_init_479 (fun H locs hN => ?_)
  have hN : Nx s E [(a, .inr (11, [.ref (a + 1), .ref (a + 2), .ref (a + 3), .ref (a + 4), .ref (a + 5), .int 0, .ref (a + 6), .int 0, .int 0, .int 0, .int 0, .int 0, .int 0, .int 0, .int 0, .int 0, .int 0, .int (-1), .ref (a + 7), .int 0, .int 0, .ref (a + 8), .null, .null, .null, .int 0, .null, .null, .null, .null, .null, .null, .int 0, .int 0, .null, .null, .null, .null, .null, .int 0, .int 0, .int 0, .int 0, .null, .null, .null, .null, .null, .null, .null, .int 0, .int 0]))] (L ++ [(a + 1, (0, 140))] ++ [(a + 2, (0, 2))] ++ [(a + 3, (0, 2))] ++ [(a + 4, (0, 2))] ++ [(a + 5, (0, 280))] ++ [(a + 6, (2, 800))] ++ [(a + 7, (2, 69))] ++ [(a + 8, (0, 2048))]) M69 (a + 9) 8 H locs := hN
  refine lv_aload_n hx hb dX11_init_482 rfl (lv_at hl 0 rfl) ?_
  refine lv_sipush (v := 12288) hx hb dX11_init_483 (by decide) ?_
  refine n_arrI (N := 12288) Y hN (by decide) (by decide +kernel) (Nat.le_of_ble_eq_true rfl) (Nat.le_of_ble_eq_true rfl) (Nat.le_of_ble_eq_true rfl) dX11_init_486 (fun H hN => ?_)
  have hN : Nx s E [(a, .inr (11, [.ref (a + 1), .ref (a + 2), .ref (a + 3), .ref (a + 4), .ref (a + 5), .int 0, .ref (a + 6), .int 0, .int 0, .int 0, .int 0, .int 0, .int 0, .int 0, .int 0, .int 0, .int 0, .int (-1), .ref (a + 7), .int 0, .int 0, .ref (a + 8), .null, .null, .null, .int 0, .null, .null, .null, .null, .null, .null, .int 0, .int 0, .null, .null, .null, .null, .null, .int 0, .int 0, .int 0, .int 0, .null, .null, .null, .null, .null, .null, .null, .int 0, .int 0]))] (L ++ [(a + 1, (0, 140))] ++ [(a + 2, (0, 2))] ++ [(a + 3, (0, 2))] ++ [(a + 4, (0, 2))] ++ [(a + 5, (0, 280))] ++ [(a + 6, (2, 800))] ++ [(a + 7, (2, 69))] ++ [(a + 8, (0, 2048))] ++ [(a + 9, (0, 12288))]) M69 (a + 10) 9 H locs := hN
  refine n_putF (er := []) (ci := 11) (C := RX11) (T := TX11) (N := 52) (k := 22) (ty0 := tyX11) (fs := [.ref (a + 1), .ref (a + 2), .ref (a + 3), .ref (a + 4), .ref (a + 5), .int 0, .ref (a + 6), .int 0, .int 0, .int 0, .int 0, .int 0, .int 0, .int 0, .int 0, .int 0, .int 0, .int (-1), .ref (a + 7), .int 0, .int 0, .ref (a + 8), .null, .null, .null, .int 0, .null, .null, .null, .null, .null, .null, .int 0, .int 0, .null, .null, .null, .null, .null, .int 0, .int 0, .int 0, .int 0, .null, .null, .null, .null, .null, .null, .null, .int 0, .int 0]) (fs' := [.ref (a + 1), .ref (a + 2), .ref (a + 3), .ref (a + 4), .ref (a + 5), .int 0, .ref (a + 6), .int 0, .int 0, .int 0, .int 0, .int 0, .int 0, .int 0, .int 0, .int 0, .int 0, .int (-1), .ref (a + 7), .int 0, .int 0, .ref (a + 8), .ref (a + 9), .null, .null, .int 0, .null, .null, .null, .null, .null, .null, .int 0, .int 0, .null, .null, .null, .null, .null, .int 0, .int 0, .int 0, .int 0, .null, .null, .null, .null, .null, .null, .null, .int 0, .int 0]) Y hN rfl in11 tyX11_ok nmX11 (by decide) lk_X11_39 rfl hin rfl rfl rfl (Nat.le_of_ble_eq_true rfl) rfl dX11_init_488 (fun H locs hN => ?_)
  have hN : Nx s E [(a, .inr (11, [.ref (a + 1), .ref (a + 2), .ref (a + 3), .ref (a + 4), .ref (a + 5), .int 0, .ref (a + 6), .int 0, .int 0, .int 0, .int 0, .int 0, .int 0, .int 0, .int 0, .int 0, .int 0, .int (-1), .ref (a + 7), .int 0, .int 0, .ref (a + 8), .ref (a + 9), .null, .null, .int 0, .null, .null, .null, .null, .null, .null, .int 0, .int 0, .null, .null, .null, .null, .null, .int 0, .int 0, .int 0, .int 0, .null, .null, .null, .null, .null, .null, .null, .int 0, .int 0]))] (L ++ [(a + 1, (0, 140))] ++ [(a + 2, (0, 2))] ++ [(a + 3, (0, 2))] ++ [(a + 4, (0, 2))] ++ [(a + 5, (0, 280))] ++ [(a + 6, (2, 800))] ++ [(a + 7, (2, 69))] ++ [(a + 8, (0, 2048))] ++ [(a + 9, (0, 12288))]) M69 (a + 10) 9 H locs := hN
  refine lv_aload_n hx hb dX11_init_491 rfl (lv_at hl 0 rfl) ?_
  refine lv_sipush (v := 2048) hx hb dX11_init_492 (by decide) ?_
  refine n_arrI (N := 2048) Y hN (by decide) (by decide +kernel) (Nat.le_of_ble_eq_true rfl) (Nat.le_of_ble_eq_true rfl) (Nat.le_of_ble_eq_true rfl) dX11_init_495 (fun H hN => ?_)
  have hN : Nx s E [(a, .inr (11, [.ref (a + 1), .ref (a + 2), .ref (a + 3), .ref (a + 4), .ref (a + 5), .int 0, .ref (a + 6), .int 0, .int 0, .int 0, .int 0, .int 0, .int 0, .int 0, .int 0, .int 0, .int 0, .int (-1), .ref (a + 7), .int 0, .int 0, .ref (a + 8), .ref (a + 9), .null, .null, .int 0, .null, .null, .null, .null, .null, .null, .int 0, .int 0, .null, .null, .null, .null, .null, .int 0, .int 0, .int 0, .int 0, .null, .null, .null, .null, .null, .null, .null, .int 0, .int 0]))] (L ++ [(a + 1, (0, 140))] ++ [(a + 2, (0, 2))] ++ [(a + 3, (0, 2))] ++ [(a + 4, (0, 2))] ++ [(a + 5, (0, 280))] ++ [(a + 6, (2, 800))] ++ [(a + 7, (2, 69))] ++ [(a + 8, (0, 2048))] ++ [(a + 9, (0, 12288))] ++ [(a + 10, (0, 2048))]) M69 (a + 11) 10 H locs := hN
  refine n_putF (er := []) (ci := 11) (C := RX11) (T := TX11) (N := 52) (k := 23) (ty0 := tyX11) (fs := [.ref (a + 1), .ref (a + 2), .ref (a + 3), .ref (a + 4), .ref (a + 5), .int 0, .ref (a + 6), .int 0, .int 0, .int 0, .int 0, .int 0, .int 0, .int 0, .int 0, .int 0, .int 0, .int (-1), .ref (a + 7), .int 0, .int 0, .ref (a + 8), .ref (a + 9), .null, .null, .int 0, .null, .null, .null, .null, .null, .null, .int 0, .int 0, .null, .null, .null, .null, .null, .int 0, .int 0, .int 0, .int 0, .null, .null, .null, .null, .null, .null, .null, .int 0, .int 0]) (fs' := [.ref (a + 1), .ref (a + 2), .ref (a + 3), .ref (a + 4), .ref (a + 5), .int 0, .ref (a + 6), .int 0, .int 0, .int 0, .int 0, .int 0, .int 0, .int 0, .int 0, .int 0, .int 0, .int (-1), .ref (a + 7), .int 0, .int 0, .ref (a + 8), .ref (a + 9), .ref (a + 10), .null, .int 0, .null, .null, .null, .null, .null, .null, .int 0, .int 0, .null, .null, .null, .null, .null, .int 0, .int 0, .int 0, .int 0, .null, .null, .null, .null, .null, .null, .null, .int 0, .int 0]) Y hN rfl in11 tyX11_ok nmX11 (by decide) lk_X11_42 rfl hin rfl rfl rfl (Nat.le_of_ble_eq_true rfl) rfl dX11_init_497 (fun H locs hN => ?_)
  have hN : Nx s E [(a, .inr (11, [.ref (a + 1), .ref (a + 2), .ref (a + 3), .ref (a + 4), .ref (a + 5), .int 0, .ref (a + 6), .int 0, .int 0, .int 0, .int 0, .int 0, .int 0, .int 0, .int 0, .int 0, .int 0, .int (-1), .ref (a + 7), .int 0, .int 0, .ref (a + 8), .ref (a + 9), .ref (a + 10), .null, .int 0, .null, .null, .null, .null, .null, .null, .int 0, .int 0, .null, .null, .null, .null, .null, .int 0, .int 0, .int 0, .int 0, .null, .null, .null, .null, .null, .null, .null, .int 0, .int 0]))] (L ++ [(a + 1, (0, 140))] ++ [(a + 2, (0, 2))] ++ [(a + 3, (0, 2))] ++ [(a + 4, (0, 2))] ++ [(a + 5, (0, 280))] ++ [(a + 6, (2, 800))] ++ [(a + 7, (2, 69))] ++ [(a + 8, (0, 2048))] ++ [(a + 9, (0, 12288))] ++ [(a + 10, (0, 2048))]) M69 (a + 11) 10 H locs := hN
  refine lv_aload_n hx hb dX11_init_500 rfl (lv_at hl 0 rfl) ?_
  refine lv_sipush (v := 12288) hx hb dX11_init_501 (by decide) ?_
  refine n_arrI (N := 12288) Y hN (by decide) (by decide +kernel) (Nat.le_of_ble_eq_true rfl) (Nat.le_of_ble_eq_true rfl) (Nat.le_of_ble_eq_true rfl) dX11_init_504 (fun H hN => ?_)
  have hN : Nx s E [(a, .inr (11, [.ref (a + 1), .ref (a + 2), .ref (a + 3), .ref (a + 4), .ref (a + 5), .int 0, .ref (a + 6), .int 0, .int 0, .int 0, .int 0, .int 0, .int 0, .int 0, .int 0, .int 0, .int 0, .int (-1), .ref (a + 7), .int 0, .int 0, .ref (a + 8), .ref (a + 9), .ref (a + 10), .null, .int 0, .null, .null, .null, .null, .null, .null, .int 0, .int 0, .null, .null, .null, .null, .null, .int 0, .int 0, .int 0, .int 0, .null, .null, .null, .null, .null, .null, .null, .int 0, .int 0]))] (L ++ [(a + 1, (0, 140))] ++ [(a + 2, (0, 2))] ++ [(a + 3, (0, 2))] ++ [(a + 4, (0, 2))] ++ [(a + 5, (0, 280))] ++ [(a + 6, (2, 800))] ++ [(a + 7, (2, 69))] ++ [(a + 8, (0, 2048))] ++ [(a + 9, (0, 12288))] ++ [(a + 10, (0, 2048))] ++ [(a + 11, (0, 12288))]) M69 (a + 12) 11 H locs := hN
  refine n_putF (er := []) (ci := 11) (C := RX11) (T := TX11) (N := 52) (k := 24) (ty0 := tyX11) (fs := [.ref (a + 1), .ref (a + 2), .ref (a + 3), .ref (a + 4), .ref (a + 5), .int 0, .ref (a + 6), .int 0, .int 0, .int 0, .int 0, .int 0, .int 0, .int 0, .int 0, .int 0, .int 0, .int (-1), .ref (a + 7), .int 0, .int 0, .ref (a + 8), .ref (a + 9), .ref (a + 10), .null, .int 0, .null, .null, .null, .null, .null, .null, .int 0, .int 0, .null, .null, .null, .null, .null, .int 0, .int 0, .int 0, .int 0, .null, .null, .null, .null, .null, .null, .null, .int 0, .int 0]) (fs' := [.ref (a + 1), .ref (a + 2), .ref (a + 3), .ref (a + 4), .ref (a + 5), .int 0, .ref (a + 6), .int 0, .int 0, .int 0, .int 0, .int 0, .int 0, .int 0, .int 0, .int 0, .int 0, .int (-1), .ref (a + 7), .int 0, .int 0, .ref (a + 8), .ref (a + 9), .ref (a + 10), .ref (a + 11), .int 0, .null, .null, .null, .null, .null, .null, .int 0, .int 0, .null, .null, .null, .null, .null, .int 0, .int 0, .int 0, .int 0, .null, .null, .null, .null, .null, .null, .null, .int 0, .int 0]) Y hN rfl in11 tyX11_ok nmX11 (by decide) lk_X11_45 rfl hin rfl rfl rfl (Nat.le_of_ble_eq_true rfl) rfl dX11_init_506 (fun H locs hN => ?_)
  have hN : Nx s E [(a, .inr (11, [.ref (a + 1), .ref (a + 2), .ref (a + 3), .ref (a + 4), .ref (a + 5), .int 0, .ref (a + 6), .int 0, .int 0, .int 0, .int 0, .int 0, .int 0, .int 0, .int 0, .int 0, .int 0, .int (-1), .ref (a + 7), .int 0, .int 0, .ref (a + 8), .ref (a + 9), .ref (a + 10), .ref (a + 11), .int 0, .null, .null, .null, .null, .null, .null, .int 0, .int 0, .null, .null, .null, .null, .null, .int 0, .int 0, .int 0, .int 0, .null, .null, .null, .null, .null, .null, .null, .int 0, .int 0]))] (L ++ [(a + 1, (0, 140))] ++ [(a + 2, (0, 2))] ++ [(a + 3, (0, 2))] ++ [(a + 4, (0, 2))] ++ [(a + 5, (0, 280))] ++ [(a + 6, (2, 800))] ++ [(a + 7, (2, 69))] ++ [(a + 8, (0, 2048))] ++ [(a + 9, (0, 12288))] ++ [(a + 10, (0, 2048))] ++ [(a + 11, (0, 12288))]) M69 (a + 12) 11 H locs := hN
  refine lv_aload_n hx hb dX11_init_509 rfl (lv_at hl 0 rfl) ?_
  refine lv_sipush (v := 4200) hx hb dX11_init_510 (by decide) ?_
  refine n_arrI (N := 4200) Y hN (by decide) (by decide +kernel) (Nat.le_of_ble_eq_true rfl) (Nat.le_of_ble_eq_true rfl) (Nat.le_of_ble_eq_true rfl) dX11_init_513 (fun H hN => ?_)
  have hN : Nx s E [(a, .inr (11, [.ref (a + 1), .ref (a + 2), .ref (a + 3), .ref (a + 4), .ref (a + 5), .int 0, .ref (a + 6), .int 0, .int 0, .int 0, .int 0, .int 0, .int 0, .int 0, .int 0, .int 0, .int 0, .int (-1), .ref (a + 7), .int 0, .int 0, .ref (a + 8), .ref (a + 9), .ref (a + 10), .ref (a + 11), .int 0, .null, .null, .null, .null, .null, .null, .int 0, .int 0, .null, .null, .null, .null, .null, .int 0, .int 0, .int 0, .int 0, .null, .null, .null, .null, .null, .null, .null, .int 0, .int 0]))] (L ++ [(a + 1, (0, 140))] ++ [(a + 2, (0, 2))] ++ [(a + 3, (0, 2))] ++ [(a + 4, (0, 2))] ++ [(a + 5, (0, 280))] ++ [(a + 6, (2, 800))] ++ [(a + 7, (2, 69))] ++ [(a + 8, (0, 2048))] ++ [(a + 9, (0, 12288))] ++ [(a + 10, (0, 2048))] ++ [(a + 11, (0, 12288))] ++ [(a + 12, (0, 4200))]) M69 (a + 13) 12 H locs := hN
  refine n_putF (er := []) (ci := 11) (C := RX11) (T := TX11) (N := 52) (k := 26) (ty0 := tyX11) (fs := [.ref (a + 1), .ref (a + 2), .ref (a + 3), .ref (a + 4), .ref (a + 5), .int 0, .ref (a + 6), .int 0, .int 0, .int 0, .int 0, .int 0, .int 0, .int 0, .int 0, .int 0, .int 0, .int (-1), .ref (a + 7), .int 0, .int 0, .ref (a + 8), .ref (a + 9), .ref (a + 10), .ref (a + 11), .int 0, .null, .null, .null, .null, .null, .null, .int 0, .int 0, .null, .null, .null, .null, .null, .int 0, .int 0, .int 0, .int 0, .null, .null, .null, .null, .null, .null, .null, .int 0, .int 0]) (fs' := [.ref (a + 1), .ref (a + 2), .ref (a + 3), .ref (a + 4), .ref (a + 5), .int 0, .ref (a + 6), .int 0, .int 0, .int 0, .int 0, .int 0, .int 0, .int 0, .int 0, .int 0, .int 0, .int (-1), .ref (a + 7), .int 0, .int 0, .ref (a + 8), .ref (a + 9), .ref (a + 10), .ref (a + 11), .int 0, .ref (a + 12), .null, .null, .null, .null, .null, .int 0, .int 0, .null, .null, .null, .null, .null, .int 0, .int 0, .int 0, .int 0, .null, .null, .null, .null, .null, .null, .null, .int 0, .int 0]) Y hN rfl in11 tyX11_ok nmX11 (by decide) lk_X11_48 rfl hin rfl rfl rfl (Nat.le_of_ble_eq_true rfl) rfl dX11_init_515 (fun H locs hN => ?_)
  have hN : Nx s E [(a, .inr (11, [.ref (a + 1), .ref (a + 2), .ref (a + 3), .ref (a + 4), .ref (a + 5), .int 0, .ref (a + 6), .int 0, .int 0, .int 0, .int 0, .int 0, .int 0, .int 0, .int 0, .int 0, .int 0, .int (-1), .ref (a + 7), .int 0, .int 0, .ref (a + 8), .ref (a + 9), .ref (a + 10), .ref (a + 11), .int 0, .ref (a + 12), .null, .null, .null, .null, .null, .int 0, .int 0, .null, .null, .null, .null, .null, .int 0, .int 0, .int 0, .int 0, .null, .null, .null, .null, .null, .null, .null, .int 0, .int 0]))] (L ++ [(a + 1, (0, 140))] ++ [(a + 2, (0, 2))] ++ [(a + 3, (0, 2))] ++ [(a + 4, (0, 2))] ++ [(a + 5, (0, 280))] ++ [(a + 6, (2, 800))] ++ [(a + 7, (2, 69))] ++ [(a + 8, (0, 2048))] ++ [(a + 9, (0, 12288))] ++ [(a + 10, (0, 2048))] ++ [(a + 11, (0, 12288))] ++ [(a + 12, (0, 4200))]) M69 (a + 13) 12 H locs := hN
  refine lv_aload_n hx hb dX11_init_518 rfl (lv_at hl 0 rfl) ?_
  refine lv_sipush (v := 4200) hx hb dX11_init_519 (by decide) ?_
  refine n_arrI (N := 4200) Y hN (by decide) (by decide +kernel) (Nat.le_of_ble_eq_true rfl) (Nat.le_of_ble_eq_true rfl) (Nat.le_of_ble_eq_true rfl) dX11_init_522 (fun H hN => ?_)
  have hN : Nx s E [(a, .inr (11, [.ref (a + 1), .ref (a + 2), .ref (a + 3), .ref (a + 4), .ref (a + 5), .int 0, .ref (a + 6), .int 0, .int 0, .int 0, .int 0, .int 0, .int 0, .int 0, .int 0, .int 0, .int 0, .int (-1), .ref (a + 7), .int 0, .int 0, .ref (a + 8), .ref (a + 9), .ref (a + 10), .ref (a + 11), .int 0, .ref (a + 12), .null, .null, .null, .null, .null, .int 0, .int 0, .null, .null, .null, .null, .null, .int 0, .int 0, .int 0, .int 0, .null, .null, .null, .null, .null, .null, .null, .int 0, .int 0]))] (L ++ [(a + 1, (0, 140))] ++ [(a + 2, (0, 2))] ++ [(a + 3, (0, 2))] ++ [(a + 4, (0, 2))] ++ [(a + 5, (0, 280))] ++ [(a + 6, (2, 800))] ++ [(a + 7, (2, 69))] ++ [(a + 8, (0, 2048))] ++ [(a + 9, (0, 12288))] ++ [(a + 10, (0, 2048))] ++ [(a + 11, (0, 12288))] ++ [(a + 12, (0, 4200))] ++ [(a + 13, (0, 4200))]) M69 (a + 14) 13 H locs := hN
  refine n_putF (er := []) (ci := 11) (C := RX11) (T := TX11) (N := 52) (k := 27) (ty0 := tyX11) (fs := [.ref (a + 1), .ref (a + 2), .ref (a + 3), .ref (a + 4), .ref (a + 5), .int 0, .ref (a + 6), .int 0, .int 0, .int 0, .int 0, .int 0, .int 0, .int 0, .int 0, .int 0, .int 0, .int (-1), .ref (a + 7), .int 0, .int 0, .ref (a + 8), .ref (a + 9), .ref (a + 10), .ref (a + 11), .int 0, .ref (a + 12), .null, .null, .null, .null, .null, .int 0, .int 0, .null, .null, .null, .null, .null, .int 0, .int 0, .int 0, .int 0, .null, .null, .null, .null, .null, .null, .null, .int 0, .int 0]) (fs' := [.ref (a + 1), .ref (a + 2), .ref (a + 3), .ref (a + 4), .ref (a + 5), .int 0, .ref (a + 6), .int 0, .int 0, .int 0, .int 0, .int 0, .int 0, .int 0, .int 0, .int 0, .int 0, .int (-1), .ref (a + 7), .int 0, .int 0, .ref (a + 8), .ref (a + 9), .ref (a + 10), .ref (a + 11), .int 0, .ref (a + 12), .ref (a + 13), .null, .null, .null, .null, .int 0, .int 0, .null, .null, .null, .null, .null, .int 0, .int 0, .int 0, .int 0, .null, .null, .null, .null, .null, .null, .null, .int 0, .int 0]) Y hN rfl in11 tyX11_ok nmX11 (by decide) lk_X11_51 rfl hin rfl rfl rfl (Nat.le_of_ble_eq_true rfl) rfl dX11_init_524 (fun H locs hN => ?_)
  have hN : Nx s E [(a, .inr (11, [.ref (a + 1), .ref (a + 2), .ref (a + 3), .ref (a + 4), .ref (a + 5), .int 0, .ref (a + 6), .int 0, .int 0, .int 0, .int 0, .int 0, .int 0, .int 0, .int 0, .int 0, .int 0, .int (-1), .ref (a + 7), .int 0, .int 0, .ref (a + 8), .ref (a + 9), .ref (a + 10), .ref (a + 11), .int 0, .ref (a + 12), .ref (a + 13), .null, .null, .null, .null, .int 0, .int 0, .null, .null, .null, .null, .null, .int 0, .int 0, .int 0, .int 0, .null, .null, .null, .null, .null, .null, .null, .int 0, .int 0]))] (L ++ [(a + 1, (0, 140))] ++ [(a + 2, (0, 2))] ++ [(a + 3, (0, 2))] ++ [(a + 4, (0, 2))] ++ [(a + 5, (0, 280))] ++ [(a + 6, (2, 800))] ++ [(a + 7, (2, 69))] ++ [(a + 8, (0, 2048))] ++ [(a + 9, (0, 12288))] ++ [(a + 10, (0, 2048))] ++ [(a + 11, (0, 12288))] ++ [(a + 12, (0, 4200))] ++ [(a + 13, (0, 4200))]) M69 (a + 14) 13 H locs := hN
  refine lv_aload_n hx hb dX11_init_527 rfl (lv_at hl 0 rfl) ?_
  refine lv_sipush (v := 2100) hx hb dX11_init_528 (by decide) ?_
  refine n_arrI (N := 2100) Y hN (by decide) (by decide +kernel) (Nat.le_of_ble_eq_true rfl) (Nat.le_of_ble_eq_true rfl) (Nat.le_of_ble_eq_true rfl) dX11_init_531 (fun H hN => ?_)
  have hN : Nx s E [(a, .inr (11, [.ref (a + 1), .ref (a + 2), .ref (a + 3), .ref (a + 4), .ref (a + 5), .int 0, .ref (a + 6), .int 0, .int 0, .int 0, .int 0, .int 0, .int 0, .int 0, .int 0, .int 0, .int 0, .int (-1), .ref (a + 7), .int 0, .int 0, .ref (a + 8), .ref (a + 9), .ref (a + 10), .ref (a + 11), .int 0, .ref (a + 12), .ref (a + 13), .null, .null, .null, .null, .int 0, .int 0, .null, .null, .null, .null, .null, .int 0, .int 0, .int 0, .int 0, .null, .null, .null, .null, .null, .null, .null, .int 0, .int 0]))] (L ++ [(a + 1, (0, 140))] ++ [(a + 2, (0, 2))] ++ [(a + 3, (0, 2))] ++ [(a + 4, (0, 2))] ++ [(a + 5, (0, 280))] ++ [(a + 6, (2, 800))] ++ [(a + 7, (2, 69))] ++ [(a + 8, (0, 2048))] ++ [(a + 9, (0, 12288))] ++ [(a + 10, (0, 2048))] ++ [(a + 11, (0, 12288))] ++ [(a + 12, (0, 4200))] ++ [(a + 13, (0, 4200))] ++ [(a + 14, (0, 2100))]) M69 (a + 15) 14 H locs := hN
  refine n_putF (er := []) (ci := 11) (C := RX11) (T := TX11) (N := 52) (k := 28) (ty0 := tyX11) (fs := [.ref (a + 1), .ref (a + 2), .ref (a + 3), .ref (a + 4), .ref (a + 5), .int 0, .ref (a + 6), .int 0, .int 0, .int 0, .int 0, .int 0, .int 0, .int 0, .int 0, .int 0, .int 0, .int (-1), .ref (a + 7), .int 0, .int 0, .ref (a + 8), .ref (a + 9), .ref (a + 10), .ref (a + 11), .int 0, .ref (a + 12), .ref (a + 13), .null, .null, .null, .null, .int 0, .int 0, .null, .null, .null, .null, .null, .int 0, .int 0, .int 0, .int 0, .null, .null, .null, .null, .null, .null, .null, .int 0, .int 0]) (fs' := [.ref (a + 1), .ref (a + 2), .ref (a + 3), .ref (a + 4), .ref (a + 5), .int 0, .ref (a + 6), .int 0, .int 0, .int 0, .int 0, .int 0, .int 0, .int 0, .int 0, .int 0, .int 0, .int (-1), .ref (a + 7), .int 0, .int 0, .ref (a + 8), .ref (a + 9), .ref (a + 10), .ref (a + 11), .int 0, .ref (a + 12), .ref (a + 13), .ref (a + 14), .null, .null, .null, .int 0, .int 0, .null, .null, .null, .null, .null, .int 0, .int 0, .int 0, .int 0, .null, .null, .null, .null, .null, .null, .null, .int 0, .int 0]) Y hN rfl in11 tyX11_ok nmX11 (by decide) lk_X11_54 rfl hin rfl rfl rfl (Nat.le_of_ble_eq_true rfl) rfl dX11_init_533 (fun H locs hN => ?_)
  have hN : Nx s E [(a, .inr (11, [.ref (a + 1), .ref (a + 2), .ref (a + 3), .ref (a + 4), .ref (a + 5), .int 0, .ref (a + 6), .int 0, .int 0, .int 0, .int 0, .int 0, .int 0, .int 0, .int 0, .int 0, .int 0, .int (-1), .ref (a + 7), .int 0, .int 0, .ref (a + 8), .ref (a + 9), .ref (a + 10), .ref (a + 11), .int 0, .ref (a + 12), .ref (a + 13), .ref (a + 14), .null, .null, .null, .int 0, .int 0, .null, .null, .null, .null, .null, .int 0, .int 0, .int 0, .int 0, .null, .null, .null, .null, .null, .null, .null, .int 0, .int 0]))] (L ++ [(a + 1, (0, 140))] ++ [(a + 2, (0, 2))] ++ [(a + 3, (0, 2))] ++ [(a + 4, (0, 2))] ++ [(a + 5, (0, 280))] ++ [(a + 6, (2, 800))] ++ [(a + 7, (2, 69))] ++ [(a + 8, (0, 2048))] ++ [(a + 9, (0, 12288))] ++ [(a + 10, (0, 2048))] ++ [(a + 11, (0, 12288))] ++ [(a + 12, (0, 4200))] ++ [(a + 13, (0, 4200))] ++ [(a + 14, (0, 2100))]) M69 (a + 15) 14 H locs := hN
  refine lv_aload_n hx hb dX11_init_536 rfl (lv_at hl 0 rfl) ?_
  refine lv_sipush (v := 2100) hx hb dX11_init_537 (by decide) ?_
  refine n_arrI (N := 2100) Y hN (by decide) (by decide +kernel) (Nat.le_of_ble_eq_true rfl) (Nat.le_of_ble_eq_true rfl) (Nat.le_of_ble_eq_true rfl) dX11_init_540 (fun H hN => ?_)
  have hN : Nx s E [(a, .inr (11, [.ref (a + 1), .ref (a + 2), .ref (a + 3), .ref (a + 4), .ref (a + 5), .int 0, .ref (a + 6), .int 0, .int 0, .int 0, .int 0, .int 0, .int 0, .int 0, .int 0, .int 0, .int 0, .int (-1), .ref (a + 7), .int 0, .int 0, .ref (a + 8), .ref (a + 9), .ref (a + 10), .ref (a + 11), .int 0, .ref (a + 12), .ref (a + 13), .ref (a + 14), .null, .null, .null, .int 0, .int 0, .null, .null, .null, .null, .null, .int 0, .int 0, .int 0, .int 0, .null, .null, .null, .null, .null, .null, .null, .int 0, .int 0]))] (L ++ [(a + 1, (0, 140))] ++ [(a + 2, (0, 2))] ++ [(a + 3, (0, 2))] ++ [(a + 4, (0, 2))] ++ [(a + 5, (0, 280))] ++ [(a + 6, (2, 800))] ++ [(a + 7, (2, 69))] ++ [(a + 8, (0, 2048))] ++ [(a + 9, (0, 12288))] ++ [(a + 10, (0, 2048))] ++ [(a + 11, (0, 12288))] ++ [(a + 12, (0, 4200))] ++ [(a + 13, (0, 4200))] ++ [(a + 14, (0, 2100))] ++ [(a + 15, (0, 2100))]) M69 (a + 16) 15 H locs := hN
  refine n_putF (er := []) (ci := 11) (C := RX11) (T := TX11) (N := 52) (k := 29) (ty0 := tyX11) (fs := [.ref (a + 1), .ref (a + 2), .ref (a + 3), .ref (a + 4), .ref (a + 5), .int 0, .ref (a + 6), .int 0, .int 0, .int 0, .int 0, .int 0, .int 0, .int 0, .int 0, .int 0, .int 0, .int (-1), .ref (a + 7), .int 0, .int 0, .ref (a + 8), .ref (a + 9), .ref (a + 10), .ref (a + 11), .int 0, .ref (a + 12), .ref (a + 13), .ref (a + 14), .null, .null, .null, .int 0, .int 0, .null, .null, .null, .null, .null, .int 0, .int 0, .int 0, .int 0, .null, .null, .null, .null, .null, .null, .null, .int 0, .int 0]) (fs' := [.ref (a + 1), .ref (a + 2), .ref (a + 3), .ref (a + 4), .ref (a + 5), .int 0, .ref (a + 6), .int 0, .int 0, .int 0, .int 0, .int 0, .int 0, .int 0, .int 0, .int 0, .int 0, .int (-1), .ref (a + 7), .int 0, .int 0, .ref (a + 8), .ref (a + 9), .ref (a + 10), .ref (a + 11), .int 0, .ref (a + 12), .ref (a + 13), .ref (a + 14), .ref (a + 15), .null, .null, .int 0, .int 0, .null, .null, .null, .null, .null, .int 0, .int 0, .int 0, .int 0, .null, .null, .null, .null, .null, .null, .null, .int 0, .int 0]) Y hN rfl in11 tyX11_ok nmX11 (by decide) lk_X11_57 rfl hin rfl rfl rfl (Nat.le_of_ble_eq_true rfl) rfl dX11_init_542 (fun H locs hN => ?_)
  have hN : Nx s E [(a, .inr (11, [.ref (a + 1), .ref (a + 2), .ref (a + 3), .ref (a + 4), .ref (a + 5), .int 0, .ref (a + 6), .int 0, .int 0, .int 0, .int 0, .int 0, .int 0, .int 0, .int 0, .int 0, .int 0, .int (-1), .ref (a + 7), .int 0, .int 0, .ref (a + 8), .ref (a + 9), .ref (a + 10), .ref (a + 11), .int 0, .ref (a + 12), .ref (a + 13), .ref (a + 14), .ref (a + 15), .null, .null, .int 0, .int 0, .null, .null, .null, .null, .null, .int 0, .int 0, .int 0, .int 0, .null, .null, .null, .null, .null, .null, .null, .int 0, .int 0]))] (L ++ [(a + 1, (0, 140))] ++ [(a + 2, (0, 2))] ++ [(a + 3, (0, 2))] ++ [(a + 4, (0, 2))] ++ [(a + 5, (0, 280))] ++ [(a + 6, (2, 800))] ++ [(a + 7, (2, 69))] ++ [(a + 8, (0, 2048))] ++ [(a + 9, (0, 12288))] ++ [(a + 10, (0, 2048))] ++ [(a + 11, (0, 12288))] ++ [(a + 12, (0, 4200))] ++ [(a + 13, (0, 4200))] ++ [(a + 14, (0, 2100))] ++ [(a + 15, (0, 2100))]) M69 (a + 16) 15 H locs := hN
  refine lv_aload_n hx hb dX11_init_545 rfl (lv_at hl 0 rfl) ?_
  refine lv_sipush (v := 2100) hx hb dX11_init_546 (by decide) ?_
  refine n_arrI (N := 2100) Y hN (by decide) (by decide +kernel) (Nat.le_of_ble_eq_true rfl) (Nat.le_of_ble_eq_true rfl) (Nat.le_of_ble_eq_true rfl) dX11_init_549 (fun H hN => ?_)
  have hN : Nx s E [(a, .inr (11, [.ref (a + 1), .ref (a + 2), .ref (a + 3), .ref (a + 4), .ref (a + 5), .int 0, .ref (a + 6), .int 0, .int 0, .int 0, .int 0, .int 0, .int 0, .int 0, .int 0, .int 0, .int 0, .int (-1), .ref (a + 7), .int 0, .int 0, .ref (a + 8), .ref (a + 9), .ref (a + 10), .ref (a + 11), .int 0, .ref (a + 12), .ref (a + 13), .ref (a + 14), .ref (a + 15), .null, .null, .int 0, .int 0, .null, .null, .null, .null, .null, .int 0, .int 0, .int 0, .int 0, .null, .null, .null, .null, .null, .null, .null, .int 0, .int 0]))] (L ++ [(a + 1, (0, 140))] ++ [(a + 2, (0, 2))] ++ [(a + 3, (0, 2))] ++ [(a + 4, (0, 2))] ++ [(a + 5, (0, 280))] ++ [(a + 6, (2, 800))] ++ [(a + 7, (2, 69))] ++ [(a + 8, (0, 2048))] ++ [(a + 9, (0, 12288))] ++ [(a + 10, (0, 2048))] ++ [(a + 11, (0, 12288))] ++ [(a + 12, (0, 4200))] ++ [(a + 13, (0, 4200))] ++ [(a + 14, (0, 2100))] ++ [(a + 15, (0, 2100))] ++ [(a + 16, (0, 2100))]) M69 (a + 17) 16 H locs := hN
  refine n_putF (er := []) (ci := 11) (C := RX11) (T := TX11) (N := 52) (k := 30) (ty0 := tyX11) (fs := [.ref (a + 1), .ref (a + 2), .ref (a + 3), .ref (a + 4), .ref (a + 5), .int 0, .ref (a + 6), .int 0, .int 0, .int 0, .int 0, .int 0, .int 0, .int 0, .int 0, .int 0, .int 0, .int (-1), .ref (a + 7), .int 0, .int 0, .ref (a + 8), .ref (a + 9), .ref (a + 10), .ref (a + 11), .int 0, .ref (a + 12), .ref (a + 13), .ref (a + 14), .ref (a + 15), .null, .null, .int 0, .int 0, .null, .null, .null, .null, .null, .int 0, .int 0, .int 0, .int 0, .null, .null, .null, .null, .null, .null, .null, .int 0, .int 0]) (fs' := [.ref (a + 1), .ref (a + 2), .ref (a + 3), .ref (a + 4), .ref (a + 5), .int 0, .ref (a + 6), .int 0, .int 0, .int 0, .int 0, .int 0, .int 0, .int 0, .int 0, .int 0, .int 0, .int (-1), .ref (a + 7), .int 0, .int 0, .ref (a + 8), .ref (a + 9), .ref (a + 10), .ref (a + 11), .int 0, .ref (a + 12), .ref (a + 13), .ref (a + 14), .ref (a + 15), .ref (a + 16), .null, .int 0, .int 0, .null, .null, .null, .null, .null, .int 0, .int 0, .int 0, .int 0, .null, .null, .null, .null, .null, .null, .null, .int 0, .int 0]) Y hN rfl in11 tyX11_ok nmX11 (by decide) lk_X11_60 rfl hin rfl rfl rfl (Nat.le_of_ble_eq_true rfl) rfl dX11_init_551 (fun H locs hN => ?_)
  have hN : Nx s E [(a, .inr (11, [.ref (a + 1), .ref (a + 2), .ref (a + 3), .ref (a + 4), .ref (a + 5), .int 0, .ref (a + 6), .int 0, .int 0, .int 0, .int 0, .int 0, .int 0, .int 0, .int 0, .int 0, .int 0, .int (-1), .ref (a + 7), .int 0, .int 0, .ref (a + 8), .ref (a + 9), .ref (a + 10), .ref (a + 11), .int 0, .ref (a + 12), .ref (a + 13), .ref (a + 14), .ref (a + 15), .ref (a + 16), .null, .int 0, .int 0, .null, .null, .null, .null, .null, .int 0, .int 0, .int 0, .int 0, .null, .null, .null, .null, .null, .null, .null, .int 0, .int 0]))] (L ++ [(a + 1, (0, 140))] ++ [(a + 2, (0, 2))] ++ [(a + 3, (0, 2))] ++ [(a + 4, (0, 2))] ++ [(a + 5, (0, 280))] ++ [(a + 6, (2, 800))] ++ [(a + 7, (2, 69))] ++ [(a + 8, (0, 2048))] ++ [(a + 9, (0, 12288))] ++ [(a + 10, (0, 2048))] ++ [(a + 11, (0, 12288))] ++ [(a + 12, (0, 4200))] ++ [(a + 13, (0, 4200))] ++ [(a + 14, (0, 2100))] ++ [(a + 15, (0, 2100))] ++ [(a + 16, (0, 2100))]) M69 (a + 17) 16 H locs := hN
  refine lv_aload_n hx hb dX11_init_554 rfl (lv_at hl 0 rfl) ?_
  refine lv_bipush (v := 64) hx hb dX11_init_555 (by decide) ?_
  refine n_arrI (N := 64) Y hN (by decide) (by decide +kernel) (Nat.le_of_ble_eq_true rfl) (Nat.le_of_ble_eq_true rfl) (Nat.le_of_ble_eq_true rfl) dX11_init_557 (fun H hN => ?_)
  have hN : Nx s E [(a, .inr (11, [.ref (a + 1), .ref (a + 2), .ref (a + 3), .ref (a + 4), .ref (a + 5), .int 0, .ref (a + 6), .int 0, .int 0, .int 0, .int 0, .int 0, .int 0, .int 0, .int 0, .int 0, .int 0, .int (-1), .ref (a + 7), .int 0, .int 0, .ref (a + 8), .ref (a + 9), .ref (a + 10), .ref (a + 11), .int 0, .ref (a + 12), .ref (a + 13), .ref (a + 14), .ref (a + 15), .ref (a + 16), .null, .int 0, .int 0, .null, .null, .null, .null, .null, .int 0, .int 0, .int 0, .int 0, .null, .null, .null, .null, .null, .null, .null, .int 0, .int 0]))] (L ++ [(a + 1, (0, 140))] ++ [(a + 2, (0, 2))] ++ [(a + 3, (0, 2))] ++ [(a + 4, (0, 2))] ++ [(a + 5, (0, 280))] ++ [(a + 6, (2, 800))] ++ [(a + 7, (2, 69))] ++ [(a + 8, (0, 2048))] ++ [(a + 9, (0, 12288))] ++ [(a + 10, (0, 2048))] ++ [(a + 11, (0, 12288))] ++ [(a + 12, (0, 4200))] ++ [(a + 13, (0, 4200))] ++ [(a + 14, (0, 2100))] ++ [(a + 15, (0, 2100))] ++ [(a + 16, (0, 2100))] ++ [(a + 17, (0, 64))]) M69 (a + 18) 17 H locs := hN
  refine n_putF (er := []) (ci := 11) (C := RX11) (T := TX11) (N := 52) (k := 31) (ty0 := tyX11) (fs := [.ref (a + 1), .ref (a + 2), .ref (a + 3), .ref (a + 4), .ref (a + 5), .int 0, .ref (a + 6), .int 0, .int 0, .int 0, .int 0, .int 0, .int 0, .int 0, .int 0, .int 0, .int 0, .int (-1), .ref (a + 7), .int 0, .int 0, .ref (a + 8), .ref (a + 9), .ref (a + 10), .ref (a + 11), .int 0, .ref (a + 12), .ref (a + 13), .ref (a + 14), .ref (a + 15), .ref (a + 16), .null, .int 0, .int 0, .null, .null, .null, .null, .null, .int 0, .int 0, .int 0, .int 0, .null, .null, .null, .null, .null, .null, .null, .int 0, .int 0]) (fs' := [.ref (a + 1), .ref (a + 2), .ref (a + 3), .ref (a + 4), .ref (a + 5), .int 0, .ref (a + 6), .int 0, .int 0, .int 0, .int 0, .int 0, .int 0, .int 0, .int 0, .int 0, .int 0, .int (-1), .ref (a + 7), .int 0, .int 0, .ref (a + 8), .ref (a + 9), .ref (a + 10), .ref (a + 11), .int 0, .ref (a + 12), .ref (a + 13), .ref (a + 14), .ref (a + 15), .ref (a + 16), .ref (a + 17), .int 0, .int 0, .null, .null, .null, .null, .null, .int 0, .int 0, .int 0, .int 0, .null, .null, .null, .null, .null, .null, .null, .int 0, .int 0]) Y hN rfl in11 tyX11_ok nmX11 (by decide) lk_X11_63 rfl hin rfl rfl rfl (Nat.le_of_ble_eq_true rfl) rfl dX11_init_559 (fun H locs hN => ?_)
  have hN : Nx s E [(a, .inr (11, [.ref (a + 1), .ref (a + 2), .ref (a + 3), .ref (a + 4), .ref (a + 5), .int 0, .ref (a + 6), .int 0, .int 0, .int 0, .int 0, .int 0, .int 0, .int 0, .int 0, .int 0, .int 0, .int (-1), .ref (a + 7), .int 0, .int 0, .ref (a + 8), .ref (a + 9), .ref (a + 10), .ref (a + 11), .int 0, .ref (a + 12), .ref (a + 13), .ref (a + 14), .ref (a + 15), .ref (a + 16), .ref (a + 17), .int 0, .int 0, .null, .null, .null, .null, .null, .int 0, .int 0, .int 0, .int 0, .null, .null, .null, .null, .null, .null, .null, .int 0, .int 0]))] (L ++ [(a + 1, (0, 140))] ++ [(a + 2, (0, 2))] ++ [(a + 3, (0, 2))] ++ [(a + 4, (0, 2))] ++ [(a + 5, (0, 280))] ++ [(a + 6, (2, 800))] ++ [(a + 7, (2, 69))] ++ [(a + 8, (0, 2048))] ++ [(a + 9, (0, 12288))] ++ [(a + 10, (0, 2048))] ++ [(a + 11, (0, 12288))] ++ [(a + 12, (0, 4200))] ++ [(a + 13, (0, 4200))] ++ [(a + 14, (0, 2100))] ++ [(a + 15, (0, 2100))] ++ [(a + 16, (0, 2100))] ++ [(a + 17, (0, 64))]) M69 (a + 18) 17 H locs := hN
  refine lv_aload_n hx hb dX11_init_562 rfl (lv_at hl 0 rfl) ?_
  refine lv_ldc (v := 135168) hx hb Y.2.2.2.1 (Y.2.2.2.2.1 _ lq_X11_66) dX11_init_563 ?_
  refine n_arrI (N := 135168) Y hN (by decide) (by decide +kernel) (Nat.le_of_ble_eq_true rfl) (Nat.le_of_ble_eq_true rfl) (Nat.le_of_ble_eq_true rfl) dX11_init_565 (fun H hN => ?_)
  have hN : Nx s E [(a, .inr (11, [.ref (a + 1), .ref (a + 2), .ref (a + 3), .ref (a + 4), .ref (a + 5), .int 0, .ref (a + 6), .int 0, .int 0, .int 0, .int 0, .int 0, .int 0, .int 0, .int 0, .int 0, .int 0, .int (-1), .ref (a + 7), .int 0, .int 0, .ref (a + 8), .ref (a + 9), .ref (a + 10), .ref (a + 11), .int 0, .ref (a + 12), .ref (a + 13), .ref (a + 14), .ref (a + 15), .ref (a + 16), .ref (a + 17), .int 0, .int 0, .null, .null, .null, .null, .null, .int 0, .int 0, .int 0, .int 0, .null, .null, .null, .null, .null, .null, .null, .int 0, .int 0]))] (L ++ [(a + 1, (0, 140))] ++ [(a + 2, (0, 2))] ++ [(a + 3, (0, 2))] ++ [(a + 4, (0, 2))] ++ [(a + 5, (0, 280))] ++ [(a + 6, (2, 800))] ++ [(a + 7, (2, 69))] ++ [(a + 8, (0, 2048))] ++ [(a + 9, (0, 12288))] ++ [(a + 10, (0, 2048))] ++ [(a + 11, (0, 12288))] ++ [(a + 12, (0, 4200))] ++ [(a + 13, (0, 4200))] ++ [(a + 14, (0, 2100))] ++ [(a + 15, (0, 2100))] ++ [(a + 16, (0, 2100))] ++ [(a + 17, (0, 64))] ++ [(a + 18, (0, 135168))]) M69 (a + 19) 18 H locs := hN
  refine n_putF (er := []) (ci := 11) (C := RX11) (T := TX11) (N := 52) (k := 34) (ty0 := tyX11) (fs := [.ref (a + 1), .ref (a + 2), .ref (a + 3), .ref (a + 4), .ref (a + 5), .int 0, .ref (a + 6), .int 0, .int 0, .int 0, .int 0, .int 0, .int 0, .int 0, .int 0, .int 0, .int 0, .int (-1), .ref (a + 7), .int 0, .int 0, .ref (a + 8), .ref (a + 9), .ref (a + 10), .ref (a + 11), .int 0, .ref (a + 12), .ref (a + 13), .ref (a + 14), .ref (a + 15), .ref (a + 16), .ref (a + 17), .int 0, .int 0, .null, .null, .null, .null, .null, .int 0, .int 0, .int 0, .int 0, .null, .null, .null, .null, .null, .null, .null, .int 0, .int 0]) (fs' := [.ref (a + 1), .ref (a + 2), .ref (a + 3), .ref (a + 4), .ref (a + 5), .int 0, .ref (a + 6), .int 0, .int 0, .int 0, .int 0, .int 0, .int 0, .int 0, .int 0, .int 0, .int 0, .int (-1), .ref (a + 7), .int 0, .int 0, .ref (a + 8), .ref (a + 9), .ref (a + 10), .ref (a + 11), .int 0, .ref (a + 12), .ref (a + 13), .ref (a + 14), .ref (a + 15), .ref (a + 16), .ref (a + 17), .int 0, .int 0, .ref (a + 18), .null, .null, .null, .null, .int 0, .int 0, .int 0, .int 0, .null, .null, .null, .null, .null, .null, .null, .int 0, .int 0]) Y hN rfl in11 tyX11_ok nmX11 (by decide) lk_X11_67 rfl hin rfl rfl rfl (Nat.le_of_ble_eq_true rfl) rfl dX11_init_567 (fun H locs hN => ?_)
  have hN : Nx s E [(a, .inr (11, [.ref (a + 1), .ref (a + 2), .ref (a + 3), .ref (a + 4), .ref (a + 5), .int 0, .ref (a + 6), .int 0, .int 0, .int 0, .int 0, .int 0, .int 0, .int 0, .int 0, .int 0, .int 0, .int (-1), .ref (a + 7), .int 0, .int 0, .ref (a + 8), .ref (a + 9), .ref (a + 10), .ref (a + 11), .int 0, .ref (a + 12), .ref (a + 13), .ref (a + 14), .ref (a + 15), .ref (a + 16), .ref (a + 17), .int 0, .int 0, .ref (a + 18), .null, .null, .null, .null, .int 0, .int 0, .int 0, .int 0, .null, .null, .null, .null, .null, .null, .null, .int 0, .int 0]))] (L ++ [(a + 1, (0, 140))] ++ [(a + 2, (0, 2))] ++ [(a + 3, (0, 2))] ++ [(a + 4, (0, 2))] ++ [(a + 5, (0, 280))] ++ [(a + 6, (2, 800))] ++ [(a + 7, (2, 69))] ++ [(a + 8, (0, 2048))] ++ [(a + 9, (0, 12288))] ++ [(a + 10, (0, 2048))] ++ [(a + 11, (0, 12288))] ++ [(a + 12, (0, 4200))] ++ [(a + 13, (0, 4200))] ++ [(a + 14, (0, 2100))] ++ [(a + 15, (0, 2100))] ++ [(a + 16, (0, 2100))] ++ [(a + 17, (0, 64))] ++ [(a + 18, (0, 135168))]) M69 (a + 19) 18 H locs := hN
  refine lv_aload_n hx hb dX11_init_570 rfl (lv_at hl 0 rfl) ?_
  refine lv_sipush (v := 4200) hx hb dX11_init_571 (by decide) ?_
  refine n_arrI (N := 4200) Y hN (by decide) (by decide +kernel) (Nat.le_of_ble_eq_true rfl) (Nat.le_of_ble_eq_true rfl) (Nat.le_of_ble_eq_true rfl) dX11_init_574 (fun H hN => ?_)
  have hN : Nx s E [(a, .inr (11, [.ref (a + 1), .ref (a + 2), .ref (a + 3), .ref (a + 4), .ref (a + 5), .int 0, .ref (a + 6), .int 0, .int 0, .int 0, .int 0, .int 0, .int 0, .int 0, .int 0, .int 0, .int 0, .int (-1), .ref (a + 7), .int 0, .int 0, .ref (a + 8), .ref (a + 9), .ref (a + 10), .ref (a + 11), .int 0, .ref (a + 12), .ref (a + 13), .ref (a + 14), .ref (a + 15), .ref (a + 16), .ref (a + 17), .int 0, .int 0, .ref (a + 18), .null, .null, .null, .null, .int 0, .int 0, .int 0, .int 0, .null, .null, .null, .null, .null, .null, .null, .int 0, .int 0]))] (L ++ [(a + 1, (0, 140))] ++ [(a + 2, (0, 2))] ++ [(a + 3, (0, 2))] ++ [(a + 4, (0, 2))] ++ [(a + 5, (0, 280))] ++ [(a + 6, (2, 800))] ++ [(a + 7, (2, 69))] ++ [(a + 8, (0, 2048))] ++ [(a + 9, (0, 12288))] ++ [(a + 10, (0, 2048))] ++ [(a + 11, (0, 12288))] ++ [(a + 12, (0, 4200))] ++ [(a + 13, (0, 4200))] ++ [(a + 14, (0, 2100))] ++ [(a + 15, (0, 2100))] ++ [(a + 16, (0, 2100))] ++ [(a + 17, (0, 64))] ++ [(a + 18, (0, 135168))] ++ [(a + 19, (0, 4200))]) M69 (a + 20) 19 H locs := hN
  refine n_putF (er := []) (ci := 11) (C := RX11) (T := TX11) (N := 52) (k := 35) (ty0 := tyX11) (fs := [.ref (a + 1), .ref (a + 2), .ref (a + 3), .ref (a + 4), .ref (a + 5), .int 0, .ref (a + 6), .int 0, .int 0, .int 0, .int 0, .int 0, .int 0, .int 0, .int 0, .int 0, .int 0, .int (-1), .ref (a + 7), .int 0, .int 0, .ref (a + 8), .ref (a + 9), .ref (a + 10), .ref (a + 11), .int 0, .ref (a + 12), .ref (a + 13), .ref (a + 14), .ref (a + 15), .ref (a + 16), .ref (a + 17), .int 0, .int 0, .ref (a + 18), .null, .null, .null, .null, .int 0, .int 0, .int 0, .int 0, .null, .null, .null, .null, .null, .null, .null, .int 0, .int 0]) (fs' := [.ref (a + 1), .ref (a + 2), .ref (a + 3), .ref (a + 4), .ref (a + 5), .int 0, .ref (a + 6), .int 0, .int 0, .int 0, .int 0, .int 0, .int 0, .int 0, .int 0, .int 0, .int 0, .int (-1), .ref (a + 7), .int 0, .int 0, .ref (a + 8), .ref (a + 9), .ref (a + 10), .ref (a + 11), .int 0, .ref (a + 12), .ref (a + 13), .ref (a + 14), .ref (a + 15), .ref (a + 16), .ref (a + 17), .int 0, .int 0, .ref (a + 18), .ref (a + 19), .null, .null, .null, .int 0, .int 0, .int 0, .int 0, .null, .null, .null, .null, .null, .null, .null, .int 0, .int 0]) Y hN rfl in11 tyX11_ok nmX11 (by decide) lk_X11_70 rfl hin rfl rfl rfl (Nat.le_of_ble_eq_true rfl) rfl dX11_init_576 (fun H locs hN => ?_)
  have hN : Nx s E [(a, .inr (11, [.ref (a + 1), .ref (a + 2), .ref (a + 3), .ref (a + 4), .ref (a + 5), .int 0, .ref (a + 6), .int 0, .int 0, .int 0, .int 0, .int 0, .int 0, .int 0, .int 0, .int 0, .int 0, .int (-1), .ref (a + 7), .int 0, .int 0, .ref (a + 8), .ref (a + 9), .ref (a + 10), .ref (a + 11), .int 0, .ref (a + 12), .ref (a + 13), .ref (a + 14), .ref (a + 15), .ref (a + 16), .ref (a + 17), .int 0, .int 0, .ref (a + 18), .ref (a + 19), .null, .null, .null, .int 0, .int 0, .int 0, .int 0, .null, .null, .null, .null, .null, .null, .null, .int 0, .int 0]))] (L ++ [(a + 1, (0, 140))] ++ [(a + 2, (0, 2))] ++ [(a + 3, (0, 2))] ++ [(a + 4, (0, 2))] ++ [(a + 5, (0, 280))] ++ [(a + 6, (2, 800))] ++ [(a + 7, (2, 69))] ++ [(a + 8, (0, 2048))] ++ [(a + 9, (0, 12288))] ++ [(a + 10, (0, 2048))] ++ [(a + 11, (0, 12288))] ++ [(a + 12, (0, 4200))] ++ [(a + 13, (0, 4200))] ++ [(a + 14, (0, 2100))] ++ [(a + 15, (0, 2100))] ++ [(a + 16, (0, 2100))] ++ [(a + 17, (0, 64))] ++ [(a + 18, (0, 135168))] ++ [(a + 19, (0, 4200))]) M69 (a + 20) 19 H locs := hN
  refine lv_aload_n hx hb dX11_init_579 rfl (lv_at hl 0 rfl) ?_
  refine lv_bipush (v := 32) hx hb dX11_init_580 (by decide) ?_
  refine n_arrI (N := 32) Y hN (by decide) (by decide +kernel) (Nat.le_of_ble_eq_true rfl) (Nat.le_of_ble_eq_true rfl) (Nat.le_of_ble_eq_true rfl) dX11_init_582 (fun H hN => ?_)
  have hN : Nx s E [(a, .inr (11, [.ref (a + 1), .ref (a + 2), .ref (a + 3), .ref (a + 4), .ref (a + 5), .int 0, .ref (a + 6), .int 0, .int 0, .int 0, .int 0, .int 0, .int 0, .int 0, .int 0, .int 0, .int 0, .int (-1), .ref (a + 7), .int 0, .int 0, .ref (a + 8), .ref (a + 9), .ref (a + 10), .ref (a + 11), .int 0, .ref (a + 12), .ref (a + 13), .ref (a + 14), .ref (a + 15), .ref (a + 16), .ref (a + 17), .int 0, .int 0, .ref (a + 18), .ref (a + 19), .null, .null, .null, .int 0, .int 0, .int 0, .int 0, .null, .null, .null, .null, .null, .null, .null, .int 0, .int 0]))] (L ++ [(a + 1, (0, 140))] ++ [(a + 2, (0, 2))] ++ [(a + 3, (0, 2))] ++ [(a + 4, (0, 2))] ++ [(a + 5, (0, 280))] ++ [(a + 6, (2, 800))] ++ [(a + 7, (2, 69))] ++ [(a + 8, (0, 2048))] ++ [(a + 9, (0, 12288))] ++ [(a + 10, (0, 2048))] ++ [(a + 11, (0, 12288))] ++ [(a + 12, (0, 4200))] ++ [(a + 13, (0, 4200))] ++ [(a + 14, (0, 2100))] ++ [(a + 15, (0, 2100))] ++ [(a + 16, (0, 2100))] ++ [(a + 17, (0, 64))] ++ [(a + 18, (0, 135168))] ++ [(a + 19, (0, 4200))] ++ [(a + 20, (0, 32))]) M69 (a + 21) 20 H locs := hN
  refine n_putF (er := []) (ci := 11) (C := RX11) (T := TX11) (N := 52) (k := 36) (ty0 := tyX11) (fs := [.ref (a + 1), .ref (a + 2), .ref (a + 3), .ref (a + 4), .ref (a + 5), .int 0, .ref (a + 6), .int 0, .int 0, .int 0, .int 0, .int 0, .int 0, .int 0, .int 0, .int 0, .int 0, .int (-1), .ref (a + 7), .int 0, .int 0, .ref (a + 8), .ref (a + 9), .ref (a + 10), .ref (a + 11), .int 0, .ref (a + 12), .ref (a + 13), .ref (a + 14), .ref (a + 15), .ref (a + 16), .ref (a + 17), .int 0, .int 0, .ref (a + 18), .ref (a + 19), .null, .null, .null, .int 0, .int 0, .int 0, .int 0, .null, .null, .null, .null, .null, .null, .null, .int 0, .int 0]) (fs' := [.ref (a + 1), .ref (a + 2), .ref (a + 3), .ref (a + 4), .ref (a + 5), .int 0, .ref (a + 6), .int 0, .int 0, .int 0, .int 0, .int 0, .int 0, .int 0, .int 0, .int 0, .int 0, .int (-1), .ref (a + 7), .int 0, .int 0, .ref (a + 8), .ref (a + 9), .ref (a + 10), .ref (a + 11), .int 0, .ref (a + 12), .ref (a + 13), .ref (a + 14), .ref (a + 15), .ref (a + 16), .ref (a + 17), .int 0, .int 0, .ref (a + 18), .ref (a + 19), .ref (a + 20), .null, .null, .int 0, .int 0, .int 0, .int 0, .null, .null, .null, .null, .null, .null, .null, .int 0, .int 0]) Y hN rfl in11 tyX11_ok nmX11 (by decide) lk_X11_73 rfl hin rfl rfl rfl (Nat.le_of_ble_eq_true rfl) rfl dX11_init_584 (fun H locs hN => ?_)
  have hN : Nx s E [(a, .inr (11, [.ref (a + 1), .ref (a + 2), .ref (a + 3), .ref (a + 4), .ref (a + 5), .int 0, .ref (a + 6), .int 0, .int 0, .int 0, .int 0, .int 0, .int 0, .int 0, .int 0, .int 0, .int 0, .int (-1), .ref (a + 7), .int 0, .int 0, .ref (a + 8), .ref (a + 9), .ref (a + 10), .ref (a + 11), .int 0, .ref (a + 12), .ref (a + 13), .ref (a + 14), .ref (a + 15), .ref (a + 16), .ref (a + 17), .int 0, .int 0, .ref (a + 18), .ref (a + 19), .ref (a + 20), .null, .null, .int 0, .int 0, .int 0, .int 0, .null, .null, .null, .null, .null, .null, .null, .int 0, .int 0]))] (L ++ [(a + 1, (0, 140))] ++ [(a + 2, (0, 2))] ++ [(a + 3, (0, 2))] ++ [(a + 4, (0, 2))] ++ [(a + 5, (0, 280))] ++ [(a + 6, (2, 800))] ++ [(a + 7, (2, 69))] ++ [(a + 8, (0, 2048))] ++ [(a + 9, (0, 12288))] ++ [(a + 10, (0, 2048))] ++ [(a + 11, (0, 12288))] ++ [(a + 12, (0, 4200))] ++ [(a + 13, (0, 4200))] ++ [(a + 14, (0, 2100))] ++ [(a + 15, (0, 2100))] ++ [(a + 16, (0, 2100))] ++ [(a + 17, (0, 64))] ++ [(a + 18, (0, 135168))] ++ [(a + 19, (0, 4200))] ++ [(a + 20, (0, 32))]) M69 (a + 21) 20 H locs := hN
  refine lv_aload_n hx hb dX11_init_587 rfl (lv_at hl 0 rfl) ?_
  refine lv_bipush (v := 100) hx hb dX11_init_588 (by decide) ?_
  refine n_arrI (N := 100) Y hN (by decide) (by decide +kernel) (Nat.le_of_ble_eq_true rfl) (Nat.le_of_ble_eq_true rfl) (Nat.le_of_ble_eq_true rfl) dX11_init_590 (fun H hN => ?_)
  have hN : Nx s E [(a, .inr (11, [.ref (a + 1), .ref (a + 2), .ref (a + 3), .ref (a + 4), .ref (a + 5), .int 0, .ref (a + 6), .int 0, .int 0, .int 0, .int 0, .int 0, .int 0, .int 0, .int 0, .int 0, .int 0, .int (-1), .ref (a + 7), .int 0, .int 0, .ref (a + 8), .ref (a + 9), .ref (a + 10), .ref (a + 11), .int 0, .ref (a + 12), .ref (a + 13), .ref (a + 14), .ref (a + 15), .ref (a + 16), .ref (a + 17), .int 0, .int 0, .ref (a + 18), .ref (a + 19), .ref (a + 20), .null, .null, .int 0, .int 0, .int 0, .int 0, .null, .null, .null, .null, .null, .null, .null, .int 0, .int 0]))] (L ++ [(a + 1, (0, 140))] ++ [(a + 2, (0, 2))] ++ [(a + 3, (0, 2))] ++ [(a + 4, (0, 2))] ++ [(a + 5, (0, 280))] ++ [(a + 6, (2, 800))] ++ [(a + 7, (2, 69))] ++ [(a + 8, (0, 2048))] ++ [(a + 9, (0, 12288))] ++ [(a + 10, (0, 2048))] ++ [(a + 11, (0, 12288))] ++ [(a + 12, (0, 4200))] ++ [(a + 13, (0, 4200))] ++ [(a + 14, (0, 2100))] ++ [(a + 15, (0, 2100))] ++ [(a + 16, (0, 2100))] ++ [(a + 17, (0, 64))] ++ [(a + 18, (0, 135168))] ++ [(a + 19, (0, 4200))] ++ [(a + 20, (0, 32))] ++ [(a + 21, (0, 100))]) M69 (a + 22) 21 H locs := hN
  refine n_putF (er := []) (ci := 11) (C := RX11) (T := TX11) (N := 52) (k := 37) (ty0 := tyX11) (fs := [.ref (a + 1), .ref (a + 2), .ref (a + 3), .ref (a + 4), .ref (a + 5), .int 0, .ref (a + 6), .int 0, .int 0, .int 0, .int 0, .int 0, .int 0, .int 0, .int 0, .int 0, .int 0, .int (-1), .ref (a + 7), .int 0, .int 0, .ref (a + 8), .ref (a + 9), .ref (a + 10), .ref (a + 11), .int 0, .ref (a + 12), .ref (a + 13), .ref (a + 14), .ref (a + 15), .ref (a + 16), .ref (a + 17), .int 0, .int 0, .ref (a + 18), .ref (a + 19), .ref (a + 20), .null, .null, .int 0, .int 0, .int 0, .int 0, .null, .null, .null, .null, .null, .null, .null, .int 0, .int 0]) (fs' := [.ref (a + 1), .ref (a + 2), .ref (a + 3), .ref (a + 4), .ref (a + 5), .int 0, .ref (a + 6), .int 0, .int 0, .int 0, .int 0, .int 0, .int 0, .int 0, .int 0, .int 0, .int 0, .int (-1), .ref (a + 7), .int 0, .int 0, .ref (a + 8), .ref (a + 9), .ref (a + 10), .ref (a + 11), .int 0, .ref (a + 12), .ref (a + 13), .ref (a + 14), .ref (a + 15), .ref (a + 16), .ref (a + 17), .int 0, .int 0, .ref (a + 18), .ref (a + 19), .ref (a + 20), .ref (a + 21), .null, .int 0, .int 0, .int 0, .int 0, .null, .null, .null, .null, .null, .null, .null, .int 0, .int 0]) Y hN rfl in11 tyX11_ok nmX11 (by decide) lk_X11_76 rfl hin rfl rfl rfl (Nat.le_of_ble_eq_true rfl) rfl dX11_init_592 (fun H locs hN => ?_)
  have hN : Nx s E [(a, .inr (11, [.ref (a + 1), .ref (a + 2), .ref (a + 3), .ref (a + 4), .ref (a + 5), .int 0, .ref (a + 6), .int 0, .int 0, .int 0, .int 0, .int 0, .int 0, .int 0, .int 0, .int 0, .int 0, .int (-1), .ref (a + 7), .int 0, .int 0, .ref (a + 8), .ref (a + 9), .ref (a + 10), .ref (a + 11), .int 0, .ref (a + 12), .ref (a + 13), .ref (a + 14), .ref (a + 15), .ref (a + 16), .ref (a + 17), .int 0, .int 0, .ref (a + 18), .ref (a + 19), .ref (a + 20), .ref (a + 21), .null, .int 0, .int 0, .int 0, .int 0, .null, .null, .null, .null, .null, .null, .null, .int 0, .int 0]))] (L ++ [(a + 1, (0, 140))] ++ [(a + 2, (0, 2))] ++ [(a + 3, (0, 2))] ++ [(a + 4, (0, 2))] ++ [(a + 5, (0, 280))] ++ [(a + 6, (2, 800))] ++ [(a + 7, (2, 69))] ++ [(a + 8, (0, 2048))] ++ [(a + 9, (0, 12288))] ++ [(a + 10, (0, 2048))] ++ [(a + 11, (0, 12288))] ++ [(a + 12, (0, 4200))] ++ [(a + 13, (0, 4200))] ++ [(a + 14, (0, 2100))] ++ [(a + 15, (0, 2100))] ++ [(a + 16, (0, 2100))] ++ [(a + 17, (0, 64))] ++ [(a + 18, (0, 135168))] ++ [(a + 19, (0, 4200))] ++ [(a + 20, (0, 32))] ++ [(a + 21, (0, 100))]) M69 (a + 22) 21 H locs := hN
  refine lv_aload_n hx hb dX11_init_595 rfl (lv_at hl 0 rfl) ?_
  refine lv_sipush (v := 4096) hx hb dX11_init_596 (by decide) ?_
  refine n_arrZ (N := 4096) Y hN (by decide) (by decide +kernel) (Nat.le_of_ble_eq_true rfl) (Nat.le_of_ble_eq_true rfl) (Nat.le_of_ble_eq_true rfl) dX11_init_599 (fun H hN => ?_)
  have hN : Nx s E [(a, .inr (11, [.ref (a + 1), .ref (a + 2), .ref (a + 3), .ref (a + 4), .ref (a + 5), .int 0, .ref (a + 6), .int 0, .int 0, .int 0, .int 0, .int 0, .int 0, .int 0, .int 0, .int 0, .int 0, .int (-1), .ref (a + 7), .int 0, .int 0, .ref (a + 8), .ref (a + 9), .ref (a + 10), .ref (a + 11), .int 0, .ref (a + 12), .ref (a + 13), .ref (a + 14), .ref (a + 15), .ref (a + 16), .ref (a + 17), .int 0, .int 0, .ref (a + 18), .ref (a + 19), .ref (a + 20), .ref (a + 21), .null, .int 0, .int 0, .int 0, .int 0, .null, .null, .null, .null, .null, .null, .null, .int 0, .int 0]))] (L ++ [(a + 1, (0, 140))] ++ [(a + 2, (0, 2))] ++ [(a + 3, (0, 2))] ++ [(a + 4, (0, 2))] ++ [(a + 5, (0, 280))] ++ [(a + 6, (2, 800))] ++ [(a + 7, (2, 69))] ++ [(a + 8, (0, 2048))] ++ [(a + 9, (0, 12288))] ++ [(a + 10, (0, 2048))] ++ [(a + 11, (0, 12288))] ++ [(a + 12, (0, 4200))] ++ [(a + 13, (0, 4200))] ++ [(a + 14, (0, 2100))] ++ [(a + 15, (0, 2100))] ++ [(a + 16, (0, 2100))] ++ [(a + 17, (0, 64))] ++ [(a + 18, (0, 135168))] ++ [(a + 19, (0, 4200))] ++ [(a + 20, (0, 32))] ++ [(a + 21, (0, 100))] ++ [(a + 22, (1, 4096))]) M69 (a + 23) 22 H locs := hN
  refine n_putF (er := []) (ci := 11) (C := RX11) (T := TX11) (N := 52) (k := 38) (ty0 := tyX11) (fs := [.ref (a + 1), .ref (a + 2), .ref (a + 3), .ref (a + 4), .ref (a + 5), .int 0, .ref (a + 6), .int 0, .int 0, .int 0, .int 0, .int 0, .int 0, .int 0, .int 0, .int 0, .int 0, .int (-1), .ref (a + 7), .int 0, .int 0, .ref (a + 8), .ref (a + 9), .ref (a + 10), .ref (a + 11), .int 0, .ref (a + 12), .ref (a + 13), .ref (a + 14), .ref (a + 15), .ref (a + 16), .ref (a + 17), .int 0, .int 0, .ref (a + 18), .ref (a + 19), .ref (a + 20), .ref (a + 21), .null, .int 0, .int 0, .int 0, .int 0, .null, .null, .null, .null, .null, .null, .null, .int 0, .int 0]) (fs' := [.ref (a + 1), .ref (a + 2), .ref (a + 3), .ref (a + 4), .ref (a + 5), .int 0, .ref (a + 6), .int 0, .int 0, .int 0, .int 0, .int 0, .int 0, .int 0, .int 0, .int 0, .int 0, .int (-1), .ref (a + 7), .int 0, .int 0, .ref (a + 8), .ref (a + 9), .ref (a + 10), .ref (a + 11), .int 0, .ref (a + 12), .ref (a + 13), .ref (a + 14), .ref (a + 15), .ref (a + 16), .ref (a + 17), .int 0, .int 0, .ref (a + 18), .ref (a + 19), .ref (a + 20), .ref (a + 21), .ref (a + 22), .int 0, .int 0, .int 0, .int 0, .null, .null, .null, .null, .null, .null, .null, .int 0, .int 0]) Y hN rfl in11 tyX11_ok nmX11 (by decide) lk_X11_79 rfl hin rfl rfl rfl (Nat.le_of_ble_eq_true rfl) rfl dX11_init_601 (fun H locs hN => ?_)
  have hN : Nx s E [(a, .inr (11, [.ref (a + 1), .ref (a + 2), .ref (a + 3), .ref (a + 4), .ref (a + 5), .int 0, .ref (a + 6), .int 0, .int 0, .int 0, .int 0, .int 0, .int 0, .int 0, .int 0, .int 0, .int 0, .int (-1), .ref (a + 7), .int 0, .int 0, .ref (a + 8), .ref (a + 9), .ref (a + 10), .ref (a + 11), .int 0, .ref (a + 12), .ref (a + 13), .ref (a + 14), .ref (a + 15), .ref (a + 16), .ref (a + 17), .int 0, .int 0, .ref (a + 18), .ref (a + 19), .ref (a + 20), .ref (a + 21), .ref (a + 22), .int 0, .int 0, .int 0, .int 0, .null, .null, .null, .null, .null, .null, .null, .int 0, .int 0]))] (L ++ [(a + 1, (0, 140))] ++ [(a + 2, (0, 2))] ++ [(a + 3, (0, 2))] ++ [(a + 4, (0, 2))] ++ [(a + 5, (0, 280))] ++ [(a + 6, (2, 800))] ++ [(a + 7, (2, 69))] ++ [(a + 8, (0, 2048))] ++ [(a + 9, (0, 12288))] ++ [(a + 10, (0, 2048))] ++ [(a + 11, (0, 12288))] ++ [(a + 12, (0, 4200))] ++ [(a + 13, (0, 4200))] ++ [(a + 14, (0, 2100))] ++ [(a + 15, (0, 2100))] ++ [(a + 16, (0, 2100))] ++ [(a + 17, (0, 64))] ++ [(a + 18, (0, 135168))] ++ [(a + 19, (0, 4200))] ++ [(a + 20, (0, 32))] ++ [(a + 21, (0, 100))] ++ [(a + 22, (1, 4096))]) M69 (a + 23) 22 H locs := hN
  refine lv_aload_n hx hb dX11_init_604 rfl (lv_at hl 0 rfl) ?_
  refine lv_bipush (v := 36) hx hb dX11_init_605 (by decide) ?_
  refine n_arrI (N := 36) Y hN (by decide) (by decide +kernel) (Nat.le_of_ble_eq_true rfl) (Nat.le_of_ble_eq_true rfl) (Nat.le_of_ble_eq_true rfl) dX11_init_607 (fun H hN => ?_)
  have hN : Nx s E [(a, .inr (11, [.ref (a + 1), .ref (a + 2), .ref (a + 3), .ref (a + 4), .ref (a + 5), .int 0, .ref (a + 6), .int 0, .int 0, .int 0, .int 0, .int 0, .int 0, .int 0, .int 0, .int 0, .int 0, .int (-1), .ref (a + 7), .int 0, .int 0, .ref (a + 8), .ref (a + 9), .ref (a + 10), .ref (a + 11), .int 0, .ref (a + 12), .ref (a + 13), .ref (a + 14), .ref (a + 15), .ref (a + 16), .ref (a + 17), .int 0, .int 0, .ref (a + 18), .ref (a + 19), .ref (a + 20), .ref (a + 21), .ref (a + 22), .int 0, .int 0, .int 0, .int 0, .null, .null, .null, .null, .null, .null, .null, .int 0, .int 0]))] (L ++ [(a + 1, (0, 140))] ++ [(a + 2, (0, 2))] ++ [(a + 3, (0, 2))] ++ [(a + 4, (0, 2))] ++ [(a + 5, (0, 280))] ++ [(a + 6, (2, 800))] ++ [(a + 7, (2, 69))] ++ [(a + 8, (0, 2048))] ++ [(a + 9, (0, 12288))] ++ [(a + 10, (0, 2048))] ++ [(a + 11, (0, 12288))] ++ [(a + 12, (0, 4200))] ++ [(a + 13, (0, 4200))] ++ [(a + 14, (0, 2100))] ++ [(a + 15, (0, 2100))] ++ [(a + 16, (0, 2100))] ++ [(a + 17, (0, 64))] ++ [(a + 18, (0, 135168))] ++ [(a + 19, (0, 4200))] ++ [(a + 20, (0, 32))] ++ [(a + 21, (0, 100))] ++ [(a + 22, (1, 4096))] ++ [(a + 23, (0, 36))]) M69 (a + 24) 23 H locs := hN
  refine n_putF (er := []) (ci := 11) (C := RX11) (T := TX11) (N := 52) (k := 43) (ty0 := tyX11) (fs := [.ref (a + 1), .ref (a + 2), .ref (a + 3), .ref (a + 4), .ref (a + 5), .int 0, .ref (a + 6), .int 0, .int 0, .int 0, .int 0, .int 0, .int 0, .int 0, .int 0, .int 0, .int 0, .int (-1), .ref (a + 7), .int 0, .int 0, .ref (a + 8), .ref (a + 9), .ref (a + 10), .ref (a + 11), .int 0, .ref (a + 12), .ref (a + 13), .ref (a + 14), .ref (a + 15), .ref (a + 16), .ref (a + 17), .int 0, .int 0, .ref (a + 18), .ref (a + 19), .ref (a + 20), .ref (a + 21), .ref (a + 22), .int 0, .int 0, .int 0, .int 0, .null, .null, .null, .null, .null, .null, .null, .int 0, .int 0]) (fs' := [.ref (a + 1), .ref (a + 2), .ref (a + 3), .ref (a + 4), .ref (a + 5), .int 0, .ref (a + 6), .int 0, .int 0, .int 0, .int 0, .int 0, .int 0, .int 0, .int 0, .int 0, .int 0, .int (-1), .ref (a + 7), .int 0, .int 0, .ref (a + 8), .ref (a + 9), .ref (a + 10), .ref (a + 11), .int 0, .ref (a + 12), .ref (a + 13), .ref (a + 14), .ref (a + 15), .ref (a + 16), .ref (a + 17), .int 0, .int 0, .ref (a + 18), .ref (a + 19), .ref (a + 20), .ref (a + 21), .ref (a + 22), .int 0, .int 0, .int 0, .int 0, .ref (a + 23), .null, .null, .null, .null, .null, .null, .int 0, .int 0]) Y hN rfl in11 tyX11_ok nmX11 (by decide) lk_X11_83 rfl hin rfl rfl rfl (Nat.le_of_ble_eq_true rfl) rfl dX11_init_609 (fun H locs hN => ?_)
  have hN : Nx s E [(a, .inr (11, [.ref (a + 1), .ref (a + 2), .ref (a + 3), .ref (a + 4), .ref (a + 5), .int 0, .ref (a + 6), .int 0, .int 0, .int 0, .int 0, .int 0, .int 0, .int 0, .int 0, .int 0, .int 0, .int (-1), .ref (a + 7), .int 0, .int 0, .ref (a + 8), .ref (a + 9), .ref (a + 10), .ref (a + 11), .int 0, .ref (a + 12), .ref (a + 13), .ref (a + 14), .ref (a + 15), .ref (a + 16), .ref (a + 17), .int 0, .int 0, .ref (a + 18), .ref (a + 19), .ref (a + 20), .ref (a + 21), .ref (a + 22), .int 0, .int 0, .int 0, .int 0, .ref (a + 23), .null, .null, .null, .null, .null, .null, .int 0, .int 0]))] (L ++ [(a + 1, (0, 140))] ++ [(a + 2, (0, 2))] ++ [(a + 3, (0, 2))] ++ [(a + 4, (0, 2))] ++ [(a + 5, (0, 280))] ++ [(a + 6, (2, 800))] ++ [(a + 7, (2, 69))] ++ [(a + 8, (0, 2048))] ++ [(a + 9, (0, 12288))] ++ [(a + 10, (0, 2048))] ++ [(a + 11, (0, 12288))] ++ [(a + 12, (0, 4200))] ++ [(a + 13, (0, 4200))] ++ [(a + 14, (0, 2100))] ++ [(a + 15, (0, 2100))] ++ [(a + 16, (0, 2100))] ++ [(a + 17, (0, 64))] ++ [(a + 18, (0, 135168))] ++ [(a + 19, (0, 4200))] ++ [(a + 20, (0, 32))] ++ [(a + 21, (0, 100))] ++ [(a + 22, (1, 4096))] ++ [(a + 23, (0, 36))]) M69 (a + 24) 23 H locs := hN
  refine lv_aload_n hx hb dX11_init_612 rfl (lv_at hl 0 rfl) ?_
  refine lv_sipush (v := 1024) hx hb dX11_init_613 (by decide) ?_
  refine n_arrI (N := 1024) Y hN (by decide) (by decide +kernel) (Nat.le_of_ble_eq_true rfl) (Nat.le_of_ble_eq_true rfl) (Nat.le_of_ble_eq_true rfl) dX11_init_616 (fun H hN => ?_)
  have hN : Nx s E [(a, .inr (11, [.ref (a + 1), .ref (a + 2), .ref (a + 3), .ref (a + 4), .ref (a + 5), .int 0, .ref (a + 6), .int 0, .int 0, .int 0, .int 0, .int 0, .int 0, .int 0, .int 0, .int 0, .int 0, .int (-1), .ref (a + 7), .int 0, .int 0, .ref (a + 8), .ref (a + 9), .ref (a + 10), .ref (a + 11), .int 0, .ref (a + 12), .ref (a + 13), .ref (a + 14), .ref (a + 15), .ref (a + 16), .ref (a + 17), .int 0, .int 0, .ref (a + 18), .ref (a + 19), .ref (a + 20), .ref (a + 21), .ref (a + 22), .int 0, .int 0, .int 0, .int 0, .ref (a + 23), .null, .null, .null, .null, .null, .null, .int 0, .int 0]))] (L ++ [(a + 1, (0, 140))] ++ [(a + 2, (0, 2))] ++ [(a + 3, (0, 2))] ++ [(a + 4, (0, 2))] ++ [(a + 5, (0, 280))] ++ [(a + 6, (2, 800))] ++ [(a + 7, (2, 69))] ++ [(a + 8, (0, 2048))] ++ [(a + 9, (0, 12288))] ++ [(a + 10, (0, 2048))] ++ [(a + 11, (0, 12288))] ++ [(a + 12, (0, 4200))] ++ [(a + 13, (0, 4200))] ++ [(a + 14, (0, 2100))] ++ [(a + 15, (0, 2100))] ++ [(a + 16, (0, 2100))] ++ [(a + 17, (0, 64))] ++ [(a + 18, (0, 135168))] ++ [(a + 19, (0, 4200))] ++ [(a + 20, (0, 32))] ++ [(a + 21, (0, 100))] ++ [(a + 22, (1, 4096))] ++ [(a + 23, (0, 36))] ++ [(a + 24, (0, 1024))]) M69 (a + 25) 24 H locs := hN
  refine n_putF (er := []) (ci := 11) (C := RX11) (T := TX11) (N := 52) (k := 44) (ty0 := tyX11) (fs := [.ref (a + 1), .ref (a + 2), .ref (a + 3), .ref (a + 4), .ref (a + 5), .int 0, .ref (a + 6), .int 0, .int 0, .int 0, .int 0, .int 0, .int 0, .int 0, .int 0, .int 0, .int 0, .int (-1), .ref (a + 7), .int 0, .int 0, .ref (a + 8), .ref (a + 9), .ref (a + 10), .ref (a + 11), .int 0, .ref (a + 12), .ref (a + 13), .ref (a + 14), .ref (a + 15), .ref (a + 16), .ref (a + 17), .int 0, .int 0, .ref (a + 18), .ref (a + 19), .ref (a + 20), .ref (a + 21), .ref (a + 22), .int 0, .int 0, .int 0, .int 0, .ref (a + 23), .null, .null, .null, .null, .null, .null, .int 0, .int 0]) (fs' := [.ref (a + 1), .ref (a + 2), .ref (a + 3), .ref (a + 4), .ref (a + 5), .int 0, .ref (a + 6), .int 0, .int 0, .int 0, .int 0, .int 0, .int 0, .int 0, .int 0, .int 0, .int 0, .int (-1), .ref (a + 7), .int 0, .int 0, .ref (a + 8), .ref (a + 9), .ref (a + 10), .ref (a + 11), .int 0, .ref (a + 12), .ref (a + 13), .ref (a + 14), .ref (a + 15), .ref (a + 16), .ref (a + 17), .int 0, .int 0, .ref (a + 18), .ref (a + 19), .ref (a + 20), .ref (a + 21), .ref (a + 22), .int 0, .int 0, .int 0, .int 0, .ref (a + 23), .ref (a + 24), .null, .null, .null, .null, .null, .int 0, .int 0]) Y hN rfl in11 tyX11_ok nmX11 (by decide) lk_X11_86 rfl hin rfl rfl rfl (Nat.le_of_ble_eq_true rfl) rfl dX11_init_618 (fun H locs hN => ?_)
  have hN : Nx s E [(a, .inr (11, [.ref (a + 1), .ref (a + 2), .ref (a + 3), .ref (a + 4), .ref (a + 5), .int 0, .ref (a + 6), .int 0, .int 0, .int 0, .int 0, .int 0, .int 0, .int 0, .int 0, .int 0, .int 0, .int (-1), .ref (a + 7), .int 0, .int 0, .ref (a + 8), .ref (a + 9), .ref (a + 10), .ref (a + 11), .int 0, .ref (a + 12), .ref (a + 13), .ref (a + 14), .ref (a + 15), .ref (a + 16), .ref (a + 17), .int 0, .int 0, .ref (a + 18), .ref (a + 19), .ref (a + 20), .ref (a + 21), .ref (a + 22), .int 0, .int 0, .int 0, .int 0, .ref (a + 23), .ref (a + 24), .null, .null, .null, .null, .null, .int 0, .int 0]))] (L ++ [(a + 1, (0, 140))] ++ [(a + 2, (0, 2))] ++ [(a + 3, (0, 2))] ++ [(a + 4, (0, 2))] ++ [(a + 5, (0, 280))] ++ [(a + 6, (2, 800))] ++ [(a + 7, (2, 69))] ++ [(a + 8, (0, 2048))] ++ [(a + 9, (0, 12288))] ++ [(a + 10, (0, 2048))] ++ [(a + 11, (0, 12288))] ++ [(a + 12, (0, 4200))] ++ [(a + 13, (0, 4200))] ++ [(a + 14, (0, 2100))] ++ [(a + 15, (0, 2100))] ++ [(a + 16, (0, 2100))] ++ [(a + 17, (0, 64))] ++ [(a + 18, (0, 135168))] ++ [(a + 19, (0, 4200))] ++ [(a + 20, (0, 32))] ++ [(a + 21, (0, 100))] ++ [(a + 22, (1, 4096))] ++ [(a + 23, (0, 36))] ++ [(a + 24, (0, 1024))]) M69 (a + 25) 24 H locs := hN
  refine lv_aload_n hx hb dX11_init_621 rfl (lv_at hl 0 rfl) ?_
  refine lv_sipush (v := 1024) hx hb dX11_init_622 (by decide) ?_
  refine n_arrI (N := 1024) Y hN (by decide) (by decide +kernel) (Nat.le_of_ble_eq_true rfl) (Nat.le_of_ble_eq_true rfl) (Nat.le_of_ble_eq_true rfl) dX11_init_625 (fun H hN => ?_)
  have hN : Nx s E [(a, .inr (11, [.ref (a + 1), .ref (a + 2), .ref (a + 3), .ref (a + 4), .ref (a + 5), .int 0, .ref (a + 6), .int 0, .int 0, .int 0, .int 0, .int 0, .int 0, .int 0, .int 0, .int 0, .int 0, .int (-1), .ref (a + 7), .int 0, .int 0, .ref (a + 8), .ref (a + 9), .ref (a + 10), .ref (a + 11), .int 0, .ref (a + 12), .ref (a + 13), .ref (a + 14), .ref (a + 15), .ref (a + 16), .ref (a + 17), .int 0, .int 0, .ref (a + 18), .ref (a + 19), .ref (a + 20), .ref (a + 21), .ref (a + 22), .int 0, .int 0, .int 0, .int 0, .ref (a + 23), .ref (a + 24), .null, .null, .null, .null, .null, .int 0, .int 0]))] (L ++ [(a + 1, (0, 140))] ++ [(a + 2, (0, 2))] ++ [(a + 3, (0, 2))] ++ [(a + 4, (0, 2))] ++ [(a + 5, (0, 280))] ++ [(a + 6, (2, 800))] ++ [(a + 7, (2, 69))] ++ [(a + 8, (0, 2048))] ++ [(a + 9, (0, 12288))] ++ [(a + 10, (0, 2048))] ++ [(a + 11, (0, 12288))] ++ [(a + 12, (0, 4200))] ++ [(a + 13, (0, 4200))] ++ [(a + 14, (0, 2100))] ++ [(a + 15, (0, 2100))] ++ [(a + 16, (0, 2100))] ++ [(a + 17, (0, 64))] ++ [(a + 18, (0, 135168))] ++ [(a + 19, (0, 4200))] ++ [(a + 20, (0, 32))] ++ [(a + 21, (0, 100))] ++ [(a + 22, (1, 4096))] ++ [(a + 23, (0, 36))] ++ [(a + 24, (0, 1024))] ++ [(a + 25, (0, 1024))]) M69 (a + 26) 25 H locs := hN
  refine n_putF (er := []) (ci := 11) (C := RX11) (T := TX11) (N := 52) (k := 45) (ty0 := tyX11) (fs := [.ref (a + 1), .ref (a + 2), .ref (a + 3), .ref (a + 4), .ref (a + 5), .int 0, .ref (a + 6), .int 0, .int 0, .int 0, .int 0, .int 0, .int 0, .int 0, .int 0, .int 0, .int 0, .int (-1), .ref (a + 7), .int 0, .int 0, .ref (a + 8), .ref (a + 9), .ref (a + 10), .ref (a + 11), .int 0, .ref (a + 12), .ref (a + 13), .ref (a + 14), .ref (a + 15), .ref (a + 16), .ref (a + 17), .int 0, .int 0, .ref (a + 18), .ref (a + 19), .ref (a + 20), .ref (a + 21), .ref (a + 22), .int 0, .int 0, .int 0, .int 0, .ref (a + 23), .ref (a + 24), .null, .null, .null, .null, .null, .int 0, .int 0]) (fs' := [.ref (a + 1), .ref (a + 2), .ref (a + 3), .ref (a + 4), .ref (a + 5), .int 0, .ref (a + 6), .int 0, .int 0, .int 0, .int 0, .int 0, .int 0, .int 0, .int 0, .int 0, .int 0, .int (-1), .ref (a + 7), .int 0, .int 0, .ref (a + 8), .ref (a + 9), .ref (a + 10), .ref (a + 11), .int 0, .ref (a + 12), .ref (a + 13), .ref (a + 14), .ref (a + 15), .ref (a + 16), .ref (a + 17), .int 0, .int 0, .ref (a + 18), .ref (a + 19), .ref (a + 20), .ref (a + 21), .ref (a + 22), .int 0, .int 0, .int 0, .int 0, .ref (a + 23), .ref (a + 24), .ref (a + 25), .null, .null, .null, .null, .int 0, .int 0]) Y hN rfl in11 tyX11_ok nmX11 (by decide) lk_X11_89 rfl hin rfl rfl rfl (Nat.le_of_ble_eq_true rfl) rfl dX11_init_627 (fun H locs hN => ?_)
  have hN : Nx s E [(a, .inr (11, [.ref (a + 1), .ref (a + 2), .ref (a + 3), .ref (a + 4), .ref (a + 5), .int 0, .ref (a + 6), .int 0, .int 0, .int 0, .int 0, .int 0, .int 0, .int 0, .int 0, .int 0, .int 0, .int (-1), .ref (a + 7), .int 0, .int 0, .ref (a + 8), .ref (a + 9), .ref (a + 10), .ref (a + 11), .int 0, .ref (a + 12), .ref (a + 13), .ref (a + 14), .ref (a + 15), .ref (a + 16), .ref (a + 17), .int 0, .int 0, .ref (a + 18), .ref (a + 19), .ref (a + 20), .ref (a + 21), .ref (a + 22), .int 0, .int 0, .int 0, .int 0, .ref (a + 23), .ref (a + 24), .ref (a + 25), .null, .null, .null, .null, .int 0, .int 0]))] (L ++ [(a + 1, (0, 140))] ++ [(a + 2, (0, 2))] ++ [(a + 3, (0, 2))] ++ [(a + 4, (0, 2))] ++ [(a + 5, (0, 280))] ++ [(a + 6, (2, 800))] ++ [(a + 7, (2, 69))] ++ [(a + 8, (0, 2048))] ++ [(a + 9, (0, 12288))] ++ [(a + 10, (0, 2048))] ++ [(a + 11, (0, 12288))] ++ [(a + 12, (0, 4200))] ++ [(a + 13, (0, 4200))] ++ [(a + 14, (0, 2100))] ++ [(a + 15, (0, 2100))] ++ [(a + 16, (0, 2100))] ++ [(a + 17, (0, 64))] ++ [(a + 18, (0, 135168))] ++ [(a + 19, (0, 4200))] ++ [(a + 20, (0, 32))] ++ [(a + 21, (0, 100))] ++ [(a + 22, (1, 4096))] ++ [(a + 23, (0, 36))] ++ [(a + 24, (0, 1024))] ++ [(a + 25, (0, 1024))]) M69 (a + 26) 25 H locs := hN
  refine lv_aload_n hx hb dX11_init_630 rfl (lv_at hl 0 rfl) ?_
  refine lv_sipush (v := 140) hx hb dX11_init_631 (by decide) ?_
  refine n_arrI (N := 140) Y hN (by decide) (by decide +kernel) (Nat.le_of_ble_eq_true rfl) (Nat.le_of_ble_eq_true rfl) (Nat.le_of_ble_eq_true rfl) dX11_init_634 (fun H hN => ?_)
  have hN : Nx s E [(a, .inr (11, [.ref (a + 1), .ref (a + 2), .ref (a + 3), .ref (a + 4), .ref (a + 5), .int 0, .ref (a + 6), .int 0, .int 0, .int 0, .int 0, .int 0, .int 0, .int 0, .int 0, .int 0, .int 0, .int (-1), .ref (a + 7), .int 0, .int 0, .ref (a + 8), .ref (a + 9), .ref (a + 10), .ref (a + 11), .int 0, .ref (a + 12), .ref (a + 13), .ref (a + 14), .ref (a + 15), .ref (a + 16), .ref (a + 17), .int 0, .int 0, .ref (a + 18), .ref (a + 19), .ref (a + 20), .ref (a + 21), .ref (a + 22), .int 0, .int 0, .int 0, .int 0, .ref (a + 23), .ref (a + 24), .ref (a + 25), .null, .null, .null, .null, .int 0, .int 0]))] (L ++ [(a + 1, (0, 140))] ++ [(a + 2, (0, 2))] ++ [(a + 3, (0, 2))] ++ [(a + 4, (0, 2))] ++ [(a + 5, (0, 280))] ++ [(a + 6, (2, 800))] ++ [(a + 7, (2, 69))] ++ [(a + 8, (0, 2048))] ++ [(a + 9, (0, 12288))] ++ [(a + 10, (0, 2048))] ++ [(a + 11, (0, 12288))] ++ [(a + 12, (0, 4200))] ++ [(a + 13, (0, 4200))] ++ [(a + 14, (0, 2100))] ++ [(a + 15, (0, 2100))] ++ [(a + 16, (0, 2100))] ++ [(a + 17, (0, 64))] ++ [(a + 18, (0, 135168))] ++ [(a + 19, (0, 4200))] ++ [(a + 20, (0, 32))] ++ [(a + 21, (0, 100))] ++ [(a + 22, (1, 4096))] ++ [(a + 23, (0, 36))] ++ [(a + 24, (0, 1024))] ++ [(a + 25, (0, 1024))] ++ [(a + 26, (0, 140))]) M69 (a + 27) 26 H locs := hN
  refine n_putF (er := []) (ci := 11) (C := RX11) (T := TX11) (N := 52) (k := 46) (ty0 := tyX11) (fs := [.ref (a + 1), .ref (a + 2), .ref (a + 3), .ref (a + 4), .ref (a + 5), .int 0, .ref (a + 6), .int 0, .int 0, .int 0, .int 0, .int 0, .int 0, .int 0, .int 0, .int 0, .int 0, .int (-1), .ref (a + 7), .int 0, .int 0, .ref (a + 8), .ref (a + 9), .ref (a + 10), .ref (a + 11), .int 0, .ref (a + 12), .ref (a + 13), .ref (a + 14), .ref (a + 15), .ref (a + 16), .ref (a + 17), .int 0, .int 0, .ref (a + 18), .ref (a + 19), .ref (a + 20), .ref (a + 21), .ref (a + 22), .int 0, .int 0, .int 0, .int 0, .ref (a + 23), .ref (a + 24), .ref (a + 25), .null, .null, .null, .null, .int 0, .int 0]) (fs' := [.ref (a + 1), .ref (a + 2), .ref (a + 3), .ref (a + 4), .ref (a + 5), .int 0, .ref (a + 6), .int 0, .int 0, .int 0, .int 0, .int 0, .int 0, .int 0, .int 0, .int 0, .int 0, .int (-1), .ref (a + 7), .int 0, .int 0, .ref (a + 8), .ref (a + 9), .ref (a + 10), .ref (a + 11), .int 0, .ref (a + 12), .ref (a + 13), .ref (a + 14), .ref (a + 15), .ref (a + 16), .ref (a + 17), .int 0, .int 0, .ref (a + 18), .ref (a + 19), .ref (a + 20), .ref (a + 21), .ref (a + 22), .int 0, .int 0, .int 0, .int 0, .ref (a + 23), .ref (a + 24), .ref (a + 25), .ref (a + 26), .null, .null, .null, .int 0, .int 0]) Y hN rfl in11 tyX11_ok nmX11 (by decide) lk_X11_92 rfl hin rfl rfl rfl (Nat.le_of_ble_eq_true rfl) rfl dX11_init_636 (fun H locs hN => ?_)
  have hN : Nx s E [(a, .inr (11, [.ref (a + 1), .ref (a + 2), .ref (a + 3), .ref (a + 4), .ref (a + 5), .int 0, .ref (a + 6), .int 0, .int 0, .int 0, .int 0, .int 0, .int 0, .int 0, .int 0, .int 0, .int 0, .int (-1), .ref (a + 7), .int 0, .int 0, .ref (a + 8), .ref (a + 9), .ref (a + 10), .ref (a + 11), .int 0, .ref (a + 12), .ref (a + 13), .ref (a + 14), .ref (a + 15), .ref (a + 16), .ref (a + 17), .int 0, .int 0, .ref (a + 18), .ref (a + 19), .ref (a + 20), .ref (a + 21), .ref (a + 22), .int 0, .int 0, .int 0, .int 0, .ref (a + 23), .ref (a + 24), .ref (a + 25), .ref (a + 26), .null, .null, .null, .int 0, .int 0]))] (L ++ [(a + 1, (0, 140))] ++ [(a + 2, (0, 2))] ++ [(a + 3, (0, 2))] ++ [(a + 4, (0, 2))] ++ [(a + 5, (0, 280))] ++ [(a + 6, (2, 800))] ++ [(a + 7, (2, 69))] ++ [(a + 8, (0, 2048))] ++ [(a + 9, (0, 12288))] ++ [(a + 10, (0, 2048))] ++ [(a + 11, (0, 12288))] ++ [(a + 12, (0, 4200))] ++ [(a + 13, (0, 4200))] ++ [(a + 14, (0, 2100))] ++ [(a + 15, (0, 2100))] ++ [(a + 16, (0, 2100))] ++ [(a + 17, (0, 64))] ++ [(a + 18, (0, 135168))] ++ [(a + 19, (0, 4200))] ++ [(a + 20, (0, 32))] ++ [(a + 21, (0, 100))] ++ [(a + 22, (1, 4096))] ++ [(a + 23, (0, 36))] ++ [(a + 24, (0, 1024))] ++ [(a + 25, (0, 1024))] ++ [(a + 26, (0, 140))]) M69 (a + 27) 26 H locs := hN
  refine lv_aload_n hx hb dX11_init_639 rfl (lv_at hl 0 rfl) ?_
  refine lv_sipush (v := 2380) hx hb dX11_init_640 (by decide) ?_
  refine n_arrI (N := 2380) Y hN (by decide) (by decide +kernel) (Nat.le_of_ble_eq_true rfl) (Nat.le_of_ble_eq_true rfl) (Nat.le_of_ble_eq_true rfl) dX11_init_643 (fun H hN => ?_)
  have hN : Nx s E [(a, .inr (11, [.ref (a + 1), .ref (a + 2), .ref (a + 3), .ref (a + 4), .ref (a + 5), .int 0, .ref (a + 6), .int 0, .int 0, .int 0, .int 0, .int 0, .int 0, .int 0, .int 0, .int 0, .int 0, .int (-1), .ref (a + 7), .int 0, .int 0, .ref (a + 8), .ref (a + 9), .ref (a + 10), .ref (a + 11), .int 0, .ref (a + 12), .ref (a + 13), .ref (a + 14), .ref (a + 15), .ref (a + 16), .ref (a + 17), .int 0, .int 0, .ref (a + 18), .ref (a + 19), .ref (a + 20), .ref (a + 21), .ref (a + 22), .int 0, .int 0, .int 0, .int 0, .ref (a + 23), .ref (a + 24), .ref (a + 25), .ref (a + 26), .null, .null, .null, .int 0, .int 0]))] (L ++ [(a + 1, (0, 140))] ++ [(a + 2, (0, 2))] ++ [(a + 3, (0, 2))] ++ [(a + 4, (0, 2))] ++ [(a + 5, (0, 280))] ++ [(a + 6, (2, 800))] ++ [(a + 7, (2, 69))] ++ [(a + 8, (0, 2048))] ++ [(a + 9, (0, 12288))] ++ [(a + 10, (0, 2048))] ++ [(a + 11, (0, 12288))] ++ [(a + 12, (0, 4200))] ++ [(a + 13, (0, 4200))] ++ [(a + 14, (0, 2100))] ++ [(a + 15, (0, 2100))] ++ [(a + 16, (0, 2100))] ++ [(a + 17, (0, 64))] ++ [(a + 18, (0, 135168))] ++ [(a + 19, (0, 4200))] ++ [(a + 20, (0, 32))] ++ [(a + 21, (0, 100))] ++ [(a + 22, (1, 4096))] ++ [(a + 23, (0, 36))] ++ [(a + 24, (0, 1024))] ++ [(a + 25, (0, 1024))] ++ [(a + 26, (0, 140))] ++ [(a + 27, (0, 2380))]) M69 (a + 28) 27 H locs := hN
  refine n_putF (er := []) (ci := 11) (C := RX11) (T := TX11) (N := 52) (k := 47) (ty0 := tyX11) (fs := [.ref (a + 1), .ref (a + 2), .ref (a + 3), .ref (a + 4), .ref (a + 5), .int 0, .ref (a + 6), .int 0, .int 0, .int 0, .int 0, .int 0, .int 0, .int 0, .int 0, .int 0, .int 0, .int (-1), .ref (a + 7), .int 0, .int 0, .ref (a + 8), .ref (a + 9), .ref (a + 10), .ref (a + 11), .int 0, .ref (a + 12), .ref (a + 13), .ref (a + 14), .ref (a + 15), .ref (a + 16), .ref (a + 17), .int 0, .int 0, .ref (a + 18), .ref (a + 19), .ref (a + 20), .ref (a + 21), .ref (a + 22), .int 0, .int 0, .int 0, .int 0, .ref (a + 23), .ref (a + 24), .ref (a + 25), .ref (a + 26), .null, .null, .null, .int 0, .int 0]) (fs' := [.ref (a + 1), .ref (a + 2), .ref (a + 3), .ref (a + 4), .ref (a + 5), .int 0, .ref (a + 6), .int 0, .int 0, .int 0, .int 0, .int 0, .int 0, .int 0, .int 0, .int 0, .int 0, .int (-1), .ref (a + 7), .int 0, .int 0, .ref (a + 8), .ref (a + 9), .ref (a + 10), .ref (a + 11), .int 0, .ref (a + 12), .ref (a + 13), .ref (a + 14), .ref (a + 15), .ref (a + 16), .ref (a + 17), .int 0, .int 0, .ref (a + 18), .ref (a + 19), .ref (a + 20), .ref (a + 21), .ref (a + 22), .int 0, .int 0, .int 0, .int 0, .ref (a + 23), .ref (a + 24), .ref (a + 25), .ref (a + 26), .ref (a + 27), .null, .null, .int 0, .int 0]) Y hN rfl in11 tyX11_ok nmX11 (by decide) lk_X11_95 rfl hin rfl rfl rfl (Nat.le_of_ble_eq_true rfl) rfl dX11_init_645 (fun H locs hN => ?_)
  have hN : Nx s E [(a, .inr (11, [.ref (a + 1), .ref (a + 2), .ref (a + 3), .ref (a + 4), .ref (a + 5), .int 0, .ref (a + 6), .int 0, .int 0, .int 0, .int 0, .int 0, .int 0, .int 0, .int 0, .int 0, .int 0, .int (-1), .ref (a + 7), .int 0, .int 0, .ref (a + 8), .ref (a + 9), .ref (a + 10), .ref (a + 11), .int 0, .ref (a + 12), .ref (a + 13), .ref (a + 14), .ref (a + 15), .ref (a + 16), .ref (a + 17), .int 0, .int 0, .ref (a + 18), .ref (a + 19), .ref (a + 20), .ref (a + 21), .ref (a + 22), .int 0, .int 0, .int 0, .int 0, .ref (a + 23), .ref (a + 24), .ref (a + 25), .ref (a + 26), .ref (a + 27), .null, .null, .int 0, .int 0]))] (L ++ [(a + 1, (0, 140))] ++ [(a + 2, (0, 2))] ++ [(a + 3, (0, 2))] ++ [(a + 4, (0, 2))] ++ [(a + 5, (0, 280))] ++ [(a + 6, (2, 800))] ++ [(a + 7, (2, 69))] ++ [(a + 8, (0, 2048))] ++ [(a + 9, (0, 12288))] ++ [(a + 10, (0, 2048))] ++ [(a + 11, (0, 12288))] ++ [(a + 12, (0, 4200))] ++ [(a + 13, (0, 4200))] ++ [(a + 14, (0, 2100))] ++ [(a + 15, (0, 2100))] ++ [(a + 16, (0, 2100))] ++ [(a + 17, (0, 64))] ++ [(a + 18, (0, 135168))] ++ [(a + 19, (0, 4200))] ++ [(a + 20, (0, 32))] ++ [(a + 21, (0, 100))] ++ [(a + 22, (1, 4096))] ++ [(a + 23, (0, 36))] ++ [(a + 24, (0, 1024))] ++ [(a + 25, (0, 1024))] ++ [(a + 26, (0, 140))] ++ [(a + 27, (0, 2380))]) M69 (a + 28) 27 H locs := hN
  refine lv_aload_n hx hb dX11_init_648 rfl (lv_at hl 0 rfl) ?_
  refine lv_sipush (v := 280) hx hb dX11_init_649 (by decide) ?_
  refine n_arrI (N := 280) Y hN (by decide) (by decide +kernel) (Nat.le_of_ble_eq_true rfl) (Nat.le_of_ble_eq_true rfl) (Nat.le_of_ble_eq_true rfl) dX11_init_652 (fun H hN => ?_)
  have hN : Nx s E [(a, .inr (11, [.ref (a + 1), .ref (a + 2), .ref (a + 3), .ref (a + 4), .ref (a + 5), .int 0, .ref (a + 6), .int 0, .int 0, .int 0, .int 0, .int 0, .int 0, .int 0, .int 0, .int 0, .int 0, .int (-1), .ref (a + 7), .int 0, .int 0, .ref (a + 8), .ref (a + 9), .ref (a + 10), .ref (a + 11), .int 0, .ref (a + 12), .ref (a + 13), .ref (a + 14), .ref (a + 15), .ref (a + 16), .ref (a + 17), .int 0, .int 0, .ref (a + 18), .ref (a + 19), .ref (a + 20), .ref (a + 21), .ref (a + 22), .int 0, .int 0, .int 0, .int 0, .ref (a + 23), .ref (a + 24), .ref (a + 25), .ref (a + 26), .ref (a + 27), .null, .null, .int 0, .int 0]))] (L ++ [(a + 1, (0, 140))] ++ [(a + 2, (0, 2))] ++ [(a + 3, (0, 2))] ++ [(a + 4, (0, 2))] ++ [(a + 5, (0, 280))] ++ [(a + 6, (2, 800))] ++ [(a + 7, (2, 69))] ++ [(a + 8, (0, 2048))] ++ [(a + 9, (0, 12288))] ++ [(a + 10, (0, 2048))] ++ [(a + 11, (0, 12288))] ++ [(a + 12, (0, 4200))] ++ [(a + 13, (0, 4200))] ++ [(a + 14, (0, 2100))] ++ [(a + 15, (0, 2100))] ++ [(a + 16, (0, 2100))] ++ [(a + 17, (0, 64))] ++ [(a + 18, (0, 135168))] ++ [(a + 19, (0, 4200))] ++ [(a + 20, (0, 32))] ++ [(a + 21, (0, 100))] ++ [(a + 22, (1, 4096))] ++ [(a + 23, (0, 36))] ++ [(a + 24, (0, 1024))] ++ [(a + 25, (0, 1024))] ++ [(a + 26, (0, 140))] ++ [(a + 27, (0, 2380))] ++ [(a + 28, (0, 280))]) M69 (a + 29) 28 H locs := hN
  refine n_putF (er := []) (ci := 11) (C := RX11) (T := TX11) (N := 52) (k := 48) (ty0 := tyX11) (fs := [.ref (a + 1), .ref (a + 2), .ref (a + 3), .ref (a + 4), .ref (a + 5), .int 0, .ref (a + 6), .int 0, .int 0, .int 0, .int 0, .int 0, .int 0, .int 0, .int 0, .int 0, .int 0, .int (-1), .ref (a + 7), .int 0, .int 0, .ref (a + 8), .ref (a + 9), .ref (a + 10), .ref (a + 11), .int 0, .ref (a + 12), .ref (a + 13), .ref (a + 14), .ref (a + 15), .ref (a + 16), .ref (a + 17), .int 0, .int 0, .ref (a + 18), .ref (a + 19), .ref (a + 20), .ref (a + 21), .ref (a + 22), .int 0, .int 0, .int 0, .int 0, .ref (a + 23), .ref (a + 24), .ref (a + 25), .ref (a + 26), .ref (a + 27), .null, .null, .int 0, .int 0]) (fs' := [.ref (a + 1), .ref (a + 2), .ref (a + 3), .ref (a + 4), .ref (a + 5), .int 0, .ref (a + 6), .int 0, .int 0, .int 0, .int 0, .int 0, .int 0, .int 0, .int 0, .int 0, .int 0, .int (-1), .ref (a + 7), .int 0, .int 0, .ref (a + 8), .ref (a + 9), .ref (a + 10), .ref (a + 11), .int 0, .ref (a + 12), .ref (a + 13), .ref (a + 14), .ref (a + 15), .ref (a + 16), .ref (a + 17), .int 0, .int 0, .ref (a + 18), .ref (a + 19), .ref (a + 20), .ref (a + 21), .ref (a + 22), .int 0, .int 0, .int 0, .int 0, .ref (a + 23), .ref (a + 24), .ref (a + 25), .ref (a + 26), .ref (a + 27), .ref (a + 28), .null, .int 0, .int 0]) Y hN rfl in11 tyX11_ok nmX11 (by decide) lk_X11_98 rfl hin rfl rfl rfl (Nat.le_of_ble_eq_true rfl) rfl dX11_init_654 (fun H locs hN => ?_)
  have hN : Nx s E [(a, .inr (11, [.ref (a + 1), .ref (a + 2), .ref (a + 3), .ref (a + 4), .ref (a + 5), .int 0, .ref (a + 6), .int 0, .int 0, .int 0, .int 0, .int 0, .int 0, .int 0, .int 0, .int 0, .int 0, .int (-1), .ref (a + 7), .int 0, .int 0, .ref (a + 8), .ref (a + 9), .ref (a + 10), .ref (a + 11), .int 0, .ref (a + 12), .ref (a + 13), .ref (a + 14), .ref (a + 15), .ref (a + 16), .ref (a + 17), .int 0, .int 0, .ref (a + 18), .ref (a + 19), .ref (a + 20), .ref (a + 21), .ref (a + 22), .int 0, .int 0, .int 0, .int 0, .ref (a + 23), .ref (a + 24), .ref (a + 25), .ref (a + 26), .ref (a + 27), .ref (a + 28), .null, .int 0, .int 0]))] (L ++ [(a + 1, (0, 140))] ++ [(a + 2, (0, 2))] ++ [(a + 3, (0, 2))] ++ [(a + 4, (0, 2))] ++ [(a + 5, (0, 280))] ++ [(a + 6, (2, 800))] ++ [(a + 7, (2, 69))] ++ [(a + 8, (0, 2048))] ++ [(a + 9, (0, 12288))] ++ [(a + 10, (0, 2048))] ++ [(a + 11, (0, 12288))] ++ [(a + 12, (0, 4200))] ++ [(a + 13, (0, 4200))] ++ [(a + 14, (0, 2100))] ++ [(a + 15, (0, 2100))] ++ [(a + 16, (0, 2100))] ++ [(a + 17, (0, 64))] ++ [(a + 18, (0, 135168))] ++ [(a + 19, (0, 4200))] ++ [(a + 20, (0, 32))] ++ [(a + 21, (0, 100))] ++ [(a + 22, (1, 4096))] ++ [(a + 23, (0, 36))] ++ [(a + 24, (0, 1024))] ++ [(a + 25, (0, 1024))] ++ [(a + 26, (0, 140))] ++ [(a + 27, (0, 2380))] ++ [(a + 28, (0, 280))]) M69 (a + 29) 28 H locs := hN
  refine lv_aload_n hx hb dX11_init_657 rfl (lv_at hl 0 rfl) ?_
  refine lv_iconst (v := 2) hx hb dX11_init_658 (by decide) ?_
  refine n_arrZ (N := 2) Y hN (by decide) (by decide +kernel) (Nat.le_of_ble_eq_true rfl) (Nat.le_of_ble_eq_true rfl) (Nat.le_of_ble_eq_true rfl) dX11_init_659 (fun H hN => ?_)
  have hN : Nx s E [(a, .inr (11, [.ref (a + 1), .ref (a + 2), .ref (a + 3), .ref (a + 4), .ref (a + 5), .int 0, .ref (a + 6), .int 0, .int 0, .int 0, .int 0, .int 0, .int 0, .int 0, .int 0, .int 0, .int 0, .int (-1), .ref (a + 7), .int 0, .int 0, .ref (a + 8), .ref (a + 9), .ref (a + 10), .ref (a + 11), .int 0, .ref (a + 12), .ref (a + 13), .ref (a + 14), .ref (a + 15), .ref (a + 16), .ref (a + 17), .int 0, .int 0, .ref (a + 18), .ref (a + 19), .ref (a + 20), .ref (a + 21), .ref (a + 22), .int 0, .int 0, .int 0, .int 0, .ref (a + 23), .ref (a + 24), .ref (a + 25), .ref (a + 26), .ref (a + 27), .ref (a + 28), .null, .int 0, .int 0]))] (L ++ [(a + 1, (0, 140))] ++ [(a + 2, (0, 2))] ++ [(a + 3, (0, 2))] ++ [(a + 4, (0, 2))] ++ [(a + 5, (0, 280))] ++ [(a + 6, (2, 800))] ++ [(a + 7, (2, 69))] ++ [(a + 8, (0, 2048))] ++ [(a + 9, (0, 12288))] ++ [(a + 10, (0, 2048))] ++ [(a + 11, (0, 12288))] ++ [(a + 12, (0, 4200))] ++ [(a + 13, (0, 4200))] ++ [(a + 14, (0, 2100))] ++ [(a + 15, (0, 2100))] ++ [(a + 16, (0, 2100))] ++ [(a + 17, (0, 64))] ++ [(a + 18, (0, 135168))] ++ [(a + 19, (0, 4200))] ++ [(a + 20, (0, 32))] ++ [(a + 21, (0, 100))] ++ [(a + 22, (1, 4096))] ++ [(a + 23, (0, 36))] ++ [(a + 24, (0, 1024))] ++ [(a + 25, (0, 1024))] ++ [(a + 26, (0, 140))] ++ [(a + 27, (0, 2380))] ++ [(a + 28, (0, 280))] ++ [(a + 29, (1, 2))]) M69 (a + 30) 29 H locs := hN
  refine n_putF (er := []) (ci := 11) (C := RX11) (T := TX11) (N := 52) (k := 49) (ty0 := tyX11) (fs := [.ref (a + 1), .ref (a + 2), .ref (a + 3), .ref (a + 4), .ref (a + 5), .int 0, .ref (a + 6), .int 0, .int 0, .int 0, .int 0, .int 0, .int 0, .int 0, .int 0, .int 0, .int 0, .int (-1), .ref (a + 7), .int 0, .int 0, .ref (a + 8), .ref (a + 9), .ref (a + 10), .ref (a + 11), .int 0, .ref (a + 12), .ref (a + 13), .ref (a + 14), .ref (a + 15), .ref (a + 16), .ref (a + 17), .int 0, .int 0, .ref (a + 18), .ref (a + 19), .ref (a + 20), .ref (a + 21), .ref (a + 22), .int 0, .int 0, .int 0, .int 0, .ref (a + 23), .ref (a + 24), .ref (a + 25), .ref (a + 26), .ref (a + 27), .ref (a + 28), .null, .int 0, .int 0]) (fs' := [.ref (a + 1), .ref (a + 2), .ref (a + 3), .ref (a + 4), .ref (a + 5), .int 0, .ref (a + 6), .int 0, .int 0, .int 0, .int 0, .int 0, .int 0, .int 0, .int 0, .int 0, .int 0, .int (-1), .ref (a + 7), .int 0, .int 0, .ref (a + 8), .ref (a + 9), .ref (a + 10), .ref (a + 11), .int 0, .ref (a + 12), .ref (a + 13), .ref (a + 14), .ref (a + 15), .ref (a + 16), .ref (a + 17), .int 0, .int 0, .ref (a + 18), .ref (a + 19), .ref (a + 20), .ref (a + 21), .ref (a + 22), .int 0, .int 0, .int 0, .int 0, .ref (a + 23), .ref (a + 24), .ref (a + 25), .ref (a + 26), .ref (a + 27), .ref (a + 28), .ref (a + 29), .int 0, .int 0]) Y hN rfl in11 tyX11_ok nmX11 (by decide) lk_X11_101 rfl hin rfl rfl rfl (Nat.le_of_ble_eq_true rfl) rfl dX11_init_661 (fun H locs hN => ?_)
  have hN : Nx s E [(a, .inr (11, [.ref (a + 1), .ref (a + 2), .ref (a + 3), .ref (a + 4), .ref (a + 5), .int 0, .ref (a + 6), .int 0, .int 0, .int 0, .int 0, .int 0, .int 0, .int 0, .int 0, .int 0, .int 0, .int (-1), .ref (a + 7), .int 0, .int 0, .ref (a + 8), .ref (a + 9), .ref (a + 10), .ref (a + 11), .int 0, .ref (a + 12), .ref (a + 13), .ref (a + 14), .ref (a + 15), .ref (a + 16), .ref (a + 17), .int 0, .int 0, .ref (a + 18), .ref (a + 19), .ref (a + 20), .ref (a + 21), .ref (a + 22), .int 0, .int 0, .int 0, .int 0, .ref (a + 23), .ref (a + 24), .ref (a + 25), .ref (a + 26), .ref (a + 27), .ref (a + 28), .ref (a + 29), .int 0, .int 0]))] (L ++ [(a + 1, (0, 140))] ++ [(a + 2, (0, 2))] ++ [(a + 3, (0, 2))] ++ [(a + 4, (0, 2))] ++ [(a + 5, (0, 280))] ++ [(a + 6, (2, 800))] ++ [(a + 7, (2, 69))] ++ [(a + 8, (0, 2048))] ++ [(a + 9, (0, 12288))] ++ [(a + 10, (0, 2048))] ++ [(a + 11, (0, 12288))] ++ [(a + 12, (0, 4200))] ++ [(a + 13, (0, 4200))] ++ [(a + 14, (0, 2100))] ++ [(a + 15, (0, 2100))] ++ [(a + 16, (0, 2100))] ++ [(a + 17, (0, 64))] ++ [(a + 18, (0, 135168))] ++ [(a + 19, (0, 4200))] ++ [(a + 20, (0, 32))] ++ [(a + 21, (0, 100))] ++ [(a + 22, (1, 4096))] ++ [(a + 23, (0, 36))] ++ [(a + 24, (0, 1024))] ++ [(a + 25, (0, 1024))] ++ [(a + 26, (0, 140))] ++ [(a + 27, (0, 2380))] ++ [(a + 28, (0, 280))] ++ [(a + 29, (1, 2))]) M69 (a + 30) 29 H locs := hN
  obtain ⟨M70, eM70, h⟩ := lt_el h
  have hN := hN.done (a := a) (k := 16) (n := 0) (M1 := M70) (by subst eM70; simp [cellOf, flds, pt, va_rf]) (by subst eM70; intro b hb; simp [pt, hb]) (by omega)
  have hN : Nx s E [] ((a, (16, 0)) :: (L ++ [(a + 1, (0, 140))] ++ [(a + 2, (0, 2))] ++ [(a + 3, (0, 2))] ++ [(a + 4, (0, 2))] ++ [(a + 5, (0, 280))] ++ [(a + 6, (2, 800))] ++ [(a + 7, (2, 69))] ++ [(a + 8, (0, 2048))] ++ [(a + 9, (0, 12288))] ++ [(a + 10, (0, 2048))] ++ [(a + 11, (0, 12288))] ++ [(a + 12, (0, 4200))] ++ [(a + 13, (0, 4200))] ++ [(a + 14, (0, 2100))] ++ [(a + 15, (0, 2100))] ++ [(a + 16, (0, 2100))] ++ [(a + 17, (0, 64))] ++ [(a + 18, (0, 135168))] ++ [(a + 19, (0, 4200))] ++ [(a + 20, (0, 32))] ++ [(a + 21, (0, 100))] ++ [(a + 22, (1, 4096))] ++ [(a + 23, (0, 36))] ++ [(a + 24, (0, 1024))] ++ [(a + 25, (0, 1024))] ++ [(a + 26, (0, 140))] ++ [(a + 27, (0, 2380))] ++ [(a + 28, (0, 280))] ++ [(a + 29, (1, 2))])) M70 (a + 30) 29 H locs := hN
  refine lv_aload_n hx hb dX11_init_664 rfl (lv_at hl 0 rfl) ?_
  refine lv_iconst (v := 0) hx hb dX11_init_665 (by decide) ?_
  obtain ⟨M71a, hcM71a, h⟩ := bm_el h
  obtain ⟨M71, eM71, h⟩ := lt_el h
  refine n_call (ck := 11) (C := RX11) (T := TX11) (N := 52) (As := [.int 0]) (n := 1) (r := none) Y hN rfl wc_X11_clearBank ml_X11_104 wi_X11_clearBank we_X11_clearBank ini_11 (by decide +kernel) (by decide) List.mem_cons_self rfl hl.1 (mX11_clearBank fu d (aL11 _ _) hcM71a) ⟨by show _ ≤ d + 1; omega, by show _ ≤ 42 * (d + 1); omega, Nat.le_of_ble_eq_true rfl, Nat.le_of_ble_eq_true rfl⟩ (Nat.le_of_ble_eq_true rfl) dX11_init_666 (fun H locs hN => ?_)
  rw [← eM71] at hN
  have hN : Nx s E [] ((a, (16, 0)) :: (L ++ [(a + 1, (0, 140))] ++ [(a + 2, (0, 2))] ++ [(a + 3, (0, 2))] ++ [(a + 4, (0, 2))] ++ [(a + 5, (0, 280))] ++ [(a + 6, (2, 800))] ++ [(a + 7, (2, 69))] ++ [(a + 8, (0, 2048))] ++ [(a + 9, (0, 12288))] ++ [(a + 10, (0, 2048))] ++ [(a + 11, (0, 12288))] ++ [(a + 12, (0, 4200))] ++ [(a + 13, (0, 4200))] ++ [(a + 14, (0, 2100))] ++ [(a + 15, (0, 2100))] ++ [(a + 16, (0, 2100))] ++ [(a + 17, (0, 64))] ++ [(a + 18, (0, 135168))] ++ [(a + 19, (0, 4200))] ++ [(a + 20, (0, 32))] ++ [(a + 21, (0, 100))] ++ [(a + 22, (1, 4096))] ++ [(a + 23, (0, 36))] ++ [(a + 24, (0, 1024))] ++ [(a + 25, (0, 1024))] ++ [(a + 26, (0, 140))] ++ [(a + 27, (0, 2380))] ++ [(a + 28, (0, 280))] ++ [(a + 29, (1, 2))])) M71 (a + 30) 29 H locs := hN
  refine lv_aload_n hx hb dX11_init_669 rfl (lv_at hl 0 rfl) ?_
  obtain ⟨M72a, hcM72a, h⟩ := bm_el h
  obtain ⟨M72, eM72, h⟩ := lt_el h
  refine n_call (ck := 11) (C := RX11) (T := TX11) (N := 52) (As := []) (n := 0) (r := none) Y hN rfl wc_X11_startAnew ml_X11_108 wi_X11_startAnew we_X11_startAnew ini_11 (by decide +kernel) (by decide) List.mem_cons_self rfl hl.1 (mX11_startAnew fu d (aL11 _ _) hcM72a) ⟨by show _ ≤ d + 1; omega, by show _ ≤ 42 * (d + 1); omega, Nat.le_of_ble_eq_true rfl, Nat.le_of_ble_eq_true rfl⟩ (Nat.le_of_ble_eq_true rfl) dX11_init_670 (fun H locs hN => ?_)
  rw [← eM72] at hN
  have hN : Nx s E [] ((a, (16, 0)) :: (L ++ [(a + 1, (0, 140))] ++ [(a + 2, (0, 2))] ++ [(a + 3, (0, 2))] ++ [(a + 4, (0, 2))] ++ [(a + 5, (0, 280))] ++ [(a + 6, (2, 800))] ++ [(a + 7, (2, 69))] ++ [(a + 8, (0, 2048))] ++ [(a + 9, (0, 12288))] ++ [(a + 10, (0, 2048))] ++ [(a + 11, (0, 12288))] ++ [(a + 12, (0, 4200))] ++ [(a + 13, (0, 4200))] ++ [(a + 14, (0, 2100))] ++ [(a + 15, (0, 2100))] ++ [(a + 16, (0, 2100))] ++ [(a + 17, (0, 64))] ++ [(a + 18, (0, 135168))] ++ [(a + 19, (0, 4200))] ++ [(a + 20, (0, 32))] ++ [(a + 21, (0, 100))] ++ [(a + 22, (1, 4096))] ++ [(a + 23, (0, 36))] ++ [(a + 24, (0, 1024))] ++ [(a + 25, (0, 1024))] ++ [(a + 26, (0, 140))] ++ [(a + 27, (0, 2380))] ++ [(a + 28, (0, 280))] ++ [(a + 29, (1, 2))])) M72 (a + 30) 29 H locs := hN
  cases h
  exact n_ret Y hN hs0 (by show _ ≤ 193213; omega) hr hlk dX11_init_673
