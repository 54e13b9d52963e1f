/-! 11_villageLine 11_dayLine 11_logLine 11_placeOf 11_sizeOf 11_isOf 11_begins0 -/
theorem d11_villageLine_0 : decode m11_villageLine.2.1 0 = .ok (.aload_n 0, 1) := by decide +kernel
theorem d11_villageLine_1 : decode m11_villageLine.2.1 1 = .ok (.getfield 101, 3) := by decide +kernel
theorem d11_villageLine_4 : decode m11_villageLine.2.1 4 = .ok (.istore_n 1, 1) := by decide +kernel
theorem d11_villageLine_5 : decode m11_villageLine.2.1 5 = .ok (.aload_n 0, 1) := by decide +kernel
theorem d11_villageLine_6 : decode m11_villageLine.2.1 6 = .ok (.iconst 1, 1) := by decide +kernel
theorem d11_villageLine_7 : decode m11_villageLine.2.1 7 = .ok (.iconst 5, 1) := by decide +kernel
theorem d11_villageLine_8 : decode m11_villageLine.2.1 8 = .ok (.invokevirtual 150, 3) := by decide +kernel
theorem d11_villageLine_11 : decode m11_villageLine.2.1 11 = .ok (.istore_n 2, 1) := by decide +kernel
theorem d11_villageLine_12 : decode m11_villageLine.2.1 12 = .ok (.iload_n 2, 1) := by decide +kernel
theorem d11_villageLine_13 : decode m11_villageLine.2.1 13 = .ok (.tableswitch 338 1 5 #[35, 51, 67, 161, 255], 35) := by decide +kernel
theorem d11_villageLine_48 : decode m11_villageLine.2.1 48 = .ok (.aload_n 0, 1) := by decide +kernel
theorem d11_villageLine_49 : decode m11_villageLine.2.1 49 = .ok (.getfield 17, 3) := by decide +kernel
theorem d11_villageLine_52 : decode m11_villageLine.2.1 52 = .ok (.iconst 0, 1) := by decide +kernel
theorem d11_villageLine_53 : decode m11_villageLine.2.1 53 = .ok (.aload_n 0, 1) := by decide +kernel
theorem d11_villageLine_54 : decode m11_villageLine.2.1 54 = .ok (.iconst 0, 1) := by decide +kernel
theorem d11_villageLine_55 : decode m11_villageLine.2.1 55 = .ok (.bipush 8, 2) := by decide +kernel
theorem d11_villageLine_57 : decode m11_villageLine.2.1 57 = .ok (.invokevirtual 146, 3) := by decide +kernel
theorem d11_villageLine_60 : decode m11_villageLine.2.1 60 = .ok (.iastore, 1) := by decide +kernel
theorem d11_villageLine_61 : decode m11_villageLine.2.1 61 = .ok (.goto 290, 3) := by decide +kernel
theorem d11_villageLine_64 : decode m11_villageLine.2.1 64 = .ok (.aload_n 0, 1) := by decide +kernel
theorem d11_villageLine_65 : decode m11_villageLine.2.1 65 = .ok (.getfield 17, 3) := by decide +kernel
theorem d11_villageLine_68 : decode m11_villageLine.2.1 68 = .ok (.iconst 3, 1) := by decide +kernel
theorem d11_villageLine_69 : decode m11_villageLine.2.1 69 = .ok (.aload_n 0, 1) := by decide +kernel
theorem d11_villageLine_70 : decode m11_villageLine.2.1 70 = .ok (.iconst 0, 1) := by decide +kernel
theorem d11_villageLine_71 : decode m11_villageLine.2.1 71 = .ok (.bipush 9, 2) := by decide +kernel
theorem d11_villageLine_73 : decode m11_villageLine.2.1 73 = .ok (.invokevirtual 146, 3) := by decide +kernel
theorem d11_villageLine_76 : decode m11_villageLine.2.1 76 = .ok (.iastore, 1) := by decide +kernel
theorem d11_villageLine_77 : decode m11_villageLine.2.1 77 = .ok (.goto 274, 3) := by decide +kernel
theorem d11_villageLine_80 : decode m11_villageLine.2.1 80 = .ok (.aload_n 0, 1) := by decide +kernel
theorem d11_villageLine_81 : decode m11_villageLine.2.1 81 = .ok (.getfield 17, 3) := by decide +kernel
theorem d11_villageLine_84 : decode m11_villageLine.2.1 84 = .ok (.iconst 1, 1) := by decide +kernel
theorem d11_villageLine_85 : decode m11_villageLine.2.1 85 = .ok (.iaload, 1) := by decide +kernel
theorem d11_villageLine_86 : decode m11_villageLine.2.1 86 = .ok (.bipush 6, 2) := by decide +kernel
theorem d11_villageLine_88 : decode m11_villageLine.2.1 88 = .ok (.if_icmp .lt 9, 3) := by decide +kernel
theorem d11_villageLine_91 : decode m11_villageLine.2.1 91 = .ok (.aload_n 0, 1) := by decide +kernel
theorem d11_villageLine_92 : decode m11_villageLine.2.1 92 = .ok (.iconst 3, 1) := by decide +kernel
theorem d11_villageLine_93 : decode m11_villageLine.2.1 93 = .ok (.iload_n 1, 1) := by decide +kernel
theorem d11_villageLine_94 : decode m11_villageLine.2.1 94 = .ok (.invokevirtual 139, 3) := by decide +kernel
theorem d11_villageLine_97 : decode m11_villageLine.2.1 97 = .ok (.aload_n 0, 1) := by decide +kernel
theorem d11_villageLine_98 : decode m11_villageLine.2.1 98 = .ok (.iconst 1, 1) := by decide +kernel
theorem d11_villageLine_99 : decode m11_villageLine.2.1 99 = .ok (.bipush 9, 2) := by decide +kernel
theorem d11_villageLine_101 : decode m11_villageLine.2.1 101 = .ok (.invokevirtual 146, 3) := by decide +kernel
theorem d11_villageLine_104 : decode m11_villageLine.2.1 104 = .ok (.istore_n 3, 1) := by decide +kernel
theorem d11_villageLine_105 : decode m11_villageLine.2.1 105 = .ok (.aload_n 0, 1) := by decide +kernel
theorem d11_villageLine_106 : decode m11_villageLine.2.1 106 = .ok (.iconst 1, 1) := by decide +kernel
theorem d11_villageLine_107 : decode m11_villageLine.2.1 107 = .ok (.bipush 9, 2) := by decide +kernel
theorem d11_villageLine_109 : decode m11_villageLine.2.1 109 = .ok (.invokevirtual 146, 3) := by decide +kernel
theorem d11_villageLine_112 : decode m11_villageLine.2.1 112 = .ok (.istore 4, 2) := by decide +kernel
theorem d11_villageLine_114 : decode m11_villageLine.2.1 114 = .ok (.aload_n 0, 1) := by decide +kernel
theorem d11_villageLine_115 : decode m11_villageLine.2.1 115 = .ok (.getfield 17, 3) := by decide +kernel
theorem d11_villageLine_118 : decode m11_villageLine.2.1 118 = .ok (.iconst 1, 1) := by decide +kernel
theorem d11_villageLine_119 : decode m11_villageLine.2.1 119 = .ok (.iaload, 1) := by decide +kernel
theorem d11_villageLine_120 : decode m11_villageLine.2.1 120 = .ok (.bipush 6, 2) := by decide +kernel
theorem d11_villageLine_122 : decode m11_villageLine.2.1 122 = .ok (.if_icmp .lt 6, 3) := by decide +kernel
theorem d11_villageLine_125 : decode m11_villageLine.2.1 125 = .ok (.goto 226, 3) := by decide +kernel
theorem d11_villageLine_128 : decode m11_villageLine.2.1 128 = .ok (.aload_n 0, 1) := by decide +kernel
theorem d11_villageLine_129 : decode m11_villageLine.2.1 129 = .ok (.getfield 17, 3) := by decide +kernel
theorem d11_villageLine_132 : decode m11_villageLine.2.1 132 = .ok (.iconst 4, 1) := by decide +kernel
theorem d11_villageLine_133 : decode m11_villageLine.2.1 133 = .ok (.iconst 2, 1) := by decide +kernel
theorem d11_villageLine_134 : decode m11_villageLine.2.1 134 = .ok (.aload_n 0, 1) := by decide +kernel
theorem d11_villageLine_135 : decode m11_villageLine.2.1 135 = .ok (.getfield 17, 3) := by decide +kernel
theorem d11_villageLine_138 : decode m11_villageLine.2.1 138 = .ok (.iconst 1, 1) := by decide +kernel
theorem d11_villageLine_139 : decode m11_villageLine.2.1 139 = .ok (.iaload, 1) := by decide +kernel
theorem d11_villageLine_140 : decode m11_villageLine.2.1 140 = .ok (.imul, 1) := by decide +kernel
theorem d11_villageLine_141 : decode m11_villageLine.2.1 141 = .ok (.iadd, 1) := by decide +kernel
theorem d11_villageLine_142 : decode m11_villageLine.2.1 142 = .ok (.iload_n 3, 1) := by decide +kernel
theorem d11_villageLine_143 : decode m11_villageLine.2.1 143 = .ok (.iastore, 1) := by decide +kernel
theorem d11_villageLine_144 : decode m11_villageLine.2.1 144 = .ok (.aload_n 0, 1) := by decide +kernel
theorem d11_villageLine_145 : decode m11_villageLine.2.1 145 = .ok (.getfield 17, 3) := by decide +kernel
theorem d11_villageLine_148 : decode m11_villageLine.2.1 148 = .ok (.iconst 5, 1) := by decide +kernel
theorem d11_villageLine_149 : decode m11_villageLine.2.1 149 = .ok (.iconst 2, 1) := by decide +kernel
theorem d11_villageLine_150 : decode m11_villageLine.2.1 150 = .ok (.aload_n 0, 1) := by decide +kernel
theorem d11_villageLine_151 : decode m11_villageLine.2.1 151 = .ok (.getfield 17, 3) := by decide +kernel
theorem d11_villageLine_154 : decode m11_villageLine.2.1 154 = .ok (.iconst 1, 1) := by decide +kernel
theorem d11_villageLine_155 : decode m11_villageLine.2.1 155 = .ok (.iaload, 1) := by decide +kernel
theorem d11_villageLine_156 : decode m11_villageLine.2.1 156 = .ok (.imul, 1) := by decide +kernel
theorem d11_villageLine_157 : decode m11_villageLine.2.1 157 = .ok (.iadd, 1) := by decide +kernel
theorem d11_villageLine_158 : decode m11_villageLine.2.1 158 = .ok (.iload 4, 2) := by decide +kernel
theorem d11_villageLine_160 : decode m11_villageLine.2.1 160 = .ok (.iastore, 1) := by decide +kernel
theorem d11_villageLine_161 : decode m11_villageLine.2.1 161 = .ok (.aload_n 0, 1) := by decide +kernel
theorem d11_villageLine_162 : decode m11_villageLine.2.1 162 = .ok (.getfield 17, 3) := by decide +kernel
theorem d11_villageLine_165 : decode m11_villageLine.2.1 165 = .ok (.iconst 1, 1) := by decide +kernel
theorem d11_villageLine_166 : decode m11_villageLine.2.1 166 = .ok (.dup2, 1) := by decide +kernel
theorem d11_villageLine_167 : decode m11_villageLine.2.1 167 = .ok (.iaload, 1) := by decide +kernel
theorem d11_villageLine_168 : decode m11_villageLine.2.1 168 = .ok (.iconst 1, 1) := by decide +kernel
theorem d11_villageLine_169 : decode m11_villageLine.2.1 169 = .ok (.iadd, 1) := by decide +kernel
theorem d11_villageLine_170 : decode m11_villageLine.2.1 170 = .ok (.iastore, 1) := by decide +kernel
theorem d11_villageLine_171 : decode m11_villageLine.2.1 171 = .ok (.goto 180, 3) := by decide +kernel
theorem d11_villageLine_174 : decode m11_villageLine.2.1 174 = .ok (.aload_n 0, 1) := by decide +kernel
theorem d11_villageLine_175 : decode m11_villageLine.2.1 175 = .ok (.getfield 17, 3) := by decide +kernel
theorem d11_villageLine_178 : decode m11_villageLine.2.1 178 = .ok (.iconst 2, 1) := by decide +kernel
theorem d11_villageLine_179 : decode m11_villageLine.2.1 179 = .ok (.iaload, 1) := by decide +kernel
theorem d11_villageLine_180 : decode m11_villageLine.2.1 180 = .ok (.iconst 4, 1) := by decide +kernel
theorem d11_villageLine_181 : decode m11_villageLine.2.1 181 = .ok (.if_icmp .lt 9, 3) := by decide +kernel
theorem d11_villageLine_184 : decode m11_villageLine.2.1 184 = .ok (.aload_n 0, 1) := by decide +kernel
theorem d11_villageLine_185 : decode m11_villageLine.2.1 185 = .ok (.iconst 3, 1) := by decide +kernel
theorem d11_villageLine_186 : decode m11_villageLine.2.1 186 = .ok (.iload_n 1, 1) := by decide +kernel
theorem d11_villageLine_187 : decode m11_villageLine.2.1 187 = .ok (.invokevirtual 139, 3) := by decide +kernel
theorem d11_villageLine_190 : decode m11_villageLine.2.1 190 = .ok (.aload_n 0, 1) := by decide +kernel
theorem d11_villageLine_191 : decode m11_villageLine.2.1 191 = .ok (.iconst 1, 1) := by decide +kernel
theorem d11_villageLine_192 : decode m11_villageLine.2.1 192 = .ok (.bipush 60, 2) := by decide +kernel
theorem d11_villageLine_194 : decode m11_villageLine.2.1 194 = .ok (.invokevirtual 146, 3) := by decide +kernel
theorem d11_villageLine_197 : decode m11_villageLine.2.1 197 = .ok (.istore_n 3, 1) := by decide +kernel
theorem d11_villageLine_198 : decode m11_villageLine.2.1 198 = .ok (.aload_n 0, 1) := by decide +kernel
theorem d11_villageLine_199 : decode m11_villageLine.2.1 199 = .ok (.iload_n 3, 1) := by decide +kernel
theorem d11_villageLine_200 : decode m11_villageLine.2.1 200 = .ok (.bipush 99, 2) := by decide +kernel
theorem d11_villageLine_202 : decode m11_villageLine.2.1 202 = .ok (.invokevirtual 146, 3) := by decide +kernel
theorem d11_villageLine_205 : decode m11_villageLine.2.1 205 = .ok (.istore 4, 2) := by decide +kernel
theorem d11_villageLine_207 : decode m11_villageLine.2.1 207 = .ok (.aload_n 0, 1) := by decide +kernel
theorem d11_villageLine_208 : decode m11_villageLine.2.1 208 = .ok (.getfield 17, 3) := by decide +kernel
theorem d11_villageLine_211 : decode m11_villageLine.2.1 211 = .ok (.iconst 2, 1) := by decide +kernel
theorem d11_villageLine_212 : decode m11_villageLine.2.1 212 = .ok (.iaload, 1) := by decide +kernel
theorem d11_villageLine_213 : decode m11_villageLine.2.1 213 = .ok (.iconst 4, 1) := by decide +kernel
theorem d11_villageLine_214 : decode m11_villageLine.2.1 214 = .ok (.if_icmp .lt 6, 3) := by decide +kernel
theorem d11_villageLine_217 : decode m11_villageLine.2.1 217 = .ok (.goto 134, 3) := by decide +kernel
theorem d11_villageLine_220 : decode m11_villageLine.2.1 220 = .ok (.aload_n 0, 1) := by decide +kernel
theorem d11_villageLine_221 : decode m11_villageLine.2.1 221 = .ok (.getfield 17, 3) := by decide +kernel
theorem d11_villageLine_224 : decode m11_villageLine.2.1 224 = .ok (.bipush 16, 2) := by decide +kernel
theorem d11_villageLine_226 : decode m11_villageLine.2.1 226 = .ok (.iconst 2, 1) := by decide +kernel
theorem d11_villageLine_227 : decode m11_villageLine.2.1 227 = .ok (.aload_n 0, 1) := by decide +kernel
theorem d11_villageLine_228 : decode m11_villageLine.2.1 228 = .ok (.getfield 17, 3) := by decide +kernel
theorem d11_villageLine_231 : decode m11_villageLine.2.1 231 = .ok (.iconst 2, 1) := by decide +kernel
theorem d11_villageLine_232 : decode m11_villageLine.2.1 232 = .ok (.iaload, 1) := by decide +kernel
theorem d11_villageLine_233 : decode m11_villageLine.2.1 233 = .ok (.imul, 1) := by decide +kernel
theorem d11_villageLine_234 : decode m11_villageLine.2.1 234 = .ok (.iadd, 1) := by decide +kernel
theorem d11_villageLine_235 : decode m11_villageLine.2.1 235 = .ok (.iload_n 3, 1) := by decide +kernel
theorem d11_villageLine_236 : decode m11_villageLine.2.1 236 = .ok (.iastore, 1) := by decide +kernel
theorem d11_villageLine_237 : decode m11_villageLine.2.1 237 = .ok (.aload_n 0, 1) := by decide +kernel
theorem d11_villageLine_238 : decode m11_villageLine.2.1 238 = .ok (.getfield 17, 3) := by decide +kernel
theorem d11_villageLine_241 : decode m11_villageLine.2.1 241 = .ok (.bipush 17, 2) := by decide +kernel
theorem d11_villageLine_243 : decode m11_villageLine.2.1 243 = .ok (.iconst 2, 1) := by decide +kernel
theorem d11_villageLine_244 : decode m11_villageLine.2.1 244 = .ok (.aload_n 0, 1) := by decide +kernel
theorem d11_villageLine_245 : decode m11_villageLine.2.1 245 = .ok (.getfield 17, 3) := by decide +kernel
theorem d11_villageLine_248 : decode m11_villageLine.2.1 248 = .ok (.iconst 2, 1) := by decide +kernel
theorem d11_villageLine_249 : decode m11_villageLine.2.1 249 = .ok (.iaload, 1) := by decide +kernel
theorem d11_villageLine_250 : decode m11_villageLine.2.1 250 = .ok (.imul, 1) := by decide +kernel
theorem d11_villageLine_251 : decode m11_villageLine.2.1 251 = .ok (.iadd, 1) := by decide +kernel
theorem d11_villageLine_252 : decode m11_villageLine.2.1 252 = .ok (.iload 4, 2) := by decide +kernel
theorem d11_villageLine_254 : decode m11_villageLine.2.1 254 = .ok (.iastore, 1) := by decide +kernel
theorem d11_villageLine_255 : decode m11_villageLine.2.1 255 = .ok (.aload_n 0, 1) := by decide +kernel
theorem d11_villageLine_256 : decode m11_villageLine.2.1 256 = .ok (.getfield 17, 3) := by decide +kernel
theorem d11_villageLine_259 : decode m11_villageLine.2.1 259 = .ok (.iconst 2, 1) := by decide +kernel
theorem d11_villageLine_260 : decode m11_villageLine.2.1 260 = .ok (.dup2, 1) := by decide +kernel
theorem d11_villageLine_261 : decode m11_villageLine.2.1 261 = .ok (.iaload, 1) := by decide +kernel
theorem d11_villageLine_262 : decode m11_villageLine.2.1 262 = .ok (.iconst 1, 1) := by decide +kernel
theorem d11_villageLine_263 : decode m11_villageLine.2.1 263 = .ok (.iadd, 1) := by decide +kernel
theorem d11_villageLine_264 : decode m11_villageLine.2.1 264 = .ok (.iastore, 1) := by decide +kernel
theorem d11_villageLine_265 : decode m11_villageLine.2.1 265 = .ok (.goto 86, 3) := by decide +kernel
theorem d11_villageLine_268 : decode m11_villageLine.2.1 268 = .ok (.aload_n 0, 1) := by decide +kernel
theorem d11_villageLine_269 : decode m11_villageLine.2.1 269 = .ok (.iconst 0, 1) := by decide +kernel
theorem d11_villageLine_270 : decode m11_villageLine.2.1 270 = .ok (.bipush 7, 2) := by decide +kernel
theorem d11_villageLine_272 : decode m11_villageLine.2.1 272 = .ok (.invokevirtual 146, 3) := by decide +kernel
theorem d11_villageLine_275 : decode m11_villageLine.2.1 275 = .ok (.istore_n 3, 1) := by decide +kernel
theorem d11_villageLine_276 : decode m11_villageLine.2.1 276 = .ok (.aload_n 0, 1) := by decide +kernel
theorem d11_villageLine_277 : decode m11_villageLine.2.1 277 = .ok (.iconst 0, 1) := by decide +kernel
theorem d11_villageLine_278 : decode m11_villageLine.2.1 278 = .ok (.iconst 5, 1) := by decide +kernel
theorem d11_villageLine_279 : decode m11_villageLine.2.1 279 = .ok (.invokevirtual 146, 3) := by decide +kernel
theorem d11_villageLine_282 : decode m11_villageLine.2.1 282 = .ok (.istore 4, 2) := by decide +kernel
theorem d11_villageLine_284 : decode m11_villageLine.2.1 284 = .ok (.aload_n 0, 1) := by decide +kernel
theorem d11_villageLine_285 : decode m11_villageLine.2.1 285 = .ok (.iload_n 3, 1) := by decide +kernel
theorem d11_villageLine_286 : decode m11_villageLine.2.1 286 = .ok (.aload_n 0, 1) := by decide +kernel
theorem d11_villageLine_287 : decode m11_villageLine.2.1 287 = .ok (.getfield 153, 3) := by decide +kernel
theorem d11_villageLine_290 : decode m11_villageLine.2.1 290 = .ok (.if_icmp .le 7, 3) := by decide +kernel
theorem d11_villageLine_293 : decode m11_villageLine.2.1 293 = .ok (.iload_n 3, 1) := by decide +kernel
theorem d11_villageLine_294 : decode m11_villageLine.2.1 294 = .ok (.goto 7, 3) := by decide +kernel
theorem d11_villageLine_297 : decode m11_villageLine.2.1 297 = .ok (.aload_n 0, 1) := by decide +kernel
theorem d11_villageLine_298 : decode m11_villageLine.2.1 298 = .ok (.getfield 153, 3) := by decide +kernel
theorem d11_villageLine_301 : decode m11_villageLine.2.1 301 = .ok (.putfield 153, 3) := by decide +kernel
theorem d11_villageLine_304 : decode m11_villageLine.2.1 304 = .ok (.aload_n 0, 1) := by decide +kernel
theorem d11_villageLine_305 : decode m11_villageLine.2.1 305 = .ok (.iload 4, 2) := by decide +kernel
theorem d11_villageLine_307 : decode m11_villageLine.2.1 307 = .ok (.aload_n 0, 1) := by decide +kernel
theorem d11_villageLine_308 : decode m11_villageLine.2.1 308 = .ok (.getfield 156, 3) := by decide +kernel
theorem d11_villageLine_311 : decode m11_villageLine.2.1 311 = .ok (.if_icmp .le 8, 3) := by decide +kernel
theorem d11_villageLine_314 : decode m11_villageLine.2.1 314 = .ok (.iload 4, 2) := by decide +kernel
theorem d11_villageLine_316 : decode m11_villageLine.2.1 316 = .ok (.goto 7, 3) := by decide +kernel
theorem d11_villageLine_319 : decode m11_villageLine.2.1 319 = .ok (.aload_n 0, 1) := by decide +kernel
theorem d11_villageLine_320 : decode m11_villageLine.2.1 320 = .ok (.getfield 156, 3) := by decide +kernel
theorem d11_villageLine_323 : decode m11_villageLine.2.1 323 = .ok (.putfield 156, 3) := by decide +kernel
theorem d11_villageLine_326 : decode m11_villageLine.2.1 326 = .ok (.aload_n 0, 1) := by decide +kernel
theorem d11_villageLine_327 : decode m11_villageLine.2.1 327 = .ok (.getfield 17, 3) := by decide +kernel
theorem d11_villageLine_330 : decode m11_villageLine.2.1 330 = .ok (.bipush 24, 2) := by decide +kernel
theorem d11_villageLine_332 : decode m11_villageLine.2.1 332 = .ok (.bipush 6, 2) := by decide +kernel
theorem d11_villageLine_334 : decode m11_villageLine.2.1 334 = .ok (.iload_n 3, 1) := by decide +kernel
theorem d11_villageLine_335 : decode m11_villageLine.2.1 335 = .ok (.imul, 1) := by decide +kernel
theorem d11_villageLine_336 : decode m11_villageLine.2.1 336 = .ok (.iadd, 1) := by decide +kernel
theorem d11_villageLine_337 : decode m11_villageLine.2.1 337 = .ok (.iload 4, 2) := by decide +kernel
theorem d11_villageLine_339 : decode m11_villageLine.2.1 339 = .ok (.iadd, 1) := by decide +kernel
theorem d11_villageLine_340 : decode m11_villageLine.2.1 340 = .ok (.aload_n 0, 1) := by decide +kernel
theorem d11_villageLine_341 : decode m11_villageLine.2.1 341 = .ok (.iconst 0, 1) := by decide +kernel
theorem d11_villageLine_342 : decode m11_villageLine.2.1 342 = .ok (.bipush 9, 2) := by decide +kernel
theorem d11_villageLine_344 : decode m11_villageLine.2.1 344 = .ok (.invokevirtual 146, 3) := by decide +kernel
theorem d11_villageLine_347 : decode m11_villageLine.2.1 347 = .ok (.iastore, 1) := by decide +kernel
theorem d11_villageLine_348 : decode m11_villageLine.2.1 348 = .ok (.goto 3, 3) := by decide +kernel
theorem d11_villageLine_351 : decode m11_villageLine.2.1 351 = .ok (.aload_n 0, 1) := by decide +kernel
theorem d11_villageLine_352 : decode m11_villageLine.2.1 352 = .ok (.invokevirtual 159, 3) := by decide +kernel
theorem d11_villageLine_355 : decode m11_villageLine.2.1 355 = .ok (.return_, 1) := by decide +kernel
def b11_villageLine_97 (h : AH) : Option (Int × AH) :=
  bnd (f11_numbered 1 9 h) fun r1 h2 =>
  bnd (f11_numbered 1 9 h2) fun r5 h6 =>
  asrt (0 ≤ w32 1 ∧ w32 1 < 201) <|
  if w32 (h6.2 72 (w32 1).toNat) < 6 then
    asrt (0 ≤ w32 1 ∧ w32 1 < 201) <|
    asrt (0 ≤ w32 (4 + (2 * (h6.2 72 (w32 1).toNat))) ∧ w32 (4 + (2 * (h6.2 72 (w32 1).toNat))) < 201) <|
    lt (wr h6 72 (w32 (4 + (2 * (h6.2 72 (w32 1).toNat)))).toNat r1) fun h12 =>
    asrt (0 ≤ w32 1 ∧ w32 1 < 201) <|
    asrt (0 ≤ w32 (5 + (2 * (h12.2 72 (w32 1).toNat))) ∧ w32 (5 + (2 * (h12.2 72 (w32 1).toNat))) < 201) <|
    lt (wr h12 72 (w32 (5 + (2 * (h12.2 72 (w32 1).toNat)))).toNat r5) fun h16 =>
    asrt (0 ≤ w32 1 ∧ w32 1 < 201) <|
    asrt (0 ≤ w32 1 ∧ w32 1 < 201) <|
    lt (wr h16 72 (w32 1).toNat ((h16.2 72 (w32 1).toNat) + 1)) fun h20 =>
    bnd (f11_endsLine h20) fun r22 h23 =>
    some (0, h23)
  else
    bnd (f11_endsLine h6) fun r26 h27 =>
    some (0, h27)
set_option maxRecDepth 100000 in
theorem t11_villageLine_97 (l : Launch) (G : Geo) (d : Nat) (hd : 7 ≤ d) (h : AH) : Den l G m11_villageLine rvV d 97 [some (vA G 69), none, none, none, none] [] h (b11_villageLine_97 h) := by
  unfold b11_villageLine_97
  refine den_aload_n (pc := 97) d11_villageLine_97 rfl rfl ?_
  refine den_iconst (pc := 98) d11_villageLine_98 ?_
  refine den_bipush (pc := 99) d11_villageLine_99 (by decide) ?_
  refine den_callVI (pc := 101) (As := [vI 1, vI 9]) fv_11_146 rfl rfl (ok_69 _) (Nat.le_of_ble_eq_true rfl) (Nat.le_trans (by decide) hd) d11_villageLine_101 (c11_numbered l G 1 9 h) (fun r1 h2 m3 o4 => ?_)
  refine den_istore_n (pc := 104) (L2 := [some (vA G 69), none, none, some (vI r1), none]) d11_villageLine_104 rfl (by decide) rfl ?_
  refine den_aload_n (pc := 105) d11_villageLine_105 rfl rfl ?_
  refine den_iconst (pc := 106) d11_villageLine_106 ?_
  refine den_bipush (pc := 107) d11_villageLine_107 (by decide) ?_
  refine den_callVI (pc := 109) (As := [vI 1, vI 9]) fv_11_146 rfl rfl (ok_69 _) (Nat.le_of_ble_eq_true rfl) (Nat.le_trans (by decide) hd) d11_villageLine_109 (c11_numbered l G 1 9 h2) (fun r5 h6 m7 o8 => ?_)
  refine den_istore (pc := 112) (L2 := [some (vA G 69), none, none, some (vI r1), some (vI r5)]) d11_villageLine_112 (by decide) rfl ?_
  refine den_aload_n (pc := 114) d11_villageLine_114 rfl rfl ?_
  refine den_getR (pc := 115) (b := 72) fa_11_17 (ok_69 _) rfl d11_villageLine_115 ?_
  refine den_iconst (pc := 118) d11_villageLine_118 ?_
  refine den_asrt (fun a9 => ?_)
  refine den_iaload (pc := 119) sh_72 (sz_lt (by decide)) rfl a9 d11_villageLine_119 ?_
  refine den_bipush (pc := 120) d11_villageLine_120 (by decide) ?_
  refine den_icmp_lt (pc := 122) (tgt := 128) d11_villageLine_122 (by decide) rfl (by decide) (fun _ => ?_) (fun _ => ?_)
  · refine den_aload_n (pc := 128) d11_villageLine_128 rfl rfl ?_
    refine den_getR (pc := 129) (b := 72) fa_11_17 (ok_69 _) rfl d11_villageLine_129 ?_
    refine den_iconst (pc := 132) d11_villageLine_132 ?_
    refine den_iconst (pc := 133) d11_villageLine_133 ?_
    refine den_aload_n (pc := 134) d11_villageLine_134 rfl rfl ?_
    refine den_getR (pc := 135) (b := 72) fa_11_17 (ok_69 _) rfl d11_villageLine_135 ?_
    refine den_iconst (pc := 138) d11_villageLine_138 ?_
    refine den_asrt (fun a10 => ?_)
    refine den_iaload (pc := 139) sh_72 (sz_lt (by decide)) rfl a10 d11_villageLine_139 ?_
    refine den_imul (pc := 140) d11_villageLine_140 ?_
    refine den_iadd (pc := 141) d11_villageLine_141 ?_
    refine den_iload_n (pc := 142) d11_villageLine_142 rfl rfl ?_
    refine den_asrt (fun a11 => ?_)
    refine den_iastore (pc := 143) sh_72 (sz_lt (by decide)) rfl a11 d11_villageLine_143 ?_
    refine den_ltH (fun h12 m13 => ?_)
    refine den_aload_n (pc := 144) d11_villageLine_144 rfl rfl ?_
    refine den_getR (pc := 145) (b := 72) fa_11_17 (ok_69 _) rfl d11_villageLine_145 ?_
    refine den_iconst (pc := 148) d11_villageLine_148 ?_
    refine den_iconst (pc := 149) d11_villageLine_149 ?_
    refine den_aload_n (pc := 150) d11_villageLine_150 rfl rfl ?_
    refine den_getR (pc := 151) (b := 72) fa_11_17 (ok_69 _) rfl d11_villageLine_151 ?_
    refine den_iconst (pc := 154) d11_villageLine_154 ?_
    refine den_asrt (fun a14 => ?_)
    refine den_iaload (pc := 155) sh_72 (sz_lt (by decide)) rfl a14 d11_villageLine_155 ?_
    refine den_imul (pc := 156) d11_villageLine_156 ?_
    refine den_iadd (pc := 157) d11_villageLine_157 ?_
    refine den_iload (pc := 158) d11_villageLine_158 rfl ?_
    refine den_asrt (fun a15 => ?_)
    refine den_iastore (pc := 160) sh_72 (sz_lt (by decide)) rfl a15 d11_villageLine_160 ?_
    refine den_ltH (fun h16 m17 => ?_)
    refine den_aload_n (pc := 161) d11_villageLine_161 rfl rfl ?_
    refine den_getR (pc := 162) (b := 72) fa_11_17 (ok_69 _) rfl d11_villageLine_162 ?_
    refine den_iconst (pc := 165) d11_villageLine_165 ?_
    refine den_dup2 (pc := 166) d11_villageLine_166 rfl rfl ?_
    refine den_asrt (fun a18 => ?_)
    refine den_iaload (pc := 167) sh_72 (sz_lt (by decide)) rfl a18 d11_villageLine_167 ?_
    refine den_iconst (pc := 168) d11_villageLine_168 ?_
    refine den_iadd (pc := 169) d11_villageLine_169 ?_
    refine den_asrt (fun a19 => ?_)
    refine den_iastore (pc := 170) sh_72 (sz_lt (by decide)) rfl a19 d11_villageLine_170 ?_
    refine den_ltH (fun h20 m21 => ?_)
    refine den_goto (pc := 171) (tgt := 351) d11_villageLine_171 (by decide) ?_
    refine den_aload_n (pc := 351) d11_villageLine_351 rfl rfl ?_
    refine den_callVV (pc := 352) (As := []) fv_11_159 rfl rfl (ok_69 _) (Nat.le_of_ble_eq_true rfl) (Nat.le_trans (by decide) hd) d11_villageLine_352 (c11_endsLine l G h20) (fun r22 h23 m24 o25 => ?_)
    exact den_vret (pc := 355) rfl d11_villageLine_355
  · refine den_goto (pc := 125) (tgt := 351) d11_villageLine_125 (by decide) ?_
    refine den_aload_n (pc := 351) d11_villageLine_351 rfl rfl ?_
    refine den_callVV (pc := 352) (As := []) fv_11_159 rfl rfl (ok_69 _) (Nat.le_of_ble_eq_true rfl) (Nat.le_trans (by decide) hd) d11_villageLine_352 (c11_endsLine l G h6) (fun r26 h27 m28 o29 => ?_)
    exact den_vret (pc := 355) rfl d11_villageLine_355
def b11_villageLine_190 (h : AH) : Option (Int × AH) :=
  bnd (f11_numbered 1 60 h) fun r30 h31 =>
  bnd (f11_numbered r30 99 h31) fun r34 h35 =>
  asrt (0 ≤ w32 2 ∧ w32 2 < 201) <|
  if w32 (h35.2 72 (w32 2).toNat) < 4 then
    asrt (0 ≤ w32 2 ∧ w32 2 < 201) <|
    asrt (0 ≤ w32 (16 + (2 * (h35.2 72 (w32 2).toNat))) ∧ w32 (16 + (2 * (h35.2 72 (w32 2).toNat))) < 201) <|
    lt (wr h35 72 (w32 (16 + (2 * (h35.2 72 (w32 2).toNat)))).toNat r30) fun h41 =>
    asrt (0 ≤ w32 2 ∧ w32 2 < 201) <|
    asrt (0 ≤ w32 (17 + (2 * (h41.2 72 (w32 2).toNat))) ∧ w32 (17 + (2 * (h41.2 72 (w32 2).toNat))) < 201) <|
    lt (wr h41 72 (w32 (17 + (2 * (h41.2 72 (w32 2).toNat)))).toNat r34) fun h45 =>
    asrt (0 ≤ w32 2 ∧ w32 2 < 201) <|
    asrt (0 ≤ w32 2 ∧ w32 2 < 201) <|
    lt (wr h45 72 (w32 2).toNat ((h45.2 72 (w32 2).toNat) + 1)) fun h49 =>
    bnd (f11_endsLine h49) fun r51 h52 =>
    some (0, h52)
  else
    bnd (f11_endsLine h35) fun r55 h56 =>
    some (0, h56)
set_option maxRecDepth 100000 in
theorem t11_villageLine_190 (l : Launch) (G : Geo) (d : Nat) (hd : 7 ≤ d) (h : AH) : Den l G m11_villageLine rvV d 190 [some (vA G 69), none, none, none, none] [] h (b11_villageLine_190 h) := by
  unfold b11_villageLine_190
  refine den_aload_n (pc := 190) d11_villageLine_190 rfl rfl ?_
  refine den_iconst (pc := 191) d11_villageLine_191 ?_
  refine den_bipush (pc := 192) d11_villageLine_192 (by decide) ?_
  refine den_callVI (pc := 194) (As := [vI 1, vI 60]) fv_11_146 rfl rfl (ok_69 _) (Nat.le_of_ble_eq_true rfl) (Nat.le_trans (by decide) hd) d11_villageLine_194 (c11_numbered l G 1 60 h) (fun r30 h31 m32 o33 => ?_)
  refine den_istore_n (pc := 197) (L2 := [some (vA G 69), none, none, some (vI r30), none]) d11_villageLine_197 rfl (by decide) rfl ?_
  refine den_aload_n (pc := 198) d11_villageLine_198 rfl rfl ?_
  refine den_iload_n (pc := 199) d11_villageLine_199 rfl rfl ?_
  refine den_bipush (pc := 200) d11_villageLine_200 (by decide) ?_
  refine den_callVI (pc := 202) (As := [vI r30, vI 99]) fv_11_146 rfl rfl (ok_69 _) (Nat.le_of_ble_eq_true rfl) (Nat.le_trans (by decide) hd) d11_villageLine_202 (c11_numbered l G r30 99 h31) (fun r34 h35 m36 o37 => ?_)
  refine den_istore (pc := 205) (L2 := [some (vA G 69), none, none, some (vI r30), some (vI r34)]) d11_villageLine_205 (by decide) rfl ?_
  refine den_aload_n (pc := 207) d11_villageLine_207 rfl rfl ?_
  refine den_getR (pc := 208) (b := 72) fa_11_17 (ok_69 _) rfl d11_villageLine_208 ?_
  refine den_iconst (pc := 211) d11_villageLine_211 ?_
  refine den_asrt (fun a38 => ?_)
  refine den_iaload (pc := 212) sh_72 (sz_lt (by decide)) rfl a38 d11_villageLine_212 ?_
  refine den_iconst (pc := 213) d11_villageLine_213 ?_
  refine den_icmp_lt (pc := 214) (tgt := 220) d11_villageLine_214 (by decide) rfl (by decide) (fun _ => ?_) (fun _ => ?_)
  · refine den_aload_n (pc := 220) d11_villageLine_220 rfl rfl ?_
    refine den_getR (pc := 221) (b := 72) fa_11_17 (ok_69 _) rfl d11_villageLine_221 ?_
    refine den_bipush (pc := 224) d11_villageLine_224 (by decide) ?_
    refine den_iconst (pc := 226) d11_villageLine_226 ?_
    refine den_aload_n (pc := 227) d11_villageLine_227 rfl rfl ?_
    refine den_getR (pc := 228) (b := 72) fa_11_17 (ok_69 _) rfl d11_villageLine_228 ?_
    refine den_iconst (pc := 231) d11_villageLine_231 ?_
    refine den_asrt (fun a39 => ?_)
    refine den_iaload (pc := 232) sh_72 (sz_lt (by decide)) rfl a39 d11_villageLine_232 ?_
    refine den_imul (pc := 233) d11_villageLine_233 ?_
    refine den_iadd (pc := 234) d11_villageLine_234 ?_
    refine den_iload_n (pc := 235) d11_villageLine_235 rfl rfl ?_
    refine den_asrt (fun a40 => ?_)
    refine den_iastore (pc := 236) sh_72 (sz_lt (by decide)) rfl a40 d11_villageLine_236 ?_
    refine den_ltH (fun h41 m42 => ?_)
    refine den_aload_n (pc := 237) d11_villageLine_237 rfl rfl ?_
    refine den_getR (pc := 238) (b := 72) fa_11_17 (ok_69 _) rfl d11_villageLine_238 ?_
    refine den_bipush (pc := 241) d11_villageLine_241 (by decide) ?_
    refine den_iconst (pc := 243) d11_villageLine_243 ?_
    refine den_aload_n (pc := 244) d11_villageLine_244 rfl rfl ?_
    refine den_getR (pc := 245) (b := 72) fa_11_17 (ok_69 _) rfl d11_villageLine_245 ?_
    refine den_iconst (pc := 248) d11_villageLine_248 ?_
    refine den_asrt (fun a43 => ?_)
    refine den_iaload (pc := 249) sh_72 (sz_lt (by decide)) rfl a43 d11_villageLine_249 ?_
    refine den_imul (pc := 250) d11_villageLine_250 ?_
    refine den_iadd (pc := 251) d11_villageLine_251 ?_
    refine den_iload (pc := 252) d11_villageLine_252 rfl ?_
    refine den_asrt (fun a44 => ?_)
    refine den_iastore (pc := 254) sh_72 (sz_lt (by decide)) rfl a44 d11_villageLine_254 ?_
    refine den_ltH (fun h45 m46 => ?_)
    refine den_aload_n (pc := 255) d11_villageLine_255 rfl rfl ?_
    refine den_getR (pc := 256) (b := 72) fa_11_17 (ok_69 _) rfl d11_villageLine_256 ?_
    refine den_iconst (pc := 259) d11_villageLine_259 ?_
    refine den_dup2 (pc := 260) d11_villageLine_260 rfl rfl ?_
    refine den_asrt (fun a47 => ?_)
    refine den_iaload (pc := 261) sh_72 (sz_lt (by decide)) rfl a47 d11_villageLine_261 ?_
    refine den_iconst (pc := 262) d11_villageLine_262 ?_
    refine den_iadd (pc := 263) d11_villageLine_263 ?_
    refine den_asrt (fun a48 => ?_)
    refine den_iastore (pc := 264) sh_72 (sz_lt (by decide)) rfl a48 d11_villageLine_264 ?_
    refine den_ltH (fun h49 m50 => ?_)
    refine den_goto (pc := 265) (tgt := 351) d11_villageLine_265 (by decide) ?_
    refine den_aload_n (pc := 351) d11_villageLine_351 rfl rfl ?_
    refine den_callVV (pc := 352) (As := []) fv_11_159 rfl rfl (ok_69 _) (Nat.le_of_ble_eq_true rfl) (Nat.le_trans (by decide) hd) d11_villageLine_352 (c11_endsLine l G h49) (fun r51 h52 m53 o54 => ?_)
    exact den_vret (pc := 355) rfl d11_villageLine_355
  · refine den_goto (pc := 217) (tgt := 351) d11_villageLine_217 (by decide) ?_
    refine den_aload_n (pc := 351) d11_villageLine_351 rfl rfl ?_
    refine den_callVV (pc := 352) (As := []) fv_11_159 rfl rfl (ok_69 _) (Nat.le_of_ble_eq_true rfl) (Nat.le_trans (by decide) hd) d11_villageLine_352 (c11_endsLine l G h35) (fun r55 h56 m57 o58 => ?_)
    exact den_vret (pc := 355) rfl d11_villageLine_355
def b11_villageLine_323 (x3 : Int) (x4 : Int) (s0 : Int) (h : AH) : Option (Int × AH) :=
  lt (wr h 69 10 s0) fun h59 =>
  bnd (f11_numbered 0 9 h59) fun r61 h62 =>
  asrt (0 ≤ w32 ((24 + (6 * x3)) + x4) ∧ w32 ((24 + (6 * x3)) + x4) < 201) <|
  lt (wr h62 72 (w32 ((24 + (6 * x3)) + x4)).toNat r61) fun h66 =>
  bnd (f11_endsLine h66) fun r68 h69 =>
  some (0, h69)
set_option maxRecDepth 100000 in
theorem t11_villageLine_323 (l : Launch) (G : Geo) (d : Nat) (hd : 7 ≤ d) (x3 : Int) (x4 : Int) (s0 : Int) (h : AH) : Den l G m11_villageLine rvV d 323 [some (vA G 69), none, none, some (vI x3), some (vI x4)] [vI s0, vA G 69] h (b11_villageLine_323 x3 x4 s0 h) := by
  unfold b11_villageLine_323
  refine den_putI (pc := 323) fp_11_156 (ok_69 _) d11_villageLine_323 ?_
  refine den_ltH (fun h59 m60 => ?_)
  refine den_aload_n (pc := 326) d11_villageLine_326 rfl rfl ?_
  refine den_getR (pc := 327) (b := 72) fa_11_17 (ok_69 _) rfl d11_villageLine_327 ?_
  refine den_bipush (pc := 330) d11_villageLine_330 (by decide) ?_
  refine den_bipush (pc := 332) d11_villageLine_332 (by decide) ?_
  refine den_iload_n (pc := 334) d11_villageLine_334 rfl rfl ?_
  refine den_imul (pc := 335) d11_villageLine_335 ?_
  refine den_iadd (pc := 336) d11_villageLine_336 ?_
  refine den_iload (pc := 337) d11_villageLine_337 rfl ?_
  refine den_iadd (pc := 339) d11_villageLine_339 ?_
  refine den_aload_n (pc := 340) d11_villageLine_340 rfl rfl ?_
  refine den_iconst (pc := 341) d11_villageLine_341 ?_
  refine den_bipush (pc := 342) d11_villageLine_342 (by decide) ?_
  refine den_callVI (pc := 344) (As := [vI 0, vI 9]) fv_11_146 rfl rfl (ok_69 _) (Nat.le_of_ble_eq_true rfl) (Nat.le_trans (by decide) hd) d11_villageLine_344 (c11_numbered l G 0 9 h59) (fun r61 h62 m63 o64 => ?_)
  refine den_asrt (fun a65 => ?_)
  refine den_iastore (pc := 347) sh_72 (sz_lt (by decide)) rfl a65 d11_villageLine_347 ?_
  refine den_ltH (fun h66 m67 => ?_)
  refine den_goto (pc := 348) (tgt := 351) d11_villageLine_348 (by decide) ?_
  refine den_aload_n (pc := 351) d11_villageLine_351 rfl rfl ?_
  refine den_callVV (pc := 352) (As := []) fv_11_159 rfl rfl (ok_69 _) (Nat.le_of_ble_eq_true rfl) (Nat.le_trans (by decide) hd) d11_villageLine_352 (c11_endsLine l G h66) (fun r68 h69 m70 o71 => ?_)
  exact den_vret (pc := 355) rfl d11_villageLine_355
def b11_villageLine_301 (x3 : Int) (x4 : Int) (s0 : Int) (h : AH) : Option (Int × AH) :=
  lt (wr h 69 9 s0) fun h72 =>
  if w32 x4 ≤ w32 (h72.2 69 10) then
    b11_villageLine_323 x3 x4 (h72.2 69 10) h72
  else
    b11_villageLine_323 x3 x4 x4 h72
set_option maxRecDepth 100000 in
theorem t11_villageLine_301 (l : Launch) (G : Geo) (d : Nat) (hd : 7 ≤ d) (x3 : Int) (x4 : Int) (s0 : Int) (h : AH) : Den l G m11_villageLine rvV d 301 [some (vA G 69), none, none, some (vI x3), some (vI x4)] [vI s0, vA G 69] h (b11_villageLine_301 x3 x4 s0 h) := by
  unfold b11_villageLine_301
  refine den_putI (pc := 301) fp_11_153 (ok_69 _) d11_villageLine_301 ?_
  refine den_ltH (fun h72 m73 => ?_)
  refine den_aload_n (pc := 304) d11_villageLine_304 rfl rfl ?_
  refine den_iload (pc := 305) d11_villageLine_305 rfl ?_
  refine den_aload_n (pc := 307) d11_villageLine_307 rfl rfl ?_
  refine den_getI (pc := 308) fa_11_156 (ok_69 _) d11_villageLine_308 ?_
  refine den_icmp_le (pc := 311) (tgt := 319) d11_villageLine_311 (by decide) rfl rfl (fun _ => ?_) (fun _ => ?_)
  · refine den_aload_n (pc := 319) d11_villageLine_319 rfl rfl ?_
    refine den_getI (pc := 320) fa_11_156 (ok_69 _) d11_villageLine_320 ?_
    exact t11_villageLine_323 l G _ hd x3 x4 (h72.2 69 10) h72
  · refine den_iload (pc := 314) d11_villageLine_314 rfl ?_
    refine den_goto (pc := 316) (tgt := 323) d11_villageLine_316 (by decide) ?_
    exact t11_villageLine_323 l G _ hd x3 x4 x4 h72
def f11_villageLine (h : AH) : Option (Int × AH) :=
  lt (h.2 69 4) fun u74 =>
  bnd (f11_wordIn 1 5 h) fun r75 h76 =>
  if w32 r75 = 1 then
    bnd (f11_numbered 0 8 h76) fun r80 h81 =>
    asrt (0 ≤ w32 0 ∧ w32 0 < 201) <|
    lt (wr h81 72 (w32 0).toNat r80) fun h85 =>
    bnd (f11_endsLine h85) fun r87 h88 =>
    some (0, h88)
  else
  if w32 r75 = 2 then
    bnd (f11_numbered 0 9 h76) fun r92 h93 =>
    asrt (0 ≤ w32 3 ∧ w32 3 < 201) <|
    lt (wr h93 72 (w32 3).toNat r92) fun h97 =>
    bnd (f11_endsLine h97) fun r99 h100 =>
    some (0, h100)
  else
  if w32 r75 = 3 then
    asrt (0 ≤ w32 1 ∧ w32 1 < 201) <|
    if w32 (h76.2 72 (w32 1).toNat) < 6 then
      b11_villageLine_97 h76
    else
      bnd (f11_also 3 u74 h76) fun r105 h106 =>
      b11_villageLine_97 h106
  else
  if w32 r75 = 4 then
    asrt (0 ≤ w32 2 ∧ w32 2 < 201) <|
    if w32 (h76.2 72 (w32 2).toNat) < 4 then
      b11_villageLine_190 h76
    else
      bnd (f11_also 3 u74 h76) fun r111 h112 =>
      b11_villageLine_190 h112
  else
  if w32 r75 = 5 then
    bnd (f11_numbered 0 7 h76) fun r116 h117 =>
    bnd (f11_numbered 0 5 h117) fun r120 h121 =>
    if w32 r116 ≤ w32 (h121.2 69 9) then
      b11_villageLine_301 r116 r120 (h121.2 69 9) h121
    else
      b11_villageLine_301 r116 r120 r116 h121
  else
  bnd (f11_endsLine h76) fun r124 h125 =>
  some (0, h125)
set_option maxRecDepth 100000 in
theorem c11_villageLine (l : Launch) (G : Geo) (h : AH) : Con l G m11_villageLine rvV 7 [vA G 69] h (f11_villageLine  h) := by
  have hd : 7 ≤ 7 := Nat.le_refl _
  refine con_V rfl (by decide) rfl rfl (Nat.le_of_ble_eq_true rfl) (L := [some (vA G 69), none, none, none, none]) ?_
  unfold f11_villageLine
  refine den_aload_n (pc := 0) d11_villageLine_0 rfl rfl ?_
  refine den_getI (pc := 1) fa_11_101 (ok_69 _) d11_villageLine_1 ?_
  refine den_istore_nL (pc := 4) (L2 := fun y => [some (vA G 69), some (vI y), none, none, none]) d11_villageLine_4 rfl (by decide) (fun _ => rfl) (fun u74 => ?_)
  refine den_aload_n (pc := 5) d11_villageLine_5 rfl rfl ?_
  refine den_iconst (pc := 6) d11_villageLine_6 ?_
  refine den_iconst (pc := 7) d11_villageLine_7 ?_
  refine den_callVI (pc := 8) (As := [vI 1, vI 5]) fv_11_150 rfl rfl (ok_69 _) (Nat.le_of_ble_eq_true rfl) (Nat.le_trans (by decide) hd) d11_villageLine_8 (c11_wordIn l G 1 5 h) (fun r75 h76 m77 o78 => ?_)
  refine den_istore_n (pc := 11) (L2 := [some (vA G 69), some (vI u74), some (vI r75), none, none]) d11_villageLine_11 rfl (by decide) rfl ?_
  refine den_iload_n (pc := 12) d11_villageLine_12 rfl rfl ?_
  refine den_ite (fun c79 => ?_) (fun c79 => ?_)
  · refine den_tableIn (pc := 13) (tgt := 48) d11_villageLine_13 (by omega) (by omega) (by rw [c79]; rfl) (by decide) ?_
    refine den_aload_n (pc := 48) d11_villageLine_48 rfl rfl ?_
    refine den_getR (pc := 49) (b := 72) fa_11_17 (ok_69 _) rfl d11_villageLine_49 ?_
    refine den_iconst (pc := 52) d11_villageLine_52 ?_
    refine den_aload_n (pc := 53) d11_villageLine_53 rfl rfl ?_
    refine den_iconst (pc := 54) d11_villageLine_54 ?_
    refine den_bipush (pc := 55) d11_villageLine_55 (by decide) ?_
    refine den_callVI (pc := 57) (As := [vI 0, vI 8]) fv_11_146 rfl rfl (ok_69 _) (Nat.le_of_ble_eq_true rfl) (Nat.le_trans (by decide) hd) d11_villageLine_57 (c11_numbered l G 0 8 h76) (fun r80 h81 m82 o83 => ?_)
    refine den_asrt (fun a84 => ?_)
    refine den_iastore (pc := 60) sh_72 (sz_lt (by decide)) rfl a84 d11_villageLine_60 ?_
    refine den_ltH (fun h85 m86 => ?_)
    refine den_goto (pc := 61) (tgt := 351) d11_villageLine_61 (by decide) ?_
    refine den_aload_n (pc := 351) d11_villageLine_351 rfl rfl ?_
    refine den_callVV (pc := 352) (As := []) fv_11_159 rfl rfl (ok_69 _) (Nat.le_of_ble_eq_true rfl) (Nat.le_trans (by decide) hd) d11_villageLine_352 (c11_endsLine l G h85) (fun r87 h88 m89 o90 => ?_)
    exact den_vret (pc := 355) rfl d11_villageLine_355
  refine den_ite (fun c91 => ?_) (fun c91 => ?_)
  · refine den_tableIn (pc := 13) (tgt := 64) d11_villageLine_13 (by omega) (by omega) (by rw [c91]; rfl) (by decide) ?_
    refine den_aload_n (pc := 64) d11_villageLine_64 rfl rfl ?_
    refine den_getR (pc := 65) (b := 72) fa_11_17 (ok_69 _) rfl d11_villageLine_65 ?_
    refine den_iconst (pc := 68) d11_villageLine_68 ?_
    refine den_aload_n (pc := 69) d11_villageLine_69 rfl rfl ?_
    refine den_iconst (pc := 70) d11_villageLine_70 ?_
    refine den_bipush (pc := 71) d11_villageLine_71 (by decide) ?_
    refine den_callVI (pc := 73) (As := [vI 0, vI 9]) fv_11_146 rfl rfl (ok_69 _) (Nat.le_of_ble_eq_true rfl) (Nat.le_trans (by decide) hd) d11_villageLine_73 (c11_numbered l G 0 9 h76) (fun r92 h93 m94 o95 => ?_)
    refine den_asrt (fun a96 => ?_)
    refine den_iastore (pc := 76) sh_72 (sz_lt (by decide)) rfl a96 d11_villageLine_76 ?_
    refine den_ltH (fun h97 m98 => ?_)
    refine den_goto (pc := 77) (tgt := 351) d11_villageLine_77 (by decide) ?_
    refine den_aload_n (pc := 351) d11_villageLine_351 rfl rfl ?_
    refine den_callVV (pc := 352) (As := []) fv_11_159 rfl rfl (ok_69 _) (Nat.le_of_ble_eq_true rfl) (Nat.le_trans (by decide) hd) d11_villageLine_352 (c11_endsLine l G h97) (fun r99 h100 m101 o102 => ?_)
    exact den_vret (pc := 355) rfl d11_villageLine_355
  refine den_ite (fun c103 => ?_) (fun c103 => ?_)
  · refine den_tableIn (pc := 13) (tgt := 80) d11_villageLine_13 (by omega) (by omega) (by rw [c103]; rfl) (by decide) ?_
    refine den_aload_n (pc := 80) d11_villageLine_80 rfl rfl ?_
    refine den_getR (pc := 81) (b := 72) fa_11_17 (ok_69 _) rfl d11_villageLine_81 ?_
    refine den_iconst (pc := 84) d11_villageLine_84 ?_
    refine den_asrt (fun a104 => ?_)
    refine den_iaload (pc := 85) sh_72 (sz_lt (by decide)) rfl a104 d11_villageLine_85 ?_
    refine den_bipush (pc := 86) d11_villageLine_86 (by decide) ?_
    refine den_icmp_lt (pc := 88) (tgt := 97) d11_villageLine_88 (by decide) rfl (by decide) (fun _ => ?_) (fun _ => ?_)
    · refine den_wk [true, false, false, true, true] rfl ?_
      exact t11_villageLine_97 l G _ hd h76
    · refine den_aload_n (pc := 91) d11_villageLine_91 rfl rfl ?_
      refine den_iconst (pc := 92) d11_villageLine_92 ?_
      refine den_iload_n (pc := 93) d11_villageLine_93 rfl rfl ?_
      refine den_callVV (pc := 94) (As := [vI 3, vI u74]) fv_11_139 rfl rfl (ok_69 _) (Nat.le_of_ble_eq_true rfl) (Nat.le_trans (by decide) hd) d11_villageLine_94 (c11_also l G 3 u74 h76) (fun r105 h106 m107 o108 => ?_)
      refine den_wk [true, false, false, true, true] rfl ?_
      exact t11_villageLine_97 l G _ hd h106
  refine den_ite (fun c109 => ?_) (fun c109 => ?_)
  · refine den_tableIn (pc := 13) (tgt := 174) d11_villageLine_13 (by omega) (by omega) (by rw [c109]; rfl) (by decide) ?_
    refine den_aload_n (pc := 174) d11_villageLine_174 rfl rfl ?_
    refine den_getR (pc := 175) (b := 72) fa_11_17 (ok_69 _) rfl d11_villageLine_175 ?_
    refine den_iconst (pc := 178) d11_villageLine_178 ?_
    refine den_asrt (fun a110 => ?_)
    refine den_iaload (pc := 179) sh_72 (sz_lt (by decide)) rfl a110 d11_villageLine_179 ?_
    refine den_iconst (pc := 180) d11_villageLine_180 ?_
    refine den_icmp_lt (pc := 181) (tgt := 190) d11_villageLine_181 (by decide) rfl (by decide) (fun _ => ?_) (fun _ => ?_)
    · refine den_wk [true, false, false, true, true] rfl ?_
      exact t11_villageLine_190 l G _ hd h76
    · refine den_aload_n (pc := 184) d11_villageLine_184 rfl rfl ?_
      refine den_iconst (pc := 185) d11_villageLine_185 ?_
      refine den_iload_n (pc := 186) d11_villageLine_186 rfl rfl ?_
      refine den_callVV (pc := 187) (As := [vI 3, vI u74]) fv_11_139 rfl rfl (ok_69 _) (Nat.le_of_ble_eq_true rfl) (Nat.le_trans (by decide) hd) d11_villageLine_187 (c11_also l G 3 u74 h76) (fun r111 h112 m113 o114 => ?_)
      refine den_wk [true, false, false, true, true] rfl ?_
      exact t11_villageLine_190 l G _ hd h112
  refine den_ite (fun c115 => ?_) (fun c115 => ?_)
  · refine den_tableIn (pc := 13) (tgt := 268) d11_villageLine_13 (by omega) (by omega) (by rw [c115]; rfl) (by decide) ?_
    refine den_aload_n (pc := 268) d11_villageLine_268 rfl rfl ?_
    refine den_iconst (pc := 269) d11_villageLine_269 ?_
    refine den_bipush (pc := 270) d11_villageLine_270 (by decide) ?_
    refine den_callVI (pc := 272) (As := [vI 0, vI 7]) fv_11_146 rfl rfl (ok_69 _) (Nat.le_of_ble_eq_true rfl) (Nat.le_trans (by decide) hd) d11_villageLine_272 (c11_numbered l G 0 7 h76) (fun r116 h117 m118 o119 => ?_)
    refine den_istore_n (pc := 275) (L2 := [some (vA G 69), some (vI u74), some (vI r75), some (vI r116), none]) d11_villageLine_275 rfl (by decide) rfl ?_
    refine den_aload_n (pc := 276) d11_villageLine_276 rfl rfl ?_
    refine den_iconst (pc := 277) d11_villageLine_277 ?_
    refine den_iconst (pc := 278) d11_villageLine_278 ?_
    refine den_callVI (pc := 279) (As := [vI 0, vI 5]) fv_11_146 rfl rfl (ok_69 _) (Nat.le_of_ble_eq_true rfl) (Nat.le_trans (by decide) hd) d11_villageLine_279 (c11_numbered l G 0 5 h117) (fun r120 h121 m122 o123 => ?_)
    refine den_istore (pc := 282) (L2 := [some (vA G 69), some (vI u74), some (vI r75), some (vI r116), some (vI r120)]) d11_villageLine_282 (by decide) rfl ?_
    refine den_aload_n (pc := 284) d11_villageLine_284 rfl rfl ?_
    refine den_iload_n (pc := 285) d11_villageLine_285 rfl rfl ?_
    refine den_aload_n (pc := 286) d11_villageLine_286 rfl rfl ?_
    refine den_getI (pc := 287) fa_11_153 (ok_69 _) d11_villageLine_287 ?_
    refine den_icmp_le (pc := 290) (tgt := 297) d11_villageLine_290 (by decide) rfl rfl (fun _ => ?_) (fun _ => ?_)
    · refine den_aload_n (pc := 297) d11_villageLine_297 rfl rfl ?_
      refine den_getI (pc := 298) fa_11_153 (ok_69 _) d11_villageLine_298 ?_
      refine den_wk [true, false, false, true, true] rfl ?_
      exact t11_villageLine_301 l G _ hd r116 r120 (h121.2 69 9) h121
    · refine den_iload_n (pc := 293) d11_villageLine_293 rfl rfl ?_
      refine den_goto (pc := 294) (tgt := 301) d11_villageLine_294 (by decide) ?_
      refine den_wk [true, false, false, true, true] rfl ?_
      exact t11_villageLine_301 l G _ hd r116 r120 r116 h121
  refine den_tableOut (pc := 13) (tgt := 351) d11_villageLine_13 (by omega) (by decide) ?_
  refine den_aload_n (pc := 351) d11_villageLine_351 rfl rfl ?_
  refine den_callVV (pc := 352) (As := []) fv_11_159 rfl rfl (ok_69 _) (Nat.le_of_ble_eq_true rfl) (Nat.le_trans (by decide) hd) d11_villageLine_352 (c11_endsLine l G h76) (fun r124 h125 m126 o127 => ?_)
  exact den_vret (pc := 355) rfl d11_villageLine_355
theorem d11_dayLine_0 : decode m11_dayLine.2.1 0 = .ok (.aload_n 0, 1) := by decide +kernel
theorem d11_dayLine_1 : decode m11_dayLine.2.1 1 = .ok (.getfield 101, 3) := by decide +kernel
theorem d11_dayLine_4 : decode m11_dayLine.2.1 4 = .ok (.istore_n 1, 1) := by decide +kernel
theorem d11_dayLine_5 : decode m11_dayLine.2.1 5 = .ok (.aload_n 0, 1) := by decide +kernel
theorem d11_dayLine_6 : decode m11_dayLine.2.1 6 = .ok (.bipush 6, 2) := by decide +kernel
theorem d11_dayLine_8 : decode m11_dayLine.2.1 8 = .ok (.bipush 10, 2) := by decide +kernel
theorem d11_dayLine_10 : decode m11_dayLine.2.1 10 = .ok (.invokevirtual 150, 3) := by decide +kernel
theorem d11_dayLine_13 : decode m11_dayLine.2.1 13 = .ok (.bipush 6, 2) := by decide +kernel
theorem d11_dayLine_15 : decode m11_dayLine.2.1 15 = .ok (.isub, 1) := by decide +kernel
theorem d11_dayLine_16 : decode m11_dayLine.2.1 16 = .ok (.istore_n 2, 1) := by decide +kernel
theorem d11_dayLine_17 : decode m11_dayLine.2.1 17 = .ok (.aload_n 0, 1) := by decide +kernel
theorem d11_dayLine_18 : decode m11_dayLine.2.1 18 = .ok (.getfield 128, 3) := by decide +kernel
theorem d11_dayLine_21 : decode m11_dayLine.2.1 21 = .ok (.ifCond .ne 20, 3) := by decide +kernel
theorem d11_dayLine_24 : decode m11_dayLine.2.1 24 = .ok (.aload_n 0, 1) := by decide +kernel
theorem d11_dayLine_25 : decode m11_dayLine.2.1 25 = .ok (.getfield 17, 3) := by decide +kernel
theorem d11_dayLine_28 : decode m11_dayLine.2.1 28 = .ok (.iconst 0, 1) := by decide +kernel
theorem d11_dayLine_29 : decode m11_dayLine.2.1 29 = .ok (.iaload, 1) := by decide +kernel
theorem d11_dayLine_30 : decode m11_dayLine.2.1 30 = .ok (.bipush 40, 2) := by decide +kernel
theorem d11_dayLine_32 : decode m11_dayLine.2.1 32 = .ok (.if_icmp .lt 9, 3) := by decide +kernel
theorem d11_dayLine_35 : decode m11_dayLine.2.1 35 = .ok (.aload_n 0, 1) := by decide +kernel
theorem d11_dayLine_36 : decode m11_dayLine.2.1 36 = .ok (.iconst 3, 1) := by decide +kernel
theorem d11_dayLine_37 : decode m11_dayLine.2.1 37 = .ok (.iload_n 1, 1) := by decide +kernel
theorem d11_dayLine_38 : decode m11_dayLine.2.1 38 = .ok (.invokevirtual 139, 3) := by decide +kernel
theorem d11_dayLine_41 : decode m11_dayLine.2.1 41 = .ok (.iload_n 2, 1) := by decide +kernel
theorem d11_dayLine_42 : decode m11_dayLine.2.1 42 = .ok (.iconst 4, 1) := by decide +kernel
theorem d11_dayLine_43 : decode m11_dayLine.2.1 43 = .ok (.if_icmp .ne 7, 3) := by decide +kernel
theorem d11_dayLine_46 : decode m11_dayLine.2.1 46 = .ok (.iconst (-1), 1) := by decide +kernel
theorem d11_dayLine_47 : decode m11_dayLine.2.1 47 = .ok (.goto 19, 3) := by decide +kernel
theorem d11_dayLine_50 : decode m11_dayLine.2.1 50 = .ok (.aload_n 0, 1) := by decide +kernel
theorem d11_dayLine_51 : decode m11_dayLine.2.1 51 = .ok (.iconst 0, 1) := by decide +kernel
theorem d11_dayLine_52 : decode m11_dayLine.2.1 52 = .ok (.iload_n 2, 1) := by decide +kernel
theorem d11_dayLine_53 : decode m11_dayLine.2.1 53 = .ok (.iconst 3, 1) := by decide +kernel
theorem d11_dayLine_54 : decode m11_dayLine.2.1 54 = .ok (.if_icmp .ne 7, 3) := by decide +kernel
theorem d11_dayLine_57 : decode m11_dayLine.2.1 57 = .ok (.iconst 5, 1) := by decide +kernel
theorem d11_dayLine_58 : decode m11_dayLine.2.1 58 = .ok (.goto 5, 3) := by decide +kernel
theorem d11_dayLine_61 : decode m11_dayLine.2.1 61 = .ok (.bipush 7, 2) := by decide +kernel
theorem d11_dayLine_63 : decode m11_dayLine.2.1 63 = .ok (.invokevirtual 146, 3) := by decide +kernel
theorem d11_dayLine_66 : decode m11_dayLine.2.1 66 = .ok (.istore_n 3, 1) := by decide +kernel
theorem d11_dayLine_67 : decode m11_dayLine.2.1 67 = .ok (.iload_n 2, 1) := by decide +kernel
theorem d11_dayLine_68 : decode m11_dayLine.2.1 68 = .ok (.iconst 4, 1) := by decide +kernel
theorem d11_dayLine_69 : decode m11_dayLine.2.1 69 = .ok (.if_icmp .ne 7, 3) := by decide +kernel
theorem d11_dayLine_72 : decode m11_dayLine.2.1 72 = .ok (.iconst (-1), 1) := by decide +kernel
theorem d11_dayLine_73 : decode m11_dayLine.2.1 73 = .ok (.goto 26, 3) := by decide +kernel
theorem d11_dayLine_76 : decode m11_dayLine.2.1 76 = .ok (.iload_n 2, 1) := by decide +kernel
theorem d11_dayLine_77 : decode m11_dayLine.2.1 77 = .ok (.iconst 3, 1) := by decide +kernel
theorem d11_dayLine_78 : decode m11_dayLine.2.1 78 = .ok (.if_icmp .ne 13, 3) := by decide +kernel
theorem d11_dayLine_81 : decode m11_dayLine.2.1 81 = .ok (.aload_n 0, 1) := by decide +kernel
theorem d11_dayLine_82 : decode m11_dayLine.2.1 82 = .ok (.iconst 0, 1) := by decide +kernel
theorem d11_dayLine_83 : decode m11_dayLine.2.1 83 = .ok (.bipush 9, 2) := by decide +kernel
theorem d11_dayLine_85 : decode m11_dayLine.2.1 85 = .ok (.invokevirtual 146, 3) := by decide +kernel
theorem d11_dayLine_88 : decode m11_dayLine.2.1 88 = .ok (.goto 11, 3) := by decide +kernel
theorem d11_dayLine_91 : decode m11_dayLine.2.1 91 = .ok (.aload_n 0, 1) := by decide +kernel
theorem d11_dayLine_92 : decode m11_dayLine.2.1 92 = .ok (.iconst 0, 1) := by decide +kernel
theorem d11_dayLine_93 : decode m11_dayLine.2.1 93 = .ok (.bipush 7, 2) := by decide +kernel
theorem d11_dayLine_95 : decode m11_dayLine.2.1 95 = .ok (.iload_n 3, 1) := by decide +kernel
theorem d11_dayLine_96 : decode m11_dayLine.2.1 96 = .ok (.invokevirtual 162, 3) := by decide +kernel
theorem d11_dayLine_99 : decode m11_dayLine.2.1 99 = .ok (.istore 4, 2) := by decide +kernel
theorem d11_dayLine_101 : decode m11_dayLine.2.1 101 = .ok (.iload_n 2, 1) := by decide +kernel
theorem d11_dayLine_102 : decode m11_dayLine.2.1 102 = .ok (.iconst 2, 1) := by decide +kernel
theorem d11_dayLine_103 : decode m11_dayLine.2.1 103 = .ok (.if_icmp .le 7, 3) := by decide +kernel
theorem d11_dayLine_106 : decode m11_dayLine.2.1 106 = .ok (.iconst (-1), 1) := by decide +kernel
theorem d11_dayLine_107 : decode m11_dayLine.2.1 107 = .ok (.goto 9, 3) := by decide +kernel
theorem d11_dayLine_110 : decode m11_dayLine.2.1 110 = .ok (.aload_n 0, 1) := by decide +kernel
theorem d11_dayLine_111 : decode m11_dayLine.2.1 111 = .ok (.iconst 0, 1) := by decide +kernel
theorem d11_dayLine_112 : decode m11_dayLine.2.1 112 = .ok (.iconst 5, 1) := by decide +kernel
theorem d11_dayLine_113 : decode m11_dayLine.2.1 113 = .ok (.invokevirtual 146, 3) := by decide +kernel
theorem d11_dayLine_116 : decode m11_dayLine.2.1 116 = .ok (.istore 5, 2) := by decide +kernel
theorem d11_dayLine_118 : decode m11_dayLine.2.1 118 = .ok (.iload_n 2, 1) := by decide +kernel
theorem d11_dayLine_119 : decode m11_dayLine.2.1 119 = .ok (.ifCond .le 7, 3) := by decide +kernel
theorem d11_dayLine_122 : decode m11_dayLine.2.1 122 = .ok (.iconst (-1), 1) := by decide +kernel
theorem d11_dayLine_123 : decode m11_dayLine.2.1 123 = .ok (.goto 9, 3) := by decide +kernel
theorem d11_dayLine_126 : decode m11_dayLine.2.1 126 = .ok (.aload_n 0, 1) := by decide +kernel
theorem d11_dayLine_127 : decode m11_dayLine.2.1 127 = .ok (.iconst 0, 1) := by decide +kernel
theorem d11_dayLine_128 : decode m11_dayLine.2.1 128 = .ok (.iconst 3, 1) := by decide +kernel
theorem d11_dayLine_129 : decode m11_dayLine.2.1 129 = .ok (.invokevirtual 146, 3) := by decide +kernel
theorem d11_dayLine_132 : decode m11_dayLine.2.1 132 = .ok (.istore 6, 2) := by decide +kernel
theorem d11_dayLine_134 : decode m11_dayLine.2.1 134 = .ok (.aload_n 0, 1) := by decide +kernel
theorem d11_dayLine_135 : decode m11_dayLine.2.1 135 = .ok (.getfield 17, 3) := by decide +kernel
theorem d11_dayLine_138 : decode m11_dayLine.2.1 138 = .ok (.iconst 0, 1) := by decide +kernel
theorem d11_dayLine_139 : decode m11_dayLine.2.1 139 = .ok (.iaload, 1) := by decide +kernel
theorem d11_dayLine_140 : decode m11_dayLine.2.1 140 = .ok (.bipush 40, 2) := by decide +kernel
theorem d11_dayLine_142 : decode m11_dayLine.2.1 142 = .ok (.if_icmp .ge 76, 3) := by decide +kernel
theorem d11_dayLine_145 : decode m11_dayLine.2.1 145 = .ok (.iconst 1, 1) := by decide +kernel
theorem d11_dayLine_146 : decode m11_dayLine.2.1 146 = .ok (.iconst 5, 1) := by decide +kernel
theorem d11_dayLine_147 : decode m11_dayLine.2.1 147 = .ok (.aload_n 0, 1) := by decide +kernel
theorem d11_dayLine_148 : decode m11_dayLine.2.1 148 = .ok (.getfield 17, 3) := by decide +kernel
theorem d11_dayLine_151 : decode m11_dayLine.2.1 151 = .ok (.iconst 0, 1) := by decide +kernel
theorem d11_dayLine_152 : decode m11_dayLine.2.1 152 = .ok (.iaload, 1) := by decide +kernel
theorem d11_dayLine_153 : decode m11_dayLine.2.1 153 = .ok (.imul, 1) := by decide +kernel
theorem d11_dayLine_154 : decode m11_dayLine.2.1 154 = .ok (.iadd, 1) := by decide +kernel
theorem d11_dayLine_155 : decode m11_dayLine.2.1 155 = .ok (.istore 7, 2) := by decide +kernel
theorem d11_dayLine_157 : decode m11_dayLine.2.1 157 = .ok (.aload_n 0, 1) := by decide +kernel
theorem d11_dayLine_158 : decode m11_dayLine.2.1 158 = .ok (.getfield 17, 3) := by decide +kernel
theorem d11_dayLine_161 : decode m11_dayLine.2.1 161 = .ok (.iload 7, 2) := by decide +kernel
theorem d11_dayLine_163 : decode m11_dayLine.2.1 163 = .ok (.iload_n 2, 1) := by decide +kernel
theorem d11_dayLine_164 : decode m11_dayLine.2.1 164 = .ok (.iastore, 1) := by decide +kernel
theorem d11_dayLine_165 : decode m11_dayLine.2.1 165 = .ok (.aload_n 0, 1) := by decide +kernel
theorem d11_dayLine_166 : decode m11_dayLine.2.1 166 = .ok (.getfield 17, 3) := by decide +kernel
theorem d11_dayLine_169 : decode m11_dayLine.2.1 169 = .ok (.iload 7, 2) := by decide +kernel
theorem d11_dayLine_171 : decode m11_dayLine.2.1 171 = .ok (.iconst 1, 1) := by decide +kernel
theorem d11_dayLine_172 : decode m11_dayLine.2.1 172 = .ok (.iadd, 1) := by decide +kernel
theorem d11_dayLine_173 : decode m11_dayLine.2.1 173 = .ok (.iload_n 3, 1) := by decide +kernel
theorem d11_dayLine_174 : decode m11_dayLine.2.1 174 = .ok (.iastore, 1) := by decide +kernel
theorem d11_dayLine_175 : decode m11_dayLine.2.1 175 = .ok (.aload_n 0, 1) := by decide +kernel
theorem d11_dayLine_176 : decode m11_dayLine.2.1 176 = .ok (.getfield 17, 3) := by decide +kernel
theorem d11_dayLine_179 : decode m11_dayLine.2.1 179 = .ok (.iload 7, 2) := by decide +kernel
theorem d11_dayLine_181 : decode m11_dayLine.2.1 181 = .ok (.iconst 2, 1) := by decide +kernel
theorem d11_dayLine_182 : decode m11_dayLine.2.1 182 = .ok (.iadd, 1) := by decide +kernel
theorem d11_dayLine_183 : decode m11_dayLine.2.1 183 = .ok (.iload 4, 2) := by decide +kernel
theorem d11_dayLine_185 : decode m11_dayLine.2.1 185 = .ok (.iastore, 1) := by decide +kernel
theorem d11_dayLine_186 : decode m11_dayLine.2.1 186 = .ok (.aload_n 0, 1) := by decide +kernel
theorem d11_dayLine_187 : decode m11_dayLine.2.1 187 = .ok (.getfield 17, 3) := by decide +kernel
theorem d11_dayLine_190 : decode m11_dayLine.2.1 190 = .ok (.iload 7, 2) := by decide +kernel
theorem d11_dayLine_192 : decode m11_dayLine.2.1 192 = .ok (.iconst 3, 1) := by decide +kernel
theorem d11_dayLine_193 : decode m11_dayLine.2.1 193 = .ok (.iadd, 1) := by decide +kernel
theorem d11_dayLine_194 : decode m11_dayLine.2.1 194 = .ok (.iload 5, 2) := by decide +kernel
theorem d11_dayLine_196 : decode m11_dayLine.2.1 196 = .ok (.iastore, 1) := by decide +kernel
theorem d11_dayLine_197 : decode m11_dayLine.2.1 197 = .ok (.aload_n 0, 1) := by decide +kernel
theorem d11_dayLine_198 : decode m11_dayLine.2.1 198 = .ok (.getfield 17, 3) := by decide +kernel
theorem d11_dayLine_201 : decode m11_dayLine.2.1 201 = .ok (.iload 7, 2) := by decide +kernel
theorem d11_dayLine_203 : decode m11_dayLine.2.1 203 = .ok (.iconst 4, 1) := by decide +kernel
theorem d11_dayLine_204 : decode m11_dayLine.2.1 204 = .ok (.iadd, 1) := by decide +kernel
theorem d11_dayLine_205 : decode m11_dayLine.2.1 205 = .ok (.iload 6, 2) := by decide +kernel
theorem d11_dayLine_207 : decode m11_dayLine.2.1 207 = .ok (.iastore, 1) := by decide +kernel
theorem d11_dayLine_208 : decode m11_dayLine.2.1 208 = .ok (.aload_n 0, 1) := by decide +kernel
theorem d11_dayLine_209 : decode m11_dayLine.2.1 209 = .ok (.getfield 17, 3) := by decide +kernel
theorem d11_dayLine_212 : decode m11_dayLine.2.1 212 = .ok (.iconst 0, 1) := by decide +kernel
theorem d11_dayLine_213 : decode m11_dayLine.2.1 213 = .ok (.dup2, 1) := by decide +kernel
theorem d11_dayLine_214 : decode m11_dayLine.2.1 214 = .ok (.iaload, 1) := by decide +kernel
theorem d11_dayLine_215 : decode m11_dayLine.2.1 215 = .ok (.iconst 1, 1) := by decide +kernel
theorem d11_dayLine_216 : decode m11_dayLine.2.1 216 = .ok (.iadd, 1) := by decide +kernel
theorem d11_dayLine_217 : decode m11_dayLine.2.1 217 = .ok (.iastore, 1) := by decide +kernel
theorem d11_dayLine_218 : decode m11_dayLine.2.1 218 = .ok (.aload_n 0, 1) := by decide +kernel
theorem d11_dayLine_219 : decode m11_dayLine.2.1 219 = .ok (.invokevirtual 159, 3) := by decide +kernel
theorem d11_dayLine_222 : decode m11_dayLine.2.1 222 = .ok (.return_, 1) := by decide +kernel
def b11_dayLine_132 (x2 : Int) (x3 : Int) (x4 : Int) (x5 : Int) (s0 : Int) (h : AH) : Option (Int × AH) :=
  asrt (0 ≤ w32 0 ∧ w32 0 < 201) <|
  if 40 ≤ w32 (h.2 72 (w32 0).toNat) then
    bnd (f11_endsLine h) fun r2 h3 =>
    some (0, h3)
  else
    asrt (0 ≤ w32 0 ∧ w32 0 < 201) <|
    lt (1 + (5 * (h.2 72 (w32 0).toNat))) fun u7 =>
    asrt (0 ≤ w32 u7 ∧ w32 u7 < 201) <|
    lt (wr h 72 (w32 u7).toNat x2) fun h9 =>
    asrt (0 ≤ w32 (u7 + 1) ∧ w32 (u7 + 1) < 201) <|
    lt (wr h9 72 (w32 (u7 + 1)).toNat x3) fun h12 =>
    asrt (0 ≤ w32 (u7 + 2) ∧ w32 (u7 + 2) < 201) <|
    lt (wr h12 72 (w32 (u7 + 2)).toNat x4) fun h15 =>
    asrt (0 ≤ w32 (u7 + 3) ∧ w32 (u7 + 3) < 201) <|
    lt (wr h15 72 (w32 (u7 + 3)).toNat x5) fun h18 =>
    asrt (0 ≤ w32 (u7 + 4) ∧ w32 (u7 + 4) < 201) <|
    lt (wr h18 72 (w32 (u7 + 4)).toNat s0) fun h21 =>
    asrt (0 ≤ w32 0 ∧ w32 0 < 201) <|
    asrt (0 ≤ w32 0 ∧ w32 0 < 201) <|
    lt (wr h21 72 (w32 0).toNat ((h21.2 72 (w32 0).toNat) + 1)) fun h25 =>
    bnd (f11_endsLine h25) fun r27 h28 =>
    some (0, h28)
set_option maxRecDepth 100000 in
theorem t11_dayLine_132 (l : Launch) (G : Geo) (d : Nat) (hd : 8 ≤ d) (x2 : Int) (x3 : Int) (x4 : Int) (x5 : Int) (s0 : Int) (h : AH) : Den l G m11_dayLine rvV d 132 [some (vA G 69), none, some (vI x2), some (vI x3), some (vI x4), some (vI x5), none, none] [vI s0] h (b11_dayLine_132 x2 x3 x4 x5 s0 h) := by
  unfold b11_dayLine_132
  refine den_istore (pc := 132) (L2 := [some (vA G 69), none, some (vI x2), some (vI x3), some (vI x4), some (vI x5), some (vI s0), none]) d11_dayLine_132 (by decide) rfl ?_
  refine den_aload_n (pc := 134) d11_dayLine_134 rfl rfl ?_
  refine den_getR (pc := 135) (b := 72) fa_11_17 (ok_69 _) rfl d11_dayLine_135 ?_
  refine den_iconst (pc := 138) d11_dayLine_138 ?_
  refine den_asrt (fun a1 => ?_)
  refine den_iaload (pc := 139) sh_72 (sz_lt (by decide)) rfl a1 d11_dayLine_139 ?_
  refine den_bipush (pc := 140) d11_dayLine_140 (by decide) ?_
  refine den_icmp_ge (pc := 142) (tgt := 218) d11_dayLine_142 (by decide) rfl (by decide) (fun _ => ?_) (fun _ => ?_)
  · refine den_aload_n (pc := 218) d11_dayLine_218 rfl rfl ?_
    refine den_callVV (pc := 219) (As := []) fv_11_159 rfl rfl (ok_69 _) (Nat.le_of_ble_eq_true rfl) (Nat.le_trans (by decide) hd) d11_dayLine_219 (c11_endsLine l G h) (fun r2 h3 m4 o5 => ?_)
    exact den_vret (pc := 222) rfl d11_dayLine_222
  · refine den_iconst (pc := 145) d11_dayLine_145 ?_
    refine den_iconst (pc := 146) d11_dayLine_146 ?_
    refine den_aload_n (pc := 147) d11_dayLine_147 rfl rfl ?_
    refine den_getR (pc := 148) (b := 72) fa_11_17 (ok_69 _) rfl d11_dayLine_148 ?_
    refine den_iconst (pc := 151) d11_dayLine_151 ?_
    refine den_asrt (fun a6 => ?_)
    refine den_iaload (pc := 152) sh_72 (sz_lt (by decide)) rfl a6 d11_dayLine_152 ?_
    refine den_imul (pc := 153) d11_dayLine_153 ?_
    refine den_iadd (pc := 154) d11_dayLine_154 ?_
    refine den_istoreL (pc := 155) (L2 := fun y => [some (vA G 69), none, some (vI x2), some (vI x3), some (vI x4), some (vI x5), some (vI s0), some (vI y)]) d11_dayLine_155 (by decide) (fun _ => rfl) (fun u7 => ?_)
    refine den_aload_n (pc := 157) d11_dayLine_157 rfl rfl ?_
    refine den_getR (pc := 158) (b := 72) fa_11_17 (ok_69 _) rfl d11_dayLine_158 ?_
    refine den_iload (pc := 161) d11_dayLine_161 rfl ?_
    refine den_iload_n (pc := 163) d11_dayLine_163 rfl rfl ?_
    refine den_asrt (fun a8 => ?_)
    refine den_iastore (pc := 164) sh_72 (sz_lt (by decide)) rfl a8 d11_dayLine_164 ?_
    refine den_ltH (fun h9 m10 => ?_)
    refine den_aload_n (pc := 165) d11_dayLine_165 rfl rfl ?_
    refine den_getR (pc := 166) (b := 72) fa_11_17 (ok_69 _) rfl d11_dayLine_166 ?_
    refine den_iload (pc := 169) d11_dayLine_169 rfl ?_
    refine den_iconst (pc := 171) d11_dayLine_171 ?_
    refine den_iadd (pc := 172) d11_dayLine_172 ?_
    refine den_iload_n (pc := 173) d11_dayLine_173 rfl rfl ?_
    refine den_asrt (fun a11 => ?_)
    refine den_iastore (pc := 174) sh_72 (sz_lt (by decide)) rfl a11 d11_dayLine_174 ?_
    refine den_ltH (fun h12 m13 => ?_)
    refine den_aload_n (pc := 175) d11_dayLine_175 rfl rfl ?_
    refine den_getR (pc := 176) (b := 72) fa_11_17 (ok_69 _) rfl d11_dayLine_176 ?_
    refine den_iload (pc := 179) d11_dayLine_179 rfl ?_
    refine den_iconst (pc := 181) d11_dayLine_181 ?_
    refine den_iadd (pc := 182) d11_dayLine_182 ?_
    refine den_iload (pc := 183) d11_dayLine_183 rfl ?_
    refine den_asrt (fun a14 => ?_)
    refine den_iastore (pc := 185) sh_72 (sz_lt (by decide)) rfl a14 d11_dayLine_185 ?_
    refine den_ltH (fun h15 m16 => ?_)
    refine den_aload_n (pc := 186) d11_dayLine_186 rfl rfl ?_
    refine den_getR (pc := 187) (b := 72) fa_11_17 (ok_69 _) rfl d11_dayLine_187 ?_
    refine den_iload (pc := 190) d11_dayLine_190 rfl ?_
    refine den_iconst (pc := 192) d11_dayLine_192 ?_
    refine den_iadd (pc := 193) d11_dayLine_193 ?_
    refine den_iload (pc := 194) d11_dayLine_194 rfl ?_
    refine den_asrt (fun a17 => ?_)
    refine den_iastore (pc := 196) sh_72 (sz_lt (by decide)) rfl a17 d11_dayLine_196 ?_
    refine den_ltH (fun h18 m19 => ?_)
    refine den_aload_n (pc := 197) d11_dayLine_197 rfl rfl ?_
    refine den_getR (pc := 198) (b := 72) fa_11_17 (ok_69 _) rfl d11_dayLine_198 ?_
    refine den_iload (pc := 201) d11_dayLine_201 rfl ?_
    refine den_iconst (pc := 203) d11_dayLine_203 ?_
    refine den_iadd (pc := 204) d11_dayLine_204 ?_
    refine den_iload (pc := 205) d11_dayLine_205 rfl ?_
    refine den_asrt (fun a20 => ?_)
    refine den_iastore (pc := 207) sh_72 (sz_lt (by decide)) rfl a20 d11_dayLine_207 ?_
    refine den_ltH (fun h21 m22 => ?_)
    refine den_aload_n (pc := 208) d11_dayLine_208 rfl rfl ?_
    refine den_getR (pc := 209) (b := 72) fa_11_17 (ok_69 _) rfl d11_dayLine_209 ?_
    refine den_iconst (pc := 212) d11_dayLine_212 ?_
    refine den_dup2 (pc := 213) d11_dayLine_213 rfl rfl ?_
    refine den_asrt (fun a23 => ?_)
    refine den_iaload (pc := 214) sh_72 (sz_lt (by decide)) rfl a23 d11_dayLine_214 ?_
    refine den_iconst (pc := 215) d11_dayLine_215 ?_
    refine den_iadd (pc := 216) d11_dayLine_216 ?_
    refine den_asrt (fun a24 => ?_)
    refine den_iastore (pc := 217) sh_72 (sz_lt (by decide)) rfl a24 d11_dayLine_217 ?_
    refine den_ltH (fun h25 m26 => ?_)
    refine den_aload_n (pc := 218) d11_dayLine_218 rfl rfl ?_
    refine den_callVV (pc := 219) (As := []) fv_11_159 rfl rfl (ok_69 _) (Nat.le_of_ble_eq_true rfl) (Nat.le_trans (by decide) hd) d11_dayLine_219 (c11_endsLine l G h25) (fun r27 h28 m29 o30 => ?_)
    exact den_vret (pc := 222) rfl d11_dayLine_222
def b11_dayLine_116 (x2 : Int) (x3 : Int) (x4 : Int) (s0 : Int) (h : AH) : Option (Int × AH) :=
  if w32 x2 ≤ 0 then
    bnd (f11_numbered 0 3 h) fun r31 h32 =>
    b11_dayLine_132 x2 x3 x4 s0 r31 h32
  else
    b11_dayLine_132 x2 x3 x4 s0 (-1) h
set_option maxRecDepth 100000 in
theorem t11_dayLine_116 (l : Launch) (G : Geo) (d : Nat) (hd : 8 ≤ d) (x2 : Int) (x3 : Int) (x4 : Int) (s0 : Int) (h : AH) : Den l G m11_dayLine rvV d 116 [some (vA G 69), none, some (vI x2), some (vI x3), some (vI x4), none, none, none] [vI s0] h (b11_dayLine_116 x2 x3 x4 s0 h) := by
  unfold b11_dayLine_116
  refine den_istore (pc := 116) (L2 := [some (vA G 69), none, some (vI x2), some (vI x3), some (vI x4), some (vI s0), none, none]) d11_dayLine_116 (by decide) rfl ?_
  refine den_iload_n (pc := 118) d11_dayLine_118 rfl rfl ?_
  refine den_if_le (pc := 119) (tgt := 126) d11_dayLine_119 (by decide) rfl (fun _ => ?_) (fun _ => ?_)
  · refine den_aload_n (pc := 126) d11_dayLine_126 rfl rfl ?_
    refine den_iconst (pc := 127) d11_dayLine_127 ?_
    refine den_iconst (pc := 128) d11_dayLine_128 ?_
    refine den_callVI (pc := 129) (As := [vI 0, vI 3]) fv_11_146 rfl rfl (ok_69 _) (Nat.le_of_ble_eq_true rfl) (Nat.le_trans (by decide) hd) d11_dayLine_129 (c11_numbered l G 0 3 h) (fun r31 h32 m33 o34 => ?_)
    exact t11_dayLine_132 l G _ hd x2 x3 x4 s0 r31 h32
  · refine den_iconst (pc := 122) d11_dayLine_122 ?_
    refine den_goto (pc := 123) (tgt := 132) d11_dayLine_123 (by decide) ?_
    exact t11_dayLine_132 l G _ hd x2 x3 x4 s0 (-1) h
def b11_dayLine_99 (x2 : Int) (x3 : Int) (s0 : Int) (h : AH) : Option (Int × AH) :=
  if w32 x2 ≤ 2 then
    bnd (f11_numbered 0 5 h) fun r35 h36 =>
    b11_dayLine_116 x2 x3 s0 r35 h36
  else
    b11_dayLine_116 x2 x3 s0 (-1) h
set_option maxRecDepth 100000 in
theorem t11_dayLine_99 (l : Launch) (G : Geo) (d : Nat) (hd : 8 ≤ d) (x2 : Int) (x3 : Int) (s0 : Int) (h : AH) : Den l G m11_dayLine rvV d 99 [some (vA G 69), none, some (vI x2), some (vI x3), none, none, none, none] [vI s0] h (b11_dayLine_99 x2 x3 s0 h) := by
  unfold b11_dayLine_99
  refine den_istore (pc := 99) (L2 := [some (vA G 69), none, some (vI x2), some (vI x3), some (vI s0), none, none, none]) d11_dayLine_99 (by decide) rfl ?_
  refine den_iload_n (pc := 101) d11_dayLine_101 rfl rfl ?_
  refine den_iconst (pc := 102) d11_dayLine_102 ?_
  refine den_icmp_le (pc := 103) (tgt := 110) d11_dayLine_103 (by decide) rfl (by decide) (fun _ => ?_) (fun _ => ?_)
  · refine den_aload_n (pc := 110) d11_dayLine_110 rfl rfl ?_
    refine den_iconst (pc := 111) d11_dayLine_111 ?_
    refine den_iconst (pc := 112) d11_dayLine_112 ?_
    refine den_callVI (pc := 113) (As := [vI 0, vI 5]) fv_11_146 rfl rfl (ok_69 _) (Nat.le_of_ble_eq_true rfl) (Nat.le_trans (by decide) hd) d11_dayLine_113 (c11_numbered l G 0 5 h) (fun r35 h36 m37 o38 => ?_)
    exact t11_dayLine_116 l G _ hd x2 x3 s0 r35 h36
  · refine den_iconst (pc := 106) d11_dayLine_106 ?_
    refine den_goto (pc := 107) (tgt := 116) d11_dayLine_107 (by decide) ?_
    exact t11_dayLine_116 l G _ hd x2 x3 s0 (-1) h
def b11_dayLine_66 (x2 : Int) (s0 : Int) (h : AH) : Option (Int × AH) :=
  if ¬ w32 x2 = 4 then
    if ¬ w32 x2 = 3 then
      bnd (f11_unlike 0 7 s0 h) fun r39 h40 =>
      b11_dayLine_99 x2 s0 r39 h40
    else
      bnd (f11_numbered 0 9 h) fun r43 h44 =>
      b11_dayLine_99 x2 s0 r43 h44
  else
    b11_dayLine_99 x2 s0 (-1) h
set_option maxRecDepth 100000 in
theorem t11_dayLine_66 (l : Launch) (G : Geo) (d : Nat) (hd : 8 ≤ d) (x2 : Int) (s0 : Int) (h : AH) : Den l G m11_dayLine rvV d 66 [some (vA G 69), none, some (vI x2), none, none, none, none, none] [vI s0] h (b11_dayLine_66 x2 s0 h) := by
  unfold b11_dayLine_66
  refine den_istore_n (pc := 66) (L2 := [some (vA G 69), none, some (vI x2), some (vI s0), none, none, none, none]) d11_dayLine_66 rfl (by decide) rfl ?_
  refine den_iload_n (pc := 67) d11_dayLine_67 rfl rfl ?_
  refine den_iconst (pc := 68) d11_dayLine_68 ?_
  refine den_icmp_ne (pc := 69) (tgt := 76) d11_dayLine_69 (by decide) rfl (by decide) (fun _ => ?_) (fun _ => ?_)
  · refine den_iload_n (pc := 76) d11_dayLine_76 rfl rfl ?_
    refine den_iconst (pc := 77) d11_dayLine_77 ?_
    refine den_icmp_ne (pc := 78) (tgt := 91) d11_dayLine_78 (by decide) rfl (by decide) (fun _ => ?_) (fun _ => ?_)
    · refine den_aload_n (pc := 91) d11_dayLine_91 rfl rfl ?_
      refine den_iconst (pc := 92) d11_dayLine_92 ?_
      refine den_bipush (pc := 93) d11_dayLine_93 (by decide) ?_
      refine den_iload_n (pc := 95) d11_dayLine_95 rfl rfl ?_
      refine den_callVI (pc := 96) (As := [vI 0, vI 7, vI s0]) fv_11_162 rfl rfl (ok_69 _) (Nat.le_of_ble_eq_true rfl) (Nat.le_trans (by decide) hd) d11_dayLine_96 (c11_unlike l G 0 7 s0 h) (fun r39 h40 m41 o42 => ?_)
      exact t11_dayLine_99 l G _ hd x2 s0 r39 h40
    · refine den_aload_n (pc := 81) d11_dayLine_81 rfl rfl ?_
      refine den_iconst (pc := 82) d11_dayLine_82 ?_
      refine den_bipush (pc := 83) d11_dayLine_83 (by decide) ?_
      refine den_callVI (pc := 85) (As := [vI 0, vI 9]) fv_11_146 rfl rfl (ok_69 _) (Nat.le_of_ble_eq_true rfl) (Nat.le_trans (by decide) hd) d11_dayLine_85 (c11_numbered l G 0 9 h) (fun r43 h44 m45 o46 => ?_)
      refine den_goto (pc := 88) (tgt := 99) d11_dayLine_88 (by decide) ?_
      exact t11_dayLine_99 l G _ hd x2 s0 r43 h44
  · refine den_iconst (pc := 72) d11_dayLine_72 ?_
    refine den_goto (pc := 73) (tgt := 99) d11_dayLine_73 (by decide) ?_
    exact t11_dayLine_99 l G _ hd x2 s0 (-1) h
def b11_dayLine_63 (x2 : Int) (s0 : Int) (s1 : Int) (h : AH) : Option (Int × AH) :=
  bnd (f11_numbered s1 s0 h) fun r47 h48 =>
  b11_dayLine_66 x2 r47 h48
set_option maxRecDepth 100000 in
theorem t11_dayLine_63 (l : Launch) (G : Geo) (d : Nat) (hd : 8 ≤ d) (x2 : Int) (s0 : Int) (s1 : Int) (h : AH) : Den l G m11_dayLine rvV d 63 [some (vA G 69), none, some (vI x2), none, none, none, none, none] [vI s0, vI s1, vA G 69] h (b11_dayLine_63 x2 s0 s1 h) := by
  unfold b11_dayLine_63
  refine den_callVI (pc := 63) (As := [vI s1, vI s0]) fv_11_146 rfl rfl (ok_69 _) (Nat.le_of_ble_eq_true rfl) (Nat.le_trans (by decide) hd) d11_dayLine_63 (c11_numbered l G s1 s0 h) (fun r47 h48 m49 o50 => ?_)
  exact t11_dayLine_66 l G _ hd x2 r47 h48
def b11_dayLine_41 (x2 : Int) (h : AH) : Option (Int × AH) :=
  if ¬ w32 x2 = 4 then
    if ¬ w32 x2 = 3 then
      b11_dayLine_63 x2 7 0 h
    else
      b11_dayLine_63 x2 5 0 h
  else
    b11_dayLine_66 x2 (-1) h
set_option maxRecDepth 100000 in
theorem t11_dayLine_41 (l : Launch) (G : Geo) (d : Nat) (hd : 8 ≤ d) (x2 : Int) (h : AH) : Den l G m11_dayLine rvV d 41 [some (vA G 69), none, some (vI x2), none, none, none, none, none] [] h (b11_dayLine_41 x2 h) := by
  unfold b11_dayLine_41
  refine den_iload_n (pc := 41) d11_dayLine_41 rfl rfl ?_
  refine den_iconst (pc := 42) d11_dayLine_42 ?_
  refine den_icmp_ne (pc := 43) (tgt := 50) d11_dayLine_43 (by decide) rfl (by decide) (fun _ => ?_) (fun _ => ?_)
  · refine den_aload_n (pc := 50) d11_dayLine_50 rfl rfl ?_
    refine den_iconst (pc := 51) d11_dayLine_51 ?_
    refine den_iload_n (pc := 52) d11_dayLine_52 rfl rfl ?_
    refine den_iconst (pc := 53) d11_dayLine_53 ?_
    refine den_icmp_ne (pc := 54) (tgt := 61) d11_dayLine_54 (by decide) rfl (by decide) (fun _ => ?_) (fun _ => ?_)
    · refine den_bipush (pc := 61) d11_dayLine_61 (by decide) ?_
      exact t11_dayLine_63 l G _ hd x2 7 0 h
    · refine den_iconst (pc := 57) d11_dayLine_57 ?_
      refine den_goto (pc := 58) (tgt := 63) d11_dayLine_58 (by decide) ?_
      exact t11_dayLine_63 l G _ hd x2 5 0 h
  · refine den_iconst (pc := 46) d11_dayLine_46 ?_
    refine den_goto (pc := 47) (tgt := 66) d11_dayLine_47 (by decide) ?_
    exact t11_dayLine_66 l G _ hd x2 (-1) h
def f11_dayLine (h : AH) : Option (Int × AH) :=
  lt (h.2 69 4) fun u51 =>
  bnd (f11_wordIn 6 10 h) fun r52 h53 =>
  lt (r52 - 6) fun u56 =>
  if ¬ w32 (h53.2 69 8) = 0 then
    b11_dayLine_41 u56 h53
  else
    asrt (0 ≤ w32 0 ∧ w32 0 < 201) <|
    if w32 (h53.2 72 (w32 0).toNat) < 40 then
      b11_dayLine_41 u56 h53
    else
      bnd (f11_also 3 u51 h53) fun r58 h59 =>
      b11_dayLine_41 u56 h59
set_option maxRecDepth 100000 in
theorem c11_dayLine (l : Launch) (G : Geo) (h : AH) : Con l G m11_dayLine rvV 8 [vA G 69] h (f11_dayLine  h) := by
  have hd : 8 ≤ 8 := Nat.le_refl _
  refine con_V rfl (by decide) rfl rfl (Nat.le_of_ble_eq_true rfl) (L := [some (vA G 69), none, none, none, none, none, none, none]) ?_
  unfold f11_dayLine
  refine den_aload_n (pc := 0) d11_dayLine_0 rfl rfl ?_
  refine den_getI (pc := 1) fa_11_101 (ok_69 _) d11_dayLine_1 ?_
  refine den_istore_nL (pc := 4) (L2 := fun y => [some (vA G 69), some (vI y), none, none, none, none, none, none]) d11_dayLine_4 rfl (by decide) (fun _ => rfl) (fun u51 => ?_)
  refine den_aload_n (pc := 5) d11_dayLine_5 rfl rfl ?_
  refine den_bipush (pc := 6) d11_dayLine_6 (by decide) ?_
  refine den_bipush (pc := 8) d11_dayLine_8 (by decide) ?_
  refine den_callVI (pc := 10) (As := [vI 6, vI 10]) fv_11_150 rfl rfl (ok_69 _) (Nat.le_of_ble_eq_true rfl) (Nat.le_trans (by decide) hd) d11_dayLine_10 (c11_wordIn l G 6 10 h) (fun r52 h53 m54 o55 => ?_)
  refine den_bipush (pc := 13) d11_dayLine_13 (by decide) ?_
  refine den_isub (pc := 15) d11_dayLine_15 ?_
  refine den_istore_nL (pc := 16) (L2 := fun y => [some (vA G 69), some (vI u51), some (vI y), none, none, none, none, none]) d11_dayLine_16 rfl (by decide) (fun _ => rfl) (fun u56 => ?_)
  refine den_aload_n (pc := 17) d11_dayLine_17 rfl rfl ?_
  refine den_getI (pc := 18) fa_11_128 (ok_69 _) d11_dayLine_18 ?_
  refine den_if_ne (pc := 21) (tgt := 41) d11_dayLine_21 (by decide) rfl (fun _ => ?_) (fun _ => ?_)
  · refine den_wk [true, false, true, true, true, true, true, true] rfl ?_
    exact t11_dayLine_41 l G _ hd u56 h53
  · refine den_aload_n (pc := 24) d11_dayLine_24 rfl rfl ?_
    refine den_getR (pc := 25) (b := 72) fa_11_17 (ok_69 _) rfl d11_dayLine_25 ?_
    refine den_iconst (pc := 28) d11_dayLine_28 ?_
    refine den_asrt (fun a57 => ?_)
    refine den_iaload (pc := 29) sh_72 (sz_lt (by decide)) rfl a57 d11_dayLine_29 ?_
    refine den_bipush (pc := 30) d11_dayLine_30 (by decide) ?_
    refine den_icmp_lt (pc := 32) (tgt := 41) d11_dayLine_32 (by decide) rfl (by decide) (fun _ => ?_) (fun _ => ?_)
    · refine den_wk [true, false, true, true, true, true, true, true] rfl ?_
      exact t11_dayLine_41 l G _ hd u56 h53
    · refine den_aload_n (pc := 35) d11_dayLine_35 rfl rfl ?_
      refine den_iconst (pc := 36) d11_dayLine_36 ?_
      refine den_iload_n (pc := 37) d11_dayLine_37 rfl rfl ?_
      refine den_callVV (pc := 38) (As := [vI 3, vI u51]) fv_11_139 rfl rfl (ok_69 _) (Nat.le_of_ble_eq_true rfl) (Nat.le_trans (by decide) hd) d11_dayLine_38 (c11_also l G 3 u51 h53) (fun r58 h59 m60 o61 => ?_)
      refine den_wk [true, false, true, true, true, true, true, true] rfl ?_
      exact t11_dayLine_41 l G _ hd u56 h59
theorem d11_logLine_0 : decode m11_logLine.2.1 0 = .ok (.aload_n 0, 1) := by decide +kernel
theorem d11_logLine_1 : decode m11_logLine.2.1 1 = .ok (.getfield 101, 3) := by decide +kernel
theorem d11_logLine_4 : decode m11_logLine.2.1 4 = .ok (.istore_n 1, 1) := by decide +kernel
theorem d11_logLine_5 : decode m11_logLine.2.1 5 = .ok (.aload_n 0, 1) := by decide +kernel
theorem d11_logLine_6 : decode m11_logLine.2.1 6 = .ok (.bipush 11, 2) := by decide +kernel
theorem d11_logLine_8 : decode m11_logLine.2.1 8 = .ok (.bipush 11, 2) := by decide +kernel
theorem d11_logLine_10 : decode m11_logLine.2.1 10 = .ok (.invokevirtual 150, 3) := by decide +kernel
theorem d11_logLine_13 : decode m11_logLine.2.1 13 = .ok (.pop, 1) := by decide +kernel
theorem d11_logLine_14 : decode m11_logLine.2.1 14 = .ok (.aload_n 0, 1) := by decide +kernel
theorem d11_logLine_15 : decode m11_logLine.2.1 15 = .ok (.getfield 128, 3) := by decide +kernel
theorem d11_logLine_18 : decode m11_logLine.2.1 18 = .ok (.ifCond .ne 20, 3) := by decide +kernel
theorem d11_logLine_21 : decode m11_logLine.2.1 21 = .ok (.aload_n 0, 1) := by decide +kernel
theorem d11_logLine_22 : decode m11_logLine.2.1 22 = .ok (.getfield 17, 3) := by decide +kernel
theorem d11_logLine_25 : decode m11_logLine.2.1 25 = .ok (.iconst 0, 1) := by decide +kernel
theorem d11_logLine_26 : decode m11_logLine.2.1 26 = .ok (.iaload, 1) := by decide +kernel
theorem d11_logLine_27 : decode m11_logLine.2.1 27 = .ok (.bipush 8, 2) := by decide +kernel
theorem d11_logLine_29 : decode m11_logLine.2.1 29 = .ok (.if_icmp .lt 9, 3) := by decide +kernel
theorem d11_logLine_32 : decode m11_logLine.2.1 32 = .ok (.aload_n 0, 1) := by decide +kernel
theorem d11_logLine_33 : decode m11_logLine.2.1 33 = .ok (.iconst 3, 1) := by decide +kernel
theorem d11_logLine_34 : decode m11_logLine.2.1 34 = .ok (.iload_n 1, 1) := by decide +kernel
theorem d11_logLine_35 : decode m11_logLine.2.1 35 = .ok (.invokevirtual 139, 3) := by decide +kernel
theorem d11_logLine_38 : decode m11_logLine.2.1 38 = .ok (.aload_n 0, 1) := by decide +kernel
theorem d11_logLine_39 : decode m11_logLine.2.1 39 = .ok (.iconst 0, 1) := by decide +kernel
theorem d11_logLine_40 : decode m11_logLine.2.1 40 = .ok (.bipush 7, 2) := by decide +kernel
theorem d11_logLine_42 : decode m11_logLine.2.1 42 = .ok (.invokevirtual 146, 3) := by decide +kernel
theorem d11_logLine_45 : decode m11_logLine.2.1 45 = .ok (.istore_n 2, 1) := by decide +kernel
theorem d11_logLine_46 : decode m11_logLine.2.1 46 = .ok (.aload_n 0, 1) := by decide +kernel
theorem d11_logLine_47 : decode m11_logLine.2.1 47 = .ok (.iconst 0, 1) := by decide +kernel
theorem d11_logLine_48 : decode m11_logLine.2.1 48 = .ok (.bipush 7, 2) := by decide +kernel
theorem d11_logLine_50 : decode m11_logLine.2.1 50 = .ok (.iload_n 2, 1) := by decide +kernel
theorem d11_logLine_51 : decode m11_logLine.2.1 51 = .ok (.invokevirtual 162, 3) := by decide +kernel
theorem d11_logLine_54 : decode m11_logLine.2.1 54 = .ok (.istore_n 3, 1) := by decide +kernel
theorem d11_logLine_55 : decode m11_logLine.2.1 55 = .ok (.aload_n 0, 1) := by decide +kernel
theorem d11_logLine_56 : decode m11_logLine.2.1 56 = .ok (.iconst 0, 1) := by decide +kernel
theorem d11_logLine_57 : decode m11_logLine.2.1 57 = .ok (.bipush 99, 2) := by decide +kernel
theorem d11_logLine_59 : decode m11_logLine.2.1 59 = .ok (.invokevirtual 146, 3) := by decide +kernel
theorem d11_logLine_62 : decode m11_logLine.2.1 62 = .ok (.istore 4, 2) := by decide +kernel
theorem d11_logLine_64 : decode m11_logLine.2.1 64 = .ok (.aload_n 0, 1) := by decide +kernel
theorem d11_logLine_65 : decode m11_logLine.2.1 65 = .ok (.getfield 17, 3) := by decide +kernel
theorem d11_logLine_68 : decode m11_logLine.2.1 68 = .ok (.iconst 0, 1) := by decide +kernel
theorem d11_logLine_69 : decode m11_logLine.2.1 69 = .ok (.iaload, 1) := by decide +kernel
theorem d11_logLine_70 : decode m11_logLine.2.1 70 = .ok (.bipush 8, 2) := by decide +kernel
theorem d11_logLine_72 : decode m11_logLine.2.1 72 = .ok (.if_icmp .ge 54, 3) := by decide +kernel
theorem d11_logLine_75 : decode m11_logLine.2.1 75 = .ok (.iconst 1, 1) := by decide +kernel
theorem d11_logLine_76 : decode m11_logLine.2.1 76 = .ok (.iconst 3, 1) := by decide +kernel
theorem d11_logLine_77 : decode m11_logLine.2.1 77 = .ok (.aload_n 0, 1) := by decide +kernel
theorem d11_logLine_78 : decode m11_logLine.2.1 78 = .ok (.getfield 17, 3) := by decide +kernel
theorem d11_logLine_81 : decode m11_logLine.2.1 81 = .ok (.iconst 0, 1) := by decide +kernel
theorem d11_logLine_82 : decode m11_logLine.2.1 82 = .ok (.iaload, 1) := by decide +kernel
theorem d11_logLine_83 : decode m11_logLine.2.1 83 = .ok (.imul, 1) := by decide +kernel
theorem d11_logLine_84 : decode m11_logLine.2.1 84 = .ok (.iadd, 1) := by decide +kernel
theorem d11_logLine_85 : decode m11_logLine.2.1 85 = .ok (.istore 5, 2) := by decide +kernel
theorem d11_logLine_87 : decode m11_logLine.2.1 87 = .ok (.aload_n 0, 1) := by decide +kernel
theorem d11_logLine_88 : decode m11_logLine.2.1 88 = .ok (.getfield 17, 3) := by decide +kernel
theorem d11_logLine_91 : decode m11_logLine.2.1 91 = .ok (.iload 5, 2) := by decide +kernel
theorem d11_logLine_93 : decode m11_logLine.2.1 93 = .ok (.iload_n 2, 1) := by decide +kernel
theorem d11_logLine_94 : decode m11_logLine.2.1 94 = .ok (.iastore, 1) := by decide +kernel
theorem d11_logLine_95 : decode m11_logLine.2.1 95 = .ok (.aload_n 0, 1) := by decide +kernel
theorem d11_logLine_96 : decode m11_logLine.2.1 96 = .ok (.getfield 17, 3) := by decide +kernel
theorem d11_logLine_99 : decode m11_logLine.2.1 99 = .ok (.iload 5, 2) := by decide +kernel
theorem d11_logLine_101 : decode m11_logLine.2.1 101 = .ok (.iconst 1, 1) := by decide +kernel
theorem d11_logLine_102 : decode m11_logLine.2.1 102 = .ok (.iadd, 1) := by decide +kernel
theorem d11_logLine_103 : decode m11_logLine.2.1 103 = .ok (.iload_n 3, 1) := by decide +kernel
theorem d11_logLine_104 : decode m11_logLine.2.1 104 = .ok (.iastore, 1) := by decide +kernel
theorem d11_logLine_105 : decode m11_logLine.2.1 105 = .ok (.aload_n 0, 1) := by decide +kernel
theorem d11_logLine_106 : decode m11_logLine.2.1 106 = .ok (.getfield 17, 3) := by decide +kernel
theorem d11_logLine_109 : decode m11_logLine.2.1 109 = .ok (.iload 5, 2) := by decide +kernel
theorem d11_logLine_111 : decode m11_logLine.2.1 111 = .ok (.iconst 2, 1) := by decide +kernel
theorem d11_logLine_112 : decode m11_logLine.2.1 112 = .ok (.iadd, 1) := by decide +kernel
theorem d11_logLine_113 : decode m11_logLine.2.1 113 = .ok (.iload 4, 2) := by decide +kernel
theorem d11_logLine_115 : decode m11_logLine.2.1 115 = .ok (.iastore, 1) := by decide +kernel
theorem d11_logLine_116 : decode m11_logLine.2.1 116 = .ok (.aload_n 0, 1) := by decide +kernel
theorem d11_logLine_117 : decode m11_logLine.2.1 117 = .ok (.getfield 17, 3) := by decide +kernel
theorem d11_logLine_120 : decode m11_logLine.2.1 120 = .ok (.iconst 0, 1) := by decide +kernel
theorem d11_logLine_121 : decode m11_logLine.2.1 121 = .ok (.dup2, 1) := by decide +kernel
theorem d11_logLine_122 : decode m11_logLine.2.1 122 = .ok (.iaload, 1) := by decide +kernel
theorem d11_logLine_123 : decode m11_logLine.2.1 123 = .ok (.iconst 1, 1) := by decide +kernel
theorem d11_logLine_124 : decode m11_logLine.2.1 124 = .ok (.iadd, 1) := by decide +kernel
theorem d11_logLine_125 : decode m11_logLine.2.1 125 = .ok (.iastore, 1) := by decide +kernel
theorem d11_logLine_126 : decode m11_logLine.2.1 126 = .ok (.aload_n 0, 1) := by decide +kernel
theorem d11_logLine_127 : decode m11_logLine.2.1 127 = .ok (.invokevirtual 159, 3) := by decide +kernel
theorem d11_logLine_130 : decode m11_logLine.2.1 130 = .ok (.return_, 1) := by decide +kernel
def b11_logLine_38 (h : AH) : Option (Int × AH) :=
  bnd (f11_numbered 0 7 h) fun r1 h2 =>
  bnd (f11_unlike 0 7 r1 h2) fun r5 h6 =>
  bnd (f11_numbered 0 99 h6) fun r9 h10 =>
  asrt (0 ≤ w32 0 ∧ w32 0 < 201) <|
  if 8 ≤ w32 (h10.2 72 (w32 0).toNat) then
    bnd (f11_endsLine h10) fun r14 h15 =>
    some (0, h15)
  else
    asrt (0 ≤ w32 0 ∧ w32 0 < 201) <|
    lt (1 + (3 * (h10.2 72 (w32 0).toNat))) fun u19 =>
    asrt (0 ≤ w32 u19 ∧ w32 u19 < 201) <|
    lt (wr h10 72 (w32 u19).toNat r1) fun h21 =>
    asrt (0 ≤ w32 (u19 + 1) ∧ w32 (u19 + 1) < 201) <|
    lt (wr h21 72 (w32 (u19 + 1)).toNat r5) fun h24 =>
    asrt (0 ≤ w32 (u19 + 2) ∧ w32 (u19 + 2) < 201) <|
    lt (wr h24 72 (w32 (u19 + 2)).toNat r9) fun h27 =>
    asrt (0 ≤ w32 0 ∧ w32 0 < 201) <|
    asrt (0 ≤ w32 0 ∧ w32 0 < 201) <|
    lt (wr h27 72 (w32 0).toNat ((h27.2 72 (w32 0).toNat) + 1)) fun h31 =>
    bnd (f11_endsLine h31) fun r33 h34 =>
    some (0, h34)
set_option maxRecDepth 100000 in
theorem t11_logLine_38 (l : Launch) (G : Geo) (d : Nat) (hd : 8 ≤ d) (h : AH) : Den l G m11_logLine rvV d 38 [some (vA G 69), none, none, none, none, none] [] h (b11_logLine_38 h) := by
  unfold b11_logLine_38
  refine den_aload_n (pc := 38) d11_logLine_38 rfl rfl ?_
  refine den_iconst (pc := 39) d11_logLine_39 ?_
  refine den_bipush (pc := 40) d11_logLine_40 (by decide) ?_
  refine den_callVI (pc := 42) (As := [vI 0, vI 7]) fv_11_146 rfl rfl (ok_69 _) (Nat.le_of_ble_eq_true rfl) (Nat.le_trans (by decide) hd) d11_logLine_42 (c11_numbered l G 0 7 h) (fun r1 h2 m3 o4 => ?_)
  refine den_istore_n (pc := 45) (L2 := [some (vA G 69), none, some (vI r1), none, none, none]) d11_logLine_45 rfl (by decide) rfl ?_
  refine den_aload_n (pc := 46) d11_logLine_46 rfl rfl ?_
  refine den_iconst (pc := 47) d11_logLine_47 ?_
  refine den_bipush (pc := 48) d11_logLine_48 (by decide) ?_
  refine den_iload_n (pc := 50) d11_logLine_50 rfl rfl ?_
  refine den_callVI (pc := 51) (As := [vI 0, vI 7, vI r1]) fv_11_162 rfl rfl (ok_69 _) (Nat.le_of_ble_eq_true rfl) (Nat.le_trans (by decide) hd) d11_logLine_51 (c11_unlike l G 0 7 r1 h2) (fun r5 h6 m7 o8 => ?_)
  refine den_istore_n (pc := 54) (L2 := [some (vA G 69), none, some (vI r1), some (vI r5), none, none]) d11_logLine_54 rfl (by decide) rfl ?_
  refine den_aload_n (pc := 55) d11_logLine_55 rfl rfl ?_
  refine den_iconst (pc := 56) d11_logLine_56 ?_
  refine den_bipush (pc := 57) d11_logLine_57 (by decide) ?_
  refine den_callVI (pc := 59) (As := [vI 0, vI 99]) fv_11_146 rfl rfl (ok_69 _) (Nat.le_of_ble_eq_true rfl) (Nat.le_trans (by decide) hd) d11_logLine_59 (c11_numbered l G 0 99 h6) (fun r9 h10 m11 o12 => ?_)
  refine den_istore (pc := 62) (L2 := [some (vA G 69), none, some (vI r1), some (vI r5), some (vI r9), none]) d11_logLine_62 (by decide) rfl ?_
  refine den_aload_n (pc := 64) d11_logLine_64 rfl rfl ?_
  refine den_getR (pc := 65) (b := 72) fa_11_17 (ok_69 _) rfl d11_logLine_65 ?_
  refine den_iconst (pc := 68) d11_logLine_68 ?_
  refine den_asrt (fun a13 => ?_)
  refine den_iaload (pc := 69) sh_72 (sz_lt (by decide)) rfl a13 d11_logLine_69 ?_
  refine den_bipush (pc := 70) d11_logLine_70 (by decide) ?_
  refine den_icmp_ge (pc := 72) (tgt := 126) d11_logLine_72 (by decide) rfl (by decide) (fun _ => ?_) (fun _ => ?_)
  · refine den_aload_n (pc := 126) d11_logLine_126 rfl rfl ?_
    refine den_callVV (pc := 127) (As := []) fv_11_159 rfl rfl (ok_69 _) (Nat.le_of_ble_eq_true rfl) (Nat.le_trans (by decide) hd) d11_logLine_127 (c11_endsLine l G h10) (fun r14 h15 m16 o17 => ?_)
    exact den_vret (pc := 130) rfl d11_logLine_130
  · refine den_iconst (pc := 75) d11_logLine_75 ?_
    refine den_iconst (pc := 76) d11_logLine_76 ?_
    refine den_aload_n (pc := 77) d11_logLine_77 rfl rfl ?_
    refine den_getR (pc := 78) (b := 72) fa_11_17 (ok_69 _) rfl d11_logLine_78 ?_
    refine den_iconst (pc := 81) d11_logLine_81 ?_
    refine den_asrt (fun a18 => ?_)
    refine den_iaload (pc := 82) sh_72 (sz_lt (by decide)) rfl a18 d11_logLine_82 ?_
    refine den_imul (pc := 83) d11_logLine_83 ?_
    refine den_iadd (pc := 84) d11_logLine_84 ?_
    refine den_istoreL (pc := 85) (L2 := fun y => [some (vA G 69), none, some (vI r1), some (vI r5), some (vI r9), some (vI y)]) d11_logLine_85 (by decide) (fun _ => rfl) (fun u19 => ?_)
    refine den_aload_n (pc := 87) d11_logLine_87 rfl rfl ?_
    refine den_getR (pc := 88) (b := 72) fa_11_17 (ok_69 _) rfl d11_logLine_88 ?_
    refine den_iload (pc := 91) d11_logLine_91 rfl ?_
    refine den_iload_n (pc := 93) d11_logLine_93 rfl rfl ?_
    refine den_asrt (fun a20 => ?_)
    refine den_iastore (pc := 94) sh_72 (sz_lt (by decide)) rfl a20 d11_logLine_94 ?_
    refine den_ltH (fun h21 m22 => ?_)
    refine den_aload_n (pc := 95) d11_logLine_95 rfl rfl ?_
    refine den_getR (pc := 96) (b := 72) fa_11_17 (ok_69 _) rfl d11_logLine_96 ?_
    refine den_iload (pc := 99) d11_logLine_99 rfl ?_
    refine den_iconst (pc := 101) d11_logLine_101 ?_
    refine den_iadd (pc := 102) d11_logLine_102 ?_
    refine den_iload_n (pc := 103) d11_logLine_103 rfl rfl ?_
    refine den_asrt (fun a23 => ?_)
    refine den_iastore (pc := 104) sh_72 (sz_lt (by decide)) rfl a23 d11_logLine_104 ?_
    refine den_ltH (fun h24 m25 => ?_)
    refine den_aload_n (pc := 105) d11_logLine_105 rfl rfl ?_
    refine den_getR (pc := 106) (b := 72) fa_11_17 (ok_69 _) rfl d11_logLine_106 ?_
    refine den_iload (pc := 109) d11_logLine_109 rfl ?_
    refine den_iconst (pc := 111) d11_logLine_111 ?_
    refine den_iadd (pc := 112) d11_logLine_112 ?_
    refine den_iload (pc := 113) d11_logLine_113 rfl ?_
    refine den_asrt (fun a26 => ?_)
    refine den_iastore (pc := 115) sh_72 (sz_lt (by decide)) rfl a26 d11_logLine_115 ?_
    refine den_ltH (fun h27 m28 => ?_)
    refine den_aload_n (pc := 116) d11_logLine_116 rfl rfl ?_
    refine den_getR (pc := 117) (b := 72) fa_11_17 (ok_69 _) rfl d11_logLine_117 ?_
    refine den_iconst (pc := 120) d11_logLine_120 ?_
    refine den_dup2 (pc := 121) d11_logLine_121 rfl rfl ?_
    refine den_asrt (fun a29 => ?_)
    refine den_iaload (pc := 122) sh_72 (sz_lt (by decide)) rfl a29 d11_logLine_122 ?_
    refine den_iconst (pc := 123) d11_logLine_123 ?_
    refine den_iadd (pc := 124) d11_logLine_124 ?_
    refine den_asrt (fun a30 => ?_)
    refine den_iastore (pc := 125) sh_72 (sz_lt (by decide)) rfl a30 d11_logLine_125 ?_
    refine den_ltH (fun h31 m32 => ?_)
    refine den_aload_n (pc := 126) d11_logLine_126 rfl rfl ?_
    refine den_callVV (pc := 127) (As := []) fv_11_159 rfl rfl (ok_69 _) (Nat.le_of_ble_eq_true rfl) (Nat.le_trans (by decide) hd) d11_logLine_127 (c11_endsLine l G h31) (fun r33 h34 m35 o36 => ?_)
    exact den_vret (pc := 130) rfl d11_logLine_130
def f11_logLine (h : AH) : Option (Int × AH) :=
  lt (h.2 69 4) fun u37 =>
  bnd (f11_wordIn 11 11 h) fun r38 h39 =>
  if ¬ w32 (h39.2 69 8) = 0 then
    b11_logLine_38 h39
  else
    asrt (0 ≤ w32 0 ∧ w32 0 < 201) <|
    if w32 (h39.2 72 (w32 0).toNat) < 8 then
      b11_logLine_38 h39
    else
      bnd (f11_also 3 u37 h39) fun r43 h44 =>
      b11_logLine_38 h44
set_option maxRecDepth 100000 in
theorem c11_logLine (l : Launch) (G : Geo) (h : AH) : Con l G m11_logLine rvV 8 [vA G 69] h (f11_logLine  h) := by
  have hd : 8 ≤ 8 := Nat.le_refl _
  refine con_V rfl (by decide) rfl rfl (Nat.le_of_ble_eq_true rfl) (L := [some (vA G 69), none, none, none, none, none]) ?_
  unfold f11_logLine
  refine den_aload_n (pc := 0) d11_logLine_0 rfl rfl ?_
  refine den_getI (pc := 1) fa_11_101 (ok_69 _) d11_logLine_1 ?_
  refine den_istore_nL (pc := 4) (L2 := fun y => [some (vA G 69), some (vI y), none, none, none, none]) d11_logLine_4 rfl (by decide) (fun _ => rfl) (fun u37 => ?_)
  refine den_aload_n (pc := 5) d11_logLine_5 rfl rfl ?_
  refine den_bipush (pc := 6) d11_logLine_6 (by decide) ?_
  refine den_bipush (pc := 8) d11_logLine_8 (by decide) ?_
  refine den_callVI (pc := 10) (As := [vI 11, vI 11]) fv_11_150 rfl rfl (ok_69 _) (Nat.le_of_ble_eq_true rfl) (Nat.le_trans (by decide) hd) d11_logLine_10 (c11_wordIn l G 11 11 h) (fun r38 h39 m40 o41 => ?_)
  refine den_pop (pc := 13) d11_logLine_13 rfl ?_
  refine den_aload_n (pc := 14) d11_logLine_14 rfl rfl ?_
  refine den_getI (pc := 15) fa_11_128 (ok_69 _) d11_logLine_15 ?_
  refine den_if_ne (pc := 18) (tgt := 38) d11_logLine_18 (by decide) rfl (fun _ => ?_) (fun _ => ?_)
  · refine den_wk [true, false, true, true, true, true] rfl ?_
    exact t11_logLine_38 l G _ hd h39
  · refine den_aload_n (pc := 21) d11_logLine_21 rfl rfl ?_
    refine den_getR (pc := 22) (b := 72) fa_11_17 (ok_69 _) rfl d11_logLine_22 ?_
    refine den_iconst (pc := 25) d11_logLine_25 ?_
    refine den_asrt (fun a42 => ?_)
    refine den_iaload (pc := 26) sh_72 (sz_lt (by decide)) rfl a42 d11_logLine_26 ?_
    refine den_bipush (pc := 27) d11_logLine_27 (by decide) ?_
    refine den_icmp_lt (pc := 29) (tgt := 38) d11_logLine_29 (by decide) rfl (by decide) (fun _ => ?_) (fun _ => ?_)
    · refine den_wk [true, false, true, true, true, true] rfl ?_
      exact t11_logLine_38 l G _ hd h39
    · refine den_aload_n (pc := 32) d11_logLine_32 rfl rfl ?_
      refine den_iconst (pc := 33) d11_logLine_33 ?_
      refine den_iload_n (pc := 34) d11_logLine_34 rfl rfl ?_
      refine den_callVV (pc := 35) (As := [vI 3, vI u37]) fv_11_139 rfl rfl (ok_69 _) (Nat.le_of_ble_eq_true rfl) (Nat.le_trans (by decide) hd) d11_logLine_35 (c11_also l G 3 u37 h39) (fun r43 h44 m45 o46 => ?_)
      refine den_wk [true, false, true, true, true, true] rfl ?_
      exact t11_logLine_38 l G _ hd h44
theorem d11_placeOf_0 : decode m11_placeOf.2.1 0 = .ok (.iload_n 0, 1) := by decide +kernel
theorem d11_placeOf_1 : decode m11_placeOf.2.1 1 = .ok (.ifCond .ne 14, 3) := by decide +kernel
theorem d11_placeOf_4 : decode m11_placeOf.2.1 4 = .ok (.sipush 610, 3) := by decide +kernel
theorem d11_placeOf_7 : decode m11_placeOf.2.1 7 = .ok (.bipush 72, 2) := by decide +kernel
theorem d11_placeOf_9 : decode m11_placeOf.2.1 9 = .ok (.iload_n 1, 1) := by decide +kernel
theorem d11_placeOf_10 : decode m11_placeOf.2.1 10 = .ok (.imul, 1) := by decide +kernel
theorem d11_placeOf_11 : decode m11_placeOf.2.1 11 = .ok (.iadd, 1) := by decide +kernel
theorem d11_placeOf_12 : decode m11_placeOf.2.1 12 = .ok (.goto 28, 3) := by decide +kernel
theorem d11_placeOf_15 : decode m11_placeOf.2.1 15 = .ok (.iload_n 0, 1) := by decide +kernel
theorem d11_placeOf_16 : decode m11_placeOf.2.1 16 = .ok (.iconst 1, 1) := by decide +kernel
theorem d11_placeOf_17 : decode m11_placeOf.2.1 17 = .ok (.if_icmp .ne 15, 3) := by decide +kernel
theorem d11_placeOf_20 : decode m11_placeOf.2.1 20 = .ok (.sipush 754, 3) := by decide +kernel
theorem d11_placeOf_23 : decode m11_placeOf.2.1 23 = .ok (.sipush 201, 3) := by decide +kernel
theorem d11_placeOf_26 : decode m11_placeOf.2.1 26 = .ok (.iload_n 1, 1) := by decide +kernel
theorem d11_placeOf_27 : decode m11_placeOf.2.1 27 = .ok (.imul, 1) := by decide +kernel
theorem d11_placeOf_28 : decode m11_placeOf.2.1 28 = .ok (.iadd, 1) := by decide +kernel
theorem d11_placeOf_29 : decode m11_placeOf.2.1 29 = .ok (.goto 11, 3) := by decide +kernel
theorem d11_placeOf_32 : decode m11_placeOf.2.1 32 = .ok (.sipush 1156, 3) := by decide +kernel
theorem d11_placeOf_35 : decode m11_placeOf.2.1 35 = .ok (.bipush 25, 2) := by decide +kernel
theorem d11_placeOf_37 : decode m11_placeOf.2.1 37 = .ok (.iload_n 1, 1) := by decide +kernel
theorem d11_placeOf_38 : decode m11_placeOf.2.1 38 = .ok (.imul, 1) := by decide +kernel
theorem d11_placeOf_39 : decode m11_placeOf.2.1 39 = .ok (.iadd, 1) := by decide +kernel
theorem d11_placeOf_40 : decode m11_placeOf.2.1 40 = .ok (.ireturn, 1) := by decide +kernel
def f11_placeOf (x0 : Int) (x1 : Int) (h : AH) : Option (Int × AH) :=
  if ¬ w32 x0 = 0 then
    if ¬ w32 x0 = 1 then
      some (1156 + (25 * x1), h)
    else
      some (754 + (201 * x1), h)
  else
    some (610 + (72 * x1), h)
set_option maxRecDepth 100000 in
theorem c11_placeOf (l : Launch) (G : Geo) (x0 : Int) (x1 : Int) (h : AH) : Con l G m11_placeOf rvI 2 [vI x0, vI x1] h (f11_placeOf x0 x1 h) := by
  have hd : 2 ≤ 2 := Nat.le_refl _
  refine con_I rfl (by decide) rfl rfl (Nat.le_of_ble_eq_true rfl) (L := [some (vI x0), some (vI x1)]) ?_
  unfold f11_placeOf
  refine den_iload_n (pc := 0) d11_placeOf_0 rfl rfl ?_
  refine den_if_ne (pc := 1) (tgt := 15) d11_placeOf_1 (by decide) rfl (fun _ => ?_) (fun _ => ?_)
  · refine den_iload_n (pc := 15) d11_placeOf_15 rfl rfl ?_
    refine den_iconst (pc := 16) d11_placeOf_16 ?_
    refine den_icmp_ne (pc := 17) (tgt := 32) d11_placeOf_17 (by decide) rfl (by decide) (fun _ => ?_) (fun _ => ?_)
    · refine den_sipush (pc := 32) d11_placeOf_32 (by decide) ?_
      refine den_bipush (pc := 35) d11_placeOf_35 (by decide) ?_
      refine den_iload_n (pc := 37) d11_placeOf_37 rfl rfl ?_
      refine den_imul (pc := 38) d11_placeOf_38 ?_
      refine den_iadd (pc := 39) d11_placeOf_39 ?_
      exact den_iret (pc := 40) rfl d11_placeOf_40
    · refine den_sipush (pc := 20) d11_placeOf_20 (by decide) ?_
      refine den_sipush (pc := 23) d11_placeOf_23 (by decide) ?_
      refine den_iload_n (pc := 26) d11_placeOf_26 rfl rfl ?_
      refine den_imul (pc := 27) d11_placeOf_27 ?_
      refine den_iadd (pc := 28) d11_placeOf_28 ?_
      refine den_goto (pc := 29) (tgt := 40) d11_placeOf_29 (by decide) ?_
      exact den_iret (pc := 40) rfl d11_placeOf_40
  · refine den_sipush (pc := 4) d11_placeOf_4 (by decide) ?_
    refine den_bipush (pc := 7) d11_placeOf_7 (by decide) ?_
    refine den_iload_n (pc := 9) d11_placeOf_9 rfl rfl ?_
    refine den_imul (pc := 10) d11_placeOf_10 ?_
    refine den_iadd (pc := 11) d11_placeOf_11 ?_
    refine den_goto (pc := 12) (tgt := 40) d11_placeOf_12 (by decide) ?_
    exact den_iret (pc := 40) rfl d11_placeOf_40
theorem d11_sizeOf_0 : decode m11_sizeOf.2.1 0 = .ok (.iload_n 0, 1) := by decide +kernel
theorem d11_sizeOf_1 : decode m11_sizeOf.2.1 1 = .ok (.ifCond .ne 8, 3) := by decide +kernel
theorem d11_sizeOf_4 : decode m11_sizeOf.2.1 4 = .ok (.bipush 72, 2) := by decide +kernel
theorem d11_sizeOf_6 : decode m11_sizeOf.2.1 6 = .ok (.goto 16, 3) := by decide +kernel
theorem d11_sizeOf_9 : decode m11_sizeOf.2.1 9 = .ok (.iload_n 0, 1) := by decide +kernel
theorem d11_sizeOf_10 : decode m11_sizeOf.2.1 10 = .ok (.iconst 1, 1) := by decide +kernel
theorem d11_sizeOf_11 : decode m11_sizeOf.2.1 11 = .ok (.if_icmp .ne 9, 3) := by decide +kernel
theorem d11_sizeOf_14 : decode m11_sizeOf.2.1 14 = .ok (.sipush 201, 3) := by decide +kernel
theorem d11_sizeOf_17 : decode m11_sizeOf.2.1 17 = .ok (.goto 5, 3) := by decide +kernel
theorem d11_sizeOf_20 : decode m11_sizeOf.2.1 20 = .ok (.bipush 25, 2) := by decide +kernel
theorem d11_sizeOf_22 : decode m11_sizeOf.2.1 22 = .ok (.ireturn, 1) := by decide +kernel
def f11_sizeOf (x0 : Int) (h : AH) : Option (Int × AH) :=
  if ¬ w32 x0 = 0 then
    if ¬ w32 x0 = 1 then
      some (25, h)
    else
      some (201, h)
  else
    some (72, h)
set_option maxRecDepth 100000 in
theorem c11_sizeOf (l : Launch) (G : Geo) (x0 : Int) (h : AH) : Con l G m11_sizeOf rvI 2 [vI x0] h (f11_sizeOf x0 h) := by
  have hd : 2 ≤ 2 := Nat.le_refl _
  refine con_I rfl (by decide) rfl rfl (Nat.le_of_ble_eq_true rfl) (L := [some (vI x0)]) ?_
  unfold f11_sizeOf
  refine den_iload_n (pc := 0) d11_sizeOf_0 rfl rfl ?_
  refine den_if_ne (pc := 1) (tgt := 9) d11_sizeOf_1 (by decide) rfl (fun _ => ?_) (fun _ => ?_)
  · refine den_iload_n (pc := 9) d11_sizeOf_9 rfl rfl ?_
    refine den_iconst (pc := 10) d11_sizeOf_10 ?_
    refine den_icmp_ne (pc := 11) (tgt := 20) d11_sizeOf_11 (by decide) rfl (by decide) (fun _ => ?_) (fun _ => ?_)
    · refine den_bipush (pc := 20) d11_sizeOf_20 (by decide) ?_
      exact den_iret (pc := 22) rfl d11_sizeOf_22
    · refine den_sipush (pc := 14) d11_sizeOf_14 (by decide) ?_
      refine den_goto (pc := 17) (tgt := 22) d11_sizeOf_17 (by decide) ?_
      exact den_iret (pc := 22) rfl d11_sizeOf_22
  · refine den_bipush (pc := 4) d11_sizeOf_4 (by decide) ?_
    refine den_goto (pc := 6) (tgt := 22) d11_sizeOf_6 (by decide) ?_
    exact den_iret (pc := 22) rfl d11_sizeOf_22
theorem d11_isOf_0 : decode m11_isOf.2.1 0 = .ok (.iload_n 2, 1) := by decide +kernel
theorem d11_isOf_1 : decode m11_isOf.2.1 1 = .ok (.iconst 0, 1) := by decide +kernel
theorem d11_isOf_2 : decode m11_isOf.2.1 2 = .ok (.aload_n 0, 1) := by decide +kernel
theorem d11_isOf_3 : decode m11_isOf.2.1 3 = .ok (.getfield 7, 3) := by decide +kernel
theorem d11_isOf_6 : decode m11_isOf.2.1 6 = .ok (.iload_n 1, 1) := by decide +kernel
theorem d11_isOf_7 : decode m11_isOf.2.1 7 = .ok (.iaload, 1) := by decide +kernel
theorem d11_isOf_8 : decode m11_isOf.2.1 8 = .ok (.iconst 1, 1) := by decide +kernel
theorem d11_isOf_9 : decode m11_isOf.2.1 9 = .ok (.isub, 1) := by decide +kernel
theorem d11_isOf_10 : decode m11_isOf.2.1 10 = .ok (.invokestatic 135, 3) := by decide +kernel
theorem d11_isOf_13 : decode m11_isOf.2.1 13 = .ok (.ireturn, 1) := by decide +kernel
def f11_isOf (x1 : Int) (x2 : Int) (h : AH) : Option (Int × AH) :=
  asrt (0 ≤ w32 x1 ∧ w32 x1 < 4824) <|
  bnd (f11_isIn x2 0 ((h.2 70 (w32 x1).toNat) - 1) h) fun r2 h3 =>
  asrt (w32 r2 = 0 ∨ w32 r2 = 1) <|
  some (r2, h3)
set_option maxRecDepth 100000 in
theorem c11_isOf (l : Launch) (G : Geo) (x1 : Int) (x2 : Int) (h : AH) : Con l G m11_isOf rvI 3 [vA G 69, vI x1, vI x2] h (f11_isOf x1 x2 h) := by
  have hd : 3 ≤ 3 := Nat.le_refl _
  refine con_Z rfl (by decide) rfl rfl (Nat.le_of_ble_eq_true rfl) (L := [some (vA G 69), some (vI x1), some (vI x2)]) ?_
  unfold f11_isOf
  refine den_iload_n (pc := 0) d11_isOf_0 rfl rfl ?_
  refine den_iconst (pc := 1) d11_isOf_1 ?_
  refine den_aload_n (pc := 2) d11_isOf_2 rfl rfl ?_
  refine den_getR (pc := 3) (b := 70) fa_11_7 (ok_69 _) rfl d11_isOf_3 ?_
  refine den_iload_n (pc := 6) d11_isOf_6 rfl rfl ?_
  refine den_asrt (fun a1 => ?_)
  refine den_iaload (pc := 7) sh_70 (sz_lt (by decide)) rfl a1 d11_isOf_7 ?_
  refine den_iconst (pc := 8) d11_isOf_8 ?_
  refine den_isub (pc := 9) d11_isOf_9 ?_
  refine den_callSI (pc := 10) (As := [vI x2, vI 0, vI ((h.2 70 (w32 x1).toNat) - 1)]) fs_11_135 rfl rfl (Nat.le_of_ble_eq_true rfl) (Nat.le_trans (by decide) hd) d11_isOf_10 (c11_isIn l G x2 0 ((h.2 70 (w32 x1).toNat) - 1) h) (fun r2 h3 m4 o5 => ?_)
  refine den_asrt (fun a6 => ?_)
  exact den_zret (pc := 13) rfl a6 d11_isOf_13
theorem d11_begins0_0 : decode m11_begins0.2.1 0 = .ok (.iconst 0, 1) := by decide +kernel
theorem d11_begins0_1 : decode m11_begins0.2.1 1 = .ok (.istore_n 2, 1) := by decide +kernel
theorem d11_begins0_2 : decode m11_begins0.2.1 2 = .ok (.iload_n 2, 1) := by decide +kernel
theorem d11_begins0_3 : decode m11_begins0.2.1 3 = .ok (.sipush 201, 3) := by decide +kernel
theorem d11_begins0_6 : decode m11_begins0.2.1 6 = .ok (.if_icmp .ge 30, 3) := by decide +kernel
theorem d11_begins0_9 : decode m11_begins0.2.1 9 = .ok (.aload_n 0, 1) := by decide +kernel
theorem d11_begins0_10 : decode m11_begins0.2.1 10 = .ok (.getfield 17, 3) := by decide +kernel
theorem d11_begins0_13 : decode m11_begins0.2.1 13 = .ok (.iload_n 2, 1) := by decide +kernel
theorem d11_begins0_14 : decode m11_begins0.2.1 14 = .ok (.iload_n 1, 1) := by decide +kernel
theorem d11_begins0_15 : decode m11_begins0.2.1 15 = .ok (.ifCond .ne 13, 3) := by decide +kernel
theorem d11_begins0_18 : decode m11_begins0.2.1 18 = .ok (.iload_n 2, 1) := by decide +kernel
theorem d11_begins0_19 : decode m11_begins0.2.1 19 = .ok (.bipush 24, 2) := by decide +kernel
theorem d11_begins0_21 : decode m11_begins0.2.1 21 = .ok (.if_icmp .lt 7, 3) := by decide +kernel
theorem d11_begins0_24 : decode m11_begins0.2.1 24 = .ok (.iconst (-1), 1) := by decide +kernel
theorem d11_begins0_25 : decode m11_begins0.2.1 25 = .ok (.goto 4, 3) := by decide +kernel
theorem d11_begins0_28 : decode m11_begins0.2.1 28 = .ok (.iconst 0, 1) := by decide +kernel
theorem d11_begins0_29 : decode m11_begins0.2.1 29 = .ok (.iastore, 1) := by decide +kernel
theorem d11_begins0_30 : decode m11_begins0.2.1 30 = .ok (.iinc 2 1, 3) := by decide +kernel
theorem d11_begins0_33 : decode m11_begins0.2.1 33 = .ok (.goto (-31), 3) := by decide +kernel
theorem d11_begins0_36 : decode m11_begins0.2.1 36 = .ok (.iload_n 1, 1) := by decide +kernel
theorem d11_begins0_37 : decode m11_begins0.2.1 37 = .ok (.ifCond .ne 10, 3) := by decide +kernel
theorem d11_begins0_40 : decode m11_begins0.2.1 40 = .ok (.aload_n 0, 1) := by decide +kernel
theorem d11_begins0_41 : decode m11_begins0.2.1 41 = .ok (.getfield 17, 3) := by decide +kernel
theorem d11_begins0_44 : decode m11_begins0.2.1 44 = .ok (.iconst 3, 1) := by decide +kernel
theorem d11_begins0_45 : decode m11_begins0.2.1 45 = .ok (.iconst 2, 1) := by decide +kernel
theorem d11_begins0_46 : decode m11_begins0.2.1 46 = .ok (.iastore, 1) := by decide +kernel
theorem d11_begins0_47 : decode m11_begins0.2.1 47 = .ok (.return_, 1) := by decide +kernel
def b11_begins0_29 (rec2 : Int × AH → Option (Int × AH)) (x1 : Int) (x2 : Int) (s0 : Int) (s1 : Int) (h : AH) : Option (Int × AH) :=
  asrt (0 ≤ w32 s1 ∧ w32 s1 < 201) <|
  lt (wr h 72 (w32 s1).toNat s0) fun h2 =>
  rec2 ((x2 + 1), h2)
set_option maxRecDepth 100000 in
theorem t11_begins0_29 (l : Launch) (G : Geo) (d : Nat) (hd : 2 ≤ d) (x1 : Int) (x2 : Int) (s0 : Int) (s1 : Int) (rec2 : Int × AH → Option (Int × AH)) (H2 : ∀ (x2 : Int) (h : AH), Den l G m11_begins0 rvV d 2 [some (vA G 69), some (vI x1), some (vI x2)] [] h (rec2 (x2, h))) (h : AH) : Den l G m11_begins0 rvV d 29 [some (vA G 69), some (vI x1), some (vI x2)] [vI s0, vI s1, vA G 72] h (b11_begins0_29 rec2 x1 x2 s0 s1 h) := by
  unfold b11_begins0_29
  refine den_asrt (fun a1 => ?_)
  refine den_iastore (pc := 29) sh_72 (sz_lt (by decide)) rfl a1 d11_begins0_29 ?_
  refine den_ltH (fun h2 m3 => ?_)
  refine den_iinc (pc := 30) (L2 := [some (vA G 69), some (vI x1), some (vI (x2 + 1))]) d11_begins0_30 (by decide) rfl rfl ?_
  refine den_goto (pc := 33) (tgt := 2) d11_begins0_33 (by decide) ?_
  exact H2 (x2 + 1) h2
def b11_begins0_28 (rec2 : Int × AH → Option (Int × AH)) (x1 : Int) (x2 : Int) (s0 : Int) (h : AH) : Option (Int × AH) :=
  b11_begins0_29 rec2 x1 x2 0 s0 h
set_option maxRecDepth 100000 in
theorem t11_begins0_28 (l : Launch) (G : Geo) (d : Nat) (hd : 2 ≤ d) (x1 : Int) (x2 : Int) (s0 : Int) (rec2 : Int × AH → Option (Int × AH)) (H2 : ∀ (x2 : Int) (h : AH), Den l G m11_begins0 rvV d 2 [some (vA G 69), some (vI x1), some (vI x2)] [] h (rec2 (x2, h))) (h : AH) : Den l G m11_begins0 rvV d 28 [some (vA G 69), some (vI x1), some (vI x2)] [vI s0, vA G 72] h (b11_begins0_28 rec2 x1 x2 s0 h) := by
  unfold b11_begins0_28
  refine den_iconst (pc := 28) d11_begins0_28 ?_
  exact t11_begins0_29 l G _ hd x1 x2 0 s0 rec2 H2 h
def b11_begins0_2 (rec2 : Int × AH → Option (Int × AH)) (x1 : Int) (x2 : Int) (h : AH) : Option (Int × AH) :=
  if 201 ≤ w32 x2 then
    if ¬ w32 x1 = 0 then
      some (0, h)
    else
      asrt (0 ≤ w32 3 ∧ w32 3 < 201) <|
      lt (wr h 72 (w32 3).toNat 2) fun h5 =>
      some (0, h5)
  else
    if ¬ w32 x1 = 0 then
      b11_begins0_28 rec2 x1 x2 x2 h
    else
      if w32 x2 < 24 then
        b11_begins0_28 rec2 x1 x2 x2 h
      else
        b11_begins0_29 rec2 x1 x2 (-1) x2 h
set_option maxRecDepth 100000 in
theorem t11_begins0_2 (l : Launch) (G : Geo) (d : Nat) (hd : 2 ≤ d) (x1 : Int) (x2 : Int) (rec2 : Int × AH → Option (Int × AH)) (H2 : ∀ (x2 : Int) (h : AH), Den l G m11_begins0 rvV d 2 [some (vA G 69), some (vI x1), some (vI x2)] [] h (rec2 (x2, h))) (h : AH) : Den l G m11_begins0 rvV d 2 [some (vA G 69), some (vI x1), some (vI x2)] [] h (b11_begins0_2 rec2 x1 x2 h) := by
  unfold b11_begins0_2
  refine den_iload_n (pc := 2) d11_begins0_2 rfl rfl ?_
  refine den_sipush (pc := 3) d11_begins0_3 (by decide) ?_
  refine den_icmp_ge (pc := 6) (tgt := 36) d11_begins0_6 (by decide) rfl (by decide) (fun _ => ?_) (fun _ => ?_)
  · refine den_iload_n (pc := 36) d11_begins0_36 rfl rfl ?_
    refine den_if_ne (pc := 37) (tgt := 47) d11_begins0_37 (by decide) rfl (fun _ => ?_) (fun _ => ?_)
    · exact den_vret (pc := 47) rfl d11_begins0_47
    · refine den_aload_n (pc := 40) d11_begins0_40 rfl rfl ?_
      refine den_getR (pc := 41) (b := 72) fa_11_17 (ok_69 _) rfl d11_begins0_41 ?_
      refine den_iconst (pc := 44) d11_begins0_44 ?_
      refine den_iconst (pc := 45) d11_begins0_45 ?_
      refine den_asrt (fun a4 => ?_)
      refine den_iastore (pc := 46) sh_72 (sz_lt (by decide)) rfl a4 d11_begins0_46 ?_
      refine den_ltH (fun h5 m6 => ?_)
      exact den_vret (pc := 47) rfl d11_begins0_47
  · refine den_aload_n (pc := 9) d11_begins0_9 rfl rfl ?_
    refine den_getR (pc := 10) (b := 72) fa_11_17 (ok_69 _) rfl d11_begins0_10 ?_
    refine den_iload_n (pc := 13) d11_begins0_13 rfl rfl ?_
    refine den_iload_n (pc := 14) d11_begins0_14 rfl rfl ?_
    refine den_if_ne (pc := 15) (tgt := 28) d11_begins0_15 (by decide) rfl (fun _ => ?_) (fun _ => ?_)
    · exact t11_begins0_28 l G _ hd x1 x2 x2 rec2 H2 h
    · refine den_iload_n (pc := 18) d11_begins0_18 rfl rfl ?_
      refine den_bipush (pc := 19) d11_begins0_19 (by decide) ?_
      refine den_icmp_lt (pc := 21) (tgt := 28) d11_begins0_21 (by decide) rfl (by decide) (fun _ => ?_) (fun _ => ?_)
      · exact t11_begins0_28 l G _ hd x1 x2 x2 rec2 H2 h
      · refine den_iconst (pc := 24) d11_begins0_24 ?_
        refine den_goto (pc := 25) (tgt := 29) d11_begins0_25 (by decide) ?_
        exact t11_begins0_29 l G _ hd x1 x2 (-1) x2 rec2 H2 h
def l11_begins0_2 (x1 : Int) (x2 : Int) (h : AH) : Option (Int × AH) := fx (fun rec z => b11_begins0_2 rec x1 z.1 z.2) FU (x2, h)
set_option maxRecDepth 100000 in
theorem tl11_begins0_2 (l : Launch) (G : Geo) (d : Nat) (hd : 2 ≤ d) (x1 : Int) : ∀ (n : Nat) (z : Int × AH), True → Den l G m11_begins0 rvV d 2 [some (vA G 69), some (vI x1), some (vI z.1)] [] z.2 (fx (fun rec z => b11_begins0_2 rec x1 z.1 z.2) n z) :=
  den_fx (F := fun rec z => b11_begins0_2 rec x1 z.1 z.2) (P := fun z => True) (fL := fun z => [some (vA G 69), some (vI x1), some (vI z.1)]) (fs := fun z => []) (fh := fun z => z.2) (fun rec hrec z hz => t11_begins0_2 l G d hd x1 z.1 rec (fun x2 h => hrec (x2, h) trivial) z.2 )
def f11_begins0 (x1 : Int) (h : AH) : Option (Int × AH) :=
  l11_begins0_2 x1 0 h
set_option maxRecDepth 100000 in
theorem c11_begins0 (l : Launch) (G : Geo) (x1 : Int) (h : AH) : Con l G m11_begins0 rvV 2 [vA G 69, vI x1] h (f11_begins0 x1 h) := by
  have hd : 2 ≤ 2 := Nat.le_refl _
  refine con_V rfl (by decide) rfl rfl (Nat.le_of_ble_eq_true rfl) (L := [some (vA G 69), some (vI x1), none]) ?_
  unfold f11_begins0
  refine den_iconst (pc := 0) d11_begins0_0 ?_
  refine den_istore_n (pc := 1) (L2 := [some (vA G 69), some (vI x1), some (vI 0)]) d11_begins0_1 rfl (by decide) rfl ?_
  exact tl11_begins0_2 l G _ hd x1 FU (0, h) trivial
