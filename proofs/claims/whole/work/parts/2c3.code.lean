/-! 11_after 11_state 11_isLog 11_fact 11_isSo 11_greatestBy 11_askOf -/
theorem d11_after_0 : decode m11_after.2.1 0 = .ok (.aload_n 0, 1) := by decide +kernel
theorem d11_after_1 : decode m11_after.2.1 1 = .ok (.iload_n 1, 1) := by decide +kernel
theorem d11_after_2 : decode m11_after.2.1 2 = .ok (.invokevirtual 201, 3) := by decide +kernel
theorem d11_after_5 : decode m11_after.2.1 5 = .ok (.ifCond .eq 20, 3) := by decide +kernel
theorem d11_after_8 : decode m11_after.2.1 8 = .ok (.aload_n 0, 1) := by decide +kernel
theorem d11_after_9 : decode m11_after.2.1 9 = .ok (.iload_n 2, 1) := by decide +kernel
theorem d11_after_10 : decode m11_after.2.1 10 = .ok (.invokevirtual 325, 3) := by decide +kernel
theorem d11_after_13 : decode m11_after.2.1 13 = .ok (.ifCond .eq 12, 3) := by decide +kernel
theorem d11_after_16 : decode m11_after.2.1 16 = .ok (.iload_n 3, 1) := by decide +kernel
theorem d11_after_17 : decode m11_after.2.1 17 = .ok (.iconst 0, 1) := by decide +kernel
theorem d11_after_18 : decode m11_after.2.1 18 = .ok (.iconst 3, 1) := by decide +kernel
theorem d11_after_19 : decode m11_after.2.1 19 = .ok (.invokestatic 135, 3) := by decide +kernel
theorem d11_after_22 : decode m11_after.2.1 22 = .ok (.ifCond .ne 6, 3) := by decide +kernel
theorem d11_after_25 : decode m11_after.2.1 25 = .ok (.bipush (-2), 2) := by decide +kernel
theorem d11_after_27 : decode m11_after.2.1 27 = .ok (.ireturn, 1) := by decide +kernel
theorem d11_after_28 : decode m11_after.2.1 28 = .ok (.aload_n 0, 1) := by decide +kernel
theorem d11_after_29 : decode m11_after.2.1 29 = .ok (.invokevirtual 365, 3) := by decide +kernel
theorem d11_after_32 : decode m11_after.2.1 32 = .ok (.iconst 0, 1) := by decide +kernel
theorem d11_after_33 : decode m11_after.2.1 33 = .ok (.istore 4, 2) := by decide +kernel
theorem d11_after_35 : decode m11_after.2.1 35 = .ok (.iload 4, 2) := by decide +kernel
theorem d11_after_37 : decode m11_after.2.1 37 = .ok (.bipush 8, 2) := by decide +kernel
theorem d11_after_39 : decode m11_after.2.1 39 = .ok (.if_icmp .ge 17, 3) := by decide +kernel
theorem d11_after_42 : decode m11_after.2.1 42 = .ok (.aload_n 0, 1) := by decide +kernel
theorem d11_after_43 : decode m11_after.2.1 43 = .ok (.getfield 74, 3) := by decide +kernel
theorem d11_after_46 : decode m11_after.2.1 46 = .ok (.iload 4, 2) := by decide +kernel
theorem d11_after_48 : decode m11_after.2.1 48 = .ok (.iconst 0, 1) := by decide +kernel
theorem d11_after_49 : decode m11_after.2.1 49 = .ok (.iastore, 1) := by decide +kernel
theorem d11_after_50 : decode m11_after.2.1 50 = .ok (.iinc 4 1, 3) := by decide +kernel
theorem d11_after_53 : decode m11_after.2.1 53 = .ok (.goto (-18), 3) := by decide +kernel
theorem d11_after_56 : decode m11_after.2.1 56 = .ok (.iconst 0, 1) := by decide +kernel
theorem d11_after_57 : decode m11_after.2.1 57 = .ok (.istore 4, 2) := by decide +kernel
theorem d11_after_59 : decode m11_after.2.1 59 = .ok (.iconst (-1), 1) := by decide +kernel
theorem d11_after_60 : decode m11_after.2.1 60 = .ok (.istore 5, 2) := by decide +kernel
theorem d11_after_62 : decode m11_after.2.1 62 = .ok (.aload_n 0, 1) := by decide +kernel
theorem d11_after_63 : decode m11_after.2.1 63 = .ok (.invokevirtual 374, 3) := by decide +kernel
theorem d11_after_66 : decode m11_after.2.1 66 = .ok (.ifCond .eq 7, 3) := by decide +kernel
theorem d11_after_69 : decode m11_after.2.1 69 = .ok (.iconst 1, 1) := by decide +kernel
theorem d11_after_70 : decode m11_after.2.1 70 = .ok (.goto 4, 3) := by decide +kernel
theorem d11_after_73 : decode m11_after.2.1 73 = .ok (.iconst 0, 1) := by decide +kernel
theorem d11_after_74 : decode m11_after.2.1 74 = .ok (.istore 6, 2) := by decide +kernel
theorem d11_after_76 : decode m11_after.2.1 76 = .ok (.iconst 0, 1) := by decide +kernel
theorem d11_after_77 : decode m11_after.2.1 77 = .ok (.istore 7, 2) := by decide +kernel
theorem d11_after_79 : decode m11_after.2.1 79 = .ok (.iload 7, 2) := by decide +kernel
theorem d11_after_81 : decode m11_after.2.1 81 = .ok (.aload_n 0, 1) := by decide +kernel
theorem d11_after_82 : decode m11_after.2.1 82 = .ok (.getfield 7, 3) := by decide +kernel
theorem d11_after_85 : decode m11_after.2.1 85 = .ok (.aload_n 0, 1) := by decide +kernel
theorem d11_after_86 : decode m11_after.2.1 86 = .ok (.getfield 322, 3) := by decide +kernel
theorem d11_after_89 : decode m11_after.2.1 89 = .ok (.iaload, 1) := by decide +kernel
theorem d11_after_90 : decode m11_after.2.1 90 = .ok (.if_icmp .ge 153, 3) := by decide +kernel
theorem d11_after_93 : decode m11_after.2.1 93 = .ok (.aload_n 0, 1) := by decide +kernel
theorem d11_after_94 : decode m11_after.2.1 94 = .ok (.iload 7, 2) := by decide +kernel
theorem d11_after_96 : decode m11_after.2.1 96 = .ok (.invokevirtual 368, 3) := by decide +kernel
theorem d11_after_99 : decode m11_after.2.1 99 = .ok (.ifCond .eq 144, 3) := by decide +kernel
theorem d11_after_102 : decode m11_after.2.1 102 = .ok (.aload_n 0, 1) := by decide +kernel
theorem d11_after_103 : decode m11_after.2.1 103 = .ok (.getfield 322, 3) := by decide +kernel
theorem d11_after_106 : decode m11_after.2.1 106 = .ok (.iconst 1, 1) := by decide +kernel
theorem d11_after_107 : decode m11_after.2.1 107 = .ok (.iadd, 1) := by decide +kernel
theorem d11_after_108 : decode m11_after.2.1 108 = .ok (.iconst 5, 1) := by decide +kernel
theorem d11_after_109 : decode m11_after.2.1 109 = .ok (.iload 7, 2) := by decide +kernel
theorem d11_after_111 : decode m11_after.2.1 111 = .ok (.imul, 1) := by decide +kernel
theorem d11_after_112 : decode m11_after.2.1 112 = .ok (.iadd, 1) := by decide +kernel
theorem d11_after_113 : decode m11_after.2.1 113 = .ok (.istore 8, 2) := by decide +kernel
theorem d11_after_115 : decode m11_after.2.1 115 = .ok (.iconst 1, 1) := by decide +kernel
theorem d11_after_116 : decode m11_after.2.1 116 = .ok (.istore 9, 2) := by decide +kernel
theorem d11_after_118 : decode m11_after.2.1 118 = .ok (.iload 9, 2) := by decide +kernel
theorem d11_after_120 : decode m11_after.2.1 120 = .ok (.iconst 3, 1) := by decide +kernel
theorem d11_after_121 : decode m11_after.2.1 121 = .ok (.if_icmp .ge 38, 3) := by decide +kernel
theorem d11_after_124 : decode m11_after.2.1 124 = .ok (.aload_n 0, 1) := by decide +kernel
theorem d11_after_125 : decode m11_after.2.1 125 = .ok (.getfield 7, 3) := by decide +kernel
theorem d11_after_128 : decode m11_after.2.1 128 = .ok (.iload 8, 2) := by decide +kernel
theorem d11_after_130 : decode m11_after.2.1 130 = .ok (.iaload, 1) := by decide +kernel
theorem d11_after_131 : decode m11_after.2.1 131 = .ok (.ifCond .ne 28, 3) := by decide +kernel
theorem d11_after_134 : decode m11_after.2.1 134 = .ok (.aload_n 0, 1) := by decide +kernel
theorem d11_after_135 : decode m11_after.2.1 135 = .ok (.getfield 74, 3) := by decide +kernel
theorem d11_after_138 : decode m11_after.2.1 138 = .ok (.aload_n 0, 1) := by decide +kernel
theorem d11_after_139 : decode m11_after.2.1 139 = .ok (.getfield 7, 3) := by decide +kernel
theorem d11_after_142 : decode m11_after.2.1 142 = .ok (.iload 8, 2) := by decide +kernel
theorem d11_after_144 : decode m11_after.2.1 144 = .ok (.iload 9, 2) := by decide +kernel
theorem d11_after_146 : decode m11_after.2.1 146 = .ok (.iadd, 1) := by decide +kernel
theorem d11_after_147 : decode m11_after.2.1 147 = .ok (.iaload, 1) := by decide +kernel
theorem d11_after_148 : decode m11_after.2.1 148 = .ok (.dup2, 1) := by decide +kernel
theorem d11_after_149 : decode m11_after.2.1 149 = .ok (.iaload, 1) := by decide +kernel
theorem d11_after_150 : decode m11_after.2.1 150 = .ok (.iconst 1, 1) := by decide +kernel
theorem d11_after_151 : decode m11_after.2.1 151 = .ok (.iadd, 1) := by decide +kernel
theorem d11_after_152 : decode m11_after.2.1 152 = .ok (.iastore, 1) := by decide +kernel
theorem d11_after_153 : decode m11_after.2.1 153 = .ok (.iinc 9 1, 3) := by decide +kernel
theorem d11_after_156 : decode m11_after.2.1 156 = .ok (.goto (-38), 3) := by decide +kernel
theorem d11_after_159 : decode m11_after.2.1 159 = .ok (.iload 5, 2) := by decide +kernel
theorem d11_after_161 : decode m11_after.2.1 161 = .ok (.iconst (-1), 1) := by decide +kernel
theorem d11_after_162 : decode m11_after.2.1 162 = .ok (.if_icmp .ne 14, 3) := by decide +kernel
theorem d11_after_165 : decode m11_after.2.1 165 = .ok (.aload_n 0, 1) := by decide +kernel
theorem d11_after_166 : decode m11_after.2.1 166 = .ok (.getfield 331, 3) := by decide +kernel
theorem d11_after_169 : decode m11_after.2.1 169 = .ok (.ifCond .eq 7, 3) := by decide +kernel
theorem d11_after_172 : decode m11_after.2.1 172 = .ok (.iload 7, 2) := by decide +kernel
theorem d11_after_174 : decode m11_after.2.1 174 = .ok (.istore 5, 2) := by decide +kernel
theorem d11_after_176 : decode m11_after.2.1 176 = .ok (.iload 6, 2) := by decide +kernel
theorem d11_after_178 : decode m11_after.2.1 178 = .ok (.aload_n 0, 1) := by decide +kernel
theorem d11_after_179 : decode m11_after.2.1 179 = .ok (.invokevirtual 374, 3) := by decide +kernel
theorem d11_after_182 : decode m11_after.2.1 182 = .ok (.ifCond .eq 7, 3) := by decide +kernel
theorem d11_after_185 : decode m11_after.2.1 185 = .ok (.iconst 1, 1) := by decide +kernel
theorem d11_after_186 : decode m11_after.2.1 186 = .ok (.goto 4, 3) := by decide +kernel
theorem d11_after_189 : decode m11_after.2.1 189 = .ok (.iconst 0, 1) := by decide +kernel
theorem d11_after_190 : decode m11_after.2.1 190 = .ok (.iadd, 1) := by decide +kernel
theorem d11_after_191 : decode m11_after.2.1 191 = .ok (.istore 6, 2) := by decide +kernel
theorem d11_after_193 : decode m11_after.2.1 193 = .ok (.iconst 0, 1) := by decide +kernel
theorem d11_after_194 : decode m11_after.2.1 194 = .ok (.istore 9, 2) := by decide +kernel
theorem d11_after_196 : decode m11_after.2.1 196 = .ok (.iload 9, 2) := by decide +kernel
theorem d11_after_198 : decode m11_after.2.1 198 = .ok (.aload_n 0, 1) := by decide +kernel
theorem d11_after_199 : decode m11_after.2.1 199 = .ok (.getfield 198, 3) := by decide +kernel
theorem d11_after_202 : decode m11_after.2.1 202 = .ok (.if_icmp .ge 35, 3) := by decide +kernel
theorem d11_after_205 : decode m11_after.2.1 205 = .ok (.aload_n 0, 1) := by decide +kernel
theorem d11_after_206 : decode m11_after.2.1 206 = .ok (.getfield 65, 3) := by decide +kernel
theorem d11_after_209 : decode m11_after.2.1 209 = .ok (.iload 9, 2) := by decide +kernel
theorem d11_after_211 : decode m11_after.2.1 211 = .ok (.iaload, 1) := by decide +kernel
theorem d11_after_212 : decode m11_after.2.1 212 = .ok (.iload 4, 2) := by decide +kernel
theorem d11_after_214 : decode m11_after.2.1 214 = .ok (.if_icmp .le 13, 3) := by decide +kernel
theorem d11_after_217 : decode m11_after.2.1 217 = .ok (.aload_n 0, 1) := by decide +kernel
theorem d11_after_218 : decode m11_after.2.1 218 = .ok (.getfield 65, 3) := by decide +kernel
theorem d11_after_221 : decode m11_after.2.1 221 = .ok (.iload 9, 2) := by decide +kernel
theorem d11_after_223 : decode m11_after.2.1 223 = .ok (.iaload, 1) := by decide +kernel
theorem d11_after_224 : decode m11_after.2.1 224 = .ok (.goto 5, 3) := by decide +kernel
theorem d11_after_227 : decode m11_after.2.1 227 = .ok (.iload 4, 2) := by decide +kernel
theorem d11_after_229 : decode m11_after.2.1 229 = .ok (.istore 4, 2) := by decide +kernel
theorem d11_after_231 : decode m11_after.2.1 231 = .ok (.iinc 9 1, 3) := by decide +kernel
theorem d11_after_234 : decode m11_after.2.1 234 = .ok (.goto (-38), 3) := by decide +kernel
theorem d11_after_237 : decode m11_after.2.1 237 = .ok (.iinc 7 1, 3) := by decide +kernel
theorem d11_after_240 : decode m11_after.2.1 240 = .ok (.goto (-161), 3) := by decide +kernel
theorem d11_after_243 : decode m11_after.2.1 243 = .ok (.iconst 0, 1) := by decide +kernel
theorem d11_after_244 : decode m11_after.2.1 244 = .ok (.istore 7, 2) := by decide +kernel
theorem d11_after_246 : decode m11_after.2.1 246 = .ok (.iconst 1, 1) := by decide +kernel
theorem d11_after_247 : decode m11_after.2.1 247 = .ok (.istore 8, 2) := by decide +kernel
theorem d11_after_249 : decode m11_after.2.1 249 = .ok (.iload 8, 2) := by decide +kernel
theorem d11_after_251 : decode m11_after.2.1 251 = .ok (.bipush 8, 2) := by decide +kernel
theorem d11_after_253 : decode m11_after.2.1 253 = .ok (.if_icmp .ge 35, 3) := by decide +kernel
theorem d11_after_256 : decode m11_after.2.1 256 = .ok (.aload_n 0, 1) := by decide +kernel
theorem d11_after_257 : decode m11_after.2.1 257 = .ok (.getfield 74, 3) := by decide +kernel
theorem d11_after_260 : decode m11_after.2.1 260 = .ok (.iload 8, 2) := by decide +kernel
theorem d11_after_262 : decode m11_after.2.1 262 = .ok (.iaload, 1) := by decide +kernel
theorem d11_after_263 : decode m11_after.2.1 263 = .ok (.aload_n 0, 1) := by decide +kernel
theorem d11_after_264 : decode m11_after.2.1 264 = .ok (.getfield 74, 3) := by decide +kernel
theorem d11_after_267 : decode m11_after.2.1 267 = .ok (.iload 7, 2) := by decide +kernel
theorem d11_after_269 : decode m11_after.2.1 269 = .ok (.iaload, 1) := by decide +kernel
theorem d11_after_270 : decode m11_after.2.1 270 = .ok (.if_icmp .le 8, 3) := by decide +kernel
theorem d11_after_273 : decode m11_after.2.1 273 = .ok (.iload 8, 2) := by decide +kernel
theorem d11_after_275 : decode m11_after.2.1 275 = .ok (.goto 5, 3) := by decide +kernel
theorem d11_after_278 : decode m11_after.2.1 278 = .ok (.iload 7, 2) := by decide +kernel
theorem d11_after_280 : decode m11_after.2.1 280 = .ok (.istore 7, 2) := by decide +kernel
theorem d11_after_282 : decode m11_after.2.1 282 = .ok (.iinc 8 1, 3) := by decide +kernel
theorem d11_after_285 : decode m11_after.2.1 285 = .ok (.goto (-36), 3) := by decide +kernel
theorem d11_after_288 : decode m11_after.2.1 288 = .ok (.iload_n 3, 1) := by decide +kernel
theorem d11_after_289 : decode m11_after.2.1 289 = .ok (.tableswitch 50 0 2 #[27, 30, 47], 27) := by decide +kernel
theorem d11_after_316 : decode m11_after.2.1 316 = .ok (.iload 4, 2) := by decide +kernel
theorem d11_after_318 : decode m11_after.2.1 318 = .ok (.ireturn, 1) := by decide +kernel
theorem d11_after_319 : decode m11_after.2.1 319 = .ok (.aload_n 0, 1) := by decide +kernel
theorem d11_after_320 : decode m11_after.2.1 320 = .ok (.getfield 74, 3) := by decide +kernel
theorem d11_after_323 : decode m11_after.2.1 323 = .ok (.iload 7, 2) := by decide +kernel
theorem d11_after_325 : decode m11_after.2.1 325 = .ok (.iaload, 1) := by decide +kernel
theorem d11_after_326 : decode m11_after.2.1 326 = .ok (.ifCond .ne 7, 3) := by decide +kernel
theorem d11_after_329 : decode m11_after.2.1 329 = .ok (.iconst (-1), 1) := by decide +kernel
theorem d11_after_330 : decode m11_after.2.1 330 = .ok (.goto 5, 3) := by decide +kernel
theorem d11_after_333 : decode m11_after.2.1 333 = .ok (.iload 7, 2) := by decide +kernel
theorem d11_after_335 : decode m11_after.2.1 335 = .ok (.ireturn, 1) := by decide +kernel
theorem d11_after_336 : decode m11_after.2.1 336 = .ok (.iload 5, 2) := by decide +kernel
theorem d11_after_338 : decode m11_after.2.1 338 = .ok (.ireturn, 1) := by decide +kernel
theorem d11_after_339 : decode m11_after.2.1 339 = .ok (.iload 6, 2) := by decide +kernel
theorem d11_after_341 : decode m11_after.2.1 341 = .ok (.ireturn, 1) := by decide +kernel
def b11_after_229 (rec79 : Int × Int × Int × Int × AH → Option (Int × AH)) (rec196 : Int × Int × AH → Option (Int × AH)) (x3 : Int) (x5 : Int) (x6 : Int) (x7 : Int) (x9 : Int) (s0 : Int) (h : AH) : Option (Int × AH) :=
  rec196 (s0, (x9 + 1), h)
set_option maxRecDepth 100000 in
theorem t11_after_229 (l : Launch) (G : Geo) (d : Nat) (hd : 7 ≤ d) (x3 : Int) (x5 : Int) (x6 : Int) (x7 : Int) (x9 : Int) (s0 : Int) (rec79 : Int × Int × Int × Int × AH → Option (Int × AH)) (H79 : ∀ (x4 : Int) (x5 : Int) (x6 : Int) (x7 : Int) (h : AH), Den l G m11_after rvI d 79 [some (vA G 69), none, none, some (vI x3), some (vI x4), some (vI x5), some (vI x6), some (vI x7), none, none] [] h (rec79 (x4, x5, x6, x7, h))) (rec196 : Int × Int × AH → Option (Int × AH)) (H196 : ∀ (x4 : Int) (x9 : Int) (h : AH), Den l G m11_after rvI d 196 [some (vA G 69), none, none, some (vI x3), some (vI x4), some (vI x5), some (vI x6), some (vI x7), none, some (vI x9)] [] h (rec196 (x4, x9, h))) (h : AH) : Den l G m11_after rvI d 229 [some (vA G 69), none, none, some (vI x3), none, some (vI x5), some (vI x6), some (vI x7), none, some (vI x9)] [vI s0] h (b11_after_229 rec79 rec196 x3 x5 x6 x7 x9 s0 h) := by
  unfold b11_after_229
  refine den_istore (pc := 229) (L2 := [some (vA G 69), none, none, some (vI x3), some (vI s0), some (vI x5), some (vI x6), some (vI x7), none, some (vI x9)]) d11_after_229 (by decide) rfl ?_
  refine den_iinc (pc := 231) (L2 := [some (vA G 69), none, none, some (vI x3), some (vI s0), some (vI x5), some (vI x6), some (vI x7), none, some (vI (x9 + 1))]) d11_after_231 (by decide) rfl rfl ?_
  refine den_goto (pc := 234) (tgt := 196) d11_after_234 (by decide) ?_
  exact H196 s0 (x9 + 1) h
def b11_after_196 (rec196 : Int × Int × AH → Option (Int × AH)) (rec79 : Int × Int × Int × Int × AH → Option (Int × AH)) (x3 : Int) (x5 : Int) (x6 : Int) (x7 : Int) (x4 : Int) (x9 : Int) (h : AH) : Option (Int × AH) :=
  if w32 (h.2 69 15) ≤ w32 x9 then
    rec79 (x4, x5, x6, (x7 + 1), h)
  else
    asrt (0 ≤ w32 x9 ∧ w32 x9 < 4) <|
    if w32 (h.2 88 (w32 x9).toNat) ≤ w32 x4 then
      b11_after_229 rec79 rec196 x3 x5 x6 x7 x9 x4 h
    else
      asrt (0 ≤ w32 x9 ∧ w32 x9 < 4) <|
      b11_after_229 rec79 rec196 x3 x5 x6 x7 x9 (h.2 88 (w32 x9).toNat) h
set_option maxRecDepth 100000 in
theorem t11_after_196 (l : Launch) (G : Geo) (d : Nat) (hd : 7 ≤ d) (x3 : Int) (x5 : Int) (x6 : Int) (x7 : Int) (x4 : Int) (x9 : Int) (rec196 : Int × Int × AH → Option (Int × AH)) (H196 : ∀ (x4 : Int) (x9 : Int) (h : AH), Den l G m11_after rvI d 196 [some (vA G 69), none, none, some (vI x3), some (vI x4), some (vI x5), some (vI x6), some (vI x7), none, some (vI x9)] [] h (rec196 (x4, x9, h))) (rec79 : Int × Int × Int × Int × AH → Option (Int × AH)) (H79 : ∀ (x4 : Int) (x5 : Int) (x6 : Int) (x7 : Int) (h : AH), Den l G m11_after rvI d 79 [some (vA G 69), none, none, some (vI x3), some (vI x4), some (vI x5), some (vI x6), some (vI x7), none, none] [] h (rec79 (x4, x5, x6, x7, h))) (h : AH) : Den l G m11_after rvI d 196 [some (vA G 69), none, none, some (vI x3), some (vI x4), some (vI x5), some (vI x6), some (vI x7), none, some (vI x9)] [] h (b11_after_196 rec196 rec79 x3 x5 x6 x7 x4 x9 h) := by
  unfold b11_after_196
  refine den_iload (pc := 196) d11_after_196 rfl ?_
  refine den_aload_n (pc := 198) d11_after_198 rfl rfl ?_
  refine den_getI (pc := 199) fa_11_198 (ok_69 _) d11_after_199 ?_
  refine den_icmp_ge (pc := 202) (tgt := 237) d11_after_202 (by decide) rfl rfl (fun _ => ?_) (fun _ => ?_)
  · refine den_iinc (pc := 237) (L2 := [some (vA G 69), none, none, some (vI x3), some (vI x4), some (vI x5), some (vI x6), some (vI (x7 + 1)), none, some (vI x9)]) d11_after_237 (by decide) rfl rfl ?_
    refine den_goto (pc := 240) (tgt := 79) d11_after_240 (by decide) ?_
    refine den_wk [true, true, true, true, true, true, true, true, true, false] rfl ?_
    exact H79 x4 x5 x6 (x7 + 1) h
  · refine den_aload_n (pc := 205) d11_after_205 rfl rfl ?_
    refine den_getR (pc := 206) (b := 88) fa_11_65 (ok_69 _) rfl d11_after_206 ?_
    refine den_iload (pc := 209) d11_after_209 rfl ?_
    refine den_asrt (fun a1 => ?_)
    refine den_iaload (pc := 211) sh_88 (sz_lt (by decide)) rfl a1 d11_after_211 ?_
    refine den_iload (pc := 212) d11_after_212 rfl ?_
    refine den_icmp_le (pc := 214) (tgt := 227) d11_after_214 (by decide) rfl rfl (fun _ => ?_) (fun _ => ?_)
    · refine den_iload (pc := 227) d11_after_227 rfl ?_
      refine den_wk [true, true, true, true, false, true, true, true, true, true] rfl ?_
      exact t11_after_229 l G _ hd x3 x5 x6 x7 x9 x4 rec79 H79 rec196 H196 h
    · refine den_aload_n (pc := 217) d11_after_217 rfl rfl ?_
      refine den_getR (pc := 218) (b := 88) fa_11_65 (ok_69 _) rfl d11_after_218 ?_
      refine den_iload (pc := 221) d11_after_221 rfl ?_
      refine den_asrt (fun a2 => ?_)
      refine den_iaload (pc := 223) sh_88 (sz_lt (by decide)) rfl a2 d11_after_223 ?_
      refine den_goto (pc := 224) (tgt := 229) d11_after_224 (by decide) ?_
      refine den_wk [true, true, true, true, false, true, true, true, true, true] rfl ?_
      exact t11_after_229 l G _ hd x3 x5 x6 x7 x9 (h.2 88 (w32 x9).toNat) rec79 H79 rec196 H196 h
def l11_after_196 (rec79 : Int × Int × Int × Int × AH → Option (Int × AH)) (x3 : Int) (x5 : Int) (x6 : Int) (x7 : Int) (x4 : Int) (x9 : Int) (h : AH) : Option (Int × AH) := fx (fun rec z => b11_after_196 rec rec79 x3 x5 x6 x7 z.1 z.2.1 z.2.2) FU (x4, x9, h)
set_option maxRecDepth 100000 in
theorem tl11_after_196 (l : Launch) (G : Geo) (d : Nat) (hd : 7 ≤ d) (x3 : Int) (x5 : Int) (x6 : Int) (x7 : Int) (rec79 : Int × Int × Int × Int × AH → Option (Int × AH)) (H79 : ∀ (x4 : Int) (x5 : Int) (x6 : Int) (x7 : Int) (h : AH), Den l G m11_after rvI d 79 [some (vA G 69), none, none, some (vI x3), some (vI x4), some (vI x5), some (vI x6), some (vI x7), none, none] [] h (rec79 (x4, x5, x6, x7, h))) : ∀ (n : Nat) (z : Int × Int × AH), True → Den l G m11_after rvI d 196 [some (vA G 69), none, none, some (vI x3), some (vI z.1), some (vI x5), some (vI x6), some (vI x7), none, some (vI z.2.1)] [] z.2.2 (fx (fun rec z => b11_after_196 rec rec79 x3 x5 x6 x7 z.1 z.2.1 z.2.2) n z) :=
  den_fx (F := fun rec z => b11_after_196 rec rec79 x3 x5 x6 x7 z.1 z.2.1 z.2.2) (P := fun z => True) (fL := fun z => [some (vA G 69), none, none, some (vI x3), some (vI z.1), some (vI x5), some (vI x6), some (vI x7), none, some (vI z.2.1)]) (fs := fun z => []) (fh := fun z => z.2.2) (fun rec hrec z hz => t11_after_196 l G d hd x3 x5 x6 x7 z.1 z.2.1 rec (fun x4 x9 h => hrec (x4, x9, h) trivial) rec79 H79 z.2.2 )
def b11_after_190 (rec79 : Int × Int × Int × Int × AH → Option (Int × AH)) (x3 : Int) (x4 : Int) (x5 : Int) (x7 : Int) (s0 : Int) (s1 : Int) (h : AH) : Option (Int × AH) :=
  lt (s1 + s0) fun u3 =>
  l11_after_196 rec79 x3 x5 u3 x7 x4 0 h
set_option maxRecDepth 100000 in
theorem t11_after_190 (l : Launch) (G : Geo) (d : Nat) (hd : 7 ≤ d) (x3 : Int) (x4 : Int) (x5 : Int) (x7 : Int) (s0 : Int) (s1 : Int) (rec79 : Int × Int × Int × Int × AH → Option (Int × AH)) (H79 : ∀ (x4 : Int) (x5 : Int) (x6 : Int) (x7 : Int) (h : AH), Den l G m11_after rvI d 79 [some (vA G 69), none, none, some (vI x3), some (vI x4), some (vI x5), some (vI x6), some (vI x7), none, none] [] h (rec79 (x4, x5, x6, x7, h))) (h : AH) : Den l G m11_after rvI d 190 [some (vA G 69), none, none, some (vI x3), some (vI x4), some (vI x5), none, some (vI x7), none, none] [vI s0, vI s1] h (b11_after_190 rec79 x3 x4 x5 x7 s0 s1 h) := by
  unfold b11_after_190
  refine den_iadd (pc := 190) d11_after_190 ?_
  refine den_istoreL (pc := 191) (L2 := fun y => [some (vA G 69), none, none, some (vI x3), some (vI x4), some (vI x5), some (vI y), some (vI x7), none, none]) d11_after_191 (by decide) (fun _ => rfl) (fun u3 => ?_)
  refine den_iconst (pc := 193) d11_after_193 ?_
  refine den_istore (pc := 194) (L2 := [some (vA G 69), none, none, some (vI x3), some (vI x4), some (vI x5), some (vI u3), some (vI x7), none, some (vI 0)]) d11_after_194 (by decide) rfl ?_
  exact tl11_after_196 l G _ hd x3 x5 u3 x7 rec79 H79 FU (x4, 0, h) trivial
def b11_after_176 (rec79 : Int × Int × Int × Int × AH → Option (Int × AH)) (x3 : Int) (x4 : Int) (x5 : Int) (x6 : Int) (x7 : Int) (h : AH) : Option (Int × AH) :=
  bnd (f11_isCosy h) fun r4 h5 =>
  if w32 r4 = 0 then
    b11_after_190 rec79 x3 x4 x5 x7 0 x6 h5
  else
    b11_after_190 rec79 x3 x4 x5 x7 1 x6 h5
set_option maxRecDepth 100000 in
theorem t11_after_176 (l : Launch) (G : Geo) (d : Nat) (hd : 7 ≤ d) (x3 : Int) (x4 : Int) (x5 : Int) (x6 : Int) (x7 : Int) (rec79 : Int × Int × Int × Int × AH → Option (Int × AH)) (H79 : ∀ (x4 : Int) (x5 : Int) (x6 : Int) (x7 : Int) (h : AH), Den l G m11_after rvI d 79 [some (vA G 69), none, none, some (vI x3), some (vI x4), some (vI x5), some (vI x6), some (vI x7), none, none] [] h (rec79 (x4, x5, x6, x7, h))) (h : AH) : Den l G m11_after rvI d 176 [some (vA G 69), none, none, some (vI x3), some (vI x4), some (vI x5), some (vI x6), some (vI x7), none, none] [] h (b11_after_176 rec79 x3 x4 x5 x6 x7 h) := by
  unfold b11_after_176
  refine den_iload (pc := 176) d11_after_176 rfl ?_
  refine den_aload_n (pc := 178) d11_after_178 rfl rfl ?_
  refine den_callVI (pc := 179) (As := []) fv_11_374 rfl rfl (ok_69 _) (Nat.le_of_ble_eq_true rfl) (Nat.le_trans (by decide) hd) d11_after_179 (c11_isCosy l G h) (fun r4 h5 m6 o7 => ?_)
  refine den_if_eq (pc := 182) (tgt := 189) d11_after_182 (by decide) rfl (fun _ => ?_) (fun _ => ?_)
  · refine den_iconst (pc := 189) d11_after_189 ?_
    refine den_wk [true, true, true, true, true, true, false, true, true, true] rfl ?_
    exact t11_after_190 l G _ hd x3 x4 x5 x7 0 x6 rec79 H79 h5
  · refine den_iconst (pc := 185) d11_after_185 ?_
    refine den_goto (pc := 186) (tgt := 190) d11_after_186 (by decide) ?_
    refine den_wk [true, true, true, true, true, true, false, true, true, true] rfl ?_
    exact t11_after_190 l G _ hd x3 x4 x5 x7 1 x6 rec79 H79 h5
def b11_after_159 (rec79 : Int × Int × Int × Int × AH → Option (Int × AH)) (x3 : Int) (x4 : Int) (x5 : Int) (x6 : Int) (x7 : Int) (h : AH) : Option (Int × AH) :=
  if ¬ w32 x5 = (-1) then
    b11_after_176 rec79 x3 x4 x5 x6 x7 h
  else
    if w32 (h.2 69 33) = 0 then
      b11_after_176 rec79 x3 x4 x5 x6 x7 h
    else
      b11_after_176 rec79 x3 x4 x7 x6 x7 h
set_option maxRecDepth 100000 in
theorem t11_after_159 (l : Launch) (G : Geo) (d : Nat) (hd : 7 ≤ d) (x3 : Int) (x4 : Int) (x5 : Int) (x6 : Int) (x7 : Int) (rec79 : Int × Int × Int × Int × AH → Option (Int × AH)) (H79 : ∀ (x4 : Int) (x5 : Int) (x6 : Int) (x7 : Int) (h : AH), Den l G m11_after rvI d 79 [some (vA G 69), none, none, some (vI x3), some (vI x4), some (vI x5), some (vI x6), some (vI x7), none, none] [] h (rec79 (x4, x5, x6, x7, h))) (h : AH) : Den l G m11_after rvI d 159 [some (vA G 69), none, none, some (vI x3), some (vI x4), some (vI x5), some (vI x6), some (vI x7), none, none] [] h (b11_after_159 rec79 x3 x4 x5 x6 x7 h) := by
  unfold b11_after_159
  refine den_iload (pc := 159) d11_after_159 rfl ?_
  refine den_iconst (pc := 161) d11_after_161 ?_
  refine den_icmp_ne (pc := 162) (tgt := 176) d11_after_162 (by decide) rfl (by decide) (fun _ => ?_) (fun _ => ?_)
  · exact t11_after_176 l G _ hd x3 x4 x5 x6 x7 rec79 H79 h
  · refine den_aload_n (pc := 165) d11_after_165 rfl rfl ?_
    refine den_getI (pc := 166) fa_11_331 (ok_69 _) d11_after_166 ?_
    refine den_if_eq (pc := 169) (tgt := 176) d11_after_169 (by decide) rfl (fun _ => ?_) (fun _ => ?_)
    · exact t11_after_176 l G _ hd x3 x4 x5 x6 x7 rec79 H79 h
    · refine den_iload (pc := 172) d11_after_172 rfl ?_
      refine den_istore (pc := 174) (L2 := [some (vA G 69), none, none, some (vI x3), some (vI x4), some (vI x7), some (vI x6), some (vI x7), none, none]) d11_after_174 (by decide) rfl ?_
      exact t11_after_176 l G _ hd x3 x4 x7 x6 x7 rec79 H79 h
def b11_after_118 (rec118 : Int × AH → Option (Int × AH)) (rec79 : Int × Int × Int × Int × AH → Option (Int × AH)) (x3 : Int) (x4 : Int) (x5 : Int) (x6 : Int) (x7 : Int) (x8 : Int) (x9 : Int) (h : AH) : Option (Int × AH) :=
  if 3 ≤ w32 x9 then
    b11_after_159 rec79 x3 x4 x5 x6 x7 h
  else
    asrt (0 ≤ w32 x8 ∧ w32 x8 < 4824) <|
    if ¬ w32 (h.2 70 (w32 x8).toNat) = 0 then
      b11_after_159 rec79 x3 x4 x5 x6 x7 h
    else
      asrt (0 ≤ w32 (x8 + x9) ∧ w32 (x8 + x9) < 4824) <|
      asrt (0 ≤ w32 (h.2 70 (w32 (x8 + x9)).toNat) ∧ w32 (h.2 70 (w32 (x8 + x9)).toNat) < 8) <|
      asrt (0 ≤ w32 (h.2 70 (w32 (x8 + x9)).toNat) ∧ w32 (h.2 70 (w32 (x8 + x9)).toNat) < 8) <|
      lt (wr h 91 (w32 (h.2 70 (w32 (x8 + x9)).toNat)).toNat ((h.2 91 (w32 (h.2 70 (w32 (x8 + x9)).toNat)).toNat) + 1)) fun h12 =>
      rec118 ((x9 + 1), h12)
set_option maxRecDepth 100000 in
theorem t11_after_118 (l : Launch) (G : Geo) (d : Nat) (hd : 7 ≤ d) (x3 : Int) (x4 : Int) (x5 : Int) (x6 : Int) (x7 : Int) (x8 : Int) (x9 : Int) (rec118 : Int × AH → Option (Int × AH)) (H118 : ∀ (x9 : Int) (h : AH), Den l G m11_after rvI d 118 [some (vA G 69), none, none, some (vI x3), some (vI x4), some (vI x5), some (vI x6), some (vI x7), some (vI x8), some (vI x9)] [] h (rec118 (x9, h))) (rec79 : Int × Int × Int × Int × AH → Option (Int × AH)) (H79 : ∀ (x4 : Int) (x5 : Int) (x6 : Int) (x7 : Int) (h : AH), Den l G m11_after rvI d 79 [some (vA G 69), none, none, some (vI x3), some (vI x4), some (vI x5), some (vI x6), some (vI x7), none, none] [] h (rec79 (x4, x5, x6, x7, h))) (h : AH) : Den l G m11_after rvI d 118 [some (vA G 69), none, none, some (vI x3), some (vI x4), some (vI x5), some (vI x6), some (vI x7), some (vI x8), some (vI x9)] [] h (b11_after_118 rec118 rec79 x3 x4 x5 x6 x7 x8 x9 h) := by
  unfold b11_after_118
  refine den_iload (pc := 118) d11_after_118 rfl ?_
  refine den_iconst (pc := 120) d11_after_120 ?_
  refine den_icmp_ge (pc := 121) (tgt := 159) d11_after_121 (by decide) rfl (by decide) (fun _ => ?_) (fun _ => ?_)
  · refine den_wk [true, true, true, true, true, true, true, true, false, false] rfl ?_
    exact t11_after_159 l G _ hd x3 x4 x5 x6 x7 rec79 H79 h
  · refine den_aload_n (pc := 124) d11_after_124 rfl rfl ?_
    refine den_getR (pc := 125) (b := 70) fa_11_7 (ok_69 _) rfl d11_after_125 ?_
    refine den_iload (pc := 128) d11_after_128 rfl ?_
    refine den_asrt (fun a8 => ?_)
    refine den_iaload (pc := 130) sh_70 (sz_lt (by decide)) rfl a8 d11_after_130 ?_
    refine den_if_ne (pc := 131) (tgt := 159) d11_after_131 (by decide) rfl (fun _ => ?_) (fun _ => ?_)
    · refine den_wk [true, true, true, true, true, true, true, true, false, false] rfl ?_
      exact t11_after_159 l G _ hd x3 x4 x5 x6 x7 rec79 H79 h
    · refine den_aload_n (pc := 134) d11_after_134 rfl rfl ?_
      refine den_getR (pc := 135) (b := 91) fa_11_74 (ok_69 _) rfl d11_after_135 ?_
      refine den_aload_n (pc := 138) d11_after_138 rfl rfl ?_
      refine den_getR (pc := 139) (b := 70) fa_11_7 (ok_69 _) rfl d11_after_139 ?_
      refine den_iload (pc := 142) d11_after_142 rfl ?_
      refine den_iload (pc := 144) d11_after_144 rfl ?_
      refine den_iadd (pc := 146) d11_after_146 ?_
      refine den_asrt (fun a9 => ?_)
      refine den_iaload (pc := 147) sh_70 (sz_lt (by decide)) rfl a9 d11_after_147 ?_
      refine den_dup2 (pc := 148) d11_after_148 rfl rfl ?_
      refine den_asrt (fun a10 => ?_)
      refine den_iaload (pc := 149) sh_91 (sz_lt (by decide)) rfl a10 d11_after_149 ?_
      refine den_iconst (pc := 150) d11_after_150 ?_
      refine den_iadd (pc := 151) d11_after_151 ?_
      refine den_asrt (fun a11 => ?_)
      refine den_iastore (pc := 152) sh_91 (sz_lt (by decide)) rfl a11 d11_after_152 ?_
      refine den_ltH (fun h12 m13 => ?_)
      refine den_iinc (pc := 153) (L2 := [some (vA G 69), none, none, some (vI x3), some (vI x4), some (vI x5), some (vI x6), some (vI x7), some (vI x8), some (vI (x9 + 1))]) d11_after_153 (by decide) rfl rfl ?_
      refine den_goto (pc := 156) (tgt := 118) d11_after_156 (by decide) ?_
      exact H118 (x9 + 1) h12
def l11_after_118 (rec79 : Int × Int × Int × Int × AH → Option (Int × AH)) (x3 : Int) (x4 : Int) (x5 : Int) (x6 : Int) (x7 : Int) (x8 : Int) (x9 : Int) (h : AH) : Option (Int × AH) := fx (fun rec z => b11_after_118 rec rec79 x3 x4 x5 x6 x7 x8 z.1 z.2) FU (x9, h)
set_option maxRecDepth 100000 in
theorem tl11_after_118 (l : Launch) (G : Geo) (d : Nat) (hd : 7 ≤ d) (x3 : Int) (x4 : Int) (x5 : Int) (x6 : Int) (x7 : Int) (x8 : Int) (rec79 : Int × Int × Int × Int × AH → Option (Int × AH)) (H79 : ∀ (x4 : Int) (x5 : Int) (x6 : Int) (x7 : Int) (h : AH), Den l G m11_after rvI d 79 [some (vA G 69), none, none, some (vI x3), some (vI x4), some (vI x5), some (vI x6), some (vI x7), none, none] [] h (rec79 (x4, x5, x6, x7, h))) : ∀ (n : Nat) (z : Int × AH), True → Den l G m11_after rvI d 118 [some (vA G 69), none, none, some (vI x3), some (vI x4), some (vI x5), some (vI x6), some (vI x7), some (vI x8), some (vI z.1)] [] z.2 (fx (fun rec z => b11_after_118 rec rec79 x3 x4 x5 x6 x7 x8 z.1 z.2) n z) :=
  den_fx (F := fun rec z => b11_after_118 rec rec79 x3 x4 x5 x6 x7 x8 z.1 z.2) (P := fun z => True) (fL := fun z => [some (vA G 69), none, none, some (vI x3), some (vI x4), some (vI x5), some (vI x6), some (vI x7), some (vI x8), some (vI z.1)]) (fs := fun z => []) (fh := fun z => z.2) (fun rec hrec z hz => t11_after_118 l G d hd x3 x4 x5 x6 x7 x8 z.1 rec (fun x9 h => hrec (x9, h) trivial) rec79 H79 z.2 )
def b11_after_280 (rec249 : Int × Int × AH → Option (Int × AH)) (x3 : Int) (x4 : Int) (x5 : Int) (x6 : Int) (x8 : Int) (s0 : Int) (h : AH) : Option (Int × AH) :=
  rec249 (s0, (x8 + 1), h)
set_option maxRecDepth 100000 in
theorem t11_after_280 (l : Launch) (G : Geo) (d : Nat) (hd : 7 ≤ d) (x3 : Int) (x4 : Int) (x5 : Int) (x6 : Int) (x8 : Int) (s0 : Int) (rec249 : Int × Int × AH → Option (Int × AH)) (H249 : ∀ (x7 : Int) (x8 : Int) (h : AH), Den l G m11_after rvI d 249 [some (vA G 69), none, none, some (vI x3), some (vI x4), some (vI x5), some (vI x6), some (vI x7), some (vI x8), none] [] h (rec249 (x7, x8, h))) (h : AH) : Den l G m11_after rvI d 280 [some (vA G 69), none, none, some (vI x3), some (vI x4), some (vI x5), some (vI x6), none, some (vI x8), none] [vI s0] h (b11_after_280 rec249 x3 x4 x5 x6 x8 s0 h) := by
  unfold b11_after_280
  refine den_istore (pc := 280) (L2 := [some (vA G 69), none, none, some (vI x3), some (vI x4), some (vI x5), some (vI x6), some (vI s0), some (vI x8), none]) d11_after_280 (by decide) rfl ?_
  refine den_iinc (pc := 282) (L2 := [some (vA G 69), none, none, some (vI x3), some (vI x4), some (vI x5), some (vI x6), some (vI s0), some (vI (x8 + 1)), none]) d11_after_282 (by decide) rfl rfl ?_
  refine den_goto (pc := 285) (tgt := 249) d11_after_285 (by decide) ?_
  exact H249 s0 (x8 + 1) h
def b11_after_249 (rec249 : Int × Int × AH → Option (Int × AH)) (x3 : Int) (x4 : Int) (x5 : Int) (x6 : Int) (x7 : Int) (x8 : Int) (h : AH) : Option (Int × AH) :=
  if 8 ≤ w32 x8 then
    if w32 x3 = 0 then
      some (x4, h)
    else
    if w32 x3 = 1 then
      asrt (0 ≤ w32 x7 ∧ w32 x7 < 8) <|
      if ¬ w32 (h.2 91 (w32 x7).toNat) = 0 then
        some (x7, h)
      else
        some ((-1), h)
    else
    if w32 x3 = 2 then
      some (x5, h)
    else
    some (x6, h)
  else
    asrt (0 ≤ w32 x8 ∧ w32 x8 < 8) <|
    asrt (0 ≤ w32 x7 ∧ w32 x7 < 8) <|
    if w32 (h.2 91 (w32 x8).toNat) ≤ w32 (h.2 91 (w32 x7).toNat) then
      b11_after_280 rec249 x3 x4 x5 x6 x8 x7 h
    else
      b11_after_280 rec249 x3 x4 x5 x6 x8 x8 h
set_option maxRecDepth 100000 in
theorem t11_after_249 (l : Launch) (G : Geo) (d : Nat) (hd : 7 ≤ d) (x3 : Int) (x4 : Int) (x5 : Int) (x6 : Int) (x7 : Int) (x8 : Int) (rec249 : Int × Int × AH → Option (Int × AH)) (H249 : ∀ (x7 : Int) (x8 : Int) (h : AH), Den l G m11_after rvI d 249 [some (vA G 69), none, none, some (vI x3), some (vI x4), some (vI x5), some (vI x6), some (vI x7), some (vI x8), none] [] h (rec249 (x7, x8, h))) (h : AH) : Den l G m11_after rvI d 249 [some (vA G 69), none, none, some (vI x3), some (vI x4), some (vI x5), some (vI x6), some (vI x7), some (vI x8), none] [] h (b11_after_249 rec249 x3 x4 x5 x6 x7 x8 h) := by
  unfold b11_after_249
  refine den_iload (pc := 249) d11_after_249 rfl ?_
  refine den_bipush (pc := 251) d11_after_251 (by decide) ?_
  refine den_icmp_ge (pc := 253) (tgt := 288) d11_after_253 (by decide) rfl (by decide) (fun _ => ?_) (fun _ => ?_)
  · refine den_iload_n (pc := 288) d11_after_288 rfl rfl ?_
    refine den_ite (fun c14 => ?_) (fun c14 => ?_)
    · refine den_tableIn (pc := 289) (tgt := 316) d11_after_289 (by omega) (by omega) (by rw [c14]; rfl) (by decide) ?_
      refine den_iload (pc := 316) d11_after_316 rfl ?_
      exact den_iret (pc := 318) rfl d11_after_318
    refine den_ite (fun c15 => ?_) (fun c15 => ?_)
    · refine den_tableIn (pc := 289) (tgt := 319) d11_after_289 (by omega) (by omega) (by rw [c15]; rfl) (by decide) ?_
      refine den_aload_n (pc := 319) d11_after_319 rfl rfl ?_
      refine den_getR (pc := 320) (b := 91) fa_11_74 (ok_69 _) rfl d11_after_320 ?_
      refine den_iload (pc := 323) d11_after_323 rfl ?_
      refine den_asrt (fun a16 => ?_)
      refine den_iaload (pc := 325) sh_91 (sz_lt (by decide)) rfl a16 d11_after_325 ?_
      refine den_if_ne (pc := 326) (tgt := 333) d11_after_326 (by decide) rfl (fun _ => ?_) (fun _ => ?_)
      · refine den_iload (pc := 333) d11_after_333 rfl ?_
        exact den_iret (pc := 335) rfl d11_after_335
      · refine den_iconst (pc := 329) d11_after_329 ?_
        refine den_goto (pc := 330) (tgt := 335) d11_after_330 (by decide) ?_
        exact den_iret (pc := 335) rfl d11_after_335
    refine den_ite (fun c17 => ?_) (fun c17 => ?_)
    · refine den_tableIn (pc := 289) (tgt := 336) d11_after_289 (by omega) (by omega) (by rw [c17]; rfl) (by decide) ?_
      refine den_iload (pc := 336) d11_after_336 rfl ?_
      exact den_iret (pc := 338) rfl d11_after_338
    refine den_tableOut (pc := 289) (tgt := 339) d11_after_289 (by omega) (by decide) ?_
    refine den_iload (pc := 339) d11_after_339 rfl ?_
    exact den_iret (pc := 341) rfl d11_after_341
  · refine den_aload_n (pc := 256) d11_after_256 rfl rfl ?_
    refine den_getR (pc := 257) (b := 91) fa_11_74 (ok_69 _) rfl d11_after_257 ?_
    refine den_iload (pc := 260) d11_after_260 rfl ?_
    refine den_asrt (fun a18 => ?_)
    refine den_iaload (pc := 262) sh_91 (sz_lt (by decide)) rfl a18 d11_after_262 ?_
    refine den_aload_n (pc := 263) d11_after_263 rfl rfl ?_
    refine den_getR (pc := 264) (b := 91) fa_11_74 (ok_69 _) rfl d11_after_264 ?_
    refine den_iload (pc := 267) d11_after_267 rfl ?_
    refine den_asrt (fun a19 => ?_)
    refine den_iaload (pc := 269) sh_91 (sz_lt (by decide)) rfl a19 d11_after_269 ?_
    refine den_icmp_le (pc := 270) (tgt := 278) d11_after_270 (by decide) rfl rfl (fun _ => ?_) (fun _ => ?_)
    · refine den_iload (pc := 278) d11_after_278 rfl ?_
      refine den_wk [true, true, true, true, true, true, true, false, true, true] rfl ?_
      exact t11_after_280 l G _ hd x3 x4 x5 x6 x8 x7 rec249 H249 h
    · refine den_iload (pc := 273) d11_after_273 rfl ?_
      refine den_goto (pc := 275) (tgt := 280) d11_after_275 (by decide) ?_
      refine den_wk [true, true, true, true, true, true, true, false, true, true] rfl ?_
      exact t11_after_280 l G _ hd x3 x4 x5 x6 x8 x8 rec249 H249 h
def l11_after_249 (x3 : Int) (x4 : Int) (x5 : Int) (x6 : Int) (x7 : Int) (x8 : Int) (h : AH) : Option (Int × AH) := fx (fun rec z => b11_after_249 rec x3 x4 x5 x6 z.1 z.2.1 z.2.2) FU (x7, x8, h)
set_option maxRecDepth 100000 in
theorem tl11_after_249 (l : Launch) (G : Geo) (d : Nat) (hd : 7 ≤ d) (x3 : Int) (x4 : Int) (x5 : Int) (x6 : Int) : ∀ (n : Nat) (z : Int × Int × AH), True → Den l G m11_after rvI d 249 [some (vA G 69), none, none, some (vI x3), some (vI x4), some (vI x5), some (vI x6), some (vI z.1), some (vI z.2.1), none] [] z.2.2 (fx (fun rec z => b11_after_249 rec x3 x4 x5 x6 z.1 z.2.1 z.2.2) n z) :=
  den_fx (F := fun rec z => b11_after_249 rec x3 x4 x5 x6 z.1 z.2.1 z.2.2) (P := fun z => True) (fL := fun z => [some (vA G 69), none, none, some (vI x3), some (vI x4), some (vI x5), some (vI x6), some (vI z.1), some (vI z.2.1), none]) (fs := fun z => []) (fh := fun z => z.2.2) (fun rec hrec z hz => t11_after_249 l G d hd x3 x4 x5 x6 z.1 z.2.1 rec (fun x7 x8 h => hrec (x7, x8, h) trivial) z.2.2 )
def b11_after_243 (x3 : Int) (x4 : Int) (x5 : Int) (x6 : Int) (h : AH) : Option (Int × AH) :=
  l11_after_249 x3 x4 x5 x6 0 1 h
set_option maxRecDepth 100000 in
theorem t11_after_243 (l : Launch) (G : Geo) (d : Nat) (hd : 7 ≤ d) (x3 : Int) (x4 : Int) (x5 : Int) (x6 : Int) (h : AH) : Den l G m11_after rvI d 243 [some (vA G 69), none, none, some (vI x3), some (vI x4), some (vI x5), some (vI x6), none, none, none] [] h (b11_after_243 x3 x4 x5 x6 h) := by
  unfold b11_after_243
  refine den_iconst (pc := 243) d11_after_243 ?_
  refine den_istore (pc := 244) (L2 := [some (vA G 69), none, none, some (vI x3), some (vI x4), some (vI x5), some (vI x6), some (vI 0), none, none]) d11_after_244 (by decide) rfl ?_
  refine den_iconst (pc := 246) d11_after_246 ?_
  refine den_istore (pc := 247) (L2 := [some (vA G 69), none, none, some (vI x3), some (vI x4), some (vI x5), some (vI x6), some (vI 0), some (vI 1), none]) d11_after_247 (by decide) rfl ?_
  exact tl11_after_249 l G _ hd x3 x4 x5 x6 FU (0, 1, h) trivial
def b11_after_79 (rec79 : Int × Int × Int × Int × AH → Option (Int × AH)) (x3 : Int) (x4 : Int) (x5 : Int) (x6 : Int) (x7 : Int) (h : AH) : Option (Int × AH) :=
  asrt (0 ≤ w32 (h.2 69 31) ∧ w32 (h.2 69 31) < 4824) <|
  if w32 (h.2 70 (w32 (h.2 69 31)).toNat) ≤ w32 x7 then
    b11_after_243 x3 x4 x5 x6 h
  else
    bnd (f11_doesTold x7 h) fun r21 h22 =>
    if w32 r21 = 0 then
      b11_after_243 x3 x4 x5 x6 h22
    else
      lt (((h22.2 69 31) + 1) + (5 * x7)) fun u25 =>
      l11_after_118 rec79 x3 x4 x5 x6 x7 u25 1 h22
set_option maxRecDepth 100000 in
theorem t11_after_79 (l : Launch) (G : Geo) (d : Nat) (hd : 7 ≤ d) (x3 : Int) (x4 : Int) (x5 : Int) (x6 : Int) (x7 : Int) (rec79 : Int × Int × Int × Int × AH → Option (Int × AH)) (H79 : ∀ (x4 : Int) (x5 : Int) (x6 : Int) (x7 : Int) (h : AH), Den l G m11_after rvI d 79 [some (vA G 69), none, none, some (vI x3), some (vI x4), some (vI x5), some (vI x6), some (vI x7), none, none] [] h (rec79 (x4, x5, x6, x7, h))) (h : AH) : Den l G m11_after rvI d 79 [some (vA G 69), none, none, some (vI x3), some (vI x4), some (vI x5), some (vI x6), some (vI x7), none, none] [] h (b11_after_79 rec79 x3 x4 x5 x6 x7 h) := by
  unfold b11_after_79
  refine den_iload (pc := 79) d11_after_79 rfl ?_
  refine den_aload_n (pc := 81) d11_after_81 rfl rfl ?_
  refine den_getR (pc := 82) (b := 70) fa_11_7 (ok_69 _) rfl d11_after_82 ?_
  refine den_aload_n (pc := 85) d11_after_85 rfl rfl ?_
  refine den_getI (pc := 86) fa_11_322 (ok_69 _) d11_after_86 ?_
  refine den_asrt (fun a20 => ?_)
  refine den_iaload (pc := 89) sh_70 (sz_lt (by decide)) rfl a20 d11_after_89 ?_
  refine den_icmp_ge (pc := 90) (tgt := 243) d11_after_90 (by decide) rfl rfl (fun _ => ?_) (fun _ => ?_)
  · refine den_wk [true, true, true, true, true, true, true, false, true, true] rfl ?_
    exact t11_after_243 l G _ hd x3 x4 x5 x6 h
  · refine den_aload_n (pc := 93) d11_after_93 rfl rfl ?_
    refine den_iload (pc := 94) d11_after_94 rfl ?_
    refine den_callVI (pc := 96) (As := [vI x7]) fv_11_368 rfl rfl (ok_69 _) (Nat.le_of_ble_eq_true rfl) (Nat.le_trans (by decide) hd) d11_after_96 (c11_doesTold l G x7 h) (fun r21 h22 m23 o24 => ?_)
    refine den_if_eq (pc := 99) (tgt := 243) d11_after_99 (by decide) rfl (fun _ => ?_) (fun _ => ?_)
    · refine den_wk [true, true, true, true, true, true, true, false, true, true] rfl ?_
      exact t11_after_243 l G _ hd x3 x4 x5 x6 h22
    · refine den_aload_n (pc := 102) d11_after_102 rfl rfl ?_
      refine den_getI (pc := 103) fa_11_322 (ok_69 _) d11_after_103 ?_
      refine den_iconst (pc := 106) d11_after_106 ?_
      refine den_iadd (pc := 107) d11_after_107 ?_
      refine den_iconst (pc := 108) d11_after_108 ?_
      refine den_iload (pc := 109) d11_after_109 rfl ?_
      refine den_imul (pc := 111) d11_after_111 ?_
      refine den_iadd (pc := 112) d11_after_112 ?_
      refine den_istoreL (pc := 113) (L2 := fun y => [some (vA G 69), none, none, some (vI x3), some (vI x4), some (vI x5), some (vI x6), some (vI x7), some (vI y), none]) d11_after_113 (by decide) (fun _ => rfl) (fun u25 => ?_)
      refine den_iconst (pc := 115) d11_after_115 ?_
      refine den_istore (pc := 116) (L2 := [some (vA G 69), none, none, some (vI x3), some (vI x4), some (vI x5), some (vI x6), some (vI x7), some (vI u25), some (vI 1)]) d11_after_116 (by decide) rfl ?_
      exact tl11_after_118 l G _ hd x3 x4 x5 x6 x7 u25 rec79 H79 FU (1, h22) trivial
def l11_after_79 (x3 : Int) (x4 : Int) (x5 : Int) (x6 : Int) (x7 : Int) (h : AH) : Option (Int × AH) := fx (fun rec z => b11_after_79 rec x3 z.1 z.2.1 z.2.2.1 z.2.2.2.1 z.2.2.2.2) FU (x4, x5, x6, x7, h)
set_option maxRecDepth 100000 in
theorem tl11_after_79 (l : Launch) (G : Geo) (d : Nat) (hd : 7 ≤ d) (x3 : Int) : ∀ (n : Nat) (z : Int × Int × Int × Int × AH), True → Den l G m11_after rvI d 79 [some (vA G 69), none, none, some (vI x3), some (vI z.1), some (vI z.2.1), some (vI z.2.2.1), some (vI z.2.2.2.1), none, none] [] z.2.2.2.2 (fx (fun rec z => b11_after_79 rec x3 z.1 z.2.1 z.2.2.1 z.2.2.2.1 z.2.2.2.2) n z) :=
  den_fx (F := fun rec z => b11_after_79 rec x3 z.1 z.2.1 z.2.2.1 z.2.2.2.1 z.2.2.2.2) (P := fun z => True) (fL := fun z => [some (vA G 69), none, none, some (vI x3), some (vI z.1), some (vI z.2.1), some (vI z.2.2.1), some (vI z.2.2.2.1), none, none]) (fs := fun z => []) (fh := fun z => z.2.2.2.2) (fun rec hrec z hz => t11_after_79 l G d hd x3 z.1 z.2.1 z.2.2.1 z.2.2.2.1 rec (fun x4 x5 x6 x7 h => hrec (x4, x5, x6, x7, h) trivial) z.2.2.2.2 )
def b11_after_74 (x3 : Int) (x4 : Int) (x5 : Int) (s0 : Int) (h : AH) : Option (Int × AH) :=
  l11_after_79 x3 x4 x5 s0 0 h
set_option maxRecDepth 100000 in
theorem t11_after_74 (l : Launch) (G : Geo) (d : Nat) (hd : 7 ≤ d) (x3 : Int) (x4 : Int) (x5 : Int) (s0 : Int) (h : AH) : Den l G m11_after rvI d 74 [some (vA G 69), none, none, some (vI x3), some (vI x4), some (vI x5), none, none, none, none] [vI s0] h (b11_after_74 x3 x4 x5 s0 h) := by
  unfold b11_after_74
  refine den_istore (pc := 74) (L2 := [some (vA G 69), none, none, some (vI x3), some (vI x4), some (vI x5), some (vI s0), none, none, none]) d11_after_74 (by decide) rfl ?_
  refine den_iconst (pc := 76) d11_after_76 ?_
  refine den_istore (pc := 77) (L2 := [some (vA G 69), none, none, some (vI x3), some (vI x4), some (vI x5), some (vI s0), some (vI 0), none, none]) d11_after_77 (by decide) rfl ?_
  exact tl11_after_79 l G _ hd x3 FU (x4, x5, s0, 0, h) trivial
def b11_after_35 (rec35 : Int × AH → Option (Int × AH)) (x3 : Int) (x4 : Int) (h : AH) : Option (Int × AH) :=
  if 8 ≤ w32 x4 then
    bnd (f11_isCosy h) fun r26 h27 =>
    if w32 r26 = 0 then
      b11_after_74 x3 0 (-1) 0 h27
    else
      b11_after_74 x3 0 (-1) 1 h27
  else
    asrt (0 ≤ w32 x4 ∧ w32 x4 < 8) <|
    lt (wr h 91 (w32 x4).toNat 0) fun h31 =>
    rec35 ((x4 + 1), h31)
set_option maxRecDepth 100000 in
theorem t11_after_35 (l : Launch) (G : Geo) (d : Nat) (hd : 7 ≤ d) (x3 : Int) (x4 : Int) (rec35 : Int × AH → Option (Int × AH)) (H35 : ∀ (x4 : Int) (h : AH), Den l G m11_after rvI d 35 [some (vA G 69), none, none, some (vI x3), some (vI x4), none, none, none, none, none] [] h (rec35 (x4, h))) (h : AH) : Den l G m11_after rvI d 35 [some (vA G 69), none, none, some (vI x3), some (vI x4), none, none, none, none, none] [] h (b11_after_35 rec35 x3 x4 h) := by
  unfold b11_after_35
  refine den_iload (pc := 35) d11_after_35 rfl ?_
  refine den_bipush (pc := 37) d11_after_37 (by decide) ?_
  refine den_icmp_ge (pc := 39) (tgt := 56) d11_after_39 (by decide) rfl (by decide) (fun _ => ?_) (fun _ => ?_)
  · refine den_iconst (pc := 56) d11_after_56 ?_
    refine den_istore (pc := 57) (L2 := [some (vA G 69), none, none, some (vI x3), some (vI 0), none, none, none, none, none]) d11_after_57 (by decide) rfl ?_
    refine den_iconst (pc := 59) d11_after_59 ?_
    refine den_istore (pc := 60) (L2 := [some (vA G 69), none, none, some (vI x3), some (vI 0), some (vI (-1)), none, none, none, none]) d11_after_60 (by decide) rfl ?_
    refine den_aload_n (pc := 62) d11_after_62 rfl rfl ?_
    refine den_callVI (pc := 63) (As := []) fv_11_374 rfl rfl (ok_69 _) (Nat.le_of_ble_eq_true rfl) (Nat.le_trans (by decide) hd) d11_after_63 (c11_isCosy l G h) (fun r26 h27 m28 o29 => ?_)
    refine den_if_eq (pc := 66) (tgt := 73) d11_after_66 (by decide) rfl (fun _ => ?_) (fun _ => ?_)
    · refine den_iconst (pc := 73) d11_after_73 ?_
      exact t11_after_74 l G _ hd x3 0 (-1) 0 h27
    · refine den_iconst (pc := 69) d11_after_69 ?_
      refine den_goto (pc := 70) (tgt := 74) d11_after_70 (by decide) ?_
      exact t11_after_74 l G _ hd x3 0 (-1) 1 h27
  · refine den_aload_n (pc := 42) d11_after_42 rfl rfl ?_
    refine den_getR (pc := 43) (b := 91) fa_11_74 (ok_69 _) rfl d11_after_43 ?_
    refine den_iload (pc := 46) d11_after_46 rfl ?_
    refine den_iconst (pc := 48) d11_after_48 ?_
    refine den_asrt (fun a30 => ?_)
    refine den_iastore (pc := 49) sh_91 (sz_lt (by decide)) rfl a30 d11_after_49 ?_
    refine den_ltH (fun h31 m32 => ?_)
    refine den_iinc (pc := 50) (L2 := [some (vA G 69), none, none, some (vI x3), some (vI (x4 + 1)), none, none, none, none, none]) d11_after_50 (by decide) rfl rfl ?_
    refine den_goto (pc := 53) (tgt := 35) d11_after_53 (by decide) ?_
    exact H35 (x4 + 1) h31
def l11_after_35 (x3 : Int) (x4 : Int) (h : AH) : Option (Int × AH) := fx (fun rec z => b11_after_35 rec x3 z.1 z.2) FU (x4, h)
set_option maxRecDepth 100000 in
theorem tl11_after_35 (l : Launch) (G : Geo) (d : Nat) (hd : 7 ≤ d) (x3 : Int) : ∀ (n : Nat) (z : Int × AH), True → Den l G m11_after rvI d 35 [some (vA G 69), none, none, some (vI x3), some (vI z.1), none, none, none, none, none] [] z.2 (fx (fun rec z => b11_after_35 rec x3 z.1 z.2) n z) :=
  den_fx (F := fun rec z => b11_after_35 rec x3 z.1 z.2) (P := fun z => True) (fL := fun z => [some (vA G 69), none, none, some (vI x3), some (vI z.1), none, none, none, none, none]) (fs := fun z => []) (fh := fun z => z.2) (fun rec hrec z hz => t11_after_35 l G d hd x3 z.1 rec (fun x4 h => hrec (x4, h) trivial) z.2 )
def f11_after (x1 : Int) (x2 : Int) (x3 : Int) (h : AH) : Option (Int × AH) :=
  bnd (f11_isVillage x1 h) fun r33 h34 =>
  if w32 r33 = 0 then
    some ((-2), h34)
  else
    bnd (f11_isDay x2 h34) fun r37 h38 =>
    if w32 r37 = 0 then
      some ((-2), h38)
    else
      bnd (f11_isIn x3 0 3 h38) fun r41 h42 =>
      if ¬ w32 r41 = 0 then
        bnd (f11_begins h42) fun r45 h46 =>
        l11_after_35 x3 0 h46
      else
        some ((-2), h42)
set_option maxRecDepth 100000 in
theorem c11_after (l : Launch) (G : Geo) (x1 : Int) (x2 : Int) (x3 : Int) (h : AH) : Con l G m11_after rvI 7 [vA G 69, vI x1, vI x2, vI x3] h (f11_after x1 x2 x3 h) := by
  have hd : 7 ≤ 7 := Nat.le_refl _
  refine con_I rfl (by decide) rfl rfl (Nat.le_of_ble_eq_true rfl) (L := [some (vA G 69), some (vI x1), some (vI x2), some (vI x3), none, none, none, none, none, none]) ?_
  unfold f11_after
  refine den_aload_n (pc := 0) d11_after_0 rfl rfl ?_
  refine den_iload_n (pc := 1) d11_after_1 rfl rfl ?_
  refine den_callVI (pc := 2) (As := [vI x1]) fv_11_201 rfl rfl (ok_69 _) (Nat.le_of_ble_eq_true rfl) (Nat.le_trans (by decide) hd) d11_after_2 (c11_isVillage l G x1 h) (fun r33 h34 m35 o36 => ?_)
  refine den_if_eq (pc := 5) (tgt := 25) d11_after_5 (by decide) rfl (fun _ => ?_) (fun _ => ?_)
  · refine den_bipush (pc := 25) d11_after_25 (by decide) ?_
    exact den_iret (pc := 27) rfl d11_after_27
  · refine den_aload_n (pc := 8) d11_after_8 rfl rfl ?_
    refine den_iload_n (pc := 9) d11_after_9 rfl rfl ?_
    refine den_callVI (pc := 10) (As := [vI x2]) fv_11_325 rfl rfl (ok_69 _) (Nat.le_of_ble_eq_true rfl) (Nat.le_trans (by decide) hd) d11_after_10 (c11_isDay l G x2 h34) (fun r37 h38 m39 o40 => ?_)
    refine den_if_eq (pc := 13) (tgt := 25) d11_after_13 (by decide) rfl (fun _ => ?_) (fun _ => ?_)
    · refine den_bipush (pc := 25) d11_after_25 (by decide) ?_
      exact den_iret (pc := 27) rfl d11_after_27
    · refine den_iload_n (pc := 16) d11_after_16 rfl rfl ?_
      refine den_iconst (pc := 17) d11_after_17 ?_
      refine den_iconst (pc := 18) d11_after_18 ?_
      refine den_callSI (pc := 19) (As := [vI x3, vI 0, vI 3]) fs_11_135 rfl rfl (Nat.le_of_ble_eq_true rfl) (Nat.le_trans (by decide) hd) d11_after_19 (c11_isIn l G x3 0 3 h38) (fun r41 h42 m43 o44 => ?_)
      refine den_if_ne (pc := 22) (tgt := 28) d11_after_22 (by decide) rfl (fun _ => ?_) (fun _ => ?_)
      · refine den_aload_n (pc := 28) d11_after_28 rfl rfl ?_
        refine den_callVV (pc := 29) (As := []) fv_11_365 rfl rfl (ok_69 _) (Nat.le_of_ble_eq_true rfl) (Nat.le_trans (by decide) hd) d11_after_29 (c11_begins l G h42) (fun r45 h46 m47 o48 => ?_)
        refine den_iconst (pc := 32) d11_after_32 ?_
        refine den_istore (pc := 33) (L2 := [some (vA G 69), some (vI x1), some (vI x2), some (vI x3), some (vI 0), none, none, none, none, none]) d11_after_33 (by decide) rfl ?_
        refine den_wk [true, false, false, true, true, true, true, true, true, true] rfl ?_
        exact tl11_after_35 l G _ hd x3 FU (0, h46) trivial
      · refine den_bipush (pc := 25) d11_after_25 (by decide) ?_
        exact den_iret (pc := 27) rfl d11_after_27
theorem d11_state_0 : decode m11_state.2.1 0 = .ok (.aload_n 0, 1) := by decide +kernel
theorem d11_state_1 : decode m11_state.2.1 1 = .ok (.iload_n 1, 1) := by decide +kernel
theorem d11_state_2 : decode m11_state.2.1 2 = .ok (.invokevirtual 201, 3) := by decide +kernel
theorem d11_state_5 : decode m11_state.2.1 5 = .ok (.ifCond .eq 20, 3) := by decide +kernel
theorem d11_state_8 : decode m11_state.2.1 8 = .ok (.aload_n 0, 1) := by decide +kernel
theorem d11_state_9 : decode m11_state.2.1 9 = .ok (.iload_n 2, 1) := by decide +kernel
theorem d11_state_10 : decode m11_state.2.1 10 = .ok (.invokevirtual 325, 3) := by decide +kernel
theorem d11_state_13 : decode m11_state.2.1 13 = .ok (.ifCond .eq 12, 3) := by decide +kernel
theorem d11_state_16 : decode m11_state.2.1 16 = .ok (.iload_n 3, 1) := by decide +kernel
theorem d11_state_17 : decode m11_state.2.1 17 = .ok (.ifCond .lt 8, 3) := by decide +kernel
theorem d11_state_20 : decode m11_state.2.1 20 = .ok (.iload 4, 2) := by decide +kernel
theorem d11_state_22 : decode m11_state.2.1 22 = .ok (.ifCond .ge 6, 3) := by decide +kernel
theorem d11_state_25 : decode m11_state.2.1 25 = .ok (.bipush (-2), 2) := by decide +kernel
theorem d11_state_27 : decode m11_state.2.1 27 = .ok (.ireturn, 1) := by decide +kernel
theorem d11_state_28 : decode m11_state.2.1 28 = .ok (.aload_n 0, 1) := by decide +kernel
theorem d11_state_29 : decode m11_state.2.1 29 = .ok (.iload_n 3, 1) := by decide +kernel
theorem d11_state_30 : decode m11_state.2.1 30 = .ok (.invokevirtual 371, 3) := by decide +kernel
theorem d11_state_33 : decode m11_state.2.1 33 = .ok (.aload_n 0, 1) := by decide +kernel
theorem d11_state_34 : decode m11_state.2.1 34 = .ok (.getfield 340, 3) := by decide +kernel
theorem d11_state_37 : decode m11_state.2.1 37 = .ok (.iload_n 3, 1) := by decide +kernel
theorem d11_state_38 : decode m11_state.2.1 38 = .ok (.if_icmp .ne 12, 3) := by decide +kernel
theorem d11_state_41 : decode m11_state.2.1 41 = .ok (.aload_n 0, 1) := by decide +kernel
theorem d11_state_42 : decode m11_state.2.1 42 = .ok (.iload 4, 2) := by decide +kernel
theorem d11_state_44 : decode m11_state.2.1 44 = .ok (.invokevirtual 377, 3) := by decide +kernel
theorem d11_state_47 : decode m11_state.2.1 47 = .ok (.goto 5, 3) := by decide +kernel
theorem d11_state_50 : decode m11_state.2.1 50 = .ok (.bipush (-2), 2) := by decide +kernel
theorem d11_state_52 : decode m11_state.2.1 52 = .ok (.ireturn, 1) := by decide +kernel
def f11_state (x1 : Int) (x2 : Int) (x3 : Int) (x4 : Int) (h : AH) : Option (Int × AH) :=
  bnd (f11_isVillage x1 h) fun r1 h2 =>
  if w32 r1 = 0 then
    some ((-2), h2)
  else
    bnd (f11_isDay x2 h2) fun r5 h6 =>
    if w32 r5 = 0 then
      some ((-2), h6)
    else
      if w32 x3 < 0 then
        some ((-2), h6)
      else
        if 0 ≤ w32 x4 then
          bnd (f11_runs x3 h6) fun r9 h10 =>
          if ¬ w32 (h10.2 69 36) = w32 x3 then
            some ((-2), h10)
          else
            bnd (f11_nowOf x4 h10) fun r13 h14 =>
            some (r13, h14)
        else
          some ((-2), h6)
set_option maxRecDepth 100000 in
theorem c11_state (l : Launch) (G : Geo) (x1 : Int) (x2 : Int) (x3 : Int) (x4 : Int) (h : AH) : Con l G m11_state rvI 8 [vA G 69, vI x1, vI x2, vI x3, vI x4] h (f11_state x1 x2 x3 x4 h) := by
  have hd : 8 ≤ 8 := Nat.le_refl _
  refine con_I rfl (by decide) rfl rfl (Nat.le_of_ble_eq_true rfl) (L := [some (vA G 69), some (vI x1), some (vI x2), some (vI x3), some (vI x4)]) ?_
  unfold f11_state
  refine den_aload_n (pc := 0) d11_state_0 rfl rfl ?_
  refine den_iload_n (pc := 1) d11_state_1 rfl rfl ?_
  refine den_callVI (pc := 2) (As := [vI x1]) fv_11_201 rfl rfl (ok_69 _) (Nat.le_of_ble_eq_true rfl) (Nat.le_trans (by decide) hd) d11_state_2 (c11_isVillage l G x1 h) (fun r1 h2 m3 o4 => ?_)
  refine den_if_eq (pc := 5) (tgt := 25) d11_state_5 (by decide) rfl (fun _ => ?_) (fun _ => ?_)
  · refine den_bipush (pc := 25) d11_state_25 (by decide) ?_
    exact den_iret (pc := 27) rfl d11_state_27
  · refine den_aload_n (pc := 8) d11_state_8 rfl rfl ?_
    refine den_iload_n (pc := 9) d11_state_9 rfl rfl ?_
    refine den_callVI (pc := 10) (As := [vI x2]) fv_11_325 rfl rfl (ok_69 _) (Nat.le_of_ble_eq_true rfl) (Nat.le_trans (by decide) hd) d11_state_10 (c11_isDay l G x2 h2) (fun r5 h6 m7 o8 => ?_)
    refine den_if_eq (pc := 13) (tgt := 25) d11_state_13 (by decide) rfl (fun _ => ?_) (fun _ => ?_)
    · refine den_bipush (pc := 25) d11_state_25 (by decide) ?_
      exact den_iret (pc := 27) rfl d11_state_27
    · refine den_iload_n (pc := 16) d11_state_16 rfl rfl ?_
      refine den_if_lt (pc := 17) (tgt := 25) d11_state_17 (by decide) rfl (fun _ => ?_) (fun _ => ?_)
      · refine den_bipush (pc := 25) d11_state_25 (by decide) ?_
        exact den_iret (pc := 27) rfl d11_state_27
      · refine den_iload (pc := 20) d11_state_20 rfl ?_
        refine den_if_ge (pc := 22) (tgt := 28) d11_state_22 (by decide) rfl (fun _ => ?_) (fun _ => ?_)
        · refine den_aload_n (pc := 28) d11_state_28 rfl rfl ?_
          refine den_iload_n (pc := 29) d11_state_29 rfl rfl ?_
          refine den_callVV (pc := 30) (As := [vI x3]) fv_11_371 rfl rfl (ok_69 _) (Nat.le_of_ble_eq_true rfl) (Nat.le_trans (by decide) hd) d11_state_30 (c11_runs l G x3 h6) (fun r9 h10 m11 o12 => ?_)
          refine den_aload_n (pc := 33) d11_state_33 rfl rfl ?_
          refine den_getI (pc := 34) fa_11_340 (ok_69 _) d11_state_34 ?_
          refine den_iload_n (pc := 37) d11_state_37 rfl rfl ?_
          refine den_icmp_ne (pc := 38) (tgt := 50) d11_state_38 (by decide) rfl rfl (fun _ => ?_) (fun _ => ?_)
          · refine den_bipush (pc := 50) d11_state_50 (by decide) ?_
            exact den_iret (pc := 52) rfl d11_state_52
          · refine den_aload_n (pc := 41) d11_state_41 rfl rfl ?_
            refine den_iload (pc := 42) d11_state_42 rfl ?_
            refine den_callVI (pc := 44) (As := [vI x4]) fv_11_377 rfl rfl (ok_69 _) (Nat.le_of_ble_eq_true rfl) (Nat.le_trans (by decide) hd) d11_state_44 (c11_nowOf l G x4 h10) (fun r13 h14 m15 o16 => ?_)
            refine den_goto (pc := 47) (tgt := 52) d11_state_47 (by decide) ?_
            exact den_iret (pc := 52) rfl d11_state_52
        · refine den_bipush (pc := 25) d11_state_25 (by decide) ?_
          exact den_iret (pc := 27) rfl d11_state_27
theorem d11_isLog_0 : decode m11_isLog.2.1 0 = .ok (.aload_n 0, 1) := by decide +kernel
theorem d11_isLog_1 : decode m11_isLog.2.1 1 = .ok (.iconst 2, 1) := by decide +kernel
theorem d11_isLog_2 : decode m11_isLog.2.1 2 = .ok (.iload_n 1, 1) := by decide +kernel
theorem d11_isLog_3 : decode m11_isLog.2.1 3 = .ok (.invokevirtual 166, 3) := by decide +kernel
theorem d11_isLog_6 : decode m11_isLog.2.1 6 = .ok (.ifCond .ne 5, 3) := by decide +kernel
theorem d11_isLog_9 : decode m11_isLog.2.1 9 = .ok (.iconst 0, 1) := by decide +kernel
theorem d11_isLog_10 : decode m11_isLog.2.1 10 = .ok (.ireturn, 1) := by decide +kernel
theorem d11_isLog_11 : decode m11_isLog.2.1 11 = .ok (.aload_n 0, 1) := by decide +kernel
theorem d11_isLog_12 : decode m11_isLog.2.1 12 = .ok (.iconst 2, 1) := by decide +kernel
theorem d11_isLog_13 : decode m11_isLog.2.1 13 = .ok (.iload_n 1, 1) := by decide +kernel
theorem d11_isLog_14 : decode m11_isLog.2.1 14 = .ok (.invokestatic 186, 3) := by decide +kernel
theorem d11_isLog_17 : decode m11_isLog.2.1 17 = .ok (.putfield 380, 3) := by decide +kernel
theorem d11_isLog_20 : decode m11_isLog.2.1 20 = .ok (.iconst 1, 1) := by decide +kernel
theorem d11_isLog_21 : decode m11_isLog.2.1 21 = .ok (.ireturn, 1) := by decide +kernel
def f11_isLog (x1 : Int) (h : AH) : Option (Int × AH) :=
  bnd (f11_isOf 2 x1 h) fun r1 h2 =>
  if ¬ w32 r1 = 0 then
    bnd (f11_placeOf 2 x1 h2) fun r5 h6 =>
    lt (wr h6 69 41 r5) fun h9 =>
    some (1, h9)
  else
    some (0, h2)
set_option maxRecDepth 100000 in
theorem c11_isLog (l : Launch) (G : Geo) (x1 : Int) (h : AH) : Con l G m11_isLog rvI 4 [vA G 69, vI x1] h (f11_isLog x1 h) := by
  have hd : 4 ≤ 4 := Nat.le_refl _
  refine con_Z rfl (by decide) rfl rfl (Nat.le_of_ble_eq_true rfl) (L := [some (vA G 69), some (vI x1)]) ?_
  unfold f11_isLog
  refine den_aload_n (pc := 0) d11_isLog_0 rfl rfl ?_
  refine den_iconst (pc := 1) d11_isLog_1 ?_
  refine den_iload_n (pc := 2) d11_isLog_2 rfl rfl ?_
  refine den_callVI (pc := 3) (As := [vI 2, vI x1]) fv_11_166 rfl rfl (ok_69 _) (Nat.le_of_ble_eq_true rfl) (Nat.le_trans (by decide) hd) d11_isLog_3 (c11_isOf l G 2 x1 h) (fun r1 h2 m3 o4 => ?_)
  refine den_if_ne (pc := 6) (tgt := 11) d11_isLog_6 (by decide) rfl (fun _ => ?_) (fun _ => ?_)
  · refine den_aload_n (pc := 11) d11_isLog_11 rfl rfl ?_
    refine den_iconst (pc := 12) d11_isLog_12 ?_
    refine den_iload_n (pc := 13) d11_isLog_13 rfl rfl ?_
    refine den_callSI (pc := 14) (As := [vI 2, vI x1]) fs_11_186 rfl rfl (Nat.le_of_ble_eq_true rfl) (Nat.le_trans (by decide) hd) d11_isLog_14 (c11_placeOf l G 2 x1 h2) (fun r5 h6 m7 o8 => ?_)
    refine den_putI (pc := 17) fp_11_380 (ok_69 _) d11_isLog_17 ?_
    refine den_ltH (fun h9 m10 => ?_)
    refine den_iconst (pc := 20) d11_isLog_20 ?_
    exact den_zret (pc := 21) rfl (by decide) d11_isLog_21
  · refine den_iconst (pc := 9) d11_isLog_9 ?_
    exact den_zret (pc := 10) rfl (by decide) d11_isLog_10
theorem d11_fact_0 : decode m11_fact.2.1 0 = .ok (.aload_n 0, 1) := by decide +kernel
theorem d11_fact_1 : decode m11_fact.2.1 1 = .ok (.iload_n 1, 1) := by decide +kernel
theorem d11_fact_2 : decode m11_fact.2.1 2 = .ok (.invokevirtual 383, 3) := by decide +kernel
theorem d11_fact_5 : decode m11_fact.2.1 5 = .ok (.ifCond .ne 6, 3) := by decide +kernel
theorem d11_fact_8 : decode m11_fact.2.1 8 = .ok (.bipush (-2), 2) := by decide +kernel
theorem d11_fact_10 : decode m11_fact.2.1 10 = .ok (.ireturn, 1) := by decide +kernel
theorem d11_fact_11 : decode m11_fact.2.1 11 = .ok (.iload_n 2, 1) := by decide +kernel
theorem d11_fact_12 : decode m11_fact.2.1 12 = .ok (.iconst (-1), 1) := by decide +kernel
theorem d11_fact_13 : decode m11_fact.2.1 13 = .ok (.if_icmp .ne 22, 3) := by decide +kernel
theorem d11_fact_16 : decode m11_fact.2.1 16 = .ok (.iload_n 3, 1) := by decide +kernel
theorem d11_fact_17 : decode m11_fact.2.1 17 = .ok (.ifCond .ne 15, 3) := by decide +kernel
theorem d11_fact_20 : decode m11_fact.2.1 20 = .ok (.aload_n 0, 1) := by decide +kernel
theorem d11_fact_21 : decode m11_fact.2.1 21 = .ok (.getfield 7, 3) := by decide +kernel
theorem d11_fact_24 : decode m11_fact.2.1 24 = .ok (.aload_n 0, 1) := by decide +kernel
theorem d11_fact_25 : decode m11_fact.2.1 25 = .ok (.getfield 380, 3) := by decide +kernel
theorem d11_fact_28 : decode m11_fact.2.1 28 = .ok (.iaload, 1) := by decide +kernel
theorem d11_fact_29 : decode m11_fact.2.1 29 = .ok (.goto 5, 3) := by decide +kernel
theorem d11_fact_32 : decode m11_fact.2.1 32 = .ok (.bipush (-2), 2) := by decide +kernel
theorem d11_fact_34 : decode m11_fact.2.1 34 = .ok (.ireturn, 1) := by decide +kernel
theorem d11_fact_35 : decode m11_fact.2.1 35 = .ok (.iload_n 2, 1) := by decide +kernel
theorem d11_fact_36 : decode m11_fact.2.1 36 = .ok (.iconst 0, 1) := by decide +kernel
theorem d11_fact_37 : decode m11_fact.2.1 37 = .ok (.aload_n 0, 1) := by decide +kernel
theorem d11_fact_38 : decode m11_fact.2.1 38 = .ok (.getfield 7, 3) := by decide +kernel
theorem d11_fact_41 : decode m11_fact.2.1 41 = .ok (.aload_n 0, 1) := by decide +kernel
theorem d11_fact_42 : decode m11_fact.2.1 42 = .ok (.getfield 380, 3) := by decide +kernel
theorem d11_fact_45 : decode m11_fact.2.1 45 = .ok (.iaload, 1) := by decide +kernel
theorem d11_fact_46 : decode m11_fact.2.1 46 = .ok (.iconst 1, 1) := by decide +kernel
theorem d11_fact_47 : decode m11_fact.2.1 47 = .ok (.isub, 1) := by decide +kernel
theorem d11_fact_48 : decode m11_fact.2.1 48 = .ok (.invokestatic 135, 3) := by decide +kernel
theorem d11_fact_51 : decode m11_fact.2.1 51 = .ok (.ifCond .eq 32, 3) := by decide +kernel
theorem d11_fact_54 : decode m11_fact.2.1 54 = .ok (.iload_n 3, 1) := by decide +kernel
theorem d11_fact_55 : decode m11_fact.2.1 55 = .ok (.iconst 0, 1) := by decide +kernel
theorem d11_fact_56 : decode m11_fact.2.1 56 = .ok (.iconst 2, 1) := by decide +kernel
theorem d11_fact_57 : decode m11_fact.2.1 57 = .ok (.invokestatic 135, 3) := by decide +kernel
theorem d11_fact_60 : decode m11_fact.2.1 60 = .ok (.ifCond .eq 23, 3) := by decide +kernel
theorem d11_fact_63 : decode m11_fact.2.1 63 = .ok (.aload_n 0, 1) := by decide +kernel
theorem d11_fact_64 : decode m11_fact.2.1 64 = .ok (.getfield 7, 3) := by decide +kernel
theorem d11_fact_67 : decode m11_fact.2.1 67 = .ok (.aload_n 0, 1) := by decide +kernel
theorem d11_fact_68 : decode m11_fact.2.1 68 = .ok (.getfield 380, 3) := by decide +kernel
theorem d11_fact_71 : decode m11_fact.2.1 71 = .ok (.iconst 1, 1) := by decide +kernel
theorem d11_fact_72 : decode m11_fact.2.1 72 = .ok (.iadd, 1) := by decide +kernel
theorem d11_fact_73 : decode m11_fact.2.1 73 = .ok (.iconst 3, 1) := by decide +kernel
theorem d11_fact_74 : decode m11_fact.2.1 74 = .ok (.iload_n 2, 1) := by decide +kernel
theorem d11_fact_75 : decode m11_fact.2.1 75 = .ok (.imul, 1) := by decide +kernel
theorem d11_fact_76 : decode m11_fact.2.1 76 = .ok (.iadd, 1) := by decide +kernel
theorem d11_fact_77 : decode m11_fact.2.1 77 = .ok (.iload_n 3, 1) := by decide +kernel
theorem d11_fact_78 : decode m11_fact.2.1 78 = .ok (.iadd, 1) := by decide +kernel
theorem d11_fact_79 : decode m11_fact.2.1 79 = .ok (.iaload, 1) := by decide +kernel
theorem d11_fact_80 : decode m11_fact.2.1 80 = .ok (.goto 5, 3) := by decide +kernel
theorem d11_fact_83 : decode m11_fact.2.1 83 = .ok (.bipush (-2), 2) := by decide +kernel
theorem d11_fact_85 : decode m11_fact.2.1 85 = .ok (.ireturn, 1) := by decide +kernel
def f11_fact (x1 : Int) (x2 : Int) (x3 : Int) (h : AH) : Option (Int × AH) :=
  bnd (f11_isLog x1 h) fun r1 h2 =>
  if ¬ w32 r1 = 0 then
    if ¬ w32 x2 = (-1) then
      asrt (0 ≤ w32 (h2.2 69 41) ∧ w32 (h2.2 69 41) < 4824) <|
      bnd (f11_isIn x2 0 ((h2.2 70 (w32 (h2.2 69 41)).toNat) - 1) h2) fun r6 h7 =>
      if w32 r6 = 0 then
        some ((-2), h7)
      else
        bnd (f11_isIn x3 0 2 h7) fun r10 h11 =>
        if w32 r10 = 0 then
          some ((-2), h11)
        else
          asrt (0 ≤ w32 ((((h11.2 69 41) + 1) + (3 * x2)) + x3) ∧ w32 ((((h11.2 69 41) + 1) + (3 * x2)) + x3) < 4824) <|
          some (h11.2 70 (w32 ((((h11.2 69 41) + 1) + (3 * x2)) + x3)).toNat, h11)
    else
      if ¬ w32 x3 = 0 then
        some ((-2), h2)
      else
        asrt (0 ≤ w32 (h2.2 69 41) ∧ w32 (h2.2 69 41) < 4824) <|
        some (h2.2 70 (w32 (h2.2 69 41)).toNat, h2)
  else
    some ((-2), h2)
set_option maxRecDepth 100000 in
theorem c11_fact (l : Launch) (G : Geo) (x1 : Int) (x2 : Int) (x3 : Int) (h : AH) : Con l G m11_fact rvI 5 [vA G 69, vI x1, vI x2, vI x3] h (f11_fact x1 x2 x3 h) := by
  have hd : 5 ≤ 5 := Nat.le_refl _
  refine con_I rfl (by decide) rfl rfl (Nat.le_of_ble_eq_true rfl) (L := [some (vA G 69), some (vI x1), some (vI x2), some (vI x3)]) ?_
  unfold f11_fact
  refine den_aload_n (pc := 0) d11_fact_0 rfl rfl ?_
  refine den_iload_n (pc := 1) d11_fact_1 rfl rfl ?_
  refine den_callVI (pc := 2) (As := [vI x1]) fv_11_383 rfl rfl (ok_69 _) (Nat.le_of_ble_eq_true rfl) (Nat.le_trans (by decide) hd) d11_fact_2 (c11_isLog l G x1 h) (fun r1 h2 m3 o4 => ?_)
  refine den_if_ne (pc := 5) (tgt := 11) d11_fact_5 (by decide) rfl (fun _ => ?_) (fun _ => ?_)
  · refine den_iload_n (pc := 11) d11_fact_11 rfl rfl ?_
    refine den_iconst (pc := 12) d11_fact_12 ?_
    refine den_icmp_ne (pc := 13) (tgt := 35) d11_fact_13 (by decide) rfl (by decide) (fun _ => ?_) (fun _ => ?_)
    · refine den_iload_n (pc := 35) d11_fact_35 rfl rfl ?_
      refine den_iconst (pc := 36) d11_fact_36 ?_
      refine den_aload_n (pc := 37) d11_fact_37 rfl rfl ?_
      refine den_getR (pc := 38) (b := 70) fa_11_7 (ok_69 _) rfl d11_fact_38 ?_
      refine den_aload_n (pc := 41) d11_fact_41 rfl rfl ?_
      refine den_getI (pc := 42) fa_11_380 (ok_69 _) d11_fact_42 ?_
      refine den_asrt (fun a5 => ?_)
      refine den_iaload (pc := 45) sh_70 (sz_lt (by decide)) rfl a5 d11_fact_45 ?_
      refine den_iconst (pc := 46) d11_fact_46 ?_
      refine den_isub (pc := 47) d11_fact_47 ?_
      refine den_callSI (pc := 48) (As := [vI x2, vI 0, vI ((h2.2 70 (w32 (h2.2 69 41)).toNat) - 1)]) fs_11_135 rfl rfl (Nat.le_of_ble_eq_true rfl) (Nat.le_trans (by decide) hd) d11_fact_48 (c11_isIn l G x2 0 ((h2.2 70 (w32 (h2.2 69 41)).toNat) - 1) h2) (fun r6 h7 m8 o9 => ?_)
      refine den_if_eq (pc := 51) (tgt := 83) d11_fact_51 (by decide) rfl (fun _ => ?_) (fun _ => ?_)
      · refine den_bipush (pc := 83) d11_fact_83 (by decide) ?_
        exact den_iret (pc := 85) rfl d11_fact_85
      · refine den_iload_n (pc := 54) d11_fact_54 rfl rfl ?_
        refine den_iconst (pc := 55) d11_fact_55 ?_
        refine den_iconst (pc := 56) d11_fact_56 ?_
        refine den_callSI (pc := 57) (As := [vI x3, vI 0, vI 2]) fs_11_135 rfl rfl (Nat.le_of_ble_eq_true rfl) (Nat.le_trans (by decide) hd) d11_fact_57 (c11_isIn l G x3 0 2 h7) (fun r10 h11 m12 o13 => ?_)
        refine den_if_eq (pc := 60) (tgt := 83) d11_fact_60 (by decide) rfl (fun _ => ?_) (fun _ => ?_)
        · refine den_bipush (pc := 83) d11_fact_83 (by decide) ?_
          exact den_iret (pc := 85) rfl d11_fact_85
        · refine den_aload_n (pc := 63) d11_fact_63 rfl rfl ?_
          refine den_getR (pc := 64) (b := 70) fa_11_7 (ok_69 _) rfl d11_fact_64 ?_
          refine den_aload_n (pc := 67) d11_fact_67 rfl rfl ?_
          refine den_getI (pc := 68) fa_11_380 (ok_69 _) d11_fact_68 ?_
          refine den_iconst (pc := 71) d11_fact_71 ?_
          refine den_iadd (pc := 72) d11_fact_72 ?_
          refine den_iconst (pc := 73) d11_fact_73 ?_
          refine den_iload_n (pc := 74) d11_fact_74 rfl rfl ?_
          refine den_imul (pc := 75) d11_fact_75 ?_
          refine den_iadd (pc := 76) d11_fact_76 ?_
          refine den_iload_n (pc := 77) d11_fact_77 rfl rfl ?_
          refine den_iadd (pc := 78) d11_fact_78 ?_
          refine den_asrt (fun a14 => ?_)
          refine den_iaload (pc := 79) sh_70 (sz_lt (by decide)) rfl a14 d11_fact_79 ?_
          refine den_goto (pc := 80) (tgt := 85) d11_fact_80 (by decide) ?_
          exact den_iret (pc := 85) rfl d11_fact_85
    · refine den_iload_n (pc := 16) d11_fact_16 rfl rfl ?_
      refine den_if_ne (pc := 17) (tgt := 32) d11_fact_17 (by decide) rfl (fun _ => ?_) (fun _ => ?_)
      · refine den_bipush (pc := 32) d11_fact_32 (by decide) ?_
        exact den_iret (pc := 34) rfl d11_fact_34
      · refine den_aload_n (pc := 20) d11_fact_20 rfl rfl ?_
        refine den_getR (pc := 21) (b := 70) fa_11_7 (ok_69 _) rfl d11_fact_21 ?_
        refine den_aload_n (pc := 24) d11_fact_24 rfl rfl ?_
        refine den_getI (pc := 25) fa_11_380 (ok_69 _) d11_fact_25 ?_
        refine den_asrt (fun a15 => ?_)
        refine den_iaload (pc := 28) sh_70 (sz_lt (by decide)) rfl a15 d11_fact_28 ?_
        refine den_goto (pc := 29) (tgt := 34) d11_fact_29 (by decide) ?_
        exact den_iret (pc := 34) rfl d11_fact_34
  · refine den_bipush (pc := 8) d11_fact_8 (by decide) ?_
    exact den_iret (pc := 10) rfl d11_fact_10
theorem d11_isSo_0 : decode m11_isSo.2.1 0 = .ok (.iconst 1, 1) := by decide +kernel
theorem d11_isSo_1 : decode m11_isSo.2.1 1 = .ok (.istore_n 2, 1) := by decide +kernel
theorem d11_isSo_2 : decode m11_isSo.2.1 2 = .ok (.iconst 0, 1) := by decide +kernel
theorem d11_isSo_3 : decode m11_isSo.2.1 3 = .ok (.istore_n 3, 1) := by decide +kernel
theorem d11_isSo_4 : decode m11_isSo.2.1 4 = .ok (.iload_n 3, 1) := by decide +kernel
theorem d11_isSo_5 : decode m11_isSo.2.1 5 = .ok (.aload_n 0, 1) := by decide +kernel
theorem d11_isSo_6 : decode m11_isSo.2.1 6 = .ok (.getfield 7, 3) := by decide +kernel
theorem d11_isSo_9 : decode m11_isSo.2.1 9 = .ok (.aload_n 0, 1) := by decide +kernel
theorem d11_isSo_10 : decode m11_isSo.2.1 10 = .ok (.getfield 380, 3) := by decide +kernel
theorem d11_isSo_13 : decode m11_isSo.2.1 13 = .ok (.iaload, 1) := by decide +kernel
theorem d11_isSo_14 : decode m11_isSo.2.1 14 = .ok (.if_icmp .ge 73, 3) := by decide +kernel
theorem d11_isSo_17 : decode m11_isSo.2.1 17 = .ok (.aload_n 0, 1) := by decide +kernel
theorem d11_isSo_18 : decode m11_isSo.2.1 18 = .ok (.getfield 380, 3) := by decide +kernel
theorem d11_isSo_21 : decode m11_isSo.2.1 21 = .ok (.iconst 1, 1) := by decide +kernel
theorem d11_isSo_22 : decode m11_isSo.2.1 22 = .ok (.iadd, 1) := by decide +kernel
theorem d11_isSo_23 : decode m11_isSo.2.1 23 = .ok (.iconst 3, 1) := by decide +kernel
theorem d11_isSo_24 : decode m11_isSo.2.1 24 = .ok (.iload_n 3, 1) := by decide +kernel
theorem d11_isSo_25 : decode m11_isSo.2.1 25 = .ok (.imul, 1) := by decide +kernel
theorem d11_isSo_26 : decode m11_isSo.2.1 26 = .ok (.iadd, 1) := by decide +kernel
theorem d11_isSo_27 : decode m11_isSo.2.1 27 = .ok (.istore 4, 2) := by decide +kernel
theorem d11_isSo_29 : decode m11_isSo.2.1 29 = .ok (.iload_n 2, 1) := by decide +kernel
theorem d11_isSo_30 : decode m11_isSo.2.1 30 = .ok (.ifCond .eq 49, 3) := by decide +kernel
theorem d11_isSo_33 : decode m11_isSo.2.1 33 = .ok (.aload_n 0, 1) := by decide +kernel
theorem d11_isSo_34 : decode m11_isSo.2.1 34 = .ok (.aload_n 0, 1) := by decide +kernel
theorem d11_isSo_35 : decode m11_isSo.2.1 35 = .ok (.getfield 7, 3) := by decide +kernel
theorem d11_isSo_38 : decode m11_isSo.2.1 38 = .ok (.iload 4, 2) := by decide +kernel
theorem d11_isSo_40 : decode m11_isSo.2.1 40 = .ok (.iaload, 1) := by decide +kernel
theorem d11_isSo_41 : decode m11_isSo.2.1 41 = .ok (.aload_n 0, 1) := by decide +kernel
theorem d11_isSo_42 : decode m11_isSo.2.1 42 = .ok (.getfield 7, 3) := by decide +kernel
theorem d11_isSo_45 : decode m11_isSo.2.1 45 = .ok (.iload 4, 2) := by decide +kernel
theorem d11_isSo_47 : decode m11_isSo.2.1 47 = .ok (.iconst 1, 1) := by decide +kernel
theorem d11_isSo_48 : decode m11_isSo.2.1 48 = .ok (.iadd, 1) := by decide +kernel
theorem d11_isSo_49 : decode m11_isSo.2.1 49 = .ok (.iaload, 1) := by decide +kernel
theorem d11_isSo_50 : decode m11_isSo.2.1 50 = .ok (.iload_n 1, 1) := by decide +kernel
theorem d11_isSo_51 : decode m11_isSo.2.1 51 = .ok (.bipush 10, 2) := by decide +kernel
theorem d11_isSo_53 : decode m11_isSo.2.1 53 = .ok (.idiv, 1) := by decide +kernel
theorem d11_isSo_54 : decode m11_isSo.2.1 54 = .ok (.iload_n 1, 1) := by decide +kernel
theorem d11_isSo_55 : decode m11_isSo.2.1 55 = .ok (.bipush 10, 2) := by decide +kernel
theorem d11_isSo_57 : decode m11_isSo.2.1 57 = .ok (.irem, 1) := by decide +kernel
theorem d11_isSo_58 : decode m11_isSo.2.1 58 = .ok (.iload_n 3, 1) := by decide +kernel
theorem d11_isSo_59 : decode m11_isSo.2.1 59 = .ok (.iadd, 1) := by decide +kernel
theorem d11_isSo_60 : decode m11_isSo.2.1 60 = .ok (.invokevirtual 272, 3) := by decide +kernel
theorem d11_isSo_63 : decode m11_isSo.2.1 63 = .ok (.aload_n 0, 1) := by decide +kernel
theorem d11_isSo_64 : decode m11_isSo.2.1 64 = .ok (.getfield 7, 3) := by decide +kernel
theorem d11_isSo_67 : decode m11_isSo.2.1 67 = .ok (.iload 4, 2) := by decide +kernel
theorem d11_isSo_69 : decode m11_isSo.2.1 69 = .ok (.iconst 2, 1) := by decide +kernel
theorem d11_isSo_70 : decode m11_isSo.2.1 70 = .ok (.iadd, 1) := by decide +kernel
theorem d11_isSo_71 : decode m11_isSo.2.1 71 = .ok (.iaload, 1) := by decide +kernel
theorem d11_isSo_72 : decode m11_isSo.2.1 72 = .ok (.if_icmp .ne 7, 3) := by decide +kernel
theorem d11_isSo_75 : decode m11_isSo.2.1 75 = .ok (.iconst 1, 1) := by decide +kernel
theorem d11_isSo_76 : decode m11_isSo.2.1 76 = .ok (.goto 4, 3) := by decide +kernel
theorem d11_isSo_79 : decode m11_isSo.2.1 79 = .ok (.iconst 0, 1) := by decide +kernel
theorem d11_isSo_80 : decode m11_isSo.2.1 80 = .ok (.istore_n 2, 1) := by decide +kernel
theorem d11_isSo_81 : decode m11_isSo.2.1 81 = .ok (.iinc 3 1, 3) := by decide +kernel
theorem d11_isSo_84 : decode m11_isSo.2.1 84 = .ok (.goto (-80), 3) := by decide +kernel
theorem d11_isSo_87 : decode m11_isSo.2.1 87 = .ok (.iload_n 2, 1) := by decide +kernel
theorem d11_isSo_88 : decode m11_isSo.2.1 88 = .ok (.ireturn, 1) := by decide +kernel
def b11_isSo_80 (rec4 : Int × Int × AH → Option (Int × AH)) (x1 : Int) (x3 : Int) (s0 : Int) (h : AH) : Option (Int × AH) :=
  rec4 (s0, (x3 + 1), h)
set_option maxRecDepth 100000 in
theorem t11_isSo_80 (l : Launch) (G : Geo) (d : Nat) (hd : 5 ≤ d) (x1 : Int) (x3 : Int) (s0 : Int) (rec4 : Int × Int × AH → Option (Int × AH)) (H4 : ∀ (x2 : Int) (x3 : Int) (h : AH), Den l G m11_isSo rvI d 4 [some (vA G 69), some (vI x1), some (vI x2), some (vI x3), none] [] h (rec4 (x2, x3, h))) (h : AH) : Den l G m11_isSo rvI d 80 [some (vA G 69), some (vI x1), none, some (vI x3), none] [vI s0] h (b11_isSo_80 rec4 x1 x3 s0 h) := by
  unfold b11_isSo_80
  refine den_istore_n (pc := 80) (L2 := [some (vA G 69), some (vI x1), some (vI s0), some (vI x3), none]) d11_isSo_80 rfl (by decide) rfl ?_
  refine den_iinc (pc := 81) (L2 := [some (vA G 69), some (vI x1), some (vI s0), some (vI (x3 + 1)), none]) d11_isSo_81 (by decide) rfl rfl ?_
  refine den_goto (pc := 84) (tgt := 4) d11_isSo_84 (by decide) ?_
  exact H4 s0 (x3 + 1) h
def b11_isSo_79 (rec4 : Int × Int × AH → Option (Int × AH)) (x1 : Int) (x3 : Int) (h : AH) : Option (Int × AH) :=
  b11_isSo_80 rec4 x1 x3 0 h
set_option maxRecDepth 100000 in
theorem t11_isSo_79 (l : Launch) (G : Geo) (d : Nat) (hd : 5 ≤ d) (x1 : Int) (x3 : Int) (rec4 : Int × Int × AH → Option (Int × AH)) (H4 : ∀ (x2 : Int) (x3 : Int) (h : AH), Den l G m11_isSo rvI d 4 [some (vA G 69), some (vI x1), some (vI x2), some (vI x3), none] [] h (rec4 (x2, x3, h))) (h : AH) : Den l G m11_isSo rvI d 79 [some (vA G 69), some (vI x1), none, some (vI x3), none] [] h (b11_isSo_79 rec4 x1 x3 h) := by
  unfold b11_isSo_79
  refine den_iconst (pc := 79) d11_isSo_79 ?_
  exact t11_isSo_80 l G _ hd x1 x3 0 rec4 H4 h
def b11_isSo_4 (rec4 : Int × Int × AH → Option (Int × AH)) (x1 : Int) (x2 : Int) (x3 : Int) (h : AH) : Option (Int × AH) :=
  asrt (0 ≤ w32 (h.2 69 41) ∧ w32 (h.2 69 41) < 4824) <|
  if w32 (h.2 70 (w32 (h.2 69 41)).toNat) ≤ w32 x3 then
    asrt (w32 x2 = 0 ∨ w32 x2 = 1) <|
    some (x2, h)
  else
    lt (((h.2 69 41) + 1) + (3 * x3)) fun u3 =>
    if w32 x2 = 0 then
      b11_isSo_79 rec4 x1 x3 h
    else
      asrt (0 ≤ w32 u3 ∧ w32 u3 < 4824) <|
      asrt (0 ≤ w32 (u3 + 1) ∧ w32 (u3 + 1) < 4824) <|
      bnd (f11_burnsBehind (h.2 70 (w32 u3).toNat) (h.2 70 (w32 (u3 + 1)).toNat) (dv32 x1 10) ((rm32 x1 10) + x3) h) fun r6 h7 =>
      asrt (0 ≤ w32 (u3 + 2) ∧ w32 (u3 + 2) < 4824) <|
      if ¬ w32 r6 = w32 (h7.2 70 (w32 (u3 + 2)).toNat) then
        b11_isSo_79 rec4 x1 x3 h7
      else
        b11_isSo_80 rec4 x1 x3 1 h7
set_option maxRecDepth 100000 in
theorem t11_isSo_4 (l : Launch) (G : Geo) (d : Nat) (hd : 5 ≤ d) (x1 : Int) (x2 : Int) (x3 : Int) (rec4 : Int × Int × AH → Option (Int × AH)) (H4 : ∀ (x2 : Int) (x3 : Int) (h : AH), Den l G m11_isSo rvI d 4 [some (vA G 69), some (vI x1), some (vI x2), some (vI x3), none] [] h (rec4 (x2, x3, h))) (h : AH) : Den l G m11_isSo rvI d 4 [some (vA G 69), some (vI x1), some (vI x2), some (vI x3), none] [] h (b11_isSo_4 rec4 x1 x2 x3 h) := by
  unfold b11_isSo_4
  refine den_iload_n (pc := 4) d11_isSo_4 rfl rfl ?_
  refine den_aload_n (pc := 5) d11_isSo_5 rfl rfl ?_
  refine den_getR (pc := 6) (b := 70) fa_11_7 (ok_69 _) rfl d11_isSo_6 ?_
  refine den_aload_n (pc := 9) d11_isSo_9 rfl rfl ?_
  refine den_getI (pc := 10) fa_11_380 (ok_69 _) d11_isSo_10 ?_
  refine den_asrt (fun a1 => ?_)
  refine den_iaload (pc := 13) sh_70 (sz_lt (by decide)) rfl a1 d11_isSo_13 ?_
  refine den_icmp_ge (pc := 14) (tgt := 87) d11_isSo_14 (by decide) rfl rfl (fun _ => ?_) (fun _ => ?_)
  · refine den_iload_n (pc := 87) d11_isSo_87 rfl rfl ?_
    refine den_asrt (fun a2 => ?_)
    exact den_zret (pc := 88) rfl a2 d11_isSo_88
  · refine den_aload_n (pc := 17) d11_isSo_17 rfl rfl ?_
    refine den_getI (pc := 18) fa_11_380 (ok_69 _) d11_isSo_18 ?_
    refine den_iconst (pc := 21) d11_isSo_21 ?_
    refine den_iadd (pc := 22) d11_isSo_22 ?_
    refine den_iconst (pc := 23) d11_isSo_23 ?_
    refine den_iload_n (pc := 24) d11_isSo_24 rfl rfl ?_
    refine den_imul (pc := 25) d11_isSo_25 ?_
    refine den_iadd (pc := 26) d11_isSo_26 ?_
    refine den_istoreL (pc := 27) (L2 := fun y => [some (vA G 69), some (vI x1), some (vI x2), some (vI x3), some (vI y)]) d11_isSo_27 (by decide) (fun _ => rfl) (fun u3 => ?_)
    refine den_iload_n (pc := 29) d11_isSo_29 rfl rfl ?_
    refine den_if_eq (pc := 30) (tgt := 79) d11_isSo_30 (by decide) rfl (fun _ => ?_) (fun _ => ?_)
    · refine den_wk [true, true, false, true, false] rfl ?_
      exact t11_isSo_79 l G _ hd x1 x3 rec4 H4 h
    · refine den_aload_n (pc := 33) d11_isSo_33 rfl rfl ?_
      refine den_aload_n (pc := 34) d11_isSo_34 rfl rfl ?_
      refine den_getR (pc := 35) (b := 70) fa_11_7 (ok_69 _) rfl d11_isSo_35 ?_
      refine den_iload (pc := 38) d11_isSo_38 rfl ?_
      refine den_asrt (fun a4 => ?_)
      refine den_iaload (pc := 40) sh_70 (sz_lt (by decide)) rfl a4 d11_isSo_40 ?_
      refine den_aload_n (pc := 41) d11_isSo_41 rfl rfl ?_
      refine den_getR (pc := 42) (b := 70) fa_11_7 (ok_69 _) rfl d11_isSo_42 ?_
      refine den_iload (pc := 45) d11_isSo_45 rfl ?_
      refine den_iconst (pc := 47) d11_isSo_47 ?_
      refine den_iadd (pc := 48) d11_isSo_48 ?_
      refine den_asrt (fun a5 => ?_)
      refine den_iaload (pc := 49) sh_70 (sz_lt (by decide)) rfl a5 d11_isSo_49 ?_
      refine den_iload_n (pc := 50) d11_isSo_50 rfl rfl ?_
      refine den_bipush (pc := 51) d11_isSo_51 (by decide) ?_
      refine den_idiv (pc := 53) d11_isSo_53 (by decide) ?_
      refine den_iload_n (pc := 54) d11_isSo_54 rfl rfl ?_
      refine den_bipush (pc := 55) d11_isSo_55 (by decide) ?_
      refine den_irem (pc := 57) d11_isSo_57 (by decide) ?_
      refine den_iload_n (pc := 58) d11_isSo_58 rfl rfl ?_
      refine den_iadd (pc := 59) d11_isSo_59 ?_
      refine den_callVI (pc := 60) (As := [vI (h.2 70 (w32 u3).toNat), vI (h.2 70 (w32 (u3 + 1)).toNat), vI (dv32 x1 10), vI ((rm32 x1 10) + x3)]) fv_11_272 rfl rfl (ok_69 _) (Nat.le_of_ble_eq_true rfl) (Nat.le_trans (by decide) hd) d11_isSo_60 (c11_burnsBehind l G (h.2 70 (w32 u3).toNat) (h.2 70 (w32 (u3 + 1)).toNat) (dv32 x1 10) ((rm32 x1 10) + x3) h) (fun r6 h7 m8 o9 => ?_)
      refine den_aload_n (pc := 63) d11_isSo_63 rfl rfl ?_
      refine den_getR (pc := 64) (b := 70) fa_11_7 (ok_69 _) rfl d11_isSo_64 ?_
      refine den_iload (pc := 67) d11_isSo_67 rfl ?_
      refine den_iconst (pc := 69) d11_isSo_69 ?_
      refine den_iadd (pc := 70) d11_isSo_70 ?_
      refine den_asrt (fun a10 => ?_)
      refine den_iaload (pc := 71) sh_70 (sz_lt (by decide)) rfl a10 d11_isSo_71 ?_
      refine den_icmp_ne (pc := 72) (tgt := 79) d11_isSo_72 (by decide) rfl rfl (fun _ => ?_) (fun _ => ?_)
      · refine den_wk [true, true, false, true, false] rfl ?_
        exact t11_isSo_79 l G _ hd x1 x3 rec4 H4 h7
      · refine den_iconst (pc := 75) d11_isSo_75 ?_
        refine den_goto (pc := 76) (tgt := 80) d11_isSo_76 (by decide) ?_
        refine den_wk [true, true, false, true, false] rfl ?_
        exact t11_isSo_80 l G _ hd x1 x3 1 rec4 H4 h7
def l11_isSo_4 (x1 : Int) (x2 : Int) (x3 : Int) (h : AH) : Option (Int × AH) := fx (fun rec z => b11_isSo_4 rec x1 z.1 z.2.1 z.2.2) FU (x2, x3, h)
set_option maxRecDepth 100000 in
theorem tl11_isSo_4 (l : Launch) (G : Geo) (d : Nat) (hd : 5 ≤ d) (x1 : Int) : ∀ (n : Nat) (z : Int × Int × AH), True → Den l G m11_isSo rvI d 4 [some (vA G 69), some (vI x1), some (vI z.1), some (vI z.2.1), none] [] z.2.2 (fx (fun rec z => b11_isSo_4 rec x1 z.1 z.2.1 z.2.2) n z) :=
  den_fx (F := fun rec z => b11_isSo_4 rec x1 z.1 z.2.1 z.2.2) (P := fun z => True) (fL := fun z => [some (vA G 69), some (vI x1), some (vI z.1), some (vI z.2.1), none]) (fs := fun z => []) (fh := fun z => z.2.2) (fun rec hrec z hz => t11_isSo_4 l G d hd x1 z.1 z.2.1 rec (fun x2 x3 h => hrec (x2, x3, h) trivial) z.2.2 )
def f11_isSo (x1 : Int) (h : AH) : Option (Int × AH) :=
  l11_isSo_4 x1 1 0 h
set_option maxRecDepth 100000 in
theorem c11_isSo (l : Launch) (G : Geo) (x1 : Int) (h : AH) : Con l G m11_isSo rvI 5 [vA G 69, vI x1] h (f11_isSo x1 h) := by
  have hd : 5 ≤ 5 := Nat.le_refl _
  refine con_Z rfl (by decide) rfl rfl (Nat.le_of_ble_eq_true rfl) (L := [some (vA G 69), some (vI x1), none, none, none]) ?_
  unfold f11_isSo
  refine den_iconst (pc := 0) d11_isSo_0 ?_
  refine den_istore_n (pc := 1) (L2 := [some (vA G 69), some (vI x1), some (vI 1), none, none]) d11_isSo_1 rfl (by decide) rfl ?_
  refine den_iconst (pc := 2) d11_isSo_2 ?_
  refine den_istore_n (pc := 3) (L2 := [some (vA G 69), some (vI x1), some (vI 1), some (vI 0), none]) d11_isSo_3 rfl (by decide) rfl ?_
  exact tl11_isSo_4 l G _ hd x1 FU (1, 0, h) trivial
theorem d11_greatestBy_0 : decode m11_greatestBy.2.1 0 = .ok (.iconst 0, 1) := by decide +kernel
theorem d11_greatestBy_1 : decode m11_greatestBy.2.1 1 = .ok (.istore_n 3, 1) := by decide +kernel
theorem d11_greatestBy_2 : decode m11_greatestBy.2.1 2 = .ok (.iload_n 3, 1) := by decide +kernel
theorem d11_greatestBy_3 : decode m11_greatestBy.2.1 3 = .ok (.bipush 82, 2) := by decide +kernel
theorem d11_greatestBy_5 : decode m11_greatestBy.2.1 5 = .ok (.if_icmp .ge 16, 3) := by decide +kernel
theorem d11_greatestBy_8 : decode m11_greatestBy.2.1 8 = .ok (.aload_n 0, 1) := by decide +kernel
theorem d11_greatestBy_9 : decode m11_greatestBy.2.1 9 = .ok (.getfield 77, 3) := by decide +kernel
theorem d11_greatestBy_12 : decode m11_greatestBy.2.1 12 = .ok (.iload_n 3, 1) := by decide +kernel
theorem d11_greatestBy_13 : decode m11_greatestBy.2.1 13 = .ok (.iconst 0, 1) := by decide +kernel
theorem d11_greatestBy_14 : decode m11_greatestBy.2.1 14 = .ok (.iastore, 1) := by decide +kernel
theorem d11_greatestBy_15 : decode m11_greatestBy.2.1 15 = .ok (.iinc 3 1, 3) := by decide +kernel
theorem d11_greatestBy_18 : decode m11_greatestBy.2.1 18 = .ok (.goto (-16), 3) := by decide +kernel
theorem d11_greatestBy_21 : decode m11_greatestBy.2.1 21 = .ok (.iconst 0, 1) := by decide +kernel
theorem d11_greatestBy_22 : decode m11_greatestBy.2.1 22 = .ok (.istore_n 3, 1) := by decide +kernel
theorem d11_greatestBy_23 : decode m11_greatestBy.2.1 23 = .ok (.iconst 0, 1) := by decide +kernel
theorem d11_greatestBy_24 : decode m11_greatestBy.2.1 24 = .ok (.istore 4, 2) := by decide +kernel
theorem d11_greatestBy_26 : decode m11_greatestBy.2.1 26 = .ok (.iload 4, 2) := by decide +kernel
theorem d11_greatestBy_28 : decode m11_greatestBy.2.1 28 = .ok (.bipush 10, 2) := by decide +kernel
theorem d11_greatestBy_30 : decode m11_greatestBy.2.1 30 = .ok (.aload_n 0, 1) := by decide +kernel
theorem d11_greatestBy_31 : decode m11_greatestBy.2.1 31 = .ok (.getfield 195, 3) := by decide +kernel
theorem d11_greatestBy_34 : decode m11_greatestBy.2.1 34 = .ok (.imul, 1) := by decide +kernel
theorem d11_greatestBy_35 : decode m11_greatestBy.2.1 35 = .ok (.if_icmp .ge 83, 3) := by decide +kernel
theorem d11_greatestBy_38 : decode m11_greatestBy.2.1 38 = .ok (.aload_n 0, 1) := by decide +kernel
theorem d11_greatestBy_39 : decode m11_greatestBy.2.1 39 = .ok (.iload 4, 2) := by decide +kernel
theorem d11_greatestBy_41 : decode m11_greatestBy.2.1 41 = .ok (.invokevirtual 386, 3) := by decide +kernel
theorem d11_greatestBy_44 : decode m11_greatestBy.2.1 44 = .ok (.ifCond .ne 6, 3) := by decide +kernel
theorem d11_greatestBy_47 : decode m11_greatestBy.2.1 47 = .ok (.goto 65, 3) := by decide +kernel
theorem d11_greatestBy_50 : decode m11_greatestBy.2.1 50 = .ok (.aload_n 0, 1) := by decide +kernel
theorem d11_greatestBy_51 : decode m11_greatestBy.2.1 51 = .ok (.iload_n 1, 1) := by decide +kernel
theorem d11_greatestBy_52 : decode m11_greatestBy.2.1 52 = .ok (.iload_n 2, 1) := by decide +kernel
theorem d11_greatestBy_53 : decode m11_greatestBy.2.1 53 = .ok (.iload 4, 2) := by decide +kernel
theorem d11_greatestBy_55 : decode m11_greatestBy.2.1 55 = .ok (.bipush 10, 2) := by decide +kernel
theorem d11_greatestBy_57 : decode m11_greatestBy.2.1 57 = .ok (.idiv, 1) := by decide +kernel
theorem d11_greatestBy_58 : decode m11_greatestBy.2.1 58 = .ok (.iload 4, 2) := by decide +kernel
theorem d11_greatestBy_60 : decode m11_greatestBy.2.1 60 = .ok (.bipush 10, 2) := by decide +kernel
theorem d11_greatestBy_62 : decode m11_greatestBy.2.1 62 = .ok (.irem, 1) := by decide +kernel
theorem d11_greatestBy_63 : decode m11_greatestBy.2.1 63 = .ok (.aload_n 0, 1) := by decide +kernel
theorem d11_greatestBy_64 : decode m11_greatestBy.2.1 64 = .ok (.getfield 7, 3) := by decide +kernel
theorem d11_greatestBy_67 : decode m11_greatestBy.2.1 67 = .ok (.aload_n 0, 1) := by decide +kernel
theorem d11_greatestBy_68 : decode m11_greatestBy.2.1 68 = .ok (.getfield 380, 3) := by decide +kernel
theorem d11_greatestBy_71 : decode m11_greatestBy.2.1 71 = .ok (.iaload, 1) := by decide +kernel
theorem d11_greatestBy_72 : decode m11_greatestBy.2.1 72 = .ok (.iadd, 1) := by decide +kernel
theorem d11_greatestBy_73 : decode m11_greatestBy.2.1 73 = .ok (.invokevirtual 272, 3) := by decide +kernel
theorem d11_greatestBy_76 : decode m11_greatestBy.2.1 76 = .ok (.istore 5, 2) := by decide +kernel
theorem d11_greatestBy_78 : decode m11_greatestBy.2.1 78 = .ok (.aload_n 0, 1) := by decide +kernel
theorem d11_greatestBy_79 : decode m11_greatestBy.2.1 79 = .ok (.getfield 77, 3) := by decide +kernel
theorem d11_greatestBy_82 : decode m11_greatestBy.2.1 82 = .ok (.iload 5, 2) := by decide +kernel
theorem d11_greatestBy_84 : decode m11_greatestBy.2.1 84 = .ok (.dup2, 1) := by decide +kernel
theorem d11_greatestBy_85 : decode m11_greatestBy.2.1 85 = .ok (.iaload, 1) := by decide +kernel
theorem d11_greatestBy_86 : decode m11_greatestBy.2.1 86 = .ok (.iconst 1, 1) := by decide +kernel
theorem d11_greatestBy_87 : decode m11_greatestBy.2.1 87 = .ok (.iadd, 1) := by decide +kernel
theorem d11_greatestBy_88 : decode m11_greatestBy.2.1 88 = .ok (.iastore, 1) := by decide +kernel
theorem d11_greatestBy_89 : decode m11_greatestBy.2.1 89 = .ok (.aload_n 0, 1) := by decide +kernel
theorem d11_greatestBy_90 : decode m11_greatestBy.2.1 90 = .ok (.getfield 77, 3) := by decide +kernel
theorem d11_greatestBy_93 : decode m11_greatestBy.2.1 93 = .ok (.iload 5, 2) := by decide +kernel
theorem d11_greatestBy_95 : decode m11_greatestBy.2.1 95 = .ok (.iaload, 1) := by decide +kernel
theorem d11_greatestBy_96 : decode m11_greatestBy.2.1 96 = .ok (.iload_n 3, 1) := by decide +kernel
theorem d11_greatestBy_97 : decode m11_greatestBy.2.1 97 = .ok (.if_icmp .le 13, 3) := by decide +kernel
theorem d11_greatestBy_100 : decode m11_greatestBy.2.1 100 = .ok (.aload_n 0, 1) := by decide +kernel
theorem d11_greatestBy_101 : decode m11_greatestBy.2.1 101 = .ok (.getfield 77, 3) := by decide +kernel
theorem d11_greatestBy_104 : decode m11_greatestBy.2.1 104 = .ok (.iload 5, 2) := by decide +kernel
theorem d11_greatestBy_106 : decode m11_greatestBy.2.1 106 = .ok (.iaload, 1) := by decide +kernel
theorem d11_greatestBy_107 : decode m11_greatestBy.2.1 107 = .ok (.goto 4, 3) := by decide +kernel
theorem d11_greatestBy_110 : decode m11_greatestBy.2.1 110 = .ok (.iload_n 3, 1) := by decide +kernel
theorem d11_greatestBy_111 : decode m11_greatestBy.2.1 111 = .ok (.istore_n 3, 1) := by decide +kernel
theorem d11_greatestBy_112 : decode m11_greatestBy.2.1 112 = .ok (.iinc 4 1, 3) := by decide +kernel
theorem d11_greatestBy_115 : decode m11_greatestBy.2.1 115 = .ok (.goto (-89), 3) := by decide +kernel
theorem d11_greatestBy_118 : decode m11_greatestBy.2.1 118 = .ok (.iload_n 3, 1) := by decide +kernel
theorem d11_greatestBy_119 : decode m11_greatestBy.2.1 119 = .ok (.ireturn, 1) := by decide +kernel
def b11_greatestBy_112 (rec26 : Int × Int × AH → Option (Int × AH)) (x1 : Int) (x2 : Int) (x3 : Int) (x4 : Int) (h : AH) : Option (Int × AH) :=
  rec26 (x3, (x4 + 1), h)
set_option maxRecDepth 100000 in
theorem t11_greatestBy_112 (l : Launch) (G : Geo) (d : Nat) (hd : 6 ≤ d) (x1 : Int) (x2 : Int) (x3 : Int) (x4 : Int) (rec26 : Int × Int × AH → Option (Int × AH)) (H26 : ∀ (x3 : Int) (x4 : Int) (h : AH), Den l G m11_greatestBy rvI d 26 [some (vA G 69), some (vI x1), some (vI x2), some (vI x3), some (vI x4), none] [] h (rec26 (x3, x4, h))) (h : AH) : Den l G m11_greatestBy rvI d 112 [some (vA G 69), some (vI x1), some (vI x2), some (vI x3), some (vI x4), none] [] h (b11_greatestBy_112 rec26 x1 x2 x3 x4 h) := by
  unfold b11_greatestBy_112
  refine den_iinc (pc := 112) (L2 := [some (vA G 69), some (vI x1), some (vI x2), some (vI x3), some (vI (x4 + 1)), none]) d11_greatestBy_112 (by decide) rfl rfl ?_
  refine den_goto (pc := 115) (tgt := 26) d11_greatestBy_115 (by decide) ?_
  exact H26 x3 (x4 + 1) h
def b11_greatestBy_111 (rec26 : Int × Int × AH → Option (Int × AH)) (x1 : Int) (x2 : Int) (x4 : Int) (s0 : Int) (h : AH) : Option (Int × AH) :=
  b11_greatestBy_112 rec26 x1 x2 s0 x4 h
set_option maxRecDepth 100000 in
theorem t11_greatestBy_111 (l : Launch) (G : Geo) (d : Nat) (hd : 6 ≤ d) (x1 : Int) (x2 : Int) (x4 : Int) (s0 : Int) (rec26 : Int × Int × AH → Option (Int × AH)) (H26 : ∀ (x3 : Int) (x4 : Int) (h : AH), Den l G m11_greatestBy rvI d 26 [some (vA G 69), some (vI x1), some (vI x2), some (vI x3), some (vI x4), none] [] h (rec26 (x3, x4, h))) (h : AH) : Den l G m11_greatestBy rvI d 111 [some (vA G 69), some (vI x1), some (vI x2), none, some (vI x4), none] [vI s0] h (b11_greatestBy_111 rec26 x1 x2 x4 s0 h) := by
  unfold b11_greatestBy_111
  refine den_istore_n (pc := 111) (L2 := [some (vA G 69), some (vI x1), some (vI x2), some (vI s0), some (vI x4), none]) d11_greatestBy_111 rfl (by decide) rfl ?_
  exact t11_greatestBy_112 l G _ hd x1 x2 s0 x4 rec26 H26 h
def b11_greatestBy_26 (rec26 : Int × Int × AH → Option (Int × AH)) (x1 : Int) (x2 : Int) (x3 : Int) (x4 : Int) (h : AH) : Option (Int × AH) :=
  if w32 (10 * (h.2 69 14)) ≤ w32 x4 then
    some (x3, h)
  else
    bnd (f11_isSo x4 h) fun r1 h2 =>
    if ¬ w32 r1 = 0 then
      asrt (0 ≤ w32 (h2.2 69 41) ∧ w32 (h2.2 69 41) < 4824) <|
      bnd (f11_burnsBehind x1 x2 (dv32 x4 10) ((rm32 x4 10) + (h2.2 70 (w32 (h2.2 69 41)).toNat)) h2) fun r6 h7 =>
      asrt (0 ≤ w32 r6 ∧ w32 r6 < 82) <|
      asrt (0 ≤ w32 r6 ∧ w32 r6 < 82) <|
      lt (wr h7 92 (w32 r6).toNat ((h7.2 92 (w32 r6).toNat) + 1)) fun h12 =>
      asrt (0 ≤ w32 r6 ∧ w32 r6 < 82) <|
      if w32 (h12.2 92 (w32 r6).toNat) ≤ w32 x3 then
        b11_greatestBy_111 rec26 x1 x2 x4 x3 h12
      else
        asrt (0 ≤ w32 r6 ∧ w32 r6 < 82) <|
        b11_greatestBy_111 rec26 x1 x2 x4 (h12.2 92 (w32 r6).toNat) h12
    else
      b11_greatestBy_112 rec26 x1 x2 x3 x4 h2
set_option maxRecDepth 100000 in
theorem t11_greatestBy_26 (l : Launch) (G : Geo) (d : Nat) (hd : 6 ≤ d) (x1 : Int) (x2 : Int) (x3 : Int) (x4 : Int) (rec26 : Int × Int × AH → Option (Int × AH)) (H26 : ∀ (x3 : Int) (x4 : Int) (h : AH), Den l G m11_greatestBy rvI d 26 [some (vA G 69), some (vI x1), some (vI x2), some (vI x3), some (vI x4), none] [] h (rec26 (x3, x4, h))) (h : AH) : Den l G m11_greatestBy rvI d 26 [some (vA G 69), some (vI x1), some (vI x2), some (vI x3), some (vI x4), none] [] h (b11_greatestBy_26 rec26 x1 x2 x3 x4 h) := by
  unfold b11_greatestBy_26
  refine den_iload (pc := 26) d11_greatestBy_26 rfl ?_
  refine den_bipush (pc := 28) d11_greatestBy_28 (by decide) ?_
  refine den_aload_n (pc := 30) d11_greatestBy_30 rfl rfl ?_
  refine den_getI (pc := 31) fa_11_195 (ok_69 _) d11_greatestBy_31 ?_
  refine den_imul (pc := 34) d11_greatestBy_34 ?_
  refine den_icmp_ge (pc := 35) (tgt := 118) d11_greatestBy_35 (by decide) rfl rfl (fun _ => ?_) (fun _ => ?_)
  · refine den_iload_n (pc := 118) d11_greatestBy_118 rfl rfl ?_
    exact den_iret (pc := 119) rfl d11_greatestBy_119
  · refine den_aload_n (pc := 38) d11_greatestBy_38 rfl rfl ?_
    refine den_iload (pc := 39) d11_greatestBy_39 rfl ?_
    refine den_callVI (pc := 41) (As := [vI x4]) fv_11_386 rfl rfl (ok_69 _) (Nat.le_of_ble_eq_true rfl) (Nat.le_trans (by decide) hd) d11_greatestBy_41 (c11_isSo l G x4 h) (fun r1 h2 m3 o4 => ?_)
    refine den_if_ne (pc := 44) (tgt := 50) d11_greatestBy_44 (by decide) rfl (fun _ => ?_) (fun _ => ?_)
    · refine den_aload_n (pc := 50) d11_greatestBy_50 rfl rfl ?_
      refine den_iload_n (pc := 51) d11_greatestBy_51 rfl rfl ?_
      refine den_iload_n (pc := 52) d11_greatestBy_52 rfl rfl ?_
      refine den_iload (pc := 53) d11_greatestBy_53 rfl ?_
      refine den_bipush (pc := 55) d11_greatestBy_55 (by decide) ?_
      refine den_idiv (pc := 57) d11_greatestBy_57 (by decide) ?_
      refine den_iload (pc := 58) d11_greatestBy_58 rfl ?_
      refine den_bipush (pc := 60) d11_greatestBy_60 (by decide) ?_
      refine den_irem (pc := 62) d11_greatestBy_62 (by decide) ?_
      refine den_aload_n (pc := 63) d11_greatestBy_63 rfl rfl ?_
      refine den_getR (pc := 64) (b := 70) fa_11_7 (ok_69 _) rfl d11_greatestBy_64 ?_
      refine den_aload_n (pc := 67) d11_greatestBy_67 rfl rfl ?_
      refine den_getI (pc := 68) fa_11_380 (ok_69 _) d11_greatestBy_68 ?_
      refine den_asrt (fun a5 => ?_)
      refine den_iaload (pc := 71) sh_70 (sz_lt (by decide)) rfl a5 d11_greatestBy_71 ?_
      refine den_iadd (pc := 72) d11_greatestBy_72 ?_
      refine den_callVI (pc := 73) (As := [vI x1, vI x2, vI (dv32 x4 10), vI ((rm32 x4 10) + (h2.2 70 (w32 (h2.2 69 41)).toNat))]) fv_11_272 rfl rfl (ok_69 _) (Nat.le_of_ble_eq_true rfl) (Nat.le_trans (by decide) hd) d11_greatestBy_73 (c11_burnsBehind l G x1 x2 (dv32 x4 10) ((rm32 x4 10) + (h2.2 70 (w32 (h2.2 69 41)).toNat)) h2) (fun r6 h7 m8 o9 => ?_)
      refine den_istore (pc := 76) (L2 := [some (vA G 69), some (vI x1), some (vI x2), some (vI x3), some (vI x4), some (vI r6)]) d11_greatestBy_76 (by decide) rfl ?_
      refine den_aload_n (pc := 78) d11_greatestBy_78 rfl rfl ?_
      refine den_getR (pc := 79) (b := 92) fa_11_77 (ok_69 _) rfl d11_greatestBy_79 ?_
      refine den_iload (pc := 82) d11_greatestBy_82 rfl ?_
      refine den_dup2 (pc := 84) d11_greatestBy_84 rfl rfl ?_
      refine den_asrt (fun a10 => ?_)
      refine den_iaload (pc := 85) sh_92 (sz_lt (by decide)) rfl a10 d11_greatestBy_85 ?_
      refine den_iconst (pc := 86) d11_greatestBy_86 ?_
      refine den_iadd (pc := 87) d11_greatestBy_87 ?_
      refine den_asrt (fun a11 => ?_)
      refine den_iastore (pc := 88) sh_92 (sz_lt (by decide)) rfl a11 d11_greatestBy_88 ?_
      refine den_ltH (fun h12 m13 => ?_)
      refine den_aload_n (pc := 89) d11_greatestBy_89 rfl rfl ?_
      refine den_getR (pc := 90) (b := 92) fa_11_77 (ok_69 _) rfl d11_greatestBy_90 ?_
      refine den_iload (pc := 93) d11_greatestBy_93 rfl ?_
      refine den_asrt (fun a14 => ?_)
      refine den_iaload (pc := 95) sh_92 (sz_lt (by decide)) rfl a14 d11_greatestBy_95 ?_
      refine den_iload_n (pc := 96) d11_greatestBy_96 rfl rfl ?_
      refine den_icmp_le (pc := 97) (tgt := 110) d11_greatestBy_97 (by decide) rfl rfl (fun _ => ?_) (fun _ => ?_)
      · refine den_iload_n (pc := 110) d11_greatestBy_110 rfl rfl ?_
        refine den_wk [true, true, true, false, true, false] rfl ?_
        exact t11_greatestBy_111 l G _ hd x1 x2 x4 x3 rec26 H26 h12
      · refine den_aload_n (pc := 100) d11_greatestBy_100 rfl rfl ?_
        refine den_getR (pc := 101) (b := 92) fa_11_77 (ok_69 _) rfl d11_greatestBy_101 ?_
        refine den_iload (pc := 104) d11_greatestBy_104 rfl ?_
        refine den_asrt (fun a15 => ?_)
        refine den_iaload (pc := 106) sh_92 (sz_lt (by decide)) rfl a15 d11_greatestBy_106 ?_
        refine den_goto (pc := 107) (tgt := 111) d11_greatestBy_107 (by decide) ?_
        refine den_wk [true, true, true, false, true, false] rfl ?_
        exact t11_greatestBy_111 l G _ hd x1 x2 x4 (h12.2 92 (w32 r6).toNat) rec26 H26 h12
    · refine den_goto (pc := 47) (tgt := 112) d11_greatestBy_47 (by decide) ?_
      exact t11_greatestBy_112 l G _ hd x1 x2 x3 x4 rec26 H26 h2
def l11_greatestBy_26 (x1 : Int) (x2 : Int) (x3 : Int) (x4 : Int) (h : AH) : Option (Int × AH) := fx (fun rec z => b11_greatestBy_26 rec x1 x2 z.1 z.2.1 z.2.2) FU (x3, x4, h)
set_option maxRecDepth 100000 in
theorem tl11_greatestBy_26 (l : Launch) (G : Geo) (d : Nat) (hd : 6 ≤ d) (x1 : Int) (x2 : Int) : ∀ (n : Nat) (z : Int × Int × AH), True → Den l G m11_greatestBy rvI d 26 [some (vA G 69), some (vI x1), some (vI x2), some (vI z.1), some (vI z.2.1), none] [] z.2.2 (fx (fun rec z => b11_greatestBy_26 rec x1 x2 z.1 z.2.1 z.2.2) n z) :=
  den_fx (F := fun rec z => b11_greatestBy_26 rec x1 x2 z.1 z.2.1 z.2.2) (P := fun z => True) (fL := fun z => [some (vA G 69), some (vI x1), some (vI x2), some (vI z.1), some (vI z.2.1), none]) (fs := fun z => []) (fh := fun z => z.2.2) (fun rec hrec z hz => t11_greatestBy_26 l G d hd x1 x2 z.1 z.2.1 rec (fun x3 x4 h => hrec (x3, x4, h) trivial) z.2.2 )
def b11_greatestBy_2 (rec2 : Int × AH → Option (Int × AH)) (x1 : Int) (x2 : Int) (x3 : Int) (h : AH) : Option (Int × AH) :=
  if 82 ≤ w32 x3 then
    l11_greatestBy_26 x1 x2 0 0 h
  else
    asrt (0 ≤ w32 x3 ∧ w32 x3 < 82) <|
    lt (wr h 92 (w32 x3).toNat 0) fun h17 =>
    rec2 ((x3 + 1), h17)
set_option maxRecDepth 100000 in
theorem t11_greatestBy_2 (l : Launch) (G : Geo) (d : Nat) (hd : 6 ≤ d) (x1 : Int) (x2 : Int) (x3 : Int) (rec2 : Int × AH → Option (Int × AH)) (H2 : ∀ (x3 : Int) (h : AH), Den l G m11_greatestBy rvI d 2 [some (vA G 69), some (vI x1), some (vI x2), some (vI x3), none, none] [] h (rec2 (x3, h))) (h : AH) : Den l G m11_greatestBy rvI d 2 [some (vA G 69), some (vI x1), some (vI x2), some (vI x3), none, none] [] h (b11_greatestBy_2 rec2 x1 x2 x3 h) := by
  unfold b11_greatestBy_2
  refine den_iload_n (pc := 2) d11_greatestBy_2 rfl rfl ?_
  refine den_bipush (pc := 3) d11_greatestBy_3 (by decide) ?_
  refine den_icmp_ge (pc := 5) (tgt := 21) d11_greatestBy_5 (by decide) rfl (by decide) (fun _ => ?_) (fun _ => ?_)
  · refine den_iconst (pc := 21) d11_greatestBy_21 ?_
    refine den_istore_n (pc := 22) (L2 := [some (vA G 69), some (vI x1), some (vI x2), some (vI 0), none, none]) d11_greatestBy_22 rfl (by decide) rfl ?_
    refine den_iconst (pc := 23) d11_greatestBy_23 ?_
    refine den_istore (pc := 24) (L2 := [some (vA G 69), some (vI x1), some (vI x2), some (vI 0), some (vI 0), none]) d11_greatestBy_24 (by decide) rfl ?_
    exact tl11_greatestBy_26 l G _ hd x1 x2 FU (0, 0, h) trivial
  · refine den_aload_n (pc := 8) d11_greatestBy_8 rfl rfl ?_
    refine den_getR (pc := 9) (b := 92) fa_11_77 (ok_69 _) rfl d11_greatestBy_9 ?_
    refine den_iload_n (pc := 12) d11_greatestBy_12 rfl rfl ?_
    refine den_iconst (pc := 13) d11_greatestBy_13 ?_
    refine den_asrt (fun a16 => ?_)
    refine den_iastore (pc := 14) sh_92 (sz_lt (by decide)) rfl a16 d11_greatestBy_14 ?_
    refine den_ltH (fun h17 m18 => ?_)
    refine den_iinc (pc := 15) (L2 := [some (vA G 69), some (vI x1), some (vI x2), some (vI (x3 + 1)), none, none]) d11_greatestBy_15 (by decide) rfl rfl ?_
    refine den_goto (pc := 18) (tgt := 2) d11_greatestBy_18 (by decide) ?_
    exact H2 (x3 + 1) h17
def l11_greatestBy_2 (x1 : Int) (x2 : Int) (x3 : Int) (h : AH) : Option (Int × AH) := fx (fun rec z => b11_greatestBy_2 rec x1 x2 z.1 z.2) FU (x3, h)
set_option maxRecDepth 100000 in
theorem tl11_greatestBy_2 (l : Launch) (G : Geo) (d : Nat) (hd : 6 ≤ d) (x1 : Int) (x2 : Int) : ∀ (n : Nat) (z : Int × AH), True → Den l G m11_greatestBy rvI d 2 [some (vA G 69), some (vI x1), some (vI x2), some (vI z.1), none, none] [] z.2 (fx (fun rec z => b11_greatestBy_2 rec x1 x2 z.1 z.2) n z) :=
  den_fx (F := fun rec z => b11_greatestBy_2 rec x1 x2 z.1 z.2) (P := fun z => True) (fL := fun z => [some (vA G 69), some (vI x1), some (vI x2), some (vI z.1), none, none]) (fs := fun z => []) (fh := fun z => z.2) (fun rec hrec z hz => t11_greatestBy_2 l G d hd x1 x2 z.1 rec (fun x3 h => hrec (x3, h) trivial) z.2 )
def f11_greatestBy (x1 : Int) (x2 : Int) (h : AH) : Option (Int × AH) :=
  l11_greatestBy_2 x1 x2 0 h
set_option maxRecDepth 100000 in
theorem c11_greatestBy (l : Launch) (G : Geo) (x1 : Int) (x2 : Int) (h : AH) : Con l G m11_greatestBy rvI 6 [vA G 69, vI x1, vI x2] h (f11_greatestBy x1 x2 h) := by
  have hd : 6 ≤ 6 := Nat.le_refl _
  refine con_I rfl (by decide) rfl rfl (Nat.le_of_ble_eq_true rfl) (L := [some (vA G 69), some (vI x1), some (vI x2), none, none, none]) ?_
  unfold f11_greatestBy
  refine den_iconst (pc := 0) d11_greatestBy_0 ?_
  refine den_istore_n (pc := 1) (L2 := [some (vA G 69), some (vI x1), some (vI x2), some (vI 0), none, none]) d11_greatestBy_1 rfl (by decide) rfl ?_
  exact tl11_greatestBy_2 l G _ hd x1 x2 FU (0, h) trivial
theorem d11_askOf_0 : decode m11_askOf.2.1 0 = .ok (.iconst (-1), 1) := by decide +kernel
theorem d11_askOf_1 : decode m11_askOf.2.1 1 = .ok (.istore_n 1, 1) := by decide +kernel
theorem d11_askOf_2 : decode m11_askOf.2.1 2 = .ok (.bipush 99, 2) := by decide +kernel
theorem d11_askOf_4 : decode m11_askOf.2.1 4 = .ok (.istore_n 2, 1) := by decide +kernel
theorem d11_askOf_5 : decode m11_askOf.2.1 5 = .ok (.iconst 0, 1) := by decide +kernel
theorem d11_askOf_6 : decode m11_askOf.2.1 6 = .ok (.istore_n 3, 1) := by decide +kernel
theorem d11_askOf_7 : decode m11_askOf.2.1 7 = .ok (.iload_n 3, 1) := by decide +kernel
theorem d11_askOf_8 : decode m11_askOf.2.1 8 = .ok (.aload_n 0, 1) := by decide +kernel
theorem d11_askOf_9 : decode m11_askOf.2.1 9 = .ok (.getfield 192, 3) := by decide +kernel
theorem d11_askOf_12 : decode m11_askOf.2.1 12 = .ok (.if_icmp .ge 58, 3) := by decide +kernel
theorem d11_askOf_15 : decode m11_askOf.2.1 15 = .ok (.iload_n 3, 1) := by decide +kernel
theorem d11_askOf_16 : decode m11_askOf.2.1 16 = .ok (.iconst 1, 1) := by decide +kernel
theorem d11_askOf_17 : decode m11_askOf.2.1 17 = .ok (.iadd, 1) := by decide +kernel
theorem d11_askOf_18 : decode m11_askOf.2.1 18 = .ok (.istore 4, 2) := by decide +kernel
theorem d11_askOf_20 : decode m11_askOf.2.1 20 = .ok (.iload 4, 2) := by decide +kernel
theorem d11_askOf_22 : decode m11_askOf.2.1 22 = .ok (.aload_n 0, 1) := by decide +kernel
theorem d11_askOf_23 : decode m11_askOf.2.1 23 = .ok (.getfield 192, 3) := by decide +kernel
theorem d11_askOf_26 : decode m11_askOf.2.1 26 = .ok (.if_icmp .ge 38, 3) := by decide +kernel
theorem d11_askOf_29 : decode m11_askOf.2.1 29 = .ok (.aload_n 0, 1) := by decide +kernel
theorem d11_askOf_30 : decode m11_askOf.2.1 30 = .ok (.iload_n 3, 1) := by decide +kernel
theorem d11_askOf_31 : decode m11_askOf.2.1 31 = .ok (.iload 4, 2) := by decide +kernel
theorem d11_askOf_33 : decode m11_askOf.2.1 33 = .ok (.invokevirtual 389, 3) := by decide +kernel
theorem d11_askOf_36 : decode m11_askOf.2.1 36 = .ok (.istore 5, 2) := by decide +kernel
theorem d11_askOf_38 : decode m11_askOf.2.1 38 = .ok (.iload 5, 2) := by decide +kernel
theorem d11_askOf_40 : decode m11_askOf.2.1 40 = .ok (.iload_n 2, 1) := by decide +kernel
theorem d11_askOf_41 : decode m11_askOf.2.1 41 = .ok (.if_icmp .lt 6, 3) := by decide +kernel
theorem d11_askOf_44 : decode m11_askOf.2.1 44 = .ok (.goto 14, 3) := by decide +kernel
theorem d11_askOf_47 : decode m11_askOf.2.1 47 = .ok (.bipush 10, 2) := by decide +kernel
theorem d11_askOf_49 : decode m11_askOf.2.1 49 = .ok (.iload_n 3, 1) := by decide +kernel
theorem d11_askOf_50 : decode m11_askOf.2.1 50 = .ok (.imul, 1) := by decide +kernel
theorem d11_askOf_51 : decode m11_askOf.2.1 51 = .ok (.iload 4, 2) := by decide +kernel
theorem d11_askOf_53 : decode m11_askOf.2.1 53 = .ok (.iadd, 1) := by decide +kernel
theorem d11_askOf_54 : decode m11_askOf.2.1 54 = .ok (.istore_n 1, 1) := by decide +kernel
theorem d11_askOf_55 : decode m11_askOf.2.1 55 = .ok (.iload 5, 2) := by decide +kernel
theorem d11_askOf_57 : decode m11_askOf.2.1 57 = .ok (.istore_n 2, 1) := by decide +kernel
theorem d11_askOf_58 : decode m11_askOf.2.1 58 = .ok (.iinc 4 1, 3) := by decide +kernel
theorem d11_askOf_61 : decode m11_askOf.2.1 61 = .ok (.goto (-41), 3) := by decide +kernel
theorem d11_askOf_64 : decode m11_askOf.2.1 64 = .ok (.iinc 3 1, 3) := by decide +kernel
theorem d11_askOf_67 : decode m11_askOf.2.1 67 = .ok (.goto (-60), 3) := by decide +kernel
theorem d11_askOf_70 : decode m11_askOf.2.1 70 = .ok (.iload_n 1, 1) := by decide +kernel
theorem d11_askOf_71 : decode m11_askOf.2.1 71 = .ok (.ireturn, 1) := by decide +kernel
def b11_askOf_58 (rec7 : Int × Int × Int × AH → Option (Int × AH)) (rec20 : Int × Int × Int × AH → Option (Int × AH)) (x1 : Int) (x2 : Int) (x3 : Int) (x4 : Int) (h : AH) : Option (Int × AH) :=
  rec20 (x1, x2, (x4 + 1), h)
set_option maxRecDepth 100000 in
theorem t11_askOf_58 (l : Launch) (G : Geo) (d : Nat) (hd : 7 ≤ d) (x1 : Int) (x2 : Int) (x3 : Int) (x4 : Int) (rec7 : Int × Int × Int × AH → Option (Int × AH)) (H7 : ∀ (x1 : Int) (x2 : Int) (x3 : Int) (h : AH), Den l G m11_askOf rvI d 7 [some (vA G 69), some (vI x1), some (vI x2), some (vI x3), none, none] [] h (rec7 (x1, x2, x3, h))) (rec20 : Int × Int × Int × AH → Option (Int × AH)) (H20 : ∀ (x1 : Int) (x2 : Int) (x4 : Int) (h : AH), Den l G m11_askOf rvI d 20 [some (vA G 69), some (vI x1), some (vI x2), some (vI x3), some (vI x4), none] [] h (rec20 (x1, x2, x4, h))) (h : AH) : Den l G m11_askOf rvI d 58 [some (vA G 69), some (vI x1), some (vI x2), some (vI x3), some (vI x4), none] [] h (b11_askOf_58 rec7 rec20 x1 x2 x3 x4 h) := by
  unfold b11_askOf_58
  refine den_iinc (pc := 58) (L2 := [some (vA G 69), some (vI x1), some (vI x2), some (vI x3), some (vI (x4 + 1)), none]) d11_askOf_58 (by decide) rfl rfl ?_
  refine den_goto (pc := 61) (tgt := 20) d11_askOf_61 (by decide) ?_
  exact H20 x1 x2 (x4 + 1) h
def b11_askOf_20 (rec20 : Int × Int × Int × AH → Option (Int × AH)) (rec7 : Int × Int × Int × AH → Option (Int × AH)) (x3 : Int) (x1 : Int) (x2 : Int) (x4 : Int) (h : AH) : Option (Int × AH) :=
  if w32 (h.2 69 13) ≤ w32 x4 then
    rec7 (x1, x2, (x3 + 1), h)
  else
    bnd (f11_greatestBy x3 x4 h) fun r1 h2 =>
    if w32 r1 < w32 x2 then
      lt ((10 * x3) + x4) fun u5 =>
      b11_askOf_58 rec7 rec20 u5 r1 x3 x4 h2
    else
      b11_askOf_58 rec7 rec20 x1 x2 x3 x4 h2
set_option maxRecDepth 100000 in
theorem t11_askOf_20 (l : Launch) (G : Geo) (d : Nat) (hd : 7 ≤ d) (x3 : Int) (x1 : Int) (x2 : Int) (x4 : Int) (rec20 : Int × Int × Int × AH → Option (Int × AH)) (H20 : ∀ (x1 : Int) (x2 : Int) (x4 : Int) (h : AH), Den l G m11_askOf rvI d 20 [some (vA G 69), some (vI x1), some (vI x2), some (vI x3), some (vI x4), none] [] h (rec20 (x1, x2, x4, h))) (rec7 : Int × Int × Int × AH → Option (Int × AH)) (H7 : ∀ (x1 : Int) (x2 : Int) (x3 : Int) (h : AH), Den l G m11_askOf rvI d 7 [some (vA G 69), some (vI x1), some (vI x2), some (vI x3), none, none] [] h (rec7 (x1, x2, x3, h))) (h : AH) : Den l G m11_askOf rvI d 20 [some (vA G 69), some (vI x1), some (vI x2), some (vI x3), some (vI x4), none] [] h (b11_askOf_20 rec20 rec7 x3 x1 x2 x4 h) := by
  unfold b11_askOf_20
  refine den_iload (pc := 20) d11_askOf_20 rfl ?_
  refine den_aload_n (pc := 22) d11_askOf_22 rfl rfl ?_
  refine den_getI (pc := 23) fa_11_192 (ok_69 _) d11_askOf_23 ?_
  refine den_icmp_ge (pc := 26) (tgt := 64) d11_askOf_26 (by decide) rfl rfl (fun _ => ?_) (fun _ => ?_)
  · refine den_iinc (pc := 64) (L2 := [some (vA G 69), some (vI x1), some (vI x2), some (vI (x3 + 1)), some (vI x4), none]) d11_askOf_64 (by decide) rfl rfl ?_
    refine den_goto (pc := 67) (tgt := 7) d11_askOf_67 (by decide) ?_
    refine den_wk [true, true, true, true, false, true] rfl ?_
    exact H7 x1 x2 (x3 + 1) h
  · refine den_aload_n (pc := 29) d11_askOf_29 rfl rfl ?_
    refine den_iload_n (pc := 30) d11_askOf_30 rfl rfl ?_
    refine den_iload (pc := 31) d11_askOf_31 rfl ?_
    refine den_callVI (pc := 33) (As := [vI x3, vI x4]) fv_11_389 rfl rfl (ok_69 _) (Nat.le_of_ble_eq_true rfl) (Nat.le_trans (by decide) hd) d11_askOf_33 (c11_greatestBy l G x3 x4 h) (fun r1 h2 m3 o4 => ?_)
    refine den_istore (pc := 36) (L2 := [some (vA G 69), some (vI x1), some (vI x2), some (vI x3), some (vI x4), some (vI r1)]) d11_askOf_36 (by decide) rfl ?_
    refine den_iload (pc := 38) d11_askOf_38 rfl ?_
    refine den_iload_n (pc := 40) d11_askOf_40 rfl rfl ?_
    refine den_icmp_lt (pc := 41) (tgt := 47) d11_askOf_41 (by decide) rfl rfl (fun _ => ?_) (fun _ => ?_)
    · refine den_bipush (pc := 47) d11_askOf_47 (by decide) ?_
      refine den_iload_n (pc := 49) d11_askOf_49 rfl rfl ?_
      refine den_imul (pc := 50) d11_askOf_50 ?_
      refine den_iload (pc := 51) d11_askOf_51 rfl ?_
      refine den_iadd (pc := 53) d11_askOf_53 ?_
      refine den_istore_nL (pc := 54) (L2 := fun y => [some (vA G 69), some (vI y), some (vI x2), some (vI x3), some (vI x4), some (vI r1)]) d11_askOf_54 rfl (by decide) (fun _ => rfl) (fun u5 => ?_)
      refine den_iload (pc := 55) d11_askOf_55 rfl ?_
      refine den_istore_n (pc := 57) (L2 := [some (vA G 69), some (vI u5), some (vI r1), some (vI x3), some (vI x4), some (vI r1)]) d11_askOf_57 rfl (by decide) rfl ?_
      refine den_wk [true, true, true, true, true, false] rfl ?_
      exact t11_askOf_58 l G _ hd u5 r1 x3 x4 rec7 H7 rec20 H20 h2
    · refine den_goto (pc := 44) (tgt := 58) d11_askOf_44 (by decide) ?_
      refine den_wk [true, true, true, true, true, false] rfl ?_
      exact t11_askOf_58 l G _ hd x1 x2 x3 x4 rec7 H7 rec20 H20 h2
def l11_askOf_20 (rec7 : Int × Int × Int × AH → Option (Int × AH)) (x3 : Int) (x1 : Int) (x2 : Int) (x4 : Int) (h : AH) : Option (Int × AH) := fx (fun rec z => b11_askOf_20 rec rec7 x3 z.1 z.2.1 z.2.2.1 z.2.2.2) FU (x1, x2, x4, h)
set_option maxRecDepth 100000 in
theorem tl11_askOf_20 (l : Launch) (G : Geo) (d : Nat) (hd : 7 ≤ d) (x3 : Int) (rec7 : Int × Int × Int × AH → Option (Int × AH)) (H7 : ∀ (x1 : Int) (x2 : Int) (x3 : Int) (h : AH), Den l G m11_askOf rvI d 7 [some (vA G 69), some (vI x1), some (vI x2), some (vI x3), none, none] [] h (rec7 (x1, x2, x3, h))) : ∀ (n : Nat) (z : Int × Int × Int × AH), True → Den l G m11_askOf rvI d 20 [some (vA G 69), some (vI z.1), some (vI z.2.1), some (vI x3), some (vI z.2.2.1), none] [] z.2.2.2 (fx (fun rec z => b11_askOf_20 rec rec7 x3 z.1 z.2.1 z.2.2.1 z.2.2.2) n z) :=
  den_fx (F := fun rec z => b11_askOf_20 rec rec7 x3 z.1 z.2.1 z.2.2.1 z.2.2.2) (P := fun z => True) (fL := fun z => [some (vA G 69), some (vI z.1), some (vI z.2.1), some (vI x3), some (vI z.2.2.1), none]) (fs := fun z => []) (fh := fun z => z.2.2.2) (fun rec hrec z hz => t11_askOf_20 l G d hd x3 z.1 z.2.1 z.2.2.1 rec (fun x1 x2 x4 h => hrec (x1, x2, x4, h) trivial) rec7 H7 z.2.2.2 )
def b11_askOf_7 (rec7 : Int × Int × Int × AH → Option (Int × AH)) (x1 : Int) (x2 : Int) (x3 : Int) (h : AH) : Option (Int × AH) :=
  if w32 (h.2 69 13) ≤ w32 x3 then
    some (x1, h)
  else
    lt (x3 + 1) fun u6 =>
    l11_askOf_20 rec7 x3 x1 x2 u6 h
set_option maxRecDepth 100000 in
theorem t11_askOf_7 (l : Launch) (G : Geo) (d : Nat) (hd : 7 ≤ d) (x1 : Int) (x2 : Int) (x3 : Int) (rec7 : Int × Int × Int × AH → Option (Int × AH)) (H7 : ∀ (x1 : Int) (x2 : Int) (x3 : Int) (h : AH), Den l G m11_askOf rvI d 7 [some (vA G 69), some (vI x1), some (vI x2), some (vI x3), none, none] [] h (rec7 (x1, x2, x3, h))) (h : AH) : Den l G m11_askOf rvI d 7 [some (vA G 69), some (vI x1), some (vI x2), some (vI x3), none, none] [] h (b11_askOf_7 rec7 x1 x2 x3 h) := by
  unfold b11_askOf_7
  refine den_iload_n (pc := 7) d11_askOf_7 rfl rfl ?_
  refine den_aload_n (pc := 8) d11_askOf_8 rfl rfl ?_
  refine den_getI (pc := 9) fa_11_192 (ok_69 _) d11_askOf_9 ?_
  refine den_icmp_ge (pc := 12) (tgt := 70) d11_askOf_12 (by decide) rfl rfl (fun _ => ?_) (fun _ => ?_)
  · refine den_iload_n (pc := 70) d11_askOf_70 rfl rfl ?_
    exact den_iret (pc := 71) rfl d11_askOf_71
  · refine den_iload_n (pc := 15) d11_askOf_15 rfl rfl ?_
    refine den_iconst (pc := 16) d11_askOf_16 ?_
    refine den_iadd (pc := 17) d11_askOf_17 ?_
    refine den_istoreL (pc := 18) (L2 := fun y => [some (vA G 69), some (vI x1), some (vI x2), some (vI x3), some (vI y), none]) d11_askOf_18 (by decide) (fun _ => rfl) (fun u6 => ?_)
    exact tl11_askOf_20 l G _ hd x3 rec7 H7 FU (x1, x2, u6, h) trivial
def l11_askOf_7 (x1 : Int) (x2 : Int) (x3 : Int) (h : AH) : Option (Int × AH) := fx (fun rec z => b11_askOf_7 rec z.1 z.2.1 z.2.2.1 z.2.2.2) FU (x1, x2, x3, h)
set_option maxRecDepth 100000 in
theorem tl11_askOf_7 (l : Launch) (G : Geo) (d : Nat) (hd : 7 ≤ d) : ∀ (n : Nat) (z : Int × Int × Int × AH), True → Den l G m11_askOf rvI d 7 [some (vA G 69), some (vI z.1), some (vI z.2.1), some (vI z.2.2.1), none, none] [] z.2.2.2 (fx (fun rec z => b11_askOf_7 rec z.1 z.2.1 z.2.2.1 z.2.2.2) n z) :=
  den_fx (F := fun rec z => b11_askOf_7 rec z.1 z.2.1 z.2.2.1 z.2.2.2) (P := fun z => True) (fL := fun z => [some (vA G 69), some (vI z.1), some (vI z.2.1), some (vI z.2.2.1), none, none]) (fs := fun z => []) (fh := fun z => z.2.2.2) (fun rec hrec z hz => t11_askOf_7 l G d hd z.1 z.2.1 z.2.2.1 rec (fun x1 x2 x3 h => hrec (x1, x2, x3, h) trivial) z.2.2.2 )
def f11_askOf (h : AH) : Option (Int × AH) :=
  l11_askOf_7 (-1) 99 0 h
set_option maxRecDepth 100000 in
theorem c11_askOf (l : Launch) (G : Geo) (h : AH) : Con l G m11_askOf rvI 7 [vA G 69] h (f11_askOf  h) := by
  have hd : 7 ≤ 7 := Nat.le_refl _
  refine con_I rfl (by decide) rfl rfl (Nat.le_of_ble_eq_true rfl) (L := [some (vA G 69), none, none, none, none, none]) ?_
  unfold f11_askOf
  refine den_iconst (pc := 0) d11_askOf_0 ?_
  refine den_istore_n (pc := 1) (L2 := [some (vA G 69), some (vI (-1)), none, none, none, none]) d11_askOf_1 rfl (by decide) rfl ?_
  refine den_bipush (pc := 2) d11_askOf_2 (by decide) ?_
  refine den_istore_n (pc := 4) (L2 := [some (vA G 69), some (vI (-1)), some (vI 99), none, none, none]) d11_askOf_4 rfl (by decide) rfl ?_
  refine den_iconst (pc := 5) d11_askOf_5 ?_
  refine den_istore_n (pc := 6) (L2 := [some (vA G 69), some (vI (-1)), some (vI 99), some (vI 0), none, none]) d11_askOf_6 rfl (by decide) rfl ?_
  exact tl11_askOf_7 l G _ hd FU ((-1), 99, 0, h) trivial
