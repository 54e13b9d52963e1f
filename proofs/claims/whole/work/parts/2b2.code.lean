/-! 11_advance 11_ends 11_also 11_numbered 11_wordIn 11_endsLine 11_unlike -/
theorem d11_advance_0 : decode m11_advance.2.1 0 = .ok (.aload_n 0, 1) := by decide +kernel
theorem d11_advance_1 : decode m11_advance.2.1 1 = .ok (.aload_n 0, 1) := by decide +kernel
theorem d11_advance_2 : decode m11_advance.2.1 2 = .ok (.getfield 94, 3) := by decide +kernel
theorem d11_advance_5 : decode m11_advance.2.1 5 = .ok (.invokevirtual 97, 3) := by decide +kernel
theorem d11_advance_8 : decode m11_advance.2.1 8 = .ok (.bipush 10, 2) := by decide +kernel
theorem d11_advance_10 : decode m11_advance.2.1 10 = .ok (.if_icmp .eq 16, 3) := by decide +kernel
theorem d11_advance_13 : decode m11_advance.2.1 13 = .ok (.aload_n 0, 1) := by decide +kernel
theorem d11_advance_14 : decode m11_advance.2.1 14 = .ok (.aload_n 0, 1) := by decide +kernel
theorem d11_advance_15 : decode m11_advance.2.1 15 = .ok (.getfield 94, 3) := by decide +kernel
theorem d11_advance_18 : decode m11_advance.2.1 18 = .ok (.invokevirtual 97, 3) := by decide +kernel
theorem d11_advance_21 : decode m11_advance.2.1 21 = .ok (.bipush 32, 2) := by decide +kernel
theorem d11_advance_23 : decode m11_advance.2.1 23 = .ok (.if_icmp .ne 16, 3) := by decide +kernel
theorem d11_advance_26 : decode m11_advance.2.1 26 = .ok (.aload_n 0, 1) := by decide +kernel
theorem d11_advance_27 : decode m11_advance.2.1 27 = .ok (.dup, 1) := by decide +kernel
theorem d11_advance_28 : decode m11_advance.2.1 28 = .ok (.getfield 94, 3) := by decide +kernel
theorem d11_advance_31 : decode m11_advance.2.1 31 = .ok (.iconst 1, 1) := by decide +kernel
theorem d11_advance_32 : decode m11_advance.2.1 32 = .ok (.iadd, 1) := by decide +kernel
theorem d11_advance_33 : decode m11_advance.2.1 33 = .ok (.putfield 94, 3) := by decide +kernel
theorem d11_advance_36 : decode m11_advance.2.1 36 = .ok (.goto (-36), 3) := by decide +kernel
theorem d11_advance_39 : decode m11_advance.2.1 39 = .ok (.aload_n 0, 1) := by decide +kernel
theorem d11_advance_40 : decode m11_advance.2.1 40 = .ok (.aload_n 0, 1) := by decide +kernel
theorem d11_advance_41 : decode m11_advance.2.1 41 = .ok (.getfield 94, 3) := by decide +kernel
theorem d11_advance_44 : decode m11_advance.2.1 44 = .ok (.putfield 101, 3) := by decide +kernel
theorem d11_advance_47 : decode m11_advance.2.1 47 = .ok (.aload_n 0, 1) := by decide +kernel
theorem d11_advance_48 : decode m11_advance.2.1 48 = .ok (.aload_n 0, 1) := by decide +kernel
theorem d11_advance_49 : decode m11_advance.2.1 49 = .ok (.getfield 94, 3) := by decide +kernel
theorem d11_advance_52 : decode m11_advance.2.1 52 = .ok (.invokevirtual 97, 3) := by decide +kernel
theorem d11_advance_55 : decode m11_advance.2.1 55 = .ok (.istore_n 1, 1) := by decide +kernel
theorem d11_advance_56 : decode m11_advance.2.1 56 = .ok (.iload_n 1, 1) := by decide +kernel
theorem d11_advance_57 : decode m11_advance.2.1 57 = .ok (.ifCond .ge 11, 3) := by decide +kernel
theorem d11_advance_60 : decode m11_advance.2.1 60 = .ok (.aload_n 0, 1) := by decide +kernel
theorem d11_advance_61 : decode m11_advance.2.1 61 = .ok (.iconst 0, 1) := by decide +kernel
theorem d11_advance_62 : decode m11_advance.2.1 62 = .ok (.putfield 104, 3) := by decide +kernel
theorem d11_advance_65 : decode m11_advance.2.1 65 = .ok (.goto 246, 3) := by decide +kernel
theorem d11_advance_68 : decode m11_advance.2.1 68 = .ok (.iload_n 1, 1) := by decide +kernel
theorem d11_advance_69 : decode m11_advance.2.1 69 = .ok (.invokestatic 107, 3) := by decide +kernel
theorem d11_advance_72 : decode m11_advance.2.1 72 = .ok (.ifCond .eq 114, 3) := by decide +kernel
theorem d11_advance_75 : decode m11_advance.2.1 75 = .ok (.lconst 0, 1) := by decide +kernel
theorem d11_advance_76 : decode m11_advance.2.1 76 = .ok (.lstore_n 2, 1) := by decide +kernel
theorem d11_advance_77 : decode m11_advance.2.1 77 = .ok (.aload_n 0, 1) := by decide +kernel
theorem d11_advance_78 : decode m11_advance.2.1 78 = .ok (.aload_n 0, 1) := by decide +kernel
theorem d11_advance_79 : decode m11_advance.2.1 79 = .ok (.getfield 94, 3) := by decide +kernel
theorem d11_advance_82 : decode m11_advance.2.1 82 = .ok (.invokevirtual 97, 3) := by decide +kernel
theorem d11_advance_85 : decode m11_advance.2.1 85 = .ok (.invokestatic 107, 3) := by decide +kernel
theorem d11_advance_88 : decode m11_advance.2.1 88 = .ok (.ifCond .eq 50, 3) := by decide +kernel
theorem d11_advance_91 : decode m11_advance.2.1 91 = .ok (.aload_n 0, 1) := by decide +kernel
theorem d11_advance_92 : decode m11_advance.2.1 92 = .ok (.getfield 94, 3) := by decide +kernel
theorem d11_advance_95 : decode m11_advance.2.1 95 = .ok (.aload_n 0, 1) := by decide +kernel
theorem d11_advance_96 : decode m11_advance.2.1 96 = .ok (.getfield 101, 3) := by decide +kernel
theorem d11_advance_99 : decode m11_advance.2.1 99 = .ok (.isub, 1) := by decide +kernel
theorem d11_advance_100 : decode m11_advance.2.1 100 = .ok (.bipush 8, 2) := by decide +kernel
theorem d11_advance_102 : decode m11_advance.2.1 102 = .ok (.if_icmp .ge 23, 3) := by decide +kernel
theorem d11_advance_105 : decode m11_advance.2.1 105 = .ok (.ldc2_w 111, 3) := by decide +kernel
theorem d11_advance_108 : decode m11_advance.2.1 108 = .ok (.lload_n 2, 1) := by decide +kernel
theorem d11_advance_109 : decode m11_advance.2.1 109 = .ok (.lmul, 1) := by decide +kernel
theorem d11_advance_110 : decode m11_advance.2.1 110 = .ok (.aload_n 0, 1) := by decide +kernel
theorem d11_advance_111 : decode m11_advance.2.1 111 = .ok (.aload_n 0, 1) := by decide +kernel
theorem d11_advance_112 : decode m11_advance.2.1 112 = .ok (.getfield 94, 3) := by decide +kernel
theorem d11_advance_115 : decode m11_advance.2.1 115 = .ok (.invokevirtual 97, 3) := by decide +kernel
theorem d11_advance_118 : decode m11_advance.2.1 118 = .ok (.i2l, 1) := by decide +kernel
theorem d11_advance_119 : decode m11_advance.2.1 119 = .ok (.ladd, 1) := by decide +kernel
theorem d11_advance_120 : decode m11_advance.2.1 120 = .ok (.ldc2_w 113, 3) := by decide +kernel
theorem d11_advance_123 : decode m11_advance.2.1 123 = .ok (.lsub, 1) := by decide +kernel
theorem d11_advance_124 : decode m11_advance.2.1 124 = .ok (.lstore_n 2, 1) := by decide +kernel
theorem d11_advance_125 : decode m11_advance.2.1 125 = .ok (.aload_n 0, 1) := by decide +kernel
theorem d11_advance_126 : decode m11_advance.2.1 126 = .ok (.dup, 1) := by decide +kernel
theorem d11_advance_127 : decode m11_advance.2.1 127 = .ok (.getfield 94, 3) := by decide +kernel
theorem d11_advance_130 : decode m11_advance.2.1 130 = .ok (.iconst 1, 1) := by decide +kernel
theorem d11_advance_131 : decode m11_advance.2.1 131 = .ok (.iadd, 1) := by decide +kernel
theorem d11_advance_132 : decode m11_advance.2.1 132 = .ok (.putfield 94, 3) := by decide +kernel
theorem d11_advance_135 : decode m11_advance.2.1 135 = .ok (.goto (-58), 3) := by decide +kernel
theorem d11_advance_138 : decode m11_advance.2.1 138 = .ok (.aload_n 0, 1) := by decide +kernel
theorem d11_advance_139 : decode m11_advance.2.1 139 = .ok (.aload_n 0, 1) := by decide +kernel
theorem d11_advance_140 : decode m11_advance.2.1 140 = .ok (.getfield 94, 3) := by decide +kernel
theorem d11_advance_143 : decode m11_advance.2.1 143 = .ok (.aload_n 0, 1) := by decide +kernel
theorem d11_advance_144 : decode m11_advance.2.1 144 = .ok (.getfield 101, 3) := by decide +kernel
theorem d11_advance_147 : decode m11_advance.2.1 147 = .ok (.isub, 1) := by decide +kernel
theorem d11_advance_148 : decode m11_advance.2.1 148 = .ok (.bipush 8, 2) := by decide +kernel
theorem d11_advance_150 : decode m11_advance.2.1 150 = .ok (.if_icmp .le 8, 3) := by decide +kernel
theorem d11_advance_153 : decode m11_advance.2.1 153 = .ok (.bipush 99, 2) := by decide +kernel
theorem d11_advance_155 : decode m11_advance.2.1 155 = .ok (.goto 7, 3) := by decide +kernel
theorem d11_advance_158 : decode m11_advance.2.1 158 = .ok (.lload_n 2, 1) := by decide +kernel
theorem d11_advance_159 : decode m11_advance.2.1 159 = .ok (.invokestatic 115, 3) := by decide +kernel
theorem d11_advance_162 : decode m11_advance.2.1 162 = .ok (.putfield 119, 3) := by decide +kernel
theorem d11_advance_165 : decode m11_advance.2.1 165 = .ok (.aload_n 0, 1) := by decide +kernel
theorem d11_advance_166 : decode m11_advance.2.1 166 = .ok (.aload_n 0, 1) := by decide +kernel
theorem d11_advance_167 : decode m11_advance.2.1 167 = .ok (.getfield 119, 3) := by decide +kernel
theorem d11_advance_170 : decode m11_advance.2.1 170 = .ok (.bipush 99, 2) := by decide +kernel
theorem d11_advance_172 : decode m11_advance.2.1 172 = .ok (.if_icmp .ne 7, 3) := by decide +kernel
theorem d11_advance_175 : decode m11_advance.2.1 175 = .ok (.iconst 4, 1) := by decide +kernel
theorem d11_advance_176 : decode m11_advance.2.1 176 = .ok (.goto 4, 3) := by decide +kernel
theorem d11_advance_179 : decode m11_advance.2.1 179 = .ok (.iconst 3, 1) := by decide +kernel
theorem d11_advance_180 : decode m11_advance.2.1 180 = .ok (.putfield 104, 3) := by decide +kernel
theorem d11_advance_183 : decode m11_advance.2.1 183 = .ok (.goto 128, 3) := by decide +kernel
theorem d11_advance_186 : decode m11_advance.2.1 186 = .ok (.iload_n 1, 1) := by decide +kernel
theorem d11_advance_187 : decode m11_advance.2.1 187 = .ok (.invokestatic 122, 3) := by decide +kernel
theorem d11_advance_190 : decode m11_advance.2.1 190 = .ok (.ifCond .eq 96, 3) := by decide +kernel
theorem d11_advance_193 : decode m11_advance.2.1 193 = .ok (.aload_n 0, 1) := by decide +kernel
theorem d11_advance_194 : decode m11_advance.2.1 194 = .ok (.iconst 0, 1) := by decide +kernel
theorem d11_advance_195 : decode m11_advance.2.1 195 = .ok (.putfield 125, 3) := by decide +kernel
theorem d11_advance_198 : decode m11_advance.2.1 198 = .ok (.aload_n 0, 1) := by decide +kernel
theorem d11_advance_199 : decode m11_advance.2.1 199 = .ok (.aload_n 0, 1) := by decide +kernel
theorem d11_advance_200 : decode m11_advance.2.1 200 = .ok (.getfield 94, 3) := by decide +kernel
theorem d11_advance_203 : decode m11_advance.2.1 203 = .ok (.invokevirtual 97, 3) := by decide +kernel
theorem d11_advance_206 : decode m11_advance.2.1 206 = .ok (.invokestatic 122, 3) := by decide +kernel
theorem d11_advance_209 : decode m11_advance.2.1 209 = .ok (.ifCond .eq 52, 3) := by decide +kernel
theorem d11_advance_212 : decode m11_advance.2.1 212 = .ok (.aload_n 0, 1) := by decide +kernel
theorem d11_advance_213 : decode m11_advance.2.1 213 = .ok (.getfield 94, 3) := by decide +kernel
theorem d11_advance_216 : decode m11_advance.2.1 216 = .ok (.aload_n 0, 1) := by decide +kernel
theorem d11_advance_217 : decode m11_advance.2.1 217 = .ok (.getfield 101, 3) := by decide +kernel
theorem d11_advance_220 : decode m11_advance.2.1 220 = .ok (.isub, 1) := by decide +kernel
theorem d11_advance_221 : decode m11_advance.2.1 221 = .ok (.iconst 2, 1) := by decide +kernel
theorem d11_advance_222 : decode m11_advance.2.1 222 = .ok (.if_icmp .ge 26, 3) := by decide +kernel
theorem d11_advance_225 : decode m11_advance.2.1 225 = .ok (.aload_n 0, 1) := by decide +kernel
theorem d11_advance_226 : decode m11_advance.2.1 226 = .ok (.bipush 10, 2) := by decide +kernel
theorem d11_advance_228 : decode m11_advance.2.1 228 = .ok (.aload_n 0, 1) := by decide +kernel
theorem d11_advance_229 : decode m11_advance.2.1 229 = .ok (.getfield 125, 3) := by decide +kernel
theorem d11_advance_232 : decode m11_advance.2.1 232 = .ok (.imul, 1) := by decide +kernel
theorem d11_advance_233 : decode m11_advance.2.1 233 = .ok (.aload_n 0, 1) := by decide +kernel
theorem d11_advance_234 : decode m11_advance.2.1 234 = .ok (.aload_n 0, 1) := by decide +kernel
theorem d11_advance_235 : decode m11_advance.2.1 235 = .ok (.getfield 94, 3) := by decide +kernel
theorem d11_advance_238 : decode m11_advance.2.1 238 = .ok (.invokevirtual 97, 3) := by decide +kernel
theorem d11_advance_241 : decode m11_advance.2.1 241 = .ok (.iadd, 1) := by decide +kernel
theorem d11_advance_242 : decode m11_advance.2.1 242 = .ok (.bipush 48, 2) := by decide +kernel
theorem d11_advance_244 : decode m11_advance.2.1 244 = .ok (.isub, 1) := by decide +kernel
theorem d11_advance_245 : decode m11_advance.2.1 245 = .ok (.putfield 125, 3) := by decide +kernel
theorem d11_advance_248 : decode m11_advance.2.1 248 = .ok (.aload_n 0, 1) := by decide +kernel
theorem d11_advance_249 : decode m11_advance.2.1 249 = .ok (.dup, 1) := by decide +kernel
theorem d11_advance_250 : decode m11_advance.2.1 250 = .ok (.getfield 94, 3) := by decide +kernel
theorem d11_advance_253 : decode m11_advance.2.1 253 = .ok (.iconst 1, 1) := by decide +kernel
theorem d11_advance_254 : decode m11_advance.2.1 254 = .ok (.iadd, 1) := by decide +kernel
theorem d11_advance_255 : decode m11_advance.2.1 255 = .ok (.putfield 94, 3) := by decide +kernel
theorem d11_advance_258 : decode m11_advance.2.1 258 = .ok (.goto (-60), 3) := by decide +kernel
theorem d11_advance_261 : decode m11_advance.2.1 261 = .ok (.aload_n 0, 1) := by decide +kernel
theorem d11_advance_262 : decode m11_advance.2.1 262 = .ok (.aload_n 0, 1) := by decide +kernel
theorem d11_advance_263 : decode m11_advance.2.1 263 = .ok (.getfield 94, 3) := by decide +kernel
theorem d11_advance_266 : decode m11_advance.2.1 266 = .ok (.aload_n 0, 1) := by decide +kernel
theorem d11_advance_267 : decode m11_advance.2.1 267 = .ok (.getfield 101, 3) := by decide +kernel
theorem d11_advance_270 : decode m11_advance.2.1 270 = .ok (.isub, 1) := by decide +kernel
theorem d11_advance_271 : decode m11_advance.2.1 271 = .ok (.iconst 2, 1) := by decide +kernel
theorem d11_advance_272 : decode m11_advance.2.1 272 = .ok (.if_icmp .le 7, 3) := by decide +kernel
theorem d11_advance_275 : decode m11_advance.2.1 275 = .ok (.iconst 4, 1) := by decide +kernel
theorem d11_advance_276 : decode m11_advance.2.1 276 = .ok (.goto 4, 3) := by decide +kernel
theorem d11_advance_279 : decode m11_advance.2.1 279 = .ok (.iconst 1, 1) := by decide +kernel
theorem d11_advance_280 : decode m11_advance.2.1 280 = .ok (.putfield 104, 3) := by decide +kernel
theorem d11_advance_283 : decode m11_advance.2.1 283 = .ok (.goto 28, 3) := by decide +kernel
theorem d11_advance_286 : decode m11_advance.2.1 286 = .ok (.aload_n 0, 1) := by decide +kernel
theorem d11_advance_287 : decode m11_advance.2.1 287 = .ok (.dup, 1) := by decide +kernel
theorem d11_advance_288 : decode m11_advance.2.1 288 = .ok (.getfield 94, 3) := by decide +kernel
theorem d11_advance_291 : decode m11_advance.2.1 291 = .ok (.iconst 1, 1) := by decide +kernel
theorem d11_advance_292 : decode m11_advance.2.1 292 = .ok (.iadd, 1) := by decide +kernel
theorem d11_advance_293 : decode m11_advance.2.1 293 = .ok (.putfield 94, 3) := by decide +kernel
theorem d11_advance_296 : decode m11_advance.2.1 296 = .ok (.aload_n 0, 1) := by decide +kernel
theorem d11_advance_297 : decode m11_advance.2.1 297 = .ok (.iload_n 1, 1) := by decide +kernel
theorem d11_advance_298 : decode m11_advance.2.1 298 = .ok (.bipush 59, 2) := by decide +kernel
theorem d11_advance_300 : decode m11_advance.2.1 300 = .ok (.if_icmp .ne 7, 3) := by decide +kernel
theorem d11_advance_303 : decode m11_advance.2.1 303 = .ok (.iconst 2, 1) := by decide +kernel
theorem d11_advance_304 : decode m11_advance.2.1 304 = .ok (.goto 4, 3) := by decide +kernel
theorem d11_advance_307 : decode m11_advance.2.1 307 = .ok (.iconst 4, 1) := by decide +kernel
theorem d11_advance_308 : decode m11_advance.2.1 308 = .ok (.putfield 104, 3) := by decide +kernel
theorem d11_advance_311 : decode m11_advance.2.1 311 = .ok (.return_, 1) := by decide +kernel
def b11_advance_26 (rec0 : AH → Option (Int × AH)) (h : AH) : Option (Int × AH) :=
  lt (wr h 69 3 ((h.2 69 3) + 1)) fun h1 =>
  rec0 h1
set_option maxRecDepth 100000 in
theorem t11_advance_26 (l : Launch) (G : Geo) (d : Nat) (hd : 5 ≤ d) (rec0 : AH → Option (Int × AH)) (H0 : ∀ (h : AH), Den l G m11_advance rvV d 0 [some (vA G 69), none, none, none] [] h (rec0 h)) (h : AH) : Den l G m11_advance rvV d 26 [some (vA G 69), none, none, none] [] h (b11_advance_26 rec0 h) := by
  unfold b11_advance_26
  refine den_aload_n (pc := 26) d11_advance_26 rfl rfl ?_
  refine den_dup (pc := 27) d11_advance_27 rfl ?_
  refine den_getI (pc := 28) fa_11_94 (ok_69 _) d11_advance_28 ?_
  refine den_iconst (pc := 31) d11_advance_31 ?_
  refine den_iadd (pc := 32) d11_advance_32 ?_
  refine den_putI (pc := 33) fp_11_94 (ok_69 _) d11_advance_33 ?_
  refine den_ltH (fun h1 m2 => ?_)
  refine den_goto (pc := 36) (tgt := 0) d11_advance_36 (by decide) ?_
  exact H0 h1
def b11_advance_125 (rec77 : Int × AH → Option (Int × AH)) (x2 : Int) (h : AH) : Option (Int × AH) :=
  lt (wr h 69 3 ((h.2 69 3) + 1)) fun h3 =>
  rec77 (x2, h3)
set_option maxRecDepth 100000 in
theorem t11_advance_125 (l : Launch) (G : Geo) (d : Nat) (hd : 5 ≤ d) (x2 : Int) (rec77 : Int × AH → Option (Int × AH)) (H77 : ∀ (x2 : Int) (h : AH), Den l G m11_advance rvV d 77 [some (vA G 69), none, some (vJ x2), none] [] h (rec77 (x2, h))) (h : AH) : Den l G m11_advance rvV d 125 [some (vA G 69), none, some (vJ x2), none] [] h (b11_advance_125 rec77 x2 h) := by
  unfold b11_advance_125
  refine den_aload_n (pc := 125) d11_advance_125 rfl rfl ?_
  refine den_dup (pc := 126) d11_advance_126 rfl ?_
  refine den_getI (pc := 127) fa_11_94 (ok_69 _) d11_advance_127 ?_
  refine den_iconst (pc := 130) d11_advance_130 ?_
  refine den_iadd (pc := 131) d11_advance_131 ?_
  refine den_putI (pc := 132) fp_11_94 (ok_69 _) d11_advance_132 ?_
  refine den_ltH (fun h3 m4 => ?_)
  refine den_goto (pc := 135) (tgt := 77) d11_advance_135 (by decide) ?_
  exact H77 x2 h3
def b11_advance_162 (s0 : Int) (h : AH) : Option (Int × AH) :=
  lt (wr h 69 7 s0) fun h5 =>
  if ¬ w32 (h5.2 69 7) = 99 then
    lt (wr h5 69 5 3) fun h7 =>
    some (0, h7)
  else
    lt (wr h5 69 5 4) fun h9 =>
    some (0, h9)
set_option maxRecDepth 100000 in
theorem t11_advance_162 (l : Launch) (G : Geo) (d : Nat) (hd : 5 ≤ d) (s0 : Int) (h : AH) : Den l G m11_advance rvV d 162 [some (vA G 69), none, none, none] [vI s0, vA G 69] h (b11_advance_162 s0 h) := by
  unfold b11_advance_162
  refine den_putI (pc := 162) fp_11_119 (ok_69 _) d11_advance_162 ?_
  refine den_ltH (fun h5 m6 => ?_)
  refine den_aload_n (pc := 165) d11_advance_165 rfl rfl ?_
  refine den_aload_n (pc := 166) d11_advance_166 rfl rfl ?_
  refine den_getI (pc := 167) fa_11_119 (ok_69 _) d11_advance_167 ?_
  refine den_bipush (pc := 170) d11_advance_170 (by decide) ?_
  refine den_icmp_ne (pc := 172) (tgt := 179) d11_advance_172 (by decide) rfl (by decide) (fun _ => ?_) (fun _ => ?_)
  · refine den_iconst (pc := 179) d11_advance_179 ?_
    refine den_putI (pc := 180) fp_11_104 (ok_69 _) d11_advance_180 ?_
    refine den_ltH (fun h7 m8 => ?_)
    refine den_goto (pc := 183) (tgt := 311) d11_advance_183 (by decide) ?_
    exact den_vret (pc := 311) rfl d11_advance_311
  · refine den_iconst (pc := 175) d11_advance_175 ?_
    refine den_goto (pc := 176) (tgt := 180) d11_advance_176 (by decide) ?_
    refine den_putI (pc := 180) fp_11_104 (ok_69 _) d11_advance_180 ?_
    refine den_ltH (fun h9 m10 => ?_)
    refine den_goto (pc := 183) (tgt := 311) d11_advance_183 (by decide) ?_
    exact den_vret (pc := 311) rfl d11_advance_311
def b11_advance_77 (rec77 : Int × AH → Option (Int × AH)) (x2 : Int) (h : AH) : Option (Int × AH) :=
  bnd (f11_byteAt (h.2 69 3) h) fun r11 h12 =>
  bnd (f11_isLetter r11 h12) fun r15 h16 =>
  if w32 r15 = 0 then
    if w32 ((h16.2 69 3) - (h16.2 69 4)) ≤ 8 then
      bnd (f11_wordOf x2 h16) fun r19 h20 =>
      b11_advance_162 r19 h20
    else
      b11_advance_162 99 h16
  else
    if 8 ≤ w32 ((h16.2 69 3) - (h16.2 69 4)) then
      b11_advance_125 rec77 x2 h16
    else
      bnd (f11_byteAt (h16.2 69 3) h16) fun r23 h24 =>
      lt (((32 * x2) + (w32 r23)) - 96) fun u27 =>
      b11_advance_125 rec77 u27 h24
set_option maxRecDepth 100000 in
theorem t11_advance_77 (l : Launch) (G : Geo) (d : Nat) (hd : 5 ≤ d) (x2 : Int) (rec77 : Int × AH → Option (Int × AH)) (H77 : ∀ (x2 : Int) (h : AH), Den l G m11_advance rvV d 77 [some (vA G 69), none, some (vJ x2), none] [] h (rec77 (x2, h))) (h : AH) : Den l G m11_advance rvV d 77 [some (vA G 69), none, some (vJ x2), none] [] h (b11_advance_77 rec77 x2 h) := by
  unfold b11_advance_77
  refine den_aload_n (pc := 77) d11_advance_77 rfl rfl ?_
  refine den_aload_n (pc := 78) d11_advance_78 rfl rfl ?_
  refine den_getI (pc := 79) fa_11_94 (ok_69 _) d11_advance_79 ?_
  refine den_callVI (pc := 82) (As := [vI (h.2 69 3)]) fv_11_97 rfl rfl (ok_69 _) (Nat.le_of_ble_eq_true rfl) (Nat.le_trans (by decide) hd) d11_advance_82 (c11_byteAt l G (h.2 69 3) h) (fun r11 h12 m13 o14 => ?_)
  refine den_callSI (pc := 85) (As := [vI r11]) fs_11_107 rfl rfl (Nat.le_of_ble_eq_true rfl) (Nat.le_trans (by decide) hd) d11_advance_85 (c11_isLetter l G r11 h12) (fun r15 h16 m17 o18 => ?_)
  refine den_if_eq (pc := 88) (tgt := 138) d11_advance_88 (by decide) rfl (fun _ => ?_) (fun _ => ?_)
  · refine den_aload_n (pc := 138) d11_advance_138 rfl rfl ?_
    refine den_aload_n (pc := 139) d11_advance_139 rfl rfl ?_
    refine den_getI (pc := 140) fa_11_94 (ok_69 _) d11_advance_140 ?_
    refine den_aload_n (pc := 143) d11_advance_143 rfl rfl ?_
    refine den_getI (pc := 144) fa_11_101 (ok_69 _) d11_advance_144 ?_
    refine den_isub (pc := 147) d11_advance_147 ?_
    refine den_bipush (pc := 148) d11_advance_148 (by decide) ?_
    refine den_icmp_le (pc := 150) (tgt := 158) d11_advance_150 (by decide) rfl (by decide) (fun _ => ?_) (fun _ => ?_)
    · refine den_lload_n (pc := 158) d11_advance_158 rfl rfl ?_
      refine den_callSI (pc := 159) (As := [vJ x2]) fs_11_115 rfl rfl (Nat.le_of_ble_eq_true rfl) (Nat.le_trans (by decide) hd) d11_advance_159 (c11_wordOf l G x2 h16) (fun r19 h20 m21 o22 => ?_)
      refine den_wk [true, true, false, true] rfl ?_
      exact t11_advance_162 l G _ hd r19 h20
    · refine den_bipush (pc := 153) d11_advance_153 (by decide) ?_
      refine den_goto (pc := 155) (tgt := 162) d11_advance_155 (by decide) ?_
      refine den_wk [true, true, false, true] rfl ?_
      exact t11_advance_162 l G _ hd 99 h16
  · refine den_aload_n (pc := 91) d11_advance_91 rfl rfl ?_
    refine den_getI (pc := 92) fa_11_94 (ok_69 _) d11_advance_92 ?_
    refine den_aload_n (pc := 95) d11_advance_95 rfl rfl ?_
    refine den_getI (pc := 96) fa_11_101 (ok_69 _) d11_advance_96 ?_
    refine den_isub (pc := 99) d11_advance_99 ?_
    refine den_bipush (pc := 100) d11_advance_100 (by decide) ?_
    refine den_icmp_ge (pc := 102) (tgt := 125) d11_advance_102 (by decide) rfl (by decide) (fun _ => ?_) (fun _ => ?_)
    · exact t11_advance_125 l G _ hd x2 rec77 H77 h16
    · refine den_ldc2 (pc := 105) kl_11_111 d11_advance_105 ?_
      refine den_lload_n (pc := 108) d11_advance_108 rfl rfl ?_
      refine den_lmul (pc := 109) d11_advance_109 ?_
      refine den_aload_n (pc := 110) d11_advance_110 rfl rfl ?_
      refine den_aload_n (pc := 111) d11_advance_111 rfl rfl ?_
      refine den_getI (pc := 112) fa_11_94 (ok_69 _) d11_advance_112 ?_
      refine den_callVI (pc := 115) (As := [vI (h16.2 69 3)]) fv_11_97 rfl rfl (ok_69 _) (Nat.le_of_ble_eq_true rfl) (Nat.le_trans (by decide) hd) d11_advance_115 (c11_byteAt l G (h16.2 69 3) h16) (fun r23 h24 m25 o26 => ?_)
      refine den_i2l (pc := 118) d11_advance_118 ?_
      refine den_ladd (pc := 119) d11_advance_119 ?_
      refine den_ldc2 (pc := 120) kl_11_113 d11_advance_120 ?_
      refine den_lsub (pc := 123) d11_advance_123 ?_
      refine den_lstore_nL (pc := 124) (L2 := fun y => [some (vA G 69), none, some (vJ y), none]) d11_advance_124 rfl (by decide) (fun _ => rfl) (fun u27 => ?_)
      exact t11_advance_125 l G _ hd u27 rec77 H77 h24
def l11_advance_77 (x2 : Int) (h : AH) : Option (Int × AH) := fx (fun rec z => b11_advance_77 rec z.1 z.2) FU (x2, h)
set_option maxRecDepth 100000 in
theorem tl11_advance_77 (l : Launch) (G : Geo) (d : Nat) (hd : 5 ≤ d) : ∀ (n : Nat) (z : Int × AH), True → Den l G m11_advance rvV d 77 [some (vA G 69), none, some (vJ z.1), none] [] z.2 (fx (fun rec z => b11_advance_77 rec z.1 z.2) n z) :=
  den_fx (F := fun rec z => b11_advance_77 rec z.1 z.2) (P := fun z => True) (fL := fun z => [some (vA G 69), none, some (vJ z.1), none]) (fs := fun z => []) (fh := fun z => z.2) (fun rec hrec z hz => t11_advance_77 l G d hd z.1 rec (fun x2 h => hrec (x2, h) trivial) z.2 )
def b11_advance_248 (rec198 : AH → Option (Int × AH)) (h : AH) : Option (Int × AH) :=
  lt (wr h 69 3 ((h.2 69 3) + 1)) fun h28 =>
  rec198 h28
set_option maxRecDepth 100000 in
theorem t11_advance_248 (l : Launch) (G : Geo) (d : Nat) (hd : 5 ≤ d) (rec198 : AH → Option (Int × AH)) (H198 : ∀ (h : AH), Den l G m11_advance rvV d 198 [some (vA G 69), none, none, none] [] h (rec198 h)) (h : AH) : Den l G m11_advance rvV d 248 [some (vA G 69), none, none, none] [] h (b11_advance_248 rec198 h) := by
  unfold b11_advance_248
  refine den_aload_n (pc := 248) d11_advance_248 rfl rfl ?_
  refine den_dup (pc := 249) d11_advance_249 rfl ?_
  refine den_getI (pc := 250) fa_11_94 (ok_69 _) d11_advance_250 ?_
  refine den_iconst (pc := 253) d11_advance_253 ?_
  refine den_iadd (pc := 254) d11_advance_254 ?_
  refine den_putI (pc := 255) fp_11_94 (ok_69 _) d11_advance_255 ?_
  refine den_ltH (fun h28 m29 => ?_)
  refine den_goto (pc := 258) (tgt := 198) d11_advance_258 (by decide) ?_
  exact H198 h28
def b11_advance_198 (rec198 : AH → Option (Int × AH)) (h : AH) : Option (Int × AH) :=
  bnd (f11_byteAt (h.2 69 3) h) fun r30 h31 =>
  bnd (f11_isDigit r30 h31) fun r34 h35 =>
  if w32 r34 = 0 then
    if w32 ((h35.2 69 3) - (h35.2 69 4)) ≤ 2 then
      lt (wr h35 69 5 1) fun h38 =>
      some (0, h38)
    else
      lt (wr h35 69 5 4) fun h40 =>
      some (0, h40)
  else
    if 2 ≤ w32 ((h35.2 69 3) - (h35.2 69 4)) then
      b11_advance_248 rec198 h35
    else
      bnd (f11_byteAt (h35.2 69 3) h35) fun r42 h43 =>
      lt (wr h43 69 6 (((10 * (h35.2 69 6)) + r42) - 48)) fun h46 =>
      b11_advance_248 rec198 h46
set_option maxRecDepth 100000 in
theorem t11_advance_198 (l : Launch) (G : Geo) (d : Nat) (hd : 5 ≤ d) (rec198 : AH → Option (Int × AH)) (H198 : ∀ (h : AH), Den l G m11_advance rvV d 198 [some (vA G 69), none, none, none] [] h (rec198 h)) (h : AH) : Den l G m11_advance rvV d 198 [some (vA G 69), none, none, none] [] h (b11_advance_198 rec198 h) := by
  unfold b11_advance_198
  refine den_aload_n (pc := 198) d11_advance_198 rfl rfl ?_
  refine den_aload_n (pc := 199) d11_advance_199 rfl rfl ?_
  refine den_getI (pc := 200) fa_11_94 (ok_69 _) d11_advance_200 ?_
  refine den_callVI (pc := 203) (As := [vI (h.2 69 3)]) fv_11_97 rfl rfl (ok_69 _) (Nat.le_of_ble_eq_true rfl) (Nat.le_trans (by decide) hd) d11_advance_203 (c11_byteAt l G (h.2 69 3) h) (fun r30 h31 m32 o33 => ?_)
  refine den_callSI (pc := 206) (As := [vI r30]) fs_11_122 rfl rfl (Nat.le_of_ble_eq_true rfl) (Nat.le_trans (by decide) hd) d11_advance_206 (c11_isDigit l G r30 h31) (fun r34 h35 m36 o37 => ?_)
  refine den_if_eq (pc := 209) (tgt := 261) d11_advance_209 (by decide) rfl (fun _ => ?_) (fun _ => ?_)
  · refine den_aload_n (pc := 261) d11_advance_261 rfl rfl ?_
    refine den_aload_n (pc := 262) d11_advance_262 rfl rfl ?_
    refine den_getI (pc := 263) fa_11_94 (ok_69 _) d11_advance_263 ?_
    refine den_aload_n (pc := 266) d11_advance_266 rfl rfl ?_
    refine den_getI (pc := 267) fa_11_101 (ok_69 _) d11_advance_267 ?_
    refine den_isub (pc := 270) d11_advance_270 ?_
    refine den_iconst (pc := 271) d11_advance_271 ?_
    refine den_icmp_le (pc := 272) (tgt := 279) d11_advance_272 (by decide) rfl (by decide) (fun _ => ?_) (fun _ => ?_)
    · refine den_iconst (pc := 279) d11_advance_279 ?_
      refine den_putI (pc := 280) fp_11_104 (ok_69 _) d11_advance_280 ?_
      refine den_ltH (fun h38 m39 => ?_)
      refine den_goto (pc := 283) (tgt := 311) d11_advance_283 (by decide) ?_
      exact den_vret (pc := 311) rfl d11_advance_311
    · refine den_iconst (pc := 275) d11_advance_275 ?_
      refine den_goto (pc := 276) (tgt := 280) d11_advance_276 (by decide) ?_
      refine den_putI (pc := 280) fp_11_104 (ok_69 _) d11_advance_280 ?_
      refine den_ltH (fun h40 m41 => ?_)
      refine den_goto (pc := 283) (tgt := 311) d11_advance_283 (by decide) ?_
      exact den_vret (pc := 311) rfl d11_advance_311
  · refine den_aload_n (pc := 212) d11_advance_212 rfl rfl ?_
    refine den_getI (pc := 213) fa_11_94 (ok_69 _) d11_advance_213 ?_
    refine den_aload_n (pc := 216) d11_advance_216 rfl rfl ?_
    refine den_getI (pc := 217) fa_11_101 (ok_69 _) d11_advance_217 ?_
    refine den_isub (pc := 220) d11_advance_220 ?_
    refine den_iconst (pc := 221) d11_advance_221 ?_
    refine den_icmp_ge (pc := 222) (tgt := 248) d11_advance_222 (by decide) rfl (by decide) (fun _ => ?_) (fun _ => ?_)
    · exact t11_advance_248 l G _ hd rec198 H198 h35
    · refine den_aload_n (pc := 225) d11_advance_225 rfl rfl ?_
      refine den_bipush (pc := 226) d11_advance_226 (by decide) ?_
      refine den_aload_n (pc := 228) d11_advance_228 rfl rfl ?_
      refine den_getI (pc := 229) fa_11_125 (ok_69 _) d11_advance_229 ?_
      refine den_imul (pc := 232) d11_advance_232 ?_
      refine den_aload_n (pc := 233) d11_advance_233 rfl rfl ?_
      refine den_aload_n (pc := 234) d11_advance_234 rfl rfl ?_
      refine den_getI (pc := 235) fa_11_94 (ok_69 _) d11_advance_235 ?_
      refine den_callVI (pc := 238) (As := [vI (h35.2 69 3)]) fv_11_97 rfl rfl (ok_69 _) (Nat.le_of_ble_eq_true rfl) (Nat.le_trans (by decide) hd) d11_advance_238 (c11_byteAt l G (h35.2 69 3) h35) (fun r42 h43 m44 o45 => ?_)
      refine den_iadd (pc := 241) d11_advance_241 ?_
      refine den_bipush (pc := 242) d11_advance_242 (by decide) ?_
      refine den_isub (pc := 244) d11_advance_244 ?_
      refine den_putI (pc := 245) fp_11_125 (ok_69 _) d11_advance_245 ?_
      refine den_ltH (fun h46 m47 => ?_)
      exact t11_advance_248 l G _ hd rec198 H198 h46
def l11_advance_198 (h : AH) : Option (Int × AH) := fx (fun rec z => b11_advance_198 rec z) FU h
set_option maxRecDepth 100000 in
theorem tl11_advance_198 (l : Launch) (G : Geo) (d : Nat) (hd : 5 ≤ d) : ∀ (n : Nat) (z : AH), True → Den l G m11_advance rvV d 198 [some (vA G 69), none, none, none] [] z (fx (fun rec z => b11_advance_198 rec z) n z) :=
  den_fx (F := fun rec z => b11_advance_198 rec z) (P := fun z => True) (fL := fun z => [some (vA G 69), none, none, none]) (fs := fun z => []) (fh := fun z => z) (fun rec hrec z hz => t11_advance_198 l G d hd  rec (fun h => hrec h trivial) z )
def b11_advance_0 (rec0 : AH → Option (Int × AH)) (h : AH) : Option (Int × AH) :=
  bnd (f11_byteAt (h.2 69 3) h) fun r48 h49 =>
  if w32 r48 = 10 then
    b11_advance_26 rec0 h49
  else
    bnd (f11_byteAt (h49.2 69 3) h49) fun r52 h53 =>
    if ¬ w32 r52 = 32 then
      lt (wr h53 69 4 (h53.2 69 3)) fun h56 =>
      bnd (f11_byteAt (h56.2 69 3) h56) fun r58 h59 =>
      if 0 ≤ w32 r58 then
        bnd (f11_isLetter r58 h59) fun r62 h63 =>
        if w32 r62 = 0 then
          bnd (f11_isDigit r58 h63) fun r66 h67 =>
          if w32 r66 = 0 then
            lt (wr h67 69 3 ((h67.2 69 3) + 1)) fun h70 =>
            if ¬ w32 r58 = 59 then
              lt (wr h70 69 5 4) fun h72 =>
              some (0, h72)
            else
              lt (wr h70 69 5 2) fun h74 =>
              some (0, h74)
          else
            lt (wr h67 69 6 0) fun h76 =>
            l11_advance_198 h76
        else
          l11_advance_77 0 h63
      else
        lt (wr h59 69 5 0) fun h78 =>
        some (0, h78)
    else
      b11_advance_26 rec0 h53
set_option maxRecDepth 100000 in
theorem t11_advance_0 (l : Launch) (G : Geo) (d : Nat) (hd : 5 ≤ d) (rec0 : AH → Option (Int × AH)) (H0 : ∀ (h : AH), Den l G m11_advance rvV d 0 [some (vA G 69), none, none, none] [] h (rec0 h)) (h : AH) : Den l G m11_advance rvV d 0 [some (vA G 69), none, none, none] [] h (b11_advance_0 rec0 h) := by
  unfold b11_advance_0
  refine den_aload_n (pc := 0) d11_advance_0 rfl rfl ?_
  refine den_aload_n (pc := 1) d11_advance_1 rfl rfl ?_
  refine den_getI (pc := 2) fa_11_94 (ok_69 _) d11_advance_2 ?_
  refine den_callVI (pc := 5) (As := [vI (h.2 69 3)]) fv_11_97 rfl rfl (ok_69 _) (Nat.le_of_ble_eq_true rfl) (Nat.le_trans (by decide) hd) d11_advance_5 (c11_byteAt l G (h.2 69 3) h) (fun r48 h49 m50 o51 => ?_)
  refine den_bipush (pc := 8) d11_advance_8 (by decide) ?_
  refine den_icmp_eq (pc := 10) (tgt := 26) d11_advance_10 (by decide) rfl (by decide) (fun _ => ?_) (fun _ => ?_)
  · exact t11_advance_26 l G _ hd rec0 H0 h49
  · refine den_aload_n (pc := 13) d11_advance_13 rfl rfl ?_
    refine den_aload_n (pc := 14) d11_advance_14 rfl rfl ?_
    refine den_getI (pc := 15) fa_11_94 (ok_69 _) d11_advance_15 ?_
    refine den_callVI (pc := 18) (As := [vI (h49.2 69 3)]) fv_11_97 rfl rfl (ok_69 _) (Nat.le_of_ble_eq_true rfl) (Nat.le_trans (by decide) hd) d11_advance_18 (c11_byteAt l G (h49.2 69 3) h49) (fun r52 h53 m54 o55 => ?_)
    refine den_bipush (pc := 21) d11_advance_21 (by decide) ?_
    refine den_icmp_ne (pc := 23) (tgt := 39) d11_advance_23 (by decide) rfl (by decide) (fun _ => ?_) (fun _ => ?_)
    · refine den_aload_n (pc := 39) d11_advance_39 rfl rfl ?_
      refine den_aload_n (pc := 40) d11_advance_40 rfl rfl ?_
      refine den_getI (pc := 41) fa_11_94 (ok_69 _) d11_advance_41 ?_
      refine den_putI (pc := 44) fp_11_101 (ok_69 _) d11_advance_44 ?_
      refine den_ltH (fun h56 m57 => ?_)
      refine den_aload_n (pc := 47) d11_advance_47 rfl rfl ?_
      refine den_aload_n (pc := 48) d11_advance_48 rfl rfl ?_
      refine den_getI (pc := 49) fa_11_94 (ok_69 _) d11_advance_49 ?_
      refine den_callVI (pc := 52) (As := [vI (h56.2 69 3)]) fv_11_97 rfl rfl (ok_69 _) (Nat.le_of_ble_eq_true rfl) (Nat.le_trans (by decide) hd) d11_advance_52 (c11_byteAt l G (h56.2 69 3) h56) (fun r58 h59 m60 o61 => ?_)
      refine den_istore_n (pc := 55) (L2 := [some (vA G 69), some (vI r58), none, none]) d11_advance_55 rfl (by decide) rfl ?_
      refine den_iload_n (pc := 56) d11_advance_56 rfl rfl ?_
      refine den_if_ge (pc := 57) (tgt := 68) d11_advance_57 (by decide) rfl (fun _ => ?_) (fun _ => ?_)
      · refine den_iload_n (pc := 68) d11_advance_68 rfl rfl ?_
        refine den_callSI (pc := 69) (As := [vI r58]) fs_11_107 rfl rfl (Nat.le_of_ble_eq_true rfl) (Nat.le_trans (by decide) hd) d11_advance_69 (c11_isLetter l G r58 h59) (fun r62 h63 m64 o65 => ?_)
        refine den_if_eq (pc := 72) (tgt := 186) d11_advance_72 (by decide) rfl (fun _ => ?_) (fun _ => ?_)
        · refine den_iload_n (pc := 186) d11_advance_186 rfl rfl ?_
          refine den_callSI (pc := 187) (As := [vI r58]) fs_11_122 rfl rfl (Nat.le_of_ble_eq_true rfl) (Nat.le_trans (by decide) hd) d11_advance_187 (c11_isDigit l G r58 h63) (fun r66 h67 m68 o69 => ?_)
          refine den_if_eq (pc := 190) (tgt := 286) d11_advance_190 (by decide) rfl (fun _ => ?_) (fun _ => ?_)
          · refine den_aload_n (pc := 286) d11_advance_286 rfl rfl ?_
            refine den_dup (pc := 287) d11_advance_287 rfl ?_
            refine den_getI (pc := 288) fa_11_94 (ok_69 _) d11_advance_288 ?_
            refine den_iconst (pc := 291) d11_advance_291 ?_
            refine den_iadd (pc := 292) d11_advance_292 ?_
            refine den_putI (pc := 293) fp_11_94 (ok_69 _) d11_advance_293 ?_
            refine den_ltH (fun h70 m71 => ?_)
            refine den_aload_n (pc := 296) d11_advance_296 rfl rfl ?_
            refine den_iload_n (pc := 297) d11_advance_297 rfl rfl ?_
            refine den_bipush (pc := 298) d11_advance_298 (by decide) ?_
            refine den_icmp_ne (pc := 300) (tgt := 307) d11_advance_300 (by decide) rfl (by decide) (fun _ => ?_) (fun _ => ?_)
            · refine den_iconst (pc := 307) d11_advance_307 ?_
              refine den_putI (pc := 308) fp_11_104 (ok_69 _) d11_advance_308 ?_
              refine den_ltH (fun h72 m73 => ?_)
              exact den_vret (pc := 311) rfl d11_advance_311
            · refine den_iconst (pc := 303) d11_advance_303 ?_
              refine den_goto (pc := 304) (tgt := 308) d11_advance_304 (by decide) ?_
              refine den_putI (pc := 308) fp_11_104 (ok_69 _) d11_advance_308 ?_
              refine den_ltH (fun h74 m75 => ?_)
              exact den_vret (pc := 311) rfl d11_advance_311
          · refine den_aload_n (pc := 193) d11_advance_193 rfl rfl ?_
            refine den_iconst (pc := 194) d11_advance_194 ?_
            refine den_putI (pc := 195) fp_11_125 (ok_69 _) d11_advance_195 ?_
            refine den_ltH (fun h76 m77 => ?_)
            refine den_wk [true, false, true, true] rfl ?_
            exact tl11_advance_198 l G _ hd FU h76 trivial
        · refine den_lconst (pc := 75) (x := 0) d11_advance_75 (by decide) ?_
          refine den_lstore_n (pc := 76) (L2 := [some (vA G 69), some (vI r58), some (vJ 0), none]) d11_advance_76 rfl (by decide) rfl ?_
          refine den_wk [true, false, true, true] rfl ?_
          exact tl11_advance_77 l G _ hd FU (0, h63) trivial
      · refine den_aload_n (pc := 60) d11_advance_60 rfl rfl ?_
        refine den_iconst (pc := 61) d11_advance_61 ?_
        refine den_putI (pc := 62) fp_11_104 (ok_69 _) d11_advance_62 ?_
        refine den_ltH (fun h78 m79 => ?_)
        refine den_goto (pc := 65) (tgt := 311) d11_advance_65 (by decide) ?_
        exact den_vret (pc := 311) rfl d11_advance_311
    · exact t11_advance_26 l G _ hd rec0 H0 h53
def l11_advance_0 (h : AH) : Option (Int × AH) := fx (fun rec z => b11_advance_0 rec z) FU h
set_option maxRecDepth 100000 in
theorem tl11_advance_0 (l : Launch) (G : Geo) (d : Nat) (hd : 5 ≤ d) : ∀ (n : Nat) (z : AH), True → Den l G m11_advance rvV d 0 [some (vA G 69), none, none, none] [] z (fx (fun rec z => b11_advance_0 rec z) n z) :=
  den_fx (F := fun rec z => b11_advance_0 rec z) (P := fun z => True) (fL := fun z => [some (vA G 69), none, none, none]) (fs := fun z => []) (fh := fun z => z) (fun rec hrec z hz => t11_advance_0 l G d hd  rec (fun h => hrec h trivial) z )
def f11_advance (h : AH) : Option (Int × AH) :=
  l11_advance_0 h
set_option maxRecDepth 100000 in
theorem c11_advance (l : Launch) (G : Geo) (h : AH) : Con l G m11_advance rvV 5 [vA G 69] h (f11_advance  h) := by
  have hd : 5 ≤ 5 := Nat.le_refl _
  refine con_V rfl (by decide) rfl rfl (Nat.le_of_ble_eq_true rfl) (L := [some (vA G 69), none, none, none]) ?_
  unfold f11_advance
  exact tl11_advance_0 l G _ hd FU h trivial
theorem d11_ends_0 : decode m11_ends.2.1 0 = .ok (.aload_n 0, 1) := by decide +kernel
theorem d11_ends_1 : decode m11_ends.2.1 1 = .ok (.getfield 128, 3) := by decide +kernel
theorem d11_ends_4 : decode m11_ends.2.1 4 = .ok (.ifCond .eq 4, 3) := by decide +kernel
theorem d11_ends_7 : decode m11_ends.2.1 7 = .ok (.return_, 1) := by decide +kernel
theorem d11_ends_8 : decode m11_ends.2.1 8 = .ok (.aload_n 0, 1) := by decide +kernel
theorem d11_ends_9 : decode m11_ends.2.1 9 = .ok (.iconst 1, 1) := by decide +kernel
theorem d11_ends_10 : decode m11_ends.2.1 10 = .ok (.putfield 128, 3) := by decide +kernel
theorem d11_ends_13 : decode m11_ends.2.1 13 = .ok (.aload_n 0, 1) := by decide +kernel
theorem d11_ends_14 : decode m11_ends.2.1 14 = .ok (.getfield 7, 3) := by decide +kernel
theorem d11_ends_17 : decode m11_ends.2.1 17 = .ok (.iconst 5, 1) := by decide +kernel
theorem d11_ends_18 : decode m11_ends.2.1 18 = .ok (.iconst 1, 1) := by decide +kernel
theorem d11_ends_19 : decode m11_ends.2.1 19 = .ok (.iastore, 1) := by decide +kernel
theorem d11_ends_20 : decode m11_ends.2.1 20 = .ok (.aload_n 0, 1) := by decide +kernel
theorem d11_ends_21 : decode m11_ends.2.1 21 = .ok (.getfield 7, 3) := by decide +kernel
theorem d11_ends_24 : decode m11_ends.2.1 24 = .ok (.bipush 6, 2) := by decide +kernel
theorem d11_ends_26 : decode m11_ends.2.1 26 = .ok (.aload_n 0, 1) := by decide +kernel
theorem d11_ends_27 : decode m11_ends.2.1 27 = .ok (.getfield 101, 3) := by decide +kernel
theorem d11_ends_30 : decode m11_ends.2.1 30 = .ok (.iastore, 1) := by decide +kernel
theorem d11_ends_31 : decode m11_ends.2.1 31 = .ok (.return_, 1) := by decide +kernel
def f11_ends (h : AH) : Option (Int × AH) :=
  if w32 (h.2 69 8) = 0 then
    lt (wr h 69 8 1) fun h1 =>
    asrt (0 ≤ w32 5 ∧ w32 5 < 4824) <|
    lt (wr h1 70 (w32 5).toNat 1) fun h4 =>
    asrt (0 ≤ w32 6 ∧ w32 6 < 4824) <|
    lt (wr h4 70 (w32 6).toNat (h4.2 69 4)) fun h7 =>
    some (0, h7)
  else
    some (0, h)
set_option maxRecDepth 100000 in
theorem c11_ends (l : Launch) (G : Geo) (h : AH) : Con l G m11_ends rvV 2 [vA G 69] h (f11_ends  h) := by
  have hd : 2 ≤ 2 := Nat.le_refl _
  refine con_V rfl (by decide) rfl rfl (Nat.le_of_ble_eq_true rfl) (L := [some (vA G 69)]) ?_
  unfold f11_ends
  refine den_aload_n (pc := 0) d11_ends_0 rfl rfl ?_
  refine den_getI (pc := 1) fa_11_128 (ok_69 _) d11_ends_1 ?_
  refine den_if_eq (pc := 4) (tgt := 8) d11_ends_4 (by decide) rfl (fun _ => ?_) (fun _ => ?_)
  · refine den_aload_n (pc := 8) d11_ends_8 rfl rfl ?_
    refine den_iconst (pc := 9) d11_ends_9 ?_
    refine den_putT (pc := 10) fp_11_128 (ok_69 _) (by decide) (by decide) d11_ends_10 ?_
    refine den_ltH (fun h1 m2 => ?_)
    refine den_aload_n (pc := 13) d11_ends_13 rfl rfl ?_
    refine den_getR (pc := 14) (b := 70) fa_11_7 (ok_69 _) rfl d11_ends_14 ?_
    refine den_iconst (pc := 17) d11_ends_17 ?_
    refine den_iconst (pc := 18) d11_ends_18 ?_
    refine den_asrt (fun a3 => ?_)
    refine den_iastore (pc := 19) sh_70 (sz_lt (by decide)) rfl a3 d11_ends_19 ?_
    refine den_ltH (fun h4 m5 => ?_)
    refine den_aload_n (pc := 20) d11_ends_20 rfl rfl ?_
    refine den_getR (pc := 21) (b := 70) fa_11_7 (ok_69 _) rfl d11_ends_21 ?_
    refine den_bipush (pc := 24) d11_ends_24 (by decide) ?_
    refine den_aload_n (pc := 26) d11_ends_26 rfl rfl ?_
    refine den_getI (pc := 27) fa_11_101 (ok_69 _) d11_ends_27 ?_
    refine den_asrt (fun a6 => ?_)
    refine den_iastore (pc := 30) sh_70 (sz_lt (by decide)) rfl a6 d11_ends_30 ?_
    refine den_ltH (fun h7 m8 => ?_)
    exact den_vret (pc := 31) rfl d11_ends_31
  · exact den_vret (pc := 7) rfl d11_ends_7
theorem d11_also_0 : decode m11_also.2.1 0 = .ok (.aload_n 0, 1) := by decide +kernel
theorem d11_also_1 : decode m11_also.2.1 1 = .ok (.getfield 128, 3) := by decide +kernel
theorem d11_also_4 : decode m11_also.2.1 4 = .ok (.ifCond .ne 44, 3) := by decide +kernel
theorem d11_also_7 : decode m11_also.2.1 7 = .ok (.aload_n 0, 1) := by decide +kernel
theorem d11_also_8 : decode m11_also.2.1 8 = .ok (.getfield 7, 3) := by decide +kernel
theorem d11_also_11 : decode m11_also.2.1 11 = .ok (.iconst 5, 1) := by decide +kernel
theorem d11_also_12 : decode m11_also.2.1 12 = .ok (.iaload, 1) := by decide +kernel
theorem d11_also_13 : decode m11_also.2.1 13 = .ok (.ifCond .eq 36, 3) := by decide +kernel
theorem d11_also_16 : decode m11_also.2.1 16 = .ok (.aload_n 0, 1) := by decide +kernel
theorem d11_also_17 : decode m11_also.2.1 17 = .ok (.getfield 7, 3) := by decide +kernel
theorem d11_also_20 : decode m11_also.2.1 20 = .ok (.bipush 6, 2) := by decide +kernel
theorem d11_also_22 : decode m11_also.2.1 22 = .ok (.iaload, 1) := by decide +kernel
theorem d11_also_23 : decode m11_also.2.1 23 = .ok (.iload_n 2, 1) := by decide +kernel
theorem d11_also_24 : decode m11_also.2.1 24 = .ok (.if_icmp .lt 24, 3) := by decide +kernel
theorem d11_also_27 : decode m11_also.2.1 27 = .ok (.aload_n 0, 1) := by decide +kernel
theorem d11_also_28 : decode m11_also.2.1 28 = .ok (.getfield 7, 3) := by decide +kernel
theorem d11_also_31 : decode m11_also.2.1 31 = .ok (.bipush 6, 2) := by decide +kernel
theorem d11_also_33 : decode m11_also.2.1 33 = .ok (.iaload, 1) := by decide +kernel
theorem d11_also_34 : decode m11_also.2.1 34 = .ok (.iload_n 2, 1) := by decide +kernel
theorem d11_also_35 : decode m11_also.2.1 35 = .ok (.if_icmp .ne 14, 3) := by decide +kernel
theorem d11_also_38 : decode m11_also.2.1 38 = .ok (.aload_n 0, 1) := by decide +kernel
theorem d11_also_39 : decode m11_also.2.1 39 = .ok (.getfield 7, 3) := by decide +kernel
theorem d11_also_42 : decode m11_also.2.1 42 = .ok (.iconst 5, 1) := by decide +kernel
theorem d11_also_43 : decode m11_also.2.1 43 = .ok (.iaload, 1) := by decide +kernel
theorem d11_also_44 : decode m11_also.2.1 44 = .ok (.iload_n 1, 1) := by decide +kernel
theorem d11_also_45 : decode m11_also.2.1 45 = .ok (.if_icmp .gt 4, 3) := by decide +kernel
theorem d11_also_48 : decode m11_also.2.1 48 = .ok (.return_, 1) := by decide +kernel
theorem d11_also_49 : decode m11_also.2.1 49 = .ok (.aload_n 0, 1) := by decide +kernel
theorem d11_also_50 : decode m11_also.2.1 50 = .ok (.getfield 7, 3) := by decide +kernel
theorem d11_also_53 : decode m11_also.2.1 53 = .ok (.iconst 5, 1) := by decide +kernel
theorem d11_also_54 : decode m11_also.2.1 54 = .ok (.iload_n 1, 1) := by decide +kernel
theorem d11_also_55 : decode m11_also.2.1 55 = .ok (.iastore, 1) := by decide +kernel
theorem d11_also_56 : decode m11_also.2.1 56 = .ok (.aload_n 0, 1) := by decide +kernel
theorem d11_also_57 : decode m11_also.2.1 57 = .ok (.getfield 7, 3) := by decide +kernel
theorem d11_also_60 : decode m11_also.2.1 60 = .ok (.bipush 6, 2) := by decide +kernel
theorem d11_also_62 : decode m11_also.2.1 62 = .ok (.iload_n 2, 1) := by decide +kernel
theorem d11_also_63 : decode m11_also.2.1 63 = .ok (.iastore, 1) := by decide +kernel
theorem d11_also_64 : decode m11_also.2.1 64 = .ok (.return_, 1) := by decide +kernel
def b11_also_49 (x1 : Int) (x2 : Int) (h : AH) : Option (Int × AH) :=
  asrt (0 ≤ w32 5 ∧ w32 5 < 4824) <|
  lt (wr h 70 (w32 5).toNat x1) fun h2 =>
  asrt (0 ≤ w32 6 ∧ w32 6 < 4824) <|
  lt (wr h2 70 (w32 6).toNat x2) fun h5 =>
  some (0, h5)
set_option maxRecDepth 100000 in
theorem t11_also_49 (l : Launch) (G : Geo) (d : Nat) (hd : 2 ≤ d) (x1 : Int) (x2 : Int) (h : AH) : Den l G m11_also rvV d 49 [some (vA G 69), some (vI x1), some (vI x2)] [] h (b11_also_49 x1 x2 h) := by
  unfold b11_also_49
  refine den_aload_n (pc := 49) d11_also_49 rfl rfl ?_
  refine den_getR (pc := 50) (b := 70) fa_11_7 (ok_69 _) rfl d11_also_50 ?_
  refine den_iconst (pc := 53) d11_also_53 ?_
  refine den_iload_n (pc := 54) d11_also_54 rfl rfl ?_
  refine den_asrt (fun a1 => ?_)
  refine den_iastore (pc := 55) sh_70 (sz_lt (by decide)) rfl a1 d11_also_55 ?_
  refine den_ltH (fun h2 m3 => ?_)
  refine den_aload_n (pc := 56) d11_also_56 rfl rfl ?_
  refine den_getR (pc := 57) (b := 70) fa_11_7 (ok_69 _) rfl d11_also_57 ?_
  refine den_bipush (pc := 60) d11_also_60 (by decide) ?_
  refine den_iload_n (pc := 62) d11_also_62 rfl rfl ?_
  refine den_asrt (fun a4 => ?_)
  refine den_iastore (pc := 63) sh_70 (sz_lt (by decide)) rfl a4 d11_also_63 ?_
  refine den_ltH (fun h5 m6 => ?_)
  exact den_vret (pc := 64) rfl d11_also_64
def f11_also (x1 : Int) (x2 : Int) (h : AH) : Option (Int × AH) :=
  if ¬ w32 (h.2 69 8) = 0 then
    some (0, h)
  else
    asrt (0 ≤ w32 5 ∧ w32 5 < 4824) <|
    if w32 (h.2 70 (w32 5).toNat) = 0 then
      b11_also_49 x1 x2 h
    else
      asrt (0 ≤ w32 6 ∧ w32 6 < 4824) <|
      if w32 (h.2 70 (w32 6).toNat) < w32 x2 then
        some (0, h)
      else
        asrt (0 ≤ w32 6 ∧ w32 6 < 4824) <|
        if ¬ w32 (h.2 70 (w32 6).toNat) = w32 x2 then
          b11_also_49 x1 x2 h
        else
          asrt (0 ≤ w32 5 ∧ w32 5 < 4824) <|
          if w32 x1 < w32 (h.2 70 (w32 5).toNat) then
            b11_also_49 x1 x2 h
          else
            some (0, h)
set_option maxRecDepth 100000 in
theorem c11_also (l : Launch) (G : Geo) (x1 : Int) (x2 : Int) (h : AH) : Con l G m11_also rvV 2 [vA G 69, vI x1, vI x2] h (f11_also x1 x2 h) := by
  have hd : 2 ≤ 2 := Nat.le_refl _
  refine con_V rfl (by decide) rfl rfl (Nat.le_of_ble_eq_true rfl) (L := [some (vA G 69), some (vI x1), some (vI x2)]) ?_
  unfold f11_also
  refine den_aload_n (pc := 0) d11_also_0 rfl rfl ?_
  refine den_getI (pc := 1) fa_11_128 (ok_69 _) d11_also_1 ?_
  refine den_if_ne (pc := 4) (tgt := 48) d11_also_4 (by decide) rfl (fun _ => ?_) (fun _ => ?_)
  · exact den_vret (pc := 48) rfl d11_also_48
  · refine den_aload_n (pc := 7) d11_also_7 rfl rfl ?_
    refine den_getR (pc := 8) (b := 70) fa_11_7 (ok_69 _) rfl d11_also_8 ?_
    refine den_iconst (pc := 11) d11_also_11 ?_
    refine den_asrt (fun a7 => ?_)
    refine den_iaload (pc := 12) sh_70 (sz_lt (by decide)) rfl a7 d11_also_12 ?_
    refine den_if_eq (pc := 13) (tgt := 49) d11_also_13 (by decide) rfl (fun _ => ?_) (fun _ => ?_)
    · exact t11_also_49 l G _ hd x1 x2 h
    · refine den_aload_n (pc := 16) d11_also_16 rfl rfl ?_
      refine den_getR (pc := 17) (b := 70) fa_11_7 (ok_69 _) rfl d11_also_17 ?_
      refine den_bipush (pc := 20) d11_also_20 (by decide) ?_
      refine den_asrt (fun a8 => ?_)
      refine den_iaload (pc := 22) sh_70 (sz_lt (by decide)) rfl a8 d11_also_22 ?_
      refine den_iload_n (pc := 23) d11_also_23 rfl rfl ?_
      refine den_icmp_lt (pc := 24) (tgt := 48) d11_also_24 (by decide) rfl rfl (fun _ => ?_) (fun _ => ?_)
      · exact den_vret (pc := 48) rfl d11_also_48
      · refine den_aload_n (pc := 27) d11_also_27 rfl rfl ?_
        refine den_getR (pc := 28) (b := 70) fa_11_7 (ok_69 _) rfl d11_also_28 ?_
        refine den_bipush (pc := 31) d11_also_31 (by decide) ?_
        refine den_asrt (fun a9 => ?_)
        refine den_iaload (pc := 33) sh_70 (sz_lt (by decide)) rfl a9 d11_also_33 ?_
        refine den_iload_n (pc := 34) d11_also_34 rfl rfl ?_
        refine den_icmp_ne (pc := 35) (tgt := 49) d11_also_35 (by decide) rfl rfl (fun _ => ?_) (fun _ => ?_)
        · exact t11_also_49 l G _ hd x1 x2 h
        · refine den_aload_n (pc := 38) d11_also_38 rfl rfl ?_
          refine den_getR (pc := 39) (b := 70) fa_11_7 (ok_69 _) rfl d11_also_39 ?_
          refine den_iconst (pc := 42) d11_also_42 ?_
          refine den_asrt (fun a10 => ?_)
          refine den_iaload (pc := 43) sh_70 (sz_lt (by decide)) rfl a10 d11_also_43 ?_
          refine den_iload_n (pc := 44) d11_also_44 rfl rfl ?_
          refine den_icmp_gt (pc := 45) (tgt := 49) d11_also_45 (by decide) rfl rfl (fun _ => ?_) (fun _ => ?_)
          · exact t11_also_49 l G _ hd x1 x2 h
          · exact den_vret (pc := 48) rfl d11_also_48
theorem d11_numbered_0 : decode m11_numbered.2.1 0 = .ok (.aload_n 0, 1) := by decide +kernel
theorem d11_numbered_1 : decode m11_numbered.2.1 1 = .ok (.getfield 128, 3) := by decide +kernel
theorem d11_numbered_4 : decode m11_numbered.2.1 4 = .ok (.ifCond .ne 11, 3) := by decide +kernel
theorem d11_numbered_7 : decode m11_numbered.2.1 7 = .ok (.aload_n 0, 1) := by decide +kernel
theorem d11_numbered_8 : decode m11_numbered.2.1 8 = .ok (.getfield 104, 3) := by decide +kernel
theorem d11_numbered_11 : decode m11_numbered.2.1 11 = .ok (.iconst 1, 1) := by decide +kernel
theorem d11_numbered_12 : decode m11_numbered.2.1 12 = .ok (.if_icmp .eq 9, 3) := by decide +kernel
theorem d11_numbered_15 : decode m11_numbered.2.1 15 = .ok (.aload_n 0, 1) := by decide +kernel
theorem d11_numbered_16 : decode m11_numbered.2.1 16 = .ok (.invokevirtual 132, 3) := by decide +kernel
theorem d11_numbered_19 : decode m11_numbered.2.1 19 = .ok (.iload_n 1, 1) := by decide +kernel
theorem d11_numbered_20 : decode m11_numbered.2.1 20 = .ok (.ireturn, 1) := by decide +kernel
theorem d11_numbered_21 : decode m11_numbered.2.1 21 = .ok (.aload_n 0, 1) := by decide +kernel
theorem d11_numbered_22 : decode m11_numbered.2.1 22 = .ok (.getfield 125, 3) := by decide +kernel
theorem d11_numbered_25 : decode m11_numbered.2.1 25 = .ok (.istore_n 3, 1) := by decide +kernel
theorem d11_numbered_26 : decode m11_numbered.2.1 26 = .ok (.iload_n 3, 1) := by decide +kernel
theorem d11_numbered_27 : decode m11_numbered.2.1 27 = .ok (.iload_n 1, 1) := by decide +kernel
theorem d11_numbered_28 : decode m11_numbered.2.1 28 = .ok (.iload_n 2, 1) := by decide +kernel
theorem d11_numbered_29 : decode m11_numbered.2.1 29 = .ok (.invokestatic 135, 3) := by decide +kernel
theorem d11_numbered_32 : decode m11_numbered.2.1 32 = .ok (.ifCond .ne 12, 3) := by decide +kernel
theorem d11_numbered_35 : decode m11_numbered.2.1 35 = .ok (.aload_n 0, 1) := by decide +kernel
theorem d11_numbered_36 : decode m11_numbered.2.1 36 = .ok (.iconst 2, 1) := by decide +kernel
theorem d11_numbered_37 : decode m11_numbered.2.1 37 = .ok (.aload_n 0, 1) := by decide +kernel
theorem d11_numbered_38 : decode m11_numbered.2.1 38 = .ok (.getfield 101, 3) := by decide +kernel
theorem d11_numbered_41 : decode m11_numbered.2.1 41 = .ok (.invokevirtual 139, 3) := by decide +kernel
theorem d11_numbered_44 : decode m11_numbered.2.1 44 = .ok (.aload_n 0, 1) := by decide +kernel
theorem d11_numbered_45 : decode m11_numbered.2.1 45 = .ok (.invokevirtual 143, 3) := by decide +kernel
theorem d11_numbered_48 : decode m11_numbered.2.1 48 = .ok (.iload_n 3, 1) := by decide +kernel
theorem d11_numbered_49 : decode m11_numbered.2.1 49 = .ok (.iload_n 1, 1) := by decide +kernel
theorem d11_numbered_50 : decode m11_numbered.2.1 50 = .ok (.iload_n 2, 1) := by decide +kernel
theorem d11_numbered_51 : decode m11_numbered.2.1 51 = .ok (.invokestatic 135, 3) := by decide +kernel
theorem d11_numbered_54 : decode m11_numbered.2.1 54 = .ok (.ifCond .eq 7, 3) := by decide +kernel
theorem d11_numbered_57 : decode m11_numbered.2.1 57 = .ok (.iload_n 3, 1) := by decide +kernel
theorem d11_numbered_58 : decode m11_numbered.2.1 58 = .ok (.goto 4, 3) := by decide +kernel
theorem d11_numbered_61 : decode m11_numbered.2.1 61 = .ok (.iload_n 1, 1) := by decide +kernel
theorem d11_numbered_62 : decode m11_numbered.2.1 62 = .ok (.ireturn, 1) := by decide +kernel
def b11_numbered_15 (x1 : Int) (h : AH) : Option (Int × AH) :=
  bnd (f11_ends h) fun r1 h2 =>
  some (x1, h2)
set_option maxRecDepth 100000 in
theorem t11_numbered_15 (l : Launch) (G : Geo) (d : Nat) (hd : 6 ≤ d) (x1 : Int) (h : AH) : Den l G m11_numbered rvI d 15 [some (vA G 69), some (vI x1), none, none] [] h (b11_numbered_15 x1 h) := by
  unfold b11_numbered_15
  refine den_aload_n (pc := 15) d11_numbered_15 rfl rfl ?_
  refine den_callVV (pc := 16) (As := []) fv_11_132 rfl rfl (ok_69 _) (Nat.le_of_ble_eq_true rfl) (Nat.le_trans (by decide) hd) d11_numbered_16 (c11_ends l G h) (fun r1 h2 m3 o4 => ?_)
  refine den_iload_n (pc := 19) d11_numbered_19 rfl rfl ?_
  exact den_iret (pc := 20) rfl d11_numbered_20
def b11_numbered_44 (x1 : Int) (x2 : Int) (x3 : Int) (h : AH) : Option (Int × AH) :=
  bnd (f11_advance h) fun r5 h6 =>
  bnd (f11_isIn x3 x1 x2 h6) fun r9 h10 =>
  if w32 r9 = 0 then
    some (x1, h10)
  else
    some (x3, h10)
set_option maxRecDepth 100000 in
theorem t11_numbered_44 (l : Launch) (G : Geo) (d : Nat) (hd : 6 ≤ d) (x1 : Int) (x2 : Int) (x3 : Int) (h : AH) : Den l G m11_numbered rvI d 44 [some (vA G 69), some (vI x1), some (vI x2), some (vI x3)] [] h (b11_numbered_44 x1 x2 x3 h) := by
  unfold b11_numbered_44
  refine den_aload_n (pc := 44) d11_numbered_44 rfl rfl ?_
  refine den_callVV (pc := 45) (As := []) fv_11_143 rfl rfl (ok_69 _) (Nat.le_of_ble_eq_true rfl) (Nat.le_trans (by decide) hd) d11_numbered_45 (c11_advance l G h) (fun r5 h6 m7 o8 => ?_)
  refine den_iload_n (pc := 48) d11_numbered_48 rfl rfl ?_
  refine den_iload_n (pc := 49) d11_numbered_49 rfl rfl ?_
  refine den_iload_n (pc := 50) d11_numbered_50 rfl rfl ?_
  refine den_callSI (pc := 51) (As := [vI x3, vI x1, vI x2]) fs_11_135 rfl rfl (Nat.le_of_ble_eq_true rfl) (Nat.le_trans (by decide) hd) d11_numbered_51 (c11_isIn l G x3 x1 x2 h6) (fun r9 h10 m11 o12 => ?_)
  refine den_if_eq (pc := 54) (tgt := 61) d11_numbered_54 (by decide) rfl (fun _ => ?_) (fun _ => ?_)
  · refine den_iload_n (pc := 61) d11_numbered_61 rfl rfl ?_
    exact den_iret (pc := 62) rfl d11_numbered_62
  · refine den_iload_n (pc := 57) d11_numbered_57 rfl rfl ?_
    refine den_goto (pc := 58) (tgt := 62) d11_numbered_58 (by decide) ?_
    exact den_iret (pc := 62) rfl d11_numbered_62
def f11_numbered (x1 : Int) (x2 : Int) (h : AH) : Option (Int × AH) :=
  if ¬ w32 (h.2 69 8) = 0 then
    b11_numbered_15 x1 h
  else
    if w32 (h.2 69 5) = 1 then
      lt (h.2 69 6) fun u13 =>
      bnd (f11_isIn u13 x1 x2 h) fun r14 h15 =>
      if ¬ w32 r14 = 0 then
        b11_numbered_44 x1 x2 u13 h15
      else
        bnd (f11_also 2 (h15.2 69 4) h15) fun r18 h19 =>
        b11_numbered_44 x1 x2 u13 h19
    else
      b11_numbered_15 x1 h
set_option maxRecDepth 100000 in
theorem c11_numbered (l : Launch) (G : Geo) (x1 : Int) (x2 : Int) (h : AH) : Con l G m11_numbered rvI 6 [vA G 69, vI x1, vI x2] h (f11_numbered x1 x2 h) := by
  have hd : 6 ≤ 6 := Nat.le_refl _
  refine con_I rfl (by decide) rfl rfl (Nat.le_of_ble_eq_true rfl) (L := [some (vA G 69), some (vI x1), some (vI x2), none]) ?_
  unfold f11_numbered
  refine den_aload_n (pc := 0) d11_numbered_0 rfl rfl ?_
  refine den_getI (pc := 1) fa_11_128 (ok_69 _) d11_numbered_1 ?_
  refine den_if_ne (pc := 4) (tgt := 15) d11_numbered_4 (by decide) rfl (fun _ => ?_) (fun _ => ?_)
  · refine den_wk [true, true, false, true] rfl ?_
    exact t11_numbered_15 l G _ hd x1 h
  · refine den_aload_n (pc := 7) d11_numbered_7 rfl rfl ?_
    refine den_getI (pc := 8) fa_11_104 (ok_69 _) d11_numbered_8 ?_
    refine den_iconst (pc := 11) d11_numbered_11 ?_
    refine den_icmp_eq (pc := 12) (tgt := 21) d11_numbered_12 (by decide) rfl (by decide) (fun _ => ?_) (fun _ => ?_)
    · refine den_aload_n (pc := 21) d11_numbered_21 rfl rfl ?_
      refine den_getI (pc := 22) fa_11_125 (ok_69 _) d11_numbered_22 ?_
      refine den_istore_nL (pc := 25) (L2 := fun y => [some (vA G 69), some (vI x1), some (vI x2), some (vI y)]) d11_numbered_25 rfl (by decide) (fun _ => rfl) (fun u13 => ?_)
      refine den_iload_n (pc := 26) d11_numbered_26 rfl rfl ?_
      refine den_iload_n (pc := 27) d11_numbered_27 rfl rfl ?_
      refine den_iload_n (pc := 28) d11_numbered_28 rfl rfl ?_
      refine den_callSI (pc := 29) (As := [vI u13, vI x1, vI x2]) fs_11_135 rfl rfl (Nat.le_of_ble_eq_true rfl) (Nat.le_trans (by decide) hd) d11_numbered_29 (c11_isIn l G u13 x1 x2 h) (fun r14 h15 m16 o17 => ?_)
      refine den_if_ne (pc := 32) (tgt := 44) d11_numbered_32 (by decide) rfl (fun _ => ?_) (fun _ => ?_)
      · exact t11_numbered_44 l G _ hd x1 x2 u13 h15
      · refine den_aload_n (pc := 35) d11_numbered_35 rfl rfl ?_
        refine den_iconst (pc := 36) d11_numbered_36 ?_
        refine den_aload_n (pc := 37) d11_numbered_37 rfl rfl ?_
        refine den_getI (pc := 38) fa_11_101 (ok_69 _) d11_numbered_38 ?_
        refine den_callVV (pc := 41) (As := [vI 2, vI (h15.2 69 4)]) fv_11_139 rfl rfl (ok_69 _) (Nat.le_of_ble_eq_true rfl) (Nat.le_trans (by decide) hd) d11_numbered_41 (c11_also l G 2 (h15.2 69 4) h15) (fun r18 h19 m20 o21 => ?_)
        exact t11_numbered_44 l G _ hd x1 x2 u13 h19
    · refine den_wk [true, true, false, true] rfl ?_
      exact t11_numbered_15 l G _ hd x1 h
theorem d11_wordIn_0 : decode m11_wordIn.2.1 0 = .ok (.aload_n 0, 1) := by decide +kernel
theorem d11_wordIn_1 : decode m11_wordIn.2.1 1 = .ok (.getfield 128, 3) := by decide +kernel
theorem d11_wordIn_4 : decode m11_wordIn.2.1 4 = .ok (.ifCond .ne 23, 3) := by decide +kernel
theorem d11_wordIn_7 : decode m11_wordIn.2.1 7 = .ok (.aload_n 0, 1) := by decide +kernel
theorem d11_wordIn_8 : decode m11_wordIn.2.1 8 = .ok (.getfield 104, 3) := by decide +kernel
theorem d11_wordIn_11 : decode m11_wordIn.2.1 11 = .ok (.iconst 3, 1) := by decide +kernel
theorem d11_wordIn_12 : decode m11_wordIn.2.1 12 = .ok (.if_icmp .ne 15, 3) := by decide +kernel
theorem d11_wordIn_15 : decode m11_wordIn.2.1 15 = .ok (.aload_n 0, 1) := by decide +kernel
theorem d11_wordIn_16 : decode m11_wordIn.2.1 16 = .ok (.getfield 119, 3) := by decide +kernel
theorem d11_wordIn_19 : decode m11_wordIn.2.1 19 = .ok (.iload_n 1, 1) := by decide +kernel
theorem d11_wordIn_20 : decode m11_wordIn.2.1 20 = .ok (.iload_n 2, 1) := by decide +kernel
theorem d11_wordIn_21 : decode m11_wordIn.2.1 21 = .ok (.invokestatic 135, 3) := by decide +kernel
theorem d11_wordIn_24 : decode m11_wordIn.2.1 24 = .ok (.ifCond .ne 9, 3) := by decide +kernel
theorem d11_wordIn_27 : decode m11_wordIn.2.1 27 = .ok (.aload_n 0, 1) := by decide +kernel
theorem d11_wordIn_28 : decode m11_wordIn.2.1 28 = .ok (.invokevirtual 132, 3) := by decide +kernel
theorem d11_wordIn_31 : decode m11_wordIn.2.1 31 = .ok (.iconst 0, 1) := by decide +kernel
theorem d11_wordIn_32 : decode m11_wordIn.2.1 32 = .ok (.ireturn, 1) := by decide +kernel
theorem d11_wordIn_33 : decode m11_wordIn.2.1 33 = .ok (.aload_n 0, 1) := by decide +kernel
theorem d11_wordIn_34 : decode m11_wordIn.2.1 34 = .ok (.getfield 119, 3) := by decide +kernel
theorem d11_wordIn_37 : decode m11_wordIn.2.1 37 = .ok (.istore_n 3, 1) := by decide +kernel
theorem d11_wordIn_38 : decode m11_wordIn.2.1 38 = .ok (.aload_n 0, 1) := by decide +kernel
theorem d11_wordIn_39 : decode m11_wordIn.2.1 39 = .ok (.invokevirtual 143, 3) := by decide +kernel
theorem d11_wordIn_42 : decode m11_wordIn.2.1 42 = .ok (.iload_n 3, 1) := by decide +kernel
theorem d11_wordIn_43 : decode m11_wordIn.2.1 43 = .ok (.ireturn, 1) := by decide +kernel
def b11_wordIn_27 (h : AH) : Option (Int × AH) :=
  bnd (f11_ends h) fun r1 h2 =>
  some (0, h2)
set_option maxRecDepth 100000 in
theorem t11_wordIn_27 (l : Launch) (G : Geo) (d : Nat) (hd : 6 ≤ d) (h : AH) : Den l G m11_wordIn rvI d 27 [some (vA G 69), none, none, none] [] h (b11_wordIn_27 h) := by
  unfold b11_wordIn_27
  refine den_aload_n (pc := 27) d11_wordIn_27 rfl rfl ?_
  refine den_callVV (pc := 28) (As := []) fv_11_132 rfl rfl (ok_69 _) (Nat.le_of_ble_eq_true rfl) (Nat.le_trans (by decide) hd) d11_wordIn_28 (c11_ends l G h) (fun r1 h2 m3 o4 => ?_)
  refine den_iconst (pc := 31) d11_wordIn_31 ?_
  exact den_iret (pc := 32) rfl d11_wordIn_32
def f11_wordIn (x1 : Int) (x2 : Int) (h : AH) : Option (Int × AH) :=
  if ¬ w32 (h.2 69 8) = 0 then
    b11_wordIn_27 h
  else
    if ¬ w32 (h.2 69 5) = 3 then
      b11_wordIn_27 h
    else
      bnd (f11_isIn (h.2 69 7) x1 x2 h) fun r5 h6 =>
      if ¬ w32 r5 = 0 then
        lt (h6.2 69 7) fun u9 =>
        bnd (f11_advance h6) fun r10 h11 =>
        some (u9, h11)
      else
        b11_wordIn_27 h6
set_option maxRecDepth 100000 in
theorem c11_wordIn (l : Launch) (G : Geo) (x1 : Int) (x2 : Int) (h : AH) : Con l G m11_wordIn rvI 6 [vA G 69, vI x1, vI x2] h (f11_wordIn x1 x2 h) := by
  have hd : 6 ≤ 6 := Nat.le_refl _
  refine con_I rfl (by decide) rfl rfl (Nat.le_of_ble_eq_true rfl) (L := [some (vA G 69), some (vI x1), some (vI x2), none]) ?_
  unfold f11_wordIn
  refine den_aload_n (pc := 0) d11_wordIn_0 rfl rfl ?_
  refine den_getI (pc := 1) fa_11_128 (ok_69 _) d11_wordIn_1 ?_
  refine den_if_ne (pc := 4) (tgt := 27) d11_wordIn_4 (by decide) rfl (fun _ => ?_) (fun _ => ?_)
  · refine den_wk [true, false, false, true] rfl ?_
    exact t11_wordIn_27 l G _ hd h
  · refine den_aload_n (pc := 7) d11_wordIn_7 rfl rfl ?_
    refine den_getI (pc := 8) fa_11_104 (ok_69 _) d11_wordIn_8 ?_
    refine den_iconst (pc := 11) d11_wordIn_11 ?_
    refine den_icmp_ne (pc := 12) (tgt := 27) d11_wordIn_12 (by decide) rfl (by decide) (fun _ => ?_) (fun _ => ?_)
    · refine den_wk [true, false, false, true] rfl ?_
      exact t11_wordIn_27 l G _ hd h
    · refine den_aload_n (pc := 15) d11_wordIn_15 rfl rfl ?_
      refine den_getI (pc := 16) fa_11_119 (ok_69 _) d11_wordIn_16 ?_
      refine den_iload_n (pc := 19) d11_wordIn_19 rfl rfl ?_
      refine den_iload_n (pc := 20) d11_wordIn_20 rfl rfl ?_
      refine den_callSI (pc := 21) (As := [vI (h.2 69 7), vI x1, vI x2]) fs_11_135 rfl rfl (Nat.le_of_ble_eq_true rfl) (Nat.le_trans (by decide) hd) d11_wordIn_21 (c11_isIn l G (h.2 69 7) x1 x2 h) (fun r5 h6 m7 o8 => ?_)
      refine den_if_ne (pc := 24) (tgt := 33) d11_wordIn_24 (by decide) rfl (fun _ => ?_) (fun _ => ?_)
      · refine den_aload_n (pc := 33) d11_wordIn_33 rfl rfl ?_
        refine den_getI (pc := 34) fa_11_119 (ok_69 _) d11_wordIn_34 ?_
        refine den_istore_nL (pc := 37) (L2 := fun y => [some (vA G 69), some (vI x1), some (vI x2), some (vI y)]) d11_wordIn_37 rfl (by decide) (fun _ => rfl) (fun u9 => ?_)
        refine den_aload_n (pc := 38) d11_wordIn_38 rfl rfl ?_
        refine den_callVV (pc := 39) (As := []) fv_11_143 rfl rfl (ok_69 _) (Nat.le_of_ble_eq_true rfl) (Nat.le_trans (by decide) hd) d11_wordIn_39 (c11_advance l G h6) (fun r10 h11 m12 o13 => ?_)
        refine den_iload_n (pc := 42) d11_wordIn_42 rfl rfl ?_
        exact den_iret (pc := 43) rfl d11_wordIn_43
      · refine den_wk [true, false, false, true] rfl ?_
        exact t11_wordIn_27 l G _ hd h6
theorem d11_endsLine_0 : decode m11_endsLine.2.1 0 = .ok (.aload_n 0, 1) := by decide +kernel
theorem d11_endsLine_1 : decode m11_endsLine.2.1 1 = .ok (.getfield 128, 3) := by decide +kernel
theorem d11_endsLine_4 : decode m11_endsLine.2.1 4 = .ok (.ifCond .ne 18, 3) := by decide +kernel
theorem d11_endsLine_7 : decode m11_endsLine.2.1 7 = .ok (.aload_n 0, 1) := by decide +kernel
theorem d11_endsLine_8 : decode m11_endsLine.2.1 8 = .ok (.getfield 104, 3) := by decide +kernel
theorem d11_endsLine_11 : decode m11_endsLine.2.1 11 = .ok (.iconst 2, 1) := by decide +kernel
theorem d11_endsLine_12 : decode m11_endsLine.2.1 12 = .ok (.if_icmp .ne 10, 3) := by decide +kernel
theorem d11_endsLine_15 : decode m11_endsLine.2.1 15 = .ok (.aload_n 0, 1) := by decide +kernel
theorem d11_endsLine_16 : decode m11_endsLine.2.1 16 = .ok (.invokevirtual 143, 3) := by decide +kernel
theorem d11_endsLine_19 : decode m11_endsLine.2.1 19 = .ok (.goto 7, 3) := by decide +kernel
theorem d11_endsLine_22 : decode m11_endsLine.2.1 22 = .ok (.aload_n 0, 1) := by decide +kernel
theorem d11_endsLine_23 : decode m11_endsLine.2.1 23 = .ok (.invokevirtual 132, 3) := by decide +kernel
theorem d11_endsLine_26 : decode m11_endsLine.2.1 26 = .ok (.return_, 1) := by decide +kernel
def f11_endsLine (h : AH) : Option (Int × AH) :=
  if ¬ w32 (h.2 69 8) = 0 then
    bnd (f11_ends h) fun r1 h2 =>
    some (0, h2)
  else
    if ¬ w32 (h.2 69 5) = 2 then
      bnd (f11_ends h) fun r5 h6 =>
      some (0, h6)
    else
      bnd (f11_advance h) fun r9 h10 =>
      some (0, h10)
set_option maxRecDepth 100000 in
theorem c11_endsLine (l : Launch) (G : Geo) (h : AH) : Con l G m11_endsLine rvV 6 [vA G 69] h (f11_endsLine  h) := by
  have hd : 6 ≤ 6 := Nat.le_refl _
  refine con_V rfl (by decide) rfl rfl (Nat.le_of_ble_eq_true rfl) (L := [some (vA G 69)]) ?_
  unfold f11_endsLine
  refine den_aload_n (pc := 0) d11_endsLine_0 rfl rfl ?_
  refine den_getI (pc := 1) fa_11_128 (ok_69 _) d11_endsLine_1 ?_
  refine den_if_ne (pc := 4) (tgt := 22) d11_endsLine_4 (by decide) rfl (fun _ => ?_) (fun _ => ?_)
  · refine den_aload_n (pc := 22) d11_endsLine_22 rfl rfl ?_
    refine den_callVV (pc := 23) (As := []) fv_11_132 rfl rfl (ok_69 _) (Nat.le_of_ble_eq_true rfl) (Nat.le_trans (by decide) hd) d11_endsLine_23 (c11_ends l G h) (fun r1 h2 m3 o4 => ?_)
    exact den_vret (pc := 26) rfl d11_endsLine_26
  · refine den_aload_n (pc := 7) d11_endsLine_7 rfl rfl ?_
    refine den_getI (pc := 8) fa_11_104 (ok_69 _) d11_endsLine_8 ?_
    refine den_iconst (pc := 11) d11_endsLine_11 ?_
    refine den_icmp_ne (pc := 12) (tgt := 22) d11_endsLine_12 (by decide) rfl (by decide) (fun _ => ?_) (fun _ => ?_)
    · refine den_aload_n (pc := 22) d11_endsLine_22 rfl rfl ?_
      refine den_callVV (pc := 23) (As := []) fv_11_132 rfl rfl (ok_69 _) (Nat.le_of_ble_eq_true rfl) (Nat.le_trans (by decide) hd) d11_endsLine_23 (c11_ends l G h) (fun r5 h6 m7 o8 => ?_)
      exact den_vret (pc := 26) rfl d11_endsLine_26
    · refine den_aload_n (pc := 15) d11_endsLine_15 rfl rfl ?_
      refine den_callVV (pc := 16) (As := []) fv_11_143 rfl rfl (ok_69 _) (Nat.le_of_ble_eq_true rfl) (Nat.le_trans (by decide) hd) d11_endsLine_16 (c11_advance l G h) (fun r9 h10 m11 o12 => ?_)
      refine den_goto (pc := 19) (tgt := 26) d11_endsLine_19 (by decide) ?_
      exact den_vret (pc := 26) rfl d11_endsLine_26
theorem d11_unlike_0 : decode m11_unlike.2.1 0 = .ok (.aload_n 0, 1) := by decide +kernel
theorem d11_unlike_1 : decode m11_unlike.2.1 1 = .ok (.getfield 101, 3) := by decide +kernel
theorem d11_unlike_4 : decode m11_unlike.2.1 4 = .ok (.istore 4, 2) := by decide +kernel
theorem d11_unlike_6 : decode m11_unlike.2.1 6 = .ok (.aload_n 0, 1) := by decide +kernel
theorem d11_unlike_7 : decode m11_unlike.2.1 7 = .ok (.getfield 128, 3) := by decide +kernel
theorem d11_unlike_10 : decode m11_unlike.2.1 10 = .ok (.ifCond .ne 23, 3) := by decide +kernel
theorem d11_unlike_13 : decode m11_unlike.2.1 13 = .ok (.aload_n 0, 1) := by decide +kernel
theorem d11_unlike_14 : decode m11_unlike.2.1 14 = .ok (.getfield 104, 3) := by decide +kernel
theorem d11_unlike_17 : decode m11_unlike.2.1 17 = .ok (.iconst 1, 1) := by decide +kernel
theorem d11_unlike_18 : decode m11_unlike.2.1 18 = .ok (.if_icmp .ne 15, 3) := by decide +kernel
theorem d11_unlike_21 : decode m11_unlike.2.1 21 = .ok (.aload_n 0, 1) := by decide +kernel
theorem d11_unlike_22 : decode m11_unlike.2.1 22 = .ok (.getfield 125, 3) := by decide +kernel
theorem d11_unlike_25 : decode m11_unlike.2.1 25 = .ok (.iload_n 3, 1) := by decide +kernel
theorem d11_unlike_26 : decode m11_unlike.2.1 26 = .ok (.if_icmp .ne 7, 3) := by decide +kernel
theorem d11_unlike_29 : decode m11_unlike.2.1 29 = .ok (.iconst 1, 1) := by decide +kernel
theorem d11_unlike_30 : decode m11_unlike.2.1 30 = .ok (.goto 4, 3) := by decide +kernel
theorem d11_unlike_33 : decode m11_unlike.2.1 33 = .ok (.iconst 0, 1) := by decide +kernel
theorem d11_unlike_34 : decode m11_unlike.2.1 34 = .ok (.istore 5, 2) := by decide +kernel
theorem d11_unlike_36 : decode m11_unlike.2.1 36 = .ok (.aload_n 0, 1) := by decide +kernel
theorem d11_unlike_37 : decode m11_unlike.2.1 37 = .ok (.iload_n 1, 1) := by decide +kernel
theorem d11_unlike_38 : decode m11_unlike.2.1 38 = .ok (.iload_n 2, 1) := by decide +kernel
theorem d11_unlike_39 : decode m11_unlike.2.1 39 = .ok (.invokevirtual 146, 3) := by decide +kernel
theorem d11_unlike_42 : decode m11_unlike.2.1 42 = .ok (.istore 6, 2) := by decide +kernel
theorem d11_unlike_44 : decode m11_unlike.2.1 44 = .ok (.iload 5, 2) := by decide +kernel
theorem d11_unlike_46 : decode m11_unlike.2.1 46 = .ok (.ifCond .eq 10, 3) := by decide +kernel
theorem d11_unlike_49 : decode m11_unlike.2.1 49 = .ok (.aload_n 0, 1) := by decide +kernel
theorem d11_unlike_50 : decode m11_unlike.2.1 50 = .ok (.iconst 2, 1) := by decide +kernel
theorem d11_unlike_51 : decode m11_unlike.2.1 51 = .ok (.iload 4, 2) := by decide +kernel
theorem d11_unlike_53 : decode m11_unlike.2.1 53 = .ok (.invokevirtual 139, 3) := by decide +kernel
theorem d11_unlike_56 : decode m11_unlike.2.1 56 = .ok (.iload 6, 2) := by decide +kernel
theorem d11_unlike_58 : decode m11_unlike.2.1 58 = .ok (.ireturn, 1) := by decide +kernel
def b11_unlike_34 (x1 : Int) (x2 : Int) (x4 : Int) (s0 : Int) (h : AH) : Option (Int × AH) :=
  bnd (f11_numbered x1 x2 h) fun r1 h2 =>
  if w32 s0 = 0 then
    some (r1, h2)
  else
    bnd (f11_also 2 x4 h2) fun r5 h6 =>
    some (r1, h6)
set_option maxRecDepth 100000 in
theorem t11_unlike_34 (l : Launch) (G : Geo) (d : Nat) (hd : 7 ≤ d) (x1 : Int) (x2 : Int) (x4 : Int) (s0 : Int) (h : AH) : Den l G m11_unlike rvI d 34 [some (vA G 69), some (vI x1), some (vI x2), none, some (vI x4), none, none] [vI s0] h (b11_unlike_34 x1 x2 x4 s0 h) := by
  unfold b11_unlike_34
  refine den_istore (pc := 34) (L2 := [some (vA G 69), some (vI x1), some (vI x2), none, some (vI x4), some (vI s0), none]) d11_unlike_34 (by decide) rfl ?_
  refine den_aload_n (pc := 36) d11_unlike_36 rfl rfl ?_
  refine den_iload_n (pc := 37) d11_unlike_37 rfl rfl ?_
  refine den_iload_n (pc := 38) d11_unlike_38 rfl rfl ?_
  refine den_callVI (pc := 39) (As := [vI x1, vI x2]) fv_11_146 rfl rfl (ok_69 _) (Nat.le_of_ble_eq_true rfl) (Nat.le_trans (by decide) hd) d11_unlike_39 (c11_numbered l G x1 x2 h) (fun r1 h2 m3 o4 => ?_)
  refine den_istore (pc := 42) (L2 := [some (vA G 69), some (vI x1), some (vI x2), none, some (vI x4), some (vI s0), some (vI r1)]) d11_unlike_42 (by decide) rfl ?_
  refine den_iload (pc := 44) d11_unlike_44 rfl ?_
  refine den_if_eq (pc := 46) (tgt := 56) d11_unlike_46 (by decide) rfl (fun _ => ?_) (fun _ => ?_)
  · refine den_iload (pc := 56) d11_unlike_56 rfl ?_
    exact den_iret (pc := 58) rfl d11_unlike_58
  · refine den_aload_n (pc := 49) d11_unlike_49 rfl rfl ?_
    refine den_iconst (pc := 50) d11_unlike_50 ?_
    refine den_iload (pc := 51) d11_unlike_51 rfl ?_
    refine den_callVV (pc := 53) (As := [vI 2, vI x4]) fv_11_139 rfl rfl (ok_69 _) (Nat.le_of_ble_eq_true rfl) (Nat.le_trans (by decide) hd) d11_unlike_53 (c11_also l G 2 x4 h2) (fun r5 h6 m7 o8 => ?_)
    refine den_iload (pc := 56) d11_unlike_56 rfl ?_
    exact den_iret (pc := 58) rfl d11_unlike_58
def b11_unlike_33 (x1 : Int) (x2 : Int) (x4 : Int) (h : AH) : Option (Int × AH) :=
  b11_unlike_34 x1 x2 x4 0 h
set_option maxRecDepth 100000 in
theorem t11_unlike_33 (l : Launch) (G : Geo) (d : Nat) (hd : 7 ≤ d) (x1 : Int) (x2 : Int) (x4 : Int) (h : AH) : Den l G m11_unlike rvI d 33 [some (vA G 69), some (vI x1), some (vI x2), none, some (vI x4), none, none] [] h (b11_unlike_33 x1 x2 x4 h) := by
  unfold b11_unlike_33
  refine den_iconst (pc := 33) d11_unlike_33 ?_
  exact t11_unlike_34 l G _ hd x1 x2 x4 0 h
def f11_unlike (x1 : Int) (x2 : Int) (x3 : Int) (h : AH) : Option (Int × AH) :=
  lt (h.2 69 4) fun u9 =>
  if ¬ w32 (h.2 69 8) = 0 then
    b11_unlike_33 x1 x2 u9 h
  else
    if ¬ w32 (h.2 69 5) = 1 then
      b11_unlike_33 x1 x2 u9 h
    else
      if ¬ w32 (h.2 69 6) = w32 x3 then
        b11_unlike_33 x1 x2 u9 h
      else
        b11_unlike_34 x1 x2 u9 1 h
set_option maxRecDepth 100000 in
theorem c11_unlike (l : Launch) (G : Geo) (x1 : Int) (x2 : Int) (x3 : Int) (h : AH) : Con l G m11_unlike rvI 7 [vA G 69, vI x1, vI x2, vI x3] h (f11_unlike x1 x2 x3 h) := by
  have hd : 7 ≤ 7 := Nat.le_refl _
  refine con_I rfl (by decide) rfl rfl (Nat.le_of_ble_eq_true rfl) (L := [some (vA G 69), some (vI x1), some (vI x2), some (vI x3), none, none, none]) ?_
  unfold f11_unlike
  refine den_aload_n (pc := 0) d11_unlike_0 rfl rfl ?_
  refine den_getI (pc := 1) fa_11_101 (ok_69 _) d11_unlike_1 ?_
  refine den_istoreL (pc := 4) (L2 := fun y => [some (vA G 69), some (vI x1), some (vI x2), some (vI x3), some (vI y), none, none]) d11_unlike_4 (by decide) (fun _ => rfl) (fun u9 => ?_)
  refine den_aload_n (pc := 6) d11_unlike_6 rfl rfl ?_
  refine den_getI (pc := 7) fa_11_128 (ok_69 _) d11_unlike_7 ?_
  refine den_if_ne (pc := 10) (tgt := 33) d11_unlike_10 (by decide) rfl (fun _ => ?_) (fun _ => ?_)
  · refine den_wk [true, true, true, false, true, true, true] rfl ?_
    exact t11_unlike_33 l G _ hd x1 x2 u9 h
  · refine den_aload_n (pc := 13) d11_unlike_13 rfl rfl ?_
    refine den_getI (pc := 14) fa_11_104 (ok_69 _) d11_unlike_14 ?_
    refine den_iconst (pc := 17) d11_unlike_17 ?_
    refine den_icmp_ne (pc := 18) (tgt := 33) d11_unlike_18 (by decide) rfl (by decide) (fun _ => ?_) (fun _ => ?_)
    · refine den_wk [true, true, true, false, true, true, true] rfl ?_
      exact t11_unlike_33 l G _ hd x1 x2 u9 h
    · refine den_aload_n (pc := 21) d11_unlike_21 rfl rfl ?_
      refine den_getI (pc := 22) fa_11_125 (ok_69 _) d11_unlike_22 ?_
      refine den_iload_n (pc := 25) d11_unlike_25 rfl rfl ?_
      refine den_icmp_ne (pc := 26) (tgt := 33) d11_unlike_26 (by decide) rfl rfl (fun _ => ?_) (fun _ => ?_)
      · refine den_wk [true, true, true, false, true, true, true] rfl ?_
        exact t11_unlike_33 l G _ hd x1 x2 u9 h
      · refine den_iconst (pc := 29) d11_unlike_29 ?_
        refine den_goto (pc := 30) (tgt := 34) d11_unlike_30 (by decide) ?_
        refine den_wk [true, true, true, false, true, true, true] rfl ?_
        exact t11_unlike_34 l G _ hd x1 x2 u9 1 h
