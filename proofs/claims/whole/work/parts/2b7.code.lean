/-! 11_spent 11_burnsBehind 11_counts 11_kept -/
theorem d11_spent_0 : decode m11_spent.2.1 0 = .ok (.aload_n 0, 1) := by decide +kernel
theorem d11_spent_1 : decode m11_spent.2.1 1 = .ok (.iload_n 1, 1) := by decide +kernel
theorem d11_spent_2 : decode m11_spent.2.1 2 = .ok (.invokevirtual 201, 3) := by decide +kernel
theorem d11_spent_5 : decode m11_spent.2.1 5 = .ok (.ifCond .eq 29, 3) := by decide +kernel
theorem d11_spent_8 : decode m11_spent.2.1 8 = .ok (.aload_n 0, 1) := by decide +kernel
theorem d11_spent_9 : decode m11_spent.2.1 9 = .ok (.iload_n 2, 1) := by decide +kernel
theorem d11_spent_10 : decode m11_spent.2.1 10 = .ok (.iload_n 3, 1) := by decide +kernel
theorem d11_spent_11 : decode m11_spent.2.1 11 = .ok (.invokevirtual 228, 3) := by decide +kernel
theorem d11_spent_14 : decode m11_spent.2.1 14 = .ok (.ifCond .eq 20, 3) := by decide +kernel
theorem d11_spent_17 : decode m11_spent.2.1 17 = .ok (.iload 4, 2) := by decide +kernel
theorem d11_spent_19 : decode m11_spent.2.1 19 = .ok (.iconst 0, 1) := by decide +kernel
theorem d11_spent_20 : decode m11_spent.2.1 20 = .ok (.bipush 20, 2) := by decide +kernel
theorem d11_spent_22 : decode m11_spent.2.1 22 = .ok (.invokestatic 135, 3) := by decide +kernel
theorem d11_spent_25 : decode m11_spent.2.1 25 = .ok (.ifCond .eq 9, 3) := by decide +kernel
theorem d11_spent_28 : decode m11_spent.2.1 28 = .ok (.iload 5, 2) := by decide +kernel
theorem d11_spent_30 : decode m11_spent.2.1 30 = .ok (.iconst (-1), 1) := by decide +kernel
theorem d11_spent_31 : decode m11_spent.2.1 31 = .ok (.if_icmp .ge 5, 3) := by decide +kernel
theorem d11_spent_34 : decode m11_spent.2.1 34 = .ok (.iconst (-1), 1) := by decide +kernel
theorem d11_spent_35 : decode m11_spent.2.1 35 = .ok (.ireturn, 1) := by decide +kernel
theorem d11_spent_36 : decode m11_spent.2.1 36 = .ok (.iconst 0, 1) := by decide +kernel
theorem d11_spent_37 : decode m11_spent.2.1 37 = .ok (.istore 6, 2) := by decide +kernel
theorem d11_spent_39 : decode m11_spent.2.1 39 = .ok (.iload 6, 2) := by decide +kernel
theorem d11_spent_41 : decode m11_spent.2.1 41 = .ok (.aload_n 0, 1) := by decide +kernel
theorem d11_spent_42 : decode m11_spent.2.1 42 = .ok (.getfield 195, 3) := by decide +kernel
theorem d11_spent_45 : decode m11_spent.2.1 45 = .ok (.if_icmp .ge 22, 3) := by decide +kernel
theorem d11_spent_48 : decode m11_spent.2.1 48 = .ok (.aload_n 0, 1) := by decide +kernel
theorem d11_spent_49 : decode m11_spent.2.1 49 = .ok (.getfield 41, 3) := by decide +kernel
theorem d11_spent_52 : decode m11_spent.2.1 52 = .ok (.iload 6, 2) := by decide +kernel
theorem d11_spent_54 : decode m11_spent.2.1 54 = .ok (.aload_n 0, 1) := by decide +kernel
theorem d11_spent_55 : decode m11_spent.2.1 55 = .ok (.iload 6, 2) := by decide +kernel
theorem d11_spent_57 : decode m11_spent.2.1 57 = .ok (.invokevirtual 213, 3) := by decide +kernel
theorem d11_spent_60 : decode m11_spent.2.1 60 = .ok (.iastore, 1) := by decide +kernel
theorem d11_spent_61 : decode m11_spent.2.1 61 = .ok (.iinc 6 1, 3) := by decide +kernel
theorem d11_spent_64 : decode m11_spent.2.1 64 = .ok (.goto (-25), 3) := by decide +kernel
theorem d11_spent_67 : decode m11_spent.2.1 67 = .ok (.iconst 0, 1) := by decide +kernel
theorem d11_spent_68 : decode m11_spent.2.1 68 = .ok (.istore 6, 2) := by decide +kernel
theorem d11_spent_70 : decode m11_spent.2.1 70 = .ok (.iconst 0, 1) := by decide +kernel
theorem d11_spent_71 : decode m11_spent.2.1 71 = .ok (.istore 7, 2) := by decide +kernel
theorem d11_spent_73 : decode m11_spent.2.1 73 = .ok (.iconst 0, 1) := by decide +kernel
theorem d11_spent_74 : decode m11_spent.2.1 74 = .ok (.istore 8, 2) := by decide +kernel
theorem d11_spent_76 : decode m11_spent.2.1 76 = .ok (.iload 8, 2) := by decide +kernel
theorem d11_spent_78 : decode m11_spent.2.1 78 = .ok (.iload 4, 2) := by decide +kernel
theorem d11_spent_80 : decode m11_spent.2.1 80 = .ok (.if_icmp .ge 173, 3) := by decide +kernel
theorem d11_spent_83 : decode m11_spent.2.1 83 = .ok (.iconst (-1), 1) := by decide +kernel
theorem d11_spent_84 : decode m11_spent.2.1 84 = .ok (.istore 9, 2) := by decide +kernel
theorem d11_spent_86 : decode m11_spent.2.1 86 = .ok (.iconst 0, 1) := by decide +kernel
theorem d11_spent_87 : decode m11_spent.2.1 87 = .ok (.istore 10, 2) := by decide +kernel
theorem d11_spent_89 : decode m11_spent.2.1 89 = .ok (.iload 10, 2) := by decide +kernel
theorem d11_spent_91 : decode m11_spent.2.1 91 = .ok (.aload_n 0, 1) := by decide +kernel
theorem d11_spent_92 : decode m11_spent.2.1 92 = .ok (.getfield 195, 3) := by decide +kernel
theorem d11_spent_95 : decode m11_spent.2.1 95 = .ok (.if_icmp .ge 69, 3) := by decide +kernel
theorem d11_spent_98 : decode m11_spent.2.1 98 = .ok (.aload_n 0, 1) := by decide +kernel
theorem d11_spent_99 : decode m11_spent.2.1 99 = .ok (.iload_n 2, 1) := by decide +kernel
theorem d11_spent_100 : decode m11_spent.2.1 100 = .ok (.iload_n 3, 1) := by decide +kernel
theorem d11_spent_101 : decode m11_spent.2.1 101 = .ok (.iload 10, 2) := by decide +kernel
theorem d11_spent_103 : decode m11_spent.2.1 103 = .ok (.invokevirtual 231, 3) := by decide +kernel
theorem d11_spent_106 : decode m11_spent.2.1 106 = .ok (.ifCond .le 52, 3) := by decide +kernel
theorem d11_spent_109 : decode m11_spent.2.1 109 = .ok (.aload_n 0, 1) := by decide +kernel
theorem d11_spent_110 : decode m11_spent.2.1 110 = .ok (.iload_n 2, 1) := by decide +kernel
theorem d11_spent_111 : decode m11_spent.2.1 111 = .ok (.iload_n 3, 1) := by decide +kernel
theorem d11_spent_112 : decode m11_spent.2.1 112 = .ok (.iload 10, 2) := by decide +kernel
theorem d11_spent_114 : decode m11_spent.2.1 114 = .ok (.invokevirtual 231, 3) := by decide +kernel
theorem d11_spent_117 : decode m11_spent.2.1 117 = .ok (.aload_n 0, 1) := by decide +kernel
theorem d11_spent_118 : decode m11_spent.2.1 118 = .ok (.getfield 41, 3) := by decide +kernel
theorem d11_spent_121 : decode m11_spent.2.1 121 = .ok (.iload 10, 2) := by decide +kernel
theorem d11_spent_123 : decode m11_spent.2.1 123 = .ok (.iaload, 1) := by decide +kernel
theorem d11_spent_124 : decode m11_spent.2.1 124 = .ok (.imul, 1) := by decide +kernel
theorem d11_spent_125 : decode m11_spent.2.1 125 = .ok (.iload 9, 2) := by decide +kernel
theorem d11_spent_127 : decode m11_spent.2.1 127 = .ok (.iconst (-1), 1) := by decide +kernel
theorem d11_spent_128 : decode m11_spent.2.1 128 = .ok (.if_icmp .ne 7, 3) := by decide +kernel
theorem d11_spent_131 : decode m11_spent.2.1 131 = .ok (.iconst 0, 1) := by decide +kernel
theorem d11_spent_132 : decode m11_spent.2.1 132 = .ok (.goto 19, 3) := by decide +kernel
theorem d11_spent_135 : decode m11_spent.2.1 135 = .ok (.aload_n 0, 1) := by decide +kernel
theorem d11_spent_136 : decode m11_spent.2.1 136 = .ok (.iload_n 2, 1) := by decide +kernel
theorem d11_spent_137 : decode m11_spent.2.1 137 = .ok (.iload_n 3, 1) := by decide +kernel
theorem d11_spent_138 : decode m11_spent.2.1 138 = .ok (.iload 9, 2) := by decide +kernel
theorem d11_spent_140 : decode m11_spent.2.1 140 = .ok (.invokevirtual 231, 3) := by decide +kernel
theorem d11_spent_143 : decode m11_spent.2.1 143 = .ok (.aload_n 0, 1) := by decide +kernel
theorem d11_spent_144 : decode m11_spent.2.1 144 = .ok (.getfield 41, 3) := by decide +kernel
theorem d11_spent_147 : decode m11_spent.2.1 147 = .ok (.iload 9, 2) := by decide +kernel
theorem d11_spent_149 : decode m11_spent.2.1 149 = .ok (.iaload, 1) := by decide +kernel
theorem d11_spent_150 : decode m11_spent.2.1 150 = .ok (.imul, 1) := by decide +kernel
theorem d11_spent_151 : decode m11_spent.2.1 151 = .ok (.if_icmp .le 7, 3) := by decide +kernel
theorem d11_spent_154 : decode m11_spent.2.1 154 = .ok (.iload 10, 2) := by decide +kernel
theorem d11_spent_156 : decode m11_spent.2.1 156 = .ok (.istore 9, 2) := by decide +kernel
theorem d11_spent_158 : decode m11_spent.2.1 158 = .ok (.iinc 10 1, 3) := by decide +kernel
theorem d11_spent_161 : decode m11_spent.2.1 161 = .ok (.goto (-72), 3) := by decide +kernel
theorem d11_spent_164 : decode m11_spent.2.1 164 = .ok (.iload 9, 2) := by decide +kernel
theorem d11_spent_166 : decode m11_spent.2.1 166 = .ok (.iconst (-1), 1) := by decide +kernel
theorem d11_spent_167 : decode m11_spent.2.1 167 = .ok (.if_icmp .ne 6, 3) := by decide +kernel
theorem d11_spent_170 : decode m11_spent.2.1 170 = .ok (.goto 83, 3) := by decide +kernel
theorem d11_spent_173 : decode m11_spent.2.1 173 = .ok (.iload 6, 2) := by decide +kernel
theorem d11_spent_175 : decode m11_spent.2.1 175 = .ok (.aload_n 0, 1) := by decide +kernel
theorem d11_spent_176 : decode m11_spent.2.1 176 = .ok (.iload_n 2, 1) := by decide +kernel
theorem d11_spent_177 : decode m11_spent.2.1 177 = .ok (.iload_n 3, 1) := by decide +kernel
theorem d11_spent_178 : decode m11_spent.2.1 178 = .ok (.iload 9, 2) := by decide +kernel
theorem d11_spent_180 : decode m11_spent.2.1 180 = .ok (.invokevirtual 231, 3) := by decide +kernel
theorem d11_spent_183 : decode m11_spent.2.1 183 = .ok (.aload_n 0, 1) := by decide +kernel
theorem d11_spent_184 : decode m11_spent.2.1 184 = .ok (.getfield 41, 3) := by decide +kernel
theorem d11_spent_187 : decode m11_spent.2.1 187 = .ok (.iload 9, 2) := by decide +kernel
theorem d11_spent_189 : decode m11_spent.2.1 189 = .ok (.iaload, 1) := by decide +kernel
theorem d11_spent_190 : decode m11_spent.2.1 190 = .ok (.imul, 1) := by decide +kernel
theorem d11_spent_191 : decode m11_spent.2.1 191 = .ok (.iadd, 1) := by decide +kernel
theorem d11_spent_192 : decode m11_spent.2.1 192 = .ok (.istore 6, 2) := by decide +kernel
theorem d11_spent_194 : decode m11_spent.2.1 194 = .ok (.aload_n 0, 1) := by decide +kernel
theorem d11_spent_195 : decode m11_spent.2.1 195 = .ok (.getfield 41, 3) := by decide +kernel
theorem d11_spent_198 : decode m11_spent.2.1 198 = .ok (.iload 9, 2) := by decide +kernel
theorem d11_spent_200 : decode m11_spent.2.1 200 = .ok (.aload_n 0, 1) := by decide +kernel
theorem d11_spent_201 : decode m11_spent.2.1 201 = .ok (.getfield 41, 3) := by decide +kernel
theorem d11_spent_204 : decode m11_spent.2.1 204 = .ok (.iload 9, 2) := by decide +kernel
theorem d11_spent_206 : decode m11_spent.2.1 206 = .ok (.iaload, 1) := by decide +kernel
theorem d11_spent_207 : decode m11_spent.2.1 207 = .ok (.aload_n 0, 1) := by decide +kernel
theorem d11_spent_208 : decode m11_spent.2.1 208 = .ok (.iload 9, 2) := by decide +kernel
theorem d11_spent_210 : decode m11_spent.2.1 210 = .ok (.invokevirtual 216, 3) := by decide +kernel
theorem d11_spent_213 : decode m11_spent.2.1 213 = .ok (.if_icmp .le 20, 3) := by decide +kernel
theorem d11_spent_216 : decode m11_spent.2.1 216 = .ok (.aload_n 0, 1) := by decide +kernel
theorem d11_spent_217 : decode m11_spent.2.1 217 = .ok (.getfield 41, 3) := by decide +kernel
theorem d11_spent_220 : decode m11_spent.2.1 220 = .ok (.iload 9, 2) := by decide +kernel
theorem d11_spent_222 : decode m11_spent.2.1 222 = .ok (.iaload, 1) := by decide +kernel
theorem d11_spent_223 : decode m11_spent.2.1 223 = .ok (.aload_n 0, 1) := by decide +kernel
theorem d11_spent_224 : decode m11_spent.2.1 224 = .ok (.iload 9, 2) := by decide +kernel
theorem d11_spent_226 : decode m11_spent.2.1 226 = .ok (.invokevirtual 216, 3) := by decide +kernel
theorem d11_spent_229 : decode m11_spent.2.1 229 = .ok (.isub, 1) := by decide +kernel
theorem d11_spent_230 : decode m11_spent.2.1 230 = .ok (.goto 4, 3) := by decide +kernel
theorem d11_spent_233 : decode m11_spent.2.1 233 = .ok (.iconst 0, 1) := by decide +kernel
theorem d11_spent_234 : decode m11_spent.2.1 234 = .ok (.iastore, 1) := by decide +kernel
theorem d11_spent_235 : decode m11_spent.2.1 235 = .ok (.aload_n 0, 1) := by decide +kernel
theorem d11_spent_236 : decode m11_spent.2.1 236 = .ok (.getfield 44, 3) := by decide +kernel
theorem d11_spent_239 : decode m11_spent.2.1 239 = .ok (.iload 7, 2) := by decide +kernel
theorem d11_spent_241 : decode m11_spent.2.1 241 = .ok (.iload 9, 2) := by decide +kernel
theorem d11_spent_243 : decode m11_spent.2.1 243 = .ok (.iastore, 1) := by decide +kernel
theorem d11_spent_244 : decode m11_spent.2.1 244 = .ok (.iinc 7 1, 3) := by decide +kernel
theorem d11_spent_247 : decode m11_spent.2.1 247 = .ok (.iinc 8 1, 3) := by decide +kernel
theorem d11_spent_250 : decode m11_spent.2.1 250 = .ok (.goto (-174), 3) := by decide +kernel
theorem d11_spent_253 : decode m11_spent.2.1 253 = .ok (.iload 5, 2) := by decide +kernel
theorem d11_spent_255 : decode m11_spent.2.1 255 = .ok (.iconst (-1), 1) := by decide +kernel
theorem d11_spent_256 : decode m11_spent.2.1 256 = .ok (.if_icmp .ne 8, 3) := by decide +kernel
theorem d11_spent_259 : decode m11_spent.2.1 259 = .ok (.iload 6, 2) := by decide +kernel
theorem d11_spent_261 : decode m11_spent.2.1 261 = .ok (.goto 21, 3) := by decide +kernel
theorem d11_spent_264 : decode m11_spent.2.1 264 = .ok (.iload 5, 2) := by decide +kernel
theorem d11_spent_266 : decode m11_spent.2.1 266 = .ok (.iload 7, 2) := by decide +kernel
theorem d11_spent_268 : decode m11_spent.2.1 268 = .ok (.if_icmp .ge 13, 3) := by decide +kernel
theorem d11_spent_271 : decode m11_spent.2.1 271 = .ok (.aload_n 0, 1) := by decide +kernel
theorem d11_spent_272 : decode m11_spent.2.1 272 = .ok (.getfield 44, 3) := by decide +kernel
theorem d11_spent_275 : decode m11_spent.2.1 275 = .ok (.iload 5, 2) := by decide +kernel
theorem d11_spent_277 : decode m11_spent.2.1 277 = .ok (.iaload, 1) := by decide +kernel
theorem d11_spent_278 : decode m11_spent.2.1 278 = .ok (.goto 4, 3) := by decide +kernel
theorem d11_spent_281 : decode m11_spent.2.1 281 = .ok (.iconst (-1), 1) := by decide +kernel
theorem d11_spent_282 : decode m11_spent.2.1 282 = .ok (.ireturn, 1) := by decide +kernel
def b11_spent_158 (rec76 : Int × Int × Int × AH → Option (Int × AH)) (rec89 : Int × Int × AH → Option (Int × AH)) (x2 : Int) (x3 : Int) (x4 : Int) (x5 : Int) (x6 : Int) (x7 : Int) (x8 : Int) (x9 : Int) (x10 : Int) (h : AH) : Option (Int × AH) :=
  rec89 (x9, (x10 + 1), h)
set_option maxRecDepth 100000 in
theorem t11_spent_158 (l : Launch) (G : Geo) (d : Nat) (hd : 5 ≤ d) (x2 : Int) (x3 : Int) (x4 : Int) (x5 : Int) (x6 : Int) (x7 : Int) (x8 : Int) (x9 : Int) (x10 : Int) (rec76 : Int × Int × Int × AH → Option (Int × AH)) (H76 : ∀ (x6 : Int) (x7 : Int) (x8 : Int) (h : AH), Den l G m11_spent rvI d 76 [some (vA G 69), none, some (vI x2), some (vI x3), some (vI x4), some (vI x5), some (vI x6), some (vI x7), some (vI x8), none, none] [] h (rec76 (x6, x7, x8, h))) (rec89 : Int × Int × AH → Option (Int × AH)) (H89 : ∀ (x9 : Int) (x10 : Int) (h : AH), Den l G m11_spent rvI d 89 [some (vA G 69), none, some (vI x2), some (vI x3), some (vI x4), some (vI x5), some (vI x6), some (vI x7), some (vI x8), some (vI x9), some (vI x10)] [] h (rec89 (x9, x10, h))) (h : AH) : Den l G m11_spent rvI d 158 [some (vA G 69), none, some (vI x2), some (vI x3), some (vI x4), some (vI x5), some (vI x6), some (vI x7), some (vI x8), some (vI x9), some (vI x10)] [] h (b11_spent_158 rec76 rec89 x2 x3 x4 x5 x6 x7 x8 x9 x10 h) := by
  unfold b11_spent_158
  refine den_iinc (pc := 158) (L2 := [some (vA G 69), none, some (vI x2), some (vI x3), some (vI x4), some (vI x5), some (vI x6), some (vI x7), some (vI x8), some (vI x9), some (vI (x10 + 1))]) d11_spent_158 (by decide) rfl rfl ?_
  refine den_goto (pc := 161) (tgt := 89) d11_spent_161 (by decide) ?_
  exact H89 x9 (x10 + 1) h
def b11_spent_151 (rec76 : Int × Int × Int × AH → Option (Int × AH)) (rec89 : Int × Int × AH → Option (Int × AH)) (x2 : Int) (x3 : Int) (x4 : Int) (x5 : Int) (x6 : Int) (x7 : Int) (x8 : Int) (x9 : Int) (x10 : Int) (s0 : Int) (s1 : Int) (h : AH) : Option (Int × AH) :=
  if w32 s1 ≤ w32 s0 then
    b11_spent_158 rec76 rec89 x2 x3 x4 x5 x6 x7 x8 x9 x10 h
  else
    b11_spent_158 rec76 rec89 x2 x3 x4 x5 x6 x7 x8 x10 x10 h
set_option maxRecDepth 100000 in
theorem t11_spent_151 (l : Launch) (G : Geo) (d : Nat) (hd : 5 ≤ d) (x2 : Int) (x3 : Int) (x4 : Int) (x5 : Int) (x6 : Int) (x7 : Int) (x8 : Int) (x9 : Int) (x10 : Int) (s0 : Int) (s1 : Int) (rec76 : Int × Int × Int × AH → Option (Int × AH)) (H76 : ∀ (x6 : Int) (x7 : Int) (x8 : Int) (h : AH), Den l G m11_spent rvI d 76 [some (vA G 69), none, some (vI x2), some (vI x3), some (vI x4), some (vI x5), some (vI x6), some (vI x7), some (vI x8), none, none] [] h (rec76 (x6, x7, x8, h))) (rec89 : Int × Int × AH → Option (Int × AH)) (H89 : ∀ (x9 : Int) (x10 : Int) (h : AH), Den l G m11_spent rvI d 89 [some (vA G 69), none, some (vI x2), some (vI x3), some (vI x4), some (vI x5), some (vI x6), some (vI x7), some (vI x8), some (vI x9), some (vI x10)] [] h (rec89 (x9, x10, h))) (h : AH) : Den l G m11_spent rvI d 151 [some (vA G 69), none, some (vI x2), some (vI x3), some (vI x4), some (vI x5), some (vI x6), some (vI x7), some (vI x8), some (vI x9), some (vI x10)] [vI s0, vI s1] h (b11_spent_151 rec76 rec89 x2 x3 x4 x5 x6 x7 x8 x9 x10 s0 s1 h) := by
  unfold b11_spent_151
  refine den_icmp_le (pc := 151) (tgt := 158) d11_spent_151 (by decide) rfl rfl (fun _ => ?_) (fun _ => ?_)
  · exact t11_spent_158 l G _ hd x2 x3 x4 x5 x6 x7 x8 x9 x10 rec76 H76 rec89 H89 h
  · refine den_iload (pc := 154) d11_spent_154 rfl ?_
    refine den_istore (pc := 156) (L2 := [some (vA G 69), none, some (vI x2), some (vI x3), some (vI x4), some (vI x5), some (vI x6), some (vI x7), some (vI x8), some (vI x10), some (vI x10)]) d11_spent_156 (by decide) rfl ?_
    exact t11_spent_158 l G _ hd x2 x3 x4 x5 x6 x7 x8 x10 x10 rec76 H76 rec89 H89 h
def b11_spent_234 (rec76 : Int × Int × Int × AH → Option (Int × AH)) (x2 : Int) (x3 : Int) (x4 : Int) (x5 : Int) (x6 : Int) (x7 : Int) (x8 : Int) (x9 : Int) (s0 : Int) (s1 : Int) (h : AH) : Option (Int × AH) :=
  asrt (0 ≤ w32 s1 ∧ w32 s1 < 6) <|
  lt (wr h 80 (w32 s1).toNat s0) fun h2 =>
  asrt (0 ≤ w32 x7 ∧ w32 x7 < 20) <|
  lt (wr h2 81 (w32 x7).toNat x9) fun h5 =>
  rec76 (x6, (x7 + 1), (x8 + 1), h5)
set_option maxRecDepth 100000 in
theorem t11_spent_234 (l : Launch) (G : Geo) (d : Nat) (hd : 5 ≤ d) (x2 : Int) (x3 : Int) (x4 : Int) (x5 : Int) (x6 : Int) (x7 : Int) (x8 : Int) (x9 : Int) (s0 : Int) (s1 : Int) (rec76 : Int × Int × Int × AH → Option (Int × AH)) (H76 : ∀ (x6 : Int) (x7 : Int) (x8 : Int) (h : AH), Den l G m11_spent rvI d 76 [some (vA G 69), none, some (vI x2), some (vI x3), some (vI x4), some (vI x5), some (vI x6), some (vI x7), some (vI x8), none, none] [] h (rec76 (x6, x7, x8, h))) (h : AH) : Den l G m11_spent rvI d 234 [some (vA G 69), none, some (vI x2), some (vI x3), some (vI x4), some (vI x5), some (vI x6), some (vI x7), some (vI x8), some (vI x9), none] [vI s0, vI s1, vA G 80] h (b11_spent_234 rec76 x2 x3 x4 x5 x6 x7 x8 x9 s0 s1 h) := by
  unfold b11_spent_234
  refine den_asrt (fun a1 => ?_)
  refine den_iastore (pc := 234) sh_80 (sz_lt (by decide)) rfl a1 d11_spent_234 ?_
  refine den_ltH (fun h2 m3 => ?_)
  refine den_aload_n (pc := 235) d11_spent_235 rfl rfl ?_
  refine den_getR (pc := 236) (b := 81) fa_11_44 (ok_69 _) rfl d11_spent_236 ?_
  refine den_iload (pc := 239) d11_spent_239 rfl ?_
  refine den_iload (pc := 241) d11_spent_241 rfl ?_
  refine den_asrt (fun a4 => ?_)
  refine den_iastore (pc := 243) sh_81 (sz_lt (by decide)) rfl a4 d11_spent_243 ?_
  refine den_ltH (fun h5 m6 => ?_)
  refine den_iinc (pc := 244) (L2 := [some (vA G 69), none, some (vI x2), some (vI x3), some (vI x4), some (vI x5), some (vI x6), some (vI (x7 + 1)), some (vI x8), some (vI x9), none]) d11_spent_244 (by decide) rfl rfl ?_
  refine den_iinc (pc := 247) (L2 := [some (vA G 69), none, some (vI x2), some (vI x3), some (vI x4), some (vI x5), some (vI x6), some (vI (x7 + 1)), some (vI (x8 + 1)), some (vI x9), none]) d11_spent_247 (by decide) rfl rfl ?_
  refine den_goto (pc := 250) (tgt := 76) d11_spent_250 (by decide) ?_
  refine den_wk [true, true, true, true, true, true, true, true, true, false, true] rfl ?_
  exact H76 x6 (x7 + 1) (x8 + 1) h5
def b11_spent_253 (x5 : Int) (x6 : Int) (x7 : Int) (h : AH) : Option (Int × AH) :=
  if ¬ w32 x5 = (-1) then
    if w32 x7 ≤ w32 x5 then
      some ((-1), h)
    else
      asrt (0 ≤ w32 x5 ∧ w32 x5 < 20) <|
      some (h.2 81 (w32 x5).toNat, h)
  else
    some (x6, h)
set_option maxRecDepth 100000 in
theorem t11_spent_253 (l : Launch) (G : Geo) (d : Nat) (hd : 5 ≤ d) (x5 : Int) (x6 : Int) (x7 : Int) (h : AH) : Den l G m11_spent rvI d 253 [some (vA G 69), none, none, none, none, some (vI x5), some (vI x6), some (vI x7), none, none, none] [] h (b11_spent_253 x5 x6 x7 h) := by
  unfold b11_spent_253
  refine den_iload (pc := 253) d11_spent_253 rfl ?_
  refine den_iconst (pc := 255) d11_spent_255 ?_
  refine den_icmp_ne (pc := 256) (tgt := 264) d11_spent_256 (by decide) rfl (by decide) (fun _ => ?_) (fun _ => ?_)
  · refine den_iload (pc := 264) d11_spent_264 rfl ?_
    refine den_iload (pc := 266) d11_spent_266 rfl ?_
    refine den_icmp_ge (pc := 268) (tgt := 281) d11_spent_268 (by decide) rfl rfl (fun _ => ?_) (fun _ => ?_)
    · refine den_iconst (pc := 281) d11_spent_281 ?_
      exact den_iret (pc := 282) rfl d11_spent_282
    · refine den_aload_n (pc := 271) d11_spent_271 rfl rfl ?_
      refine den_getR (pc := 272) (b := 81) fa_11_44 (ok_69 _) rfl d11_spent_272 ?_
      refine den_iload (pc := 275) d11_spent_275 rfl ?_
      refine den_asrt (fun a7 => ?_)
      refine den_iaload (pc := 277) sh_81 (sz_lt (by decide)) rfl a7 d11_spent_277 ?_
      refine den_goto (pc := 278) (tgt := 282) d11_spent_278 (by decide) ?_
      exact den_iret (pc := 282) rfl d11_spent_282
  · refine den_iload (pc := 259) d11_spent_259 rfl ?_
    refine den_goto (pc := 261) (tgt := 282) d11_spent_261 (by decide) ?_
    exact den_iret (pc := 282) rfl d11_spent_282
def b11_spent_89 (rec89 : Int × Int × AH → Option (Int × AH)) (rec76 : Int × Int × Int × AH → Option (Int × AH)) (x2 : Int) (x3 : Int) (x4 : Int) (x5 : Int) (x6 : Int) (x7 : Int) (x8 : Int) (x9 : Int) (x10 : Int) (h : AH) : Option (Int × AH) :=
  if w32 (h.2 69 14) ≤ w32 x10 then
    if ¬ w32 x9 = (-1) then
      bnd (f11_apartOf x2 x3 x9 h) fun r8 h9 =>
      asrt (0 ≤ w32 x9 ∧ w32 x9 < 6) <|
      lt (x6 + (r8 * (h9.2 80 (w32 x9).toNat))) fun u13 =>
      asrt (0 ≤ w32 x9 ∧ w32 x9 < 6) <|
      bnd (f11_fadesOf x9 h9) fun r15 h16 =>
      if w32 (h9.2 80 (w32 x9).toNat) ≤ w32 r15 then
        b11_spent_234 rec76 x2 x3 x4 x5 u13 x7 x8 x9 0 x9 h16
      else
        asrt (0 ≤ w32 x9 ∧ w32 x9 < 6) <|
        bnd (f11_fadesOf x9 h16) fun r20 h21 =>
        b11_spent_234 rec76 x2 x3 x4 x5 u13 x7 x8 x9 ((h16.2 80 (w32 x9).toNat) - r20) x9 h21
    else
      b11_spent_253 x5 x6 x7 h
  else
    bnd (f11_apartOf x2 x3 x10 h) fun r24 h25 =>
    if w32 r24 ≤ 0 then
      b11_spent_158 rec76 rec89 x2 x3 x4 x5 x6 x7 x8 x9 x10 h25
    else
      bnd (f11_apartOf x2 x3 x10 h25) fun r28 h29 =>
      asrt (0 ≤ w32 x10 ∧ w32 x10 < 6) <|
      if ¬ w32 x9 = (-1) then
        bnd (f11_apartOf x2 x3 x9 h29) fun r33 h34 =>
        asrt (0 ≤ w32 x9 ∧ w32 x9 < 6) <|
        b11_spent_151 rec76 rec89 x2 x3 x4 x5 x6 x7 x8 x9 x10 (r33 * (h34.2 80 (w32 x9).toNat)) (r28 * (h29.2 80 (w32 x10).toNat)) h34
      else
        b11_spent_151 rec76 rec89 x2 x3 x4 x5 x6 x7 x8 x9 x10 0 (r28 * (h29.2 80 (w32 x10).toNat)) h29
set_option maxRecDepth 100000 in
theorem t11_spent_89 (l : Launch) (G : Geo) (d : Nat) (hd : 5 ≤ d) (x2 : Int) (x3 : Int) (x4 : Int) (x5 : Int) (x6 : Int) (x7 : Int) (x8 : Int) (x9 : Int) (x10 : Int) (rec89 : Int × Int × AH → Option (Int × AH)) (H89 : ∀ (x9 : Int) (x10 : Int) (h : AH), Den l G m11_spent rvI d 89 [some (vA G 69), none, some (vI x2), some (vI x3), some (vI x4), some (vI x5), some (vI x6), some (vI x7), some (vI x8), some (vI x9), some (vI x10)] [] h (rec89 (x9, x10, h))) (rec76 : Int × Int × Int × AH → Option (Int × AH)) (H76 : ∀ (x6 : Int) (x7 : Int) (x8 : Int) (h : AH), Den l G m11_spent rvI d 76 [some (vA G 69), none, some (vI x2), some (vI x3), some (vI x4), some (vI x5), some (vI x6), some (vI x7), some (vI x8), none, none] [] h (rec76 (x6, x7, x8, h))) (h : AH) : Den l G m11_spent rvI d 89 [some (vA G 69), none, some (vI x2), some (vI x3), some (vI x4), some (vI x5), some (vI x6), some (vI x7), some (vI x8), some (vI x9), some (vI x10)] [] h (b11_spent_89 rec89 rec76 x2 x3 x4 x5 x6 x7 x8 x9 x10 h) := by
  unfold b11_spent_89
  refine den_iload (pc := 89) d11_spent_89 rfl ?_
  refine den_aload_n (pc := 91) d11_spent_91 rfl rfl ?_
  refine den_getI (pc := 92) fa_11_195 (ok_69 _) d11_spent_92 ?_
  refine den_icmp_ge (pc := 95) (tgt := 164) d11_spent_95 (by decide) rfl rfl (fun _ => ?_) (fun _ => ?_)
  · refine den_iload (pc := 164) d11_spent_164 rfl ?_
    refine den_iconst (pc := 166) d11_spent_166 ?_
    refine den_icmp_ne (pc := 167) (tgt := 173) d11_spent_167 (by decide) rfl (by decide) (fun _ => ?_) (fun _ => ?_)
    · refine den_iload (pc := 173) d11_spent_173 rfl ?_
      refine den_aload_n (pc := 175) d11_spent_175 rfl rfl ?_
      refine den_iload_n (pc := 176) d11_spent_176 rfl rfl ?_
      refine den_iload_n (pc := 177) d11_spent_177 rfl rfl ?_
      refine den_iload (pc := 178) d11_spent_178 rfl ?_
      refine den_callVI (pc := 180) (As := [vI x2, vI x3, vI x9]) fv_11_231 rfl rfl (ok_69 _) (Nat.le_of_ble_eq_true rfl) (Nat.le_trans (by decide) hd) d11_spent_180 (c11_apartOf l G x2 x3 x9 h) (fun r8 h9 m10 o11 => ?_)
      refine den_aload_n (pc := 183) d11_spent_183 rfl rfl ?_
      refine den_getR (pc := 184) (b := 80) fa_11_41 (ok_69 _) rfl d11_spent_184 ?_
      refine den_iload (pc := 187) d11_spent_187 rfl ?_
      refine den_asrt (fun a12 => ?_)
      refine den_iaload (pc := 189) sh_80 (sz_lt (by decide)) rfl a12 d11_spent_189 ?_
      refine den_imul (pc := 190) d11_spent_190 ?_
      refine den_iadd (pc := 191) d11_spent_191 ?_
      refine den_istoreL (pc := 192) (L2 := fun y => [some (vA G 69), none, some (vI x2), some (vI x3), some (vI x4), some (vI x5), some (vI y), some (vI x7), some (vI x8), some (vI x9), some (vI x10)]) d11_spent_192 (by decide) (fun _ => rfl) (fun u13 => ?_)
      refine den_aload_n (pc := 194) d11_spent_194 rfl rfl ?_
      refine den_getR (pc := 195) (b := 80) fa_11_41 (ok_69 _) rfl d11_spent_195 ?_
      refine den_iload (pc := 198) d11_spent_198 rfl ?_
      refine den_aload_n (pc := 200) d11_spent_200 rfl rfl ?_
      refine den_getR (pc := 201) (b := 80) fa_11_41 (ok_69 _) rfl d11_spent_201 ?_
      refine den_iload (pc := 204) d11_spent_204 rfl ?_
      refine den_asrt (fun a14 => ?_)
      refine den_iaload (pc := 206) sh_80 (sz_lt (by decide)) rfl a14 d11_spent_206 ?_
      refine den_aload_n (pc := 207) d11_spent_207 rfl rfl ?_
      refine den_iload (pc := 208) d11_spent_208 rfl ?_
      refine den_callVI (pc := 210) (As := [vI x9]) fv_11_216 rfl rfl (ok_69 _) (Nat.le_of_ble_eq_true rfl) (Nat.le_trans (by decide) hd) d11_spent_210 (c11_fadesOf l G x9 h9) (fun r15 h16 m17 o18 => ?_)
      refine den_icmp_le (pc := 213) (tgt := 233) d11_spent_213 (by decide) rfl rfl (fun _ => ?_) (fun _ => ?_)
      · refine den_iconst (pc := 233) d11_spent_233 ?_
        refine den_wk [true, true, true, true, true, true, true, true, true, true, false] rfl ?_
        exact t11_spent_234 l G _ hd x2 x3 x4 x5 u13 x7 x8 x9 0 x9 rec76 H76 h16
      · refine den_aload_n (pc := 216) d11_spent_216 rfl rfl ?_
        refine den_getR (pc := 217) (b := 80) fa_11_41 (ok_69 _) rfl d11_spent_217 ?_
        refine den_iload (pc := 220) d11_spent_220 rfl ?_
        refine den_asrt (fun a19 => ?_)
        refine den_iaload (pc := 222) sh_80 (sz_lt (by decide)) rfl a19 d11_spent_222 ?_
        refine den_aload_n (pc := 223) d11_spent_223 rfl rfl ?_
        refine den_iload (pc := 224) d11_spent_224 rfl ?_
        refine den_callVI (pc := 226) (As := [vI x9]) fv_11_216 rfl rfl (ok_69 _) (Nat.le_of_ble_eq_true rfl) (Nat.le_trans (by decide) hd) d11_spent_226 (c11_fadesOf l G x9 h16) (fun r20 h21 m22 o23 => ?_)
        refine den_isub (pc := 229) d11_spent_229 ?_
        refine den_goto (pc := 230) (tgt := 234) d11_spent_230 (by decide) ?_
        refine den_wk [true, true, true, true, true, true, true, true, true, true, false] rfl ?_
        exact t11_spent_234 l G _ hd x2 x3 x4 x5 u13 x7 x8 x9 ((h16.2 80 (w32 x9).toNat) - r20) x9 rec76 H76 h21
    · refine den_goto (pc := 170) (tgt := 253) d11_spent_170 (by decide) ?_
      refine den_wk [true, true, false, false, false, true, true, true, false, false, false] rfl ?_
      exact t11_spent_253 l G _ hd x5 x6 x7 h
  · refine den_aload_n (pc := 98) d11_spent_98 rfl rfl ?_
    refine den_iload_n (pc := 99) d11_spent_99 rfl rfl ?_
    refine den_iload_n (pc := 100) d11_spent_100 rfl rfl ?_
    refine den_iload (pc := 101) d11_spent_101 rfl ?_
    refine den_callVI (pc := 103) (As := [vI x2, vI x3, vI x10]) fv_11_231 rfl rfl (ok_69 _) (Nat.le_of_ble_eq_true rfl) (Nat.le_trans (by decide) hd) d11_spent_103 (c11_apartOf l G x2 x3 x10 h) (fun r24 h25 m26 o27 => ?_)
    refine den_if_le (pc := 106) (tgt := 158) d11_spent_106 (by decide) rfl (fun _ => ?_) (fun _ => ?_)
    · exact t11_spent_158 l G _ hd x2 x3 x4 x5 x6 x7 x8 x9 x10 rec76 H76 rec89 H89 h25
    · refine den_aload_n (pc := 109) d11_spent_109 rfl rfl ?_
      refine den_iload_n (pc := 110) d11_spent_110 rfl rfl ?_
      refine den_iload_n (pc := 111) d11_spent_111 rfl rfl ?_
      refine den_iload (pc := 112) d11_spent_112 rfl ?_
      refine den_callVI (pc := 114) (As := [vI x2, vI x3, vI x10]) fv_11_231 rfl rfl (ok_69 _) (Nat.le_of_ble_eq_true rfl) (Nat.le_trans (by decide) hd) d11_spent_114 (c11_apartOf l G x2 x3 x10 h25) (fun r28 h29 m30 o31 => ?_)
      refine den_aload_n (pc := 117) d11_spent_117 rfl rfl ?_
      refine den_getR (pc := 118) (b := 80) fa_11_41 (ok_69 _) rfl d11_spent_118 ?_
      refine den_iload (pc := 121) d11_spent_121 rfl ?_
      refine den_asrt (fun a32 => ?_)
      refine den_iaload (pc := 123) sh_80 (sz_lt (by decide)) rfl a32 d11_spent_123 ?_
      refine den_imul (pc := 124) d11_spent_124 ?_
      refine den_iload (pc := 125) d11_spent_125 rfl ?_
      refine den_iconst (pc := 127) d11_spent_127 ?_
      refine den_icmp_ne (pc := 128) (tgt := 135) d11_spent_128 (by decide) rfl (by decide) (fun _ => ?_) (fun _ => ?_)
      · refine den_aload_n (pc := 135) d11_spent_135 rfl rfl ?_
        refine den_iload_n (pc := 136) d11_spent_136 rfl rfl ?_
        refine den_iload_n (pc := 137) d11_spent_137 rfl rfl ?_
        refine den_iload (pc := 138) d11_spent_138 rfl ?_
        refine den_callVI (pc := 140) (As := [vI x2, vI x3, vI x9]) fv_11_231 rfl rfl (ok_69 _) (Nat.le_of_ble_eq_true rfl) (Nat.le_trans (by decide) hd) d11_spent_140 (c11_apartOf l G x2 x3 x9 h29) (fun r33 h34 m35 o36 => ?_)
        refine den_aload_n (pc := 143) d11_spent_143 rfl rfl ?_
        refine den_getR (pc := 144) (b := 80) fa_11_41 (ok_69 _) rfl d11_spent_144 ?_
        refine den_iload (pc := 147) d11_spent_147 rfl ?_
        refine den_asrt (fun a37 => ?_)
        refine den_iaload (pc := 149) sh_80 (sz_lt (by decide)) rfl a37 d11_spent_149 ?_
        refine den_imul (pc := 150) d11_spent_150 ?_
        exact t11_spent_151 l G _ hd x2 x3 x4 x5 x6 x7 x8 x9 x10 (r33 * (h34.2 80 (w32 x9).toNat)) (r28 * (h29.2 80 (w32 x10).toNat)) rec76 H76 rec89 H89 h34
      · refine den_iconst (pc := 131) d11_spent_131 ?_
        refine den_goto (pc := 132) (tgt := 151) d11_spent_132 (by decide) ?_
        exact t11_spent_151 l G _ hd x2 x3 x4 x5 x6 x7 x8 x9 x10 0 (r28 * (h29.2 80 (w32 x10).toNat)) rec76 H76 rec89 H89 h29
def l11_spent_89 (rec76 : Int × Int × Int × AH → Option (Int × AH)) (x2 : Int) (x3 : Int) (x4 : Int) (x5 : Int) (x6 : Int) (x7 : Int) (x8 : Int) (x9 : Int) (x10 : Int) (h : AH) : Option (Int × AH) := fx (fun rec z => b11_spent_89 rec rec76 x2 x3 x4 x5 x6 x7 x8 z.1 z.2.1 z.2.2) FU (x9, x10, h)
set_option maxRecDepth 100000 in
theorem tl11_spent_89 (l : Launch) (G : Geo) (d : Nat) (hd : 5 ≤ d) (x2 : Int) (x3 : Int) (x4 : Int) (x5 : Int) (x6 : Int) (x7 : Int) (x8 : Int) (rec76 : Int × Int × Int × AH → Option (Int × AH)) (H76 : ∀ (x6 : Int) (x7 : Int) (x8 : Int) (h : AH), Den l G m11_spent rvI d 76 [some (vA G 69), none, some (vI x2), some (vI x3), some (vI x4), some (vI x5), some (vI x6), some (vI x7), some (vI x8), none, none] [] h (rec76 (x6, x7, x8, h))) : ∀ (n : Nat) (z : Int × Int × AH), True → Den l G m11_spent rvI d 89 [some (vA G 69), none, some (vI x2), some (vI x3), some (vI x4), some (vI x5), some (vI x6), some (vI x7), some (vI x8), some (vI z.1), some (vI z.2.1)] [] z.2.2 (fx (fun rec z => b11_spent_89 rec rec76 x2 x3 x4 x5 x6 x7 x8 z.1 z.2.1 z.2.2) n z) :=
  den_fx (F := fun rec z => b11_spent_89 rec rec76 x2 x3 x4 x5 x6 x7 x8 z.1 z.2.1 z.2.2) (P := fun z => True) (fL := fun z => [some (vA G 69), none, some (vI x2), some (vI x3), some (vI x4), some (vI x5), some (vI x6), some (vI x7), some (vI x8), some (vI z.1), some (vI z.2.1)]) (fs := fun z => []) (fh := fun z => z.2.2) (fun rec hrec z hz => t11_spent_89 l G d hd x2 x3 x4 x5 x6 x7 x8 z.1 z.2.1 rec (fun x9 x10 h => hrec (x9, x10, h) trivial) rec76 H76 z.2.2 )
def b11_spent_76 (rec76 : Int × Int × Int × AH → Option (Int × AH)) (x2 : Int) (x3 : Int) (x4 : Int) (x5 : Int) (x6 : Int) (x7 : Int) (x8 : Int) (h : AH) : Option (Int × AH) :=
  if w32 x4 ≤ w32 x8 then
    b11_spent_253 x5 x6 x7 h
  else
    l11_spent_89 rec76 x2 x3 x4 x5 x6 x7 x8 (-1) 0 h
set_option maxRecDepth 100000 in
theorem t11_spent_76 (l : Launch) (G : Geo) (d : Nat) (hd : 5 ≤ d) (x2 : Int) (x3 : Int) (x4 : Int) (x5 : Int) (x6 : Int) (x7 : Int) (x8 : Int) (rec76 : Int × Int × Int × AH → Option (Int × AH)) (H76 : ∀ (x6 : Int) (x7 : Int) (x8 : Int) (h : AH), Den l G m11_spent rvI d 76 [some (vA G 69), none, some (vI x2), some (vI x3), some (vI x4), some (vI x5), some (vI x6), some (vI x7), some (vI x8), none, none] [] h (rec76 (x6, x7, x8, h))) (h : AH) : Den l G m11_spent rvI d 76 [some (vA G 69), none, some (vI x2), some (vI x3), some (vI x4), some (vI x5), some (vI x6), some (vI x7), some (vI x8), none, none] [] h (b11_spent_76 rec76 x2 x3 x4 x5 x6 x7 x8 h) := by
  unfold b11_spent_76
  refine den_iload (pc := 76) d11_spent_76 rfl ?_
  refine den_iload (pc := 78) d11_spent_78 rfl ?_
  refine den_icmp_ge (pc := 80) (tgt := 253) d11_spent_80 (by decide) rfl rfl (fun _ => ?_) (fun _ => ?_)
  · refine den_wk [true, true, false, false, false, true, true, true, false, true, true] rfl ?_
    exact t11_spent_253 l G _ hd x5 x6 x7 h
  · refine den_iconst (pc := 83) d11_spent_83 ?_
    refine den_istore (pc := 84) (L2 := [some (vA G 69), none, some (vI x2), some (vI x3), some (vI x4), some (vI x5), some (vI x6), some (vI x7), some (vI x8), some (vI (-1)), none]) d11_spent_84 (by decide) rfl ?_
    refine den_iconst (pc := 86) d11_spent_86 ?_
    refine den_istore (pc := 87) (L2 := [some (vA G 69), none, some (vI x2), some (vI x3), some (vI x4), some (vI x5), some (vI x6), some (vI x7), some (vI x8), some (vI (-1)), some (vI 0)]) d11_spent_87 (by decide) rfl ?_
    exact tl11_spent_89 l G _ hd x2 x3 x4 x5 x6 x7 x8 rec76 H76 FU ((-1), 0, h) trivial
def l11_spent_76 (x2 : Int) (x3 : Int) (x4 : Int) (x5 : Int) (x6 : Int) (x7 : Int) (x8 : Int) (h : AH) : Option (Int × AH) := fx (fun rec z => b11_spent_76 rec x2 x3 x4 x5 z.1 z.2.1 z.2.2.1 z.2.2.2) FU (x6, x7, x8, h)
set_option maxRecDepth 100000 in
theorem tl11_spent_76 (l : Launch) (G : Geo) (d : Nat) (hd : 5 ≤ d) (x2 : Int) (x3 : Int) (x4 : Int) (x5 : Int) : ∀ (n : Nat) (z : Int × Int × Int × AH), True → Den l G m11_spent rvI d 76 [some (vA G 69), none, some (vI x2), some (vI x3), some (vI x4), some (vI x5), some (vI z.1), some (vI z.2.1), some (vI z.2.2.1), none, none] [] z.2.2.2 (fx (fun rec z => b11_spent_76 rec x2 x3 x4 x5 z.1 z.2.1 z.2.2.1 z.2.2.2) n z) :=
  den_fx (F := fun rec z => b11_spent_76 rec x2 x3 x4 x5 z.1 z.2.1 z.2.2.1 z.2.2.2) (P := fun z => True) (fL := fun z => [some (vA G 69), none, some (vI x2), some (vI x3), some (vI x4), some (vI x5), some (vI z.1), some (vI z.2.1), some (vI z.2.2.1), none, none]) (fs := fun z => []) (fh := fun z => z.2.2.2) (fun rec hrec z hz => t11_spent_76 l G d hd x2 x3 x4 x5 z.1 z.2.1 z.2.2.1 rec (fun x6 x7 x8 h => hrec (x6, x7, x8, h) trivial) z.2.2.2 )
def b11_spent_39 (rec39 : Int × AH → Option (Int × AH)) (x2 : Int) (x3 : Int) (x4 : Int) (x5 : Int) (x6 : Int) (h : AH) : Option (Int × AH) :=
  if w32 (h.2 69 14) ≤ w32 x6 then
    l11_spent_76 x2 x3 x4 x5 0 0 0 h
  else
    bnd (f11_heatOf x6 h) fun r38 h39 =>
    asrt (0 ≤ w32 x6 ∧ w32 x6 < 6) <|
    lt (wr h39 80 (w32 x6).toNat r38) fun h43 =>
    rec39 ((x6 + 1), h43)
set_option maxRecDepth 100000 in
theorem t11_spent_39 (l : Launch) (G : Geo) (d : Nat) (hd : 5 ≤ d) (x2 : Int) (x3 : Int) (x4 : Int) (x5 : Int) (x6 : Int) (rec39 : Int × AH → Option (Int × AH)) (H39 : ∀ (x6 : Int) (h : AH), Den l G m11_spent rvI d 39 [some (vA G 69), none, some (vI x2), some (vI x3), some (vI x4), some (vI x5), some (vI x6), none, none, none, none] [] h (rec39 (x6, h))) (h : AH) : Den l G m11_spent rvI d 39 [some (vA G 69), none, some (vI x2), some (vI x3), some (vI x4), some (vI x5), some (vI x6), none, none, none, none] [] h (b11_spent_39 rec39 x2 x3 x4 x5 x6 h) := by
  unfold b11_spent_39
  refine den_iload (pc := 39) d11_spent_39 rfl ?_
  refine den_aload_n (pc := 41) d11_spent_41 rfl rfl ?_
  refine den_getI (pc := 42) fa_11_195 (ok_69 _) d11_spent_42 ?_
  refine den_icmp_ge (pc := 45) (tgt := 67) d11_spent_45 (by decide) rfl rfl (fun _ => ?_) (fun _ => ?_)
  · refine den_iconst (pc := 67) d11_spent_67 ?_
    refine den_istore (pc := 68) (L2 := [some (vA G 69), none, some (vI x2), some (vI x3), some (vI x4), some (vI x5), some (vI 0), none, none, none, none]) d11_spent_68 (by decide) rfl ?_
    refine den_iconst (pc := 70) d11_spent_70 ?_
    refine den_istore (pc := 71) (L2 := [some (vA G 69), none, some (vI x2), some (vI x3), some (vI x4), some (vI x5), some (vI 0), some (vI 0), none, none, none]) d11_spent_71 (by decide) rfl ?_
    refine den_iconst (pc := 73) d11_spent_73 ?_
    refine den_istore (pc := 74) (L2 := [some (vA G 69), none, some (vI x2), some (vI x3), some (vI x4), some (vI x5), some (vI 0), some (vI 0), some (vI 0), none, none]) d11_spent_74 (by decide) rfl ?_
    exact tl11_spent_76 l G _ hd x2 x3 x4 x5 FU (0, 0, 0, h) trivial
  · refine den_aload_n (pc := 48) d11_spent_48 rfl rfl ?_
    refine den_getR (pc := 49) (b := 80) fa_11_41 (ok_69 _) rfl d11_spent_49 ?_
    refine den_iload (pc := 52) d11_spent_52 rfl ?_
    refine den_aload_n (pc := 54) d11_spent_54 rfl rfl ?_
    refine den_iload (pc := 55) d11_spent_55 rfl ?_
    refine den_callVI (pc := 57) (As := [vI x6]) fv_11_213 rfl rfl (ok_69 _) (Nat.le_of_ble_eq_true rfl) (Nat.le_trans (by decide) hd) d11_spent_57 (c11_heatOf l G x6 h) (fun r38 h39 m40 o41 => ?_)
    refine den_asrt (fun a42 => ?_)
    refine den_iastore (pc := 60) sh_80 (sz_lt (by decide)) rfl a42 d11_spent_60 ?_
    refine den_ltH (fun h43 m44 => ?_)
    refine den_iinc (pc := 61) (L2 := [some (vA G 69), none, some (vI x2), some (vI x3), some (vI x4), some (vI x5), some (vI (x6 + 1)), none, none, none, none]) d11_spent_61 (by decide) rfl rfl ?_
    refine den_goto (pc := 64) (tgt := 39) d11_spent_64 (by decide) ?_
    exact H39 (x6 + 1) h43
def l11_spent_39 (x2 : Int) (x3 : Int) (x4 : Int) (x5 : Int) (x6 : Int) (h : AH) : Option (Int × AH) := fx (fun rec z => b11_spent_39 rec x2 x3 x4 x5 z.1 z.2) FU (x6, h)
set_option maxRecDepth 100000 in
theorem tl11_spent_39 (l : Launch) (G : Geo) (d : Nat) (hd : 5 ≤ d) (x2 : Int) (x3 : Int) (x4 : Int) (x5 : Int) : ∀ (n : Nat) (z : Int × AH), True → Den l G m11_spent rvI d 39 [some (vA G 69), none, some (vI x2), some (vI x3), some (vI x4), some (vI x5), some (vI z.1), none, none, none, none] [] z.2 (fx (fun rec z => b11_spent_39 rec x2 x3 x4 x5 z.1 z.2) n z) :=
  den_fx (F := fun rec z => b11_spent_39 rec x2 x3 x4 x5 z.1 z.2) (P := fun z => True) (fL := fun z => [some (vA G 69), none, some (vI x2), some (vI x3), some (vI x4), some (vI x5), some (vI z.1), none, none, none, none]) (fs := fun z => []) (fh := fun z => z.2) (fun rec hrec z hz => t11_spent_39 l G d hd x2 x3 x4 x5 z.1 rec (fun x6 h => hrec (x6, h) trivial) z.2 )
def f11_spent (x1 : Int) (x2 : Int) (x3 : Int) (x4 : Int) (x5 : Int) (h : AH) : Option (Int × AH) :=
  bnd (f11_isVillage x1 h) fun r45 h46 =>
  if w32 r45 = 0 then
    some ((-1), h46)
  else
    bnd (f11_isTwo x2 x3 h46) fun r49 h50 =>
    if w32 r49 = 0 then
      some ((-1), h50)
    else
      bnd (f11_isIn x4 0 20 h50) fun r53 h54 =>
      if w32 r53 = 0 then
        some ((-1), h54)
      else
        if (-1) ≤ w32 x5 then
          l11_spent_39 x2 x3 x4 x5 0 h54
        else
          some ((-1), h54)
set_option maxRecDepth 100000 in
theorem c11_spent (l : Launch) (G : Geo) (x1 : Int) (x2 : Int) (x3 : Int) (x4 : Int) (x5 : Int) (h : AH) : Con l G m11_spent rvI 5 [vA G 69, vI x1, vI x2, vI x3, vI x4, vI x5] h (f11_spent x1 x2 x3 x4 x5 h) := by
  have hd : 5 ≤ 5 := Nat.le_refl _
  refine con_I rfl (by decide) rfl rfl (Nat.le_of_ble_eq_true rfl) (L := [some (vA G 69), some (vI x1), some (vI x2), some (vI x3), some (vI x4), some (vI x5), none, none, none, none, none]) ?_
  unfold f11_spent
  refine den_aload_n (pc := 0) d11_spent_0 rfl rfl ?_
  refine den_iload_n (pc := 1) d11_spent_1 rfl rfl ?_
  refine den_callVI (pc := 2) (As := [vI x1]) fv_11_201 rfl rfl (ok_69 _) (Nat.le_of_ble_eq_true rfl) (Nat.le_trans (by decide) hd) d11_spent_2 (c11_isVillage l G x1 h) (fun r45 h46 m47 o48 => ?_)
  refine den_if_eq (pc := 5) (tgt := 34) d11_spent_5 (by decide) rfl (fun _ => ?_) (fun _ => ?_)
  · refine den_iconst (pc := 34) d11_spent_34 ?_
    exact den_iret (pc := 35) rfl d11_spent_35
  · refine den_aload_n (pc := 8) d11_spent_8 rfl rfl ?_
    refine den_iload_n (pc := 9) d11_spent_9 rfl rfl ?_
    refine den_iload_n (pc := 10) d11_spent_10 rfl rfl ?_
    refine den_callVI (pc := 11) (As := [vI x2, vI x3]) fv_11_228 rfl rfl (ok_69 _) (Nat.le_of_ble_eq_true rfl) (Nat.le_trans (by decide) hd) d11_spent_11 (c11_isTwo l G x2 x3 h46) (fun r49 h50 m51 o52 => ?_)
    refine den_if_eq (pc := 14) (tgt := 34) d11_spent_14 (by decide) rfl (fun _ => ?_) (fun _ => ?_)
    · refine den_iconst (pc := 34) d11_spent_34 ?_
      exact den_iret (pc := 35) rfl d11_spent_35
    · refine den_iload (pc := 17) d11_spent_17 rfl ?_
      refine den_iconst (pc := 19) d11_spent_19 ?_
      refine den_bipush (pc := 20) d11_spent_20 (by decide) ?_
      refine den_callSI (pc := 22) (As := [vI x4, vI 0, vI 20]) fs_11_135 rfl rfl (Nat.le_of_ble_eq_true rfl) (Nat.le_trans (by decide) hd) d11_spent_22 (c11_isIn l G x4 0 20 h50) (fun r53 h54 m55 o56 => ?_)
      refine den_if_eq (pc := 25) (tgt := 34) d11_spent_25 (by decide) rfl (fun _ => ?_) (fun _ => ?_)
      · refine den_iconst (pc := 34) d11_spent_34 ?_
        exact den_iret (pc := 35) rfl d11_spent_35
      · refine den_iload (pc := 28) d11_spent_28 rfl ?_
        refine den_iconst (pc := 30) d11_spent_30 ?_
        refine den_icmp_ge (pc := 31) (tgt := 36) d11_spent_31 (by decide) rfl (by decide) (fun _ => ?_) (fun _ => ?_)
        · refine den_iconst (pc := 36) d11_spent_36 ?_
          refine den_istore (pc := 37) (L2 := [some (vA G 69), some (vI x1), some (vI x2), some (vI x3), some (vI x4), some (vI x5), some (vI 0), none, none, none, none]) d11_spent_37 (by decide) rfl ?_
          refine den_wk [true, false, true, true, true, true, true, true, true, true, true] rfl ?_
          exact tl11_spent_39 l G _ hd x2 x3 x4 x5 FU (0, h54) trivial
        · refine den_iconst (pc := 34) d11_spent_34 ?_
          exact den_iret (pc := 35) rfl d11_spent_35
theorem d11_burnsBehind_0 : decode m11_burnsBehind.2.1 0 = .ok (.aload_n 0, 1) := by decide +kernel
theorem d11_burnsBehind_1 : decode m11_burnsBehind.2.1 1 = .ok (.iload_n 3, 1) := by decide +kernel
theorem d11_burnsBehind_2 : decode m11_burnsBehind.2.1 2 = .ok (.invokevirtual 213, 3) := by decide +kernel
theorem d11_burnsBehind_5 : decode m11_burnsBehind.2.1 5 = .ok (.iload 4, 2) := by decide +kernel
theorem d11_burnsBehind_7 : decode m11_burnsBehind.2.1 7 = .ok (.aload_n 0, 1) := by decide +kernel
theorem d11_burnsBehind_8 : decode m11_burnsBehind.2.1 8 = .ok (.iload_n 3, 1) := by decide +kernel
theorem d11_burnsBehind_9 : decode m11_burnsBehind.2.1 9 = .ok (.invokevirtual 216, 3) := by decide +kernel
theorem d11_burnsBehind_12 : decode m11_burnsBehind.2.1 12 = .ok (.imul, 1) := by decide +kernel
theorem d11_burnsBehind_13 : decode m11_burnsBehind.2.1 13 = .ok (.isub, 1) := by decide +kernel
theorem d11_burnsBehind_14 : decode m11_burnsBehind.2.1 14 = .ok (.istore 5, 2) := by decide +kernel
theorem d11_burnsBehind_16 : decode m11_burnsBehind.2.1 16 = .ok (.iload 5, 2) := by decide +kernel
theorem d11_burnsBehind_18 : decode m11_burnsBehind.2.1 18 = .ok (.ifCond .le 26, 3) := by decide +kernel
theorem d11_burnsBehind_21 : decode m11_burnsBehind.2.1 21 = .ok (.aload_n 0, 1) := by decide +kernel
theorem d11_burnsBehind_22 : decode m11_burnsBehind.2.1 22 = .ok (.iload_n 1, 1) := by decide +kernel
theorem d11_burnsBehind_23 : decode m11_burnsBehind.2.1 23 = .ok (.iload_n 2, 1) := by decide +kernel
theorem d11_burnsBehind_24 : decode m11_burnsBehind.2.1 24 = .ok (.iload_n 3, 1) := by decide +kernel
theorem d11_burnsBehind_25 : decode m11_burnsBehind.2.1 25 = .ok (.invokevirtual 231, 3) := by decide +kernel
theorem d11_burnsBehind_28 : decode m11_burnsBehind.2.1 28 = .ok (.ifCond .le 16, 3) := by decide +kernel
theorem d11_burnsBehind_31 : decode m11_burnsBehind.2.1 31 = .ok (.aload_n 0, 1) := by decide +kernel
theorem d11_burnsBehind_32 : decode m11_burnsBehind.2.1 32 = .ok (.iload_n 1, 1) := by decide +kernel
theorem d11_burnsBehind_33 : decode m11_burnsBehind.2.1 33 = .ok (.iload_n 2, 1) := by decide +kernel
theorem d11_burnsBehind_34 : decode m11_burnsBehind.2.1 34 = .ok (.iload_n 3, 1) := by decide +kernel
theorem d11_burnsBehind_35 : decode m11_burnsBehind.2.1 35 = .ok (.invokevirtual 231, 3) := by decide +kernel
theorem d11_burnsBehind_38 : decode m11_burnsBehind.2.1 38 = .ok (.iload 5, 2) := by decide +kernel
theorem d11_burnsBehind_40 : decode m11_burnsBehind.2.1 40 = .ok (.imul, 1) := by decide +kernel
theorem d11_burnsBehind_41 : decode m11_burnsBehind.2.1 41 = .ok (.goto 4, 3) := by decide +kernel
theorem d11_burnsBehind_44 : decode m11_burnsBehind.2.1 44 = .ok (.iconst 0, 1) := by decide +kernel
theorem d11_burnsBehind_45 : decode m11_burnsBehind.2.1 45 = .ok (.ireturn, 1) := by decide +kernel
def f11_burnsBehind (x1 : Int) (x2 : Int) (x3 : Int) (x4 : Int) (h : AH) : Option (Int × AH) :=
  bnd (f11_heatOf x3 h) fun r1 h2 =>
  bnd (f11_fadesOf x3 h2) fun r5 h6 =>
  lt (r1 - (x4 * r5)) fun u9 =>
  if w32 u9 ≤ 0 then
    some (0, h6)
  else
    bnd (f11_apartOf x1 x2 x3 h6) fun r10 h11 =>
    if w32 r10 ≤ 0 then
      some (0, h11)
    else
      bnd (f11_apartOf x1 x2 x3 h11) fun r14 h15 =>
      some (r14 * u9, h15)
set_option maxRecDepth 100000 in
theorem c11_burnsBehind (l : Launch) (G : Geo) (x1 : Int) (x2 : Int) (x3 : Int) (x4 : Int) (h : AH) : Con l G m11_burnsBehind rvI 4 [vA G 69, vI x1, vI x2, vI x3, vI x4] h (f11_burnsBehind x1 x2 x3 x4 h) := by
  have hd : 4 ≤ 4 := Nat.le_refl _
  refine con_I rfl (by decide) rfl rfl (Nat.le_of_ble_eq_true rfl) (L := [some (vA G 69), some (vI x1), some (vI x2), some (vI x3), some (vI x4), none]) ?_
  unfold f11_burnsBehind
  refine den_aload_n (pc := 0) d11_burnsBehind_0 rfl rfl ?_
  refine den_iload_n (pc := 1) d11_burnsBehind_1 rfl rfl ?_
  refine den_callVI (pc := 2) (As := [vI x3]) fv_11_213 rfl rfl (ok_69 _) (Nat.le_of_ble_eq_true rfl) (Nat.le_trans (by decide) hd) d11_burnsBehind_2 (c11_heatOf l G x3 h) (fun r1 h2 m3 o4 => ?_)
  refine den_iload (pc := 5) d11_burnsBehind_5 rfl ?_
  refine den_aload_n (pc := 7) d11_burnsBehind_7 rfl rfl ?_
  refine den_iload_n (pc := 8) d11_burnsBehind_8 rfl rfl ?_
  refine den_callVI (pc := 9) (As := [vI x3]) fv_11_216 rfl rfl (ok_69 _) (Nat.le_of_ble_eq_true rfl) (Nat.le_trans (by decide) hd) d11_burnsBehind_9 (c11_fadesOf l G x3 h2) (fun r5 h6 m7 o8 => ?_)
  refine den_imul (pc := 12) d11_burnsBehind_12 ?_
  refine den_isub (pc := 13) d11_burnsBehind_13 ?_
  refine den_istoreL (pc := 14) (L2 := fun y => [some (vA G 69), some (vI x1), some (vI x2), some (vI x3), some (vI x4), some (vI y)]) d11_burnsBehind_14 (by decide) (fun _ => rfl) (fun u9 => ?_)
  refine den_iload (pc := 16) d11_burnsBehind_16 rfl ?_
  refine den_if_le (pc := 18) (tgt := 44) d11_burnsBehind_18 (by decide) rfl (fun _ => ?_) (fun _ => ?_)
  · refine den_iconst (pc := 44) d11_burnsBehind_44 ?_
    exact den_iret (pc := 45) rfl d11_burnsBehind_45
  · refine den_aload_n (pc := 21) d11_burnsBehind_21 rfl rfl ?_
    refine den_iload_n (pc := 22) d11_burnsBehind_22 rfl rfl ?_
    refine den_iload_n (pc := 23) d11_burnsBehind_23 rfl rfl ?_
    refine den_iload_n (pc := 24) d11_burnsBehind_24 rfl rfl ?_
    refine den_callVI (pc := 25) (As := [vI x1, vI x2, vI x3]) fv_11_231 rfl rfl (ok_69 _) (Nat.le_of_ble_eq_true rfl) (Nat.le_trans (by decide) hd) d11_burnsBehind_25 (c11_apartOf l G x1 x2 x3 h6) (fun r10 h11 m12 o13 => ?_)
    refine den_if_le (pc := 28) (tgt := 44) d11_burnsBehind_28 (by decide) rfl (fun _ => ?_) (fun _ => ?_)
    · refine den_iconst (pc := 44) d11_burnsBehind_44 ?_
      exact den_iret (pc := 45) rfl d11_burnsBehind_45
    · refine den_aload_n (pc := 31) d11_burnsBehind_31 rfl rfl ?_
      refine den_iload_n (pc := 32) d11_burnsBehind_32 rfl rfl ?_
      refine den_iload_n (pc := 33) d11_burnsBehind_33 rfl rfl ?_
      refine den_iload_n (pc := 34) d11_burnsBehind_34 rfl rfl ?_
      refine den_callVI (pc := 35) (As := [vI x1, vI x2, vI x3]) fv_11_231 rfl rfl (ok_69 _) (Nat.le_of_ble_eq_true rfl) (Nat.le_trans (by decide) hd) d11_burnsBehind_35 (c11_apartOf l G x1 x2 x3 h11) (fun r14 h15 m16 o17 => ?_)
      refine den_iload (pc := 38) d11_burnsBehind_38 rfl ?_
      refine den_imul (pc := 40) d11_burnsBehind_40 ?_
      refine den_goto (pc := 41) (tgt := 45) d11_burnsBehind_41 (by decide) ?_
      exact den_iret (pc := 45) rfl d11_burnsBehind_45
theorem d11_counts_0 : decode m11_counts.2.1 0 = .ok (.iconst 0, 1) := by decide +kernel
theorem d11_counts_1 : decode m11_counts.2.1 1 = .ok (.istore 5, 2) := by decide +kernel
theorem d11_counts_3 : decode m11_counts.2.1 3 = .ok (.iconst 0, 1) := by decide +kernel
theorem d11_counts_4 : decode m11_counts.2.1 4 = .ok (.istore 6, 2) := by decide +kernel
theorem d11_counts_6 : decode m11_counts.2.1 6 = .ok (.iload 6, 2) := by decide +kernel
theorem d11_counts_8 : decode m11_counts.2.1 8 = .ok (.sipush 1000, 3) := by decide +kernel
theorem d11_counts_11 : decode m11_counts.2.1 11 = .ok (.if_icmp .ge 17, 3) := by decide +kernel
theorem d11_counts_14 : decode m11_counts.2.1 14 = .ok (.aload_n 0, 1) := by decide +kernel
theorem d11_counts_15 : decode m11_counts.2.1 15 = .ok (.getfield 50, 3) := by decide +kernel
theorem d11_counts_18 : decode m11_counts.2.1 18 = .ok (.iload 6, 2) := by decide +kernel
theorem d11_counts_20 : decode m11_counts.2.1 20 = .ok (.iconst 0, 1) := by decide +kernel
theorem d11_counts_21 : decode m11_counts.2.1 21 = .ok (.bastore, 1) := by decide +kernel
theorem d11_counts_22 : decode m11_counts.2.1 22 = .ok (.iinc 6 1, 3) := by decide +kernel
theorem d11_counts_25 : decode m11_counts.2.1 25 = .ok (.goto (-19), 3) := by decide +kernel
theorem d11_counts_28 : decode m11_counts.2.1 28 = .ok (.iconst 0, 1) := by decide +kernel
theorem d11_counts_29 : decode m11_counts.2.1 29 = .ok (.istore 6, 2) := by decide +kernel
theorem d11_counts_31 : decode m11_counts.2.1 31 = .ok (.iload 6, 2) := by decide +kernel
theorem d11_counts_33 : decode m11_counts.2.1 33 = .ok (.sipush 1000, 3) := by decide +kernel
theorem d11_counts_36 : decode m11_counts.2.1 36 = .ok (.if_icmp .ge 166, 3) := by decide +kernel
theorem d11_counts_39 : decode m11_counts.2.1 39 = .ok (.iconst 0, 1) := by decide +kernel
theorem d11_counts_40 : decode m11_counts.2.1 40 = .ok (.istore 7, 2) := by decide +kernel
theorem d11_counts_42 : decode m11_counts.2.1 42 = .ok (.iload 7, 2) := by decide +kernel
theorem d11_counts_44 : decode m11_counts.2.1 44 = .ok (.iconst 2, 1) := by decide +kernel
theorem d11_counts_45 : decode m11_counts.2.1 45 = .ok (.if_icmp .ge 151, 3) := by decide +kernel
theorem d11_counts_48 : decode m11_counts.2.1 48 = .ok (.aload_n 0, 1) := by decide +kernel
theorem d11_counts_49 : decode m11_counts.2.1 49 = .ok (.getfield 47, 3) := by decide +kernel
theorem d11_counts_52 : decode m11_counts.2.1 52 = .ok (.iload 6, 2) := by decide +kernel
theorem d11_counts_54 : decode m11_counts.2.1 54 = .ok (.baload, 1) := by decide +kernel
theorem d11_counts_55 : decode m11_counts.2.1 55 = .ok (.ifCond .eq 141, 3) := by decide +kernel
theorem d11_counts_58 : decode m11_counts.2.1 58 = .ok (.iload 6, 2) := by decide +kernel
theorem d11_counts_60 : decode m11_counts.2.1 60 = .ok (.bipush 100, 2) := by decide +kernel
theorem d11_counts_62 : decode m11_counts.2.1 62 = .ok (.irem, 1) := by decide +kernel
theorem d11_counts_63 : decode m11_counts.2.1 63 = .ok (.iload 7, 2) := by decide +kernel
theorem d11_counts_65 : decode m11_counts.2.1 65 = .ok (.aload_n 0, 1) := by decide +kernel
theorem d11_counts_66 : decode m11_counts.2.1 66 = .ok (.iload_n 1, 1) := by decide +kernel
theorem d11_counts_67 : decode m11_counts.2.1 67 = .ok (.iload_n 2, 1) := by decide +kernel
theorem d11_counts_68 : decode m11_counts.2.1 68 = .ok (.iload_n 3, 1) := by decide +kernel
theorem d11_counts_69 : decode m11_counts.2.1 69 = .ok (.iload 6, 2) := by decide +kernel
theorem d11_counts_71 : decode m11_counts.2.1 71 = .ok (.bipush 100, 2) := by decide +kernel
theorem d11_counts_73 : decode m11_counts.2.1 73 = .ok (.idiv, 1) := by decide +kernel
theorem d11_counts_74 : decode m11_counts.2.1 74 = .ok (.invokevirtual 272, 3) := by decide +kernel
theorem d11_counts_77 : decode m11_counts.2.1 77 = .ok (.imul, 1) := by decide +kernel
theorem d11_counts_78 : decode m11_counts.2.1 78 = .ok (.iadd, 1) := by decide +kernel
theorem d11_counts_79 : decode m11_counts.2.1 79 = .ok (.istore 8, 2) := by decide +kernel
theorem d11_counts_81 : decode m11_counts.2.1 81 = .ok (.iload 8, 2) := by decide +kernel
theorem d11_counts_83 : decode m11_counts.2.1 83 = .ok (.aload_n 0, 1) := by decide +kernel
theorem d11_counts_84 : decode m11_counts.2.1 84 = .ok (.iload 4, 2) := by decide +kernel
theorem d11_counts_86 : decode m11_counts.2.1 86 = .ok (.invokevirtual 219, 3) := by decide +kernel
theorem d11_counts_89 : decode m11_counts.2.1 89 = .ok (.aload_n 0, 1) := by decide +kernel
theorem d11_counts_90 : decode m11_counts.2.1 90 = .ok (.iload 4, 2) := by decide +kernel
theorem d11_counts_92 : decode m11_counts.2.1 92 = .ok (.invokevirtual 222, 3) := by decide +kernel
theorem d11_counts_95 : decode m11_counts.2.1 95 = .ok (.invokestatic 135, 3) := by decide +kernel
theorem d11_counts_98 : decode m11_counts.2.1 98 = .ok (.ifCond .eq 92, 3) := by decide +kernel
theorem d11_counts_101 : decode m11_counts.2.1 101 = .ok (.iload 7, 2) := by decide +kernel
theorem d11_counts_103 : decode m11_counts.2.1 103 = .ok (.iconst 1, 1) := by decide +kernel
theorem d11_counts_104 : decode m11_counts.2.1 104 = .ok (.if_icmp .ne 31, 3) := by decide +kernel
theorem d11_counts_107 : decode m11_counts.2.1 107 = .ok (.aload_n 0, 1) := by decide +kernel
theorem d11_counts_108 : decode m11_counts.2.1 108 = .ok (.iload_n 1, 1) := by decide +kernel
theorem d11_counts_109 : decode m11_counts.2.1 109 = .ok (.iload_n 2, 1) := by decide +kernel
theorem d11_counts_110 : decode m11_counts.2.1 110 = .ok (.iload_n 3, 1) := by decide +kernel
theorem d11_counts_111 : decode m11_counts.2.1 111 = .ok (.iload 6, 2) := by decide +kernel
theorem d11_counts_113 : decode m11_counts.2.1 113 = .ok (.bipush 100, 2) := by decide +kernel
theorem d11_counts_115 : decode m11_counts.2.1 115 = .ok (.idiv, 1) := by decide +kernel
theorem d11_counts_116 : decode m11_counts.2.1 116 = .ok (.invokevirtual 272, 3) := by decide +kernel
theorem d11_counts_119 : decode m11_counts.2.1 119 = .ok (.ifCond .eq 71, 3) := by decide +kernel
theorem d11_counts_122 : decode m11_counts.2.1 122 = .ok (.iload 6, 2) := by decide +kernel
theorem d11_counts_124 : decode m11_counts.2.1 124 = .ok (.bipush 100, 2) := by decide +kernel
theorem d11_counts_126 : decode m11_counts.2.1 126 = .ok (.idiv, 1) := by decide +kernel
theorem d11_counts_127 : decode m11_counts.2.1 127 = .ok (.bipush 9, 2) := by decide +kernel
theorem d11_counts_129 : decode m11_counts.2.1 129 = .ok (.if_icmp .ne 6, 3) := by decide +kernel
theorem d11_counts_132 : decode m11_counts.2.1 132 = .ok (.goto 58, 3) := by decide +kernel
theorem d11_counts_135 : decode m11_counts.2.1 135 = .ok (.iconst 1, 1) := by decide +kernel
theorem d11_counts_136 : decode m11_counts.2.1 136 = .ok (.istore 5, 2) := by decide +kernel
theorem d11_counts_138 : decode m11_counts.2.1 138 = .ok (.aload_n 0, 1) := by decide +kernel
theorem d11_counts_139 : decode m11_counts.2.1 139 = .ok (.getfield 50, 3) := by decide +kernel
theorem d11_counts_142 : decode m11_counts.2.1 142 = .ok (.bipush 100, 2) := by decide +kernel
theorem d11_counts_144 : decode m11_counts.2.1 144 = .ok (.iload 6, 2) := by decide +kernel
theorem d11_counts_146 : decode m11_counts.2.1 146 = .ok (.bipush 100, 2) := by decide +kernel
theorem d11_counts_148 : decode m11_counts.2.1 148 = .ok (.idiv, 1) := by decide +kernel
theorem d11_counts_149 : decode m11_counts.2.1 149 = .ok (.iload 7, 2) := by decide +kernel
theorem d11_counts_151 : decode m11_counts.2.1 151 = .ok (.iadd, 1) := by decide +kernel
theorem d11_counts_152 : decode m11_counts.2.1 152 = .ok (.imul, 1) := by decide +kernel
theorem d11_counts_153 : decode m11_counts.2.1 153 = .ok (.iload 8, 2) := by decide +kernel
theorem d11_counts_155 : decode m11_counts.2.1 155 = .ok (.aload_n 0, 1) := by decide +kernel
theorem d11_counts_156 : decode m11_counts.2.1 156 = .ok (.getfield 7, 3) := by decide +kernel
theorem d11_counts_159 : decode m11_counts.2.1 159 = .ok (.aload_n 0, 1) := by decide +kernel
theorem d11_counts_160 : decode m11_counts.2.1 160 = .ok (.getfield 189, 3) := by decide +kernel
theorem d11_counts_163 : decode m11_counts.2.1 163 = .ok (.iconst 3, 1) := by decide +kernel
theorem d11_counts_164 : decode m11_counts.2.1 164 = .ok (.iadd, 1) := by decide +kernel
theorem d11_counts_165 : decode m11_counts.2.1 165 = .ok (.iaload, 1) := by decide +kernel
theorem d11_counts_166 : decode m11_counts.2.1 166 = .ok (.if_icmp .le 20, 3) := by decide +kernel
theorem d11_counts_169 : decode m11_counts.2.1 169 = .ok (.iload 8, 2) := by decide +kernel
theorem d11_counts_171 : decode m11_counts.2.1 171 = .ok (.aload_n 0, 1) := by decide +kernel
theorem d11_counts_172 : decode m11_counts.2.1 172 = .ok (.getfield 7, 3) := by decide +kernel
theorem d11_counts_175 : decode m11_counts.2.1 175 = .ok (.aload_n 0, 1) := by decide +kernel
theorem d11_counts_176 : decode m11_counts.2.1 176 = .ok (.getfield 189, 3) := by decide +kernel
theorem d11_counts_179 : decode m11_counts.2.1 179 = .ok (.iconst 3, 1) := by decide +kernel
theorem d11_counts_180 : decode m11_counts.2.1 180 = .ok (.iadd, 1) := by decide +kernel
theorem d11_counts_181 : decode m11_counts.2.1 181 = .ok (.iaload, 1) := by decide +kernel
theorem d11_counts_182 : decode m11_counts.2.1 182 = .ok (.isub, 1) := by decide +kernel
theorem d11_counts_183 : decode m11_counts.2.1 183 = .ok (.goto 4, 3) := by decide +kernel
theorem d11_counts_186 : decode m11_counts.2.1 186 = .ok (.iconst 0, 1) := by decide +kernel
theorem d11_counts_187 : decode m11_counts.2.1 187 = .ok (.iadd, 1) := by decide +kernel
theorem d11_counts_188 : decode m11_counts.2.1 188 = .ok (.iconst 1, 1) := by decide +kernel
theorem d11_counts_189 : decode m11_counts.2.1 189 = .ok (.bastore, 1) := by decide +kernel
theorem d11_counts_190 : decode m11_counts.2.1 190 = .ok (.iinc 7 1, 3) := by decide +kernel
theorem d11_counts_193 : decode m11_counts.2.1 193 = .ok (.goto (-151), 3) := by decide +kernel
theorem d11_counts_196 : decode m11_counts.2.1 196 = .ok (.iinc 6 1, 3) := by decide +kernel
theorem d11_counts_199 : decode m11_counts.2.1 199 = .ok (.goto (-168), 3) := by decide +kernel
theorem d11_counts_202 : decode m11_counts.2.1 202 = .ok (.iconst 0, 1) := by decide +kernel
theorem d11_counts_203 : decode m11_counts.2.1 203 = .ok (.istore 6, 2) := by decide +kernel
theorem d11_counts_205 : decode m11_counts.2.1 205 = .ok (.iload 6, 2) := by decide +kernel
theorem d11_counts_207 : decode m11_counts.2.1 207 = .ok (.sipush 1000, 3) := by decide +kernel
theorem d11_counts_210 : decode m11_counts.2.1 210 = .ok (.if_icmp .ge 23, 3) := by decide +kernel
theorem d11_counts_213 : decode m11_counts.2.1 213 = .ok (.aload_n 0, 1) := by decide +kernel
theorem d11_counts_214 : decode m11_counts.2.1 214 = .ok (.getfield 47, 3) := by decide +kernel
theorem d11_counts_217 : decode m11_counts.2.1 217 = .ok (.iload 6, 2) := by decide +kernel
theorem d11_counts_219 : decode m11_counts.2.1 219 = .ok (.aload_n 0, 1) := by decide +kernel
theorem d11_counts_220 : decode m11_counts.2.1 220 = .ok (.getfield 50, 3) := by decide +kernel
theorem d11_counts_223 : decode m11_counts.2.1 223 = .ok (.iload 6, 2) := by decide +kernel
theorem d11_counts_225 : decode m11_counts.2.1 225 = .ok (.baload, 1) := by decide +kernel
theorem d11_counts_226 : decode m11_counts.2.1 226 = .ok (.bastore, 1) := by decide +kernel
theorem d11_counts_227 : decode m11_counts.2.1 227 = .ok (.iinc 6 1, 3) := by decide +kernel
theorem d11_counts_230 : decode m11_counts.2.1 230 = .ok (.goto (-25), 3) := by decide +kernel
theorem d11_counts_233 : decode m11_counts.2.1 233 = .ok (.iload 5, 2) := by decide +kernel
theorem d11_counts_235 : decode m11_counts.2.1 235 = .ok (.ireturn, 1) := by decide +kernel
def b11_counts_190 (rec31 : Int × Int × AH → Option (Int × AH)) (rec42 : Int × Int × AH → Option (Int × AH)) (x1 : Int) (x2 : Int) (x3 : Int) (x4 : Int) (x5 : Int) (x6 : Int) (x7 : Int) (h : AH) : Option (Int × AH) :=
  rec42 (x5, (x7 + 1), h)
set_option maxRecDepth 100000 in
theorem t11_counts_190 (l : Launch) (G : Geo) (d : Nat) (hd : 5 ≤ d) (x1 : Int) (x2 : Int) (x3 : Int) (x4 : Int) (x5 : Int) (x6 : Int) (x7 : Int) (rec31 : Int × Int × AH → Option (Int × AH)) (H31 : ∀ (x5 : Int) (x6 : Int) (h : AH), Den l G m11_counts rvI d 31 [some (vA G 69), some (vI x1), some (vI x2), some (vI x3), some (vI x4), some (vI x5), some (vI x6), none, none] [] h (rec31 (x5, x6, h))) (rec42 : Int × Int × AH → Option (Int × AH)) (H42 : ∀ (x5 : Int) (x7 : Int) (h : AH), Den l G m11_counts rvI d 42 [some (vA G 69), some (vI x1), some (vI x2), some (vI x3), some (vI x4), some (vI x5), some (vI x6), some (vI x7), none] [] h (rec42 (x5, x7, h))) (h : AH) : Den l G m11_counts rvI d 190 [some (vA G 69), some (vI x1), some (vI x2), some (vI x3), some (vI x4), some (vI x5), some (vI x6), some (vI x7), none] [] h (b11_counts_190 rec31 rec42 x1 x2 x3 x4 x5 x6 x7 h) := by
  unfold b11_counts_190
  refine den_iinc (pc := 190) (L2 := [some (vA G 69), some (vI x1), some (vI x2), some (vI x3), some (vI x4), some (vI x5), some (vI x6), some (vI (x7 + 1)), none]) d11_counts_190 (by decide) rfl rfl ?_
  refine den_goto (pc := 193) (tgt := 42) d11_counts_193 (by decide) ?_
  exact H42 x5 (x7 + 1) h
def b11_counts_187 (rec31 : Int × Int × AH → Option (Int × AH)) (rec42 : Int × Int × AH → Option (Int × AH)) (x1 : Int) (x2 : Int) (x3 : Int) (x4 : Int) (x5 : Int) (x6 : Int) (x7 : Int) (s0 : Int) (s1 : Int) (h : AH) : Option (Int × AH) :=
  asrt (0 ≤ w32 (s1 + s0) ∧ w32 (s1 + s0) < 1000) <|
  lt (wr h 83 (w32 (s1 + s0)).toNat (nz 1)) fun h2 =>
  b11_counts_190 rec31 rec42 x1 x2 x3 x4 x5 x6 x7 h2
set_option maxRecDepth 100000 in
theorem t11_counts_187 (l : Launch) (G : Geo) (d : Nat) (hd : 5 ≤ d) (x1 : Int) (x2 : Int) (x3 : Int) (x4 : Int) (x5 : Int) (x6 : Int) (x7 : Int) (s0 : Int) (s1 : Int) (rec31 : Int × Int × AH → Option (Int × AH)) (H31 : ∀ (x5 : Int) (x6 : Int) (h : AH), Den l G m11_counts rvI d 31 [some (vA G 69), some (vI x1), some (vI x2), some (vI x3), some (vI x4), some (vI x5), some (vI x6), none, none] [] h (rec31 (x5, x6, h))) (rec42 : Int × Int × AH → Option (Int × AH)) (H42 : ∀ (x5 : Int) (x7 : Int) (h : AH), Den l G m11_counts rvI d 42 [some (vA G 69), some (vI x1), some (vI x2), some (vI x3), some (vI x4), some (vI x5), some (vI x6), some (vI x7), none] [] h (rec42 (x5, x7, h))) (h : AH) : Den l G m11_counts rvI d 187 [some (vA G 69), some (vI x1), some (vI x2), some (vI x3), some (vI x4), some (vI x5), some (vI x6), some (vI x7), none] [vI s0, vI s1, vA G 83] h (b11_counts_187 rec31 rec42 x1 x2 x3 x4 x5 x6 x7 s0 s1 h) := by
  unfold b11_counts_187
  refine den_iadd (pc := 187) d11_counts_187 ?_
  refine den_iconst (pc := 188) d11_counts_188 ?_
  refine den_asrt (fun a1 => ?_)
  refine den_zastore (pc := 189) sh_83 (sz_lt (by decide)) rfl a1 d11_counts_189 ?_
  refine den_ltH (fun h2 m3 => ?_)
  exact t11_counts_190 l G _ hd x1 x2 x3 x4 x5 x6 x7 rec31 H31 rec42 H42 h2
def b11_counts_135 (rec31 : Int × Int × AH → Option (Int × AH)) (rec42 : Int × Int × AH → Option (Int × AH)) (x1 : Int) (x2 : Int) (x3 : Int) (x4 : Int) (x6 : Int) (x7 : Int) (x8 : Int) (h : AH) : Option (Int × AH) :=
  asrt (0 ≤ w32 ((h.2 69 12) + 3) ∧ w32 ((h.2 69 12) + 3) < 4824) <|
  if w32 x8 ≤ w32 (h.2 70 (w32 ((h.2 69 12) + 3)).toNat) then
    b11_counts_187 rec31 rec42 x1 x2 x3 x4 1 x6 x7 0 (100 * ((dv32 x6 100) + x7)) h
  else
    asrt (0 ≤ w32 ((h.2 69 12) + 3) ∧ w32 ((h.2 69 12) + 3) < 4824) <|
    b11_counts_187 rec31 rec42 x1 x2 x3 x4 1 x6 x7 (x8 - (h.2 70 (w32 ((h.2 69 12) + 3)).toNat)) (100 * ((dv32 x6 100) + x7)) h
set_option maxRecDepth 100000 in
theorem t11_counts_135 (l : Launch) (G : Geo) (d : Nat) (hd : 5 ≤ d) (x1 : Int) (x2 : Int) (x3 : Int) (x4 : Int) (x6 : Int) (x7 : Int) (x8 : Int) (rec31 : Int × Int × AH → Option (Int × AH)) (H31 : ∀ (x5 : Int) (x6 : Int) (h : AH), Den l G m11_counts rvI d 31 [some (vA G 69), some (vI x1), some (vI x2), some (vI x3), some (vI x4), some (vI x5), some (vI x6), none, none] [] h (rec31 (x5, x6, h))) (rec42 : Int × Int × AH → Option (Int × AH)) (H42 : ∀ (x5 : Int) (x7 : Int) (h : AH), Den l G m11_counts rvI d 42 [some (vA G 69), some (vI x1), some (vI x2), some (vI x3), some (vI x4), some (vI x5), some (vI x6), some (vI x7), none] [] h (rec42 (x5, x7, h))) (h : AH) : Den l G m11_counts rvI d 135 [some (vA G 69), some (vI x1), some (vI x2), some (vI x3), some (vI x4), none, some (vI x6), some (vI x7), some (vI x8)] [] h (b11_counts_135 rec31 rec42 x1 x2 x3 x4 x6 x7 x8 h) := by
  unfold b11_counts_135
  refine den_iconst (pc := 135) d11_counts_135 ?_
  refine den_istore (pc := 136) (L2 := [some (vA G 69), some (vI x1), some (vI x2), some (vI x3), some (vI x4), some (vI 1), some (vI x6), some (vI x7), some (vI x8)]) d11_counts_136 (by decide) rfl ?_
  refine den_aload_n (pc := 138) d11_counts_138 rfl rfl ?_
  refine den_getR (pc := 139) (b := 83) fa_11_50 (ok_69 _) rfl d11_counts_139 ?_
  refine den_bipush (pc := 142) d11_counts_142 (by decide) ?_
  refine den_iload (pc := 144) d11_counts_144 rfl ?_
  refine den_bipush (pc := 146) d11_counts_146 (by decide) ?_
  refine den_idiv (pc := 148) d11_counts_148 (by decide) ?_
  refine den_iload (pc := 149) d11_counts_149 rfl ?_
  refine den_iadd (pc := 151) d11_counts_151 ?_
  refine den_imul (pc := 152) d11_counts_152 ?_
  refine den_iload (pc := 153) d11_counts_153 rfl ?_
  refine den_aload_n (pc := 155) d11_counts_155 rfl rfl ?_
  refine den_getR (pc := 156) (b := 70) fa_11_7 (ok_69 _) rfl d11_counts_156 ?_
  refine den_aload_n (pc := 159) d11_counts_159 rfl rfl ?_
  refine den_getI (pc := 160) fa_11_189 (ok_69 _) d11_counts_160 ?_
  refine den_iconst (pc := 163) d11_counts_163 ?_
  refine den_iadd (pc := 164) d11_counts_164 ?_
  refine den_asrt (fun a4 => ?_)
  refine den_iaload (pc := 165) sh_70 (sz_lt (by decide)) rfl a4 d11_counts_165 ?_
  refine den_icmp_le (pc := 166) (tgt := 186) d11_counts_166 (by decide) rfl rfl (fun _ => ?_) (fun _ => ?_)
  · refine den_iconst (pc := 186) d11_counts_186 ?_
    refine den_wk [true, true, true, true, true, true, true, true, false] rfl ?_
    exact t11_counts_187 l G _ hd x1 x2 x3 x4 1 x6 x7 0 (100 * ((dv32 x6 100) + x7)) rec31 H31 rec42 H42 h
  · refine den_iload (pc := 169) d11_counts_169 rfl ?_
    refine den_aload_n (pc := 171) d11_counts_171 rfl rfl ?_
    refine den_getR (pc := 172) (b := 70) fa_11_7 (ok_69 _) rfl d11_counts_172 ?_
    refine den_aload_n (pc := 175) d11_counts_175 rfl rfl ?_
    refine den_getI (pc := 176) fa_11_189 (ok_69 _) d11_counts_176 ?_
    refine den_iconst (pc := 179) d11_counts_179 ?_
    refine den_iadd (pc := 180) d11_counts_180 ?_
    refine den_asrt (fun a5 => ?_)
    refine den_iaload (pc := 181) sh_70 (sz_lt (by decide)) rfl a5 d11_counts_181 ?_
    refine den_isub (pc := 182) d11_counts_182 ?_
    refine den_goto (pc := 183) (tgt := 187) d11_counts_183 (by decide) ?_
    refine den_wk [true, true, true, true, true, true, true, true, false] rfl ?_
    exact t11_counts_187 l G _ hd x1 x2 x3 x4 1 x6 x7 (x8 - (h.2 70 (w32 ((h.2 69 12) + 3)).toNat)) (100 * ((dv32 x6 100) + x7)) rec31 H31 rec42 H42 h
def b11_counts_196 (rec31 : Int × Int × AH → Option (Int × AH)) (x1 : Int) (x2 : Int) (x3 : Int) (x4 : Int) (x5 : Int) (x6 : Int) (h : AH) : Option (Int × AH) :=
  rec31 (x5, (x6 + 1), h)
set_option maxRecDepth 100000 in
theorem t11_counts_196 (l : Launch) (G : Geo) (d : Nat) (hd : 5 ≤ d) (x1 : Int) (x2 : Int) (x3 : Int) (x4 : Int) (x5 : Int) (x6 : Int) (rec31 : Int × Int × AH → Option (Int × AH)) (H31 : ∀ (x5 : Int) (x6 : Int) (h : AH), Den l G m11_counts rvI d 31 [some (vA G 69), some (vI x1), some (vI x2), some (vI x3), some (vI x4), some (vI x5), some (vI x6), none, none] [] h (rec31 (x5, x6, h))) (h : AH) : Den l G m11_counts rvI d 196 [some (vA G 69), some (vI x1), some (vI x2), some (vI x3), some (vI x4), some (vI x5), some (vI x6), none, none] [] h (b11_counts_196 rec31 x1 x2 x3 x4 x5 x6 h) := by
  unfold b11_counts_196
  refine den_iinc (pc := 196) (L2 := [some (vA G 69), some (vI x1), some (vI x2), some (vI x3), some (vI x4), some (vI x5), some (vI (x6 + 1)), none, none]) d11_counts_196 (by decide) rfl rfl ?_
  refine den_goto (pc := 199) (tgt := 31) d11_counts_199 (by decide) ?_
  exact H31 x5 (x6 + 1) h
def b11_counts_42 (rec42 : Int × Int × AH → Option (Int × AH)) (rec31 : Int × Int × AH → Option (Int × AH)) (x1 : Int) (x2 : Int) (x3 : Int) (x4 : Int) (x6 : Int) (x5 : Int) (x7 : Int) (h : AH) : Option (Int × AH) :=
  if 2 ≤ w32 x7 then
    b11_counts_196 rec31 x1 x2 x3 x4 x5 x6 h
  else
    asrt (0 ≤ w32 x6 ∧ w32 x6 < 1000) <|
    if w32 (h.2 82 (w32 x6).toNat) = 0 then
      b11_counts_196 rec31 x1 x2 x3 x4 x5 x6 h
    else
      bnd (f11_burnsBehind x1 x2 x3 (dv32 x6 100) h) fun r7 h8 =>
      lt ((rm32 x6 100) + (x7 * r7)) fun u11 =>
      bnd (f11_wantsOf x4 h8) fun r12 h13 =>
      bnd (f11_cracksOf x4 h13) fun r16 h17 =>
      bnd (f11_isIn u11 r12 r16 h17) fun r20 h21 =>
      if w32 r20 = 0 then
        b11_counts_190 rec31 rec42 x1 x2 x3 x4 x5 x6 x7 h21
      else
        if ¬ w32 x7 = 1 then
          b11_counts_135 rec31 rec42 x1 x2 x3 x4 x6 x7 u11 h21
        else
          bnd (f11_burnsBehind x1 x2 x3 (dv32 x6 100) h21) fun r24 h25 =>
          if w32 r24 = 0 then
            b11_counts_190 rec31 rec42 x1 x2 x3 x4 x5 x6 x7 h25
          else
            if ¬ w32 (dv32 x6 100) = 9 then
              b11_counts_135 rec31 rec42 x1 x2 x3 x4 x6 x7 u11 h25
            else
              b11_counts_190 rec31 rec42 x1 x2 x3 x4 x5 x6 x7 h25
set_option maxRecDepth 100000 in
theorem t11_counts_42 (l : Launch) (G : Geo) (d : Nat) (hd : 5 ≤ d) (x1 : Int) (x2 : Int) (x3 : Int) (x4 : Int) (x6 : Int) (x5 : Int) (x7 : Int) (rec42 : Int × Int × AH → Option (Int × AH)) (H42 : ∀ (x5 : Int) (x7 : Int) (h : AH), Den l G m11_counts rvI d 42 [some (vA G 69), some (vI x1), some (vI x2), some (vI x3), some (vI x4), some (vI x5), some (vI x6), some (vI x7), none] [] h (rec42 (x5, x7, h))) (rec31 : Int × Int × AH → Option (Int × AH)) (H31 : ∀ (x5 : Int) (x6 : Int) (h : AH), Den l G m11_counts rvI d 31 [some (vA G 69), some (vI x1), some (vI x2), some (vI x3), some (vI x4), some (vI x5), some (vI x6), none, none] [] h (rec31 (x5, x6, h))) (h : AH) : Den l G m11_counts rvI d 42 [some (vA G 69), some (vI x1), some (vI x2), some (vI x3), some (vI x4), some (vI x5), some (vI x6), some (vI x7), none] [] h (b11_counts_42 rec42 rec31 x1 x2 x3 x4 x6 x5 x7 h) := by
  unfold b11_counts_42
  refine den_iload (pc := 42) d11_counts_42 rfl ?_
  refine den_iconst (pc := 44) d11_counts_44 ?_
  refine den_icmp_ge (pc := 45) (tgt := 196) d11_counts_45 (by decide) rfl (by decide) (fun _ => ?_) (fun _ => ?_)
  · refine den_wk [true, true, true, true, true, true, true, false, true] rfl ?_
    exact t11_counts_196 l G _ hd x1 x2 x3 x4 x5 x6 rec31 H31 h
  · refine den_aload_n (pc := 48) d11_counts_48 rfl rfl ?_
    refine den_getR (pc := 49) (b := 82) fa_11_47 (ok_69 _) rfl d11_counts_49 ?_
    refine den_iload (pc := 52) d11_counts_52 rfl ?_
    refine den_asrt (fun a6 => ?_)
    refine den_zaload (pc := 54) sh_82 (sz_lt (by decide)) rfl a6 d11_counts_54 ?_
    refine den_if_eq (pc := 55) (tgt := 196) d11_counts_55 (by decide) rfl (fun _ => ?_) (fun _ => ?_)
    · refine den_wk [true, true, true, true, true, true, true, false, true] rfl ?_
      exact t11_counts_196 l G _ hd x1 x2 x3 x4 x5 x6 rec31 H31 h
    · refine den_iload (pc := 58) d11_counts_58 rfl ?_
      refine den_bipush (pc := 60) d11_counts_60 (by decide) ?_
      refine den_irem (pc := 62) d11_counts_62 (by decide) ?_
      refine den_iload (pc := 63) d11_counts_63 rfl ?_
      refine den_aload_n (pc := 65) d11_counts_65 rfl rfl ?_
      refine den_iload_n (pc := 66) d11_counts_66 rfl rfl ?_
      refine den_iload_n (pc := 67) d11_counts_67 rfl rfl ?_
      refine den_iload_n (pc := 68) d11_counts_68 rfl rfl ?_
      refine den_iload (pc := 69) d11_counts_69 rfl ?_
      refine den_bipush (pc := 71) d11_counts_71 (by decide) ?_
      refine den_idiv (pc := 73) d11_counts_73 (by decide) ?_
      refine den_callVI (pc := 74) (As := [vI x1, vI x2, vI x3, vI (dv32 x6 100)]) fv_11_272 rfl rfl (ok_69 _) (Nat.le_of_ble_eq_true rfl) (Nat.le_trans (by decide) hd) d11_counts_74 (c11_burnsBehind l G x1 x2 x3 (dv32 x6 100) h) (fun r7 h8 m9 o10 => ?_)
      refine den_imul (pc := 77) d11_counts_77 ?_
      refine den_iadd (pc := 78) d11_counts_78 ?_
      refine den_istoreL (pc := 79) (L2 := fun y => [some (vA G 69), some (vI x1), some (vI x2), some (vI x3), some (vI x4), some (vI x5), some (vI x6), some (vI x7), some (vI y)]) d11_counts_79 (by decide) (fun _ => rfl) (fun u11 => ?_)
      refine den_iload (pc := 81) d11_counts_81 rfl ?_
      refine den_aload_n (pc := 83) d11_counts_83 rfl rfl ?_
      refine den_iload (pc := 84) d11_counts_84 rfl ?_
      refine den_callVI (pc := 86) (As := [vI x4]) fv_11_219 rfl rfl (ok_69 _) (Nat.le_of_ble_eq_true rfl) (Nat.le_trans (by decide) hd) d11_counts_86 (c11_wantsOf l G x4 h8) (fun r12 h13 m14 o15 => ?_)
      refine den_aload_n (pc := 89) d11_counts_89 rfl rfl ?_
      refine den_iload (pc := 90) d11_counts_90 rfl ?_
      refine den_callVI (pc := 92) (As := [vI x4]) fv_11_222 rfl rfl (ok_69 _) (Nat.le_of_ble_eq_true rfl) (Nat.le_trans (by decide) hd) d11_counts_92 (c11_cracksOf l G x4 h13) (fun r16 h17 m18 o19 => ?_)
      refine den_callSI (pc := 95) (As := [vI u11, vI r12, vI r16]) fs_11_135 rfl rfl (Nat.le_of_ble_eq_true rfl) (Nat.le_trans (by decide) hd) d11_counts_95 (c11_isIn l G u11 r12 r16 h17) (fun r20 h21 m22 o23 => ?_)
      refine den_if_eq (pc := 98) (tgt := 190) d11_counts_98 (by decide) rfl (fun _ => ?_) (fun _ => ?_)
      · refine den_wk [true, true, true, true, true, true, true, true, false] rfl ?_
        exact t11_counts_190 l G _ hd x1 x2 x3 x4 x5 x6 x7 rec31 H31 rec42 H42 h21
      · refine den_iload (pc := 101) d11_counts_101 rfl ?_
        refine den_iconst (pc := 103) d11_counts_103 ?_
        refine den_icmp_ne (pc := 104) (tgt := 135) d11_counts_104 (by decide) rfl (by decide) (fun _ => ?_) (fun _ => ?_)
        · refine den_wk [true, true, true, true, true, false, true, true, true] rfl ?_
          exact t11_counts_135 l G _ hd x1 x2 x3 x4 x6 x7 u11 rec31 H31 rec42 H42 h21
        · refine den_aload_n (pc := 107) d11_counts_107 rfl rfl ?_
          refine den_iload_n (pc := 108) d11_counts_108 rfl rfl ?_
          refine den_iload_n (pc := 109) d11_counts_109 rfl rfl ?_
          refine den_iload_n (pc := 110) d11_counts_110 rfl rfl ?_
          refine den_iload (pc := 111) d11_counts_111 rfl ?_
          refine den_bipush (pc := 113) d11_counts_113 (by decide) ?_
          refine den_idiv (pc := 115) d11_counts_115 (by decide) ?_
          refine den_callVI (pc := 116) (As := [vI x1, vI x2, vI x3, vI (dv32 x6 100)]) fv_11_272 rfl rfl (ok_69 _) (Nat.le_of_ble_eq_true rfl) (Nat.le_trans (by decide) hd) d11_counts_116 (c11_burnsBehind l G x1 x2 x3 (dv32 x6 100) h21) (fun r24 h25 m26 o27 => ?_)
          refine den_if_eq (pc := 119) (tgt := 190) d11_counts_119 (by decide) rfl (fun _ => ?_) (fun _ => ?_)
          · refine den_wk [true, true, true, true, true, true, true, true, false] rfl ?_
            exact t11_counts_190 l G _ hd x1 x2 x3 x4 x5 x6 x7 rec31 H31 rec42 H42 h25
          · refine den_iload (pc := 122) d11_counts_122 rfl ?_
            refine den_bipush (pc := 124) d11_counts_124 (by decide) ?_
            refine den_idiv (pc := 126) d11_counts_126 (by decide) ?_
            refine den_bipush (pc := 127) d11_counts_127 (by decide) ?_
            refine den_icmp_ne (pc := 129) (tgt := 135) d11_counts_129 (by decide) rfl (by decide) (fun _ => ?_) (fun _ => ?_)
            · refine den_wk [true, true, true, true, true, false, true, true, true] rfl ?_
              exact t11_counts_135 l G _ hd x1 x2 x3 x4 x6 x7 u11 rec31 H31 rec42 H42 h25
            · refine den_goto (pc := 132) (tgt := 190) d11_counts_132 (by decide) ?_
              refine den_wk [true, true, true, true, true, true, true, true, false] rfl ?_
              exact t11_counts_190 l G _ hd x1 x2 x3 x4 x5 x6 x7 rec31 H31 rec42 H42 h25
def l11_counts_42 (rec31 : Int × Int × AH → Option (Int × AH)) (x1 : Int) (x2 : Int) (x3 : Int) (x4 : Int) (x6 : Int) (x5 : Int) (x7 : Int) (h : AH) : Option (Int × AH) := fx (fun rec z => b11_counts_42 rec rec31 x1 x2 x3 x4 x6 z.1 z.2.1 z.2.2) FU (x5, x7, h)
set_option maxRecDepth 100000 in
theorem tl11_counts_42 (l : Launch) (G : Geo) (d : Nat) (hd : 5 ≤ d) (x1 : Int) (x2 : Int) (x3 : Int) (x4 : Int) (x6 : Int) (rec31 : Int × Int × AH → Option (Int × AH)) (H31 : ∀ (x5 : Int) (x6 : Int) (h : AH), Den l G m11_counts rvI d 31 [some (vA G 69), some (vI x1), some (vI x2), some (vI x3), some (vI x4), some (vI x5), some (vI x6), none, none] [] h (rec31 (x5, x6, h))) : ∀ (n : Nat) (z : Int × Int × AH), True → Den l G m11_counts rvI d 42 [some (vA G 69), some (vI x1), some (vI x2), some (vI x3), some (vI x4), some (vI z.1), some (vI x6), some (vI z.2.1), none] [] z.2.2 (fx (fun rec z => b11_counts_42 rec rec31 x1 x2 x3 x4 x6 z.1 z.2.1 z.2.2) n z) :=
  den_fx (F := fun rec z => b11_counts_42 rec rec31 x1 x2 x3 x4 x6 z.1 z.2.1 z.2.2) (P := fun z => True) (fL := fun z => [some (vA G 69), some (vI x1), some (vI x2), some (vI x3), some (vI x4), some (vI z.1), some (vI x6), some (vI z.2.1), none]) (fs := fun z => []) (fh := fun z => z.2.2) (fun rec hrec z hz => t11_counts_42 l G d hd x1 x2 x3 x4 x6 z.1 z.2.1 rec (fun x5 x7 h => hrec (x5, x7, h) trivial) rec31 H31 z.2.2 )
def b11_counts_205 (rec205 : Int × AH → Option (Int × AH)) (x5 : Int) (x6 : Int) (h : AH) : Option (Int × AH) :=
  if 1000 ≤ w32 x6 then
    asrt (w32 x5 = 0 ∨ w32 x5 = 1) <|
    some (x5, h)
  else
    asrt (0 ≤ w32 x6 ∧ w32 x6 < 1000) <|
    asrt (0 ≤ w32 x6 ∧ w32 x6 < 1000) <|
    lt (wr h 82 (w32 x6).toNat (nz (h.2 83 (w32 x6).toNat))) fun h31 =>
    rec205 ((x6 + 1), h31)
set_option maxRecDepth 100000 in
theorem t11_counts_205 (l : Launch) (G : Geo) (d : Nat) (hd : 5 ≤ d) (x5 : Int) (x6 : Int) (rec205 : Int × AH → Option (Int × AH)) (H205 : ∀ (x6 : Int) (h : AH), Den l G m11_counts rvI d 205 [some (vA G 69), none, none, none, none, some (vI x5), some (vI x6), none, none] [] h (rec205 (x6, h))) (h : AH) : Den l G m11_counts rvI d 205 [some (vA G 69), none, none, none, none, some (vI x5), some (vI x6), none, none] [] h (b11_counts_205 rec205 x5 x6 h) := by
  unfold b11_counts_205
  refine den_iload (pc := 205) d11_counts_205 rfl ?_
  refine den_sipush (pc := 207) d11_counts_207 (by decide) ?_
  refine den_icmp_ge (pc := 210) (tgt := 233) d11_counts_210 (by decide) rfl (by decide) (fun _ => ?_) (fun _ => ?_)
  · refine den_iload (pc := 233) d11_counts_233 rfl ?_
    refine den_asrt (fun a28 => ?_)
    exact den_zret (pc := 235) rfl a28 d11_counts_235
  · refine den_aload_n (pc := 213) d11_counts_213 rfl rfl ?_
    refine den_getR (pc := 214) (b := 82) fa_11_47 (ok_69 _) rfl d11_counts_214 ?_
    refine den_iload (pc := 217) d11_counts_217 rfl ?_
    refine den_aload_n (pc := 219) d11_counts_219 rfl rfl ?_
    refine den_getR (pc := 220) (b := 83) fa_11_50 (ok_69 _) rfl d11_counts_220 ?_
    refine den_iload (pc := 223) d11_counts_223 rfl ?_
    refine den_asrt (fun a29 => ?_)
    refine den_zaload (pc := 225) sh_83 (sz_lt (by decide)) rfl a29 d11_counts_225 ?_
    refine den_asrt (fun a30 => ?_)
    refine den_zastore (pc := 226) sh_82 (sz_lt (by decide)) rfl a30 d11_counts_226 ?_
    refine den_ltH (fun h31 m32 => ?_)
    refine den_iinc (pc := 227) (L2 := [some (vA G 69), none, none, none, none, some (vI x5), some (vI (x6 + 1)), none, none]) d11_counts_227 (by decide) rfl rfl ?_
    refine den_goto (pc := 230) (tgt := 205) d11_counts_230 (by decide) ?_
    exact H205 (x6 + 1) h31
def l11_counts_205 (x5 : Int) (x6 : Int) (h : AH) : Option (Int × AH) := fx (fun rec z => b11_counts_205 rec x5 z.1 z.2) FU (x6, h)
set_option maxRecDepth 100000 in
theorem tl11_counts_205 (l : Launch) (G : Geo) (d : Nat) (hd : 5 ≤ d) (x5 : Int) : ∀ (n : Nat) (z : Int × AH), True → Den l G m11_counts rvI d 205 [some (vA G 69), none, none, none, none, some (vI x5), some (vI z.1), none, none] [] z.2 (fx (fun rec z => b11_counts_205 rec x5 z.1 z.2) n z) :=
  den_fx (F := fun rec z => b11_counts_205 rec x5 z.1 z.2) (P := fun z => True) (fL := fun z => [some (vA G 69), none, none, none, none, some (vI x5), some (vI z.1), none, none]) (fs := fun z => []) (fh := fun z => z.2) (fun rec hrec z hz => t11_counts_205 l G d hd x5 z.1 rec (fun x6 h => hrec (x6, h) trivial) z.2 )
def b11_counts_31 (rec31 : Int × Int × AH → Option (Int × AH)) (x1 : Int) (x2 : Int) (x3 : Int) (x4 : Int) (x5 : Int) (x6 : Int) (h : AH) : Option (Int × AH) :=
  if 1000 ≤ w32 x6 then
    l11_counts_205 x5 0 h
  else
    l11_counts_42 rec31 x1 x2 x3 x4 x6 x5 0 h
set_option maxRecDepth 100000 in
theorem t11_counts_31 (l : Launch) (G : Geo) (d : Nat) (hd : 5 ≤ d) (x1 : Int) (x2 : Int) (x3 : Int) (x4 : Int) (x5 : Int) (x6 : Int) (rec31 : Int × Int × AH → Option (Int × AH)) (H31 : ∀ (x5 : Int) (x6 : Int) (h : AH), Den l G m11_counts rvI d 31 [some (vA G 69), some (vI x1), some (vI x2), some (vI x3), some (vI x4), some (vI x5), some (vI x6), none, none] [] h (rec31 (x5, x6, h))) (h : AH) : Den l G m11_counts rvI d 31 [some (vA G 69), some (vI x1), some (vI x2), some (vI x3), some (vI x4), some (vI x5), some (vI x6), none, none] [] h (b11_counts_31 rec31 x1 x2 x3 x4 x5 x6 h) := by
  unfold b11_counts_31
  refine den_iload (pc := 31) d11_counts_31 rfl ?_
  refine den_sipush (pc := 33) d11_counts_33 (by decide) ?_
  refine den_icmp_ge (pc := 36) (tgt := 202) d11_counts_36 (by decide) rfl (by decide) (fun _ => ?_) (fun _ => ?_)
  · refine den_iconst (pc := 202) d11_counts_202 ?_
    refine den_istore (pc := 203) (L2 := [some (vA G 69), some (vI x1), some (vI x2), some (vI x3), some (vI x4), some (vI x5), some (vI 0), none, none]) d11_counts_203 (by decide) rfl ?_
    refine den_wk [true, false, false, false, false, true, true, true, true] rfl ?_
    exact tl11_counts_205 l G _ hd x5 FU (0, h) trivial
  · refine den_iconst (pc := 39) d11_counts_39 ?_
    refine den_istore (pc := 40) (L2 := [some (vA G 69), some (vI x1), some (vI x2), some (vI x3), some (vI x4), some (vI x5), some (vI x6), some (vI 0), none]) d11_counts_40 (by decide) rfl ?_
    exact tl11_counts_42 l G _ hd x1 x2 x3 x4 x6 rec31 H31 FU (x5, 0, h) trivial
def l11_counts_31 (x1 : Int) (x2 : Int) (x3 : Int) (x4 : Int) (x5 : Int) (x6 : Int) (h : AH) : Option (Int × AH) := fx (fun rec z => b11_counts_31 rec x1 x2 x3 x4 z.1 z.2.1 z.2.2) FU (x5, x6, h)
set_option maxRecDepth 100000 in
theorem tl11_counts_31 (l : Launch) (G : Geo) (d : Nat) (hd : 5 ≤ d) (x1 : Int) (x2 : Int) (x3 : Int) (x4 : Int) : ∀ (n : Nat) (z : Int × Int × AH), True → Den l G m11_counts rvI d 31 [some (vA G 69), some (vI x1), some (vI x2), some (vI x3), some (vI x4), some (vI z.1), some (vI z.2.1), none, none] [] z.2.2 (fx (fun rec z => b11_counts_31 rec x1 x2 x3 x4 z.1 z.2.1 z.2.2) n z) :=
  den_fx (F := fun rec z => b11_counts_31 rec x1 x2 x3 x4 z.1 z.2.1 z.2.2) (P := fun z => True) (fL := fun z => [some (vA G 69), some (vI x1), some (vI x2), some (vI x3), some (vI x4), some (vI z.1), some (vI z.2.1), none, none]) (fs := fun z => []) (fh := fun z => z.2.2) (fun rec hrec z hz => t11_counts_31 l G d hd x1 x2 x3 x4 z.1 z.2.1 rec (fun x5 x6 h => hrec (x5, x6, h) trivial) z.2.2 )
def b11_counts_6 (rec6 : Int × AH → Option (Int × AH)) (x1 : Int) (x2 : Int) (x3 : Int) (x4 : Int) (x5 : Int) (x6 : Int) (h : AH) : Option (Int × AH) :=
  if 1000 ≤ w32 x6 then
    l11_counts_31 x1 x2 x3 x4 x5 0 h
  else
    asrt (0 ≤ w32 x6 ∧ w32 x6 < 1000) <|
    lt (wr h 83 (w32 x6).toNat (nz 0)) fun h34 =>
    rec6 ((x6 + 1), h34)
set_option maxRecDepth 100000 in
theorem t11_counts_6 (l : Launch) (G : Geo) (d : Nat) (hd : 5 ≤ d) (x1 : Int) (x2 : Int) (x3 : Int) (x4 : Int) (x5 : Int) (x6 : Int) (rec6 : Int × AH → Option (Int × AH)) (H6 : ∀ (x6 : Int) (h : AH), Den l G m11_counts rvI d 6 [some (vA G 69), some (vI x1), some (vI x2), some (vI x3), some (vI x4), some (vI x5), some (vI x6), none, none] [] h (rec6 (x6, h))) (h : AH) : Den l G m11_counts rvI d 6 [some (vA G 69), some (vI x1), some (vI x2), some (vI x3), some (vI x4), some (vI x5), some (vI x6), none, none] [] h (b11_counts_6 rec6 x1 x2 x3 x4 x5 x6 h) := by
  unfold b11_counts_6
  refine den_iload (pc := 6) d11_counts_6 rfl ?_
  refine den_sipush (pc := 8) d11_counts_8 (by decide) ?_
  refine den_icmp_ge (pc := 11) (tgt := 28) d11_counts_11 (by decide) rfl (by decide) (fun _ => ?_) (fun _ => ?_)
  · refine den_iconst (pc := 28) d11_counts_28 ?_
    refine den_istore (pc := 29) (L2 := [some (vA G 69), some (vI x1), some (vI x2), some (vI x3), some (vI x4), some (vI x5), some (vI 0), none, none]) d11_counts_29 (by decide) rfl ?_
    exact tl11_counts_31 l G _ hd x1 x2 x3 x4 FU (x5, 0, h) trivial
  · refine den_aload_n (pc := 14) d11_counts_14 rfl rfl ?_
    refine den_getR (pc := 15) (b := 83) fa_11_50 (ok_69 _) rfl d11_counts_15 ?_
    refine den_iload (pc := 18) d11_counts_18 rfl ?_
    refine den_iconst (pc := 20) d11_counts_20 ?_
    refine den_asrt (fun a33 => ?_)
    refine den_zastore (pc := 21) sh_83 (sz_lt (by decide)) rfl a33 d11_counts_21 ?_
    refine den_ltH (fun h34 m35 => ?_)
    refine den_iinc (pc := 22) (L2 := [some (vA G 69), some (vI x1), some (vI x2), some (vI x3), some (vI x4), some (vI x5), some (vI (x6 + 1)), none, none]) d11_counts_22 (by decide) rfl rfl ?_
    refine den_goto (pc := 25) (tgt := 6) d11_counts_25 (by decide) ?_
    exact H6 (x6 + 1) h34
def l11_counts_6 (x1 : Int) (x2 : Int) (x3 : Int) (x4 : Int) (x5 : Int) (x6 : Int) (h : AH) : Option (Int × AH) := fx (fun rec z => b11_counts_6 rec x1 x2 x3 x4 x5 z.1 z.2) FU (x6, h)
set_option maxRecDepth 100000 in
theorem tl11_counts_6 (l : Launch) (G : Geo) (d : Nat) (hd : 5 ≤ d) (x1 : Int) (x2 : Int) (x3 : Int) (x4 : Int) (x5 : Int) : ∀ (n : Nat) (z : Int × AH), True → Den l G m11_counts rvI d 6 [some (vA G 69), some (vI x1), some (vI x2), some (vI x3), some (vI x4), some (vI x5), some (vI z.1), none, none] [] z.2 (fx (fun rec z => b11_counts_6 rec x1 x2 x3 x4 x5 z.1 z.2) n z) :=
  den_fx (F := fun rec z => b11_counts_6 rec x1 x2 x3 x4 x5 z.1 z.2) (P := fun z => True) (fL := fun z => [some (vA G 69), some (vI x1), some (vI x2), some (vI x3), some (vI x4), some (vI x5), some (vI z.1), none, none]) (fs := fun z => []) (fh := fun z => z.2) (fun rec hrec z hz => t11_counts_6 l G d hd x1 x2 x3 x4 x5 z.1 rec (fun x6 h => hrec (x6, h) trivial) z.2 )
def f11_counts (x1 : Int) (x2 : Int) (x3 : Int) (x4 : Int) (h : AH) : Option (Int × AH) :=
  l11_counts_6 x1 x2 x3 x4 0 0 h
set_option maxRecDepth 100000 in
theorem c11_counts (l : Launch) (G : Geo) (x1 : Int) (x2 : Int) (x3 : Int) (x4 : Int) (h : AH) : Con l G m11_counts rvI 5 [vA G 69, vI x1, vI x2, vI x3, vI x4] h (f11_counts x1 x2 x3 x4 h) := by
  have hd : 5 ≤ 5 := Nat.le_refl _
  refine con_Z rfl (by decide) rfl rfl (Nat.le_of_ble_eq_true rfl) (L := [some (vA G 69), some (vI x1), some (vI x2), some (vI x3), some (vI x4), none, none, none, none]) ?_
  unfold f11_counts
  refine den_iconst (pc := 0) d11_counts_0 ?_
  refine den_istore (pc := 1) (L2 := [some (vA G 69), some (vI x1), some (vI x2), some (vI x3), some (vI x4), some (vI 0), none, none, none]) d11_counts_1 (by decide) rfl ?_
  refine den_iconst (pc := 3) d11_counts_3 ?_
  refine den_istore (pc := 4) (L2 := [some (vA G 69), some (vI x1), some (vI x2), some (vI x3), some (vI x4), some (vI 0), some (vI 0), none, none]) d11_counts_4 (by decide) rfl ?_
  exact tl11_counts_6 l G _ hd x1 x2 x3 x4 0 FU (0, h) trivial
theorem d11_kept_0 : decode m11_kept.2.1 0 = .ok (.aload_n 0, 1) := by decide +kernel
theorem d11_kept_1 : decode m11_kept.2.1 1 = .ok (.iload_n 1, 1) := by decide +kernel
theorem d11_kept_2 : decode m11_kept.2.1 2 = .ok (.invokevirtual 201, 3) := by decide +kernel
theorem d11_kept_5 : decode m11_kept.2.1 5 = .ok (.ifCond .eq 48, 3) := by decide +kernel
theorem d11_kept_8 : decode m11_kept.2.1 8 = .ok (.aload_n 0, 1) := by decide +kernel
theorem d11_kept_9 : decode m11_kept.2.1 9 = .ok (.iload_n 2, 1) := by decide +kernel
theorem d11_kept_10 : decode m11_kept.2.1 10 = .ok (.iload_n 3, 1) := by decide +kernel
theorem d11_kept_11 : decode m11_kept.2.1 11 = .ok (.invokevirtual 228, 3) := by decide +kernel
theorem d11_kept_14 : decode m11_kept.2.1 14 = .ok (.ifCond .eq 39, 3) := by decide +kernel
theorem d11_kept_17 : decode m11_kept.2.1 17 = .ok (.aload_n 0, 1) := by decide +kernel
theorem d11_kept_18 : decode m11_kept.2.1 18 = .ok (.iload 4, 2) := by decide +kernel
theorem d11_kept_20 : decode m11_kept.2.1 20 = .ok (.invokevirtual 207, 3) := by decide +kernel
theorem d11_kept_23 : decode m11_kept.2.1 23 = .ok (.ifCond .eq 30, 3) := by decide +kernel
theorem d11_kept_26 : decode m11_kept.2.1 26 = .ok (.aload_n 0, 1) := by decide +kernel
theorem d11_kept_27 : decode m11_kept.2.1 27 = .ok (.iload_n 2, 1) := by decide +kernel
theorem d11_kept_28 : decode m11_kept.2.1 28 = .ok (.iload_n 3, 1) := by decide +kernel
theorem d11_kept_29 : decode m11_kept.2.1 29 = .ok (.iload 4, 2) := by decide +kernel
theorem d11_kept_31 : decode m11_kept.2.1 31 = .ok (.invokevirtual 231, 3) := by decide +kernel
theorem d11_kept_34 : decode m11_kept.2.1 34 = .ok (.iconst (-1), 1) := by decide +kernel
theorem d11_kept_35 : decode m11_kept.2.1 35 = .ok (.if_icmp .eq 18, 3) := by decide +kernel
theorem d11_kept_38 : decode m11_kept.2.1 38 = .ok (.iload 5, 2) := by decide +kernel
theorem d11_kept_40 : decode m11_kept.2.1 40 = .ok (.iconst 0, 1) := by decide +kernel
theorem d11_kept_41 : decode m11_kept.2.1 41 = .ok (.aload_n 0, 1) := by decide +kernel
theorem d11_kept_42 : decode m11_kept.2.1 42 = .ok (.getfield 198, 3) := by decide +kernel
theorem d11_kept_45 : decode m11_kept.2.1 45 = .ok (.iconst 1, 1) := by decide +kernel
theorem d11_kept_46 : decode m11_kept.2.1 46 = .ok (.isub, 1) := by decide +kernel
theorem d11_kept_47 : decode m11_kept.2.1 47 = .ok (.invokestatic 135, 3) := by decide +kernel
theorem d11_kept_50 : decode m11_kept.2.1 50 = .ok (.ifCond .ne 5, 3) := by decide +kernel
theorem d11_kept_53 : decode m11_kept.2.1 53 = .ok (.iconst (-1), 1) := by decide +kernel
theorem d11_kept_54 : decode m11_kept.2.1 54 = .ok (.ireturn, 1) := by decide +kernel
theorem d11_kept_55 : decode m11_kept.2.1 55 = .ok (.iconst 0, 1) := by decide +kernel
theorem d11_kept_56 : decode m11_kept.2.1 56 = .ok (.istore 6, 2) := by decide +kernel
theorem d11_kept_58 : decode m11_kept.2.1 58 = .ok (.iload 6, 2) := by decide +kernel
theorem d11_kept_60 : decode m11_kept.2.1 60 = .ok (.sipush 1000, 3) := by decide +kernel
theorem d11_kept_63 : decode m11_kept.2.1 63 = .ok (.if_icmp .ge 26, 3) := by decide +kernel
theorem d11_kept_66 : decode m11_kept.2.1 66 = .ok (.aload_n 0, 1) := by decide +kernel
theorem d11_kept_67 : decode m11_kept.2.1 67 = .ok (.getfield 47, 3) := by decide +kernel
theorem d11_kept_70 : decode m11_kept.2.1 70 = .ok (.iload 6, 2) := by decide +kernel
theorem d11_kept_72 : decode m11_kept.2.1 72 = .ok (.iload 6, 2) := by decide +kernel
theorem d11_kept_74 : decode m11_kept.2.1 74 = .ok (.ifCond .ne 7, 3) := by decide +kernel
theorem d11_kept_77 : decode m11_kept.2.1 77 = .ok (.iconst 1, 1) := by decide +kernel
theorem d11_kept_78 : decode m11_kept.2.1 78 = .ok (.goto 4, 3) := by decide +kernel
theorem d11_kept_81 : decode m11_kept.2.1 81 = .ok (.iconst 0, 1) := by decide +kernel
theorem d11_kept_82 : decode m11_kept.2.1 82 = .ok (.bastore, 1) := by decide +kernel
theorem d11_kept_83 : decode m11_kept.2.1 83 = .ok (.iinc 6 1, 3) := by decide +kernel
theorem d11_kept_86 : decode m11_kept.2.1 86 = .ok (.goto (-28), 3) := by decide +kernel
theorem d11_kept_89 : decode m11_kept.2.1 89 = .ok (.iconst 0, 1) := by decide +kernel
theorem d11_kept_90 : decode m11_kept.2.1 90 = .ok (.istore 6, 2) := by decide +kernel
theorem d11_kept_92 : decode m11_kept.2.1 92 = .ok (.iload 6, 2) := by decide +kernel
theorem d11_kept_94 : decode m11_kept.2.1 94 = .ok (.bipush 99, 2) := by decide +kernel
theorem d11_kept_96 : decode m11_kept.2.1 96 = .ok (.if_icmp .ge 22, 3) := by decide +kernel
theorem d11_kept_99 : decode m11_kept.2.1 99 = .ok (.aload_n 0, 1) := by decide +kernel
theorem d11_kept_100 : decode m11_kept.2.1 100 = .ok (.iload_n 2, 1) := by decide +kernel
theorem d11_kept_101 : decode m11_kept.2.1 101 = .ok (.iload_n 3, 1) := by decide +kernel
theorem d11_kept_102 : decode m11_kept.2.1 102 = .ok (.iload 4, 2) := by decide +kernel
theorem d11_kept_104 : decode m11_kept.2.1 104 = .ok (.iload 5, 2) := by decide +kernel
theorem d11_kept_106 : decode m11_kept.2.1 106 = .ok (.invokevirtual 276, 3) := by decide +kernel
theorem d11_kept_109 : decode m11_kept.2.1 109 = .ok (.ifCond .eq 9, 3) := by decide +kernel
theorem d11_kept_112 : decode m11_kept.2.1 112 = .ok (.iinc 6 1, 3) := by decide +kernel
theorem d11_kept_115 : decode m11_kept.2.1 115 = .ok (.goto (-23), 3) := by decide +kernel
theorem d11_kept_118 : decode m11_kept.2.1 118 = .ok (.iload 6, 2) := by decide +kernel
theorem d11_kept_120 : decode m11_kept.2.1 120 = .ok (.ireturn, 1) := by decide +kernel
def b11_kept_82 (rec58 : Int × AH → Option (Int × AH)) (x2 : Int) (x3 : Int) (x4 : Int) (x5 : Int) (x6 : Int) (s0 : Int) (s1 : Int) (h : AH) : Option (Int × AH) :=
  asrt (0 ≤ w32 s1 ∧ w32 s1 < 1000) <|
  lt (wr h 82 (w32 s1).toNat (nz s0)) fun h2 =>
  rec58 ((x6 + 1), h2)
set_option maxRecDepth 100000 in
theorem t11_kept_82 (l : Launch) (G : Geo) (d : Nat) (hd : 6 ≤ d) (x2 : Int) (x3 : Int) (x4 : Int) (x5 : Int) (x6 : Int) (s0 : Int) (s1 : Int) (rec58 : Int × AH → Option (Int × AH)) (H58 : ∀ (x6 : Int) (h : AH), Den l G m11_kept rvI d 58 [some (vA G 69), none, some (vI x2), some (vI x3), some (vI x4), some (vI x5), some (vI x6)] [] h (rec58 (x6, h))) (h : AH) : Den l G m11_kept rvI d 82 [some (vA G 69), none, some (vI x2), some (vI x3), some (vI x4), some (vI x5), some (vI x6)] [vI s0, vI s1, vA G 82] h (b11_kept_82 rec58 x2 x3 x4 x5 x6 s0 s1 h) := by
  unfold b11_kept_82
  refine den_asrt (fun a1 => ?_)
  refine den_zastore (pc := 82) sh_82 (sz_lt (by decide)) rfl a1 d11_kept_82 ?_
  refine den_ltH (fun h2 m3 => ?_)
  refine den_iinc (pc := 83) (L2 := [some (vA G 69), none, some (vI x2), some (vI x3), some (vI x4), some (vI x5), some (vI (x6 + 1))]) d11_kept_83 (by decide) rfl rfl ?_
  refine den_goto (pc := 86) (tgt := 58) d11_kept_86 (by decide) ?_
  exact H58 (x6 + 1) h2
def b11_kept_92 (rec92 : Int × AH → Option (Int × AH)) (x2 : Int) (x3 : Int) (x4 : Int) (x5 : Int) (x6 : Int) (h : AH) : Option (Int × AH) :=
  if 99 ≤ w32 x6 then
    some (x6, h)
  else
    bnd (f11_counts x2 x3 x4 x5 h) fun r4 h5 =>
    if w32 r4 = 0 then
      some (x6, h5)
    else
      rec92 ((x6 + 1), h5)
set_option maxRecDepth 100000 in
theorem t11_kept_92 (l : Launch) (G : Geo) (d : Nat) (hd : 6 ≤ d) (x2 : Int) (x3 : Int) (x4 : Int) (x5 : Int) (x6 : Int) (rec92 : Int × AH → Option (Int × AH)) (H92 : ∀ (x6 : Int) (h : AH), Den l G m11_kept rvI d 92 [some (vA G 69), none, some (vI x2), some (vI x3), some (vI x4), some (vI x5), some (vI x6)] [] h (rec92 (x6, h))) (h : AH) : Den l G m11_kept rvI d 92 [some (vA G 69), none, some (vI x2), some (vI x3), some (vI x4), some (vI x5), some (vI x6)] [] h (b11_kept_92 rec92 x2 x3 x4 x5 x6 h) := by
  unfold b11_kept_92
  refine den_iload (pc := 92) d11_kept_92 rfl ?_
  refine den_bipush (pc := 94) d11_kept_94 (by decide) ?_
  refine den_icmp_ge (pc := 96) (tgt := 118) d11_kept_96 (by decide) rfl (by decide) (fun _ => ?_) (fun _ => ?_)
  · refine den_iload (pc := 118) d11_kept_118 rfl ?_
    exact den_iret (pc := 120) rfl d11_kept_120
  · refine den_aload_n (pc := 99) d11_kept_99 rfl rfl ?_
    refine den_iload_n (pc := 100) d11_kept_100 rfl rfl ?_
    refine den_iload_n (pc := 101) d11_kept_101 rfl rfl ?_
    refine den_iload (pc := 102) d11_kept_102 rfl ?_
    refine den_iload (pc := 104) d11_kept_104 rfl ?_
    refine den_callVI (pc := 106) (As := [vI x2, vI x3, vI x4, vI x5]) fv_11_276 rfl rfl (ok_69 _) (Nat.le_of_ble_eq_true rfl) (Nat.le_trans (by decide) hd) d11_kept_106 (c11_counts l G x2 x3 x4 x5 h) (fun r4 h5 m6 o7 => ?_)
    refine den_if_eq (pc := 109) (tgt := 118) d11_kept_109 (by decide) rfl (fun _ => ?_) (fun _ => ?_)
    · refine den_iload (pc := 118) d11_kept_118 rfl ?_
      exact den_iret (pc := 120) rfl d11_kept_120
    · refine den_iinc (pc := 112) (L2 := [some (vA G 69), none, some (vI x2), some (vI x3), some (vI x4), some (vI x5), some (vI (x6 + 1))]) d11_kept_112 (by decide) rfl rfl ?_
      refine den_goto (pc := 115) (tgt := 92) d11_kept_115 (by decide) ?_
      exact H92 (x6 + 1) h5
def l11_kept_92 (x2 : Int) (x3 : Int) (x4 : Int) (x5 : Int) (x6 : Int) (h : AH) : Option (Int × AH) := fx (fun rec z => b11_kept_92 rec x2 x3 x4 x5 z.1 z.2) FU (x6, h)
set_option maxRecDepth 100000 in
theorem tl11_kept_92 (l : Launch) (G : Geo) (d : Nat) (hd : 6 ≤ d) (x2 : Int) (x3 : Int) (x4 : Int) (x5 : Int) : ∀ (n : Nat) (z : Int × AH), True → Den l G m11_kept rvI d 92 [some (vA G 69), none, some (vI x2), some (vI x3), some (vI x4), some (vI x5), some (vI z.1)] [] z.2 (fx (fun rec z => b11_kept_92 rec x2 x3 x4 x5 z.1 z.2) n z) :=
  den_fx (F := fun rec z => b11_kept_92 rec x2 x3 x4 x5 z.1 z.2) (P := fun z => True) (fL := fun z => [some (vA G 69), none, some (vI x2), some (vI x3), some (vI x4), some (vI x5), some (vI z.1)]) (fs := fun z => []) (fh := fun z => z.2) (fun rec hrec z hz => t11_kept_92 l G d hd x2 x3 x4 x5 z.1 rec (fun x6 h => hrec (x6, h) trivial) z.2 )
def b11_kept_58 (rec58 : Int × AH → Option (Int × AH)) (x2 : Int) (x3 : Int) (x4 : Int) (x5 : Int) (x6 : Int) (h : AH) : Option (Int × AH) :=
  if 1000 ≤ w32 x6 then
    l11_kept_92 x2 x3 x4 x5 0 h
  else
    if ¬ w32 x6 = 0 then
      b11_kept_82 rec58 x2 x3 x4 x5 x6 0 x6 h
    else
      b11_kept_82 rec58 x2 x3 x4 x5 x6 1 x6 h
set_option maxRecDepth 100000 in
theorem t11_kept_58 (l : Launch) (G : Geo) (d : Nat) (hd : 6 ≤ d) (x2 : Int) (x3 : Int) (x4 : Int) (x5 : Int) (x6 : Int) (rec58 : Int × AH → Option (Int × AH)) (H58 : ∀ (x6 : Int) (h : AH), Den l G m11_kept rvI d 58 [some (vA G 69), none, some (vI x2), some (vI x3), some (vI x4), some (vI x5), some (vI x6)] [] h (rec58 (x6, h))) (h : AH) : Den l G m11_kept rvI d 58 [some (vA G 69), none, some (vI x2), some (vI x3), some (vI x4), some (vI x5), some (vI x6)] [] h (b11_kept_58 rec58 x2 x3 x4 x5 x6 h) := by
  unfold b11_kept_58
  refine den_iload (pc := 58) d11_kept_58 rfl ?_
  refine den_sipush (pc := 60) d11_kept_60 (by decide) ?_
  refine den_icmp_ge (pc := 63) (tgt := 89) d11_kept_63 (by decide) rfl (by decide) (fun _ => ?_) (fun _ => ?_)
  · refine den_iconst (pc := 89) d11_kept_89 ?_
    refine den_istore (pc := 90) (L2 := [some (vA G 69), none, some (vI x2), some (vI x3), some (vI x4), some (vI x5), some (vI 0)]) d11_kept_90 (by decide) rfl ?_
    exact tl11_kept_92 l G _ hd x2 x3 x4 x5 FU (0, h) trivial
  · refine den_aload_n (pc := 66) d11_kept_66 rfl rfl ?_
    refine den_getR (pc := 67) (b := 82) fa_11_47 (ok_69 _) rfl d11_kept_67 ?_
    refine den_iload (pc := 70) d11_kept_70 rfl ?_
    refine den_iload (pc := 72) d11_kept_72 rfl ?_
    refine den_if_ne (pc := 74) (tgt := 81) d11_kept_74 (by decide) rfl (fun _ => ?_) (fun _ => ?_)
    · refine den_iconst (pc := 81) d11_kept_81 ?_
      exact t11_kept_82 l G _ hd x2 x3 x4 x5 x6 0 x6 rec58 H58 h
    · refine den_iconst (pc := 77) d11_kept_77 ?_
      refine den_goto (pc := 78) (tgt := 82) d11_kept_78 (by decide) ?_
      exact t11_kept_82 l G _ hd x2 x3 x4 x5 x6 1 x6 rec58 H58 h
def l11_kept_58 (x2 : Int) (x3 : Int) (x4 : Int) (x5 : Int) (x6 : Int) (h : AH) : Option (Int × AH) := fx (fun rec z => b11_kept_58 rec x2 x3 x4 x5 z.1 z.2) FU (x6, h)
set_option maxRecDepth 100000 in
theorem tl11_kept_58 (l : Launch) (G : Geo) (d : Nat) (hd : 6 ≤ d) (x2 : Int) (x3 : Int) (x4 : Int) (x5 : Int) : ∀ (n : Nat) (z : Int × AH), True → Den l G m11_kept rvI d 58 [some (vA G 69), none, some (vI x2), some (vI x3), some (vI x4), some (vI x5), some (vI z.1)] [] z.2 (fx (fun rec z => b11_kept_58 rec x2 x3 x4 x5 z.1 z.2) n z) :=
  den_fx (F := fun rec z => b11_kept_58 rec x2 x3 x4 x5 z.1 z.2) (P := fun z => True) (fL := fun z => [some (vA G 69), none, some (vI x2), some (vI x3), some (vI x4), some (vI x5), some (vI z.1)]) (fs := fun z => []) (fh := fun z => z.2) (fun rec hrec z hz => t11_kept_58 l G d hd x2 x3 x4 x5 z.1 rec (fun x6 h => hrec (x6, h) trivial) z.2 )
def f11_kept (x1 : Int) (x2 : Int) (x3 : Int) (x4 : Int) (x5 : Int) (h : AH) : Option (Int × AH) :=
  bnd (f11_isVillage x1 h) fun r8 h9 =>
  if w32 r8 = 0 then
    some ((-1), h9)
  else
    bnd (f11_isTwo x2 x3 h9) fun r12 h13 =>
    if w32 r12 = 0 then
      some ((-1), h13)
    else
      bnd (f11_isSubject x4 h13) fun r16 h17 =>
      if w32 r16 = 0 then
        some ((-1), h17)
      else
        bnd (f11_apartOf x2 x3 x4 h17) fun r20 h21 =>
        if w32 r20 = (-1) then
          some ((-1), h21)
        else
          bnd (f11_isIn x5 0 ((h21.2 69 15) - 1) h21) fun r24 h25 =>
          if ¬ w32 r24 = 0 then
            l11_kept_58 x2 x3 x4 x5 0 h25
          else
            some ((-1), h25)
set_option maxRecDepth 100000 in
theorem c11_kept (l : Launch) (G : Geo) (x1 : Int) (x2 : Int) (x3 : Int) (x4 : Int) (x5 : Int) (h : AH) : Con l G m11_kept rvI 6 [vA G 69, vI x1, vI x2, vI x3, vI x4, vI x5] h (f11_kept x1 x2 x3 x4 x5 h) := by
  have hd : 6 ≤ 6 := Nat.le_refl _
  refine con_I rfl (by decide) rfl rfl (Nat.le_of_ble_eq_true rfl) (L := [some (vA G 69), some (vI x1), some (vI x2), some (vI x3), some (vI x4), some (vI x5), none]) ?_
  unfold f11_kept
  refine den_aload_n (pc := 0) d11_kept_0 rfl rfl ?_
  refine den_iload_n (pc := 1) d11_kept_1 rfl rfl ?_
  refine den_callVI (pc := 2) (As := [vI x1]) fv_11_201 rfl rfl (ok_69 _) (Nat.le_of_ble_eq_true rfl) (Nat.le_trans (by decide) hd) d11_kept_2 (c11_isVillage l G x1 h) (fun r8 h9 m10 o11 => ?_)
  refine den_if_eq (pc := 5) (tgt := 53) d11_kept_5 (by decide) rfl (fun _ => ?_) (fun _ => ?_)
  · refine den_iconst (pc := 53) d11_kept_53 ?_
    exact den_iret (pc := 54) rfl d11_kept_54
  · refine den_aload_n (pc := 8) d11_kept_8 rfl rfl ?_
    refine den_iload_n (pc := 9) d11_kept_9 rfl rfl ?_
    refine den_iload_n (pc := 10) d11_kept_10 rfl rfl ?_
    refine den_callVI (pc := 11) (As := [vI x2, vI x3]) fv_11_228 rfl rfl (ok_69 _) (Nat.le_of_ble_eq_true rfl) (Nat.le_trans (by decide) hd) d11_kept_11 (c11_isTwo l G x2 x3 h9) (fun r12 h13 m14 o15 => ?_)
    refine den_if_eq (pc := 14) (tgt := 53) d11_kept_14 (by decide) rfl (fun _ => ?_) (fun _ => ?_)
    · refine den_iconst (pc := 53) d11_kept_53 ?_
      exact den_iret (pc := 54) rfl d11_kept_54
    · refine den_aload_n (pc := 17) d11_kept_17 rfl rfl ?_
      refine den_iload (pc := 18) d11_kept_18 rfl ?_
      refine den_callVI (pc := 20) (As := [vI x4]) fv_11_207 rfl rfl (ok_69 _) (Nat.le_of_ble_eq_true rfl) (Nat.le_trans (by decide) hd) d11_kept_20 (c11_isSubject l G x4 h13) (fun r16 h17 m18 o19 => ?_)
      refine den_if_eq (pc := 23) (tgt := 53) d11_kept_23 (by decide) rfl (fun _ => ?_) (fun _ => ?_)
      · refine den_iconst (pc := 53) d11_kept_53 ?_
        exact den_iret (pc := 54) rfl d11_kept_54
      · refine den_aload_n (pc := 26) d11_kept_26 rfl rfl ?_
        refine den_iload_n (pc := 27) d11_kept_27 rfl rfl ?_
        refine den_iload_n (pc := 28) d11_kept_28 rfl rfl ?_
        refine den_iload (pc := 29) d11_kept_29 rfl ?_
        refine den_callVI (pc := 31) (As := [vI x2, vI x3, vI x4]) fv_11_231 rfl rfl (ok_69 _) (Nat.le_of_ble_eq_true rfl) (Nat.le_trans (by decide) hd) d11_kept_31 (c11_apartOf l G x2 x3 x4 h17) (fun r20 h21 m22 o23 => ?_)
        refine den_iconst (pc := 34) d11_kept_34 ?_
        refine den_icmp_eq (pc := 35) (tgt := 53) d11_kept_35 (by decide) rfl (by decide) (fun _ => ?_) (fun _ => ?_)
        · refine den_iconst (pc := 53) d11_kept_53 ?_
          exact den_iret (pc := 54) rfl d11_kept_54
        · refine den_iload (pc := 38) d11_kept_38 rfl ?_
          refine den_iconst (pc := 40) d11_kept_40 ?_
          refine den_aload_n (pc := 41) d11_kept_41 rfl rfl ?_
          refine den_getI (pc := 42) fa_11_198 (ok_69 _) d11_kept_42 ?_
          refine den_iconst (pc := 45) d11_kept_45 ?_
          refine den_isub (pc := 46) d11_kept_46 ?_
          refine den_callSI (pc := 47) (As := [vI x5, vI 0, vI ((h21.2 69 15) - 1)]) fs_11_135 rfl rfl (Nat.le_of_ble_eq_true rfl) (Nat.le_trans (by decide) hd) d11_kept_47 (c11_isIn l G x5 0 ((h21.2 69 15) - 1) h21) (fun r24 h25 m26 o27 => ?_)
          refine den_if_ne (pc := 50) (tgt := 55) d11_kept_50 (by decide) rfl (fun _ => ?_) (fun _ => ?_)
          · refine den_iconst (pc := 55) d11_kept_55 ?_
            refine den_istore (pc := 56) (L2 := [some (vA G 69), some (vI x1), some (vI x2), some (vI x3), some (vI x4), some (vI x5), some (vI 0)]) d11_kept_56 (by decide) rfl ?_
            refine den_wk [true, false, true, true, true, true, true] rfl ?_
            exact tl11_kept_58 l G _ hd x2 x3 x4 x5 FU (0, h25) trivial
          · refine den_iconst (pc := 53) d11_kept_53 ?_
            exact den_iret (pc := 54) rfl d11_kept_54
