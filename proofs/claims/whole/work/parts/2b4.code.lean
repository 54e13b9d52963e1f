/-! 11_text 11_fault 11_isVillage 11_isPerson 11_isSubject 11_heatOf 11_fadesOf 11_wantsOf 11_cracksOf 11_heldOf 11_village 11_off 11_apartOf 11_isTwo 11_apart 11_burnsOf -/
theorem d11_text_0 : decode m11_text.2.1 0 = .ok (.aload_n 0, 1) := by decide +kernel
theorem d11_text_1 : decode m11_text.2.1 1 = .ok (.aload_n 0, 1) := by decide +kernel
theorem d11_text_2 : decode m11_text.2.1 2 = .ok (.getfield 7, 3) := by decide +kernel
theorem d11_text_5 : decode m11_text.2.1 5 = .ok (.iconst 4, 1) := by decide +kernel
theorem d11_text_6 : decode m11_text.2.1 6 = .ok (.iaload, 1) := by decide +kernel
theorem d11_text_7 : decode m11_text.2.1 7 = .ok (.putfield 80, 3) := by decide +kernel
theorem d11_text_10 : decode m11_text.2.1 10 = .ok (.aload_n 0, 1) := by decide +kernel
theorem d11_text_11 : decode m11_text.2.1 11 = .ok (.getfield 7, 3) := by decide +kernel
theorem d11_text_14 : decode m11_text.2.1 14 = .ok (.iconst 4, 1) := by decide +kernel
theorem d11_text_15 : decode m11_text.2.1 15 = .ok (.iconst 0, 1) := by decide +kernel
theorem d11_text_16 : decode m11_text.2.1 16 = .ok (.iastore, 1) := by decide +kernel
theorem d11_text_17 : decode m11_text.2.1 17 = .ok (.aload_n 0, 1) := by decide +kernel
theorem d11_text_18 : decode m11_text.2.1 18 = .ok (.getfield 7, 3) := by decide +kernel
theorem d11_text_21 : decode m11_text.2.1 21 = .ok (.iconst 5, 1) := by decide +kernel
theorem d11_text_22 : decode m11_text.2.1 22 = .ok (.iconst 0, 1) := by decide +kernel
theorem d11_text_23 : decode m11_text.2.1 23 = .ok (.iastore, 1) := by decide +kernel
theorem d11_text_24 : decode m11_text.2.1 24 = .ok (.aload_n 0, 1) := by decide +kernel
theorem d11_text_25 : decode m11_text.2.1 25 = .ok (.getfield 7, 3) := by decide +kernel
theorem d11_text_28 : decode m11_text.2.1 28 = .ok (.bipush 6, 2) := by decide +kernel
theorem d11_text_30 : decode m11_text.2.1 30 = .ok (.iconst (-1), 1) := by decide +kernel
theorem d11_text_31 : decode m11_text.2.1 31 = .ok (.iastore, 1) := by decide +kernel
theorem d11_text_32 : decode m11_text.2.1 32 = .ok (.iload_n 1, 1) := by decide +kernel
theorem d11_text_33 : decode m11_text.2.1 33 = .ok (.iconst 0, 1) := by decide +kernel
theorem d11_text_34 : decode m11_text.2.1 34 = .ok (.iconst 2, 1) := by decide +kernel
theorem d11_text_35 : decode m11_text.2.1 35 = .ok (.invokestatic 135, 3) := by decide +kernel
theorem d11_text_38 : decode m11_text.2.1 38 = .ok (.ifCond .eq 30, 3) := by decide +kernel
theorem d11_text_41 : decode m11_text.2.1 41 = .ok (.iload_n 2, 1) := by decide +kernel
theorem d11_text_42 : decode m11_text.2.1 42 = .ok (.iconst (-1), 1) := by decide +kernel
theorem d11_text_43 : decode m11_text.2.1 43 = .ok (.if_icmp .ne 16, 3) := by decide +kernel
theorem d11_text_46 : decode m11_text.2.1 46 = .ok (.aload_n 0, 1) := by decide +kernel
theorem d11_text_47 : decode m11_text.2.1 47 = .ok (.getfield 7, 3) := by decide +kernel
theorem d11_text_50 : decode m11_text.2.1 50 = .ok (.iload_n 1, 1) := by decide +kernel
theorem d11_text_51 : decode m11_text.2.1 51 = .ok (.iaload, 1) := by decide +kernel
theorem d11_text_52 : decode m11_text.2.1 52 = .ok (.iconst 2, 1) := by decide +kernel
theorem d11_text_53 : decode m11_text.2.1 53 = .ok (.if_icmp .lt 18, 3) := by decide +kernel
theorem d11_text_56 : decode m11_text.2.1 56 = .ok (.goto 12, 3) := by decide +kernel
theorem d11_text_59 : decode m11_text.2.1 59 = .ok (.aload_n 0, 1) := by decide +kernel
theorem d11_text_60 : decode m11_text.2.1 60 = .ok (.iload_n 1, 1) := by decide +kernel
theorem d11_text_61 : decode m11_text.2.1 61 = .ok (.iload_n 2, 1) := by decide +kernel
theorem d11_text_62 : decode m11_text.2.1 62 = .ok (.invokevirtual 166, 3) := by decide +kernel
theorem d11_text_65 : decode m11_text.2.1 65 = .ok (.ifCond .ne 6, 3) := by decide +kernel
theorem d11_text_68 : decode m11_text.2.1 68 = .ok (.bipush (-2), 2) := by decide +kernel
theorem d11_text_70 : decode m11_text.2.1 70 = .ok (.ireturn, 1) := by decide +kernel
theorem d11_text_71 : decode m11_text.2.1 71 = .ok (.aload_n 0, 1) := by decide +kernel
theorem d11_text_72 : decode m11_text.2.1 72 = .ok (.iconst 0, 1) := by decide +kernel
theorem d11_text_73 : decode m11_text.2.1 73 = .ok (.putfield 94, 3) := by decide +kernel
theorem d11_text_76 : decode m11_text.2.1 76 = .ok (.aload_n 0, 1) := by decide +kernel
theorem d11_text_77 : decode m11_text.2.1 77 = .ok (.iconst 0, 1) := by decide +kernel
theorem d11_text_78 : decode m11_text.2.1 78 = .ok (.putfield 128, 3) := by decide +kernel
theorem d11_text_81 : decode m11_text.2.1 81 = .ok (.aload_n 0, 1) := by decide +kernel
theorem d11_text_82 : decode m11_text.2.1 82 = .ok (.iconst (-1), 1) := by decide +kernel
theorem d11_text_83 : decode m11_text.2.1 83 = .ok (.putfield 153, 3) := by decide +kernel
theorem d11_text_86 : decode m11_text.2.1 86 = .ok (.aload_n 0, 1) := by decide +kernel
theorem d11_text_87 : decode m11_text.2.1 87 = .ok (.iconst (-1), 1) := by decide +kernel
theorem d11_text_88 : decode m11_text.2.1 88 = .ok (.putfield 156, 3) := by decide +kernel
theorem d11_text_91 : decode m11_text.2.1 91 = .ok (.aload_n 0, 1) := by decide +kernel
theorem d11_text_92 : decode m11_text.2.1 92 = .ok (.iload_n 1, 1) := by decide +kernel
theorem d11_text_93 : decode m11_text.2.1 93 = .ok (.invokevirtual 170, 3) := by decide +kernel
theorem d11_text_96 : decode m11_text.2.1 96 = .ok (.aload_n 0, 1) := by decide +kernel
theorem d11_text_97 : decode m11_text.2.1 97 = .ok (.invokevirtual 143, 3) := by decide +kernel
theorem d11_text_100 : decode m11_text.2.1 100 = .ok (.aload_n 0, 1) := by decide +kernel
theorem d11_text_101 : decode m11_text.2.1 101 = .ok (.getfield 128, 3) := by decide +kernel
theorem d11_text_104 : decode m11_text.2.1 104 = .ok (.ifCond .ne 57, 3) := by decide +kernel
theorem d11_text_107 : decode m11_text.2.1 107 = .ok (.aload_n 0, 1) := by decide +kernel
theorem d11_text_108 : decode m11_text.2.1 108 = .ok (.getfield 104, 3) := by decide +kernel
theorem d11_text_111 : decode m11_text.2.1 111 = .ok (.ifCond .eq 50, 3) := by decide +kernel
theorem d11_text_114 : decode m11_text.2.1 114 = .ok (.iload_n 1, 1) := by decide +kernel
theorem d11_text_115 : decode m11_text.2.1 115 = .ok (.lookupswitch 39 #[(0, 25), (1, 32)], 25) := by decide +kernel
theorem d11_text_140 : decode m11_text.2.1 140 = .ok (.aload_n 0, 1) := by decide +kernel
theorem d11_text_141 : decode m11_text.2.1 141 = .ok (.invokevirtual 174, 3) := by decide +kernel
theorem d11_text_144 : decode m11_text.2.1 144 = .ok (.goto (-44), 3) := by decide +kernel
theorem d11_text_147 : decode m11_text.2.1 147 = .ok (.aload_n 0, 1) := by decide +kernel
theorem d11_text_148 : decode m11_text.2.1 148 = .ok (.invokevirtual 177, 3) := by decide +kernel
theorem d11_text_151 : decode m11_text.2.1 151 = .ok (.goto (-51), 3) := by decide +kernel
theorem d11_text_154 : decode m11_text.2.1 154 = .ok (.aload_n 0, 1) := by decide +kernel
theorem d11_text_155 : decode m11_text.2.1 155 = .ok (.invokevirtual 180, 3) := by decide +kernel
theorem d11_text_158 : decode m11_text.2.1 158 = .ok (.goto (-58), 3) := by decide +kernel
theorem d11_text_161 : decode m11_text.2.1 161 = .ok (.aload_n 0, 1) := by decide +kernel
theorem d11_text_162 : decode m11_text.2.1 162 = .ok (.getfield 7, 3) := by decide +kernel
theorem d11_text_165 : decode m11_text.2.1 165 = .ok (.iconst 5, 1) := by decide +kernel
theorem d11_text_166 : decode m11_text.2.1 166 = .ok (.iaload, 1) := by decide +kernel
theorem d11_text_167 : decode m11_text.2.1 167 = .ok (.ifCond .ne 42, 3) := by decide +kernel
theorem d11_text_170 : decode m11_text.2.1 170 = .ok (.iload_n 1, 1) := by decide +kernel
theorem d11_text_171 : decode m11_text.2.1 171 = .ok (.ifCond .ne 38, 3) := by decide +kernel
theorem d11_text_174 : decode m11_text.2.1 174 = .ok (.aload_n 0, 1) := by decide +kernel
theorem d11_text_175 : decode m11_text.2.1 175 = .ok (.getfield 153, 3) := by decide +kernel
theorem d11_text_178 : decode m11_text.2.1 178 = .ok (.aload_n 0, 1) := by decide +kernel
theorem d11_text_179 : decode m11_text.2.1 179 = .ok (.getfield 17, 3) := by decide +kernel
theorem d11_text_182 : decode m11_text.2.1 182 = .ok (.iconst 0, 1) := by decide +kernel
theorem d11_text_183 : decode m11_text.2.1 183 = .ok (.iaload, 1) := by decide +kernel
theorem d11_text_184 : decode m11_text.2.1 184 = .ok (.if_icmp .ge 16, 3) := by decide +kernel
theorem d11_text_187 : decode m11_text.2.1 187 = .ok (.aload_n 0, 1) := by decide +kernel
theorem d11_text_188 : decode m11_text.2.1 188 = .ok (.getfield 156, 3) := by decide +kernel
theorem d11_text_191 : decode m11_text.2.1 191 = .ok (.aload_n 0, 1) := by decide +kernel
theorem d11_text_192 : decode m11_text.2.1 192 = .ok (.getfield 17, 3) := by decide +kernel
theorem d11_text_195 : decode m11_text.2.1 195 = .ok (.iconst 1, 1) := by decide +kernel
theorem d11_text_196 : decode m11_text.2.1 196 = .ok (.iaload, 1) := by decide +kernel
theorem d11_text_197 : decode m11_text.2.1 197 = .ok (.if_icmp .lt 12, 3) := by decide +kernel
theorem d11_text_200 : decode m11_text.2.1 200 = .ok (.aload_n 0, 1) := by decide +kernel
theorem d11_text_201 : decode m11_text.2.1 201 = .ok (.iconst 4, 1) := by decide +kernel
theorem d11_text_202 : decode m11_text.2.1 202 = .ok (.aload_n 0, 1) := by decide +kernel
theorem d11_text_203 : decode m11_text.2.1 203 = .ok (.getfield 101, 3) := by decide +kernel
theorem d11_text_206 : decode m11_text.2.1 206 = .ok (.invokevirtual 139, 3) := by decide +kernel
theorem d11_text_209 : decode m11_text.2.1 209 = .ok (.aload_n 0, 1) := by decide +kernel
theorem d11_text_210 : decode m11_text.2.1 210 = .ok (.getfield 7, 3) := by decide +kernel
theorem d11_text_213 : decode m11_text.2.1 213 = .ok (.iconst 5, 1) := by decide +kernel
theorem d11_text_214 : decode m11_text.2.1 214 = .ok (.iaload, 1) := by decide +kernel
theorem d11_text_215 : decode m11_text.2.1 215 = .ok (.ifCond .eq 5, 3) := by decide +kernel
theorem d11_text_218 : decode m11_text.2.1 218 = .ok (.iconst (-1), 1) := by decide +kernel
theorem d11_text_219 : decode m11_text.2.1 219 = .ok (.ireturn, 1) := by decide +kernel
theorem d11_text_220 : decode m11_text.2.1 220 = .ok (.iload_n 2, 1) := by decide +kernel
theorem d11_text_221 : decode m11_text.2.1 221 = .ok (.iconst (-1), 1) := by decide +kernel
theorem d11_text_222 : decode m11_text.2.1 222 = .ok (.if_icmp .ne 12, 3) := by decide +kernel
theorem d11_text_225 : decode m11_text.2.1 225 = .ok (.aload_n 0, 1) := by decide +kernel
theorem d11_text_226 : decode m11_text.2.1 226 = .ok (.getfield 7, 3) := by decide +kernel
theorem d11_text_229 : decode m11_text.2.1 229 = .ok (.iload_n 1, 1) := by decide +kernel
theorem d11_text_230 : decode m11_text.2.1 230 = .ok (.iaload, 1) := by decide +kernel
theorem d11_text_231 : decode m11_text.2.1 231 = .ok (.goto 4, 3) := by decide +kernel
theorem d11_text_234 : decode m11_text.2.1 234 = .ok (.iload_n 2, 1) := by decide +kernel
theorem d11_text_235 : decode m11_text.2.1 235 = .ok (.istore_n 3, 1) := by decide +kernel
theorem d11_text_236 : decode m11_text.2.1 236 = .ok (.iload_n 2, 1) := by decide +kernel
theorem d11_text_237 : decode m11_text.2.1 237 = .ok (.iconst (-1), 1) := by decide +kernel
theorem d11_text_238 : decode m11_text.2.1 238 = .ok (.if_icmp .ne 13, 3) := by decide +kernel
theorem d11_text_241 : decode m11_text.2.1 241 = .ok (.aload_n 0, 1) := by decide +kernel
theorem d11_text_242 : decode m11_text.2.1 242 = .ok (.getfield 7, 3) := by decide +kernel
theorem d11_text_245 : decode m11_text.2.1 245 = .ok (.iload_n 1, 1) := by decide +kernel
theorem d11_text_246 : decode m11_text.2.1 246 = .ok (.dup2, 1) := by decide +kernel
theorem d11_text_247 : decode m11_text.2.1 247 = .ok (.iaload, 1) := by decide +kernel
theorem d11_text_248 : decode m11_text.2.1 248 = .ok (.iconst 1, 1) := by decide +kernel
theorem d11_text_249 : decode m11_text.2.1 249 = .ok (.iadd, 1) := by decide +kernel
theorem d11_text_250 : decode m11_text.2.1 250 = .ok (.iastore, 1) := by decide +kernel
theorem d11_text_251 : decode m11_text.2.1 251 = .ok (.iconst 0, 1) := by decide +kernel
theorem d11_text_252 : decode m11_text.2.1 252 = .ok (.istore 4, 2) := by decide +kernel
theorem d11_text_254 : decode m11_text.2.1 254 = .ok (.iload 4, 2) := by decide +kernel
theorem d11_text_256 : decode m11_text.2.1 256 = .ok (.iload_n 1, 1) := by decide +kernel
theorem d11_text_257 : decode m11_text.2.1 257 = .ok (.invokestatic 183, 3) := by decide +kernel
theorem d11_text_260 : decode m11_text.2.1 260 = .ok (.if_icmp .ge 29, 3) := by decide +kernel
theorem d11_text_263 : decode m11_text.2.1 263 = .ok (.aload_n 0, 1) := by decide +kernel
theorem d11_text_264 : decode m11_text.2.1 264 = .ok (.getfield 7, 3) := by decide +kernel
theorem d11_text_267 : decode m11_text.2.1 267 = .ok (.iload_n 1, 1) := by decide +kernel
theorem d11_text_268 : decode m11_text.2.1 268 = .ok (.iload_n 3, 1) := by decide +kernel
theorem d11_text_269 : decode m11_text.2.1 269 = .ok (.invokestatic 186, 3) := by decide +kernel
theorem d11_text_272 : decode m11_text.2.1 272 = .ok (.iload 4, 2) := by decide +kernel
theorem d11_text_274 : decode m11_text.2.1 274 = .ok (.iadd, 1) := by decide +kernel
theorem d11_text_275 : decode m11_text.2.1 275 = .ok (.aload_n 0, 1) := by decide +kernel
theorem d11_text_276 : decode m11_text.2.1 276 = .ok (.getfield 17, 3) := by decide +kernel
theorem d11_text_279 : decode m11_text.2.1 279 = .ok (.iload 4, 2) := by decide +kernel
theorem d11_text_281 : decode m11_text.2.1 281 = .ok (.iaload, 1) := by decide +kernel
theorem d11_text_282 : decode m11_text.2.1 282 = .ok (.iastore, 1) := by decide +kernel
theorem d11_text_283 : decode m11_text.2.1 283 = .ok (.iinc 4 1, 3) := by decide +kernel
theorem d11_text_286 : decode m11_text.2.1 286 = .ok (.goto (-32), 3) := by decide +kernel
theorem d11_text_289 : decode m11_text.2.1 289 = .ok (.iload_n 3, 1) := by decide +kernel
theorem d11_text_290 : decode m11_text.2.1 290 = .ok (.ireturn, 1) := by decide +kernel
def b11_text_254 (rec254 : Int × AH → Option (Int × AH)) (x1 : Int) (x3 : Int) (x4 : Int) (h : AH) : Option (Int × AH) :=
  bnd (f11_sizeOf x1 h) fun r1 h2 =>
  if w32 r1 ≤ w32 x4 then
    some (x3, h2)
  else
    bnd (f11_placeOf x1 x3 h2) fun r5 h6 =>
    asrt (0 ≤ w32 x4 ∧ w32 x4 < 201) <|
    asrt (0 ≤ w32 (r5 + x4) ∧ w32 (r5 + x4) < 4824) <|
    lt (wr h6 70 (w32 (r5 + x4)).toNat (h6.2 72 (w32 x4).toNat)) fun h11 =>
    rec254 ((x4 + 1), h11)
set_option maxRecDepth 100000 in
theorem t11_text_254 (l : Launch) (G : Geo) (d : Nat) (hd : 9 ≤ d) (x1 : Int) (x3 : Int) (x4 : Int) (rec254 : Int × AH → Option (Int × AH)) (H254 : ∀ (x4 : Int) (h : AH), Den l G m11_text rvI d 254 [some (vA G 69), some (vI x1), none, some (vI x3), some (vI x4)] [] h (rec254 (x4, h))) (h : AH) : Den l G m11_text rvI d 254 [some (vA G 69), some (vI x1), none, some (vI x3), some (vI x4)] [] h (b11_text_254 rec254 x1 x3 x4 h) := by
  unfold b11_text_254
  refine den_iload (pc := 254) d11_text_254 rfl ?_
  refine den_iload_n (pc := 256) d11_text_256 rfl rfl ?_
  refine den_callSI (pc := 257) (As := [vI x1]) fs_11_183 rfl rfl (Nat.le_of_ble_eq_true rfl) (Nat.le_trans (by decide) hd) d11_text_257 (c11_sizeOf l G x1 h) (fun r1 h2 m3 o4 => ?_)
  refine den_icmp_ge (pc := 260) (tgt := 289) d11_text_260 (by decide) rfl rfl (fun _ => ?_) (fun _ => ?_)
  · refine den_iload_n (pc := 289) d11_text_289 rfl rfl ?_
    exact den_iret (pc := 290) rfl d11_text_290
  · refine den_aload_n (pc := 263) d11_text_263 rfl rfl ?_
    refine den_getR (pc := 264) (b := 70) fa_11_7 (ok_69 _) rfl d11_text_264 ?_
    refine den_iload_n (pc := 267) d11_text_267 rfl rfl ?_
    refine den_iload_n (pc := 268) d11_text_268 rfl rfl ?_
    refine den_callSI (pc := 269) (As := [vI x1, vI x3]) fs_11_186 rfl rfl (Nat.le_of_ble_eq_true rfl) (Nat.le_trans (by decide) hd) d11_text_269 (c11_placeOf l G x1 x3 h2) (fun r5 h6 m7 o8 => ?_)
    refine den_iload (pc := 272) d11_text_272 rfl ?_
    refine den_iadd (pc := 274) d11_text_274 ?_
    refine den_aload_n (pc := 275) d11_text_275 rfl rfl ?_
    refine den_getR (pc := 276) (b := 72) fa_11_17 (ok_69 _) rfl d11_text_276 ?_
    refine den_iload (pc := 279) d11_text_279 rfl ?_
    refine den_asrt (fun a9 => ?_)
    refine den_iaload (pc := 281) sh_72 (sz_lt (by decide)) rfl a9 d11_text_281 ?_
    refine den_asrt (fun a10 => ?_)
    refine den_iastore (pc := 282) sh_70 (sz_lt (by decide)) rfl a10 d11_text_282 ?_
    refine den_ltH (fun h11 m12 => ?_)
    refine den_iinc (pc := 283) (L2 := [some (vA G 69), some (vI x1), none, some (vI x3), some (vI (x4 + 1))]) d11_text_283 (by decide) rfl rfl ?_
    refine den_goto (pc := 286) (tgt := 254) d11_text_286 (by decide) ?_
    exact H254 (x4 + 1) h11
def l11_text_254 (x1 : Int) (x3 : Int) (x4 : Int) (h : AH) : Option (Int × AH) := fx (fun rec z => b11_text_254 rec x1 x3 z.1 z.2) FU (x4, h)
set_option maxRecDepth 100000 in
theorem tl11_text_254 (l : Launch) (G : Geo) (d : Nat) (hd : 9 ≤ d) (x1 : Int) (x3 : Int) : ∀ (n : Nat) (z : Int × AH), True → Den l G m11_text rvI d 254 [some (vA G 69), some (vI x1), none, some (vI x3), some (vI z.1)] [] z.2 (fx (fun rec z => b11_text_254 rec x1 x3 z.1 z.2) n z) :=
  den_fx (F := fun rec z => b11_text_254 rec x1 x3 z.1 z.2) (P := fun z => True) (fL := fun z => [some (vA G 69), some (vI x1), none, some (vI x3), some (vI z.1)]) (fs := fun z => []) (fh := fun z => z.2) (fun rec hrec z hz => t11_text_254 l G d hd x1 x3 z.1 rec (fun x4 h => hrec (x4, h) trivial) z.2 )
def b11_text_251 (x1 : Int) (x3 : Int) (h : AH) : Option (Int × AH) :=
  l11_text_254 x1 x3 0 h
set_option maxRecDepth 100000 in
theorem t11_text_251 (l : Launch) (G : Geo) (d : Nat) (hd : 9 ≤ d) (x1 : Int) (x3 : Int) (h : AH) : Den l G m11_text rvI d 251 [some (vA G 69), some (vI x1), none, some (vI x3), none] [] h (b11_text_251 x1 x3 h) := by
  unfold b11_text_251
  refine den_iconst (pc := 251) d11_text_251 ?_
  refine den_istore (pc := 252) (L2 := [some (vA G 69), some (vI x1), none, some (vI x3), some (vI 0)]) d11_text_252 (by decide) rfl ?_
  exact tl11_text_254 l G _ hd x1 x3 FU (0, h) trivial
def b11_text_235 (x1 : Int) (x2 : Int) (s0 : Int) (h : AH) : Option (Int × AH) :=
  if ¬ w32 x2 = (-1) then
    b11_text_251 x1 s0 h
  else
    asrt (0 ≤ w32 x1 ∧ w32 x1 < 4824) <|
    asrt (0 ≤ w32 x1 ∧ w32 x1 < 4824) <|
    lt (wr h 70 (w32 x1).toNat ((h.2 70 (w32 x1).toNat) + 1)) fun h15 =>
    b11_text_251 x1 s0 h15
set_option maxRecDepth 100000 in
theorem t11_text_235 (l : Launch) (G : Geo) (d : Nat) (hd : 9 ≤ d) (x1 : Int) (x2 : Int) (s0 : Int) (h : AH) : Den l G m11_text rvI d 235 [some (vA G 69), some (vI x1), some (vI x2), none, none] [vI s0] h (b11_text_235 x1 x2 s0 h) := by
  unfold b11_text_235
  refine den_istore_n (pc := 235) (L2 := [some (vA G 69), some (vI x1), some (vI x2), some (vI s0), none]) d11_text_235 rfl (by decide) rfl ?_
  refine den_iload_n (pc := 236) d11_text_236 rfl rfl ?_
  refine den_iconst (pc := 237) d11_text_237 ?_
  refine den_icmp_ne (pc := 238) (tgt := 251) d11_text_238 (by decide) rfl (by decide) (fun _ => ?_) (fun _ => ?_)
  · refine den_wk [true, true, false, true, true] rfl ?_
    exact t11_text_251 l G _ hd x1 s0 h
  · refine den_aload_n (pc := 241) d11_text_241 rfl rfl ?_
    refine den_getR (pc := 242) (b := 70) fa_11_7 (ok_69 _) rfl d11_text_242 ?_
    refine den_iload_n (pc := 245) d11_text_245 rfl rfl ?_
    refine den_dup2 (pc := 246) d11_text_246 rfl rfl ?_
    refine den_asrt (fun a13 => ?_)
    refine den_iaload (pc := 247) sh_70 (sz_lt (by decide)) rfl a13 d11_text_247 ?_
    refine den_iconst (pc := 248) d11_text_248 ?_
    refine den_iadd (pc := 249) d11_text_249 ?_
    refine den_asrt (fun a14 => ?_)
    refine den_iastore (pc := 250) sh_70 (sz_lt (by decide)) rfl a14 d11_text_250 ?_
    refine den_ltH (fun h15 m16 => ?_)
    refine den_wk [true, true, false, true, true] rfl ?_
    exact t11_text_251 l G _ hd x1 s0 h15
def b11_text_209 (x1 : Int) (x2 : Int) (h : AH) : Option (Int × AH) :=
  asrt (0 ≤ w32 5 ∧ w32 5 < 4824) <|
  if w32 (h.2 70 (w32 5).toNat) = 0 then
    if ¬ w32 x2 = (-1) then
      b11_text_235 x1 x2 x2 h
    else
      asrt (0 ≤ w32 x1 ∧ w32 x1 < 4824) <|
      b11_text_235 x1 x2 (h.2 70 (w32 x1).toNat) h
  else
    some ((-1), h)
set_option maxRecDepth 100000 in
theorem t11_text_209 (l : Launch) (G : Geo) (d : Nat) (hd : 9 ≤ d) (x1 : Int) (x2 : Int) (h : AH) : Den l G m11_text rvI d 209 [some (vA G 69), some (vI x1), some (vI x2), none, none] [] h (b11_text_209 x1 x2 h) := by
  unfold b11_text_209
  refine den_aload_n (pc := 209) d11_text_209 rfl rfl ?_
  refine den_getR (pc := 210) (b := 70) fa_11_7 (ok_69 _) rfl d11_text_210 ?_
  refine den_iconst (pc := 213) d11_text_213 ?_
  refine den_asrt (fun a17 => ?_)
  refine den_iaload (pc := 214) sh_70 (sz_lt (by decide)) rfl a17 d11_text_214 ?_
  refine den_if_eq (pc := 215) (tgt := 220) d11_text_215 (by decide) rfl (fun _ => ?_) (fun _ => ?_)
  · refine den_iload_n (pc := 220) d11_text_220 rfl rfl ?_
    refine den_iconst (pc := 221) d11_text_221 ?_
    refine den_icmp_ne (pc := 222) (tgt := 234) d11_text_222 (by decide) rfl (by decide) (fun _ => ?_) (fun _ => ?_)
    · refine den_iload_n (pc := 234) d11_text_234 rfl rfl ?_
      exact t11_text_235 l G _ hd x1 x2 x2 h
    · refine den_aload_n (pc := 225) d11_text_225 rfl rfl ?_
      refine den_getR (pc := 226) (b := 70) fa_11_7 (ok_69 _) rfl d11_text_226 ?_
      refine den_iload_n (pc := 229) d11_text_229 rfl rfl ?_
      refine den_asrt (fun a18 => ?_)
      refine den_iaload (pc := 230) sh_70 (sz_lt (by decide)) rfl a18 d11_text_230 ?_
      refine den_goto (pc := 231) (tgt := 235) d11_text_231 (by decide) ?_
      exact t11_text_235 l G _ hd x1 x2 (h.2 70 (w32 x1).toNat) h
  · refine den_iconst (pc := 218) d11_text_218 ?_
    exact den_iret (pc := 219) rfl d11_text_219
def b11_text_200 (x1 : Int) (x2 : Int) (h : AH) : Option (Int × AH) :=
  bnd (f11_also 4 (h.2 69 4) h) fun r19 h20 =>
  b11_text_209 x1 x2 h20
set_option maxRecDepth 100000 in
theorem t11_text_200 (l : Launch) (G : Geo) (d : Nat) (hd : 9 ≤ d) (x1 : Int) (x2 : Int) (h : AH) : Den l G m11_text rvI d 200 [some (vA G 69), some (vI x1), some (vI x2), none, none] [] h (b11_text_200 x1 x2 h) := by
  unfold b11_text_200
  refine den_aload_n (pc := 200) d11_text_200 rfl rfl ?_
  refine den_iconst (pc := 201) d11_text_201 ?_
  refine den_aload_n (pc := 202) d11_text_202 rfl rfl ?_
  refine den_getI (pc := 203) fa_11_101 (ok_69 _) d11_text_203 ?_
  refine den_callVV (pc := 206) (As := [vI 4, vI (h.2 69 4)]) fv_11_139 rfl rfl (ok_69 _) (Nat.le_of_ble_eq_true rfl) (Nat.le_trans (by decide) hd) d11_text_206 (c11_also l G 4 (h.2 69 4) h) (fun r19 h20 m21 o22 => ?_)
  exact t11_text_209 l G _ hd x1 x2 h20
def b11_text_161 (x1 : Int) (x2 : Int) (h : AH) : Option (Int × AH) :=
  asrt (0 ≤ w32 5 ∧ w32 5 < 4824) <|
  if ¬ w32 (h.2 70 (w32 5).toNat) = 0 then
    b11_text_209 x1 x2 h
  else
    if ¬ w32 x1 = 0 then
      b11_text_209 x1 x2 h
    else
      asrt (0 ≤ w32 0 ∧ w32 0 < 201) <|
      if w32 (h.2 72 (w32 0).toNat) ≤ w32 (h.2 69 9) then
        b11_text_200 x1 x2 h
      else
        asrt (0 ≤ w32 1 ∧ w32 1 < 201) <|
        if w32 (h.2 69 10) < w32 (h.2 72 (w32 1).toNat) then
          b11_text_209 x1 x2 h
        else
          b11_text_200 x1 x2 h
set_option maxRecDepth 100000 in
theorem t11_text_161 (l : Launch) (G : Geo) (d : Nat) (hd : 9 ≤ d) (x1 : Int) (x2 : Int) (h : AH) : Den l G m11_text rvI d 161 [some (vA G 69), some (vI x1), some (vI x2), none, none] [] h (b11_text_161 x1 x2 h) := by
  unfold b11_text_161
  refine den_aload_n (pc := 161) d11_text_161 rfl rfl ?_
  refine den_getR (pc := 162) (b := 70) fa_11_7 (ok_69 _) rfl d11_text_162 ?_
  refine den_iconst (pc := 165) d11_text_165 ?_
  refine den_asrt (fun a23 => ?_)
  refine den_iaload (pc := 166) sh_70 (sz_lt (by decide)) rfl a23 d11_text_166 ?_
  refine den_if_ne (pc := 167) (tgt := 209) d11_text_167 (by decide) rfl (fun _ => ?_) (fun _ => ?_)
  · exact t11_text_209 l G _ hd x1 x2 h
  · refine den_iload_n (pc := 170) d11_text_170 rfl rfl ?_
    refine den_if_ne (pc := 171) (tgt := 209) d11_text_171 (by decide) rfl (fun _ => ?_) (fun _ => ?_)
    · exact t11_text_209 l G _ hd x1 x2 h
    · refine den_aload_n (pc := 174) d11_text_174 rfl rfl ?_
      refine den_getI (pc := 175) fa_11_153 (ok_69 _) d11_text_175 ?_
      refine den_aload_n (pc := 178) d11_text_178 rfl rfl ?_
      refine den_getR (pc := 179) (b := 72) fa_11_17 (ok_69 _) rfl d11_text_179 ?_
      refine den_iconst (pc := 182) d11_text_182 ?_
      refine den_asrt (fun a24 => ?_)
      refine den_iaload (pc := 183) sh_72 (sz_lt (by decide)) rfl a24 d11_text_183 ?_
      refine den_icmp_ge (pc := 184) (tgt := 200) d11_text_184 (by decide) rfl rfl (fun _ => ?_) (fun _ => ?_)
      · exact t11_text_200 l G _ hd x1 x2 h
      · refine den_aload_n (pc := 187) d11_text_187 rfl rfl ?_
        refine den_getI (pc := 188) fa_11_156 (ok_69 _) d11_text_188 ?_
        refine den_aload_n (pc := 191) d11_text_191 rfl rfl ?_
        refine den_getR (pc := 192) (b := 72) fa_11_17 (ok_69 _) rfl d11_text_192 ?_
        refine den_iconst (pc := 195) d11_text_195 ?_
        refine den_asrt (fun a25 => ?_)
        refine den_iaload (pc := 196) sh_72 (sz_lt (by decide)) rfl a25 d11_text_196 ?_
        refine den_icmp_lt (pc := 197) (tgt := 209) d11_text_197 (by decide) rfl rfl (fun _ => ?_) (fun _ => ?_)
        · exact t11_text_209 l G _ hd x1 x2 h
        · exact t11_text_200 l G _ hd x1 x2 h
def b11_text_100 (rec100 : AH → Option (Int × AH)) (x1 : Int) (x2 : Int) (h : AH) : Option (Int × AH) :=
  if ¬ w32 (h.2 69 8) = 0 then
    b11_text_161 x1 x2 h
  else
    if w32 (h.2 69 5) = 0 then
      b11_text_161 x1 x2 h
    else
      if w32 x1 = 0 then
        bnd (f11_villageLine h) fun r27 h28 =>
        rec100 h28
      else
      if w32 x1 = 1 then
        bnd (f11_dayLine h) fun r32 h33 =>
        rec100 h33
      else
      bnd (f11_logLine h) fun r36 h37 =>
      rec100 h37
set_option maxRecDepth 100000 in
theorem t11_text_100 (l : Launch) (G : Geo) (d : Nat) (hd : 9 ≤ d) (x1 : Int) (x2 : Int) (rec100 : AH → Option (Int × AH)) (H100 : ∀ (h : AH), Den l G m11_text rvI d 100 [some (vA G 69), some (vI x1), some (vI x2), none, none] [] h (rec100 h)) (h : AH) : Den l G m11_text rvI d 100 [some (vA G 69), some (vI x1), some (vI x2), none, none] [] h (b11_text_100 rec100 x1 x2 h) := by
  unfold b11_text_100
  refine den_aload_n (pc := 100) d11_text_100 rfl rfl ?_
  refine den_getI (pc := 101) fa_11_128 (ok_69 _) d11_text_101 ?_
  refine den_if_ne (pc := 104) (tgt := 161) d11_text_104 (by decide) rfl (fun _ => ?_) (fun _ => ?_)
  · exact t11_text_161 l G _ hd x1 x2 h
  · refine den_aload_n (pc := 107) d11_text_107 rfl rfl ?_
    refine den_getI (pc := 108) fa_11_104 (ok_69 _) d11_text_108 ?_
    refine den_if_eq (pc := 111) (tgt := 161) d11_text_111 (by decide) rfl (fun _ => ?_) (fun _ => ?_)
    · exact t11_text_161 l G _ hd x1 x2 h
    · refine den_iload_n (pc := 114) d11_text_114 rfl rfl ?_
      refine den_ite (fun c26 => ?_) (fun c26 => ?_)
      · refine den_lookup (pc := 115) (tgt := 140) d11_text_115 (by decide) (by rw [c26]) (by decide) ?_
        refine den_aload_n (pc := 140) d11_text_140 rfl rfl ?_
        refine den_callVV (pc := 141) (As := []) fv_11_174 rfl rfl (ok_69 _) (Nat.le_of_ble_eq_true rfl) (Nat.le_trans (by decide) hd) d11_text_141 (c11_villageLine l G h) (fun r27 h28 m29 o30 => ?_)
        refine den_goto (pc := 144) (tgt := 100) d11_text_144 (by decide) ?_
        exact H100 h28
      refine den_ite (fun c31 => ?_) (fun c31 => ?_)
      · refine den_lookup (pc := 115) (tgt := 147) d11_text_115 (by decide) (by rw [c31]) (by decide) ?_
        refine den_aload_n (pc := 147) d11_text_147 rfl rfl ?_
        refine den_callVV (pc := 148) (As := []) fv_11_177 rfl rfl (ok_69 _) (Nat.le_of_ble_eq_true rfl) (Nat.le_trans (by decide) hd) d11_text_148 (c11_dayLine l G h) (fun r32 h33 m34 o35 => ?_)
        refine den_goto (pc := 151) (tgt := 100) d11_text_151 (by decide) ?_
        exact H100 h33
      refine den_lookup (pc := 115) (off := 39) (tgt := 154) d11_text_115 (by decide) (by simp [Op.lookupswitch.offset]; rw [if_neg (fun z => c26 z.symm), if_neg (fun z => c31 z.symm)]) (by decide) ?_
      refine den_aload_n (pc := 154) d11_text_154 rfl rfl ?_
      refine den_callVV (pc := 155) (As := []) fv_11_180 rfl rfl (ok_69 _) (Nat.le_of_ble_eq_true rfl) (Nat.le_trans (by decide) hd) d11_text_155 (c11_logLine l G h) (fun r36 h37 m38 o39 => ?_)
      refine den_goto (pc := 158) (tgt := 100) d11_text_158 (by decide) ?_
      exact H100 h37
def l11_text_100 (x1 : Int) (x2 : Int) (h : AH) : Option (Int × AH) := fx (fun rec z => b11_text_100 rec x1 x2 z) FU h
set_option maxRecDepth 100000 in
theorem tl11_text_100 (l : Launch) (G : Geo) (d : Nat) (hd : 9 ≤ d) (x1 : Int) (x2 : Int) : ∀ (n : Nat) (z : AH), True → Den l G m11_text rvI d 100 [some (vA G 69), some (vI x1), some (vI x2), none, none] [] z (fx (fun rec z => b11_text_100 rec x1 x2 z) n z) :=
  den_fx (F := fun rec z => b11_text_100 rec x1 x2 z) (P := fun z => True) (fL := fun z => [some (vA G 69), some (vI x1), some (vI x2), none, none]) (fs := fun z => []) (fh := fun z => z) (fun rec hrec z hz => t11_text_100 l G d hd x1 x2  rec (fun h => hrec h trivial) z )
def b11_text_71 (x1 : Int) (x2 : Int) (h : AH) : Option (Int × AH) :=
  lt (wr h 69 3 0) fun h40 =>
  lt (wr h40 69 8 0) fun h42 =>
  lt (wr h42 69 9 (-1)) fun h44 =>
  lt (wr h44 69 10 (-1)) fun h46 =>
  bnd (f11_begins0 x1 h46) fun r48 h49 =>
  bnd (f11_advance h49) fun r52 h53 =>
  l11_text_100 x1 x2 h53
set_option maxRecDepth 100000 in
theorem t11_text_71 (l : Launch) (G : Geo) (d : Nat) (hd : 9 ≤ d) (x1 : Int) (x2 : Int) (h : AH) : Den l G m11_text rvI d 71 [some (vA G 69), some (vI x1), some (vI x2), none, none] [] h (b11_text_71 x1 x2 h) := by
  unfold b11_text_71
  refine den_aload_n (pc := 71) d11_text_71 rfl rfl ?_
  refine den_iconst (pc := 72) d11_text_72 ?_
  refine den_putI (pc := 73) fp_11_94 (ok_69 _) d11_text_73 ?_
  refine den_ltH (fun h40 m41 => ?_)
  refine den_aload_n (pc := 76) d11_text_76 rfl rfl ?_
  refine den_iconst (pc := 77) d11_text_77 ?_
  refine den_putT (pc := 78) fp_11_128 (ok_69 _) (by decide) (by decide) d11_text_78 ?_
  refine den_ltH (fun h42 m43 => ?_)
  refine den_aload_n (pc := 81) d11_text_81 rfl rfl ?_
  refine den_iconst (pc := 82) d11_text_82 ?_
  refine den_putI (pc := 83) fp_11_153 (ok_69 _) d11_text_83 ?_
  refine den_ltH (fun h44 m45 => ?_)
  refine den_aload_n (pc := 86) d11_text_86 rfl rfl ?_
  refine den_iconst (pc := 87) d11_text_87 ?_
  refine den_putI (pc := 88) fp_11_156 (ok_69 _) d11_text_88 ?_
  refine den_ltH (fun h46 m47 => ?_)
  refine den_aload_n (pc := 91) d11_text_91 rfl rfl ?_
  refine den_iload_n (pc := 92) d11_text_92 rfl rfl ?_
  refine den_callVV (pc := 93) (As := [vI x1]) fv_11_170 rfl rfl (ok_69 _) (Nat.le_of_ble_eq_true rfl) (Nat.le_trans (by decide) hd) d11_text_93 (c11_begins0 l G x1 h46) (fun r48 h49 m50 o51 => ?_)
  refine den_aload_n (pc := 96) d11_text_96 rfl rfl ?_
  refine den_callVV (pc := 97) (As := []) fv_11_143 rfl rfl (ok_69 _) (Nat.le_of_ble_eq_true rfl) (Nat.le_trans (by decide) hd) d11_text_97 (c11_advance l G h49) (fun r52 h53 m54 o55 => ?_)
  exact tl11_text_100 l G _ hd x1 x2 FU h53 trivial
def f11_text (x1 : Int) (x2 : Int) (h : AH) : Option (Int × AH) :=
  asrt (0 ≤ w32 4 ∧ w32 4 < 4824) <|
  lt (wr h 69 2 (h.2 70 (w32 4).toNat)) fun h57 =>
  asrt (0 ≤ w32 4 ∧ w32 4 < 4824) <|
  lt (wr h57 70 (w32 4).toNat 0) fun h60 =>
  asrt (0 ≤ w32 5 ∧ w32 5 < 4824) <|
  lt (wr h60 70 (w32 5).toNat 0) fun h63 =>
  asrt (0 ≤ w32 6 ∧ w32 6 < 4824) <|
  lt (wr h63 70 (w32 6).toNat (-1)) fun h66 =>
  bnd (f11_isIn x1 0 2 h66) fun r68 h69 =>
  if w32 r68 = 0 then
    some ((-2), h69)
  else
    if ¬ w32 x2 = (-1) then
      bnd (f11_isOf x1 x2 h69) fun r72 h73 =>
      if ¬ w32 r72 = 0 then
        b11_text_71 x1 x2 h73
      else
        some ((-2), h73)
    else
      asrt (0 ≤ w32 x1 ∧ w32 x1 < 4824) <|
      if w32 (h69.2 70 (w32 x1).toNat) < 2 then
        b11_text_71 x1 x2 h69
      else
        some ((-2), h69)
set_option maxRecDepth 100000 in
theorem c11_text (l : Launch) (G : Geo) (x1 : Int) (x2 : Int) (h : AH) : Con l G m11_text rvI 9 [vA G 69, vI x1, vI x2] h (f11_text x1 x2 h) := by
  have hd : 9 ≤ 9 := Nat.le_refl _
  refine con_I rfl (by decide) rfl rfl (Nat.le_of_ble_eq_true rfl) (L := [some (vA G 69), some (vI x1), some (vI x2), none, none]) ?_
  unfold f11_text
  refine den_aload_n (pc := 0) d11_text_0 rfl rfl ?_
  refine den_aload_n (pc := 1) d11_text_1 rfl rfl ?_
  refine den_getR (pc := 2) (b := 70) fa_11_7 (ok_69 _) rfl d11_text_2 ?_
  refine den_iconst (pc := 5) d11_text_5 ?_
  refine den_asrt (fun a56 => ?_)
  refine den_iaload (pc := 6) sh_70 (sz_lt (by decide)) rfl a56 d11_text_6 ?_
  refine den_putI (pc := 7) fp_11_80 (ok_69 _) d11_text_7 ?_
  refine den_ltH (fun h57 m58 => ?_)
  refine den_aload_n (pc := 10) d11_text_10 rfl rfl ?_
  refine den_getR (pc := 11) (b := 70) fa_11_7 (ok_69 _) rfl d11_text_11 ?_
  refine den_iconst (pc := 14) d11_text_14 ?_
  refine den_iconst (pc := 15) d11_text_15 ?_
  refine den_asrt (fun a59 => ?_)
  refine den_iastore (pc := 16) sh_70 (sz_lt (by decide)) rfl a59 d11_text_16 ?_
  refine den_ltH (fun h60 m61 => ?_)
  refine den_aload_n (pc := 17) d11_text_17 rfl rfl ?_
  refine den_getR (pc := 18) (b := 70) fa_11_7 (ok_69 _) rfl d11_text_18 ?_
  refine den_iconst (pc := 21) d11_text_21 ?_
  refine den_iconst (pc := 22) d11_text_22 ?_
  refine den_asrt (fun a62 => ?_)
  refine den_iastore (pc := 23) sh_70 (sz_lt (by decide)) rfl a62 d11_text_23 ?_
  refine den_ltH (fun h63 m64 => ?_)
  refine den_aload_n (pc := 24) d11_text_24 rfl rfl ?_
  refine den_getR (pc := 25) (b := 70) fa_11_7 (ok_69 _) rfl d11_text_25 ?_
  refine den_bipush (pc := 28) d11_text_28 (by decide) ?_
  refine den_iconst (pc := 30) d11_text_30 ?_
  refine den_asrt (fun a65 => ?_)
  refine den_iastore (pc := 31) sh_70 (sz_lt (by decide)) rfl a65 d11_text_31 ?_
  refine den_ltH (fun h66 m67 => ?_)
  refine den_iload_n (pc := 32) d11_text_32 rfl rfl ?_
  refine den_iconst (pc := 33) d11_text_33 ?_
  refine den_iconst (pc := 34) d11_text_34 ?_
  refine den_callSI (pc := 35) (As := [vI x1, vI 0, vI 2]) fs_11_135 rfl rfl (Nat.le_of_ble_eq_true rfl) (Nat.le_trans (by decide) hd) d11_text_35 (c11_isIn l G x1 0 2 h66) (fun r68 h69 m70 o71 => ?_)
  refine den_if_eq (pc := 38) (tgt := 68) d11_text_38 (by decide) rfl (fun _ => ?_) (fun _ => ?_)
  · refine den_bipush (pc := 68) d11_text_68 (by decide) ?_
    exact den_iret (pc := 70) rfl d11_text_70
  · refine den_iload_n (pc := 41) d11_text_41 rfl rfl ?_
    refine den_iconst (pc := 42) d11_text_42 ?_
    refine den_icmp_ne (pc := 43) (tgt := 59) d11_text_43 (by decide) rfl (by decide) (fun _ => ?_) (fun _ => ?_)
    · refine den_aload_n (pc := 59) d11_text_59 rfl rfl ?_
      refine den_iload_n (pc := 60) d11_text_60 rfl rfl ?_
      refine den_iload_n (pc := 61) d11_text_61 rfl rfl ?_
      refine den_callVI (pc := 62) (As := [vI x1, vI x2]) fv_11_166 rfl rfl (ok_69 _) (Nat.le_of_ble_eq_true rfl) (Nat.le_trans (by decide) hd) d11_text_62 (c11_isOf l G x1 x2 h69) (fun r72 h73 m74 o75 => ?_)
      refine den_if_ne (pc := 65) (tgt := 71) d11_text_65 (by decide) rfl (fun _ => ?_) (fun _ => ?_)
      · exact t11_text_71 l G _ hd x1 x2 h73
      · refine den_bipush (pc := 68) d11_text_68 (by decide) ?_
        exact den_iret (pc := 70) rfl d11_text_70
    · refine den_aload_n (pc := 46) d11_text_46 rfl rfl ?_
      refine den_getR (pc := 47) (b := 70) fa_11_7 (ok_69 _) rfl d11_text_47 ?_
      refine den_iload_n (pc := 50) d11_text_50 rfl rfl ?_
      refine den_asrt (fun a76 => ?_)
      refine den_iaload (pc := 51) sh_70 (sz_lt (by decide)) rfl a76 d11_text_51 ?_
      refine den_iconst (pc := 52) d11_text_52 ?_
      refine den_icmp_lt (pc := 53) (tgt := 71) d11_text_53 (by decide) rfl (by decide) (fun _ => ?_) (fun _ => ?_)
      · exact t11_text_71 l G _ hd x1 x2 h69
      · refine den_goto (pc := 56) (tgt := 68) d11_text_56 (by decide) ?_
        refine den_bipush (pc := 68) d11_text_68 (by decide) ?_
        exact den_iret (pc := 70) rfl d11_text_70
theorem d11_fault_0 : decode m11_fault.2.1 0 = .ok (.iload_n 1, 1) := by decide +kernel
theorem d11_fault_1 : decode m11_fault.2.1 1 = .ok (.ifCond .ne 12, 3) := by decide +kernel
theorem d11_fault_4 : decode m11_fault.2.1 4 = .ok (.aload_n 0, 1) := by decide +kernel
theorem d11_fault_5 : decode m11_fault.2.1 5 = .ok (.getfield 7, 3) := by decide +kernel
theorem d11_fault_8 : decode m11_fault.2.1 8 = .ok (.iconst 5, 1) := by decide +kernel
theorem d11_fault_9 : decode m11_fault.2.1 9 = .ok (.iaload, 1) := by decide +kernel
theorem d11_fault_10 : decode m11_fault.2.1 10 = .ok (.goto 19, 3) := by decide +kernel
theorem d11_fault_13 : decode m11_fault.2.1 13 = .ok (.iload_n 1, 1) := by decide +kernel
theorem d11_fault_14 : decode m11_fault.2.1 14 = .ok (.iconst 1, 1) := by decide +kernel
theorem d11_fault_15 : decode m11_fault.2.1 15 = .ok (.if_icmp .ne 13, 3) := by decide +kernel
theorem d11_fault_18 : decode m11_fault.2.1 18 = .ok (.aload_n 0, 1) := by decide +kernel
theorem d11_fault_19 : decode m11_fault.2.1 19 = .ok (.getfield 7, 3) := by decide +kernel
theorem d11_fault_22 : decode m11_fault.2.1 22 = .ok (.bipush 6, 2) := by decide +kernel
theorem d11_fault_24 : decode m11_fault.2.1 24 = .ok (.iaload, 1) := by decide +kernel
theorem d11_fault_25 : decode m11_fault.2.1 25 = .ok (.goto 4, 3) := by decide +kernel
theorem d11_fault_28 : decode m11_fault.2.1 28 = .ok (.iconst (-1), 1) := by decide +kernel
theorem d11_fault_29 : decode m11_fault.2.1 29 = .ok (.ireturn, 1) := by decide +kernel
def f11_fault (x1 : Int) (h : AH) : Option (Int × AH) :=
  if ¬ w32 x1 = 0 then
    if ¬ w32 x1 = 1 then
      some ((-1), h)
    else
      asrt (0 ≤ w32 6 ∧ w32 6 < 4824) <|
      some (h.2 70 (w32 6).toNat, h)
  else
    asrt (0 ≤ w32 5 ∧ w32 5 < 4824) <|
    some (h.2 70 (w32 5).toNat, h)
set_option maxRecDepth 100000 in
theorem c11_fault (l : Launch) (G : Geo) (x1 : Int) (h : AH) : Con l G m11_fault rvI 2 [vA G 69, vI x1] h (f11_fault x1 h) := by
  have hd : 2 ≤ 2 := Nat.le_refl _
  refine con_I rfl (by decide) rfl rfl (Nat.le_of_ble_eq_true rfl) (L := [some (vA G 69), some (vI x1)]) ?_
  unfold f11_fault
  refine den_iload_n (pc := 0) d11_fault_0 rfl rfl ?_
  refine den_if_ne (pc := 1) (tgt := 13) d11_fault_1 (by decide) rfl (fun _ => ?_) (fun _ => ?_)
  · refine den_iload_n (pc := 13) d11_fault_13 rfl rfl ?_
    refine den_iconst (pc := 14) d11_fault_14 ?_
    refine den_icmp_ne (pc := 15) (tgt := 28) d11_fault_15 (by decide) rfl (by decide) (fun _ => ?_) (fun _ => ?_)
    · refine den_iconst (pc := 28) d11_fault_28 ?_
      exact den_iret (pc := 29) rfl d11_fault_29
    · refine den_aload_n (pc := 18) d11_fault_18 rfl rfl ?_
      refine den_getR (pc := 19) (b := 70) fa_11_7 (ok_69 _) rfl d11_fault_19 ?_
      refine den_bipush (pc := 22) d11_fault_22 (by decide) ?_
      refine den_asrt (fun a1 => ?_)
      refine den_iaload (pc := 24) sh_70 (sz_lt (by decide)) rfl a1 d11_fault_24 ?_
      refine den_goto (pc := 25) (tgt := 29) d11_fault_25 (by decide) ?_
      exact den_iret (pc := 29) rfl d11_fault_29
  · refine den_aload_n (pc := 4) d11_fault_4 rfl rfl ?_
    refine den_getR (pc := 5) (b := 70) fa_11_7 (ok_69 _) rfl d11_fault_5 ?_
    refine den_iconst (pc := 8) d11_fault_8 ?_
    refine den_asrt (fun a2 => ?_)
    refine den_iaload (pc := 9) sh_70 (sz_lt (by decide)) rfl a2 d11_fault_9 ?_
    refine den_goto (pc := 10) (tgt := 29) d11_fault_10 (by decide) ?_
    exact den_iret (pc := 29) rfl d11_fault_29
theorem d11_isVillage_0 : decode m11_isVillage.2.1 0 = .ok (.aload_n 0, 1) := by decide +kernel
theorem d11_isVillage_1 : decode m11_isVillage.2.1 1 = .ok (.iconst 0, 1) := by decide +kernel
theorem d11_isVillage_2 : decode m11_isVillage.2.1 2 = .ok (.iload_n 1, 1) := by decide +kernel
theorem d11_isVillage_3 : decode m11_isVillage.2.1 3 = .ok (.invokevirtual 166, 3) := by decide +kernel
theorem d11_isVillage_6 : decode m11_isVillage.2.1 6 = .ok (.ifCond .ne 5, 3) := by decide +kernel
theorem d11_isVillage_9 : decode m11_isVillage.2.1 9 = .ok (.iconst 0, 1) := by decide +kernel
theorem d11_isVillage_10 : decode m11_isVillage.2.1 10 = .ok (.ireturn, 1) := by decide +kernel
theorem d11_isVillage_11 : decode m11_isVillage.2.1 11 = .ok (.aload_n 0, 1) := by decide +kernel
theorem d11_isVillage_12 : decode m11_isVillage.2.1 12 = .ok (.iconst 0, 1) := by decide +kernel
theorem d11_isVillage_13 : decode m11_isVillage.2.1 13 = .ok (.iload_n 1, 1) := by decide +kernel
theorem d11_isVillage_14 : decode m11_isVillage.2.1 14 = .ok (.invokestatic 186, 3) := by decide +kernel
theorem d11_isVillage_17 : decode m11_isVillage.2.1 17 = .ok (.putfield 189, 3) := by decide +kernel
theorem d11_isVillage_20 : decode m11_isVillage.2.1 20 = .ok (.aload_n 0, 1) := by decide +kernel
theorem d11_isVillage_21 : decode m11_isVillage.2.1 21 = .ok (.aload_n 0, 1) := by decide +kernel
theorem d11_isVillage_22 : decode m11_isVillage.2.1 22 = .ok (.getfield 7, 3) := by decide +kernel
theorem d11_isVillage_25 : decode m11_isVillage.2.1 25 = .ok (.aload_n 0, 1) := by decide +kernel
theorem d11_isVillage_26 : decode m11_isVillage.2.1 26 = .ok (.getfield 189, 3) := by decide +kernel
theorem d11_isVillage_29 : decode m11_isVillage.2.1 29 = .ok (.iaload, 1) := by decide +kernel
theorem d11_isVillage_30 : decode m11_isVillage.2.1 30 = .ok (.putfield 192, 3) := by decide +kernel
theorem d11_isVillage_33 : decode m11_isVillage.2.1 33 = .ok (.aload_n 0, 1) := by decide +kernel
theorem d11_isVillage_34 : decode m11_isVillage.2.1 34 = .ok (.aload_n 0, 1) := by decide +kernel
theorem d11_isVillage_35 : decode m11_isVillage.2.1 35 = .ok (.getfield 7, 3) := by decide +kernel
theorem d11_isVillage_38 : decode m11_isVillage.2.1 38 = .ok (.aload_n 0, 1) := by decide +kernel
theorem d11_isVillage_39 : decode m11_isVillage.2.1 39 = .ok (.getfield 189, 3) := by decide +kernel
theorem d11_isVillage_42 : decode m11_isVillage.2.1 42 = .ok (.iconst 1, 1) := by decide +kernel
theorem d11_isVillage_43 : decode m11_isVillage.2.1 43 = .ok (.iadd, 1) := by decide +kernel
theorem d11_isVillage_44 : decode m11_isVillage.2.1 44 = .ok (.iaload, 1) := by decide +kernel
theorem d11_isVillage_45 : decode m11_isVillage.2.1 45 = .ok (.putfield 195, 3) := by decide +kernel
theorem d11_isVillage_48 : decode m11_isVillage.2.1 48 = .ok (.aload_n 0, 1) := by decide +kernel
theorem d11_isVillage_49 : decode m11_isVillage.2.1 49 = .ok (.aload_n 0, 1) := by decide +kernel
theorem d11_isVillage_50 : decode m11_isVillage.2.1 50 = .ok (.getfield 7, 3) := by decide +kernel
theorem d11_isVillage_53 : decode m11_isVillage.2.1 53 = .ok (.aload_n 0, 1) := by decide +kernel
theorem d11_isVillage_54 : decode m11_isVillage.2.1 54 = .ok (.getfield 189, 3) := by decide +kernel
theorem d11_isVillage_57 : decode m11_isVillage.2.1 57 = .ok (.iconst 2, 1) := by decide +kernel
theorem d11_isVillage_58 : decode m11_isVillage.2.1 58 = .ok (.iadd, 1) := by decide +kernel
theorem d11_isVillage_59 : decode m11_isVillage.2.1 59 = .ok (.iaload, 1) := by decide +kernel
theorem d11_isVillage_60 : decode m11_isVillage.2.1 60 = .ok (.putfield 198, 3) := by decide +kernel
theorem d11_isVillage_63 : decode m11_isVillage.2.1 63 = .ok (.iconst 1, 1) := by decide +kernel
theorem d11_isVillage_64 : decode m11_isVillage.2.1 64 = .ok (.ireturn, 1) := by decide +kernel
def f11_isVillage (x1 : Int) (h : AH) : Option (Int × AH) :=
  bnd (f11_isOf 0 x1 h) fun r1 h2 =>
  if ¬ w32 r1 = 0 then
    bnd (f11_placeOf 0 x1 h2) fun r5 h6 =>
    lt (wr h6 69 12 r5) fun h9 =>
    asrt (0 ≤ w32 (h9.2 69 12) ∧ w32 (h9.2 69 12) < 4824) <|
    lt (wr h9 69 13 (h9.2 70 (w32 (h9.2 69 12)).toNat)) fun h12 =>
    asrt (0 ≤ w32 ((h12.2 69 12) + 1) ∧ w32 ((h12.2 69 12) + 1) < 4824) <|
    lt (wr h12 69 14 (h12.2 70 (w32 ((h12.2 69 12) + 1)).toNat)) fun h15 =>
    asrt (0 ≤ w32 ((h15.2 69 12) + 2) ∧ w32 ((h15.2 69 12) + 2) < 4824) <|
    lt (wr h15 69 15 (h15.2 70 (w32 ((h15.2 69 12) + 2)).toNat)) fun h18 =>
    some (1, h18)
  else
    some (0, h2)
set_option maxRecDepth 100000 in
theorem c11_isVillage (l : Launch) (G : Geo) (x1 : Int) (h : AH) : Con l G m11_isVillage rvI 4 [vA G 69, vI x1] h (f11_isVillage x1 h) := by
  have hd : 4 ≤ 4 := Nat.le_refl _
  refine con_Z rfl (by decide) rfl rfl (Nat.le_of_ble_eq_true rfl) (L := [some (vA G 69), some (vI x1)]) ?_
  unfold f11_isVillage
  refine den_aload_n (pc := 0) d11_isVillage_0 rfl rfl ?_
  refine den_iconst (pc := 1) d11_isVillage_1 ?_
  refine den_iload_n (pc := 2) d11_isVillage_2 rfl rfl ?_
  refine den_callVI (pc := 3) (As := [vI 0, vI x1]) fv_11_166 rfl rfl (ok_69 _) (Nat.le_of_ble_eq_true rfl) (Nat.le_trans (by decide) hd) d11_isVillage_3 (c11_isOf l G 0 x1 h) (fun r1 h2 m3 o4 => ?_)
  refine den_if_ne (pc := 6) (tgt := 11) d11_isVillage_6 (by decide) rfl (fun _ => ?_) (fun _ => ?_)
  · refine den_aload_n (pc := 11) d11_isVillage_11 rfl rfl ?_
    refine den_iconst (pc := 12) d11_isVillage_12 ?_
    refine den_iload_n (pc := 13) d11_isVillage_13 rfl rfl ?_
    refine den_callSI (pc := 14) (As := [vI 0, vI x1]) fs_11_186 rfl rfl (Nat.le_of_ble_eq_true rfl) (Nat.le_trans (by decide) hd) d11_isVillage_14 (c11_placeOf l G 0 x1 h2) (fun r5 h6 m7 o8 => ?_)
    refine den_putI (pc := 17) fp_11_189 (ok_69 _) d11_isVillage_17 ?_
    refine den_ltH (fun h9 m10 => ?_)
    refine den_aload_n (pc := 20) d11_isVillage_20 rfl rfl ?_
    refine den_aload_n (pc := 21) d11_isVillage_21 rfl rfl ?_
    refine den_getR (pc := 22) (b := 70) fa_11_7 (ok_69 _) rfl d11_isVillage_22 ?_
    refine den_aload_n (pc := 25) d11_isVillage_25 rfl rfl ?_
    refine den_getI (pc := 26) fa_11_189 (ok_69 _) d11_isVillage_26 ?_
    refine den_asrt (fun a11 => ?_)
    refine den_iaload (pc := 29) sh_70 (sz_lt (by decide)) rfl a11 d11_isVillage_29 ?_
    refine den_putI (pc := 30) fp_11_192 (ok_69 _) d11_isVillage_30 ?_
    refine den_ltH (fun h12 m13 => ?_)
    refine den_aload_n (pc := 33) d11_isVillage_33 rfl rfl ?_
    refine den_aload_n (pc := 34) d11_isVillage_34 rfl rfl ?_
    refine den_getR (pc := 35) (b := 70) fa_11_7 (ok_69 _) rfl d11_isVillage_35 ?_
    refine den_aload_n (pc := 38) d11_isVillage_38 rfl rfl ?_
    refine den_getI (pc := 39) fa_11_189 (ok_69 _) d11_isVillage_39 ?_
    refine den_iconst (pc := 42) d11_isVillage_42 ?_
    refine den_iadd (pc := 43) d11_isVillage_43 ?_
    refine den_asrt (fun a14 => ?_)
    refine den_iaload (pc := 44) sh_70 (sz_lt (by decide)) rfl a14 d11_isVillage_44 ?_
    refine den_putI (pc := 45) fp_11_195 (ok_69 _) d11_isVillage_45 ?_
    refine den_ltH (fun h15 m16 => ?_)
    refine den_aload_n (pc := 48) d11_isVillage_48 rfl rfl ?_
    refine den_aload_n (pc := 49) d11_isVillage_49 rfl rfl ?_
    refine den_getR (pc := 50) (b := 70) fa_11_7 (ok_69 _) rfl d11_isVillage_50 ?_
    refine den_aload_n (pc := 53) d11_isVillage_53 rfl rfl ?_
    refine den_getI (pc := 54) fa_11_189 (ok_69 _) d11_isVillage_54 ?_
    refine den_iconst (pc := 57) d11_isVillage_57 ?_
    refine den_iadd (pc := 58) d11_isVillage_58 ?_
    refine den_asrt (fun a17 => ?_)
    refine den_iaload (pc := 59) sh_70 (sz_lt (by decide)) rfl a17 d11_isVillage_59 ?_
    refine den_putI (pc := 60) fp_11_198 (ok_69 _) d11_isVillage_60 ?_
    refine den_ltH (fun h18 m19 => ?_)
    refine den_iconst (pc := 63) d11_isVillage_63 ?_
    exact den_zret (pc := 64) rfl (by decide) d11_isVillage_64
  · refine den_iconst (pc := 9) d11_isVillage_9 ?_
    exact den_zret (pc := 10) rfl (by decide) d11_isVillage_10
theorem d11_isPerson_0 : decode m11_isPerson.2.1 0 = .ok (.iload_n 1, 1) := by decide +kernel
theorem d11_isPerson_1 : decode m11_isPerson.2.1 1 = .ok (.iconst 0, 1) := by decide +kernel
theorem d11_isPerson_2 : decode m11_isPerson.2.1 2 = .ok (.aload_n 0, 1) := by decide +kernel
theorem d11_isPerson_3 : decode m11_isPerson.2.1 3 = .ok (.getfield 192, 3) := by decide +kernel
theorem d11_isPerson_6 : decode m11_isPerson.2.1 6 = .ok (.iconst 1, 1) := by decide +kernel
theorem d11_isPerson_7 : decode m11_isPerson.2.1 7 = .ok (.isub, 1) := by decide +kernel
theorem d11_isPerson_8 : decode m11_isPerson.2.1 8 = .ok (.invokestatic 135, 3) := by decide +kernel
theorem d11_isPerson_11 : decode m11_isPerson.2.1 11 = .ok (.ireturn, 1) := by decide +kernel
def f11_isPerson (x1 : Int) (h : AH) : Option (Int × AH) :=
  bnd (f11_isIn x1 0 ((h.2 69 13) - 1) h) fun r1 h2 =>
  asrt (w32 r1 = 0 ∨ w32 r1 = 1) <|
  some (r1, h2)
set_option maxRecDepth 100000 in
theorem c11_isPerson (l : Launch) (G : Geo) (x1 : Int) (h : AH) : Con l G m11_isPerson rvI 3 [vA G 69, vI x1] h (f11_isPerson x1 h) := by
  have hd : 3 ≤ 3 := Nat.le_refl _
  refine con_Z rfl (by decide) rfl rfl (Nat.le_of_ble_eq_true rfl) (L := [some (vA G 69), some (vI x1)]) ?_
  unfold f11_isPerson
  refine den_iload_n (pc := 0) d11_isPerson_0 rfl rfl ?_
  refine den_iconst (pc := 1) d11_isPerson_1 ?_
  refine den_aload_n (pc := 2) d11_isPerson_2 rfl rfl ?_
  refine den_getI (pc := 3) fa_11_192 (ok_69 _) d11_isPerson_3 ?_
  refine den_iconst (pc := 6) d11_isPerson_6 ?_
  refine den_isub (pc := 7) d11_isPerson_7 ?_
  refine den_callSI (pc := 8) (As := [vI x1, vI 0, vI ((h.2 69 13) - 1)]) fs_11_135 rfl rfl (Nat.le_of_ble_eq_true rfl) (Nat.le_trans (by decide) hd) d11_isPerson_8 (c11_isIn l G x1 0 ((h.2 69 13) - 1) h) (fun r1 h2 m3 o4 => ?_)
  refine den_asrt (fun a5 => ?_)
  exact den_zret (pc := 11) rfl a5 d11_isPerson_11
theorem d11_isSubject_0 : decode m11_isSubject.2.1 0 = .ok (.iload_n 1, 1) := by decide +kernel
theorem d11_isSubject_1 : decode m11_isSubject.2.1 1 = .ok (.iconst 0, 1) := by decide +kernel
theorem d11_isSubject_2 : decode m11_isSubject.2.1 2 = .ok (.aload_n 0, 1) := by decide +kernel
theorem d11_isSubject_3 : decode m11_isSubject.2.1 3 = .ok (.getfield 195, 3) := by decide +kernel
theorem d11_isSubject_6 : decode m11_isSubject.2.1 6 = .ok (.iconst 1, 1) := by decide +kernel
theorem d11_isSubject_7 : decode m11_isSubject.2.1 7 = .ok (.isub, 1) := by decide +kernel
theorem d11_isSubject_8 : decode m11_isSubject.2.1 8 = .ok (.invokestatic 135, 3) := by decide +kernel
theorem d11_isSubject_11 : decode m11_isSubject.2.1 11 = .ok (.ireturn, 1) := by decide +kernel
def f11_isSubject (x1 : Int) (h : AH) : Option (Int × AH) :=
  bnd (f11_isIn x1 0 ((h.2 69 14) - 1) h) fun r1 h2 =>
  asrt (w32 r1 = 0 ∨ w32 r1 = 1) <|
  some (r1, h2)
set_option maxRecDepth 100000 in
theorem c11_isSubject (l : Launch) (G : Geo) (x1 : Int) (h : AH) : Con l G m11_isSubject rvI 3 [vA G 69, vI x1] h (f11_isSubject x1 h) := by
  have hd : 3 ≤ 3 := Nat.le_refl _
  refine con_Z rfl (by decide) rfl rfl (Nat.le_of_ble_eq_true rfl) (L := [some (vA G 69), some (vI x1)]) ?_
  unfold f11_isSubject
  refine den_iload_n (pc := 0) d11_isSubject_0 rfl rfl ?_
  refine den_iconst (pc := 1) d11_isSubject_1 ?_
  refine den_aload_n (pc := 2) d11_isSubject_2 rfl rfl ?_
  refine den_getI (pc := 3) fa_11_195 (ok_69 _) d11_isSubject_3 ?_
  refine den_iconst (pc := 6) d11_isSubject_6 ?_
  refine den_isub (pc := 7) d11_isSubject_7 ?_
  refine den_callSI (pc := 8) (As := [vI x1, vI 0, vI ((h.2 69 14) - 1)]) fs_11_135 rfl rfl (Nat.le_of_ble_eq_true rfl) (Nat.le_trans (by decide) hd) d11_isSubject_8 (c11_isIn l G x1 0 ((h.2 69 14) - 1) h) (fun r1 h2 m3 o4 => ?_)
  refine den_asrt (fun a5 => ?_)
  exact den_zret (pc := 11) rfl a5 d11_isSubject_11
theorem d11_heatOf_0 : decode m11_heatOf.2.1 0 = .ok (.aload_n 0, 1) := by decide +kernel
theorem d11_heatOf_1 : decode m11_heatOf.2.1 1 = .ok (.getfield 7, 3) := by decide +kernel
theorem d11_heatOf_4 : decode m11_heatOf.2.1 4 = .ok (.aload_n 0, 1) := by decide +kernel
theorem d11_heatOf_5 : decode m11_heatOf.2.1 5 = .ok (.getfield 189, 3) := by decide +kernel
theorem d11_heatOf_8 : decode m11_heatOf.2.1 8 = .ok (.iconst 4, 1) := by decide +kernel
theorem d11_heatOf_9 : decode m11_heatOf.2.1 9 = .ok (.iadd, 1) := by decide +kernel
theorem d11_heatOf_10 : decode m11_heatOf.2.1 10 = .ok (.iconst 2, 1) := by decide +kernel
theorem d11_heatOf_11 : decode m11_heatOf.2.1 11 = .ok (.iload_n 1, 1) := by decide +kernel
theorem d11_heatOf_12 : decode m11_heatOf.2.1 12 = .ok (.imul, 1) := by decide +kernel
theorem d11_heatOf_13 : decode m11_heatOf.2.1 13 = .ok (.iadd, 1) := by decide +kernel
theorem d11_heatOf_14 : decode m11_heatOf.2.1 14 = .ok (.iaload, 1) := by decide +kernel
theorem d11_heatOf_15 : decode m11_heatOf.2.1 15 = .ok (.ireturn, 1) := by decide +kernel
def f11_heatOf (x1 : Int) (h : AH) : Option (Int × AH) :=
  asrt (0 ≤ w32 (((h.2 69 12) + 4) + (2 * x1)) ∧ w32 (((h.2 69 12) + 4) + (2 * x1)) < 4824) <|
  some (h.2 70 (w32 (((h.2 69 12) + 4) + (2 * x1))).toNat, h)
set_option maxRecDepth 100000 in
theorem c11_heatOf (l : Launch) (G : Geo) (x1 : Int) (h : AH) : Con l G m11_heatOf rvI 2 [vA G 69, vI x1] h (f11_heatOf x1 h) := by
  have hd : 2 ≤ 2 := Nat.le_refl _
  refine con_I rfl (by decide) rfl rfl (Nat.le_of_ble_eq_true rfl) (L := [some (vA G 69), some (vI x1)]) ?_
  unfold f11_heatOf
  refine den_aload_n (pc := 0) d11_heatOf_0 rfl rfl ?_
  refine den_getR (pc := 1) (b := 70) fa_11_7 (ok_69 _) rfl d11_heatOf_1 ?_
  refine den_aload_n (pc := 4) d11_heatOf_4 rfl rfl ?_
  refine den_getI (pc := 5) fa_11_189 (ok_69 _) d11_heatOf_5 ?_
  refine den_iconst (pc := 8) d11_heatOf_8 ?_
  refine den_iadd (pc := 9) d11_heatOf_9 ?_
  refine den_iconst (pc := 10) d11_heatOf_10 ?_
  refine den_iload_n (pc := 11) d11_heatOf_11 rfl rfl ?_
  refine den_imul (pc := 12) d11_heatOf_12 ?_
  refine den_iadd (pc := 13) d11_heatOf_13 ?_
  refine den_asrt (fun a1 => ?_)
  refine den_iaload (pc := 14) sh_70 (sz_lt (by decide)) rfl a1 d11_heatOf_14 ?_
  exact den_iret (pc := 15) rfl d11_heatOf_15
theorem d11_fadesOf_0 : decode m11_fadesOf.2.1 0 = .ok (.aload_n 0, 1) := by decide +kernel
theorem d11_fadesOf_1 : decode m11_fadesOf.2.1 1 = .ok (.getfield 7, 3) := by decide +kernel
theorem d11_fadesOf_4 : decode m11_fadesOf.2.1 4 = .ok (.aload_n 0, 1) := by decide +kernel
theorem d11_fadesOf_5 : decode m11_fadesOf.2.1 5 = .ok (.getfield 189, 3) := by decide +kernel
theorem d11_fadesOf_8 : decode m11_fadesOf.2.1 8 = .ok (.iconst 4, 1) := by decide +kernel
theorem d11_fadesOf_9 : decode m11_fadesOf.2.1 9 = .ok (.iadd, 1) := by decide +kernel
theorem d11_fadesOf_10 : decode m11_fadesOf.2.1 10 = .ok (.iconst 1, 1) := by decide +kernel
theorem d11_fadesOf_11 : decode m11_fadesOf.2.1 11 = .ok (.iadd, 1) := by decide +kernel
theorem d11_fadesOf_12 : decode m11_fadesOf.2.1 12 = .ok (.iconst 2, 1) := by decide +kernel
theorem d11_fadesOf_13 : decode m11_fadesOf.2.1 13 = .ok (.iload_n 1, 1) := by decide +kernel
theorem d11_fadesOf_14 : decode m11_fadesOf.2.1 14 = .ok (.imul, 1) := by decide +kernel
theorem d11_fadesOf_15 : decode m11_fadesOf.2.1 15 = .ok (.iadd, 1) := by decide +kernel
theorem d11_fadesOf_16 : decode m11_fadesOf.2.1 16 = .ok (.iaload, 1) := by decide +kernel
theorem d11_fadesOf_17 : decode m11_fadesOf.2.1 17 = .ok (.ireturn, 1) := by decide +kernel
def f11_fadesOf (x1 : Int) (h : AH) : Option (Int × AH) :=
  asrt (0 ≤ w32 ((((h.2 69 12) + 4) + 1) + (2 * x1)) ∧ w32 ((((h.2 69 12) + 4) + 1) + (2 * x1)) < 4824) <|
  some (h.2 70 (w32 ((((h.2 69 12) + 4) + 1) + (2 * x1))).toNat, h)
set_option maxRecDepth 100000 in
theorem c11_fadesOf (l : Launch) (G : Geo) (x1 : Int) (h : AH) : Con l G m11_fadesOf rvI 2 [vA G 69, vI x1] h (f11_fadesOf x1 h) := by
  have hd : 2 ≤ 2 := Nat.le_refl _
  refine con_I rfl (by decide) rfl rfl (Nat.le_of_ble_eq_true rfl) (L := [some (vA G 69), some (vI x1)]) ?_
  unfold f11_fadesOf
  refine den_aload_n (pc := 0) d11_fadesOf_0 rfl rfl ?_
  refine den_getR (pc := 1) (b := 70) fa_11_7 (ok_69 _) rfl d11_fadesOf_1 ?_
  refine den_aload_n (pc := 4) d11_fadesOf_4 rfl rfl ?_
  refine den_getI (pc := 5) fa_11_189 (ok_69 _) d11_fadesOf_5 ?_
  refine den_iconst (pc := 8) d11_fadesOf_8 ?_
  refine den_iadd (pc := 9) d11_fadesOf_9 ?_
  refine den_iconst (pc := 10) d11_fadesOf_10 ?_
  refine den_iadd (pc := 11) d11_fadesOf_11 ?_
  refine den_iconst (pc := 12) d11_fadesOf_12 ?_
  refine den_iload_n (pc := 13) d11_fadesOf_13 rfl rfl ?_
  refine den_imul (pc := 14) d11_fadesOf_14 ?_
  refine den_iadd (pc := 15) d11_fadesOf_15 ?_
  refine den_asrt (fun a1 => ?_)
  refine den_iaload (pc := 16) sh_70 (sz_lt (by decide)) rfl a1 d11_fadesOf_16 ?_
  exact den_iret (pc := 17) rfl d11_fadesOf_17
theorem d11_wantsOf_0 : decode m11_wantsOf.2.1 0 = .ok (.aload_n 0, 1) := by decide +kernel
theorem d11_wantsOf_1 : decode m11_wantsOf.2.1 1 = .ok (.getfield 7, 3) := by decide +kernel
theorem d11_wantsOf_4 : decode m11_wantsOf.2.1 4 = .ok (.aload_n 0, 1) := by decide +kernel
theorem d11_wantsOf_5 : decode m11_wantsOf.2.1 5 = .ok (.getfield 189, 3) := by decide +kernel
theorem d11_wantsOf_8 : decode m11_wantsOf.2.1 8 = .ok (.bipush 16, 2) := by decide +kernel
theorem d11_wantsOf_10 : decode m11_wantsOf.2.1 10 = .ok (.iadd, 1) := by decide +kernel
theorem d11_wantsOf_11 : decode m11_wantsOf.2.1 11 = .ok (.iconst 2, 1) := by decide +kernel
theorem d11_wantsOf_12 : decode m11_wantsOf.2.1 12 = .ok (.iload_n 1, 1) := by decide +kernel
theorem d11_wantsOf_13 : decode m11_wantsOf.2.1 13 = .ok (.imul, 1) := by decide +kernel
theorem d11_wantsOf_14 : decode m11_wantsOf.2.1 14 = .ok (.iadd, 1) := by decide +kernel
theorem d11_wantsOf_15 : decode m11_wantsOf.2.1 15 = .ok (.iaload, 1) := by decide +kernel
theorem d11_wantsOf_16 : decode m11_wantsOf.2.1 16 = .ok (.ireturn, 1) := by decide +kernel
def f11_wantsOf (x1 : Int) (h : AH) : Option (Int × AH) :=
  asrt (0 ≤ w32 (((h.2 69 12) + 16) + (2 * x1)) ∧ w32 (((h.2 69 12) + 16) + (2 * x1)) < 4824) <|
  some (h.2 70 (w32 (((h.2 69 12) + 16) + (2 * x1))).toNat, h)
set_option maxRecDepth 100000 in
theorem c11_wantsOf (l : Launch) (G : Geo) (x1 : Int) (h : AH) : Con l G m11_wantsOf rvI 2 [vA G 69, vI x1] h (f11_wantsOf x1 h) := by
  have hd : 2 ≤ 2 := Nat.le_refl _
  refine con_I rfl (by decide) rfl rfl (Nat.le_of_ble_eq_true rfl) (L := [some (vA G 69), some (vI x1)]) ?_
  unfold f11_wantsOf
  refine den_aload_n (pc := 0) d11_wantsOf_0 rfl rfl ?_
  refine den_getR (pc := 1) (b := 70) fa_11_7 (ok_69 _) rfl d11_wantsOf_1 ?_
  refine den_aload_n (pc := 4) d11_wantsOf_4 rfl rfl ?_
  refine den_getI (pc := 5) fa_11_189 (ok_69 _) d11_wantsOf_5 ?_
  refine den_bipush (pc := 8) d11_wantsOf_8 (by decide) ?_
  refine den_iadd (pc := 10) d11_wantsOf_10 ?_
  refine den_iconst (pc := 11) d11_wantsOf_11 ?_
  refine den_iload_n (pc := 12) d11_wantsOf_12 rfl rfl ?_
  refine den_imul (pc := 13) d11_wantsOf_13 ?_
  refine den_iadd (pc := 14) d11_wantsOf_14 ?_
  refine den_asrt (fun a1 => ?_)
  refine den_iaload (pc := 15) sh_70 (sz_lt (by decide)) rfl a1 d11_wantsOf_15 ?_
  exact den_iret (pc := 16) rfl d11_wantsOf_16
theorem d11_cracksOf_0 : decode m11_cracksOf.2.1 0 = .ok (.aload_n 0, 1) := by decide +kernel
theorem d11_cracksOf_1 : decode m11_cracksOf.2.1 1 = .ok (.getfield 7, 3) := by decide +kernel
theorem d11_cracksOf_4 : decode m11_cracksOf.2.1 4 = .ok (.aload_n 0, 1) := by decide +kernel
theorem d11_cracksOf_5 : decode m11_cracksOf.2.1 5 = .ok (.getfield 189, 3) := by decide +kernel
theorem d11_cracksOf_8 : decode m11_cracksOf.2.1 8 = .ok (.bipush 16, 2) := by decide +kernel
theorem d11_cracksOf_10 : decode m11_cracksOf.2.1 10 = .ok (.iadd, 1) := by decide +kernel
theorem d11_cracksOf_11 : decode m11_cracksOf.2.1 11 = .ok (.iconst 1, 1) := by decide +kernel
theorem d11_cracksOf_12 : decode m11_cracksOf.2.1 12 = .ok (.iadd, 1) := by decide +kernel
theorem d11_cracksOf_13 : decode m11_cracksOf.2.1 13 = .ok (.iconst 2, 1) := by decide +kernel
theorem d11_cracksOf_14 : decode m11_cracksOf.2.1 14 = .ok (.iload_n 1, 1) := by decide +kernel
theorem d11_cracksOf_15 : decode m11_cracksOf.2.1 15 = .ok (.imul, 1) := by decide +kernel
theorem d11_cracksOf_16 : decode m11_cracksOf.2.1 16 = .ok (.iadd, 1) := by decide +kernel
theorem d11_cracksOf_17 : decode m11_cracksOf.2.1 17 = .ok (.iaload, 1) := by decide +kernel
theorem d11_cracksOf_18 : decode m11_cracksOf.2.1 18 = .ok (.ireturn, 1) := by decide +kernel
def f11_cracksOf (x1 : Int) (h : AH) : Option (Int × AH) :=
  asrt (0 ≤ w32 ((((h.2 69 12) + 16) + 1) + (2 * x1)) ∧ w32 ((((h.2 69 12) + 16) + 1) + (2 * x1)) < 4824) <|
  some (h.2 70 (w32 ((((h.2 69 12) + 16) + 1) + (2 * x1))).toNat, h)
set_option maxRecDepth 100000 in
theorem c11_cracksOf (l : Launch) (G : Geo) (x1 : Int) (h : AH) : Con l G m11_cracksOf rvI 2 [vA G 69, vI x1] h (f11_cracksOf x1 h) := by
  have hd : 2 ≤ 2 := Nat.le_refl _
  refine con_I rfl (by decide) rfl rfl (Nat.le_of_ble_eq_true rfl) (L := [some (vA G 69), some (vI x1)]) ?_
  unfold f11_cracksOf
  refine den_aload_n (pc := 0) d11_cracksOf_0 rfl rfl ?_
  refine den_getR (pc := 1) (b := 70) fa_11_7 (ok_69 _) rfl d11_cracksOf_1 ?_
  refine den_aload_n (pc := 4) d11_cracksOf_4 rfl rfl ?_
  refine den_getI (pc := 5) fa_11_189 (ok_69 _) d11_cracksOf_5 ?_
  refine den_bipush (pc := 8) d11_cracksOf_8 (by decide) ?_
  refine den_iadd (pc := 10) d11_cracksOf_10 ?_
  refine den_iconst (pc := 11) d11_cracksOf_11 ?_
  refine den_iadd (pc := 12) d11_cracksOf_12 ?_
  refine den_iconst (pc := 13) d11_cracksOf_13 ?_
  refine den_iload_n (pc := 14) d11_cracksOf_14 rfl rfl ?_
  refine den_imul (pc := 15) d11_cracksOf_15 ?_
  refine den_iadd (pc := 16) d11_cracksOf_16 ?_
  refine den_asrt (fun a1 => ?_)
  refine den_iaload (pc := 17) sh_70 (sz_lt (by decide)) rfl a1 d11_cracksOf_17 ?_
  exact den_iret (pc := 18) rfl d11_cracksOf_18
theorem d11_heldOf_0 : decode m11_heldOf.2.1 0 = .ok (.aload_n 0, 1) := by decide +kernel
theorem d11_heldOf_1 : decode m11_heldOf.2.1 1 = .ok (.getfield 7, 3) := by decide +kernel
theorem d11_heldOf_4 : decode m11_heldOf.2.1 4 = .ok (.aload_n 0, 1) := by decide +kernel
theorem d11_heldOf_5 : decode m11_heldOf.2.1 5 = .ok (.getfield 189, 3) := by decide +kernel
theorem d11_heldOf_8 : decode m11_heldOf.2.1 8 = .ok (.bipush 24, 2) := by decide +kernel
theorem d11_heldOf_10 : decode m11_heldOf.2.1 10 = .ok (.iadd, 1) := by decide +kernel
theorem d11_heldOf_11 : decode m11_heldOf.2.1 11 = .ok (.bipush 6, 2) := by decide +kernel
theorem d11_heldOf_13 : decode m11_heldOf.2.1 13 = .ok (.iload_n 1, 1) := by decide +kernel
theorem d11_heldOf_14 : decode m11_heldOf.2.1 14 = .ok (.imul, 1) := by decide +kernel
theorem d11_heldOf_15 : decode m11_heldOf.2.1 15 = .ok (.iadd, 1) := by decide +kernel
theorem d11_heldOf_16 : decode m11_heldOf.2.1 16 = .ok (.iload_n 2, 1) := by decide +kernel
theorem d11_heldOf_17 : decode m11_heldOf.2.1 17 = .ok (.iadd, 1) := by decide +kernel
theorem d11_heldOf_18 : decode m11_heldOf.2.1 18 = .ok (.iaload, 1) := by decide +kernel
theorem d11_heldOf_19 : decode m11_heldOf.2.1 19 = .ok (.ireturn, 1) := by decide +kernel
def f11_heldOf (x1 : Int) (x2 : Int) (h : AH) : Option (Int × AH) :=
  asrt (0 ≤ w32 ((((h.2 69 12) + 24) + (6 * x1)) + x2) ∧ w32 ((((h.2 69 12) + 24) + (6 * x1)) + x2) < 4824) <|
  some (h.2 70 (w32 ((((h.2 69 12) + 24) + (6 * x1)) + x2)).toNat, h)
set_option maxRecDepth 100000 in
theorem c11_heldOf (l : Launch) (G : Geo) (x1 : Int) (x2 : Int) (h : AH) : Con l G m11_heldOf rvI 2 [vA G 69, vI x1, vI x2] h (f11_heldOf x1 x2 h) := by
  have hd : 2 ≤ 2 := Nat.le_refl _
  refine con_I rfl (by decide) rfl rfl (Nat.le_of_ble_eq_true rfl) (L := [some (vA G 69), some (vI x1), some (vI x2)]) ?_
  unfold f11_heldOf
  refine den_aload_n (pc := 0) d11_heldOf_0 rfl rfl ?_
  refine den_getR (pc := 1) (b := 70) fa_11_7 (ok_69 _) rfl d11_heldOf_1 ?_
  refine den_aload_n (pc := 4) d11_heldOf_4 rfl rfl ?_
  refine den_getI (pc := 5) fa_11_189 (ok_69 _) d11_heldOf_5 ?_
  refine den_bipush (pc := 8) d11_heldOf_8 (by decide) ?_
  refine den_iadd (pc := 10) d11_heldOf_10 ?_
  refine den_bipush (pc := 11) d11_heldOf_11 (by decide) ?_
  refine den_iload_n (pc := 13) d11_heldOf_13 rfl rfl ?_
  refine den_imul (pc := 14) d11_heldOf_14 ?_
  refine den_iadd (pc := 15) d11_heldOf_15 ?_
  refine den_iload_n (pc := 16) d11_heldOf_16 rfl rfl ?_
  refine den_iadd (pc := 17) d11_heldOf_17 ?_
  refine den_asrt (fun a1 => ?_)
  refine den_iaload (pc := 18) sh_70 (sz_lt (by decide)) rfl a1 d11_heldOf_18 ?_
  exact den_iret (pc := 19) rfl d11_heldOf_19
theorem d11_village_0 : decode m11_village.2.1 0 = .ok (.aload_n 0, 1) := by decide +kernel
theorem d11_village_1 : decode m11_village.2.1 1 = .ok (.iload_n 1, 1) := by decide +kernel
theorem d11_village_2 : decode m11_village.2.1 2 = .ok (.invokevirtual 201, 3) := by decide +kernel
theorem d11_village_5 : decode m11_village.2.1 5 = .ok (.ifCond .ne 6, 3) := by decide +kernel
theorem d11_village_8 : decode m11_village.2.1 8 = .ok (.bipush (-2), 2) := by decide +kernel
theorem d11_village_10 : decode m11_village.2.1 10 = .ok (.ireturn, 1) := by decide +kernel
theorem d11_village_11 : decode m11_village.2.1 11 = .ok (.iload_n 2, 1) := by decide +kernel
theorem d11_village_12 : decode m11_village.2.1 12 = .ok (.iconst 0, 1) := by decide +kernel
theorem d11_village_13 : decode m11_village.2.1 13 = .ok (.iconst 3, 1) := by decide +kernel
theorem d11_village_14 : decode m11_village.2.1 14 = .ok (.invokestatic 135, 3) := by decide +kernel
theorem d11_village_17 : decode m11_village.2.1 17 = .ok (.ifCond .eq 15, 3) := by decide +kernel
theorem d11_village_20 : decode m11_village.2.1 20 = .ok (.aload_n 0, 1) := by decide +kernel
theorem d11_village_21 : decode m11_village.2.1 21 = .ok (.getfield 7, 3) := by decide +kernel
theorem d11_village_24 : decode m11_village.2.1 24 = .ok (.aload_n 0, 1) := by decide +kernel
theorem d11_village_25 : decode m11_village.2.1 25 = .ok (.getfield 189, 3) := by decide +kernel
theorem d11_village_28 : decode m11_village.2.1 28 = .ok (.iload_n 2, 1) := by decide +kernel
theorem d11_village_29 : decode m11_village.2.1 29 = .ok (.iadd, 1) := by decide +kernel
theorem d11_village_30 : decode m11_village.2.1 30 = .ok (.iaload, 1) := by decide +kernel
theorem d11_village_31 : decode m11_village.2.1 31 = .ok (.ireturn, 1) := by decide +kernel
theorem d11_village_32 : decode m11_village.2.1 32 = .ok (.iload_n 2, 1) := by decide +kernel
theorem d11_village_33 : decode m11_village.2.1 33 = .ok (.bipush 10, 2) := by decide +kernel
theorem d11_village_35 : decode m11_village.2.1 35 = .ok (.irem, 1) := by decide +kernel
theorem d11_village_36 : decode m11_village.2.1 36 = .ok (.istore_n 3, 1) := by decide +kernel
theorem d11_village_37 : decode m11_village.2.1 37 = .ok (.iload_n 2, 1) := by decide +kernel
theorem d11_village_38 : decode m11_village.2.1 38 = .ok (.bipush 100, 2) := by decide +kernel
theorem d11_village_40 : decode m11_village.2.1 40 = .ok (.isub, 1) := by decide +kernel
theorem d11_village_41 : decode m11_village.2.1 41 = .ok (.bipush 10, 2) := by decide +kernel
theorem d11_village_43 : decode m11_village.2.1 43 = .ok (.idiv, 1) := by decide +kernel
theorem d11_village_44 : decode m11_village.2.1 44 = .ok (.istore 4, 2) := by decide +kernel
theorem d11_village_46 : decode m11_village.2.1 46 = .ok (.iload_n 2, 1) := by decide +kernel
theorem d11_village_47 : decode m11_village.2.1 47 = .ok (.bipush 100, 2) := by decide +kernel
theorem d11_village_49 : decode m11_village.2.1 49 = .ok (.if_icmp .lt 33, 3) := by decide +kernel
theorem d11_village_52 : decode m11_village.2.1 52 = .ok (.aload_n 0, 1) := by decide +kernel
theorem d11_village_53 : decode m11_village.2.1 53 = .ok (.iload 4, 2) := by decide +kernel
theorem d11_village_55 : decode m11_village.2.1 55 = .ok (.invokevirtual 204, 3) := by decide +kernel
theorem d11_village_58 : decode m11_village.2.1 58 = .ok (.ifCond .eq 21, 3) := by decide +kernel
theorem d11_village_61 : decode m11_village.2.1 61 = .ok (.aload_n 0, 1) := by decide +kernel
theorem d11_village_62 : decode m11_village.2.1 62 = .ok (.iload_n 3, 1) := by decide +kernel
theorem d11_village_63 : decode m11_village.2.1 63 = .ok (.invokevirtual 207, 3) := by decide +kernel
theorem d11_village_66 : decode m11_village.2.1 66 = .ok (.ifCond .eq 13, 3) := by decide +kernel
theorem d11_village_69 : decode m11_village.2.1 69 = .ok (.aload_n 0, 1) := by decide +kernel
theorem d11_village_70 : decode m11_village.2.1 70 = .ok (.iload 4, 2) := by decide +kernel
theorem d11_village_72 : decode m11_village.2.1 72 = .ok (.iload_n 3, 1) := by decide +kernel
theorem d11_village_73 : decode m11_village.2.1 73 = .ok (.invokevirtual 210, 3) := by decide +kernel
theorem d11_village_76 : decode m11_village.2.1 76 = .ok (.goto 5, 3) := by decide +kernel
theorem d11_village_79 : decode m11_village.2.1 79 = .ok (.bipush (-2), 2) := by decide +kernel
theorem d11_village_81 : decode m11_village.2.1 81 = .ok (.ireturn, 1) := by decide +kernel
theorem d11_village_82 : decode m11_village.2.1 82 = .ok (.iload_n 2, 1) := by decide +kernel
theorem d11_village_83 : decode m11_village.2.1 83 = .ok (.bipush 10, 2) := by decide +kernel
theorem d11_village_85 : decode m11_village.2.1 85 = .ok (.bipush 29, 2) := by decide +kernel
theorem d11_village_87 : decode m11_village.2.1 87 = .ok (.invokestatic 135, 3) := by decide +kernel
theorem d11_village_90 : decode m11_village.2.1 90 = .ok (.ifCond .eq 36, 3) := by decide +kernel
theorem d11_village_93 : decode m11_village.2.1 93 = .ok (.aload_n 0, 1) := by decide +kernel
theorem d11_village_94 : decode m11_village.2.1 94 = .ok (.iload_n 3, 1) := by decide +kernel
theorem d11_village_95 : decode m11_village.2.1 95 = .ok (.invokevirtual 207, 3) := by decide +kernel
theorem d11_village_98 : decode m11_village.2.1 98 = .ok (.ifCond .eq 25, 3) := by decide +kernel
theorem d11_village_101 : decode m11_village.2.1 101 = .ok (.iload_n 2, 1) := by decide +kernel
theorem d11_village_102 : decode m11_village.2.1 102 = .ok (.bipush 20, 2) := by decide +kernel
theorem d11_village_104 : decode m11_village.2.1 104 = .ok (.if_icmp .ge 11, 3) := by decide +kernel
theorem d11_village_107 : decode m11_village.2.1 107 = .ok (.aload_n 0, 1) := by decide +kernel
theorem d11_village_108 : decode m11_village.2.1 108 = .ok (.iload_n 3, 1) := by decide +kernel
theorem d11_village_109 : decode m11_village.2.1 109 = .ok (.invokevirtual 213, 3) := by decide +kernel
theorem d11_village_112 : decode m11_village.2.1 112 = .ok (.goto 13, 3) := by decide +kernel
theorem d11_village_115 : decode m11_village.2.1 115 = .ok (.aload_n 0, 1) := by decide +kernel
theorem d11_village_116 : decode m11_village.2.1 116 = .ok (.iload_n 3, 1) := by decide +kernel
theorem d11_village_117 : decode m11_village.2.1 117 = .ok (.invokevirtual 216, 3) := by decide +kernel
theorem d11_village_120 : decode m11_village.2.1 120 = .ok (.goto 5, 3) := by decide +kernel
theorem d11_village_123 : decode m11_village.2.1 123 = .ok (.bipush (-2), 2) := by decide +kernel
theorem d11_village_125 : decode m11_village.2.1 125 = .ok (.ireturn, 1) := by decide +kernel
theorem d11_village_126 : decode m11_village.2.1 126 = .ok (.iload_n 2, 1) := by decide +kernel
theorem d11_village_127 : decode m11_village.2.1 127 = .ok (.bipush 30, 2) := by decide +kernel
theorem d11_village_129 : decode m11_village.2.1 129 = .ok (.bipush 49, 2) := by decide +kernel
theorem d11_village_131 : decode m11_village.2.1 131 = .ok (.invokestatic 135, 3) := by decide +kernel
theorem d11_village_134 : decode m11_village.2.1 134 = .ok (.ifCond .eq 33, 3) := by decide +kernel
theorem d11_village_137 : decode m11_village.2.1 137 = .ok (.iload_n 3, 1) := by decide +kernel
theorem d11_village_138 : decode m11_village.2.1 138 = .ok (.aload_n 0, 1) := by decide +kernel
theorem d11_village_139 : decode m11_village.2.1 139 = .ok (.getfield 198, 3) := by decide +kernel
theorem d11_village_142 : decode m11_village.2.1 142 = .ok (.if_icmp .ge 25, 3) := by decide +kernel
theorem d11_village_145 : decode m11_village.2.1 145 = .ok (.iload_n 2, 1) := by decide +kernel
theorem d11_village_146 : decode m11_village.2.1 146 = .ok (.bipush 40, 2) := by decide +kernel
theorem d11_village_148 : decode m11_village.2.1 148 = .ok (.if_icmp .ge 11, 3) := by decide +kernel
theorem d11_village_151 : decode m11_village.2.1 151 = .ok (.aload_n 0, 1) := by decide +kernel
theorem d11_village_152 : decode m11_village.2.1 152 = .ok (.iload_n 3, 1) := by decide +kernel
theorem d11_village_153 : decode m11_village.2.1 153 = .ok (.invokevirtual 219, 3) := by decide +kernel
theorem d11_village_156 : decode m11_village.2.1 156 = .ok (.goto 13, 3) := by decide +kernel
theorem d11_village_159 : decode m11_village.2.1 159 = .ok (.aload_n 0, 1) := by decide +kernel
theorem d11_village_160 : decode m11_village.2.1 160 = .ok (.iload_n 3, 1) := by decide +kernel
theorem d11_village_161 : decode m11_village.2.1 161 = .ok (.invokevirtual 222, 3) := by decide +kernel
theorem d11_village_164 : decode m11_village.2.1 164 = .ok (.goto 5, 3) := by decide +kernel
theorem d11_village_167 : decode m11_village.2.1 167 = .ok (.bipush (-2), 2) := by decide +kernel
theorem d11_village_169 : decode m11_village.2.1 169 = .ok (.ireturn, 1) := by decide +kernel
def f11_village (x1 : Int) (x2 : Int) (h : AH) : Option (Int × AH) :=
  bnd (f11_isVillage x1 h) fun r1 h2 =>
  if ¬ w32 r1 = 0 then
    bnd (f11_isIn x2 0 3 h2) fun r5 h6 =>
    if w32 r5 = 0 then
      lt (rm32 x2 10) fun u9 =>
      lt (dv32 (x2 - 100) 10) fun u10 =>
      if w32 x2 < 100 then
        bnd (f11_isIn x2 10 29 h6) fun r11 h12 =>
        if w32 r11 = 0 then
          bnd (f11_isIn x2 30 49 h12) fun r15 h16 =>
          if w32 r15 = 0 then
            some ((-2), h16)
          else
            if w32 (h16.2 69 15) ≤ w32 u9 then
              some ((-2), h16)
            else
              if 40 ≤ w32 x2 then
                bnd (f11_cracksOf u9 h16) fun r19 h20 =>
                some (r19, h20)
              else
                bnd (f11_wantsOf u9 h16) fun r23 h24 =>
                some (r23, h24)
        else
          bnd (f11_isSubject u9 h12) fun r27 h28 =>
          if w32 r27 = 0 then
            some ((-2), h28)
          else
            if 20 ≤ w32 x2 then
              bnd (f11_fadesOf u9 h28) fun r31 h32 =>
              some (r31, h32)
            else
              bnd (f11_heatOf u9 h28) fun r35 h36 =>
              some (r35, h36)
      else
        bnd (f11_isPerson u10 h6) fun r39 h40 =>
        if w32 r39 = 0 then
          some ((-2), h40)
        else
          bnd (f11_isSubject u9 h40) fun r43 h44 =>
          if w32 r43 = 0 then
            some ((-2), h44)
          else
            bnd (f11_heldOf u10 u9 h44) fun r47 h48 =>
            some (r47, h48)
    else
      asrt (0 ≤ w32 ((h6.2 69 12) + x2) ∧ w32 ((h6.2 69 12) + x2) < 4824) <|
      some (h6.2 70 (w32 ((h6.2 69 12) + x2)).toNat, h6)
  else
    some ((-2), h2)
set_option maxRecDepth 100000 in
theorem c11_village (l : Launch) (G : Geo) (x1 : Int) (x2 : Int) (h : AH) : Con l G m11_village rvI 5 [vA G 69, vI x1, vI x2] h (f11_village x1 x2 h) := by
  have hd : 5 ≤ 5 := Nat.le_refl _
  refine con_I rfl (by decide) rfl rfl (Nat.le_of_ble_eq_true rfl) (L := [some (vA G 69), some (vI x1), some (vI x2), none, none]) ?_
  unfold f11_village
  refine den_aload_n (pc := 0) d11_village_0 rfl rfl ?_
  refine den_iload_n (pc := 1) d11_village_1 rfl rfl ?_
  refine den_callVI (pc := 2) (As := [vI x1]) fv_11_201 rfl rfl (ok_69 _) (Nat.le_of_ble_eq_true rfl) (Nat.le_trans (by decide) hd) d11_village_2 (c11_isVillage l G x1 h) (fun r1 h2 m3 o4 => ?_)
  refine den_if_ne (pc := 5) (tgt := 11) d11_village_5 (by decide) rfl (fun _ => ?_) (fun _ => ?_)
  · refine den_iload_n (pc := 11) d11_village_11 rfl rfl ?_
    refine den_iconst (pc := 12) d11_village_12 ?_
    refine den_iconst (pc := 13) d11_village_13 ?_
    refine den_callSI (pc := 14) (As := [vI x2, vI 0, vI 3]) fs_11_135 rfl rfl (Nat.le_of_ble_eq_true rfl) (Nat.le_trans (by decide) hd) d11_village_14 (c11_isIn l G x2 0 3 h2) (fun r5 h6 m7 o8 => ?_)
    refine den_if_eq (pc := 17) (tgt := 32) d11_village_17 (by decide) rfl (fun _ => ?_) (fun _ => ?_)
    · refine den_iload_n (pc := 32) d11_village_32 rfl rfl ?_
      refine den_bipush (pc := 33) d11_village_33 (by decide) ?_
      refine den_irem (pc := 35) d11_village_35 (by decide) ?_
      refine den_istore_nL (pc := 36) (L2 := fun y => [some (vA G 69), some (vI x1), some (vI x2), some (vI y), none]) d11_village_36 rfl (by decide) (fun _ => rfl) (fun u9 => ?_)
      refine den_iload_n (pc := 37) d11_village_37 rfl rfl ?_
      refine den_bipush (pc := 38) d11_village_38 (by decide) ?_
      refine den_isub (pc := 40) d11_village_40 ?_
      refine den_bipush (pc := 41) d11_village_41 (by decide) ?_
      refine den_idiv (pc := 43) d11_village_43 (by decide) ?_
      refine den_istoreL (pc := 44) (L2 := fun y => [some (vA G 69), some (vI x1), some (vI x2), some (vI u9), some (vI y)]) d11_village_44 (by decide) (fun _ => rfl) (fun u10 => ?_)
      refine den_iload_n (pc := 46) d11_village_46 rfl rfl ?_
      refine den_bipush (pc := 47) d11_village_47 (by decide) ?_
      refine den_icmp_lt (pc := 49) (tgt := 82) d11_village_49 (by decide) rfl (by decide) (fun _ => ?_) (fun _ => ?_)
      · refine den_iload_n (pc := 82) d11_village_82 rfl rfl ?_
        refine den_bipush (pc := 83) d11_village_83 (by decide) ?_
        refine den_bipush (pc := 85) d11_village_85 (by decide) ?_
        refine den_callSI (pc := 87) (As := [vI x2, vI 10, vI 29]) fs_11_135 rfl rfl (Nat.le_of_ble_eq_true rfl) (Nat.le_trans (by decide) hd) d11_village_87 (c11_isIn l G x2 10 29 h6) (fun r11 h12 m13 o14 => ?_)
        refine den_if_eq (pc := 90) (tgt := 126) d11_village_90 (by decide) rfl (fun _ => ?_) (fun _ => ?_)
        · refine den_iload_n (pc := 126) d11_village_126 rfl rfl ?_
          refine den_bipush (pc := 127) d11_village_127 (by decide) ?_
          refine den_bipush (pc := 129) d11_village_129 (by decide) ?_
          refine den_callSI (pc := 131) (As := [vI x2, vI 30, vI 49]) fs_11_135 rfl rfl (Nat.le_of_ble_eq_true rfl) (Nat.le_trans (by decide) hd) d11_village_131 (c11_isIn l G x2 30 49 h12) (fun r15 h16 m17 o18 => ?_)
          refine den_if_eq (pc := 134) (tgt := 167) d11_village_134 (by decide) rfl (fun _ => ?_) (fun _ => ?_)
          · refine den_bipush (pc := 167) d11_village_167 (by decide) ?_
            exact den_iret (pc := 169) rfl d11_village_169
          · refine den_iload_n (pc := 137) d11_village_137 rfl rfl ?_
            refine den_aload_n (pc := 138) d11_village_138 rfl rfl ?_
            refine den_getI (pc := 139) fa_11_198 (ok_69 _) d11_village_139 ?_
            refine den_icmp_ge (pc := 142) (tgt := 167) d11_village_142 (by decide) rfl rfl (fun _ => ?_) (fun _ => ?_)
            · refine den_bipush (pc := 167) d11_village_167 (by decide) ?_
              exact den_iret (pc := 169) rfl d11_village_169
            · refine den_iload_n (pc := 145) d11_village_145 rfl rfl ?_
              refine den_bipush (pc := 146) d11_village_146 (by decide) ?_
              refine den_icmp_ge (pc := 148) (tgt := 159) d11_village_148 (by decide) rfl (by decide) (fun _ => ?_) (fun _ => ?_)
              · refine den_aload_n (pc := 159) d11_village_159 rfl rfl ?_
                refine den_iload_n (pc := 160) d11_village_160 rfl rfl ?_
                refine den_callVI (pc := 161) (As := [vI u9]) fv_11_222 rfl rfl (ok_69 _) (Nat.le_of_ble_eq_true rfl) (Nat.le_trans (by decide) hd) d11_village_161 (c11_cracksOf l G u9 h16) (fun r19 h20 m21 o22 => ?_)
                refine den_goto (pc := 164) (tgt := 169) d11_village_164 (by decide) ?_
                exact den_iret (pc := 169) rfl d11_village_169
              · refine den_aload_n (pc := 151) d11_village_151 rfl rfl ?_
                refine den_iload_n (pc := 152) d11_village_152 rfl rfl ?_
                refine den_callVI (pc := 153) (As := [vI u9]) fv_11_219 rfl rfl (ok_69 _) (Nat.le_of_ble_eq_true rfl) (Nat.le_trans (by decide) hd) d11_village_153 (c11_wantsOf l G u9 h16) (fun r23 h24 m25 o26 => ?_)
                refine den_goto (pc := 156) (tgt := 169) d11_village_156 (by decide) ?_
                exact den_iret (pc := 169) rfl d11_village_169
        · refine den_aload_n (pc := 93) d11_village_93 rfl rfl ?_
          refine den_iload_n (pc := 94) d11_village_94 rfl rfl ?_
          refine den_callVI (pc := 95) (As := [vI u9]) fv_11_207 rfl rfl (ok_69 _) (Nat.le_of_ble_eq_true rfl) (Nat.le_trans (by decide) hd) d11_village_95 (c11_isSubject l G u9 h12) (fun r27 h28 m29 o30 => ?_)
          refine den_if_eq (pc := 98) (tgt := 123) d11_village_98 (by decide) rfl (fun _ => ?_) (fun _ => ?_)
          · refine den_bipush (pc := 123) d11_village_123 (by decide) ?_
            exact den_iret (pc := 125) rfl d11_village_125
          · refine den_iload_n (pc := 101) d11_village_101 rfl rfl ?_
            refine den_bipush (pc := 102) d11_village_102 (by decide) ?_
            refine den_icmp_ge (pc := 104) (tgt := 115) d11_village_104 (by decide) rfl (by decide) (fun _ => ?_) (fun _ => ?_)
            · refine den_aload_n (pc := 115) d11_village_115 rfl rfl ?_
              refine den_iload_n (pc := 116) d11_village_116 rfl rfl ?_
              refine den_callVI (pc := 117) (As := [vI u9]) fv_11_216 rfl rfl (ok_69 _) (Nat.le_of_ble_eq_true rfl) (Nat.le_trans (by decide) hd) d11_village_117 (c11_fadesOf l G u9 h28) (fun r31 h32 m33 o34 => ?_)
              refine den_goto (pc := 120) (tgt := 125) d11_village_120 (by decide) ?_
              exact den_iret (pc := 125) rfl d11_village_125
            · refine den_aload_n (pc := 107) d11_village_107 rfl rfl ?_
              refine den_iload_n (pc := 108) d11_village_108 rfl rfl ?_
              refine den_callVI (pc := 109) (As := [vI u9]) fv_11_213 rfl rfl (ok_69 _) (Nat.le_of_ble_eq_true rfl) (Nat.le_trans (by decide) hd) d11_village_109 (c11_heatOf l G u9 h28) (fun r35 h36 m37 o38 => ?_)
              refine den_goto (pc := 112) (tgt := 125) d11_village_112 (by decide) ?_
              exact den_iret (pc := 125) rfl d11_village_125
      · refine den_aload_n (pc := 52) d11_village_52 rfl rfl ?_
        refine den_iload (pc := 53) d11_village_53 rfl ?_
        refine den_callVI (pc := 55) (As := [vI u10]) fv_11_204 rfl rfl (ok_69 _) (Nat.le_of_ble_eq_true rfl) (Nat.le_trans (by decide) hd) d11_village_55 (c11_isPerson l G u10 h6) (fun r39 h40 m41 o42 => ?_)
        refine den_if_eq (pc := 58) (tgt := 79) d11_village_58 (by decide) rfl (fun _ => ?_) (fun _ => ?_)
        · refine den_bipush (pc := 79) d11_village_79 (by decide) ?_
          exact den_iret (pc := 81) rfl d11_village_81
        · refine den_aload_n (pc := 61) d11_village_61 rfl rfl ?_
          refine den_iload_n (pc := 62) d11_village_62 rfl rfl ?_
          refine den_callVI (pc := 63) (As := [vI u9]) fv_11_207 rfl rfl (ok_69 _) (Nat.le_of_ble_eq_true rfl) (Nat.le_trans (by decide) hd) d11_village_63 (c11_isSubject l G u9 h40) (fun r43 h44 m45 o46 => ?_)
          refine den_if_eq (pc := 66) (tgt := 79) d11_village_66 (by decide) rfl (fun _ => ?_) (fun _ => ?_)
          · refine den_bipush (pc := 79) d11_village_79 (by decide) ?_
            exact den_iret (pc := 81) rfl d11_village_81
          · refine den_aload_n (pc := 69) d11_village_69 rfl rfl ?_
            refine den_iload (pc := 70) d11_village_70 rfl ?_
            refine den_iload_n (pc := 72) d11_village_72 rfl rfl ?_
            refine den_callVI (pc := 73) (As := [vI u10, vI u9]) fv_11_210 rfl rfl (ok_69 _) (Nat.le_of_ble_eq_true rfl) (Nat.le_trans (by decide) hd) d11_village_73 (c11_heldOf l G u10 u9 h44) (fun r47 h48 m49 o50 => ?_)
            refine den_goto (pc := 76) (tgt := 81) d11_village_76 (by decide) ?_
            exact den_iret (pc := 81) rfl d11_village_81
    · refine den_aload_n (pc := 20) d11_village_20 rfl rfl ?_
      refine den_getR (pc := 21) (b := 70) fa_11_7 (ok_69 _) rfl d11_village_21 ?_
      refine den_aload_n (pc := 24) d11_village_24 rfl rfl ?_
      refine den_getI (pc := 25) fa_11_189 (ok_69 _) d11_village_25 ?_
      refine den_iload_n (pc := 28) d11_village_28 rfl rfl ?_
      refine den_iadd (pc := 29) d11_village_29 ?_
      refine den_asrt (fun a51 => ?_)
      refine den_iaload (pc := 30) sh_70 (sz_lt (by decide)) rfl a51 d11_village_30 ?_
      exact den_iret (pc := 31) rfl d11_village_31
  · refine den_bipush (pc := 8) d11_village_8 (by decide) ?_
    exact den_iret (pc := 10) rfl d11_village_10
theorem d11_off_0 : decode m11_off.2.1 0 = .ok (.iload_n 0, 1) := by decide +kernel
theorem d11_off_1 : decode m11_off.2.1 1 = .ok (.iload_n 1, 1) := by decide +kernel
theorem d11_off_2 : decode m11_off.2.1 2 = .ok (.if_icmp .le 9, 3) := by decide +kernel
theorem d11_off_5 : decode m11_off.2.1 5 = .ok (.iload_n 0, 1) := by decide +kernel
theorem d11_off_6 : decode m11_off.2.1 6 = .ok (.iload_n 1, 1) := by decide +kernel
theorem d11_off_7 : decode m11_off.2.1 7 = .ok (.isub, 1) := by decide +kernel
theorem d11_off_8 : decode m11_off.2.1 8 = .ok (.goto 6, 3) := by decide +kernel
theorem d11_off_11 : decode m11_off.2.1 11 = .ok (.iload_n 1, 1) := by decide +kernel
theorem d11_off_12 : decode m11_off.2.1 12 = .ok (.iload_n 0, 1) := by decide +kernel
theorem d11_off_13 : decode m11_off.2.1 13 = .ok (.isub, 1) := by decide +kernel
theorem d11_off_14 : decode m11_off.2.1 14 = .ok (.ireturn, 1) := by decide +kernel
def f11_off (x0 : Int) (x1 : Int) (h : AH) : Option (Int × AH) :=
  if w32 x0 ≤ w32 x1 then
    some (x1 - x0, h)
  else
    some (x0 - x1, h)
set_option maxRecDepth 100000 in
theorem c11_off (l : Launch) (G : Geo) (x0 : Int) (x1 : Int) (h : AH) : Con l G m11_off rvI 2 [vI x0, vI x1] h (f11_off x0 x1 h) := by
  have hd : 2 ≤ 2 := Nat.le_refl _
  refine con_I rfl (by decide) rfl rfl (Nat.le_of_ble_eq_true rfl) (L := [some (vI x0), some (vI x1)]) ?_
  unfold f11_off
  refine den_iload_n (pc := 0) d11_off_0 rfl rfl ?_
  refine den_iload_n (pc := 1) d11_off_1 rfl rfl ?_
  refine den_icmp_le (pc := 2) (tgt := 11) d11_off_2 (by decide) rfl rfl (fun _ => ?_) (fun _ => ?_)
  · refine den_iload_n (pc := 11) d11_off_11 rfl rfl ?_
    refine den_iload_n (pc := 12) d11_off_12 rfl rfl ?_
    refine den_isub (pc := 13) d11_off_13 ?_
    exact den_iret (pc := 14) rfl d11_off_14
  · refine den_iload_n (pc := 5) d11_off_5 rfl rfl ?_
    refine den_iload_n (pc := 6) d11_off_6 rfl rfl ?_
    refine den_isub (pc := 7) d11_off_7 ?_
    refine den_goto (pc := 8) (tgt := 14) d11_off_8 (by decide) ?_
    exact den_iret (pc := 14) rfl d11_off_14
theorem d11_apartOf_0 : decode m11_apartOf.2.1 0 = .ok (.aload_n 0, 1) := by decide +kernel
theorem d11_apartOf_1 : decode m11_apartOf.2.1 1 = .ok (.iload_n 1, 1) := by decide +kernel
theorem d11_apartOf_2 : decode m11_apartOf.2.1 2 = .ok (.iload_n 3, 1) := by decide +kernel
theorem d11_apartOf_3 : decode m11_apartOf.2.1 3 = .ok (.invokevirtual 210, 3) := by decide +kernel
theorem d11_apartOf_6 : decode m11_apartOf.2.1 6 = .ok (.iconst (-1), 1) := by decide +kernel
theorem d11_apartOf_7 : decode m11_apartOf.2.1 7 = .ok (.if_icmp .eq 13, 3) := by decide +kernel
theorem d11_apartOf_10 : decode m11_apartOf.2.1 10 = .ok (.aload_n 0, 1) := by decide +kernel
theorem d11_apartOf_11 : decode m11_apartOf.2.1 11 = .ok (.iload_n 2, 1) := by decide +kernel
theorem d11_apartOf_12 : decode m11_apartOf.2.1 12 = .ok (.iload_n 3, 1) := by decide +kernel
theorem d11_apartOf_13 : decode m11_apartOf.2.1 13 = .ok (.invokevirtual 210, 3) := by decide +kernel
theorem d11_apartOf_16 : decode m11_apartOf.2.1 16 = .ok (.iconst (-1), 1) := by decide +kernel
theorem d11_apartOf_17 : decode m11_apartOf.2.1 17 = .ok (.if_icmp .ne 7, 3) := by decide +kernel
theorem d11_apartOf_20 : decode m11_apartOf.2.1 20 = .ok (.iconst (-1), 1) := by decide +kernel
theorem d11_apartOf_21 : decode m11_apartOf.2.1 21 = .ok (.goto 18, 3) := by decide +kernel
theorem d11_apartOf_24 : decode m11_apartOf.2.1 24 = .ok (.aload_n 0, 1) := by decide +kernel
theorem d11_apartOf_25 : decode m11_apartOf.2.1 25 = .ok (.iload_n 1, 1) := by decide +kernel
theorem d11_apartOf_26 : decode m11_apartOf.2.1 26 = .ok (.iload_n 3, 1) := by decide +kernel
theorem d11_apartOf_27 : decode m11_apartOf.2.1 27 = .ok (.invokevirtual 210, 3) := by decide +kernel
theorem d11_apartOf_30 : decode m11_apartOf.2.1 30 = .ok (.aload_n 0, 1) := by decide +kernel
theorem d11_apartOf_31 : decode m11_apartOf.2.1 31 = .ok (.iload_n 2, 1) := by decide +kernel
theorem d11_apartOf_32 : decode m11_apartOf.2.1 32 = .ok (.iload_n 3, 1) := by decide +kernel
theorem d11_apartOf_33 : decode m11_apartOf.2.1 33 = .ok (.invokevirtual 210, 3) := by decide +kernel
theorem d11_apartOf_36 : decode m11_apartOf.2.1 36 = .ok (.invokestatic 225, 3) := by decide +kernel
theorem d11_apartOf_39 : decode m11_apartOf.2.1 39 = .ok (.ireturn, 1) := by decide +kernel
def f11_apartOf (x1 : Int) (x2 : Int) (x3 : Int) (h : AH) : Option (Int × AH) :=
  bnd (f11_heldOf x1 x3 h) fun r1 h2 =>
  if w32 r1 = (-1) then
    some ((-1), h2)
  else
    bnd (f11_heldOf x2 x3 h2) fun r5 h6 =>
    if ¬ w32 r5 = (-1) then
      bnd (f11_heldOf x1 x3 h6) fun r9 h10 =>
      bnd (f11_heldOf x2 x3 h10) fun r13 h14 =>
      bnd (f11_off r9 r13 h14) fun r17 h18 =>
      some (r17, h18)
    else
      some ((-1), h6)
set_option maxRecDepth 100000 in
theorem c11_apartOf (l : Launch) (G : Geo) (x1 : Int) (x2 : Int) (x3 : Int) (h : AH) : Con l G m11_apartOf rvI 3 [vA G 69, vI x1, vI x2, vI x3] h (f11_apartOf x1 x2 x3 h) := by
  have hd : 3 ≤ 3 := Nat.le_refl _
  refine con_I rfl (by decide) rfl rfl (Nat.le_of_ble_eq_true rfl) (L := [some (vA G 69), some (vI x1), some (vI x2), some (vI x3)]) ?_
  unfold f11_apartOf
  refine den_aload_n (pc := 0) d11_apartOf_0 rfl rfl ?_
  refine den_iload_n (pc := 1) d11_apartOf_1 rfl rfl ?_
  refine den_iload_n (pc := 2) d11_apartOf_2 rfl rfl ?_
  refine den_callVI (pc := 3) (As := [vI x1, vI x3]) fv_11_210 rfl rfl (ok_69 _) (Nat.le_of_ble_eq_true rfl) (Nat.le_trans (by decide) hd) d11_apartOf_3 (c11_heldOf l G x1 x3 h) (fun r1 h2 m3 o4 => ?_)
  refine den_iconst (pc := 6) d11_apartOf_6 ?_
  refine den_icmp_eq (pc := 7) (tgt := 20) d11_apartOf_7 (by decide) rfl (by decide) (fun _ => ?_) (fun _ => ?_)
  · refine den_iconst (pc := 20) d11_apartOf_20 ?_
    refine den_goto (pc := 21) (tgt := 39) d11_apartOf_21 (by decide) ?_
    exact den_iret (pc := 39) rfl d11_apartOf_39
  · refine den_aload_n (pc := 10) d11_apartOf_10 rfl rfl ?_
    refine den_iload_n (pc := 11) d11_apartOf_11 rfl rfl ?_
    refine den_iload_n (pc := 12) d11_apartOf_12 rfl rfl ?_
    refine den_callVI (pc := 13) (As := [vI x2, vI x3]) fv_11_210 rfl rfl (ok_69 _) (Nat.le_of_ble_eq_true rfl) (Nat.le_trans (by decide) hd) d11_apartOf_13 (c11_heldOf l G x2 x3 h2) (fun r5 h6 m7 o8 => ?_)
    refine den_iconst (pc := 16) d11_apartOf_16 ?_
    refine den_icmp_ne (pc := 17) (tgt := 24) d11_apartOf_17 (by decide) rfl (by decide) (fun _ => ?_) (fun _ => ?_)
    · refine den_aload_n (pc := 24) d11_apartOf_24 rfl rfl ?_
      refine den_iload_n (pc := 25) d11_apartOf_25 rfl rfl ?_
      refine den_iload_n (pc := 26) d11_apartOf_26 rfl rfl ?_
      refine den_callVI (pc := 27) (As := [vI x1, vI x3]) fv_11_210 rfl rfl (ok_69 _) (Nat.le_of_ble_eq_true rfl) (Nat.le_trans (by decide) hd) d11_apartOf_27 (c11_heldOf l G x1 x3 h6) (fun r9 h10 m11 o12 => ?_)
      refine den_aload_n (pc := 30) d11_apartOf_30 rfl rfl ?_
      refine den_iload_n (pc := 31) d11_apartOf_31 rfl rfl ?_
      refine den_iload_n (pc := 32) d11_apartOf_32 rfl rfl ?_
      refine den_callVI (pc := 33) (As := [vI x2, vI x3]) fv_11_210 rfl rfl (ok_69 _) (Nat.le_of_ble_eq_true rfl) (Nat.le_trans (by decide) hd) d11_apartOf_33 (c11_heldOf l G x2 x3 h10) (fun r13 h14 m15 o16 => ?_)
      refine den_callSI (pc := 36) (As := [vI r9, vI r13]) fs_11_225 rfl rfl (Nat.le_of_ble_eq_true rfl) (Nat.le_trans (by decide) hd) d11_apartOf_36 (c11_off l G r9 r13 h14) (fun r17 h18 m19 o20 => ?_)
      exact den_iret (pc := 39) rfl d11_apartOf_39
    · refine den_iconst (pc := 20) d11_apartOf_20 ?_
      refine den_goto (pc := 21) (tgt := 39) d11_apartOf_21 (by decide) ?_
      exact den_iret (pc := 39) rfl d11_apartOf_39
theorem d11_isTwo_0 : decode m11_isTwo.2.1 0 = .ok (.aload_n 0, 1) := by decide +kernel
theorem d11_isTwo_1 : decode m11_isTwo.2.1 1 = .ok (.iload_n 1, 1) := by decide +kernel
theorem d11_isTwo_2 : decode m11_isTwo.2.1 2 = .ok (.invokevirtual 204, 3) := by decide +kernel
theorem d11_isTwo_5 : decode m11_isTwo.2.1 5 = .ok (.ifCond .eq 20, 3) := by decide +kernel
theorem d11_isTwo_8 : decode m11_isTwo.2.1 8 = .ok (.aload_n 0, 1) := by decide +kernel
theorem d11_isTwo_9 : decode m11_isTwo.2.1 9 = .ok (.iload_n 2, 1) := by decide +kernel
theorem d11_isTwo_10 : decode m11_isTwo.2.1 10 = .ok (.invokevirtual 204, 3) := by decide +kernel
theorem d11_isTwo_13 : decode m11_isTwo.2.1 13 = .ok (.ifCond .eq 12, 3) := by decide +kernel
theorem d11_isTwo_16 : decode m11_isTwo.2.1 16 = .ok (.iload_n 1, 1) := by decide +kernel
theorem d11_isTwo_17 : decode m11_isTwo.2.1 17 = .ok (.iload_n 2, 1) := by decide +kernel
theorem d11_isTwo_18 : decode m11_isTwo.2.1 18 = .ok (.if_icmp .eq 7, 3) := by decide +kernel
theorem d11_isTwo_21 : decode m11_isTwo.2.1 21 = .ok (.iconst 1, 1) := by decide +kernel
theorem d11_isTwo_22 : decode m11_isTwo.2.1 22 = .ok (.goto 4, 3) := by decide +kernel
theorem d11_isTwo_25 : decode m11_isTwo.2.1 25 = .ok (.iconst 0, 1) := by decide +kernel
theorem d11_isTwo_26 : decode m11_isTwo.2.1 26 = .ok (.ireturn, 1) := by decide +kernel
def f11_isTwo (x1 : Int) (x2 : Int) (h : AH) : Option (Int × AH) :=
  bnd (f11_isPerson x1 h) fun r1 h2 =>
  if w32 r1 = 0 then
    some (0, h2)
  else
    bnd (f11_isPerson x2 h2) fun r5 h6 =>
    if w32 r5 = 0 then
      some (0, h6)
    else
      if w32 x1 = w32 x2 then
        some (0, h6)
      else
        some (1, h6)
set_option maxRecDepth 100000 in
theorem c11_isTwo (l : Launch) (G : Geo) (x1 : Int) (x2 : Int) (h : AH) : Con l G m11_isTwo rvI 4 [vA G 69, vI x1, vI x2] h (f11_isTwo x1 x2 h) := by
  have hd : 4 ≤ 4 := Nat.le_refl _
  refine con_Z rfl (by decide) rfl rfl (Nat.le_of_ble_eq_true rfl) (L := [some (vA G 69), some (vI x1), some (vI x2)]) ?_
  unfold f11_isTwo
  refine den_aload_n (pc := 0) d11_isTwo_0 rfl rfl ?_
  refine den_iload_n (pc := 1) d11_isTwo_1 rfl rfl ?_
  refine den_callVI (pc := 2) (As := [vI x1]) fv_11_204 rfl rfl (ok_69 _) (Nat.le_of_ble_eq_true rfl) (Nat.le_trans (by decide) hd) d11_isTwo_2 (c11_isPerson l G x1 h) (fun r1 h2 m3 o4 => ?_)
  refine den_if_eq (pc := 5) (tgt := 25) d11_isTwo_5 (by decide) rfl (fun _ => ?_) (fun _ => ?_)
  · refine den_iconst (pc := 25) d11_isTwo_25 ?_
    exact den_zret (pc := 26) rfl (by decide) d11_isTwo_26
  · refine den_aload_n (pc := 8) d11_isTwo_8 rfl rfl ?_
    refine den_iload_n (pc := 9) d11_isTwo_9 rfl rfl ?_
    refine den_callVI (pc := 10) (As := [vI x2]) fv_11_204 rfl rfl (ok_69 _) (Nat.le_of_ble_eq_true rfl) (Nat.le_trans (by decide) hd) d11_isTwo_10 (c11_isPerson l G x2 h2) (fun r5 h6 m7 o8 => ?_)
    refine den_if_eq (pc := 13) (tgt := 25) d11_isTwo_13 (by decide) rfl (fun _ => ?_) (fun _ => ?_)
    · refine den_iconst (pc := 25) d11_isTwo_25 ?_
      exact den_zret (pc := 26) rfl (by decide) d11_isTwo_26
    · refine den_iload_n (pc := 16) d11_isTwo_16 rfl rfl ?_
      refine den_iload_n (pc := 17) d11_isTwo_17 rfl rfl ?_
      refine den_icmp_eq (pc := 18) (tgt := 25) d11_isTwo_18 (by decide) rfl rfl (fun _ => ?_) (fun _ => ?_)
      · refine den_iconst (pc := 25) d11_isTwo_25 ?_
        exact den_zret (pc := 26) rfl (by decide) d11_isTwo_26
      · refine den_iconst (pc := 21) d11_isTwo_21 ?_
        refine den_goto (pc := 22) (tgt := 26) d11_isTwo_22 (by decide) ?_
        exact den_zret (pc := 26) rfl (by decide) d11_isTwo_26
theorem d11_apart_0 : decode m11_apart.2.1 0 = .ok (.aload_n 0, 1) := by decide +kernel
theorem d11_apart_1 : decode m11_apart.2.1 1 = .ok (.iload_n 1, 1) := by decide +kernel
theorem d11_apart_2 : decode m11_apart.2.1 2 = .ok (.invokevirtual 201, 3) := by decide +kernel
theorem d11_apart_5 : decode m11_apart.2.1 5 = .ok (.ifCond .eq 33, 3) := by decide +kernel
theorem d11_apart_8 : decode m11_apart.2.1 8 = .ok (.aload_n 0, 1) := by decide +kernel
theorem d11_apart_9 : decode m11_apart.2.1 9 = .ok (.iload_n 2, 1) := by decide +kernel
theorem d11_apart_10 : decode m11_apart.2.1 10 = .ok (.iload_n 3, 1) := by decide +kernel
theorem d11_apart_11 : decode m11_apart.2.1 11 = .ok (.invokevirtual 228, 3) := by decide +kernel
theorem d11_apart_14 : decode m11_apart.2.1 14 = .ok (.ifCond .eq 24, 3) := by decide +kernel
theorem d11_apart_17 : decode m11_apart.2.1 17 = .ok (.aload_n 0, 1) := by decide +kernel
theorem d11_apart_18 : decode m11_apart.2.1 18 = .ok (.iload 4, 2) := by decide +kernel
theorem d11_apart_20 : decode m11_apart.2.1 20 = .ok (.invokevirtual 207, 3) := by decide +kernel
theorem d11_apart_23 : decode m11_apart.2.1 23 = .ok (.ifCond .eq 15, 3) := by decide +kernel
theorem d11_apart_26 : decode m11_apart.2.1 26 = .ok (.aload_n 0, 1) := by decide +kernel
theorem d11_apart_27 : decode m11_apart.2.1 27 = .ok (.iload_n 2, 1) := by decide +kernel
theorem d11_apart_28 : decode m11_apart.2.1 28 = .ok (.iload_n 3, 1) := by decide +kernel
theorem d11_apart_29 : decode m11_apart.2.1 29 = .ok (.iload 4, 2) := by decide +kernel
theorem d11_apart_31 : decode m11_apart.2.1 31 = .ok (.invokevirtual 231, 3) := by decide +kernel
theorem d11_apart_34 : decode m11_apart.2.1 34 = .ok (.iconst (-1), 1) := by decide +kernel
theorem d11_apart_35 : decode m11_apart.2.1 35 = .ok (.if_icmp .ne 5, 3) := by decide +kernel
theorem d11_apart_38 : decode m11_apart.2.1 38 = .ok (.iconst (-1), 1) := by decide +kernel
theorem d11_apart_39 : decode m11_apart.2.1 39 = .ok (.ireturn, 1) := by decide +kernel
theorem d11_apart_40 : decode m11_apart.2.1 40 = .ok (.aload_n 0, 1) := by decide +kernel
theorem d11_apart_41 : decode m11_apart.2.1 41 = .ok (.iload_n 2, 1) := by decide +kernel
theorem d11_apart_42 : decode m11_apart.2.1 42 = .ok (.iload_n 3, 1) := by decide +kernel
theorem d11_apart_43 : decode m11_apart.2.1 43 = .ok (.iload 4, 2) := by decide +kernel
theorem d11_apart_45 : decode m11_apart.2.1 45 = .ok (.invokevirtual 231, 3) := by decide +kernel
theorem d11_apart_48 : decode m11_apart.2.1 48 = .ok (.iload 5, 2) := by decide +kernel
theorem d11_apart_50 : decode m11_apart.2.1 50 = .ok (.ifCond .eq 12, 3) := by decide +kernel
theorem d11_apart_53 : decode m11_apart.2.1 53 = .ok (.aload_n 0, 1) := by decide +kernel
theorem d11_apart_54 : decode m11_apart.2.1 54 = .ok (.iload 4, 2) := by decide +kernel
theorem d11_apart_56 : decode m11_apart.2.1 56 = .ok (.invokevirtual 213, 3) := by decide +kernel
theorem d11_apart_59 : decode m11_apart.2.1 59 = .ok (.goto 4, 3) := by decide +kernel
theorem d11_apart_62 : decode m11_apart.2.1 62 = .ok (.iconst 1, 1) := by decide +kernel
theorem d11_apart_63 : decode m11_apart.2.1 63 = .ok (.imul, 1) := by decide +kernel
theorem d11_apart_64 : decode m11_apart.2.1 64 = .ok (.ireturn, 1) := by decide +kernel
def f11_apart (x1 : Int) (x2 : Int) (x3 : Int) (x4 : Int) (x5 : Int) (h : AH) : Option (Int × AH) :=
  bnd (f11_isVillage x1 h) fun r1 h2 =>
  if w32 r1 = 0 then
    some ((-1), h2)
  else
    bnd (f11_isTwo x2 x3 h2) fun r5 h6 =>
    if w32 r5 = 0 then
      some ((-1), h6)
    else
      bnd (f11_isSubject x4 h6) fun r9 h10 =>
      if w32 r9 = 0 then
        some ((-1), h10)
      else
        bnd (f11_apartOf x2 x3 x4 h10) fun r13 h14 =>
        if ¬ w32 r13 = (-1) then
          bnd (f11_apartOf x2 x3 x4 h14) fun r17 h18 =>
          if w32 x5 = 0 then
            some (r17 * 1, h18)
          else
            bnd (f11_heatOf x4 h18) fun r21 h22 =>
            some (r17 * r21, h22)
        else
          some ((-1), h14)
set_option maxRecDepth 100000 in
theorem c11_apart (l : Launch) (G : Geo) (x1 : Int) (x2 : Int) (x3 : Int) (x4 : Int) (x5 : Int) (h : AH) : Con l G m11_apart rvI 5 [vA G 69, vI x1, vI x2, vI x3, vI x4, vI x5] h (f11_apart x1 x2 x3 x4 x5 h) := by
  have hd : 5 ≤ 5 := Nat.le_refl _
  refine con_I rfl (by decide) rfl rfl (Nat.le_of_ble_eq_true rfl) (L := [some (vA G 69), some (vI x1), some (vI x2), some (vI x3), some (vI x4), some (vI x5)]) ?_
  unfold f11_apart
  refine den_aload_n (pc := 0) d11_apart_0 rfl rfl ?_
  refine den_iload_n (pc := 1) d11_apart_1 rfl rfl ?_
  refine den_callVI (pc := 2) (As := [vI x1]) fv_11_201 rfl rfl (ok_69 _) (Nat.le_of_ble_eq_true rfl) (Nat.le_trans (by decide) hd) d11_apart_2 (c11_isVillage l G x1 h) (fun r1 h2 m3 o4 => ?_)
  refine den_if_eq (pc := 5) (tgt := 38) d11_apart_5 (by decide) rfl (fun _ => ?_) (fun _ => ?_)
  · refine den_iconst (pc := 38) d11_apart_38 ?_
    exact den_iret (pc := 39) rfl d11_apart_39
  · refine den_aload_n (pc := 8) d11_apart_8 rfl rfl ?_
    refine den_iload_n (pc := 9) d11_apart_9 rfl rfl ?_
    refine den_iload_n (pc := 10) d11_apart_10 rfl rfl ?_
    refine den_callVI (pc := 11) (As := [vI x2, vI x3]) fv_11_228 rfl rfl (ok_69 _) (Nat.le_of_ble_eq_true rfl) (Nat.le_trans (by decide) hd) d11_apart_11 (c11_isTwo l G x2 x3 h2) (fun r5 h6 m7 o8 => ?_)
    refine den_if_eq (pc := 14) (tgt := 38) d11_apart_14 (by decide) rfl (fun _ => ?_) (fun _ => ?_)
    · refine den_iconst (pc := 38) d11_apart_38 ?_
      exact den_iret (pc := 39) rfl d11_apart_39
    · refine den_aload_n (pc := 17) d11_apart_17 rfl rfl ?_
      refine den_iload (pc := 18) d11_apart_18 rfl ?_
      refine den_callVI (pc := 20) (As := [vI x4]) fv_11_207 rfl rfl (ok_69 _) (Nat.le_of_ble_eq_true rfl) (Nat.le_trans (by decide) hd) d11_apart_20 (c11_isSubject l G x4 h6) (fun r9 h10 m11 o12 => ?_)
      refine den_if_eq (pc := 23) (tgt := 38) d11_apart_23 (by decide) rfl (fun _ => ?_) (fun _ => ?_)
      · refine den_iconst (pc := 38) d11_apart_38 ?_
        exact den_iret (pc := 39) rfl d11_apart_39
      · refine den_aload_n (pc := 26) d11_apart_26 rfl rfl ?_
        refine den_iload_n (pc := 27) d11_apart_27 rfl rfl ?_
        refine den_iload_n (pc := 28) d11_apart_28 rfl rfl ?_
        refine den_iload (pc := 29) d11_apart_29 rfl ?_
        refine den_callVI (pc := 31) (As := [vI x2, vI x3, vI x4]) fv_11_231 rfl rfl (ok_69 _) (Nat.le_of_ble_eq_true rfl) (Nat.le_trans (by decide) hd) d11_apart_31 (c11_apartOf l G x2 x3 x4 h10) (fun r13 h14 m15 o16 => ?_)
        refine den_iconst (pc := 34) d11_apart_34 ?_
        refine den_icmp_ne (pc := 35) (tgt := 40) d11_apart_35 (by decide) rfl (by decide) (fun _ => ?_) (fun _ => ?_)
        · refine den_aload_n (pc := 40) d11_apart_40 rfl rfl ?_
          refine den_iload_n (pc := 41) d11_apart_41 rfl rfl ?_
          refine den_iload_n (pc := 42) d11_apart_42 rfl rfl ?_
          refine den_iload (pc := 43) d11_apart_43 rfl ?_
          refine den_callVI (pc := 45) (As := [vI x2, vI x3, vI x4]) fv_11_231 rfl rfl (ok_69 _) (Nat.le_of_ble_eq_true rfl) (Nat.le_trans (by decide) hd) d11_apart_45 (c11_apartOf l G x2 x3 x4 h14) (fun r17 h18 m19 o20 => ?_)
          refine den_iload (pc := 48) d11_apart_48 rfl ?_
          refine den_if_eq (pc := 50) (tgt := 62) d11_apart_50 (by decide) rfl (fun _ => ?_) (fun _ => ?_)
          · refine den_iconst (pc := 62) d11_apart_62 ?_
            refine den_imul (pc := 63) d11_apart_63 ?_
            exact den_iret (pc := 64) rfl d11_apart_64
          · refine den_aload_n (pc := 53) d11_apart_53 rfl rfl ?_
            refine den_iload (pc := 54) d11_apart_54 rfl ?_
            refine den_callVI (pc := 56) (As := [vI x4]) fv_11_213 rfl rfl (ok_69 _) (Nat.le_of_ble_eq_true rfl) (Nat.le_trans (by decide) hd) d11_apart_56 (c11_heatOf l G x4 h18) (fun r21 h22 m23 o24 => ?_)
            refine den_goto (pc := 59) (tgt := 63) d11_apart_59 (by decide) ?_
            refine den_imul (pc := 63) d11_apart_63 ?_
            exact den_iret (pc := 64) rfl d11_apart_64
        · refine den_iconst (pc := 38) d11_apart_38 ?_
          exact den_iret (pc := 39) rfl d11_apart_39
theorem d11_burnsOf_0 : decode m11_burnsOf.2.1 0 = .ok (.aload_n 0, 1) := by decide +kernel
theorem d11_burnsOf_1 : decode m11_burnsOf.2.1 1 = .ok (.iload_n 1, 1) := by decide +kernel
theorem d11_burnsOf_2 : decode m11_burnsOf.2.1 2 = .ok (.iload_n 2, 1) := by decide +kernel
theorem d11_burnsOf_3 : decode m11_burnsOf.2.1 3 = .ok (.iload_n 3, 1) := by decide +kernel
theorem d11_burnsOf_4 : decode m11_burnsOf.2.1 4 = .ok (.invokevirtual 231, 3) := by decide +kernel
theorem d11_burnsOf_7 : decode m11_burnsOf.2.1 7 = .ok (.iconst (-1), 1) := by decide +kernel
theorem d11_burnsOf_8 : decode m11_burnsOf.2.1 8 = .ok (.if_icmp .ne 7, 3) := by decide +kernel
theorem d11_burnsOf_11 : decode m11_burnsOf.2.1 11 = .ok (.iconst 0, 1) := by decide +kernel
theorem d11_burnsOf_12 : decode m11_burnsOf.2.1 12 = .ok (.goto 16, 3) := by decide +kernel
theorem d11_burnsOf_15 : decode m11_burnsOf.2.1 15 = .ok (.aload_n 0, 1) := by decide +kernel
theorem d11_burnsOf_16 : decode m11_burnsOf.2.1 16 = .ok (.iload_n 1, 1) := by decide +kernel
theorem d11_burnsOf_17 : decode m11_burnsOf.2.1 17 = .ok (.iload_n 2, 1) := by decide +kernel
theorem d11_burnsOf_18 : decode m11_burnsOf.2.1 18 = .ok (.iload_n 3, 1) := by decide +kernel
theorem d11_burnsOf_19 : decode m11_burnsOf.2.1 19 = .ok (.invokevirtual 231, 3) := by decide +kernel
theorem d11_burnsOf_22 : decode m11_burnsOf.2.1 22 = .ok (.aload_n 0, 1) := by decide +kernel
theorem d11_burnsOf_23 : decode m11_burnsOf.2.1 23 = .ok (.iload_n 3, 1) := by decide +kernel
theorem d11_burnsOf_24 : decode m11_burnsOf.2.1 24 = .ok (.invokevirtual 213, 3) := by decide +kernel
theorem d11_burnsOf_27 : decode m11_burnsOf.2.1 27 = .ok (.imul, 1) := by decide +kernel
theorem d11_burnsOf_28 : decode m11_burnsOf.2.1 28 = .ok (.ireturn, 1) := by decide +kernel
def f11_burnsOf (x1 : Int) (x2 : Int) (x3 : Int) (h : AH) : Option (Int × AH) :=
  bnd (f11_apartOf x1 x2 x3 h) fun r1 h2 =>
  if ¬ w32 r1 = (-1) then
    bnd (f11_apartOf x1 x2 x3 h2) fun r5 h6 =>
    bnd (f11_heatOf x3 h6) fun r9 h10 =>
    some (r5 * r9, h10)
  else
    some (0, h2)
set_option maxRecDepth 100000 in
theorem c11_burnsOf (l : Launch) (G : Geo) (x1 : Int) (x2 : Int) (x3 : Int) (h : AH) : Con l G m11_burnsOf rvI 4 [vA G 69, vI x1, vI x2, vI x3] h (f11_burnsOf x1 x2 x3 h) := by
  have hd : 4 ≤ 4 := Nat.le_refl _
  refine con_I rfl (by decide) rfl rfl (Nat.le_of_ble_eq_true rfl) (L := [some (vA G 69), some (vI x1), some (vI x2), some (vI x3)]) ?_
  unfold f11_burnsOf
  refine den_aload_n (pc := 0) d11_burnsOf_0 rfl rfl ?_
  refine den_iload_n (pc := 1) d11_burnsOf_1 rfl rfl ?_
  refine den_iload_n (pc := 2) d11_burnsOf_2 rfl rfl ?_
  refine den_iload_n (pc := 3) d11_burnsOf_3 rfl rfl ?_
  refine den_callVI (pc := 4) (As := [vI x1, vI x2, vI x3]) fv_11_231 rfl rfl (ok_69 _) (Nat.le_of_ble_eq_true rfl) (Nat.le_trans (by decide) hd) d11_burnsOf_4 (c11_apartOf l G x1 x2 x3 h) (fun r1 h2 m3 o4 => ?_)
  refine den_iconst (pc := 7) d11_burnsOf_7 ?_
  refine den_icmp_ne (pc := 8) (tgt := 15) d11_burnsOf_8 (by decide) rfl (by decide) (fun _ => ?_) (fun _ => ?_)
  · refine den_aload_n (pc := 15) d11_burnsOf_15 rfl rfl ?_
    refine den_iload_n (pc := 16) d11_burnsOf_16 rfl rfl ?_
    refine den_iload_n (pc := 17) d11_burnsOf_17 rfl rfl ?_
    refine den_iload_n (pc := 18) d11_burnsOf_18 rfl rfl ?_
    refine den_callVI (pc := 19) (As := [vI x1, vI x2, vI x3]) fv_11_231 rfl rfl (ok_69 _) (Nat.le_of_ble_eq_true rfl) (Nat.le_trans (by decide) hd) d11_burnsOf_19 (c11_apartOf l G x1 x2 x3 h2) (fun r5 h6 m7 o8 => ?_)
    refine den_aload_n (pc := 22) d11_burnsOf_22 rfl rfl ?_
    refine den_iload_n (pc := 23) d11_burnsOf_23 rfl rfl ?_
    refine den_callVI (pc := 24) (As := [vI x3]) fv_11_213 rfl rfl (ok_69 _) (Nat.le_of_ble_eq_true rfl) (Nat.le_trans (by decide) hd) d11_burnsOf_24 (c11_heatOf l G x3 h6) (fun r9 h10 m11 o12 => ?_)
    refine den_imul (pc := 27) d11_burnsOf_27 ?_
    exact den_iret (pc := 28) rfl d11_burnsOf_28
  · refine den_iconst (pc := 11) d11_burnsOf_11 ?_
    refine den_goto (pc := 12) (tgt := 28) d11_burnsOf_12 (by decide) ?_
    exact den_iret (pc := 28) rfl d11_burnsOf_28
