/-! 11_kindred 11_quiet 11_isDay 11_deed 11_begins 11_offNow 11_quarrels 11_agrees 11_denies -/
theorem d11_kindred_0 : decode m11_kindred.2.1 0 = .ok (.aload_n 0, 1) := by decide +kernel
theorem d11_kindred_1 : decode m11_kindred.2.1 1 = .ok (.iload_n 1, 1) := by decide +kernel
theorem d11_kindred_2 : decode m11_kindred.2.1 2 = .ok (.invokevirtual 201, 3) := by decide +kernel
theorem d11_kindred_5 : decode m11_kindred.2.1 5 = .ok (.ifCond .eq 7, 3) := by decide +kernel
theorem d11_kindred_8 : decode m11_kindred.2.1 8 = .ok (.iload_n 2, 1) := by decide +kernel
theorem d11_kindred_9 : decode m11_kindred.2.1 9 = .ok (.ifCond .ge 6, 3) := by decide +kernel
theorem d11_kindred_12 : decode m11_kindred.2.1 12 = .ok (.bipush (-2), 2) := by decide +kernel
theorem d11_kindred_14 : decode m11_kindred.2.1 14 = .ok (.ireturn, 1) := by decide +kernel
theorem d11_kindred_15 : decode m11_kindred.2.1 15 = .ok (.iconst 0, 1) := by decide +kernel
theorem d11_kindred_16 : decode m11_kindred.2.1 16 = .ok (.istore_n 3, 1) := by decide +kernel
theorem d11_kindred_17 : decode m11_kindred.2.1 17 = .ok (.iconst 0, 1) := by decide +kernel
theorem d11_kindred_18 : decode m11_kindred.2.1 18 = .ok (.istore 4, 2) := by decide +kernel
theorem d11_kindred_20 : decode m11_kindred.2.1 20 = .ok (.iconst 0, 1) := by decide +kernel
theorem d11_kindred_21 : decode m11_kindred.2.1 21 = .ok (.istore 5, 2) := by decide +kernel
theorem d11_kindred_23 : decode m11_kindred.2.1 23 = .ok (.iload 5, 2) := by decide +kernel
theorem d11_kindred_25 : decode m11_kindred.2.1 25 = .ok (.aload_n 0, 1) := by decide +kernel
theorem d11_kindred_26 : decode m11_kindred.2.1 26 = .ok (.getfield 192, 3) := by decide +kernel
theorem d11_kindred_29 : decode m11_kindred.2.1 29 = .ok (.if_icmp .ge 60, 3) := by decide +kernel
theorem d11_kindred_32 : decode m11_kindred.2.1 32 = .ok (.iload_n 3, 1) := by decide +kernel
theorem d11_kindred_33 : decode m11_kindred.2.1 33 = .ok (.aload_n 0, 1) := by decide +kernel
theorem d11_kindred_34 : decode m11_kindred.2.1 34 = .ok (.iload 5, 2) := by decide +kernel
theorem d11_kindred_36 : decode m11_kindred.2.1 36 = .ok (.iload 5, 2) := by decide +kernel
theorem d11_kindred_38 : decode m11_kindred.2.1 38 = .ok (.invokevirtual 313, 3) := by decide +kernel
theorem d11_kindred_41 : decode m11_kindred.2.1 41 = .ok (.ifCond .ne 7, 3) := by decide +kernel
theorem d11_kindred_44 : decode m11_kindred.2.1 44 = .ok (.iconst 1, 1) := by decide +kernel
theorem d11_kindred_45 : decode m11_kindred.2.1 45 = .ok (.goto 4, 3) := by decide +kernel
theorem d11_kindred_48 : decode m11_kindred.2.1 48 = .ok (.iconst 0, 1) := by decide +kernel
theorem d11_kindred_49 : decode m11_kindred.2.1 49 = .ok (.iadd, 1) := by decide +kernel
theorem d11_kindred_50 : decode m11_kindred.2.1 50 = .ok (.istore_n 3, 1) := by decide +kernel
theorem d11_kindred_51 : decode m11_kindred.2.1 51 = .ok (.aload_n 0, 1) := by decide +kernel
theorem d11_kindred_52 : decode m11_kindred.2.1 52 = .ok (.iload 5, 2) := by decide +kernel
theorem d11_kindred_54 : decode m11_kindred.2.1 54 = .ok (.aload_n 0, 1) := by decide +kernel
theorem d11_kindred_55 : decode m11_kindred.2.1 55 = .ok (.getfield 192, 3) := by decide +kernel
theorem d11_kindred_58 : decode m11_kindred.2.1 58 = .ok (.invokevirtual 313, 3) := by decide +kernel
theorem d11_kindred_61 : decode m11_kindred.2.1 61 = .ok (.iload 4, 2) := by decide +kernel
theorem d11_kindred_63 : decode m11_kindred.2.1 63 = .ok (.if_icmp .le 16, 3) := by decide +kernel
theorem d11_kindred_66 : decode m11_kindred.2.1 66 = .ok (.aload_n 0, 1) := by decide +kernel
theorem d11_kindred_67 : decode m11_kindred.2.1 67 = .ok (.iload 5, 2) := by decide +kernel
theorem d11_kindred_69 : decode m11_kindred.2.1 69 = .ok (.aload_n 0, 1) := by decide +kernel
theorem d11_kindred_70 : decode m11_kindred.2.1 70 = .ok (.getfield 192, 3) := by decide +kernel
theorem d11_kindred_73 : decode m11_kindred.2.1 73 = .ok (.invokevirtual 313, 3) := by decide +kernel
theorem d11_kindred_76 : decode m11_kindred.2.1 76 = .ok (.goto 5, 3) := by decide +kernel
theorem d11_kindred_79 : decode m11_kindred.2.1 79 = .ok (.iload 4, 2) := by decide +kernel
theorem d11_kindred_81 : decode m11_kindred.2.1 81 = .ok (.istore 4, 2) := by decide +kernel
theorem d11_kindred_83 : decode m11_kindred.2.1 83 = .ok (.iinc 5 1, 3) := by decide +kernel
theorem d11_kindred_86 : decode m11_kindred.2.1 86 = .ok (.goto (-63), 3) := by decide +kernel
theorem d11_kindred_89 : decode m11_kindred.2.1 89 = .ok (.iload_n 2, 1) := by decide +kernel
theorem d11_kindred_90 : decode m11_kindred.2.1 90 = .ok (.tableswitch 36 0 2 #[26, 28, 31], 26) := by decide +kernel
theorem d11_kindred_116 : decode m11_kindred.2.1 116 = .ok (.iload_n 3, 1) := by decide +kernel
theorem d11_kindred_117 : decode m11_kindred.2.1 117 = .ok (.ireturn, 1) := by decide +kernel
theorem d11_kindred_118 : decode m11_kindred.2.1 118 = .ok (.iload 4, 2) := by decide +kernel
theorem d11_kindred_120 : decode m11_kindred.2.1 120 = .ok (.ireturn, 1) := by decide +kernel
theorem d11_kindred_121 : decode m11_kindred.2.1 121 = .ok (.aload_n 0, 1) := by decide +kernel
theorem d11_kindred_122 : decode m11_kindred.2.1 122 = .ok (.invokevirtual 316, 3) := by decide +kernel
theorem d11_kindred_125 : decode m11_kindred.2.1 125 = .ok (.ireturn, 1) := by decide +kernel
theorem d11_kindred_126 : decode m11_kindred.2.1 126 = .ok (.iconst 0, 1) := by decide +kernel
theorem d11_kindred_127 : decode m11_kindred.2.1 127 = .ok (.istore 5, 2) := by decide +kernel
theorem d11_kindred_129 : decode m11_kindred.2.1 129 = .ok (.iload 5, 2) := by decide +kernel
theorem d11_kindred_131 : decode m11_kindred.2.1 131 = .ok (.aload_n 0, 1) := by decide +kernel
theorem d11_kindred_132 : decode m11_kindred.2.1 132 = .ok (.getfield 192, 3) := by decide +kernel
theorem d11_kindred_135 : decode m11_kindred.2.1 135 = .ok (.if_icmp .ge 31, 3) := by decide +kernel
theorem d11_kindred_138 : decode m11_kindred.2.1 138 = .ok (.iload_n 2, 1) := by decide +kernel
theorem d11_kindred_139 : decode m11_kindred.2.1 139 = .ok (.bipush 10, 2) := by decide +kernel
theorem d11_kindred_141 : decode m11_kindred.2.1 141 = .ok (.if_icmp .lt 19, 3) := by decide +kernel
theorem d11_kindred_144 : decode m11_kindred.2.1 144 = .ok (.aload_n 0, 1) := by decide +kernel
theorem d11_kindred_145 : decode m11_kindred.2.1 145 = .ok (.iload 5, 2) := by decide +kernel
theorem d11_kindred_147 : decode m11_kindred.2.1 147 = .ok (.invokevirtual 319, 3) := by decide +kernel
theorem d11_kindred_150 : decode m11_kindred.2.1 150 = .ok (.iload_n 2, 1) := by decide +kernel
theorem d11_kindred_151 : decode m11_kindred.2.1 151 = .ok (.bipush 10, 2) := by decide +kernel
theorem d11_kindred_153 : decode m11_kindred.2.1 153 = .ok (.isub, 1) := by decide +kernel
theorem d11_kindred_154 : decode m11_kindred.2.1 154 = .ok (.if_icmp .ne 6, 3) := by decide +kernel
theorem d11_kindred_157 : decode m11_kindred.2.1 157 = .ok (.iload 5, 2) := by decide +kernel
theorem d11_kindred_159 : decode m11_kindred.2.1 159 = .ok (.ireturn, 1) := by decide +kernel
theorem d11_kindred_160 : decode m11_kindred.2.1 160 = .ok (.iinc 5 1, 3) := by decide +kernel
theorem d11_kindred_163 : decode m11_kindred.2.1 163 = .ok (.goto (-34), 3) := by decide +kernel
theorem d11_kindred_166 : decode m11_kindred.2.1 166 = .ok (.bipush (-2), 2) := by decide +kernel
theorem d11_kindred_168 : decode m11_kindred.2.1 168 = .ok (.ireturn, 1) := by decide +kernel
def b11_kindred_81 (rec23 : Int × Int × Int × AH → Option (Int × AH)) (x2 : Int) (x3 : Int) (x5 : Int) (s0 : Int) (h : AH) : Option (Int × AH) :=
  rec23 (x3, s0, (x5 + 1), h)
set_option maxRecDepth 100000 in
theorem t11_kindred_81 (l : Launch) (G : Geo) (d : Nat) (hd : 9 ≤ d) (x2 : Int) (x3 : Int) (x5 : Int) (s0 : Int) (rec23 : Int × Int × Int × AH → Option (Int × AH)) (H23 : ∀ (x3 : Int) (x4 : Int) (x5 : Int) (h : AH), Den l G m11_kindred rvI d 23 [some (vA G 69), none, some (vI x2), some (vI x3), some (vI x4), some (vI x5)] [] h (rec23 (x3, x4, x5, h))) (h : AH) : Den l G m11_kindred rvI d 81 [some (vA G 69), none, some (vI x2), some (vI x3), none, some (vI x5)] [vI s0] h (b11_kindred_81 rec23 x2 x3 x5 s0 h) := by
  unfold b11_kindred_81
  refine den_istore (pc := 81) (L2 := [some (vA G 69), none, some (vI x2), some (vI x3), some (vI s0), some (vI x5)]) d11_kindred_81 (by decide) rfl ?_
  refine den_iinc (pc := 83) (L2 := [some (vA G 69), none, some (vI x2), some (vI x3), some (vI s0), some (vI (x5 + 1))]) d11_kindred_83 (by decide) rfl rfl ?_
  refine den_goto (pc := 86) (tgt := 23) d11_kindred_86 (by decide) ?_
  exact H23 x3 s0 (x5 + 1) h
def b11_kindred_49 (rec23 : Int × Int × Int × AH → Option (Int × AH)) (x2 : Int) (x4 : Int) (x5 : Int) (s0 : Int) (s1 : Int) (h : AH) : Option (Int × AH) :=
  lt (s1 + s0) fun u1 =>
  bnd (f11_kinOf x5 (h.2 69 13) h) fun r2 h3 =>
  if w32 r2 ≤ w32 x4 then
    b11_kindred_81 rec23 x2 u1 x5 x4 h3
  else
    bnd (f11_kinOf x5 (h3.2 69 13) h3) fun r6 h7 =>
    b11_kindred_81 rec23 x2 u1 x5 r6 h7
set_option maxRecDepth 100000 in
theorem t11_kindred_49 (l : Launch) (G : Geo) (d : Nat) (hd : 9 ≤ d) (x2 : Int) (x4 : Int) (x5 : Int) (s0 : Int) (s1 : Int) (rec23 : Int × Int × Int × AH → Option (Int × AH)) (H23 : ∀ (x3 : Int) (x4 : Int) (x5 : Int) (h : AH), Den l G m11_kindred rvI d 23 [some (vA G 69), none, some (vI x2), some (vI x3), some (vI x4), some (vI x5)] [] h (rec23 (x3, x4, x5, h))) (h : AH) : Den l G m11_kindred rvI d 49 [some (vA G 69), none, some (vI x2), none, some (vI x4), some (vI x5)] [vI s0, vI s1] h (b11_kindred_49 rec23 x2 x4 x5 s0 s1 h) := by
  unfold b11_kindred_49
  refine den_iadd (pc := 49) d11_kindred_49 ?_
  refine den_istore_nL (pc := 50) (L2 := fun y => [some (vA G 69), none, some (vI x2), some (vI y), some (vI x4), some (vI x5)]) d11_kindred_50 rfl (by decide) (fun _ => rfl) (fun u1 => ?_)
  refine den_aload_n (pc := 51) d11_kindred_51 rfl rfl ?_
  refine den_iload (pc := 52) d11_kindred_52 rfl ?_
  refine den_aload_n (pc := 54) d11_kindred_54 rfl rfl ?_
  refine den_getI (pc := 55) fa_11_192 (ok_69 _) d11_kindred_55 ?_
  refine den_callVI (pc := 58) (As := [vI x5, vI (h.2 69 13)]) fv_11_313 rfl rfl (ok_69 _) (Nat.le_of_ble_eq_true rfl) (Nat.le_trans (by decide) hd) d11_kindred_58 (c11_kinOf l G x5 (h.2 69 13) h) (fun r2 h3 m4 o5 => ?_)
  refine den_iload (pc := 61) d11_kindred_61 rfl ?_
  refine den_icmp_le (pc := 63) (tgt := 79) d11_kindred_63 (by decide) rfl rfl (fun _ => ?_) (fun _ => ?_)
  · refine den_iload (pc := 79) d11_kindred_79 rfl ?_
    refine den_wk [true, true, true, true, false, true] rfl ?_
    exact t11_kindred_81 l G _ hd x2 u1 x5 x4 rec23 H23 h3
  · refine den_aload_n (pc := 66) d11_kindred_66 rfl rfl ?_
    refine den_iload (pc := 67) d11_kindred_67 rfl ?_
    refine den_aload_n (pc := 69) d11_kindred_69 rfl rfl ?_
    refine den_getI (pc := 70) fa_11_192 (ok_69 _) d11_kindred_70 ?_
    refine den_callVI (pc := 73) (As := [vI x5, vI (h3.2 69 13)]) fv_11_313 rfl rfl (ok_69 _) (Nat.le_of_ble_eq_true rfl) (Nat.le_trans (by decide) hd) d11_kindred_73 (c11_kinOf l G x5 (h3.2 69 13) h3) (fun r6 h7 m8 o9 => ?_)
    refine den_goto (pc := 76) (tgt := 81) d11_kindred_76 (by decide) ?_
    refine den_wk [true, true, true, true, false, true] rfl ?_
    exact t11_kindred_81 l G _ hd x2 u1 x5 r6 rec23 H23 h7
def b11_kindred_160 (rec129 : Int × AH → Option (Int × AH)) (x2 : Int) (x5 : Int) (h : AH) : Option (Int × AH) :=
  rec129 ((x5 + 1), h)
set_option maxRecDepth 100000 in
theorem t11_kindred_160 (l : Launch) (G : Geo) (d : Nat) (hd : 9 ≤ d) (x2 : Int) (x5 : Int) (rec129 : Int × AH → Option (Int × AH)) (H129 : ∀ (x5 : Int) (h : AH), Den l G m11_kindred rvI d 129 [some (vA G 69), none, some (vI x2), none, none, some (vI x5)] [] h (rec129 (x5, h))) (h : AH) : Den l G m11_kindred rvI d 160 [some (vA G 69), none, some (vI x2), none, none, some (vI x5)] [] h (b11_kindred_160 rec129 x2 x5 h) := by
  unfold b11_kindred_160
  refine den_iinc (pc := 160) (L2 := [some (vA G 69), none, some (vI x2), none, none, some (vI (x5 + 1))]) d11_kindred_160 (by decide) rfl rfl ?_
  refine den_goto (pc := 163) (tgt := 129) d11_kindred_163 (by decide) ?_
  exact H129 (x5 + 1) h
def b11_kindred_129 (rec129 : Int × AH → Option (Int × AH)) (x2 : Int) (x5 : Int) (h : AH) : Option (Int × AH) :=
  if w32 (h.2 69 13) ≤ w32 x5 then
    some ((-2), h)
  else
    if w32 x2 < 10 then
      b11_kindred_160 rec129 x2 x5 h
    else
      bnd (f11_rankOf x5 h) fun r10 h11 =>
      if ¬ w32 r10 = w32 (x2 - 10) then
        b11_kindred_160 rec129 x2 x5 h11
      else
        some (x5, h11)
set_option maxRecDepth 100000 in
theorem t11_kindred_129 (l : Launch) (G : Geo) (d : Nat) (hd : 9 ≤ d) (x2 : Int) (x5 : Int) (rec129 : Int × AH → Option (Int × AH)) (H129 : ∀ (x5 : Int) (h : AH), Den l G m11_kindred rvI d 129 [some (vA G 69), none, some (vI x2), none, none, some (vI x5)] [] h (rec129 (x5, h))) (h : AH) : Den l G m11_kindred rvI d 129 [some (vA G 69), none, some (vI x2), none, none, some (vI x5)] [] h (b11_kindred_129 rec129 x2 x5 h) := by
  unfold b11_kindred_129
  refine den_iload (pc := 129) d11_kindred_129 rfl ?_
  refine den_aload_n (pc := 131) d11_kindred_131 rfl rfl ?_
  refine den_getI (pc := 132) fa_11_192 (ok_69 _) d11_kindred_132 ?_
  refine den_icmp_ge (pc := 135) (tgt := 166) d11_kindred_135 (by decide) rfl rfl (fun _ => ?_) (fun _ => ?_)
  · refine den_bipush (pc := 166) d11_kindred_166 (by decide) ?_
    exact den_iret (pc := 168) rfl d11_kindred_168
  · refine den_iload_n (pc := 138) d11_kindred_138 rfl rfl ?_
    refine den_bipush (pc := 139) d11_kindred_139 (by decide) ?_
    refine den_icmp_lt (pc := 141) (tgt := 160) d11_kindred_141 (by decide) rfl (by decide) (fun _ => ?_) (fun _ => ?_)
    · exact t11_kindred_160 l G _ hd x2 x5 rec129 H129 h
    · refine den_aload_n (pc := 144) d11_kindred_144 rfl rfl ?_
      refine den_iload (pc := 145) d11_kindred_145 rfl ?_
      refine den_callVI (pc := 147) (As := [vI x5]) fv_11_319 rfl rfl (ok_69 _) (Nat.le_of_ble_eq_true rfl) (Nat.le_trans (by decide) hd) d11_kindred_147 (c11_rankOf l G x5 h) (fun r10 h11 m12 o13 => ?_)
      refine den_iload_n (pc := 150) d11_kindred_150 rfl rfl ?_
      refine den_bipush (pc := 151) d11_kindred_151 (by decide) ?_
      refine den_isub (pc := 153) d11_kindred_153 ?_
      refine den_icmp_ne (pc := 154) (tgt := 160) d11_kindred_154 (by decide) rfl rfl (fun _ => ?_) (fun _ => ?_)
      · exact t11_kindred_160 l G _ hd x2 x5 rec129 H129 h11
      · refine den_iload (pc := 157) d11_kindred_157 rfl ?_
        exact den_iret (pc := 159) rfl d11_kindred_159
def l11_kindred_129 (x2 : Int) (x5 : Int) (h : AH) : Option (Int × AH) := fx (fun rec z => b11_kindred_129 rec x2 z.1 z.2) FU (x5, h)
set_option maxRecDepth 100000 in
theorem tl11_kindred_129 (l : Launch) (G : Geo) (d : Nat) (hd : 9 ≤ d) (x2 : Int) : ∀ (n : Nat) (z : Int × AH), True → Den l G m11_kindred rvI d 129 [some (vA G 69), none, some (vI x2), none, none, some (vI z.1)] [] z.2 (fx (fun rec z => b11_kindred_129 rec x2 z.1 z.2) n z) :=
  den_fx (F := fun rec z => b11_kindred_129 rec x2 z.1 z.2) (P := fun z => True) (fL := fun z => [some (vA G 69), none, some (vI x2), none, none, some (vI z.1)]) (fs := fun z => []) (fh := fun z => z.2) (fun rec hrec z hz => t11_kindred_129 l G d hd x2 z.1 rec (fun x5 h => hrec (x5, h) trivial) z.2 )
def b11_kindred_23 (rec23 : Int × Int × Int × AH → Option (Int × AH)) (x2 : Int) (x3 : Int) (x4 : Int) (x5 : Int) (h : AH) : Option (Int × AH) :=
  if w32 (h.2 69 13) ≤ w32 x5 then
    if w32 x2 = 0 then
      some (x3, h)
    else
    if w32 x2 = 1 then
      some (x4, h)
    else
    if w32 x2 = 2 then
      bnd (f11_triosOf h) fun r17 h18 =>
      some (r17, h18)
    else
    l11_kindred_129 x2 0 h
  else
    bnd (f11_kinOf x5 x5 h) fun r21 h22 =>
    if ¬ w32 r21 = 0 then
      b11_kindred_49 rec23 x2 x4 x5 0 x3 h22
    else
      b11_kindred_49 rec23 x2 x4 x5 1 x3 h22
set_option maxRecDepth 100000 in
theorem t11_kindred_23 (l : Launch) (G : Geo) (d : Nat) (hd : 9 ≤ d) (x2 : Int) (x3 : Int) (x4 : Int) (x5 : Int) (rec23 : Int × Int × Int × AH → Option (Int × AH)) (H23 : ∀ (x3 : Int) (x4 : Int) (x5 : Int) (h : AH), Den l G m11_kindred rvI d 23 [some (vA G 69), none, some (vI x2), some (vI x3), some (vI x4), some (vI x5)] [] h (rec23 (x3, x4, x5, h))) (h : AH) : Den l G m11_kindred rvI d 23 [some (vA G 69), none, some (vI x2), some (vI x3), some (vI x4), some (vI x5)] [] h (b11_kindred_23 rec23 x2 x3 x4 x5 h) := by
  unfold b11_kindred_23
  refine den_iload (pc := 23) d11_kindred_23 rfl ?_
  refine den_aload_n (pc := 25) d11_kindred_25 rfl rfl ?_
  refine den_getI (pc := 26) fa_11_192 (ok_69 _) d11_kindred_26 ?_
  refine den_icmp_ge (pc := 29) (tgt := 89) d11_kindred_29 (by decide) rfl rfl (fun _ => ?_) (fun _ => ?_)
  · refine den_iload_n (pc := 89) d11_kindred_89 rfl rfl ?_
    refine den_ite (fun c14 => ?_) (fun c14 => ?_)
    · refine den_tableIn (pc := 90) (tgt := 116) d11_kindred_90 (by omega) (by omega) (by rw [c14]; rfl) (by decide) ?_
      refine den_iload_n (pc := 116) d11_kindred_116 rfl rfl ?_
      exact den_iret (pc := 117) rfl d11_kindred_117
    refine den_ite (fun c15 => ?_) (fun c15 => ?_)
    · refine den_tableIn (pc := 90) (tgt := 118) d11_kindred_90 (by omega) (by omega) (by rw [c15]; rfl) (by decide) ?_
      refine den_iload (pc := 118) d11_kindred_118 rfl ?_
      exact den_iret (pc := 120) rfl d11_kindred_120
    refine den_ite (fun c16 => ?_) (fun c16 => ?_)
    · refine den_tableIn (pc := 90) (tgt := 121) d11_kindred_90 (by omega) (by omega) (by rw [c16]; rfl) (by decide) ?_
      refine den_aload_n (pc := 121) d11_kindred_121 rfl rfl ?_
      refine den_callVI (pc := 122) (As := []) fv_11_316 rfl rfl (ok_69 _) (Nat.le_of_ble_eq_true rfl) (Nat.le_trans (by decide) hd) d11_kindred_122 (c11_triosOf l G h) (fun r17 h18 m19 o20 => ?_)
      exact den_iret (pc := 125) rfl d11_kindred_125
    refine den_tableOut (pc := 90) (tgt := 126) d11_kindred_90 (by omega) (by decide) ?_
    refine den_iconst (pc := 126) d11_kindred_126 ?_
    refine den_istore (pc := 127) (L2 := [some (vA G 69), none, some (vI x2), some (vI x3), some (vI x4), some (vI 0)]) d11_kindred_127 (by decide) rfl ?_
    refine den_wk [true, true, true, false, false, true] rfl ?_
    exact tl11_kindred_129 l G _ hd x2 FU (0, h) trivial
  · refine den_iload_n (pc := 32) d11_kindred_32 rfl rfl ?_
    refine den_aload_n (pc := 33) d11_kindred_33 rfl rfl ?_
    refine den_iload (pc := 34) d11_kindred_34 rfl ?_
    refine den_iload (pc := 36) d11_kindred_36 rfl ?_
    refine den_callVI (pc := 38) (As := [vI x5, vI x5]) fv_11_313 rfl rfl (ok_69 _) (Nat.le_of_ble_eq_true rfl) (Nat.le_trans (by decide) hd) d11_kindred_38 (c11_kinOf l G x5 x5 h) (fun r21 h22 m23 o24 => ?_)
    refine den_if_ne (pc := 41) (tgt := 48) d11_kindred_41 (by decide) rfl (fun _ => ?_) (fun _ => ?_)
    · refine den_iconst (pc := 48) d11_kindred_48 ?_
      refine den_wk [true, true, true, false, true, true] rfl ?_
      exact t11_kindred_49 l G _ hd x2 x4 x5 0 x3 rec23 H23 h22
    · refine den_iconst (pc := 44) d11_kindred_44 ?_
      refine den_goto (pc := 45) (tgt := 49) d11_kindred_45 (by decide) ?_
      refine den_wk [true, true, true, false, true, true] rfl ?_
      exact t11_kindred_49 l G _ hd x2 x4 x5 1 x3 rec23 H23 h22
def l11_kindred_23 (x2 : Int) (x3 : Int) (x4 : Int) (x5 : Int) (h : AH) : Option (Int × AH) := fx (fun rec z => b11_kindred_23 rec x2 z.1 z.2.1 z.2.2.1 z.2.2.2) FU (x3, x4, x5, h)
set_option maxRecDepth 100000 in
theorem tl11_kindred_23 (l : Launch) (G : Geo) (d : Nat) (hd : 9 ≤ d) (x2 : Int) : ∀ (n : Nat) (z : Int × Int × Int × AH), True → Den l G m11_kindred rvI d 23 [some (vA G 69), none, some (vI x2), some (vI z.1), some (vI z.2.1), some (vI z.2.2.1)] [] z.2.2.2 (fx (fun rec z => b11_kindred_23 rec x2 z.1 z.2.1 z.2.2.1 z.2.2.2) n z) :=
  den_fx (F := fun rec z => b11_kindred_23 rec x2 z.1 z.2.1 z.2.2.1 z.2.2.2) (P := fun z => True) (fL := fun z => [some (vA G 69), none, some (vI x2), some (vI z.1), some (vI z.2.1), some (vI z.2.2.1)]) (fs := fun z => []) (fh := fun z => z.2.2.2) (fun rec hrec z hz => t11_kindred_23 l G d hd x2 z.1 z.2.1 z.2.2.1 rec (fun x3 x4 x5 h => hrec (x3, x4, x5, h) trivial) z.2.2.2 )
def f11_kindred (x1 : Int) (x2 : Int) (h : AH) : Option (Int × AH) :=
  bnd (f11_isVillage x1 h) fun r25 h26 =>
  if w32 r25 = 0 then
    some ((-2), h26)
  else
    if 0 ≤ w32 x2 then
      l11_kindred_23 x2 0 0 0 h26
    else
      some ((-2), h26)
set_option maxRecDepth 100000 in
theorem c11_kindred (l : Launch) (G : Geo) (x1 : Int) (x2 : Int) (h : AH) : Con l G m11_kindred rvI 9 [vA G 69, vI x1, vI x2] h (f11_kindred x1 x2 h) := by
  have hd : 9 ≤ 9 := Nat.le_refl _
  refine con_I rfl (by decide) rfl rfl (Nat.le_of_ble_eq_true rfl) (L := [some (vA G 69), some (vI x1), some (vI x2), none, none, none]) ?_
  unfold f11_kindred
  refine den_aload_n (pc := 0) d11_kindred_0 rfl rfl ?_
  refine den_iload_n (pc := 1) d11_kindred_1 rfl rfl ?_
  refine den_callVI (pc := 2) (As := [vI x1]) fv_11_201 rfl rfl (ok_69 _) (Nat.le_of_ble_eq_true rfl) (Nat.le_trans (by decide) hd) d11_kindred_2 (c11_isVillage l G x1 h) (fun r25 h26 m27 o28 => ?_)
  refine den_if_eq (pc := 5) (tgt := 12) d11_kindred_5 (by decide) rfl (fun _ => ?_) (fun _ => ?_)
  · refine den_bipush (pc := 12) d11_kindred_12 (by decide) ?_
    exact den_iret (pc := 14) rfl d11_kindred_14
  · refine den_iload_n (pc := 8) d11_kindred_8 rfl rfl ?_
    refine den_if_ge (pc := 9) (tgt := 15) d11_kindred_9 (by decide) rfl (fun _ => ?_) (fun _ => ?_)
    · refine den_iconst (pc := 15) d11_kindred_15 ?_
      refine den_istore_n (pc := 16) (L2 := [some (vA G 69), some (vI x1), some (vI x2), some (vI 0), none, none]) d11_kindred_16 rfl (by decide) rfl ?_
      refine den_iconst (pc := 17) d11_kindred_17 ?_
      refine den_istore (pc := 18) (L2 := [some (vA G 69), some (vI x1), some (vI x2), some (vI 0), some (vI 0), none]) d11_kindred_18 (by decide) rfl ?_
      refine den_iconst (pc := 20) d11_kindred_20 ?_
      refine den_istore (pc := 21) (L2 := [some (vA G 69), some (vI x1), some (vI x2), some (vI 0), some (vI 0), some (vI 0)]) d11_kindred_21 (by decide) rfl ?_
      refine den_wk [true, false, true, true, true, true] rfl ?_
      exact tl11_kindred_23 l G _ hd x2 FU (0, 0, 0, h26) trivial
    · refine den_bipush (pc := 12) d11_kindred_12 (by decide) ?_
      exact den_iret (pc := 14) rfl d11_kindred_14
theorem d11_quiet_0 : decode m11_quiet.2.1 0 = .ok (.aload_n 0, 1) := by decide +kernel
theorem d11_quiet_1 : decode m11_quiet.2.1 1 = .ok (.iload_n 1, 1) := by decide +kernel
theorem d11_quiet_2 : decode m11_quiet.2.1 2 = .ok (.invokevirtual 201, 3) := by decide +kernel
theorem d11_quiet_5 : decode m11_quiet.2.1 5 = .ok (.ifCond .ne 5, 3) := by decide +kernel
theorem d11_quiet_8 : decode m11_quiet.2.1 8 = .ok (.iconst (-1), 1) := by decide +kernel
theorem d11_quiet_9 : decode m11_quiet.2.1 9 = .ok (.ireturn, 1) := by decide +kernel
theorem d11_quiet_10 : decode m11_quiet.2.1 10 = .ok (.iconst 0, 1) := by decide +kernel
theorem d11_quiet_11 : decode m11_quiet.2.1 11 = .ok (.istore_n 2, 1) := by decide +kernel
theorem d11_quiet_12 : decode m11_quiet.2.1 12 = .ok (.iconst 0, 1) := by decide +kernel
theorem d11_quiet_13 : decode m11_quiet.2.1 13 = .ok (.istore_n 3, 1) := by decide +kernel
theorem d11_quiet_14 : decode m11_quiet.2.1 14 = .ok (.iload_n 3, 1) := by decide +kernel
theorem d11_quiet_15 : decode m11_quiet.2.1 15 = .ok (.aload_n 0, 1) := by decide +kernel
theorem d11_quiet_16 : decode m11_quiet.2.1 16 = .ok (.getfield 192, 3) := by decide +kernel
theorem d11_quiet_19 : decode m11_quiet.2.1 19 = .ok (.if_icmp .ge 67, 3) := by decide +kernel
theorem d11_quiet_22 : decode m11_quiet.2.1 22 = .ok (.iconst 1, 1) := by decide +kernel
theorem d11_quiet_23 : decode m11_quiet.2.1 23 = .ok (.istore 4, 2) := by decide +kernel
theorem d11_quiet_25 : decode m11_quiet.2.1 25 = .ok (.iconst 0, 1) := by decide +kernel
theorem d11_quiet_26 : decode m11_quiet.2.1 26 = .ok (.istore 5, 2) := by decide +kernel
theorem d11_quiet_28 : decode m11_quiet.2.1 28 = .ok (.iload 5, 2) := by decide +kernel
theorem d11_quiet_30 : decode m11_quiet.2.1 30 = .ok (.aload_n 0, 1) := by decide +kernel
theorem d11_quiet_31 : decode m11_quiet.2.1 31 = .ok (.getfield 192, 3) := by decide +kernel
theorem d11_quiet_34 : decode m11_quiet.2.1 34 = .ok (.if_icmp .ge 31, 3) := by decide +kernel
theorem d11_quiet_37 : decode m11_quiet.2.1 37 = .ok (.iload 4, 2) := by decide +kernel
theorem d11_quiet_39 : decode m11_quiet.2.1 39 = .ok (.ifCond .eq 17, 3) := by decide +kernel
theorem d11_quiet_42 : decode m11_quiet.2.1 42 = .ok (.aload_n 0, 1) := by decide +kernel
theorem d11_quiet_43 : decode m11_quiet.2.1 43 = .ok (.iload_n 3, 1) := by decide +kernel
theorem d11_quiet_44 : decode m11_quiet.2.1 44 = .ok (.iload 5, 2) := by decide +kernel
theorem d11_quiet_46 : decode m11_quiet.2.1 46 = .ok (.invokevirtual 301, 3) := by decide +kernel
theorem d11_quiet_49 : decode m11_quiet.2.1 49 = .ok (.ifCond .ne 7, 3) := by decide +kernel
theorem d11_quiet_52 : decode m11_quiet.2.1 52 = .ok (.iconst 1, 1) := by decide +kernel
theorem d11_quiet_53 : decode m11_quiet.2.1 53 = .ok (.goto 4, 3) := by decide +kernel
theorem d11_quiet_56 : decode m11_quiet.2.1 56 = .ok (.iconst 0, 1) := by decide +kernel
theorem d11_quiet_57 : decode m11_quiet.2.1 57 = .ok (.istore 4, 2) := by decide +kernel
theorem d11_quiet_59 : decode m11_quiet.2.1 59 = .ok (.iinc 5 1, 3) := by decide +kernel
theorem d11_quiet_62 : decode m11_quiet.2.1 62 = .ok (.goto (-34), 3) := by decide +kernel
theorem d11_quiet_65 : decode m11_quiet.2.1 65 = .ok (.iload_n 2, 1) := by decide +kernel
theorem d11_quiet_66 : decode m11_quiet.2.1 66 = .ok (.iload 4, 2) := by decide +kernel
theorem d11_quiet_68 : decode m11_quiet.2.1 68 = .ok (.ifCond .eq 9, 3) := by decide +kernel
theorem d11_quiet_71 : decode m11_quiet.2.1 71 = .ok (.iconst 1, 1) := by decide +kernel
theorem d11_quiet_72 : decode m11_quiet.2.1 72 = .ok (.iload_n 3, 1) := by decide +kernel
theorem d11_quiet_73 : decode m11_quiet.2.1 73 = .ok (.ishl, 1) := by decide +kernel
theorem d11_quiet_74 : decode m11_quiet.2.1 74 = .ok (.goto 4, 3) := by decide +kernel
theorem d11_quiet_77 : decode m11_quiet.2.1 77 = .ok (.iconst 0, 1) := by decide +kernel
theorem d11_quiet_78 : decode m11_quiet.2.1 78 = .ok (.ior, 1) := by decide +kernel
theorem d11_quiet_79 : decode m11_quiet.2.1 79 = .ok (.istore_n 2, 1) := by decide +kernel
theorem d11_quiet_80 : decode m11_quiet.2.1 80 = .ok (.iinc 3 1, 3) := by decide +kernel
theorem d11_quiet_83 : decode m11_quiet.2.1 83 = .ok (.goto (-69), 3) := by decide +kernel
theorem d11_quiet_86 : decode m11_quiet.2.1 86 = .ok (.iload_n 2, 1) := by decide +kernel
theorem d11_quiet_87 : decode m11_quiet.2.1 87 = .ok (.ireturn, 1) := by decide +kernel
def b11_quiet_57 (rec14 : Int × Int × AH → Option (Int × AH)) (rec28 : Int × Int × AH → Option (Int × AH)) (x2 : Int) (x3 : Int) (x5 : Int) (s0 : Int) (h : AH) : Option (Int × AH) :=
  rec28 (s0, (x5 + 1), h)
set_option maxRecDepth 100000 in
theorem t11_quiet_57 (l : Launch) (G : Geo) (d : Nat) (hd : 7 ≤ d) (x2 : Int) (x3 : Int) (x5 : Int) (s0 : Int) (rec14 : Int × Int × AH → Option (Int × AH)) (H14 : ∀ (x2 : Int) (x3 : Int) (h : AH), Den l G m11_quiet rvI d 14 [some (vA G 69), none, some (vI x2), some (vI x3), none, none] [] h (rec14 (x2, x3, h))) (rec28 : Int × Int × AH → Option (Int × AH)) (H28 : ∀ (x4 : Int) (x5 : Int) (h : AH), Den l G m11_quiet rvI d 28 [some (vA G 69), none, some (vI x2), some (vI x3), some (vI x4), some (vI x5)] [] h (rec28 (x4, x5, h))) (h : AH) : Den l G m11_quiet rvI d 57 [some (vA G 69), none, some (vI x2), some (vI x3), none, some (vI x5)] [vI s0] h (b11_quiet_57 rec14 rec28 x2 x3 x5 s0 h) := by
  unfold b11_quiet_57
  refine den_istore (pc := 57) (L2 := [some (vA G 69), none, some (vI x2), some (vI x3), some (vI s0), some (vI x5)]) d11_quiet_57 (by decide) rfl ?_
  refine den_iinc (pc := 59) (L2 := [some (vA G 69), none, some (vI x2), some (vI x3), some (vI s0), some (vI (x5 + 1))]) d11_quiet_59 (by decide) rfl rfl ?_
  refine den_goto (pc := 62) (tgt := 28) d11_quiet_62 (by decide) ?_
  exact H28 s0 (x5 + 1) h
def b11_quiet_56 (rec14 : Int × Int × AH → Option (Int × AH)) (rec28 : Int × Int × AH → Option (Int × AH)) (x2 : Int) (x3 : Int) (x5 : Int) (h : AH) : Option (Int × AH) :=
  b11_quiet_57 rec14 rec28 x2 x3 x5 0 h
set_option maxRecDepth 100000 in
theorem t11_quiet_56 (l : Launch) (G : Geo) (d : Nat) (hd : 7 ≤ d) (x2 : Int) (x3 : Int) (x5 : Int) (rec14 : Int × Int × AH → Option (Int × AH)) (H14 : ∀ (x2 : Int) (x3 : Int) (h : AH), Den l G m11_quiet rvI d 14 [some (vA G 69), none, some (vI x2), some (vI x3), none, none] [] h (rec14 (x2, x3, h))) (rec28 : Int × Int × AH → Option (Int × AH)) (H28 : ∀ (x4 : Int) (x5 : Int) (h : AH), Den l G m11_quiet rvI d 28 [some (vA G 69), none, some (vI x2), some (vI x3), some (vI x4), some (vI x5)] [] h (rec28 (x4, x5, h))) (h : AH) : Den l G m11_quiet rvI d 56 [some (vA G 69), none, some (vI x2), some (vI x3), none, some (vI x5)] [] h (b11_quiet_56 rec14 rec28 x2 x3 x5 h) := by
  unfold b11_quiet_56
  refine den_iconst (pc := 56) d11_quiet_56 ?_
  exact t11_quiet_57 l G _ hd x2 x3 x5 0 rec14 H14 rec28 H28 h
def b11_quiet_78 (rec14 : Int × Int × AH → Option (Int × AH)) (x3 : Int) (s0 : Int) (s1 : Int) (h : AH) : Option (Int × AH) :=
  lt (or32 s1 s0) fun u1 =>
  rec14 (u1, (x3 + 1), h)
set_option maxRecDepth 100000 in
theorem t11_quiet_78 (l : Launch) (G : Geo) (d : Nat) (hd : 7 ≤ d) (x3 : Int) (s0 : Int) (s1 : Int) (rec14 : Int × Int × AH → Option (Int × AH)) (H14 : ∀ (x2 : Int) (x3 : Int) (h : AH), Den l G m11_quiet rvI d 14 [some (vA G 69), none, some (vI x2), some (vI x3), none, none] [] h (rec14 (x2, x3, h))) (h : AH) : Den l G m11_quiet rvI d 78 [some (vA G 69), none, none, some (vI x3), none, none] [vI s0, vI s1] h (b11_quiet_78 rec14 x3 s0 s1 h) := by
  unfold b11_quiet_78
  refine den_ior (pc := 78) d11_quiet_78 ?_
  refine den_istore_nL (pc := 79) (L2 := fun y => [some (vA G 69), none, some (vI y), some (vI x3), none, none]) d11_quiet_79 rfl (by decide) (fun _ => rfl) (fun u1 => ?_)
  refine den_iinc (pc := 80) (L2 := [some (vA G 69), none, some (vI u1), some (vI (x3 + 1)), none, none]) d11_quiet_80 (by decide) rfl rfl ?_
  refine den_goto (pc := 83) (tgt := 14) d11_quiet_83 (by decide) ?_
  exact H14 u1 (x3 + 1) h
def b11_quiet_28 (rec28 : Int × Int × AH → Option (Int × AH)) (rec14 : Int × Int × AH → Option (Int × AH)) (x2 : Int) (x3 : Int) (x4 : Int) (x5 : Int) (h : AH) : Option (Int × AH) :=
  if w32 (h.2 69 13) ≤ w32 x5 then
    if w32 x4 = 0 then
      b11_quiet_78 rec14 x3 0 x2 h
    else
      b11_quiet_78 rec14 x3 (shl32 1 x3) x2 h
  else
    if w32 x4 = 0 then
      b11_quiet_56 rec14 rec28 x2 x3 x5 h
    else
      bnd (f11_isApart x3 x5 h) fun r2 h3 =>
      if ¬ w32 r2 = 0 then
        b11_quiet_56 rec14 rec28 x2 x3 x5 h3
      else
        b11_quiet_57 rec14 rec28 x2 x3 x5 1 h3
set_option maxRecDepth 100000 in
theorem t11_quiet_28 (l : Launch) (G : Geo) (d : Nat) (hd : 7 ≤ d) (x2 : Int) (x3 : Int) (x4 : Int) (x5 : Int) (rec28 : Int × Int × AH → Option (Int × AH)) (H28 : ∀ (x4 : Int) (x5 : Int) (h : AH), Den l G m11_quiet rvI d 28 [some (vA G 69), none, some (vI x2), some (vI x3), some (vI x4), some (vI x5)] [] h (rec28 (x4, x5, h))) (rec14 : Int × Int × AH → Option (Int × AH)) (H14 : ∀ (x2 : Int) (x3 : Int) (h : AH), Den l G m11_quiet rvI d 14 [some (vA G 69), none, some (vI x2), some (vI x3), none, none] [] h (rec14 (x2, x3, h))) (h : AH) : Den l G m11_quiet rvI d 28 [some (vA G 69), none, some (vI x2), some (vI x3), some (vI x4), some (vI x5)] [] h (b11_quiet_28 rec28 rec14 x2 x3 x4 x5 h) := by
  unfold b11_quiet_28
  refine den_iload (pc := 28) d11_quiet_28 rfl ?_
  refine den_aload_n (pc := 30) d11_quiet_30 rfl rfl ?_
  refine den_getI (pc := 31) fa_11_192 (ok_69 _) d11_quiet_31 ?_
  refine den_icmp_ge (pc := 34) (tgt := 65) d11_quiet_34 (by decide) rfl rfl (fun _ => ?_) (fun _ => ?_)
  · refine den_iload_n (pc := 65) d11_quiet_65 rfl rfl ?_
    refine den_iload (pc := 66) d11_quiet_66 rfl ?_
    refine den_if_eq (pc := 68) (tgt := 77) d11_quiet_68 (by decide) rfl (fun _ => ?_) (fun _ => ?_)
    · refine den_iconst (pc := 77) d11_quiet_77 ?_
      refine den_wk [true, true, false, true, false, false] rfl ?_
      exact t11_quiet_78 l G _ hd x3 0 x2 rec14 H14 h
    · refine den_iconst (pc := 71) d11_quiet_71 ?_
      refine den_iload_n (pc := 72) d11_quiet_72 rfl rfl ?_
      refine den_ishl (pc := 73) d11_quiet_73 ?_
      refine den_goto (pc := 74) (tgt := 78) d11_quiet_74 (by decide) ?_
      refine den_wk [true, true, false, true, false, false] rfl ?_
      exact t11_quiet_78 l G _ hd x3 (shl32 1 x3) x2 rec14 H14 h
  · refine den_iload (pc := 37) d11_quiet_37 rfl ?_
    refine den_if_eq (pc := 39) (tgt := 56) d11_quiet_39 (by decide) rfl (fun _ => ?_) (fun _ => ?_)
    · refine den_wk [true, true, true, true, false, true] rfl ?_
      exact t11_quiet_56 l G _ hd x2 x3 x5 rec14 H14 rec28 H28 h
    · refine den_aload_n (pc := 42) d11_quiet_42 rfl rfl ?_
      refine den_iload_n (pc := 43) d11_quiet_43 rfl rfl ?_
      refine den_iload (pc := 44) d11_quiet_44 rfl ?_
      refine den_callVI (pc := 46) (As := [vI x3, vI x5]) fv_11_301 rfl rfl (ok_69 _) (Nat.le_of_ble_eq_true rfl) (Nat.le_trans (by decide) hd) d11_quiet_46 (c11_isApart l G x3 x5 h) (fun r2 h3 m4 o5 => ?_)
      refine den_if_ne (pc := 49) (tgt := 56) d11_quiet_49 (by decide) rfl (fun _ => ?_) (fun _ => ?_)
      · refine den_wk [true, true, true, true, false, true] rfl ?_
        exact t11_quiet_56 l G _ hd x2 x3 x5 rec14 H14 rec28 H28 h3
      · refine den_iconst (pc := 52) d11_quiet_52 ?_
        refine den_goto (pc := 53) (tgt := 57) d11_quiet_53 (by decide) ?_
        refine den_wk [true, true, true, true, false, true] rfl ?_
        exact t11_quiet_57 l G _ hd x2 x3 x5 1 rec14 H14 rec28 H28 h3
def l11_quiet_28 (rec14 : Int × Int × AH → Option (Int × AH)) (x2 : Int) (x3 : Int) (x4 : Int) (x5 : Int) (h : AH) : Option (Int × AH) := fx (fun rec z => b11_quiet_28 rec rec14 x2 x3 z.1 z.2.1 z.2.2) FU (x4, x5, h)
set_option maxRecDepth 100000 in
theorem tl11_quiet_28 (l : Launch) (G : Geo) (d : Nat) (hd : 7 ≤ d) (x2 : Int) (x3 : Int) (rec14 : Int × Int × AH → Option (Int × AH)) (H14 : ∀ (x2 : Int) (x3 : Int) (h : AH), Den l G m11_quiet rvI d 14 [some (vA G 69), none, some (vI x2), some (vI x3), none, none] [] h (rec14 (x2, x3, h))) : ∀ (n : Nat) (z : Int × Int × AH), True → Den l G m11_quiet rvI d 28 [some (vA G 69), none, some (vI x2), some (vI x3), some (vI z.1), some (vI z.2.1)] [] z.2.2 (fx (fun rec z => b11_quiet_28 rec rec14 x2 x3 z.1 z.2.1 z.2.2) n z) :=
  den_fx (F := fun rec z => b11_quiet_28 rec rec14 x2 x3 z.1 z.2.1 z.2.2) (P := fun z => True) (fL := fun z => [some (vA G 69), none, some (vI x2), some (vI x3), some (vI z.1), some (vI z.2.1)]) (fs := fun z => []) (fh := fun z => z.2.2) (fun rec hrec z hz => t11_quiet_28 l G d hd x2 x3 z.1 z.2.1 rec (fun x4 x5 h => hrec (x4, x5, h) trivial) rec14 H14 z.2.2 )
def b11_quiet_14 (rec14 : Int × Int × AH → Option (Int × AH)) (x2 : Int) (x3 : Int) (h : AH) : Option (Int × AH) :=
  if w32 (h.2 69 13) ≤ w32 x3 then
    some (x2, h)
  else
    l11_quiet_28 rec14 x2 x3 1 0 h
set_option maxRecDepth 100000 in
theorem t11_quiet_14 (l : Launch) (G : Geo) (d : Nat) (hd : 7 ≤ d) (x2 : Int) (x3 : Int) (rec14 : Int × Int × AH → Option (Int × AH)) (H14 : ∀ (x2 : Int) (x3 : Int) (h : AH), Den l G m11_quiet rvI d 14 [some (vA G 69), none, some (vI x2), some (vI x3), none, none] [] h (rec14 (x2, x3, h))) (h : AH) : Den l G m11_quiet rvI d 14 [some (vA G 69), none, some (vI x2), some (vI x3), none, none] [] h (b11_quiet_14 rec14 x2 x3 h) := by
  unfold b11_quiet_14
  refine den_iload_n (pc := 14) d11_quiet_14 rfl rfl ?_
  refine den_aload_n (pc := 15) d11_quiet_15 rfl rfl ?_
  refine den_getI (pc := 16) fa_11_192 (ok_69 _) d11_quiet_16 ?_
  refine den_icmp_ge (pc := 19) (tgt := 86) d11_quiet_19 (by decide) rfl rfl (fun _ => ?_) (fun _ => ?_)
  · refine den_iload_n (pc := 86) d11_quiet_86 rfl rfl ?_
    exact den_iret (pc := 87) rfl d11_quiet_87
  · refine den_iconst (pc := 22) d11_quiet_22 ?_
    refine den_istore (pc := 23) (L2 := [some (vA G 69), none, some (vI x2), some (vI x3), some (vI 1), none]) d11_quiet_23 (by decide) rfl ?_
    refine den_iconst (pc := 25) d11_quiet_25 ?_
    refine den_istore (pc := 26) (L2 := [some (vA G 69), none, some (vI x2), some (vI x3), some (vI 1), some (vI 0)]) d11_quiet_26 (by decide) rfl ?_
    exact tl11_quiet_28 l G _ hd x2 x3 rec14 H14 FU (1, 0, h) trivial
def l11_quiet_14 (x2 : Int) (x3 : Int) (h : AH) : Option (Int × AH) := fx (fun rec z => b11_quiet_14 rec z.1 z.2.1 z.2.2) FU (x2, x3, h)
set_option maxRecDepth 100000 in
theorem tl11_quiet_14 (l : Launch) (G : Geo) (d : Nat) (hd : 7 ≤ d) : ∀ (n : Nat) (z : Int × Int × AH), True → Den l G m11_quiet rvI d 14 [some (vA G 69), none, some (vI z.1), some (vI z.2.1), none, none] [] z.2.2 (fx (fun rec z => b11_quiet_14 rec z.1 z.2.1 z.2.2) n z) :=
  den_fx (F := fun rec z => b11_quiet_14 rec z.1 z.2.1 z.2.2) (P := fun z => True) (fL := fun z => [some (vA G 69), none, some (vI z.1), some (vI z.2.1), none, none]) (fs := fun z => []) (fh := fun z => z.2.2) (fun rec hrec z hz => t11_quiet_14 l G d hd z.1 z.2.1 rec (fun x2 x3 h => hrec (x2, x3, h) trivial) z.2.2 )
def f11_quiet (x1 : Int) (h : AH) : Option (Int × AH) :=
  bnd (f11_isVillage x1 h) fun r6 h7 =>
  if ¬ w32 r6 = 0 then
    l11_quiet_14 0 0 h7
  else
    some ((-1), h7)
set_option maxRecDepth 100000 in
theorem c11_quiet (l : Launch) (G : Geo) (x1 : Int) (h : AH) : Con l G m11_quiet rvI 7 [vA G 69, vI x1] h (f11_quiet x1 h) := by
  have hd : 7 ≤ 7 := Nat.le_refl _
  refine con_I rfl (by decide) rfl rfl (Nat.le_of_ble_eq_true rfl) (L := [some (vA G 69), some (vI x1), none, none, none, none]) ?_
  unfold f11_quiet
  refine den_aload_n (pc := 0) d11_quiet_0 rfl rfl ?_
  refine den_iload_n (pc := 1) d11_quiet_1 rfl rfl ?_
  refine den_callVI (pc := 2) (As := [vI x1]) fv_11_201 rfl rfl (ok_69 _) (Nat.le_of_ble_eq_true rfl) (Nat.le_trans (by decide) hd) d11_quiet_2 (c11_isVillage l G x1 h) (fun r6 h7 m8 o9 => ?_)
  refine den_if_ne (pc := 5) (tgt := 10) d11_quiet_5 (by decide) rfl (fun _ => ?_) (fun _ => ?_)
  · refine den_iconst (pc := 10) d11_quiet_10 ?_
    refine den_istore_n (pc := 11) (L2 := [some (vA G 69), some (vI x1), some (vI 0), none, none, none]) d11_quiet_11 rfl (by decide) rfl ?_
    refine den_iconst (pc := 12) d11_quiet_12 ?_
    refine den_istore_n (pc := 13) (L2 := [some (vA G 69), some (vI x1), some (vI 0), some (vI 0), none, none]) d11_quiet_13 rfl (by decide) rfl ?_
    refine den_wk [true, false, true, true, true, true] rfl ?_
    exact tl11_quiet_14 l G _ hd FU (0, 0, h7) trivial
  · refine den_iconst (pc := 8) d11_quiet_8 ?_
    exact den_iret (pc := 9) rfl d11_quiet_9
theorem d11_isDay_0 : decode m11_isDay.2.1 0 = .ok (.aload_n 0, 1) := by decide +kernel
theorem d11_isDay_1 : decode m11_isDay.2.1 1 = .ok (.iconst 1, 1) := by decide +kernel
theorem d11_isDay_2 : decode m11_isDay.2.1 2 = .ok (.iload_n 1, 1) := by decide +kernel
theorem d11_isDay_3 : decode m11_isDay.2.1 3 = .ok (.invokevirtual 166, 3) := by decide +kernel
theorem d11_isDay_6 : decode m11_isDay.2.1 6 = .ok (.ifCond .ne 5, 3) := by decide +kernel
theorem d11_isDay_9 : decode m11_isDay.2.1 9 = .ok (.iconst 0, 1) := by decide +kernel
theorem d11_isDay_10 : decode m11_isDay.2.1 10 = .ok (.ireturn, 1) := by decide +kernel
theorem d11_isDay_11 : decode m11_isDay.2.1 11 = .ok (.aload_n 0, 1) := by decide +kernel
theorem d11_isDay_12 : decode m11_isDay.2.1 12 = .ok (.iconst 1, 1) := by decide +kernel
theorem d11_isDay_13 : decode m11_isDay.2.1 13 = .ok (.iload_n 1, 1) := by decide +kernel
theorem d11_isDay_14 : decode m11_isDay.2.1 14 = .ok (.invokestatic 186, 3) := by decide +kernel
theorem d11_isDay_17 : decode m11_isDay.2.1 17 = .ok (.putfield 322, 3) := by decide +kernel
theorem d11_isDay_20 : decode m11_isDay.2.1 20 = .ok (.iconst 1, 1) := by decide +kernel
theorem d11_isDay_21 : decode m11_isDay.2.1 21 = .ok (.ireturn, 1) := by decide +kernel
def f11_isDay (x1 : Int) (h : AH) : Option (Int × AH) :=
  bnd (f11_isOf 1 x1 h) fun r1 h2 =>
  if ¬ w32 r1 = 0 then
    bnd (f11_placeOf 1 x1 h2) fun r5 h6 =>
    lt (wr h6 69 31 r5) fun h9 =>
    some (1, h9)
  else
    some (0, h2)
set_option maxRecDepth 100000 in
theorem c11_isDay (l : Launch) (G : Geo) (x1 : Int) (h : AH) : Con l G m11_isDay rvI 4 [vA G 69, vI x1] h (f11_isDay x1 h) := by
  have hd : 4 ≤ 4 := Nat.le_refl _
  refine con_Z rfl (by decide) rfl rfl (Nat.le_of_ble_eq_true rfl) (L := [some (vA G 69), some (vI x1)]) ?_
  unfold f11_isDay
  refine den_aload_n (pc := 0) d11_isDay_0 rfl rfl ?_
  refine den_iconst (pc := 1) d11_isDay_1 ?_
  refine den_iload_n (pc := 2) d11_isDay_2 rfl rfl ?_
  refine den_callVI (pc := 3) (As := [vI 1, vI x1]) fv_11_166 rfl rfl (ok_69 _) (Nat.le_of_ble_eq_true rfl) (Nat.le_trans (by decide) hd) d11_isDay_3 (c11_isOf l G 1 x1 h) (fun r1 h2 m3 o4 => ?_)
  refine den_if_ne (pc := 6) (tgt := 11) d11_isDay_6 (by decide) rfl (fun _ => ?_) (fun _ => ?_)
  · refine den_aload_n (pc := 11) d11_isDay_11 rfl rfl ?_
    refine den_iconst (pc := 12) d11_isDay_12 ?_
    refine den_iload_n (pc := 13) d11_isDay_13 rfl rfl ?_
    refine den_callSI (pc := 14) (As := [vI 1, vI x1]) fs_11_186 rfl rfl (Nat.le_of_ble_eq_true rfl) (Nat.le_trans (by decide) hd) d11_isDay_14 (c11_placeOf l G 1 x1 h2) (fun r5 h6 m7 o8 => ?_)
    refine den_putI (pc := 17) fp_11_322 (ok_69 _) d11_isDay_17 ?_
    refine den_ltH (fun h9 m10 => ?_)
    refine den_iconst (pc := 20) d11_isDay_20 ?_
    exact den_zret (pc := 21) rfl (by decide) d11_isDay_21
  · refine den_iconst (pc := 9) d11_isDay_9 ?_
    exact den_zret (pc := 10) rfl (by decide) d11_isDay_10
theorem d11_deed_0 : decode m11_deed.2.1 0 = .ok (.aload_n 0, 1) := by decide +kernel
theorem d11_deed_1 : decode m11_deed.2.1 1 = .ok (.iload_n 1, 1) := by decide +kernel
theorem d11_deed_2 : decode m11_deed.2.1 2 = .ok (.invokevirtual 325, 3) := by decide +kernel
theorem d11_deed_5 : decode m11_deed.2.1 5 = .ok (.ifCond .ne 6, 3) := by decide +kernel
theorem d11_deed_8 : decode m11_deed.2.1 8 = .ok (.bipush (-2), 2) := by decide +kernel
theorem d11_deed_10 : decode m11_deed.2.1 10 = .ok (.ireturn, 1) := by decide +kernel
theorem d11_deed_11 : decode m11_deed.2.1 11 = .ok (.iload_n 2, 1) := by decide +kernel
theorem d11_deed_12 : decode m11_deed.2.1 12 = .ok (.iconst (-1), 1) := by decide +kernel
theorem d11_deed_13 : decode m11_deed.2.1 13 = .ok (.if_icmp .ne 22, 3) := by decide +kernel
theorem d11_deed_16 : decode m11_deed.2.1 16 = .ok (.iload_n 3, 1) := by decide +kernel
theorem d11_deed_17 : decode m11_deed.2.1 17 = .ok (.ifCond .ne 15, 3) := by decide +kernel
theorem d11_deed_20 : decode m11_deed.2.1 20 = .ok (.aload_n 0, 1) := by decide +kernel
theorem d11_deed_21 : decode m11_deed.2.1 21 = .ok (.getfield 7, 3) := by decide +kernel
theorem d11_deed_24 : decode m11_deed.2.1 24 = .ok (.aload_n 0, 1) := by decide +kernel
theorem d11_deed_25 : decode m11_deed.2.1 25 = .ok (.getfield 322, 3) := by decide +kernel
theorem d11_deed_28 : decode m11_deed.2.1 28 = .ok (.iaload, 1) := by decide +kernel
theorem d11_deed_29 : decode m11_deed.2.1 29 = .ok (.goto 5, 3) := by decide +kernel
theorem d11_deed_32 : decode m11_deed.2.1 32 = .ok (.bipush (-2), 2) := by decide +kernel
theorem d11_deed_34 : decode m11_deed.2.1 34 = .ok (.ireturn, 1) := by decide +kernel
theorem d11_deed_35 : decode m11_deed.2.1 35 = .ok (.iload_n 2, 1) := by decide +kernel
theorem d11_deed_36 : decode m11_deed.2.1 36 = .ok (.iconst 0, 1) := by decide +kernel
theorem d11_deed_37 : decode m11_deed.2.1 37 = .ok (.aload_n 0, 1) := by decide +kernel
theorem d11_deed_38 : decode m11_deed.2.1 38 = .ok (.getfield 7, 3) := by decide +kernel
theorem d11_deed_41 : decode m11_deed.2.1 41 = .ok (.aload_n 0, 1) := by decide +kernel
theorem d11_deed_42 : decode m11_deed.2.1 42 = .ok (.getfield 322, 3) := by decide +kernel
theorem d11_deed_45 : decode m11_deed.2.1 45 = .ok (.iaload, 1) := by decide +kernel
theorem d11_deed_46 : decode m11_deed.2.1 46 = .ok (.iconst 1, 1) := by decide +kernel
theorem d11_deed_47 : decode m11_deed.2.1 47 = .ok (.isub, 1) := by decide +kernel
theorem d11_deed_48 : decode m11_deed.2.1 48 = .ok (.invokestatic 135, 3) := by decide +kernel
theorem d11_deed_51 : decode m11_deed.2.1 51 = .ok (.ifCond .eq 32, 3) := by decide +kernel
theorem d11_deed_54 : decode m11_deed.2.1 54 = .ok (.iload_n 3, 1) := by decide +kernel
theorem d11_deed_55 : decode m11_deed.2.1 55 = .ok (.iconst 0, 1) := by decide +kernel
theorem d11_deed_56 : decode m11_deed.2.1 56 = .ok (.iconst 4, 1) := by decide +kernel
theorem d11_deed_57 : decode m11_deed.2.1 57 = .ok (.invokestatic 135, 3) := by decide +kernel
theorem d11_deed_60 : decode m11_deed.2.1 60 = .ok (.ifCond .eq 23, 3) := by decide +kernel
theorem d11_deed_63 : decode m11_deed.2.1 63 = .ok (.aload_n 0, 1) := by decide +kernel
theorem d11_deed_64 : decode m11_deed.2.1 64 = .ok (.getfield 7, 3) := by decide +kernel
theorem d11_deed_67 : decode m11_deed.2.1 67 = .ok (.aload_n 0, 1) := by decide +kernel
theorem d11_deed_68 : decode m11_deed.2.1 68 = .ok (.getfield 322, 3) := by decide +kernel
theorem d11_deed_71 : decode m11_deed.2.1 71 = .ok (.iconst 1, 1) := by decide +kernel
theorem d11_deed_72 : decode m11_deed.2.1 72 = .ok (.iadd, 1) := by decide +kernel
theorem d11_deed_73 : decode m11_deed.2.1 73 = .ok (.iconst 5, 1) := by decide +kernel
theorem d11_deed_74 : decode m11_deed.2.1 74 = .ok (.iload_n 2, 1) := by decide +kernel
theorem d11_deed_75 : decode m11_deed.2.1 75 = .ok (.imul, 1) := by decide +kernel
theorem d11_deed_76 : decode m11_deed.2.1 76 = .ok (.iadd, 1) := by decide +kernel
theorem d11_deed_77 : decode m11_deed.2.1 77 = .ok (.iload_n 3, 1) := by decide +kernel
theorem d11_deed_78 : decode m11_deed.2.1 78 = .ok (.iadd, 1) := by decide +kernel
theorem d11_deed_79 : decode m11_deed.2.1 79 = .ok (.iaload, 1) := by decide +kernel
theorem d11_deed_80 : decode m11_deed.2.1 80 = .ok (.goto 5, 3) := by decide +kernel
theorem d11_deed_83 : decode m11_deed.2.1 83 = .ok (.bipush (-2), 2) := by decide +kernel
theorem d11_deed_85 : decode m11_deed.2.1 85 = .ok (.ireturn, 1) := by decide +kernel
def f11_deed (x1 : Int) (x2 : Int) (x3 : Int) (h : AH) : Option (Int × AH) :=
  bnd (f11_isDay x1 h) fun r1 h2 =>
  if ¬ w32 r1 = 0 then
    if ¬ w32 x2 = (-1) then
      asrt (0 ≤ w32 (h2.2 69 31) ∧ w32 (h2.2 69 31) < 4824) <|
      bnd (f11_isIn x2 0 ((h2.2 70 (w32 (h2.2 69 31)).toNat) - 1) h2) fun r6 h7 =>
      if w32 r6 = 0 then
        some ((-2), h7)
      else
        bnd (f11_isIn x3 0 4 h7) fun r10 h11 =>
        if w32 r10 = 0 then
          some ((-2), h11)
        else
          asrt (0 ≤ w32 ((((h11.2 69 31) + 1) + (5 * x2)) + x3) ∧ w32 ((((h11.2 69 31) + 1) + (5 * x2)) + x3) < 4824) <|
          some (h11.2 70 (w32 ((((h11.2 69 31) + 1) + (5 * x2)) + x3)).toNat, h11)
    else
      if ¬ w32 x3 = 0 then
        some ((-2), h2)
      else
        asrt (0 ≤ w32 (h2.2 69 31) ∧ w32 (h2.2 69 31) < 4824) <|
        some (h2.2 70 (w32 (h2.2 69 31)).toNat, h2)
  else
    some ((-2), h2)
set_option maxRecDepth 100000 in
theorem c11_deed (l : Launch) (G : Geo) (x1 : Int) (x2 : Int) (x3 : Int) (h : AH) : Con l G m11_deed rvI 5 [vA G 69, vI x1, vI x2, vI x3] h (f11_deed x1 x2 x3 h) := by
  have hd : 5 ≤ 5 := Nat.le_refl _
  refine con_I rfl (by decide) rfl rfl (Nat.le_of_ble_eq_true rfl) (L := [some (vA G 69), some (vI x1), some (vI x2), some (vI x3)]) ?_
  unfold f11_deed
  refine den_aload_n (pc := 0) d11_deed_0 rfl rfl ?_
  refine den_iload_n (pc := 1) d11_deed_1 rfl rfl ?_
  refine den_callVI (pc := 2) (As := [vI x1]) fv_11_325 rfl rfl (ok_69 _) (Nat.le_of_ble_eq_true rfl) (Nat.le_trans (by decide) hd) d11_deed_2 (c11_isDay l G x1 h) (fun r1 h2 m3 o4 => ?_)
  refine den_if_ne (pc := 5) (tgt := 11) d11_deed_5 (by decide) rfl (fun _ => ?_) (fun _ => ?_)
  · refine den_iload_n (pc := 11) d11_deed_11 rfl rfl ?_
    refine den_iconst (pc := 12) d11_deed_12 ?_
    refine den_icmp_ne (pc := 13) (tgt := 35) d11_deed_13 (by decide) rfl (by decide) (fun _ => ?_) (fun _ => ?_)
    · refine den_iload_n (pc := 35) d11_deed_35 rfl rfl ?_
      refine den_iconst (pc := 36) d11_deed_36 ?_
      refine den_aload_n (pc := 37) d11_deed_37 rfl rfl ?_
      refine den_getR (pc := 38) (b := 70) fa_11_7 (ok_69 _) rfl d11_deed_38 ?_
      refine den_aload_n (pc := 41) d11_deed_41 rfl rfl ?_
      refine den_getI (pc := 42) fa_11_322 (ok_69 _) d11_deed_42 ?_
      refine den_asrt (fun a5 => ?_)
      refine den_iaload (pc := 45) sh_70 (sz_lt (by decide)) rfl a5 d11_deed_45 ?_
      refine den_iconst (pc := 46) d11_deed_46 ?_
      refine den_isub (pc := 47) d11_deed_47 ?_
      refine den_callSI (pc := 48) (As := [vI x2, vI 0, vI ((h2.2 70 (w32 (h2.2 69 31)).toNat) - 1)]) fs_11_135 rfl rfl (Nat.le_of_ble_eq_true rfl) (Nat.le_trans (by decide) hd) d11_deed_48 (c11_isIn l G x2 0 ((h2.2 70 (w32 (h2.2 69 31)).toNat) - 1) h2) (fun r6 h7 m8 o9 => ?_)
      refine den_if_eq (pc := 51) (tgt := 83) d11_deed_51 (by decide) rfl (fun _ => ?_) (fun _ => ?_)
      · refine den_bipush (pc := 83) d11_deed_83 (by decide) ?_
        exact den_iret (pc := 85) rfl d11_deed_85
      · refine den_iload_n (pc := 54) d11_deed_54 rfl rfl ?_
        refine den_iconst (pc := 55) d11_deed_55 ?_
        refine den_iconst (pc := 56) d11_deed_56 ?_
        refine den_callSI (pc := 57) (As := [vI x3, vI 0, vI 4]) fs_11_135 rfl rfl (Nat.le_of_ble_eq_true rfl) (Nat.le_trans (by decide) hd) d11_deed_57 (c11_isIn l G x3 0 4 h7) (fun r10 h11 m12 o13 => ?_)
        refine den_if_eq (pc := 60) (tgt := 83) d11_deed_60 (by decide) rfl (fun _ => ?_) (fun _ => ?_)
        · refine den_bipush (pc := 83) d11_deed_83 (by decide) ?_
          exact den_iret (pc := 85) rfl d11_deed_85
        · refine den_aload_n (pc := 63) d11_deed_63 rfl rfl ?_
          refine den_getR (pc := 64) (b := 70) fa_11_7 (ok_69 _) rfl d11_deed_64 ?_
          refine den_aload_n (pc := 67) d11_deed_67 rfl rfl ?_
          refine den_getI (pc := 68) fa_11_322 (ok_69 _) d11_deed_68 ?_
          refine den_iconst (pc := 71) d11_deed_71 ?_
          refine den_iadd (pc := 72) d11_deed_72 ?_
          refine den_iconst (pc := 73) d11_deed_73 ?_
          refine den_iload_n (pc := 74) d11_deed_74 rfl rfl ?_
          refine den_imul (pc := 75) d11_deed_75 ?_
          refine den_iadd (pc := 76) d11_deed_76 ?_
          refine den_iload_n (pc := 77) d11_deed_77 rfl rfl ?_
          refine den_iadd (pc := 78) d11_deed_78 ?_
          refine den_asrt (fun a14 => ?_)
          refine den_iaload (pc := 79) sh_70 (sz_lt (by decide)) rfl a14 d11_deed_79 ?_
          refine den_goto (pc := 80) (tgt := 85) d11_deed_80 (by decide) ?_
          exact den_iret (pc := 85) rfl d11_deed_85
    · refine den_iload_n (pc := 16) d11_deed_16 rfl rfl ?_
      refine den_if_ne (pc := 17) (tgt := 32) d11_deed_17 (by decide) rfl (fun _ => ?_) (fun _ => ?_)
      · refine den_bipush (pc := 32) d11_deed_32 (by decide) ?_
        exact den_iret (pc := 34) rfl d11_deed_34
      · refine den_aload_n (pc := 20) d11_deed_20 rfl rfl ?_
        refine den_getR (pc := 21) (b := 70) fa_11_7 (ok_69 _) rfl d11_deed_21 ?_
        refine den_aload_n (pc := 24) d11_deed_24 rfl rfl ?_
        refine den_getI (pc := 25) fa_11_322 (ok_69 _) d11_deed_25 ?_
        refine den_asrt (fun a15 => ?_)
        refine den_iaload (pc := 28) sh_70 (sz_lt (by decide)) rfl a15 d11_deed_28 ?_
        refine den_goto (pc := 29) (tgt := 34) d11_deed_29 (by decide) ?_
        exact den_iret (pc := 34) rfl d11_deed_34
  · refine den_bipush (pc := 8) d11_deed_8 (by decide) ?_
    exact den_iret (pc := 10) rfl d11_deed_10
theorem d11_begins_0 : decode m11_begins.2.1 0 = .ok (.aload_n 0, 1) := by decide +kernel
theorem d11_begins_1 : decode m11_begins.2.1 1 = .ok (.iconst 0, 1) := by decide +kernel
theorem d11_begins_2 : decode m11_begins.2.1 2 = .ok (.putfield 328, 3) := by decide +kernel
theorem d11_begins_5 : decode m11_begins.2.1 5 = .ok (.aload_n 0, 1) := by decide +kernel
theorem d11_begins_6 : decode m11_begins.2.1 6 = .ok (.iconst 0, 1) := by decide +kernel
theorem d11_begins_7 : decode m11_begins.2.1 7 = .ok (.putfield 331, 3) := by decide +kernel
theorem d11_begins_10 : decode m11_begins.2.1 10 = .ok (.aload_n 0, 1) := by decide +kernel
theorem d11_begins_11 : decode m11_begins.2.1 11 = .ok (.iconst 0, 1) := by decide +kernel
theorem d11_begins_12 : decode m11_begins.2.1 12 = .ok (.putfield 334, 3) := by decide +kernel
theorem d11_begins_15 : decode m11_begins.2.1 15 = .ok (.aload_n 0, 1) := by decide +kernel
theorem d11_begins_16 : decode m11_begins.2.1 16 = .ok (.iconst 0, 1) := by decide +kernel
theorem d11_begins_17 : decode m11_begins.2.1 17 = .ok (.putfield 337, 3) := by decide +kernel
theorem d11_begins_20 : decode m11_begins.2.1 20 = .ok (.aload_n 0, 1) := by decide +kernel
theorem d11_begins_21 : decode m11_begins.2.1 21 = .ok (.iconst 0, 1) := by decide +kernel
theorem d11_begins_22 : decode m11_begins.2.1 22 = .ok (.putfield 340, 3) := by decide +kernel
theorem d11_begins_25 : decode m11_begins.2.1 25 = .ok (.iconst 0, 1) := by decide +kernel
theorem d11_begins_26 : decode m11_begins.2.1 26 = .ok (.istore_n 1, 1) := by decide +kernel
theorem d11_begins_27 : decode m11_begins.2.1 27 = .ok (.iload_n 1, 1) := by decide +kernel
theorem d11_begins_28 : decode m11_begins.2.1 28 = .ok (.iconst 4, 1) := by decide +kernel
theorem d11_begins_29 : decode m11_begins.2.1 29 = .ok (.if_icmp .ge 16, 3) := by decide +kernel
theorem d11_begins_32 : decode m11_begins.2.1 32 = .ok (.aload_n 0, 1) := by decide +kernel
theorem d11_begins_33 : decode m11_begins.2.1 33 = .ok (.getfield 65, 3) := by decide +kernel
theorem d11_begins_36 : decode m11_begins.2.1 36 = .ok (.iload_n 1, 1) := by decide +kernel
theorem d11_begins_37 : decode m11_begins.2.1 37 = .ok (.iconst 0, 1) := by decide +kernel
theorem d11_begins_38 : decode m11_begins.2.1 38 = .ok (.iastore, 1) := by decide +kernel
theorem d11_begins_39 : decode m11_begins.2.1 39 = .ok (.iinc 1 1, 3) := by decide +kernel
theorem d11_begins_42 : decode m11_begins.2.1 42 = .ok (.goto (-15), 3) := by decide +kernel
theorem d11_begins_45 : decode m11_begins.2.1 45 = .ok (.iconst 0, 1) := by decide +kernel
theorem d11_begins_46 : decode m11_begins.2.1 46 = .ok (.istore_n 1, 1) := by decide +kernel
theorem d11_begins_47 : decode m11_begins.2.1 47 = .ok (.iload_n 1, 1) := by decide +kernel
theorem d11_begins_48 : decode m11_begins.2.1 48 = .ok (.aload_n 0, 1) := by decide +kernel
theorem d11_begins_49 : decode m11_begins.2.1 49 = .ok (.getfield 195, 3) := by decide +kernel
theorem d11_begins_52 : decode m11_begins.2.1 52 = .ok (.if_icmp .ge 20, 3) := by decide +kernel
theorem d11_begins_55 : decode m11_begins.2.1 55 = .ok (.aload_n 0, 1) := by decide +kernel
theorem d11_begins_56 : decode m11_begins.2.1 56 = .ok (.getfield 68, 3) := by decide +kernel
theorem d11_begins_59 : decode m11_begins.2.1 59 = .ok (.iload_n 1, 1) := by decide +kernel
theorem d11_begins_60 : decode m11_begins.2.1 60 = .ok (.aload_n 0, 1) := by decide +kernel
theorem d11_begins_61 : decode m11_begins.2.1 61 = .ok (.iload_n 1, 1) := by decide +kernel
theorem d11_begins_62 : decode m11_begins.2.1 62 = .ok (.invokevirtual 213, 3) := by decide +kernel
theorem d11_begins_65 : decode m11_begins.2.1 65 = .ok (.iastore, 1) := by decide +kernel
theorem d11_begins_66 : decode m11_begins.2.1 66 = .ok (.iinc 1 1, 3) := by decide +kernel
theorem d11_begins_69 : decode m11_begins.2.1 69 = .ok (.goto (-22), 3) := by decide +kernel
theorem d11_begins_72 : decode m11_begins.2.1 72 = .ok (.iconst 0, 1) := by decide +kernel
theorem d11_begins_73 : decode m11_begins.2.1 73 = .ok (.istore_n 1, 1) := by decide +kernel
theorem d11_begins_74 : decode m11_begins.2.1 74 = .ok (.iload_n 1, 1) := by decide +kernel
theorem d11_begins_75 : decode m11_begins.2.1 75 = .ok (.bipush 48, 2) := by decide +kernel
theorem d11_begins_77 : decode m11_begins.2.1 77 = .ok (.if_icmp .ge 29, 3) := by decide +kernel
theorem d11_begins_80 : decode m11_begins.2.1 80 = .ok (.aload_n 0, 1) := by decide +kernel
theorem d11_begins_81 : decode m11_begins.2.1 81 = .ok (.getfield 71, 3) := by decide +kernel
theorem d11_begins_84 : decode m11_begins.2.1 84 = .ok (.iload_n 1, 1) := by decide +kernel
theorem d11_begins_85 : decode m11_begins.2.1 85 = .ok (.aload_n 0, 1) := by decide +kernel
theorem d11_begins_86 : decode m11_begins.2.1 86 = .ok (.getfield 7, 3) := by decide +kernel
theorem d11_begins_89 : decode m11_begins.2.1 89 = .ok (.aload_n 0, 1) := by decide +kernel
theorem d11_begins_90 : decode m11_begins.2.1 90 = .ok (.getfield 189, 3) := by decide +kernel
theorem d11_begins_93 : decode m11_begins.2.1 93 = .ok (.bipush 24, 2) := by decide +kernel
theorem d11_begins_95 : decode m11_begins.2.1 95 = .ok (.iadd, 1) := by decide +kernel
theorem d11_begins_96 : decode m11_begins.2.1 96 = .ok (.iload_n 1, 1) := by decide +kernel
theorem d11_begins_97 : decode m11_begins.2.1 97 = .ok (.iadd, 1) := by decide +kernel
theorem d11_begins_98 : decode m11_begins.2.1 98 = .ok (.iaload, 1) := by decide +kernel
theorem d11_begins_99 : decode m11_begins.2.1 99 = .ok (.iastore, 1) := by decide +kernel
theorem d11_begins_100 : decode m11_begins.2.1 100 = .ok (.iinc 1 1, 3) := by decide +kernel
theorem d11_begins_103 : decode m11_begins.2.1 103 = .ok (.goto (-29), 3) := by decide +kernel
theorem d11_begins_106 : decode m11_begins.2.1 106 = .ok (.return_, 1) := by decide +kernel
def b11_begins_74 (rec74 : Int × AH → Option (Int × AH)) (x1 : Int) (h : AH) : Option (Int × AH) :=
  if 48 ≤ w32 x1 then
    some (0, h)
  else
    asrt (0 ≤ w32 (((h.2 69 12) + 24) + x1) ∧ w32 (((h.2 69 12) + 24) + x1) < 4824) <|
    asrt (0 ≤ w32 x1 ∧ w32 x1 < 48) <|
    lt (wr h 90 (w32 x1).toNat (h.2 70 (w32 (((h.2 69 12) + 24) + x1)).toNat)) fun h3 =>
    rec74 ((x1 + 1), h3)
set_option maxRecDepth 100000 in
theorem t11_begins_74 (l : Launch) (G : Geo) (d : Nat) (hd : 3 ≤ d) (x1 : Int) (rec74 : Int × AH → Option (Int × AH)) (H74 : ∀ (x1 : Int) (h : AH), Den l G m11_begins rvV d 74 [some (vA G 69), some (vI x1)] [] h (rec74 (x1, h))) (h : AH) : Den l G m11_begins rvV d 74 [some (vA G 69), some (vI x1)] [] h (b11_begins_74 rec74 x1 h) := by
  unfold b11_begins_74
  refine den_iload_n (pc := 74) d11_begins_74 rfl rfl ?_
  refine den_bipush (pc := 75) d11_begins_75 (by decide) ?_
  refine den_icmp_ge (pc := 77) (tgt := 106) d11_begins_77 (by decide) rfl (by decide) (fun _ => ?_) (fun _ => ?_)
  · exact den_vret (pc := 106) rfl d11_begins_106
  · refine den_aload_n (pc := 80) d11_begins_80 rfl rfl ?_
    refine den_getR (pc := 81) (b := 90) fa_11_71 (ok_69 _) rfl d11_begins_81 ?_
    refine den_iload_n (pc := 84) d11_begins_84 rfl rfl ?_
    refine den_aload_n (pc := 85) d11_begins_85 rfl rfl ?_
    refine den_getR (pc := 86) (b := 70) fa_11_7 (ok_69 _) rfl d11_begins_86 ?_
    refine den_aload_n (pc := 89) d11_begins_89 rfl rfl ?_
    refine den_getI (pc := 90) fa_11_189 (ok_69 _) d11_begins_90 ?_
    refine den_bipush (pc := 93) d11_begins_93 (by decide) ?_
    refine den_iadd (pc := 95) d11_begins_95 ?_
    refine den_iload_n (pc := 96) d11_begins_96 rfl rfl ?_
    refine den_iadd (pc := 97) d11_begins_97 ?_
    refine den_asrt (fun a1 => ?_)
    refine den_iaload (pc := 98) sh_70 (sz_lt (by decide)) rfl a1 d11_begins_98 ?_
    refine den_asrt (fun a2 => ?_)
    refine den_iastore (pc := 99) sh_90 (sz_lt (by decide)) rfl a2 d11_begins_99 ?_
    refine den_ltH (fun h3 m4 => ?_)
    refine den_iinc (pc := 100) (L2 := [some (vA G 69), some (vI (x1 + 1))]) d11_begins_100 (by decide) rfl rfl ?_
    refine den_goto (pc := 103) (tgt := 74) d11_begins_103 (by decide) ?_
    exact H74 (x1 + 1) h3
def l11_begins_74 (x1 : Int) (h : AH) : Option (Int × AH) := fx (fun rec z => b11_begins_74 rec z.1 z.2) FU (x1, h)
set_option maxRecDepth 100000 in
theorem tl11_begins_74 (l : Launch) (G : Geo) (d : Nat) (hd : 3 ≤ d) : ∀ (n : Nat) (z : Int × AH), True → Den l G m11_begins rvV d 74 [some (vA G 69), some (vI z.1)] [] z.2 (fx (fun rec z => b11_begins_74 rec z.1 z.2) n z) :=
  den_fx (F := fun rec z => b11_begins_74 rec z.1 z.2) (P := fun z => True) (fL := fun z => [some (vA G 69), some (vI z.1)]) (fs := fun z => []) (fh := fun z => z.2) (fun rec hrec z hz => t11_begins_74 l G d hd z.1 rec (fun x1 h => hrec (x1, h) trivial) z.2 )
def b11_begins_47 (rec47 : Int × AH → Option (Int × AH)) (x1 : Int) (h : AH) : Option (Int × AH) :=
  if w32 (h.2 69 14) ≤ w32 x1 then
    l11_begins_74 0 h
  else
    bnd (f11_heatOf x1 h) fun r5 h6 =>
    asrt (0 ≤ w32 x1 ∧ w32 x1 < 6) <|
    lt (wr h6 89 (w32 x1).toNat r5) fun h10 =>
    rec47 ((x1 + 1), h10)
set_option maxRecDepth 100000 in
theorem t11_begins_47 (l : Launch) (G : Geo) (d : Nat) (hd : 3 ≤ d) (x1 : Int) (rec47 : Int × AH → Option (Int × AH)) (H47 : ∀ (x1 : Int) (h : AH), Den l G m11_begins rvV d 47 [some (vA G 69), some (vI x1)] [] h (rec47 (x1, h))) (h : AH) : Den l G m11_begins rvV d 47 [some (vA G 69), some (vI x1)] [] h (b11_begins_47 rec47 x1 h) := by
  unfold b11_begins_47
  refine den_iload_n (pc := 47) d11_begins_47 rfl rfl ?_
  refine den_aload_n (pc := 48) d11_begins_48 rfl rfl ?_
  refine den_getI (pc := 49) fa_11_195 (ok_69 _) d11_begins_49 ?_
  refine den_icmp_ge (pc := 52) (tgt := 72) d11_begins_52 (by decide) rfl rfl (fun _ => ?_) (fun _ => ?_)
  · refine den_iconst (pc := 72) d11_begins_72 ?_
    refine den_istore_n (pc := 73) (L2 := [some (vA G 69), some (vI 0)]) d11_begins_73 rfl (by decide) rfl ?_
    exact tl11_begins_74 l G _ hd FU (0, h) trivial
  · refine den_aload_n (pc := 55) d11_begins_55 rfl rfl ?_
    refine den_getR (pc := 56) (b := 89) fa_11_68 (ok_69 _) rfl d11_begins_56 ?_
    refine den_iload_n (pc := 59) d11_begins_59 rfl rfl ?_
    refine den_aload_n (pc := 60) d11_begins_60 rfl rfl ?_
    refine den_iload_n (pc := 61) d11_begins_61 rfl rfl ?_
    refine den_callVI (pc := 62) (As := [vI x1]) fv_11_213 rfl rfl (ok_69 _) (Nat.le_of_ble_eq_true rfl) (Nat.le_trans (by decide) hd) d11_begins_62 (c11_heatOf l G x1 h) (fun r5 h6 m7 o8 => ?_)
    refine den_asrt (fun a9 => ?_)
    refine den_iastore (pc := 65) sh_89 (sz_lt (by decide)) rfl a9 d11_begins_65 ?_
    refine den_ltH (fun h10 m11 => ?_)
    refine den_iinc (pc := 66) (L2 := [some (vA G 69), some (vI (x1 + 1))]) d11_begins_66 (by decide) rfl rfl ?_
    refine den_goto (pc := 69) (tgt := 47) d11_begins_69 (by decide) ?_
    exact H47 (x1 + 1) h10
def l11_begins_47 (x1 : Int) (h : AH) : Option (Int × AH) := fx (fun rec z => b11_begins_47 rec z.1 z.2) FU (x1, h)
set_option maxRecDepth 100000 in
theorem tl11_begins_47 (l : Launch) (G : Geo) (d : Nat) (hd : 3 ≤ d) : ∀ (n : Nat) (z : Int × AH), True → Den l G m11_begins rvV d 47 [some (vA G 69), some (vI z.1)] [] z.2 (fx (fun rec z => b11_begins_47 rec z.1 z.2) n z) :=
  den_fx (F := fun rec z => b11_begins_47 rec z.1 z.2) (P := fun z => True) (fL := fun z => [some (vA G 69), some (vI z.1)]) (fs := fun z => []) (fh := fun z => z.2) (fun rec hrec z hz => t11_begins_47 l G d hd z.1 rec (fun x1 h => hrec (x1, h) trivial) z.2 )
def b11_begins_27 (rec27 : Int × AH → Option (Int × AH)) (x1 : Int) (h : AH) : Option (Int × AH) :=
  if 4 ≤ w32 x1 then
    l11_begins_47 0 h
  else
    asrt (0 ≤ w32 x1 ∧ w32 x1 < 4) <|
    lt (wr h 88 (w32 x1).toNat 0) fun h13 =>
    rec27 ((x1 + 1), h13)
set_option maxRecDepth 100000 in
theorem t11_begins_27 (l : Launch) (G : Geo) (d : Nat) (hd : 3 ≤ d) (x1 : Int) (rec27 : Int × AH → Option (Int × AH)) (H27 : ∀ (x1 : Int) (h : AH), Den l G m11_begins rvV d 27 [some (vA G 69), some (vI x1)] [] h (rec27 (x1, h))) (h : AH) : Den l G m11_begins rvV d 27 [some (vA G 69), some (vI x1)] [] h (b11_begins_27 rec27 x1 h) := by
  unfold b11_begins_27
  refine den_iload_n (pc := 27) d11_begins_27 rfl rfl ?_
  refine den_iconst (pc := 28) d11_begins_28 ?_
  refine den_icmp_ge (pc := 29) (tgt := 45) d11_begins_29 (by decide) rfl (by decide) (fun _ => ?_) (fun _ => ?_)
  · refine den_iconst (pc := 45) d11_begins_45 ?_
    refine den_istore_n (pc := 46) (L2 := [some (vA G 69), some (vI 0)]) d11_begins_46 rfl (by decide) rfl ?_
    exact tl11_begins_47 l G _ hd FU (0, h) trivial
  · refine den_aload_n (pc := 32) d11_begins_32 rfl rfl ?_
    refine den_getR (pc := 33) (b := 88) fa_11_65 (ok_69 _) rfl d11_begins_33 ?_
    refine den_iload_n (pc := 36) d11_begins_36 rfl rfl ?_
    refine den_iconst (pc := 37) d11_begins_37 ?_
    refine den_asrt (fun a12 => ?_)
    refine den_iastore (pc := 38) sh_88 (sz_lt (by decide)) rfl a12 d11_begins_38 ?_
    refine den_ltH (fun h13 m14 => ?_)
    refine den_iinc (pc := 39) (L2 := [some (vA G 69), some (vI (x1 + 1))]) d11_begins_39 (by decide) rfl rfl ?_
    refine den_goto (pc := 42) (tgt := 27) d11_begins_42 (by decide) ?_
    exact H27 (x1 + 1) h13
def l11_begins_27 (x1 : Int) (h : AH) : Option (Int × AH) := fx (fun rec z => b11_begins_27 rec z.1 z.2) FU (x1, h)
set_option maxRecDepth 100000 in
theorem tl11_begins_27 (l : Launch) (G : Geo) (d : Nat) (hd : 3 ≤ d) : ∀ (n : Nat) (z : Int × AH), True → Den l G m11_begins rvV d 27 [some (vA G 69), some (vI z.1)] [] z.2 (fx (fun rec z => b11_begins_27 rec z.1 z.2) n z) :=
  den_fx (F := fun rec z => b11_begins_27 rec z.1 z.2) (P := fun z => True) (fL := fun z => [some (vA G 69), some (vI z.1)]) (fs := fun z => []) (fh := fun z => z.2) (fun rec hrec z hz => t11_begins_27 l G d hd z.1 rec (fun x1 h => hrec (x1, h) trivial) z.2 )
def f11_begins (h : AH) : Option (Int × AH) :=
  lt (wr h 69 32 0) fun h15 =>
  lt (wr h15 69 33 0) fun h17 =>
  lt (wr h17 69 34 0) fun h19 =>
  lt (wr h19 69 35 0) fun h21 =>
  lt (wr h21 69 36 0) fun h23 =>
  l11_begins_27 0 h23
set_option maxRecDepth 100000 in
theorem c11_begins (l : Launch) (G : Geo) (h : AH) : Con l G m11_begins rvV 3 [vA G 69] h (f11_begins  h) := by
  have hd : 3 ≤ 3 := Nat.le_refl _
  refine con_V rfl (by decide) rfl rfl (Nat.le_of_ble_eq_true rfl) (L := [some (vA G 69), none]) ?_
  unfold f11_begins
  refine den_aload_n (pc := 0) d11_begins_0 rfl rfl ?_
  refine den_iconst (pc := 1) d11_begins_1 ?_
  refine den_putI (pc := 2) fp_11_328 (ok_69 _) d11_begins_2 ?_
  refine den_ltH (fun h15 m16 => ?_)
  refine den_aload_n (pc := 5) d11_begins_5 rfl rfl ?_
  refine den_iconst (pc := 6) d11_begins_6 ?_
  refine den_putI (pc := 7) fp_11_331 (ok_69 _) d11_begins_7 ?_
  refine den_ltH (fun h17 m18 => ?_)
  refine den_aload_n (pc := 10) d11_begins_10 rfl rfl ?_
  refine den_iconst (pc := 11) d11_begins_11 ?_
  refine den_putI (pc := 12) fp_11_334 (ok_69 _) d11_begins_12 ?_
  refine den_ltH (fun h19 m20 => ?_)
  refine den_aload_n (pc := 15) d11_begins_15 rfl rfl ?_
  refine den_iconst (pc := 16) d11_begins_16 ?_
  refine den_putI (pc := 17) fp_11_337 (ok_69 _) d11_begins_17 ?_
  refine den_ltH (fun h21 m22 => ?_)
  refine den_aload_n (pc := 20) d11_begins_20 rfl rfl ?_
  refine den_iconst (pc := 21) d11_begins_21 ?_
  refine den_putI (pc := 22) fp_11_340 (ok_69 _) d11_begins_22 ?_
  refine den_ltH (fun h23 m24 => ?_)
  refine den_iconst (pc := 25) d11_begins_25 ?_
  refine den_istore_n (pc := 26) (L2 := [some (vA G 69), some (vI 0)]) d11_begins_26 rfl (by decide) rfl ?_
  exact tl11_begins_27 l G _ hd FU (0, h23) trivial
theorem d11_offNow_0 : decode m11_offNow.2.1 0 = .ok (.aload_n 0, 1) := by decide +kernel
theorem d11_offNow_1 : decode m11_offNow.2.1 1 = .ok (.getfield 71, 3) := by decide +kernel
theorem d11_offNow_4 : decode m11_offNow.2.1 4 = .ok (.bipush 6, 2) := by decide +kernel
theorem d11_offNow_6 : decode m11_offNow.2.1 6 = .ok (.iload_n 1, 1) := by decide +kernel
theorem d11_offNow_7 : decode m11_offNow.2.1 7 = .ok (.imul, 1) := by decide +kernel
theorem d11_offNow_8 : decode m11_offNow.2.1 8 = .ok (.iload_n 3, 1) := by decide +kernel
theorem d11_offNow_9 : decode m11_offNow.2.1 9 = .ok (.iadd, 1) := by decide +kernel
theorem d11_offNow_10 : decode m11_offNow.2.1 10 = .ok (.iaload, 1) := by decide +kernel
theorem d11_offNow_11 : decode m11_offNow.2.1 11 = .ok (.iconst (-1), 1) := by decide +kernel
theorem d11_offNow_12 : decode m11_offNow.2.1 12 = .ok (.if_icmp .eq 18, 3) := by decide +kernel
theorem d11_offNow_15 : decode m11_offNow.2.1 15 = .ok (.aload_n 0, 1) := by decide +kernel
theorem d11_offNow_16 : decode m11_offNow.2.1 16 = .ok (.getfield 71, 3) := by decide +kernel
theorem d11_offNow_19 : decode m11_offNow.2.1 19 = .ok (.bipush 6, 2) := by decide +kernel
theorem d11_offNow_21 : decode m11_offNow.2.1 21 = .ok (.iload_n 2, 1) := by decide +kernel
theorem d11_offNow_22 : decode m11_offNow.2.1 22 = .ok (.imul, 1) := by decide +kernel
theorem d11_offNow_23 : decode m11_offNow.2.1 23 = .ok (.iload_n 3, 1) := by decide +kernel
theorem d11_offNow_24 : decode m11_offNow.2.1 24 = .ok (.iadd, 1) := by decide +kernel
theorem d11_offNow_25 : decode m11_offNow.2.1 25 = .ok (.iaload, 1) := by decide +kernel
theorem d11_offNow_26 : decode m11_offNow.2.1 26 = .ok (.iconst (-1), 1) := by decide +kernel
theorem d11_offNow_27 : decode m11_offNow.2.1 27 = .ok (.if_icmp .ne 7, 3) := by decide +kernel
theorem d11_offNow_30 : decode m11_offNow.2.1 30 = .ok (.iconst (-1), 1) := by decide +kernel
theorem d11_offNow_31 : decode m11_offNow.2.1 31 = .ok (.goto 28, 3) := by decide +kernel
theorem d11_offNow_34 : decode m11_offNow.2.1 34 = .ok (.aload_n 0, 1) := by decide +kernel
theorem d11_offNow_35 : decode m11_offNow.2.1 35 = .ok (.getfield 71, 3) := by decide +kernel
theorem d11_offNow_38 : decode m11_offNow.2.1 38 = .ok (.bipush 6, 2) := by decide +kernel
theorem d11_offNow_40 : decode m11_offNow.2.1 40 = .ok (.iload_n 1, 1) := by decide +kernel
theorem d11_offNow_41 : decode m11_offNow.2.1 41 = .ok (.imul, 1) := by decide +kernel
theorem d11_offNow_42 : decode m11_offNow.2.1 42 = .ok (.iload_n 3, 1) := by decide +kernel
theorem d11_offNow_43 : decode m11_offNow.2.1 43 = .ok (.iadd, 1) := by decide +kernel
theorem d11_offNow_44 : decode m11_offNow.2.1 44 = .ok (.iaload, 1) := by decide +kernel
theorem d11_offNow_45 : decode m11_offNow.2.1 45 = .ok (.aload_n 0, 1) := by decide +kernel
theorem d11_offNow_46 : decode m11_offNow.2.1 46 = .ok (.getfield 71, 3) := by decide +kernel
theorem d11_offNow_49 : decode m11_offNow.2.1 49 = .ok (.bipush 6, 2) := by decide +kernel
theorem d11_offNow_51 : decode m11_offNow.2.1 51 = .ok (.iload_n 2, 1) := by decide +kernel
theorem d11_offNow_52 : decode m11_offNow.2.1 52 = .ok (.imul, 1) := by decide +kernel
theorem d11_offNow_53 : decode m11_offNow.2.1 53 = .ok (.iload_n 3, 1) := by decide +kernel
theorem d11_offNow_54 : decode m11_offNow.2.1 54 = .ok (.iadd, 1) := by decide +kernel
theorem d11_offNow_55 : decode m11_offNow.2.1 55 = .ok (.iaload, 1) := by decide +kernel
theorem d11_offNow_56 : decode m11_offNow.2.1 56 = .ok (.invokestatic 225, 3) := by decide +kernel
theorem d11_offNow_59 : decode m11_offNow.2.1 59 = .ok (.ireturn, 1) := by decide +kernel
def f11_offNow (x1 : Int) (x2 : Int) (x3 : Int) (h : AH) : Option (Int × AH) :=
  asrt (0 ≤ w32 ((6 * x1) + x3) ∧ w32 ((6 * x1) + x3) < 48) <|
  if w32 (h.2 90 (w32 ((6 * x1) + x3)).toNat) = (-1) then
    some ((-1), h)
  else
    asrt (0 ≤ w32 ((6 * x2) + x3) ∧ w32 ((6 * x2) + x3) < 48) <|
    if ¬ w32 (h.2 90 (w32 ((6 * x2) + x3)).toNat) = (-1) then
      asrt (0 ≤ w32 ((6 * x1) + x3) ∧ w32 ((6 * x1) + x3) < 48) <|
      asrt (0 ≤ w32 ((6 * x2) + x3) ∧ w32 ((6 * x2) + x3) < 48) <|
      bnd (f11_off (h.2 90 (w32 ((6 * x1) + x3)).toNat) (h.2 90 (w32 ((6 * x2) + x3)).toNat) h) fun r5 h6 =>
      some (r5, h6)
    else
      some ((-1), h)
set_option maxRecDepth 100000 in
theorem c11_offNow (l : Launch) (G : Geo) (x1 : Int) (x2 : Int) (x3 : Int) (h : AH) : Con l G m11_offNow rvI 3 [vA G 69, vI x1, vI x2, vI x3] h (f11_offNow x1 x2 x3 h) := by
  have hd : 3 ≤ 3 := Nat.le_refl _
  refine con_I rfl (by decide) rfl rfl (Nat.le_of_ble_eq_true rfl) (L := [some (vA G 69), some (vI x1), some (vI x2), some (vI x3)]) ?_
  unfold f11_offNow
  refine den_aload_n (pc := 0) d11_offNow_0 rfl rfl ?_
  refine den_getR (pc := 1) (b := 90) fa_11_71 (ok_69 _) rfl d11_offNow_1 ?_
  refine den_bipush (pc := 4) d11_offNow_4 (by decide) ?_
  refine den_iload_n (pc := 6) d11_offNow_6 rfl rfl ?_
  refine den_imul (pc := 7) d11_offNow_7 ?_
  refine den_iload_n (pc := 8) d11_offNow_8 rfl rfl ?_
  refine den_iadd (pc := 9) d11_offNow_9 ?_
  refine den_asrt (fun a1 => ?_)
  refine den_iaload (pc := 10) sh_90 (sz_lt (by decide)) rfl a1 d11_offNow_10 ?_
  refine den_iconst (pc := 11) d11_offNow_11 ?_
  refine den_icmp_eq (pc := 12) (tgt := 30) d11_offNow_12 (by decide) rfl (by decide) (fun _ => ?_) (fun _ => ?_)
  · refine den_iconst (pc := 30) d11_offNow_30 ?_
    refine den_goto (pc := 31) (tgt := 59) d11_offNow_31 (by decide) ?_
    exact den_iret (pc := 59) rfl d11_offNow_59
  · refine den_aload_n (pc := 15) d11_offNow_15 rfl rfl ?_
    refine den_getR (pc := 16) (b := 90) fa_11_71 (ok_69 _) rfl d11_offNow_16 ?_
    refine den_bipush (pc := 19) d11_offNow_19 (by decide) ?_
    refine den_iload_n (pc := 21) d11_offNow_21 rfl rfl ?_
    refine den_imul (pc := 22) d11_offNow_22 ?_
    refine den_iload_n (pc := 23) d11_offNow_23 rfl rfl ?_
    refine den_iadd (pc := 24) d11_offNow_24 ?_
    refine den_asrt (fun a2 => ?_)
    refine den_iaload (pc := 25) sh_90 (sz_lt (by decide)) rfl a2 d11_offNow_25 ?_
    refine den_iconst (pc := 26) d11_offNow_26 ?_
    refine den_icmp_ne (pc := 27) (tgt := 34) d11_offNow_27 (by decide) rfl (by decide) (fun _ => ?_) (fun _ => ?_)
    · refine den_aload_n (pc := 34) d11_offNow_34 rfl rfl ?_
      refine den_getR (pc := 35) (b := 90) fa_11_71 (ok_69 _) rfl d11_offNow_35 ?_
      refine den_bipush (pc := 38) d11_offNow_38 (by decide) ?_
      refine den_iload_n (pc := 40) d11_offNow_40 rfl rfl ?_
      refine den_imul (pc := 41) d11_offNow_41 ?_
      refine den_iload_n (pc := 42) d11_offNow_42 rfl rfl ?_
      refine den_iadd (pc := 43) d11_offNow_43 ?_
      refine den_asrt (fun a3 => ?_)
      refine den_iaload (pc := 44) sh_90 (sz_lt (by decide)) rfl a3 d11_offNow_44 ?_
      refine den_aload_n (pc := 45) d11_offNow_45 rfl rfl ?_
      refine den_getR (pc := 46) (b := 90) fa_11_71 (ok_69 _) rfl d11_offNow_46 ?_
      refine den_bipush (pc := 49) d11_offNow_49 (by decide) ?_
      refine den_iload_n (pc := 51) d11_offNow_51 rfl rfl ?_
      refine den_imul (pc := 52) d11_offNow_52 ?_
      refine den_iload_n (pc := 53) d11_offNow_53 rfl rfl ?_
      refine den_iadd (pc := 54) d11_offNow_54 ?_
      refine den_asrt (fun a4 => ?_)
      refine den_iaload (pc := 55) sh_90 (sz_lt (by decide)) rfl a4 d11_offNow_55 ?_
      refine den_callSI (pc := 56) (As := [vI (h.2 90 (w32 ((6 * x1) + x3)).toNat), vI (h.2 90 (w32 ((6 * x2) + x3)).toNat)]) fs_11_225 rfl rfl (Nat.le_of_ble_eq_true rfl) (Nat.le_trans (by decide) hd) d11_offNow_56 (c11_off l G (h.2 90 (w32 ((6 * x1) + x3)).toNat) (h.2 90 (w32 ((6 * x2) + x3)).toNat) h) (fun r5 h6 m7 o8 => ?_)
      exact den_iret (pc := 59) rfl d11_offNow_59
    · refine den_iconst (pc := 30) d11_offNow_30 ?_
      refine den_goto (pc := 31) (tgt := 59) d11_offNow_31 (by decide) ?_
      exact den_iret (pc := 59) rfl d11_offNow_59
theorem d11_quarrels_0 : decode m11_quarrels.2.1 0 = .ok (.iload 4, 2) := by decide +kernel
theorem d11_quarrels_2 : decode m11_quarrels.2.1 2 = .ok (.aload_n 0, 1) := by decide +kernel
theorem d11_quarrels_3 : decode m11_quarrels.2.1 3 = .ok (.getfield 198, 3) := by decide +kernel
theorem d11_quarrels_6 : decode m11_quarrels.2.1 6 = .ok (.if_icmp .ge 59, 3) := by decide +kernel
theorem d11_quarrels_9 : decode m11_quarrels.2.1 9 = .ok (.aload_n 0, 1) := by decide +kernel
theorem d11_quarrels_10 : decode m11_quarrels.2.1 10 = .ok (.getfield 331, 3) := by decide +kernel
theorem d11_quarrels_13 : decode m11_quarrels.2.1 13 = .ok (.iload 4, 2) := by decide +kernel
theorem d11_quarrels_15 : decode m11_quarrels.2.1 15 = .ok (.ishr, 1) := by decide +kernel
theorem d11_quarrels_16 : decode m11_quarrels.2.1 16 = .ok (.iconst 1, 1) := by decide +kernel
theorem d11_quarrels_17 : decode m11_quarrels.2.1 17 = .ok (.iand, 1) := by decide +kernel
theorem d11_quarrels_18 : decode m11_quarrels.2.1 18 = .ok (.iconst 1, 1) := by decide +kernel
theorem d11_quarrels_19 : decode m11_quarrels.2.1 19 = .ok (.if_icmp .eq 46, 3) := by decide +kernel
theorem d11_quarrels_22 : decode m11_quarrels.2.1 22 = .ok (.aload_n 0, 1) := by decide +kernel
theorem d11_quarrels_23 : decode m11_quarrels.2.1 23 = .ok (.iload_n 1, 1) := by decide +kernel
theorem d11_quarrels_24 : decode m11_quarrels.2.1 24 = .ok (.iload_n 2, 1) := by decide +kernel
theorem d11_quarrels_25 : decode m11_quarrels.2.1 25 = .ok (.iload_n 3, 1) := by decide +kernel
theorem d11_quarrels_26 : decode m11_quarrels.2.1 26 = .ok (.invokevirtual 343, 3) := by decide +kernel
theorem d11_quarrels_29 : decode m11_quarrels.2.1 29 = .ok (.ifCond .le 36, 3) := by decide +kernel
theorem d11_quarrels_32 : decode m11_quarrels.2.1 32 = .ok (.aload_n 0, 1) := by decide +kernel
theorem d11_quarrels_33 : decode m11_quarrels.2.1 33 = .ok (.getfield 68, 3) := by decide +kernel
theorem d11_quarrels_36 : decode m11_quarrels.2.1 36 = .ok (.iload_n 3, 1) := by decide +kernel
theorem d11_quarrels_37 : decode m11_quarrels.2.1 37 = .ok (.iaload, 1) := by decide +kernel
theorem d11_quarrels_38 : decode m11_quarrels.2.1 38 = .ok (.ifCond .eq 27, 3) := by decide +kernel
theorem d11_quarrels_41 : decode m11_quarrels.2.1 41 = .ok (.aload_n 0, 1) := by decide +kernel
theorem d11_quarrels_42 : decode m11_quarrels.2.1 42 = .ok (.getfield 334, 3) := by decide +kernel
theorem d11_quarrels_45 : decode m11_quarrels.2.1 45 = .ok (.iload_n 1, 1) := by decide +kernel
theorem d11_quarrels_46 : decode m11_quarrels.2.1 46 = .ok (.ishr, 1) := by decide +kernel
theorem d11_quarrels_47 : decode m11_quarrels.2.1 47 = .ok (.iconst 1, 1) := by decide +kernel
theorem d11_quarrels_48 : decode m11_quarrels.2.1 48 = .ok (.iand, 1) := by decide +kernel
theorem d11_quarrels_49 : decode m11_quarrels.2.1 49 = .ok (.iconst 1, 1) := by decide +kernel
theorem d11_quarrels_50 : decode m11_quarrels.2.1 50 = .ok (.if_icmp .eq 15, 3) := by decide +kernel
theorem d11_quarrels_53 : decode m11_quarrels.2.1 53 = .ok (.aload_n 0, 1) := by decide +kernel
theorem d11_quarrels_54 : decode m11_quarrels.2.1 54 = .ok (.getfield 334, 3) := by decide +kernel
theorem d11_quarrels_57 : decode m11_quarrels.2.1 57 = .ok (.iload_n 2, 1) := by decide +kernel
theorem d11_quarrels_58 : decode m11_quarrels.2.1 58 = .ok (.ishr, 1) := by decide +kernel
theorem d11_quarrels_59 : decode m11_quarrels.2.1 59 = .ok (.iconst 1, 1) := by decide +kernel
theorem d11_quarrels_60 : decode m11_quarrels.2.1 60 = .ok (.iand, 1) := by decide +kernel
theorem d11_quarrels_61 : decode m11_quarrels.2.1 61 = .ok (.iconst 1, 1) := by decide +kernel
theorem d11_quarrels_62 : decode m11_quarrels.2.1 62 = .ok (.if_icmp .ne 5, 3) := by decide +kernel
theorem d11_quarrels_65 : decode m11_quarrels.2.1 65 = .ok (.iconst 0, 1) := by decide +kernel
theorem d11_quarrels_66 : decode m11_quarrels.2.1 66 = .ok (.ireturn, 1) := by decide +kernel
theorem d11_quarrels_67 : decode m11_quarrels.2.1 67 = .ok (.aload_n 0, 1) := by decide +kernel
theorem d11_quarrels_68 : decode m11_quarrels.2.1 68 = .ok (.iload_n 1, 1) := by decide +kernel
theorem d11_quarrels_69 : decode m11_quarrels.2.1 69 = .ok (.iload_n 2, 1) := by decide +kernel
theorem d11_quarrels_70 : decode m11_quarrels.2.1 70 = .ok (.iload_n 3, 1) := by decide +kernel
theorem d11_quarrels_71 : decode m11_quarrels.2.1 71 = .ok (.invokevirtual 343, 3) := by decide +kernel
theorem d11_quarrels_74 : decode m11_quarrels.2.1 74 = .ok (.aload_n 0, 1) := by decide +kernel
theorem d11_quarrels_75 : decode m11_quarrels.2.1 75 = .ok (.getfield 68, 3) := by decide +kernel
theorem d11_quarrels_78 : decode m11_quarrels.2.1 78 = .ok (.iload_n 3, 1) := by decide +kernel
theorem d11_quarrels_79 : decode m11_quarrels.2.1 79 = .ok (.iaload, 1) := by decide +kernel
theorem d11_quarrels_80 : decode m11_quarrels.2.1 80 = .ok (.imul, 1) := by decide +kernel
theorem d11_quarrels_81 : decode m11_quarrels.2.1 81 = .ok (.istore 5, 2) := by decide +kernel
theorem d11_quarrels_83 : decode m11_quarrels.2.1 83 = .ok (.aload_n 0, 1) := by decide +kernel
theorem d11_quarrels_84 : decode m11_quarrels.2.1 84 = .ok (.dup, 1) := by decide +kernel
theorem d11_quarrels_85 : decode m11_quarrels.2.1 85 = .ok (.getfield 337, 3) := by decide +kernel
theorem d11_quarrels_88 : decode m11_quarrels.2.1 88 = .ok (.iload 5, 2) := by decide +kernel
theorem d11_quarrels_90 : decode m11_quarrels.2.1 90 = .ok (.iadd, 1) := by decide +kernel
theorem d11_quarrels_91 : decode m11_quarrels.2.1 91 = .ok (.putfield 337, 3) := by decide +kernel
theorem d11_quarrels_94 : decode m11_quarrels.2.1 94 = .ok (.aload_n 0, 1) := by decide +kernel
theorem d11_quarrels_95 : decode m11_quarrels.2.1 95 = .ok (.getfield 65, 3) := by decide +kernel
theorem d11_quarrels_98 : decode m11_quarrels.2.1 98 = .ok (.iload 4, 2) := by decide +kernel
theorem d11_quarrels_100 : decode m11_quarrels.2.1 100 = .ok (.dup2, 1) := by decide +kernel
theorem d11_quarrels_101 : decode m11_quarrels.2.1 101 = .ok (.iaload, 1) := by decide +kernel
theorem d11_quarrels_102 : decode m11_quarrels.2.1 102 = .ok (.iload 5, 2) := by decide +kernel
theorem d11_quarrels_104 : decode m11_quarrels.2.1 104 = .ok (.iadd, 1) := by decide +kernel
theorem d11_quarrels_105 : decode m11_quarrels.2.1 105 = .ok (.iastore, 1) := by decide +kernel
theorem d11_quarrels_106 : decode m11_quarrels.2.1 106 = .ok (.aload_n 0, 1) := by decide +kernel
theorem d11_quarrels_107 : decode m11_quarrels.2.1 107 = .ok (.getfield 65, 3) := by decide +kernel
theorem d11_quarrels_110 : decode m11_quarrels.2.1 110 = .ok (.iload 4, 2) := by decide +kernel
theorem d11_quarrels_112 : decode m11_quarrels.2.1 112 = .ok (.iaload, 1) := by decide +kernel
theorem d11_quarrels_113 : decode m11_quarrels.2.1 113 = .ok (.aload_n 0, 1) := by decide +kernel
theorem d11_quarrels_114 : decode m11_quarrels.2.1 114 = .ok (.iload 4, 2) := by decide +kernel
theorem d11_quarrels_116 : decode m11_quarrels.2.1 116 = .ok (.invokevirtual 222, 3) := by decide +kernel
theorem d11_quarrels_119 : decode m11_quarrels.2.1 119 = .ok (.if_icmp .le 24, 3) := by decide +kernel
theorem d11_quarrels_122 : decode m11_quarrels.2.1 122 = .ok (.aload_n 0, 1) := by decide +kernel
theorem d11_quarrels_123 : decode m11_quarrels.2.1 123 = .ok (.getfield 65, 3) := by decide +kernel
theorem d11_quarrels_126 : decode m11_quarrels.2.1 126 = .ok (.iload 4, 2) := by decide +kernel
theorem d11_quarrels_128 : decode m11_quarrels.2.1 128 = .ok (.iconst 0, 1) := by decide +kernel
theorem d11_quarrels_129 : decode m11_quarrels.2.1 129 = .ok (.iastore, 1) := by decide +kernel
theorem d11_quarrels_130 : decode m11_quarrels.2.1 130 = .ok (.aload_n 0, 1) := by decide +kernel
theorem d11_quarrels_131 : decode m11_quarrels.2.1 131 = .ok (.dup, 1) := by decide +kernel
theorem d11_quarrels_132 : decode m11_quarrels.2.1 132 = .ok (.getfield 331, 3) := by decide +kernel
theorem d11_quarrels_135 : decode m11_quarrels.2.1 135 = .ok (.iconst 1, 1) := by decide +kernel
theorem d11_quarrels_136 : decode m11_quarrels.2.1 136 = .ok (.iload 4, 2) := by decide +kernel
theorem d11_quarrels_138 : decode m11_quarrels.2.1 138 = .ok (.ishl, 1) := by decide +kernel
theorem d11_quarrels_139 : decode m11_quarrels.2.1 139 = .ok (.ior, 1) := by decide +kernel
theorem d11_quarrels_140 : decode m11_quarrels.2.1 140 = .ok (.putfield 331, 3) := by decide +kernel
theorem d11_quarrels_143 : decode m11_quarrels.2.1 143 = .ok (.aload_n 0, 1) := by decide +kernel
theorem d11_quarrels_144 : decode m11_quarrels.2.1 144 = .ok (.getfield 68, 3) := by decide +kernel
theorem d11_quarrels_147 : decode m11_quarrels.2.1 147 = .ok (.iload_n 3, 1) := by decide +kernel
theorem d11_quarrels_148 : decode m11_quarrels.2.1 148 = .ok (.aload_n 0, 1) := by decide +kernel
theorem d11_quarrels_149 : decode m11_quarrels.2.1 149 = .ok (.getfield 68, 3) := by decide +kernel
theorem d11_quarrels_152 : decode m11_quarrels.2.1 152 = .ok (.iload_n 3, 1) := by decide +kernel
theorem d11_quarrels_153 : decode m11_quarrels.2.1 153 = .ok (.iaload, 1) := by decide +kernel
theorem d11_quarrels_154 : decode m11_quarrels.2.1 154 = .ok (.aload_n 0, 1) := by decide +kernel
theorem d11_quarrels_155 : decode m11_quarrels.2.1 155 = .ok (.iload_n 3, 1) := by decide +kernel
theorem d11_quarrels_156 : decode m11_quarrels.2.1 156 = .ok (.invokevirtual 216, 3) := by decide +kernel
theorem d11_quarrels_159 : decode m11_quarrels.2.1 159 = .ok (.if_icmp .le 18, 3) := by decide +kernel
theorem d11_quarrels_162 : decode m11_quarrels.2.1 162 = .ok (.aload_n 0, 1) := by decide +kernel
theorem d11_quarrels_163 : decode m11_quarrels.2.1 163 = .ok (.getfield 68, 3) := by decide +kernel
theorem d11_quarrels_166 : decode m11_quarrels.2.1 166 = .ok (.iload_n 3, 1) := by decide +kernel
theorem d11_quarrels_167 : decode m11_quarrels.2.1 167 = .ok (.iaload, 1) := by decide +kernel
theorem d11_quarrels_168 : decode m11_quarrels.2.1 168 = .ok (.aload_n 0, 1) := by decide +kernel
theorem d11_quarrels_169 : decode m11_quarrels.2.1 169 = .ok (.iload_n 3, 1) := by decide +kernel
theorem d11_quarrels_170 : decode m11_quarrels.2.1 170 = .ok (.invokevirtual 216, 3) := by decide +kernel
theorem d11_quarrels_173 : decode m11_quarrels.2.1 173 = .ok (.isub, 1) := by decide +kernel
theorem d11_quarrels_174 : decode m11_quarrels.2.1 174 = .ok (.goto 4, 3) := by decide +kernel
theorem d11_quarrels_177 : decode m11_quarrels.2.1 177 = .ok (.iconst 0, 1) := by decide +kernel
theorem d11_quarrels_178 : decode m11_quarrels.2.1 178 = .ok (.iastore, 1) := by decide +kernel
theorem d11_quarrels_179 : decode m11_quarrels.2.1 179 = .ok (.aload_n 0, 1) := by decide +kernel
theorem d11_quarrels_180 : decode m11_quarrels.2.1 180 = .ok (.dup, 1) := by decide +kernel
theorem d11_quarrels_181 : decode m11_quarrels.2.1 181 = .ok (.getfield 334, 3) := by decide +kernel
theorem d11_quarrels_184 : decode m11_quarrels.2.1 184 = .ok (.iconst 1, 1) := by decide +kernel
theorem d11_quarrels_185 : decode m11_quarrels.2.1 185 = .ok (.iload_n 1, 1) := by decide +kernel
theorem d11_quarrels_186 : decode m11_quarrels.2.1 186 = .ok (.ishl, 1) := by decide +kernel
theorem d11_quarrels_187 : decode m11_quarrels.2.1 187 = .ok (.iconst 1, 1) := by decide +kernel
theorem d11_quarrels_188 : decode m11_quarrels.2.1 188 = .ok (.iload_n 2, 1) := by decide +kernel
theorem d11_quarrels_189 : decode m11_quarrels.2.1 189 = .ok (.ishl, 1) := by decide +kernel
theorem d11_quarrels_190 : decode m11_quarrels.2.1 190 = .ok (.ior, 1) := by decide +kernel
theorem d11_quarrels_191 : decode m11_quarrels.2.1 191 = .ok (.ior, 1) := by decide +kernel
theorem d11_quarrels_192 : decode m11_quarrels.2.1 192 = .ok (.putfield 334, 3) := by decide +kernel
theorem d11_quarrels_195 : decode m11_quarrels.2.1 195 = .ok (.iconst 1, 1) := by decide +kernel
theorem d11_quarrels_196 : decode m11_quarrels.2.1 196 = .ok (.ireturn, 1) := by decide +kernel
def b11_quarrels_178 (x1 : Int) (x2 : Int) (s0 : Int) (s1 : Int) (h : AH) : Option (Int × AH) :=
  asrt (0 ≤ w32 s1 ∧ w32 s1 < 6) <|
  lt (wr h 89 (w32 s1).toNat s0) fun h2 =>
  lt (wr h2 69 34 (or32 (h2.2 69 34) (or32 (shl32 1 x1) (shl32 1 x2)))) fun h4 =>
  some (1, h4)
set_option maxRecDepth 100000 in
theorem t11_quarrels_178 (l : Launch) (G : Geo) (d : Nat) (hd : 4 ≤ d) (x1 : Int) (x2 : Int) (s0 : Int) (s1 : Int) (h : AH) : Den l G m11_quarrels rvI d 178 [some (vA G 69), some (vI x1), some (vI x2), none, none, none] [vI s0, vI s1, vA G 89] h (b11_quarrels_178 x1 x2 s0 s1 h) := by
  unfold b11_quarrels_178
  refine den_asrt (fun a1 => ?_)
  refine den_iastore (pc := 178) sh_89 (sz_lt (by decide)) rfl a1 d11_quarrels_178 ?_
  refine den_ltH (fun h2 m3 => ?_)
  refine den_aload_n (pc := 179) d11_quarrels_179 rfl rfl ?_
  refine den_dup (pc := 180) d11_quarrels_180 rfl ?_
  refine den_getI (pc := 181) fa_11_334 (ok_69 _) d11_quarrels_181 ?_
  refine den_iconst (pc := 184) d11_quarrels_184 ?_
  refine den_iload_n (pc := 185) d11_quarrels_185 rfl rfl ?_
  refine den_ishl (pc := 186) d11_quarrels_186 ?_
  refine den_iconst (pc := 187) d11_quarrels_187 ?_
  refine den_iload_n (pc := 188) d11_quarrels_188 rfl rfl ?_
  refine den_ishl (pc := 189) d11_quarrels_189 ?_
  refine den_ior (pc := 190) d11_quarrels_190 ?_
  refine den_ior (pc := 191) d11_quarrels_191 ?_
  refine den_putI (pc := 192) fp_11_334 (ok_69 _) d11_quarrels_192 ?_
  refine den_ltH (fun h4 m5 => ?_)
  refine den_iconst (pc := 195) d11_quarrels_195 ?_
  exact den_zret (pc := 196) rfl (by decide) d11_quarrels_196
def b11_quarrels_143 (x1 : Int) (x2 : Int) (x3 : Int) (h : AH) : Option (Int × AH) :=
  asrt (0 ≤ w32 x3 ∧ w32 x3 < 6) <|
  bnd (f11_fadesOf x3 h) fun r7 h8 =>
  if w32 (h.2 89 (w32 x3).toNat) ≤ w32 r7 then
    b11_quarrels_178 x1 x2 0 x3 h8
  else
    asrt (0 ≤ w32 x3 ∧ w32 x3 < 6) <|
    bnd (f11_fadesOf x3 h8) fun r12 h13 =>
    b11_quarrels_178 x1 x2 ((h8.2 89 (w32 x3).toNat) - r12) x3 h13
set_option maxRecDepth 100000 in
theorem t11_quarrels_143 (l : Launch) (G : Geo) (d : Nat) (hd : 4 ≤ d) (x1 : Int) (x2 : Int) (x3 : Int) (h : AH) : Den l G m11_quarrels rvI d 143 [some (vA G 69), some (vI x1), some (vI x2), some (vI x3), none, none] [] h (b11_quarrels_143 x1 x2 x3 h) := by
  unfold b11_quarrels_143
  refine den_aload_n (pc := 143) d11_quarrels_143 rfl rfl ?_
  refine den_getR (pc := 144) (b := 89) fa_11_68 (ok_69 _) rfl d11_quarrels_144 ?_
  refine den_iload_n (pc := 147) d11_quarrels_147 rfl rfl ?_
  refine den_aload_n (pc := 148) d11_quarrels_148 rfl rfl ?_
  refine den_getR (pc := 149) (b := 89) fa_11_68 (ok_69 _) rfl d11_quarrels_149 ?_
  refine den_iload_n (pc := 152) d11_quarrels_152 rfl rfl ?_
  refine den_asrt (fun a6 => ?_)
  refine den_iaload (pc := 153) sh_89 (sz_lt (by decide)) rfl a6 d11_quarrels_153 ?_
  refine den_aload_n (pc := 154) d11_quarrels_154 rfl rfl ?_
  refine den_iload_n (pc := 155) d11_quarrels_155 rfl rfl ?_
  refine den_callVI (pc := 156) (As := [vI x3]) fv_11_216 rfl rfl (ok_69 _) (Nat.le_of_ble_eq_true rfl) (Nat.le_trans (by decide) hd) d11_quarrels_156 (c11_fadesOf l G x3 h) (fun r7 h8 m9 o10 => ?_)
  refine den_icmp_le (pc := 159) (tgt := 177) d11_quarrels_159 (by decide) rfl rfl (fun _ => ?_) (fun _ => ?_)
  · refine den_iconst (pc := 177) d11_quarrels_177 ?_
    refine den_wk [true, true, true, false, true, true] rfl ?_
    exact t11_quarrels_178 l G _ hd x1 x2 0 x3 h8
  · refine den_aload_n (pc := 162) d11_quarrels_162 rfl rfl ?_
    refine den_getR (pc := 163) (b := 89) fa_11_68 (ok_69 _) rfl d11_quarrels_163 ?_
    refine den_iload_n (pc := 166) d11_quarrels_166 rfl rfl ?_
    refine den_asrt (fun a11 => ?_)
    refine den_iaload (pc := 167) sh_89 (sz_lt (by decide)) rfl a11 d11_quarrels_167 ?_
    refine den_aload_n (pc := 168) d11_quarrels_168 rfl rfl ?_
    refine den_iload_n (pc := 169) d11_quarrels_169 rfl rfl ?_
    refine den_callVI (pc := 170) (As := [vI x3]) fv_11_216 rfl rfl (ok_69 _) (Nat.le_of_ble_eq_true rfl) (Nat.le_trans (by decide) hd) d11_quarrels_170 (c11_fadesOf l G x3 h8) (fun r12 h13 m14 o15 => ?_)
    refine den_isub (pc := 173) d11_quarrels_173 ?_
    refine den_goto (pc := 174) (tgt := 178) d11_quarrels_174 (by decide) ?_
    refine den_wk [true, true, true, false, true, true] rfl ?_
    exact t11_quarrels_178 l G _ hd x1 x2 ((h8.2 89 (w32 x3).toNat) - r12) x3 h13
def f11_quarrels (x1 : Int) (x2 : Int) (x3 : Int) (x4 : Int) (h : AH) : Option (Int × AH) :=
  if w32 (h.2 69 15) ≤ w32 x4 then
    some (0, h)
  else
    if w32 (and32 (shr32 (h.2 69 33) x4) 1) = 1 then
      some (0, h)
    else
      bnd (f11_offNow x1 x2 x3 h) fun r16 h17 =>
      if w32 r16 ≤ 0 then
        some (0, h17)
      else
        asrt (0 ≤ w32 x3 ∧ w32 x3 < 6) <|
        if w32 (h17.2 89 (w32 x3).toNat) = 0 then
          some (0, h17)
        else
          if w32 (and32 (shr32 (h17.2 69 34) x1) 1) = 1 then
            some (0, h17)
          else
            if ¬ w32 (and32 (shr32 (h17.2 69 34) x2) 1) = 1 then
              bnd (f11_offNow x1 x2 x3 h17) fun r21 h22 =>
              asrt (0 ≤ w32 x3 ∧ w32 x3 < 6) <|
              lt (r21 * (h22.2 89 (w32 x3).toNat)) fun u26 =>
              lt (wr h22 69 35 ((h22.2 69 35) + u26)) fun h27 =>
              asrt (0 ≤ w32 x4 ∧ w32 x4 < 4) <|
              asrt (0 ≤ w32 x4 ∧ w32 x4 < 4) <|
              lt (wr h27 88 (w32 x4).toNat ((h27.2 88 (w32 x4).toNat) + u26)) fun h31 =>
              asrt (0 ≤ w32 x4 ∧ w32 x4 < 4) <|
              bnd (f11_cracksOf x4 h31) fun r34 h35 =>
              if w32 (h31.2 88 (w32 x4).toNat) ≤ w32 r34 then
                b11_quarrels_143 x1 x2 x3 h35
              else
                asrt (0 ≤ w32 x4 ∧ w32 x4 < 4) <|
                lt (wr h35 88 (w32 x4).toNat 0) fun h39 =>
                lt (wr h39 69 33 (or32 (h39.2 69 33) (shl32 1 x4))) fun h41 =>
                b11_quarrels_143 x1 x2 x3 h41
            else
              some (0, h17)
set_option maxRecDepth 100000 in
theorem c11_quarrels (l : Launch) (G : Geo) (x1 : Int) (x2 : Int) (x3 : Int) (x4 : Int) (h : AH) : Con l G m11_quarrels rvI 4 [vA G 69, vI x1, vI x2, vI x3, vI x4] h (f11_quarrels x1 x2 x3 x4 h) := by
  have hd : 4 ≤ 4 := Nat.le_refl _
  refine con_Z rfl (by decide) rfl rfl (Nat.le_of_ble_eq_true rfl) (L := [some (vA G 69), some (vI x1), some (vI x2), some (vI x3), some (vI x4), none]) ?_
  unfold f11_quarrels
  refine den_iload (pc := 0) d11_quarrels_0 rfl ?_
  refine den_aload_n (pc := 2) d11_quarrels_2 rfl rfl ?_
  refine den_getI (pc := 3) fa_11_198 (ok_69 _) d11_quarrels_3 ?_
  refine den_icmp_ge (pc := 6) (tgt := 65) d11_quarrels_6 (by decide) rfl rfl (fun _ => ?_) (fun _ => ?_)
  · refine den_iconst (pc := 65) d11_quarrels_65 ?_
    exact den_zret (pc := 66) rfl (by decide) d11_quarrels_66
  · refine den_aload_n (pc := 9) d11_quarrels_9 rfl rfl ?_
    refine den_getI (pc := 10) fa_11_331 (ok_69 _) d11_quarrels_10 ?_
    refine den_iload (pc := 13) d11_quarrels_13 rfl ?_
    refine den_ishr (pc := 15) d11_quarrels_15 ?_
    refine den_iconst (pc := 16) d11_quarrels_16 ?_
    refine den_iand (pc := 17) d11_quarrels_17 ?_
    refine den_iconst (pc := 18) d11_quarrels_18 ?_
    refine den_icmp_eq (pc := 19) (tgt := 65) d11_quarrels_19 (by decide) rfl (by decide) (fun _ => ?_) (fun _ => ?_)
    · refine den_iconst (pc := 65) d11_quarrels_65 ?_
      exact den_zret (pc := 66) rfl (by decide) d11_quarrels_66
    · refine den_aload_n (pc := 22) d11_quarrels_22 rfl rfl ?_
      refine den_iload_n (pc := 23) d11_quarrels_23 rfl rfl ?_
      refine den_iload_n (pc := 24) d11_quarrels_24 rfl rfl ?_
      refine den_iload_n (pc := 25) d11_quarrels_25 rfl rfl ?_
      refine den_callVI (pc := 26) (As := [vI x1, vI x2, vI x3]) fv_11_343 rfl rfl (ok_69 _) (Nat.le_of_ble_eq_true rfl) (Nat.le_trans (by decide) hd) d11_quarrels_26 (c11_offNow l G x1 x2 x3 h) (fun r16 h17 m18 o19 => ?_)
      refine den_if_le (pc := 29) (tgt := 65) d11_quarrels_29 (by decide) rfl (fun _ => ?_) (fun _ => ?_)
      · refine den_iconst (pc := 65) d11_quarrels_65 ?_
        exact den_zret (pc := 66) rfl (by decide) d11_quarrels_66
      · refine den_aload_n (pc := 32) d11_quarrels_32 rfl rfl ?_
        refine den_getR (pc := 33) (b := 89) fa_11_68 (ok_69 _) rfl d11_quarrels_33 ?_
        refine den_iload_n (pc := 36) d11_quarrels_36 rfl rfl ?_
        refine den_asrt (fun a20 => ?_)
        refine den_iaload (pc := 37) sh_89 (sz_lt (by decide)) rfl a20 d11_quarrels_37 ?_
        refine den_if_eq (pc := 38) (tgt := 65) d11_quarrels_38 (by decide) rfl (fun _ => ?_) (fun _ => ?_)
        · refine den_iconst (pc := 65) d11_quarrels_65 ?_
          exact den_zret (pc := 66) rfl (by decide) d11_quarrels_66
        · refine den_aload_n (pc := 41) d11_quarrels_41 rfl rfl ?_
          refine den_getI (pc := 42) fa_11_334 (ok_69 _) d11_quarrels_42 ?_
          refine den_iload_n (pc := 45) d11_quarrels_45 rfl rfl ?_
          refine den_ishr (pc := 46) d11_quarrels_46 ?_
          refine den_iconst (pc := 47) d11_quarrels_47 ?_
          refine den_iand (pc := 48) d11_quarrels_48 ?_
          refine den_iconst (pc := 49) d11_quarrels_49 ?_
          refine den_icmp_eq (pc := 50) (tgt := 65) d11_quarrels_50 (by decide) rfl (by decide) (fun _ => ?_) (fun _ => ?_)
          · refine den_iconst (pc := 65) d11_quarrels_65 ?_
            exact den_zret (pc := 66) rfl (by decide) d11_quarrels_66
          · refine den_aload_n (pc := 53) d11_quarrels_53 rfl rfl ?_
            refine den_getI (pc := 54) fa_11_334 (ok_69 _) d11_quarrels_54 ?_
            refine den_iload_n (pc := 57) d11_quarrels_57 rfl rfl ?_
            refine den_ishr (pc := 58) d11_quarrels_58 ?_
            refine den_iconst (pc := 59) d11_quarrels_59 ?_
            refine den_iand (pc := 60) d11_quarrels_60 ?_
            refine den_iconst (pc := 61) d11_quarrels_61 ?_
            refine den_icmp_ne (pc := 62) (tgt := 67) d11_quarrels_62 (by decide) rfl (by decide) (fun _ => ?_) (fun _ => ?_)
            · refine den_aload_n (pc := 67) d11_quarrels_67 rfl rfl ?_
              refine den_iload_n (pc := 68) d11_quarrels_68 rfl rfl ?_
              refine den_iload_n (pc := 69) d11_quarrels_69 rfl rfl ?_
              refine den_iload_n (pc := 70) d11_quarrels_70 rfl rfl ?_
              refine den_callVI (pc := 71) (As := [vI x1, vI x2, vI x3]) fv_11_343 rfl rfl (ok_69 _) (Nat.le_of_ble_eq_true rfl) (Nat.le_trans (by decide) hd) d11_quarrels_71 (c11_offNow l G x1 x2 x3 h17) (fun r21 h22 m23 o24 => ?_)
              refine den_aload_n (pc := 74) d11_quarrels_74 rfl rfl ?_
              refine den_getR (pc := 75) (b := 89) fa_11_68 (ok_69 _) rfl d11_quarrels_75 ?_
              refine den_iload_n (pc := 78) d11_quarrels_78 rfl rfl ?_
              refine den_asrt (fun a25 => ?_)
              refine den_iaload (pc := 79) sh_89 (sz_lt (by decide)) rfl a25 d11_quarrels_79 ?_
              refine den_imul (pc := 80) d11_quarrels_80 ?_
              refine den_istoreL (pc := 81) (L2 := fun y => [some (vA G 69), some (vI x1), some (vI x2), some (vI x3), some (vI x4), some (vI y)]) d11_quarrels_81 (by decide) (fun _ => rfl) (fun u26 => ?_)
              refine den_aload_n (pc := 83) d11_quarrels_83 rfl rfl ?_
              refine den_dup (pc := 84) d11_quarrels_84 rfl ?_
              refine den_getI (pc := 85) fa_11_337 (ok_69 _) d11_quarrels_85 ?_
              refine den_iload (pc := 88) d11_quarrels_88 rfl ?_
              refine den_iadd (pc := 90) d11_quarrels_90 ?_
              refine den_putI (pc := 91) fp_11_337 (ok_69 _) d11_quarrels_91 ?_
              refine den_ltH (fun h27 m28 => ?_)
              refine den_aload_n (pc := 94) d11_quarrels_94 rfl rfl ?_
              refine den_getR (pc := 95) (b := 88) fa_11_65 (ok_69 _) rfl d11_quarrels_95 ?_
              refine den_iload (pc := 98) d11_quarrels_98 rfl ?_
              refine den_dup2 (pc := 100) d11_quarrels_100 rfl rfl ?_
              refine den_asrt (fun a29 => ?_)
              refine den_iaload (pc := 101) sh_88 (sz_lt (by decide)) rfl a29 d11_quarrels_101 ?_
              refine den_iload (pc := 102) d11_quarrels_102 rfl ?_
              refine den_iadd (pc := 104) d11_quarrels_104 ?_
              refine den_asrt (fun a30 => ?_)
              refine den_iastore (pc := 105) sh_88 (sz_lt (by decide)) rfl a30 d11_quarrels_105 ?_
              refine den_ltH (fun h31 m32 => ?_)
              refine den_aload_n (pc := 106) d11_quarrels_106 rfl rfl ?_
              refine den_getR (pc := 107) (b := 88) fa_11_65 (ok_69 _) rfl d11_quarrels_107 ?_
              refine den_iload (pc := 110) d11_quarrels_110 rfl ?_
              refine den_asrt (fun a33 => ?_)
              refine den_iaload (pc := 112) sh_88 (sz_lt (by decide)) rfl a33 d11_quarrels_112 ?_
              refine den_aload_n (pc := 113) d11_quarrels_113 rfl rfl ?_
              refine den_iload (pc := 114) d11_quarrels_114 rfl ?_
              refine den_callVI (pc := 116) (As := [vI x4]) fv_11_222 rfl rfl (ok_69 _) (Nat.le_of_ble_eq_true rfl) (Nat.le_trans (by decide) hd) d11_quarrels_116 (c11_cracksOf l G x4 h31) (fun r34 h35 m36 o37 => ?_)
              refine den_icmp_le (pc := 119) (tgt := 143) d11_quarrels_119 (by decide) rfl rfl (fun _ => ?_) (fun _ => ?_)
              · refine den_wk [true, true, true, true, false, false] rfl ?_
                exact t11_quarrels_143 l G _ hd x1 x2 x3 h35
              · refine den_aload_n (pc := 122) d11_quarrels_122 rfl rfl ?_
                refine den_getR (pc := 123) (b := 88) fa_11_65 (ok_69 _) rfl d11_quarrels_123 ?_
                refine den_iload (pc := 126) d11_quarrels_126 rfl ?_
                refine den_iconst (pc := 128) d11_quarrels_128 ?_
                refine den_asrt (fun a38 => ?_)
                refine den_iastore (pc := 129) sh_88 (sz_lt (by decide)) rfl a38 d11_quarrels_129 ?_
                refine den_ltH (fun h39 m40 => ?_)
                refine den_aload_n (pc := 130) d11_quarrels_130 rfl rfl ?_
                refine den_dup (pc := 131) d11_quarrels_131 rfl ?_
                refine den_getI (pc := 132) fa_11_331 (ok_69 _) d11_quarrels_132 ?_
                refine den_iconst (pc := 135) d11_quarrels_135 ?_
                refine den_iload (pc := 136) d11_quarrels_136 rfl ?_
                refine den_ishl (pc := 138) d11_quarrels_138 ?_
                refine den_ior (pc := 139) d11_quarrels_139 ?_
                refine den_putI (pc := 140) fp_11_331 (ok_69 _) d11_quarrels_140 ?_
                refine den_ltH (fun h41 m42 => ?_)
                refine den_wk [true, true, true, true, false, false] rfl ?_
                exact t11_quarrels_143 l G _ hd x1 x2 x3 h41
            · refine den_iconst (pc := 65) d11_quarrels_65 ?_
              exact den_zret (pc := 66) rfl (by decide) d11_quarrels_66
theorem d11_agrees_0 : decode m11_agrees.2.1 0 = .ok (.aload_n 0, 1) := by decide +kernel
theorem d11_agrees_1 : decode m11_agrees.2.1 1 = .ok (.iload_n 1, 1) := by decide +kernel
theorem d11_agrees_2 : decode m11_agrees.2.1 2 = .ok (.iload_n 2, 1) := by decide +kernel
theorem d11_agrees_3 : decode m11_agrees.2.1 3 = .ok (.iload_n 3, 1) := by decide +kernel
theorem d11_agrees_4 : decode m11_agrees.2.1 4 = .ok (.invokevirtual 343, 3) := by decide +kernel
theorem d11_agrees_7 : decode m11_agrees.2.1 7 = .ok (.iconst (-1), 1) := by decide +kernel
theorem d11_agrees_8 : decode m11_agrees.2.1 8 = .ok (.if_icmp .ne 5, 3) := by decide +kernel
theorem d11_agrees_11 : decode m11_agrees.2.1 11 = .ok (.iconst 0, 1) := by decide +kernel
theorem d11_agrees_12 : decode m11_agrees.2.1 12 = .ok (.ireturn, 1) := by decide +kernel
theorem d11_agrees_13 : decode m11_agrees.2.1 13 = .ok (.aload_n 0, 1) := by decide +kernel
theorem d11_agrees_14 : decode m11_agrees.2.1 14 = .ok (.getfield 71, 3) := by decide +kernel
theorem d11_agrees_17 : decode m11_agrees.2.1 17 = .ok (.bipush 6, 2) := by decide +kernel
theorem d11_agrees_19 : decode m11_agrees.2.1 19 = .ok (.iload_n 1, 1) := by decide +kernel
theorem d11_agrees_20 : decode m11_agrees.2.1 20 = .ok (.imul, 1) := by decide +kernel
theorem d11_agrees_21 : decode m11_agrees.2.1 21 = .ok (.iload_n 3, 1) := by decide +kernel
theorem d11_agrees_22 : decode m11_agrees.2.1 22 = .ok (.iadd, 1) := by decide +kernel
theorem d11_agrees_23 : decode m11_agrees.2.1 23 = .ok (.iaload, 1) := by decide +kernel
theorem d11_agrees_24 : decode m11_agrees.2.1 24 = .ok (.aload_n 0, 1) := by decide +kernel
theorem d11_agrees_25 : decode m11_agrees.2.1 25 = .ok (.getfield 71, 3) := by decide +kernel
theorem d11_agrees_28 : decode m11_agrees.2.1 28 = .ok (.bipush 6, 2) := by decide +kernel
theorem d11_agrees_30 : decode m11_agrees.2.1 30 = .ok (.iload_n 2, 1) := by decide +kernel
theorem d11_agrees_31 : decode m11_agrees.2.1 31 = .ok (.imul, 1) := by decide +kernel
theorem d11_agrees_32 : decode m11_agrees.2.1 32 = .ok (.iload_n 3, 1) := by decide +kernel
theorem d11_agrees_33 : decode m11_agrees.2.1 33 = .ok (.iadd, 1) := by decide +kernel
theorem d11_agrees_34 : decode m11_agrees.2.1 34 = .ok (.iaload, 1) := by decide +kernel
theorem d11_agrees_35 : decode m11_agrees.2.1 35 = .ok (.iadd, 1) := by decide +kernel
theorem d11_agrees_36 : decode m11_agrees.2.1 36 = .ok (.iconst 2, 1) := by decide +kernel
theorem d11_agrees_37 : decode m11_agrees.2.1 37 = .ok (.idiv, 1) := by decide +kernel
theorem d11_agrees_38 : decode m11_agrees.2.1 38 = .ok (.istore 4, 2) := by decide +kernel
theorem d11_agrees_40 : decode m11_agrees.2.1 40 = .ok (.aload_n 0, 1) := by decide +kernel
theorem d11_agrees_41 : decode m11_agrees.2.1 41 = .ok (.getfield 71, 3) := by decide +kernel
theorem d11_agrees_44 : decode m11_agrees.2.1 44 = .ok (.bipush 6, 2) := by decide +kernel
theorem d11_agrees_46 : decode m11_agrees.2.1 46 = .ok (.iload_n 1, 1) := by decide +kernel
theorem d11_agrees_47 : decode m11_agrees.2.1 47 = .ok (.imul, 1) := by decide +kernel
theorem d11_agrees_48 : decode m11_agrees.2.1 48 = .ok (.iload_n 3, 1) := by decide +kernel
theorem d11_agrees_49 : decode m11_agrees.2.1 49 = .ok (.iadd, 1) := by decide +kernel
theorem d11_agrees_50 : decode m11_agrees.2.1 50 = .ok (.iload 4, 2) := by decide +kernel
theorem d11_agrees_52 : decode m11_agrees.2.1 52 = .ok (.iastore, 1) := by decide +kernel
theorem d11_agrees_53 : decode m11_agrees.2.1 53 = .ok (.aload_n 0, 1) := by decide +kernel
theorem d11_agrees_54 : decode m11_agrees.2.1 54 = .ok (.getfield 71, 3) := by decide +kernel
theorem d11_agrees_57 : decode m11_agrees.2.1 57 = .ok (.bipush 6, 2) := by decide +kernel
theorem d11_agrees_59 : decode m11_agrees.2.1 59 = .ok (.iload_n 2, 1) := by decide +kernel
theorem d11_agrees_60 : decode m11_agrees.2.1 60 = .ok (.imul, 1) := by decide +kernel
theorem d11_agrees_61 : decode m11_agrees.2.1 61 = .ok (.iload_n 3, 1) := by decide +kernel
theorem d11_agrees_62 : decode m11_agrees.2.1 62 = .ok (.iadd, 1) := by decide +kernel
theorem d11_agrees_63 : decode m11_agrees.2.1 63 = .ok (.iload 4, 2) := by decide +kernel
theorem d11_agrees_65 : decode m11_agrees.2.1 65 = .ok (.iastore, 1) := by decide +kernel
theorem d11_agrees_66 : decode m11_agrees.2.1 66 = .ok (.iconst 1, 1) := by decide +kernel
theorem d11_agrees_67 : decode m11_agrees.2.1 67 = .ok (.ireturn, 1) := by decide +kernel
def f11_agrees (x1 : Int) (x2 : Int) (x3 : Int) (h : AH) : Option (Int × AH) :=
  bnd (f11_offNow x1 x2 x3 h) fun r1 h2 =>
  if ¬ w32 r1 = (-1) then
    asrt (0 ≤ w32 ((6 * x1) + x3) ∧ w32 ((6 * x1) + x3) < 48) <|
    asrt (0 ≤ w32 ((6 * x2) + x3) ∧ w32 ((6 * x2) + x3) < 48) <|
    lt (dv32 ((h2.2 90 (w32 ((6 * x1) + x3)).toNat) + (h2.2 90 (w32 ((6 * x2) + x3)).toNat)) 2) fun u7 =>
    asrt (0 ≤ w32 ((6 * x1) + x3) ∧ w32 ((6 * x1) + x3) < 48) <|
    lt (wr h2 90 (w32 ((6 * x1) + x3)).toNat u7) fun h9 =>
    asrt (0 ≤ w32 ((6 * x2) + x3) ∧ w32 ((6 * x2) + x3) < 48) <|
    lt (wr h9 90 (w32 ((6 * x2) + x3)).toNat u7) fun h12 =>
    some (1, h12)
  else
    some (0, h2)
set_option maxRecDepth 100000 in
theorem c11_agrees (l : Launch) (G : Geo) (x1 : Int) (x2 : Int) (x3 : Int) (h : AH) : Con l G m11_agrees rvI 4 [vA G 69, vI x1, vI x2, vI x3] h (f11_agrees x1 x2 x3 h) := by
  have hd : 4 ≤ 4 := Nat.le_refl _
  refine con_Z rfl (by decide) rfl rfl (Nat.le_of_ble_eq_true rfl) (L := [some (vA G 69), some (vI x1), some (vI x2), some (vI x3), none]) ?_
  unfold f11_agrees
  refine den_aload_n (pc := 0) d11_agrees_0 rfl rfl ?_
  refine den_iload_n (pc := 1) d11_agrees_1 rfl rfl ?_
  refine den_iload_n (pc := 2) d11_agrees_2 rfl rfl ?_
  refine den_iload_n (pc := 3) d11_agrees_3 rfl rfl ?_
  refine den_callVI (pc := 4) (As := [vI x1, vI x2, vI x3]) fv_11_343 rfl rfl (ok_69 _) (Nat.le_of_ble_eq_true rfl) (Nat.le_trans (by decide) hd) d11_agrees_4 (c11_offNow l G x1 x2 x3 h) (fun r1 h2 m3 o4 => ?_)
  refine den_iconst (pc := 7) d11_agrees_7 ?_
  refine den_icmp_ne (pc := 8) (tgt := 13) d11_agrees_8 (by decide) rfl (by decide) (fun _ => ?_) (fun _ => ?_)
  · refine den_aload_n (pc := 13) d11_agrees_13 rfl rfl ?_
    refine den_getR (pc := 14) (b := 90) fa_11_71 (ok_69 _) rfl d11_agrees_14 ?_
    refine den_bipush (pc := 17) d11_agrees_17 (by decide) ?_
    refine den_iload_n (pc := 19) d11_agrees_19 rfl rfl ?_
    refine den_imul (pc := 20) d11_agrees_20 ?_
    refine den_iload_n (pc := 21) d11_agrees_21 rfl rfl ?_
    refine den_iadd (pc := 22) d11_agrees_22 ?_
    refine den_asrt (fun a5 => ?_)
    refine den_iaload (pc := 23) sh_90 (sz_lt (by decide)) rfl a5 d11_agrees_23 ?_
    refine den_aload_n (pc := 24) d11_agrees_24 rfl rfl ?_
    refine den_getR (pc := 25) (b := 90) fa_11_71 (ok_69 _) rfl d11_agrees_25 ?_
    refine den_bipush (pc := 28) d11_agrees_28 (by decide) ?_
    refine den_iload_n (pc := 30) d11_agrees_30 rfl rfl ?_
    refine den_imul (pc := 31) d11_agrees_31 ?_
    refine den_iload_n (pc := 32) d11_agrees_32 rfl rfl ?_
    refine den_iadd (pc := 33) d11_agrees_33 ?_
    refine den_asrt (fun a6 => ?_)
    refine den_iaload (pc := 34) sh_90 (sz_lt (by decide)) rfl a6 d11_agrees_34 ?_
    refine den_iadd (pc := 35) d11_agrees_35 ?_
    refine den_iconst (pc := 36) d11_agrees_36 ?_
    refine den_idiv (pc := 37) d11_agrees_37 (by decide) ?_
    refine den_istoreL (pc := 38) (L2 := fun y => [some (vA G 69), some (vI x1), some (vI x2), some (vI x3), some (vI y)]) d11_agrees_38 (by decide) (fun _ => rfl) (fun u7 => ?_)
    refine den_aload_n (pc := 40) d11_agrees_40 rfl rfl ?_
    refine den_getR (pc := 41) (b := 90) fa_11_71 (ok_69 _) rfl d11_agrees_41 ?_
    refine den_bipush (pc := 44) d11_agrees_44 (by decide) ?_
    refine den_iload_n (pc := 46) d11_agrees_46 rfl rfl ?_
    refine den_imul (pc := 47) d11_agrees_47 ?_
    refine den_iload_n (pc := 48) d11_agrees_48 rfl rfl ?_
    refine den_iadd (pc := 49) d11_agrees_49 ?_
    refine den_iload (pc := 50) d11_agrees_50 rfl ?_
    refine den_asrt (fun a8 => ?_)
    refine den_iastore (pc := 52) sh_90 (sz_lt (by decide)) rfl a8 d11_agrees_52 ?_
    refine den_ltH (fun h9 m10 => ?_)
    refine den_aload_n (pc := 53) d11_agrees_53 rfl rfl ?_
    refine den_getR (pc := 54) (b := 90) fa_11_71 (ok_69 _) rfl d11_agrees_54 ?_
    refine den_bipush (pc := 57) d11_agrees_57 (by decide) ?_
    refine den_iload_n (pc := 59) d11_agrees_59 rfl rfl ?_
    refine den_imul (pc := 60) d11_agrees_60 ?_
    refine den_iload_n (pc := 61) d11_agrees_61 rfl rfl ?_
    refine den_iadd (pc := 62) d11_agrees_62 ?_
    refine den_iload (pc := 63) d11_agrees_63 rfl ?_
    refine den_asrt (fun a11 => ?_)
    refine den_iastore (pc := 65) sh_90 (sz_lt (by decide)) rfl a11 d11_agrees_65 ?_
    refine den_ltH (fun h12 m13 => ?_)
    refine den_iconst (pc := 66) d11_agrees_66 ?_
    exact den_zret (pc := 67) rfl (by decide) d11_agrees_67
  · refine den_iconst (pc := 11) d11_agrees_11 ?_
    exact den_zret (pc := 12) rfl (by decide) d11_agrees_12
theorem d11_denies_0 : decode m11_denies.2.1 0 = .ok (.aload_n 0, 1) := by decide +kernel
theorem d11_denies_1 : decode m11_denies.2.1 1 = .ok (.getfield 71, 3) := by decide +kernel
theorem d11_denies_4 : decode m11_denies.2.1 4 = .ok (.bipush 6, 2) := by decide +kernel
theorem d11_denies_6 : decode m11_denies.2.1 6 = .ok (.iload_n 2, 1) := by decide +kernel
theorem d11_denies_7 : decode m11_denies.2.1 7 = .ok (.imul, 1) := by decide +kernel
theorem d11_denies_8 : decode m11_denies.2.1 8 = .ok (.iload_n 3, 1) := by decide +kernel
theorem d11_denies_9 : decode m11_denies.2.1 9 = .ok (.iadd, 1) := by decide +kernel
theorem d11_denies_10 : decode m11_denies.2.1 10 = .ok (.iaload, 1) := by decide +kernel
theorem d11_denies_11 : decode m11_denies.2.1 11 = .ok (.iconst (-1), 1) := by decide +kernel
theorem d11_denies_12 : decode m11_denies.2.1 12 = .ok (.if_icmp .ne 5, 3) := by decide +kernel
theorem d11_denies_15 : decode m11_denies.2.1 15 = .ok (.iconst 0, 1) := by decide +kernel
theorem d11_denies_16 : decode m11_denies.2.1 16 = .ok (.ireturn, 1) := by decide +kernel
theorem d11_denies_17 : decode m11_denies.2.1 17 = .ok (.aload_n 0, 1) := by decide +kernel
theorem d11_denies_18 : decode m11_denies.2.1 18 = .ok (.getfield 71, 3) := by decide +kernel
theorem d11_denies_21 : decode m11_denies.2.1 21 = .ok (.bipush 6, 2) := by decide +kernel
theorem d11_denies_23 : decode m11_denies.2.1 23 = .ok (.iload_n 1, 1) := by decide +kernel
theorem d11_denies_24 : decode m11_denies.2.1 24 = .ok (.imul, 1) := by decide +kernel
theorem d11_denies_25 : decode m11_denies.2.1 25 = .ok (.iload_n 3, 1) := by decide +kernel
theorem d11_denies_26 : decode m11_denies.2.1 26 = .ok (.iadd, 1) := by decide +kernel
theorem d11_denies_27 : decode m11_denies.2.1 27 = .ok (.bipush 9, 2) := by decide +kernel
theorem d11_denies_29 : decode m11_denies.2.1 29 = .ok (.aload_n 0, 1) := by decide +kernel
theorem d11_denies_30 : decode m11_denies.2.1 30 = .ok (.getfield 71, 3) := by decide +kernel
theorem d11_denies_33 : decode m11_denies.2.1 33 = .ok (.bipush 6, 2) := by decide +kernel
theorem d11_denies_35 : decode m11_denies.2.1 35 = .ok (.iload_n 2, 1) := by decide +kernel
theorem d11_denies_36 : decode m11_denies.2.1 36 = .ok (.imul, 1) := by decide +kernel
theorem d11_denies_37 : decode m11_denies.2.1 37 = .ok (.iload_n 3, 1) := by decide +kernel
theorem d11_denies_38 : decode m11_denies.2.1 38 = .ok (.iadd, 1) := by decide +kernel
theorem d11_denies_39 : decode m11_denies.2.1 39 = .ok (.iaload, 1) := by decide +kernel
theorem d11_denies_40 : decode m11_denies.2.1 40 = .ok (.isub, 1) := by decide +kernel
theorem d11_denies_41 : decode m11_denies.2.1 41 = .ok (.iastore, 1) := by decide +kernel
theorem d11_denies_42 : decode m11_denies.2.1 42 = .ok (.iconst 1, 1) := by decide +kernel
theorem d11_denies_43 : decode m11_denies.2.1 43 = .ok (.ireturn, 1) := by decide +kernel
def f11_denies (x1 : Int) (x2 : Int) (x3 : Int) (h : AH) : Option (Int × AH) :=
  asrt (0 ≤ w32 ((6 * x2) + x3) ∧ w32 ((6 * x2) + x3) < 48) <|
  if ¬ w32 (h.2 90 (w32 ((6 * x2) + x3)).toNat) = (-1) then
    asrt (0 ≤ w32 ((6 * x2) + x3) ∧ w32 ((6 * x2) + x3) < 48) <|
    asrt (0 ≤ w32 ((6 * x1) + x3) ∧ w32 ((6 * x1) + x3) < 48) <|
    lt (wr h 90 (w32 ((6 * x1) + x3)).toNat (9 - (h.2 90 (w32 ((6 * x2) + x3)).toNat))) fun h4 =>
    some (1, h4)
  else
    some (0, h)
set_option maxRecDepth 100000 in
theorem c11_denies (l : Launch) (G : Geo) (x1 : Int) (x2 : Int) (x3 : Int) (h : AH) : Con l G m11_denies rvI 2 [vA G 69, vI x1, vI x2, vI x3] h (f11_denies x1 x2 x3 h) := by
  have hd : 2 ≤ 2 := Nat.le_refl _
  refine con_Z rfl (by decide) rfl rfl (Nat.le_of_ble_eq_true rfl) (L := [some (vA G 69), some (vI x1), some (vI x2), some (vI x3)]) ?_
  unfold f11_denies
  refine den_aload_n (pc := 0) d11_denies_0 rfl rfl ?_
  refine den_getR (pc := 1) (b := 90) fa_11_71 (ok_69 _) rfl d11_denies_1 ?_
  refine den_bipush (pc := 4) d11_denies_4 (by decide) ?_
  refine den_iload_n (pc := 6) d11_denies_6 rfl rfl ?_
  refine den_imul (pc := 7) d11_denies_7 ?_
  refine den_iload_n (pc := 8) d11_denies_8 rfl rfl ?_
  refine den_iadd (pc := 9) d11_denies_9 ?_
  refine den_asrt (fun a1 => ?_)
  refine den_iaload (pc := 10) sh_90 (sz_lt (by decide)) rfl a1 d11_denies_10 ?_
  refine den_iconst (pc := 11) d11_denies_11 ?_
  refine den_icmp_ne (pc := 12) (tgt := 17) d11_denies_12 (by decide) rfl (by decide) (fun _ => ?_) (fun _ => ?_)
  · refine den_aload_n (pc := 17) d11_denies_17 rfl rfl ?_
    refine den_getR (pc := 18) (b := 90) fa_11_71 (ok_69 _) rfl d11_denies_18 ?_
    refine den_bipush (pc := 21) d11_denies_21 (by decide) ?_
    refine den_iload_n (pc := 23) d11_denies_23 rfl rfl ?_
    refine den_imul (pc := 24) d11_denies_24 ?_
    refine den_iload_n (pc := 25) d11_denies_25 rfl rfl ?_
    refine den_iadd (pc := 26) d11_denies_26 ?_
    refine den_bipush (pc := 27) d11_denies_27 (by decide) ?_
    refine den_aload_n (pc := 29) d11_denies_29 rfl rfl ?_
    refine den_getR (pc := 30) (b := 90) fa_11_71 (ok_69 _) rfl d11_denies_30 ?_
    refine den_bipush (pc := 33) d11_denies_33 (by decide) ?_
    refine den_iload_n (pc := 35) d11_denies_35 rfl rfl ?_
    refine den_imul (pc := 36) d11_denies_36 ?_
    refine den_iload_n (pc := 37) d11_denies_37 rfl rfl ?_
    refine den_iadd (pc := 38) d11_denies_38 ?_
    refine den_asrt (fun a2 => ?_)
    refine den_iaload (pc := 39) sh_90 (sz_lt (by decide)) rfl a2 d11_denies_39 ?_
    refine den_isub (pc := 40) d11_denies_40 ?_
    refine den_asrt (fun a3 => ?_)
    refine den_iastore (pc := 41) sh_90 (sz_lt (by decide)) rfl a3 d11_denies_41 ?_
    refine den_ltH (fun h4 m5 => ?_)
    refine den_iconst (pc := 42) d11_denies_42 ?_
    exact den_zret (pc := 43) rfl (by decide) d11_denies_43
  · refine den_iconst (pc := 15) d11_denies_15 ?_
    exact den_zret (pc := 16) rfl (by decide) d11_denies_16
