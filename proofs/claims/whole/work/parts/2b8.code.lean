/-! 11_hired 11_calms 11_awayOf 11_holdersOf 11_calm 11_mean -/
theorem d11_hired_0 : decode m11_hired.2.1 0 = .ok (.aload_n 0, 1) := by decide +kernel
theorem d11_hired_1 : decode m11_hired.2.1 1 = .ok (.iload_n 1, 1) := by decide +kernel
theorem d11_hired_2 : decode m11_hired.2.1 2 = .ok (.invokevirtual 201, 3) := by decide +kernel
theorem d11_hired_5 : decode m11_hired.2.1 5 = .ok (.ifCond .eq 12, 3) := by decide +kernel
theorem d11_hired_8 : decode m11_hired.2.1 8 = .ok (.aload_n 0, 1) := by decide +kernel
theorem d11_hired_9 : decode m11_hired.2.1 9 = .ok (.iload_n 2, 1) := by decide +kernel
theorem d11_hired_10 : decode m11_hired.2.1 10 = .ok (.iload_n 3, 1) := by decide +kernel
theorem d11_hired_11 : decode m11_hired.2.1 11 = .ok (.invokevirtual 228, 3) := by decide +kernel
theorem d11_hired_14 : decode m11_hired.2.1 14 = .ok (.ifCond .ne 5, 3) := by decide +kernel
theorem d11_hired_17 : decode m11_hired.2.1 17 = .ok (.iconst (-1), 1) := by decide +kernel
theorem d11_hired_18 : decode m11_hired.2.1 18 = .ok (.ireturn, 1) := by decide +kernel
theorem d11_hired_19 : decode m11_hired.2.1 19 = .ok (.iconst (-1), 1) := by decide +kernel
theorem d11_hired_20 : decode m11_hired.2.1 20 = .ok (.istore 5, 2) := by decide +kernel
theorem d11_hired_22 : decode m11_hired.2.1 22 = .ok (.iconst 0, 1) := by decide +kernel
theorem d11_hired_23 : decode m11_hired.2.1 23 = .ok (.istore 6, 2) := by decide +kernel
theorem d11_hired_25 : decode m11_hired.2.1 25 = .ok (.iconst 0, 1) := by decide +kernel
theorem d11_hired_26 : decode m11_hired.2.1 26 = .ok (.istore 7, 2) := by decide +kernel
theorem d11_hired_28 : decode m11_hired.2.1 28 = .ok (.iload 7, 2) := by decide +kernel
theorem d11_hired_30 : decode m11_hired.2.1 30 = .ok (.aload_n 0, 1) := by decide +kernel
theorem d11_hired_31 : decode m11_hired.2.1 31 = .ok (.getfield 195, 3) := by decide +kernel
theorem d11_hired_34 : decode m11_hired.2.1 34 = .ok (.if_icmp .ge 71, 3) := by decide +kernel
theorem d11_hired_37 : decode m11_hired.2.1 37 = .ok (.aload_n 0, 1) := by decide +kernel
theorem d11_hired_38 : decode m11_hired.2.1 38 = .ok (.iload_n 3, 1) := by decide +kernel
theorem d11_hired_39 : decode m11_hired.2.1 39 = .ok (.iload 7, 2) := by decide +kernel
theorem d11_hired_41 : decode m11_hired.2.1 41 = .ok (.invokevirtual 210, 3) := by decide +kernel
theorem d11_hired_44 : decode m11_hired.2.1 44 = .ok (.iconst (-1), 1) := by decide +kernel
theorem d11_hired_45 : decode m11_hired.2.1 45 = .ok (.if_icmp .ne 7, 3) := by decide +kernel
theorem d11_hired_48 : decode m11_hired.2.1 48 = .ok (.iconst 0, 1) := by decide +kernel
theorem d11_hired_49 : decode m11_hired.2.1 49 = .ok (.goto 30, 3) := by decide +kernel
theorem d11_hired_52 : decode m11_hired.2.1 52 = .ok (.bipush 9, 2) := by decide +kernel
theorem d11_hired_54 : decode m11_hired.2.1 54 = .ok (.aload_n 0, 1) := by decide +kernel
theorem d11_hired_55 : decode m11_hired.2.1 55 = .ok (.iload_n 3, 1) := by decide +kernel
theorem d11_hired_56 : decode m11_hired.2.1 56 = .ok (.iload 7, 2) := by decide +kernel
theorem d11_hired_58 : decode m11_hired.2.1 58 = .ok (.invokevirtual 210, 3) := by decide +kernel
theorem d11_hired_61 : decode m11_hired.2.1 61 = .ok (.isub, 1) := by decide +kernel
theorem d11_hired_62 : decode m11_hired.2.1 62 = .ok (.aload_n 0, 1) := by decide +kernel
theorem d11_hired_63 : decode m11_hired.2.1 63 = .ok (.iload_n 3, 1) := by decide +kernel
theorem d11_hired_64 : decode m11_hired.2.1 64 = .ok (.iload 7, 2) := by decide +kernel
theorem d11_hired_66 : decode m11_hired.2.1 66 = .ok (.invokevirtual 210, 3) := by decide +kernel
theorem d11_hired_69 : decode m11_hired.2.1 69 = .ok (.invokestatic 225, 3) := by decide +kernel
theorem d11_hired_72 : decode m11_hired.2.1 72 = .ok (.aload_n 0, 1) := by decide +kernel
theorem d11_hired_73 : decode m11_hired.2.1 73 = .ok (.iload 7, 2) := by decide +kernel
theorem d11_hired_75 : decode m11_hired.2.1 75 = .ok (.invokevirtual 213, 3) := by decide +kernel
theorem d11_hired_78 : decode m11_hired.2.1 78 = .ok (.imul, 1) := by decide +kernel
theorem d11_hired_79 : decode m11_hired.2.1 79 = .ok (.istore 8, 2) := by decide +kernel
theorem d11_hired_81 : decode m11_hired.2.1 81 = .ok (.iload 8, 2) := by decide +kernel
theorem d11_hired_83 : decode m11_hired.2.1 83 = .ok (.iload 6, 2) := by decide +kernel
theorem d11_hired_85 : decode m11_hired.2.1 85 = .ok (.if_icmp .gt 6, 3) := by decide +kernel
theorem d11_hired_88 : decode m11_hired.2.1 88 = .ok (.goto 11, 3) := by decide +kernel
theorem d11_hired_91 : decode m11_hired.2.1 91 = .ok (.iload 7, 2) := by decide +kernel
theorem d11_hired_93 : decode m11_hired.2.1 93 = .ok (.istore 5, 2) := by decide +kernel
theorem d11_hired_95 : decode m11_hired.2.1 95 = .ok (.iload 8, 2) := by decide +kernel
theorem d11_hired_97 : decode m11_hired.2.1 97 = .ok (.istore 6, 2) := by decide +kernel
theorem d11_hired_99 : decode m11_hired.2.1 99 = .ok (.iinc 7 1, 3) := by decide +kernel
theorem d11_hired_102 : decode m11_hired.2.1 102 = .ok (.goto (-74), 3) := by decide +kernel
theorem d11_hired_105 : decode m11_hired.2.1 105 = .ok (.iload 5, 2) := by decide +kernel
theorem d11_hired_107 : decode m11_hired.2.1 107 = .ok (.iconst (-1), 1) := by decide +kernel
theorem d11_hired_108 : decode m11_hired.2.1 108 = .ok (.if_icmp .eq 8, 3) := by decide +kernel
theorem d11_hired_111 : decode m11_hired.2.1 111 = .ok (.iload 4, 2) := by decide +kernel
theorem d11_hired_113 : decode m11_hired.2.1 113 = .ok (.ifCond .ne 8, 3) := by decide +kernel
theorem d11_hired_116 : decode m11_hired.2.1 116 = .ok (.iload 5, 2) := by decide +kernel
theorem d11_hired_118 : decode m11_hired.2.1 118 = .ok (.goto 5, 3) := by decide +kernel
theorem d11_hired_121 : decode m11_hired.2.1 121 = .ok (.iload 6, 2) := by decide +kernel
theorem d11_hired_123 : decode m11_hired.2.1 123 = .ok (.ireturn, 1) := by decide +kernel
def b11_hired_99 (rec28 : Int × Int × Int × AH → Option (Int × AH)) (x3 : Int) (x4 : Int) (x5 : Int) (x6 : Int) (x7 : Int) (h : AH) : Option (Int × AH) :=
  rec28 (x5, x6, (x7 + 1), h)
set_option maxRecDepth 100000 in
theorem t11_hired_99 (l : Launch) (G : Geo) (d : Nat) (hd : 5 ≤ d) (x3 : Int) (x4 : Int) (x5 : Int) (x6 : Int) (x7 : Int) (rec28 : Int × Int × Int × AH → Option (Int × AH)) (H28 : ∀ (x5 : Int) (x6 : Int) (x7 : Int) (h : AH), Den l G m11_hired rvI d 28 [some (vA G 69), none, none, some (vI x3), some (vI x4), some (vI x5), some (vI x6), some (vI x7), none] [] h (rec28 (x5, x6, x7, h))) (h : AH) : Den l G m11_hired rvI d 99 [some (vA G 69), none, none, some (vI x3), some (vI x4), some (vI x5), some (vI x6), some (vI x7), none] [] h (b11_hired_99 rec28 x3 x4 x5 x6 x7 h) := by
  unfold b11_hired_99
  refine den_iinc (pc := 99) (L2 := [some (vA G 69), none, none, some (vI x3), some (vI x4), some (vI x5), some (vI x6), some (vI (x7 + 1)), none]) d11_hired_99 (by decide) rfl rfl ?_
  refine den_goto (pc := 102) (tgt := 28) d11_hired_102 (by decide) ?_
  exact H28 x5 x6 (x7 + 1) h
def b11_hired_79 (rec28 : Int × Int × Int × AH → Option (Int × AH)) (x3 : Int) (x4 : Int) (x5 : Int) (x6 : Int) (x7 : Int) (s0 : Int) (h : AH) : Option (Int × AH) :=
  if w32 x6 < w32 s0 then
    b11_hired_99 rec28 x3 x4 x7 s0 x7 h
  else
    b11_hired_99 rec28 x3 x4 x5 x6 x7 h
set_option maxRecDepth 100000 in
theorem t11_hired_79 (l : Launch) (G : Geo) (d : Nat) (hd : 5 ≤ d) (x3 : Int) (x4 : Int) (x5 : Int) (x6 : Int) (x7 : Int) (s0 : Int) (rec28 : Int × Int × Int × AH → Option (Int × AH)) (H28 : ∀ (x5 : Int) (x6 : Int) (x7 : Int) (h : AH), Den l G m11_hired rvI d 28 [some (vA G 69), none, none, some (vI x3), some (vI x4), some (vI x5), some (vI x6), some (vI x7), none] [] h (rec28 (x5, x6, x7, h))) (h : AH) : Den l G m11_hired rvI d 79 [some (vA G 69), none, none, some (vI x3), some (vI x4), some (vI x5), some (vI x6), some (vI x7), none] [vI s0] h (b11_hired_79 rec28 x3 x4 x5 x6 x7 s0 h) := by
  unfold b11_hired_79
  refine den_istore (pc := 79) (L2 := [some (vA G 69), none, none, some (vI x3), some (vI x4), some (vI x5), some (vI x6), some (vI x7), some (vI s0)]) d11_hired_79 (by decide) rfl ?_
  refine den_iload (pc := 81) d11_hired_81 rfl ?_
  refine den_iload (pc := 83) d11_hired_83 rfl ?_
  refine den_icmp_gt (pc := 85) (tgt := 91) d11_hired_85 (by decide) rfl rfl (fun _ => ?_) (fun _ => ?_)
  · refine den_iload (pc := 91) d11_hired_91 rfl ?_
    refine den_istore (pc := 93) (L2 := [some (vA G 69), none, none, some (vI x3), some (vI x4), some (vI x7), some (vI x6), some (vI x7), some (vI s0)]) d11_hired_93 (by decide) rfl ?_
    refine den_iload (pc := 95) d11_hired_95 rfl ?_
    refine den_istore (pc := 97) (L2 := [some (vA G 69), none, none, some (vI x3), some (vI x4), some (vI x7), some (vI s0), some (vI x7), some (vI s0)]) d11_hired_97 (by decide) rfl ?_
    refine den_wk [true, true, true, true, true, true, true, true, false] rfl ?_
    exact t11_hired_99 l G _ hd x3 x4 x7 s0 x7 rec28 H28 h
  · refine den_goto (pc := 88) (tgt := 99) d11_hired_88 (by decide) ?_
    refine den_wk [true, true, true, true, true, true, true, true, false] rfl ?_
    exact t11_hired_99 l G _ hd x3 x4 x5 x6 x7 rec28 H28 h
def b11_hired_28 (rec28 : Int × Int × Int × AH → Option (Int × AH)) (x3 : Int) (x4 : Int) (x5 : Int) (x6 : Int) (x7 : Int) (h : AH) : Option (Int × AH) :=
  if w32 (h.2 69 14) ≤ w32 x7 then
    if w32 x5 = (-1) then
      some (x5, h)
    else
      if ¬ w32 x4 = 0 then
        some (x6, h)
      else
        some (x5, h)
  else
    bnd (f11_heldOf x3 x7 h) fun r1 h2 =>
    if ¬ w32 r1 = (-1) then
      bnd (f11_heldOf x3 x7 h2) fun r5 h6 =>
      bnd (f11_heldOf x3 x7 h6) fun r9 h10 =>
      bnd (f11_off (9 - r5) r9 h10) fun r13 h14 =>
      bnd (f11_heatOf x7 h14) fun r17 h18 =>
      b11_hired_79 rec28 x3 x4 x5 x6 x7 (r13 * r17) h18
    else
      b11_hired_79 rec28 x3 x4 x5 x6 x7 0 h2
set_option maxRecDepth 100000 in
theorem t11_hired_28 (l : Launch) (G : Geo) (d : Nat) (hd : 5 ≤ d) (x3 : Int) (x4 : Int) (x5 : Int) (x6 : Int) (x7 : Int) (rec28 : Int × Int × Int × AH → Option (Int × AH)) (H28 : ∀ (x5 : Int) (x6 : Int) (x7 : Int) (h : AH), Den l G m11_hired rvI d 28 [some (vA G 69), none, none, some (vI x3), some (vI x4), some (vI x5), some (vI x6), some (vI x7), none] [] h (rec28 (x5, x6, x7, h))) (h : AH) : Den l G m11_hired rvI d 28 [some (vA G 69), none, none, some (vI x3), some (vI x4), some (vI x5), some (vI x6), some (vI x7), none] [] h (b11_hired_28 rec28 x3 x4 x5 x6 x7 h) := by
  unfold b11_hired_28
  refine den_iload (pc := 28) d11_hired_28 rfl ?_
  refine den_aload_n (pc := 30) d11_hired_30 rfl rfl ?_
  refine den_getI (pc := 31) fa_11_195 (ok_69 _) d11_hired_31 ?_
  refine den_icmp_ge (pc := 34) (tgt := 105) d11_hired_34 (by decide) rfl rfl (fun _ => ?_) (fun _ => ?_)
  · refine den_iload (pc := 105) d11_hired_105 rfl ?_
    refine den_iconst (pc := 107) d11_hired_107 ?_
    refine den_icmp_eq (pc := 108) (tgt := 116) d11_hired_108 (by decide) rfl (by decide) (fun _ => ?_) (fun _ => ?_)
    · refine den_iload (pc := 116) d11_hired_116 rfl ?_
      refine den_goto (pc := 118) (tgt := 123) d11_hired_118 (by decide) ?_
      exact den_iret (pc := 123) rfl d11_hired_123
    · refine den_iload (pc := 111) d11_hired_111 rfl ?_
      refine den_if_ne (pc := 113) (tgt := 121) d11_hired_113 (by decide) rfl (fun _ => ?_) (fun _ => ?_)
      · refine den_iload (pc := 121) d11_hired_121 rfl ?_
        exact den_iret (pc := 123) rfl d11_hired_123
      · refine den_iload (pc := 116) d11_hired_116 rfl ?_
        refine den_goto (pc := 118) (tgt := 123) d11_hired_118 (by decide) ?_
        exact den_iret (pc := 123) rfl d11_hired_123
  · refine den_aload_n (pc := 37) d11_hired_37 rfl rfl ?_
    refine den_iload_n (pc := 38) d11_hired_38 rfl rfl ?_
    refine den_iload (pc := 39) d11_hired_39 rfl ?_
    refine den_callVI (pc := 41) (As := [vI x3, vI x7]) fv_11_210 rfl rfl (ok_69 _) (Nat.le_of_ble_eq_true rfl) (Nat.le_trans (by decide) hd) d11_hired_41 (c11_heldOf l G x3 x7 h) (fun r1 h2 m3 o4 => ?_)
    refine den_iconst (pc := 44) d11_hired_44 ?_
    refine den_icmp_ne (pc := 45) (tgt := 52) d11_hired_45 (by decide) rfl (by decide) (fun _ => ?_) (fun _ => ?_)
    · refine den_bipush (pc := 52) d11_hired_52 (by decide) ?_
      refine den_aload_n (pc := 54) d11_hired_54 rfl rfl ?_
      refine den_iload_n (pc := 55) d11_hired_55 rfl rfl ?_
      refine den_iload (pc := 56) d11_hired_56 rfl ?_
      refine den_callVI (pc := 58) (As := [vI x3, vI x7]) fv_11_210 rfl rfl (ok_69 _) (Nat.le_of_ble_eq_true rfl) (Nat.le_trans (by decide) hd) d11_hired_58 (c11_heldOf l G x3 x7 h2) (fun r5 h6 m7 o8 => ?_)
      refine den_isub (pc := 61) d11_hired_61 ?_
      refine den_aload_n (pc := 62) d11_hired_62 rfl rfl ?_
      refine den_iload_n (pc := 63) d11_hired_63 rfl rfl ?_
      refine den_iload (pc := 64) d11_hired_64 rfl ?_
      refine den_callVI (pc := 66) (As := [vI x3, vI x7]) fv_11_210 rfl rfl (ok_69 _) (Nat.le_of_ble_eq_true rfl) (Nat.le_trans (by decide) hd) d11_hired_66 (c11_heldOf l G x3 x7 h6) (fun r9 h10 m11 o12 => ?_)
      refine den_callSI (pc := 69) (As := [vI (9 - r5), vI r9]) fs_11_225 rfl rfl (Nat.le_of_ble_eq_true rfl) (Nat.le_trans (by decide) hd) d11_hired_69 (c11_off l G (9 - r5) r9 h10) (fun r13 h14 m15 o16 => ?_)
      refine den_aload_n (pc := 72) d11_hired_72 rfl rfl ?_
      refine den_iload (pc := 73) d11_hired_73 rfl ?_
      refine den_callVI (pc := 75) (As := [vI x7]) fv_11_213 rfl rfl (ok_69 _) (Nat.le_of_ble_eq_true rfl) (Nat.le_trans (by decide) hd) d11_hired_75 (c11_heatOf l G x7 h14) (fun r17 h18 m19 o20 => ?_)
      refine den_imul (pc := 78) d11_hired_78 ?_
      exact t11_hired_79 l G _ hd x3 x4 x5 x6 x7 (r13 * r17) rec28 H28 h18
    · refine den_iconst (pc := 48) d11_hired_48 ?_
      refine den_goto (pc := 49) (tgt := 79) d11_hired_49 (by decide) ?_
      exact t11_hired_79 l G _ hd x3 x4 x5 x6 x7 0 rec28 H28 h2
def l11_hired_28 (x3 : Int) (x4 : Int) (x5 : Int) (x6 : Int) (x7 : Int) (h : AH) : Option (Int × AH) := fx (fun rec z => b11_hired_28 rec x3 x4 z.1 z.2.1 z.2.2.1 z.2.2.2) FU (x5, x6, x7, h)
set_option maxRecDepth 100000 in
theorem tl11_hired_28 (l : Launch) (G : Geo) (d : Nat) (hd : 5 ≤ d) (x3 : Int) (x4 : Int) : ∀ (n : Nat) (z : Int × Int × Int × AH), True → Den l G m11_hired rvI d 28 [some (vA G 69), none, none, some (vI x3), some (vI x4), some (vI z.1), some (vI z.2.1), some (vI z.2.2.1), none] [] z.2.2.2 (fx (fun rec z => b11_hired_28 rec x3 x4 z.1 z.2.1 z.2.2.1 z.2.2.2) n z) :=
  den_fx (F := fun rec z => b11_hired_28 rec x3 x4 z.1 z.2.1 z.2.2.1 z.2.2.2) (P := fun z => True) (fL := fun z => [some (vA G 69), none, none, some (vI x3), some (vI x4), some (vI z.1), some (vI z.2.1), some (vI z.2.2.1), none]) (fs := fun z => []) (fh := fun z => z.2.2.2) (fun rec hrec z hz => t11_hired_28 l G d hd x3 x4 z.1 z.2.1 z.2.2.1 rec (fun x5 x6 x7 h => hrec (x5, x6, x7, h) trivial) z.2.2.2 )
def f11_hired (x1 : Int) (x2 : Int) (x3 : Int) (x4 : Int) (h : AH) : Option (Int × AH) :=
  bnd (f11_isVillage x1 h) fun r21 h22 =>
  if w32 r21 = 0 then
    some ((-1), h22)
  else
    bnd (f11_isTwo x2 x3 h22) fun r25 h26 =>
    if ¬ w32 r25 = 0 then
      l11_hired_28 x3 x4 (-1) 0 0 h26
    else
      some ((-1), h26)
set_option maxRecDepth 100000 in
theorem c11_hired (l : Launch) (G : Geo) (x1 : Int) (x2 : Int) (x3 : Int) (x4 : Int) (h : AH) : Con l G m11_hired rvI 5 [vA G 69, vI x1, vI x2, vI x3, vI x4] h (f11_hired x1 x2 x3 x4 h) := by
  have hd : 5 ≤ 5 := Nat.le_refl _
  refine con_I rfl (by decide) rfl rfl (Nat.le_of_ble_eq_true rfl) (L := [some (vA G 69), some (vI x1), some (vI x2), some (vI x3), some (vI x4), none, none, none, none]) ?_
  unfold f11_hired
  refine den_aload_n (pc := 0) d11_hired_0 rfl rfl ?_
  refine den_iload_n (pc := 1) d11_hired_1 rfl rfl ?_
  refine den_callVI (pc := 2) (As := [vI x1]) fv_11_201 rfl rfl (ok_69 _) (Nat.le_of_ble_eq_true rfl) (Nat.le_trans (by decide) hd) d11_hired_2 (c11_isVillage l G x1 h) (fun r21 h22 m23 o24 => ?_)
  refine den_if_eq (pc := 5) (tgt := 17) d11_hired_5 (by decide) rfl (fun _ => ?_) (fun _ => ?_)
  · refine den_iconst (pc := 17) d11_hired_17 ?_
    exact den_iret (pc := 18) rfl d11_hired_18
  · refine den_aload_n (pc := 8) d11_hired_8 rfl rfl ?_
    refine den_iload_n (pc := 9) d11_hired_9 rfl rfl ?_
    refine den_iload_n (pc := 10) d11_hired_10 rfl rfl ?_
    refine den_callVI (pc := 11) (As := [vI x2, vI x3]) fv_11_228 rfl rfl (ok_69 _) (Nat.le_of_ble_eq_true rfl) (Nat.le_trans (by decide) hd) d11_hired_11 (c11_isTwo l G x2 x3 h22) (fun r25 h26 m27 o28 => ?_)
    refine den_if_ne (pc := 14) (tgt := 19) d11_hired_14 (by decide) rfl (fun _ => ?_) (fun _ => ?_)
    · refine den_iconst (pc := 19) d11_hired_19 ?_
      refine den_istore (pc := 20) (L2 := [some (vA G 69), some (vI x1), some (vI x2), some (vI x3), some (vI x4), some (vI (-1)), none, none, none]) d11_hired_20 (by decide) rfl ?_
      refine den_iconst (pc := 22) d11_hired_22 ?_
      refine den_istore (pc := 23) (L2 := [some (vA G 69), some (vI x1), some (vI x2), some (vI x3), some (vI x4), some (vI (-1)), some (vI 0), none, none]) d11_hired_23 (by decide) rfl ?_
      refine den_iconst (pc := 25) d11_hired_25 ?_
      refine den_istore (pc := 26) (L2 := [some (vA G 69), some (vI x1), some (vI x2), some (vI x3), some (vI x4), some (vI (-1)), some (vI 0), some (vI 0), none]) d11_hired_26 (by decide) rfl ?_
      refine den_wk [true, false, false, true, true, true, true, true, true] rfl ?_
      exact tl11_hired_28 l G _ hd x3 x4 FU ((-1), 0, 0, h26) trivial
    · refine den_iconst (pc := 17) d11_hired_17 ?_
      exact den_iret (pc := 18) rfl d11_hired_18
theorem d11_calms_0 : decode m11_calms.2.1 0 = .ok (.iconst 0, 1) := by decide +kernel
theorem d11_calms_1 : decode m11_calms.2.1 1 = .ok (.istore_n 1, 1) := by decide +kernel
theorem d11_calms_2 : decode m11_calms.2.1 2 = .ok (.iload_n 1, 1) := by decide +kernel
theorem d11_calms_3 : decode m11_calms.2.1 3 = .ok (.aload_n 0, 1) := by decide +kernel
theorem d11_calms_4 : decode m11_calms.2.1 4 = .ok (.getfield 192, 3) := by decide +kernel
theorem d11_calms_7 : decode m11_calms.2.1 7 = .ok (.if_icmp .ge 100, 3) := by decide +kernel
theorem d11_calms_10 : decode m11_calms.2.1 10 = .ok (.iload_n 1, 1) := by decide +kernel
theorem d11_calms_11 : decode m11_calms.2.1 11 = .ok (.iconst 1, 1) := by decide +kernel
theorem d11_calms_12 : decode m11_calms.2.1 12 = .ok (.iadd, 1) := by decide +kernel
theorem d11_calms_13 : decode m11_calms.2.1 13 = .ok (.istore_n 2, 1) := by decide +kernel
theorem d11_calms_14 : decode m11_calms.2.1 14 = .ok (.iload_n 2, 1) := by decide +kernel
theorem d11_calms_15 : decode m11_calms.2.1 15 = .ok (.aload_n 0, 1) := by decide +kernel
theorem d11_calms_16 : decode m11_calms.2.1 16 = .ok (.getfield 192, 3) := by decide +kernel
theorem d11_calms_19 : decode m11_calms.2.1 19 = .ok (.if_icmp .ge 82, 3) := by decide +kernel
theorem d11_calms_22 : decode m11_calms.2.1 22 = .ok (.aload_n 0, 1) := by decide +kernel
theorem d11_calms_23 : decode m11_calms.2.1 23 = .ok (.getfield 53, 3) := by decide +kernel
theorem d11_calms_26 : decode m11_calms.2.1 26 = .ok (.iload_n 1, 1) := by decide +kernel
theorem d11_calms_27 : decode m11_calms.2.1 27 = .ok (.iaload, 1) := by decide +kernel
theorem d11_calms_28 : decode m11_calms.2.1 28 = .ok (.iconst (-1), 1) := by decide +kernel
theorem d11_calms_29 : decode m11_calms.2.1 29 = .ok (.if_icmp .eq 66, 3) := by decide +kernel
theorem d11_calms_32 : decode m11_calms.2.1 32 = .ok (.aload_n 0, 1) := by decide +kernel
theorem d11_calms_33 : decode m11_calms.2.1 33 = .ok (.getfield 53, 3) := by decide +kernel
theorem d11_calms_36 : decode m11_calms.2.1 36 = .ok (.iload_n 2, 1) := by decide +kernel
theorem d11_calms_37 : decode m11_calms.2.1 37 = .ok (.iaload, 1) := by decide +kernel
theorem d11_calms_38 : decode m11_calms.2.1 38 = .ok (.iconst (-1), 1) := by decide +kernel
theorem d11_calms_39 : decode m11_calms.2.1 39 = .ok (.if_icmp .eq 56, 3) := by decide +kernel
theorem d11_calms_42 : decode m11_calms.2.1 42 = .ok (.aload_n 0, 1) := by decide +kernel
theorem d11_calms_43 : decode m11_calms.2.1 43 = .ok (.getfield 53, 3) := by decide +kernel
theorem d11_calms_46 : decode m11_calms.2.1 46 = .ok (.iload_n 1, 1) := by decide +kernel
theorem d11_calms_47 : decode m11_calms.2.1 47 = .ok (.iaload, 1) := by decide +kernel
theorem d11_calms_48 : decode m11_calms.2.1 48 = .ok (.aload_n 0, 1) := by decide +kernel
theorem d11_calms_49 : decode m11_calms.2.1 49 = .ok (.getfield 53, 3) := by decide +kernel
theorem d11_calms_52 : decode m11_calms.2.1 52 = .ok (.iload_n 2, 1) := by decide +kernel
theorem d11_calms_53 : decode m11_calms.2.1 53 = .ok (.iaload, 1) := by decide +kernel
theorem d11_calms_54 : decode m11_calms.2.1 54 = .ok (.if_icmp .ne 6, 3) := by decide +kernel
theorem d11_calms_57 : decode m11_calms.2.1 57 = .ok (.goto 38, 3) := by decide +kernel
theorem d11_calms_60 : decode m11_calms.2.1 60 = .ok (.aload_n 0, 1) := by decide +kernel
theorem d11_calms_61 : decode m11_calms.2.1 61 = .ok (.getfield 53, 3) := by decide +kernel
theorem d11_calms_64 : decode m11_calms.2.1 64 = .ok (.iload_n 1, 1) := by decide +kernel
theorem d11_calms_65 : decode m11_calms.2.1 65 = .ok (.aload_n 0, 1) := by decide +kernel
theorem d11_calms_66 : decode m11_calms.2.1 66 = .ok (.getfield 53, 3) := by decide +kernel
theorem d11_calms_69 : decode m11_calms.2.1 69 = .ok (.iload_n 1, 1) := by decide +kernel
theorem d11_calms_70 : decode m11_calms.2.1 70 = .ok (.iaload, 1) := by decide +kernel
theorem d11_calms_71 : decode m11_calms.2.1 71 = .ok (.aload_n 0, 1) := by decide +kernel
theorem d11_calms_72 : decode m11_calms.2.1 72 = .ok (.getfield 53, 3) := by decide +kernel
theorem d11_calms_75 : decode m11_calms.2.1 75 = .ok (.iload_n 2, 1) := by decide +kernel
theorem d11_calms_76 : decode m11_calms.2.1 76 = .ok (.iaload, 1) := by decide +kernel
theorem d11_calms_77 : decode m11_calms.2.1 77 = .ok (.iadd, 1) := by decide +kernel
theorem d11_calms_78 : decode m11_calms.2.1 78 = .ok (.iconst 2, 1) := by decide +kernel
theorem d11_calms_79 : decode m11_calms.2.1 79 = .ok (.idiv, 1) := by decide +kernel
theorem d11_calms_80 : decode m11_calms.2.1 80 = .ok (.iastore, 1) := by decide +kernel
theorem d11_calms_81 : decode m11_calms.2.1 81 = .ok (.aload_n 0, 1) := by decide +kernel
theorem d11_calms_82 : decode m11_calms.2.1 82 = .ok (.getfield 53, 3) := by decide +kernel
theorem d11_calms_85 : decode m11_calms.2.1 85 = .ok (.iload_n 2, 1) := by decide +kernel
theorem d11_calms_86 : decode m11_calms.2.1 86 = .ok (.aload_n 0, 1) := by decide +kernel
theorem d11_calms_87 : decode m11_calms.2.1 87 = .ok (.getfield 53, 3) := by decide +kernel
theorem d11_calms_90 : decode m11_calms.2.1 90 = .ok (.iload_n 1, 1) := by decide +kernel
theorem d11_calms_91 : decode m11_calms.2.1 91 = .ok (.iaload, 1) := by decide +kernel
theorem d11_calms_92 : decode m11_calms.2.1 92 = .ok (.iastore, 1) := by decide +kernel
theorem d11_calms_93 : decode m11_calms.2.1 93 = .ok (.iconst 1, 1) := by decide +kernel
theorem d11_calms_94 : decode m11_calms.2.1 94 = .ok (.ireturn, 1) := by decide +kernel
theorem d11_calms_95 : decode m11_calms.2.1 95 = .ok (.iinc 2 1, 3) := by decide +kernel
theorem d11_calms_98 : decode m11_calms.2.1 98 = .ok (.goto (-84), 3) := by decide +kernel
theorem d11_calms_101 : decode m11_calms.2.1 101 = .ok (.iinc 1 1, 3) := by decide +kernel
theorem d11_calms_104 : decode m11_calms.2.1 104 = .ok (.goto (-102), 3) := by decide +kernel
theorem d11_calms_107 : decode m11_calms.2.1 107 = .ok (.iconst 0, 1) := by decide +kernel
theorem d11_calms_108 : decode m11_calms.2.1 108 = .ok (.ireturn, 1) := by decide +kernel
def b11_calms_95 (rec2 : Int × AH → Option (Int × AH)) (rec14 : Int × AH → Option (Int × AH)) (x1 : Int) (x2 : Int) (h : AH) : Option (Int × AH) :=
  rec14 ((x2 + 1), h)
set_option maxRecDepth 100000 in
theorem t11_calms_95 (l : Launch) (G : Geo) (d : Nat) (hd : 2 ≤ d) (x1 : Int) (x2 : Int) (rec2 : Int × AH → Option (Int × AH)) (H2 : ∀ (x1 : Int) (h : AH), Den l G m11_calms rvI d 2 [some (vA G 69), some (vI x1), none] [] h (rec2 (x1, h))) (rec14 : Int × AH → Option (Int × AH)) (H14 : ∀ (x2 : Int) (h : AH), Den l G m11_calms rvI d 14 [some (vA G 69), some (vI x1), some (vI x2)] [] h (rec14 (x2, h))) (h : AH) : Den l G m11_calms rvI d 95 [some (vA G 69), some (vI x1), some (vI x2)] [] h (b11_calms_95 rec2 rec14 x1 x2 h) := by
  unfold b11_calms_95
  refine den_iinc (pc := 95) (L2 := [some (vA G 69), some (vI x1), some (vI (x2 + 1))]) d11_calms_95 (by decide) rfl rfl ?_
  refine den_goto (pc := 98) (tgt := 14) d11_calms_98 (by decide) ?_
  exact H14 (x2 + 1) h
def b11_calms_14 (rec14 : Int × AH → Option (Int × AH)) (rec2 : Int × AH → Option (Int × AH)) (x1 : Int) (x2 : Int) (h : AH) : Option (Int × AH) :=
  if w32 (h.2 69 13) ≤ w32 x2 then
    rec2 ((x1 + 1), h)
  else
    asrt (0 ≤ w32 x1 ∧ w32 x1 < 8) <|
    if w32 (h.2 84 (w32 x1).toNat) = (-1) then
      b11_calms_95 rec2 rec14 x1 x2 h
    else
      asrt (0 ≤ w32 x2 ∧ w32 x2 < 8) <|
      if w32 (h.2 84 (w32 x2).toNat) = (-1) then
        b11_calms_95 rec2 rec14 x1 x2 h
      else
        asrt (0 ≤ w32 x1 ∧ w32 x1 < 8) <|
        asrt (0 ≤ w32 x2 ∧ w32 x2 < 8) <|
        if ¬ w32 (h.2 84 (w32 x1).toNat) = w32 (h.2 84 (w32 x2).toNat) then
          asrt (0 ≤ w32 x1 ∧ w32 x1 < 8) <|
          asrt (0 ≤ w32 x2 ∧ w32 x2 < 8) <|
          asrt (0 ≤ w32 x1 ∧ w32 x1 < 8) <|
          lt (wr h 84 (w32 x1).toNat (dv32 ((h.2 84 (w32 x1).toNat) + (h.2 84 (w32 x2).toNat)) 2)) fun h8 =>
          asrt (0 ≤ w32 x1 ∧ w32 x1 < 8) <|
          asrt (0 ≤ w32 x2 ∧ w32 x2 < 8) <|
          lt (wr h8 84 (w32 x2).toNat (h8.2 84 (w32 x1).toNat)) fun h12 =>
          some (1, h12)
        else
          b11_calms_95 rec2 rec14 x1 x2 h
set_option maxRecDepth 100000 in
theorem t11_calms_14 (l : Launch) (G : Geo) (d : Nat) (hd : 2 ≤ d) (x1 : Int) (x2 : Int) (rec14 : Int × AH → Option (Int × AH)) (H14 : ∀ (x2 : Int) (h : AH), Den l G m11_calms rvI d 14 [some (vA G 69), some (vI x1), some (vI x2)] [] h (rec14 (x2, h))) (rec2 : Int × AH → Option (Int × AH)) (H2 : ∀ (x1 : Int) (h : AH), Den l G m11_calms rvI d 2 [some (vA G 69), some (vI x1), none] [] h (rec2 (x1, h))) (h : AH) : Den l G m11_calms rvI d 14 [some (vA G 69), some (vI x1), some (vI x2)] [] h (b11_calms_14 rec14 rec2 x1 x2 h) := by
  unfold b11_calms_14
  refine den_iload_n (pc := 14) d11_calms_14 rfl rfl ?_
  refine den_aload_n (pc := 15) d11_calms_15 rfl rfl ?_
  refine den_getI (pc := 16) fa_11_192 (ok_69 _) d11_calms_16 ?_
  refine den_icmp_ge (pc := 19) (tgt := 101) d11_calms_19 (by decide) rfl rfl (fun _ => ?_) (fun _ => ?_)
  · refine den_iinc (pc := 101) (L2 := [some (vA G 69), some (vI (x1 + 1)), some (vI x2)]) d11_calms_101 (by decide) rfl rfl ?_
    refine den_goto (pc := 104) (tgt := 2) d11_calms_104 (by decide) ?_
    refine den_wk [true, true, false] rfl ?_
    exact H2 (x1 + 1) h
  · refine den_aload_n (pc := 22) d11_calms_22 rfl rfl ?_
    refine den_getR (pc := 23) (b := 84) fa_11_53 (ok_69 _) rfl d11_calms_23 ?_
    refine den_iload_n (pc := 26) d11_calms_26 rfl rfl ?_
    refine den_asrt (fun a1 => ?_)
    refine den_iaload (pc := 27) sh_84 (sz_lt (by decide)) rfl a1 d11_calms_27 ?_
    refine den_iconst (pc := 28) d11_calms_28 ?_
    refine den_icmp_eq (pc := 29) (tgt := 95) d11_calms_29 (by decide) rfl (by decide) (fun _ => ?_) (fun _ => ?_)
    · exact t11_calms_95 l G _ hd x1 x2 rec2 H2 rec14 H14 h
    · refine den_aload_n (pc := 32) d11_calms_32 rfl rfl ?_
      refine den_getR (pc := 33) (b := 84) fa_11_53 (ok_69 _) rfl d11_calms_33 ?_
      refine den_iload_n (pc := 36) d11_calms_36 rfl rfl ?_
      refine den_asrt (fun a2 => ?_)
      refine den_iaload (pc := 37) sh_84 (sz_lt (by decide)) rfl a2 d11_calms_37 ?_
      refine den_iconst (pc := 38) d11_calms_38 ?_
      refine den_icmp_eq (pc := 39) (tgt := 95) d11_calms_39 (by decide) rfl (by decide) (fun _ => ?_) (fun _ => ?_)
      · exact t11_calms_95 l G _ hd x1 x2 rec2 H2 rec14 H14 h
      · refine den_aload_n (pc := 42) d11_calms_42 rfl rfl ?_
        refine den_getR (pc := 43) (b := 84) fa_11_53 (ok_69 _) rfl d11_calms_43 ?_
        refine den_iload_n (pc := 46) d11_calms_46 rfl rfl ?_
        refine den_asrt (fun a3 => ?_)
        refine den_iaload (pc := 47) sh_84 (sz_lt (by decide)) rfl a3 d11_calms_47 ?_
        refine den_aload_n (pc := 48) d11_calms_48 rfl rfl ?_
        refine den_getR (pc := 49) (b := 84) fa_11_53 (ok_69 _) rfl d11_calms_49 ?_
        refine den_iload_n (pc := 52) d11_calms_52 rfl rfl ?_
        refine den_asrt (fun a4 => ?_)
        refine den_iaload (pc := 53) sh_84 (sz_lt (by decide)) rfl a4 d11_calms_53 ?_
        refine den_icmp_ne (pc := 54) (tgt := 60) d11_calms_54 (by decide) rfl rfl (fun _ => ?_) (fun _ => ?_)
        · refine den_aload_n (pc := 60) d11_calms_60 rfl rfl ?_
          refine den_getR (pc := 61) (b := 84) fa_11_53 (ok_69 _) rfl d11_calms_61 ?_
          refine den_iload_n (pc := 64) d11_calms_64 rfl rfl ?_
          refine den_aload_n (pc := 65) d11_calms_65 rfl rfl ?_
          refine den_getR (pc := 66) (b := 84) fa_11_53 (ok_69 _) rfl d11_calms_66 ?_
          refine den_iload_n (pc := 69) d11_calms_69 rfl rfl ?_
          refine den_asrt (fun a5 => ?_)
          refine den_iaload (pc := 70) sh_84 (sz_lt (by decide)) rfl a5 d11_calms_70 ?_
          refine den_aload_n (pc := 71) d11_calms_71 rfl rfl ?_
          refine den_getR (pc := 72) (b := 84) fa_11_53 (ok_69 _) rfl d11_calms_72 ?_
          refine den_iload_n (pc := 75) d11_calms_75 rfl rfl ?_
          refine den_asrt (fun a6 => ?_)
          refine den_iaload (pc := 76) sh_84 (sz_lt (by decide)) rfl a6 d11_calms_76 ?_
          refine den_iadd (pc := 77) d11_calms_77 ?_
          refine den_iconst (pc := 78) d11_calms_78 ?_
          refine den_idiv (pc := 79) d11_calms_79 (by decide) ?_
          refine den_asrt (fun a7 => ?_)
          refine den_iastore (pc := 80) sh_84 (sz_lt (by decide)) rfl a7 d11_calms_80 ?_
          refine den_ltH (fun h8 m9 => ?_)
          refine den_aload_n (pc := 81) d11_calms_81 rfl rfl ?_
          refine den_getR (pc := 82) (b := 84) fa_11_53 (ok_69 _) rfl d11_calms_82 ?_
          refine den_iload_n (pc := 85) d11_calms_85 rfl rfl ?_
          refine den_aload_n (pc := 86) d11_calms_86 rfl rfl ?_
          refine den_getR (pc := 87) (b := 84) fa_11_53 (ok_69 _) rfl d11_calms_87 ?_
          refine den_iload_n (pc := 90) d11_calms_90 rfl rfl ?_
          refine den_asrt (fun a10 => ?_)
          refine den_iaload (pc := 91) sh_84 (sz_lt (by decide)) rfl a10 d11_calms_91 ?_
          refine den_asrt (fun a11 => ?_)
          refine den_iastore (pc := 92) sh_84 (sz_lt (by decide)) rfl a11 d11_calms_92 ?_
          refine den_ltH (fun h12 m13 => ?_)
          refine den_iconst (pc := 93) d11_calms_93 ?_
          exact den_zret (pc := 94) rfl (by decide) d11_calms_94
        · refine den_goto (pc := 57) (tgt := 95) d11_calms_57 (by decide) ?_
          exact t11_calms_95 l G _ hd x1 x2 rec2 H2 rec14 H14 h
def l11_calms_14 (rec2 : Int × AH → Option (Int × AH)) (x1 : Int) (x2 : Int) (h : AH) : Option (Int × AH) := fx (fun rec z => b11_calms_14 rec rec2 x1 z.1 z.2) FU (x2, h)
set_option maxRecDepth 100000 in
theorem tl11_calms_14 (l : Launch) (G : Geo) (d : Nat) (hd : 2 ≤ d) (x1 : Int) (rec2 : Int × AH → Option (Int × AH)) (H2 : ∀ (x1 : Int) (h : AH), Den l G m11_calms rvI d 2 [some (vA G 69), some (vI x1), none] [] h (rec2 (x1, h))) : ∀ (n : Nat) (z : Int × AH), True → Den l G m11_calms rvI d 14 [some (vA G 69), some (vI x1), some (vI z.1)] [] z.2 (fx (fun rec z => b11_calms_14 rec rec2 x1 z.1 z.2) n z) :=
  den_fx (F := fun rec z => b11_calms_14 rec rec2 x1 z.1 z.2) (P := fun z => True) (fL := fun z => [some (vA G 69), some (vI x1), some (vI z.1)]) (fs := fun z => []) (fh := fun z => z.2) (fun rec hrec z hz => t11_calms_14 l G d hd x1 z.1 rec (fun x2 h => hrec (x2, h) trivial) rec2 H2 z.2 )
def b11_calms_2 (rec2 : Int × AH → Option (Int × AH)) (x1 : Int) (h : AH) : Option (Int × AH) :=
  if w32 (h.2 69 13) ≤ w32 x1 then
    some (0, h)
  else
    lt (x1 + 1) fun u14 =>
    l11_calms_14 rec2 x1 u14 h
set_option maxRecDepth 100000 in
theorem t11_calms_2 (l : Launch) (G : Geo) (d : Nat) (hd : 2 ≤ d) (x1 : Int) (rec2 : Int × AH → Option (Int × AH)) (H2 : ∀ (x1 : Int) (h : AH), Den l G m11_calms rvI d 2 [some (vA G 69), some (vI x1), none] [] h (rec2 (x1, h))) (h : AH) : Den l G m11_calms rvI d 2 [some (vA G 69), some (vI x1), none] [] h (b11_calms_2 rec2 x1 h) := by
  unfold b11_calms_2
  refine den_iload_n (pc := 2) d11_calms_2 rfl rfl ?_
  refine den_aload_n (pc := 3) d11_calms_3 rfl rfl ?_
  refine den_getI (pc := 4) fa_11_192 (ok_69 _) d11_calms_4 ?_
  refine den_icmp_ge (pc := 7) (tgt := 107) d11_calms_7 (by decide) rfl rfl (fun _ => ?_) (fun _ => ?_)
  · refine den_iconst (pc := 107) d11_calms_107 ?_
    exact den_zret (pc := 108) rfl (by decide) d11_calms_108
  · refine den_iload_n (pc := 10) d11_calms_10 rfl rfl ?_
    refine den_iconst (pc := 11) d11_calms_11 ?_
    refine den_iadd (pc := 12) d11_calms_12 ?_
    refine den_istore_nL (pc := 13) (L2 := fun y => [some (vA G 69), some (vI x1), some (vI y)]) d11_calms_13 rfl (by decide) (fun _ => rfl) (fun u14 => ?_)
    exact tl11_calms_14 l G _ hd x1 rec2 H2 FU (u14, h) trivial
def l11_calms_2 (x1 : Int) (h : AH) : Option (Int × AH) := fx (fun rec z => b11_calms_2 rec z.1 z.2) FU (x1, h)
set_option maxRecDepth 100000 in
theorem tl11_calms_2 (l : Launch) (G : Geo) (d : Nat) (hd : 2 ≤ d) : ∀ (n : Nat) (z : Int × AH), True → Den l G m11_calms rvI d 2 [some (vA G 69), some (vI z.1), none] [] z.2 (fx (fun rec z => b11_calms_2 rec z.1 z.2) n z) :=
  den_fx (F := fun rec z => b11_calms_2 rec z.1 z.2) (P := fun z => True) (fL := fun z => [some (vA G 69), some (vI z.1), none]) (fs := fun z => []) (fh := fun z => z.2) (fun rec hrec z hz => t11_calms_2 l G d hd z.1 rec (fun x1 h => hrec (x1, h) trivial) z.2 )
def f11_calms (h : AH) : Option (Int × AH) :=
  l11_calms_2 0 h
set_option maxRecDepth 100000 in
theorem c11_calms (l : Launch) (G : Geo) (h : AH) : Con l G m11_calms rvI 2 [vA G 69] h (f11_calms  h) := by
  have hd : 2 ≤ 2 := Nat.le_refl _
  refine con_Z rfl (by decide) rfl rfl (Nat.le_of_ble_eq_true rfl) (L := [some (vA G 69), none, none]) ?_
  unfold f11_calms
  refine den_iconst (pc := 0) d11_calms_0 ?_
  refine den_istore_n (pc := 1) (L2 := [some (vA G 69), some (vI 0), none]) d11_calms_1 rfl (by decide) rfl ?_
  exact tl11_calms_2 l G _ hd FU (0, h) trivial
theorem d11_awayOf_0 : decode m11_awayOf.2.1 0 = .ok (.iconst 0, 1) := by decide +kernel
theorem d11_awayOf_1 : decode m11_awayOf.2.1 1 = .ok (.istore_n 3, 1) := by decide +kernel
theorem d11_awayOf_2 : decode m11_awayOf.2.1 2 = .ok (.iconst 0, 1) := by decide +kernel
theorem d11_awayOf_3 : decode m11_awayOf.2.1 3 = .ok (.istore 4, 2) := by decide +kernel
theorem d11_awayOf_5 : decode m11_awayOf.2.1 5 = .ok (.iload 4, 2) := by decide +kernel
theorem d11_awayOf_7 : decode m11_awayOf.2.1 7 = .ok (.aload_n 0, 1) := by decide +kernel
theorem d11_awayOf_8 : decode m11_awayOf.2.1 8 = .ok (.getfield 192, 3) := by decide +kernel
theorem d11_awayOf_11 : decode m11_awayOf.2.1 11 = .ok (.if_icmp .ge 38, 3) := by decide +kernel
theorem d11_awayOf_14 : decode m11_awayOf.2.1 14 = .ok (.iload_n 3, 1) := by decide +kernel
theorem d11_awayOf_15 : decode m11_awayOf.2.1 15 = .ok (.aload_n 0, 1) := by decide +kernel
theorem d11_awayOf_16 : decode m11_awayOf.2.1 16 = .ok (.iload 4, 2) := by decide +kernel
theorem d11_awayOf_18 : decode m11_awayOf.2.1 18 = .ok (.iload_n 1, 1) := by decide +kernel
theorem d11_awayOf_19 : decode m11_awayOf.2.1 19 = .ok (.invokevirtual 210, 3) := by decide +kernel
theorem d11_awayOf_22 : decode m11_awayOf.2.1 22 = .ok (.iconst (-1), 1) := by decide +kernel
theorem d11_awayOf_23 : decode m11_awayOf.2.1 23 = .ok (.if_icmp .ne 7, 3) := by decide +kernel
theorem d11_awayOf_26 : decode m11_awayOf.2.1 26 = .ok (.iconst 0, 1) := by decide +kernel
theorem d11_awayOf_27 : decode m11_awayOf.2.1 27 = .ok (.goto 14, 3) := by decide +kernel
theorem d11_awayOf_30 : decode m11_awayOf.2.1 30 = .ok (.aload_n 0, 1) := by decide +kernel
theorem d11_awayOf_31 : decode m11_awayOf.2.1 31 = .ok (.iload 4, 2) := by decide +kernel
theorem d11_awayOf_33 : decode m11_awayOf.2.1 33 = .ok (.iload_n 1, 1) := by decide +kernel
theorem d11_awayOf_34 : decode m11_awayOf.2.1 34 = .ok (.invokevirtual 210, 3) := by decide +kernel
theorem d11_awayOf_37 : decode m11_awayOf.2.1 37 = .ok (.iload_n 2, 1) := by decide +kernel
theorem d11_awayOf_38 : decode m11_awayOf.2.1 38 = .ok (.invokestatic 225, 3) := by decide +kernel
theorem d11_awayOf_41 : decode m11_awayOf.2.1 41 = .ok (.iadd, 1) := by decide +kernel
theorem d11_awayOf_42 : decode m11_awayOf.2.1 42 = .ok (.istore_n 3, 1) := by decide +kernel
theorem d11_awayOf_43 : decode m11_awayOf.2.1 43 = .ok (.iinc 4 1, 3) := by decide +kernel
theorem d11_awayOf_46 : decode m11_awayOf.2.1 46 = .ok (.goto (-41), 3) := by decide +kernel
theorem d11_awayOf_49 : decode m11_awayOf.2.1 49 = .ok (.iload_n 3, 1) := by decide +kernel
theorem d11_awayOf_50 : decode m11_awayOf.2.1 50 = .ok (.ireturn, 1) := by decide +kernel
def b11_awayOf_41 (rec5 : Int × Int × AH → Option (Int × AH)) (x1 : Int) (x2 : Int) (x4 : Int) (s0 : Int) (s1 : Int) (h : AH) : Option (Int × AH) :=
  lt (s1 + s0) fun u1 =>
  rec5 (u1, (x4 + 1), h)
set_option maxRecDepth 100000 in
theorem t11_awayOf_41 (l : Launch) (G : Geo) (d : Nat) (hd : 3 ≤ d) (x1 : Int) (x2 : Int) (x4 : Int) (s0 : Int) (s1 : Int) (rec5 : Int × Int × AH → Option (Int × AH)) (H5 : ∀ (x3 : Int) (x4 : Int) (h : AH), Den l G m11_awayOf rvI d 5 [some (vA G 69), some (vI x1), some (vI x2), some (vI x3), some (vI x4)] [] h (rec5 (x3, x4, h))) (h : AH) : Den l G m11_awayOf rvI d 41 [some (vA G 69), some (vI x1), some (vI x2), none, some (vI x4)] [vI s0, vI s1] h (b11_awayOf_41 rec5 x1 x2 x4 s0 s1 h) := by
  unfold b11_awayOf_41
  refine den_iadd (pc := 41) d11_awayOf_41 ?_
  refine den_istore_nL (pc := 42) (L2 := fun y => [some (vA G 69), some (vI x1), some (vI x2), some (vI y), some (vI x4)]) d11_awayOf_42 rfl (by decide) (fun _ => rfl) (fun u1 => ?_)
  refine den_iinc (pc := 43) (L2 := [some (vA G 69), some (vI x1), some (vI x2), some (vI u1), some (vI (x4 + 1))]) d11_awayOf_43 (by decide) rfl rfl ?_
  refine den_goto (pc := 46) (tgt := 5) d11_awayOf_46 (by decide) ?_
  exact H5 u1 (x4 + 1) h
def b11_awayOf_5 (rec5 : Int × Int × AH → Option (Int × AH)) (x1 : Int) (x2 : Int) (x3 : Int) (x4 : Int) (h : AH) : Option (Int × AH) :=
  if w32 (h.2 69 13) ≤ w32 x4 then
    some (x3, h)
  else
    bnd (f11_heldOf x4 x1 h) fun r2 h3 =>
    if ¬ w32 r2 = (-1) then
      bnd (f11_heldOf x4 x1 h3) fun r6 h7 =>
      bnd (f11_off r6 x2 h7) fun r10 h11 =>
      b11_awayOf_41 rec5 x1 x2 x4 r10 x3 h11
    else
      b11_awayOf_41 rec5 x1 x2 x4 0 x3 h3
set_option maxRecDepth 100000 in
theorem t11_awayOf_5 (l : Launch) (G : Geo) (d : Nat) (hd : 3 ≤ d) (x1 : Int) (x2 : Int) (x3 : Int) (x4 : Int) (rec5 : Int × Int × AH → Option (Int × AH)) (H5 : ∀ (x3 : Int) (x4 : Int) (h : AH), Den l G m11_awayOf rvI d 5 [some (vA G 69), some (vI x1), some (vI x2), some (vI x3), some (vI x4)] [] h (rec5 (x3, x4, h))) (h : AH) : Den l G m11_awayOf rvI d 5 [some (vA G 69), some (vI x1), some (vI x2), some (vI x3), some (vI x4)] [] h (b11_awayOf_5 rec5 x1 x2 x3 x4 h) := by
  unfold b11_awayOf_5
  refine den_iload (pc := 5) d11_awayOf_5 rfl ?_
  refine den_aload_n (pc := 7) d11_awayOf_7 rfl rfl ?_
  refine den_getI (pc := 8) fa_11_192 (ok_69 _) d11_awayOf_8 ?_
  refine den_icmp_ge (pc := 11) (tgt := 49) d11_awayOf_11 (by decide) rfl rfl (fun _ => ?_) (fun _ => ?_)
  · refine den_iload_n (pc := 49) d11_awayOf_49 rfl rfl ?_
    exact den_iret (pc := 50) rfl d11_awayOf_50
  · refine den_iload_n (pc := 14) d11_awayOf_14 rfl rfl ?_
    refine den_aload_n (pc := 15) d11_awayOf_15 rfl rfl ?_
    refine den_iload (pc := 16) d11_awayOf_16 rfl ?_
    refine den_iload_n (pc := 18) d11_awayOf_18 rfl rfl ?_
    refine den_callVI (pc := 19) (As := [vI x4, vI x1]) fv_11_210 rfl rfl (ok_69 _) (Nat.le_of_ble_eq_true rfl) (Nat.le_trans (by decide) hd) d11_awayOf_19 (c11_heldOf l G x4 x1 h) (fun r2 h3 m4 o5 => ?_)
    refine den_iconst (pc := 22) d11_awayOf_22 ?_
    refine den_icmp_ne (pc := 23) (tgt := 30) d11_awayOf_23 (by decide) rfl (by decide) (fun _ => ?_) (fun _ => ?_)
    · refine den_aload_n (pc := 30) d11_awayOf_30 rfl rfl ?_
      refine den_iload (pc := 31) d11_awayOf_31 rfl ?_
      refine den_iload_n (pc := 33) d11_awayOf_33 rfl rfl ?_
      refine den_callVI (pc := 34) (As := [vI x4, vI x1]) fv_11_210 rfl rfl (ok_69 _) (Nat.le_of_ble_eq_true rfl) (Nat.le_trans (by decide) hd) d11_awayOf_34 (c11_heldOf l G x4 x1 h3) (fun r6 h7 m8 o9 => ?_)
      refine den_iload_n (pc := 37) d11_awayOf_37 rfl rfl ?_
      refine den_callSI (pc := 38) (As := [vI r6, vI x2]) fs_11_225 rfl rfl (Nat.le_of_ble_eq_true rfl) (Nat.le_trans (by decide) hd) d11_awayOf_38 (c11_off l G r6 x2 h7) (fun r10 h11 m12 o13 => ?_)
      refine den_wk [true, true, true, false, true] rfl ?_
      exact t11_awayOf_41 l G _ hd x1 x2 x4 r10 x3 rec5 H5 h11
    · refine den_iconst (pc := 26) d11_awayOf_26 ?_
      refine den_goto (pc := 27) (tgt := 41) d11_awayOf_27 (by decide) ?_
      refine den_wk [true, true, true, false, true] rfl ?_
      exact t11_awayOf_41 l G _ hd x1 x2 x4 0 x3 rec5 H5 h3
def l11_awayOf_5 (x1 : Int) (x2 : Int) (x3 : Int) (x4 : Int) (h : AH) : Option (Int × AH) := fx (fun rec z => b11_awayOf_5 rec x1 x2 z.1 z.2.1 z.2.2) FU (x3, x4, h)
set_option maxRecDepth 100000 in
theorem tl11_awayOf_5 (l : Launch) (G : Geo) (d : Nat) (hd : 3 ≤ d) (x1 : Int) (x2 : Int) : ∀ (n : Nat) (z : Int × Int × AH), True → Den l G m11_awayOf rvI d 5 [some (vA G 69), some (vI x1), some (vI x2), some (vI z.1), some (vI z.2.1)] [] z.2.2 (fx (fun rec z => b11_awayOf_5 rec x1 x2 z.1 z.2.1 z.2.2) n z) :=
  den_fx (F := fun rec z => b11_awayOf_5 rec x1 x2 z.1 z.2.1 z.2.2) (P := fun z => True) (fL := fun z => [some (vA G 69), some (vI x1), some (vI x2), some (vI z.1), some (vI z.2.1)]) (fs := fun z => []) (fh := fun z => z.2.2) (fun rec hrec z hz => t11_awayOf_5 l G d hd x1 x2 z.1 z.2.1 rec (fun x3 x4 h => hrec (x3, x4, h) trivial) z.2.2 )
def f11_awayOf (x1 : Int) (x2 : Int) (h : AH) : Option (Int × AH) :=
  l11_awayOf_5 x1 x2 0 0 h
set_option maxRecDepth 100000 in
theorem c11_awayOf (l : Launch) (G : Geo) (x1 : Int) (x2 : Int) (h : AH) : Con l G m11_awayOf rvI 3 [vA G 69, vI x1, vI x2] h (f11_awayOf x1 x2 h) := by
  have hd : 3 ≤ 3 := Nat.le_refl _
  refine con_I rfl (by decide) rfl rfl (Nat.le_of_ble_eq_true rfl) (L := [some (vA G 69), some (vI x1), some (vI x2), none, none]) ?_
  unfold f11_awayOf
  refine den_iconst (pc := 0) d11_awayOf_0 ?_
  refine den_istore_n (pc := 1) (L2 := [some (vA G 69), some (vI x1), some (vI x2), some (vI 0), none]) d11_awayOf_1 rfl (by decide) rfl ?_
  refine den_iconst (pc := 2) d11_awayOf_2 ?_
  refine den_istore (pc := 3) (L2 := [some (vA G 69), some (vI x1), some (vI x2), some (vI 0), some (vI 0)]) d11_awayOf_3 (by decide) rfl ?_
  exact tl11_awayOf_5 l G _ hd x1 x2 FU (0, 0, h) trivial
theorem d11_holdersOf_0 : decode m11_holdersOf.2.1 0 = .ok (.iconst 0, 1) := by decide +kernel
theorem d11_holdersOf_1 : decode m11_holdersOf.2.1 1 = .ok (.istore 4, 2) := by decide +kernel
theorem d11_holdersOf_3 : decode m11_holdersOf.2.1 3 = .ok (.iconst 0, 1) := by decide +kernel
theorem d11_holdersOf_4 : decode m11_holdersOf.2.1 4 = .ok (.istore 5, 2) := by decide +kernel
theorem d11_holdersOf_6 : decode m11_holdersOf.2.1 6 = .ok (.iload 5, 2) := by decide +kernel
theorem d11_holdersOf_8 : decode m11_holdersOf.2.1 8 = .ok (.aload_n 0, 1) := by decide +kernel
theorem d11_holdersOf_9 : decode m11_holdersOf.2.1 9 = .ok (.getfield 192, 3) := by decide +kernel
theorem d11_holdersOf_12 : decode m11_holdersOf.2.1 12 = .ok (.if_icmp .ge 34, 3) := by decide +kernel
theorem d11_holdersOf_15 : decode m11_holdersOf.2.1 15 = .ok (.iload 4, 2) := by decide +kernel
theorem d11_holdersOf_17 : decode m11_holdersOf.2.1 17 = .ok (.aload_n 0, 1) := by decide +kernel
theorem d11_holdersOf_18 : decode m11_holdersOf.2.1 18 = .ok (.iload 5, 2) := by decide +kernel
theorem d11_holdersOf_20 : decode m11_holdersOf.2.1 20 = .ok (.iload_n 1, 1) := by decide +kernel
theorem d11_holdersOf_21 : decode m11_holdersOf.2.1 21 = .ok (.invokevirtual 210, 3) := by decide +kernel
theorem d11_holdersOf_24 : decode m11_holdersOf.2.1 24 = .ok (.iload_n 2, 1) := by decide +kernel
theorem d11_holdersOf_25 : decode m11_holdersOf.2.1 25 = .ok (.iload_n 3, 1) := by decide +kernel
theorem d11_holdersOf_26 : decode m11_holdersOf.2.1 26 = .ok (.invokestatic 135, 3) := by decide +kernel
theorem d11_holdersOf_29 : decode m11_holdersOf.2.1 29 = .ok (.ifCond .eq 7, 3) := by decide +kernel
theorem d11_holdersOf_32 : decode m11_holdersOf.2.1 32 = .ok (.iconst 1, 1) := by decide +kernel
theorem d11_holdersOf_33 : decode m11_holdersOf.2.1 33 = .ok (.goto 4, 3) := by decide +kernel
theorem d11_holdersOf_36 : decode m11_holdersOf.2.1 36 = .ok (.iconst 0, 1) := by decide +kernel
theorem d11_holdersOf_37 : decode m11_holdersOf.2.1 37 = .ok (.iadd, 1) := by decide +kernel
theorem d11_holdersOf_38 : decode m11_holdersOf.2.1 38 = .ok (.istore 4, 2) := by decide +kernel
theorem d11_holdersOf_40 : decode m11_holdersOf.2.1 40 = .ok (.iinc 5 1, 3) := by decide +kernel
theorem d11_holdersOf_43 : decode m11_holdersOf.2.1 43 = .ok (.goto (-37), 3) := by decide +kernel
theorem d11_holdersOf_46 : decode m11_holdersOf.2.1 46 = .ok (.iload 4, 2) := by decide +kernel
theorem d11_holdersOf_48 : decode m11_holdersOf.2.1 48 = .ok (.ireturn, 1) := by decide +kernel
def b11_holdersOf_37 (rec6 : Int × Int × AH → Option (Int × AH)) (x1 : Int) (x2 : Int) (x3 : Int) (x5 : Int) (s0 : Int) (s1 : Int) (h : AH) : Option (Int × AH) :=
  lt (s1 + s0) fun u1 =>
  rec6 (u1, (x5 + 1), h)
set_option maxRecDepth 100000 in
theorem t11_holdersOf_37 (l : Launch) (G : Geo) (d : Nat) (hd : 3 ≤ d) (x1 : Int) (x2 : Int) (x3 : Int) (x5 : Int) (s0 : Int) (s1 : Int) (rec6 : Int × Int × AH → Option (Int × AH)) (H6 : ∀ (x4 : Int) (x5 : Int) (h : AH), Den l G m11_holdersOf rvI d 6 [some (vA G 69), some (vI x1), some (vI x2), some (vI x3), some (vI x4), some (vI x5)] [] h (rec6 (x4, x5, h))) (h : AH) : Den l G m11_holdersOf rvI d 37 [some (vA G 69), some (vI x1), some (vI x2), some (vI x3), none, some (vI x5)] [vI s0, vI s1] h (b11_holdersOf_37 rec6 x1 x2 x3 x5 s0 s1 h) := by
  unfold b11_holdersOf_37
  refine den_iadd (pc := 37) d11_holdersOf_37 ?_
  refine den_istoreL (pc := 38) (L2 := fun y => [some (vA G 69), some (vI x1), some (vI x2), some (vI x3), some (vI y), some (vI x5)]) d11_holdersOf_38 (by decide) (fun _ => rfl) (fun u1 => ?_)
  refine den_iinc (pc := 40) (L2 := [some (vA G 69), some (vI x1), some (vI x2), some (vI x3), some (vI u1), some (vI (x5 + 1))]) d11_holdersOf_40 (by decide) rfl rfl ?_
  refine den_goto (pc := 43) (tgt := 6) d11_holdersOf_43 (by decide) ?_
  exact H6 u1 (x5 + 1) h
def b11_holdersOf_6 (rec6 : Int × Int × AH → Option (Int × AH)) (x1 : Int) (x2 : Int) (x3 : Int) (x4 : Int) (x5 : Int) (h : AH) : Option (Int × AH) :=
  if w32 (h.2 69 13) ≤ w32 x5 then
    some (x4, h)
  else
    bnd (f11_heldOf x5 x1 h) fun r2 h3 =>
    bnd (f11_isIn r2 x2 x3 h3) fun r6 h7 =>
    if w32 r6 = 0 then
      b11_holdersOf_37 rec6 x1 x2 x3 x5 0 x4 h7
    else
      b11_holdersOf_37 rec6 x1 x2 x3 x5 1 x4 h7
set_option maxRecDepth 100000 in
theorem t11_holdersOf_6 (l : Launch) (G : Geo) (d : Nat) (hd : 3 ≤ d) (x1 : Int) (x2 : Int) (x3 : Int) (x4 : Int) (x5 : Int) (rec6 : Int × Int × AH → Option (Int × AH)) (H6 : ∀ (x4 : Int) (x5 : Int) (h : AH), Den l G m11_holdersOf rvI d 6 [some (vA G 69), some (vI x1), some (vI x2), some (vI x3), some (vI x4), some (vI x5)] [] h (rec6 (x4, x5, h))) (h : AH) : Den l G m11_holdersOf rvI d 6 [some (vA G 69), some (vI x1), some (vI x2), some (vI x3), some (vI x4), some (vI x5)] [] h (b11_holdersOf_6 rec6 x1 x2 x3 x4 x5 h) := by
  unfold b11_holdersOf_6
  refine den_iload (pc := 6) d11_holdersOf_6 rfl ?_
  refine den_aload_n (pc := 8) d11_holdersOf_8 rfl rfl ?_
  refine den_getI (pc := 9) fa_11_192 (ok_69 _) d11_holdersOf_9 ?_
  refine den_icmp_ge (pc := 12) (tgt := 46) d11_holdersOf_12 (by decide) rfl rfl (fun _ => ?_) (fun _ => ?_)
  · refine den_iload (pc := 46) d11_holdersOf_46 rfl ?_
    exact den_iret (pc := 48) rfl d11_holdersOf_48
  · refine den_iload (pc := 15) d11_holdersOf_15 rfl ?_
    refine den_aload_n (pc := 17) d11_holdersOf_17 rfl rfl ?_
    refine den_iload (pc := 18) d11_holdersOf_18 rfl ?_
    refine den_iload_n (pc := 20) d11_holdersOf_20 rfl rfl ?_
    refine den_callVI (pc := 21) (As := [vI x5, vI x1]) fv_11_210 rfl rfl (ok_69 _) (Nat.le_of_ble_eq_true rfl) (Nat.le_trans (by decide) hd) d11_holdersOf_21 (c11_heldOf l G x5 x1 h) (fun r2 h3 m4 o5 => ?_)
    refine den_iload_n (pc := 24) d11_holdersOf_24 rfl rfl ?_
    refine den_iload_n (pc := 25) d11_holdersOf_25 rfl rfl ?_
    refine den_callSI (pc := 26) (As := [vI r2, vI x2, vI x3]) fs_11_135 rfl rfl (Nat.le_of_ble_eq_true rfl) (Nat.le_trans (by decide) hd) d11_holdersOf_26 (c11_isIn l G r2 x2 x3 h3) (fun r6 h7 m8 o9 => ?_)
    refine den_if_eq (pc := 29) (tgt := 36) d11_holdersOf_29 (by decide) rfl (fun _ => ?_) (fun _ => ?_)
    · refine den_iconst (pc := 36) d11_holdersOf_36 ?_
      refine den_wk [true, true, true, true, false, true] rfl ?_
      exact t11_holdersOf_37 l G _ hd x1 x2 x3 x5 0 x4 rec6 H6 h7
    · refine den_iconst (pc := 32) d11_holdersOf_32 ?_
      refine den_goto (pc := 33) (tgt := 37) d11_holdersOf_33 (by decide) ?_
      refine den_wk [true, true, true, true, false, true] rfl ?_
      exact t11_holdersOf_37 l G _ hd x1 x2 x3 x5 1 x4 rec6 H6 h7
def l11_holdersOf_6 (x1 : Int) (x2 : Int) (x3 : Int) (x4 : Int) (x5 : Int) (h : AH) : Option (Int × AH) := fx (fun rec z => b11_holdersOf_6 rec x1 x2 x3 z.1 z.2.1 z.2.2) FU (x4, x5, h)
set_option maxRecDepth 100000 in
theorem tl11_holdersOf_6 (l : Launch) (G : Geo) (d : Nat) (hd : 3 ≤ d) (x1 : Int) (x2 : Int) (x3 : Int) : ∀ (n : Nat) (z : Int × Int × AH), True → Den l G m11_holdersOf rvI d 6 [some (vA G 69), some (vI x1), some (vI x2), some (vI x3), some (vI z.1), some (vI z.2.1)] [] z.2.2 (fx (fun rec z => b11_holdersOf_6 rec x1 x2 x3 z.1 z.2.1 z.2.2) n z) :=
  den_fx (F := fun rec z => b11_holdersOf_6 rec x1 x2 x3 z.1 z.2.1 z.2.2) (P := fun z => True) (fL := fun z => [some (vA G 69), some (vI x1), some (vI x2), some (vI x3), some (vI z.1), some (vI z.2.1)]) (fs := fun z => []) (fh := fun z => z.2.2) (fun rec hrec z hz => t11_holdersOf_6 l G d hd x1 x2 x3 z.1 z.2.1 rec (fun x4 x5 h => hrec (x4, x5, h) trivial) z.2.2 )
def f11_holdersOf (x1 : Int) (x2 : Int) (x3 : Int) (h : AH) : Option (Int × AH) :=
  l11_holdersOf_6 x1 x2 x3 0 0 h
set_option maxRecDepth 100000 in
theorem c11_holdersOf (l : Launch) (G : Geo) (x1 : Int) (x2 : Int) (x3 : Int) (h : AH) : Con l G m11_holdersOf rvI 3 [vA G 69, vI x1, vI x2, vI x3] h (f11_holdersOf x1 x2 x3 h) := by
  have hd : 3 ≤ 3 := Nat.le_refl _
  refine con_I rfl (by decide) rfl rfl (Nat.le_of_ble_eq_true rfl) (L := [some (vA G 69), some (vI x1), some (vI x2), some (vI x3), none, none]) ?_
  unfold f11_holdersOf
  refine den_iconst (pc := 0) d11_holdersOf_0 ?_
  refine den_istore (pc := 1) (L2 := [some (vA G 69), some (vI x1), some (vI x2), some (vI x3), some (vI 0), none]) d11_holdersOf_1 (by decide) rfl ?_
  refine den_iconst (pc := 3) d11_holdersOf_3 ?_
  refine den_istore (pc := 4) (L2 := [some (vA G 69), some (vI x1), some (vI x2), some (vI x3), some (vI 0), some (vI 0)]) d11_holdersOf_4 (by decide) rfl ?_
  exact tl11_holdersOf_6 l G _ hd x1 x2 x3 FU (0, 0, h) trivial
theorem d11_calm_0 : decode m11_calm.2.1 0 = .ok (.aload_n 0, 1) := by decide +kernel
theorem d11_calm_1 : decode m11_calm.2.1 1 = .ok (.iload_n 1, 1) := by decide +kernel
theorem d11_calm_2 : decode m11_calm.2.1 2 = .ok (.invokevirtual 201, 3) := by decide +kernel
theorem d11_calm_5 : decode m11_calm.2.1 5 = .ok (.ifCond .eq 20, 3) := by decide +kernel
theorem d11_calm_8 : decode m11_calm.2.1 8 = .ok (.aload_n 0, 1) := by decide +kernel
theorem d11_calm_9 : decode m11_calm.2.1 9 = .ok (.iload_n 2, 1) := by decide +kernel
theorem d11_calm_10 : decode m11_calm.2.1 10 = .ok (.invokevirtual 207, 3) := by decide +kernel
theorem d11_calm_13 : decode m11_calm.2.1 13 = .ok (.ifCond .eq 12, 3) := by decide +kernel
theorem d11_calm_16 : decode m11_calm.2.1 16 = .ok (.iload_n 3, 1) := by decide +kernel
theorem d11_calm_17 : decode m11_calm.2.1 17 = .ok (.iconst 0, 1) := by decide +kernel
theorem d11_calm_18 : decode m11_calm.2.1 18 = .ok (.iconst 4, 1) := by decide +kernel
theorem d11_calm_19 : decode m11_calm.2.1 19 = .ok (.invokestatic 135, 3) := by decide +kernel
theorem d11_calm_22 : decode m11_calm.2.1 22 = .ok (.ifCond .ne 6, 3) := by decide +kernel
theorem d11_calm_25 : decode m11_calm.2.1 25 = .ok (.bipush (-2), 2) := by decide +kernel
theorem d11_calm_27 : decode m11_calm.2.1 27 = .ok (.ireturn, 1) := by decide +kernel
theorem d11_calm_28 : decode m11_calm.2.1 28 = .ok (.iconst 0, 1) := by decide +kernel
theorem d11_calm_29 : decode m11_calm.2.1 29 = .ok (.istore 4, 2) := by decide +kernel
theorem d11_calm_31 : decode m11_calm.2.1 31 = .ok (.iconst 0, 1) := by decide +kernel
theorem d11_calm_32 : decode m11_calm.2.1 32 = .ok (.istore 5, 2) := by decide +kernel
theorem d11_calm_34 : decode m11_calm.2.1 34 = .ok (.iconst 0, 1) := by decide +kernel
theorem d11_calm_35 : decode m11_calm.2.1 35 = .ok (.istore 6, 2) := by decide +kernel
theorem d11_calm_37 : decode m11_calm.2.1 37 = .ok (.iload 6, 2) := by decide +kernel
theorem d11_calm_39 : decode m11_calm.2.1 39 = .ok (.bipush 10, 2) := by decide +kernel
theorem d11_calm_41 : decode m11_calm.2.1 41 = .ok (.if_icmp .ge 65, 3) := by decide +kernel
theorem d11_calm_44 : decode m11_calm.2.1 44 = .ok (.aload_n 0, 1) := by decide +kernel
theorem d11_calm_45 : decode m11_calm.2.1 45 = .ok (.iload_n 2, 1) := by decide +kernel
theorem d11_calm_46 : decode m11_calm.2.1 46 = .ok (.iload 6, 2) := by decide +kernel
theorem d11_calm_48 : decode m11_calm.2.1 48 = .ok (.invokevirtual 280, 3) := by decide +kernel
theorem d11_calm_51 : decode m11_calm.2.1 51 = .ok (.aload_n 0, 1) := by decide +kernel
theorem d11_calm_52 : decode m11_calm.2.1 52 = .ok (.iload_n 2, 1) := by decide +kernel
theorem d11_calm_53 : decode m11_calm.2.1 53 = .ok (.iload 4, 2) := by decide +kernel
theorem d11_calm_55 : decode m11_calm.2.1 55 = .ok (.invokevirtual 280, 3) := by decide +kernel
theorem d11_calm_58 : decode m11_calm.2.1 58 = .ok (.if_icmp .ge 8, 3) := by decide +kernel
theorem d11_calm_61 : decode m11_calm.2.1 61 = .ok (.iload 6, 2) := by decide +kernel
theorem d11_calm_63 : decode m11_calm.2.1 63 = .ok (.goto 5, 3) := by decide +kernel
theorem d11_calm_66 : decode m11_calm.2.1 66 = .ok (.iload 4, 2) := by decide +kernel
theorem d11_calm_68 : decode m11_calm.2.1 68 = .ok (.istore 4, 2) := by decide +kernel
theorem d11_calm_70 : decode m11_calm.2.1 70 = .ok (.aload_n 0, 1) := by decide +kernel
theorem d11_calm_71 : decode m11_calm.2.1 71 = .ok (.iload_n 2, 1) := by decide +kernel
theorem d11_calm_72 : decode m11_calm.2.1 72 = .ok (.iload 6, 2) := by decide +kernel
theorem d11_calm_74 : decode m11_calm.2.1 74 = .ok (.iload 6, 2) := by decide +kernel
theorem d11_calm_76 : decode m11_calm.2.1 76 = .ok (.invokevirtual 283, 3) := by decide +kernel
theorem d11_calm_79 : decode m11_calm.2.1 79 = .ok (.iload 5, 2) := by decide +kernel
theorem d11_calm_81 : decode m11_calm.2.1 81 = .ok (.if_icmp .le 15, 3) := by decide +kernel
theorem d11_calm_84 : decode m11_calm.2.1 84 = .ok (.aload_n 0, 1) := by decide +kernel
theorem d11_calm_85 : decode m11_calm.2.1 85 = .ok (.iload_n 2, 1) := by decide +kernel
theorem d11_calm_86 : decode m11_calm.2.1 86 = .ok (.iload 6, 2) := by decide +kernel
theorem d11_calm_88 : decode m11_calm.2.1 88 = .ok (.iload 6, 2) := by decide +kernel
theorem d11_calm_90 : decode m11_calm.2.1 90 = .ok (.invokevirtual 283, 3) := by decide +kernel
theorem d11_calm_93 : decode m11_calm.2.1 93 = .ok (.goto 5, 3) := by decide +kernel
theorem d11_calm_96 : decode m11_calm.2.1 96 = .ok (.iload 5, 2) := by decide +kernel
theorem d11_calm_98 : decode m11_calm.2.1 98 = .ok (.istore 5, 2) := by decide +kernel
theorem d11_calm_100 : decode m11_calm.2.1 100 = .ok (.iinc 6 1, 3) := by decide +kernel
theorem d11_calm_103 : decode m11_calm.2.1 103 = .ok (.goto (-66), 3) := by decide +kernel
theorem d11_calm_106 : decode m11_calm.2.1 106 = .ok (.iconst 0, 1) := by decide +kernel
theorem d11_calm_107 : decode m11_calm.2.1 107 = .ok (.istore 6, 2) := by decide +kernel
theorem d11_calm_109 : decode m11_calm.2.1 109 = .ok (.iload 6, 2) := by decide +kernel
theorem d11_calm_111 : decode m11_calm.2.1 111 = .ok (.aload_n 0, 1) := by decide +kernel
theorem d11_calm_112 : decode m11_calm.2.1 112 = .ok (.getfield 192, 3) := by decide +kernel
theorem d11_calm_115 : decode m11_calm.2.1 115 = .ok (.if_icmp .ge 23, 3) := by decide +kernel
theorem d11_calm_118 : decode m11_calm.2.1 118 = .ok (.aload_n 0, 1) := by decide +kernel
theorem d11_calm_119 : decode m11_calm.2.1 119 = .ok (.getfield 53, 3) := by decide +kernel
theorem d11_calm_122 : decode m11_calm.2.1 122 = .ok (.iload 6, 2) := by decide +kernel
theorem d11_calm_124 : decode m11_calm.2.1 124 = .ok (.aload_n 0, 1) := by decide +kernel
theorem d11_calm_125 : decode m11_calm.2.1 125 = .ok (.iload 6, 2) := by decide +kernel
theorem d11_calm_127 : decode m11_calm.2.1 127 = .ok (.iload_n 2, 1) := by decide +kernel
theorem d11_calm_128 : decode m11_calm.2.1 128 = .ok (.invokevirtual 210, 3) := by decide +kernel
theorem d11_calm_131 : decode m11_calm.2.1 131 = .ok (.iastore, 1) := by decide +kernel
theorem d11_calm_132 : decode m11_calm.2.1 132 = .ok (.iinc 6 1, 3) := by decide +kernel
theorem d11_calm_135 : decode m11_calm.2.1 135 = .ok (.goto (-26), 3) := by decide +kernel
theorem d11_calm_138 : decode m11_calm.2.1 138 = .ok (.iconst 0, 1) := by decide +kernel
theorem d11_calm_139 : decode m11_calm.2.1 139 = .ok (.istore 6, 2) := by decide +kernel
theorem d11_calm_141 : decode m11_calm.2.1 141 = .ok (.aload_n 0, 1) := by decide +kernel
theorem d11_calm_142 : decode m11_calm.2.1 142 = .ok (.invokevirtual 286, 3) := by decide +kernel
theorem d11_calm_145 : decode m11_calm.2.1 145 = .ok (.ifCond .eq 9, 3) := by decide +kernel
theorem d11_calm_148 : decode m11_calm.2.1 148 = .ok (.iinc 6 1, 3) := by decide +kernel
theorem d11_calm_151 : decode m11_calm.2.1 151 = .ok (.goto (-10), 3) := by decide +kernel
theorem d11_calm_154 : decode m11_calm.2.1 154 = .ok (.iconst (-1), 1) := by decide +kernel
theorem d11_calm_155 : decode m11_calm.2.1 155 = .ok (.istore 7, 2) := by decide +kernel
theorem d11_calm_157 : decode m11_calm.2.1 157 = .ok (.iconst 0, 1) := by decide +kernel
theorem d11_calm_158 : decode m11_calm.2.1 158 = .ok (.istore 8, 2) := by decide +kernel
theorem d11_calm_160 : decode m11_calm.2.1 160 = .ok (.iload 8, 2) := by decide +kernel
theorem d11_calm_162 : decode m11_calm.2.1 162 = .ok (.aload_n 0, 1) := by decide +kernel
theorem d11_calm_163 : decode m11_calm.2.1 163 = .ok (.getfield 192, 3) := by decide +kernel
theorem d11_calm_166 : decode m11_calm.2.1 166 = .ok (.if_icmp .ge 34, 3) := by decide +kernel
theorem d11_calm_169 : decode m11_calm.2.1 169 = .ok (.aload_n 0, 1) := by decide +kernel
theorem d11_calm_170 : decode m11_calm.2.1 170 = .ok (.getfield 53, 3) := by decide +kernel
theorem d11_calm_173 : decode m11_calm.2.1 173 = .ok (.iload 8, 2) := by decide +kernel
theorem d11_calm_175 : decode m11_calm.2.1 175 = .ok (.iaload, 1) := by decide +kernel
theorem d11_calm_176 : decode m11_calm.2.1 176 = .ok (.iconst (-1), 1) := by decide +kernel
theorem d11_calm_177 : decode m11_calm.2.1 177 = .ok (.if_icmp .ne 8, 3) := by decide +kernel
theorem d11_calm_180 : decode m11_calm.2.1 180 = .ok (.iload 7, 2) := by decide +kernel
theorem d11_calm_182 : decode m11_calm.2.1 182 = .ok (.goto 10, 3) := by decide +kernel
theorem d11_calm_185 : decode m11_calm.2.1 185 = .ok (.aload_n 0, 1) := by decide +kernel
theorem d11_calm_186 : decode m11_calm.2.1 186 = .ok (.getfield 53, 3) := by decide +kernel
theorem d11_calm_189 : decode m11_calm.2.1 189 = .ok (.iload 8, 2) := by decide +kernel
theorem d11_calm_191 : decode m11_calm.2.1 191 = .ok (.iaload, 1) := by decide +kernel
theorem d11_calm_192 : decode m11_calm.2.1 192 = .ok (.istore 7, 2) := by decide +kernel
theorem d11_calm_194 : decode m11_calm.2.1 194 = .ok (.iinc 8 1, 3) := by decide +kernel
theorem d11_calm_197 : decode m11_calm.2.1 197 = .ok (.goto (-37), 3) := by decide +kernel
theorem d11_calm_200 : decode m11_calm.2.1 200 = .ok (.iload_n 3, 1) := by decide +kernel
theorem d11_calm_201 : decode m11_calm.2.1 201 = .ok (.tableswitch 58 0 3 #[31, 34, 37, 50], 31) := by decide +kernel
theorem d11_calm_232 : decode m11_calm.2.1 232 = .ok (.iload 6, 2) := by decide +kernel
theorem d11_calm_234 : decode m11_calm.2.1 234 = .ok (.ireturn, 1) := by decide +kernel
theorem d11_calm_235 : decode m11_calm.2.1 235 = .ok (.iload 7, 2) := by decide +kernel
theorem d11_calm_237 : decode m11_calm.2.1 237 = .ok (.ireturn, 1) := by decide +kernel
theorem d11_calm_238 : decode m11_calm.2.1 238 = .ok (.iload 7, 2) := by decide +kernel
theorem d11_calm_240 : decode m11_calm.2.1 240 = .ok (.iconst (-1), 1) := by decide +kernel
theorem d11_calm_241 : decode m11_calm.2.1 241 = .ok (.if_icmp .ne 7, 3) := by decide +kernel
theorem d11_calm_244 : decode m11_calm.2.1 244 = .ok (.iconst (-1), 1) := by decide +kernel
theorem d11_calm_245 : decode m11_calm.2.1 245 = .ok (.goto 5, 3) := by decide +kernel
theorem d11_calm_248 : decode m11_calm.2.1 248 = .ok (.iload 4, 2) := by decide +kernel
theorem d11_calm_250 : decode m11_calm.2.1 250 = .ok (.ireturn, 1) := by decide +kernel
theorem d11_calm_251 : decode m11_calm.2.1 251 = .ok (.aload_n 0, 1) := by decide +kernel
theorem d11_calm_252 : decode m11_calm.2.1 252 = .ok (.iload_n 2, 1) := by decide +kernel
theorem d11_calm_253 : decode m11_calm.2.1 253 = .ok (.iload 4, 2) := by decide +kernel
theorem d11_calm_255 : decode m11_calm.2.1 255 = .ok (.invokevirtual 280, 3) := by decide +kernel
theorem d11_calm_258 : decode m11_calm.2.1 258 = .ok (.ireturn, 1) := by decide +kernel
theorem d11_calm_259 : decode m11_calm.2.1 259 = .ok (.aload_n 0, 1) := by decide +kernel
theorem d11_calm_260 : decode m11_calm.2.1 260 = .ok (.iload_n 2, 1) := by decide +kernel
theorem d11_calm_261 : decode m11_calm.2.1 261 = .ok (.iconst 0, 1) := by decide +kernel
theorem d11_calm_262 : decode m11_calm.2.1 262 = .ok (.bipush 9, 2) := by decide +kernel
theorem d11_calm_264 : decode m11_calm.2.1 264 = .ok (.invokevirtual 283, 3) := by decide +kernel
theorem d11_calm_267 : decode m11_calm.2.1 267 = .ok (.iload 5, 2) := by decide +kernel
theorem d11_calm_269 : decode m11_calm.2.1 269 = .ok (.isub, 1) := by decide +kernel
theorem d11_calm_270 : decode m11_calm.2.1 270 = .ok (.ireturn, 1) := by decide +kernel
def b11_calm_98 (rec37 : Int × Int × Int × AH → Option (Int × AH)) (x2 : Int) (x3 : Int) (x4 : Int) (x6 : Int) (s0 : Int) (h : AH) : Option (Int × AH) :=
  rec37 (x4, s0, (x6 + 1), h)
set_option maxRecDepth 100000 in
theorem t11_calm_98 (l : Launch) (G : Geo) (d : Nat) (hd : 5 ≤ d) (x2 : Int) (x3 : Int) (x4 : Int) (x6 : Int) (s0 : Int) (rec37 : Int × Int × Int × AH → Option (Int × AH)) (H37 : ∀ (x4 : Int) (x5 : Int) (x6 : Int) (h : AH), Den l G m11_calm rvI d 37 [some (vA G 69), none, some (vI x2), some (vI x3), some (vI x4), some (vI x5), some (vI x6), none, none] [] h (rec37 (x4, x5, x6, h))) (h : AH) : Den l G m11_calm rvI d 98 [some (vA G 69), none, some (vI x2), some (vI x3), some (vI x4), none, some (vI x6), none, none] [vI s0] h (b11_calm_98 rec37 x2 x3 x4 x6 s0 h) := by
  unfold b11_calm_98
  refine den_istore (pc := 98) (L2 := [some (vA G 69), none, some (vI x2), some (vI x3), some (vI x4), some (vI s0), some (vI x6), none, none]) d11_calm_98 (by decide) rfl ?_
  refine den_iinc (pc := 100) (L2 := [some (vA G 69), none, some (vI x2), some (vI x3), some (vI x4), some (vI s0), some (vI (x6 + 1)), none, none]) d11_calm_100 (by decide) rfl rfl ?_
  refine den_goto (pc := 103) (tgt := 37) d11_calm_103 (by decide) ?_
  exact H37 x4 s0 (x6 + 1) h
def b11_calm_68 (rec37 : Int × Int × Int × AH → Option (Int × AH)) (x2 : Int) (x3 : Int) (x5 : Int) (x6 : Int) (s0 : Int) (h : AH) : Option (Int × AH) :=
  bnd (f11_holdersOf x2 x6 x6 h) fun r1 h2 =>
  if w32 r1 ≤ w32 x5 then
    b11_calm_98 rec37 x2 x3 s0 x6 x5 h2
  else
    bnd (f11_holdersOf x2 x6 x6 h2) fun r5 h6 =>
    b11_calm_98 rec37 x2 x3 s0 x6 r5 h6
set_option maxRecDepth 100000 in
theorem t11_calm_68 (l : Launch) (G : Geo) (d : Nat) (hd : 5 ≤ d) (x2 : Int) (x3 : Int) (x5 : Int) (x6 : Int) (s0 : Int) (rec37 : Int × Int × Int × AH → Option (Int × AH)) (H37 : ∀ (x4 : Int) (x5 : Int) (x6 : Int) (h : AH), Den l G m11_calm rvI d 37 [some (vA G 69), none, some (vI x2), some (vI x3), some (vI x4), some (vI x5), some (vI x6), none, none] [] h (rec37 (x4, x5, x6, h))) (h : AH) : Den l G m11_calm rvI d 68 [some (vA G 69), none, some (vI x2), some (vI x3), none, some (vI x5), some (vI x6), none, none] [vI s0] h (b11_calm_68 rec37 x2 x3 x5 x6 s0 h) := by
  unfold b11_calm_68
  refine den_istore (pc := 68) (L2 := [some (vA G 69), none, some (vI x2), some (vI x3), some (vI s0), some (vI x5), some (vI x6), none, none]) d11_calm_68 (by decide) rfl ?_
  refine den_aload_n (pc := 70) d11_calm_70 rfl rfl ?_
  refine den_iload_n (pc := 71) d11_calm_71 rfl rfl ?_
  refine den_iload (pc := 72) d11_calm_72 rfl ?_
  refine den_iload (pc := 74) d11_calm_74 rfl ?_
  refine den_callVI (pc := 76) (As := [vI x2, vI x6, vI x6]) fv_11_283 rfl rfl (ok_69 _) (Nat.le_of_ble_eq_true rfl) (Nat.le_trans (by decide) hd) d11_calm_76 (c11_holdersOf l G x2 x6 x6 h) (fun r1 h2 m3 o4 => ?_)
  refine den_iload (pc := 79) d11_calm_79 rfl ?_
  refine den_icmp_le (pc := 81) (tgt := 96) d11_calm_81 (by decide) rfl rfl (fun _ => ?_) (fun _ => ?_)
  · refine den_iload (pc := 96) d11_calm_96 rfl ?_
    refine den_wk [true, true, true, true, true, false, true, true, true] rfl ?_
    exact t11_calm_98 l G _ hd x2 x3 s0 x6 x5 rec37 H37 h2
  · refine den_aload_n (pc := 84) d11_calm_84 rfl rfl ?_
    refine den_iload_n (pc := 85) d11_calm_85 rfl rfl ?_
    refine den_iload (pc := 86) d11_calm_86 rfl ?_
    refine den_iload (pc := 88) d11_calm_88 rfl ?_
    refine den_callVI (pc := 90) (As := [vI x2, vI x6, vI x6]) fv_11_283 rfl rfl (ok_69 _) (Nat.le_of_ble_eq_true rfl) (Nat.le_trans (by decide) hd) d11_calm_90 (c11_holdersOf l G x2 x6 x6 h2) (fun r5 h6 m7 o8 => ?_)
    refine den_goto (pc := 93) (tgt := 98) d11_calm_93 (by decide) ?_
    refine den_wk [true, true, true, true, true, false, true, true, true] rfl ?_
    exact t11_calm_98 l G _ hd x2 x3 s0 x6 r5 rec37 H37 h6
def b11_calm_192 (rec160 : Int × Int × AH → Option (Int × AH)) (x2 : Int) (x3 : Int) (x4 : Int) (x5 : Int) (x6 : Int) (x8 : Int) (s0 : Int) (h : AH) : Option (Int × AH) :=
  rec160 (s0, (x8 + 1), h)
set_option maxRecDepth 100000 in
theorem t11_calm_192 (l : Launch) (G : Geo) (d : Nat) (hd : 5 ≤ d) (x2 : Int) (x3 : Int) (x4 : Int) (x5 : Int) (x6 : Int) (x8 : Int) (s0 : Int) (rec160 : Int × Int × AH → Option (Int × AH)) (H160 : ∀ (x7 : Int) (x8 : Int) (h : AH), Den l G m11_calm rvI d 160 [some (vA G 69), none, some (vI x2), some (vI x3), some (vI x4), some (vI x5), some (vI x6), some (vI x7), some (vI x8)] [] h (rec160 (x7, x8, h))) (h : AH) : Den l G m11_calm rvI d 192 [some (vA G 69), none, some (vI x2), some (vI x3), some (vI x4), some (vI x5), some (vI x6), none, some (vI x8)] [vI s0] h (b11_calm_192 rec160 x2 x3 x4 x5 x6 x8 s0 h) := by
  unfold b11_calm_192
  refine den_istore (pc := 192) (L2 := [some (vA G 69), none, some (vI x2), some (vI x3), some (vI x4), some (vI x5), some (vI x6), some (vI s0), some (vI x8)]) d11_calm_192 (by decide) rfl ?_
  refine den_iinc (pc := 194) (L2 := [some (vA G 69), none, some (vI x2), some (vI x3), some (vI x4), some (vI x5), some (vI x6), some (vI s0), some (vI (x8 + 1))]) d11_calm_194 (by decide) rfl rfl ?_
  refine den_goto (pc := 197) (tgt := 160) d11_calm_197 (by decide) ?_
  exact H160 s0 (x8 + 1) h
def b11_calm_160 (rec160 : Int × Int × AH → Option (Int × AH)) (x2 : Int) (x3 : Int) (x4 : Int) (x5 : Int) (x6 : Int) (x7 : Int) (x8 : Int) (h : AH) : Option (Int × AH) :=
  if w32 (h.2 69 13) ≤ w32 x8 then
    if w32 x3 = 0 then
      some (x6, h)
    else
    if w32 x3 = 1 then
      some (x7, h)
    else
    if w32 x3 = 2 then
      if ¬ w32 x7 = (-1) then
        some (x4, h)
      else
        some ((-1), h)
    else
    if w32 x3 = 3 then
      bnd (f11_awayOf x2 x4 h) fun r13 h14 =>
      some (r13, h14)
    else
    bnd (f11_holdersOf x2 0 9 h) fun r17 h18 =>
    some (r17 - x5, h18)
  else
    asrt (0 ≤ w32 x8 ∧ w32 x8 < 8) <|
    if ¬ w32 (h.2 84 (w32 x8).toNat) = (-1) then
      asrt (0 ≤ w32 x8 ∧ w32 x8 < 8) <|
      b11_calm_192 rec160 x2 x3 x4 x5 x6 x8 (h.2 84 (w32 x8).toNat) h
    else
      b11_calm_192 rec160 x2 x3 x4 x5 x6 x8 x7 h
set_option maxRecDepth 100000 in
theorem t11_calm_160 (l : Launch) (G : Geo) (d : Nat) (hd : 5 ≤ d) (x2 : Int) (x3 : Int) (x4 : Int) (x5 : Int) (x6 : Int) (x7 : Int) (x8 : Int) (rec160 : Int × Int × AH → Option (Int × AH)) (H160 : ∀ (x7 : Int) (x8 : Int) (h : AH), Den l G m11_calm rvI d 160 [some (vA G 69), none, some (vI x2), some (vI x3), some (vI x4), some (vI x5), some (vI x6), some (vI x7), some (vI x8)] [] h (rec160 (x7, x8, h))) (h : AH) : Den l G m11_calm rvI d 160 [some (vA G 69), none, some (vI x2), some (vI x3), some (vI x4), some (vI x5), some (vI x6), some (vI x7), some (vI x8)] [] h (b11_calm_160 rec160 x2 x3 x4 x5 x6 x7 x8 h) := by
  unfold b11_calm_160
  refine den_iload (pc := 160) d11_calm_160 rfl ?_
  refine den_aload_n (pc := 162) d11_calm_162 rfl rfl ?_
  refine den_getI (pc := 163) fa_11_192 (ok_69 _) d11_calm_163 ?_
  refine den_icmp_ge (pc := 166) (tgt := 200) d11_calm_166 (by decide) rfl rfl (fun _ => ?_) (fun _ => ?_)
  · refine den_iload_n (pc := 200) d11_calm_200 rfl rfl ?_
    refine den_ite (fun c9 => ?_) (fun c9 => ?_)
    · refine den_tableIn (pc := 201) (tgt := 232) d11_calm_201 (by omega) (by omega) (by rw [c9]; rfl) (by decide) ?_
      refine den_iload (pc := 232) d11_calm_232 rfl ?_
      exact den_iret (pc := 234) rfl d11_calm_234
    refine den_ite (fun c10 => ?_) (fun c10 => ?_)
    · refine den_tableIn (pc := 201) (tgt := 235) d11_calm_201 (by omega) (by omega) (by rw [c10]; rfl) (by decide) ?_
      refine den_iload (pc := 235) d11_calm_235 rfl ?_
      exact den_iret (pc := 237) rfl d11_calm_237
    refine den_ite (fun c11 => ?_) (fun c11 => ?_)
    · refine den_tableIn (pc := 201) (tgt := 238) d11_calm_201 (by omega) (by omega) (by rw [c11]; rfl) (by decide) ?_
      refine den_iload (pc := 238) d11_calm_238 rfl ?_
      refine den_iconst (pc := 240) d11_calm_240 ?_
      refine den_icmp_ne (pc := 241) (tgt := 248) d11_calm_241 (by decide) rfl (by decide) (fun _ => ?_) (fun _ => ?_)
      · refine den_iload (pc := 248) d11_calm_248 rfl ?_
        exact den_iret (pc := 250) rfl d11_calm_250
      · refine den_iconst (pc := 244) d11_calm_244 ?_
        refine den_goto (pc := 245) (tgt := 250) d11_calm_245 (by decide) ?_
        exact den_iret (pc := 250) rfl d11_calm_250
    refine den_ite (fun c12 => ?_) (fun c12 => ?_)
    · refine den_tableIn (pc := 201) (tgt := 251) d11_calm_201 (by omega) (by omega) (by rw [c12]; rfl) (by decide) ?_
      refine den_aload_n (pc := 251) d11_calm_251 rfl rfl ?_
      refine den_iload_n (pc := 252) d11_calm_252 rfl rfl ?_
      refine den_iload (pc := 253) d11_calm_253 rfl ?_
      refine den_callVI (pc := 255) (As := [vI x2, vI x4]) fv_11_280 rfl rfl (ok_69 _) (Nat.le_of_ble_eq_true rfl) (Nat.le_trans (by decide) hd) d11_calm_255 (c11_awayOf l G x2 x4 h) (fun r13 h14 m15 o16 => ?_)
      exact den_iret (pc := 258) rfl d11_calm_258
    refine den_tableOut (pc := 201) (tgt := 259) d11_calm_201 (by omega) (by decide) ?_
    refine den_aload_n (pc := 259) d11_calm_259 rfl rfl ?_
    refine den_iload_n (pc := 260) d11_calm_260 rfl rfl ?_
    refine den_iconst (pc := 261) d11_calm_261 ?_
    refine den_bipush (pc := 262) d11_calm_262 (by decide) ?_
    refine den_callVI (pc := 264) (As := [vI x2, vI 0, vI 9]) fv_11_283 rfl rfl (ok_69 _) (Nat.le_of_ble_eq_true rfl) (Nat.le_trans (by decide) hd) d11_calm_264 (c11_holdersOf l G x2 0 9 h) (fun r17 h18 m19 o20 => ?_)
    refine den_iload (pc := 267) d11_calm_267 rfl ?_
    refine den_isub (pc := 269) d11_calm_269 ?_
    exact den_iret (pc := 270) rfl d11_calm_270
  · refine den_aload_n (pc := 169) d11_calm_169 rfl rfl ?_
    refine den_getR (pc := 170) (b := 84) fa_11_53 (ok_69 _) rfl d11_calm_170 ?_
    refine den_iload (pc := 173) d11_calm_173 rfl ?_
    refine den_asrt (fun a21 => ?_)
    refine den_iaload (pc := 175) sh_84 (sz_lt (by decide)) rfl a21 d11_calm_175 ?_
    refine den_iconst (pc := 176) d11_calm_176 ?_
    refine den_icmp_ne (pc := 177) (tgt := 185) d11_calm_177 (by decide) rfl (by decide) (fun _ => ?_) (fun _ => ?_)
    · refine den_aload_n (pc := 185) d11_calm_185 rfl rfl ?_
      refine den_getR (pc := 186) (b := 84) fa_11_53 (ok_69 _) rfl d11_calm_186 ?_
      refine den_iload (pc := 189) d11_calm_189 rfl ?_
      refine den_asrt (fun a22 => ?_)
      refine den_iaload (pc := 191) sh_84 (sz_lt (by decide)) rfl a22 d11_calm_191 ?_
      refine den_wk [true, true, true, true, true, true, true, false, true] rfl ?_
      exact t11_calm_192 l G _ hd x2 x3 x4 x5 x6 x8 (h.2 84 (w32 x8).toNat) rec160 H160 h
    · refine den_iload (pc := 180) d11_calm_180 rfl ?_
      refine den_goto (pc := 182) (tgt := 192) d11_calm_182 (by decide) ?_
      refine den_wk [true, true, true, true, true, true, true, false, true] rfl ?_
      exact t11_calm_192 l G _ hd x2 x3 x4 x5 x6 x8 x7 rec160 H160 h
def l11_calm_160 (x2 : Int) (x3 : Int) (x4 : Int) (x5 : Int) (x6 : Int) (x7 : Int) (x8 : Int) (h : AH) : Option (Int × AH) := fx (fun rec z => b11_calm_160 rec x2 x3 x4 x5 x6 z.1 z.2.1 z.2.2) FU (x7, x8, h)
set_option maxRecDepth 100000 in
theorem tl11_calm_160 (l : Launch) (G : Geo) (d : Nat) (hd : 5 ≤ d) (x2 : Int) (x3 : Int) (x4 : Int) (x5 : Int) (x6 : Int) : ∀ (n : Nat) (z : Int × Int × AH), True → Den l G m11_calm rvI d 160 [some (vA G 69), none, some (vI x2), some (vI x3), some (vI x4), some (vI x5), some (vI x6), some (vI z.1), some (vI z.2.1)] [] z.2.2 (fx (fun rec z => b11_calm_160 rec x2 x3 x4 x5 x6 z.1 z.2.1 z.2.2) n z) :=
  den_fx (F := fun rec z => b11_calm_160 rec x2 x3 x4 x5 x6 z.1 z.2.1 z.2.2) (P := fun z => True) (fL := fun z => [some (vA G 69), none, some (vI x2), some (vI x3), some (vI x4), some (vI x5), some (vI x6), some (vI z.1), some (vI z.2.1)]) (fs := fun z => []) (fh := fun z => z.2.2) (fun rec hrec z hz => t11_calm_160 l G d hd x2 x3 x4 x5 x6 z.1 z.2.1 rec (fun x7 x8 h => hrec (x7, x8, h) trivial) z.2.2 )
def b11_calm_141 (rec141 : Int × AH → Option (Int × AH)) (x2 : Int) (x3 : Int) (x4 : Int) (x5 : Int) (x6 : Int) (h : AH) : Option (Int × AH) :=
  bnd (f11_calms h) fun r23 h24 =>
  if w32 r23 = 0 then
    l11_calm_160 x2 x3 x4 x5 x6 (-1) 0 h24
  else
    rec141 ((x6 + 1), h24)
set_option maxRecDepth 100000 in
theorem t11_calm_141 (l : Launch) (G : Geo) (d : Nat) (hd : 5 ≤ d) (x2 : Int) (x3 : Int) (x4 : Int) (x5 : Int) (x6 : Int) (rec141 : Int × AH → Option (Int × AH)) (H141 : ∀ (x6 : Int) (h : AH), Den l G m11_calm rvI d 141 [some (vA G 69), none, some (vI x2), some (vI x3), some (vI x4), some (vI x5), some (vI x6), none, none] [] h (rec141 (x6, h))) (h : AH) : Den l G m11_calm rvI d 141 [some (vA G 69), none, some (vI x2), some (vI x3), some (vI x4), some (vI x5), some (vI x6), none, none] [] h (b11_calm_141 rec141 x2 x3 x4 x5 x6 h) := by
  unfold b11_calm_141
  refine den_aload_n (pc := 141) d11_calm_141 rfl rfl ?_
  refine den_callVI (pc := 142) (As := []) fv_11_286 rfl rfl (ok_69 _) (Nat.le_of_ble_eq_true rfl) (Nat.le_trans (by decide) hd) d11_calm_142 (c11_calms l G h) (fun r23 h24 m25 o26 => ?_)
  refine den_if_eq (pc := 145) (tgt := 154) d11_calm_145 (by decide) rfl (fun _ => ?_) (fun _ => ?_)
  · refine den_iconst (pc := 154) d11_calm_154 ?_
    refine den_istore (pc := 155) (L2 := [some (vA G 69), none, some (vI x2), some (vI x3), some (vI x4), some (vI x5), some (vI x6), some (vI (-1)), none]) d11_calm_155 (by decide) rfl ?_
    refine den_iconst (pc := 157) d11_calm_157 ?_
    refine den_istore (pc := 158) (L2 := [some (vA G 69), none, some (vI x2), some (vI x3), some (vI x4), some (vI x5), some (vI x6), some (vI (-1)), some (vI 0)]) d11_calm_158 (by decide) rfl ?_
    exact tl11_calm_160 l G _ hd x2 x3 x4 x5 x6 FU ((-1), 0, h24) trivial
  · refine den_iinc (pc := 148) (L2 := [some (vA G 69), none, some (vI x2), some (vI x3), some (vI x4), some (vI x5), some (vI (x6 + 1)), none, none]) d11_calm_148 (by decide) rfl rfl ?_
    refine den_goto (pc := 151) (tgt := 141) d11_calm_151 (by decide) ?_
    exact H141 (x6 + 1) h24
def l11_calm_141 (x2 : Int) (x3 : Int) (x4 : Int) (x5 : Int) (x6 : Int) (h : AH) : Option (Int × AH) := fx (fun rec z => b11_calm_141 rec x2 x3 x4 x5 z.1 z.2) FU (x6, h)
set_option maxRecDepth 100000 in
theorem tl11_calm_141 (l : Launch) (G : Geo) (d : Nat) (hd : 5 ≤ d) (x2 : Int) (x3 : Int) (x4 : Int) (x5 : Int) : ∀ (n : Nat) (z : Int × AH), True → Den l G m11_calm rvI d 141 [some (vA G 69), none, some (vI x2), some (vI x3), some (vI x4), some (vI x5), some (vI z.1), none, none] [] z.2 (fx (fun rec z => b11_calm_141 rec x2 x3 x4 x5 z.1 z.2) n z) :=
  den_fx (F := fun rec z => b11_calm_141 rec x2 x3 x4 x5 z.1 z.2) (P := fun z => True) (fL := fun z => [some (vA G 69), none, some (vI x2), some (vI x3), some (vI x4), some (vI x5), some (vI z.1), none, none]) (fs := fun z => []) (fh := fun z => z.2) (fun rec hrec z hz => t11_calm_141 l G d hd x2 x3 x4 x5 z.1 rec (fun x6 h => hrec (x6, h) trivial) z.2 )
def b11_calm_109 (rec109 : Int × AH → Option (Int × AH)) (x2 : Int) (x3 : Int) (x4 : Int) (x5 : Int) (x6 : Int) (h : AH) : Option (Int × AH) :=
  if w32 (h.2 69 13) ≤ w32 x6 then
    l11_calm_141 x2 x3 x4 x5 0 h
  else
    bnd (f11_heldOf x6 x2 h) fun r27 h28 =>
    asrt (0 ≤ w32 x6 ∧ w32 x6 < 8) <|
    lt (wr h28 84 (w32 x6).toNat r27) fun h32 =>
    rec109 ((x6 + 1), h32)
set_option maxRecDepth 100000 in
theorem t11_calm_109 (l : Launch) (G : Geo) (d : Nat) (hd : 5 ≤ d) (x2 : Int) (x3 : Int) (x4 : Int) (x5 : Int) (x6 : Int) (rec109 : Int × AH → Option (Int × AH)) (H109 : ∀ (x6 : Int) (h : AH), Den l G m11_calm rvI d 109 [some (vA G 69), none, some (vI x2), some (vI x3), some (vI x4), some (vI x5), some (vI x6), none, none] [] h (rec109 (x6, h))) (h : AH) : Den l G m11_calm rvI d 109 [some (vA G 69), none, some (vI x2), some (vI x3), some (vI x4), some (vI x5), some (vI x6), none, none] [] h (b11_calm_109 rec109 x2 x3 x4 x5 x6 h) := by
  unfold b11_calm_109
  refine den_iload (pc := 109) d11_calm_109 rfl ?_
  refine den_aload_n (pc := 111) d11_calm_111 rfl rfl ?_
  refine den_getI (pc := 112) fa_11_192 (ok_69 _) d11_calm_112 ?_
  refine den_icmp_ge (pc := 115) (tgt := 138) d11_calm_115 (by decide) rfl rfl (fun _ => ?_) (fun _ => ?_)
  · refine den_iconst (pc := 138) d11_calm_138 ?_
    refine den_istore (pc := 139) (L2 := [some (vA G 69), none, some (vI x2), some (vI x3), some (vI x4), some (vI x5), some (vI 0), none, none]) d11_calm_139 (by decide) rfl ?_
    exact tl11_calm_141 l G _ hd x2 x3 x4 x5 FU (0, h) trivial
  · refine den_aload_n (pc := 118) d11_calm_118 rfl rfl ?_
    refine den_getR (pc := 119) (b := 84) fa_11_53 (ok_69 _) rfl d11_calm_119 ?_
    refine den_iload (pc := 122) d11_calm_122 rfl ?_
    refine den_aload_n (pc := 124) d11_calm_124 rfl rfl ?_
    refine den_iload (pc := 125) d11_calm_125 rfl ?_
    refine den_iload_n (pc := 127) d11_calm_127 rfl rfl ?_
    refine den_callVI (pc := 128) (As := [vI x6, vI x2]) fv_11_210 rfl rfl (ok_69 _) (Nat.le_of_ble_eq_true rfl) (Nat.le_trans (by decide) hd) d11_calm_128 (c11_heldOf l G x6 x2 h) (fun r27 h28 m29 o30 => ?_)
    refine den_asrt (fun a31 => ?_)
    refine den_iastore (pc := 131) sh_84 (sz_lt (by decide)) rfl a31 d11_calm_131 ?_
    refine den_ltH (fun h32 m33 => ?_)
    refine den_iinc (pc := 132) (L2 := [some (vA G 69), none, some (vI x2), some (vI x3), some (vI x4), some (vI x5), some (vI (x6 + 1)), none, none]) d11_calm_132 (by decide) rfl rfl ?_
    refine den_goto (pc := 135) (tgt := 109) d11_calm_135 (by decide) ?_
    exact H109 (x6 + 1) h32
def l11_calm_109 (x2 : Int) (x3 : Int) (x4 : Int) (x5 : Int) (x6 : Int) (h : AH) : Option (Int × AH) := fx (fun rec z => b11_calm_109 rec x2 x3 x4 x5 z.1 z.2) FU (x6, h)
set_option maxRecDepth 100000 in
theorem tl11_calm_109 (l : Launch) (G : Geo) (d : Nat) (hd : 5 ≤ d) (x2 : Int) (x3 : Int) (x4 : Int) (x5 : Int) : ∀ (n : Nat) (z : Int × AH), True → Den l G m11_calm rvI d 109 [some (vA G 69), none, some (vI x2), some (vI x3), some (vI x4), some (vI x5), some (vI z.1), none, none] [] z.2 (fx (fun rec z => b11_calm_109 rec x2 x3 x4 x5 z.1 z.2) n z) :=
  den_fx (F := fun rec z => b11_calm_109 rec x2 x3 x4 x5 z.1 z.2) (P := fun z => True) (fL := fun z => [some (vA G 69), none, some (vI x2), some (vI x3), some (vI x4), some (vI x5), some (vI z.1), none, none]) (fs := fun z => []) (fh := fun z => z.2) (fun rec hrec z hz => t11_calm_109 l G d hd x2 x3 x4 x5 z.1 rec (fun x6 h => hrec (x6, h) trivial) z.2 )
def b11_calm_37 (rec37 : Int × Int × Int × AH → Option (Int × AH)) (x2 : Int) (x3 : Int) (x4 : Int) (x5 : Int) (x6 : Int) (h : AH) : Option (Int × AH) :=
  if 10 ≤ w32 x6 then
    l11_calm_109 x2 x3 x4 x5 0 h
  else
    bnd (f11_awayOf x2 x6 h) fun r34 h35 =>
    bnd (f11_awayOf x2 x4 h35) fun r38 h39 =>
    if w32 r38 ≤ w32 r34 then
      b11_calm_68 rec37 x2 x3 x5 x6 x4 h39
    else
      b11_calm_68 rec37 x2 x3 x5 x6 x6 h39
set_option maxRecDepth 100000 in
theorem t11_calm_37 (l : Launch) (G : Geo) (d : Nat) (hd : 5 ≤ d) (x2 : Int) (x3 : Int) (x4 : Int) (x5 : Int) (x6 : Int) (rec37 : Int × Int × Int × AH → Option (Int × AH)) (H37 : ∀ (x4 : Int) (x5 : Int) (x6 : Int) (h : AH), Den l G m11_calm rvI d 37 [some (vA G 69), none, some (vI x2), some (vI x3), some (vI x4), some (vI x5), some (vI x6), none, none] [] h (rec37 (x4, x5, x6, h))) (h : AH) : Den l G m11_calm rvI d 37 [some (vA G 69), none, some (vI x2), some (vI x3), some (vI x4), some (vI x5), some (vI x6), none, none] [] h (b11_calm_37 rec37 x2 x3 x4 x5 x6 h) := by
  unfold b11_calm_37
  refine den_iload (pc := 37) d11_calm_37 rfl ?_
  refine den_bipush (pc := 39) d11_calm_39 (by decide) ?_
  refine den_icmp_ge (pc := 41) (tgt := 106) d11_calm_41 (by decide) rfl (by decide) (fun _ => ?_) (fun _ => ?_)
  · refine den_iconst (pc := 106) d11_calm_106 ?_
    refine den_istore (pc := 107) (L2 := [some (vA G 69), none, some (vI x2), some (vI x3), some (vI x4), some (vI x5), some (vI 0), none, none]) d11_calm_107 (by decide) rfl ?_
    exact tl11_calm_109 l G _ hd x2 x3 x4 x5 FU (0, h) trivial
  · refine den_aload_n (pc := 44) d11_calm_44 rfl rfl ?_
    refine den_iload_n (pc := 45) d11_calm_45 rfl rfl ?_
    refine den_iload (pc := 46) d11_calm_46 rfl ?_
    refine den_callVI (pc := 48) (As := [vI x2, vI x6]) fv_11_280 rfl rfl (ok_69 _) (Nat.le_of_ble_eq_true rfl) (Nat.le_trans (by decide) hd) d11_calm_48 (c11_awayOf l G x2 x6 h) (fun r34 h35 m36 o37 => ?_)
    refine den_aload_n (pc := 51) d11_calm_51 rfl rfl ?_
    refine den_iload_n (pc := 52) d11_calm_52 rfl rfl ?_
    refine den_iload (pc := 53) d11_calm_53 rfl ?_
    refine den_callVI (pc := 55) (As := [vI x2, vI x4]) fv_11_280 rfl rfl (ok_69 _) (Nat.le_of_ble_eq_true rfl) (Nat.le_trans (by decide) hd) d11_calm_55 (c11_awayOf l G x2 x4 h35) (fun r38 h39 m40 o41 => ?_)
    refine den_icmp_ge (pc := 58) (tgt := 66) d11_calm_58 (by decide) rfl rfl (fun _ => ?_) (fun _ => ?_)
    · refine den_iload (pc := 66) d11_calm_66 rfl ?_
      refine den_wk [true, true, true, true, false, true, true, true, true] rfl ?_
      exact t11_calm_68 l G _ hd x2 x3 x5 x6 x4 rec37 H37 h39
    · refine den_iload (pc := 61) d11_calm_61 rfl ?_
      refine den_goto (pc := 63) (tgt := 68) d11_calm_63 (by decide) ?_
      refine den_wk [true, true, true, true, false, true, true, true, true] rfl ?_
      exact t11_calm_68 l G _ hd x2 x3 x5 x6 x6 rec37 H37 h39
def l11_calm_37 (x2 : Int) (x3 : Int) (x4 : Int) (x5 : Int) (x6 : Int) (h : AH) : Option (Int × AH) := fx (fun rec z => b11_calm_37 rec x2 x3 z.1 z.2.1 z.2.2.1 z.2.2.2) FU (x4, x5, x6, h)
set_option maxRecDepth 100000 in
theorem tl11_calm_37 (l : Launch) (G : Geo) (d : Nat) (hd : 5 ≤ d) (x2 : Int) (x3 : Int) : ∀ (n : Nat) (z : Int × Int × Int × AH), True → Den l G m11_calm rvI d 37 [some (vA G 69), none, some (vI x2), some (vI x3), some (vI z.1), some (vI z.2.1), some (vI z.2.2.1), none, none] [] z.2.2.2 (fx (fun rec z => b11_calm_37 rec x2 x3 z.1 z.2.1 z.2.2.1 z.2.2.2) n z) :=
  den_fx (F := fun rec z => b11_calm_37 rec x2 x3 z.1 z.2.1 z.2.2.1 z.2.2.2) (P := fun z => True) (fL := fun z => [some (vA G 69), none, some (vI x2), some (vI x3), some (vI z.1), some (vI z.2.1), some (vI z.2.2.1), none, none]) (fs := fun z => []) (fh := fun z => z.2.2.2) (fun rec hrec z hz => t11_calm_37 l G d hd x2 x3 z.1 z.2.1 z.2.2.1 rec (fun x4 x5 x6 h => hrec (x4, x5, x6, h) trivial) z.2.2.2 )
def f11_calm (x1 : Int) (x2 : Int) (x3 : Int) (h : AH) : Option (Int × AH) :=
  bnd (f11_isVillage x1 h) fun r42 h43 =>
  if w32 r42 = 0 then
    some ((-2), h43)
  else
    bnd (f11_isSubject x2 h43) fun r46 h47 =>
    if w32 r46 = 0 then
      some ((-2), h47)
    else
      bnd (f11_isIn x3 0 4 h47) fun r50 h51 =>
      if ¬ w32 r50 = 0 then
        l11_calm_37 x2 x3 0 0 0 h51
      else
        some ((-2), h51)
set_option maxRecDepth 100000 in
theorem c11_calm (l : Launch) (G : Geo) (x1 : Int) (x2 : Int) (x3 : Int) (h : AH) : Con l G m11_calm rvI 5 [vA G 69, vI x1, vI x2, vI x3] h (f11_calm x1 x2 x3 h) := by
  have hd : 5 ≤ 5 := Nat.le_refl _
  refine con_I rfl (by decide) rfl rfl (Nat.le_of_ble_eq_true rfl) (L := [some (vA G 69), some (vI x1), some (vI x2), some (vI x3), none, none, none, none, none]) ?_
  unfold f11_calm
  refine den_aload_n (pc := 0) d11_calm_0 rfl rfl ?_
  refine den_iload_n (pc := 1) d11_calm_1 rfl rfl ?_
  refine den_callVI (pc := 2) (As := [vI x1]) fv_11_201 rfl rfl (ok_69 _) (Nat.le_of_ble_eq_true rfl) (Nat.le_trans (by decide) hd) d11_calm_2 (c11_isVillage l G x1 h) (fun r42 h43 m44 o45 => ?_)
  refine den_if_eq (pc := 5) (tgt := 25) d11_calm_5 (by decide) rfl (fun _ => ?_) (fun _ => ?_)
  · refine den_bipush (pc := 25) d11_calm_25 (by decide) ?_
    exact den_iret (pc := 27) rfl d11_calm_27
  · refine den_aload_n (pc := 8) d11_calm_8 rfl rfl ?_
    refine den_iload_n (pc := 9) d11_calm_9 rfl rfl ?_
    refine den_callVI (pc := 10) (As := [vI x2]) fv_11_207 rfl rfl (ok_69 _) (Nat.le_of_ble_eq_true rfl) (Nat.le_trans (by decide) hd) d11_calm_10 (c11_isSubject l G x2 h43) (fun r46 h47 m48 o49 => ?_)
    refine den_if_eq (pc := 13) (tgt := 25) d11_calm_13 (by decide) rfl (fun _ => ?_) (fun _ => ?_)
    · refine den_bipush (pc := 25) d11_calm_25 (by decide) ?_
      exact den_iret (pc := 27) rfl d11_calm_27
    · refine den_iload_n (pc := 16) d11_calm_16 rfl rfl ?_
      refine den_iconst (pc := 17) d11_calm_17 ?_
      refine den_iconst (pc := 18) d11_calm_18 ?_
      refine den_callSI (pc := 19) (As := [vI x3, vI 0, vI 4]) fs_11_135 rfl rfl (Nat.le_of_ble_eq_true rfl) (Nat.le_trans (by decide) hd) d11_calm_19 (c11_isIn l G x3 0 4 h47) (fun r50 h51 m52 o53 => ?_)
      refine den_if_ne (pc := 22) (tgt := 28) d11_calm_22 (by decide) rfl (fun _ => ?_) (fun _ => ?_)
      · refine den_iconst (pc := 28) d11_calm_28 ?_
        refine den_istore (pc := 29) (L2 := [some (vA G 69), some (vI x1), some (vI x2), some (vI x3), some (vI 0), none, none, none, none]) d11_calm_29 (by decide) rfl ?_
        refine den_iconst (pc := 31) d11_calm_31 ?_
        refine den_istore (pc := 32) (L2 := [some (vA G 69), some (vI x1), some (vI x2), some (vI x3), some (vI 0), some (vI 0), none, none, none]) d11_calm_32 (by decide) rfl ?_
        refine den_iconst (pc := 34) d11_calm_34 ?_
        refine den_istore (pc := 35) (L2 := [some (vA G 69), some (vI x1), some (vI x2), some (vI x3), some (vI 0), some (vI 0), some (vI 0), none, none]) d11_calm_35 (by decide) rfl ?_
        refine den_wk [true, false, true, true, true, true, true, true, true] rfl ?_
        exact tl11_calm_37 l G _ hd x2 x3 FU (0, 0, 0, h51) trivial
      · refine den_bipush (pc := 25) d11_calm_25 (by decide) ?_
        exact den_iret (pc := 27) rfl d11_calm_27
theorem d11_mean_0 : decode m11_mean.2.1 0 = .ok (.aload_n 0, 1) := by decide +kernel
theorem d11_mean_1 : decode m11_mean.2.1 1 = .ok (.iload_n 1, 1) := by decide +kernel
theorem d11_mean_2 : decode m11_mean.2.1 2 = .ok (.invokevirtual 201, 3) := by decide +kernel
theorem d11_mean_5 : decode m11_mean.2.1 5 = .ok (.ifCond .eq 23, 3) := by decide +kernel
theorem d11_mean_8 : decode m11_mean.2.1 8 = .ok (.aload_n 0, 1) := by decide +kernel
theorem d11_mean_9 : decode m11_mean.2.1 9 = .ok (.iload_n 2, 1) := by decide +kernel
theorem d11_mean_10 : decode m11_mean.2.1 10 = .ok (.invokevirtual 207, 3) := by decide +kernel
theorem d11_mean_13 : decode m11_mean.2.1 13 = .ok (.ifCond .eq 15, 3) := by decide +kernel
theorem d11_mean_16 : decode m11_mean.2.1 16 = .ok (.aload_n 0, 1) := by decide +kernel
theorem d11_mean_17 : decode m11_mean.2.1 17 = .ok (.iload_n 2, 1) := by decide +kernel
theorem d11_mean_18 : decode m11_mean.2.1 18 = .ok (.iconst 0, 1) := by decide +kernel
theorem d11_mean_19 : decode m11_mean.2.1 19 = .ok (.bipush 9, 2) := by decide +kernel
theorem d11_mean_21 : decode m11_mean.2.1 21 = .ok (.invokevirtual 283, 3) := by decide +kernel
theorem d11_mean_24 : decode m11_mean.2.1 24 = .ok (.iconst 2, 1) := by decide +kernel
theorem d11_mean_25 : decode m11_mean.2.1 25 = .ok (.if_icmp .ge 7, 3) := by decide +kernel
theorem d11_mean_28 : decode m11_mean.2.1 28 = .ok (.ldc2_w 260, 3) := by decide +kernel
theorem d11_mean_31 : decode m11_mean.2.1 31 = .ok (.lreturn, 1) := by decide +kernel
theorem d11_mean_32 : decode m11_mean.2.1 32 = .ok (.lconst 0, 1) := by decide +kernel
theorem d11_mean_33 : decode m11_mean.2.1 33 = .ok (.lstore 4, 2) := by decide +kernel
theorem d11_mean_35 : decode m11_mean.2.1 35 = .ok (.lconst 0, 1) := by decide +kernel
theorem d11_mean_36 : decode m11_mean.2.1 36 = .ok (.lstore 6, 2) := by decide +kernel
theorem d11_mean_38 : decode m11_mean.2.1 38 = .ok (.iconst 0, 1) := by decide +kernel
theorem d11_mean_39 : decode m11_mean.2.1 39 = .ok (.istore 8, 2) := by decide +kernel
theorem d11_mean_41 : decode m11_mean.2.1 41 = .ok (.iload 8, 2) := by decide +kernel
theorem d11_mean_43 : decode m11_mean.2.1 43 = .ok (.aload_n 0, 1) := by decide +kernel
theorem d11_mean_44 : decode m11_mean.2.1 44 = .ok (.getfield 192, 3) := by decide +kernel
theorem d11_mean_47 : decode m11_mean.2.1 47 = .ok (.if_icmp .ge 68, 3) := by decide +kernel
theorem d11_mean_50 : decode m11_mean.2.1 50 = .ok (.iload 8, 2) := by decide +kernel
theorem d11_mean_52 : decode m11_mean.2.1 52 = .ok (.iconst 1, 1) := by decide +kernel
theorem d11_mean_53 : decode m11_mean.2.1 53 = .ok (.iadd, 1) := by decide +kernel
theorem d11_mean_54 : decode m11_mean.2.1 54 = .ok (.istore 9, 2) := by decide +kernel
theorem d11_mean_56 : decode m11_mean.2.1 56 = .ok (.iload 9, 2) := by decide +kernel
theorem d11_mean_58 : decode m11_mean.2.1 58 = .ok (.aload_n 0, 1) := by decide +kernel
theorem d11_mean_59 : decode m11_mean.2.1 59 = .ok (.getfield 192, 3) := by decide +kernel
theorem d11_mean_62 : decode m11_mean.2.1 62 = .ok (.if_icmp .ge 47, 3) := by decide +kernel
theorem d11_mean_65 : decode m11_mean.2.1 65 = .ok (.lload 4, 2) := by decide +kernel
theorem d11_mean_67 : decode m11_mean.2.1 67 = .ok (.aload_n 0, 1) := by decide +kernel
theorem d11_mean_68 : decode m11_mean.2.1 68 = .ok (.iload 8, 2) := by decide +kernel
theorem d11_mean_70 : decode m11_mean.2.1 70 = .ok (.iload 9, 2) := by decide +kernel
theorem d11_mean_72 : decode m11_mean.2.1 72 = .ok (.iload_n 2, 1) := by decide +kernel
theorem d11_mean_73 : decode m11_mean.2.1 73 = .ok (.invokevirtual 234, 3) := by decide +kernel
theorem d11_mean_76 : decode m11_mean.2.1 76 = .ok (.i2l, 1) := by decide +kernel
theorem d11_mean_77 : decode m11_mean.2.1 77 = .ok (.ladd, 1) := by decide +kernel
theorem d11_mean_78 : decode m11_mean.2.1 78 = .ok (.lstore 4, 2) := by decide +kernel
theorem d11_mean_80 : decode m11_mean.2.1 80 = .ok (.lload 6, 2) := by decide +kernel
theorem d11_mean_82 : decode m11_mean.2.1 82 = .ok (.aload_n 0, 1) := by decide +kernel
theorem d11_mean_83 : decode m11_mean.2.1 83 = .ok (.iload 8, 2) := by decide +kernel
theorem d11_mean_85 : decode m11_mean.2.1 85 = .ok (.iload 9, 2) := by decide +kernel
theorem d11_mean_87 : decode m11_mean.2.1 87 = .ok (.iload_n 2, 1) := by decide +kernel
theorem d11_mean_88 : decode m11_mean.2.1 88 = .ok (.invokevirtual 231, 3) := by decide +kernel
theorem d11_mean_91 : decode m11_mean.2.1 91 = .ok (.iconst (-1), 1) := by decide +kernel
theorem d11_mean_92 : decode m11_mean.2.1 92 = .ok (.if_icmp .ne 7, 3) := by decide +kernel
theorem d11_mean_95 : decode m11_mean.2.1 95 = .ok (.lconst 0, 1) := by decide +kernel
theorem d11_mean_96 : decode m11_mean.2.1 96 = .ok (.goto 4, 3) := by decide +kernel
theorem d11_mean_99 : decode m11_mean.2.1 99 = .ok (.lconst 1, 1) := by decide +kernel
theorem d11_mean_100 : decode m11_mean.2.1 100 = .ok (.ladd, 1) := by decide +kernel
theorem d11_mean_101 : decode m11_mean.2.1 101 = .ok (.lstore 6, 2) := by decide +kernel
theorem d11_mean_103 : decode m11_mean.2.1 103 = .ok (.iinc 9 1, 3) := by decide +kernel
theorem d11_mean_106 : decode m11_mean.2.1 106 = .ok (.goto (-50), 3) := by decide +kernel
theorem d11_mean_109 : decode m11_mean.2.1 109 = .ok (.iinc 8 1, 3) := by decide +kernel
theorem d11_mean_112 : decode m11_mean.2.1 112 = .ok (.goto (-71), 3) := by decide +kernel
theorem d11_mean_115 : decode m11_mean.2.1 115 = .ok (.iload_n 3, 1) := by decide +kernel
theorem d11_mean_116 : decode m11_mean.2.1 116 = .ok (.ifCond .eq 8, 3) := by decide +kernel
theorem d11_mean_119 : decode m11_mean.2.1 119 = .ok (.lload 6, 2) := by decide +kernel
theorem d11_mean_121 : decode m11_mean.2.1 121 = .ok (.goto 5, 3) := by decide +kernel
theorem d11_mean_124 : decode m11_mean.2.1 124 = .ok (.lload 4, 2) := by decide +kernel
theorem d11_mean_126 : decode m11_mean.2.1 126 = .ok (.lload 4, 2) := by decide +kernel
theorem d11_mean_128 : decode m11_mean.2.1 128 = .ok (.lload 6, 2) := by decide +kernel
theorem d11_mean_130 : decode m11_mean.2.1 130 = .ok (.invokestatic 268, 3) := by decide +kernel
theorem d11_mean_133 : decode m11_mean.2.1 133 = .ok (.ldiv, 1) := by decide +kernel
theorem d11_mean_134 : decode m11_mean.2.1 134 = .ok (.lreturn, 1) := by decide +kernel
def b11_mean_100 (rec41 : Int × Int × Int × AH → Option (Int × AH)) (rec56 : Int × Int × Int × AH → Option (Int × AH)) (x2 : Int) (x3 : Int) (x4 : Int) (x8 : Int) (x9 : Int) (s0 : Int) (s1 : Int) (h : AH) : Option (Int × AH) :=
  lt (s1 + s0) fun u1 =>
  rec56 (x4, u1, (x9 + 1), h)
set_option maxRecDepth 100000 in
theorem t11_mean_100 (l : Launch) (G : Geo) (d : Nat) (hd : 5 ≤ d) (x2 : Int) (x3 : Int) (x4 : Int) (x8 : Int) (x9 : Int) (s0 : Int) (s1 : Int) (rec41 : Int × Int × Int × AH → Option (Int × AH)) (H41 : ∀ (x4 : Int) (x6 : Int) (x8 : Int) (h : AH), Den l G m11_mean rvJ d 41 [some (vA G 69), none, some (vI x2), some (vI x3), some (vJ x4), none, some (vJ x6), none, some (vI x8), none] [] h (rec41 (x4, x6, x8, h))) (rec56 : Int × Int × Int × AH → Option (Int × AH)) (H56 : ∀ (x4 : Int) (x6 : Int) (x9 : Int) (h : AH), Den l G m11_mean rvJ d 56 [some (vA G 69), none, some (vI x2), some (vI x3), some (vJ x4), none, some (vJ x6), none, some (vI x8), some (vI x9)] [] h (rec56 (x4, x6, x9, h))) (h : AH) : Den l G m11_mean rvJ d 100 [some (vA G 69), none, some (vI x2), some (vI x3), some (vJ x4), none, none, none, some (vI x8), some (vI x9)] [vJ s0, vJ s1] h (b11_mean_100 rec41 rec56 x2 x3 x4 x8 x9 s0 s1 h) := by
  unfold b11_mean_100
  refine den_ladd (pc := 100) d11_mean_100 ?_
  refine den_lstoreL (pc := 101) (L2 := fun y => [some (vA G 69), none, some (vI x2), some (vI x3), some (vJ x4), none, some (vJ y), none, some (vI x8), some (vI x9)]) d11_mean_101 (by decide) (fun _ => rfl) (fun u1 => ?_)
  refine den_iinc (pc := 103) (L2 := [some (vA G 69), none, some (vI x2), some (vI x3), some (vJ x4), none, some (vJ u1), none, some (vI x8), some (vI (x9 + 1))]) d11_mean_103 (by decide) rfl rfl ?_
  refine den_goto (pc := 106) (tgt := 56) d11_mean_106 (by decide) ?_
  exact H56 x4 u1 (x9 + 1) h
def b11_mean_56 (rec56 : Int × Int × Int × AH → Option (Int × AH)) (rec41 : Int × Int × Int × AH → Option (Int × AH)) (x2 : Int) (x3 : Int) (x8 : Int) (x4 : Int) (x6 : Int) (x9 : Int) (h : AH) : Option (Int × AH) :=
  if w32 (h.2 69 13) ≤ w32 x9 then
    rec41 (x4, x6, (x8 + 1), h)
  else
    bnd (f11_burnsOf x8 x9 x2 h) fun r2 h3 =>
    lt (x4 + (w32 r2)) fun u6 =>
    bnd (f11_apartOf x8 x9 x2 h3) fun r7 h8 =>
    if ¬ w32 r7 = (-1) then
      b11_mean_100 rec41 rec56 x2 x3 u6 x8 x9 1 x6 h8
    else
      b11_mean_100 rec41 rec56 x2 x3 u6 x8 x9 0 x6 h8
set_option maxRecDepth 100000 in
theorem t11_mean_56 (l : Launch) (G : Geo) (d : Nat) (hd : 5 ≤ d) (x2 : Int) (x3 : Int) (x8 : Int) (x4 : Int) (x6 : Int) (x9 : Int) (rec56 : Int × Int × Int × AH → Option (Int × AH)) (H56 : ∀ (x4 : Int) (x6 : Int) (x9 : Int) (h : AH), Den l G m11_mean rvJ d 56 [some (vA G 69), none, some (vI x2), some (vI x3), some (vJ x4), none, some (vJ x6), none, some (vI x8), some (vI x9)] [] h (rec56 (x4, x6, x9, h))) (rec41 : Int × Int × Int × AH → Option (Int × AH)) (H41 : ∀ (x4 : Int) (x6 : Int) (x8 : Int) (h : AH), Den l G m11_mean rvJ d 41 [some (vA G 69), none, some (vI x2), some (vI x3), some (vJ x4), none, some (vJ x6), none, some (vI x8), none] [] h (rec41 (x4, x6, x8, h))) (h : AH) : Den l G m11_mean rvJ d 56 [some (vA G 69), none, some (vI x2), some (vI x3), some (vJ x4), none, some (vJ x6), none, some (vI x8), some (vI x9)] [] h (b11_mean_56 rec56 rec41 x2 x3 x8 x4 x6 x9 h) := by
  unfold b11_mean_56
  refine den_iload (pc := 56) d11_mean_56 rfl ?_
  refine den_aload_n (pc := 58) d11_mean_58 rfl rfl ?_
  refine den_getI (pc := 59) fa_11_192 (ok_69 _) d11_mean_59 ?_
  refine den_icmp_ge (pc := 62) (tgt := 109) d11_mean_62 (by decide) rfl rfl (fun _ => ?_) (fun _ => ?_)
  · refine den_iinc (pc := 109) (L2 := [some (vA G 69), none, some (vI x2), some (vI x3), some (vJ x4), none, some (vJ x6), none, some (vI (x8 + 1)), some (vI x9)]) d11_mean_109 (by decide) rfl rfl ?_
    refine den_goto (pc := 112) (tgt := 41) d11_mean_112 (by decide) ?_
    refine den_wk [true, true, true, true, true, true, true, true, true, false] rfl ?_
    exact H41 x4 x6 (x8 + 1) h
  · refine den_lload (pc := 65) d11_mean_65 rfl ?_
    refine den_aload_n (pc := 67) d11_mean_67 rfl rfl ?_
    refine den_iload (pc := 68) d11_mean_68 rfl ?_
    refine den_iload (pc := 70) d11_mean_70 rfl ?_
    refine den_iload_n (pc := 72) d11_mean_72 rfl rfl ?_
    refine den_callVI (pc := 73) (As := [vI x8, vI x9, vI x2]) fv_11_234 rfl rfl (ok_69 _) (Nat.le_of_ble_eq_true rfl) (Nat.le_trans (by decide) hd) d11_mean_73 (c11_burnsOf l G x8 x9 x2 h) (fun r2 h3 m4 o5 => ?_)
    refine den_i2l (pc := 76) d11_mean_76 ?_
    refine den_ladd (pc := 77) d11_mean_77 ?_
    refine den_lstoreL (pc := 78) (L2 := fun y => [some (vA G 69), none, some (vI x2), some (vI x3), some (vJ y), none, some (vJ x6), none, some (vI x8), some (vI x9)]) d11_mean_78 (by decide) (fun _ => rfl) (fun u6 => ?_)
    refine den_lload (pc := 80) d11_mean_80 rfl ?_
    refine den_aload_n (pc := 82) d11_mean_82 rfl rfl ?_
    refine den_iload (pc := 83) d11_mean_83 rfl ?_
    refine den_iload (pc := 85) d11_mean_85 rfl ?_
    refine den_iload_n (pc := 87) d11_mean_87 rfl rfl ?_
    refine den_callVI (pc := 88) (As := [vI x8, vI x9, vI x2]) fv_11_231 rfl rfl (ok_69 _) (Nat.le_of_ble_eq_true rfl) (Nat.le_trans (by decide) hd) d11_mean_88 (c11_apartOf l G x8 x9 x2 h3) (fun r7 h8 m9 o10 => ?_)
    refine den_iconst (pc := 91) d11_mean_91 ?_
    refine den_icmp_ne (pc := 92) (tgt := 99) d11_mean_92 (by decide) rfl (by decide) (fun _ => ?_) (fun _ => ?_)
    · refine den_lconst (pc := 99) (x := 1) d11_mean_99 (by decide) ?_
      refine den_wk [true, true, true, true, true, true, false, true, true, true] rfl ?_
      exact t11_mean_100 l G _ hd x2 x3 u6 x8 x9 1 x6 rec41 H41 rec56 H56 h8
    · refine den_lconst (pc := 95) (x := 0) d11_mean_95 (by decide) ?_
      refine den_goto (pc := 96) (tgt := 100) d11_mean_96 (by decide) ?_
      refine den_wk [true, true, true, true, true, true, false, true, true, true] rfl ?_
      exact t11_mean_100 l G _ hd x2 x3 u6 x8 x9 0 x6 rec41 H41 rec56 H56 h8
def l11_mean_56 (rec41 : Int × Int × Int × AH → Option (Int × AH)) (x2 : Int) (x3 : Int) (x8 : Int) (x4 : Int) (x6 : Int) (x9 : Int) (h : AH) : Option (Int × AH) := fx (fun rec z => b11_mean_56 rec rec41 x2 x3 x8 z.1 z.2.1 z.2.2.1 z.2.2.2) FU (x4, x6, x9, h)
set_option maxRecDepth 100000 in
theorem tl11_mean_56 (l : Launch) (G : Geo) (d : Nat) (hd : 5 ≤ d) (x2 : Int) (x3 : Int) (x8 : Int) (rec41 : Int × Int × Int × AH → Option (Int × AH)) (H41 : ∀ (x4 : Int) (x6 : Int) (x8 : Int) (h : AH), Den l G m11_mean rvJ d 41 [some (vA G 69), none, some (vI x2), some (vI x3), some (vJ x4), none, some (vJ x6), none, some (vI x8), none] [] h (rec41 (x4, x6, x8, h))) : ∀ (n : Nat) (z : Int × Int × Int × AH), True → Den l G m11_mean rvJ d 56 [some (vA G 69), none, some (vI x2), some (vI x3), some (vJ z.1), none, some (vJ z.2.1), none, some (vI x8), some (vI z.2.2.1)] [] z.2.2.2 (fx (fun rec z => b11_mean_56 rec rec41 x2 x3 x8 z.1 z.2.1 z.2.2.1 z.2.2.2) n z) :=
  den_fx (F := fun rec z => b11_mean_56 rec rec41 x2 x3 x8 z.1 z.2.1 z.2.2.1 z.2.2.2) (P := fun z => True) (fL := fun z => [some (vA G 69), none, some (vI x2), some (vI x3), some (vJ z.1), none, some (vJ z.2.1), none, some (vI x8), some (vI z.2.2.1)]) (fs := fun z => []) (fh := fun z => z.2.2.2) (fun rec hrec z hz => t11_mean_56 l G d hd x2 x3 x8 z.1 z.2.1 z.2.2.1 rec (fun x4 x6 x9 h => hrec (x4, x6, x9, h) trivial) rec41 H41 z.2.2.2 )
def b11_mean_126 (x4 : Int) (x6 : Int) (s0 : Int) (h : AH) : Option (Int × AH) :=
  bnd (f11_common x4 x6 h) fun r11 h12 =>
  asrt (¬ w64 r11 = 0) <|
  some (dv64 s0 r11, h12)
set_option maxRecDepth 100000 in
theorem t11_mean_126 (l : Launch) (G : Geo) (d : Nat) (hd : 5 ≤ d) (x4 : Int) (x6 : Int) (s0 : Int) (h : AH) : Den l G m11_mean rvJ d 126 [none, none, none, none, some (vJ x4), none, some (vJ x6), none, none, none] [vJ s0] h (b11_mean_126 x4 x6 s0 h) := by
  unfold b11_mean_126
  refine den_lload (pc := 126) d11_mean_126 rfl ?_
  refine den_lload (pc := 128) d11_mean_128 rfl ?_
  refine den_callSJ (pc := 130) (As := [vJ x4, vJ x6]) fs_11_268 rfl rfl (Nat.le_of_ble_eq_true rfl) (Nat.le_trans (by decide) hd) d11_mean_130 (c11_common l G x4 x6 h) (fun r11 h12 m13 o14 => ?_)
  refine den_asrt (fun a15 => ?_)
  refine den_ldiv (pc := 133) d11_mean_133 a15 ?_
  exact den_lret (pc := 134) rfl d11_mean_134
def b11_mean_41 (rec41 : Int × Int × Int × AH → Option (Int × AH)) (x2 : Int) (x3 : Int) (x4 : Int) (x6 : Int) (x8 : Int) (h : AH) : Option (Int × AH) :=
  if w32 (h.2 69 13) ≤ w32 x8 then
    if w32 x3 = 0 then
      b11_mean_126 x4 x6 x4 h
    else
      b11_mean_126 x4 x6 x6 h
  else
    lt (x8 + 1) fun u16 =>
    l11_mean_56 rec41 x2 x3 x8 x4 x6 u16 h
set_option maxRecDepth 100000 in
theorem t11_mean_41 (l : Launch) (G : Geo) (d : Nat) (hd : 5 ≤ d) (x2 : Int) (x3 : Int) (x4 : Int) (x6 : Int) (x8 : Int) (rec41 : Int × Int × Int × AH → Option (Int × AH)) (H41 : ∀ (x4 : Int) (x6 : Int) (x8 : Int) (h : AH), Den l G m11_mean rvJ d 41 [some (vA G 69), none, some (vI x2), some (vI x3), some (vJ x4), none, some (vJ x6), none, some (vI x8), none] [] h (rec41 (x4, x6, x8, h))) (h : AH) : Den l G m11_mean rvJ d 41 [some (vA G 69), none, some (vI x2), some (vI x3), some (vJ x4), none, some (vJ x6), none, some (vI x8), none] [] h (b11_mean_41 rec41 x2 x3 x4 x6 x8 h) := by
  unfold b11_mean_41
  refine den_iload (pc := 41) d11_mean_41 rfl ?_
  refine den_aload_n (pc := 43) d11_mean_43 rfl rfl ?_
  refine den_getI (pc := 44) fa_11_192 (ok_69 _) d11_mean_44 ?_
  refine den_icmp_ge (pc := 47) (tgt := 115) d11_mean_47 (by decide) rfl rfl (fun _ => ?_) (fun _ => ?_)
  · refine den_iload_n (pc := 115) d11_mean_115 rfl rfl ?_
    refine den_if_eq (pc := 116) (tgt := 124) d11_mean_116 (by decide) rfl (fun _ => ?_) (fun _ => ?_)
    · refine den_lload (pc := 124) d11_mean_124 rfl ?_
      refine den_wk [false, true, false, false, true, true, true, true, false, true] rfl ?_
      exact t11_mean_126 l G _ hd x4 x6 x4 h
    · refine den_lload (pc := 119) d11_mean_119 rfl ?_
      refine den_goto (pc := 121) (tgt := 126) d11_mean_121 (by decide) ?_
      refine den_wk [false, true, false, false, true, true, true, true, false, true] rfl ?_
      exact t11_mean_126 l G _ hd x4 x6 x6 h
  · refine den_iload (pc := 50) d11_mean_50 rfl ?_
    refine den_iconst (pc := 52) d11_mean_52 ?_
    refine den_iadd (pc := 53) d11_mean_53 ?_
    refine den_istoreL (pc := 54) (L2 := fun y => [some (vA G 69), none, some (vI x2), some (vI x3), some (vJ x4), none, some (vJ x6), none, some (vI x8), some (vI y)]) d11_mean_54 (by decide) (fun _ => rfl) (fun u16 => ?_)
    exact tl11_mean_56 l G _ hd x2 x3 x8 rec41 H41 FU (x4, x6, u16, h) trivial
def l11_mean_41 (x2 : Int) (x3 : Int) (x4 : Int) (x6 : Int) (x8 : Int) (h : AH) : Option (Int × AH) := fx (fun rec z => b11_mean_41 rec x2 x3 z.1 z.2.1 z.2.2.1 z.2.2.2) FU (x4, x6, x8, h)
set_option maxRecDepth 100000 in
theorem tl11_mean_41 (l : Launch) (G : Geo) (d : Nat) (hd : 5 ≤ d) (x2 : Int) (x3 : Int) : ∀ (n : Nat) (z : Int × Int × Int × AH), True → Den l G m11_mean rvJ d 41 [some (vA G 69), none, some (vI x2), some (vI x3), some (vJ z.1), none, some (vJ z.2.1), none, some (vI z.2.2.1), none] [] z.2.2.2 (fx (fun rec z => b11_mean_41 rec x2 x3 z.1 z.2.1 z.2.2.1 z.2.2.2) n z) :=
  den_fx (F := fun rec z => b11_mean_41 rec x2 x3 z.1 z.2.1 z.2.2.1 z.2.2.2) (P := fun z => True) (fL := fun z => [some (vA G 69), none, some (vI x2), some (vI x3), some (vJ z.1), none, some (vJ z.2.1), none, some (vI z.2.2.1), none]) (fs := fun z => []) (fh := fun z => z.2.2.2) (fun rec hrec z hz => t11_mean_41 l G d hd x2 x3 z.1 z.2.1 z.2.2.1 rec (fun x4 x6 x8 h => hrec (x4, x6, x8, h) trivial) z.2.2.2 )
def f11_mean (x1 : Int) (x2 : Int) (x3 : Int) (h : AH) : Option (Int × AH) :=
  bnd (f11_isVillage x1 h) fun r17 h18 =>
  if w32 r17 = 0 then
    some ((-1), h18)
  else
    bnd (f11_isSubject x2 h18) fun r21 h22 =>
    if w32 r21 = 0 then
      some ((-1), h22)
    else
      bnd (f11_holdersOf x2 0 9 h22) fun r25 h26 =>
      if 2 ≤ w32 r25 then
        l11_mean_41 x2 x3 0 0 0 h26
      else
        some ((-1), h26)
set_option maxRecDepth 100000 in
theorem c11_mean (l : Launch) (G : Geo) (x1 : Int) (x2 : Int) (x3 : Int) (h : AH) : Con l G m11_mean rvJ 5 [vA G 69, vI x1, vI x2, vI x3] h (f11_mean x1 x2 x3 h) := by
  have hd : 5 ≤ 5 := Nat.le_refl _
  refine con_J rfl (by decide) rfl rfl (Nat.le_of_ble_eq_true rfl) (L := [some (vA G 69), some (vI x1), some (vI x2), some (vI x3), none, none, none, none, none, none]) ?_
  unfold f11_mean
  refine den_aload_n (pc := 0) d11_mean_0 rfl rfl ?_
  refine den_iload_n (pc := 1) d11_mean_1 rfl rfl ?_
  refine den_callVI (pc := 2) (As := [vI x1]) fv_11_201 rfl rfl (ok_69 _) (Nat.le_of_ble_eq_true rfl) (Nat.le_trans (by decide) hd) d11_mean_2 (c11_isVillage l G x1 h) (fun r17 h18 m19 o20 => ?_)
  refine den_if_eq (pc := 5) (tgt := 28) d11_mean_5 (by decide) rfl (fun _ => ?_) (fun _ => ?_)
  · refine den_ldc2 (pc := 28) kl_11_260 d11_mean_28 ?_
    exact den_lret (pc := 31) rfl d11_mean_31
  · refine den_aload_n (pc := 8) d11_mean_8 rfl rfl ?_
    refine den_iload_n (pc := 9) d11_mean_9 rfl rfl ?_
    refine den_callVI (pc := 10) (As := [vI x2]) fv_11_207 rfl rfl (ok_69 _) (Nat.le_of_ble_eq_true rfl) (Nat.le_trans (by decide) hd) d11_mean_10 (c11_isSubject l G x2 h18) (fun r21 h22 m23 o24 => ?_)
    refine den_if_eq (pc := 13) (tgt := 28) d11_mean_13 (by decide) rfl (fun _ => ?_) (fun _ => ?_)
    · refine den_ldc2 (pc := 28) kl_11_260 d11_mean_28 ?_
      exact den_lret (pc := 31) rfl d11_mean_31
    · refine den_aload_n (pc := 16) d11_mean_16 rfl rfl ?_
      refine den_iload_n (pc := 17) d11_mean_17 rfl rfl ?_
      refine den_iconst (pc := 18) d11_mean_18 ?_
      refine den_bipush (pc := 19) d11_mean_19 (by decide) ?_
      refine den_callVI (pc := 21) (As := [vI x2, vI 0, vI 9]) fv_11_283 rfl rfl (ok_69 _) (Nat.le_of_ble_eq_true rfl) (Nat.le_trans (by decide) hd) d11_mean_21 (c11_holdersOf l G x2 0 9 h22) (fun r25 h26 m27 o28 => ?_)
      refine den_iconst (pc := 24) d11_mean_24 ?_
      refine den_icmp_ge (pc := 25) (tgt := 32) d11_mean_25 (by decide) rfl (by decide) (fun _ => ?_) (fun _ => ?_)
      · refine den_lconst (pc := 32) (x := 0) d11_mean_32 (by decide) ?_
        refine den_lstore (pc := 33) (L2 := [some (vA G 69), some (vI x1), some (vI x2), some (vI x3), some (vJ 0), none, none, none, none, none]) d11_mean_33 (by decide) rfl ?_
        refine den_lconst (pc := 35) (x := 0) d11_mean_35 (by decide) ?_
        refine den_lstore (pc := 36) (L2 := [some (vA G 69), some (vI x1), some (vI x2), some (vI x3), some (vJ 0), none, some (vJ 0), none, none, none]) d11_mean_36 (by decide) rfl ?_
        refine den_iconst (pc := 38) d11_mean_38 ?_
        refine den_istore (pc := 39) (L2 := [some (vA G 69), some (vI x1), some (vI x2), some (vI x3), some (vJ 0), none, some (vJ 0), none, some (vI 0), none]) d11_mean_39 (by decide) rfl ?_
        refine den_wk [true, false, true, true, true, true, true, true, true, true] rfl ?_
        exact tl11_mean_41 l G _ hd x2 x3 FU (0, 0, 0, h26) trivial
      · refine den_ldc2 (pc := 28) kl_11_260 d11_mean_28 ?_
        exact den_lret (pc := 31) rfl d11_mean_31
