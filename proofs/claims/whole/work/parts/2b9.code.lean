/-! 11_farthest 11_burnsBy 11_areApart 11_fillsOf 11_filled 11_keenOf 11_halves 11_isApart -/
theorem d11_farthest_0 : decode m11_farthest.2.1 0 = .ok (.aload_n 0, 1) := by decide +kernel
theorem d11_farthest_1 : decode m11_farthest.2.1 1 = .ok (.iload_n 1, 1) := by decide +kernel
theorem d11_farthest_2 : decode m11_farthest.2.1 2 = .ok (.invokevirtual 201, 3) := by decide +kernel
theorem d11_farthest_5 : decode m11_farthest.2.1 5 = .ok (.ifCond .eq 11, 3) := by decide +kernel
theorem d11_farthest_8 : decode m11_farthest.2.1 8 = .ok (.aload_n 0, 1) := by decide +kernel
theorem d11_farthest_9 : decode m11_farthest.2.1 9 = .ok (.iload_n 2, 1) := by decide +kernel
theorem d11_farthest_10 : decode m11_farthest.2.1 10 = .ok (.invokevirtual 207, 3) := by decide +kernel
theorem d11_farthest_13 : decode m11_farthest.2.1 13 = .ok (.ifCond .ne 5, 3) := by decide +kernel
theorem d11_farthest_16 : decode m11_farthest.2.1 16 = .ok (.iconst (-1), 1) := by decide +kernel
theorem d11_farthest_17 : decode m11_farthest.2.1 17 = .ok (.ireturn, 1) := by decide +kernel
theorem d11_farthest_18 : decode m11_farthest.2.1 18 = .ok (.iconst (-1), 1) := by decide +kernel
theorem d11_farthest_19 : decode m11_farthest.2.1 19 = .ok (.istore 4, 2) := by decide +kernel
theorem d11_farthest_21 : decode m11_farthest.2.1 21 = .ok (.iconst (-1), 1) := by decide +kernel
theorem d11_farthest_22 : decode m11_farthest.2.1 22 = .ok (.istore 5, 2) := by decide +kernel
theorem d11_farthest_24 : decode m11_farthest.2.1 24 = .ok (.iconst 0, 1) := by decide +kernel
theorem d11_farthest_25 : decode m11_farthest.2.1 25 = .ok (.istore 6, 2) := by decide +kernel
theorem d11_farthest_27 : decode m11_farthest.2.1 27 = .ok (.iload 6, 2) := by decide +kernel
theorem d11_farthest_29 : decode m11_farthest.2.1 29 = .ok (.aload_n 0, 1) := by decide +kernel
theorem d11_farthest_30 : decode m11_farthest.2.1 30 = .ok (.getfield 192, 3) := by decide +kernel
theorem d11_farthest_33 : decode m11_farthest.2.1 33 = .ok (.if_icmp .ge 68, 3) := by decide +kernel
theorem d11_farthest_36 : decode m11_farthest.2.1 36 = .ok (.iload 6, 2) := by decide +kernel
theorem d11_farthest_38 : decode m11_farthest.2.1 38 = .ok (.iconst 1, 1) := by decide +kernel
theorem d11_farthest_39 : decode m11_farthest.2.1 39 = .ok (.iadd, 1) := by decide +kernel
theorem d11_farthest_40 : decode m11_farthest.2.1 40 = .ok (.istore 7, 2) := by decide +kernel
theorem d11_farthest_42 : decode m11_farthest.2.1 42 = .ok (.iload 7, 2) := by decide +kernel
theorem d11_farthest_44 : decode m11_farthest.2.1 44 = .ok (.aload_n 0, 1) := by decide +kernel
theorem d11_farthest_45 : decode m11_farthest.2.1 45 = .ok (.getfield 192, 3) := by decide +kernel
theorem d11_farthest_48 : decode m11_farthest.2.1 48 = .ok (.if_icmp .ge 47, 3) := by decide +kernel
theorem d11_farthest_51 : decode m11_farthest.2.1 51 = .ok (.aload_n 0, 1) := by decide +kernel
theorem d11_farthest_52 : decode m11_farthest.2.1 52 = .ok (.iload 6, 2) := by decide +kernel
theorem d11_farthest_54 : decode m11_farthest.2.1 54 = .ok (.iload 7, 2) := by decide +kernel
theorem d11_farthest_56 : decode m11_farthest.2.1 56 = .ok (.iload_n 2, 1) := by decide +kernel
theorem d11_farthest_57 : decode m11_farthest.2.1 57 = .ok (.invokevirtual 231, 3) := by decide +kernel
theorem d11_farthest_60 : decode m11_farthest.2.1 60 = .ok (.iload 5, 2) := by decide +kernel
theorem d11_farthest_62 : decode m11_farthest.2.1 62 = .ok (.if_icmp .gt 6, 3) := by decide +kernel
theorem d11_farthest_65 : decode m11_farthest.2.1 65 = .ok (.goto 24, 3) := by decide +kernel
theorem d11_farthest_68 : decode m11_farthest.2.1 68 = .ok (.aload_n 0, 1) := by decide +kernel
theorem d11_farthest_69 : decode m11_farthest.2.1 69 = .ok (.iload 6, 2) := by decide +kernel
theorem d11_farthest_71 : decode m11_farthest.2.1 71 = .ok (.iload 7, 2) := by decide +kernel
theorem d11_farthest_73 : decode m11_farthest.2.1 73 = .ok (.iload_n 2, 1) := by decide +kernel
theorem d11_farthest_74 : decode m11_farthest.2.1 74 = .ok (.invokevirtual 231, 3) := by decide +kernel
theorem d11_farthest_77 : decode m11_farthest.2.1 77 = .ok (.istore 5, 2) := by decide +kernel
theorem d11_farthest_79 : decode m11_farthest.2.1 79 = .ok (.bipush 10, 2) := by decide +kernel
theorem d11_farthest_81 : decode m11_farthest.2.1 81 = .ok (.iload 6, 2) := by decide +kernel
theorem d11_farthest_83 : decode m11_farthest.2.1 83 = .ok (.imul, 1) := by decide +kernel
theorem d11_farthest_84 : decode m11_farthest.2.1 84 = .ok (.iload 7, 2) := by decide +kernel
theorem d11_farthest_86 : decode m11_farthest.2.1 86 = .ok (.iadd, 1) := by decide +kernel
theorem d11_farthest_87 : decode m11_farthest.2.1 87 = .ok (.istore 4, 2) := by decide +kernel
theorem d11_farthest_89 : decode m11_farthest.2.1 89 = .ok (.iinc 7 1, 3) := by decide +kernel
theorem d11_farthest_92 : decode m11_farthest.2.1 92 = .ok (.goto (-50), 3) := by decide +kernel
theorem d11_farthest_95 : decode m11_farthest.2.1 95 = .ok (.iinc 6 1, 3) := by decide +kernel
theorem d11_farthest_98 : decode m11_farthest.2.1 98 = .ok (.goto (-71), 3) := by decide +kernel
theorem d11_farthest_101 : decode m11_farthest.2.1 101 = .ok (.iload_n 3, 1) := by decide +kernel
theorem d11_farthest_102 : decode m11_farthest.2.1 102 = .ok (.ifCond .eq 8, 3) := by decide +kernel
theorem d11_farthest_105 : decode m11_farthest.2.1 105 = .ok (.iload 5, 2) := by decide +kernel
theorem d11_farthest_107 : decode m11_farthest.2.1 107 = .ok (.goto 5, 3) := by decide +kernel
theorem d11_farthest_110 : decode m11_farthest.2.1 110 = .ok (.iload 4, 2) := by decide +kernel
theorem d11_farthest_112 : decode m11_farthest.2.1 112 = .ok (.ireturn, 1) := by decide +kernel
def b11_farthest_89 (rec27 : Int × Int × Int × AH → Option (Int × AH)) (rec42 : Int × Int × Int × AH → Option (Int × AH)) (x2 : Int) (x3 : Int) (x4 : Int) (x5 : Int) (x6 : Int) (x7 : Int) (h : AH) : Option (Int × AH) :=
  rec42 (x4, x5, (x7 + 1), h)
set_option maxRecDepth 100000 in
theorem t11_farthest_89 (l : Launch) (G : Geo) (d : Nat) (hd : 5 ≤ d) (x2 : Int) (x3 : Int) (x4 : Int) (x5 : Int) (x6 : Int) (x7 : Int) (rec27 : Int × Int × Int × AH → Option (Int × AH)) (H27 : ∀ (x4 : Int) (x5 : Int) (x6 : Int) (h : AH), Den l G m11_farthest rvI d 27 [some (vA G 69), none, some (vI x2), some (vI x3), some (vI x4), some (vI x5), some (vI x6), none] [] h (rec27 (x4, x5, x6, h))) (rec42 : Int × Int × Int × AH → Option (Int × AH)) (H42 : ∀ (x4 : Int) (x5 : Int) (x7 : Int) (h : AH), Den l G m11_farthest rvI d 42 [some (vA G 69), none, some (vI x2), some (vI x3), some (vI x4), some (vI x5), some (vI x6), some (vI x7)] [] h (rec42 (x4, x5, x7, h))) (h : AH) : Den l G m11_farthest rvI d 89 [some (vA G 69), none, some (vI x2), some (vI x3), some (vI x4), some (vI x5), some (vI x6), some (vI x7)] [] h (b11_farthest_89 rec27 rec42 x2 x3 x4 x5 x6 x7 h) := by
  unfold b11_farthest_89
  refine den_iinc (pc := 89) (L2 := [some (vA G 69), none, some (vI x2), some (vI x3), some (vI x4), some (vI x5), some (vI x6), some (vI (x7 + 1))]) d11_farthest_89 (by decide) rfl rfl ?_
  refine den_goto (pc := 92) (tgt := 42) d11_farthest_92 (by decide) ?_
  exact H42 x4 x5 (x7 + 1) h
def b11_farthest_42 (rec42 : Int × Int × Int × AH → Option (Int × AH)) (rec27 : Int × Int × Int × AH → Option (Int × AH)) (x2 : Int) (x3 : Int) (x6 : Int) (x4 : Int) (x5 : Int) (x7 : Int) (h : AH) : Option (Int × AH) :=
  if w32 (h.2 69 13) ≤ w32 x7 then
    rec27 (x4, x5, (x6 + 1), h)
  else
    bnd (f11_apartOf x6 x7 x2 h) fun r1 h2 =>
    if w32 x5 < w32 r1 then
      bnd (f11_apartOf x6 x7 x2 h2) fun r5 h6 =>
      lt ((10 * x6) + x7) fun u9 =>
      b11_farthest_89 rec27 rec42 x2 x3 u9 r5 x6 x7 h6
    else
      b11_farthest_89 rec27 rec42 x2 x3 x4 x5 x6 x7 h2
set_option maxRecDepth 100000 in
theorem t11_farthest_42 (l : Launch) (G : Geo) (d : Nat) (hd : 5 ≤ d) (x2 : Int) (x3 : Int) (x6 : Int) (x4 : Int) (x5 : Int) (x7 : Int) (rec42 : Int × Int × Int × AH → Option (Int × AH)) (H42 : ∀ (x4 : Int) (x5 : Int) (x7 : Int) (h : AH), Den l G m11_farthest rvI d 42 [some (vA G 69), none, some (vI x2), some (vI x3), some (vI x4), some (vI x5), some (vI x6), some (vI x7)] [] h (rec42 (x4, x5, x7, h))) (rec27 : Int × Int × Int × AH → Option (Int × AH)) (H27 : ∀ (x4 : Int) (x5 : Int) (x6 : Int) (h : AH), Den l G m11_farthest rvI d 27 [some (vA G 69), none, some (vI x2), some (vI x3), some (vI x4), some (vI x5), some (vI x6), none] [] h (rec27 (x4, x5, x6, h))) (h : AH) : Den l G m11_farthest rvI d 42 [some (vA G 69), none, some (vI x2), some (vI x3), some (vI x4), some (vI x5), some (vI x6), some (vI x7)] [] h (b11_farthest_42 rec42 rec27 x2 x3 x6 x4 x5 x7 h) := by
  unfold b11_farthest_42
  refine den_iload (pc := 42) d11_farthest_42 rfl ?_
  refine den_aload_n (pc := 44) d11_farthest_44 rfl rfl ?_
  refine den_getI (pc := 45) fa_11_192 (ok_69 _) d11_farthest_45 ?_
  refine den_icmp_ge (pc := 48) (tgt := 95) d11_farthest_48 (by decide) rfl rfl (fun _ => ?_) (fun _ => ?_)
  · refine den_iinc (pc := 95) (L2 := [some (vA G 69), none, some (vI x2), some (vI x3), some (vI x4), some (vI x5), some (vI (x6 + 1)), some (vI x7)]) d11_farthest_95 (by decide) rfl rfl ?_
    refine den_goto (pc := 98) (tgt := 27) d11_farthest_98 (by decide) ?_
    refine den_wk [true, true, true, true, true, true, true, false] rfl ?_
    exact H27 x4 x5 (x6 + 1) h
  · refine den_aload_n (pc := 51) d11_farthest_51 rfl rfl ?_
    refine den_iload (pc := 52) d11_farthest_52 rfl ?_
    refine den_iload (pc := 54) d11_farthest_54 rfl ?_
    refine den_iload_n (pc := 56) d11_farthest_56 rfl rfl ?_
    refine den_callVI (pc := 57) (As := [vI x6, vI x7, vI x2]) fv_11_231 rfl rfl (ok_69 _) (Nat.le_of_ble_eq_true rfl) (Nat.le_trans (by decide) hd) d11_farthest_57 (c11_apartOf l G x6 x7 x2 h) (fun r1 h2 m3 o4 => ?_)
    refine den_iload (pc := 60) d11_farthest_60 rfl ?_
    refine den_icmp_gt (pc := 62) (tgt := 68) d11_farthest_62 (by decide) rfl rfl (fun _ => ?_) (fun _ => ?_)
    · refine den_aload_n (pc := 68) d11_farthest_68 rfl rfl ?_
      refine den_iload (pc := 69) d11_farthest_69 rfl ?_
      refine den_iload (pc := 71) d11_farthest_71 rfl ?_
      refine den_iload_n (pc := 73) d11_farthest_73 rfl rfl ?_
      refine den_callVI (pc := 74) (As := [vI x6, vI x7, vI x2]) fv_11_231 rfl rfl (ok_69 _) (Nat.le_of_ble_eq_true rfl) (Nat.le_trans (by decide) hd) d11_farthest_74 (c11_apartOf l G x6 x7 x2 h2) (fun r5 h6 m7 o8 => ?_)
      refine den_istore (pc := 77) (L2 := [some (vA G 69), none, some (vI x2), some (vI x3), some (vI x4), some (vI r5), some (vI x6), some (vI x7)]) d11_farthest_77 (by decide) rfl ?_
      refine den_bipush (pc := 79) d11_farthest_79 (by decide) ?_
      refine den_iload (pc := 81) d11_farthest_81 rfl ?_
      refine den_imul (pc := 83) d11_farthest_83 ?_
      refine den_iload (pc := 84) d11_farthest_84 rfl ?_
      refine den_iadd (pc := 86) d11_farthest_86 ?_
      refine den_istoreL (pc := 87) (L2 := fun y => [some (vA G 69), none, some (vI x2), some (vI x3), some (vI y), some (vI r5), some (vI x6), some (vI x7)]) d11_farthest_87 (by decide) (fun _ => rfl) (fun u9 => ?_)
      exact t11_farthest_89 l G _ hd x2 x3 u9 r5 x6 x7 rec27 H27 rec42 H42 h6
    · refine den_goto (pc := 65) (tgt := 89) d11_farthest_65 (by decide) ?_
      exact t11_farthest_89 l G _ hd x2 x3 x4 x5 x6 x7 rec27 H27 rec42 H42 h2
def l11_farthest_42 (rec27 : Int × Int × Int × AH → Option (Int × AH)) (x2 : Int) (x3 : Int) (x6 : Int) (x4 : Int) (x5 : Int) (x7 : Int) (h : AH) : Option (Int × AH) := fx (fun rec z => b11_farthest_42 rec rec27 x2 x3 x6 z.1 z.2.1 z.2.2.1 z.2.2.2) FU (x4, x5, x7, h)
set_option maxRecDepth 100000 in
theorem tl11_farthest_42 (l : Launch) (G : Geo) (d : Nat) (hd : 5 ≤ d) (x2 : Int) (x3 : Int) (x6 : Int) (rec27 : Int × Int × Int × AH → Option (Int × AH)) (H27 : ∀ (x4 : Int) (x5 : Int) (x6 : Int) (h : AH), Den l G m11_farthest rvI d 27 [some (vA G 69), none, some (vI x2), some (vI x3), some (vI x4), some (vI x5), some (vI x6), none] [] h (rec27 (x4, x5, x6, h))) : ∀ (n : Nat) (z : Int × Int × Int × AH), True → Den l G m11_farthest rvI d 42 [some (vA G 69), none, some (vI x2), some (vI x3), some (vI z.1), some (vI z.2.1), some (vI x6), some (vI z.2.2.1)] [] z.2.2.2 (fx (fun rec z => b11_farthest_42 rec rec27 x2 x3 x6 z.1 z.2.1 z.2.2.1 z.2.2.2) n z) :=
  den_fx (F := fun rec z => b11_farthest_42 rec rec27 x2 x3 x6 z.1 z.2.1 z.2.2.1 z.2.2.2) (P := fun z => True) (fL := fun z => [some (vA G 69), none, some (vI x2), some (vI x3), some (vI z.1), some (vI z.2.1), some (vI x6), some (vI z.2.2.1)]) (fs := fun z => []) (fh := fun z => z.2.2.2) (fun rec hrec z hz => t11_farthest_42 l G d hd x2 x3 x6 z.1 z.2.1 z.2.2.1 rec (fun x4 x5 x7 h => hrec (x4, x5, x7, h) trivial) rec27 H27 z.2.2.2 )
def b11_farthest_27 (rec27 : Int × Int × Int × AH → Option (Int × AH)) (x2 : Int) (x3 : Int) (x4 : Int) (x5 : Int) (x6 : Int) (h : AH) : Option (Int × AH) :=
  if w32 (h.2 69 13) ≤ w32 x6 then
    if w32 x3 = 0 then
      some (x4, h)
    else
      some (x5, h)
  else
    lt (x6 + 1) fun u10 =>
    l11_farthest_42 rec27 x2 x3 x6 x4 x5 u10 h
set_option maxRecDepth 100000 in
theorem t11_farthest_27 (l : Launch) (G : Geo) (d : Nat) (hd : 5 ≤ d) (x2 : Int) (x3 : Int) (x4 : Int) (x5 : Int) (x6 : Int) (rec27 : Int × Int × Int × AH → Option (Int × AH)) (H27 : ∀ (x4 : Int) (x5 : Int) (x6 : Int) (h : AH), Den l G m11_farthest rvI d 27 [some (vA G 69), none, some (vI x2), some (vI x3), some (vI x4), some (vI x5), some (vI x6), none] [] h (rec27 (x4, x5, x6, h))) (h : AH) : Den l G m11_farthest rvI d 27 [some (vA G 69), none, some (vI x2), some (vI x3), some (vI x4), some (vI x5), some (vI x6), none] [] h (b11_farthest_27 rec27 x2 x3 x4 x5 x6 h) := by
  unfold b11_farthest_27
  refine den_iload (pc := 27) d11_farthest_27 rfl ?_
  refine den_aload_n (pc := 29) d11_farthest_29 rfl rfl ?_
  refine den_getI (pc := 30) fa_11_192 (ok_69 _) d11_farthest_30 ?_
  refine den_icmp_ge (pc := 33) (tgt := 101) d11_farthest_33 (by decide) rfl rfl (fun _ => ?_) (fun _ => ?_)
  · refine den_iload_n (pc := 101) d11_farthest_101 rfl rfl ?_
    refine den_if_eq (pc := 102) (tgt := 110) d11_farthest_102 (by decide) rfl (fun _ => ?_) (fun _ => ?_)
    · refine den_iload (pc := 110) d11_farthest_110 rfl ?_
      exact den_iret (pc := 112) rfl d11_farthest_112
    · refine den_iload (pc := 105) d11_farthest_105 rfl ?_
      refine den_goto (pc := 107) (tgt := 112) d11_farthest_107 (by decide) ?_
      exact den_iret (pc := 112) rfl d11_farthest_112
  · refine den_iload (pc := 36) d11_farthest_36 rfl ?_
    refine den_iconst (pc := 38) d11_farthest_38 ?_
    refine den_iadd (pc := 39) d11_farthest_39 ?_
    refine den_istoreL (pc := 40) (L2 := fun y => [some (vA G 69), none, some (vI x2), some (vI x3), some (vI x4), some (vI x5), some (vI x6), some (vI y)]) d11_farthest_40 (by decide) (fun _ => rfl) (fun u10 => ?_)
    exact tl11_farthest_42 l G _ hd x2 x3 x6 rec27 H27 FU (x4, x5, u10, h) trivial
def l11_farthest_27 (x2 : Int) (x3 : Int) (x4 : Int) (x5 : Int) (x6 : Int) (h : AH) : Option (Int × AH) := fx (fun rec z => b11_farthest_27 rec x2 x3 z.1 z.2.1 z.2.2.1 z.2.2.2) FU (x4, x5, x6, h)
set_option maxRecDepth 100000 in
theorem tl11_farthest_27 (l : Launch) (G : Geo) (d : Nat) (hd : 5 ≤ d) (x2 : Int) (x3 : Int) : ∀ (n : Nat) (z : Int × Int × Int × AH), True → Den l G m11_farthest rvI d 27 [some (vA G 69), none, some (vI x2), some (vI x3), some (vI z.1), some (vI z.2.1), some (vI z.2.2.1), none] [] z.2.2.2 (fx (fun rec z => b11_farthest_27 rec x2 x3 z.1 z.2.1 z.2.2.1 z.2.2.2) n z) :=
  den_fx (F := fun rec z => b11_farthest_27 rec x2 x3 z.1 z.2.1 z.2.2.1 z.2.2.2) (P := fun z => True) (fL := fun z => [some (vA G 69), none, some (vI x2), some (vI x3), some (vI z.1), some (vI z.2.1), some (vI z.2.2.1), none]) (fs := fun z => []) (fh := fun z => z.2.2.2) (fun rec hrec z hz => t11_farthest_27 l G d hd x2 x3 z.1 z.2.1 z.2.2.1 rec (fun x4 x5 x6 h => hrec (x4, x5, x6, h) trivial) z.2.2.2 )
def f11_farthest (x1 : Int) (x2 : Int) (x3 : Int) (h : AH) : Option (Int × AH) :=
  bnd (f11_isVillage x1 h) fun r11 h12 =>
  if w32 r11 = 0 then
    some ((-1), h12)
  else
    bnd (f11_isSubject x2 h12) fun r15 h16 =>
    if ¬ w32 r15 = 0 then
      l11_farthest_27 x2 x3 (-1) (-1) 0 h16
    else
      some ((-1), h16)
set_option maxRecDepth 100000 in
theorem c11_farthest (l : Launch) (G : Geo) (x1 : Int) (x2 : Int) (x3 : Int) (h : AH) : Con l G m11_farthest rvI 5 [vA G 69, vI x1, vI x2, vI x3] h (f11_farthest x1 x2 x3 h) := by
  have hd : 5 ≤ 5 := Nat.le_refl _
  refine con_I rfl (by decide) rfl rfl (Nat.le_of_ble_eq_true rfl) (L := [some (vA G 69), some (vI x1), some (vI x2), some (vI x3), none, none, none, none]) ?_
  unfold f11_farthest
  refine den_aload_n (pc := 0) d11_farthest_0 rfl rfl ?_
  refine den_iload_n (pc := 1) d11_farthest_1 rfl rfl ?_
  refine den_callVI (pc := 2) (As := [vI x1]) fv_11_201 rfl rfl (ok_69 _) (Nat.le_of_ble_eq_true rfl) (Nat.le_trans (by decide) hd) d11_farthest_2 (c11_isVillage l G x1 h) (fun r11 h12 m13 o14 => ?_)
  refine den_if_eq (pc := 5) (tgt := 16) d11_farthest_5 (by decide) rfl (fun _ => ?_) (fun _ => ?_)
  · refine den_iconst (pc := 16) d11_farthest_16 ?_
    exact den_iret (pc := 17) rfl d11_farthest_17
  · refine den_aload_n (pc := 8) d11_farthest_8 rfl rfl ?_
    refine den_iload_n (pc := 9) d11_farthest_9 rfl rfl ?_
    refine den_callVI (pc := 10) (As := [vI x2]) fv_11_207 rfl rfl (ok_69 _) (Nat.le_of_ble_eq_true rfl) (Nat.le_trans (by decide) hd) d11_farthest_10 (c11_isSubject l G x2 h12) (fun r15 h16 m17 o18 => ?_)
    refine den_if_ne (pc := 13) (tgt := 18) d11_farthest_13 (by decide) rfl (fun _ => ?_) (fun _ => ?_)
    · refine den_iconst (pc := 18) d11_farthest_18 ?_
      refine den_istore (pc := 19) (L2 := [some (vA G 69), some (vI x1), some (vI x2), some (vI x3), some (vI (-1)), none, none, none]) d11_farthest_19 (by decide) rfl ?_
      refine den_iconst (pc := 21) d11_farthest_21 ?_
      refine den_istore (pc := 22) (L2 := [some (vA G 69), some (vI x1), some (vI x2), some (vI x3), some (vI (-1)), some (vI (-1)), none, none]) d11_farthest_22 (by decide) rfl ?_
      refine den_iconst (pc := 24) d11_farthest_24 ?_
      refine den_istore (pc := 25) (L2 := [some (vA G 69), some (vI x1), some (vI x2), some (vI x3), some (vI (-1)), some (vI (-1)), some (vI 0), none]) d11_farthest_25 (by decide) rfl ?_
      refine den_wk [true, false, true, true, true, true, true, true] rfl ?_
      exact tl11_farthest_27 l G _ hd x2 x3 FU ((-1), (-1), 0, h16) trivial
    · refine den_iconst (pc := 16) d11_farthest_16 ?_
      exact den_iret (pc := 17) rfl d11_farthest_17
theorem d11_burnsBy_0 : decode m11_burnsBy.2.1 0 = .ok (.iload_n 1, 1) := by decide +kernel
theorem d11_burnsBy_1 : decode m11_burnsBy.2.1 1 = .ok (.bipush 10, 2) := by decide +kernel
theorem d11_burnsBy_3 : decode m11_burnsBy.2.1 3 = .ok (.irem, 1) := by decide +kernel
theorem d11_burnsBy_4 : decode m11_burnsBy.2.1 4 = .ok (.aload_n 0, 1) := by decide +kernel
theorem d11_burnsBy_5 : decode m11_burnsBy.2.1 5 = .ok (.getfield 192, 3) := by decide +kernel
theorem d11_burnsBy_8 : decode m11_burnsBy.2.1 8 = .ok (.if_icmp .ge 39, 3) := by decide +kernel
theorem d11_burnsBy_11 : decode m11_burnsBy.2.1 11 = .ok (.iload_n 1, 1) := by decide +kernel
theorem d11_burnsBy_12 : decode m11_burnsBy.2.1 12 = .ok (.bipush 10, 2) := by decide +kernel
theorem d11_burnsBy_14 : decode m11_burnsBy.2.1 14 = .ok (.idiv, 1) := by decide +kernel
theorem d11_burnsBy_15 : decode m11_burnsBy.2.1 15 = .ok (.bipush 10, 2) := by decide +kernel
theorem d11_burnsBy_17 : decode m11_burnsBy.2.1 17 = .ok (.irem, 1) := by decide +kernel
theorem d11_burnsBy_18 : decode m11_burnsBy.2.1 18 = .ok (.iload_n 1, 1) := by decide +kernel
theorem d11_burnsBy_19 : decode m11_burnsBy.2.1 19 = .ok (.bipush 10, 2) := by decide +kernel
theorem d11_burnsBy_21 : decode m11_burnsBy.2.1 21 = .ok (.irem, 1) := by decide +kernel
theorem d11_burnsBy_22 : decode m11_burnsBy.2.1 22 = .ok (.if_icmp .ge 25, 3) := by decide +kernel
theorem d11_burnsBy_25 : decode m11_burnsBy.2.1 25 = .ok (.aload_n 0, 1) := by decide +kernel
theorem d11_burnsBy_26 : decode m11_burnsBy.2.1 26 = .ok (.iload_n 1, 1) := by decide +kernel
theorem d11_burnsBy_27 : decode m11_burnsBy.2.1 27 = .ok (.bipush 10, 2) := by decide +kernel
theorem d11_burnsBy_29 : decode m11_burnsBy.2.1 29 = .ok (.idiv, 1) := by decide +kernel
theorem d11_burnsBy_30 : decode m11_burnsBy.2.1 30 = .ok (.bipush 10, 2) := by decide +kernel
theorem d11_burnsBy_32 : decode m11_burnsBy.2.1 32 = .ok (.irem, 1) := by decide +kernel
theorem d11_burnsBy_33 : decode m11_burnsBy.2.1 33 = .ok (.iload_n 1, 1) := by decide +kernel
theorem d11_burnsBy_34 : decode m11_burnsBy.2.1 34 = .ok (.bipush 10, 2) := by decide +kernel
theorem d11_burnsBy_36 : decode m11_burnsBy.2.1 36 = .ok (.irem, 1) := by decide +kernel
theorem d11_burnsBy_37 : decode m11_burnsBy.2.1 37 = .ok (.iload_n 1, 1) := by decide +kernel
theorem d11_burnsBy_38 : decode m11_burnsBy.2.1 38 = .ok (.bipush 100, 2) := by decide +kernel
theorem d11_burnsBy_40 : decode m11_burnsBy.2.1 40 = .ok (.idiv, 1) := by decide +kernel
theorem d11_burnsBy_41 : decode m11_burnsBy.2.1 41 = .ok (.invokevirtual 234, 3) := by decide +kernel
theorem d11_burnsBy_44 : decode m11_burnsBy.2.1 44 = .ok (.goto 4, 3) := by decide +kernel
theorem d11_burnsBy_47 : decode m11_burnsBy.2.1 47 = .ok (.iconst 0, 1) := by decide +kernel
theorem d11_burnsBy_48 : decode m11_burnsBy.2.1 48 = .ok (.ireturn, 1) := by decide +kernel
def f11_burnsBy (x1 : Int) (h : AH) : Option (Int × AH) :=
  if w32 (h.2 69 13) ≤ w32 (rm32 x1 10) then
    some (0, h)
  else
    if w32 (rm32 x1 10) ≤ w32 (rm32 (dv32 x1 10) 10) then
      some (0, h)
    else
      bnd (f11_burnsOf (rm32 (dv32 x1 10) 10) (rm32 x1 10) (dv32 x1 100) h) fun r1 h2 =>
      some (r1, h2)
set_option maxRecDepth 100000 in
theorem c11_burnsBy (l : Launch) (G : Geo) (x1 : Int) (h : AH) : Con l G m11_burnsBy rvI 5 [vA G 69, vI x1] h (f11_burnsBy x1 h) := by
  have hd : 5 ≤ 5 := Nat.le_refl _
  refine con_I rfl (by decide) rfl rfl (Nat.le_of_ble_eq_true rfl) (L := [some (vA G 69), some (vI x1)]) ?_
  unfold f11_burnsBy
  refine den_iload_n (pc := 0) d11_burnsBy_0 rfl rfl ?_
  refine den_bipush (pc := 1) d11_burnsBy_1 (by decide) ?_
  refine den_irem (pc := 3) d11_burnsBy_3 (by decide) ?_
  refine den_aload_n (pc := 4) d11_burnsBy_4 rfl rfl ?_
  refine den_getI (pc := 5) fa_11_192 (ok_69 _) d11_burnsBy_5 ?_
  refine den_icmp_ge (pc := 8) (tgt := 47) d11_burnsBy_8 (by decide) rfl rfl (fun _ => ?_) (fun _ => ?_)
  · refine den_iconst (pc := 47) d11_burnsBy_47 ?_
    exact den_iret (pc := 48) rfl d11_burnsBy_48
  · refine den_iload_n (pc := 11) d11_burnsBy_11 rfl rfl ?_
    refine den_bipush (pc := 12) d11_burnsBy_12 (by decide) ?_
    refine den_idiv (pc := 14) d11_burnsBy_14 (by decide) ?_
    refine den_bipush (pc := 15) d11_burnsBy_15 (by decide) ?_
    refine den_irem (pc := 17) d11_burnsBy_17 (by decide) ?_
    refine den_iload_n (pc := 18) d11_burnsBy_18 rfl rfl ?_
    refine den_bipush (pc := 19) d11_burnsBy_19 (by decide) ?_
    refine den_irem (pc := 21) d11_burnsBy_21 (by decide) ?_
    refine den_icmp_ge (pc := 22) (tgt := 47) d11_burnsBy_22 (by decide) rfl rfl (fun _ => ?_) (fun _ => ?_)
    · refine den_iconst (pc := 47) d11_burnsBy_47 ?_
      exact den_iret (pc := 48) rfl d11_burnsBy_48
    · refine den_aload_n (pc := 25) d11_burnsBy_25 rfl rfl ?_
      refine den_iload_n (pc := 26) d11_burnsBy_26 rfl rfl ?_
      refine den_bipush (pc := 27) d11_burnsBy_27 (by decide) ?_
      refine den_idiv (pc := 29) d11_burnsBy_29 (by decide) ?_
      refine den_bipush (pc := 30) d11_burnsBy_30 (by decide) ?_
      refine den_irem (pc := 32) d11_burnsBy_32 (by decide) ?_
      refine den_iload_n (pc := 33) d11_burnsBy_33 rfl rfl ?_
      refine den_bipush (pc := 34) d11_burnsBy_34 (by decide) ?_
      refine den_irem (pc := 36) d11_burnsBy_36 (by decide) ?_
      refine den_iload_n (pc := 37) d11_burnsBy_37 rfl rfl ?_
      refine den_bipush (pc := 38) d11_burnsBy_38 (by decide) ?_
      refine den_idiv (pc := 40) d11_burnsBy_40 (by decide) ?_
      refine den_callVI (pc := 41) (As := [vI (rm32 (dv32 x1 10) 10), vI (rm32 x1 10), vI (dv32 x1 100)]) fv_11_234 rfl rfl (ok_69 _) (Nat.le_of_ble_eq_true rfl) (Nat.le_trans (by decide) hd) d11_burnsBy_41 (c11_burnsOf l G (rm32 (dv32 x1 10) 10) (rm32 x1 10) (dv32 x1 100) h) (fun r1 h2 m3 o4 => ?_)
      refine den_goto (pc := 44) (tgt := 48) d11_burnsBy_44 (by decide) ?_
      exact den_iret (pc := 48) rfl d11_burnsBy_48
theorem d11_areApart_0 : decode m11_areApart.2.1 0 = .ok (.iconst 1, 1) := by decide +kernel
theorem d11_areApart_1 : decode m11_areApart.2.1 1 = .ok (.iload_n 0, 1) := by decide +kernel
theorem d11_areApart_2 : decode m11_areApart.2.1 2 = .ok (.bipush 10, 2) := by decide +kernel
theorem d11_areApart_4 : decode m11_areApart.2.1 4 = .ok (.irem, 1) := by decide +kernel
theorem d11_areApart_5 : decode m11_areApart.2.1 5 = .ok (.ishl, 1) := by decide +kernel
theorem d11_areApart_6 : decode m11_areApart.2.1 6 = .ok (.iconst 1, 1) := by decide +kernel
theorem d11_areApart_7 : decode m11_areApart.2.1 7 = .ok (.iload_n 0, 1) := by decide +kernel
theorem d11_areApart_8 : decode m11_areApart.2.1 8 = .ok (.bipush 10, 2) := by decide +kernel
theorem d11_areApart_10 : decode m11_areApart.2.1 10 = .ok (.idiv, 1) := by decide +kernel
theorem d11_areApart_11 : decode m11_areApart.2.1 11 = .ok (.bipush 10, 2) := by decide +kernel
theorem d11_areApart_13 : decode m11_areApart.2.1 13 = .ok (.irem, 1) := by decide +kernel
theorem d11_areApart_14 : decode m11_areApart.2.1 14 = .ok (.ishl, 1) := by decide +kernel
theorem d11_areApart_15 : decode m11_areApart.2.1 15 = .ok (.ior, 1) := by decide +kernel
theorem d11_areApart_16 : decode m11_areApart.2.1 16 = .ok (.istore_n 2, 1) := by decide +kernel
theorem d11_areApart_17 : decode m11_areApart.2.1 17 = .ok (.iconst 1, 1) := by decide +kernel
theorem d11_areApart_18 : decode m11_areApart.2.1 18 = .ok (.iload_n 1, 1) := by decide +kernel
theorem d11_areApart_19 : decode m11_areApart.2.1 19 = .ok (.bipush 10, 2) := by decide +kernel
theorem d11_areApart_21 : decode m11_areApart.2.1 21 = .ok (.irem, 1) := by decide +kernel
theorem d11_areApart_22 : decode m11_areApart.2.1 22 = .ok (.ishl, 1) := by decide +kernel
theorem d11_areApart_23 : decode m11_areApart.2.1 23 = .ok (.iconst 1, 1) := by decide +kernel
theorem d11_areApart_24 : decode m11_areApart.2.1 24 = .ok (.iload_n 1, 1) := by decide +kernel
theorem d11_areApart_25 : decode m11_areApart.2.1 25 = .ok (.bipush 10, 2) := by decide +kernel
theorem d11_areApart_27 : decode m11_areApart.2.1 27 = .ok (.idiv, 1) := by decide +kernel
theorem d11_areApart_28 : decode m11_areApart.2.1 28 = .ok (.bipush 10, 2) := by decide +kernel
theorem d11_areApart_30 : decode m11_areApart.2.1 30 = .ok (.irem, 1) := by decide +kernel
theorem d11_areApart_31 : decode m11_areApart.2.1 31 = .ok (.ishl, 1) := by decide +kernel
theorem d11_areApart_32 : decode m11_areApart.2.1 32 = .ok (.ior, 1) := by decide +kernel
theorem d11_areApart_33 : decode m11_areApart.2.1 33 = .ok (.istore_n 3, 1) := by decide +kernel
theorem d11_areApart_34 : decode m11_areApart.2.1 34 = .ok (.iload_n 0, 1) := by decide +kernel
theorem d11_areApart_35 : decode m11_areApart.2.1 35 = .ok (.bipush 100, 2) := by decide +kernel
theorem d11_areApart_37 : decode m11_areApart.2.1 37 = .ok (.idiv, 1) := by decide +kernel
theorem d11_areApart_38 : decode m11_areApart.2.1 38 = .ok (.iload_n 1, 1) := by decide +kernel
theorem d11_areApart_39 : decode m11_areApart.2.1 39 = .ok (.bipush 100, 2) := by decide +kernel
theorem d11_areApart_41 : decode m11_areApart.2.1 41 = .ok (.idiv, 1) := by decide +kernel
theorem d11_areApart_42 : decode m11_areApart.2.1 42 = .ok (.if_icmp .eq 13, 3) := by decide +kernel
theorem d11_areApart_45 : decode m11_areApart.2.1 45 = .ok (.iload_n 2, 1) := by decide +kernel
theorem d11_areApart_46 : decode m11_areApart.2.1 46 = .ok (.iload_n 3, 1) := by decide +kernel
theorem d11_areApart_47 : decode m11_areApart.2.1 47 = .ok (.iand, 1) := by decide +kernel
theorem d11_areApart_48 : decode m11_areApart.2.1 48 = .ok (.ifCond .ne 7, 3) := by decide +kernel
theorem d11_areApart_51 : decode m11_areApart.2.1 51 = .ok (.iconst 1, 1) := by decide +kernel
theorem d11_areApart_52 : decode m11_areApart.2.1 52 = .ok (.goto 4, 3) := by decide +kernel
theorem d11_areApart_55 : decode m11_areApart.2.1 55 = .ok (.iconst 0, 1) := by decide +kernel
theorem d11_areApart_56 : decode m11_areApart.2.1 56 = .ok (.ireturn, 1) := by decide +kernel
def f11_areApart (x0 : Int) (x1 : Int) (h : AH) : Option (Int × AH) :=
  lt (or32 (shl32 1 (rm32 x0 10)) (shl32 1 (rm32 (dv32 x0 10) 10))) fun u1 =>
  lt (or32 (shl32 1 (rm32 x1 10)) (shl32 1 (rm32 (dv32 x1 10) 10))) fun u2 =>
  if w32 (dv32 x0 100) = w32 (dv32 x1 100) then
    some (0, h)
  else
    if ¬ w32 (and32 u1 u2) = 0 then
      some (0, h)
    else
      some (1, h)
set_option maxRecDepth 100000 in
theorem c11_areApart (l : Launch) (G : Geo) (x0 : Int) (x1 : Int) (h : AH) : Con l G m11_areApart rvI 2 [vI x0, vI x1] h (f11_areApart x0 x1 h) := by
  have hd : 2 ≤ 2 := Nat.le_refl _
  refine con_Z rfl (by decide) rfl rfl (Nat.le_of_ble_eq_true rfl) (L := [some (vI x0), some (vI x1), none, none]) ?_
  unfold f11_areApart
  refine den_iconst (pc := 0) d11_areApart_0 ?_
  refine den_iload_n (pc := 1) d11_areApart_1 rfl rfl ?_
  refine den_bipush (pc := 2) d11_areApart_2 (by decide) ?_
  refine den_irem (pc := 4) d11_areApart_4 (by decide) ?_
  refine den_ishl (pc := 5) d11_areApart_5 ?_
  refine den_iconst (pc := 6) d11_areApart_6 ?_
  refine den_iload_n (pc := 7) d11_areApart_7 rfl rfl ?_
  refine den_bipush (pc := 8) d11_areApart_8 (by decide) ?_
  refine den_idiv (pc := 10) d11_areApart_10 (by decide) ?_
  refine den_bipush (pc := 11) d11_areApart_11 (by decide) ?_
  refine den_irem (pc := 13) d11_areApart_13 (by decide) ?_
  refine den_ishl (pc := 14) d11_areApart_14 ?_
  refine den_ior (pc := 15) d11_areApart_15 ?_
  refine den_istore_nL (pc := 16) (L2 := fun y => [some (vI x0), some (vI x1), some (vI y), none]) d11_areApart_16 rfl (by decide) (fun _ => rfl) (fun u1 => ?_)
  refine den_iconst (pc := 17) d11_areApart_17 ?_
  refine den_iload_n (pc := 18) d11_areApart_18 rfl rfl ?_
  refine den_bipush (pc := 19) d11_areApart_19 (by decide) ?_
  refine den_irem (pc := 21) d11_areApart_21 (by decide) ?_
  refine den_ishl (pc := 22) d11_areApart_22 ?_
  refine den_iconst (pc := 23) d11_areApart_23 ?_
  refine den_iload_n (pc := 24) d11_areApart_24 rfl rfl ?_
  refine den_bipush (pc := 25) d11_areApart_25 (by decide) ?_
  refine den_idiv (pc := 27) d11_areApart_27 (by decide) ?_
  refine den_bipush (pc := 28) d11_areApart_28 (by decide) ?_
  refine den_irem (pc := 30) d11_areApart_30 (by decide) ?_
  refine den_ishl (pc := 31) d11_areApart_31 ?_
  refine den_ior (pc := 32) d11_areApart_32 ?_
  refine den_istore_nL (pc := 33) (L2 := fun y => [some (vI x0), some (vI x1), some (vI u1), some (vI y)]) d11_areApart_33 rfl (by decide) (fun _ => rfl) (fun u2 => ?_)
  refine den_iload_n (pc := 34) d11_areApart_34 rfl rfl ?_
  refine den_bipush (pc := 35) d11_areApart_35 (by decide) ?_
  refine den_idiv (pc := 37) d11_areApart_37 (by decide) ?_
  refine den_iload_n (pc := 38) d11_areApart_38 rfl rfl ?_
  refine den_bipush (pc := 39) d11_areApart_39 (by decide) ?_
  refine den_idiv (pc := 41) d11_areApart_41 (by decide) ?_
  refine den_icmp_eq (pc := 42) (tgt := 55) d11_areApart_42 (by decide) rfl rfl (fun _ => ?_) (fun _ => ?_)
  · refine den_iconst (pc := 55) d11_areApart_55 ?_
    exact den_zret (pc := 56) rfl (by decide) d11_areApart_56
  · refine den_iload_n (pc := 45) d11_areApart_45 rfl rfl ?_
    refine den_iload_n (pc := 46) d11_areApart_46 rfl rfl ?_
    refine den_iand (pc := 47) d11_areApart_47 ?_
    refine den_if_ne (pc := 48) (tgt := 55) d11_areApart_48 (by decide) rfl (fun _ => ?_) (fun _ => ?_)
    · refine den_iconst (pc := 55) d11_areApart_55 ?_
      exact den_zret (pc := 56) rfl (by decide) d11_areApart_56
    · refine den_iconst (pc := 51) d11_areApart_51 ?_
      refine den_goto (pc := 52) (tgt := 56) d11_areApart_52 (by decide) ?_
      exact den_zret (pc := 56) rfl (by decide) d11_areApart_56
theorem d11_fillsOf_0 : decode m11_fillsOf.2.1 0 = .ok (.iconst 0, 1) := by decide +kernel
theorem d11_fillsOf_1 : decode m11_fillsOf.2.1 1 = .ok (.istore_n 2, 1) := by decide +kernel
theorem d11_fillsOf_2 : decode m11_fillsOf.2.1 2 = .ok (.iconst 0, 1) := by decide +kernel
theorem d11_fillsOf_3 : decode m11_fillsOf.2.1 3 = .ok (.istore_n 3, 1) := by decide +kernel
theorem d11_fillsOf_4 : decode m11_fillsOf.2.1 4 = .ok (.iconst 0, 1) := by decide +kernel
theorem d11_fillsOf_5 : decode m11_fillsOf.2.1 5 = .ok (.istore 4, 2) := by decide +kernel
theorem d11_fillsOf_7 : decode m11_fillsOf.2.1 7 = .ok (.iload 4, 2) := by decide +kernel
theorem d11_fillsOf_9 : decode m11_fillsOf.2.1 9 = .ok (.bipush 100, 2) := by decide +kernel
theorem d11_fillsOf_11 : decode m11_fillsOf.2.1 11 = .ok (.aload_n 0, 1) := by decide +kernel
theorem d11_fillsOf_12 : decode m11_fillsOf.2.1 12 = .ok (.getfield 195, 3) := by decide +kernel
theorem d11_fillsOf_15 : decode m11_fillsOf.2.1 15 = .ok (.imul, 1) := by decide +kernel
theorem d11_fillsOf_16 : decode m11_fillsOf.2.1 16 = .ok (.if_icmp .ge 53, 3) := by decide +kernel
theorem d11_fillsOf_19 : decode m11_fillsOf.2.1 19 = .ok (.aload_n 0, 1) := by decide +kernel
theorem d11_fillsOf_20 : decode m11_fillsOf.2.1 20 = .ok (.iload 4, 2) := by decide +kernel
theorem d11_fillsOf_22 : decode m11_fillsOf.2.1 22 = .ok (.invokevirtual 289, 3) := by decide +kernel
theorem d11_fillsOf_25 : decode m11_fillsOf.2.1 25 = .ok (.iload_n 2, 1) := by decide +kernel
theorem d11_fillsOf_26 : decode m11_fillsOf.2.1 26 = .ok (.if_icmp .le 37, 3) := by decide +kernel
theorem d11_fillsOf_29 : decode m11_fillsOf.2.1 29 = .ok (.aload_n 0, 1) := by decide +kernel
theorem d11_fillsOf_30 : decode m11_fillsOf.2.1 30 = .ok (.iload 4, 2) := by decide +kernel
theorem d11_fillsOf_32 : decode m11_fillsOf.2.1 32 = .ok (.invokevirtual 289, 3) := by decide +kernel
theorem d11_fillsOf_35 : decode m11_fillsOf.2.1 35 = .ok (.aload_n 0, 1) := by decide +kernel
theorem d11_fillsOf_36 : decode m11_fillsOf.2.1 36 = .ok (.iload_n 1, 1) := by decide +kernel
theorem d11_fillsOf_37 : decode m11_fillsOf.2.1 37 = .ok (.invokevirtual 222, 3) := by decide +kernel
theorem d11_fillsOf_40 : decode m11_fillsOf.2.1 40 = .ok (.if_icmp .le 6, 3) := by decide +kernel
theorem d11_fillsOf_43 : decode m11_fillsOf.2.1 43 = .ok (.goto 20, 3) := by decide +kernel
theorem d11_fillsOf_46 : decode m11_fillsOf.2.1 46 = .ok (.aload_n 0, 1) := by decide +kernel
theorem d11_fillsOf_47 : decode m11_fillsOf.2.1 47 = .ok (.iload 4, 2) := by decide +kernel
theorem d11_fillsOf_49 : decode m11_fillsOf.2.1 49 = .ok (.invokevirtual 289, 3) := by decide +kernel
theorem d11_fillsOf_52 : decode m11_fillsOf.2.1 52 = .ok (.istore_n 2, 1) := by decide +kernel
theorem d11_fillsOf_53 : decode m11_fillsOf.2.1 53 = .ok (.iconst 1, 1) := by decide +kernel
theorem d11_fillsOf_54 : decode m11_fillsOf.2.1 54 = .ok (.istore_n 3, 1) := by decide +kernel
theorem d11_fillsOf_55 : decode m11_fillsOf.2.1 55 = .ok (.aload_n 0, 1) := by decide +kernel
theorem d11_fillsOf_56 : decode m11_fillsOf.2.1 56 = .ok (.getfield 56, 3) := by decide +kernel
theorem d11_fillsOf_59 : decode m11_fillsOf.2.1 59 = .ok (.iconst 0, 1) := by decide +kernel
theorem d11_fillsOf_60 : decode m11_fillsOf.2.1 60 = .ok (.iload 4, 2) := by decide +kernel
theorem d11_fillsOf_62 : decode m11_fillsOf.2.1 62 = .ok (.iastore, 1) := by decide +kernel
theorem d11_fillsOf_63 : decode m11_fillsOf.2.1 63 = .ok (.iinc 4 1, 3) := by decide +kernel
theorem d11_fillsOf_66 : decode m11_fillsOf.2.1 66 = .ok (.goto (-59), 3) := by decide +kernel
theorem d11_fillsOf_69 : decode m11_fillsOf.2.1 69 = .ok (.iconst 0, 1) := by decide +kernel
theorem d11_fillsOf_70 : decode m11_fillsOf.2.1 70 = .ok (.istore 4, 2) := by decide +kernel
theorem d11_fillsOf_72 : decode m11_fillsOf.2.1 72 = .ok (.iload 4, 2) := by decide +kernel
theorem d11_fillsOf_74 : decode m11_fillsOf.2.1 74 = .ok (.bipush 100, 2) := by decide +kernel
theorem d11_fillsOf_76 : decode m11_fillsOf.2.1 76 = .ok (.aload_n 0, 1) := by decide +kernel
theorem d11_fillsOf_77 : decode m11_fillsOf.2.1 77 = .ok (.getfield 195, 3) := by decide +kernel
theorem d11_fillsOf_80 : decode m11_fillsOf.2.1 80 = .ok (.imul, 1) := by decide +kernel
theorem d11_fillsOf_81 : decode m11_fillsOf.2.1 81 = .ok (.if_icmp .ge 116, 3) := by decide +kernel
theorem d11_fillsOf_84 : decode m11_fillsOf.2.1 84 = .ok (.iload 4, 2) := by decide +kernel
theorem d11_fillsOf_86 : decode m11_fillsOf.2.1 86 = .ok (.iconst 1, 1) := by decide +kernel
theorem d11_fillsOf_87 : decode m11_fillsOf.2.1 87 = .ok (.iadd, 1) := by decide +kernel
theorem d11_fillsOf_88 : decode m11_fillsOf.2.1 88 = .ok (.istore 5, 2) := by decide +kernel
theorem d11_fillsOf_90 : decode m11_fillsOf.2.1 90 = .ok (.iload 5, 2) := by decide +kernel
theorem d11_fillsOf_92 : decode m11_fillsOf.2.1 92 = .ok (.bipush 100, 2) := by decide +kernel
theorem d11_fillsOf_94 : decode m11_fillsOf.2.1 94 = .ok (.aload_n 0, 1) := by decide +kernel
theorem d11_fillsOf_95 : decode m11_fillsOf.2.1 95 = .ok (.getfield 195, 3) := by decide +kernel
theorem d11_fillsOf_98 : decode m11_fillsOf.2.1 98 = .ok (.imul, 1) := by decide +kernel
theorem d11_fillsOf_99 : decode m11_fillsOf.2.1 99 = .ok (.if_icmp .ge 92, 3) := by decide +kernel
theorem d11_fillsOf_102 : decode m11_fillsOf.2.1 102 = .ok (.aload_n 0, 1) := by decide +kernel
theorem d11_fillsOf_103 : decode m11_fillsOf.2.1 103 = .ok (.iload 4, 2) := by decide +kernel
theorem d11_fillsOf_105 : decode m11_fillsOf.2.1 105 = .ok (.invokevirtual 289, 3) := by decide +kernel
theorem d11_fillsOf_108 : decode m11_fillsOf.2.1 108 = .ok (.ifCond .le 83, 3) := by decide +kernel
theorem d11_fillsOf_111 : decode m11_fillsOf.2.1 111 = .ok (.aload_n 0, 1) := by decide +kernel
theorem d11_fillsOf_112 : decode m11_fillsOf.2.1 112 = .ok (.iload 4, 2) := by decide +kernel
theorem d11_fillsOf_114 : decode m11_fillsOf.2.1 114 = .ok (.invokevirtual 289, 3) := by decide +kernel
theorem d11_fillsOf_117 : decode m11_fillsOf.2.1 117 = .ok (.aload_n 0, 1) := by decide +kernel
theorem d11_fillsOf_118 : decode m11_fillsOf.2.1 118 = .ok (.iload 5, 2) := by decide +kernel
theorem d11_fillsOf_120 : decode m11_fillsOf.2.1 120 = .ok (.invokevirtual 289, 3) := by decide +kernel
theorem d11_fillsOf_123 : decode m11_fillsOf.2.1 123 = .ok (.iadd, 1) := by decide +kernel
theorem d11_fillsOf_124 : decode m11_fillsOf.2.1 124 = .ok (.istore 6, 2) := by decide +kernel
theorem d11_fillsOf_126 : decode m11_fillsOf.2.1 126 = .ok (.iload 6, 2) := by decide +kernel
theorem d11_fillsOf_128 : decode m11_fillsOf.2.1 128 = .ok (.iload_n 2, 1) := by decide +kernel
theorem d11_fillsOf_129 : decode m11_fillsOf.2.1 129 = .ok (.if_icmp .le 56, 3) := by decide +kernel
theorem d11_fillsOf_132 : decode m11_fillsOf.2.1 132 = .ok (.iload 6, 2) := by decide +kernel
theorem d11_fillsOf_134 : decode m11_fillsOf.2.1 134 = .ok (.aload_n 0, 1) := by decide +kernel
theorem d11_fillsOf_135 : decode m11_fillsOf.2.1 135 = .ok (.iload_n 1, 1) := by decide +kernel
theorem d11_fillsOf_136 : decode m11_fillsOf.2.1 136 = .ok (.invokevirtual 222, 3) := by decide +kernel
theorem d11_fillsOf_139 : decode m11_fillsOf.2.1 139 = .ok (.if_icmp .gt 46, 3) := by decide +kernel
theorem d11_fillsOf_142 : decode m11_fillsOf.2.1 142 = .ok (.aload_n 0, 1) := by decide +kernel
theorem d11_fillsOf_143 : decode m11_fillsOf.2.1 143 = .ok (.iload 5, 2) := by decide +kernel
theorem d11_fillsOf_145 : decode m11_fillsOf.2.1 145 = .ok (.invokevirtual 289, 3) := by decide +kernel
theorem d11_fillsOf_148 : decode m11_fillsOf.2.1 148 = .ok (.ifCond .eq 37, 3) := by decide +kernel
theorem d11_fillsOf_151 : decode m11_fillsOf.2.1 151 = .ok (.iload 4, 2) := by decide +kernel
theorem d11_fillsOf_153 : decode m11_fillsOf.2.1 153 = .ok (.iload 5, 2) := by decide +kernel
theorem d11_fillsOf_155 : decode m11_fillsOf.2.1 155 = .ok (.invokestatic 292, 3) := by decide +kernel
theorem d11_fillsOf_158 : decode m11_fillsOf.2.1 158 = .ok (.ifCond .ne 6, 3) := by decide +kernel
theorem d11_fillsOf_161 : decode m11_fillsOf.2.1 161 = .ok (.goto 24, 3) := by decide +kernel
theorem d11_fillsOf_164 : decode m11_fillsOf.2.1 164 = .ok (.iload 6, 2) := by decide +kernel
theorem d11_fillsOf_166 : decode m11_fillsOf.2.1 166 = .ok (.istore_n 2, 1) := by decide +kernel
theorem d11_fillsOf_167 : decode m11_fillsOf.2.1 167 = .ok (.iconst 2, 1) := by decide +kernel
theorem d11_fillsOf_168 : decode m11_fillsOf.2.1 168 = .ok (.istore_n 3, 1) := by decide +kernel
theorem d11_fillsOf_169 : decode m11_fillsOf.2.1 169 = .ok (.aload_n 0, 1) := by decide +kernel
theorem d11_fillsOf_170 : decode m11_fillsOf.2.1 170 = .ok (.getfield 56, 3) := by decide +kernel
theorem d11_fillsOf_173 : decode m11_fillsOf.2.1 173 = .ok (.iconst 0, 1) := by decide +kernel
theorem d11_fillsOf_174 : decode m11_fillsOf.2.1 174 = .ok (.iload 4, 2) := by decide +kernel
theorem d11_fillsOf_176 : decode m11_fillsOf.2.1 176 = .ok (.iastore, 1) := by decide +kernel
theorem d11_fillsOf_177 : decode m11_fillsOf.2.1 177 = .ok (.aload_n 0, 1) := by decide +kernel
theorem d11_fillsOf_178 : decode m11_fillsOf.2.1 178 = .ok (.getfield 56, 3) := by decide +kernel
theorem d11_fillsOf_181 : decode m11_fillsOf.2.1 181 = .ok (.iconst 1, 1) := by decide +kernel
theorem d11_fillsOf_182 : decode m11_fillsOf.2.1 182 = .ok (.iload 5, 2) := by decide +kernel
theorem d11_fillsOf_184 : decode m11_fillsOf.2.1 184 = .ok (.iastore, 1) := by decide +kernel
theorem d11_fillsOf_185 : decode m11_fillsOf.2.1 185 = .ok (.iinc 5 1, 3) := by decide +kernel
theorem d11_fillsOf_188 : decode m11_fillsOf.2.1 188 = .ok (.goto (-98), 3) := by decide +kernel
theorem d11_fillsOf_191 : decode m11_fillsOf.2.1 191 = .ok (.iinc 4 1, 3) := by decide +kernel
theorem d11_fillsOf_194 : decode m11_fillsOf.2.1 194 = .ok (.goto (-122), 3) := by decide +kernel
theorem d11_fillsOf_197 : decode m11_fillsOf.2.1 197 = .ok (.bipush 10, 2) := by decide +kernel
theorem d11_fillsOf_199 : decode m11_fillsOf.2.1 199 = .ok (.iload_n 2, 1) := by decide +kernel
theorem d11_fillsOf_200 : decode m11_fillsOf.2.1 200 = .ok (.imul, 1) := by decide +kernel
theorem d11_fillsOf_201 : decode m11_fillsOf.2.1 201 = .ok (.iload_n 3, 1) := by decide +kernel
theorem d11_fillsOf_202 : decode m11_fillsOf.2.1 202 = .ok (.iadd, 1) := by decide +kernel
theorem d11_fillsOf_203 : decode m11_fillsOf.2.1 203 = .ok (.ireturn, 1) := by decide +kernel
def b11_fillsOf_63 (rec7 : Int × Int × Int × AH → Option (Int × AH)) (x1 : Int) (x2 : Int) (x3 : Int) (x4 : Int) (h : AH) : Option (Int × AH) :=
  rec7 (x2, x3, (x4 + 1), h)
set_option maxRecDepth 100000 in
theorem t11_fillsOf_63 (l : Launch) (G : Geo) (d : Nat) (hd : 6 ≤ d) (x1 : Int) (x2 : Int) (x3 : Int) (x4 : Int) (rec7 : Int × Int × Int × AH → Option (Int × AH)) (H7 : ∀ (x2 : Int) (x3 : Int) (x4 : Int) (h : AH), Den l G m11_fillsOf rvI d 7 [some (vA G 69), some (vI x1), some (vI x2), some (vI x3), some (vI x4), none, none] [] h (rec7 (x2, x3, x4, h))) (h : AH) : Den l G m11_fillsOf rvI d 63 [some (vA G 69), some (vI x1), some (vI x2), some (vI x3), some (vI x4), none, none] [] h (b11_fillsOf_63 rec7 x1 x2 x3 x4 h) := by
  unfold b11_fillsOf_63
  refine den_iinc (pc := 63) (L2 := [some (vA G 69), some (vI x1), some (vI x2), some (vI x3), some (vI (x4 + 1)), none, none]) d11_fillsOf_63 (by decide) rfl rfl ?_
  refine den_goto (pc := 66) (tgt := 7) d11_fillsOf_66 (by decide) ?_
  exact H7 x2 x3 (x4 + 1) h
def b11_fillsOf_185 (rec72 : Int × Int × Int × AH → Option (Int × AH)) (rec90 : Int × Int × Int × AH → Option (Int × AH)) (x1 : Int) (x2 : Int) (x3 : Int) (x4 : Int) (x5 : Int) (h : AH) : Option (Int × AH) :=
  rec90 (x2, x3, (x5 + 1), h)
set_option maxRecDepth 100000 in
theorem t11_fillsOf_185 (l : Launch) (G : Geo) (d : Nat) (hd : 6 ≤ d) (x1 : Int) (x2 : Int) (x3 : Int) (x4 : Int) (x5 : Int) (rec72 : Int × Int × Int × AH → Option (Int × AH)) (H72 : ∀ (x2 : Int) (x3 : Int) (x4 : Int) (h : AH), Den l G m11_fillsOf rvI d 72 [some (vA G 69), some (vI x1), some (vI x2), some (vI x3), some (vI x4), none, none] [] h (rec72 (x2, x3, x4, h))) (rec90 : Int × Int × Int × AH → Option (Int × AH)) (H90 : ∀ (x2 : Int) (x3 : Int) (x5 : Int) (h : AH), Den l G m11_fillsOf rvI d 90 [some (vA G 69), some (vI x1), some (vI x2), some (vI x3), some (vI x4), some (vI x5), none] [] h (rec90 (x2, x3, x5, h))) (h : AH) : Den l G m11_fillsOf rvI d 185 [some (vA G 69), some (vI x1), some (vI x2), some (vI x3), some (vI x4), some (vI x5), none] [] h (b11_fillsOf_185 rec72 rec90 x1 x2 x3 x4 x5 h) := by
  unfold b11_fillsOf_185
  refine den_iinc (pc := 185) (L2 := [some (vA G 69), some (vI x1), some (vI x2), some (vI x3), some (vI x4), some (vI (x5 + 1)), none]) d11_fillsOf_185 (by decide) rfl rfl ?_
  refine den_goto (pc := 188) (tgt := 90) d11_fillsOf_188 (by decide) ?_
  exact H90 x2 x3 (x5 + 1) h
def b11_fillsOf_191 (rec72 : Int × Int × Int × AH → Option (Int × AH)) (x1 : Int) (x2 : Int) (x3 : Int) (x4 : Int) (h : AH) : Option (Int × AH) :=
  rec72 (x2, x3, (x4 + 1), h)
set_option maxRecDepth 100000 in
theorem t11_fillsOf_191 (l : Launch) (G : Geo) (d : Nat) (hd : 6 ≤ d) (x1 : Int) (x2 : Int) (x3 : Int) (x4 : Int) (rec72 : Int × Int × Int × AH → Option (Int × AH)) (H72 : ∀ (x2 : Int) (x3 : Int) (x4 : Int) (h : AH), Den l G m11_fillsOf rvI d 72 [some (vA G 69), some (vI x1), some (vI x2), some (vI x3), some (vI x4), none, none] [] h (rec72 (x2, x3, x4, h))) (h : AH) : Den l G m11_fillsOf rvI d 191 [some (vA G 69), some (vI x1), some (vI x2), some (vI x3), some (vI x4), none, none] [] h (b11_fillsOf_191 rec72 x1 x2 x3 x4 h) := by
  unfold b11_fillsOf_191
  refine den_iinc (pc := 191) (L2 := [some (vA G 69), some (vI x1), some (vI x2), some (vI x3), some (vI (x4 + 1)), none, none]) d11_fillsOf_191 (by decide) rfl rfl ?_
  refine den_goto (pc := 194) (tgt := 72) d11_fillsOf_194 (by decide) ?_
  exact H72 x2 x3 (x4 + 1) h
def b11_fillsOf_90 (rec90 : Int × Int × Int × AH → Option (Int × AH)) (rec72 : Int × Int × Int × AH → Option (Int × AH)) (x1 : Int) (x4 : Int) (x2 : Int) (x3 : Int) (x5 : Int) (h : AH) : Option (Int × AH) :=
  if w32 (100 * (h.2 69 14)) ≤ w32 x5 then
    b11_fillsOf_191 rec72 x1 x2 x3 x4 h
  else
    bnd (f11_burnsBy x4 h) fun r1 h2 =>
    if w32 r1 ≤ 0 then
      b11_fillsOf_191 rec72 x1 x2 x3 x4 h2
    else
      bnd (f11_burnsBy x4 h2) fun r5 h6 =>
      bnd (f11_burnsBy x5 h6) fun r9 h10 =>
      lt (r5 + r9) fun u13 =>
      if w32 u13 ≤ w32 x2 then
        b11_fillsOf_185 rec72 rec90 x1 x2 x3 x4 x5 h10
      else
        bnd (f11_cracksOf x1 h10) fun r14 h15 =>
        if w32 r14 < w32 u13 then
          b11_fillsOf_185 rec72 rec90 x1 x2 x3 x4 x5 h15
        else
          bnd (f11_burnsBy x5 h15) fun r18 h19 =>
          if w32 r18 = 0 then
            b11_fillsOf_185 rec72 rec90 x1 x2 x3 x4 x5 h19
          else
            bnd (f11_areApart x4 x5 h19) fun r22 h23 =>
            if ¬ w32 r22 = 0 then
              asrt (0 ≤ w32 0 ∧ w32 0 < 2) <|
              lt (wr h23 85 (w32 0).toNat x4) fun h27 =>
              asrt (0 ≤ w32 1 ∧ w32 1 < 2) <|
              lt (wr h27 85 (w32 1).toNat x5) fun h30 =>
              b11_fillsOf_185 rec72 rec90 x1 u13 2 x4 x5 h30
            else
              b11_fillsOf_185 rec72 rec90 x1 x2 x3 x4 x5 h23
set_option maxRecDepth 100000 in
theorem t11_fillsOf_90 (l : Launch) (G : Geo) (d : Nat) (hd : 6 ≤ d) (x1 : Int) (x4 : Int) (x2 : Int) (x3 : Int) (x5 : Int) (rec90 : Int × Int × Int × AH → Option (Int × AH)) (H90 : ∀ (x2 : Int) (x3 : Int) (x5 : Int) (h : AH), Den l G m11_fillsOf rvI d 90 [some (vA G 69), some (vI x1), some (vI x2), some (vI x3), some (vI x4), some (vI x5), none] [] h (rec90 (x2, x3, x5, h))) (rec72 : Int × Int × Int × AH → Option (Int × AH)) (H72 : ∀ (x2 : Int) (x3 : Int) (x4 : Int) (h : AH), Den l G m11_fillsOf rvI d 72 [some (vA G 69), some (vI x1), some (vI x2), some (vI x3), some (vI x4), none, none] [] h (rec72 (x2, x3, x4, h))) (h : AH) : Den l G m11_fillsOf rvI d 90 [some (vA G 69), some (vI x1), some (vI x2), some (vI x3), some (vI x4), some (vI x5), none] [] h (b11_fillsOf_90 rec90 rec72 x1 x4 x2 x3 x5 h) := by
  unfold b11_fillsOf_90
  refine den_iload (pc := 90) d11_fillsOf_90 rfl ?_
  refine den_bipush (pc := 92) d11_fillsOf_92 (by decide) ?_
  refine den_aload_n (pc := 94) d11_fillsOf_94 rfl rfl ?_
  refine den_getI (pc := 95) fa_11_195 (ok_69 _) d11_fillsOf_95 ?_
  refine den_imul (pc := 98) d11_fillsOf_98 ?_
  refine den_icmp_ge (pc := 99) (tgt := 191) d11_fillsOf_99 (by decide) rfl rfl (fun _ => ?_) (fun _ => ?_)
  · refine den_wk [true, true, true, true, true, false, true] rfl ?_
    exact t11_fillsOf_191 l G _ hd x1 x2 x3 x4 rec72 H72 h
  · refine den_aload_n (pc := 102) d11_fillsOf_102 rfl rfl ?_
    refine den_iload (pc := 103) d11_fillsOf_103 rfl ?_
    refine den_callVI (pc := 105) (As := [vI x4]) fv_11_289 rfl rfl (ok_69 _) (Nat.le_of_ble_eq_true rfl) (Nat.le_trans (by decide) hd) d11_fillsOf_105 (c11_burnsBy l G x4 h) (fun r1 h2 m3 o4 => ?_)
    refine den_if_le (pc := 108) (tgt := 191) d11_fillsOf_108 (by decide) rfl (fun _ => ?_) (fun _ => ?_)
    · refine den_wk [true, true, true, true, true, false, true] rfl ?_
      exact t11_fillsOf_191 l G _ hd x1 x2 x3 x4 rec72 H72 h2
    · refine den_aload_n (pc := 111) d11_fillsOf_111 rfl rfl ?_
      refine den_iload (pc := 112) d11_fillsOf_112 rfl ?_
      refine den_callVI (pc := 114) (As := [vI x4]) fv_11_289 rfl rfl (ok_69 _) (Nat.le_of_ble_eq_true rfl) (Nat.le_trans (by decide) hd) d11_fillsOf_114 (c11_burnsBy l G x4 h2) (fun r5 h6 m7 o8 => ?_)
      refine den_aload_n (pc := 117) d11_fillsOf_117 rfl rfl ?_
      refine den_iload (pc := 118) d11_fillsOf_118 rfl ?_
      refine den_callVI (pc := 120) (As := [vI x5]) fv_11_289 rfl rfl (ok_69 _) (Nat.le_of_ble_eq_true rfl) (Nat.le_trans (by decide) hd) d11_fillsOf_120 (c11_burnsBy l G x5 h6) (fun r9 h10 m11 o12 => ?_)
      refine den_iadd (pc := 123) d11_fillsOf_123 ?_
      refine den_istoreL (pc := 124) (L2 := fun y => [some (vA G 69), some (vI x1), some (vI x2), some (vI x3), some (vI x4), some (vI x5), some (vI y)]) d11_fillsOf_124 (by decide) (fun _ => rfl) (fun u13 => ?_)
      refine den_iload (pc := 126) d11_fillsOf_126 rfl ?_
      refine den_iload_n (pc := 128) d11_fillsOf_128 rfl rfl ?_
      refine den_icmp_le (pc := 129) (tgt := 185) d11_fillsOf_129 (by decide) rfl rfl (fun _ => ?_) (fun _ => ?_)
      · refine den_wk [true, true, true, true, true, true, false] rfl ?_
        exact t11_fillsOf_185 l G _ hd x1 x2 x3 x4 x5 rec72 H72 rec90 H90 h10
      · refine den_iload (pc := 132) d11_fillsOf_132 rfl ?_
        refine den_aload_n (pc := 134) d11_fillsOf_134 rfl rfl ?_
        refine den_iload_n (pc := 135) d11_fillsOf_135 rfl rfl ?_
        refine den_callVI (pc := 136) (As := [vI x1]) fv_11_222 rfl rfl (ok_69 _) (Nat.le_of_ble_eq_true rfl) (Nat.le_trans (by decide) hd) d11_fillsOf_136 (c11_cracksOf l G x1 h10) (fun r14 h15 m16 o17 => ?_)
        refine den_icmp_gt (pc := 139) (tgt := 185) d11_fillsOf_139 (by decide) rfl rfl (fun _ => ?_) (fun _ => ?_)
        · refine den_wk [true, true, true, true, true, true, false] rfl ?_
          exact t11_fillsOf_185 l G _ hd x1 x2 x3 x4 x5 rec72 H72 rec90 H90 h15
        · refine den_aload_n (pc := 142) d11_fillsOf_142 rfl rfl ?_
          refine den_iload (pc := 143) d11_fillsOf_143 rfl ?_
          refine den_callVI (pc := 145) (As := [vI x5]) fv_11_289 rfl rfl (ok_69 _) (Nat.le_of_ble_eq_true rfl) (Nat.le_trans (by decide) hd) d11_fillsOf_145 (c11_burnsBy l G x5 h15) (fun r18 h19 m20 o21 => ?_)
          refine den_if_eq (pc := 148) (tgt := 185) d11_fillsOf_148 (by decide) rfl (fun _ => ?_) (fun _ => ?_)
          · refine den_wk [true, true, true, true, true, true, false] rfl ?_
            exact t11_fillsOf_185 l G _ hd x1 x2 x3 x4 x5 rec72 H72 rec90 H90 h19
          · refine den_iload (pc := 151) d11_fillsOf_151 rfl ?_
            refine den_iload (pc := 153) d11_fillsOf_153 rfl ?_
            refine den_callSI (pc := 155) (As := [vI x4, vI x5]) fs_11_292 rfl rfl (Nat.le_of_ble_eq_true rfl) (Nat.le_trans (by decide) hd) d11_fillsOf_155 (c11_areApart l G x4 x5 h19) (fun r22 h23 m24 o25 => ?_)
            refine den_if_ne (pc := 158) (tgt := 164) d11_fillsOf_158 (by decide) rfl (fun _ => ?_) (fun _ => ?_)
            · refine den_iload (pc := 164) d11_fillsOf_164 rfl ?_
              refine den_istore_n (pc := 166) (L2 := [some (vA G 69), some (vI x1), some (vI u13), some (vI x3), some (vI x4), some (vI x5), some (vI u13)]) d11_fillsOf_166 rfl (by decide) rfl ?_
              refine den_iconst (pc := 167) d11_fillsOf_167 ?_
              refine den_istore_n (pc := 168) (L2 := [some (vA G 69), some (vI x1), some (vI u13), some (vI 2), some (vI x4), some (vI x5), some (vI u13)]) d11_fillsOf_168 rfl (by decide) rfl ?_
              refine den_aload_n (pc := 169) d11_fillsOf_169 rfl rfl ?_
              refine den_getR (pc := 170) (b := 85) fa_11_56 (ok_69 _) rfl d11_fillsOf_170 ?_
              refine den_iconst (pc := 173) d11_fillsOf_173 ?_
              refine den_iload (pc := 174) d11_fillsOf_174 rfl ?_
              refine den_asrt (fun a26 => ?_)
              refine den_iastore (pc := 176) sh_85 (sz_lt (by decide)) rfl a26 d11_fillsOf_176 ?_
              refine den_ltH (fun h27 m28 => ?_)
              refine den_aload_n (pc := 177) d11_fillsOf_177 rfl rfl ?_
              refine den_getR (pc := 178) (b := 85) fa_11_56 (ok_69 _) rfl d11_fillsOf_178 ?_
              refine den_iconst (pc := 181) d11_fillsOf_181 ?_
              refine den_iload (pc := 182) d11_fillsOf_182 rfl ?_
              refine den_asrt (fun a29 => ?_)
              refine den_iastore (pc := 184) sh_85 (sz_lt (by decide)) rfl a29 d11_fillsOf_184 ?_
              refine den_ltH (fun h30 m31 => ?_)
              refine den_wk [true, true, true, true, true, true, false] rfl ?_
              exact t11_fillsOf_185 l G _ hd x1 u13 2 x4 x5 rec72 H72 rec90 H90 h30
            · refine den_goto (pc := 161) (tgt := 185) d11_fillsOf_161 (by decide) ?_
              refine den_wk [true, true, true, true, true, true, false] rfl ?_
              exact t11_fillsOf_185 l G _ hd x1 x2 x3 x4 x5 rec72 H72 rec90 H90 h23
def l11_fillsOf_90 (rec72 : Int × Int × Int × AH → Option (Int × AH)) (x1 : Int) (x4 : Int) (x2 : Int) (x3 : Int) (x5 : Int) (h : AH) : Option (Int × AH) := fx (fun rec z => b11_fillsOf_90 rec rec72 x1 x4 z.1 z.2.1 z.2.2.1 z.2.2.2) FU (x2, x3, x5, h)
set_option maxRecDepth 100000 in
theorem tl11_fillsOf_90 (l : Launch) (G : Geo) (d : Nat) (hd : 6 ≤ d) (x1 : Int) (x4 : Int) (rec72 : Int × Int × Int × AH → Option (Int × AH)) (H72 : ∀ (x2 : Int) (x3 : Int) (x4 : Int) (h : AH), Den l G m11_fillsOf rvI d 72 [some (vA G 69), some (vI x1), some (vI x2), some (vI x3), some (vI x4), none, none] [] h (rec72 (x2, x3, x4, h))) : ∀ (n : Nat) (z : Int × Int × Int × AH), True → Den l G m11_fillsOf rvI d 90 [some (vA G 69), some (vI x1), some (vI z.1), some (vI z.2.1), some (vI x4), some (vI z.2.2.1), none] [] z.2.2.2 (fx (fun rec z => b11_fillsOf_90 rec rec72 x1 x4 z.1 z.2.1 z.2.2.1 z.2.2.2) n z) :=
  den_fx (F := fun rec z => b11_fillsOf_90 rec rec72 x1 x4 z.1 z.2.1 z.2.2.1 z.2.2.2) (P := fun z => True) (fL := fun z => [some (vA G 69), some (vI x1), some (vI z.1), some (vI z.2.1), some (vI x4), some (vI z.2.2.1), none]) (fs := fun z => []) (fh := fun z => z.2.2.2) (fun rec hrec z hz => t11_fillsOf_90 l G d hd x1 x4 z.1 z.2.1 z.2.2.1 rec (fun x2 x3 x5 h => hrec (x2, x3, x5, h) trivial) rec72 H72 z.2.2.2 )
def b11_fillsOf_72 (rec72 : Int × Int × Int × AH → Option (Int × AH)) (x1 : Int) (x2 : Int) (x3 : Int) (x4 : Int) (h : AH) : Option (Int × AH) :=
  if w32 (100 * (h.2 69 14)) ≤ w32 x4 then
    some ((10 * x2) + x3, h)
  else
    lt (x4 + 1) fun u32 =>
    l11_fillsOf_90 rec72 x1 x4 x2 x3 u32 h
set_option maxRecDepth 100000 in
theorem t11_fillsOf_72 (l : Launch) (G : Geo) (d : Nat) (hd : 6 ≤ d) (x1 : Int) (x2 : Int) (x3 : Int) (x4 : Int) (rec72 : Int × Int × Int × AH → Option (Int × AH)) (H72 : ∀ (x2 : Int) (x3 : Int) (x4 : Int) (h : AH), Den l G m11_fillsOf rvI d 72 [some (vA G 69), some (vI x1), some (vI x2), some (vI x3), some (vI x4), none, none] [] h (rec72 (x2, x3, x4, h))) (h : AH) : Den l G m11_fillsOf rvI d 72 [some (vA G 69), some (vI x1), some (vI x2), some (vI x3), some (vI x4), none, none] [] h (b11_fillsOf_72 rec72 x1 x2 x3 x4 h) := by
  unfold b11_fillsOf_72
  refine den_iload (pc := 72) d11_fillsOf_72 rfl ?_
  refine den_bipush (pc := 74) d11_fillsOf_74 (by decide) ?_
  refine den_aload_n (pc := 76) d11_fillsOf_76 rfl rfl ?_
  refine den_getI (pc := 77) fa_11_195 (ok_69 _) d11_fillsOf_77 ?_
  refine den_imul (pc := 80) d11_fillsOf_80 ?_
  refine den_icmp_ge (pc := 81) (tgt := 197) d11_fillsOf_81 (by decide) rfl rfl (fun _ => ?_) (fun _ => ?_)
  · refine den_bipush (pc := 197) d11_fillsOf_197 (by decide) ?_
    refine den_iload_n (pc := 199) d11_fillsOf_199 rfl rfl ?_
    refine den_imul (pc := 200) d11_fillsOf_200 ?_
    refine den_iload_n (pc := 201) d11_fillsOf_201 rfl rfl ?_
    refine den_iadd (pc := 202) d11_fillsOf_202 ?_
    exact den_iret (pc := 203) rfl d11_fillsOf_203
  · refine den_iload (pc := 84) d11_fillsOf_84 rfl ?_
    refine den_iconst (pc := 86) d11_fillsOf_86 ?_
    refine den_iadd (pc := 87) d11_fillsOf_87 ?_
    refine den_istoreL (pc := 88) (L2 := fun y => [some (vA G 69), some (vI x1), some (vI x2), some (vI x3), some (vI x4), some (vI y), none]) d11_fillsOf_88 (by decide) (fun _ => rfl) (fun u32 => ?_)
    exact tl11_fillsOf_90 l G _ hd x1 x4 rec72 H72 FU (x2, x3, u32, h) trivial
def l11_fillsOf_72 (x1 : Int) (x2 : Int) (x3 : Int) (x4 : Int) (h : AH) : Option (Int × AH) := fx (fun rec z => b11_fillsOf_72 rec x1 z.1 z.2.1 z.2.2.1 z.2.2.2) FU (x2, x3, x4, h)
set_option maxRecDepth 100000 in
theorem tl11_fillsOf_72 (l : Launch) (G : Geo) (d : Nat) (hd : 6 ≤ d) (x1 : Int) : ∀ (n : Nat) (z : Int × Int × Int × AH), True → Den l G m11_fillsOf rvI d 72 [some (vA G 69), some (vI x1), some (vI z.1), some (vI z.2.1), some (vI z.2.2.1), none, none] [] z.2.2.2 (fx (fun rec z => b11_fillsOf_72 rec x1 z.1 z.2.1 z.2.2.1 z.2.2.2) n z) :=
  den_fx (F := fun rec z => b11_fillsOf_72 rec x1 z.1 z.2.1 z.2.2.1 z.2.2.2) (P := fun z => True) (fL := fun z => [some (vA G 69), some (vI x1), some (vI z.1), some (vI z.2.1), some (vI z.2.2.1), none, none]) (fs := fun z => []) (fh := fun z => z.2.2.2) (fun rec hrec z hz => t11_fillsOf_72 l G d hd x1 z.1 z.2.1 z.2.2.1 rec (fun x2 x3 x4 h => hrec (x2, x3, x4, h) trivial) z.2.2.2 )
def b11_fillsOf_7 (rec7 : Int × Int × Int × AH → Option (Int × AH)) (x1 : Int) (x2 : Int) (x3 : Int) (x4 : Int) (h : AH) : Option (Int × AH) :=
  if w32 (100 * (h.2 69 14)) ≤ w32 x4 then
    l11_fillsOf_72 x1 x2 x3 0 h
  else
    bnd (f11_burnsBy x4 h) fun r33 h34 =>
    if w32 r33 ≤ w32 x2 then
      b11_fillsOf_63 rec7 x1 x2 x3 x4 h34
    else
      bnd (f11_burnsBy x4 h34) fun r37 h38 =>
      bnd (f11_cracksOf x1 h38) fun r41 h42 =>
      if w32 r37 ≤ w32 r41 then
        bnd (f11_burnsBy x4 h42) fun r45 h46 =>
        asrt (0 ≤ w32 0 ∧ w32 0 < 2) <|
        lt (wr h46 85 (w32 0).toNat x4) fun h50 =>
        b11_fillsOf_63 rec7 x1 r45 1 x4 h50
      else
        b11_fillsOf_63 rec7 x1 x2 x3 x4 h42
set_option maxRecDepth 100000 in
theorem t11_fillsOf_7 (l : Launch) (G : Geo) (d : Nat) (hd : 6 ≤ d) (x1 : Int) (x2 : Int) (x3 : Int) (x4 : Int) (rec7 : Int × Int × Int × AH → Option (Int × AH)) (H7 : ∀ (x2 : Int) (x3 : Int) (x4 : Int) (h : AH), Den l G m11_fillsOf rvI d 7 [some (vA G 69), some (vI x1), some (vI x2), some (vI x3), some (vI x4), none, none] [] h (rec7 (x2, x3, x4, h))) (h : AH) : Den l G m11_fillsOf rvI d 7 [some (vA G 69), some (vI x1), some (vI x2), some (vI x3), some (vI x4), none, none] [] h (b11_fillsOf_7 rec7 x1 x2 x3 x4 h) := by
  unfold b11_fillsOf_7
  refine den_iload (pc := 7) d11_fillsOf_7 rfl ?_
  refine den_bipush (pc := 9) d11_fillsOf_9 (by decide) ?_
  refine den_aload_n (pc := 11) d11_fillsOf_11 rfl rfl ?_
  refine den_getI (pc := 12) fa_11_195 (ok_69 _) d11_fillsOf_12 ?_
  refine den_imul (pc := 15) d11_fillsOf_15 ?_
  refine den_icmp_ge (pc := 16) (tgt := 69) d11_fillsOf_16 (by decide) rfl rfl (fun _ => ?_) (fun _ => ?_)
  · refine den_iconst (pc := 69) d11_fillsOf_69 ?_
    refine den_istore (pc := 70) (L2 := [some (vA G 69), some (vI x1), some (vI x2), some (vI x3), some (vI 0), none, none]) d11_fillsOf_70 (by decide) rfl ?_
    exact tl11_fillsOf_72 l G _ hd x1 FU (x2, x3, 0, h) trivial
  · refine den_aload_n (pc := 19) d11_fillsOf_19 rfl rfl ?_
    refine den_iload (pc := 20) d11_fillsOf_20 rfl ?_
    refine den_callVI (pc := 22) (As := [vI x4]) fv_11_289 rfl rfl (ok_69 _) (Nat.le_of_ble_eq_true rfl) (Nat.le_trans (by decide) hd) d11_fillsOf_22 (c11_burnsBy l G x4 h) (fun r33 h34 m35 o36 => ?_)
    refine den_iload_n (pc := 25) d11_fillsOf_25 rfl rfl ?_
    refine den_icmp_le (pc := 26) (tgt := 63) d11_fillsOf_26 (by decide) rfl rfl (fun _ => ?_) (fun _ => ?_)
    · exact t11_fillsOf_63 l G _ hd x1 x2 x3 x4 rec7 H7 h34
    · refine den_aload_n (pc := 29) d11_fillsOf_29 rfl rfl ?_
      refine den_iload (pc := 30) d11_fillsOf_30 rfl ?_
      refine den_callVI (pc := 32) (As := [vI x4]) fv_11_289 rfl rfl (ok_69 _) (Nat.le_of_ble_eq_true rfl) (Nat.le_trans (by decide) hd) d11_fillsOf_32 (c11_burnsBy l G x4 h34) (fun r37 h38 m39 o40 => ?_)
      refine den_aload_n (pc := 35) d11_fillsOf_35 rfl rfl ?_
      refine den_iload_n (pc := 36) d11_fillsOf_36 rfl rfl ?_
      refine den_callVI (pc := 37) (As := [vI x1]) fv_11_222 rfl rfl (ok_69 _) (Nat.le_of_ble_eq_true rfl) (Nat.le_trans (by decide) hd) d11_fillsOf_37 (c11_cracksOf l G x1 h38) (fun r41 h42 m43 o44 => ?_)
      refine den_icmp_le (pc := 40) (tgt := 46) d11_fillsOf_40 (by decide) rfl rfl (fun _ => ?_) (fun _ => ?_)
      · refine den_aload_n (pc := 46) d11_fillsOf_46 rfl rfl ?_
        refine den_iload (pc := 47) d11_fillsOf_47 rfl ?_
        refine den_callVI (pc := 49) (As := [vI x4]) fv_11_289 rfl rfl (ok_69 _) (Nat.le_of_ble_eq_true rfl) (Nat.le_trans (by decide) hd) d11_fillsOf_49 (c11_burnsBy l G x4 h42) (fun r45 h46 m47 o48 => ?_)
        refine den_istore_n (pc := 52) (L2 := [some (vA G 69), some (vI x1), some (vI r45), some (vI x3), some (vI x4), none, none]) d11_fillsOf_52 rfl (by decide) rfl ?_
        refine den_iconst (pc := 53) d11_fillsOf_53 ?_
        refine den_istore_n (pc := 54) (L2 := [some (vA G 69), some (vI x1), some (vI r45), some (vI 1), some (vI x4), none, none]) d11_fillsOf_54 rfl (by decide) rfl ?_
        refine den_aload_n (pc := 55) d11_fillsOf_55 rfl rfl ?_
        refine den_getR (pc := 56) (b := 85) fa_11_56 (ok_69 _) rfl d11_fillsOf_56 ?_
        refine den_iconst (pc := 59) d11_fillsOf_59 ?_
        refine den_iload (pc := 60) d11_fillsOf_60 rfl ?_
        refine den_asrt (fun a49 => ?_)
        refine den_iastore (pc := 62) sh_85 (sz_lt (by decide)) rfl a49 d11_fillsOf_62 ?_
        refine den_ltH (fun h50 m51 => ?_)
        exact t11_fillsOf_63 l G _ hd x1 r45 1 x4 rec7 H7 h50
      · refine den_goto (pc := 43) (tgt := 63) d11_fillsOf_43 (by decide) ?_
        exact t11_fillsOf_63 l G _ hd x1 x2 x3 x4 rec7 H7 h42
def l11_fillsOf_7 (x1 : Int) (x2 : Int) (x3 : Int) (x4 : Int) (h : AH) : Option (Int × AH) := fx (fun rec z => b11_fillsOf_7 rec x1 z.1 z.2.1 z.2.2.1 z.2.2.2) FU (x2, x3, x4, h)
set_option maxRecDepth 100000 in
theorem tl11_fillsOf_7 (l : Launch) (G : Geo) (d : Nat) (hd : 6 ≤ d) (x1 : Int) : ∀ (n : Nat) (z : Int × Int × Int × AH), True → Den l G m11_fillsOf rvI d 7 [some (vA G 69), some (vI x1), some (vI z.1), some (vI z.2.1), some (vI z.2.2.1), none, none] [] z.2.2.2 (fx (fun rec z => b11_fillsOf_7 rec x1 z.1 z.2.1 z.2.2.1 z.2.2.2) n z) :=
  den_fx (F := fun rec z => b11_fillsOf_7 rec x1 z.1 z.2.1 z.2.2.1 z.2.2.2) (P := fun z => True) (fL := fun z => [some (vA G 69), some (vI x1), some (vI z.1), some (vI z.2.1), some (vI z.2.2.1), none, none]) (fs := fun z => []) (fh := fun z => z.2.2.2) (fun rec hrec z hz => t11_fillsOf_7 l G d hd x1 z.1 z.2.1 z.2.2.1 rec (fun x2 x3 x4 h => hrec (x2, x3, x4, h) trivial) z.2.2.2 )
def f11_fillsOf (x1 : Int) (h : AH) : Option (Int × AH) :=
  l11_fillsOf_7 x1 0 0 0 h
set_option maxRecDepth 100000 in
theorem c11_fillsOf (l : Launch) (G : Geo) (x1 : Int) (h : AH) : Con l G m11_fillsOf rvI 6 [vA G 69, vI x1] h (f11_fillsOf x1 h) := by
  have hd : 6 ≤ 6 := Nat.le_refl _
  refine con_I rfl (by decide) rfl rfl (Nat.le_of_ble_eq_true rfl) (L := [some (vA G 69), some (vI x1), none, none, none, none, none]) ?_
  unfold f11_fillsOf
  refine den_iconst (pc := 0) d11_fillsOf_0 ?_
  refine den_istore_n (pc := 1) (L2 := [some (vA G 69), some (vI x1), some (vI 0), none, none, none, none]) d11_fillsOf_1 rfl (by decide) rfl ?_
  refine den_iconst (pc := 2) d11_fillsOf_2 ?_
  refine den_istore_n (pc := 3) (L2 := [some (vA G 69), some (vI x1), some (vI 0), some (vI 0), none, none, none]) d11_fillsOf_3 rfl (by decide) rfl ?_
  refine den_iconst (pc := 4) d11_fillsOf_4 ?_
  refine den_istore (pc := 5) (L2 := [some (vA G 69), some (vI x1), some (vI 0), some (vI 0), some (vI 0), none, none]) d11_fillsOf_5 (by decide) rfl ?_
  exact tl11_fillsOf_7 l G _ hd x1 FU (0, 0, 0, h) trivial
theorem d11_filled_0 : decode m11_filled.2.1 0 = .ok (.aload_n 0, 1) := by decide +kernel
theorem d11_filled_1 : decode m11_filled.2.1 1 = .ok (.iload_n 1, 1) := by decide +kernel
theorem d11_filled_2 : decode m11_filled.2.1 2 = .ok (.invokevirtual 201, 3) := by decide +kernel
theorem d11_filled_5 : decode m11_filled.2.1 5 = .ok (.ifCond .eq 22, 3) := by decide +kernel
theorem d11_filled_8 : decode m11_filled.2.1 8 = .ok (.iload_n 2, 1) := by decide +kernel
theorem d11_filled_9 : decode m11_filled.2.1 9 = .ok (.iconst 0, 1) := by decide +kernel
theorem d11_filled_10 : decode m11_filled.2.1 10 = .ok (.aload_n 0, 1) := by decide +kernel
theorem d11_filled_11 : decode m11_filled.2.1 11 = .ok (.getfield 198, 3) := by decide +kernel
theorem d11_filled_14 : decode m11_filled.2.1 14 = .ok (.iconst 1, 1) := by decide +kernel
theorem d11_filled_15 : decode m11_filled.2.1 15 = .ok (.isub, 1) := by decide +kernel
theorem d11_filled_16 : decode m11_filled.2.1 16 = .ok (.invokestatic 135, 3) := by decide +kernel
theorem d11_filled_19 : decode m11_filled.2.1 19 = .ok (.ifCond .eq 8, 3) := by decide +kernel
theorem d11_filled_22 : decode m11_filled.2.1 22 = .ok (.iload_n 3, 1) := by decide +kernel
theorem d11_filled_23 : decode m11_filled.2.1 23 = .ok (.iconst (-1), 1) := by decide +kernel
theorem d11_filled_24 : decode m11_filled.2.1 24 = .ok (.if_icmp .ge 5, 3) := by decide +kernel
theorem d11_filled_27 : decode m11_filled.2.1 27 = .ok (.iconst (-1), 1) := by decide +kernel
theorem d11_filled_28 : decode m11_filled.2.1 28 = .ok (.ireturn, 1) := by decide +kernel
theorem d11_filled_29 : decode m11_filled.2.1 29 = .ok (.aload_n 0, 1) := by decide +kernel
theorem d11_filled_30 : decode m11_filled.2.1 30 = .ok (.iload_n 2, 1) := by decide +kernel
theorem d11_filled_31 : decode m11_filled.2.1 31 = .ok (.invokevirtual 295, 3) := by decide +kernel
theorem d11_filled_34 : decode m11_filled.2.1 34 = .ok (.istore 4, 2) := by decide +kernel
theorem d11_filled_36 : decode m11_filled.2.1 36 = .ok (.iload_n 3, 1) := by decide +kernel
theorem d11_filled_37 : decode m11_filled.2.1 37 = .ok (.iconst (-1), 1) := by decide +kernel
theorem d11_filled_38 : decode m11_filled.2.1 38 = .ok (.if_icmp .ne 11, 3) := by decide +kernel
theorem d11_filled_41 : decode m11_filled.2.1 41 = .ok (.iload 4, 2) := by decide +kernel
theorem d11_filled_43 : decode m11_filled.2.1 43 = .ok (.bipush 10, 2) := by decide +kernel
theorem d11_filled_45 : decode m11_filled.2.1 45 = .ok (.idiv, 1) := by decide +kernel
theorem d11_filled_46 : decode m11_filled.2.1 46 = .ok (.goto 22, 3) := by decide +kernel
theorem d11_filled_49 : decode m11_filled.2.1 49 = .ok (.iload_n 3, 1) := by decide +kernel
theorem d11_filled_50 : decode m11_filled.2.1 50 = .ok (.iload 4, 2) := by decide +kernel
theorem d11_filled_52 : decode m11_filled.2.1 52 = .ok (.bipush 10, 2) := by decide +kernel
theorem d11_filled_54 : decode m11_filled.2.1 54 = .ok (.irem, 1) := by decide +kernel
theorem d11_filled_55 : decode m11_filled.2.1 55 = .ok (.if_icmp .ge 12, 3) := by decide +kernel
theorem d11_filled_58 : decode m11_filled.2.1 58 = .ok (.aload_n 0, 1) := by decide +kernel
theorem d11_filled_59 : decode m11_filled.2.1 59 = .ok (.getfield 56, 3) := by decide +kernel
theorem d11_filled_62 : decode m11_filled.2.1 62 = .ok (.iload_n 3, 1) := by decide +kernel
theorem d11_filled_63 : decode m11_filled.2.1 63 = .ok (.iaload, 1) := by decide +kernel
theorem d11_filled_64 : decode m11_filled.2.1 64 = .ok (.goto 4, 3) := by decide +kernel
theorem d11_filled_67 : decode m11_filled.2.1 67 = .ok (.iconst (-1), 1) := by decide +kernel
theorem d11_filled_68 : decode m11_filled.2.1 68 = .ok (.ireturn, 1) := by decide +kernel
def f11_filled (x1 : Int) (x2 : Int) (x3 : Int) (h : AH) : Option (Int × AH) :=
  bnd (f11_isVillage x1 h) fun r1 h2 =>
  if w32 r1 = 0 then
    some ((-1), h2)
  else
    bnd (f11_isIn x2 0 ((h2.2 69 15) - 1) h2) fun r5 h6 =>
    if w32 r5 = 0 then
      some ((-1), h6)
    else
      if (-1) ≤ w32 x3 then
        bnd (f11_fillsOf x2 h6) fun r9 h10 =>
        if ¬ w32 x3 = (-1) then
          if w32 (rm32 r9 10) ≤ w32 x3 then
            some ((-1), h10)
          else
            asrt (0 ≤ w32 x3 ∧ w32 x3 < 2) <|
            some (h10.2 85 (w32 x3).toNat, h10)
        else
          some (dv32 r9 10, h10)
      else
        some ((-1), h6)
set_option maxRecDepth 100000 in
theorem c11_filled (l : Launch) (G : Geo) (x1 : Int) (x2 : Int) (x3 : Int) (h : AH) : Con l G m11_filled rvI 7 [vA G 69, vI x1, vI x2, vI x3] h (f11_filled x1 x2 x3 h) := by
  have hd : 7 ≤ 7 := Nat.le_refl _
  refine con_I rfl (by decide) rfl rfl (Nat.le_of_ble_eq_true rfl) (L := [some (vA G 69), some (vI x1), some (vI x2), some (vI x3), none]) ?_
  unfold f11_filled
  refine den_aload_n (pc := 0) d11_filled_0 rfl rfl ?_
  refine den_iload_n (pc := 1) d11_filled_1 rfl rfl ?_
  refine den_callVI (pc := 2) (As := [vI x1]) fv_11_201 rfl rfl (ok_69 _) (Nat.le_of_ble_eq_true rfl) (Nat.le_trans (by decide) hd) d11_filled_2 (c11_isVillage l G x1 h) (fun r1 h2 m3 o4 => ?_)
  refine den_if_eq (pc := 5) (tgt := 27) d11_filled_5 (by decide) rfl (fun _ => ?_) (fun _ => ?_)
  · refine den_iconst (pc := 27) d11_filled_27 ?_
    exact den_iret (pc := 28) rfl d11_filled_28
  · refine den_iload_n (pc := 8) d11_filled_8 rfl rfl ?_
    refine den_iconst (pc := 9) d11_filled_9 ?_
    refine den_aload_n (pc := 10) d11_filled_10 rfl rfl ?_
    refine den_getI (pc := 11) fa_11_198 (ok_69 _) d11_filled_11 ?_
    refine den_iconst (pc := 14) d11_filled_14 ?_
    refine den_isub (pc := 15) d11_filled_15 ?_
    refine den_callSI (pc := 16) (As := [vI x2, vI 0, vI ((h2.2 69 15) - 1)]) fs_11_135 rfl rfl (Nat.le_of_ble_eq_true rfl) (Nat.le_trans (by decide) hd) d11_filled_16 (c11_isIn l G x2 0 ((h2.2 69 15) - 1) h2) (fun r5 h6 m7 o8 => ?_)
    refine den_if_eq (pc := 19) (tgt := 27) d11_filled_19 (by decide) rfl (fun _ => ?_) (fun _ => ?_)
    · refine den_iconst (pc := 27) d11_filled_27 ?_
      exact den_iret (pc := 28) rfl d11_filled_28
    · refine den_iload_n (pc := 22) d11_filled_22 rfl rfl ?_
      refine den_iconst (pc := 23) d11_filled_23 ?_
      refine den_icmp_ge (pc := 24) (tgt := 29) d11_filled_24 (by decide) rfl (by decide) (fun _ => ?_) (fun _ => ?_)
      · refine den_aload_n (pc := 29) d11_filled_29 rfl rfl ?_
        refine den_iload_n (pc := 30) d11_filled_30 rfl rfl ?_
        refine den_callVI (pc := 31) (As := [vI x2]) fv_11_295 rfl rfl (ok_69 _) (Nat.le_of_ble_eq_true rfl) (Nat.le_trans (by decide) hd) d11_filled_31 (c11_fillsOf l G x2 h6) (fun r9 h10 m11 o12 => ?_)
        refine den_istore (pc := 34) (L2 := [some (vA G 69), some (vI x1), some (vI x2), some (vI x3), some (vI r9)]) d11_filled_34 (by decide) rfl ?_
        refine den_iload_n (pc := 36) d11_filled_36 rfl rfl ?_
        refine den_iconst (pc := 37) d11_filled_37 ?_
        refine den_icmp_ne (pc := 38) (tgt := 49) d11_filled_38 (by decide) rfl (by decide) (fun _ => ?_) (fun _ => ?_)
        · refine den_iload_n (pc := 49) d11_filled_49 rfl rfl ?_
          refine den_iload (pc := 50) d11_filled_50 rfl ?_
          refine den_bipush (pc := 52) d11_filled_52 (by decide) ?_
          refine den_irem (pc := 54) d11_filled_54 (by decide) ?_
          refine den_icmp_ge (pc := 55) (tgt := 67) d11_filled_55 (by decide) rfl rfl (fun _ => ?_) (fun _ => ?_)
          · refine den_iconst (pc := 67) d11_filled_67 ?_
            exact den_iret (pc := 68) rfl d11_filled_68
          · refine den_aload_n (pc := 58) d11_filled_58 rfl rfl ?_
            refine den_getR (pc := 59) (b := 85) fa_11_56 (ok_69 _) rfl d11_filled_59 ?_
            refine den_iload_n (pc := 62) d11_filled_62 rfl rfl ?_
            refine den_asrt (fun a13 => ?_)
            refine den_iaload (pc := 63) sh_85 (sz_lt (by decide)) rfl a13 d11_filled_63 ?_
            refine den_goto (pc := 64) (tgt := 68) d11_filled_64 (by decide) ?_
            exact den_iret (pc := 68) rfl d11_filled_68
        · refine den_iload (pc := 41) d11_filled_41 rfl ?_
          refine den_bipush (pc := 43) d11_filled_43 (by decide) ?_
          refine den_idiv (pc := 45) d11_filled_45 (by decide) ?_
          refine den_goto (pc := 46) (tgt := 68) d11_filled_46 (by decide) ?_
          exact den_iret (pc := 68) rfl d11_filled_68
      · refine den_iconst (pc := 27) d11_filled_27 ?_
        exact den_iret (pc := 28) rfl d11_filled_28
theorem d11_keenOf_0 : decode m11_keenOf.2.1 0 = .ok (.iconst 0, 1) := by decide +kernel
theorem d11_keenOf_1 : decode m11_keenOf.2.1 1 = .ok (.istore_n 3, 1) := by decide +kernel
theorem d11_keenOf_2 : decode m11_keenOf.2.1 2 = .ok (.iconst 0, 1) := by decide +kernel
theorem d11_keenOf_3 : decode m11_keenOf.2.1 3 = .ok (.istore 4, 2) := by decide +kernel
theorem d11_keenOf_5 : decode m11_keenOf.2.1 5 = .ok (.iload 4, 2) := by decide +kernel
theorem d11_keenOf_7 : decode m11_keenOf.2.1 7 = .ok (.aload_n 0, 1) := by decide +kernel
theorem d11_keenOf_8 : decode m11_keenOf.2.1 8 = .ok (.getfield 195, 3) := by decide +kernel
theorem d11_keenOf_11 : decode m11_keenOf.2.1 11 = .ok (.if_icmp .ge 34, 3) := by decide +kernel
theorem d11_keenOf_14 : decode m11_keenOf.2.1 14 = .ok (.aload_n 0, 1) := by decide +kernel
theorem d11_keenOf_15 : decode m11_keenOf.2.1 15 = .ok (.iload_n 1, 1) := by decide +kernel
theorem d11_keenOf_16 : decode m11_keenOf.2.1 16 = .ok (.iload_n 2, 1) := by decide +kernel
theorem d11_keenOf_17 : decode m11_keenOf.2.1 17 = .ok (.iload 4, 2) := by decide +kernel
theorem d11_keenOf_19 : decode m11_keenOf.2.1 19 = .ok (.invokevirtual 234, 3) := by decide +kernel
theorem d11_keenOf_22 : decode m11_keenOf.2.1 22 = .ok (.iload_n 3, 1) := by decide +kernel
theorem d11_keenOf_23 : decode m11_keenOf.2.1 23 = .ok (.if_icmp .le 14, 3) := by decide +kernel
theorem d11_keenOf_26 : decode m11_keenOf.2.1 26 = .ok (.aload_n 0, 1) := by decide +kernel
theorem d11_keenOf_27 : decode m11_keenOf.2.1 27 = .ok (.iload_n 1, 1) := by decide +kernel
theorem d11_keenOf_28 : decode m11_keenOf.2.1 28 = .ok (.iload_n 2, 1) := by decide +kernel
theorem d11_keenOf_29 : decode m11_keenOf.2.1 29 = .ok (.iload 4, 2) := by decide +kernel
theorem d11_keenOf_31 : decode m11_keenOf.2.1 31 = .ok (.invokevirtual 234, 3) := by decide +kernel
theorem d11_keenOf_34 : decode m11_keenOf.2.1 34 = .ok (.goto 4, 3) := by decide +kernel
theorem d11_keenOf_37 : decode m11_keenOf.2.1 37 = .ok (.iload_n 3, 1) := by decide +kernel
theorem d11_keenOf_38 : decode m11_keenOf.2.1 38 = .ok (.istore_n 3, 1) := by decide +kernel
theorem d11_keenOf_39 : decode m11_keenOf.2.1 39 = .ok (.iinc 4 1, 3) := by decide +kernel
theorem d11_keenOf_42 : decode m11_keenOf.2.1 42 = .ok (.goto (-37), 3) := by decide +kernel
theorem d11_keenOf_45 : decode m11_keenOf.2.1 45 = .ok (.iload_n 3, 1) := by decide +kernel
theorem d11_keenOf_46 : decode m11_keenOf.2.1 46 = .ok (.ireturn, 1) := by decide +kernel
def b11_keenOf_38 (rec5 : Int × Int × AH → Option (Int × AH)) (x1 : Int) (x2 : Int) (x4 : Int) (s0 : Int) (h : AH) : Option (Int × AH) :=
  rec5 (s0, (x4 + 1), h)
set_option maxRecDepth 100000 in
theorem t11_keenOf_38 (l : Launch) (G : Geo) (d : Nat) (hd : 5 ≤ d) (x1 : Int) (x2 : Int) (x4 : Int) (s0 : Int) (rec5 : Int × Int × AH → Option (Int × AH)) (H5 : ∀ (x3 : Int) (x4 : Int) (h : AH), Den l G m11_keenOf rvI d 5 [some (vA G 69), some (vI x1), some (vI x2), some (vI x3), some (vI x4)] [] h (rec5 (x3, x4, h))) (h : AH) : Den l G m11_keenOf rvI d 38 [some (vA G 69), some (vI x1), some (vI x2), none, some (vI x4)] [vI s0] h (b11_keenOf_38 rec5 x1 x2 x4 s0 h) := by
  unfold b11_keenOf_38
  refine den_istore_n (pc := 38) (L2 := [some (vA G 69), some (vI x1), some (vI x2), some (vI s0), some (vI x4)]) d11_keenOf_38 rfl (by decide) rfl ?_
  refine den_iinc (pc := 39) (L2 := [some (vA G 69), some (vI x1), some (vI x2), some (vI s0), some (vI (x4 + 1))]) d11_keenOf_39 (by decide) rfl rfl ?_
  refine den_goto (pc := 42) (tgt := 5) d11_keenOf_42 (by decide) ?_
  exact H5 s0 (x4 + 1) h
def b11_keenOf_5 (rec5 : Int × Int × AH → Option (Int × AH)) (x1 : Int) (x2 : Int) (x3 : Int) (x4 : Int) (h : AH) : Option (Int × AH) :=
  if w32 (h.2 69 14) ≤ w32 x4 then
    some (x3, h)
  else
    bnd (f11_burnsOf x1 x2 x4 h) fun r1 h2 =>
    if w32 r1 ≤ w32 x3 then
      b11_keenOf_38 rec5 x1 x2 x4 x3 h2
    else
      bnd (f11_burnsOf x1 x2 x4 h2) fun r5 h6 =>
      b11_keenOf_38 rec5 x1 x2 x4 r5 h6
set_option maxRecDepth 100000 in
theorem t11_keenOf_5 (l : Launch) (G : Geo) (d : Nat) (hd : 5 ≤ d) (x1 : Int) (x2 : Int) (x3 : Int) (x4 : Int) (rec5 : Int × Int × AH → Option (Int × AH)) (H5 : ∀ (x3 : Int) (x4 : Int) (h : AH), Den l G m11_keenOf rvI d 5 [some (vA G 69), some (vI x1), some (vI x2), some (vI x3), some (vI x4)] [] h (rec5 (x3, x4, h))) (h : AH) : Den l G m11_keenOf rvI d 5 [some (vA G 69), some (vI x1), some (vI x2), some (vI x3), some (vI x4)] [] h (b11_keenOf_5 rec5 x1 x2 x3 x4 h) := by
  unfold b11_keenOf_5
  refine den_iload (pc := 5) d11_keenOf_5 rfl ?_
  refine den_aload_n (pc := 7) d11_keenOf_7 rfl rfl ?_
  refine den_getI (pc := 8) fa_11_195 (ok_69 _) d11_keenOf_8 ?_
  refine den_icmp_ge (pc := 11) (tgt := 45) d11_keenOf_11 (by decide) rfl rfl (fun _ => ?_) (fun _ => ?_)
  · refine den_iload_n (pc := 45) d11_keenOf_45 rfl rfl ?_
    exact den_iret (pc := 46) rfl d11_keenOf_46
  · refine den_aload_n (pc := 14) d11_keenOf_14 rfl rfl ?_
    refine den_iload_n (pc := 15) d11_keenOf_15 rfl rfl ?_
    refine den_iload_n (pc := 16) d11_keenOf_16 rfl rfl ?_
    refine den_iload (pc := 17) d11_keenOf_17 rfl ?_
    refine den_callVI (pc := 19) (As := [vI x1, vI x2, vI x4]) fv_11_234 rfl rfl (ok_69 _) (Nat.le_of_ble_eq_true rfl) (Nat.le_trans (by decide) hd) d11_keenOf_19 (c11_burnsOf l G x1 x2 x4 h) (fun r1 h2 m3 o4 => ?_)
    refine den_iload_n (pc := 22) d11_keenOf_22 rfl rfl ?_
    refine den_icmp_le (pc := 23) (tgt := 37) d11_keenOf_23 (by decide) rfl rfl (fun _ => ?_) (fun _ => ?_)
    · refine den_iload_n (pc := 37) d11_keenOf_37 rfl rfl ?_
      refine den_wk [true, true, true, false, true] rfl ?_
      exact t11_keenOf_38 l G _ hd x1 x2 x4 x3 rec5 H5 h2
    · refine den_aload_n (pc := 26) d11_keenOf_26 rfl rfl ?_
      refine den_iload_n (pc := 27) d11_keenOf_27 rfl rfl ?_
      refine den_iload_n (pc := 28) d11_keenOf_28 rfl rfl ?_
      refine den_iload (pc := 29) d11_keenOf_29 rfl ?_
      refine den_callVI (pc := 31) (As := [vI x1, vI x2, vI x4]) fv_11_234 rfl rfl (ok_69 _) (Nat.le_of_ble_eq_true rfl) (Nat.le_trans (by decide) hd) d11_keenOf_31 (c11_burnsOf l G x1 x2 x4 h2) (fun r5 h6 m7 o8 => ?_)
      refine den_goto (pc := 34) (tgt := 38) d11_keenOf_34 (by decide) ?_
      refine den_wk [true, true, true, false, true] rfl ?_
      exact t11_keenOf_38 l G _ hd x1 x2 x4 r5 rec5 H5 h6
def l11_keenOf_5 (x1 : Int) (x2 : Int) (x3 : Int) (x4 : Int) (h : AH) : Option (Int × AH) := fx (fun rec z => b11_keenOf_5 rec x1 x2 z.1 z.2.1 z.2.2) FU (x3, x4, h)
set_option maxRecDepth 100000 in
theorem tl11_keenOf_5 (l : Launch) (G : Geo) (d : Nat) (hd : 5 ≤ d) (x1 : Int) (x2 : Int) : ∀ (n : Nat) (z : Int × Int × AH), True → Den l G m11_keenOf rvI d 5 [some (vA G 69), some (vI x1), some (vI x2), some (vI z.1), some (vI z.2.1)] [] z.2.2 (fx (fun rec z => b11_keenOf_5 rec x1 x2 z.1 z.2.1 z.2.2) n z) :=
  den_fx (F := fun rec z => b11_keenOf_5 rec x1 x2 z.1 z.2.1 z.2.2) (P := fun z => True) (fL := fun z => [some (vA G 69), some (vI x1), some (vI x2), some (vI z.1), some (vI z.2.1)]) (fs := fun z => []) (fh := fun z => z.2.2) (fun rec hrec z hz => t11_keenOf_5 l G d hd x1 x2 z.1 z.2.1 rec (fun x3 x4 h => hrec (x3, x4, h) trivial) z.2.2 )
def f11_keenOf (x1 : Int) (x2 : Int) (h : AH) : Option (Int × AH) :=
  l11_keenOf_5 x1 x2 0 0 h
set_option maxRecDepth 100000 in
theorem c11_keenOf (l : Launch) (G : Geo) (x1 : Int) (x2 : Int) (h : AH) : Con l G m11_keenOf rvI 5 [vA G 69, vI x1, vI x2] h (f11_keenOf x1 x2 h) := by
  have hd : 5 ≤ 5 := Nat.le_refl _
  refine con_I rfl (by decide) rfl rfl (Nat.le_of_ble_eq_true rfl) (L := [some (vA G 69), some (vI x1), some (vI x2), none, none]) ?_
  unfold f11_keenOf
  refine den_iconst (pc := 0) d11_keenOf_0 ?_
  refine den_istore_n (pc := 1) (L2 := [some (vA G 69), some (vI x1), some (vI x2), some (vI 0), none]) d11_keenOf_1 rfl (by decide) rfl ?_
  refine den_iconst (pc := 2) d11_keenOf_2 ?_
  refine den_istore (pc := 3) (L2 := [some (vA G 69), some (vI x1), some (vI x2), some (vI 0), some (vI 0)]) d11_keenOf_3 (by decide) rfl ?_
  exact tl11_keenOf_5 l G _ hd x1 x2 FU (0, 0, h) trivial
theorem d11_halves_0 : decode m11_halves.2.1 0 = .ok (.aload_n 0, 1) := by decide +kernel
theorem d11_halves_1 : decode m11_halves.2.1 1 = .ok (.iload_n 1, 1) := by decide +kernel
theorem d11_halves_2 : decode m11_halves.2.1 2 = .ok (.invokevirtual 201, 3) := by decide +kernel
theorem d11_halves_5 : decode m11_halves.2.1 5 = .ok (.ifCond .eq 10, 3) := by decide +kernel
theorem d11_halves_8 : decode m11_halves.2.1 8 = .ok (.aload_n 0, 1) := by decide +kernel
theorem d11_halves_9 : decode m11_halves.2.1 9 = .ok (.getfield 192, 3) := by decide +kernel
theorem d11_halves_12 : decode m11_halves.2.1 12 = .ok (.ifCond .ne 5, 3) := by decide +kernel
theorem d11_halves_15 : decode m11_halves.2.1 15 = .ok (.iconst (-1), 1) := by decide +kernel
theorem d11_halves_16 : decode m11_halves.2.1 16 = .ok (.ireturn, 1) := by decide +kernel
theorem d11_halves_17 : decode m11_halves.2.1 17 = .ok (.iconst 0, 1) := by decide +kernel
theorem d11_halves_18 : decode m11_halves.2.1 18 = .ok (.istore_n 3, 1) := by decide +kernel
theorem d11_halves_19 : decode m11_halves.2.1 19 = .ok (.iload_n 3, 1) := by decide +kernel
theorem d11_halves_20 : decode m11_halves.2.1 20 = .ok (.bipush 64, 2) := by decide +kernel
theorem d11_halves_22 : decode m11_halves.2.1 22 = .ok (.if_icmp .ge 64, 3) := by decide +kernel
theorem d11_halves_25 : decode m11_halves.2.1 25 = .ok (.aload_n 0, 1) := by decide +kernel
theorem d11_halves_26 : decode m11_halves.2.1 26 = .ok (.getfield 59, 3) := by decide +kernel
theorem d11_halves_29 : decode m11_halves.2.1 29 = .ok (.iload_n 3, 1) := by decide +kernel
theorem d11_halves_30 : decode m11_halves.2.1 30 = .ok (.iload_n 3, 1) := by decide +kernel
theorem d11_halves_31 : decode m11_halves.2.1 31 = .ok (.bipush 8, 2) := by decide +kernel
theorem d11_halves_33 : decode m11_halves.2.1 33 = .ok (.idiv, 1) := by decide +kernel
theorem d11_halves_34 : decode m11_halves.2.1 34 = .ok (.aload_n 0, 1) := by decide +kernel
theorem d11_halves_35 : decode m11_halves.2.1 35 = .ok (.getfield 192, 3) := by decide +kernel
theorem d11_halves_38 : decode m11_halves.2.1 38 = .ok (.if_icmp .ge 40, 3) := by decide +kernel
theorem d11_halves_41 : decode m11_halves.2.1 41 = .ok (.iload_n 3, 1) := by decide +kernel
theorem d11_halves_42 : decode m11_halves.2.1 42 = .ok (.bipush 8, 2) := by decide +kernel
theorem d11_halves_44 : decode m11_halves.2.1 44 = .ok (.irem, 1) := by decide +kernel
theorem d11_halves_45 : decode m11_halves.2.1 45 = .ok (.aload_n 0, 1) := by decide +kernel
theorem d11_halves_46 : decode m11_halves.2.1 46 = .ok (.getfield 192, 3) := by decide +kernel
theorem d11_halves_49 : decode m11_halves.2.1 49 = .ok (.if_icmp .ge 29, 3) := by decide +kernel
theorem d11_halves_52 : decode m11_halves.2.1 52 = .ok (.iload_n 3, 1) := by decide +kernel
theorem d11_halves_53 : decode m11_halves.2.1 53 = .ok (.bipush 8, 2) := by decide +kernel
theorem d11_halves_55 : decode m11_halves.2.1 55 = .ok (.idiv, 1) := by decide +kernel
theorem d11_halves_56 : decode m11_halves.2.1 56 = .ok (.iload_n 3, 1) := by decide +kernel
theorem d11_halves_57 : decode m11_halves.2.1 57 = .ok (.bipush 8, 2) := by decide +kernel
theorem d11_halves_59 : decode m11_halves.2.1 59 = .ok (.irem, 1) := by decide +kernel
theorem d11_halves_60 : decode m11_halves.2.1 60 = .ok (.if_icmp .eq 18, 3) := by decide +kernel
theorem d11_halves_63 : decode m11_halves.2.1 63 = .ok (.aload_n 0, 1) := by decide +kernel
theorem d11_halves_64 : decode m11_halves.2.1 64 = .ok (.iload_n 3, 1) := by decide +kernel
theorem d11_halves_65 : decode m11_halves.2.1 65 = .ok (.bipush 8, 2) := by decide +kernel
theorem d11_halves_67 : decode m11_halves.2.1 67 = .ok (.idiv, 1) := by decide +kernel
theorem d11_halves_68 : decode m11_halves.2.1 68 = .ok (.iload_n 3, 1) := by decide +kernel
theorem d11_halves_69 : decode m11_halves.2.1 69 = .ok (.bipush 8, 2) := by decide +kernel
theorem d11_halves_71 : decode m11_halves.2.1 71 = .ok (.irem, 1) := by decide +kernel
theorem d11_halves_72 : decode m11_halves.2.1 72 = .ok (.invokevirtual 298, 3) := by decide +kernel
theorem d11_halves_75 : decode m11_halves.2.1 75 = .ok (.goto 4, 3) := by decide +kernel
theorem d11_halves_78 : decode m11_halves.2.1 78 = .ok (.iconst 0, 1) := by decide +kernel
theorem d11_halves_79 : decode m11_halves.2.1 79 = .ok (.iastore, 1) := by decide +kernel
theorem d11_halves_80 : decode m11_halves.2.1 80 = .ok (.iinc 3 1, 3) := by decide +kernel
theorem d11_halves_83 : decode m11_halves.2.1 83 = .ok (.goto (-64), 3) := by decide +kernel
theorem d11_halves_86 : decode m11_halves.2.1 86 = .ok (.iconst (-1), 1) := by decide +kernel
theorem d11_halves_87 : decode m11_halves.2.1 87 = .ok (.istore_n 3, 1) := by decide +kernel
theorem d11_halves_88 : decode m11_halves.2.1 88 = .ok (.iconst (-1), 1) := by decide +kernel
theorem d11_halves_89 : decode m11_halves.2.1 89 = .ok (.istore 4, 2) := by decide +kernel
theorem d11_halves_91 : decode m11_halves.2.1 91 = .ok (.iconst 1, 1) := by decide +kernel
theorem d11_halves_92 : decode m11_halves.2.1 92 = .ok (.istore 5, 2) := by decide +kernel
theorem d11_halves_94 : decode m11_halves.2.1 94 = .ok (.iload 5, 2) := by decide +kernel
theorem d11_halves_96 : decode m11_halves.2.1 96 = .ok (.iconst 1, 1) := by decide +kernel
theorem d11_halves_97 : decode m11_halves.2.1 97 = .ok (.aload_n 0, 1) := by decide +kernel
theorem d11_halves_98 : decode m11_halves.2.1 98 = .ok (.getfield 192, 3) := by decide +kernel
theorem d11_halves_101 : decode m11_halves.2.1 101 = .ok (.ishl, 1) := by decide +kernel
theorem d11_halves_102 : decode m11_halves.2.1 102 = .ok (.if_icmp .ge 88, 3) := by decide +kernel
theorem d11_halves_105 : decode m11_halves.2.1 105 = .ok (.iconst 0, 1) := by decide +kernel
theorem d11_halves_106 : decode m11_halves.2.1 106 = .ok (.istore 6, 2) := by decide +kernel
theorem d11_halves_108 : decode m11_halves.2.1 108 = .ok (.iconst 0, 1) := by decide +kernel
theorem d11_halves_109 : decode m11_halves.2.1 109 = .ok (.istore 7, 2) := by decide +kernel
theorem d11_halves_111 : decode m11_halves.2.1 111 = .ok (.iload 7, 2) := by decide +kernel
theorem d11_halves_113 : decode m11_halves.2.1 113 = .ok (.bipush 64, 2) := by decide +kernel
theorem d11_halves_115 : decode m11_halves.2.1 115 = .ok (.if_icmp .ge 52, 3) := by decide +kernel
theorem d11_halves_118 : decode m11_halves.2.1 118 = .ok (.iload 6, 2) := by decide +kernel
theorem d11_halves_120 : decode m11_halves.2.1 120 = .ok (.iload 5, 2) := by decide +kernel
theorem d11_halves_122 : decode m11_halves.2.1 122 = .ok (.iload 7, 2) := by decide +kernel
theorem d11_halves_124 : decode m11_halves.2.1 124 = .ok (.bipush 8, 2) := by decide +kernel
theorem d11_halves_126 : decode m11_halves.2.1 126 = .ok (.idiv, 1) := by decide +kernel
theorem d11_halves_127 : decode m11_halves.2.1 127 = .ok (.ishr, 1) := by decide +kernel
theorem d11_halves_128 : decode m11_halves.2.1 128 = .ok (.iconst 1, 1) := by decide +kernel
theorem d11_halves_129 : decode m11_halves.2.1 129 = .ok (.iand, 1) := by decide +kernel
theorem d11_halves_130 : decode m11_halves.2.1 130 = .ok (.iconst 1, 1) := by decide +kernel
theorem d11_halves_131 : decode m11_halves.2.1 131 = .ok (.if_icmp .ne 26, 3) := by decide +kernel
theorem d11_halves_134 : decode m11_halves.2.1 134 = .ok (.iload 5, 2) := by decide +kernel
theorem d11_halves_136 : decode m11_halves.2.1 136 = .ok (.iload 7, 2) := by decide +kernel
theorem d11_halves_138 : decode m11_halves.2.1 138 = .ok (.bipush 8, 2) := by decide +kernel
theorem d11_halves_140 : decode m11_halves.2.1 140 = .ok (.irem, 1) := by decide +kernel
theorem d11_halves_141 : decode m11_halves.2.1 141 = .ok (.ishr, 1) := by decide +kernel
theorem d11_halves_142 : decode m11_halves.2.1 142 = .ok (.iconst 1, 1) := by decide +kernel
theorem d11_halves_143 : decode m11_halves.2.1 143 = .ok (.iand, 1) := by decide +kernel
theorem d11_halves_144 : decode m11_halves.2.1 144 = .ok (.ifCond .ne 13, 3) := by decide +kernel
theorem d11_halves_147 : decode m11_halves.2.1 147 = .ok (.aload_n 0, 1) := by decide +kernel
theorem d11_halves_148 : decode m11_halves.2.1 148 = .ok (.getfield 59, 3) := by decide +kernel
theorem d11_halves_151 : decode m11_halves.2.1 151 = .ok (.iload 7, 2) := by decide +kernel
theorem d11_halves_153 : decode m11_halves.2.1 153 = .ok (.iaload, 1) := by decide +kernel
theorem d11_halves_154 : decode m11_halves.2.1 154 = .ok (.goto 4, 3) := by decide +kernel
theorem d11_halves_157 : decode m11_halves.2.1 157 = .ok (.iconst 0, 1) := by decide +kernel
theorem d11_halves_158 : decode m11_halves.2.1 158 = .ok (.iadd, 1) := by decide +kernel
theorem d11_halves_159 : decode m11_halves.2.1 159 = .ok (.istore 6, 2) := by decide +kernel
theorem d11_halves_161 : decode m11_halves.2.1 161 = .ok (.iinc 7 1, 3) := by decide +kernel
theorem d11_halves_164 : decode m11_halves.2.1 164 = .ok (.goto (-53), 3) := by decide +kernel
theorem d11_halves_167 : decode m11_halves.2.1 167 = .ok (.iload 6, 2) := by decide +kernel
theorem d11_halves_169 : decode m11_halves.2.1 169 = .ok (.iload 4, 2) := by decide +kernel
theorem d11_halves_171 : decode m11_halves.2.1 171 = .ok (.if_icmp .gt 6, 3) := by decide +kernel
theorem d11_halves_174 : decode m11_halves.2.1 174 = .ok (.goto 10, 3) := by decide +kernel
theorem d11_halves_177 : decode m11_halves.2.1 177 = .ok (.iload 5, 2) := by decide +kernel
theorem d11_halves_179 : decode m11_halves.2.1 179 = .ok (.istore_n 3, 1) := by decide +kernel
theorem d11_halves_180 : decode m11_halves.2.1 180 = .ok (.iload 6, 2) := by decide +kernel
theorem d11_halves_182 : decode m11_halves.2.1 182 = .ok (.istore 4, 2) := by decide +kernel
theorem d11_halves_184 : decode m11_halves.2.1 184 = .ok (.iinc 5 2, 3) := by decide +kernel
theorem d11_halves_187 : decode m11_halves.2.1 187 = .ok (.goto (-93), 3) := by decide +kernel
theorem d11_halves_190 : decode m11_halves.2.1 190 = .ok (.iload_n 2, 1) := by decide +kernel
theorem d11_halves_191 : decode m11_halves.2.1 191 = .ok (.ifCond .eq 7, 3) := by decide +kernel
theorem d11_halves_194 : decode m11_halves.2.1 194 = .ok (.iload_n 3, 1) := by decide +kernel
theorem d11_halves_195 : decode m11_halves.2.1 195 = .ok (.goto 5, 3) := by decide +kernel
theorem d11_halves_198 : decode m11_halves.2.1 198 = .ok (.iload 4, 2) := by decide +kernel
theorem d11_halves_200 : decode m11_halves.2.1 200 = .ok (.ireturn, 1) := by decide +kernel
def b11_halves_79 (rec19 : Int × AH → Option (Int × AH)) (x2 : Int) (x3 : Int) (s0 : Int) (s1 : Int) (h : AH) : Option (Int × AH) :=
  asrt (0 ≤ w32 s1 ∧ w32 s1 < 64) <|
  lt (wr h 86 (w32 s1).toNat s0) fun h2 =>
  rec19 ((x3 + 1), h2)
set_option maxRecDepth 100000 in
theorem t11_halves_79 (l : Launch) (G : Geo) (d : Nat) (hd : 6 ≤ d) (x2 : Int) (x3 : Int) (s0 : Int) (s1 : Int) (rec19 : Int × AH → Option (Int × AH)) (H19 : ∀ (x3 : Int) (h : AH), Den l G m11_halves rvI d 19 [some (vA G 69), none, some (vI x2), some (vI x3), none, none, none, none] [] h (rec19 (x3, h))) (h : AH) : Den l G m11_halves rvI d 79 [some (vA G 69), none, some (vI x2), some (vI x3), none, none, none, none] [vI s0, vI s1, vA G 86] h (b11_halves_79 rec19 x2 x3 s0 s1 h) := by
  unfold b11_halves_79
  refine den_asrt (fun a1 => ?_)
  refine den_iastore (pc := 79) sh_86 (sz_lt (by decide)) rfl a1 d11_halves_79 ?_
  refine den_ltH (fun h2 m3 => ?_)
  refine den_iinc (pc := 80) (L2 := [some (vA G 69), none, some (vI x2), some (vI (x3 + 1)), none, none, none, none]) d11_halves_80 (by decide) rfl rfl ?_
  refine den_goto (pc := 83) (tgt := 19) d11_halves_83 (by decide) ?_
  exact H19 (x3 + 1) h2
def b11_halves_78 (rec19 : Int × AH → Option (Int × AH)) (x2 : Int) (x3 : Int) (s0 : Int) (h : AH) : Option (Int × AH) :=
  b11_halves_79 rec19 x2 x3 0 s0 h
set_option maxRecDepth 100000 in
theorem t11_halves_78 (l : Launch) (G : Geo) (d : Nat) (hd : 6 ≤ d) (x2 : Int) (x3 : Int) (s0 : Int) (rec19 : Int × AH → Option (Int × AH)) (H19 : ∀ (x3 : Int) (h : AH), Den l G m11_halves rvI d 19 [some (vA G 69), none, some (vI x2), some (vI x3), none, none, none, none] [] h (rec19 (x3, h))) (h : AH) : Den l G m11_halves rvI d 78 [some (vA G 69), none, some (vI x2), some (vI x3), none, none, none, none] [vI s0, vA G 86] h (b11_halves_78 rec19 x2 x3 s0 h) := by
  unfold b11_halves_78
  refine den_iconst (pc := 78) d11_halves_78 ?_
  exact t11_halves_79 l G _ hd x2 x3 0 s0 rec19 H19 h
def b11_halves_158 (rec94 : Int × Int × Int × AH → Option (Int × AH)) (rec111 : Int × Int × AH → Option (Int × AH)) (x2 : Int) (x3 : Int) (x4 : Int) (x5 : Int) (x7 : Int) (s0 : Int) (s1 : Int) (h : AH) : Option (Int × AH) :=
  lt (s1 + s0) fun u4 =>
  rec111 (u4, (x7 + 1), h)
set_option maxRecDepth 100000 in
theorem t11_halves_158 (l : Launch) (G : Geo) (d : Nat) (hd : 6 ≤ d) (x2 : Int) (x3 : Int) (x4 : Int) (x5 : Int) (x7 : Int) (s0 : Int) (s1 : Int) (rec94 : Int × Int × Int × AH → Option (Int × AH)) (H94 : ∀ (x3 : Int) (x4 : Int) (x5 : Int) (h : AH), Den l G m11_halves rvI d 94 [some (vA G 69), none, some (vI x2), some (vI x3), some (vI x4), some (vI x5), none, none] [] h (rec94 (x3, x4, x5, h))) (rec111 : Int × Int × AH → Option (Int × AH)) (H111 : ∀ (x6 : Int) (x7 : Int) (h : AH), Den l G m11_halves rvI d 111 [some (vA G 69), none, some (vI x2), some (vI x3), some (vI x4), some (vI x5), some (vI x6), some (vI x7)] [] h (rec111 (x6, x7, h))) (h : AH) : Den l G m11_halves rvI d 158 [some (vA G 69), none, some (vI x2), some (vI x3), some (vI x4), some (vI x5), none, some (vI x7)] [vI s0, vI s1] h (b11_halves_158 rec94 rec111 x2 x3 x4 x5 x7 s0 s1 h) := by
  unfold b11_halves_158
  refine den_iadd (pc := 158) d11_halves_158 ?_
  refine den_istoreL (pc := 159) (L2 := fun y => [some (vA G 69), none, some (vI x2), some (vI x3), some (vI x4), some (vI x5), some (vI y), some (vI x7)]) d11_halves_159 (by decide) (fun _ => rfl) (fun u4 => ?_)
  refine den_iinc (pc := 161) (L2 := [some (vA G 69), none, some (vI x2), some (vI x3), some (vI x4), some (vI x5), some (vI u4), some (vI (x7 + 1))]) d11_halves_161 (by decide) rfl rfl ?_
  refine den_goto (pc := 164) (tgt := 111) d11_halves_164 (by decide) ?_
  exact H111 u4 (x7 + 1) h
def b11_halves_157 (rec94 : Int × Int × Int × AH → Option (Int × AH)) (rec111 : Int × Int × AH → Option (Int × AH)) (x2 : Int) (x3 : Int) (x4 : Int) (x5 : Int) (x7 : Int) (s0 : Int) (h : AH) : Option (Int × AH) :=
  b11_halves_158 rec94 rec111 x2 x3 x4 x5 x7 0 s0 h
set_option maxRecDepth 100000 in
theorem t11_halves_157 (l : Launch) (G : Geo) (d : Nat) (hd : 6 ≤ d) (x2 : Int) (x3 : Int) (x4 : Int) (x5 : Int) (x7 : Int) (s0 : Int) (rec94 : Int × Int × Int × AH → Option (Int × AH)) (H94 : ∀ (x3 : Int) (x4 : Int) (x5 : Int) (h : AH), Den l G m11_halves rvI d 94 [some (vA G 69), none, some (vI x2), some (vI x3), some (vI x4), some (vI x5), none, none] [] h (rec94 (x3, x4, x5, h))) (rec111 : Int × Int × AH → Option (Int × AH)) (H111 : ∀ (x6 : Int) (x7 : Int) (h : AH), Den l G m11_halves rvI d 111 [some (vA G 69), none, some (vI x2), some (vI x3), some (vI x4), some (vI x5), some (vI x6), some (vI x7)] [] h (rec111 (x6, x7, h))) (h : AH) : Den l G m11_halves rvI d 157 [some (vA G 69), none, some (vI x2), some (vI x3), some (vI x4), some (vI x5), none, some (vI x7)] [vI s0] h (b11_halves_157 rec94 rec111 x2 x3 x4 x5 x7 s0 h) := by
  unfold b11_halves_157
  refine den_iconst (pc := 157) d11_halves_157 ?_
  exact t11_halves_158 l G _ hd x2 x3 x4 x5 x7 0 s0 rec94 H94 rec111 H111 h
def b11_halves_184 (rec94 : Int × Int × Int × AH → Option (Int × AH)) (x2 : Int) (x3 : Int) (x4 : Int) (x5 : Int) (h : AH) : Option (Int × AH) :=
  rec94 (x3, x4, (x5 + 2), h)
set_option maxRecDepth 100000 in
theorem t11_halves_184 (l : Launch) (G : Geo) (d : Nat) (hd : 6 ≤ d) (x2 : Int) (x3 : Int) (x4 : Int) (x5 : Int) (rec94 : Int × Int × Int × AH → Option (Int × AH)) (H94 : ∀ (x3 : Int) (x4 : Int) (x5 : Int) (h : AH), Den l G m11_halves rvI d 94 [some (vA G 69), none, some (vI x2), some (vI x3), some (vI x4), some (vI x5), none, none] [] h (rec94 (x3, x4, x5, h))) (h : AH) : Den l G m11_halves rvI d 184 [some (vA G 69), none, some (vI x2), some (vI x3), some (vI x4), some (vI x5), none, none] [] h (b11_halves_184 rec94 x2 x3 x4 x5 h) := by
  unfold b11_halves_184
  refine den_iinc (pc := 184) (L2 := [some (vA G 69), none, some (vI x2), some (vI x3), some (vI x4), some (vI (x5 + 2)), none, none]) d11_halves_184 (by decide) rfl rfl ?_
  refine den_goto (pc := 187) (tgt := 94) d11_halves_187 (by decide) ?_
  exact H94 x3 x4 (x5 + 2) h
def b11_halves_111 (rec111 : Int × Int × AH → Option (Int × AH)) (rec94 : Int × Int × Int × AH → Option (Int × AH)) (x2 : Int) (x3 : Int) (x4 : Int) (x5 : Int) (x6 : Int) (x7 : Int) (h : AH) : Option (Int × AH) :=
  if 64 ≤ w32 x7 then
    if w32 x4 < w32 x6 then
      b11_halves_184 rec94 x2 x5 x6 x5 h
    else
      b11_halves_184 rec94 x2 x3 x4 x5 h
  else
    if ¬ w32 (and32 (shr32 x5 (dv32 x7 8)) 1) = 1 then
      b11_halves_157 rec94 rec111 x2 x3 x4 x5 x7 x6 h
    else
      if ¬ w32 (and32 (shr32 x5 (rm32 x7 8)) 1) = 0 then
        b11_halves_157 rec94 rec111 x2 x3 x4 x5 x7 x6 h
      else
        asrt (0 ≤ w32 x7 ∧ w32 x7 < 64) <|
        b11_halves_158 rec94 rec111 x2 x3 x4 x5 x7 (h.2 86 (w32 x7).toNat) x6 h
set_option maxRecDepth 100000 in
theorem t11_halves_111 (l : Launch) (G : Geo) (d : Nat) (hd : 6 ≤ d) (x2 : Int) (x3 : Int) (x4 : Int) (x5 : Int) (x6 : Int) (x7 : Int) (rec111 : Int × Int × AH → Option (Int × AH)) (H111 : ∀ (x6 : Int) (x7 : Int) (h : AH), Den l G m11_halves rvI d 111 [some (vA G 69), none, some (vI x2), some (vI x3), some (vI x4), some (vI x5), some (vI x6), some (vI x7)] [] h (rec111 (x6, x7, h))) (rec94 : Int × Int × Int × AH → Option (Int × AH)) (H94 : ∀ (x3 : Int) (x4 : Int) (x5 : Int) (h : AH), Den l G m11_halves rvI d 94 [some (vA G 69), none, some (vI x2), some (vI x3), some (vI x4), some (vI x5), none, none] [] h (rec94 (x3, x4, x5, h))) (h : AH) : Den l G m11_halves rvI d 111 [some (vA G 69), none, some (vI x2), some (vI x3), some (vI x4), some (vI x5), some (vI x6), some (vI x7)] [] h (b11_halves_111 rec111 rec94 x2 x3 x4 x5 x6 x7 h) := by
  unfold b11_halves_111
  refine den_iload (pc := 111) d11_halves_111 rfl ?_
  refine den_bipush (pc := 113) d11_halves_113 (by decide) ?_
  refine den_icmp_ge (pc := 115) (tgt := 167) d11_halves_115 (by decide) rfl (by decide) (fun _ => ?_) (fun _ => ?_)
  · refine den_iload (pc := 167) d11_halves_167 rfl ?_
    refine den_iload (pc := 169) d11_halves_169 rfl ?_
    refine den_icmp_gt (pc := 171) (tgt := 177) d11_halves_171 (by decide) rfl rfl (fun _ => ?_) (fun _ => ?_)
    · refine den_iload (pc := 177) d11_halves_177 rfl ?_
      refine den_istore_n (pc := 179) (L2 := [some (vA G 69), none, some (vI x2), some (vI x5), some (vI x4), some (vI x5), some (vI x6), some (vI x7)]) d11_halves_179 rfl (by decide) rfl ?_
      refine den_iload (pc := 180) d11_halves_180 rfl ?_
      refine den_istore (pc := 182) (L2 := [some (vA G 69), none, some (vI x2), some (vI x5), some (vI x6), some (vI x5), some (vI x6), some (vI x7)]) d11_halves_182 (by decide) rfl ?_
      refine den_wk [true, true, true, true, true, true, false, false] rfl ?_
      exact t11_halves_184 l G _ hd x2 x5 x6 x5 rec94 H94 h
    · refine den_goto (pc := 174) (tgt := 184) d11_halves_174 (by decide) ?_
      refine den_wk [true, true, true, true, true, true, false, false] rfl ?_
      exact t11_halves_184 l G _ hd x2 x3 x4 x5 rec94 H94 h
  · refine den_iload (pc := 118) d11_halves_118 rfl ?_
    refine den_iload (pc := 120) d11_halves_120 rfl ?_
    refine den_iload (pc := 122) d11_halves_122 rfl ?_
    refine den_bipush (pc := 124) d11_halves_124 (by decide) ?_
    refine den_idiv (pc := 126) d11_halves_126 (by decide) ?_
    refine den_ishr (pc := 127) d11_halves_127 ?_
    refine den_iconst (pc := 128) d11_halves_128 ?_
    refine den_iand (pc := 129) d11_halves_129 ?_
    refine den_iconst (pc := 130) d11_halves_130 ?_
    refine den_icmp_ne (pc := 131) (tgt := 157) d11_halves_131 (by decide) rfl (by decide) (fun _ => ?_) (fun _ => ?_)
    · refine den_wk [true, true, true, true, true, true, false, true] rfl ?_
      exact t11_halves_157 l G _ hd x2 x3 x4 x5 x7 x6 rec94 H94 rec111 H111 h
    · refine den_iload (pc := 134) d11_halves_134 rfl ?_
      refine den_iload (pc := 136) d11_halves_136 rfl ?_
      refine den_bipush (pc := 138) d11_halves_138 (by decide) ?_
      refine den_irem (pc := 140) d11_halves_140 (by decide) ?_
      refine den_ishr (pc := 141) d11_halves_141 ?_
      refine den_iconst (pc := 142) d11_halves_142 ?_
      refine den_iand (pc := 143) d11_halves_143 ?_
      refine den_if_ne (pc := 144) (tgt := 157) d11_halves_144 (by decide) rfl (fun _ => ?_) (fun _ => ?_)
      · refine den_wk [true, true, true, true, true, true, false, true] rfl ?_
        exact t11_halves_157 l G _ hd x2 x3 x4 x5 x7 x6 rec94 H94 rec111 H111 h
      · refine den_aload_n (pc := 147) d11_halves_147 rfl rfl ?_
        refine den_getR (pc := 148) (b := 86) fa_11_59 (ok_69 _) rfl d11_halves_148 ?_
        refine den_iload (pc := 151) d11_halves_151 rfl ?_
        refine den_asrt (fun a5 => ?_)
        refine den_iaload (pc := 153) sh_86 (sz_lt (by decide)) rfl a5 d11_halves_153 ?_
        refine den_goto (pc := 154) (tgt := 158) d11_halves_154 (by decide) ?_
        refine den_wk [true, true, true, true, true, true, false, true] rfl ?_
        exact t11_halves_158 l G _ hd x2 x3 x4 x5 x7 (h.2 86 (w32 x7).toNat) x6 rec94 H94 rec111 H111 h
def l11_halves_111 (rec94 : Int × Int × Int × AH → Option (Int × AH)) (x2 : Int) (x3 : Int) (x4 : Int) (x5 : Int) (x6 : Int) (x7 : Int) (h : AH) : Option (Int × AH) := fx (fun rec z => b11_halves_111 rec rec94 x2 x3 x4 x5 z.1 z.2.1 z.2.2) FU (x6, x7, h)
set_option maxRecDepth 100000 in
theorem tl11_halves_111 (l : Launch) (G : Geo) (d : Nat) (hd : 6 ≤ d) (x2 : Int) (x3 : Int) (x4 : Int) (x5 : Int) (rec94 : Int × Int × Int × AH → Option (Int × AH)) (H94 : ∀ (x3 : Int) (x4 : Int) (x5 : Int) (h : AH), Den l G m11_halves rvI d 94 [some (vA G 69), none, some (vI x2), some (vI x3), some (vI x4), some (vI x5), none, none] [] h (rec94 (x3, x4, x5, h))) : ∀ (n : Nat) (z : Int × Int × AH), True → Den l G m11_halves rvI d 111 [some (vA G 69), none, some (vI x2), some (vI x3), some (vI x4), some (vI x5), some (vI z.1), some (vI z.2.1)] [] z.2.2 (fx (fun rec z => b11_halves_111 rec rec94 x2 x3 x4 x5 z.1 z.2.1 z.2.2) n z) :=
  den_fx (F := fun rec z => b11_halves_111 rec rec94 x2 x3 x4 x5 z.1 z.2.1 z.2.2) (P := fun z => True) (fL := fun z => [some (vA G 69), none, some (vI x2), some (vI x3), some (vI x4), some (vI x5), some (vI z.1), some (vI z.2.1)]) (fs := fun z => []) (fh := fun z => z.2.2) (fun rec hrec z hz => t11_halves_111 l G d hd x2 x3 x4 x5 z.1 z.2.1 rec (fun x6 x7 h => hrec (x6, x7, h) trivial) rec94 H94 z.2.2 )
def b11_halves_94 (rec94 : Int × Int × Int × AH → Option (Int × AH)) (x2 : Int) (x3 : Int) (x4 : Int) (x5 : Int) (h : AH) : Option (Int × AH) :=
  if w32 (shl32 1 (h.2 69 13)) ≤ w32 x5 then
    if w32 x2 = 0 then
      some (x4, h)
    else
      some (x3, h)
  else
    l11_halves_111 rec94 x2 x3 x4 x5 0 0 h
set_option maxRecDepth 100000 in
theorem t11_halves_94 (l : Launch) (G : Geo) (d : Nat) (hd : 6 ≤ d) (x2 : Int) (x3 : Int) (x4 : Int) (x5 : Int) (rec94 : Int × Int × Int × AH → Option (Int × AH)) (H94 : ∀ (x3 : Int) (x4 : Int) (x5 : Int) (h : AH), Den l G m11_halves rvI d 94 [some (vA G 69), none, some (vI x2), some (vI x3), some (vI x4), some (vI x5), none, none] [] h (rec94 (x3, x4, x5, h))) (h : AH) : Den l G m11_halves rvI d 94 [some (vA G 69), none, some (vI x2), some (vI x3), some (vI x4), some (vI x5), none, none] [] h (b11_halves_94 rec94 x2 x3 x4 x5 h) := by
  unfold b11_halves_94
  refine den_iload (pc := 94) d11_halves_94 rfl ?_
  refine den_iconst (pc := 96) d11_halves_96 ?_
  refine den_aload_n (pc := 97) d11_halves_97 rfl rfl ?_
  refine den_getI (pc := 98) fa_11_192 (ok_69 _) d11_halves_98 ?_
  refine den_ishl (pc := 101) d11_halves_101 ?_
  refine den_icmp_ge (pc := 102) (tgt := 190) d11_halves_102 (by decide) rfl rfl (fun _ => ?_) (fun _ => ?_)
  · refine den_iload_n (pc := 190) d11_halves_190 rfl rfl ?_
    refine den_if_eq (pc := 191) (tgt := 198) d11_halves_191 (by decide) rfl (fun _ => ?_) (fun _ => ?_)
    · refine den_iload (pc := 198) d11_halves_198 rfl ?_
      exact den_iret (pc := 200) rfl d11_halves_200
    · refine den_iload_n (pc := 194) d11_halves_194 rfl rfl ?_
      refine den_goto (pc := 195) (tgt := 200) d11_halves_195 (by decide) ?_
      exact den_iret (pc := 200) rfl d11_halves_200
  · refine den_iconst (pc := 105) d11_halves_105 ?_
    refine den_istore (pc := 106) (L2 := [some (vA G 69), none, some (vI x2), some (vI x3), some (vI x4), some (vI x5), some (vI 0), none]) d11_halves_106 (by decide) rfl ?_
    refine den_iconst (pc := 108) d11_halves_108 ?_
    refine den_istore (pc := 109) (L2 := [some (vA G 69), none, some (vI x2), some (vI x3), some (vI x4), some (vI x5), some (vI 0), some (vI 0)]) d11_halves_109 (by decide) rfl ?_
    exact tl11_halves_111 l G _ hd x2 x3 x4 x5 rec94 H94 FU (0, 0, h) trivial
def l11_halves_94 (x2 : Int) (x3 : Int) (x4 : Int) (x5 : Int) (h : AH) : Option (Int × AH) := fx (fun rec z => b11_halves_94 rec x2 z.1 z.2.1 z.2.2.1 z.2.2.2) FU (x3, x4, x5, h)
set_option maxRecDepth 100000 in
theorem tl11_halves_94 (l : Launch) (G : Geo) (d : Nat) (hd : 6 ≤ d) (x2 : Int) : ∀ (n : Nat) (z : Int × Int × Int × AH), True → Den l G m11_halves rvI d 94 [some (vA G 69), none, some (vI x2), some (vI z.1), some (vI z.2.1), some (vI z.2.2.1), none, none] [] z.2.2.2 (fx (fun rec z => b11_halves_94 rec x2 z.1 z.2.1 z.2.2.1 z.2.2.2) n z) :=
  den_fx (F := fun rec z => b11_halves_94 rec x2 z.1 z.2.1 z.2.2.1 z.2.2.2) (P := fun z => True) (fL := fun z => [some (vA G 69), none, some (vI x2), some (vI z.1), some (vI z.2.1), some (vI z.2.2.1), none, none]) (fs := fun z => []) (fh := fun z => z.2.2.2) (fun rec hrec z hz => t11_halves_94 l G d hd x2 z.1 z.2.1 z.2.2.1 rec (fun x3 x4 x5 h => hrec (x3, x4, x5, h) trivial) z.2.2.2 )
def b11_halves_19 (rec19 : Int × AH → Option (Int × AH)) (x2 : Int) (x3 : Int) (h : AH) : Option (Int × AH) :=
  if 64 ≤ w32 x3 then
    l11_halves_94 x2 (-1) (-1) 1 h
  else
    if w32 (h.2 69 13) ≤ w32 (dv32 x3 8) then
      b11_halves_78 rec19 x2 x3 x3 h
    else
      if w32 (h.2 69 13) ≤ w32 (rm32 x3 8) then
        b11_halves_78 rec19 x2 x3 x3 h
      else
        if w32 (dv32 x3 8) = w32 (rm32 x3 8) then
          b11_halves_78 rec19 x2 x3 x3 h
        else
          bnd (f11_keenOf (dv32 x3 8) (rm32 x3 8) h) fun r6 h7 =>
          b11_halves_79 rec19 x2 x3 r6 x3 h7
set_option maxRecDepth 100000 in
theorem t11_halves_19 (l : Launch) (G : Geo) (d : Nat) (hd : 6 ≤ d) (x2 : Int) (x3 : Int) (rec19 : Int × AH → Option (Int × AH)) (H19 : ∀ (x3 : Int) (h : AH), Den l G m11_halves rvI d 19 [some (vA G 69), none, some (vI x2), some (vI x3), none, none, none, none] [] h (rec19 (x3, h))) (h : AH) : Den l G m11_halves rvI d 19 [some (vA G 69), none, some (vI x2), some (vI x3), none, none, none, none] [] h (b11_halves_19 rec19 x2 x3 h) := by
  unfold b11_halves_19
  refine den_iload_n (pc := 19) d11_halves_19 rfl rfl ?_
  refine den_bipush (pc := 20) d11_halves_20 (by decide) ?_
  refine den_icmp_ge (pc := 22) (tgt := 86) d11_halves_22 (by decide) rfl (by decide) (fun _ => ?_) (fun _ => ?_)
  · refine den_iconst (pc := 86) d11_halves_86 ?_
    refine den_istore_n (pc := 87) (L2 := [some (vA G 69), none, some (vI x2), some (vI (-1)), none, none, none, none]) d11_halves_87 rfl (by decide) rfl ?_
    refine den_iconst (pc := 88) d11_halves_88 ?_
    refine den_istore (pc := 89) (L2 := [some (vA G 69), none, some (vI x2), some (vI (-1)), some (vI (-1)), none, none, none]) d11_halves_89 (by decide) rfl ?_
    refine den_iconst (pc := 91) d11_halves_91 ?_
    refine den_istore (pc := 92) (L2 := [some (vA G 69), none, some (vI x2), some (vI (-1)), some (vI (-1)), some (vI 1), none, none]) d11_halves_92 (by decide) rfl ?_
    exact tl11_halves_94 l G _ hd x2 FU ((-1), (-1), 1, h) trivial
  · refine den_aload_n (pc := 25) d11_halves_25 rfl rfl ?_
    refine den_getR (pc := 26) (b := 86) fa_11_59 (ok_69 _) rfl d11_halves_26 ?_
    refine den_iload_n (pc := 29) d11_halves_29 rfl rfl ?_
    refine den_iload_n (pc := 30) d11_halves_30 rfl rfl ?_
    refine den_bipush (pc := 31) d11_halves_31 (by decide) ?_
    refine den_idiv (pc := 33) d11_halves_33 (by decide) ?_
    refine den_aload_n (pc := 34) d11_halves_34 rfl rfl ?_
    refine den_getI (pc := 35) fa_11_192 (ok_69 _) d11_halves_35 ?_
    refine den_icmp_ge (pc := 38) (tgt := 78) d11_halves_38 (by decide) rfl rfl (fun _ => ?_) (fun _ => ?_)
    · exact t11_halves_78 l G _ hd x2 x3 x3 rec19 H19 h
    · refine den_iload_n (pc := 41) d11_halves_41 rfl rfl ?_
      refine den_bipush (pc := 42) d11_halves_42 (by decide) ?_
      refine den_irem (pc := 44) d11_halves_44 (by decide) ?_
      refine den_aload_n (pc := 45) d11_halves_45 rfl rfl ?_
      refine den_getI (pc := 46) fa_11_192 (ok_69 _) d11_halves_46 ?_
      refine den_icmp_ge (pc := 49) (tgt := 78) d11_halves_49 (by decide) rfl rfl (fun _ => ?_) (fun _ => ?_)
      · exact t11_halves_78 l G _ hd x2 x3 x3 rec19 H19 h
      · refine den_iload_n (pc := 52) d11_halves_52 rfl rfl ?_
        refine den_bipush (pc := 53) d11_halves_53 (by decide) ?_
        refine den_idiv (pc := 55) d11_halves_55 (by decide) ?_
        refine den_iload_n (pc := 56) d11_halves_56 rfl rfl ?_
        refine den_bipush (pc := 57) d11_halves_57 (by decide) ?_
        refine den_irem (pc := 59) d11_halves_59 (by decide) ?_
        refine den_icmp_eq (pc := 60) (tgt := 78) d11_halves_60 (by decide) rfl rfl (fun _ => ?_) (fun _ => ?_)
        · exact t11_halves_78 l G _ hd x2 x3 x3 rec19 H19 h
        · refine den_aload_n (pc := 63) d11_halves_63 rfl rfl ?_
          refine den_iload_n (pc := 64) d11_halves_64 rfl rfl ?_
          refine den_bipush (pc := 65) d11_halves_65 (by decide) ?_
          refine den_idiv (pc := 67) d11_halves_67 (by decide) ?_
          refine den_iload_n (pc := 68) d11_halves_68 rfl rfl ?_
          refine den_bipush (pc := 69) d11_halves_69 (by decide) ?_
          refine den_irem (pc := 71) d11_halves_71 (by decide) ?_
          refine den_callVI (pc := 72) (As := [vI (dv32 x3 8), vI (rm32 x3 8)]) fv_11_298 rfl rfl (ok_69 _) (Nat.le_of_ble_eq_true rfl) (Nat.le_trans (by decide) hd) d11_halves_72 (c11_keenOf l G (dv32 x3 8) (rm32 x3 8) h) (fun r6 h7 m8 o9 => ?_)
          refine den_goto (pc := 75) (tgt := 79) d11_halves_75 (by decide) ?_
          exact t11_halves_79 l G _ hd x2 x3 r6 x3 rec19 H19 h7
def l11_halves_19 (x2 : Int) (x3 : Int) (h : AH) : Option (Int × AH) := fx (fun rec z => b11_halves_19 rec x2 z.1 z.2) FU (x3, h)
set_option maxRecDepth 100000 in
theorem tl11_halves_19 (l : Launch) (G : Geo) (d : Nat) (hd : 6 ≤ d) (x2 : Int) : ∀ (n : Nat) (z : Int × AH), True → Den l G m11_halves rvI d 19 [some (vA G 69), none, some (vI x2), some (vI z.1), none, none, none, none] [] z.2 (fx (fun rec z => b11_halves_19 rec x2 z.1 z.2) n z) :=
  den_fx (F := fun rec z => b11_halves_19 rec x2 z.1 z.2) (P := fun z => True) (fL := fun z => [some (vA G 69), none, some (vI x2), some (vI z.1), none, none, none, none]) (fs := fun z => []) (fh := fun z => z.2) (fun rec hrec z hz => t11_halves_19 l G d hd x2 z.1 rec (fun x3 h => hrec (x3, h) trivial) z.2 )
def f11_halves (x1 : Int) (x2 : Int) (h : AH) : Option (Int × AH) :=
  bnd (f11_isVillage x1 h) fun r10 h11 =>
  if w32 r10 = 0 then
    some ((-1), h11)
  else
    if ¬ w32 (h11.2 69 13) = 0 then
      l11_halves_19 x2 0 h11
    else
      some ((-1), h11)
set_option maxRecDepth 100000 in
theorem c11_halves (l : Launch) (G : Geo) (x1 : Int) (x2 : Int) (h : AH) : Con l G m11_halves rvI 6 [vA G 69, vI x1, vI x2] h (f11_halves x1 x2 h) := by
  have hd : 6 ≤ 6 := Nat.le_refl _
  refine con_I rfl (by decide) rfl rfl (Nat.le_of_ble_eq_true rfl) (L := [some (vA G 69), some (vI x1), some (vI x2), none, none, none, none, none]) ?_
  unfold f11_halves
  refine den_aload_n (pc := 0) d11_halves_0 rfl rfl ?_
  refine den_iload_n (pc := 1) d11_halves_1 rfl rfl ?_
  refine den_callVI (pc := 2) (As := [vI x1]) fv_11_201 rfl rfl (ok_69 _) (Nat.le_of_ble_eq_true rfl) (Nat.le_trans (by decide) hd) d11_halves_2 (c11_isVillage l G x1 h) (fun r10 h11 m12 o13 => ?_)
  refine den_if_eq (pc := 5) (tgt := 15) d11_halves_5 (by decide) rfl (fun _ => ?_) (fun _ => ?_)
  · refine den_iconst (pc := 15) d11_halves_15 ?_
    exact den_iret (pc := 16) rfl d11_halves_16
  · refine den_aload_n (pc := 8) d11_halves_8 rfl rfl ?_
    refine den_getI (pc := 9) fa_11_192 (ok_69 _) d11_halves_9 ?_
    refine den_if_ne (pc := 12) (tgt := 17) d11_halves_12 (by decide) rfl (fun _ => ?_) (fun _ => ?_)
    · refine den_iconst (pc := 17) d11_halves_17 ?_
      refine den_istore_n (pc := 18) (L2 := [some (vA G 69), some (vI x1), some (vI x2), some (vI 0), none, none, none, none]) d11_halves_18 rfl (by decide) rfl ?_
      refine den_wk [true, false, true, true, true, true, true, true] rfl ?_
      exact tl11_halves_19 l G _ hd x2 FU (0, h11) trivial
    · refine den_iconst (pc := 15) d11_halves_15 ?_
      exact den_iret (pc := 16) rfl d11_halves_16
theorem d11_isApart_0 : decode m11_isApart.2.1 0 = .ok (.iload_n 1, 1) := by decide +kernel
theorem d11_isApart_1 : decode m11_isApart.2.1 1 = .ok (.iload_n 2, 1) := by decide +kernel
theorem d11_isApart_2 : decode m11_isApart.2.1 2 = .ok (.if_icmp .eq 16, 3) := by decide +kernel
theorem d11_isApart_5 : decode m11_isApart.2.1 5 = .ok (.aload_n 0, 1) := by decide +kernel
theorem d11_isApart_6 : decode m11_isApart.2.1 6 = .ok (.iload_n 1, 1) := by decide +kernel
theorem d11_isApart_7 : decode m11_isApart.2.1 7 = .ok (.iload_n 2, 1) := by decide +kernel
theorem d11_isApart_8 : decode m11_isApart.2.1 8 = .ok (.invokevirtual 298, 3) := by decide +kernel
theorem d11_isApart_11 : decode m11_isApart.2.1 11 = .ok (.ifCond .le 7, 3) := by decide +kernel
theorem d11_isApart_14 : decode m11_isApart.2.1 14 = .ok (.iconst 1, 1) := by decide +kernel
theorem d11_isApart_15 : decode m11_isApart.2.1 15 = .ok (.goto 4, 3) := by decide +kernel
theorem d11_isApart_18 : decode m11_isApart.2.1 18 = .ok (.iconst 0, 1) := by decide +kernel
theorem d11_isApart_19 : decode m11_isApart.2.1 19 = .ok (.ireturn, 1) := by decide +kernel
def f11_isApart (x1 : Int) (x2 : Int) (h : AH) : Option (Int × AH) :=
  if w32 x1 = w32 x2 then
    some (0, h)
  else
    bnd (f11_keenOf x1 x2 h) fun r1 h2 =>
    if w32 r1 ≤ 0 then
      some (0, h2)
    else
      some (1, h2)
set_option maxRecDepth 100000 in
theorem c11_isApart (l : Launch) (G : Geo) (x1 : Int) (x2 : Int) (h : AH) : Con l G m11_isApart rvI 6 [vA G 69, vI x1, vI x2] h (f11_isApart x1 x2 h) := by
  have hd : 6 ≤ 6 := Nat.le_refl _
  refine con_Z rfl (by decide) rfl rfl (Nat.le_of_ble_eq_true rfl) (L := [some (vA G 69), some (vI x1), some (vI x2)]) ?_
  unfold f11_isApart
  refine den_iload_n (pc := 0) d11_isApart_0 rfl rfl ?_
  refine den_iload_n (pc := 1) d11_isApart_1 rfl rfl ?_
  refine den_icmp_eq (pc := 2) (tgt := 18) d11_isApart_2 (by decide) rfl rfl (fun _ => ?_) (fun _ => ?_)
  · refine den_iconst (pc := 18) d11_isApart_18 ?_
    exact den_zret (pc := 19) rfl (by decide) d11_isApart_19
  · refine den_aload_n (pc := 5) d11_isApart_5 rfl rfl ?_
    refine den_iload_n (pc := 6) d11_isApart_6 rfl rfl ?_
    refine den_iload_n (pc := 7) d11_isApart_7 rfl rfl ?_
    refine den_callVI (pc := 8) (As := [vI x1, vI x2]) fv_11_298 rfl rfl (ok_69 _) (Nat.le_of_ble_eq_true rfl) (Nat.le_trans (by decide) hd) d11_isApart_8 (c11_keenOf l G x1 x2 h) (fun r1 h2 m3 o4 => ?_)
    refine den_if_le (pc := 11) (tgt := 18) d11_isApart_11 (by decide) rfl (fun _ => ?_) (fun _ => ?_)
    · refine den_iconst (pc := 18) d11_isApart_18 ?_
      exact den_zret (pc := 19) rfl (by decide) d11_isApart_19
    · refine den_iconst (pc := 14) d11_isApart_14 ?_
      refine den_goto (pc := 15) (tgt := 19) d11_isApart_15 (by decide) ?_
      exact den_zret (pc := 19) rfl (by decide) d11_isApart_19
