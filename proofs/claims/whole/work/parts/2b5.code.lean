/-! 11_keenest 11_oftenOf 11_lastsOf 11_lasts 11_togetherOf 11_together 11_nextAt 11_plansOf 11_plan -/
theorem d11_keenest_0 : decode m11_keenest.2.1 0 = .ok (.aload_n 0, 1) := by decide +kernel
theorem d11_keenest_1 : decode m11_keenest.2.1 1 = .ok (.iload_n 1, 1) := by decide +kernel
theorem d11_keenest_2 : decode m11_keenest.2.1 2 = .ok (.invokevirtual 201, 3) := by decide +kernel
theorem d11_keenest_5 : decode m11_keenest.2.1 5 = .ok (.ifCond .eq 12, 3) := by decide +kernel
theorem d11_keenest_8 : decode m11_keenest.2.1 8 = .ok (.aload_n 0, 1) := by decide +kernel
theorem d11_keenest_9 : decode m11_keenest.2.1 9 = .ok (.iload_n 2, 1) := by decide +kernel
theorem d11_keenest_10 : decode m11_keenest.2.1 10 = .ok (.iload_n 3, 1) := by decide +kernel
theorem d11_keenest_11 : decode m11_keenest.2.1 11 = .ok (.invokevirtual 228, 3) := by decide +kernel
theorem d11_keenest_14 : decode m11_keenest.2.1 14 = .ok (.ifCond .ne 5, 3) := by decide +kernel
theorem d11_keenest_17 : decode m11_keenest.2.1 17 = .ok (.iconst (-1), 1) := by decide +kernel
theorem d11_keenest_18 : decode m11_keenest.2.1 18 = .ok (.ireturn, 1) := by decide +kernel
theorem d11_keenest_19 : decode m11_keenest.2.1 19 = .ok (.iconst (-1), 1) := by decide +kernel
theorem d11_keenest_20 : decode m11_keenest.2.1 20 = .ok (.istore 5, 2) := by decide +kernel
theorem d11_keenest_22 : decode m11_keenest.2.1 22 = .ok (.iconst 0, 1) := by decide +kernel
theorem d11_keenest_23 : decode m11_keenest.2.1 23 = .ok (.istore 6, 2) := by decide +kernel
theorem d11_keenest_25 : decode m11_keenest.2.1 25 = .ok (.iload 6, 2) := by decide +kernel
theorem d11_keenest_27 : decode m11_keenest.2.1 27 = .ok (.aload_n 0, 1) := by decide +kernel
theorem d11_keenest_28 : decode m11_keenest.2.1 28 = .ok (.getfield 195, 3) := by decide +kernel
theorem d11_keenest_31 : decode m11_keenest.2.1 31 = .ok (.if_icmp .ge 42, 3) := by decide +kernel
theorem d11_keenest_34 : decode m11_keenest.2.1 34 = .ok (.aload_n 0, 1) := by decide +kernel
theorem d11_keenest_35 : decode m11_keenest.2.1 35 = .ok (.iload_n 2, 1) := by decide +kernel
theorem d11_keenest_36 : decode m11_keenest.2.1 36 = .ok (.iload_n 3, 1) := by decide +kernel
theorem d11_keenest_37 : decode m11_keenest.2.1 37 = .ok (.iload 6, 2) := by decide +kernel
theorem d11_keenest_39 : decode m11_keenest.2.1 39 = .ok (.invokevirtual 234, 3) := by decide +kernel
theorem d11_keenest_42 : decode m11_keenest.2.1 42 = .ok (.iload 5, 2) := by decide +kernel
theorem d11_keenest_44 : decode m11_keenest.2.1 44 = .ok (.iconst (-1), 1) := by decide +kernel
theorem d11_keenest_45 : decode m11_keenest.2.1 45 = .ok (.if_icmp .ne 7, 3) := by decide +kernel
theorem d11_keenest_48 : decode m11_keenest.2.1 48 = .ok (.iconst 0, 1) := by decide +kernel
theorem d11_keenest_49 : decode m11_keenest.2.1 49 = .ok (.goto 11, 3) := by decide +kernel
theorem d11_keenest_52 : decode m11_keenest.2.1 52 = .ok (.aload_n 0, 1) := by decide +kernel
theorem d11_keenest_53 : decode m11_keenest.2.1 53 = .ok (.iload_n 2, 1) := by decide +kernel
theorem d11_keenest_54 : decode m11_keenest.2.1 54 = .ok (.iload_n 3, 1) := by decide +kernel
theorem d11_keenest_55 : decode m11_keenest.2.1 55 = .ok (.iload 5, 2) := by decide +kernel
theorem d11_keenest_57 : decode m11_keenest.2.1 57 = .ok (.invokevirtual 234, 3) := by decide +kernel
theorem d11_keenest_60 : decode m11_keenest.2.1 60 = .ok (.if_icmp .le 7, 3) := by decide +kernel
theorem d11_keenest_63 : decode m11_keenest.2.1 63 = .ok (.iload 6, 2) := by decide +kernel
theorem d11_keenest_65 : decode m11_keenest.2.1 65 = .ok (.istore 5, 2) := by decide +kernel
theorem d11_keenest_67 : decode m11_keenest.2.1 67 = .ok (.iinc 6 1, 3) := by decide +kernel
theorem d11_keenest_70 : decode m11_keenest.2.1 70 = .ok (.goto (-45), 3) := by decide +kernel
theorem d11_keenest_73 : decode m11_keenest.2.1 73 = .ok (.iload 5, 2) := by decide +kernel
theorem d11_keenest_75 : decode m11_keenest.2.1 75 = .ok (.iconst (-1), 1) := by decide +kernel
theorem d11_keenest_76 : decode m11_keenest.2.1 76 = .ok (.if_icmp .eq 8, 3) := by decide +kernel
theorem d11_keenest_79 : decode m11_keenest.2.1 79 = .ok (.iload 4, 2) := by decide +kernel
theorem d11_keenest_81 : decode m11_keenest.2.1 81 = .ok (.ifCond .ne 8, 3) := by decide +kernel
theorem d11_keenest_84 : decode m11_keenest.2.1 84 = .ok (.iload 5, 2) := by decide +kernel
theorem d11_keenest_86 : decode m11_keenest.2.1 86 = .ok (.goto 11, 3) := by decide +kernel
theorem d11_keenest_89 : decode m11_keenest.2.1 89 = .ok (.aload_n 0, 1) := by decide +kernel
theorem d11_keenest_90 : decode m11_keenest.2.1 90 = .ok (.iload_n 2, 1) := by decide +kernel
theorem d11_keenest_91 : decode m11_keenest.2.1 91 = .ok (.iload_n 3, 1) := by decide +kernel
theorem d11_keenest_92 : decode m11_keenest.2.1 92 = .ok (.iload 5, 2) := by decide +kernel
theorem d11_keenest_94 : decode m11_keenest.2.1 94 = .ok (.invokevirtual 234, 3) := by decide +kernel
theorem d11_keenest_97 : decode m11_keenest.2.1 97 = .ok (.ireturn, 1) := by decide +kernel
def b11_keenest_67 (rec25 : Int × Int × AH → Option (Int × AH)) (x2 : Int) (x3 : Int) (x4 : Int) (x5 : Int) (x6 : Int) (h : AH) : Option (Int × AH) :=
  rec25 (x5, (x6 + 1), h)
set_option maxRecDepth 100000 in
theorem t11_keenest_67 (l : Launch) (G : Geo) (d : Nat) (hd : 5 ≤ d) (x2 : Int) (x3 : Int) (x4 : Int) (x5 : Int) (x6 : Int) (rec25 : Int × Int × AH → Option (Int × AH)) (H25 : ∀ (x5 : Int) (x6 : Int) (h : AH), Den l G m11_keenest rvI d 25 [some (vA G 69), none, some (vI x2), some (vI x3), some (vI x4), some (vI x5), some (vI x6)] [] h (rec25 (x5, x6, h))) (h : AH) : Den l G m11_keenest rvI d 67 [some (vA G 69), none, some (vI x2), some (vI x3), some (vI x4), some (vI x5), some (vI x6)] [] h (b11_keenest_67 rec25 x2 x3 x4 x5 x6 h) := by
  unfold b11_keenest_67
  refine den_iinc (pc := 67) (L2 := [some (vA G 69), none, some (vI x2), some (vI x3), some (vI x4), some (vI x5), some (vI (x6 + 1))]) d11_keenest_67 (by decide) rfl rfl ?_
  refine den_goto (pc := 70) (tgt := 25) d11_keenest_70 (by decide) ?_
  exact H25 x5 (x6 + 1) h
def b11_keenest_60 (rec25 : Int × Int × AH → Option (Int × AH)) (x2 : Int) (x3 : Int) (x4 : Int) (x5 : Int) (x6 : Int) (s0 : Int) (s1 : Int) (h : AH) : Option (Int × AH) :=
  if w32 s1 ≤ w32 s0 then
    b11_keenest_67 rec25 x2 x3 x4 x5 x6 h
  else
    b11_keenest_67 rec25 x2 x3 x4 x6 x6 h
set_option maxRecDepth 100000 in
theorem t11_keenest_60 (l : Launch) (G : Geo) (d : Nat) (hd : 5 ≤ d) (x2 : Int) (x3 : Int) (x4 : Int) (x5 : Int) (x6 : Int) (s0 : Int) (s1 : Int) (rec25 : Int × Int × AH → Option (Int × AH)) (H25 : ∀ (x5 : Int) (x6 : Int) (h : AH), Den l G m11_keenest rvI d 25 [some (vA G 69), none, some (vI x2), some (vI x3), some (vI x4), some (vI x5), some (vI x6)] [] h (rec25 (x5, x6, h))) (h : AH) : Den l G m11_keenest rvI d 60 [some (vA G 69), none, some (vI x2), some (vI x3), some (vI x4), some (vI x5), some (vI x6)] [vI s0, vI s1] h (b11_keenest_60 rec25 x2 x3 x4 x5 x6 s0 s1 h) := by
  unfold b11_keenest_60
  refine den_icmp_le (pc := 60) (tgt := 67) d11_keenest_60 (by decide) rfl rfl (fun _ => ?_) (fun _ => ?_)
  · exact t11_keenest_67 l G _ hd x2 x3 x4 x5 x6 rec25 H25 h
  · refine den_iload (pc := 63) d11_keenest_63 rfl ?_
    refine den_istore (pc := 65) (L2 := [some (vA G 69), none, some (vI x2), some (vI x3), some (vI x4), some (vI x6), some (vI x6)]) d11_keenest_65 (by decide) rfl ?_
    exact t11_keenest_67 l G _ hd x2 x3 x4 x6 x6 rec25 H25 h
def b11_keenest_25 (rec25 : Int × Int × AH → Option (Int × AH)) (x2 : Int) (x3 : Int) (x4 : Int) (x5 : Int) (x6 : Int) (h : AH) : Option (Int × AH) :=
  if w32 (h.2 69 14) ≤ w32 x6 then
    if w32 x5 = (-1) then
      some (x5, h)
    else
      if ¬ w32 x4 = 0 then
        bnd (f11_burnsOf x2 x3 x5 h) fun r1 h2 =>
        some (r1, h2)
      else
        some (x5, h)
  else
    bnd (f11_burnsOf x2 x3 x6 h) fun r5 h6 =>
    if ¬ w32 x5 = (-1) then
      bnd (f11_burnsOf x2 x3 x5 h6) fun r9 h10 =>
      b11_keenest_60 rec25 x2 x3 x4 x5 x6 r9 r5 h10
    else
      b11_keenest_60 rec25 x2 x3 x4 x5 x6 0 r5 h6
set_option maxRecDepth 100000 in
theorem t11_keenest_25 (l : Launch) (G : Geo) (d : Nat) (hd : 5 ≤ d) (x2 : Int) (x3 : Int) (x4 : Int) (x5 : Int) (x6 : Int) (rec25 : Int × Int × AH → Option (Int × AH)) (H25 : ∀ (x5 : Int) (x6 : Int) (h : AH), Den l G m11_keenest rvI d 25 [some (vA G 69), none, some (vI x2), some (vI x3), some (vI x4), some (vI x5), some (vI x6)] [] h (rec25 (x5, x6, h))) (h : AH) : Den l G m11_keenest rvI d 25 [some (vA G 69), none, some (vI x2), some (vI x3), some (vI x4), some (vI x5), some (vI x6)] [] h (b11_keenest_25 rec25 x2 x3 x4 x5 x6 h) := by
  unfold b11_keenest_25
  refine den_iload (pc := 25) d11_keenest_25 rfl ?_
  refine den_aload_n (pc := 27) d11_keenest_27 rfl rfl ?_
  refine den_getI (pc := 28) fa_11_195 (ok_69 _) d11_keenest_28 ?_
  refine den_icmp_ge (pc := 31) (tgt := 73) d11_keenest_31 (by decide) rfl rfl (fun _ => ?_) (fun _ => ?_)
  · refine den_iload (pc := 73) d11_keenest_73 rfl ?_
    refine den_iconst (pc := 75) d11_keenest_75 ?_
    refine den_icmp_eq (pc := 76) (tgt := 84) d11_keenest_76 (by decide) rfl (by decide) (fun _ => ?_) (fun _ => ?_)
    · refine den_iload (pc := 84) d11_keenest_84 rfl ?_
      refine den_goto (pc := 86) (tgt := 97) d11_keenest_86 (by decide) ?_
      exact den_iret (pc := 97) rfl d11_keenest_97
    · refine den_iload (pc := 79) d11_keenest_79 rfl ?_
      refine den_if_ne (pc := 81) (tgt := 89) d11_keenest_81 (by decide) rfl (fun _ => ?_) (fun _ => ?_)
      · refine den_aload_n (pc := 89) d11_keenest_89 rfl rfl ?_
        refine den_iload_n (pc := 90) d11_keenest_90 rfl rfl ?_
        refine den_iload_n (pc := 91) d11_keenest_91 rfl rfl ?_
        refine den_iload (pc := 92) d11_keenest_92 rfl ?_
        refine den_callVI (pc := 94) (As := [vI x2, vI x3, vI x5]) fv_11_234 rfl rfl (ok_69 _) (Nat.le_of_ble_eq_true rfl) (Nat.le_trans (by decide) hd) d11_keenest_94 (c11_burnsOf l G x2 x3 x5 h) (fun r1 h2 m3 o4 => ?_)
        exact den_iret (pc := 97) rfl d11_keenest_97
      · refine den_iload (pc := 84) d11_keenest_84 rfl ?_
        refine den_goto (pc := 86) (tgt := 97) d11_keenest_86 (by decide) ?_
        exact den_iret (pc := 97) rfl d11_keenest_97
  · refine den_aload_n (pc := 34) d11_keenest_34 rfl rfl ?_
    refine den_iload_n (pc := 35) d11_keenest_35 rfl rfl ?_
    refine den_iload_n (pc := 36) d11_keenest_36 rfl rfl ?_
    refine den_iload (pc := 37) d11_keenest_37 rfl ?_
    refine den_callVI (pc := 39) (As := [vI x2, vI x3, vI x6]) fv_11_234 rfl rfl (ok_69 _) (Nat.le_of_ble_eq_true rfl) (Nat.le_trans (by decide) hd) d11_keenest_39 (c11_burnsOf l G x2 x3 x6 h) (fun r5 h6 m7 o8 => ?_)
    refine den_iload (pc := 42) d11_keenest_42 rfl ?_
    refine den_iconst (pc := 44) d11_keenest_44 ?_
    refine den_icmp_ne (pc := 45) (tgt := 52) d11_keenest_45 (by decide) rfl (by decide) (fun _ => ?_) (fun _ => ?_)
    · refine den_aload_n (pc := 52) d11_keenest_52 rfl rfl ?_
      refine den_iload_n (pc := 53) d11_keenest_53 rfl rfl ?_
      refine den_iload_n (pc := 54) d11_keenest_54 rfl rfl ?_
      refine den_iload (pc := 55) d11_keenest_55 rfl ?_
      refine den_callVI (pc := 57) (As := [vI x2, vI x3, vI x5]) fv_11_234 rfl rfl (ok_69 _) (Nat.le_of_ble_eq_true rfl) (Nat.le_trans (by decide) hd) d11_keenest_57 (c11_burnsOf l G x2 x3 x5 h6) (fun r9 h10 m11 o12 => ?_)
      exact t11_keenest_60 l G _ hd x2 x3 x4 x5 x6 r9 r5 rec25 H25 h10
    · refine den_iconst (pc := 48) d11_keenest_48 ?_
      refine den_goto (pc := 49) (tgt := 60) d11_keenest_49 (by decide) ?_
      exact t11_keenest_60 l G _ hd x2 x3 x4 x5 x6 0 r5 rec25 H25 h6
def l11_keenest_25 (x2 : Int) (x3 : Int) (x4 : Int) (x5 : Int) (x6 : Int) (h : AH) : Option (Int × AH) := fx (fun rec z => b11_keenest_25 rec x2 x3 x4 z.1 z.2.1 z.2.2) FU (x5, x6, h)
set_option maxRecDepth 100000 in
theorem tl11_keenest_25 (l : Launch) (G : Geo) (d : Nat) (hd : 5 ≤ d) (x2 : Int) (x3 : Int) (x4 : Int) : ∀ (n : Nat) (z : Int × Int × AH), True → Den l G m11_keenest rvI d 25 [some (vA G 69), none, some (vI x2), some (vI x3), some (vI x4), some (vI z.1), some (vI z.2.1)] [] z.2.2 (fx (fun rec z => b11_keenest_25 rec x2 x3 x4 z.1 z.2.1 z.2.2) n z) :=
  den_fx (F := fun rec z => b11_keenest_25 rec x2 x3 x4 z.1 z.2.1 z.2.2) (P := fun z => True) (fL := fun z => [some (vA G 69), none, some (vI x2), some (vI x3), some (vI x4), some (vI z.1), some (vI z.2.1)]) (fs := fun z => []) (fh := fun z => z.2.2) (fun rec hrec z hz => t11_keenest_25 l G d hd x2 x3 x4 z.1 z.2.1 rec (fun x5 x6 h => hrec (x5, x6, h) trivial) z.2.2 )
def f11_keenest (x1 : Int) (x2 : Int) (x3 : Int) (x4 : Int) (h : AH) : Option (Int × AH) :=
  bnd (f11_isVillage x1 h) fun r13 h14 =>
  if w32 r13 = 0 then
    some ((-1), h14)
  else
    bnd (f11_isTwo x2 x3 h14) fun r17 h18 =>
    if ¬ w32 r17 = 0 then
      l11_keenest_25 x2 x3 x4 (-1) 0 h18
    else
      some ((-1), h18)
set_option maxRecDepth 100000 in
theorem c11_keenest (l : Launch) (G : Geo) (x1 : Int) (x2 : Int) (x3 : Int) (x4 : Int) (h : AH) : Con l G m11_keenest rvI 5 [vA G 69, vI x1, vI x2, vI x3, vI x4] h (f11_keenest x1 x2 x3 x4 h) := by
  have hd : 5 ≤ 5 := Nat.le_refl _
  refine con_I rfl (by decide) rfl rfl (Nat.le_of_ble_eq_true rfl) (L := [some (vA G 69), some (vI x1), some (vI x2), some (vI x3), some (vI x4), none, none]) ?_
  unfold f11_keenest
  refine den_aload_n (pc := 0) d11_keenest_0 rfl rfl ?_
  refine den_iload_n (pc := 1) d11_keenest_1 rfl rfl ?_
  refine den_callVI (pc := 2) (As := [vI x1]) fv_11_201 rfl rfl (ok_69 _) (Nat.le_of_ble_eq_true rfl) (Nat.le_trans (by decide) hd) d11_keenest_2 (c11_isVillage l G x1 h) (fun r13 h14 m15 o16 => ?_)
  refine den_if_eq (pc := 5) (tgt := 17) d11_keenest_5 (by decide) rfl (fun _ => ?_) (fun _ => ?_)
  · refine den_iconst (pc := 17) d11_keenest_17 ?_
    exact den_iret (pc := 18) rfl d11_keenest_18
  · refine den_aload_n (pc := 8) d11_keenest_8 rfl rfl ?_
    refine den_iload_n (pc := 9) d11_keenest_9 rfl rfl ?_
    refine den_iload_n (pc := 10) d11_keenest_10 rfl rfl ?_
    refine den_callVI (pc := 11) (As := [vI x2, vI x3]) fv_11_228 rfl rfl (ok_69 _) (Nat.le_of_ble_eq_true rfl) (Nat.le_trans (by decide) hd) d11_keenest_11 (c11_isTwo l G x2 x3 h14) (fun r17 h18 m19 o20 => ?_)
    refine den_if_ne (pc := 14) (tgt := 19) d11_keenest_14 (by decide) rfl (fun _ => ?_) (fun _ => ?_)
    · refine den_iconst (pc := 19) d11_keenest_19 ?_
      refine den_istore (pc := 20) (L2 := [some (vA G 69), some (vI x1), some (vI x2), some (vI x3), some (vI x4), some (vI (-1)), none]) d11_keenest_20 (by decide) rfl ?_
      refine den_iconst (pc := 22) d11_keenest_22 ?_
      refine den_istore (pc := 23) (L2 := [some (vA G 69), some (vI x1), some (vI x2), some (vI x3), some (vI x4), some (vI (-1)), some (vI 0)]) d11_keenest_23 (by decide) rfl ?_
      refine den_wk [true, false, true, true, true, true, true] rfl ?_
      exact tl11_keenest_25 l G _ hd x2 x3 x4 FU ((-1), 0, h18) trivial
    · refine den_iconst (pc := 17) d11_keenest_17 ?_
      exact den_iret (pc := 18) rfl d11_keenest_18
theorem d11_oftenOf_0 : decode m11_oftenOf.2.1 0 = .ok (.aload_n 0, 1) := by decide +kernel
theorem d11_oftenOf_1 : decode m11_oftenOf.2.1 1 = .ok (.iload_n 1, 1) := by decide +kernel
theorem d11_oftenOf_2 : decode m11_oftenOf.2.1 2 = .ok (.iload_n 2, 1) := by decide +kernel
theorem d11_oftenOf_3 : decode m11_oftenOf.2.1 3 = .ok (.iload_n 3, 1) := by decide +kernel
theorem d11_oftenOf_4 : decode m11_oftenOf.2.1 4 = .ok (.invokevirtual 231, 3) := by decide +kernel
theorem d11_oftenOf_7 : decode m11_oftenOf.2.1 7 = .ok (.ifCond .gt 5, 3) := by decide +kernel
theorem d11_oftenOf_10 : decode m11_oftenOf.2.1 10 = .ok (.iconst 0, 1) := by decide +kernel
theorem d11_oftenOf_11 : decode m11_oftenOf.2.1 11 = .ok (.ireturn, 1) := by decide +kernel
theorem d11_oftenOf_12 : decode m11_oftenOf.2.1 12 = .ok (.iconst 0, 1) := by decide +kernel
theorem d11_oftenOf_13 : decode m11_oftenOf.2.1 13 = .ok (.istore 4, 2) := by decide +kernel
theorem d11_oftenOf_15 : decode m11_oftenOf.2.1 15 = .ok (.aload_n 0, 1) := by decide +kernel
theorem d11_oftenOf_16 : decode m11_oftenOf.2.1 16 = .ok (.iload_n 3, 1) := by decide +kernel
theorem d11_oftenOf_17 : decode m11_oftenOf.2.1 17 = .ok (.invokevirtual 213, 3) := by decide +kernel
theorem d11_oftenOf_20 : decode m11_oftenOf.2.1 20 = .ok (.istore 5, 2) := by decide +kernel
theorem d11_oftenOf_22 : decode m11_oftenOf.2.1 22 = .ok (.iload 5, 2) := by decide +kernel
theorem d11_oftenOf_24 : decode m11_oftenOf.2.1 24 = .ok (.ifCond .le 19, 3) := by decide +kernel
theorem d11_oftenOf_27 : decode m11_oftenOf.2.1 27 = .ok (.iinc 4 1, 3) := by decide +kernel
theorem d11_oftenOf_30 : decode m11_oftenOf.2.1 30 = .ok (.iload 5, 2) := by decide +kernel
theorem d11_oftenOf_32 : decode m11_oftenOf.2.1 32 = .ok (.aload_n 0, 1) := by decide +kernel
theorem d11_oftenOf_33 : decode m11_oftenOf.2.1 33 = .ok (.iload_n 3, 1) := by decide +kernel
theorem d11_oftenOf_34 : decode m11_oftenOf.2.1 34 = .ok (.invokevirtual 216, 3) := by decide +kernel
theorem d11_oftenOf_37 : decode m11_oftenOf.2.1 37 = .ok (.isub, 1) := by decide +kernel
theorem d11_oftenOf_38 : decode m11_oftenOf.2.1 38 = .ok (.istore 5, 2) := by decide +kernel
theorem d11_oftenOf_40 : decode m11_oftenOf.2.1 40 = .ok (.goto (-18), 3) := by decide +kernel
theorem d11_oftenOf_43 : decode m11_oftenOf.2.1 43 = .ok (.iload 4, 2) := by decide +kernel
theorem d11_oftenOf_45 : decode m11_oftenOf.2.1 45 = .ok (.ireturn, 1) := by decide +kernel
def b11_oftenOf_22 (rec22 : Int × Int × AH → Option (Int × AH)) (x3 : Int) (x4 : Int) (x5 : Int) (h : AH) : Option (Int × AH) :=
  if w32 x5 ≤ 0 then
    some (x4, h)
  else
    bnd (f11_fadesOf x3 h) fun r1 h2 =>
    lt (x5 - r1) fun u5 =>
    rec22 ((x4 + 1), u5, h2)
set_option maxRecDepth 100000 in
theorem t11_oftenOf_22 (l : Launch) (G : Geo) (d : Nat) (hd : 4 ≤ d) (x3 : Int) (x4 : Int) (x5 : Int) (rec22 : Int × Int × AH → Option (Int × AH)) (H22 : ∀ (x4 : Int) (x5 : Int) (h : AH), Den l G m11_oftenOf rvI d 22 [some (vA G 69), none, none, some (vI x3), some (vI x4), some (vI x5)] [] h (rec22 (x4, x5, h))) (h : AH) : Den l G m11_oftenOf rvI d 22 [some (vA G 69), none, none, some (vI x3), some (vI x4), some (vI x5)] [] h (b11_oftenOf_22 rec22 x3 x4 x5 h) := by
  unfold b11_oftenOf_22
  refine den_iload (pc := 22) d11_oftenOf_22 rfl ?_
  refine den_if_le (pc := 24) (tgt := 43) d11_oftenOf_24 (by decide) rfl (fun _ => ?_) (fun _ => ?_)
  · refine den_iload (pc := 43) d11_oftenOf_43 rfl ?_
    exact den_iret (pc := 45) rfl d11_oftenOf_45
  · refine den_iinc (pc := 27) (L2 := [some (vA G 69), none, none, some (vI x3), some (vI (x4 + 1)), some (vI x5)]) d11_oftenOf_27 (by decide) rfl rfl ?_
    refine den_iload (pc := 30) d11_oftenOf_30 rfl ?_
    refine den_aload_n (pc := 32) d11_oftenOf_32 rfl rfl ?_
    refine den_iload_n (pc := 33) d11_oftenOf_33 rfl rfl ?_
    refine den_callVI (pc := 34) (As := [vI x3]) fv_11_216 rfl rfl (ok_69 _) (Nat.le_of_ble_eq_true rfl) (Nat.le_trans (by decide) hd) d11_oftenOf_34 (c11_fadesOf l G x3 h) (fun r1 h2 m3 o4 => ?_)
    refine den_isub (pc := 37) d11_oftenOf_37 ?_
    refine den_istoreL (pc := 38) (L2 := fun y => [some (vA G 69), none, none, some (vI x3), some (vI (x4 + 1)), some (vI y)]) d11_oftenOf_38 (by decide) (fun _ => rfl) (fun u5 => ?_)
    refine den_goto (pc := 40) (tgt := 22) d11_oftenOf_40 (by decide) ?_
    exact H22 (x4 + 1) u5 h2
def l11_oftenOf_22 (x3 : Int) (x4 : Int) (x5 : Int) (h : AH) : Option (Int × AH) := fx (fun rec z => b11_oftenOf_22 rec x3 z.1 z.2.1 z.2.2) FU (x4, x5, h)
set_option maxRecDepth 100000 in
theorem tl11_oftenOf_22 (l : Launch) (G : Geo) (d : Nat) (hd : 4 ≤ d) (x3 : Int) : ∀ (n : Nat) (z : Int × Int × AH), True → Den l G m11_oftenOf rvI d 22 [some (vA G 69), none, none, some (vI x3), some (vI z.1), some (vI z.2.1)] [] z.2.2 (fx (fun rec z => b11_oftenOf_22 rec x3 z.1 z.2.1 z.2.2) n z) :=
  den_fx (F := fun rec z => b11_oftenOf_22 rec x3 z.1 z.2.1 z.2.2) (P := fun z => True) (fL := fun z => [some (vA G 69), none, none, some (vI x3), some (vI z.1), some (vI z.2.1)]) (fs := fun z => []) (fh := fun z => z.2.2) (fun rec hrec z hz => t11_oftenOf_22 l G d hd x3 z.1 z.2.1 rec (fun x4 x5 h => hrec (x4, x5, h) trivial) z.2.2 )
def f11_oftenOf (x1 : Int) (x2 : Int) (x3 : Int) (h : AH) : Option (Int × AH) :=
  bnd (f11_apartOf x1 x2 x3 h) fun r6 h7 =>
  if 0 < w32 r6 then
    bnd (f11_heatOf x3 h7) fun r10 h11 =>
    l11_oftenOf_22 x3 0 r10 h11
  else
    some (0, h7)
set_option maxRecDepth 100000 in
theorem c11_oftenOf (l : Launch) (G : Geo) (x1 : Int) (x2 : Int) (x3 : Int) (h : AH) : Con l G m11_oftenOf rvI 4 [vA G 69, vI x1, vI x2, vI x3] h (f11_oftenOf x1 x2 x3 h) := by
  have hd : 4 ≤ 4 := Nat.le_refl _
  refine con_I rfl (by decide) rfl rfl (Nat.le_of_ble_eq_true rfl) (L := [some (vA G 69), some (vI x1), some (vI x2), some (vI x3), none, none]) ?_
  unfold f11_oftenOf
  refine den_aload_n (pc := 0) d11_oftenOf_0 rfl rfl ?_
  refine den_iload_n (pc := 1) d11_oftenOf_1 rfl rfl ?_
  refine den_iload_n (pc := 2) d11_oftenOf_2 rfl rfl ?_
  refine den_iload_n (pc := 3) d11_oftenOf_3 rfl rfl ?_
  refine den_callVI (pc := 4) (As := [vI x1, vI x2, vI x3]) fv_11_231 rfl rfl (ok_69 _) (Nat.le_of_ble_eq_true rfl) (Nat.le_trans (by decide) hd) d11_oftenOf_4 (c11_apartOf l G x1 x2 x3 h) (fun r6 h7 m8 o9 => ?_)
  refine den_if_gt (pc := 7) (tgt := 12) d11_oftenOf_7 (by decide) rfl (fun _ => ?_) (fun _ => ?_)
  · refine den_iconst (pc := 12) d11_oftenOf_12 ?_
    refine den_istore (pc := 13) (L2 := [some (vA G 69), some (vI x1), some (vI x2), some (vI x3), some (vI 0), none]) d11_oftenOf_13 (by decide) rfl ?_
    refine den_aload_n (pc := 15) d11_oftenOf_15 rfl rfl ?_
    refine den_iload_n (pc := 16) d11_oftenOf_16 rfl rfl ?_
    refine den_callVI (pc := 17) (As := [vI x3]) fv_11_213 rfl rfl (ok_69 _) (Nat.le_of_ble_eq_true rfl) (Nat.le_trans (by decide) hd) d11_oftenOf_17 (c11_heatOf l G x3 h7) (fun r10 h11 m12 o13 => ?_)
    refine den_istore (pc := 20) (L2 := [some (vA G 69), some (vI x1), some (vI x2), some (vI x3), some (vI 0), some (vI r10)]) d11_oftenOf_20 (by decide) rfl ?_
    refine den_wk [true, false, false, true, true, true] rfl ?_
    exact tl11_oftenOf_22 l G _ hd x3 FU (0, r10, h11) trivial
  · refine den_iconst (pc := 10) d11_oftenOf_10 ?_
    exact den_iret (pc := 11) rfl d11_oftenOf_11
theorem d11_lastsOf_0 : decode m11_lastsOf.2.1 0 = .ok (.iconst 0, 1) := by decide +kernel
theorem d11_lastsOf_1 : decode m11_lastsOf.2.1 1 = .ok (.istore 4, 2) := by decide +kernel
theorem d11_lastsOf_3 : decode m11_lastsOf.2.1 3 = .ok (.iconst 0, 1) := by decide +kernel
theorem d11_lastsOf_4 : decode m11_lastsOf.2.1 4 = .ok (.istore 5, 2) := by decide +kernel
theorem d11_lastsOf_6 : decode m11_lastsOf.2.1 6 = .ok (.iload 5, 2) := by decide +kernel
theorem d11_lastsOf_8 : decode m11_lastsOf.2.1 8 = .ok (.aload_n 0, 1) := by decide +kernel
theorem d11_lastsOf_9 : decode m11_lastsOf.2.1 9 = .ok (.iload_n 1, 1) := by decide +kernel
theorem d11_lastsOf_10 : decode m11_lastsOf.2.1 10 = .ok (.iload_n 2, 1) := by decide +kernel
theorem d11_lastsOf_11 : decode m11_lastsOf.2.1 11 = .ok (.iload_n 3, 1) := by decide +kernel
theorem d11_lastsOf_12 : decode m11_lastsOf.2.1 12 = .ok (.invokevirtual 237, 3) := by decide +kernel
theorem d11_lastsOf_15 : decode m11_lastsOf.2.1 15 = .ok (.if_icmp .ge 36, 3) := by decide +kernel
theorem d11_lastsOf_18 : decode m11_lastsOf.2.1 18 = .ok (.iload 4, 2) := by decide +kernel
theorem d11_lastsOf_20 : decode m11_lastsOf.2.1 20 = .ok (.aload_n 0, 1) := by decide +kernel
theorem d11_lastsOf_21 : decode m11_lastsOf.2.1 21 = .ok (.iload_n 1, 1) := by decide +kernel
theorem d11_lastsOf_22 : decode m11_lastsOf.2.1 22 = .ok (.iload_n 2, 1) := by decide +kernel
theorem d11_lastsOf_23 : decode m11_lastsOf.2.1 23 = .ok (.iload_n 3, 1) := by decide +kernel
theorem d11_lastsOf_24 : decode m11_lastsOf.2.1 24 = .ok (.invokevirtual 231, 3) := by decide +kernel
theorem d11_lastsOf_27 : decode m11_lastsOf.2.1 27 = .ok (.aload_n 0, 1) := by decide +kernel
theorem d11_lastsOf_28 : decode m11_lastsOf.2.1 28 = .ok (.iload_n 3, 1) := by decide +kernel
theorem d11_lastsOf_29 : decode m11_lastsOf.2.1 29 = .ok (.invokevirtual 213, 3) := by decide +kernel
theorem d11_lastsOf_32 : decode m11_lastsOf.2.1 32 = .ok (.iload 5, 2) := by decide +kernel
theorem d11_lastsOf_34 : decode m11_lastsOf.2.1 34 = .ok (.aload_n 0, 1) := by decide +kernel
theorem d11_lastsOf_35 : decode m11_lastsOf.2.1 35 = .ok (.iload_n 3, 1) := by decide +kernel
theorem d11_lastsOf_36 : decode m11_lastsOf.2.1 36 = .ok (.invokevirtual 216, 3) := by decide +kernel
theorem d11_lastsOf_39 : decode m11_lastsOf.2.1 39 = .ok (.imul, 1) := by decide +kernel
theorem d11_lastsOf_40 : decode m11_lastsOf.2.1 40 = .ok (.isub, 1) := by decide +kernel
theorem d11_lastsOf_41 : decode m11_lastsOf.2.1 41 = .ok (.imul, 1) := by decide +kernel
theorem d11_lastsOf_42 : decode m11_lastsOf.2.1 42 = .ok (.iadd, 1) := by decide +kernel
theorem d11_lastsOf_43 : decode m11_lastsOf.2.1 43 = .ok (.istore 4, 2) := by decide +kernel
theorem d11_lastsOf_45 : decode m11_lastsOf.2.1 45 = .ok (.iinc 5 1, 3) := by decide +kernel
theorem d11_lastsOf_48 : decode m11_lastsOf.2.1 48 = .ok (.goto (-42), 3) := by decide +kernel
theorem d11_lastsOf_51 : decode m11_lastsOf.2.1 51 = .ok (.iload 4, 2) := by decide +kernel
theorem d11_lastsOf_53 : decode m11_lastsOf.2.1 53 = .ok (.ireturn, 1) := by decide +kernel
def b11_lastsOf_6 (rec6 : Int × Int × AH → Option (Int × AH)) (x1 : Int) (x2 : Int) (x3 : Int) (x4 : Int) (x5 : Int) (h : AH) : Option (Int × AH) :=
  bnd (f11_oftenOf x1 x2 x3 h) fun r1 h2 =>
  if w32 r1 ≤ w32 x5 then
    some (x4, h2)
  else
    bnd (f11_apartOf x1 x2 x3 h2) fun r5 h6 =>
    bnd (f11_heatOf x3 h6) fun r9 h10 =>
    bnd (f11_fadesOf x3 h10) fun r13 h14 =>
    lt (x4 + (r5 * (r9 - (x5 * r13)))) fun u17 =>
    rec6 (u17, (x5 + 1), h14)
set_option maxRecDepth 100000 in
theorem t11_lastsOf_6 (l : Launch) (G : Geo) (d : Nat) (hd : 5 ≤ d) (x1 : Int) (x2 : Int) (x3 : Int) (x4 : Int) (x5 : Int) (rec6 : Int × Int × AH → Option (Int × AH)) (H6 : ∀ (x4 : Int) (x5 : Int) (h : AH), Den l G m11_lastsOf rvI d 6 [some (vA G 69), some (vI x1), some (vI x2), some (vI x3), some (vI x4), some (vI x5)] [] h (rec6 (x4, x5, h))) (h : AH) : Den l G m11_lastsOf rvI d 6 [some (vA G 69), some (vI x1), some (vI x2), some (vI x3), some (vI x4), some (vI x5)] [] h (b11_lastsOf_6 rec6 x1 x2 x3 x4 x5 h) := by
  unfold b11_lastsOf_6
  refine den_iload (pc := 6) d11_lastsOf_6 rfl ?_
  refine den_aload_n (pc := 8) d11_lastsOf_8 rfl rfl ?_
  refine den_iload_n (pc := 9) d11_lastsOf_9 rfl rfl ?_
  refine den_iload_n (pc := 10) d11_lastsOf_10 rfl rfl ?_
  refine den_iload_n (pc := 11) d11_lastsOf_11 rfl rfl ?_
  refine den_callVI (pc := 12) (As := [vI x1, vI x2, vI x3]) fv_11_237 rfl rfl (ok_69 _) (Nat.le_of_ble_eq_true rfl) (Nat.le_trans (by decide) hd) d11_lastsOf_12 (c11_oftenOf l G x1 x2 x3 h) (fun r1 h2 m3 o4 => ?_)
  refine den_icmp_ge (pc := 15) (tgt := 51) d11_lastsOf_15 (by decide) rfl rfl (fun _ => ?_) (fun _ => ?_)
  · refine den_iload (pc := 51) d11_lastsOf_51 rfl ?_
    exact den_iret (pc := 53) rfl d11_lastsOf_53
  · refine den_iload (pc := 18) d11_lastsOf_18 rfl ?_
    refine den_aload_n (pc := 20) d11_lastsOf_20 rfl rfl ?_
    refine den_iload_n (pc := 21) d11_lastsOf_21 rfl rfl ?_
    refine den_iload_n (pc := 22) d11_lastsOf_22 rfl rfl ?_
    refine den_iload_n (pc := 23) d11_lastsOf_23 rfl rfl ?_
    refine den_callVI (pc := 24) (As := [vI x1, vI x2, vI x3]) fv_11_231 rfl rfl (ok_69 _) (Nat.le_of_ble_eq_true rfl) (Nat.le_trans (by decide) hd) d11_lastsOf_24 (c11_apartOf l G x1 x2 x3 h2) (fun r5 h6 m7 o8 => ?_)
    refine den_aload_n (pc := 27) d11_lastsOf_27 rfl rfl ?_
    refine den_iload_n (pc := 28) d11_lastsOf_28 rfl rfl ?_
    refine den_callVI (pc := 29) (As := [vI x3]) fv_11_213 rfl rfl (ok_69 _) (Nat.le_of_ble_eq_true rfl) (Nat.le_trans (by decide) hd) d11_lastsOf_29 (c11_heatOf l G x3 h6) (fun r9 h10 m11 o12 => ?_)
    refine den_iload (pc := 32) d11_lastsOf_32 rfl ?_
    refine den_aload_n (pc := 34) d11_lastsOf_34 rfl rfl ?_
    refine den_iload_n (pc := 35) d11_lastsOf_35 rfl rfl ?_
    refine den_callVI (pc := 36) (As := [vI x3]) fv_11_216 rfl rfl (ok_69 _) (Nat.le_of_ble_eq_true rfl) (Nat.le_trans (by decide) hd) d11_lastsOf_36 (c11_fadesOf l G x3 h10) (fun r13 h14 m15 o16 => ?_)
    refine den_imul (pc := 39) d11_lastsOf_39 ?_
    refine den_isub (pc := 40) d11_lastsOf_40 ?_
    refine den_imul (pc := 41) d11_lastsOf_41 ?_
    refine den_iadd (pc := 42) d11_lastsOf_42 ?_
    refine den_istoreL (pc := 43) (L2 := fun y => [some (vA G 69), some (vI x1), some (vI x2), some (vI x3), some (vI y), some (vI x5)]) d11_lastsOf_43 (by decide) (fun _ => rfl) (fun u17 => ?_)
    refine den_iinc (pc := 45) (L2 := [some (vA G 69), some (vI x1), some (vI x2), some (vI x3), some (vI u17), some (vI (x5 + 1))]) d11_lastsOf_45 (by decide) rfl rfl ?_
    refine den_goto (pc := 48) (tgt := 6) d11_lastsOf_48 (by decide) ?_
    exact H6 u17 (x5 + 1) h14
def l11_lastsOf_6 (x1 : Int) (x2 : Int) (x3 : Int) (x4 : Int) (x5 : Int) (h : AH) : Option (Int × AH) := fx (fun rec z => b11_lastsOf_6 rec x1 x2 x3 z.1 z.2.1 z.2.2) FU (x4, x5, h)
set_option maxRecDepth 100000 in
theorem tl11_lastsOf_6 (l : Launch) (G : Geo) (d : Nat) (hd : 5 ≤ d) (x1 : Int) (x2 : Int) (x3 : Int) : ∀ (n : Nat) (z : Int × Int × AH), True → Den l G m11_lastsOf rvI d 6 [some (vA G 69), some (vI x1), some (vI x2), some (vI x3), some (vI z.1), some (vI z.2.1)] [] z.2.2 (fx (fun rec z => b11_lastsOf_6 rec x1 x2 x3 z.1 z.2.1 z.2.2) n z) :=
  den_fx (F := fun rec z => b11_lastsOf_6 rec x1 x2 x3 z.1 z.2.1 z.2.2) (P := fun z => True) (fL := fun z => [some (vA G 69), some (vI x1), some (vI x2), some (vI x3), some (vI z.1), some (vI z.2.1)]) (fs := fun z => []) (fh := fun z => z.2.2) (fun rec hrec z hz => t11_lastsOf_6 l G d hd x1 x2 x3 z.1 z.2.1 rec (fun x4 x5 h => hrec (x4, x5, h) trivial) z.2.2 )
def f11_lastsOf (x1 : Int) (x2 : Int) (x3 : Int) (h : AH) : Option (Int × AH) :=
  l11_lastsOf_6 x1 x2 x3 0 0 h
set_option maxRecDepth 100000 in
theorem c11_lastsOf (l : Launch) (G : Geo) (x1 : Int) (x2 : Int) (x3 : Int) (h : AH) : Con l G m11_lastsOf rvI 5 [vA G 69, vI x1, vI x2, vI x3] h (f11_lastsOf x1 x2 x3 h) := by
  have hd : 5 ≤ 5 := Nat.le_refl _
  refine con_I rfl (by decide) rfl rfl (Nat.le_of_ble_eq_true rfl) (L := [some (vA G 69), some (vI x1), some (vI x2), some (vI x3), none, none]) ?_
  unfold f11_lastsOf
  refine den_iconst (pc := 0) d11_lastsOf_0 ?_
  refine den_istore (pc := 1) (L2 := [some (vA G 69), some (vI x1), some (vI x2), some (vI x3), some (vI 0), none]) d11_lastsOf_1 (by decide) rfl ?_
  refine den_iconst (pc := 3) d11_lastsOf_3 ?_
  refine den_istore (pc := 4) (L2 := [some (vA G 69), some (vI x1), some (vI x2), some (vI x3), some (vI 0), some (vI 0)]) d11_lastsOf_4 (by decide) rfl ?_
  exact tl11_lastsOf_6 l G _ hd x1 x2 x3 FU (0, 0, h) trivial
theorem d11_lasts_0 : decode m11_lasts.2.1 0 = .ok (.aload_n 0, 1) := by decide +kernel
theorem d11_lasts_1 : decode m11_lasts.2.1 1 = .ok (.iload_n 1, 1) := by decide +kernel
theorem d11_lasts_2 : decode m11_lasts.2.1 2 = .ok (.invokevirtual 201, 3) := by decide +kernel
theorem d11_lasts_5 : decode m11_lasts.2.1 5 = .ok (.ifCond .eq 33, 3) := by decide +kernel
theorem d11_lasts_8 : decode m11_lasts.2.1 8 = .ok (.aload_n 0, 1) := by decide +kernel
theorem d11_lasts_9 : decode m11_lasts.2.1 9 = .ok (.iload_n 2, 1) := by decide +kernel
theorem d11_lasts_10 : decode m11_lasts.2.1 10 = .ok (.iload_n 3, 1) := by decide +kernel
theorem d11_lasts_11 : decode m11_lasts.2.1 11 = .ok (.invokevirtual 228, 3) := by decide +kernel
theorem d11_lasts_14 : decode m11_lasts.2.1 14 = .ok (.ifCond .eq 24, 3) := by decide +kernel
theorem d11_lasts_17 : decode m11_lasts.2.1 17 = .ok (.aload_n 0, 1) := by decide +kernel
theorem d11_lasts_18 : decode m11_lasts.2.1 18 = .ok (.iload 4, 2) := by decide +kernel
theorem d11_lasts_20 : decode m11_lasts.2.1 20 = .ok (.invokevirtual 207, 3) := by decide +kernel
theorem d11_lasts_23 : decode m11_lasts.2.1 23 = .ok (.ifCond .eq 15, 3) := by decide +kernel
theorem d11_lasts_26 : decode m11_lasts.2.1 26 = .ok (.aload_n 0, 1) := by decide +kernel
theorem d11_lasts_27 : decode m11_lasts.2.1 27 = .ok (.iload_n 2, 1) := by decide +kernel
theorem d11_lasts_28 : decode m11_lasts.2.1 28 = .ok (.iload_n 3, 1) := by decide +kernel
theorem d11_lasts_29 : decode m11_lasts.2.1 29 = .ok (.iload 4, 2) := by decide +kernel
theorem d11_lasts_31 : decode m11_lasts.2.1 31 = .ok (.invokevirtual 231, 3) := by decide +kernel
theorem d11_lasts_34 : decode m11_lasts.2.1 34 = .ok (.iconst (-1), 1) := by decide +kernel
theorem d11_lasts_35 : decode m11_lasts.2.1 35 = .ok (.if_icmp .ne 5, 3) := by decide +kernel
theorem d11_lasts_38 : decode m11_lasts.2.1 38 = .ok (.iconst (-1), 1) := by decide +kernel
theorem d11_lasts_39 : decode m11_lasts.2.1 39 = .ok (.ireturn, 1) := by decide +kernel
theorem d11_lasts_40 : decode m11_lasts.2.1 40 = .ok (.iload 5, 2) := by decide +kernel
theorem d11_lasts_42 : decode m11_lasts.2.1 42 = .ok (.ifCond .eq 14, 3) := by decide +kernel
theorem d11_lasts_45 : decode m11_lasts.2.1 45 = .ok (.aload_n 0, 1) := by decide +kernel
theorem d11_lasts_46 : decode m11_lasts.2.1 46 = .ok (.iload_n 2, 1) := by decide +kernel
theorem d11_lasts_47 : decode m11_lasts.2.1 47 = .ok (.iload_n 3, 1) := by decide +kernel
theorem d11_lasts_48 : decode m11_lasts.2.1 48 = .ok (.iload 4, 2) := by decide +kernel
theorem d11_lasts_50 : decode m11_lasts.2.1 50 = .ok (.invokevirtual 240, 3) := by decide +kernel
theorem d11_lasts_53 : decode m11_lasts.2.1 53 = .ok (.goto 11, 3) := by decide +kernel
theorem d11_lasts_56 : decode m11_lasts.2.1 56 = .ok (.aload_n 0, 1) := by decide +kernel
theorem d11_lasts_57 : decode m11_lasts.2.1 57 = .ok (.iload_n 2, 1) := by decide +kernel
theorem d11_lasts_58 : decode m11_lasts.2.1 58 = .ok (.iload_n 3, 1) := by decide +kernel
theorem d11_lasts_59 : decode m11_lasts.2.1 59 = .ok (.iload 4, 2) := by decide +kernel
theorem d11_lasts_61 : decode m11_lasts.2.1 61 = .ok (.invokevirtual 237, 3) := by decide +kernel
theorem d11_lasts_64 : decode m11_lasts.2.1 64 = .ok (.ireturn, 1) := by decide +kernel
def f11_lasts (x1 : Int) (x2 : Int) (x3 : Int) (x4 : Int) (x5 : Int) (h : AH) : Option (Int × AH) :=
  bnd (f11_isVillage x1 h) fun r1 h2 =>
  if w32 r1 = 0 then
    some ((-1), h2)
  else
    bnd (f11_isTwo x2 x3 h2) fun r5 h6 =>
    if w32 r5 = 0 then
      some ((-1), h6)
    else
      bnd (f11_isSubject x4 h6) fun r9 h10 =>
      if w32 r9 = 0 then
        some ((-1), h10)
      else
        bnd (f11_apartOf x2 x3 x4 h10) fun r13 h14 =>
        if ¬ w32 r13 = (-1) then
          if w32 x5 = 0 then
            bnd (f11_oftenOf x2 x3 x4 h14) fun r17 h18 =>
            some (r17, h18)
          else
            bnd (f11_lastsOf x2 x3 x4 h14) fun r21 h22 =>
            some (r21, h22)
        else
          some ((-1), h14)
set_option maxRecDepth 100000 in
theorem c11_lasts (l : Launch) (G : Geo) (x1 : Int) (x2 : Int) (x3 : Int) (x4 : Int) (x5 : Int) (h : AH) : Con l G m11_lasts rvI 6 [vA G 69, vI x1, vI x2, vI x3, vI x4, vI x5] h (f11_lasts x1 x2 x3 x4 x5 h) := by
  have hd : 6 ≤ 6 := Nat.le_refl _
  refine con_I rfl (by decide) rfl rfl (Nat.le_of_ble_eq_true rfl) (L := [some (vA G 69), some (vI x1), some (vI x2), some (vI x3), some (vI x4), some (vI x5)]) ?_
  unfold f11_lasts
  refine den_aload_n (pc := 0) d11_lasts_0 rfl rfl ?_
  refine den_iload_n (pc := 1) d11_lasts_1 rfl rfl ?_
  refine den_callVI (pc := 2) (As := [vI x1]) fv_11_201 rfl rfl (ok_69 _) (Nat.le_of_ble_eq_true rfl) (Nat.le_trans (by decide) hd) d11_lasts_2 (c11_isVillage l G x1 h) (fun r1 h2 m3 o4 => ?_)
  refine den_if_eq (pc := 5) (tgt := 38) d11_lasts_5 (by decide) rfl (fun _ => ?_) (fun _ => ?_)
  · refine den_iconst (pc := 38) d11_lasts_38 ?_
    exact den_iret (pc := 39) rfl d11_lasts_39
  · refine den_aload_n (pc := 8) d11_lasts_8 rfl rfl ?_
    refine den_iload_n (pc := 9) d11_lasts_9 rfl rfl ?_
    refine den_iload_n (pc := 10) d11_lasts_10 rfl rfl ?_
    refine den_callVI (pc := 11) (As := [vI x2, vI x3]) fv_11_228 rfl rfl (ok_69 _) (Nat.le_of_ble_eq_true rfl) (Nat.le_trans (by decide) hd) d11_lasts_11 (c11_isTwo l G x2 x3 h2) (fun r5 h6 m7 o8 => ?_)
    refine den_if_eq (pc := 14) (tgt := 38) d11_lasts_14 (by decide) rfl (fun _ => ?_) (fun _ => ?_)
    · refine den_iconst (pc := 38) d11_lasts_38 ?_
      exact den_iret (pc := 39) rfl d11_lasts_39
    · refine den_aload_n (pc := 17) d11_lasts_17 rfl rfl ?_
      refine den_iload (pc := 18) d11_lasts_18 rfl ?_
      refine den_callVI (pc := 20) (As := [vI x4]) fv_11_207 rfl rfl (ok_69 _) (Nat.le_of_ble_eq_true rfl) (Nat.le_trans (by decide) hd) d11_lasts_20 (c11_isSubject l G x4 h6) (fun r9 h10 m11 o12 => ?_)
      refine den_if_eq (pc := 23) (tgt := 38) d11_lasts_23 (by decide) rfl (fun _ => ?_) (fun _ => ?_)
      · refine den_iconst (pc := 38) d11_lasts_38 ?_
        exact den_iret (pc := 39) rfl d11_lasts_39
      · refine den_aload_n (pc := 26) d11_lasts_26 rfl rfl ?_
        refine den_iload_n (pc := 27) d11_lasts_27 rfl rfl ?_
        refine den_iload_n (pc := 28) d11_lasts_28 rfl rfl ?_
        refine den_iload (pc := 29) d11_lasts_29 rfl ?_
        refine den_callVI (pc := 31) (As := [vI x2, vI x3, vI x4]) fv_11_231 rfl rfl (ok_69 _) (Nat.le_of_ble_eq_true rfl) (Nat.le_trans (by decide) hd) d11_lasts_31 (c11_apartOf l G x2 x3 x4 h10) (fun r13 h14 m15 o16 => ?_)
        refine den_iconst (pc := 34) d11_lasts_34 ?_
        refine den_icmp_ne (pc := 35) (tgt := 40) d11_lasts_35 (by decide) rfl (by decide) (fun _ => ?_) (fun _ => ?_)
        · refine den_iload (pc := 40) d11_lasts_40 rfl ?_
          refine den_if_eq (pc := 42) (tgt := 56) d11_lasts_42 (by decide) rfl (fun _ => ?_) (fun _ => ?_)
          · refine den_aload_n (pc := 56) d11_lasts_56 rfl rfl ?_
            refine den_iload_n (pc := 57) d11_lasts_57 rfl rfl ?_
            refine den_iload_n (pc := 58) d11_lasts_58 rfl rfl ?_
            refine den_iload (pc := 59) d11_lasts_59 rfl ?_
            refine den_callVI (pc := 61) (As := [vI x2, vI x3, vI x4]) fv_11_237 rfl rfl (ok_69 _) (Nat.le_of_ble_eq_true rfl) (Nat.le_trans (by decide) hd) d11_lasts_61 (c11_oftenOf l G x2 x3 x4 h14) (fun r17 h18 m19 o20 => ?_)
            exact den_iret (pc := 64) rfl d11_lasts_64
          · refine den_aload_n (pc := 45) d11_lasts_45 rfl rfl ?_
            refine den_iload_n (pc := 46) d11_lasts_46 rfl rfl ?_
            refine den_iload_n (pc := 47) d11_lasts_47 rfl rfl ?_
            refine den_iload (pc := 48) d11_lasts_48 rfl ?_
            refine den_callVI (pc := 50) (As := [vI x2, vI x3, vI x4]) fv_11_240 rfl rfl (ok_69 _) (Nat.le_of_ble_eq_true rfl) (Nat.le_trans (by decide) hd) d11_lasts_50 (c11_lastsOf l G x2 x3 x4 h14) (fun r21 h22 m23 o24 => ?_)
            refine den_goto (pc := 53) (tgt := 64) d11_lasts_53 (by decide) ?_
            exact den_iret (pc := 64) rfl d11_lasts_64
        · refine den_iconst (pc := 38) d11_lasts_38 ?_
          exact den_iret (pc := 39) rfl d11_lasts_39
theorem d11_togetherOf_0 : decode m11_togetherOf.2.1 0 = .ok (.iconst 0, 1) := by decide +kernel
theorem d11_togetherOf_1 : decode m11_togetherOf.2.1 1 = .ok (.istore_n 3, 1) := by decide +kernel
theorem d11_togetherOf_2 : decode m11_togetherOf.2.1 2 = .ok (.iconst 0, 1) := by decide +kernel
theorem d11_togetherOf_3 : decode m11_togetherOf.2.1 3 = .ok (.istore 4, 2) := by decide +kernel
theorem d11_togetherOf_5 : decode m11_togetherOf.2.1 5 = .ok (.iload 4, 2) := by decide +kernel
theorem d11_togetherOf_7 : decode m11_togetherOf.2.1 7 = .ok (.aload_n 0, 1) := by decide +kernel
theorem d11_togetherOf_8 : decode m11_togetherOf.2.1 8 = .ok (.getfield 195, 3) := by decide +kernel
theorem d11_togetherOf_11 : decode m11_togetherOf.2.1 11 = .ok (.if_icmp .ge 20, 3) := by decide +kernel
theorem d11_togetherOf_14 : decode m11_togetherOf.2.1 14 = .ok (.iload_n 3, 1) := by decide +kernel
theorem d11_togetherOf_15 : decode m11_togetherOf.2.1 15 = .ok (.aload_n 0, 1) := by decide +kernel
theorem d11_togetherOf_16 : decode m11_togetherOf.2.1 16 = .ok (.iload_n 1, 1) := by decide +kernel
theorem d11_togetherOf_17 : decode m11_togetherOf.2.1 17 = .ok (.iload_n 2, 1) := by decide +kernel
theorem d11_togetherOf_18 : decode m11_togetherOf.2.1 18 = .ok (.iload 4, 2) := by decide +kernel
theorem d11_togetherOf_20 : decode m11_togetherOf.2.1 20 = .ok (.invokevirtual 240, 3) := by decide +kernel
theorem d11_togetherOf_23 : decode m11_togetherOf.2.1 23 = .ok (.iadd, 1) := by decide +kernel
theorem d11_togetherOf_24 : decode m11_togetherOf.2.1 24 = .ok (.istore_n 3, 1) := by decide +kernel
theorem d11_togetherOf_25 : decode m11_togetherOf.2.1 25 = .ok (.iinc 4 1, 3) := by decide +kernel
theorem d11_togetherOf_28 : decode m11_togetherOf.2.1 28 = .ok (.goto (-23), 3) := by decide +kernel
theorem d11_togetherOf_31 : decode m11_togetherOf.2.1 31 = .ok (.iload_n 3, 1) := by decide +kernel
theorem d11_togetherOf_32 : decode m11_togetherOf.2.1 32 = .ok (.ireturn, 1) := by decide +kernel
def b11_togetherOf_5 (rec5 : Int × Int × AH → Option (Int × AH)) (x1 : Int) (x2 : Int) (x3 : Int) (x4 : Int) (h : AH) : Option (Int × AH) :=
  if w32 (h.2 69 14) ≤ w32 x4 then
    some (x3, h)
  else
    bnd (f11_lastsOf x1 x2 x4 h) fun r1 h2 =>
    lt (x3 + r1) fun u5 =>
    rec5 (u5, (x4 + 1), h2)
set_option maxRecDepth 100000 in
theorem t11_togetherOf_5 (l : Launch) (G : Geo) (d : Nat) (hd : 6 ≤ d) (x1 : Int) (x2 : Int) (x3 : Int) (x4 : Int) (rec5 : Int × Int × AH → Option (Int × AH)) (H5 : ∀ (x3 : Int) (x4 : Int) (h : AH), Den l G m11_togetherOf rvI d 5 [some (vA G 69), some (vI x1), some (vI x2), some (vI x3), some (vI x4)] [] h (rec5 (x3, x4, h))) (h : AH) : Den l G m11_togetherOf rvI d 5 [some (vA G 69), some (vI x1), some (vI x2), some (vI x3), some (vI x4)] [] h (b11_togetherOf_5 rec5 x1 x2 x3 x4 h) := by
  unfold b11_togetherOf_5
  refine den_iload (pc := 5) d11_togetherOf_5 rfl ?_
  refine den_aload_n (pc := 7) d11_togetherOf_7 rfl rfl ?_
  refine den_getI (pc := 8) fa_11_195 (ok_69 _) d11_togetherOf_8 ?_
  refine den_icmp_ge (pc := 11) (tgt := 31) d11_togetherOf_11 (by decide) rfl rfl (fun _ => ?_) (fun _ => ?_)
  · refine den_iload_n (pc := 31) d11_togetherOf_31 rfl rfl ?_
    exact den_iret (pc := 32) rfl d11_togetherOf_32
  · refine den_iload_n (pc := 14) d11_togetherOf_14 rfl rfl ?_
    refine den_aload_n (pc := 15) d11_togetherOf_15 rfl rfl ?_
    refine den_iload_n (pc := 16) d11_togetherOf_16 rfl rfl ?_
    refine den_iload_n (pc := 17) d11_togetherOf_17 rfl rfl ?_
    refine den_iload (pc := 18) d11_togetherOf_18 rfl ?_
    refine den_callVI (pc := 20) (As := [vI x1, vI x2, vI x4]) fv_11_240 rfl rfl (ok_69 _) (Nat.le_of_ble_eq_true rfl) (Nat.le_trans (by decide) hd) d11_togetherOf_20 (c11_lastsOf l G x1 x2 x4 h) (fun r1 h2 m3 o4 => ?_)
    refine den_iadd (pc := 23) d11_togetherOf_23 ?_
    refine den_istore_nL (pc := 24) (L2 := fun y => [some (vA G 69), some (vI x1), some (vI x2), some (vI y), some (vI x4)]) d11_togetherOf_24 rfl (by decide) (fun _ => rfl) (fun u5 => ?_)
    refine den_iinc (pc := 25) (L2 := [some (vA G 69), some (vI x1), some (vI x2), some (vI u5), some (vI (x4 + 1))]) d11_togetherOf_25 (by decide) rfl rfl ?_
    refine den_goto (pc := 28) (tgt := 5) d11_togetherOf_28 (by decide) ?_
    exact H5 u5 (x4 + 1) h2
def l11_togetherOf_5 (x1 : Int) (x2 : Int) (x3 : Int) (x4 : Int) (h : AH) : Option (Int × AH) := fx (fun rec z => b11_togetherOf_5 rec x1 x2 z.1 z.2.1 z.2.2) FU (x3, x4, h)
set_option maxRecDepth 100000 in
theorem tl11_togetherOf_5 (l : Launch) (G : Geo) (d : Nat) (hd : 6 ≤ d) (x1 : Int) (x2 : Int) : ∀ (n : Nat) (z : Int × Int × AH), True → Den l G m11_togetherOf rvI d 5 [some (vA G 69), some (vI x1), some (vI x2), some (vI z.1), some (vI z.2.1)] [] z.2.2 (fx (fun rec z => b11_togetherOf_5 rec x1 x2 z.1 z.2.1 z.2.2) n z) :=
  den_fx (F := fun rec z => b11_togetherOf_5 rec x1 x2 z.1 z.2.1 z.2.2) (P := fun z => True) (fL := fun z => [some (vA G 69), some (vI x1), some (vI x2), some (vI z.1), some (vI z.2.1)]) (fs := fun z => []) (fh := fun z => z.2.2) (fun rec hrec z hz => t11_togetherOf_5 l G d hd x1 x2 z.1 z.2.1 rec (fun x3 x4 h => hrec (x3, x4, h) trivial) z.2.2 )
def f11_togetherOf (x1 : Int) (x2 : Int) (h : AH) : Option (Int × AH) :=
  l11_togetherOf_5 x1 x2 0 0 h
set_option maxRecDepth 100000 in
theorem c11_togetherOf (l : Launch) (G : Geo) (x1 : Int) (x2 : Int) (h : AH) : Con l G m11_togetherOf rvI 6 [vA G 69, vI x1, vI x2] h (f11_togetherOf x1 x2 h) := by
  have hd : 6 ≤ 6 := Nat.le_refl _
  refine con_I rfl (by decide) rfl rfl (Nat.le_of_ble_eq_true rfl) (L := [some (vA G 69), some (vI x1), some (vI x2), none, none]) ?_
  unfold f11_togetherOf
  refine den_iconst (pc := 0) d11_togetherOf_0 ?_
  refine den_istore_n (pc := 1) (L2 := [some (vA G 69), some (vI x1), some (vI x2), some (vI 0), none]) d11_togetherOf_1 rfl (by decide) rfl ?_
  refine den_iconst (pc := 2) d11_togetherOf_2 ?_
  refine den_istore (pc := 3) (L2 := [some (vA G 69), some (vI x1), some (vI x2), some (vI 0), some (vI 0)]) d11_togetherOf_3 (by decide) rfl ?_
  exact tl11_togetherOf_5 l G _ hd x1 x2 FU (0, 0, h) trivial
theorem d11_together_0 : decode m11_together.2.1 0 = .ok (.aload_n 0, 1) := by decide +kernel
theorem d11_together_1 : decode m11_together.2.1 1 = .ok (.iload_n 1, 1) := by decide +kernel
theorem d11_together_2 : decode m11_together.2.1 2 = .ok (.invokevirtual 201, 3) := by decide +kernel
theorem d11_together_5 : decode m11_together.2.1 5 = .ok (.ifCond .eq 21, 3) := by decide +kernel
theorem d11_together_8 : decode m11_together.2.1 8 = .ok (.aload_n 0, 1) := by decide +kernel
theorem d11_together_9 : decode m11_together.2.1 9 = .ok (.iload_n 2, 1) := by decide +kernel
theorem d11_together_10 : decode m11_together.2.1 10 = .ok (.iload_n 3, 1) := by decide +kernel
theorem d11_together_11 : decode m11_together.2.1 11 = .ok (.invokevirtual 228, 3) := by decide +kernel
theorem d11_together_14 : decode m11_together.2.1 14 = .ok (.ifCond .eq 12, 3) := by decide +kernel
theorem d11_together_17 : decode m11_together.2.1 17 = .ok (.aload_n 0, 1) := by decide +kernel
theorem d11_together_18 : decode m11_together.2.1 18 = .ok (.iload_n 2, 1) := by decide +kernel
theorem d11_together_19 : decode m11_together.2.1 19 = .ok (.iload_n 3, 1) := by decide +kernel
theorem d11_together_20 : decode m11_together.2.1 20 = .ok (.invokevirtual 243, 3) := by decide +kernel
theorem d11_together_23 : decode m11_together.2.1 23 = .ok (.goto 4, 3) := by decide +kernel
theorem d11_together_26 : decode m11_together.2.1 26 = .ok (.iconst (-1), 1) := by decide +kernel
theorem d11_together_27 : decode m11_together.2.1 27 = .ok (.ireturn, 1) := by decide +kernel
def f11_together (x1 : Int) (x2 : Int) (x3 : Int) (h : AH) : Option (Int × AH) :=
  bnd (f11_isVillage x1 h) fun r1 h2 =>
  if w32 r1 = 0 then
    some ((-1), h2)
  else
    bnd (f11_isTwo x2 x3 h2) fun r5 h6 =>
    if w32 r5 = 0 then
      some ((-1), h6)
    else
      bnd (f11_togetherOf x2 x3 h6) fun r9 h10 =>
      some (r9, h10)
set_option maxRecDepth 100000 in
theorem c11_together (l : Launch) (G : Geo) (x1 : Int) (x2 : Int) (x3 : Int) (h : AH) : Con l G m11_together rvI 7 [vA G 69, vI x1, vI x2, vI x3] h (f11_together x1 x2 x3 h) := by
  have hd : 7 ≤ 7 := Nat.le_refl _
  refine con_I rfl (by decide) rfl rfl (Nat.le_of_ble_eq_true rfl) (L := [some (vA G 69), some (vI x1), some (vI x2), some (vI x3)]) ?_
  unfold f11_together
  refine den_aload_n (pc := 0) d11_together_0 rfl rfl ?_
  refine den_iload_n (pc := 1) d11_together_1 rfl rfl ?_
  refine den_callVI (pc := 2) (As := [vI x1]) fv_11_201 rfl rfl (ok_69 _) (Nat.le_of_ble_eq_true rfl) (Nat.le_trans (by decide) hd) d11_together_2 (c11_isVillage l G x1 h) (fun r1 h2 m3 o4 => ?_)
  refine den_if_eq (pc := 5) (tgt := 26) d11_together_5 (by decide) rfl (fun _ => ?_) (fun _ => ?_)
  · refine den_iconst (pc := 26) d11_together_26 ?_
    exact den_iret (pc := 27) rfl d11_together_27
  · refine den_aload_n (pc := 8) d11_together_8 rfl rfl ?_
    refine den_iload_n (pc := 9) d11_together_9 rfl rfl ?_
    refine den_iload_n (pc := 10) d11_together_10 rfl rfl ?_
    refine den_callVI (pc := 11) (As := [vI x2, vI x3]) fv_11_228 rfl rfl (ok_69 _) (Nat.le_of_ble_eq_true rfl) (Nat.le_trans (by decide) hd) d11_together_11 (c11_isTwo l G x2 x3 h2) (fun r5 h6 m7 o8 => ?_)
    refine den_if_eq (pc := 14) (tgt := 26) d11_together_14 (by decide) rfl (fun _ => ?_) (fun _ => ?_)
    · refine den_iconst (pc := 26) d11_together_26 ?_
      exact den_iret (pc := 27) rfl d11_together_27
    · refine den_aload_n (pc := 17) d11_together_17 rfl rfl ?_
      refine den_iload_n (pc := 18) d11_together_18 rfl rfl ?_
      refine den_iload_n (pc := 19) d11_together_19 rfl rfl ?_
      refine den_callVI (pc := 20) (As := [vI x2, vI x3]) fv_11_243 rfl rfl (ok_69 _) (Nat.le_of_ble_eq_true rfl) (Nat.le_trans (by decide) hd) d11_together_20 (c11_togetherOf l G x2 x3 h6) (fun r9 h10 m11 o12 => ?_)
      refine den_goto (pc := 23) (tgt := 27) d11_together_23 (by decide) ?_
      exact den_iret (pc := 27) rfl d11_together_27
theorem d11_nextAt_0 : decode m11_nextAt.2.1 0 = .ok (.iload_n 2, 1) := by decide +kernel
theorem d11_nextAt_1 : decode m11_nextAt.2.1 1 = .ok (.iconst 1, 1) := by decide +kernel
theorem d11_nextAt_2 : decode m11_nextAt.2.1 2 = .ok (.iadd, 1) := by decide +kernel
theorem d11_nextAt_3 : decode m11_nextAt.2.1 3 = .ok (.istore_n 3, 1) := by decide +kernel
theorem d11_nextAt_4 : decode m11_nextAt.2.1 4 = .ok (.iload_n 3, 1) := by decide +kernel
theorem d11_nextAt_5 : decode m11_nextAt.2.1 5 = .ok (.bipush 100, 2) := by decide +kernel
theorem d11_nextAt_7 : decode m11_nextAt.2.1 7 = .ok (.aload_n 0, 1) := by decide +kernel
theorem d11_nextAt_8 : decode m11_nextAt.2.1 8 = .ok (.getfield 195, 3) := by decide +kernel
theorem d11_nextAt_11 : decode m11_nextAt.2.1 11 = .ok (.imul, 1) := by decide +kernel
theorem d11_nextAt_12 : decode m11_nextAt.2.1 12 = .ok (.if_icmp .ge 122, 3) := by decide +kernel
theorem d11_nextAt_15 : decode m11_nextAt.2.1 15 = .ok (.iload_n 3, 1) := by decide +kernel
theorem d11_nextAt_16 : decode m11_nextAt.2.1 16 = .ok (.bipush 100, 2) := by decide +kernel
theorem d11_nextAt_18 : decode m11_nextAt.2.1 18 = .ok (.idiv, 1) := by decide +kernel
theorem d11_nextAt_19 : decode m11_nextAt.2.1 19 = .ok (.istore 4, 2) := by decide +kernel
theorem d11_nextAt_21 : decode m11_nextAt.2.1 21 = .ok (.iload_n 3, 1) := by decide +kernel
theorem d11_nextAt_22 : decode m11_nextAt.2.1 22 = .ok (.bipush 10, 2) := by decide +kernel
theorem d11_nextAt_24 : decode m11_nextAt.2.1 24 = .ok (.idiv, 1) := by decide +kernel
theorem d11_nextAt_25 : decode m11_nextAt.2.1 25 = .ok (.bipush 10, 2) := by decide +kernel
theorem d11_nextAt_27 : decode m11_nextAt.2.1 27 = .ok (.irem, 1) := by decide +kernel
theorem d11_nextAt_28 : decode m11_nextAt.2.1 28 = .ok (.istore 5, 2) := by decide +kernel
theorem d11_nextAt_30 : decode m11_nextAt.2.1 30 = .ok (.iload_n 3, 1) := by decide +kernel
theorem d11_nextAt_31 : decode m11_nextAt.2.1 31 = .ok (.bipush 10, 2) := by decide +kernel
theorem d11_nextAt_33 : decode m11_nextAt.2.1 33 = .ok (.irem, 1) := by decide +kernel
theorem d11_nextAt_34 : decode m11_nextAt.2.1 34 = .ok (.istore 6, 2) := by decide +kernel
theorem d11_nextAt_36 : decode m11_nextAt.2.1 36 = .ok (.iload 5, 2) := by decide +kernel
theorem d11_nextAt_38 : decode m11_nextAt.2.1 38 = .ok (.iload 6, 2) := by decide +kernel
theorem d11_nextAt_40 : decode m11_nextAt.2.1 40 = .ok (.if_icmp .ge 88, 3) := by decide +kernel
theorem d11_nextAt_43 : decode m11_nextAt.2.1 43 = .ok (.iload 6, 2) := by decide +kernel
theorem d11_nextAt_45 : decode m11_nextAt.2.1 45 = .ok (.aload_n 0, 1) := by decide +kernel
theorem d11_nextAt_46 : decode m11_nextAt.2.1 46 = .ok (.getfield 192, 3) := by decide +kernel
theorem d11_nextAt_49 : decode m11_nextAt.2.1 49 = .ok (.if_icmp .ge 79, 3) := by decide +kernel
theorem d11_nextAt_52 : decode m11_nextAt.2.1 52 = .ok (.aload_n 0, 1) := by decide +kernel
theorem d11_nextAt_53 : decode m11_nextAt.2.1 53 = .ok (.getfield 29, 3) := by decide +kernel
theorem d11_nextAt_56 : decode m11_nextAt.2.1 56 = .ok (.iload_n 1, 1) := by decide +kernel
theorem d11_nextAt_57 : decode m11_nextAt.2.1 57 = .ok (.iaload, 1) := by decide +kernel
theorem d11_nextAt_58 : decode m11_nextAt.2.1 58 = .ok (.iload 4, 2) := by decide +kernel
theorem d11_nextAt_60 : decode m11_nextAt.2.1 60 = .ok (.ishr, 1) := by decide +kernel
theorem d11_nextAt_61 : decode m11_nextAt.2.1 61 = .ok (.iconst 1, 1) := by decide +kernel
theorem d11_nextAt_62 : decode m11_nextAt.2.1 62 = .ok (.iand, 1) := by decide +kernel
theorem d11_nextAt_63 : decode m11_nextAt.2.1 63 = .ok (.iconst 1, 1) := by decide +kernel
theorem d11_nextAt_64 : decode m11_nextAt.2.1 64 = .ok (.if_icmp .eq 64, 3) := by decide +kernel
theorem d11_nextAt_67 : decode m11_nextAt.2.1 67 = .ok (.aload_n 0, 1) := by decide +kernel
theorem d11_nextAt_68 : decode m11_nextAt.2.1 68 = .ok (.getfield 26, 3) := by decide +kernel
theorem d11_nextAt_71 : decode m11_nextAt.2.1 71 = .ok (.iload_n 1, 1) := by decide +kernel
theorem d11_nextAt_72 : decode m11_nextAt.2.1 72 = .ok (.iaload, 1) := by decide +kernel
theorem d11_nextAt_73 : decode m11_nextAt.2.1 73 = .ok (.iload 5, 2) := by decide +kernel
theorem d11_nextAt_75 : decode m11_nextAt.2.1 75 = .ok (.ishr, 1) := by decide +kernel
theorem d11_nextAt_76 : decode m11_nextAt.2.1 76 = .ok (.iconst 1, 1) := by decide +kernel
theorem d11_nextAt_77 : decode m11_nextAt.2.1 77 = .ok (.iand, 1) := by decide +kernel
theorem d11_nextAt_78 : decode m11_nextAt.2.1 78 = .ok (.iconst 1, 1) := by decide +kernel
theorem d11_nextAt_79 : decode m11_nextAt.2.1 79 = .ok (.if_icmp .eq 49, 3) := by decide +kernel
theorem d11_nextAt_82 : decode m11_nextAt.2.1 82 = .ok (.aload_n 0, 1) := by decide +kernel
theorem d11_nextAt_83 : decode m11_nextAt.2.1 83 = .ok (.getfield 26, 3) := by decide +kernel
theorem d11_nextAt_86 : decode m11_nextAt.2.1 86 = .ok (.iload_n 1, 1) := by decide +kernel
theorem d11_nextAt_87 : decode m11_nextAt.2.1 87 = .ok (.iaload, 1) := by decide +kernel
theorem d11_nextAt_88 : decode m11_nextAt.2.1 88 = .ok (.iload 6, 2) := by decide +kernel
theorem d11_nextAt_90 : decode m11_nextAt.2.1 90 = .ok (.ishr, 1) := by decide +kernel
theorem d11_nextAt_91 : decode m11_nextAt.2.1 91 = .ok (.iconst 1, 1) := by decide +kernel
theorem d11_nextAt_92 : decode m11_nextAt.2.1 92 = .ok (.iand, 1) := by decide +kernel
theorem d11_nextAt_93 : decode m11_nextAt.2.1 93 = .ok (.iconst 1, 1) := by decide +kernel
theorem d11_nextAt_94 : decode m11_nextAt.2.1 94 = .ok (.if_icmp .ne 6, 3) := by decide +kernel
theorem d11_nextAt_97 : decode m11_nextAt.2.1 97 = .ok (.goto 31, 3) := by decide +kernel
theorem d11_nextAt_100 : decode m11_nextAt.2.1 100 = .ok (.aload_n 0, 1) := by decide +kernel
theorem d11_nextAt_101 : decode m11_nextAt.2.1 101 = .ok (.iload 5, 2) := by decide +kernel
theorem d11_nextAt_103 : decode m11_nextAt.2.1 103 = .ok (.iload 6, 2) := by decide +kernel
theorem d11_nextAt_105 : decode m11_nextAt.2.1 105 = .ok (.iload 4, 2) := by decide +kernel
theorem d11_nextAt_107 : decode m11_nextAt.2.1 107 = .ok (.invokevirtual 234, 3) := by decide +kernel
theorem d11_nextAt_110 : decode m11_nextAt.2.1 110 = .ok (.aload_n 0, 1) := by decide +kernel
theorem d11_nextAt_111 : decode m11_nextAt.2.1 111 = .ok (.iload_n 1, 1) := by decide +kernel
theorem d11_nextAt_112 : decode m11_nextAt.2.1 112 = .ok (.invokevirtual 219, 3) := by decide +kernel
theorem d11_nextAt_115 : decode m11_nextAt.2.1 115 = .ok (.aload_n 0, 1) := by decide +kernel
theorem d11_nextAt_116 : decode m11_nextAt.2.1 116 = .ok (.iload_n 1, 1) := by decide +kernel
theorem d11_nextAt_117 : decode m11_nextAt.2.1 117 = .ok (.invokevirtual 222, 3) := by decide +kernel
theorem d11_nextAt_120 : decode m11_nextAt.2.1 120 = .ok (.invokestatic 135, 3) := by decide +kernel
theorem d11_nextAt_123 : decode m11_nextAt.2.1 123 = .ok (.ifCond .eq 5, 3) := by decide +kernel
theorem d11_nextAt_126 : decode m11_nextAt.2.1 126 = .ok (.iload_n 3, 1) := by decide +kernel
theorem d11_nextAt_127 : decode m11_nextAt.2.1 127 = .ok (.ireturn, 1) := by decide +kernel
theorem d11_nextAt_128 : decode m11_nextAt.2.1 128 = .ok (.iinc 3 1, 3) := by decide +kernel
theorem d11_nextAt_131 : decode m11_nextAt.2.1 131 = .ok (.goto (-127), 3) := by decide +kernel
theorem d11_nextAt_134 : decode m11_nextAt.2.1 134 = .ok (.iconst (-1), 1) := by decide +kernel
theorem d11_nextAt_135 : decode m11_nextAt.2.1 135 = .ok (.ireturn, 1) := by decide +kernel
def b11_nextAt_128 (rec4 : Int × AH → Option (Int × AH)) (x1 : Int) (x3 : Int) (h : AH) : Option (Int × AH) :=
  rec4 ((x3 + 1), h)
set_option maxRecDepth 100000 in
theorem t11_nextAt_128 (l : Launch) (G : Geo) (d : Nat) (hd : 5 ≤ d) (x1 : Int) (x3 : Int) (rec4 : Int × AH → Option (Int × AH)) (H4 : ∀ (x3 : Int) (h : AH), Den l G m11_nextAt rvI d 4 [some (vA G 69), some (vI x1), none, some (vI x3), none, none, none] [] h (rec4 (x3, h))) (h : AH) : Den l G m11_nextAt rvI d 128 [some (vA G 69), some (vI x1), none, some (vI x3), none, none, none] [] h (b11_nextAt_128 rec4 x1 x3 h) := by
  unfold b11_nextAt_128
  refine den_iinc (pc := 128) (L2 := [some (vA G 69), some (vI x1), none, some (vI (x3 + 1)), none, none, none]) d11_nextAt_128 (by decide) rfl rfl ?_
  refine den_goto (pc := 131) (tgt := 4) d11_nextAt_131 (by decide) ?_
  exact H4 (x3 + 1) h
def b11_nextAt_4 (rec4 : Int × AH → Option (Int × AH)) (x1 : Int) (x3 : Int) (h : AH) : Option (Int × AH) :=
  if w32 (100 * (h.2 69 14)) ≤ w32 x3 then
    some ((-1), h)
  else
    lt (dv32 x3 100) fun u1 =>
    lt (rm32 (dv32 x3 10) 10) fun u2 =>
    lt (rm32 x3 10) fun u3 =>
    if w32 u3 ≤ w32 u2 then
      b11_nextAt_128 rec4 x1 x3 h
    else
      if w32 (h.2 69 13) ≤ w32 u3 then
        b11_nextAt_128 rec4 x1 x3 h
      else
        asrt (0 ≤ w32 x1 ∧ w32 x1 < 5) <|
        if w32 (and32 (shr32 (h.2 76 (w32 x1).toNat) u1) 1) = 1 then
          b11_nextAt_128 rec4 x1 x3 h
        else
          asrt (0 ≤ w32 x1 ∧ w32 x1 < 5) <|
          if w32 (and32 (shr32 (h.2 75 (w32 x1).toNat) u2) 1) = 1 then
            b11_nextAt_128 rec4 x1 x3 h
          else
            asrt (0 ≤ w32 x1 ∧ w32 x1 < 5) <|
            if ¬ w32 (and32 (shr32 (h.2 75 (w32 x1).toNat) u3) 1) = 1 then
              bnd (f11_burnsOf u2 u3 u1 h) fun r7 h8 =>
              bnd (f11_wantsOf x1 h8) fun r11 h12 =>
              bnd (f11_cracksOf x1 h12) fun r15 h16 =>
              bnd (f11_isIn r7 r11 r15 h16) fun r19 h20 =>
              if w32 r19 = 0 then
                b11_nextAt_128 rec4 x1 x3 h20
              else
                some (x3, h20)
            else
              b11_nextAt_128 rec4 x1 x3 h
set_option maxRecDepth 100000 in
theorem t11_nextAt_4 (l : Launch) (G : Geo) (d : Nat) (hd : 5 ≤ d) (x1 : Int) (x3 : Int) (rec4 : Int × AH → Option (Int × AH)) (H4 : ∀ (x3 : Int) (h : AH), Den l G m11_nextAt rvI d 4 [some (vA G 69), some (vI x1), none, some (vI x3), none, none, none] [] h (rec4 (x3, h))) (h : AH) : Den l G m11_nextAt rvI d 4 [some (vA G 69), some (vI x1), none, some (vI x3), none, none, none] [] h (b11_nextAt_4 rec4 x1 x3 h) := by
  unfold b11_nextAt_4
  refine den_iload_n (pc := 4) d11_nextAt_4 rfl rfl ?_
  refine den_bipush (pc := 5) d11_nextAt_5 (by decide) ?_
  refine den_aload_n (pc := 7) d11_nextAt_7 rfl rfl ?_
  refine den_getI (pc := 8) fa_11_195 (ok_69 _) d11_nextAt_8 ?_
  refine den_imul (pc := 11) d11_nextAt_11 ?_
  refine den_icmp_ge (pc := 12) (tgt := 134) d11_nextAt_12 (by decide) rfl rfl (fun _ => ?_) (fun _ => ?_)
  · refine den_iconst (pc := 134) d11_nextAt_134 ?_
    exact den_iret (pc := 135) rfl d11_nextAt_135
  · refine den_iload_n (pc := 15) d11_nextAt_15 rfl rfl ?_
    refine den_bipush (pc := 16) d11_nextAt_16 (by decide) ?_
    refine den_idiv (pc := 18) d11_nextAt_18 (by decide) ?_
    refine den_istoreL (pc := 19) (L2 := fun y => [some (vA G 69), some (vI x1), none, some (vI x3), some (vI y), none, none]) d11_nextAt_19 (by decide) (fun _ => rfl) (fun u1 => ?_)
    refine den_iload_n (pc := 21) d11_nextAt_21 rfl rfl ?_
    refine den_bipush (pc := 22) d11_nextAt_22 (by decide) ?_
    refine den_idiv (pc := 24) d11_nextAt_24 (by decide) ?_
    refine den_bipush (pc := 25) d11_nextAt_25 (by decide) ?_
    refine den_irem (pc := 27) d11_nextAt_27 (by decide) ?_
    refine den_istoreL (pc := 28) (L2 := fun y => [some (vA G 69), some (vI x1), none, some (vI x3), some (vI u1), some (vI y), none]) d11_nextAt_28 (by decide) (fun _ => rfl) (fun u2 => ?_)
    refine den_iload_n (pc := 30) d11_nextAt_30 rfl rfl ?_
    refine den_bipush (pc := 31) d11_nextAt_31 (by decide) ?_
    refine den_irem (pc := 33) d11_nextAt_33 (by decide) ?_
    refine den_istoreL (pc := 34) (L2 := fun y => [some (vA G 69), some (vI x1), none, some (vI x3), some (vI u1), some (vI u2), some (vI y)]) d11_nextAt_34 (by decide) (fun _ => rfl) (fun u3 => ?_)
    refine den_iload (pc := 36) d11_nextAt_36 rfl ?_
    refine den_iload (pc := 38) d11_nextAt_38 rfl ?_
    refine den_icmp_ge (pc := 40) (tgt := 128) d11_nextAt_40 (by decide) rfl rfl (fun _ => ?_) (fun _ => ?_)
    · refine den_wk [true, true, true, true, false, false, false] rfl ?_
      exact t11_nextAt_128 l G _ hd x1 x3 rec4 H4 h
    · refine den_iload (pc := 43) d11_nextAt_43 rfl ?_
      refine den_aload_n (pc := 45) d11_nextAt_45 rfl rfl ?_
      refine den_getI (pc := 46) fa_11_192 (ok_69 _) d11_nextAt_46 ?_
      refine den_icmp_ge (pc := 49) (tgt := 128) d11_nextAt_49 (by decide) rfl rfl (fun _ => ?_) (fun _ => ?_)
      · refine den_wk [true, true, true, true, false, false, false] rfl ?_
        exact t11_nextAt_128 l G _ hd x1 x3 rec4 H4 h
      · refine den_aload_n (pc := 52) d11_nextAt_52 rfl rfl ?_
        refine den_getR (pc := 53) (b := 76) fa_11_29 (ok_69 _) rfl d11_nextAt_53 ?_
        refine den_iload_n (pc := 56) d11_nextAt_56 rfl rfl ?_
        refine den_asrt (fun a4 => ?_)
        refine den_iaload (pc := 57) sh_76 (sz_lt (by decide)) rfl a4 d11_nextAt_57 ?_
        refine den_iload (pc := 58) d11_nextAt_58 rfl ?_
        refine den_ishr (pc := 60) d11_nextAt_60 ?_
        refine den_iconst (pc := 61) d11_nextAt_61 ?_
        refine den_iand (pc := 62) d11_nextAt_62 ?_
        refine den_iconst (pc := 63) d11_nextAt_63 ?_
        refine den_icmp_eq (pc := 64) (tgt := 128) d11_nextAt_64 (by decide) rfl (by decide) (fun _ => ?_) (fun _ => ?_)
        · refine den_wk [true, true, true, true, false, false, false] rfl ?_
          exact t11_nextAt_128 l G _ hd x1 x3 rec4 H4 h
        · refine den_aload_n (pc := 67) d11_nextAt_67 rfl rfl ?_
          refine den_getR (pc := 68) (b := 75) fa_11_26 (ok_69 _) rfl d11_nextAt_68 ?_
          refine den_iload_n (pc := 71) d11_nextAt_71 rfl rfl ?_
          refine den_asrt (fun a5 => ?_)
          refine den_iaload (pc := 72) sh_75 (sz_lt (by decide)) rfl a5 d11_nextAt_72 ?_
          refine den_iload (pc := 73) d11_nextAt_73 rfl ?_
          refine den_ishr (pc := 75) d11_nextAt_75 ?_
          refine den_iconst (pc := 76) d11_nextAt_76 ?_
          refine den_iand (pc := 77) d11_nextAt_77 ?_
          refine den_iconst (pc := 78) d11_nextAt_78 ?_
          refine den_icmp_eq (pc := 79) (tgt := 128) d11_nextAt_79 (by decide) rfl (by decide) (fun _ => ?_) (fun _ => ?_)
          · refine den_wk [true, true, true, true, false, false, false] rfl ?_
            exact t11_nextAt_128 l G _ hd x1 x3 rec4 H4 h
          · refine den_aload_n (pc := 82) d11_nextAt_82 rfl rfl ?_
            refine den_getR (pc := 83) (b := 75) fa_11_26 (ok_69 _) rfl d11_nextAt_83 ?_
            refine den_iload_n (pc := 86) d11_nextAt_86 rfl rfl ?_
            refine den_asrt (fun a6 => ?_)
            refine den_iaload (pc := 87) sh_75 (sz_lt (by decide)) rfl a6 d11_nextAt_87 ?_
            refine den_iload (pc := 88) d11_nextAt_88 rfl ?_
            refine den_ishr (pc := 90) d11_nextAt_90 ?_
            refine den_iconst (pc := 91) d11_nextAt_91 ?_
            refine den_iand (pc := 92) d11_nextAt_92 ?_
            refine den_iconst (pc := 93) d11_nextAt_93 ?_
            refine den_icmp_ne (pc := 94) (tgt := 100) d11_nextAt_94 (by decide) rfl (by decide) (fun _ => ?_) (fun _ => ?_)
            · refine den_aload_n (pc := 100) d11_nextAt_100 rfl rfl ?_
              refine den_iload (pc := 101) d11_nextAt_101 rfl ?_
              refine den_iload (pc := 103) d11_nextAt_103 rfl ?_
              refine den_iload (pc := 105) d11_nextAt_105 rfl ?_
              refine den_callVI (pc := 107) (As := [vI u2, vI u3, vI u1]) fv_11_234 rfl rfl (ok_69 _) (Nat.le_of_ble_eq_true rfl) (Nat.le_trans (by decide) hd) d11_nextAt_107 (c11_burnsOf l G u2 u3 u1 h) (fun r7 h8 m9 o10 => ?_)
              refine den_aload_n (pc := 110) d11_nextAt_110 rfl rfl ?_
              refine den_iload_n (pc := 111) d11_nextAt_111 rfl rfl ?_
              refine den_callVI (pc := 112) (As := [vI x1]) fv_11_219 rfl rfl (ok_69 _) (Nat.le_of_ble_eq_true rfl) (Nat.le_trans (by decide) hd) d11_nextAt_112 (c11_wantsOf l G x1 h8) (fun r11 h12 m13 o14 => ?_)
              refine den_aload_n (pc := 115) d11_nextAt_115 rfl rfl ?_
              refine den_iload_n (pc := 116) d11_nextAt_116 rfl rfl ?_
              refine den_callVI (pc := 117) (As := [vI x1]) fv_11_222 rfl rfl (ok_69 _) (Nat.le_of_ble_eq_true rfl) (Nat.le_trans (by decide) hd) d11_nextAt_117 (c11_cracksOf l G x1 h12) (fun r15 h16 m17 o18 => ?_)
              refine den_callSI (pc := 120) (As := [vI r7, vI r11, vI r15]) fs_11_135 rfl rfl (Nat.le_of_ble_eq_true rfl) (Nat.le_trans (by decide) hd) d11_nextAt_120 (c11_isIn l G r7 r11 r15 h16) (fun r19 h20 m21 o22 => ?_)
              refine den_if_eq (pc := 123) (tgt := 128) d11_nextAt_123 (by decide) rfl (fun _ => ?_) (fun _ => ?_)
              · refine den_wk [true, true, true, true, false, false, false] rfl ?_
                exact t11_nextAt_128 l G _ hd x1 x3 rec4 H4 h20
              · refine den_iload_n (pc := 126) d11_nextAt_126 rfl rfl ?_
                exact den_iret (pc := 127) rfl d11_nextAt_127
            · refine den_goto (pc := 97) (tgt := 128) d11_nextAt_97 (by decide) ?_
              refine den_wk [true, true, true, true, false, false, false] rfl ?_
              exact t11_nextAt_128 l G _ hd x1 x3 rec4 H4 h
def l11_nextAt_4 (x1 : Int) (x3 : Int) (h : AH) : Option (Int × AH) := fx (fun rec z => b11_nextAt_4 rec x1 z.1 z.2) FU (x3, h)
set_option maxRecDepth 100000 in
theorem tl11_nextAt_4 (l : Launch) (G : Geo) (d : Nat) (hd : 5 ≤ d) (x1 : Int) : ∀ (n : Nat) (z : Int × AH), True → Den l G m11_nextAt rvI d 4 [some (vA G 69), some (vI x1), none, some (vI z.1), none, none, none] [] z.2 (fx (fun rec z => b11_nextAt_4 rec x1 z.1 z.2) n z) :=
  den_fx (F := fun rec z => b11_nextAt_4 rec x1 z.1 z.2) (P := fun z => True) (fL := fun z => [some (vA G 69), some (vI x1), none, some (vI z.1), none, none, none]) (fs := fun z => []) (fh := fun z => z.2) (fun rec hrec z hz => t11_nextAt_4 l G d hd x1 z.1 rec (fun x3 h => hrec (x3, h) trivial) z.2 )
def f11_nextAt (x1 : Int) (x2 : Int) (h : AH) : Option (Int × AH) :=
  lt (x2 + 1) fun u23 =>
  l11_nextAt_4 x1 u23 h
set_option maxRecDepth 100000 in
theorem c11_nextAt (l : Launch) (G : Geo) (x1 : Int) (x2 : Int) (h : AH) : Con l G m11_nextAt rvI 5 [vA G 69, vI x1, vI x2] h (f11_nextAt x1 x2 h) := by
  have hd : 5 ≤ 5 := Nat.le_refl _
  refine con_I rfl (by decide) rfl rfl (Nat.le_of_ble_eq_true rfl) (L := [some (vA G 69), some (vI x1), some (vI x2), none, none, none, none]) ?_
  unfold f11_nextAt
  refine den_iload_n (pc := 0) d11_nextAt_0 rfl rfl ?_
  refine den_iconst (pc := 1) d11_nextAt_1 ?_
  refine den_iadd (pc := 2) d11_nextAt_2 ?_
  refine den_istore_nL (pc := 3) (L2 := fun y => [some (vA G 69), some (vI x1), some (vI x2), some (vI y), none, none, none]) d11_nextAt_3 rfl (by decide) (fun _ => rfl) (fun u23 => ?_)
  refine den_wk [true, true, false, true, true, true, true] rfl ?_
  exact tl11_nextAt_4 l G _ hd x1 FU (u23, h) trivial
theorem d11_plansOf_0 : decode m11_plansOf.2.1 0 = .ok (.iconst (-1), 1) := by decide +kernel
theorem d11_plansOf_1 : decode m11_plansOf.2.1 1 = .ok (.istore_n 1, 1) := by decide +kernel
theorem d11_plansOf_2 : decode m11_plansOf.2.1 2 = .ok (.iconst 0, 1) := by decide +kernel
theorem d11_plansOf_3 : decode m11_plansOf.2.1 3 = .ok (.istore_n 2, 1) := by decide +kernel
theorem d11_plansOf_4 : decode m11_plansOf.2.1 4 = .ok (.aload_n 0, 1) := by decide +kernel
theorem d11_plansOf_5 : decode m11_plansOf.2.1 5 = .ok (.getfield 20, 3) := by decide +kernel
theorem d11_plansOf_8 : decode m11_plansOf.2.1 8 = .ok (.iconst 0, 1) := by decide +kernel
theorem d11_plansOf_9 : decode m11_plansOf.2.1 9 = .ok (.iconst (-1), 1) := by decide +kernel
theorem d11_plansOf_10 : decode m11_plansOf.2.1 10 = .ok (.iastore, 1) := by decide +kernel
theorem d11_plansOf_11 : decode m11_plansOf.2.1 11 = .ok (.aload_n 0, 1) := by decide +kernel
theorem d11_plansOf_12 : decode m11_plansOf.2.1 12 = .ok (.getfield 23, 3) := by decide +kernel
theorem d11_plansOf_15 : decode m11_plansOf.2.1 15 = .ok (.iconst 0, 1) := by decide +kernel
theorem d11_plansOf_16 : decode m11_plansOf.2.1 16 = .ok (.iconst 0, 1) := by decide +kernel
theorem d11_plansOf_17 : decode m11_plansOf.2.1 17 = .ok (.iastore, 1) := by decide +kernel
theorem d11_plansOf_18 : decode m11_plansOf.2.1 18 = .ok (.aload_n 0, 1) := by decide +kernel
theorem d11_plansOf_19 : decode m11_plansOf.2.1 19 = .ok (.getfield 26, 3) := by decide +kernel
theorem d11_plansOf_22 : decode m11_plansOf.2.1 22 = .ok (.iconst 0, 1) := by decide +kernel
theorem d11_plansOf_23 : decode m11_plansOf.2.1 23 = .ok (.iconst 0, 1) := by decide +kernel
theorem d11_plansOf_24 : decode m11_plansOf.2.1 24 = .ok (.iastore, 1) := by decide +kernel
theorem d11_plansOf_25 : decode m11_plansOf.2.1 25 = .ok (.aload_n 0, 1) := by decide +kernel
theorem d11_plansOf_26 : decode m11_plansOf.2.1 26 = .ok (.getfield 29, 3) := by decide +kernel
theorem d11_plansOf_29 : decode m11_plansOf.2.1 29 = .ok (.iconst 0, 1) := by decide +kernel
theorem d11_plansOf_30 : decode m11_plansOf.2.1 30 = .ok (.iconst 0, 1) := by decide +kernel
theorem d11_plansOf_31 : decode m11_plansOf.2.1 31 = .ok (.iastore, 1) := by decide +kernel
theorem d11_plansOf_32 : decode m11_plansOf.2.1 32 = .ok (.iload_n 2, 1) := by decide +kernel
theorem d11_plansOf_33 : decode m11_plansOf.2.1 33 = .ok (.ifCond .lt 236, 3) := by decide +kernel
theorem d11_plansOf_36 : decode m11_plansOf.2.1 36 = .ok (.iload_n 2, 1) := by decide +kernel
theorem d11_plansOf_37 : decode m11_plansOf.2.1 37 = .ok (.aload_n 0, 1) := by decide +kernel
theorem d11_plansOf_38 : decode m11_plansOf.2.1 38 = .ok (.getfield 198, 3) := by decide +kernel
theorem d11_plansOf_41 : decode m11_plansOf.2.1 41 = .ok (.if_icmp .ne 7, 3) := by decide +kernel
theorem d11_plansOf_44 : decode m11_plansOf.2.1 44 = .ok (.iconst 1, 1) := by decide +kernel
theorem d11_plansOf_45 : decode m11_plansOf.2.1 45 = .ok (.goto 4, 3) := by decide +kernel
theorem d11_plansOf_48 : decode m11_plansOf.2.1 48 = .ok (.iconst 0, 1) := by decide +kernel
theorem d11_plansOf_49 : decode m11_plansOf.2.1 49 = .ok (.istore_n 3, 1) := by decide +kernel
theorem d11_plansOf_50 : decode m11_plansOf.2.1 50 = .ok (.iload_n 3, 1) := by decide +kernel
theorem d11_plansOf_51 : decode m11_plansOf.2.1 51 = .ok (.ifCond .eq 57, 3) := by decide +kernel
theorem d11_plansOf_54 : decode m11_plansOf.2.1 54 = .ok (.iload_n 1, 1) := by decide +kernel
theorem d11_plansOf_55 : decode m11_plansOf.2.1 55 = .ok (.iconst (-1), 1) := by decide +kernel
theorem d11_plansOf_56 : decode m11_plansOf.2.1 56 = .ok (.if_icmp .eq 13, 3) := by decide +kernel
theorem d11_plansOf_59 : decode m11_plansOf.2.1 59 = .ok (.aload_n 0, 1) := by decide +kernel
theorem d11_plansOf_60 : decode m11_plansOf.2.1 60 = .ok (.getfield 23, 3) := by decide +kernel
theorem d11_plansOf_63 : decode m11_plansOf.2.1 63 = .ok (.iload_n 2, 1) := by decide +kernel
theorem d11_plansOf_64 : decode m11_plansOf.2.1 64 = .ok (.iaload, 1) := by decide +kernel
theorem d11_plansOf_65 : decode m11_plansOf.2.1 65 = .ok (.iload_n 1, 1) := by decide +kernel
theorem d11_plansOf_66 : decode m11_plansOf.2.1 66 = .ok (.if_icmp .ge 42, 3) := by decide +kernel
theorem d11_plansOf_69 : decode m11_plansOf.2.1 69 = .ok (.aload_n 0, 1) := by decide +kernel
theorem d11_plansOf_70 : decode m11_plansOf.2.1 70 = .ok (.getfield 23, 3) := by decide +kernel
theorem d11_plansOf_73 : decode m11_plansOf.2.1 73 = .ok (.iload_n 2, 1) := by decide +kernel
theorem d11_plansOf_74 : decode m11_plansOf.2.1 74 = .ok (.iaload, 1) := by decide +kernel
theorem d11_plansOf_75 : decode m11_plansOf.2.1 75 = .ok (.istore_n 1, 1) := by decide +kernel
theorem d11_plansOf_76 : decode m11_plansOf.2.1 76 = .ok (.iconst 0, 1) := by decide +kernel
theorem d11_plansOf_77 : decode m11_plansOf.2.1 77 = .ok (.istore 4, 2) := by decide +kernel
theorem d11_plansOf_79 : decode m11_plansOf.2.1 79 = .ok (.iload 4, 2) := by decide +kernel
theorem d11_plansOf_81 : decode m11_plansOf.2.1 81 = .ok (.aload_n 0, 1) := by decide +kernel
theorem d11_plansOf_82 : decode m11_plansOf.2.1 82 = .ok (.getfield 198, 3) := by decide +kernel
theorem d11_plansOf_85 : decode m11_plansOf.2.1 85 = .ok (.if_icmp .ge 23, 3) := by decide +kernel
theorem d11_plansOf_88 : decode m11_plansOf.2.1 88 = .ok (.aload_n 0, 1) := by decide +kernel
theorem d11_plansOf_89 : decode m11_plansOf.2.1 89 = .ok (.getfield 32, 3) := by decide +kernel
theorem d11_plansOf_92 : decode m11_plansOf.2.1 92 = .ok (.iload 4, 2) := by decide +kernel
theorem d11_plansOf_94 : decode m11_plansOf.2.1 94 = .ok (.aload_n 0, 1) := by decide +kernel
theorem d11_plansOf_95 : decode m11_plansOf.2.1 95 = .ok (.getfield 20, 3) := by decide +kernel
theorem d11_plansOf_98 : decode m11_plansOf.2.1 98 = .ok (.iload 4, 2) := by decide +kernel
theorem d11_plansOf_100 : decode m11_plansOf.2.1 100 = .ok (.iaload, 1) := by decide +kernel
theorem d11_plansOf_101 : decode m11_plansOf.2.1 101 = .ok (.iastore, 1) := by decide +kernel
theorem d11_plansOf_102 : decode m11_plansOf.2.1 102 = .ok (.iinc 4 1, 3) := by decide +kernel
theorem d11_plansOf_105 : decode m11_plansOf.2.1 105 = .ok (.goto (-26), 3) := by decide +kernel
theorem d11_plansOf_108 : decode m11_plansOf.2.1 108 = .ok (.iload_n 3, 1) := by decide +kernel
theorem d11_plansOf_109 : decode m11_plansOf.2.1 109 = .ok (.ifCond .ne 18, 3) := by decide +kernel
theorem d11_plansOf_112 : decode m11_plansOf.2.1 112 = .ok (.iload_n 1, 1) := by decide +kernel
theorem d11_plansOf_113 : decode m11_plansOf.2.1 113 = .ok (.iconst (-1), 1) := by decide +kernel
theorem d11_plansOf_114 : decode m11_plansOf.2.1 114 = .ok (.if_icmp .eq 17, 3) := by decide +kernel
theorem d11_plansOf_117 : decode m11_plansOf.2.1 117 = .ok (.aload_n 0, 1) := by decide +kernel
theorem d11_plansOf_118 : decode m11_plansOf.2.1 118 = .ok (.getfield 23, 3) := by decide +kernel
theorem d11_plansOf_121 : decode m11_plansOf.2.1 121 = .ok (.iload_n 2, 1) := by decide +kernel
theorem d11_plansOf_122 : decode m11_plansOf.2.1 122 = .ok (.iaload, 1) := by decide +kernel
theorem d11_plansOf_123 : decode m11_plansOf.2.1 123 = .ok (.iload_n 1, 1) := by decide +kernel
theorem d11_plansOf_124 : decode m11_plansOf.2.1 124 = .ok (.if_icmp .lt 7, 3) := by decide +kernel
theorem d11_plansOf_127 : decode m11_plansOf.2.1 127 = .ok (.iconst (-1), 1) := by decide +kernel
theorem d11_plansOf_128 : decode m11_plansOf.2.1 128 = .ok (.goto 14, 3) := by decide +kernel
theorem d11_plansOf_131 : decode m11_plansOf.2.1 131 = .ok (.aload_n 0, 1) := by decide +kernel
theorem d11_plansOf_132 : decode m11_plansOf.2.1 132 = .ok (.iload_n 2, 1) := by decide +kernel
theorem d11_plansOf_133 : decode m11_plansOf.2.1 133 = .ok (.aload_n 0, 1) := by decide +kernel
theorem d11_plansOf_134 : decode m11_plansOf.2.1 134 = .ok (.getfield 20, 3) := by decide +kernel
theorem d11_plansOf_137 : decode m11_plansOf.2.1 137 = .ok (.iload_n 2, 1) := by decide +kernel
theorem d11_plansOf_138 : decode m11_plansOf.2.1 138 = .ok (.iaload, 1) := by decide +kernel
theorem d11_plansOf_139 : decode m11_plansOf.2.1 139 = .ok (.invokevirtual 246, 3) := by decide +kernel
theorem d11_plansOf_142 : decode m11_plansOf.2.1 142 = .ok (.istore 4, 2) := by decide +kernel
theorem d11_plansOf_144 : decode m11_plansOf.2.1 144 = .ok (.iload 4, 2) := by decide +kernel
theorem d11_plansOf_146 : decode m11_plansOf.2.1 146 = .ok (.iconst (-1), 1) := by decide +kernel
theorem d11_plansOf_147 : decode m11_plansOf.2.1 147 = .ok (.if_icmp .ne 9, 3) := by decide +kernel
theorem d11_plansOf_150 : decode m11_plansOf.2.1 150 = .ok (.iinc 2 (-1), 3) := by decide +kernel
theorem d11_plansOf_153 : decode m11_plansOf.2.1 153 = .ok (.goto (-121), 3) := by decide +kernel
theorem d11_plansOf_156 : decode m11_plansOf.2.1 156 = .ok (.aload_n 0, 1) := by decide +kernel
theorem d11_plansOf_157 : decode m11_plansOf.2.1 157 = .ok (.getfield 20, 3) := by decide +kernel
theorem d11_plansOf_160 : decode m11_plansOf.2.1 160 = .ok (.iload_n 2, 1) := by decide +kernel
theorem d11_plansOf_161 : decode m11_plansOf.2.1 161 = .ok (.iload 4, 2) := by decide +kernel
theorem d11_plansOf_163 : decode m11_plansOf.2.1 163 = .ok (.iastore, 1) := by decide +kernel
theorem d11_plansOf_164 : decode m11_plansOf.2.1 164 = .ok (.aload_n 0, 1) := by decide +kernel
theorem d11_plansOf_165 : decode m11_plansOf.2.1 165 = .ok (.getfield 23, 3) := by decide +kernel
theorem d11_plansOf_168 : decode m11_plansOf.2.1 168 = .ok (.iload_n 2, 1) := by decide +kernel
theorem d11_plansOf_169 : decode m11_plansOf.2.1 169 = .ok (.iconst 1, 1) := by decide +kernel
theorem d11_plansOf_170 : decode m11_plansOf.2.1 170 = .ok (.iadd, 1) := by decide +kernel
theorem d11_plansOf_171 : decode m11_plansOf.2.1 171 = .ok (.aload_n 0, 1) := by decide +kernel
theorem d11_plansOf_172 : decode m11_plansOf.2.1 172 = .ok (.getfield 23, 3) := by decide +kernel
theorem d11_plansOf_175 : decode m11_plansOf.2.1 175 = .ok (.iload_n 2, 1) := by decide +kernel
theorem d11_plansOf_176 : decode m11_plansOf.2.1 176 = .ok (.iaload, 1) := by decide +kernel
theorem d11_plansOf_177 : decode m11_plansOf.2.1 177 = .ok (.aload_n 0, 1) := by decide +kernel
theorem d11_plansOf_178 : decode m11_plansOf.2.1 178 = .ok (.iload 4, 2) := by decide +kernel
theorem d11_plansOf_180 : decode m11_plansOf.2.1 180 = .ok (.bipush 10, 2) := by decide +kernel
theorem d11_plansOf_182 : decode m11_plansOf.2.1 182 = .ok (.idiv, 1) := by decide +kernel
theorem d11_plansOf_183 : decode m11_plansOf.2.1 183 = .ok (.bipush 10, 2) := by decide +kernel
theorem d11_plansOf_185 : decode m11_plansOf.2.1 185 = .ok (.irem, 1) := by decide +kernel
theorem d11_plansOf_186 : decode m11_plansOf.2.1 186 = .ok (.iload 4, 2) := by decide +kernel
theorem d11_plansOf_188 : decode m11_plansOf.2.1 188 = .ok (.bipush 10, 2) := by decide +kernel
theorem d11_plansOf_190 : decode m11_plansOf.2.1 190 = .ok (.irem, 1) := by decide +kernel
theorem d11_plansOf_191 : decode m11_plansOf.2.1 191 = .ok (.iload 4, 2) := by decide +kernel
theorem d11_plansOf_193 : decode m11_plansOf.2.1 193 = .ok (.bipush 100, 2) := by decide +kernel
theorem d11_plansOf_195 : decode m11_plansOf.2.1 195 = .ok (.idiv, 1) := by decide +kernel
theorem d11_plansOf_196 : decode m11_plansOf.2.1 196 = .ok (.invokevirtual 234, 3) := by decide +kernel
theorem d11_plansOf_199 : decode m11_plansOf.2.1 199 = .ok (.iadd, 1) := by decide +kernel
theorem d11_plansOf_200 : decode m11_plansOf.2.1 200 = .ok (.iastore, 1) := by decide +kernel
theorem d11_plansOf_201 : decode m11_plansOf.2.1 201 = .ok (.aload_n 0, 1) := by decide +kernel
theorem d11_plansOf_202 : decode m11_plansOf.2.1 202 = .ok (.getfield 26, 3) := by decide +kernel
theorem d11_plansOf_205 : decode m11_plansOf.2.1 205 = .ok (.iload_n 2, 1) := by decide +kernel
theorem d11_plansOf_206 : decode m11_plansOf.2.1 206 = .ok (.iconst 1, 1) := by decide +kernel
theorem d11_plansOf_207 : decode m11_plansOf.2.1 207 = .ok (.iadd, 1) := by decide +kernel
theorem d11_plansOf_208 : decode m11_plansOf.2.1 208 = .ok (.aload_n 0, 1) := by decide +kernel
theorem d11_plansOf_209 : decode m11_plansOf.2.1 209 = .ok (.getfield 26, 3) := by decide +kernel
theorem d11_plansOf_212 : decode m11_plansOf.2.1 212 = .ok (.iload_n 2, 1) := by decide +kernel
theorem d11_plansOf_213 : decode m11_plansOf.2.1 213 = .ok (.iaload, 1) := by decide +kernel
theorem d11_plansOf_214 : decode m11_plansOf.2.1 214 = .ok (.iconst 1, 1) := by decide +kernel
theorem d11_plansOf_215 : decode m11_plansOf.2.1 215 = .ok (.iload 4, 2) := by decide +kernel
theorem d11_plansOf_217 : decode m11_plansOf.2.1 217 = .ok (.bipush 10, 2) := by decide +kernel
theorem d11_plansOf_219 : decode m11_plansOf.2.1 219 = .ok (.idiv, 1) := by decide +kernel
theorem d11_plansOf_220 : decode m11_plansOf.2.1 220 = .ok (.bipush 10, 2) := by decide +kernel
theorem d11_plansOf_222 : decode m11_plansOf.2.1 222 = .ok (.irem, 1) := by decide +kernel
theorem d11_plansOf_223 : decode m11_plansOf.2.1 223 = .ok (.ishl, 1) := by decide +kernel
theorem d11_plansOf_224 : decode m11_plansOf.2.1 224 = .ok (.ior, 1) := by decide +kernel
theorem d11_plansOf_225 : decode m11_plansOf.2.1 225 = .ok (.iconst 1, 1) := by decide +kernel
theorem d11_plansOf_226 : decode m11_plansOf.2.1 226 = .ok (.iload 4, 2) := by decide +kernel
theorem d11_plansOf_228 : decode m11_plansOf.2.1 228 = .ok (.bipush 10, 2) := by decide +kernel
theorem d11_plansOf_230 : decode m11_plansOf.2.1 230 = .ok (.irem, 1) := by decide +kernel
theorem d11_plansOf_231 : decode m11_plansOf.2.1 231 = .ok (.ishl, 1) := by decide +kernel
theorem d11_plansOf_232 : decode m11_plansOf.2.1 232 = .ok (.ior, 1) := by decide +kernel
theorem d11_plansOf_233 : decode m11_plansOf.2.1 233 = .ok (.iastore, 1) := by decide +kernel
theorem d11_plansOf_234 : decode m11_plansOf.2.1 234 = .ok (.aload_n 0, 1) := by decide +kernel
theorem d11_plansOf_235 : decode m11_plansOf.2.1 235 = .ok (.getfield 29, 3) := by decide +kernel
theorem d11_plansOf_238 : decode m11_plansOf.2.1 238 = .ok (.iload_n 2, 1) := by decide +kernel
theorem d11_plansOf_239 : decode m11_plansOf.2.1 239 = .ok (.iconst 1, 1) := by decide +kernel
theorem d11_plansOf_240 : decode m11_plansOf.2.1 240 = .ok (.iadd, 1) := by decide +kernel
theorem d11_plansOf_241 : decode m11_plansOf.2.1 241 = .ok (.aload_n 0, 1) := by decide +kernel
theorem d11_plansOf_242 : decode m11_plansOf.2.1 242 = .ok (.getfield 29, 3) := by decide +kernel
theorem d11_plansOf_245 : decode m11_plansOf.2.1 245 = .ok (.iload_n 2, 1) := by decide +kernel
theorem d11_plansOf_246 : decode m11_plansOf.2.1 246 = .ok (.iaload, 1) := by decide +kernel
theorem d11_plansOf_247 : decode m11_plansOf.2.1 247 = .ok (.iconst 1, 1) := by decide +kernel
theorem d11_plansOf_248 : decode m11_plansOf.2.1 248 = .ok (.iload 4, 2) := by decide +kernel
theorem d11_plansOf_250 : decode m11_plansOf.2.1 250 = .ok (.bipush 100, 2) := by decide +kernel
theorem d11_plansOf_252 : decode m11_plansOf.2.1 252 = .ok (.idiv, 1) := by decide +kernel
theorem d11_plansOf_253 : decode m11_plansOf.2.1 253 = .ok (.ishl, 1) := by decide +kernel
theorem d11_plansOf_254 : decode m11_plansOf.2.1 254 = .ok (.ior, 1) := by decide +kernel
theorem d11_plansOf_255 : decode m11_plansOf.2.1 255 = .ok (.iastore, 1) := by decide +kernel
theorem d11_plansOf_256 : decode m11_plansOf.2.1 256 = .ok (.iinc 2 1, 3) := by decide +kernel
theorem d11_plansOf_259 : decode m11_plansOf.2.1 259 = .ok (.aload_n 0, 1) := by decide +kernel
theorem d11_plansOf_260 : decode m11_plansOf.2.1 260 = .ok (.getfield 20, 3) := by decide +kernel
theorem d11_plansOf_263 : decode m11_plansOf.2.1 263 = .ok (.iload_n 2, 1) := by decide +kernel
theorem d11_plansOf_264 : decode m11_plansOf.2.1 264 = .ok (.iconst (-1), 1) := by decide +kernel
theorem d11_plansOf_265 : decode m11_plansOf.2.1 265 = .ok (.iastore, 1) := by decide +kernel
theorem d11_plansOf_266 : decode m11_plansOf.2.1 266 = .ok (.goto (-234), 3) := by decide +kernel
theorem d11_plansOf_269 : decode m11_plansOf.2.1 269 = .ok (.iload_n 1, 1) := by decide +kernel
theorem d11_plansOf_270 : decode m11_plansOf.2.1 270 = .ok (.ireturn, 1) := by decide +kernel
def b11_plansOf_142 (rec32 : Int × Int × AH → Option (Int × AH)) (x1 : Int) (x2 : Int) (s0 : Int) (h : AH) : Option (Int × AH) :=
  if ¬ w32 s0 = (-1) then
    asrt (0 ≤ w32 x2 ∧ w32 x2 < 5) <|
    lt (wr h 73 (w32 x2).toNat s0) fun h2 =>
    asrt (0 ≤ w32 x2 ∧ w32 x2 < 5) <|
    bnd (f11_burnsOf (rm32 (dv32 s0 10) 10) (rm32 s0 10) (dv32 s0 100) h2) fun r5 h6 =>
    asrt (0 ≤ w32 (x2 + 1) ∧ w32 (x2 + 1) < 5) <|
    lt (wr h6 74 (w32 (x2 + 1)).toNat ((h2.2 74 (w32 x2).toNat) + r5)) fun h10 =>
    asrt (0 ≤ w32 x2 ∧ w32 x2 < 5) <|
    asrt (0 ≤ w32 (x2 + 1) ∧ w32 (x2 + 1) < 5) <|
    lt (wr h10 75 (w32 (x2 + 1)).toNat (or32 (or32 (h10.2 75 (w32 x2).toNat) (shl32 1 (rm32 (dv32 s0 10) 10))) (shl32 1 (rm32 s0 10)))) fun h14 =>
    asrt (0 ≤ w32 x2 ∧ w32 x2 < 5) <|
    asrt (0 ≤ w32 (x2 + 1) ∧ w32 (x2 + 1) < 5) <|
    lt (wr h14 76 (w32 (x2 + 1)).toNat (or32 (h14.2 76 (w32 x2).toNat) (shl32 1 (dv32 s0 100)))) fun h18 =>
    asrt (0 ≤ w32 (x2 + 1) ∧ w32 (x2 + 1) < 5) <|
    lt (wr h18 73 (w32 (x2 + 1)).toNat (-1)) fun h21 =>
    rec32 (x1, (x2 + 1), h21)
  else
    rec32 (x1, (x2 + (-1)), h)
set_option maxRecDepth 100000 in
theorem t11_plansOf_142 (l : Launch) (G : Geo) (d : Nat) (hd : 6 ≤ d) (x1 : Int) (x2 : Int) (s0 : Int) (rec32 : Int × Int × AH → Option (Int × AH)) (H32 : ∀ (x1 : Int) (x2 : Int) (h : AH), Den l G m11_plansOf rvI d 32 [some (vA G 69), some (vI x1), some (vI x2), none, none] [] h (rec32 (x1, x2, h))) (h : AH) : Den l G m11_plansOf rvI d 142 [some (vA G 69), some (vI x1), some (vI x2), none, none] [vI s0] h (b11_plansOf_142 rec32 x1 x2 s0 h) := by
  unfold b11_plansOf_142
  refine den_istore (pc := 142) (L2 := [some (vA G 69), some (vI x1), some (vI x2), none, some (vI s0)]) d11_plansOf_142 (by decide) rfl ?_
  refine den_iload (pc := 144) d11_plansOf_144 rfl ?_
  refine den_iconst (pc := 146) d11_plansOf_146 ?_
  refine den_icmp_ne (pc := 147) (tgt := 156) d11_plansOf_147 (by decide) rfl (by decide) (fun _ => ?_) (fun _ => ?_)
  · refine den_aload_n (pc := 156) d11_plansOf_156 rfl rfl ?_
    refine den_getR (pc := 157) (b := 73) fa_11_20 (ok_69 _) rfl d11_plansOf_157 ?_
    refine den_iload_n (pc := 160) d11_plansOf_160 rfl rfl ?_
    refine den_iload (pc := 161) d11_plansOf_161 rfl ?_
    refine den_asrt (fun a1 => ?_)
    refine den_iastore (pc := 163) sh_73 (sz_lt (by decide)) rfl a1 d11_plansOf_163 ?_
    refine den_ltH (fun h2 m3 => ?_)
    refine den_aload_n (pc := 164) d11_plansOf_164 rfl rfl ?_
    refine den_getR (pc := 165) (b := 74) fa_11_23 (ok_69 _) rfl d11_plansOf_165 ?_
    refine den_iload_n (pc := 168) d11_plansOf_168 rfl rfl ?_
    refine den_iconst (pc := 169) d11_plansOf_169 ?_
    refine den_iadd (pc := 170) d11_plansOf_170 ?_
    refine den_aload_n (pc := 171) d11_plansOf_171 rfl rfl ?_
    refine den_getR (pc := 172) (b := 74) fa_11_23 (ok_69 _) rfl d11_plansOf_172 ?_
    refine den_iload_n (pc := 175) d11_plansOf_175 rfl rfl ?_
    refine den_asrt (fun a4 => ?_)
    refine den_iaload (pc := 176) sh_74 (sz_lt (by decide)) rfl a4 d11_plansOf_176 ?_
    refine den_aload_n (pc := 177) d11_plansOf_177 rfl rfl ?_
    refine den_iload (pc := 178) d11_plansOf_178 rfl ?_
    refine den_bipush (pc := 180) d11_plansOf_180 (by decide) ?_
    refine den_idiv (pc := 182) d11_plansOf_182 (by decide) ?_
    refine den_bipush (pc := 183) d11_plansOf_183 (by decide) ?_
    refine den_irem (pc := 185) d11_plansOf_185 (by decide) ?_
    refine den_iload (pc := 186) d11_plansOf_186 rfl ?_
    refine den_bipush (pc := 188) d11_plansOf_188 (by decide) ?_
    refine den_irem (pc := 190) d11_plansOf_190 (by decide) ?_
    refine den_iload (pc := 191) d11_plansOf_191 rfl ?_
    refine den_bipush (pc := 193) d11_plansOf_193 (by decide) ?_
    refine den_idiv (pc := 195) d11_plansOf_195 (by decide) ?_
    refine den_callVI (pc := 196) (As := [vI (rm32 (dv32 s0 10) 10), vI (rm32 s0 10), vI (dv32 s0 100)]) fv_11_234 rfl rfl (ok_69 _) (Nat.le_of_ble_eq_true rfl) (Nat.le_trans (by decide) hd) d11_plansOf_196 (c11_burnsOf l G (rm32 (dv32 s0 10) 10) (rm32 s0 10) (dv32 s0 100) h2) (fun r5 h6 m7 o8 => ?_)
    refine den_iadd (pc := 199) d11_plansOf_199 ?_
    refine den_asrt (fun a9 => ?_)
    refine den_iastore (pc := 200) sh_74 (sz_lt (by decide)) rfl a9 d11_plansOf_200 ?_
    refine den_ltH (fun h10 m11 => ?_)
    refine den_aload_n (pc := 201) d11_plansOf_201 rfl rfl ?_
    refine den_getR (pc := 202) (b := 75) fa_11_26 (ok_69 _) rfl d11_plansOf_202 ?_
    refine den_iload_n (pc := 205) d11_plansOf_205 rfl rfl ?_
    refine den_iconst (pc := 206) d11_plansOf_206 ?_
    refine den_iadd (pc := 207) d11_plansOf_207 ?_
    refine den_aload_n (pc := 208) d11_plansOf_208 rfl rfl ?_
    refine den_getR (pc := 209) (b := 75) fa_11_26 (ok_69 _) rfl d11_plansOf_209 ?_
    refine den_iload_n (pc := 212) d11_plansOf_212 rfl rfl ?_
    refine den_asrt (fun a12 => ?_)
    refine den_iaload (pc := 213) sh_75 (sz_lt (by decide)) rfl a12 d11_plansOf_213 ?_
    refine den_iconst (pc := 214) d11_plansOf_214 ?_
    refine den_iload (pc := 215) d11_plansOf_215 rfl ?_
    refine den_bipush (pc := 217) d11_plansOf_217 (by decide) ?_
    refine den_idiv (pc := 219) d11_plansOf_219 (by decide) ?_
    refine den_bipush (pc := 220) d11_plansOf_220 (by decide) ?_
    refine den_irem (pc := 222) d11_plansOf_222 (by decide) ?_
    refine den_ishl (pc := 223) d11_plansOf_223 ?_
    refine den_ior (pc := 224) d11_plansOf_224 ?_
    refine den_iconst (pc := 225) d11_plansOf_225 ?_
    refine den_iload (pc := 226) d11_plansOf_226 rfl ?_
    refine den_bipush (pc := 228) d11_plansOf_228 (by decide) ?_
    refine den_irem (pc := 230) d11_plansOf_230 (by decide) ?_
    refine den_ishl (pc := 231) d11_plansOf_231 ?_
    refine den_ior (pc := 232) d11_plansOf_232 ?_
    refine den_asrt (fun a13 => ?_)
    refine den_iastore (pc := 233) sh_75 (sz_lt (by decide)) rfl a13 d11_plansOf_233 ?_
    refine den_ltH (fun h14 m15 => ?_)
    refine den_aload_n (pc := 234) d11_plansOf_234 rfl rfl ?_
    refine den_getR (pc := 235) (b := 76) fa_11_29 (ok_69 _) rfl d11_plansOf_235 ?_
    refine den_iload_n (pc := 238) d11_plansOf_238 rfl rfl ?_
    refine den_iconst (pc := 239) d11_plansOf_239 ?_
    refine den_iadd (pc := 240) d11_plansOf_240 ?_
    refine den_aload_n (pc := 241) d11_plansOf_241 rfl rfl ?_
    refine den_getR (pc := 242) (b := 76) fa_11_29 (ok_69 _) rfl d11_plansOf_242 ?_
    refine den_iload_n (pc := 245) d11_plansOf_245 rfl rfl ?_
    refine den_asrt (fun a16 => ?_)
    refine den_iaload (pc := 246) sh_76 (sz_lt (by decide)) rfl a16 d11_plansOf_246 ?_
    refine den_iconst (pc := 247) d11_plansOf_247 ?_
    refine den_iload (pc := 248) d11_plansOf_248 rfl ?_
    refine den_bipush (pc := 250) d11_plansOf_250 (by decide) ?_
    refine den_idiv (pc := 252) d11_plansOf_252 (by decide) ?_
    refine den_ishl (pc := 253) d11_plansOf_253 ?_
    refine den_ior (pc := 254) d11_plansOf_254 ?_
    refine den_asrt (fun a17 => ?_)
    refine den_iastore (pc := 255) sh_76 (sz_lt (by decide)) rfl a17 d11_plansOf_255 ?_
    refine den_ltH (fun h18 m19 => ?_)
    refine den_iinc (pc := 256) (L2 := [some (vA G 69), some (vI x1), some (vI (x2 + 1)), none, some (vI s0)]) d11_plansOf_256 (by decide) rfl rfl ?_
    refine den_aload_n (pc := 259) d11_plansOf_259 rfl rfl ?_
    refine den_getR (pc := 260) (b := 73) fa_11_20 (ok_69 _) rfl d11_plansOf_260 ?_
    refine den_iload_n (pc := 263) d11_plansOf_263 rfl rfl ?_
    refine den_iconst (pc := 264) d11_plansOf_264 ?_
    refine den_asrt (fun a20 => ?_)
    refine den_iastore (pc := 265) sh_73 (sz_lt (by decide)) rfl a20 d11_plansOf_265 ?_
    refine den_ltH (fun h21 m22 => ?_)
    refine den_goto (pc := 266) (tgt := 32) d11_plansOf_266 (by decide) ?_
    refine den_wk [true, true, true, true, false] rfl ?_
    exact H32 x1 (x2 + 1) h21
  · refine den_iinc (pc := 150) (L2 := [some (vA G 69), some (vI x1), some (vI (x2 + (-1))), none, some (vI s0)]) d11_plansOf_150 (by decide) rfl rfl ?_
    refine den_goto (pc := 153) (tgt := 32) d11_plansOf_153 (by decide) ?_
    refine den_wk [true, true, true, true, false] rfl ?_
    exact H32 x1 (x2 + (-1)) h
def b11_plansOf_127 (rec32 : Int × Int × AH → Option (Int × AH)) (x1 : Int) (x2 : Int) (h : AH) : Option (Int × AH) :=
  b11_plansOf_142 rec32 x1 x2 (-1) h
set_option maxRecDepth 100000 in
theorem t11_plansOf_127 (l : Launch) (G : Geo) (d : Nat) (hd : 6 ≤ d) (x1 : Int) (x2 : Int) (rec32 : Int × Int × AH → Option (Int × AH)) (H32 : ∀ (x1 : Int) (x2 : Int) (h : AH), Den l G m11_plansOf rvI d 32 [some (vA G 69), some (vI x1), some (vI x2), none, none] [] h (rec32 (x1, x2, h))) (h : AH) : Den l G m11_plansOf rvI d 127 [some (vA G 69), some (vI x1), some (vI x2), none, none] [] h (b11_plansOf_127 rec32 x1 x2 h) := by
  unfold b11_plansOf_127
  refine den_iconst (pc := 127) d11_plansOf_127 ?_
  refine den_goto (pc := 128) (tgt := 142) d11_plansOf_128 (by decide) ?_
  exact t11_plansOf_142 l G _ hd x1 x2 (-1) rec32 H32 h
def b11_plansOf_131 (rec32 : Int × Int × AH → Option (Int × AH)) (x1 : Int) (x2 : Int) (h : AH) : Option (Int × AH) :=
  asrt (0 ≤ w32 x2 ∧ w32 x2 < 5) <|
  bnd (f11_nextAt x2 (h.2 73 (w32 x2).toNat) h) fun r24 h25 =>
  b11_plansOf_142 rec32 x1 x2 r24 h25
set_option maxRecDepth 100000 in
theorem t11_plansOf_131 (l : Launch) (G : Geo) (d : Nat) (hd : 6 ≤ d) (x1 : Int) (x2 : Int) (rec32 : Int × Int × AH → Option (Int × AH)) (H32 : ∀ (x1 : Int) (x2 : Int) (h : AH), Den l G m11_plansOf rvI d 32 [some (vA G 69), some (vI x1), some (vI x2), none, none] [] h (rec32 (x1, x2, h))) (h : AH) : Den l G m11_plansOf rvI d 131 [some (vA G 69), some (vI x1), some (vI x2), none, none] [] h (b11_plansOf_131 rec32 x1 x2 h) := by
  unfold b11_plansOf_131
  refine den_aload_n (pc := 131) d11_plansOf_131 rfl rfl ?_
  refine den_iload_n (pc := 132) d11_plansOf_132 rfl rfl ?_
  refine den_aload_n (pc := 133) d11_plansOf_133 rfl rfl ?_
  refine den_getR (pc := 134) (b := 73) fa_11_20 (ok_69 _) rfl d11_plansOf_134 ?_
  refine den_iload_n (pc := 137) d11_plansOf_137 rfl rfl ?_
  refine den_asrt (fun a23 => ?_)
  refine den_iaload (pc := 138) sh_73 (sz_lt (by decide)) rfl a23 d11_plansOf_138 ?_
  refine den_callVI (pc := 139) (As := [vI x2, vI (h.2 73 (w32 x2).toNat)]) fv_11_246 rfl rfl (ok_69 _) (Nat.le_of_ble_eq_true rfl) (Nat.le_trans (by decide) hd) d11_plansOf_139 (c11_nextAt l G x2 (h.2 73 (w32 x2).toNat) h) (fun r24 h25 m26 o27 => ?_)
  exact t11_plansOf_142 l G _ hd x1 x2 r24 rec32 H32 h25
def b11_plansOf_108 (rec32 : Int × Int × AH → Option (Int × AH)) (x1 : Int) (x2 : Int) (x3 : Int) (h : AH) : Option (Int × AH) :=
  if ¬ w32 x3 = 0 then
    b11_plansOf_127 rec32 x1 x2 h
  else
    if w32 x1 = (-1) then
      b11_plansOf_131 rec32 x1 x2 h
    else
      asrt (0 ≤ w32 x2 ∧ w32 x2 < 5) <|
      if w32 (h.2 74 (w32 x2).toNat) < w32 x1 then
        b11_plansOf_131 rec32 x1 x2 h
      else
        b11_plansOf_127 rec32 x1 x2 h
set_option maxRecDepth 100000 in
theorem t11_plansOf_108 (l : Launch) (G : Geo) (d : Nat) (hd : 6 ≤ d) (x1 : Int) (x2 : Int) (x3 : Int) (rec32 : Int × Int × AH → Option (Int × AH)) (H32 : ∀ (x1 : Int) (x2 : Int) (h : AH), Den l G m11_plansOf rvI d 32 [some (vA G 69), some (vI x1), some (vI x2), none, none] [] h (rec32 (x1, x2, h))) (h : AH) : Den l G m11_plansOf rvI d 108 [some (vA G 69), some (vI x1), some (vI x2), some (vI x3), none] [] h (b11_plansOf_108 rec32 x1 x2 x3 h) := by
  unfold b11_plansOf_108
  refine den_iload_n (pc := 108) d11_plansOf_108 rfl rfl ?_
  refine den_if_ne (pc := 109) (tgt := 127) d11_plansOf_109 (by decide) rfl (fun _ => ?_) (fun _ => ?_)
  · refine den_wk [true, true, true, false, true] rfl ?_
    exact t11_plansOf_127 l G _ hd x1 x2 rec32 H32 h
  · refine den_iload_n (pc := 112) d11_plansOf_112 rfl rfl ?_
    refine den_iconst (pc := 113) d11_plansOf_113 ?_
    refine den_icmp_eq (pc := 114) (tgt := 131) d11_plansOf_114 (by decide) rfl (by decide) (fun _ => ?_) (fun _ => ?_)
    · refine den_wk [true, true, true, false, true] rfl ?_
      exact t11_plansOf_131 l G _ hd x1 x2 rec32 H32 h
    · refine den_aload_n (pc := 117) d11_plansOf_117 rfl rfl ?_
      refine den_getR (pc := 118) (b := 74) fa_11_23 (ok_69 _) rfl d11_plansOf_118 ?_
      refine den_iload_n (pc := 121) d11_plansOf_121 rfl rfl ?_
      refine den_asrt (fun a28 => ?_)
      refine den_iaload (pc := 122) sh_74 (sz_lt (by decide)) rfl a28 d11_plansOf_122 ?_
      refine den_iload_n (pc := 123) d11_plansOf_123 rfl rfl ?_
      refine den_icmp_lt (pc := 124) (tgt := 131) d11_plansOf_124 (by decide) rfl rfl (fun _ => ?_) (fun _ => ?_)
      · refine den_wk [true, true, true, false, true] rfl ?_
        exact t11_plansOf_131 l G _ hd x1 x2 rec32 H32 h
      · refine den_wk [true, true, true, false, true] rfl ?_
        exact t11_plansOf_127 l G _ hd x1 x2 rec32 H32 h
def b11_plansOf_79 (rec79 : Int × AH → Option (Int × AH)) (rec32 : Int × Int × AH → Option (Int × AH)) (x1 : Int) (x2 : Int) (x3 : Int) (x4 : Int) (h : AH) : Option (Int × AH) :=
  if w32 (h.2 69 15) ≤ w32 x4 then
    b11_plansOf_108 rec32 x1 x2 x3 h
  else
    asrt (0 ≤ w32 x4 ∧ w32 x4 < 5) <|
    asrt (0 ≤ w32 x4 ∧ w32 x4 < 4) <|
    lt (wr h 77 (w32 x4).toNat (h.2 73 (w32 x4).toNat)) fun h31 =>
    rec79 ((x4 + 1), h31)
set_option maxRecDepth 100000 in
theorem t11_plansOf_79 (l : Launch) (G : Geo) (d : Nat) (hd : 6 ≤ d) (x1 : Int) (x2 : Int) (x3 : Int) (x4 : Int) (rec79 : Int × AH → Option (Int × AH)) (H79 : ∀ (x4 : Int) (h : AH), Den l G m11_plansOf rvI d 79 [some (vA G 69), some (vI x1), some (vI x2), some (vI x3), some (vI x4)] [] h (rec79 (x4, h))) (rec32 : Int × Int × AH → Option (Int × AH)) (H32 : ∀ (x1 : Int) (x2 : Int) (h : AH), Den l G m11_plansOf rvI d 32 [some (vA G 69), some (vI x1), some (vI x2), none, none] [] h (rec32 (x1, x2, h))) (h : AH) : Den l G m11_plansOf rvI d 79 [some (vA G 69), some (vI x1), some (vI x2), some (vI x3), some (vI x4)] [] h (b11_plansOf_79 rec79 rec32 x1 x2 x3 x4 h) := by
  unfold b11_plansOf_79
  refine den_iload (pc := 79) d11_plansOf_79 rfl ?_
  refine den_aload_n (pc := 81) d11_plansOf_81 rfl rfl ?_
  refine den_getI (pc := 82) fa_11_198 (ok_69 _) d11_plansOf_82 ?_
  refine den_icmp_ge (pc := 85) (tgt := 108) d11_plansOf_85 (by decide) rfl rfl (fun _ => ?_) (fun _ => ?_)
  · refine den_wk [true, true, true, true, false] rfl ?_
    exact t11_plansOf_108 l G _ hd x1 x2 x3 rec32 H32 h
  · refine den_aload_n (pc := 88) d11_plansOf_88 rfl rfl ?_
    refine den_getR (pc := 89) (b := 77) fa_11_32 (ok_69 _) rfl d11_plansOf_89 ?_
    refine den_iload (pc := 92) d11_plansOf_92 rfl ?_
    refine den_aload_n (pc := 94) d11_plansOf_94 rfl rfl ?_
    refine den_getR (pc := 95) (b := 73) fa_11_20 (ok_69 _) rfl d11_plansOf_95 ?_
    refine den_iload (pc := 98) d11_plansOf_98 rfl ?_
    refine den_asrt (fun a29 => ?_)
    refine den_iaload (pc := 100) sh_73 (sz_lt (by decide)) rfl a29 d11_plansOf_100 ?_
    refine den_asrt (fun a30 => ?_)
    refine den_iastore (pc := 101) sh_77 (sz_lt (by decide)) rfl a30 d11_plansOf_101 ?_
    refine den_ltH (fun h31 m32 => ?_)
    refine den_iinc (pc := 102) (L2 := [some (vA G 69), some (vI x1), some (vI x2), some (vI x3), some (vI (x4 + 1))]) d11_plansOf_102 (by decide) rfl rfl ?_
    refine den_goto (pc := 105) (tgt := 79) d11_plansOf_105 (by decide) ?_
    exact H79 (x4 + 1) h31
def l11_plansOf_79 (rec32 : Int × Int × AH → Option (Int × AH)) (x1 : Int) (x2 : Int) (x3 : Int) (x4 : Int) (h : AH) : Option (Int × AH) := fx (fun rec z => b11_plansOf_79 rec rec32 x1 x2 x3 z.1 z.2) FU (x4, h)
set_option maxRecDepth 100000 in
theorem tl11_plansOf_79 (l : Launch) (G : Geo) (d : Nat) (hd : 6 ≤ d) (x1 : Int) (x2 : Int) (x3 : Int) (rec32 : Int × Int × AH → Option (Int × AH)) (H32 : ∀ (x1 : Int) (x2 : Int) (h : AH), Den l G m11_plansOf rvI d 32 [some (vA G 69), some (vI x1), some (vI x2), none, none] [] h (rec32 (x1, x2, h))) : ∀ (n : Nat) (z : Int × AH), True → Den l G m11_plansOf rvI d 79 [some (vA G 69), some (vI x1), some (vI x2), some (vI x3), some (vI z.1)] [] z.2 (fx (fun rec z => b11_plansOf_79 rec rec32 x1 x2 x3 z.1 z.2) n z) :=
  den_fx (F := fun rec z => b11_plansOf_79 rec rec32 x1 x2 x3 z.1 z.2) (P := fun z => True) (fL := fun z => [some (vA G 69), some (vI x1), some (vI x2), some (vI x3), some (vI z.1)]) (fs := fun z => []) (fh := fun z => z.2) (fun rec hrec z hz => t11_plansOf_79 l G d hd x1 x2 x3 z.1 rec (fun x4 h => hrec (x4, h) trivial) rec32 H32 z.2 )
def b11_plansOf_69 (rec32 : Int × Int × AH → Option (Int × AH)) (x2 : Int) (x3 : Int) (h : AH) : Option (Int × AH) :=
  asrt (0 ≤ w32 x2 ∧ w32 x2 < 5) <|
  lt (h.2 74 (w32 x2).toNat) fun u34 =>
  l11_plansOf_79 rec32 u34 x2 x3 0 h
set_option maxRecDepth 100000 in
theorem t11_plansOf_69 (l : Launch) (G : Geo) (d : Nat) (hd : 6 ≤ d) (x2 : Int) (x3 : Int) (rec32 : Int × Int × AH → Option (Int × AH)) (H32 : ∀ (x1 : Int) (x2 : Int) (h : AH), Den l G m11_plansOf rvI d 32 [some (vA G 69), some (vI x1), some (vI x2), none, none] [] h (rec32 (x1, x2, h))) (h : AH) : Den l G m11_plansOf rvI d 69 [some (vA G 69), none, some (vI x2), some (vI x3), none] [] h (b11_plansOf_69 rec32 x2 x3 h) := by
  unfold b11_plansOf_69
  refine den_aload_n (pc := 69) d11_plansOf_69 rfl rfl ?_
  refine den_getR (pc := 70) (b := 74) fa_11_23 (ok_69 _) rfl d11_plansOf_70 ?_
  refine den_iload_n (pc := 73) d11_plansOf_73 rfl rfl ?_
  refine den_asrt (fun a33 => ?_)
  refine den_iaload (pc := 74) sh_74 (sz_lt (by decide)) rfl a33 d11_plansOf_74 ?_
  refine den_istore_nL (pc := 75) (L2 := fun y => [some (vA G 69), some (vI y), some (vI x2), some (vI x3), none]) d11_plansOf_75 rfl (by decide) (fun _ => rfl) (fun u34 => ?_)
  refine den_iconst (pc := 76) d11_plansOf_76 ?_
  refine den_istore (pc := 77) (L2 := [some (vA G 69), some (vI u34), some (vI x2), some (vI x3), some (vI 0)]) d11_plansOf_77 (by decide) rfl ?_
  exact tl11_plansOf_79 l G _ hd u34 x2 x3 rec32 H32 FU (0, h) trivial
def b11_plansOf_49 (rec32 : Int × Int × AH → Option (Int × AH)) (x1 : Int) (x2 : Int) (s0 : Int) (h : AH) : Option (Int × AH) :=
  if w32 s0 = 0 then
    b11_plansOf_108 rec32 x1 x2 s0 h
  else
    if w32 x1 = (-1) then
      b11_plansOf_69 rec32 x2 s0 h
    else
      asrt (0 ≤ w32 x2 ∧ w32 x2 < 5) <|
      if w32 x1 ≤ w32 (h.2 74 (w32 x2).toNat) then
        b11_plansOf_108 rec32 x1 x2 s0 h
      else
        b11_plansOf_69 rec32 x2 s0 h
set_option maxRecDepth 100000 in
theorem t11_plansOf_49 (l : Launch) (G : Geo) (d : Nat) (hd : 6 ≤ d) (x1 : Int) (x2 : Int) (s0 : Int) (rec32 : Int × Int × AH → Option (Int × AH)) (H32 : ∀ (x1 : Int) (x2 : Int) (h : AH), Den l G m11_plansOf rvI d 32 [some (vA G 69), some (vI x1), some (vI x2), none, none] [] h (rec32 (x1, x2, h))) (h : AH) : Den l G m11_plansOf rvI d 49 [some (vA G 69), some (vI x1), some (vI x2), none, none] [vI s0] h (b11_plansOf_49 rec32 x1 x2 s0 h) := by
  unfold b11_plansOf_49
  refine den_istore_n (pc := 49) (L2 := [some (vA G 69), some (vI x1), some (vI x2), some (vI s0), none]) d11_plansOf_49 rfl (by decide) rfl ?_
  refine den_iload_n (pc := 50) d11_plansOf_50 rfl rfl ?_
  refine den_if_eq (pc := 51) (tgt := 108) d11_plansOf_51 (by decide) rfl (fun _ => ?_) (fun _ => ?_)
  · exact t11_plansOf_108 l G _ hd x1 x2 s0 rec32 H32 h
  · refine den_iload_n (pc := 54) d11_plansOf_54 rfl rfl ?_
    refine den_iconst (pc := 55) d11_plansOf_55 ?_
    refine den_icmp_eq (pc := 56) (tgt := 69) d11_plansOf_56 (by decide) rfl (by decide) (fun _ => ?_) (fun _ => ?_)
    · refine den_wk [true, false, true, true, true] rfl ?_
      exact t11_plansOf_69 l G _ hd x2 s0 rec32 H32 h
    · refine den_aload_n (pc := 59) d11_plansOf_59 rfl rfl ?_
      refine den_getR (pc := 60) (b := 74) fa_11_23 (ok_69 _) rfl d11_plansOf_60 ?_
      refine den_iload_n (pc := 63) d11_plansOf_63 rfl rfl ?_
      refine den_asrt (fun a35 => ?_)
      refine den_iaload (pc := 64) sh_74 (sz_lt (by decide)) rfl a35 d11_plansOf_64 ?_
      refine den_iload_n (pc := 65) d11_plansOf_65 rfl rfl ?_
      refine den_icmp_ge (pc := 66) (tgt := 108) d11_plansOf_66 (by decide) rfl rfl (fun _ => ?_) (fun _ => ?_)
      · exact t11_plansOf_108 l G _ hd x1 x2 s0 rec32 H32 h
      · refine den_wk [true, false, true, true, true] rfl ?_
        exact t11_plansOf_69 l G _ hd x2 s0 rec32 H32 h
def b11_plansOf_32 (rec32 : Int × Int × AH → Option (Int × AH)) (x1 : Int) (x2 : Int) (h : AH) : Option (Int × AH) :=
  if w32 x2 < 0 then
    some (x1, h)
  else
    if ¬ w32 x2 = w32 (h.2 69 15) then
      b11_plansOf_49 rec32 x1 x2 0 h
    else
      b11_plansOf_49 rec32 x1 x2 1 h
set_option maxRecDepth 100000 in
theorem t11_plansOf_32 (l : Launch) (G : Geo) (d : Nat) (hd : 6 ≤ d) (x1 : Int) (x2 : Int) (rec32 : Int × Int × AH → Option (Int × AH)) (H32 : ∀ (x1 : Int) (x2 : Int) (h : AH), Den l G m11_plansOf rvI d 32 [some (vA G 69), some (vI x1), some (vI x2), none, none] [] h (rec32 (x1, x2, h))) (h : AH) : Den l G m11_plansOf rvI d 32 [some (vA G 69), some (vI x1), some (vI x2), none, none] [] h (b11_plansOf_32 rec32 x1 x2 h) := by
  unfold b11_plansOf_32
  refine den_iload_n (pc := 32) d11_plansOf_32 rfl rfl ?_
  refine den_if_lt (pc := 33) (tgt := 269) d11_plansOf_33 (by decide) rfl (fun _ => ?_) (fun _ => ?_)
  · refine den_iload_n (pc := 269) d11_plansOf_269 rfl rfl ?_
    exact den_iret (pc := 270) rfl d11_plansOf_270
  · refine den_iload_n (pc := 36) d11_plansOf_36 rfl rfl ?_
    refine den_aload_n (pc := 37) d11_plansOf_37 rfl rfl ?_
    refine den_getI (pc := 38) fa_11_198 (ok_69 _) d11_plansOf_38 ?_
    refine den_icmp_ne (pc := 41) (tgt := 48) d11_plansOf_41 (by decide) rfl rfl (fun _ => ?_) (fun _ => ?_)
    · refine den_iconst (pc := 48) d11_plansOf_48 ?_
      exact t11_plansOf_49 l G _ hd x1 x2 0 rec32 H32 h
    · refine den_iconst (pc := 44) d11_plansOf_44 ?_
      refine den_goto (pc := 45) (tgt := 49) d11_plansOf_45 (by decide) ?_
      exact t11_plansOf_49 l G _ hd x1 x2 1 rec32 H32 h
def l11_plansOf_32 (x1 : Int) (x2 : Int) (h : AH) : Option (Int × AH) := fx (fun rec z => b11_plansOf_32 rec z.1 z.2.1 z.2.2) FU (x1, x2, h)
set_option maxRecDepth 100000 in
theorem tl11_plansOf_32 (l : Launch) (G : Geo) (d : Nat) (hd : 6 ≤ d) : ∀ (n : Nat) (z : Int × Int × AH), True → Den l G m11_plansOf rvI d 32 [some (vA G 69), some (vI z.1), some (vI z.2.1), none, none] [] z.2.2 (fx (fun rec z => b11_plansOf_32 rec z.1 z.2.1 z.2.2) n z) :=
  den_fx (F := fun rec z => b11_plansOf_32 rec z.1 z.2.1 z.2.2) (P := fun z => True) (fL := fun z => [some (vA G 69), some (vI z.1), some (vI z.2.1), none, none]) (fs := fun z => []) (fh := fun z => z.2.2) (fun rec hrec z hz => t11_plansOf_32 l G d hd z.1 z.2.1 rec (fun x1 x2 h => hrec (x1, x2, h) trivial) z.2.2 )
def f11_plansOf (h : AH) : Option (Int × AH) :=
  asrt (0 ≤ w32 0 ∧ w32 0 < 5) <|
  lt (wr h 73 (w32 0).toNat (-1)) fun h37 =>
  asrt (0 ≤ w32 0 ∧ w32 0 < 5) <|
  lt (wr h37 74 (w32 0).toNat 0) fun h40 =>
  asrt (0 ≤ w32 0 ∧ w32 0 < 5) <|
  lt (wr h40 75 (w32 0).toNat 0) fun h43 =>
  asrt (0 ≤ w32 0 ∧ w32 0 < 5) <|
  lt (wr h43 76 (w32 0).toNat 0) fun h46 =>
  l11_plansOf_32 (-1) 0 h46
set_option maxRecDepth 100000 in
theorem c11_plansOf (l : Launch) (G : Geo) (h : AH) : Con l G m11_plansOf rvI 6 [vA G 69] h (f11_plansOf  h) := by
  have hd : 6 ≤ 6 := Nat.le_refl _
  refine con_I rfl (by decide) rfl rfl (Nat.le_of_ble_eq_true rfl) (L := [some (vA G 69), none, none, none, none]) ?_
  unfold f11_plansOf
  refine den_iconst (pc := 0) d11_plansOf_0 ?_
  refine den_istore_n (pc := 1) (L2 := [some (vA G 69), some (vI (-1)), none, none, none]) d11_plansOf_1 rfl (by decide) rfl ?_
  refine den_iconst (pc := 2) d11_plansOf_2 ?_
  refine den_istore_n (pc := 3) (L2 := [some (vA G 69), some (vI (-1)), some (vI 0), none, none]) d11_plansOf_3 rfl (by decide) rfl ?_
  refine den_aload_n (pc := 4) d11_plansOf_4 rfl rfl ?_
  refine den_getR (pc := 5) (b := 73) fa_11_20 (ok_69 _) rfl d11_plansOf_5 ?_
  refine den_iconst (pc := 8) d11_plansOf_8 ?_
  refine den_iconst (pc := 9) d11_plansOf_9 ?_
  refine den_asrt (fun a36 => ?_)
  refine den_iastore (pc := 10) sh_73 (sz_lt (by decide)) rfl a36 d11_plansOf_10 ?_
  refine den_ltH (fun h37 m38 => ?_)
  refine den_aload_n (pc := 11) d11_plansOf_11 rfl rfl ?_
  refine den_getR (pc := 12) (b := 74) fa_11_23 (ok_69 _) rfl d11_plansOf_12 ?_
  refine den_iconst (pc := 15) d11_plansOf_15 ?_
  refine den_iconst (pc := 16) d11_plansOf_16 ?_
  refine den_asrt (fun a39 => ?_)
  refine den_iastore (pc := 17) sh_74 (sz_lt (by decide)) rfl a39 d11_plansOf_17 ?_
  refine den_ltH (fun h40 m41 => ?_)
  refine den_aload_n (pc := 18) d11_plansOf_18 rfl rfl ?_
  refine den_getR (pc := 19) (b := 75) fa_11_26 (ok_69 _) rfl d11_plansOf_19 ?_
  refine den_iconst (pc := 22) d11_plansOf_22 ?_
  refine den_iconst (pc := 23) d11_plansOf_23 ?_
  refine den_asrt (fun a42 => ?_)
  refine den_iastore (pc := 24) sh_75 (sz_lt (by decide)) rfl a42 d11_plansOf_24 ?_
  refine den_ltH (fun h43 m44 => ?_)
  refine den_aload_n (pc := 25) d11_plansOf_25 rfl rfl ?_
  refine den_getR (pc := 26) (b := 76) fa_11_29 (ok_69 _) rfl d11_plansOf_26 ?_
  refine den_iconst (pc := 29) d11_plansOf_29 ?_
  refine den_iconst (pc := 30) d11_plansOf_30 ?_
  refine den_asrt (fun a45 => ?_)
  refine den_iastore (pc := 31) sh_76 (sz_lt (by decide)) rfl a45 d11_plansOf_31 ?_
  refine den_ltH (fun h46 m47 => ?_)
  exact tl11_plansOf_32 l G _ hd FU ((-1), 0, h46) trivial
theorem d11_plan_0 : decode m11_plan.2.1 0 = .ok (.aload_n 0, 1) := by decide +kernel
theorem d11_plan_1 : decode m11_plan.2.1 1 = .ok (.iload_n 1, 1) := by decide +kernel
theorem d11_plan_2 : decode m11_plan.2.1 2 = .ok (.invokevirtual 201, 3) := by decide +kernel
theorem d11_plan_5 : decode m11_plan.2.1 5 = .ok (.ifCond .eq 22, 3) := by decide +kernel
theorem d11_plan_8 : decode m11_plan.2.1 8 = .ok (.iload_n 2, 1) := by decide +kernel
theorem d11_plan_9 : decode m11_plan.2.1 9 = .ok (.iconst (-1), 1) := by decide +kernel
theorem d11_plan_10 : decode m11_plan.2.1 10 = .ok (.if_icmp .eq 19, 3) := by decide +kernel
theorem d11_plan_13 : decode m11_plan.2.1 13 = .ok (.iload_n 2, 1) := by decide +kernel
theorem d11_plan_14 : decode m11_plan.2.1 14 = .ok (.iconst 0, 1) := by decide +kernel
theorem d11_plan_15 : decode m11_plan.2.1 15 = .ok (.aload_n 0, 1) := by decide +kernel
theorem d11_plan_16 : decode m11_plan.2.1 16 = .ok (.getfield 198, 3) := by decide +kernel
theorem d11_plan_19 : decode m11_plan.2.1 19 = .ok (.iconst 1, 1) := by decide +kernel
theorem d11_plan_20 : decode m11_plan.2.1 20 = .ok (.isub, 1) := by decide +kernel
theorem d11_plan_21 : decode m11_plan.2.1 21 = .ok (.invokestatic 135, 3) := by decide +kernel
theorem d11_plan_24 : decode m11_plan.2.1 24 = .ok (.ifCond .ne 5, 3) := by decide +kernel
theorem d11_plan_27 : decode m11_plan.2.1 27 = .ok (.iconst (-1), 1) := by decide +kernel
theorem d11_plan_28 : decode m11_plan.2.1 28 = .ok (.ireturn, 1) := by decide +kernel
theorem d11_plan_29 : decode m11_plan.2.1 29 = .ok (.aload_n 0, 1) := by decide +kernel
theorem d11_plan_30 : decode m11_plan.2.1 30 = .ok (.invokevirtual 249, 3) := by decide +kernel
theorem d11_plan_33 : decode m11_plan.2.1 33 = .ok (.istore_n 3, 1) := by decide +kernel
theorem d11_plan_34 : decode m11_plan.2.1 34 = .ok (.iload_n 3, 1) := by decide +kernel
theorem d11_plan_35 : decode m11_plan.2.1 35 = .ok (.iconst (-1), 1) := by decide +kernel
theorem d11_plan_36 : decode m11_plan.2.1 36 = .ok (.if_icmp .eq 8, 3) := by decide +kernel
theorem d11_plan_39 : decode m11_plan.2.1 39 = .ok (.iload_n 2, 1) := by decide +kernel
theorem d11_plan_40 : decode m11_plan.2.1 40 = .ok (.iconst (-1), 1) := by decide +kernel
theorem d11_plan_41 : decode m11_plan.2.1 41 = .ok (.if_icmp .ne 7, 3) := by decide +kernel
theorem d11_plan_44 : decode m11_plan.2.1 44 = .ok (.iload_n 3, 1) := by decide +kernel
theorem d11_plan_45 : decode m11_plan.2.1 45 = .ok (.goto 9, 3) := by decide +kernel
theorem d11_plan_48 : decode m11_plan.2.1 48 = .ok (.aload_n 0, 1) := by decide +kernel
theorem d11_plan_49 : decode m11_plan.2.1 49 = .ok (.getfield 32, 3) := by decide +kernel
theorem d11_plan_52 : decode m11_plan.2.1 52 = .ok (.iload_n 2, 1) := by decide +kernel
theorem d11_plan_53 : decode m11_plan.2.1 53 = .ok (.iaload, 1) := by decide +kernel
theorem d11_plan_54 : decode m11_plan.2.1 54 = .ok (.ireturn, 1) := by decide +kernel
def b11_plan_29 (x2 : Int) (h : AH) : Option (Int × AH) :=
  bnd (f11_plansOf h) fun r1 h2 =>
  if w32 r1 = (-1) then
    some (r1, h2)
  else
    if ¬ w32 x2 = (-1) then
      asrt (0 ≤ w32 x2 ∧ w32 x2 < 4) <|
      some (h2.2 77 (w32 x2).toNat, h2)
    else
      some (r1, h2)
set_option maxRecDepth 100000 in
theorem t11_plan_29 (l : Launch) (G : Geo) (d : Nat) (hd : 7 ≤ d) (x2 : Int) (h : AH) : Den l G m11_plan rvI d 29 [some (vA G 69), none, some (vI x2), none] [] h (b11_plan_29 x2 h) := by
  unfold b11_plan_29
  refine den_aload_n (pc := 29) d11_plan_29 rfl rfl ?_
  refine den_callVI (pc := 30) (As := []) fv_11_249 rfl rfl (ok_69 _) (Nat.le_of_ble_eq_true rfl) (Nat.le_trans (by decide) hd) d11_plan_30 (c11_plansOf l G h) (fun r1 h2 m3 o4 => ?_)
  refine den_istore_n (pc := 33) (L2 := [some (vA G 69), none, some (vI x2), some (vI r1)]) d11_plan_33 rfl (by decide) rfl ?_
  refine den_iload_n (pc := 34) d11_plan_34 rfl rfl ?_
  refine den_iconst (pc := 35) d11_plan_35 ?_
  refine den_icmp_eq (pc := 36) (tgt := 44) d11_plan_36 (by decide) rfl (by decide) (fun _ => ?_) (fun _ => ?_)
  · refine den_iload_n (pc := 44) d11_plan_44 rfl rfl ?_
    refine den_goto (pc := 45) (tgt := 54) d11_plan_45 (by decide) ?_
    exact den_iret (pc := 54) rfl d11_plan_54
  · refine den_iload_n (pc := 39) d11_plan_39 rfl rfl ?_
    refine den_iconst (pc := 40) d11_plan_40 ?_
    refine den_icmp_ne (pc := 41) (tgt := 48) d11_plan_41 (by decide) rfl (by decide) (fun _ => ?_) (fun _ => ?_)
    · refine den_aload_n (pc := 48) d11_plan_48 rfl rfl ?_
      refine den_getR (pc := 49) (b := 77) fa_11_32 (ok_69 _) rfl d11_plan_49 ?_
      refine den_iload_n (pc := 52) d11_plan_52 rfl rfl ?_
      refine den_asrt (fun a5 => ?_)
      refine den_iaload (pc := 53) sh_77 (sz_lt (by decide)) rfl a5 d11_plan_53 ?_
      exact den_iret (pc := 54) rfl d11_plan_54
    · refine den_iload_n (pc := 44) d11_plan_44 rfl rfl ?_
      refine den_goto (pc := 45) (tgt := 54) d11_plan_45 (by decide) ?_
      exact den_iret (pc := 54) rfl d11_plan_54
def f11_plan (x1 : Int) (x2 : Int) (h : AH) : Option (Int × AH) :=
  bnd (f11_isVillage x1 h) fun r6 h7 =>
  if w32 r6 = 0 then
    some ((-1), h7)
  else
    if w32 x2 = (-1) then
      b11_plan_29 x2 h7
    else
      bnd (f11_isIn x2 0 ((h7.2 69 15) - 1) h7) fun r10 h11 =>
      if ¬ w32 r10 = 0 then
        b11_plan_29 x2 h11
      else
        some ((-1), h11)
set_option maxRecDepth 100000 in
theorem c11_plan (l : Launch) (G : Geo) (x1 : Int) (x2 : Int) (h : AH) : Con l G m11_plan rvI 7 [vA G 69, vI x1, vI x2] h (f11_plan x1 x2 h) := by
  have hd : 7 ≤ 7 := Nat.le_refl _
  refine con_I rfl (by decide) rfl rfl (Nat.le_of_ble_eq_true rfl) (L := [some (vA G 69), some (vI x1), some (vI x2), none]) ?_
  unfold f11_plan
  refine den_aload_n (pc := 0) d11_plan_0 rfl rfl ?_
  refine den_iload_n (pc := 1) d11_plan_1 rfl rfl ?_
  refine den_callVI (pc := 2) (As := [vI x1]) fv_11_201 rfl rfl (ok_69 _) (Nat.le_of_ble_eq_true rfl) (Nat.le_trans (by decide) hd) d11_plan_2 (c11_isVillage l G x1 h) (fun r6 h7 m8 o9 => ?_)
  refine den_if_eq (pc := 5) (tgt := 27) d11_plan_5 (by decide) rfl (fun _ => ?_) (fun _ => ?_)
  · refine den_iconst (pc := 27) d11_plan_27 ?_
    exact den_iret (pc := 28) rfl d11_plan_28
  · refine den_iload_n (pc := 8) d11_plan_8 rfl rfl ?_
    refine den_iconst (pc := 9) d11_plan_9 ?_
    refine den_icmp_eq (pc := 10) (tgt := 29) d11_plan_10 (by decide) rfl (by decide) (fun _ => ?_) (fun _ => ?_)
    · refine den_wk [true, false, true, true] rfl ?_
      exact t11_plan_29 l G _ hd x2 h7
    · refine den_iload_n (pc := 13) d11_plan_13 rfl rfl ?_
      refine den_iconst (pc := 14) d11_plan_14 ?_
      refine den_aload_n (pc := 15) d11_plan_15 rfl rfl ?_
      refine den_getI (pc := 16) fa_11_198 (ok_69 _) d11_plan_16 ?_
      refine den_iconst (pc := 19) d11_plan_19 ?_
      refine den_isub (pc := 20) d11_plan_20 ?_
      refine den_callSI (pc := 21) (As := [vI x2, vI 0, vI ((h7.2 69 15) - 1)]) fs_11_135 rfl rfl (Nat.le_of_ble_eq_true rfl) (Nat.le_trans (by decide) hd) d11_plan_21 (c11_isIn l G x2 0 ((h7.2 69 15) - 1) h7) (fun r10 h11 m12 o13 => ?_)
      refine den_if_ne (pc := 24) (tgt := 29) d11_plan_24 (by decide) rfl (fun _ => ?_) (fun _ => ?_)
      · refine den_wk [true, false, true, true] rfl ?_
        exact t11_plan_29 l G _ hd x2 h11
      · refine den_iconst (pc := 27) d11_plan_27 ?_
        exact den_iret (pc := 28) rfl d11_plan_28
