/-! 11_marries 11_mostTogether 11_married 11_common 11_power 11_hopes -/
theorem d11_marries_0 : decode m11_marries.2.1 0 = .ok (.iconst 0, 1) := by decide +kernel
theorem d11_marries_1 : decode m11_marries.2.1 1 = .ok (.istore_n 1, 1) := by decide +kernel
theorem d11_marries_2 : decode m11_marries.2.1 2 = .ok (.iconst (-1), 1) := by decide +kernel
theorem d11_marries_3 : decode m11_marries.2.1 3 = .ok (.istore_n 2, 1) := by decide +kernel
theorem d11_marries_4 : decode m11_marries.2.1 4 = .ok (.iconst (-1), 1) := by decide +kernel
theorem d11_marries_5 : decode m11_marries.2.1 5 = .ok (.istore_n 3, 1) := by decide +kernel
theorem d11_marries_6 : decode m11_marries.2.1 6 = .ok (.iconst 0, 1) := by decide +kernel
theorem d11_marries_7 : decode m11_marries.2.1 7 = .ok (.istore 4, 2) := by decide +kernel
theorem d11_marries_9 : decode m11_marries.2.1 9 = .ok (.iload 4, 2) := by decide +kernel
theorem d11_marries_11 : decode m11_marries.2.1 11 = .ok (.aload_n 0, 1) := by decide +kernel
theorem d11_marries_12 : decode m11_marries.2.1 12 = .ok (.getfield 192, 3) := by decide +kernel
theorem d11_marries_15 : decode m11_marries.2.1 15 = .ok (.if_icmp .ge 82, 3) := by decide +kernel
theorem d11_marries_18 : decode m11_marries.2.1 18 = .ok (.iload 4, 2) := by decide +kernel
theorem d11_marries_20 : decode m11_marries.2.1 20 = .ok (.iconst 1, 1) := by decide +kernel
theorem d11_marries_21 : decode m11_marries.2.1 21 = .ok (.iadd, 1) := by decide +kernel
theorem d11_marries_22 : decode m11_marries.2.1 22 = .ok (.istore 5, 2) := by decide +kernel
theorem d11_marries_24 : decode m11_marries.2.1 24 = .ok (.iload 5, 2) := by decide +kernel
theorem d11_marries_26 : decode m11_marries.2.1 26 = .ok (.aload_n 0, 1) := by decide +kernel
theorem d11_marries_27 : decode m11_marries.2.1 27 = .ok (.getfield 192, 3) := by decide +kernel
theorem d11_marries_30 : decode m11_marries.2.1 30 = .ok (.if_icmp .ge 61, 3) := by decide +kernel
theorem d11_marries_33 : decode m11_marries.2.1 33 = .ok (.aload_n 0, 1) := by decide +kernel
theorem d11_marries_34 : decode m11_marries.2.1 34 = .ok (.getfield 35, 3) := by decide +kernel
theorem d11_marries_37 : decode m11_marries.2.1 37 = .ok (.iload 4, 2) := by decide +kernel
theorem d11_marries_39 : decode m11_marries.2.1 39 = .ok (.iaload, 1) := by decide +kernel
theorem d11_marries_40 : decode m11_marries.2.1 40 = .ok (.iconst (-1), 1) := by decide +kernel
theorem d11_marries_41 : decode m11_marries.2.1 41 = .ok (.if_icmp .ne 44, 3) := by decide +kernel
theorem d11_marries_44 : decode m11_marries.2.1 44 = .ok (.aload_n 0, 1) := by decide +kernel
theorem d11_marries_45 : decode m11_marries.2.1 45 = .ok (.getfield 35, 3) := by decide +kernel
theorem d11_marries_48 : decode m11_marries.2.1 48 = .ok (.iload 5, 2) := by decide +kernel
theorem d11_marries_50 : decode m11_marries.2.1 50 = .ok (.iaload, 1) := by decide +kernel
theorem d11_marries_51 : decode m11_marries.2.1 51 = .ok (.iconst (-1), 1) := by decide +kernel
theorem d11_marries_52 : decode m11_marries.2.1 52 = .ok (.if_icmp .ne 33, 3) := by decide +kernel
theorem d11_marries_55 : decode m11_marries.2.1 55 = .ok (.aload_n 0, 1) := by decide +kernel
theorem d11_marries_56 : decode m11_marries.2.1 56 = .ok (.iload 4, 2) := by decide +kernel
theorem d11_marries_58 : decode m11_marries.2.1 58 = .ok (.iload 5, 2) := by decide +kernel
theorem d11_marries_60 : decode m11_marries.2.1 60 = .ok (.invokevirtual 243, 3) := by decide +kernel
theorem d11_marries_63 : decode m11_marries.2.1 63 = .ok (.iload_n 1, 1) := by decide +kernel
theorem d11_marries_64 : decode m11_marries.2.1 64 = .ok (.if_icmp .gt 6, 3) := by decide +kernel
theorem d11_marries_67 : decode m11_marries.2.1 67 = .ok (.goto 18, 3) := by decide +kernel
theorem d11_marries_70 : decode m11_marries.2.1 70 = .ok (.aload_n 0, 1) := by decide +kernel
theorem d11_marries_71 : decode m11_marries.2.1 71 = .ok (.iload 4, 2) := by decide +kernel
theorem d11_marries_73 : decode m11_marries.2.1 73 = .ok (.iload 5, 2) := by decide +kernel
theorem d11_marries_75 : decode m11_marries.2.1 75 = .ok (.invokevirtual 243, 3) := by decide +kernel
theorem d11_marries_78 : decode m11_marries.2.1 78 = .ok (.istore_n 1, 1) := by decide +kernel
theorem d11_marries_79 : decode m11_marries.2.1 79 = .ok (.iload 4, 2) := by decide +kernel
theorem d11_marries_81 : decode m11_marries.2.1 81 = .ok (.istore_n 2, 1) := by decide +kernel
theorem d11_marries_82 : decode m11_marries.2.1 82 = .ok (.iload 5, 2) := by decide +kernel
theorem d11_marries_84 : decode m11_marries.2.1 84 = .ok (.istore_n 3, 1) := by decide +kernel
theorem d11_marries_85 : decode m11_marries.2.1 85 = .ok (.iinc 5 1, 3) := by decide +kernel
theorem d11_marries_88 : decode m11_marries.2.1 88 = .ok (.goto (-64), 3) := by decide +kernel
theorem d11_marries_91 : decode m11_marries.2.1 91 = .ok (.iinc 4 1, 3) := by decide +kernel
theorem d11_marries_94 : decode m11_marries.2.1 94 = .ok (.goto (-85), 3) := by decide +kernel
theorem d11_marries_97 : decode m11_marries.2.1 97 = .ok (.iload_n 2, 1) := by decide +kernel
theorem d11_marries_98 : decode m11_marries.2.1 98 = .ok (.iconst (-1), 1) := by decide +kernel
theorem d11_marries_99 : decode m11_marries.2.1 99 = .ok (.if_icmp .ne 5, 3) := by decide +kernel
theorem d11_marries_102 : decode m11_marries.2.1 102 = .ok (.iconst 0, 1) := by decide +kernel
theorem d11_marries_103 : decode m11_marries.2.1 103 = .ok (.ireturn, 1) := by decide +kernel
theorem d11_marries_104 : decode m11_marries.2.1 104 = .ok (.aload_n 0, 1) := by decide +kernel
theorem d11_marries_105 : decode m11_marries.2.1 105 = .ok (.getfield 35, 3) := by decide +kernel
theorem d11_marries_108 : decode m11_marries.2.1 108 = .ok (.iload_n 2, 1) := by decide +kernel
theorem d11_marries_109 : decode m11_marries.2.1 109 = .ok (.iload_n 3, 1) := by decide +kernel
theorem d11_marries_110 : decode m11_marries.2.1 110 = .ok (.iastore, 1) := by decide +kernel
theorem d11_marries_111 : decode m11_marries.2.1 111 = .ok (.aload_n 0, 1) := by decide +kernel
theorem d11_marries_112 : decode m11_marries.2.1 112 = .ok (.getfield 35, 3) := by decide +kernel
theorem d11_marries_115 : decode m11_marries.2.1 115 = .ok (.iload_n 3, 1) := by decide +kernel
theorem d11_marries_116 : decode m11_marries.2.1 116 = .ok (.iload_n 2, 1) := by decide +kernel
theorem d11_marries_117 : decode m11_marries.2.1 117 = .ok (.iastore, 1) := by decide +kernel
theorem d11_marries_118 : decode m11_marries.2.1 118 = .ok (.iconst 1, 1) := by decide +kernel
theorem d11_marries_119 : decode m11_marries.2.1 119 = .ok (.ireturn, 1) := by decide +kernel
def b11_marries_85 (rec9 : Int × Int × Int × Int × AH → Option (Int × AH)) (rec24 : Int × Int × Int × Int × AH → Option (Int × AH)) (x1 : Int) (x2 : Int) (x3 : Int) (x4 : Int) (x5 : Int) (h : AH) : Option (Int × AH) :=
  rec24 (x1, x2, x3, (x5 + 1), h)
set_option maxRecDepth 100000 in
theorem t11_marries_85 (l : Launch) (G : Geo) (d : Nat) (hd : 7 ≤ d) (x1 : Int) (x2 : Int) (x3 : Int) (x4 : Int) (x5 : Int) (rec9 : Int × Int × Int × Int × AH → Option (Int × AH)) (H9 : ∀ (x1 : Int) (x2 : Int) (x3 : Int) (x4 : Int) (h : AH), Den l G m11_marries rvI d 9 [some (vA G 69), some (vI x1), some (vI x2), some (vI x3), some (vI x4), none] [] h (rec9 (x1, x2, x3, x4, h))) (rec24 : Int × Int × Int × Int × AH → Option (Int × AH)) (H24 : ∀ (x1 : Int) (x2 : Int) (x3 : Int) (x5 : Int) (h : AH), Den l G m11_marries rvI d 24 [some (vA G 69), some (vI x1), some (vI x2), some (vI x3), some (vI x4), some (vI x5)] [] h (rec24 (x1, x2, x3, x5, h))) (h : AH) : Den l G m11_marries rvI d 85 [some (vA G 69), some (vI x1), some (vI x2), some (vI x3), some (vI x4), some (vI x5)] [] h (b11_marries_85 rec9 rec24 x1 x2 x3 x4 x5 h) := by
  unfold b11_marries_85
  refine den_iinc (pc := 85) (L2 := [some (vA G 69), some (vI x1), some (vI x2), some (vI x3), some (vI x4), some (vI (x5 + 1))]) d11_marries_85 (by decide) rfl rfl ?_
  refine den_goto (pc := 88) (tgt := 24) d11_marries_88 (by decide) ?_
  exact H24 x1 x2 x3 (x5 + 1) h
def b11_marries_24 (rec24 : Int × Int × Int × Int × AH → Option (Int × AH)) (rec9 : Int × Int × Int × Int × AH → Option (Int × AH)) (x4 : Int) (x1 : Int) (x2 : Int) (x3 : Int) (x5 : Int) (h : AH) : Option (Int × AH) :=
  if w32 (h.2 69 13) ≤ w32 x5 then
    rec9 (x1, x2, x3, (x4 + 1), h)
  else
    asrt (0 ≤ w32 x4 ∧ w32 x4 < 8) <|
    if ¬ w32 (h.2 78 (w32 x4).toNat) = (-1) then
      b11_marries_85 rec9 rec24 x1 x2 x3 x4 x5 h
    else
      asrt (0 ≤ w32 x5 ∧ w32 x5 < 8) <|
      if ¬ w32 (h.2 78 (w32 x5).toNat) = (-1) then
        b11_marries_85 rec9 rec24 x1 x2 x3 x4 x5 h
      else
        bnd (f11_togetherOf x4 x5 h) fun r3 h4 =>
        if w32 x1 < w32 r3 then
          bnd (f11_togetherOf x4 x5 h4) fun r7 h8 =>
          b11_marries_85 rec9 rec24 r7 x4 x5 x4 x5 h8
        else
          b11_marries_85 rec9 rec24 x1 x2 x3 x4 x5 h4
set_option maxRecDepth 100000 in
theorem t11_marries_24 (l : Launch) (G : Geo) (d : Nat) (hd : 7 ≤ d) (x4 : Int) (x1 : Int) (x2 : Int) (x3 : Int) (x5 : Int) (rec24 : Int × Int × Int × Int × AH → Option (Int × AH)) (H24 : ∀ (x1 : Int) (x2 : Int) (x3 : Int) (x5 : Int) (h : AH), Den l G m11_marries rvI d 24 [some (vA G 69), some (vI x1), some (vI x2), some (vI x3), some (vI x4), some (vI x5)] [] h (rec24 (x1, x2, x3, x5, h))) (rec9 : Int × Int × Int × Int × AH → Option (Int × AH)) (H9 : ∀ (x1 : Int) (x2 : Int) (x3 : Int) (x4 : Int) (h : AH), Den l G m11_marries rvI d 9 [some (vA G 69), some (vI x1), some (vI x2), some (vI x3), some (vI x4), none] [] h (rec9 (x1, x2, x3, x4, h))) (h : AH) : Den l G m11_marries rvI d 24 [some (vA G 69), some (vI x1), some (vI x2), some (vI x3), some (vI x4), some (vI x5)] [] h (b11_marries_24 rec24 rec9 x4 x1 x2 x3 x5 h) := by
  unfold b11_marries_24
  refine den_iload (pc := 24) d11_marries_24 rfl ?_
  refine den_aload_n (pc := 26) d11_marries_26 rfl rfl ?_
  refine den_getI (pc := 27) fa_11_192 (ok_69 _) d11_marries_27 ?_
  refine den_icmp_ge (pc := 30) (tgt := 91) d11_marries_30 (by decide) rfl rfl (fun _ => ?_) (fun _ => ?_)
  · refine den_iinc (pc := 91) (L2 := [some (vA G 69), some (vI x1), some (vI x2), some (vI x3), some (vI (x4 + 1)), some (vI x5)]) d11_marries_91 (by decide) rfl rfl ?_
    refine den_goto (pc := 94) (tgt := 9) d11_marries_94 (by decide) ?_
    refine den_wk [true, true, true, true, true, false] rfl ?_
    exact H9 x1 x2 x3 (x4 + 1) h
  · refine den_aload_n (pc := 33) d11_marries_33 rfl rfl ?_
    refine den_getR (pc := 34) (b := 78) fa_11_35 (ok_69 _) rfl d11_marries_34 ?_
    refine den_iload (pc := 37) d11_marries_37 rfl ?_
    refine den_asrt (fun a1 => ?_)
    refine den_iaload (pc := 39) sh_78 (sz_lt (by decide)) rfl a1 d11_marries_39 ?_
    refine den_iconst (pc := 40) d11_marries_40 ?_
    refine den_icmp_ne (pc := 41) (tgt := 85) d11_marries_41 (by decide) rfl (by decide) (fun _ => ?_) (fun _ => ?_)
    · exact t11_marries_85 l G _ hd x1 x2 x3 x4 x5 rec9 H9 rec24 H24 h
    · refine den_aload_n (pc := 44) d11_marries_44 rfl rfl ?_
      refine den_getR (pc := 45) (b := 78) fa_11_35 (ok_69 _) rfl d11_marries_45 ?_
      refine den_iload (pc := 48) d11_marries_48 rfl ?_
      refine den_asrt (fun a2 => ?_)
      refine den_iaload (pc := 50) sh_78 (sz_lt (by decide)) rfl a2 d11_marries_50 ?_
      refine den_iconst (pc := 51) d11_marries_51 ?_
      refine den_icmp_ne (pc := 52) (tgt := 85) d11_marries_52 (by decide) rfl (by decide) (fun _ => ?_) (fun _ => ?_)
      · exact t11_marries_85 l G _ hd x1 x2 x3 x4 x5 rec9 H9 rec24 H24 h
      · refine den_aload_n (pc := 55) d11_marries_55 rfl rfl ?_
        refine den_iload (pc := 56) d11_marries_56 rfl ?_
        refine den_iload (pc := 58) d11_marries_58 rfl ?_
        refine den_callVI (pc := 60) (As := [vI x4, vI x5]) fv_11_243 rfl rfl (ok_69 _) (Nat.le_of_ble_eq_true rfl) (Nat.le_trans (by decide) hd) d11_marries_60 (c11_togetherOf l G x4 x5 h) (fun r3 h4 m5 o6 => ?_)
        refine den_iload_n (pc := 63) d11_marries_63 rfl rfl ?_
        refine den_icmp_gt (pc := 64) (tgt := 70) d11_marries_64 (by decide) rfl rfl (fun _ => ?_) (fun _ => ?_)
        · refine den_aload_n (pc := 70) d11_marries_70 rfl rfl ?_
          refine den_iload (pc := 71) d11_marries_71 rfl ?_
          refine den_iload (pc := 73) d11_marries_73 rfl ?_
          refine den_callVI (pc := 75) (As := [vI x4, vI x5]) fv_11_243 rfl rfl (ok_69 _) (Nat.le_of_ble_eq_true rfl) (Nat.le_trans (by decide) hd) d11_marries_75 (c11_togetherOf l G x4 x5 h4) (fun r7 h8 m9 o10 => ?_)
          refine den_istore_n (pc := 78) (L2 := [some (vA G 69), some (vI r7), some (vI x2), some (vI x3), some (vI x4), some (vI x5)]) d11_marries_78 rfl (by decide) rfl ?_
          refine den_iload (pc := 79) d11_marries_79 rfl ?_
          refine den_istore_n (pc := 81) (L2 := [some (vA G 69), some (vI r7), some (vI x4), some (vI x3), some (vI x4), some (vI x5)]) d11_marries_81 rfl (by decide) rfl ?_
          refine den_iload (pc := 82) d11_marries_82 rfl ?_
          refine den_istore_n (pc := 84) (L2 := [some (vA G 69), some (vI r7), some (vI x4), some (vI x5), some (vI x4), some (vI x5)]) d11_marries_84 rfl (by decide) rfl ?_
          exact t11_marries_85 l G _ hd r7 x4 x5 x4 x5 rec9 H9 rec24 H24 h8
        · refine den_goto (pc := 67) (tgt := 85) d11_marries_67 (by decide) ?_
          exact t11_marries_85 l G _ hd x1 x2 x3 x4 x5 rec9 H9 rec24 H24 h4
def l11_marries_24 (rec9 : Int × Int × Int × Int × AH → Option (Int × AH)) (x4 : Int) (x1 : Int) (x2 : Int) (x3 : Int) (x5 : Int) (h : AH) : Option (Int × AH) := fx (fun rec z => b11_marries_24 rec rec9 x4 z.1 z.2.1 z.2.2.1 z.2.2.2.1 z.2.2.2.2) FU (x1, x2, x3, x5, h)
set_option maxRecDepth 100000 in
theorem tl11_marries_24 (l : Launch) (G : Geo) (d : Nat) (hd : 7 ≤ d) (x4 : Int) (rec9 : Int × Int × Int × Int × AH → Option (Int × AH)) (H9 : ∀ (x1 : Int) (x2 : Int) (x3 : Int) (x4 : Int) (h : AH), Den l G m11_marries rvI d 9 [some (vA G 69), some (vI x1), some (vI x2), some (vI x3), some (vI x4), none] [] h (rec9 (x1, x2, x3, x4, h))) : ∀ (n : Nat) (z : Int × Int × Int × Int × AH), True → Den l G m11_marries rvI d 24 [some (vA G 69), some (vI z.1), some (vI z.2.1), some (vI z.2.2.1), some (vI x4), some (vI z.2.2.2.1)] [] z.2.2.2.2 (fx (fun rec z => b11_marries_24 rec rec9 x4 z.1 z.2.1 z.2.2.1 z.2.2.2.1 z.2.2.2.2) n z) :=
  den_fx (F := fun rec z => b11_marries_24 rec rec9 x4 z.1 z.2.1 z.2.2.1 z.2.2.2.1 z.2.2.2.2) (P := fun z => True) (fL := fun z => [some (vA G 69), some (vI z.1), some (vI z.2.1), some (vI z.2.2.1), some (vI x4), some (vI z.2.2.2.1)]) (fs := fun z => []) (fh := fun z => z.2.2.2.2) (fun rec hrec z hz => t11_marries_24 l G d hd x4 z.1 z.2.1 z.2.2.1 z.2.2.2.1 rec (fun x1 x2 x3 x5 h => hrec (x1, x2, x3, x5, h) trivial) rec9 H9 z.2.2.2.2 )
def b11_marries_9 (rec9 : Int × Int × Int × Int × AH → Option (Int × AH)) (x1 : Int) (x2 : Int) (x3 : Int) (x4 : Int) (h : AH) : Option (Int × AH) :=
  if w32 (h.2 69 13) ≤ w32 x4 then
    if ¬ w32 x2 = (-1) then
      asrt (0 ≤ w32 x2 ∧ w32 x2 < 8) <|
      lt (wr h 78 (w32 x2).toNat x3) fun h12 =>
      asrt (0 ≤ w32 x3 ∧ w32 x3 < 8) <|
      lt (wr h12 78 (w32 x3).toNat x2) fun h15 =>
      some (1, h15)
    else
      some (0, h)
  else
    lt (x4 + 1) fun u17 =>
    l11_marries_24 rec9 x4 x1 x2 x3 u17 h
set_option maxRecDepth 100000 in
theorem t11_marries_9 (l : Launch) (G : Geo) (d : Nat) (hd : 7 ≤ d) (x1 : Int) (x2 : Int) (x3 : Int) (x4 : Int) (rec9 : Int × Int × Int × Int × AH → Option (Int × AH)) (H9 : ∀ (x1 : Int) (x2 : Int) (x3 : Int) (x4 : Int) (h : AH), Den l G m11_marries rvI d 9 [some (vA G 69), some (vI x1), some (vI x2), some (vI x3), some (vI x4), none] [] h (rec9 (x1, x2, x3, x4, h))) (h : AH) : Den l G m11_marries rvI d 9 [some (vA G 69), some (vI x1), some (vI x2), some (vI x3), some (vI x4), none] [] h (b11_marries_9 rec9 x1 x2 x3 x4 h) := by
  unfold b11_marries_9
  refine den_iload (pc := 9) d11_marries_9 rfl ?_
  refine den_aload_n (pc := 11) d11_marries_11 rfl rfl ?_
  refine den_getI (pc := 12) fa_11_192 (ok_69 _) d11_marries_12 ?_
  refine den_icmp_ge (pc := 15) (tgt := 97) d11_marries_15 (by decide) rfl rfl (fun _ => ?_) (fun _ => ?_)
  · refine den_iload_n (pc := 97) d11_marries_97 rfl rfl ?_
    refine den_iconst (pc := 98) d11_marries_98 ?_
    refine den_icmp_ne (pc := 99) (tgt := 104) d11_marries_99 (by decide) rfl (by decide) (fun _ => ?_) (fun _ => ?_)
    · refine den_aload_n (pc := 104) d11_marries_104 rfl rfl ?_
      refine den_getR (pc := 105) (b := 78) fa_11_35 (ok_69 _) rfl d11_marries_105 ?_
      refine den_iload_n (pc := 108) d11_marries_108 rfl rfl ?_
      refine den_iload_n (pc := 109) d11_marries_109 rfl rfl ?_
      refine den_asrt (fun a11 => ?_)
      refine den_iastore (pc := 110) sh_78 (sz_lt (by decide)) rfl a11 d11_marries_110 ?_
      refine den_ltH (fun h12 m13 => ?_)
      refine den_aload_n (pc := 111) d11_marries_111 rfl rfl ?_
      refine den_getR (pc := 112) (b := 78) fa_11_35 (ok_69 _) rfl d11_marries_112 ?_
      refine den_iload_n (pc := 115) d11_marries_115 rfl rfl ?_
      refine den_iload_n (pc := 116) d11_marries_116 rfl rfl ?_
      refine den_asrt (fun a14 => ?_)
      refine den_iastore (pc := 117) sh_78 (sz_lt (by decide)) rfl a14 d11_marries_117 ?_
      refine den_ltH (fun h15 m16 => ?_)
      refine den_iconst (pc := 118) d11_marries_118 ?_
      exact den_zret (pc := 119) rfl (by decide) d11_marries_119
    · refine den_iconst (pc := 102) d11_marries_102 ?_
      exact den_zret (pc := 103) rfl (by decide) d11_marries_103
  · refine den_iload (pc := 18) d11_marries_18 rfl ?_
    refine den_iconst (pc := 20) d11_marries_20 ?_
    refine den_iadd (pc := 21) d11_marries_21 ?_
    refine den_istoreL (pc := 22) (L2 := fun y => [some (vA G 69), some (vI x1), some (vI x2), some (vI x3), some (vI x4), some (vI y)]) d11_marries_22 (by decide) (fun _ => rfl) (fun u17 => ?_)
    exact tl11_marries_24 l G _ hd x4 rec9 H9 FU (x1, x2, x3, u17, h) trivial
def l11_marries_9 (x1 : Int) (x2 : Int) (x3 : Int) (x4 : Int) (h : AH) : Option (Int × AH) := fx (fun rec z => b11_marries_9 rec z.1 z.2.1 z.2.2.1 z.2.2.2.1 z.2.2.2.2) FU (x1, x2, x3, x4, h)
set_option maxRecDepth 100000 in
theorem tl11_marries_9 (l : Launch) (G : Geo) (d : Nat) (hd : 7 ≤ d) : ∀ (n : Nat) (z : Int × Int × Int × Int × AH), True → Den l G m11_marries rvI d 9 [some (vA G 69), some (vI z.1), some (vI z.2.1), some (vI z.2.2.1), some (vI z.2.2.2.1), none] [] z.2.2.2.2 (fx (fun rec z => b11_marries_9 rec z.1 z.2.1 z.2.2.1 z.2.2.2.1 z.2.2.2.2) n z) :=
  den_fx (F := fun rec z => b11_marries_9 rec z.1 z.2.1 z.2.2.1 z.2.2.2.1 z.2.2.2.2) (P := fun z => True) (fL := fun z => [some (vA G 69), some (vI z.1), some (vI z.2.1), some (vI z.2.2.1), some (vI z.2.2.2.1), none]) (fs := fun z => []) (fh := fun z => z.2.2.2.2) (fun rec hrec z hz => t11_marries_9 l G d hd z.1 z.2.1 z.2.2.1 z.2.2.2.1 rec (fun x1 x2 x3 x4 h => hrec (x1, x2, x3, x4, h) trivial) z.2.2.2.2 )
def f11_marries (h : AH) : Option (Int × AH) :=
  l11_marries_9 0 (-1) (-1) 0 h
set_option maxRecDepth 100000 in
theorem c11_marries (l : Launch) (G : Geo) (h : AH) : Con l G m11_marries rvI 7 [vA G 69] h (f11_marries  h) := by
  have hd : 7 ≤ 7 := Nat.le_refl _
  refine con_Z rfl (by decide) rfl rfl (Nat.le_of_ble_eq_true rfl) (L := [some (vA G 69), none, none, none, none, none]) ?_
  unfold f11_marries
  refine den_iconst (pc := 0) d11_marries_0 ?_
  refine den_istore_n (pc := 1) (L2 := [some (vA G 69), some (vI 0), none, none, none, none]) d11_marries_1 rfl (by decide) rfl ?_
  refine den_iconst (pc := 2) d11_marries_2 ?_
  refine den_istore_n (pc := 3) (L2 := [some (vA G 69), some (vI 0), some (vI (-1)), none, none, none]) d11_marries_3 rfl (by decide) rfl ?_
  refine den_iconst (pc := 4) d11_marries_4 ?_
  refine den_istore_n (pc := 5) (L2 := [some (vA G 69), some (vI 0), some (vI (-1)), some (vI (-1)), none, none]) d11_marries_5 rfl (by decide) rfl ?_
  refine den_iconst (pc := 6) d11_marries_6 ?_
  refine den_istore (pc := 7) (L2 := [some (vA G 69), some (vI 0), some (vI (-1)), some (vI (-1)), some (vI 0), none]) d11_marries_7 (by decide) rfl ?_
  exact tl11_marries_9 l G _ hd FU (0, (-1), (-1), 0, h) trivial
theorem d11_mostTogether_0 : decode m11_mostTogether.2.1 0 = .ok (.aload_n 0, 1) := by decide +kernel
theorem d11_mostTogether_1 : decode m11_mostTogether.2.1 1 = .ok (.getfield 38, 3) := by decide +kernel
theorem d11_mostTogether_4 : decode m11_mostTogether.2.1 4 = .ok (.iconst 0, 1) := by decide +kernel
theorem d11_mostTogether_5 : decode m11_mostTogether.2.1 5 = .ok (.iconst 0, 1) := by decide +kernel
theorem d11_mostTogether_6 : decode m11_mostTogether.2.1 6 = .ok (.iastore, 1) := by decide +kernel
theorem d11_mostTogether_7 : decode m11_mostTogether.2.1 7 = .ok (.iconst 1, 1) := by decide +kernel
theorem d11_mostTogether_8 : decode m11_mostTogether.2.1 8 = .ok (.istore_n 1, 1) := by decide +kernel
theorem d11_mostTogether_9 : decode m11_mostTogether.2.1 9 = .ok (.iload_n 1, 1) := by decide +kernel
theorem d11_mostTogether_10 : decode m11_mostTogether.2.1 10 = .ok (.iconst 1, 1) := by decide +kernel
theorem d11_mostTogether_11 : decode m11_mostTogether.2.1 11 = .ok (.aload_n 0, 1) := by decide +kernel
theorem d11_mostTogether_12 : decode m11_mostTogether.2.1 12 = .ok (.getfield 192, 3) := by decide +kernel
theorem d11_mostTogether_15 : decode m11_mostTogether.2.1 15 = .ok (.ishl, 1) := by decide +kernel
theorem d11_mostTogether_16 : decode m11_mostTogether.2.1 16 = .ok (.if_icmp .ge 122, 3) := by decide +kernel
theorem d11_mostTogether_19 : decode m11_mostTogether.2.1 19 = .ok (.bipush 7, 2) := by decide +kernel
theorem d11_mostTogether_21 : decode m11_mostTogether.2.1 21 = .ok (.istore_n 2, 1) := by decide +kernel
theorem d11_mostTogether_22 : decode m11_mostTogether.2.1 22 = .ok (.iload_n 1, 1) := by decide +kernel
theorem d11_mostTogether_23 : decode m11_mostTogether.2.1 23 = .ok (.iload_n 2, 1) := by decide +kernel
theorem d11_mostTogether_24 : decode m11_mostTogether.2.1 24 = .ok (.ishr, 1) := by decide +kernel
theorem d11_mostTogether_25 : decode m11_mostTogether.2.1 25 = .ok (.iconst 1, 1) := by decide +kernel
theorem d11_mostTogether_26 : decode m11_mostTogether.2.1 26 = .ok (.iand, 1) := by decide +kernel
theorem d11_mostTogether_27 : decode m11_mostTogether.2.1 27 = .ok (.ifCond .ne 9, 3) := by decide +kernel
theorem d11_mostTogether_30 : decode m11_mostTogether.2.1 30 = .ok (.iinc 2 (-1), 3) := by decide +kernel
theorem d11_mostTogether_33 : decode m11_mostTogether.2.1 33 = .ok (.goto (-11), 3) := by decide +kernel
theorem d11_mostTogether_36 : decode m11_mostTogether.2.1 36 = .ok (.iload_n 1, 1) := by decide +kernel
theorem d11_mostTogether_37 : decode m11_mostTogether.2.1 37 = .ok (.iconst 1, 1) := by decide +kernel
theorem d11_mostTogether_38 : decode m11_mostTogether.2.1 38 = .ok (.iload_n 2, 1) := by decide +kernel
theorem d11_mostTogether_39 : decode m11_mostTogether.2.1 39 = .ok (.ishl, 1) := by decide +kernel
theorem d11_mostTogether_40 : decode m11_mostTogether.2.1 40 = .ok (.ixor, 1) := by decide +kernel
theorem d11_mostTogether_41 : decode m11_mostTogether.2.1 41 = .ok (.istore_n 3, 1) := by decide +kernel
theorem d11_mostTogether_42 : decode m11_mostTogether.2.1 42 = .ok (.aload_n 0, 1) := by decide +kernel
theorem d11_mostTogether_43 : decode m11_mostTogether.2.1 43 = .ok (.getfield 38, 3) := by decide +kernel
theorem d11_mostTogether_46 : decode m11_mostTogether.2.1 46 = .ok (.iload_n 1, 1) := by decide +kernel
theorem d11_mostTogether_47 : decode m11_mostTogether.2.1 47 = .ok (.aload_n 0, 1) := by decide +kernel
theorem d11_mostTogether_48 : decode m11_mostTogether.2.1 48 = .ok (.getfield 38, 3) := by decide +kernel
theorem d11_mostTogether_51 : decode m11_mostTogether.2.1 51 = .ok (.iload_n 3, 1) := by decide +kernel
theorem d11_mostTogether_52 : decode m11_mostTogether.2.1 52 = .ok (.iaload, 1) := by decide +kernel
theorem d11_mostTogether_53 : decode m11_mostTogether.2.1 53 = .ok (.iastore, 1) := by decide +kernel
theorem d11_mostTogether_54 : decode m11_mostTogether.2.1 54 = .ok (.iconst 0, 1) := by decide +kernel
theorem d11_mostTogether_55 : decode m11_mostTogether.2.1 55 = .ok (.istore 4, 2) := by decide +kernel
theorem d11_mostTogether_57 : decode m11_mostTogether.2.1 57 = .ok (.iload 4, 2) := by decide +kernel
theorem d11_mostTogether_59 : decode m11_mostTogether.2.1 59 = .ok (.iload_n 2, 1) := by decide +kernel
theorem d11_mostTogether_60 : decode m11_mostTogether.2.1 60 = .ok (.if_icmp .ge 72, 3) := by decide +kernel
theorem d11_mostTogether_63 : decode m11_mostTogether.2.1 63 = .ok (.iload_n 3, 1) := by decide +kernel
theorem d11_mostTogether_64 : decode m11_mostTogether.2.1 64 = .ok (.iload 4, 2) := by decide +kernel
theorem d11_mostTogether_66 : decode m11_mostTogether.2.1 66 = .ok (.ishr, 1) := by decide +kernel
theorem d11_mostTogether_67 : decode m11_mostTogether.2.1 67 = .ok (.iconst 1, 1) := by decide +kernel
theorem d11_mostTogether_68 : decode m11_mostTogether.2.1 68 = .ok (.iand, 1) := by decide +kernel
theorem d11_mostTogether_69 : decode m11_mostTogether.2.1 69 = .ok (.iconst 1, 1) := by decide +kernel
theorem d11_mostTogether_70 : decode m11_mostTogether.2.1 70 = .ok (.if_icmp .ne 56, 3) := by decide +kernel
theorem d11_mostTogether_73 : decode m11_mostTogether.2.1 73 = .ok (.aload_n 0, 1) := by decide +kernel
theorem d11_mostTogether_74 : decode m11_mostTogether.2.1 74 = .ok (.getfield 38, 3) := by decide +kernel
theorem d11_mostTogether_77 : decode m11_mostTogether.2.1 77 = .ok (.iload_n 3, 1) := by decide +kernel
theorem d11_mostTogether_78 : decode m11_mostTogether.2.1 78 = .ok (.iconst 1, 1) := by decide +kernel
theorem d11_mostTogether_79 : decode m11_mostTogether.2.1 79 = .ok (.iload 4, 2) := by decide +kernel
theorem d11_mostTogether_81 : decode m11_mostTogether.2.1 81 = .ok (.ishl, 1) := by decide +kernel
theorem d11_mostTogether_82 : decode m11_mostTogether.2.1 82 = .ok (.ixor, 1) := by decide +kernel
theorem d11_mostTogether_83 : decode m11_mostTogether.2.1 83 = .ok (.iaload, 1) := by decide +kernel
theorem d11_mostTogether_84 : decode m11_mostTogether.2.1 84 = .ok (.aload_n 0, 1) := by decide +kernel
theorem d11_mostTogether_85 : decode m11_mostTogether.2.1 85 = .ok (.iload 4, 2) := by decide +kernel
theorem d11_mostTogether_87 : decode m11_mostTogether.2.1 87 = .ok (.iload_n 2, 1) := by decide +kernel
theorem d11_mostTogether_88 : decode m11_mostTogether.2.1 88 = .ok (.invokevirtual 243, 3) := by decide +kernel
theorem d11_mostTogether_91 : decode m11_mostTogether.2.1 91 = .ok (.iadd, 1) := by decide +kernel
theorem d11_mostTogether_92 : decode m11_mostTogether.2.1 92 = .ok (.aload_n 0, 1) := by decide +kernel
theorem d11_mostTogether_93 : decode m11_mostTogether.2.1 93 = .ok (.getfield 38, 3) := by decide +kernel
theorem d11_mostTogether_96 : decode m11_mostTogether.2.1 96 = .ok (.iload_n 1, 1) := by decide +kernel
theorem d11_mostTogether_97 : decode m11_mostTogether.2.1 97 = .ok (.iaload, 1) := by decide +kernel
theorem d11_mostTogether_98 : decode m11_mostTogether.2.1 98 = .ok (.if_icmp .le 28, 3) := by decide +kernel
theorem d11_mostTogether_101 : decode m11_mostTogether.2.1 101 = .ok (.aload_n 0, 1) := by decide +kernel
theorem d11_mostTogether_102 : decode m11_mostTogether.2.1 102 = .ok (.getfield 38, 3) := by decide +kernel
theorem d11_mostTogether_105 : decode m11_mostTogether.2.1 105 = .ok (.iload_n 1, 1) := by decide +kernel
theorem d11_mostTogether_106 : decode m11_mostTogether.2.1 106 = .ok (.aload_n 0, 1) := by decide +kernel
theorem d11_mostTogether_107 : decode m11_mostTogether.2.1 107 = .ok (.getfield 38, 3) := by decide +kernel
theorem d11_mostTogether_110 : decode m11_mostTogether.2.1 110 = .ok (.iload_n 3, 1) := by decide +kernel
theorem d11_mostTogether_111 : decode m11_mostTogether.2.1 111 = .ok (.iconst 1, 1) := by decide +kernel
theorem d11_mostTogether_112 : decode m11_mostTogether.2.1 112 = .ok (.iload 4, 2) := by decide +kernel
theorem d11_mostTogether_114 : decode m11_mostTogether.2.1 114 = .ok (.ishl, 1) := by decide +kernel
theorem d11_mostTogether_115 : decode m11_mostTogether.2.1 115 = .ok (.ixor, 1) := by decide +kernel
theorem d11_mostTogether_116 : decode m11_mostTogether.2.1 116 = .ok (.iaload, 1) := by decide +kernel
theorem d11_mostTogether_117 : decode m11_mostTogether.2.1 117 = .ok (.aload_n 0, 1) := by decide +kernel
theorem d11_mostTogether_118 : decode m11_mostTogether.2.1 118 = .ok (.iload 4, 2) := by decide +kernel
theorem d11_mostTogether_120 : decode m11_mostTogether.2.1 120 = .ok (.iload_n 2, 1) := by decide +kernel
theorem d11_mostTogether_121 : decode m11_mostTogether.2.1 121 = .ok (.invokevirtual 243, 3) := by decide +kernel
theorem d11_mostTogether_124 : decode m11_mostTogether.2.1 124 = .ok (.iadd, 1) := by decide +kernel
theorem d11_mostTogether_125 : decode m11_mostTogether.2.1 125 = .ok (.iastore, 1) := by decide +kernel
theorem d11_mostTogether_126 : decode m11_mostTogether.2.1 126 = .ok (.iinc 4 1, 3) := by decide +kernel
theorem d11_mostTogether_129 : decode m11_mostTogether.2.1 129 = .ok (.goto (-72), 3) := by decide +kernel
theorem d11_mostTogether_132 : decode m11_mostTogether.2.1 132 = .ok (.iinc 1 1, 3) := by decide +kernel
theorem d11_mostTogether_135 : decode m11_mostTogether.2.1 135 = .ok (.goto (-126), 3) := by decide +kernel
theorem d11_mostTogether_138 : decode m11_mostTogether.2.1 138 = .ok (.aload_n 0, 1) := by decide +kernel
theorem d11_mostTogether_139 : decode m11_mostTogether.2.1 139 = .ok (.getfield 38, 3) := by decide +kernel
theorem d11_mostTogether_142 : decode m11_mostTogether.2.1 142 = .ok (.iconst 1, 1) := by decide +kernel
theorem d11_mostTogether_143 : decode m11_mostTogether.2.1 143 = .ok (.aload_n 0, 1) := by decide +kernel
theorem d11_mostTogether_144 : decode m11_mostTogether.2.1 144 = .ok (.getfield 192, 3) := by decide +kernel
theorem d11_mostTogether_147 : decode m11_mostTogether.2.1 147 = .ok (.ishl, 1) := by decide +kernel
theorem d11_mostTogether_148 : decode m11_mostTogether.2.1 148 = .ok (.iconst 1, 1) := by decide +kernel
theorem d11_mostTogether_149 : decode m11_mostTogether.2.1 149 = .ok (.isub, 1) := by decide +kernel
theorem d11_mostTogether_150 : decode m11_mostTogether.2.1 150 = .ok (.iaload, 1) := by decide +kernel
theorem d11_mostTogether_151 : decode m11_mostTogether.2.1 151 = .ok (.ireturn, 1) := by decide +kernel
def b11_mostTogether_126 (rec9 : Int × AH → Option (Int × AH)) (rec57 : Int × AH → Option (Int × AH)) (x1 : Int) (x2 : Int) (x3 : Int) (x4 : Int) (h : AH) : Option (Int × AH) :=
  rec57 ((x4 + 1), h)
set_option maxRecDepth 100000 in
theorem t11_mostTogether_126 (l : Launch) (G : Geo) (d : Nat) (hd : 7 ≤ d) (x1 : Int) (x2 : Int) (x3 : Int) (x4 : Int) (rec9 : Int × AH → Option (Int × AH)) (H9 : ∀ (x1 : Int) (h : AH), Den l G m11_mostTogether rvI d 9 [some (vA G 69), some (vI x1), none, none, none] [] h (rec9 (x1, h))) (rec57 : Int × AH → Option (Int × AH)) (H57 : ∀ (x4 : Int) (h : AH), Den l G m11_mostTogether rvI d 57 [some (vA G 69), some (vI x1), some (vI x2), some (vI x3), some (vI x4)] [] h (rec57 (x4, h))) (h : AH) : Den l G m11_mostTogether rvI d 126 [some (vA G 69), some (vI x1), some (vI x2), some (vI x3), some (vI x4)] [] h (b11_mostTogether_126 rec9 rec57 x1 x2 x3 x4 h) := by
  unfold b11_mostTogether_126
  refine den_iinc (pc := 126) (L2 := [some (vA G 69), some (vI x1), some (vI x2), some (vI x3), some (vI (x4 + 1))]) d11_mostTogether_126 (by decide) rfl rfl ?_
  refine den_goto (pc := 129) (tgt := 57) d11_mostTogether_129 (by decide) ?_
  exact H57 (x4 + 1) h
def b11_mostTogether_57 (rec57 : Int × AH → Option (Int × AH)) (rec9 : Int × AH → Option (Int × AH)) (x1 : Int) (x2 : Int) (x3 : Int) (x4 : Int) (h : AH) : Option (Int × AH) :=
  if w32 x2 ≤ w32 x4 then
    rec9 ((x1 + 1), h)
  else
    if ¬ w32 (and32 (shr32 x3 x4) 1) = 1 then
      b11_mostTogether_126 rec9 rec57 x1 x2 x3 x4 h
    else
      asrt (0 ≤ w32 (xor32 x3 (shl32 1 x4)) ∧ w32 (xor32 x3 (shl32 1 x4)) < 256) <|
      bnd (f11_togetherOf x4 x2 h) fun r2 h3 =>
      asrt (0 ≤ w32 x1 ∧ w32 x1 < 256) <|
      if w32 ((h.2 79 (w32 (xor32 x3 (shl32 1 x4))).toNat) + r2) ≤ w32 (h3.2 79 (w32 x1).toNat) then
        b11_mostTogether_126 rec9 rec57 x1 x2 x3 x4 h3
      else
        asrt (0 ≤ w32 (xor32 x3 (shl32 1 x4)) ∧ w32 (xor32 x3 (shl32 1 x4)) < 256) <|
        bnd (f11_togetherOf x4 x2 h3) fun r8 h9 =>
        asrt (0 ≤ w32 x1 ∧ w32 x1 < 256) <|
        lt (wr h9 79 (w32 x1).toNat ((h3.2 79 (w32 (xor32 x3 (shl32 1 x4))).toNat) + r8)) fun h13 =>
        b11_mostTogether_126 rec9 rec57 x1 x2 x3 x4 h13
set_option maxRecDepth 100000 in
theorem t11_mostTogether_57 (l : Launch) (G : Geo) (d : Nat) (hd : 7 ≤ d) (x1 : Int) (x2 : Int) (x3 : Int) (x4 : Int) (rec57 : Int × AH → Option (Int × AH)) (H57 : ∀ (x4 : Int) (h : AH), Den l G m11_mostTogether rvI d 57 [some (vA G 69), some (vI x1), some (vI x2), some (vI x3), some (vI x4)] [] h (rec57 (x4, h))) (rec9 : Int × AH → Option (Int × AH)) (H9 : ∀ (x1 : Int) (h : AH), Den l G m11_mostTogether rvI d 9 [some (vA G 69), some (vI x1), none, none, none] [] h (rec9 (x1, h))) (h : AH) : Den l G m11_mostTogether rvI d 57 [some (vA G 69), some (vI x1), some (vI x2), some (vI x3), some (vI x4)] [] h (b11_mostTogether_57 rec57 rec9 x1 x2 x3 x4 h) := by
  unfold b11_mostTogether_57
  refine den_iload (pc := 57) d11_mostTogether_57 rfl ?_
  refine den_iload_n (pc := 59) d11_mostTogether_59 rfl rfl ?_
  refine den_icmp_ge (pc := 60) (tgt := 132) d11_mostTogether_60 (by decide) rfl rfl (fun _ => ?_) (fun _ => ?_)
  · refine den_iinc (pc := 132) (L2 := [some (vA G 69), some (vI (x1 + 1)), some (vI x2), some (vI x3), some (vI x4)]) d11_mostTogether_132 (by decide) rfl rfl ?_
    refine den_goto (pc := 135) (tgt := 9) d11_mostTogether_135 (by decide) ?_
    refine den_wk [true, true, false, false, false] rfl ?_
    exact H9 (x1 + 1) h
  · refine den_iload_n (pc := 63) d11_mostTogether_63 rfl rfl ?_
    refine den_iload (pc := 64) d11_mostTogether_64 rfl ?_
    refine den_ishr (pc := 66) d11_mostTogether_66 ?_
    refine den_iconst (pc := 67) d11_mostTogether_67 ?_
    refine den_iand (pc := 68) d11_mostTogether_68 ?_
    refine den_iconst (pc := 69) d11_mostTogether_69 ?_
    refine den_icmp_ne (pc := 70) (tgt := 126) d11_mostTogether_70 (by decide) rfl (by decide) (fun _ => ?_) (fun _ => ?_)
    · exact t11_mostTogether_126 l G _ hd x1 x2 x3 x4 rec9 H9 rec57 H57 h
    · refine den_aload_n (pc := 73) d11_mostTogether_73 rfl rfl ?_
      refine den_getR (pc := 74) (b := 79) fa_11_38 (ok_69 _) rfl d11_mostTogether_74 ?_
      refine den_iload_n (pc := 77) d11_mostTogether_77 rfl rfl ?_
      refine den_iconst (pc := 78) d11_mostTogether_78 ?_
      refine den_iload (pc := 79) d11_mostTogether_79 rfl ?_
      refine den_ishl (pc := 81) d11_mostTogether_81 ?_
      refine den_ixor (pc := 82) d11_mostTogether_82 ?_
      refine den_asrt (fun a1 => ?_)
      refine den_iaload (pc := 83) sh_79 (sz_lt (by decide)) rfl a1 d11_mostTogether_83 ?_
      refine den_aload_n (pc := 84) d11_mostTogether_84 rfl rfl ?_
      refine den_iload (pc := 85) d11_mostTogether_85 rfl ?_
      refine den_iload_n (pc := 87) d11_mostTogether_87 rfl rfl ?_
      refine den_callVI (pc := 88) (As := [vI x4, vI x2]) fv_11_243 rfl rfl (ok_69 _) (Nat.le_of_ble_eq_true rfl) (Nat.le_trans (by decide) hd) d11_mostTogether_88 (c11_togetherOf l G x4 x2 h) (fun r2 h3 m4 o5 => ?_)
      refine den_iadd (pc := 91) d11_mostTogether_91 ?_
      refine den_aload_n (pc := 92) d11_mostTogether_92 rfl rfl ?_
      refine den_getR (pc := 93) (b := 79) fa_11_38 (ok_69 _) rfl d11_mostTogether_93 ?_
      refine den_iload_n (pc := 96) d11_mostTogether_96 rfl rfl ?_
      refine den_asrt (fun a6 => ?_)
      refine den_iaload (pc := 97) sh_79 (sz_lt (by decide)) rfl a6 d11_mostTogether_97 ?_
      refine den_icmp_le (pc := 98) (tgt := 126) d11_mostTogether_98 (by decide) rfl rfl (fun _ => ?_) (fun _ => ?_)
      · exact t11_mostTogether_126 l G _ hd x1 x2 x3 x4 rec9 H9 rec57 H57 h3
      · refine den_aload_n (pc := 101) d11_mostTogether_101 rfl rfl ?_
        refine den_getR (pc := 102) (b := 79) fa_11_38 (ok_69 _) rfl d11_mostTogether_102 ?_
        refine den_iload_n (pc := 105) d11_mostTogether_105 rfl rfl ?_
        refine den_aload_n (pc := 106) d11_mostTogether_106 rfl rfl ?_
        refine den_getR (pc := 107) (b := 79) fa_11_38 (ok_69 _) rfl d11_mostTogether_107 ?_
        refine den_iload_n (pc := 110) d11_mostTogether_110 rfl rfl ?_
        refine den_iconst (pc := 111) d11_mostTogether_111 ?_
        refine den_iload (pc := 112) d11_mostTogether_112 rfl ?_
        refine den_ishl (pc := 114) d11_mostTogether_114 ?_
        refine den_ixor (pc := 115) d11_mostTogether_115 ?_
        refine den_asrt (fun a7 => ?_)
        refine den_iaload (pc := 116) sh_79 (sz_lt (by decide)) rfl a7 d11_mostTogether_116 ?_
        refine den_aload_n (pc := 117) d11_mostTogether_117 rfl rfl ?_
        refine den_iload (pc := 118) d11_mostTogether_118 rfl ?_
        refine den_iload_n (pc := 120) d11_mostTogether_120 rfl rfl ?_
        refine den_callVI (pc := 121) (As := [vI x4, vI x2]) fv_11_243 rfl rfl (ok_69 _) (Nat.le_of_ble_eq_true rfl) (Nat.le_trans (by decide) hd) d11_mostTogether_121 (c11_togetherOf l G x4 x2 h3) (fun r8 h9 m10 o11 => ?_)
        refine den_iadd (pc := 124) d11_mostTogether_124 ?_
        refine den_asrt (fun a12 => ?_)
        refine den_iastore (pc := 125) sh_79 (sz_lt (by decide)) rfl a12 d11_mostTogether_125 ?_
        refine den_ltH (fun h13 m14 => ?_)
        exact t11_mostTogether_126 l G _ hd x1 x2 x3 x4 rec9 H9 rec57 H57 h13
def l11_mostTogether_57 (rec9 : Int × AH → Option (Int × AH)) (x1 : Int) (x2 : Int) (x3 : Int) (x4 : Int) (h : AH) : Option (Int × AH) := fx (fun rec z => b11_mostTogether_57 rec rec9 x1 x2 x3 z.1 z.2) FU (x4, h)
set_option maxRecDepth 100000 in
theorem tl11_mostTogether_57 (l : Launch) (G : Geo) (d : Nat) (hd : 7 ≤ d) (x1 : Int) (x2 : Int) (x3 : Int) (rec9 : Int × AH → Option (Int × AH)) (H9 : ∀ (x1 : Int) (h : AH), Den l G m11_mostTogether rvI d 9 [some (vA G 69), some (vI x1), none, none, none] [] h (rec9 (x1, h))) : ∀ (n : Nat) (z : Int × AH), True → Den l G m11_mostTogether rvI d 57 [some (vA G 69), some (vI x1), some (vI x2), some (vI x3), some (vI z.1)] [] z.2 (fx (fun rec z => b11_mostTogether_57 rec rec9 x1 x2 x3 z.1 z.2) n z) :=
  den_fx (F := fun rec z => b11_mostTogether_57 rec rec9 x1 x2 x3 z.1 z.2) (P := fun z => True) (fL := fun z => [some (vA G 69), some (vI x1), some (vI x2), some (vI x3), some (vI z.1)]) (fs := fun z => []) (fh := fun z => z.2) (fun rec hrec z hz => t11_mostTogether_57 l G d hd x1 x2 x3 z.1 rec (fun x4 h => hrec (x4, h) trivial) rec9 H9 z.2 )
def b11_mostTogether_22 (rec22 : Int × AH → Option (Int × AH)) (rec9 : Int × AH → Option (Int × AH)) (x1 : Int) (x2 : Int) (h : AH) : Option (Int × AH) :=
  if ¬ w32 (and32 (shr32 x1 x2) 1) = 0 then
    lt (xor32 x1 (shl32 1 x2)) fun u15 =>
    asrt (0 ≤ w32 u15 ∧ w32 u15 < 256) <|
    asrt (0 ≤ w32 x1 ∧ w32 x1 < 256) <|
    lt (wr h 79 (w32 x1).toNat (h.2 79 (w32 u15).toNat)) fun h18 =>
    l11_mostTogether_57 rec9 x1 x2 u15 0 h18
  else
    rec22 ((x2 + (-1)), h)
set_option maxRecDepth 100000 in
theorem t11_mostTogether_22 (l : Launch) (G : Geo) (d : Nat) (hd : 7 ≤ d) (x1 : Int) (x2 : Int) (rec22 : Int × AH → Option (Int × AH)) (H22 : ∀ (x2 : Int) (h : AH), Den l G m11_mostTogether rvI d 22 [some (vA G 69), some (vI x1), some (vI x2), none, none] [] h (rec22 (x2, h))) (rec9 : Int × AH → Option (Int × AH)) (H9 : ∀ (x1 : Int) (h : AH), Den l G m11_mostTogether rvI d 9 [some (vA G 69), some (vI x1), none, none, none] [] h (rec9 (x1, h))) (h : AH) : Den l G m11_mostTogether rvI d 22 [some (vA G 69), some (vI x1), some (vI x2), none, none] [] h (b11_mostTogether_22 rec22 rec9 x1 x2 h) := by
  unfold b11_mostTogether_22
  refine den_iload_n (pc := 22) d11_mostTogether_22 rfl rfl ?_
  refine den_iload_n (pc := 23) d11_mostTogether_23 rfl rfl ?_
  refine den_ishr (pc := 24) d11_mostTogether_24 ?_
  refine den_iconst (pc := 25) d11_mostTogether_25 ?_
  refine den_iand (pc := 26) d11_mostTogether_26 ?_
  refine den_if_ne (pc := 27) (tgt := 36) d11_mostTogether_27 (by decide) rfl (fun _ => ?_) (fun _ => ?_)
  · refine den_iload_n (pc := 36) d11_mostTogether_36 rfl rfl ?_
    refine den_iconst (pc := 37) d11_mostTogether_37 ?_
    refine den_iload_n (pc := 38) d11_mostTogether_38 rfl rfl ?_
    refine den_ishl (pc := 39) d11_mostTogether_39 ?_
    refine den_ixor (pc := 40) d11_mostTogether_40 ?_
    refine den_istore_nL (pc := 41) (L2 := fun y => [some (vA G 69), some (vI x1), some (vI x2), some (vI y), none]) d11_mostTogether_41 rfl (by decide) (fun _ => rfl) (fun u15 => ?_)
    refine den_aload_n (pc := 42) d11_mostTogether_42 rfl rfl ?_
    refine den_getR (pc := 43) (b := 79) fa_11_38 (ok_69 _) rfl d11_mostTogether_43 ?_
    refine den_iload_n (pc := 46) d11_mostTogether_46 rfl rfl ?_
    refine den_aload_n (pc := 47) d11_mostTogether_47 rfl rfl ?_
    refine den_getR (pc := 48) (b := 79) fa_11_38 (ok_69 _) rfl d11_mostTogether_48 ?_
    refine den_iload_n (pc := 51) d11_mostTogether_51 rfl rfl ?_
    refine den_asrt (fun a16 => ?_)
    refine den_iaload (pc := 52) sh_79 (sz_lt (by decide)) rfl a16 d11_mostTogether_52 ?_
    refine den_asrt (fun a17 => ?_)
    refine den_iastore (pc := 53) sh_79 (sz_lt (by decide)) rfl a17 d11_mostTogether_53 ?_
    refine den_ltH (fun h18 m19 => ?_)
    refine den_iconst (pc := 54) d11_mostTogether_54 ?_
    refine den_istore (pc := 55) (L2 := [some (vA G 69), some (vI x1), some (vI x2), some (vI u15), some (vI 0)]) d11_mostTogether_55 (by decide) rfl ?_
    exact tl11_mostTogether_57 l G _ hd x1 x2 u15 rec9 H9 FU (0, h18) trivial
  · refine den_iinc (pc := 30) (L2 := [some (vA G 69), some (vI x1), some (vI (x2 + (-1))), none, none]) d11_mostTogether_30 (by decide) rfl rfl ?_
    refine den_goto (pc := 33) (tgt := 22) d11_mostTogether_33 (by decide) ?_
    exact H22 (x2 + (-1)) h
def l11_mostTogether_22 (rec9 : Int × AH → Option (Int × AH)) (x1 : Int) (x2 : Int) (h : AH) : Option (Int × AH) := fx (fun rec z => b11_mostTogether_22 rec rec9 x1 z.1 z.2) FU (x2, h)
set_option maxRecDepth 100000 in
theorem tl11_mostTogether_22 (l : Launch) (G : Geo) (d : Nat) (hd : 7 ≤ d) (x1 : Int) (rec9 : Int × AH → Option (Int × AH)) (H9 : ∀ (x1 : Int) (h : AH), Den l G m11_mostTogether rvI d 9 [some (vA G 69), some (vI x1), none, none, none] [] h (rec9 (x1, h))) : ∀ (n : Nat) (z : Int × AH), True → Den l G m11_mostTogether rvI d 22 [some (vA G 69), some (vI x1), some (vI z.1), none, none] [] z.2 (fx (fun rec z => b11_mostTogether_22 rec rec9 x1 z.1 z.2) n z) :=
  den_fx (F := fun rec z => b11_mostTogether_22 rec rec9 x1 z.1 z.2) (P := fun z => True) (fL := fun z => [some (vA G 69), some (vI x1), some (vI z.1), none, none]) (fs := fun z => []) (fh := fun z => z.2) (fun rec hrec z hz => t11_mostTogether_22 l G d hd x1 z.1 rec (fun x2 h => hrec (x2, h) trivial) rec9 H9 z.2 )
def b11_mostTogether_9 (rec9 : Int × AH → Option (Int × AH)) (x1 : Int) (h : AH) : Option (Int × AH) :=
  if w32 (shl32 1 (h.2 69 13)) ≤ w32 x1 then
    asrt (0 ≤ w32 ((shl32 1 (h.2 69 13)) - 1) ∧ w32 ((shl32 1 (h.2 69 13)) - 1) < 256) <|
    some (h.2 79 (w32 ((shl32 1 (h.2 69 13)) - 1)).toNat, h)
  else
    l11_mostTogether_22 rec9 x1 7 h
set_option maxRecDepth 100000 in
theorem t11_mostTogether_9 (l : Launch) (G : Geo) (d : Nat) (hd : 7 ≤ d) (x1 : Int) (rec9 : Int × AH → Option (Int × AH)) (H9 : ∀ (x1 : Int) (h : AH), Den l G m11_mostTogether rvI d 9 [some (vA G 69), some (vI x1), none, none, none] [] h (rec9 (x1, h))) (h : AH) : Den l G m11_mostTogether rvI d 9 [some (vA G 69), some (vI x1), none, none, none] [] h (b11_mostTogether_9 rec9 x1 h) := by
  unfold b11_mostTogether_9
  refine den_iload_n (pc := 9) d11_mostTogether_9 rfl rfl ?_
  refine den_iconst (pc := 10) d11_mostTogether_10 ?_
  refine den_aload_n (pc := 11) d11_mostTogether_11 rfl rfl ?_
  refine den_getI (pc := 12) fa_11_192 (ok_69 _) d11_mostTogether_12 ?_
  refine den_ishl (pc := 15) d11_mostTogether_15 ?_
  refine den_icmp_ge (pc := 16) (tgt := 138) d11_mostTogether_16 (by decide) rfl rfl (fun _ => ?_) (fun _ => ?_)
  · refine den_aload_n (pc := 138) d11_mostTogether_138 rfl rfl ?_
    refine den_getR (pc := 139) (b := 79) fa_11_38 (ok_69 _) rfl d11_mostTogether_139 ?_
    refine den_iconst (pc := 142) d11_mostTogether_142 ?_
    refine den_aload_n (pc := 143) d11_mostTogether_143 rfl rfl ?_
    refine den_getI (pc := 144) fa_11_192 (ok_69 _) d11_mostTogether_144 ?_
    refine den_ishl (pc := 147) d11_mostTogether_147 ?_
    refine den_iconst (pc := 148) d11_mostTogether_148 ?_
    refine den_isub (pc := 149) d11_mostTogether_149 ?_
    refine den_asrt (fun a20 => ?_)
    refine den_iaload (pc := 150) sh_79 (sz_lt (by decide)) rfl a20 d11_mostTogether_150 ?_
    exact den_iret (pc := 151) rfl d11_mostTogether_151
  · refine den_bipush (pc := 19) d11_mostTogether_19 (by decide) ?_
    refine den_istore_n (pc := 21) (L2 := [some (vA G 69), some (vI x1), some (vI 7), none, none]) d11_mostTogether_21 rfl (by decide) rfl ?_
    exact tl11_mostTogether_22 l G _ hd x1 rec9 H9 FU (7, h) trivial
def l11_mostTogether_9 (x1 : Int) (h : AH) : Option (Int × AH) := fx (fun rec z => b11_mostTogether_9 rec z.1 z.2) FU (x1, h)
set_option maxRecDepth 100000 in
theorem tl11_mostTogether_9 (l : Launch) (G : Geo) (d : Nat) (hd : 7 ≤ d) : ∀ (n : Nat) (z : Int × AH), True → Den l G m11_mostTogether rvI d 9 [some (vA G 69), some (vI z.1), none, none, none] [] z.2 (fx (fun rec z => b11_mostTogether_9 rec z.1 z.2) n z) :=
  den_fx (F := fun rec z => b11_mostTogether_9 rec z.1 z.2) (P := fun z => True) (fL := fun z => [some (vA G 69), some (vI z.1), none, none, none]) (fs := fun z => []) (fh := fun z => z.2) (fun rec hrec z hz => t11_mostTogether_9 l G d hd z.1 rec (fun x1 h => hrec (x1, h) trivial) z.2 )
def f11_mostTogether (h : AH) : Option (Int × AH) :=
  asrt (0 ≤ w32 0 ∧ w32 0 < 256) <|
  lt (wr h 79 (w32 0).toNat 0) fun h22 =>
  l11_mostTogether_9 1 h22
set_option maxRecDepth 100000 in
theorem c11_mostTogether (l : Launch) (G : Geo) (h : AH) : Con l G m11_mostTogether rvI 7 [vA G 69] h (f11_mostTogether  h) := by
  have hd : 7 ≤ 7 := Nat.le_refl _
  refine con_I rfl (by decide) rfl rfl (Nat.le_of_ble_eq_true rfl) (L := [some (vA G 69), none, none, none, none]) ?_
  unfold f11_mostTogether
  refine den_aload_n (pc := 0) d11_mostTogether_0 rfl rfl ?_
  refine den_getR (pc := 1) (b := 79) fa_11_38 (ok_69 _) rfl d11_mostTogether_1 ?_
  refine den_iconst (pc := 4) d11_mostTogether_4 ?_
  refine den_iconst (pc := 5) d11_mostTogether_5 ?_
  refine den_asrt (fun a21 => ?_)
  refine den_iastore (pc := 6) sh_79 (sz_lt (by decide)) rfl a21 d11_mostTogether_6 ?_
  refine den_ltH (fun h22 m23 => ?_)
  refine den_iconst (pc := 7) d11_mostTogether_7 ?_
  refine den_istore_n (pc := 8) (L2 := [some (vA G 69), some (vI 1), none, none, none]) d11_mostTogether_8 rfl (by decide) rfl ?_
  exact tl11_mostTogether_9 l G _ hd FU (1, h22) trivial
theorem d11_married_0 : decode m11_married.2.1 0 = .ok (.aload_n 0, 1) := by decide +kernel
theorem d11_married_1 : decode m11_married.2.1 1 = .ok (.iload_n 1, 1) := by decide +kernel
theorem d11_married_2 : decode m11_married.2.1 2 = .ok (.invokevirtual 201, 3) := by decide +kernel
theorem d11_married_5 : decode m11_married.2.1 5 = .ok (.ifCond .eq 16, 3) := by decide +kernel
theorem d11_married_8 : decode m11_married.2.1 8 = .ok (.iload_n 2, 1) := by decide +kernel
theorem d11_married_9 : decode m11_married.2.1 9 = .ok (.iconst (-1), 1) := by decide +kernel
theorem d11_married_10 : decode m11_married.2.1 10 = .ok (.if_icmp .eq 14, 3) := by decide +kernel
theorem d11_married_13 : decode m11_married.2.1 13 = .ok (.aload_n 0, 1) := by decide +kernel
theorem d11_married_14 : decode m11_married.2.1 14 = .ok (.iload_n 2, 1) := by decide +kernel
theorem d11_married_15 : decode m11_married.2.1 15 = .ok (.invokevirtual 204, 3) := by decide +kernel
theorem d11_married_18 : decode m11_married.2.1 18 = .ok (.ifCond .ne 6, 3) := by decide +kernel
theorem d11_married_21 : decode m11_married.2.1 21 = .ok (.bipush (-2), 2) := by decide +kernel
theorem d11_married_23 : decode m11_married.2.1 23 = .ok (.ireturn, 1) := by decide +kernel
theorem d11_married_24 : decode m11_married.2.1 24 = .ok (.iload_n 2, 1) := by decide +kernel
theorem d11_married_25 : decode m11_married.2.1 25 = .ok (.iconst (-1), 1) := by decide +kernel
theorem d11_married_26 : decode m11_married.2.1 26 = .ok (.if_icmp .ne 8, 3) := by decide +kernel
theorem d11_married_29 : decode m11_married.2.1 29 = .ok (.aload_n 0, 1) := by decide +kernel
theorem d11_married_30 : decode m11_married.2.1 30 = .ok (.invokevirtual 253, 3) := by decide +kernel
theorem d11_married_33 : decode m11_married.2.1 33 = .ok (.ireturn, 1) := by decide +kernel
theorem d11_married_34 : decode m11_married.2.1 34 = .ok (.iconst 0, 1) := by decide +kernel
theorem d11_married_35 : decode m11_married.2.1 35 = .ok (.istore_n 3, 1) := by decide +kernel
theorem d11_married_36 : decode m11_married.2.1 36 = .ok (.iload_n 3, 1) := by decide +kernel
theorem d11_married_37 : decode m11_married.2.1 37 = .ok (.bipush 8, 2) := by decide +kernel
theorem d11_married_39 : decode m11_married.2.1 39 = .ok (.if_icmp .ge 16, 3) := by decide +kernel
theorem d11_married_42 : decode m11_married.2.1 42 = .ok (.aload_n 0, 1) := by decide +kernel
theorem d11_married_43 : decode m11_married.2.1 43 = .ok (.getfield 35, 3) := by decide +kernel
theorem d11_married_46 : decode m11_married.2.1 46 = .ok (.iload_n 3, 1) := by decide +kernel
theorem d11_married_47 : decode m11_married.2.1 47 = .ok (.iconst (-1), 1) := by decide +kernel
theorem d11_married_48 : decode m11_married.2.1 48 = .ok (.iastore, 1) := by decide +kernel
theorem d11_married_49 : decode m11_married.2.1 49 = .ok (.iinc 3 1, 3) := by decide +kernel
theorem d11_married_52 : decode m11_married.2.1 52 = .ok (.goto (-16), 3) := by decide +kernel
theorem d11_married_55 : decode m11_married.2.1 55 = .ok (.iconst 1, 1) := by decide +kernel
theorem d11_married_56 : decode m11_married.2.1 56 = .ok (.istore_n 3, 1) := by decide +kernel
theorem d11_married_57 : decode m11_married.2.1 57 = .ok (.iload_n 3, 1) := by decide +kernel
theorem d11_married_58 : decode m11_married.2.1 58 = .ok (.ifCond .eq 11, 3) := by decide +kernel
theorem d11_married_61 : decode m11_married.2.1 61 = .ok (.aload_n 0, 1) := by decide +kernel
theorem d11_married_62 : decode m11_married.2.1 62 = .ok (.invokevirtual 256, 3) := by decide +kernel
theorem d11_married_65 : decode m11_married.2.1 65 = .ok (.istore_n 3, 1) := by decide +kernel
theorem d11_married_66 : decode m11_married.2.1 66 = .ok (.goto (-9), 3) := by decide +kernel
theorem d11_married_69 : decode m11_married.2.1 69 = .ok (.aload_n 0, 1) := by decide +kernel
theorem d11_married_70 : decode m11_married.2.1 70 = .ok (.getfield 35, 3) := by decide +kernel
theorem d11_married_73 : decode m11_married.2.1 73 = .ok (.iload_n 2, 1) := by decide +kernel
theorem d11_married_74 : decode m11_married.2.1 74 = .ok (.iaload, 1) := by decide +kernel
theorem d11_married_75 : decode m11_married.2.1 75 = .ok (.ireturn, 1) := by decide +kernel
def b11_married_57 (rec57 : Int × AH → Option (Int × AH)) (x2 : Int) (x3 : Int) (h : AH) : Option (Int × AH) :=
  if w32 x3 = 0 then
    asrt (0 ≤ w32 x2 ∧ w32 x2 < 8) <|
    some (h.2 78 (w32 x2).toNat, h)
  else
    bnd (f11_marries h) fun r2 h3 =>
    rec57 (r2, h3)
set_option maxRecDepth 100000 in
theorem t11_married_57 (l : Launch) (G : Geo) (d : Nat) (hd : 8 ≤ d) (x2 : Int) (x3 : Int) (rec57 : Int × AH → Option (Int × AH)) (H57 : ∀ (x3 : Int) (h : AH), Den l G m11_married rvI d 57 [some (vA G 69), none, some (vI x2), some (vI x3)] [] h (rec57 (x3, h))) (h : AH) : Den l G m11_married rvI d 57 [some (vA G 69), none, some (vI x2), some (vI x3)] [] h (b11_married_57 rec57 x2 x3 h) := by
  unfold b11_married_57
  refine den_iload_n (pc := 57) d11_married_57 rfl rfl ?_
  refine den_if_eq (pc := 58) (tgt := 69) d11_married_58 (by decide) rfl (fun _ => ?_) (fun _ => ?_)
  · refine den_aload_n (pc := 69) d11_married_69 rfl rfl ?_
    refine den_getR (pc := 70) (b := 78) fa_11_35 (ok_69 _) rfl d11_married_70 ?_
    refine den_iload_n (pc := 73) d11_married_73 rfl rfl ?_
    refine den_asrt (fun a1 => ?_)
    refine den_iaload (pc := 74) sh_78 (sz_lt (by decide)) rfl a1 d11_married_74 ?_
    exact den_iret (pc := 75) rfl d11_married_75
  · refine den_aload_n (pc := 61) d11_married_61 rfl rfl ?_
    refine den_callVI (pc := 62) (As := []) fv_11_256 rfl rfl (ok_69 _) (Nat.le_of_ble_eq_true rfl) (Nat.le_trans (by decide) hd) d11_married_62 (c11_marries l G h) (fun r2 h3 m4 o5 => ?_)
    refine den_istore_n (pc := 65) (L2 := [some (vA G 69), none, some (vI x2), some (vI r2)]) d11_married_65 rfl (by decide) rfl ?_
    refine den_goto (pc := 66) (tgt := 57) d11_married_66 (by decide) ?_
    exact H57 r2 h3
def l11_married_57 (x2 : Int) (x3 : Int) (h : AH) : Option (Int × AH) := fx (fun rec z => b11_married_57 rec x2 z.1 z.2) FU (x3, h)
set_option maxRecDepth 100000 in
theorem tl11_married_57 (l : Launch) (G : Geo) (d : Nat) (hd : 8 ≤ d) (x2 : Int) : ∀ (n : Nat) (z : Int × AH), True → Den l G m11_married rvI d 57 [some (vA G 69), none, some (vI x2), some (vI z.1)] [] z.2 (fx (fun rec z => b11_married_57 rec x2 z.1 z.2) n z) :=
  den_fx (F := fun rec z => b11_married_57 rec x2 z.1 z.2) (P := fun z => True) (fL := fun z => [some (vA G 69), none, some (vI x2), some (vI z.1)]) (fs := fun z => []) (fh := fun z => z.2) (fun rec hrec z hz => t11_married_57 l G d hd x2 z.1 rec (fun x3 h => hrec (x3, h) trivial) z.2 )
def b11_married_36 (rec36 : Int × AH → Option (Int × AH)) (x2 : Int) (x3 : Int) (h : AH) : Option (Int × AH) :=
  if 8 ≤ w32 x3 then
    l11_married_57 x2 1 h
  else
    asrt (0 ≤ w32 x3 ∧ w32 x3 < 8) <|
    lt (wr h 78 (w32 x3).toNat (-1)) fun h7 =>
    rec36 ((x3 + 1), h7)
set_option maxRecDepth 100000 in
theorem t11_married_36 (l : Launch) (G : Geo) (d : Nat) (hd : 8 ≤ d) (x2 : Int) (x3 : Int) (rec36 : Int × AH → Option (Int × AH)) (H36 : ∀ (x3 : Int) (h : AH), Den l G m11_married rvI d 36 [some (vA G 69), none, some (vI x2), some (vI x3)] [] h (rec36 (x3, h))) (h : AH) : Den l G m11_married rvI d 36 [some (vA G 69), none, some (vI x2), some (vI x3)] [] h (b11_married_36 rec36 x2 x3 h) := by
  unfold b11_married_36
  refine den_iload_n (pc := 36) d11_married_36 rfl rfl ?_
  refine den_bipush (pc := 37) d11_married_37 (by decide) ?_
  refine den_icmp_ge (pc := 39) (tgt := 55) d11_married_39 (by decide) rfl (by decide) (fun _ => ?_) (fun _ => ?_)
  · refine den_iconst (pc := 55) d11_married_55 ?_
    refine den_istore_n (pc := 56) (L2 := [some (vA G 69), none, some (vI x2), some (vI 1)]) d11_married_56 rfl (by decide) rfl ?_
    exact tl11_married_57 l G _ hd x2 FU (1, h) trivial
  · refine den_aload_n (pc := 42) d11_married_42 rfl rfl ?_
    refine den_getR (pc := 43) (b := 78) fa_11_35 (ok_69 _) rfl d11_married_43 ?_
    refine den_iload_n (pc := 46) d11_married_46 rfl rfl ?_
    refine den_iconst (pc := 47) d11_married_47 ?_
    refine den_asrt (fun a6 => ?_)
    refine den_iastore (pc := 48) sh_78 (sz_lt (by decide)) rfl a6 d11_married_48 ?_
    refine den_ltH (fun h7 m8 => ?_)
    refine den_iinc (pc := 49) (L2 := [some (vA G 69), none, some (vI x2), some (vI (x3 + 1))]) d11_married_49 (by decide) rfl rfl ?_
    refine den_goto (pc := 52) (tgt := 36) d11_married_52 (by decide) ?_
    exact H36 (x3 + 1) h7
def l11_married_36 (x2 : Int) (x3 : Int) (h : AH) : Option (Int × AH) := fx (fun rec z => b11_married_36 rec x2 z.1 z.2) FU (x3, h)
set_option maxRecDepth 100000 in
theorem tl11_married_36 (l : Launch) (G : Geo) (d : Nat) (hd : 8 ≤ d) (x2 : Int) : ∀ (n : Nat) (z : Int × AH), True → Den l G m11_married rvI d 36 [some (vA G 69), none, some (vI x2), some (vI z.1)] [] z.2 (fx (fun rec z => b11_married_36 rec x2 z.1 z.2) n z) :=
  den_fx (F := fun rec z => b11_married_36 rec x2 z.1 z.2) (P := fun z => True) (fL := fun z => [some (vA G 69), none, some (vI x2), some (vI z.1)]) (fs := fun z => []) (fh := fun z => z.2) (fun rec hrec z hz => t11_married_36 l G d hd x2 z.1 rec (fun x3 h => hrec (x3, h) trivial) z.2 )
def b11_married_24 (x2 : Int) (h : AH) : Option (Int × AH) :=
  if ¬ w32 x2 = (-1) then
    l11_married_36 x2 0 h
  else
    bnd (f11_mostTogether h) fun r9 h10 =>
    some (r9, h10)
set_option maxRecDepth 100000 in
theorem t11_married_24 (l : Launch) (G : Geo) (d : Nat) (hd : 8 ≤ d) (x2 : Int) (h : AH) : Den l G m11_married rvI d 24 [some (vA G 69), none, some (vI x2), none] [] h (b11_married_24 x2 h) := by
  unfold b11_married_24
  refine den_iload_n (pc := 24) d11_married_24 rfl rfl ?_
  refine den_iconst (pc := 25) d11_married_25 ?_
  refine den_icmp_ne (pc := 26) (tgt := 34) d11_married_26 (by decide) rfl (by decide) (fun _ => ?_) (fun _ => ?_)
  · refine den_iconst (pc := 34) d11_married_34 ?_
    refine den_istore_n (pc := 35) (L2 := [some (vA G 69), none, some (vI x2), some (vI 0)]) d11_married_35 rfl (by decide) rfl ?_
    exact tl11_married_36 l G _ hd x2 FU (0, h) trivial
  · refine den_aload_n (pc := 29) d11_married_29 rfl rfl ?_
    refine den_callVI (pc := 30) (As := []) fv_11_253 rfl rfl (ok_69 _) (Nat.le_of_ble_eq_true rfl) (Nat.le_trans (by decide) hd) d11_married_30 (c11_mostTogether l G h) (fun r9 h10 m11 o12 => ?_)
    exact den_iret (pc := 33) rfl d11_married_33
def f11_married (x1 : Int) (x2 : Int) (h : AH) : Option (Int × AH) :=
  bnd (f11_isVillage x1 h) fun r13 h14 =>
  if w32 r13 = 0 then
    some ((-2), h14)
  else
    if w32 x2 = (-1) then
      b11_married_24 x2 h14
    else
      bnd (f11_isPerson x2 h14) fun r17 h18 =>
      if ¬ w32 r17 = 0 then
        b11_married_24 x2 h18
      else
        some ((-2), h18)
set_option maxRecDepth 100000 in
theorem c11_married (l : Launch) (G : Geo) (x1 : Int) (x2 : Int) (h : AH) : Con l G m11_married rvI 8 [vA G 69, vI x1, vI x2] h (f11_married x1 x2 h) := by
  have hd : 8 ≤ 8 := Nat.le_refl _
  refine con_I rfl (by decide) rfl rfl (Nat.le_of_ble_eq_true rfl) (L := [some (vA G 69), some (vI x1), some (vI x2), none]) ?_
  unfold f11_married
  refine den_aload_n (pc := 0) d11_married_0 rfl rfl ?_
  refine den_iload_n (pc := 1) d11_married_1 rfl rfl ?_
  refine den_callVI (pc := 2) (As := [vI x1]) fv_11_201 rfl rfl (ok_69 _) (Nat.le_of_ble_eq_true rfl) (Nat.le_trans (by decide) hd) d11_married_2 (c11_isVillage l G x1 h) (fun r13 h14 m15 o16 => ?_)
  refine den_if_eq (pc := 5) (tgt := 21) d11_married_5 (by decide) rfl (fun _ => ?_) (fun _ => ?_)
  · refine den_bipush (pc := 21) d11_married_21 (by decide) ?_
    exact den_iret (pc := 23) rfl d11_married_23
  · refine den_iload_n (pc := 8) d11_married_8 rfl rfl ?_
    refine den_iconst (pc := 9) d11_married_9 ?_
    refine den_icmp_eq (pc := 10) (tgt := 24) d11_married_10 (by decide) rfl (by decide) (fun _ => ?_) (fun _ => ?_)
    · refine den_wk [true, false, true, true] rfl ?_
      exact t11_married_24 l G _ hd x2 h14
    · refine den_aload_n (pc := 13) d11_married_13 rfl rfl ?_
      refine den_iload_n (pc := 14) d11_married_14 rfl rfl ?_
      refine den_callVI (pc := 15) (As := [vI x2]) fv_11_204 rfl rfl (ok_69 _) (Nat.le_of_ble_eq_true rfl) (Nat.le_trans (by decide) hd) d11_married_15 (c11_isPerson l G x2 h14) (fun r17 h18 m19 o20 => ?_)
      refine den_if_ne (pc := 18) (tgt := 24) d11_married_18 (by decide) rfl (fun _ => ?_) (fun _ => ?_)
      · refine den_wk [true, false, true, true] rfl ?_
        exact t11_married_24 l G _ hd x2 h18
      · refine den_bipush (pc := 21) d11_married_21 (by decide) ?_
        exact den_iret (pc := 23) rfl d11_married_23
theorem d11_common_0 : decode m11_common.2.1 0 = .ok (.lload_n 0, 1) := by decide +kernel
theorem d11_common_1 : decode m11_common.2.1 1 = .ok (.lstore 4, 2) := by decide +kernel
theorem d11_common_3 : decode m11_common.2.1 3 = .ok (.lload_n 2, 1) := by decide +kernel
theorem d11_common_4 : decode m11_common.2.1 4 = .ok (.lstore 6, 2) := by decide +kernel
theorem d11_common_6 : decode m11_common.2.1 6 = .ok (.lload 6, 2) := by decide +kernel
theorem d11_common_8 : decode m11_common.2.1 8 = .ok (.lconst 0, 1) := by decide +kernel
theorem d11_common_9 : decode m11_common.2.1 9 = .ok (.lcmp, 1) := by decide +kernel
theorem d11_common_10 : decode m11_common.2.1 10 = .ok (.ifCond .eq 21, 3) := by decide +kernel
theorem d11_common_13 : decode m11_common.2.1 13 = .ok (.lload 4, 2) := by decide +kernel
theorem d11_common_15 : decode m11_common.2.1 15 = .ok (.lload 6, 2) := by decide +kernel
theorem d11_common_17 : decode m11_common.2.1 17 = .ok (.lrem, 1) := by decide +kernel
theorem d11_common_18 : decode m11_common.2.1 18 = .ok (.lstore 8, 2) := by decide +kernel
theorem d11_common_20 : decode m11_common.2.1 20 = .ok (.lload 6, 2) := by decide +kernel
theorem d11_common_22 : decode m11_common.2.1 22 = .ok (.lstore 4, 2) := by decide +kernel
theorem d11_common_24 : decode m11_common.2.1 24 = .ok (.lload 8, 2) := by decide +kernel
theorem d11_common_26 : decode m11_common.2.1 26 = .ok (.lstore 6, 2) := by decide +kernel
theorem d11_common_28 : decode m11_common.2.1 28 = .ok (.goto (-22), 3) := by decide +kernel
theorem d11_common_31 : decode m11_common.2.1 31 = .ok (.lload 4, 2) := by decide +kernel
theorem d11_common_33 : decode m11_common.2.1 33 = .ok (.lreturn, 1) := by decide +kernel
def b11_common_6 (rec6 : Int × Int × AH → Option (Int × AH)) (x4 : Int) (x6 : Int) (h : AH) : Option (Int × AH) :=
  if w32 (cmp64 x6 0) = 0 then
    some (x4, h)
  else
    asrt (¬ w64 x6 = 0) <|
    lt (rm64 x4 x6) fun u2 =>
    rec6 (x6, u2, h)
set_option maxRecDepth 100000 in
theorem t11_common_6 (l : Launch) (G : Geo) (d : Nat) (hd : 2 ≤ d) (x4 : Int) (x6 : Int) (rec6 : Int × Int × AH → Option (Int × AH)) (H6 : ∀ (x4 : Int) (x6 : Int) (h : AH), Den l G m11_common rvJ d 6 [none, none, none, none, some (vJ x4), none, some (vJ x6), none, none, none] [] h (rec6 (x4, x6, h))) (h : AH) : Den l G m11_common rvJ d 6 [none, none, none, none, some (vJ x4), none, some (vJ x6), none, none, none] [] h (b11_common_6 rec6 x4 x6 h) := by
  unfold b11_common_6
  refine den_lload (pc := 6) d11_common_6 rfl ?_
  refine den_lconst (pc := 8) (x := 0) d11_common_8 (by decide) ?_
  refine den_lcmp (pc := 9) d11_common_9 ?_
  refine den_if_eq (pc := 10) (tgt := 31) d11_common_10 (by decide) rfl (fun _ => ?_) (fun _ => ?_)
  · refine den_lload (pc := 31) d11_common_31 rfl ?_
    exact den_lret (pc := 33) rfl d11_common_33
  · refine den_lload (pc := 13) d11_common_13 rfl ?_
    refine den_lload (pc := 15) d11_common_15 rfl ?_
    refine den_asrt (fun a1 => ?_)
    refine den_lrem (pc := 17) d11_common_17 a1 ?_
    refine den_lstoreL (pc := 18) (L2 := fun y => [none, none, none, none, some (vJ x4), none, some (vJ x6), none, some (vJ y), none]) d11_common_18 (by decide) (fun _ => rfl) (fun u2 => ?_)
    refine den_lload (pc := 20) d11_common_20 rfl ?_
    refine den_lstore (pc := 22) (L2 := [none, none, none, none, some (vJ x6), none, some (vJ x6), none, some (vJ u2), none]) d11_common_22 (by decide) rfl ?_
    refine den_lload (pc := 24) d11_common_24 rfl ?_
    refine den_lstore (pc := 26) (L2 := [none, none, none, none, some (vJ x6), none, some (vJ u2), none, some (vJ u2), none]) d11_common_26 (by decide) rfl ?_
    refine den_goto (pc := 28) (tgt := 6) d11_common_28 (by decide) ?_
    refine den_wk [true, true, true, true, true, true, true, true, false, true] rfl ?_
    exact H6 x6 u2 h
def l11_common_6 (x4 : Int) (x6 : Int) (h : AH) : Option (Int × AH) := fx (fun rec z => b11_common_6 rec z.1 z.2.1 z.2.2) FU (x4, x6, h)
set_option maxRecDepth 100000 in
theorem tl11_common_6 (l : Launch) (G : Geo) (d : Nat) (hd : 2 ≤ d) : ∀ (n : Nat) (z : Int × Int × AH), True → Den l G m11_common rvJ d 6 [none, none, none, none, some (vJ z.1), none, some (vJ z.2.1), none, none, none] [] z.2.2 (fx (fun rec z => b11_common_6 rec z.1 z.2.1 z.2.2) n z) :=
  den_fx (F := fun rec z => b11_common_6 rec z.1 z.2.1 z.2.2) (P := fun z => True) (fL := fun z => [none, none, none, none, some (vJ z.1), none, some (vJ z.2.1), none, none, none]) (fs := fun z => []) (fh := fun z => z.2.2) (fun rec hrec z hz => t11_common_6 l G d hd z.1 z.2.1 rec (fun x4 x6 h => hrec (x4, x6, h) trivial) z.2.2 )
def f11_common (x0 : Int) (x2 : Int) (h : AH) : Option (Int × AH) :=
  l11_common_6 x0 x2 h
set_option maxRecDepth 100000 in
theorem c11_common (l : Launch) (G : Geo) (x0 : Int) (x2 : Int) (h : AH) : Con l G m11_common rvJ 2 [vJ x0, vJ x2] h (f11_common x0 x2 h) := by
  have hd : 2 ≤ 2 := Nat.le_refl _
  refine con_J rfl (by decide) rfl rfl (Nat.le_of_ble_eq_true rfl) (L := [some (vJ x0), none, some (vJ x2), none, none, none, none, none, none, none]) ?_
  unfold f11_common
  refine den_lload_n (pc := 0) d11_common_0 rfl rfl ?_
  refine den_lstore (pc := 1) (L2 := [some (vJ x0), none, some (vJ x2), none, some (vJ x0), none, none, none, none, none]) d11_common_1 (by decide) rfl ?_
  refine den_lload_n (pc := 3) d11_common_3 rfl rfl ?_
  refine den_lstore (pc := 4) (L2 := [some (vJ x0), none, some (vJ x2), none, some (vJ x0), none, some (vJ x2), none, none, none]) d11_common_4 (by decide) rfl ?_
  refine den_wk [false, true, false, true, true, true, true, true, true, true] rfl ?_
  exact tl11_common_6 l G _ hd FU (x0, x2, h) trivial
theorem d11_power_0 : decode m11_power.2.1 0 = .ok (.lconst 1, 1) := by decide +kernel
theorem d11_power_1 : decode m11_power.2.1 1 = .ok (.lstore_n 3, 1) := by decide +kernel
theorem d11_power_2 : decode m11_power.2.1 2 = .ok (.iconst 0, 1) := by decide +kernel
theorem d11_power_3 : decode m11_power.2.1 3 = .ok (.istore 5, 2) := by decide +kernel
theorem d11_power_5 : decode m11_power.2.1 5 = .ok (.iload 5, 2) := by decide +kernel
theorem d11_power_7 : decode m11_power.2.1 7 = .ok (.iload_n 2, 1) := by decide +kernel
theorem d11_power_8 : decode m11_power.2.1 8 = .ok (.if_icmp .ge 13, 3) := by decide +kernel
theorem d11_power_11 : decode m11_power.2.1 11 = .ok (.lload_n 3, 1) := by decide +kernel
theorem d11_power_12 : decode m11_power.2.1 12 = .ok (.lload_n 0, 1) := by decide +kernel
theorem d11_power_13 : decode m11_power.2.1 13 = .ok (.lmul, 1) := by decide +kernel
theorem d11_power_14 : decode m11_power.2.1 14 = .ok (.lstore_n 3, 1) := by decide +kernel
theorem d11_power_15 : decode m11_power.2.1 15 = .ok (.iinc 5 1, 3) := by decide +kernel
theorem d11_power_18 : decode m11_power.2.1 18 = .ok (.goto (-13), 3) := by decide +kernel
theorem d11_power_21 : decode m11_power.2.1 21 = .ok (.lload_n 3, 1) := by decide +kernel
theorem d11_power_22 : decode m11_power.2.1 22 = .ok (.lreturn, 1) := by decide +kernel
def b11_power_5 (rec5 : Int × Int × AH → Option (Int × AH)) (x0 : Int) (x2 : Int) (x3 : Int) (x5 : Int) (h : AH) : Option (Int × AH) :=
  if w32 x2 ≤ w32 x5 then
    some (x3, h)
  else
    lt (x3 * x0) fun u1 =>
    rec5 (u1, (x5 + 1), h)
set_option maxRecDepth 100000 in
theorem t11_power_5 (l : Launch) (G : Geo) (d : Nat) (hd : 2 ≤ d) (x0 : Int) (x2 : Int) (x3 : Int) (x5 : Int) (rec5 : Int × Int × AH → Option (Int × AH)) (H5 : ∀ (x3 : Int) (x5 : Int) (h : AH), Den l G m11_power rvJ d 5 [some (vJ x0), none, some (vI x2), some (vJ x3), none, some (vI x5)] [] h (rec5 (x3, x5, h))) (h : AH) : Den l G m11_power rvJ d 5 [some (vJ x0), none, some (vI x2), some (vJ x3), none, some (vI x5)] [] h (b11_power_5 rec5 x0 x2 x3 x5 h) := by
  unfold b11_power_5
  refine den_iload (pc := 5) d11_power_5 rfl ?_
  refine den_iload_n (pc := 7) d11_power_7 rfl rfl ?_
  refine den_icmp_ge (pc := 8) (tgt := 21) d11_power_8 (by decide) rfl rfl (fun _ => ?_) (fun _ => ?_)
  · refine den_lload_n (pc := 21) d11_power_21 rfl rfl ?_
    exact den_lret (pc := 22) rfl d11_power_22
  · refine den_lload_n (pc := 11) d11_power_11 rfl rfl ?_
    refine den_lload_n (pc := 12) d11_power_12 rfl rfl ?_
    refine den_lmul (pc := 13) d11_power_13 ?_
    refine den_lstore_nL (pc := 14) (L2 := fun y => [some (vJ x0), none, some (vI x2), some (vJ y), none, some (vI x5)]) d11_power_14 rfl (by decide) (fun _ => rfl) (fun u1 => ?_)
    refine den_iinc (pc := 15) (L2 := [some (vJ x0), none, some (vI x2), some (vJ u1), none, some (vI (x5 + 1))]) d11_power_15 (by decide) rfl rfl ?_
    refine den_goto (pc := 18) (tgt := 5) d11_power_18 (by decide) ?_
    exact H5 u1 (x5 + 1) h
def l11_power_5 (x0 : Int) (x2 : Int) (x3 : Int) (x5 : Int) (h : AH) : Option (Int × AH) := fx (fun rec z => b11_power_5 rec x0 x2 z.1 z.2.1 z.2.2) FU (x3, x5, h)
set_option maxRecDepth 100000 in
theorem tl11_power_5 (l : Launch) (G : Geo) (d : Nat) (hd : 2 ≤ d) (x0 : Int) (x2 : Int) : ∀ (n : Nat) (z : Int × Int × AH), True → Den l G m11_power rvJ d 5 [some (vJ x0), none, some (vI x2), some (vJ z.1), none, some (vI z.2.1)] [] z.2.2 (fx (fun rec z => b11_power_5 rec x0 x2 z.1 z.2.1 z.2.2) n z) :=
  den_fx (F := fun rec z => b11_power_5 rec x0 x2 z.1 z.2.1 z.2.2) (P := fun z => True) (fL := fun z => [some (vJ x0), none, some (vI x2), some (vJ z.1), none, some (vI z.2.1)]) (fs := fun z => []) (fh := fun z => z.2.2) (fun rec hrec z hz => t11_power_5 l G d hd x0 x2 z.1 z.2.1 rec (fun x3 x5 h => hrec (x3, x5, h) trivial) z.2.2 )
def f11_power (x0 : Int) (x2 : Int) (h : AH) : Option (Int × AH) :=
  l11_power_5 x0 x2 1 0 h
set_option maxRecDepth 100000 in
theorem c11_power (l : Launch) (G : Geo) (x0 : Int) (x2 : Int) (h : AH) : Con l G m11_power rvJ 2 [vJ x0, vI x2] h (f11_power x0 x2 h) := by
  have hd : 2 ≤ 2 := Nat.le_refl _
  refine con_J rfl (by decide) rfl rfl (Nat.le_of_ble_eq_true rfl) (L := [some (vJ x0), none, some (vI x2), none, none, none]) ?_
  unfold f11_power
  refine den_lconst (pc := 0) (x := 1) d11_power_0 (by decide) ?_
  refine den_lstore_n (pc := 1) (L2 := [some (vJ x0), none, some (vI x2), some (vJ 1), none, none]) d11_power_1 rfl (by decide) rfl ?_
  refine den_iconst (pc := 2) d11_power_2 ?_
  refine den_istore (pc := 3) (L2 := [some (vJ x0), none, some (vI x2), some (vJ 1), none, some (vI 0)]) d11_power_3 (by decide) rfl ?_
  exact tl11_power_5 l G _ hd x0 x2 FU (1, 0, h) trivial
theorem d11_hopes_0 : decode m11_hopes.2.1 0 = .ok (.iload 5, 2) := by decide +kernel
theorem d11_hopes_2 : decode m11_hopes.2.1 2 = .ok (.iconst 0, 1) := by decide +kernel
theorem d11_hopes_3 : decode m11_hopes.2.1 3 = .ok (.bipush 10, 2) := by decide +kernel
theorem d11_hopes_5 : decode m11_hopes.2.1 5 = .ok (.invokestatic 135, 3) := by decide +kernel
theorem d11_hopes_8 : decode m11_hopes.2.1 8 = .ok (.ifCond .eq 41, 3) := by decide +kernel
theorem d11_hopes_11 : decode m11_hopes.2.1 11 = .ok (.aload_n 0, 1) := by decide +kernel
theorem d11_hopes_12 : decode m11_hopes.2.1 12 = .ok (.iload_n 1, 1) := by decide +kernel
theorem d11_hopes_13 : decode m11_hopes.2.1 13 = .ok (.invokevirtual 201, 3) := by decide +kernel
theorem d11_hopes_16 : decode m11_hopes.2.1 16 = .ok (.ifCond .eq 33, 3) := by decide +kernel
theorem d11_hopes_19 : decode m11_hopes.2.1 19 = .ok (.aload_n 0, 1) := by decide +kernel
theorem d11_hopes_20 : decode m11_hopes.2.1 20 = .ok (.iload_n 2, 1) := by decide +kernel
theorem d11_hopes_21 : decode m11_hopes.2.1 21 = .ok (.iload_n 3, 1) := by decide +kernel
theorem d11_hopes_22 : decode m11_hopes.2.1 22 = .ok (.invokevirtual 228, 3) := by decide +kernel
theorem d11_hopes_25 : decode m11_hopes.2.1 25 = .ok (.ifCond .eq 24, 3) := by decide +kernel
theorem d11_hopes_28 : decode m11_hopes.2.1 28 = .ok (.aload_n 0, 1) := by decide +kernel
theorem d11_hopes_29 : decode m11_hopes.2.1 29 = .ok (.iload 4, 2) := by decide +kernel
theorem d11_hopes_31 : decode m11_hopes.2.1 31 = .ok (.invokevirtual 207, 3) := by decide +kernel
theorem d11_hopes_34 : decode m11_hopes.2.1 34 = .ok (.ifCond .eq 15, 3) := by decide +kernel
theorem d11_hopes_37 : decode m11_hopes.2.1 37 = .ok (.aload_n 0, 1) := by decide +kernel
theorem d11_hopes_38 : decode m11_hopes.2.1 38 = .ok (.iload_n 2, 1) := by decide +kernel
theorem d11_hopes_39 : decode m11_hopes.2.1 39 = .ok (.iload_n 3, 1) := by decide +kernel
theorem d11_hopes_40 : decode m11_hopes.2.1 40 = .ok (.iload 4, 2) := by decide +kernel
theorem d11_hopes_42 : decode m11_hopes.2.1 42 = .ok (.invokevirtual 231, 3) := by decide +kernel
theorem d11_hopes_45 : decode m11_hopes.2.1 45 = .ok (.iconst (-1), 1) := by decide +kernel
theorem d11_hopes_46 : decode m11_hopes.2.1 46 = .ok (.if_icmp .ne 7, 3) := by decide +kernel
theorem d11_hopes_49 : decode m11_hopes.2.1 49 = .ok (.ldc2_w 260, 3) := by decide +kernel
theorem d11_hopes_52 : decode m11_hopes.2.1 52 = .ok (.lreturn, 1) := by decide +kernel
theorem d11_hopes_53 : decode m11_hopes.2.1 53 = .ok (.aload_n 0, 1) := by decide +kernel
theorem d11_hopes_54 : decode m11_hopes.2.1 54 = .ok (.iload_n 2, 1) := by decide +kernel
theorem d11_hopes_55 : decode m11_hopes.2.1 55 = .ok (.iload_n 3, 1) := by decide +kernel
theorem d11_hopes_56 : decode m11_hopes.2.1 56 = .ok (.iload 4, 2) := by decide +kernel
theorem d11_hopes_58 : decode m11_hopes.2.1 58 = .ok (.invokevirtual 237, 3) := by decide +kernel
theorem d11_hopes_61 : decode m11_hopes.2.1 61 = .ok (.istore 7, 2) := by decide +kernel
theorem d11_hopes_63 : decode m11_hopes.2.1 63 = .ok (.iload 7, 2) := by decide +kernel
theorem d11_hopes_65 : decode m11_hopes.2.1 65 = .ok (.ifCond .ne 14, 3) := by decide +kernel
theorem d11_hopes_68 : decode m11_hopes.2.1 68 = .ok (.iload 6, 2) := by decide +kernel
theorem d11_hopes_70 : decode m11_hopes.2.1 70 = .ok (.ifCond .eq 7, 3) := by decide +kernel
theorem d11_hopes_73 : decode m11_hopes.2.1 73 = .ok (.lconst 1, 1) := by decide +kernel
theorem d11_hopes_74 : decode m11_hopes.2.1 74 = .ok (.goto 4, 3) := by decide +kernel
theorem d11_hopes_77 : decode m11_hopes.2.1 77 = .ok (.lconst 0, 1) := by decide +kernel
theorem d11_hopes_78 : decode m11_hopes.2.1 78 = .ok (.lreturn, 1) := by decide +kernel
theorem d11_hopes_79 : decode m11_hopes.2.1 79 = .ok (.lconst 0, 1) := by decide +kernel
theorem d11_hopes_80 : decode m11_hopes.2.1 80 = .ok (.lstore 8, 2) := by decide +kernel
theorem d11_hopes_82 : decode m11_hopes.2.1 82 = .ok (.iconst 0, 1) := by decide +kernel
theorem d11_hopes_83 : decode m11_hopes.2.1 83 = .ok (.istore 10, 2) := by decide +kernel
theorem d11_hopes_85 : decode m11_hopes.2.1 85 = .ok (.iload 10, 2) := by decide +kernel
theorem d11_hopes_87 : decode m11_hopes.2.1 87 = .ok (.iload 7, 2) := by decide +kernel
theorem d11_hopes_89 : decode m11_hopes.2.1 89 = .ok (.if_icmp .ge 66, 3) := by decide +kernel
theorem d11_hopes_92 : decode m11_hopes.2.1 92 = .ok (.lload 8, 2) := by decide +kernel
theorem d11_hopes_94 : decode m11_hopes.2.1 94 = .ok (.aload_n 0, 1) := by decide +kernel
theorem d11_hopes_95 : decode m11_hopes.2.1 95 = .ok (.iload_n 2, 1) := by decide +kernel
theorem d11_hopes_96 : decode m11_hopes.2.1 96 = .ok (.iload_n 3, 1) := by decide +kernel
theorem d11_hopes_97 : decode m11_hopes.2.1 97 = .ok (.iload 4, 2) := by decide +kernel
theorem d11_hopes_99 : decode m11_hopes.2.1 99 = .ok (.invokevirtual 231, 3) := by decide +kernel
theorem d11_hopes_102 : decode m11_hopes.2.1 102 = .ok (.aload_n 0, 1) := by decide +kernel
theorem d11_hopes_103 : decode m11_hopes.2.1 103 = .ok (.iload 4, 2) := by decide +kernel
theorem d11_hopes_105 : decode m11_hopes.2.1 105 = .ok (.invokevirtual 213, 3) := by decide +kernel
theorem d11_hopes_108 : decode m11_hopes.2.1 108 = .ok (.iload 10, 2) := by decide +kernel
theorem d11_hopes_110 : decode m11_hopes.2.1 110 = .ok (.aload_n 0, 1) := by decide +kernel
theorem d11_hopes_111 : decode m11_hopes.2.1 111 = .ok (.iload 4, 2) := by decide +kernel
theorem d11_hopes_113 : decode m11_hopes.2.1 113 = .ok (.invokevirtual 216, 3) := by decide +kernel
theorem d11_hopes_116 : decode m11_hopes.2.1 116 = .ok (.imul, 1) := by decide +kernel
theorem d11_hopes_117 : decode m11_hopes.2.1 117 = .ok (.isub, 1) := by decide +kernel
theorem d11_hopes_118 : decode m11_hopes.2.1 118 = .ok (.imul, 1) := by decide +kernel
theorem d11_hopes_119 : decode m11_hopes.2.1 119 = .ok (.i2l, 1) := by decide +kernel
theorem d11_hopes_120 : decode m11_hopes.2.1 120 = .ok (.bipush 10, 2) := by decide +kernel
theorem d11_hopes_122 : decode m11_hopes.2.1 122 = .ok (.iload 5, 2) := by decide +kernel
theorem d11_hopes_124 : decode m11_hopes.2.1 124 = .ok (.isub, 1) := by decide +kernel
theorem d11_hopes_125 : decode m11_hopes.2.1 125 = .ok (.i2l, 1) := by decide +kernel
theorem d11_hopes_126 : decode m11_hopes.2.1 126 = .ok (.iload 10, 2) := by decide +kernel
theorem d11_hopes_128 : decode m11_hopes.2.1 128 = .ok (.invokestatic 262, 3) := by decide +kernel
theorem d11_hopes_131 : decode m11_hopes.2.1 131 = .ok (.lmul, 1) := by decide +kernel
theorem d11_hopes_132 : decode m11_hopes.2.1 132 = .ok (.ldc2_w 266, 3) := by decide +kernel
theorem d11_hopes_135 : decode m11_hopes.2.1 135 = .ok (.iload 7, 2) := by decide +kernel
theorem d11_hopes_137 : decode m11_hopes.2.1 137 = .ok (.iconst 1, 1) := by decide +kernel
theorem d11_hopes_138 : decode m11_hopes.2.1 138 = .ok (.isub, 1) := by decide +kernel
theorem d11_hopes_139 : decode m11_hopes.2.1 139 = .ok (.iload 10, 2) := by decide +kernel
theorem d11_hopes_141 : decode m11_hopes.2.1 141 = .ok (.isub, 1) := by decide +kernel
theorem d11_hopes_142 : decode m11_hopes.2.1 142 = .ok (.invokestatic 262, 3) := by decide +kernel
theorem d11_hopes_145 : decode m11_hopes.2.1 145 = .ok (.lmul, 1) := by decide +kernel
theorem d11_hopes_146 : decode m11_hopes.2.1 146 = .ok (.ladd, 1) := by decide +kernel
theorem d11_hopes_147 : decode m11_hopes.2.1 147 = .ok (.lstore 8, 2) := by decide +kernel
theorem d11_hopes_149 : decode m11_hopes.2.1 149 = .ok (.iinc 10 1, 3) := by decide +kernel
theorem d11_hopes_152 : decode m11_hopes.2.1 152 = .ok (.goto (-67), 3) := by decide +kernel
theorem d11_hopes_155 : decode m11_hopes.2.1 155 = .ok (.ldc2_w 266, 3) := by decide +kernel
theorem d11_hopes_158 : decode m11_hopes.2.1 158 = .ok (.iload 7, 2) := by decide +kernel
theorem d11_hopes_160 : decode m11_hopes.2.1 160 = .ok (.iconst 1, 1) := by decide +kernel
theorem d11_hopes_161 : decode m11_hopes.2.1 161 = .ok (.isub, 1) := by decide +kernel
theorem d11_hopes_162 : decode m11_hopes.2.1 162 = .ok (.invokestatic 262, 3) := by decide +kernel
theorem d11_hopes_165 : decode m11_hopes.2.1 165 = .ok (.lstore 10, 2) := by decide +kernel
theorem d11_hopes_167 : decode m11_hopes.2.1 167 = .ok (.iload 6, 2) := by decide +kernel
theorem d11_hopes_169 : decode m11_hopes.2.1 169 = .ok (.ifCond .eq 8, 3) := by decide +kernel
theorem d11_hopes_172 : decode m11_hopes.2.1 172 = .ok (.lload 10, 2) := by decide +kernel
theorem d11_hopes_174 : decode m11_hopes.2.1 174 = .ok (.goto 5, 3) := by decide +kernel
theorem d11_hopes_177 : decode m11_hopes.2.1 177 = .ok (.lload 8, 2) := by decide +kernel
theorem d11_hopes_179 : decode m11_hopes.2.1 179 = .ok (.lload 8, 2) := by decide +kernel
theorem d11_hopes_181 : decode m11_hopes.2.1 181 = .ok (.lload 10, 2) := by decide +kernel
theorem d11_hopes_183 : decode m11_hopes.2.1 183 = .ok (.invokestatic 268, 3) := by decide +kernel
theorem d11_hopes_186 : decode m11_hopes.2.1 186 = .ok (.ldiv, 1) := by decide +kernel
theorem d11_hopes_187 : decode m11_hopes.2.1 187 = .ok (.lreturn, 1) := by decide +kernel
def b11_hopes_179 (x8 : Int) (x10 : Int) (s0 : Int) (h : AH) : Option (Int × AH) :=
  bnd (f11_common x8 x10 h) fun r1 h2 =>
  asrt (¬ w64 r1 = 0) <|
  some (dv64 s0 r1, h2)
set_option maxRecDepth 100000 in
theorem t11_hopes_179 (l : Launch) (G : Geo) (d : Nat) (hd : 5 ≤ d) (x8 : Int) (x10 : Int) (s0 : Int) (h : AH) : Den l G m11_hopes rvJ d 179 [none, none, none, none, none, none, none, none, some (vJ x8), none, some (vJ x10), none] [vJ s0] h (b11_hopes_179 x8 x10 s0 h) := by
  unfold b11_hopes_179
  refine den_lload (pc := 179) d11_hopes_179 rfl ?_
  refine den_lload (pc := 181) d11_hopes_181 rfl ?_
  refine den_callSJ (pc := 183) (As := [vJ x8, vJ x10]) fs_11_268 rfl rfl (Nat.le_of_ble_eq_true rfl) (Nat.le_trans (by decide) hd) d11_hopes_183 (c11_common l G x8 x10 h) (fun r1 h2 m3 o4 => ?_)
  refine den_asrt (fun a5 => ?_)
  refine den_ldiv (pc := 186) d11_hopes_186 a5 ?_
  exact den_lret (pc := 187) rfl d11_hopes_187
def b11_hopes_85 (rec85 : Int × Int × AH → Option (Int × AH)) (x2 : Int) (x3 : Int) (x4 : Int) (x5 : Int) (x6 : Int) (x7 : Int) (x8 : Int) (x10 : Int) (h : AH) : Option (Int × AH) :=
  if w32 x7 ≤ w32 x10 then
    bnd (f11_power 10 (x7 - 1) h) fun r6 h7 =>
    if w32 x6 = 0 then
      b11_hopes_179 x8 r6 x8 h7
    else
      b11_hopes_179 x8 r6 r6 h7
  else
    bnd (f11_apartOf x2 x3 x4 h) fun r10 h11 =>
    bnd (f11_heatOf x4 h11) fun r14 h15 =>
    bnd (f11_fadesOf x4 h15) fun r18 h19 =>
    bnd (f11_power (w32 (10 - x5)) x10 h19) fun r22 h23 =>
    bnd (f11_power 10 ((x7 - 1) - x10) h23) fun r26 h27 =>
    lt (x8 + (((w32 (r10 * (r14 - (x10 * r18)))) * r22) * r26)) fun u30 =>
    rec85 (u30, (x10 + 1), h27)
set_option maxRecDepth 100000 in
theorem t11_hopes_85 (l : Launch) (G : Geo) (d : Nat) (hd : 5 ≤ d) (x2 : Int) (x3 : Int) (x4 : Int) (x5 : Int) (x6 : Int) (x7 : Int) (x8 : Int) (x10 : Int) (rec85 : Int × Int × AH → Option (Int × AH)) (H85 : ∀ (x8 : Int) (x10 : Int) (h : AH), Den l G m11_hopes rvJ d 85 [some (vA G 69), none, some (vI x2), some (vI x3), some (vI x4), some (vI x5), some (vI x6), some (vI x7), some (vJ x8), none, some (vI x10), none] [] h (rec85 (x8, x10, h))) (h : AH) : Den l G m11_hopes rvJ d 85 [some (vA G 69), none, some (vI x2), some (vI x3), some (vI x4), some (vI x5), some (vI x6), some (vI x7), some (vJ x8), none, some (vI x10), none] [] h (b11_hopes_85 rec85 x2 x3 x4 x5 x6 x7 x8 x10 h) := by
  unfold b11_hopes_85
  refine den_iload (pc := 85) d11_hopes_85 rfl ?_
  refine den_iload (pc := 87) d11_hopes_87 rfl ?_
  refine den_icmp_ge (pc := 89) (tgt := 155) d11_hopes_89 (by decide) rfl rfl (fun _ => ?_) (fun _ => ?_)
  · refine den_ldc2 (pc := 155) kl_11_266 d11_hopes_155 ?_
    refine den_iload (pc := 158) d11_hopes_158 rfl ?_
    refine den_iconst (pc := 160) d11_hopes_160 ?_
    refine den_isub (pc := 161) d11_hopes_161 ?_
    refine den_callSJ (pc := 162) (As := [vJ 10, vI (x7 - 1)]) fs_11_262 rfl rfl (Nat.le_of_ble_eq_true rfl) (Nat.le_trans (by decide) hd) d11_hopes_162 (c11_power l G 10 (x7 - 1) h) (fun r6 h7 m8 o9 => ?_)
    refine den_lstore (pc := 165) (L2 := [some (vA G 69), none, some (vI x2), some (vI x3), some (vI x4), some (vI x5), some (vI x6), some (vI x7), some (vJ x8), none, some (vJ r6), none]) d11_hopes_165 (by decide) rfl ?_
    refine den_iload (pc := 167) d11_hopes_167 rfl ?_
    refine den_if_eq (pc := 169) (tgt := 177) d11_hopes_169 (by decide) rfl (fun _ => ?_) (fun _ => ?_)
    · refine den_lload (pc := 177) d11_hopes_177 rfl ?_
      refine den_wk [false, true, false, false, false, false, false, false, true, true, true, true] rfl ?_
      exact t11_hopes_179 l G _ hd x8 r6 x8 h7
    · refine den_lload (pc := 172) d11_hopes_172 rfl ?_
      refine den_goto (pc := 174) (tgt := 179) d11_hopes_174 (by decide) ?_
      refine den_wk [false, true, false, false, false, false, false, false, true, true, true, true] rfl ?_
      exact t11_hopes_179 l G _ hd x8 r6 r6 h7
  · refine den_lload (pc := 92) d11_hopes_92 rfl ?_
    refine den_aload_n (pc := 94) d11_hopes_94 rfl rfl ?_
    refine den_iload_n (pc := 95) d11_hopes_95 rfl rfl ?_
    refine den_iload_n (pc := 96) d11_hopes_96 rfl rfl ?_
    refine den_iload (pc := 97) d11_hopes_97 rfl ?_
    refine den_callVI (pc := 99) (As := [vI x2, vI x3, vI x4]) fv_11_231 rfl rfl (ok_69 _) (Nat.le_of_ble_eq_true rfl) (Nat.le_trans (by decide) hd) d11_hopes_99 (c11_apartOf l G x2 x3 x4 h) (fun r10 h11 m12 o13 => ?_)
    refine den_aload_n (pc := 102) d11_hopes_102 rfl rfl ?_
    refine den_iload (pc := 103) d11_hopes_103 rfl ?_
    refine den_callVI (pc := 105) (As := [vI x4]) fv_11_213 rfl rfl (ok_69 _) (Nat.le_of_ble_eq_true rfl) (Nat.le_trans (by decide) hd) d11_hopes_105 (c11_heatOf l G x4 h11) (fun r14 h15 m16 o17 => ?_)
    refine den_iload (pc := 108) d11_hopes_108 rfl ?_
    refine den_aload_n (pc := 110) d11_hopes_110 rfl rfl ?_
    refine den_iload (pc := 111) d11_hopes_111 rfl ?_
    refine den_callVI (pc := 113) (As := [vI x4]) fv_11_216 rfl rfl (ok_69 _) (Nat.le_of_ble_eq_true rfl) (Nat.le_trans (by decide) hd) d11_hopes_113 (c11_fadesOf l G x4 h15) (fun r18 h19 m20 o21 => ?_)
    refine den_imul (pc := 116) d11_hopes_116 ?_
    refine den_isub (pc := 117) d11_hopes_117 ?_
    refine den_imul (pc := 118) d11_hopes_118 ?_
    refine den_i2l (pc := 119) d11_hopes_119 ?_
    refine den_bipush (pc := 120) d11_hopes_120 (by decide) ?_
    refine den_iload (pc := 122) d11_hopes_122 rfl ?_
    refine den_isub (pc := 124) d11_hopes_124 ?_
    refine den_i2l (pc := 125) d11_hopes_125 ?_
    refine den_iload (pc := 126) d11_hopes_126 rfl ?_
    refine den_callSJ (pc := 128) (As := [vJ (w32 (10 - x5)), vI x10]) fs_11_262 rfl rfl (Nat.le_of_ble_eq_true rfl) (Nat.le_trans (by decide) hd) d11_hopes_128 (c11_power l G (w32 (10 - x5)) x10 h19) (fun r22 h23 m24 o25 => ?_)
    refine den_lmul (pc := 131) d11_hopes_131 ?_
    refine den_ldc2 (pc := 132) kl_11_266 d11_hopes_132 ?_
    refine den_iload (pc := 135) d11_hopes_135 rfl ?_
    refine den_iconst (pc := 137) d11_hopes_137 ?_
    refine den_isub (pc := 138) d11_hopes_138 ?_
    refine den_iload (pc := 139) d11_hopes_139 rfl ?_
    refine den_isub (pc := 141) d11_hopes_141 ?_
    refine den_callSJ (pc := 142) (As := [vJ 10, vI ((x7 - 1) - x10)]) fs_11_262 rfl rfl (Nat.le_of_ble_eq_true rfl) (Nat.le_trans (by decide) hd) d11_hopes_142 (c11_power l G 10 ((x7 - 1) - x10) h23) (fun r26 h27 m28 o29 => ?_)
    refine den_lmul (pc := 145) d11_hopes_145 ?_
    refine den_ladd (pc := 146) d11_hopes_146 ?_
    refine den_lstoreL (pc := 147) (L2 := fun y => [some (vA G 69), none, some (vI x2), some (vI x3), some (vI x4), some (vI x5), some (vI x6), some (vI x7), some (vJ y), none, some (vI x10), none]) d11_hopes_147 (by decide) (fun _ => rfl) (fun u30 => ?_)
    refine den_iinc (pc := 149) (L2 := [some (vA G 69), none, some (vI x2), some (vI x3), some (vI x4), some (vI x5), some (vI x6), some (vI x7), some (vJ u30), none, some (vI (x10 + 1)), none]) d11_hopes_149 (by decide) rfl rfl ?_
    refine den_goto (pc := 152) (tgt := 85) d11_hopes_152 (by decide) ?_
    exact H85 u30 (x10 + 1) h27
def l11_hopes_85 (x2 : Int) (x3 : Int) (x4 : Int) (x5 : Int) (x6 : Int) (x7 : Int) (x8 : Int) (x10 : Int) (h : AH) : Option (Int × AH) := fx (fun rec z => b11_hopes_85 rec x2 x3 x4 x5 x6 x7 z.1 z.2.1 z.2.2) FU (x8, x10, h)
set_option maxRecDepth 100000 in
theorem tl11_hopes_85 (l : Launch) (G : Geo) (d : Nat) (hd : 5 ≤ d) (x2 : Int) (x3 : Int) (x4 : Int) (x5 : Int) (x6 : Int) (x7 : Int) : ∀ (n : Nat) (z : Int × Int × AH), True → Den l G m11_hopes rvJ d 85 [some (vA G 69), none, some (vI x2), some (vI x3), some (vI x4), some (vI x5), some (vI x6), some (vI x7), some (vJ z.1), none, some (vI z.2.1), none] [] z.2.2 (fx (fun rec z => b11_hopes_85 rec x2 x3 x4 x5 x6 x7 z.1 z.2.1 z.2.2) n z) :=
  den_fx (F := fun rec z => b11_hopes_85 rec x2 x3 x4 x5 x6 x7 z.1 z.2.1 z.2.2) (P := fun z => True) (fL := fun z => [some (vA G 69), none, some (vI x2), some (vI x3), some (vI x4), some (vI x5), some (vI x6), some (vI x7), some (vJ z.1), none, some (vI z.2.1), none]) (fs := fun z => []) (fh := fun z => z.2.2) (fun rec hrec z hz => t11_hopes_85 l G d hd x2 x3 x4 x5 x6 x7 z.1 z.2.1 rec (fun x8 x10 h => hrec (x8, x10, h) trivial) z.2.2 )
def f11_hopes (x1 : Int) (x2 : Int) (x3 : Int) (x4 : Int) (x5 : Int) (x6 : Int) (h : AH) : Option (Int × AH) :=
  bnd (f11_isIn x5 0 10 h) fun r31 h32 =>
  if w32 r31 = 0 then
    some ((-1), h32)
  else
    bnd (f11_isVillage x1 h32) fun r35 h36 =>
    if w32 r35 = 0 then
      some ((-1), h36)
    else
      bnd (f11_isTwo x2 x3 h36) fun r39 h40 =>
      if w32 r39 = 0 then
        some ((-1), h40)
      else
        bnd (f11_isSubject x4 h40) fun r43 h44 =>
        if w32 r43 = 0 then
          some ((-1), h44)
        else
          bnd (f11_apartOf x2 x3 x4 h44) fun r47 h48 =>
          if ¬ w32 r47 = (-1) then
            bnd (f11_oftenOf x2 x3 x4 h48) fun r51 h52 =>
            if ¬ w32 r51 = 0 then
              l11_hopes_85 x2 x3 x4 x5 x6 r51 0 0 h52
            else
              if w32 x6 = 0 then
                some (0, h52)
              else
                some (1, h52)
          else
            some ((-1), h48)
set_option maxRecDepth 100000 in
theorem c11_hopes (l : Launch) (G : Geo) (x1 : Int) (x2 : Int) (x3 : Int) (x4 : Int) (x5 : Int) (x6 : Int) (h : AH) : Con l G m11_hopes rvJ 5 [vA G 69, vI x1, vI x2, vI x3, vI x4, vI x5, vI x6] h (f11_hopes x1 x2 x3 x4 x5 x6 h) := by
  have hd : 5 ≤ 5 := Nat.le_refl _
  refine con_J rfl (by decide) rfl rfl (Nat.le_of_ble_eq_true rfl) (L := [some (vA G 69), some (vI x1), some (vI x2), some (vI x3), some (vI x4), some (vI x5), some (vI x6), none, none, none, none, none]) ?_
  unfold f11_hopes
  refine den_iload (pc := 0) d11_hopes_0 rfl ?_
  refine den_iconst (pc := 2) d11_hopes_2 ?_
  refine den_bipush (pc := 3) d11_hopes_3 (by decide) ?_
  refine den_callSI (pc := 5) (As := [vI x5, vI 0, vI 10]) fs_11_135 rfl rfl (Nat.le_of_ble_eq_true rfl) (Nat.le_trans (by decide) hd) d11_hopes_5 (c11_isIn l G x5 0 10 h) (fun r31 h32 m33 o34 => ?_)
  refine den_if_eq (pc := 8) (tgt := 49) d11_hopes_8 (by decide) rfl (fun _ => ?_) (fun _ => ?_)
  · refine den_ldc2 (pc := 49) kl_11_260 d11_hopes_49 ?_
    exact den_lret (pc := 52) rfl d11_hopes_52
  · refine den_aload_n (pc := 11) d11_hopes_11 rfl rfl ?_
    refine den_iload_n (pc := 12) d11_hopes_12 rfl rfl ?_
    refine den_callVI (pc := 13) (As := [vI x1]) fv_11_201 rfl rfl (ok_69 _) (Nat.le_of_ble_eq_true rfl) (Nat.le_trans (by decide) hd) d11_hopes_13 (c11_isVillage l G x1 h32) (fun r35 h36 m37 o38 => ?_)
    refine den_if_eq (pc := 16) (tgt := 49) d11_hopes_16 (by decide) rfl (fun _ => ?_) (fun _ => ?_)
    · refine den_ldc2 (pc := 49) kl_11_260 d11_hopes_49 ?_
      exact den_lret (pc := 52) rfl d11_hopes_52
    · refine den_aload_n (pc := 19) d11_hopes_19 rfl rfl ?_
      refine den_iload_n (pc := 20) d11_hopes_20 rfl rfl ?_
      refine den_iload_n (pc := 21) d11_hopes_21 rfl rfl ?_
      refine den_callVI (pc := 22) (As := [vI x2, vI x3]) fv_11_228 rfl rfl (ok_69 _) (Nat.le_of_ble_eq_true rfl) (Nat.le_trans (by decide) hd) d11_hopes_22 (c11_isTwo l G x2 x3 h36) (fun r39 h40 m41 o42 => ?_)
      refine den_if_eq (pc := 25) (tgt := 49) d11_hopes_25 (by decide) rfl (fun _ => ?_) (fun _ => ?_)
      · refine den_ldc2 (pc := 49) kl_11_260 d11_hopes_49 ?_
        exact den_lret (pc := 52) rfl d11_hopes_52
      · refine den_aload_n (pc := 28) d11_hopes_28 rfl rfl ?_
        refine den_iload (pc := 29) d11_hopes_29 rfl ?_
        refine den_callVI (pc := 31) (As := [vI x4]) fv_11_207 rfl rfl (ok_69 _) (Nat.le_of_ble_eq_true rfl) (Nat.le_trans (by decide) hd) d11_hopes_31 (c11_isSubject l G x4 h40) (fun r43 h44 m45 o46 => ?_)
        refine den_if_eq (pc := 34) (tgt := 49) d11_hopes_34 (by decide) rfl (fun _ => ?_) (fun _ => ?_)
        · refine den_ldc2 (pc := 49) kl_11_260 d11_hopes_49 ?_
          exact den_lret (pc := 52) rfl d11_hopes_52
        · refine den_aload_n (pc := 37) d11_hopes_37 rfl rfl ?_
          refine den_iload_n (pc := 38) d11_hopes_38 rfl rfl ?_
          refine den_iload_n (pc := 39) d11_hopes_39 rfl rfl ?_
          refine den_iload (pc := 40) d11_hopes_40 rfl ?_
          refine den_callVI (pc := 42) (As := [vI x2, vI x3, vI x4]) fv_11_231 rfl rfl (ok_69 _) (Nat.le_of_ble_eq_true rfl) (Nat.le_trans (by decide) hd) d11_hopes_42 (c11_apartOf l G x2 x3 x4 h44) (fun r47 h48 m49 o50 => ?_)
          refine den_iconst (pc := 45) d11_hopes_45 ?_
          refine den_icmp_ne (pc := 46) (tgt := 53) d11_hopes_46 (by decide) rfl (by decide) (fun _ => ?_) (fun _ => ?_)
          · refine den_aload_n (pc := 53) d11_hopes_53 rfl rfl ?_
            refine den_iload_n (pc := 54) d11_hopes_54 rfl rfl ?_
            refine den_iload_n (pc := 55) d11_hopes_55 rfl rfl ?_
            refine den_iload (pc := 56) d11_hopes_56 rfl ?_
            refine den_callVI (pc := 58) (As := [vI x2, vI x3, vI x4]) fv_11_237 rfl rfl (ok_69 _) (Nat.le_of_ble_eq_true rfl) (Nat.le_trans (by decide) hd) d11_hopes_58 (c11_oftenOf l G x2 x3 x4 h48) (fun r51 h52 m53 o54 => ?_)
            refine den_istore (pc := 61) (L2 := [some (vA G 69), some (vI x1), some (vI x2), some (vI x3), some (vI x4), some (vI x5), some (vI x6), some (vI r51), none, none, none, none]) d11_hopes_61 (by decide) rfl ?_
            refine den_iload (pc := 63) d11_hopes_63 rfl ?_
            refine den_if_ne (pc := 65) (tgt := 79) d11_hopes_65 (by decide) rfl (fun _ => ?_) (fun _ => ?_)
            · refine den_lconst (pc := 79) (x := 0) d11_hopes_79 (by decide) ?_
              refine den_lstore (pc := 80) (L2 := [some (vA G 69), some (vI x1), some (vI x2), some (vI x3), some (vI x4), some (vI x5), some (vI x6), some (vI r51), some (vJ 0), none, none, none]) d11_hopes_80 (by decide) rfl ?_
              refine den_iconst (pc := 82) d11_hopes_82 ?_
              refine den_istore (pc := 83) (L2 := [some (vA G 69), some (vI x1), some (vI x2), some (vI x3), some (vI x4), some (vI x5), some (vI x6), some (vI r51), some (vJ 0), none, some (vI 0), none]) d11_hopes_83 (by decide) rfl ?_
              refine den_wk [true, false, true, true, true, true, true, true, true, true, true, true] rfl ?_
              exact tl11_hopes_85 l G _ hd x2 x3 x4 x5 x6 r51 FU (0, 0, h52) trivial
            · refine den_iload (pc := 68) d11_hopes_68 rfl ?_
              refine den_if_eq (pc := 70) (tgt := 77) d11_hopes_70 (by decide) rfl (fun _ => ?_) (fun _ => ?_)
              · refine den_lconst (pc := 77) (x := 0) d11_hopes_77 (by decide) ?_
                exact den_lret (pc := 78) rfl d11_hopes_78
              · refine den_lconst (pc := 73) (x := 1) d11_hopes_73 (by decide) ?_
                refine den_goto (pc := 74) (tgt := 78) d11_hopes_74 (by decide) ?_
                exact den_lret (pc := 78) rfl d11_hopes_78
          · refine den_ldc2 (pc := 49) kl_11_260 d11_hopes_49 ?_
            exact den_lret (pc := 52) rfl d11_hopes_52
