/-! 10_farthest 10_quiet 10_count 10_image 10_again 11_isIn 11_feed 11_end 11_byteAt 11_isLetter 11_isDigit 11_four 11_eight 11_wordOf -/
theorem d10_farthest_0 : decode m10_farthest.2.1 0 = .ok (.aload_n 0, 1) := by decide +kernel
theorem d10_farthest_1 : decode m10_farthest.2.1 1 = .ok (.getfield 10, 3) := by decide +kernel
theorem d10_farthest_4 : decode m10_farthest.2.1 4 = .ok (.iload_n 1, 1) := by decide +kernel
theorem d10_farthest_5 : decode m10_farthest.2.1 5 = .ok (.invokevirtual 101, 3) := by decide +kernel
theorem d10_farthest_8 : decode m10_farthest.2.1 8 = .ok (.astore 4, 2) := by decide +kernel
theorem d10_farthest_10 : decode m10_farthest.2.1 10 = .ok (.aload 4, 2) := by decide +kernel
theorem d10_farthest_12 : decode m10_farthest.2.1 12 = .ok (.ifnonnull 5, 3) := by decide +kernel
theorem d10_farthest_15 : decode m10_farthest.2.1 15 = .ok (.iconst (-1), 1) := by decide +kernel
theorem d10_farthest_16 : decode m10_farthest.2.1 16 = .ok (.ireturn, 1) := by decide +kernel
theorem d10_farthest_17 : decode m10_farthest.2.1 17 = .ok (.iconst (-1), 1) := by decide +kernel
theorem d10_farthest_18 : decode m10_farthest.2.1 18 = .ok (.istore 5, 2) := by decide +kernel
theorem d10_farthest_20 : decode m10_farthest.2.1 20 = .ok (.iconst (-1), 1) := by decide +kernel
theorem d10_farthest_21 : decode m10_farthest.2.1 21 = .ok (.istore 6, 2) := by decide +kernel
theorem d10_farthest_23 : decode m10_farthest.2.1 23 = .ok (.iconst 0, 1) := by decide +kernel
theorem d10_farthest_24 : decode m10_farthest.2.1 24 = .ok (.istore 7, 2) := by decide +kernel
theorem d10_farthest_26 : decode m10_farthest.2.1 26 = .ok (.iload 7, 2) := by decide +kernel
theorem d10_farthest_28 : decode m10_farthest.2.1 28 = .ok (.aload 4, 2) := by decide +kernel
theorem d10_farthest_30 : decode m10_farthest.2.1 30 = .ok (.getfield 250, 3) := by decide +kernel
theorem d10_farthest_33 : decode m10_farthest.2.1 33 = .ok (.if_icmp .ge 64, 3) := by decide +kernel
theorem d10_farthest_36 : decode m10_farthest.2.1 36 = .ok (.iload 7, 2) := by decide +kernel
theorem d10_farthest_38 : decode m10_farthest.2.1 38 = .ok (.iconst 1, 1) := by decide +kernel
theorem d10_farthest_39 : decode m10_farthest.2.1 39 = .ok (.iadd, 1) := by decide +kernel
theorem d10_farthest_40 : decode m10_farthest.2.1 40 = .ok (.istore 8, 2) := by decide +kernel
theorem d10_farthest_42 : decode m10_farthest.2.1 42 = .ok (.iload 8, 2) := by decide +kernel
theorem d10_farthest_44 : decode m10_farthest.2.1 44 = .ok (.aload 4, 2) := by decide +kernel
theorem d10_farthest_46 : decode m10_farthest.2.1 46 = .ok (.getfield 250, 3) := by decide +kernel
theorem d10_farthest_49 : decode m10_farthest.2.1 49 = .ok (.if_icmp .ge 42, 3) := by decide +kernel
theorem d10_farthest_52 : decode m10_farthest.2.1 52 = .ok (.aload 4, 2) := by decide +kernel
theorem d10_farthest_54 : decode m10_farthest.2.1 54 = .ok (.iload 7, 2) := by decide +kernel
theorem d10_farthest_56 : decode m10_farthest.2.1 56 = .ok (.iload 8, 2) := by decide +kernel
theorem d10_farthest_58 : decode m10_farthest.2.1 58 = .ok (.iload_n 2, 1) := by decide +kernel
theorem d10_farthest_59 : decode m10_farthest.2.1 59 = .ok (.invokevirtual 111, 3) := by decide +kernel
theorem d10_farthest_62 : decode m10_farthest.2.1 62 = .ok (.istore 9, 2) := by decide +kernel
theorem d10_farthest_64 : decode m10_farthest.2.1 64 = .ok (.iload 9, 2) := by decide +kernel
theorem d10_farthest_66 : decode m10_farthest.2.1 66 = .ok (.iload 6, 2) := by decide +kernel
theorem d10_farthest_68 : decode m10_farthest.2.1 68 = .ok (.if_icmp .le 17, 3) := by decide +kernel
theorem d10_farthest_71 : decode m10_farthest.2.1 71 = .ok (.iload 9, 2) := by decide +kernel
theorem d10_farthest_73 : decode m10_farthest.2.1 73 = .ok (.istore 6, 2) := by decide +kernel
theorem d10_farthest_75 : decode m10_farthest.2.1 75 = .ok (.bipush 10, 2) := by decide +kernel
theorem d10_farthest_77 : decode m10_farthest.2.1 77 = .ok (.iload 7, 2) := by decide +kernel
theorem d10_farthest_79 : decode m10_farthest.2.1 79 = .ok (.imul, 1) := by decide +kernel
theorem d10_farthest_80 : decode m10_farthest.2.1 80 = .ok (.iload 8, 2) := by decide +kernel
theorem d10_farthest_82 : decode m10_farthest.2.1 82 = .ok (.iadd, 1) := by decide +kernel
theorem d10_farthest_83 : decode m10_farthest.2.1 83 = .ok (.istore 5, 2) := by decide +kernel
theorem d10_farthest_85 : decode m10_farthest.2.1 85 = .ok (.iinc 8 1, 3) := by decide +kernel
theorem d10_farthest_88 : decode m10_farthest.2.1 88 = .ok (.goto (-46), 3) := by decide +kernel
theorem d10_farthest_91 : decode m10_farthest.2.1 91 = .ok (.iinc 7 1, 3) := by decide +kernel
theorem d10_farthest_94 : decode m10_farthest.2.1 94 = .ok (.goto (-68), 3) := by decide +kernel
theorem d10_farthest_97 : decode m10_farthest.2.1 97 = .ok (.iload_n 3, 1) := by decide +kernel
theorem d10_farthest_98 : decode m10_farthest.2.1 98 = .ok (.ifCond .eq 8, 3) := by decide +kernel
theorem d10_farthest_101 : decode m10_farthest.2.1 101 = .ok (.iload 6, 2) := by decide +kernel
theorem d10_farthest_103 : decode m10_farthest.2.1 103 = .ok (.goto 5, 3) := by decide +kernel
theorem d10_farthest_106 : decode m10_farthest.2.1 106 = .ok (.iload 5, 2) := by decide +kernel
theorem d10_farthest_108 : decode m10_farthest.2.1 108 = .ok (.ireturn, 1) := by decide +kernel
def b10_farthest_85 (rec26 : Int × Int × Int × AH → Option (Int × AH)) (rec42 : Int × Int × Int × AH → Option (Int × AH)) (x2 : Int) (x3 : Int) (x4 : Nat) (x5 : Int) (x6 : Int) (x7 : Int) (x8 : Int) (h : AH) : Option (Int × AH) :=
  rec42 (x5, x6, (x8 + 1), h)
set_option maxRecDepth 100000 in
theorem t10_farthest_85 (l : Launch) (G : Geo) (d : Nat) (hd : 4 ≤ d) (x2 : Int) (x3 : Int) (x4 : Nat) (x5 : Int) (x6 : Int) (x7 : Int) (x8 : Int) (rec26 : Int × Int × Int × AH → Option (Int × AH)) (H26 : ∀ (x5 : Int) (x6 : Int) (x7 : Int) (h : AH), ok h.1 x4 9 → Den l G m10_farthest rvI d 26 [none, none, some (vI x2), some (vI x3), some (vA G x4), some (vI x5), some (vI x6), some (vI x7), none, none] [] h (rec26 (x5, x6, x7, h))) (rec42 : Int × Int × Int × AH → Option (Int × AH)) (H42 : ∀ (x5 : Int) (x6 : Int) (x8 : Int) (h : AH), ok h.1 x4 9 → Den l G m10_farthest rvI d 42 [none, none, some (vI x2), some (vI x3), some (vA G x4), some (vI x5), some (vI x6), some (vI x7), some (vI x8), none] [] h (rec42 (x5, x6, x8, h))) (h : AH) (kx4 : ok h.1 x4 9) : Den l G m10_farthest rvI d 85 [none, none, some (vI x2), some (vI x3), some (vA G x4), some (vI x5), some (vI x6), some (vI x7), some (vI x8), none] [] h (b10_farthest_85 rec26 rec42 x2 x3 x4 x5 x6 x7 x8 h) := by
  unfold b10_farthest_85
  refine den_iinc (pc := 85) (L2 := [none, none, some (vI x2), some (vI x3), some (vA G x4), some (vI x5), some (vI x6), some (vI x7), some (vI (x8 + 1)), none]) d10_farthest_85 (by decide) rfl rfl ?_
  refine den_goto (pc := 88) (tgt := 42) d10_farthest_88 (by decide) ?_
  exact H42 x5 x6 (x8 + 1) h kx4
def b10_farthest_42 (rec42 : Int × Int × Int × AH → Option (Int × AH)) (rec26 : Int × Int × Int × AH → Option (Int × AH)) (x2 : Int) (x3 : Int) (x4 : Nat) (x7 : Int) (x5 : Int) (x6 : Int) (x8 : Int) (h : AH) : Option (Int × AH) :=
  if w32 (h.2 x4 0) ≤ w32 x8 then
    rec26 (x5, x6, (x7 + 1), h)
  else
    bnd (f9_gap x4 x7 x8 x2 h) fun r1 h2 =>
    if w32 r1 ≤ w32 x6 then
      b10_farthest_85 rec26 rec42 x2 x3 x4 x5 x6 x7 x8 h2
    else
      lt ((10 * x7) + x8) fun u6 =>
      b10_farthest_85 rec26 rec42 x2 x3 x4 u6 r1 x7 x8 h2
set_option maxRecDepth 100000 in
theorem t10_farthest_42 (l : Launch) (G : Geo) (d : Nat) (hd : 4 ≤ d) (x2 : Int) (x3 : Int) (x4 : Nat) (x7 : Int) (x5 : Int) (x6 : Int) (x8 : Int) (rec42 : Int × Int × Int × AH → Option (Int × AH)) (H42 : ∀ (x5 : Int) (x6 : Int) (x8 : Int) (h : AH), ok h.1 x4 9 → Den l G m10_farthest rvI d 42 [none, none, some (vI x2), some (vI x3), some (vA G x4), some (vI x5), some (vI x6), some (vI x7), some (vI x8), none] [] h (rec42 (x5, x6, x8, h))) (rec26 : Int × Int × Int × AH → Option (Int × AH)) (H26 : ∀ (x5 : Int) (x6 : Int) (x7 : Int) (h : AH), ok h.1 x4 9 → Den l G m10_farthest rvI d 26 [none, none, some (vI x2), some (vI x3), some (vA G x4), some (vI x5), some (vI x6), some (vI x7), none, none] [] h (rec26 (x5, x6, x7, h))) (h : AH) (kx4 : ok h.1 x4 9) : Den l G m10_farthest rvI d 42 [none, none, some (vI x2), some (vI x3), some (vA G x4), some (vI x5), some (vI x6), some (vI x7), some (vI x8), none] [] h (b10_farthest_42 rec42 rec26 x2 x3 x4 x7 x5 x6 x8 h) := by
  unfold b10_farthest_42
  refine den_iload (pc := 42) d10_farthest_42 rfl ?_
  refine den_aload (pc := 44) d10_farthest_44 rfl ?_
  refine den_getI (pc := 46) fa_10_250 kx4 d10_farthest_46 ?_
  refine den_icmp_ge (pc := 49) (tgt := 91) d10_farthest_49 (by decide) rfl rfl (fun _ => ?_) (fun _ => ?_)
  · refine den_iinc (pc := 91) (L2 := [none, none, some (vI x2), some (vI x3), some (vA G x4), some (vI x5), some (vI x6), some (vI (x7 + 1)), some (vI x8), none]) d10_farthest_91 (by decide) rfl rfl ?_
    refine den_goto (pc := 94) (tgt := 26) d10_farthest_94 (by decide) ?_
    refine den_wk [true, true, true, true, true, true, true, true, false, true] rfl ?_
    exact H26 x5 x6 (x7 + 1) h kx4
  · refine den_aload (pc := 52) d10_farthest_52 rfl ?_
    refine den_iload (pc := 54) d10_farthest_54 rfl ?_
    refine den_iload (pc := 56) d10_farthest_56 rfl ?_
    refine den_iload_n (pc := 58) d10_farthest_58 rfl rfl ?_
    refine den_callVI (pc := 59) (As := [vI x7, vI x8, vI x2]) fv_10_111 rfl rfl kx4 (Nat.le_of_ble_eq_true rfl) (Nat.le_trans (by decide) hd) d10_farthest_59 (c9_gap l G x4 x7 x8 x2 h kx4) (fun r1 h2 m3 o4 => ?_)
    have q5 := ok.mono kx4 m3
    refine den_istore (pc := 62) (L2 := [none, none, some (vI x2), some (vI x3), some (vA G x4), some (vI x5), some (vI x6), some (vI x7), some (vI x8), some (vI r1)]) d10_farthest_62 (by decide) rfl ?_
    refine den_iload (pc := 64) d10_farthest_64 rfl ?_
    refine den_iload (pc := 66) d10_farthest_66 rfl ?_
    refine den_icmp_le (pc := 68) (tgt := 85) d10_farthest_68 (by decide) rfl rfl (fun _ => ?_) (fun _ => ?_)
    · refine den_wk [true, true, true, true, true, true, true, true, true, false] rfl ?_
      exact t10_farthest_85 l G _ hd x2 x3 x4 x5 x6 x7 x8 rec26 H26 rec42 H42 h2 q5
    · refine den_iload (pc := 71) d10_farthest_71 rfl ?_
      refine den_istore (pc := 73) (L2 := [none, none, some (vI x2), some (vI x3), some (vA G x4), some (vI x5), some (vI r1), some (vI x7), some (vI x8), some (vI r1)]) d10_farthest_73 (by decide) rfl ?_
      refine den_bipush (pc := 75) d10_farthest_75 (by decide) ?_
      refine den_iload (pc := 77) d10_farthest_77 rfl ?_
      refine den_imul (pc := 79) d10_farthest_79 ?_
      refine den_iload (pc := 80) d10_farthest_80 rfl ?_
      refine den_iadd (pc := 82) d10_farthest_82 ?_
      refine den_istoreL (pc := 83) (L2 := fun y => [none, none, some (vI x2), some (vI x3), some (vA G x4), some (vI y), some (vI r1), some (vI x7), some (vI x8), some (vI r1)]) d10_farthest_83 (by decide) (fun _ => rfl) (fun u6 => ?_)
      refine den_wk [true, true, true, true, true, true, true, true, true, false] rfl ?_
      exact t10_farthest_85 l G _ hd x2 x3 x4 u6 r1 x7 x8 rec26 H26 rec42 H42 h2 q5
def l10_farthest_42 (rec26 : Int × Int × Int × AH → Option (Int × AH)) (x2 : Int) (x3 : Int) (x4 : Nat) (x7 : Int) (x5 : Int) (x6 : Int) (x8 : Int) (h : AH) : Option (Int × AH) := fx (fun rec z => b10_farthest_42 rec rec26 x2 x3 x4 x7 z.1 z.2.1 z.2.2.1 z.2.2.2) FU (x5, x6, x8, h)
set_option maxRecDepth 100000 in
theorem tl10_farthest_42 (l : Launch) (G : Geo) (d : Nat) (hd : 4 ≤ d) (x2 : Int) (x3 : Int) (x4 : Nat) (x7 : Int) (rec26 : Int × Int × Int × AH → Option (Int × AH)) (H26 : ∀ (x5 : Int) (x6 : Int) (x7 : Int) (h : AH), ok h.1 x4 9 → Den l G m10_farthest rvI d 26 [none, none, some (vI x2), some (vI x3), some (vA G x4), some (vI x5), some (vI x6), some (vI x7), none, none] [] h (rec26 (x5, x6, x7, h))) : ∀ (n : Nat) (z : Int × Int × Int × AH), ok z.2.2.2.1 x4 9 → Den l G m10_farthest rvI d 42 [none, none, some (vI x2), some (vI x3), some (vA G x4), some (vI z.1), some (vI z.2.1), some (vI x7), some (vI z.2.2.1), none] [] z.2.2.2 (fx (fun rec z => b10_farthest_42 rec rec26 x2 x3 x4 x7 z.1 z.2.1 z.2.2.1 z.2.2.2) n z) :=
  den_fx (F := fun rec z => b10_farthest_42 rec rec26 x2 x3 x4 x7 z.1 z.2.1 z.2.2.1 z.2.2.2) (P := fun z => ok z.2.2.2.1 x4 9) (fL := fun z => [none, none, some (vI x2), some (vI x3), some (vA G x4), some (vI z.1), some (vI z.2.1), some (vI x7), some (vI z.2.2.1), none]) (fs := fun z => []) (fh := fun z => z.2.2.2) (fun rec hrec z hz => t10_farthest_42 l G d hd x2 x3 x4 x7 z.1 z.2.1 z.2.2.1 rec (fun x5 x6 x8 h w0 => hrec (x5, x6, x8, h) w0) rec26 H26 z.2.2.2 hz)
def b10_farthest_26 (rec26 : Int × Int × Int × AH → Option (Int × AH)) (x2 : Int) (x3 : Int) (x4 : Nat) (x5 : Int) (x6 : Int) (x7 : Int) (h : AH) : Option (Int × AH) :=
  if w32 (h.2 x4 0) ≤ w32 x7 then
    if w32 x3 = 0 then
      some (x5, h)
    else
      some (x6, h)
  else
    lt (x7 + 1) fun u7 =>
    l10_farthest_42 rec26 x2 x3 x4 x7 x5 x6 u7 h
set_option maxRecDepth 100000 in
theorem t10_farthest_26 (l : Launch) (G : Geo) (d : Nat) (hd : 4 ≤ d) (x2 : Int) (x3 : Int) (x4 : Nat) (x5 : Int) (x6 : Int) (x7 : Int) (rec26 : Int × Int × Int × AH → Option (Int × AH)) (H26 : ∀ (x5 : Int) (x6 : Int) (x7 : Int) (h : AH), ok h.1 x4 9 → Den l G m10_farthest rvI d 26 [none, none, some (vI x2), some (vI x3), some (vA G x4), some (vI x5), some (vI x6), some (vI x7), none, none] [] h (rec26 (x5, x6, x7, h))) (h : AH) (kx4 : ok h.1 x4 9) : Den l G m10_farthest rvI d 26 [none, none, some (vI x2), some (vI x3), some (vA G x4), some (vI x5), some (vI x6), some (vI x7), none, none] [] h (b10_farthest_26 rec26 x2 x3 x4 x5 x6 x7 h) := by
  unfold b10_farthest_26
  refine den_iload (pc := 26) d10_farthest_26 rfl ?_
  refine den_aload (pc := 28) d10_farthest_28 rfl ?_
  refine den_getI (pc := 30) fa_10_250 kx4 d10_farthest_30 ?_
  refine den_icmp_ge (pc := 33) (tgt := 97) d10_farthest_33 (by decide) rfl rfl (fun _ => ?_) (fun _ => ?_)
  · refine den_iload_n (pc := 97) d10_farthest_97 rfl rfl ?_
    refine den_if_eq (pc := 98) (tgt := 106) d10_farthest_98 (by decide) rfl (fun _ => ?_) (fun _ => ?_)
    · refine den_iload (pc := 106) d10_farthest_106 rfl ?_
      exact den_iret (pc := 108) rfl d10_farthest_108
    · refine den_iload (pc := 101) d10_farthest_101 rfl ?_
      refine den_goto (pc := 103) (tgt := 108) d10_farthest_103 (by decide) ?_
      exact den_iret (pc := 108) rfl d10_farthest_108
  · refine den_iload (pc := 36) d10_farthest_36 rfl ?_
    refine den_iconst (pc := 38) d10_farthest_38 ?_
    refine den_iadd (pc := 39) d10_farthest_39 ?_
    refine den_istoreL (pc := 40) (L2 := fun y => [none, none, some (vI x2), some (vI x3), some (vA G x4), some (vI x5), some (vI x6), some (vI x7), some (vI y), none]) d10_farthest_40 (by decide) (fun _ => rfl) (fun u7 => ?_)
    exact tl10_farthest_42 l G _ hd x2 x3 x4 x7 rec26 H26 FU (x5, x6, u7, h) kx4
def l10_farthest_26 (x2 : Int) (x3 : Int) (x4 : Nat) (x5 : Int) (x6 : Int) (x7 : Int) (h : AH) : Option (Int × AH) := fx (fun rec z => b10_farthest_26 rec x2 x3 x4 z.1 z.2.1 z.2.2.1 z.2.2.2) FU (x5, x6, x7, h)
set_option maxRecDepth 100000 in
theorem tl10_farthest_26 (l : Launch) (G : Geo) (d : Nat) (hd : 4 ≤ d) (x2 : Int) (x3 : Int) (x4 : Nat) : ∀ (n : Nat) (z : Int × Int × Int × AH), ok z.2.2.2.1 x4 9 → Den l G m10_farthest rvI d 26 [none, none, some (vI x2), some (vI x3), some (vA G x4), some (vI z.1), some (vI z.2.1), some (vI z.2.2.1), none, none] [] z.2.2.2 (fx (fun rec z => b10_farthest_26 rec x2 x3 x4 z.1 z.2.1 z.2.2.1 z.2.2.2) n z) :=
  den_fx (F := fun rec z => b10_farthest_26 rec x2 x3 x4 z.1 z.2.1 z.2.2.1 z.2.2.2) (P := fun z => ok z.2.2.2.1 x4 9) (fL := fun z => [none, none, some (vI x2), some (vI x3), some (vA G x4), some (vI z.1), some (vI z.2.1), some (vI z.2.2.1), none, none]) (fs := fun z => []) (fh := fun z => z.2.2.2) (fun rec hrec z hz => t10_farthest_26 l G d hd x2 x3 x4 z.1 z.2.1 z.2.2.1 rec (fun x5 x6 x7 h w0 => hrec (x5, x6, x7, h) w0) z.2.2.2 hz)
def f10_farthest (x1 : Int) (x2 : Int) (x3 : Int) (h : AH) : Option (Int × AH) :=
  bnd (f8_villageAt 1 x1 h) fun r8 h9 =>
  if r8 < 0 then
    some ((-1), h9)
  else
    l10_farthest_26 x2 x3 r8.toNat (-1) (-1) 0 h9
set_option maxRecDepth 100000 in
theorem c10_farthest (l : Launch) (G : Geo) (x1 : Int) (x2 : Int) (x3 : Int) (h : AH) : Con l G m10_farthest rvI 4 [vA G 0, vI x1, vI x2, vI x3] h (f10_farthest x1 x2 x3 h) := by
  have hd : 4 ≤ 4 := Nat.le_refl _
  refine con_I rfl (by decide) rfl rfl (Nat.le_of_ble_eq_true rfl) (L := [some (vA G 0), some (vI x1), some (vI x2), some (vI x3), none, none, none, none, none, none]) ?_
  unfold f10_farthest
  refine den_aload_n (pc := 0) d10_farthest_0 rfl rfl ?_
  refine den_getR (pc := 1) (b := 1) fa_10_10 (ok_0 _) rfl d10_farthest_1 ?_
  refine den_iload_n (pc := 4) d10_farthest_4 rfl rfl ?_
  refine den_callVR (pc := 5) (As := [vI x1]) fv_10_101 rfl rfl (ok_1 _) (Nat.le_of_ble_eq_true rfl) (Nat.le_trans (by decide) hd) d10_farthest_5 (c8_villageAt l G 1 x1 h (ok_1 _)) (fun r8 h9 m10 o11 => ?_)
  have q12 := RO.v o11
  refine den_astoreR (pc := 8) (L2 := [some (vA G 0), some (vI x1), some (vI x2), some (vI x3), some (vR G r8), none, none, none, none, none]) d10_farthest_8 (by decide) rfl ?_
  refine den_aloadR (pc := 10) d10_farthest_10 rfl ?_
  refine den_ifnonnull (pc := 12) (tgt := 17) d10_farthest_12 (by decide) (fun _ => ?_) (fun n13 => ?_)
  · refine den_iconst (pc := 15) d10_farthest_15 ?_
    exact den_iret (pc := 16) rfl d10_farthest_16
  · rw [vR_pos G n13]
    have q14 := Or.resolve_left q12 n13
    refine den_iconst (pc := 17) d10_farthest_17 ?_
    refine den_istore (pc := 18) (L2 := [some (vA G 0), some (vI x1), some (vI x2), some (vI x3), some (vA G r8.toNat), some (vI (-1)), none, none, none, none]) d10_farthest_18 (by decide) rfl ?_
    refine den_iconst (pc := 20) d10_farthest_20 ?_
    refine den_istore (pc := 21) (L2 := [some (vA G 0), some (vI x1), some (vI x2), some (vI x3), some (vA G r8.toNat), some (vI (-1)), some (vI (-1)), none, none, none]) d10_farthest_21 (by decide) rfl ?_
    refine den_iconst (pc := 23) d10_farthest_23 ?_
    refine den_istore (pc := 24) (L2 := [some (vA G 0), some (vI x1), some (vI x2), some (vI x3), some (vA G r8.toNat), some (vI (-1)), some (vI (-1)), some (vI 0), none, none]) d10_farthest_24 (by decide) rfl ?_
    refine den_wk [false, false, true, true, true, true, true, true, true, true] rfl ?_
    exact tl10_farthest_26 l G _ hd x2 x3 r8.toNat FU ((-1), (-1), 0, h9) q14
theorem d10_quiet_0 : decode m10_quiet.2.1 0 = .ok (.aload_n 0, 1) := by decide +kernel
theorem d10_quiet_1 : decode m10_quiet.2.1 1 = .ok (.getfield 10, 3) := by decide +kernel
theorem d10_quiet_4 : decode m10_quiet.2.1 4 = .ok (.iload_n 1, 1) := by decide +kernel
theorem d10_quiet_5 : decode m10_quiet.2.1 5 = .ok (.invokevirtual 101, 3) := by decide +kernel
theorem d10_quiet_8 : decode m10_quiet.2.1 8 = .ok (.astore_n 2, 1) := by decide +kernel
theorem d10_quiet_9 : decode m10_quiet.2.1 9 = .ok (.aload_n 2, 1) := by decide +kernel
theorem d10_quiet_10 : decode m10_quiet.2.1 10 = .ok (.ifnonnull 5, 3) := by decide +kernel
theorem d10_quiet_13 : decode m10_quiet.2.1 13 = .ok (.iconst (-1), 1) := by decide +kernel
theorem d10_quiet_14 : decode m10_quiet.2.1 14 = .ok (.ireturn, 1) := by decide +kernel
theorem d10_quiet_15 : decode m10_quiet.2.1 15 = .ok (.aload_n 0, 1) := by decide +kernel
theorem d10_quiet_16 : decode m10_quiet.2.1 16 = .ok (.getfield 58, 3) := by decide +kernel
theorem d10_quiet_19 : decode m10_quiet.2.1 19 = .ok (.aload_n 2, 1) := by decide +kernel
theorem d10_quiet_20 : decode m10_quiet.2.1 20 = .ok (.invokevirtual 262, 3) := by decide +kernel
theorem d10_quiet_23 : decode m10_quiet.2.1 23 = .ok (.aload_n 0, 1) := by decide +kernel
theorem d10_quiet_24 : decode m10_quiet.2.1 24 = .ok (.getfield 58, 3) := by decide +kernel
theorem d10_quiet_27 : decode m10_quiet.2.1 27 = .ok (.invokevirtual 297, 3) := by decide +kernel
theorem d10_quiet_30 : decode m10_quiet.2.1 30 = .ok (.ireturn, 1) := by decide +kernel
def f10_quiet (x1 : Int) (h : AH) : Option (Int × AH) :=
  bnd (f8_villageAt 1 x1 h) fun r1 h2 =>
  if r1 < 0 then
    some ((-1), h2)
  else
    bnd (f0_gather r1.toNat h2) fun r8 h9 =>
    bnd (f0_alone h9) fun r13 h14 =>
    some (r13, h14)
set_option maxRecDepth 100000 in
theorem c10_quiet (l : Launch) (G : Geo) (x1 : Int) (h : AH) : Con l G m10_quiet rvI 6 [vA G 0, vI x1] h (f10_quiet x1 h) := by
  have hd : 6 ≤ 6 := Nat.le_refl _
  refine con_I rfl (by decide) rfl rfl (Nat.le_of_ble_eq_true rfl) (L := [some (vA G 0), some (vI x1), none]) ?_
  unfold f10_quiet
  refine den_aload_n (pc := 0) d10_quiet_0 rfl rfl ?_
  refine den_getR (pc := 1) (b := 1) fa_10_10 (ok_0 _) rfl d10_quiet_1 ?_
  refine den_iload_n (pc := 4) d10_quiet_4 rfl rfl ?_
  refine den_callVR (pc := 5) (As := [vI x1]) fv_10_101 rfl rfl (ok_1 _) (Nat.le_of_ble_eq_true rfl) (Nat.le_trans (by decide) hd) d10_quiet_5 (c8_villageAt l G 1 x1 h (ok_1 _)) (fun r1 h2 m3 o4 => ?_)
  have q5 := RO.v o4
  refine den_astoreR_n (pc := 8) (L2 := [some (vA G 0), some (vI x1), some (vR G r1)]) d10_quiet_8 rfl (by decide) rfl ?_
  refine den_aloadR_n (pc := 9) d10_quiet_9 rfl rfl ?_
  refine den_ifnonnull (pc := 10) (tgt := 15) d10_quiet_10 (by decide) (fun _ => ?_) (fun n6 => ?_)
  · refine den_iconst (pc := 13) d10_quiet_13 ?_
    exact den_iret (pc := 14) rfl d10_quiet_14
  · rw [vR_pos G n6]
    have q7 := Or.resolve_left q5 n6
    refine den_aload_n (pc := 15) d10_quiet_15 rfl rfl ?_
    refine den_getR (pc := 16) (b := 62) fa_10_58 (ok_0 _) rfl d10_quiet_16 ?_
    refine den_aload_n (pc := 19) d10_quiet_19 rfl rfl ?_
    refine den_callVV (pc := 20) (As := [vA G r1.toNat]) fv_10_262 rfl rfl (ok_62 _) (Nat.le_of_ble_eq_true rfl) (Nat.le_trans (by decide) hd) d10_quiet_20 (c0_gather l G r1.toNat h2 q7) (fun r8 h9 m10 o11 => ?_)
    have q12 := ok.mono q7 m10
    refine den_aload_n (pc := 23) d10_quiet_23 rfl rfl ?_
    refine den_getR (pc := 24) (b := 62) fa_10_58 (ok_0 _) rfl d10_quiet_24 ?_
    refine den_callVI (pc := 27) (As := []) fv_10_297 rfl rfl (ok_62 _) (Nat.le_of_ble_eq_true rfl) (Nat.le_trans (by decide) hd) d10_quiet_27 (c0_alone l G h9) (fun r13 h14 m15 o16 => ?_)
    have q17 := ok.mono q12 m15
    exact den_iret (pc := 30) rfl d10_quiet_30
theorem d10_count_0 : decode m10_count.2.1 0 = .ok (.iload_n 1, 1) := by decide +kernel
theorem d10_count_1 : decode m10_count.2.1 1 = .ok (.ifCond .lt 8, 3) := by decide +kernel
theorem d10_count_4 : decode m10_count.2.1 4 = .ok (.iload_n 1, 1) := by decide +kernel
theorem d10_count_5 : decode m10_count.2.1 5 = .ok (.iconst 3, 1) := by decide +kernel
theorem d10_count_6 : decode m10_count.2.1 6 = .ok (.if_icmp .lt 8, 3) := by decide +kernel
theorem d10_count_9 : decode m10_count.2.1 9 = .ok (.bipush (-2), 2) := by decide +kernel
theorem d10_count_11 : decode m10_count.2.1 11 = .ok (.goto 12, 3) := by decide +kernel
theorem d10_count_14 : decode m10_count.2.1 14 = .ok (.aload_n 0, 1) := by decide +kernel
theorem d10_count_15 : decode m10_count.2.1 15 = .ok (.getfield 10, 3) := by decide +kernel
theorem d10_count_18 : decode m10_count.2.1 18 = .ok (.getfield 300, 3) := by decide +kernel
theorem d10_count_21 : decode m10_count.2.1 21 = .ok (.iload_n 1, 1) := by decide +kernel
theorem d10_count_22 : decode m10_count.2.1 22 = .ok (.iaload, 1) := by decide +kernel
theorem d10_count_23 : decode m10_count.2.1 23 = .ok (.ireturn, 1) := by decide +kernel
def f10_count (x1 : Int) (h : AH) : Option (Int × AH) :=
  if w32 x1 < 0 then
    some ((-2), h)
  else
    if w32 x1 < 3 then
      asrt (0 ≤ w32 x1 ∧ w32 x1 < 3) <|
      some (h.2 3 (w32 x1).toNat, h)
    else
      some ((-2), h)
set_option maxRecDepth 100000 in
theorem c10_count (l : Launch) (G : Geo) (x1 : Int) (h : AH) : Con l G m10_count rvI 2 [vA G 0, vI x1] h (f10_count x1 h) := by
  have hd : 2 ≤ 2 := Nat.le_refl _
  refine con_I rfl (by decide) rfl rfl (Nat.le_of_ble_eq_true rfl) (L := [some (vA G 0), some (vI x1)]) ?_
  unfold f10_count
  refine den_iload_n (pc := 0) d10_count_0 rfl rfl ?_
  refine den_if_lt (pc := 1) (tgt := 9) d10_count_1 (by decide) rfl (fun _ => ?_) (fun _ => ?_)
  · refine den_bipush (pc := 9) d10_count_9 (by decide) ?_
    refine den_goto (pc := 11) (tgt := 23) d10_count_11 (by decide) ?_
    exact den_iret (pc := 23) rfl d10_count_23
  · refine den_iload_n (pc := 4) d10_count_4 rfl rfl ?_
    refine den_iconst (pc := 5) d10_count_5 ?_
    refine den_icmp_lt (pc := 6) (tgt := 14) d10_count_6 (by decide) rfl (by decide) (fun _ => ?_) (fun _ => ?_)
    · refine den_aload_n (pc := 14) d10_count_14 rfl rfl ?_
      refine den_getR (pc := 15) (b := 1) fa_10_10 (ok_0 _) rfl d10_count_15 ?_
      refine den_getR (pc := 18) (b := 3) fa_10_300 (ok_1 _) rfl d10_count_18 ?_
      refine den_iload_n (pc := 21) d10_count_21 rfl rfl ?_
      refine den_asrt (fun a1 => ?_)
      refine den_iaload (pc := 22) sh_3 (sz_lt (by decide)) rfl a1 d10_count_22 ?_
      exact den_iret (pc := 23) rfl d10_count_23
    · refine den_bipush (pc := 9) d10_count_9 (by decide) ?_
      refine den_goto (pc := 11) (tgt := 23) d10_count_11 (by decide) ?_
      exact den_iret (pc := 23) rfl d10_count_23
theorem d10_image_0 : decode m10_image.2.1 0 = .ok (.iload_n 1, 1) := by decide +kernel
theorem d10_image_1 : decode m10_image.2.1 1 = .ok (.ifCond .lt 8, 3) := by decide +kernel
theorem d10_image_4 : decode m10_image.2.1 4 = .ok (.iload_n 1, 1) := by decide +kernel
theorem d10_image_5 : decode m10_image.2.1 5 = .ok (.iconst 3, 1) := by decide +kernel
theorem d10_image_6 : decode m10_image.2.1 6 = .ok (.if_icmp .lt 5, 3) := by decide +kernel
theorem d10_image_9 : decode m10_image.2.1 9 = .ok (.iconst 0, 1) := by decide +kernel
theorem d10_image_10 : decode m10_image.2.1 10 = .ok (.ireturn, 1) := by decide +kernel
theorem d10_image_11 : decode m10_image.2.1 11 = .ok (.aload_n 0, 1) := by decide +kernel
theorem d10_image_12 : decode m10_image.2.1 12 = .ok (.getfield 16, 3) := by decide +kernel
theorem d10_image_15 : decode m10_image.2.1 15 = .ok (.iload_n 1, 1) := by decide +kernel
theorem d10_image_16 : decode m10_image.2.1 16 = .ok (.aaload, 1) := by decide +kernel
theorem d10_image_17 : decode m10_image.2.1 17 = .ok (.astore_n 2, 1) := by decide +kernel
theorem d10_image_18 : decode m10_image.2.1 18 = .ok (.aload_n 2, 1) := by decide +kernel
theorem d10_image_19 : decode m10_image.2.1 19 = .ok (.ifnonnull 18, 3) := by decide +kernel
theorem d10_image_22 : decode m10_image.2.1 22 = .ok (.new 7, 3) := by decide +kernel
theorem d10_image_25 : decode m10_image.2.1 25 = .ok (.dup, 1) := by decide +kernel
theorem d10_image_26 : decode m10_image.2.1 26 = .ok (.invokespecial 9, 3) := by decide +kernel
theorem d10_image_29 : decode m10_image.2.1 29 = .ok (.astore_n 2, 1) := by decide +kernel
theorem d10_image_30 : decode m10_image.2.1 30 = .ok (.aload_n 0, 1) := by decide +kernel
theorem d10_image_31 : decode m10_image.2.1 31 = .ok (.getfield 16, 3) := by decide +kernel
theorem d10_image_34 : decode m10_image.2.1 34 = .ok (.iload_n 1, 1) := by decide +kernel
theorem d10_image_35 : decode m10_image.2.1 35 = .ok (.aload_n 2, 1) := by decide +kernel
theorem d10_image_36 : decode m10_image.2.1 36 = .ok (.aastore, 1) := by decide +kernel
theorem d10_image_37 : decode m10_image.2.1 37 = .ok (.aload_n 2, 1) := by decide +kernel
theorem d10_image_38 : decode m10_image.2.1 38 = .ok (.aload_n 0, 1) := by decide +kernel
theorem d10_image_39 : decode m10_image.2.1 39 = .ok (.getfield 10, 3) := by decide +kernel
theorem d10_image_42 : decode m10_image.2.1 42 = .ok (.invokevirtual 303, 3) := by decide +kernel
theorem d10_image_45 : decode m10_image.2.1 45 = .ok (.iconst 1, 1) := by decide +kernel
theorem d10_image_46 : decode m10_image.2.1 46 = .ok (.ireturn, 1) := by decide +kernel
def b10_image_37 (x2 : Nat) (h : AH) : Option (Int × AH) :=
  bnd (f8_copy x2 1 h) fun r1 h2 =>
  some (1, h2)
set_option maxRecDepth 100000 in
theorem t10_image_37 (l : Launch) (G : Geo) (d : Nat) (hd : 5 ≤ d) (x2 : Nat) (h : AH) (kx2 : ok h.1 x2 8) : Den l G m10_image rvI d 37 [some (vA G 0), none, some (vA G x2)] [] h (b10_image_37 x2 h) := by
  unfold b10_image_37
  refine den_aload_n (pc := 37) d10_image_37 rfl rfl ?_
  refine den_aload_n (pc := 38) d10_image_38 rfl rfl ?_
  refine den_getR (pc := 39) (b := 1) fa_10_10 (ok_0 _) rfl d10_image_39 ?_
  refine den_callVV (pc := 42) (As := [vA G 1]) fv_10_303 rfl rfl kx2 (Nat.le_of_ble_eq_true rfl) (Nat.le_trans (by decide) hd) d10_image_42 (c8_copy l G x2 1 h kx2 (ok_1 _)) (fun r1 h2 m3 o4 => ?_)
  have q5 := ok.mono kx2 m3
  refine den_iconst (pc := 45) d10_image_45 ?_
  exact den_zret (pc := 46) rfl (by decide) d10_image_46
def f10_image (x1 : Int) (h : AH) : Option (Int × AH) :=
  if w32 x1 < 0 then
    some (0, h)
  else
    if w32 x1 < 3 then
      asrt (0 ≤ w32 x1 ∧ w32 x1 < 3) <|
      asrt (h.2 27 (w32 x1).toNat < 0 ∨ (h.2 27 (w32 x1).toNat).toNat < sz h.1 ∧ shp (h.2 27 (w32 x1).toNat).toNat = (18, 8)) <|
      if (h.2 27 (w32 x1).toNat) < 0 then
        lt (newT h) fun h9 =>
        asrt (0 ≤ w32 x1 ∧ w32 x1 < 3) <|
        lt (wr h9 27 (w32 x1).toNat ((sz h.1 : Nat) : Int)) fun h14 =>
        b10_image_37 (sz h.1) h14
      else
        b10_image_37 ((h.2 27 (w32 x1).toNat).toNat) h
    else
      some (0, h)
set_option maxRecDepth 100000 in
theorem c10_image (l : Launch) (G : Geo) (x1 : Int) (h : AH) : Con l G m10_image rvI 5 [vA G 0, vI x1] h (f10_image x1 h) := by
  have hd : 5 ≤ 5 := Nat.le_refl _
  refine con_Z rfl (by decide) rfl rfl (Nat.le_of_ble_eq_true rfl) (L := [some (vA G 0), some (vI x1), none]) ?_
  unfold f10_image
  refine den_iload_n (pc := 0) d10_image_0 rfl rfl ?_
  refine den_if_lt (pc := 1) (tgt := 9) d10_image_1 (by decide) rfl (fun _ => ?_) (fun _ => ?_)
  · refine den_iconst (pc := 9) d10_image_9 ?_
    exact den_zret (pc := 10) rfl (by decide) d10_image_10
  · refine den_iload_n (pc := 4) d10_image_4 rfl rfl ?_
    refine den_iconst (pc := 5) d10_image_5 ?_
    refine den_icmp_lt (pc := 6) (tgt := 11) d10_image_6 (by decide) rfl (by decide) (fun _ => ?_) (fun _ => ?_)
    · refine den_aload_n (pc := 11) d10_image_11 rfl rfl ?_
      refine den_getR (pc := 12) (b := 27) fa_10_16 (ok_0 _) rfl d10_image_12 ?_
      refine den_iload_n (pc := 15) d10_image_15 rfl rfl ?_
      refine den_asrt (fun a6 => ?_)
      refine den_aaload3 (pc := 16) sh_27 (sz_lt (by decide)) rfl a6 d10_image_16 ?_
      refine den_asrt (fun a7 => ?_)
      refine den_astoreR_n (pc := 17) (L2 := [some (vA G 0), some (vI x1), some (vR G (h.2 27 (w32 x1).toNat))]) d10_image_17 rfl (by decide) rfl ?_
      refine den_aloadR_n (pc := 18) d10_image_18 rfl rfl ?_
      refine den_ifnonnull (pc := 19) (tgt := 37) d10_image_19 (by decide) (fun _ => ?_) (fun n8 => ?_)
      · refine den_newT (pc := 22) fn_10_7 fi_10_9 (Nat.le_of_ble_eq_true rfl) (Nat.le_trans (by decide) hd) d10_image_22 d10_image_25 d10_image_26 ?_
        refine den_ltH (fun h9 m10 => ?_)
        have q12 := Or.imp id (fun z => ok.mono z (Nat.le_trans (Nat.le_succ _) m10)) a7
        have q11 := ok.mono (ok_newT h) m10
        refine den_astore_n (pc := 29) (L2 := [some (vA G 0), some (vI x1), some (vA G (sz h.1))]) d10_image_29 rfl (by decide) rfl ?_
        refine den_aload_n (pc := 30) d10_image_30 rfl rfl ?_
        refine den_getR (pc := 31) (b := 27) fa_10_16 (ok_0 _) rfl d10_image_31 ?_
        refine den_iload_n (pc := 34) d10_image_34 rfl rfl ?_
        refine den_aload_n (pc := 35) d10_image_35 rfl rfl ?_
        refine den_asrt (fun a13 => ?_)
        refine den_aast3 (pc := 36) q11 a13 d10_image_36 ?_
        refine den_ltH (fun h14 m15 => ?_)
        have q16 := ok.mono q11 m15
        refine den_wk [true, false, true] rfl ?_
        exact t10_image_37 l G _ hd (sz h.1) h14 q16
      · rw [vR_pos G n8]
        have q17 := Or.resolve_left a7 n8
        refine den_wk [true, false, true] rfl ?_
        exact t10_image_37 l G _ hd ((h.2 27 (w32 x1).toNat).toNat) h q17
    · refine den_iconst (pc := 9) d10_image_9 ?_
      exact den_zret (pc := 10) rfl (by decide) d10_image_10
theorem d10_again_0 : decode m10_again.2.1 0 = .ok (.iload_n 1, 1) := by decide +kernel
theorem d10_again_1 : decode m10_again.2.1 1 = .ok (.ifCond .lt 8, 3) := by decide +kernel
theorem d10_again_4 : decode m10_again.2.1 4 = .ok (.iload_n 1, 1) := by decide +kernel
theorem d10_again_5 : decode m10_again.2.1 5 = .ok (.iconst 3, 1) := by decide +kernel
theorem d10_again_6 : decode m10_again.2.1 6 = .ok (.if_icmp .lt 7, 3) := by decide +kernel
theorem d10_again_9 : decode m10_again.2.1 9 = .ok (.aconst_null, 1) := by decide +kernel
theorem d10_again_10 : decode m10_again.2.1 10 = .ok (.goto 9, 3) := by decide +kernel
theorem d10_again_13 : decode m10_again.2.1 13 = .ok (.aload_n 0, 1) := by decide +kernel
theorem d10_again_14 : decode m10_again.2.1 14 = .ok (.getfield 16, 3) := by decide +kernel
theorem d10_again_17 : decode m10_again.2.1 17 = .ok (.iload_n 1, 1) := by decide +kernel
theorem d10_again_18 : decode m10_again.2.1 18 = .ok (.aaload, 1) := by decide +kernel
theorem d10_again_19 : decode m10_again.2.1 19 = .ok (.astore_n 2, 1) := by decide +kernel
theorem d10_again_20 : decode m10_again.2.1 20 = .ok (.aload_n 2, 1) := by decide +kernel
theorem d10_again_21 : decode m10_again.2.1 21 = .ok (.ifnonnull 5, 3) := by decide +kernel
theorem d10_again_24 : decode m10_again.2.1 24 = .ok (.iconst 0, 1) := by decide +kernel
theorem d10_again_25 : decode m10_again.2.1 25 = .ok (.ireturn, 1) := by decide +kernel
theorem d10_again_26 : decode m10_again.2.1 26 = .ok (.aload_n 0, 1) := by decide +kernel
theorem d10_again_27 : decode m10_again.2.1 27 = .ok (.getfield 10, 3) := by decide +kernel
theorem d10_again_30 : decode m10_again.2.1 30 = .ok (.aload_n 2, 1) := by decide +kernel
theorem d10_again_31 : decode m10_again.2.1 31 = .ok (.invokevirtual 303, 3) := by decide +kernel
theorem d10_again_34 : decode m10_again.2.1 34 = .ok (.iconst 1, 1) := by decide +kernel
theorem d10_again_35 : decode m10_again.2.1 35 = .ok (.ireturn, 1) := by decide +kernel
def b10_again_19 (s0 : Int) (h : AH) : Option (Int × AH) :=
  if s0 < 0 then
    some (0, h)
  else
    bnd (f8_copy 1 s0.toNat h) fun r3 h4 =>
    some (1, h4)
set_option maxRecDepth 100000 in
theorem t10_again_19 (l : Launch) (G : Geo) (d : Nat) (hd : 5 ≤ d) (s0 : Int) (h : AH) (ks0 : s0 < 0 ∨ ok h.1 s0.toNat 8) : Den l G m10_again rvI d 19 [some (vA G 0), none, none] [vR G s0] h (b10_again_19 s0 h) := by
  unfold b10_again_19
  refine den_astoreR_n (pc := 19) (L2 := [some (vA G 0), none, some (vR G s0)]) d10_again_19 rfl (by decide) rfl ?_
  refine den_aloadR_n (pc := 20) d10_again_20 rfl rfl ?_
  refine den_ifnonnull (pc := 21) (tgt := 26) d10_again_21 (by decide) (fun _ => ?_) (fun n1 => ?_)
  · refine den_iconst (pc := 24) d10_again_24 ?_
    exact den_zret (pc := 25) rfl (by decide) d10_again_25
  · rw [vR_pos G n1]
    have q2 := Or.resolve_left ks0 n1
    refine den_aload_n (pc := 26) d10_again_26 rfl rfl ?_
    refine den_getR (pc := 27) (b := 1) fa_10_10 (ok_0 _) rfl d10_again_27 ?_
    refine den_aload_n (pc := 30) d10_again_30 rfl rfl ?_
    refine den_callVV (pc := 31) (As := [vA G s0.toNat]) fv_10_303 rfl rfl (ok_1 _) (Nat.le_of_ble_eq_true rfl) (Nat.le_trans (by decide) hd) d10_again_31 (c8_copy l G 1 s0.toNat h (ok_1 _) q2) (fun r3 h4 m5 o6 => ?_)
    have q7 := ok.mono q2 m5
    refine den_iconst (pc := 34) d10_again_34 ?_
    exact den_zret (pc := 35) rfl (by decide) d10_again_35
def b10_again_9 (h : AH) : Option (Int × AH) :=
  b10_again_19 (-1) h
set_option maxRecDepth 100000 in
theorem t10_again_9 (l : Launch) (G : Geo) (d : Nat) (hd : 5 ≤ d) (h : AH) : Den l G m10_again rvI d 9 [some (vA G 0), none, none] [] h (b10_again_9 h) := by
  unfold b10_again_9
  refine den_null (pc := 9) d10_again_9 ?_
  refine den_goto (pc := 10) (tgt := 19) d10_again_10 (by decide) ?_
  exact t10_again_19 l G _ hd (-1) h (Or.inl (by decide))
def f10_again (x1 : Int) (h : AH) : Option (Int × AH) :=
  if w32 x1 < 0 then
    b10_again_9 h
  else
    if w32 x1 < 3 then
      asrt (0 ≤ w32 x1 ∧ w32 x1 < 3) <|
      asrt (h.2 27 (w32 x1).toNat < 0 ∨ (h.2 27 (w32 x1).toNat).toNat < sz h.1 ∧ shp (h.2 27 (w32 x1).toNat).toNat = (18, 8)) <|
      b10_again_19 (h.2 27 (w32 x1).toNat) h
    else
      b10_again_9 h
set_option maxRecDepth 100000 in
theorem c10_again (l : Launch) (G : Geo) (x1 : Int) (h : AH) : Con l G m10_again rvI 5 [vA G 0, vI x1] h (f10_again x1 h) := by
  have hd : 5 ≤ 5 := Nat.le_refl _
  refine con_Z rfl (by decide) rfl rfl (Nat.le_of_ble_eq_true rfl) (L := [some (vA G 0), some (vI x1), none]) ?_
  unfold f10_again
  refine den_iload_n (pc := 0) d10_again_0 rfl rfl ?_
  refine den_if_lt (pc := 1) (tgt := 9) d10_again_1 (by decide) rfl (fun _ => ?_) (fun _ => ?_)
  · refine den_wk [true, false, true] rfl ?_
    exact t10_again_9 l G _ hd h
  · refine den_iload_n (pc := 4) d10_again_4 rfl rfl ?_
    refine den_iconst (pc := 5) d10_again_5 ?_
    refine den_icmp_lt (pc := 6) (tgt := 13) d10_again_6 (by decide) rfl (by decide) (fun _ => ?_) (fun _ => ?_)
    · refine den_aload_n (pc := 13) d10_again_13 rfl rfl ?_
      refine den_getR (pc := 14) (b := 27) fa_10_16 (ok_0 _) rfl d10_again_14 ?_
      refine den_iload_n (pc := 17) d10_again_17 rfl rfl ?_
      refine den_asrt (fun a8 => ?_)
      refine den_aaload3 (pc := 18) sh_27 (sz_lt (by decide)) rfl a8 d10_again_18 ?_
      refine den_asrt (fun a9 => ?_)
      refine den_wk [true, false, true] rfl ?_
      exact t10_again_19 l G _ hd (h.2 27 (w32 x1).toNat) h a9
    · refine den_wk [true, false, true] rfl ?_
      exact t10_again_9 l G _ hd h
theorem d11_isIn_0 : decode m11_isIn.2.1 0 = .ok (.iload_n 0, 1) := by decide +kernel
theorem d11_isIn_1 : decode m11_isIn.2.1 1 = .ok (.iload_n 1, 1) := by decide +kernel
theorem d11_isIn_2 : decode m11_isIn.2.1 2 = .ok (.if_icmp .lt 12, 3) := by decide +kernel
theorem d11_isIn_5 : decode m11_isIn.2.1 5 = .ok (.iload_n 0, 1) := by decide +kernel
theorem d11_isIn_6 : decode m11_isIn.2.1 6 = .ok (.iload_n 2, 1) := by decide +kernel
theorem d11_isIn_7 : decode m11_isIn.2.1 7 = .ok (.if_icmp .gt 7, 3) := by decide +kernel
theorem d11_isIn_10 : decode m11_isIn.2.1 10 = .ok (.iconst 1, 1) := by decide +kernel
theorem d11_isIn_11 : decode m11_isIn.2.1 11 = .ok (.goto 4, 3) := by decide +kernel
theorem d11_isIn_14 : decode m11_isIn.2.1 14 = .ok (.iconst 0, 1) := by decide +kernel
theorem d11_isIn_15 : decode m11_isIn.2.1 15 = .ok (.ireturn, 1) := by decide +kernel
def f11_isIn (x0 : Int) (x1 : Int) (x2 : Int) (h : AH) : Option (Int × AH) :=
  if w32 x0 < w32 x1 then
    some (0, h)
  else
    if w32 x2 < w32 x0 then
      some (0, h)
    else
      some (1, h)
set_option maxRecDepth 100000 in
theorem c11_isIn (l : Launch) (G : Geo) (x0 : Int) (x1 : Int) (x2 : Int) (h : AH) : Con l G m11_isIn rvI 2 [vI x0, vI x1, vI x2] h (f11_isIn x0 x1 x2 h) := by
  have hd : 2 ≤ 2 := Nat.le_refl _
  refine con_Z rfl (by decide) rfl rfl (Nat.le_of_ble_eq_true rfl) (L := [some (vI x0), some (vI x1), some (vI x2)]) ?_
  unfold f11_isIn
  refine den_iload_n (pc := 0) d11_isIn_0 rfl rfl ?_
  refine den_iload_n (pc := 1) d11_isIn_1 rfl rfl ?_
  refine den_icmp_lt (pc := 2) (tgt := 14) d11_isIn_2 (by decide) rfl rfl (fun _ => ?_) (fun _ => ?_)
  · refine den_iconst (pc := 14) d11_isIn_14 ?_
    exact den_zret (pc := 15) rfl (by decide) d11_isIn_15
  · refine den_iload_n (pc := 5) d11_isIn_5 rfl rfl ?_
    refine den_iload_n (pc := 6) d11_isIn_6 rfl rfl ?_
    refine den_icmp_gt (pc := 7) (tgt := 14) d11_isIn_7 (by decide) rfl rfl (fun _ => ?_) (fun _ => ?_)
    · refine den_iconst (pc := 14) d11_isIn_14 ?_
      exact den_zret (pc := 15) rfl (by decide) d11_isIn_15
    · refine den_iconst (pc := 10) d11_isIn_10 ?_
      refine den_goto (pc := 11) (tgt := 15) d11_isIn_11 (by decide) ?_
      exact den_zret (pc := 15) rfl (by decide) d11_isIn_15
theorem d11_feed_0 : decode m11_feed.2.1 0 = .ok (.aload_n 0, 1) := by decide +kernel
theorem d11_feed_1 : decode m11_feed.2.1 1 = .ok (.getfield 7, 3) := by decide +kernel
theorem d11_feed_4 : decode m11_feed.2.1 4 = .ok (.iconst 4, 1) := by decide +kernel
theorem d11_feed_5 : decode m11_feed.2.1 5 = .ok (.iaload, 1) := by decide +kernel
theorem d11_feed_6 : decode m11_feed.2.1 6 = .ok (.bipush 20, 2) := by decide +kernel
theorem d11_feed_8 : decode m11_feed.2.1 8 = .ok (.iadd, 1) := by decide +kernel
theorem d11_feed_9 : decode m11_feed.2.1 9 = .ok (.sipush 600, 3) := by decide +kernel
theorem d11_feed_12 : decode m11_feed.2.1 12 = .ok (.if_icmp .le 5, 3) := by decide +kernel
theorem d11_feed_15 : decode m11_feed.2.1 15 = .ok (.iconst (-1), 1) := by decide +kernel
theorem d11_feed_16 : decode m11_feed.2.1 16 = .ok (.ireturn, 1) := by decide +kernel
theorem d11_feed_17 : decode m11_feed.2.1 17 = .ok (.iconst 0, 1) := by decide +kernel
theorem d11_feed_18 : decode m11_feed.2.1 18 = .ok (.istore 6, 2) := by decide +kernel
theorem d11_feed_20 : decode m11_feed.2.1 20 = .ok (.iload 6, 2) := by decide +kernel
theorem d11_feed_22 : decode m11_feed.2.1 22 = .ok (.bipush 20, 2) := by decide +kernel
theorem d11_feed_24 : decode m11_feed.2.1 24 = .ok (.if_icmp .ge 98, 3) := by decide +kernel
theorem d11_feed_27 : decode m11_feed.2.1 27 = .ok (.iload 6, 2) := by decide +kernel
theorem d11_feed_29 : decode m11_feed.2.1 29 = .ok (.iconst 4, 1) := by decide +kernel
theorem d11_feed_30 : decode m11_feed.2.1 30 = .ok (.if_icmp .ge 7, 3) := by decide +kernel
theorem d11_feed_33 : decode m11_feed.2.1 33 = .ok (.iload_n 1, 1) := by decide +kernel
theorem d11_feed_34 : decode m11_feed.2.1 34 = .ok (.goto 39, 3) := by decide +kernel
theorem d11_feed_37 : decode m11_feed.2.1 37 = .ok (.iload 6, 2) := by decide +kernel
theorem d11_feed_39 : decode m11_feed.2.1 39 = .ok (.bipush 8, 2) := by decide +kernel
theorem d11_feed_41 : decode m11_feed.2.1 41 = .ok (.if_icmp .ge 7, 3) := by decide +kernel
theorem d11_feed_44 : decode m11_feed.2.1 44 = .ok (.iload_n 2, 1) := by decide +kernel
theorem d11_feed_45 : decode m11_feed.2.1 45 = .ok (.goto 28, 3) := by decide +kernel
theorem d11_feed_48 : decode m11_feed.2.1 48 = .ok (.iload 6, 2) := by decide +kernel
theorem d11_feed_50 : decode m11_feed.2.1 50 = .ok (.bipush 12, 2) := by decide +kernel
theorem d11_feed_52 : decode m11_feed.2.1 52 = .ok (.if_icmp .ge 7, 3) := by decide +kernel
theorem d11_feed_55 : decode m11_feed.2.1 55 = .ok (.iload_n 3, 1) := by decide +kernel
theorem d11_feed_56 : decode m11_feed.2.1 56 = .ok (.goto 17, 3) := by decide +kernel
theorem d11_feed_59 : decode m11_feed.2.1 59 = .ok (.iload 6, 2) := by decide +kernel
theorem d11_feed_61 : decode m11_feed.2.1 61 = .ok (.bipush 16, 2) := by decide +kernel
theorem d11_feed_63 : decode m11_feed.2.1 63 = .ok (.if_icmp .ge 8, 3) := by decide +kernel
theorem d11_feed_66 : decode m11_feed.2.1 66 = .ok (.iload 4, 2) := by decide +kernel
theorem d11_feed_68 : decode m11_feed.2.1 68 = .ok (.goto 5, 3) := by decide +kernel
theorem d11_feed_71 : decode m11_feed.2.1 71 = .ok (.iload 5, 2) := by decide +kernel
theorem d11_feed_73 : decode m11_feed.2.1 73 = .ok (.istore 7, 2) := by decide +kernel
theorem d11_feed_75 : decode m11_feed.2.1 75 = .ok (.aload_n 0, 1) := by decide +kernel
theorem d11_feed_76 : decode m11_feed.2.1 76 = .ok (.getfield 7, 3) := by decide +kernel
theorem d11_feed_79 : decode m11_feed.2.1 79 = .ok (.bipush 10, 2) := by decide +kernel
theorem d11_feed_81 : decode m11_feed.2.1 81 = .ok (.aload_n 0, 1) := by decide +kernel
theorem d11_feed_82 : decode m11_feed.2.1 82 = .ok (.getfield 7, 3) := by decide +kernel
theorem d11_feed_85 : decode m11_feed.2.1 85 = .ok (.iconst 4, 1) := by decide +kernel
theorem d11_feed_86 : decode m11_feed.2.1 86 = .ok (.iaload, 1) := by decide +kernel
theorem d11_feed_87 : decode m11_feed.2.1 87 = .ok (.iadd, 1) := by decide +kernel
theorem d11_feed_88 : decode m11_feed.2.1 88 = .ok (.iload 7, 2) := by decide +kernel
theorem d11_feed_90 : decode m11_feed.2.1 90 = .ok (.bipush 24, 2) := by decide +kernel
theorem d11_feed_92 : decode m11_feed.2.1 92 = .ok (.bipush 8, 2) := by decide +kernel
theorem d11_feed_94 : decode m11_feed.2.1 94 = .ok (.iload 6, 2) := by decide +kernel
theorem d11_feed_96 : decode m11_feed.2.1 96 = .ok (.iconst 4, 1) := by decide +kernel
theorem d11_feed_97 : decode m11_feed.2.1 97 = .ok (.irem, 1) := by decide +kernel
theorem d11_feed_98 : decode m11_feed.2.1 98 = .ok (.imul, 1) := by decide +kernel
theorem d11_feed_99 : decode m11_feed.2.1 99 = .ok (.isub, 1) := by decide +kernel
theorem d11_feed_100 : decode m11_feed.2.1 100 = .ok (.ishr, 1) := by decide +kernel
theorem d11_feed_101 : decode m11_feed.2.1 101 = .ok (.sipush 255, 3) := by decide +kernel
theorem d11_feed_104 : decode m11_feed.2.1 104 = .ok (.iand, 1) := by decide +kernel
theorem d11_feed_105 : decode m11_feed.2.1 105 = .ok (.iastore, 1) := by decide +kernel
theorem d11_feed_106 : decode m11_feed.2.1 106 = .ok (.aload_n 0, 1) := by decide +kernel
theorem d11_feed_107 : decode m11_feed.2.1 107 = .ok (.getfield 7, 3) := by decide +kernel
theorem d11_feed_110 : decode m11_feed.2.1 110 = .ok (.iconst 4, 1) := by decide +kernel
theorem d11_feed_111 : decode m11_feed.2.1 111 = .ok (.dup2, 1) := by decide +kernel
theorem d11_feed_112 : decode m11_feed.2.1 112 = .ok (.iaload, 1) := by decide +kernel
theorem d11_feed_113 : decode m11_feed.2.1 113 = .ok (.iconst 1, 1) := by decide +kernel
theorem d11_feed_114 : decode m11_feed.2.1 114 = .ok (.iadd, 1) := by decide +kernel
theorem d11_feed_115 : decode m11_feed.2.1 115 = .ok (.iastore, 1) := by decide +kernel
theorem d11_feed_116 : decode m11_feed.2.1 116 = .ok (.iinc 6 1, 3) := by decide +kernel
theorem d11_feed_119 : decode m11_feed.2.1 119 = .ok (.goto (-99), 3) := by decide +kernel
theorem d11_feed_122 : decode m11_feed.2.1 122 = .ok (.aload_n 0, 1) := by decide +kernel
theorem d11_feed_123 : decode m11_feed.2.1 123 = .ok (.getfield 7, 3) := by decide +kernel
theorem d11_feed_126 : decode m11_feed.2.1 126 = .ok (.iconst 4, 1) := by decide +kernel
theorem d11_feed_127 : decode m11_feed.2.1 127 = .ok (.iaload, 1) := by decide +kernel
theorem d11_feed_128 : decode m11_feed.2.1 128 = .ok (.ireturn, 1) := by decide +kernel
def b11_feed_73 (rec20 : Int × AH → Option (Int × AH)) (x1 : Int) (x2 : Int) (x3 : Int) (x4 : Int) (x5 : Int) (x6 : Int) (s0 : Int) (h : AH) : Option (Int × AH) :=
  asrt (0 ≤ w32 4 ∧ w32 4 < 4824) <|
  asrt (0 ≤ w32 (10 + (h.2 70 (w32 4).toNat)) ∧ w32 (10 + (h.2 70 (w32 4).toNat)) < 4824) <|
  lt (wr h 70 (w32 (10 + (h.2 70 (w32 4).toNat))).toNat (and32 (shr32 s0 (24 - (8 * (rm32 x6 4)))) 255)) fun h3 =>
  asrt (0 ≤ w32 4 ∧ w32 4 < 4824) <|
  asrt (0 ≤ w32 4 ∧ w32 4 < 4824) <|
  lt (wr h3 70 (w32 4).toNat ((h3.2 70 (w32 4).toNat) + 1)) fun h7 =>
  rec20 ((x6 + 1), h7)
set_option maxRecDepth 100000 in
theorem t11_feed_73 (l : Launch) (G : Geo) (d : Nat) (hd : 2 ≤ d) (x1 : Int) (x2 : Int) (x3 : Int) (x4 : Int) (x5 : Int) (x6 : Int) (s0 : Int) (rec20 : Int × AH → Option (Int × AH)) (H20 : ∀ (x6 : Int) (h : AH), Den l G m11_feed rvI d 20 [some (vA G 69), some (vI x1), some (vI x2), some (vI x3), some (vI x4), some (vI x5), some (vI x6), none] [] h (rec20 (x6, h))) (h : AH) : Den l G m11_feed rvI d 73 [some (vA G 69), some (vI x1), some (vI x2), some (vI x3), some (vI x4), some (vI x5), some (vI x6), none] [vI s0] h (b11_feed_73 rec20 x1 x2 x3 x4 x5 x6 s0 h) := by
  unfold b11_feed_73
  refine den_istore (pc := 73) (L2 := [some (vA G 69), some (vI x1), some (vI x2), some (vI x3), some (vI x4), some (vI x5), some (vI x6), some (vI s0)]) d11_feed_73 (by decide) rfl ?_
  refine den_aload_n (pc := 75) d11_feed_75 rfl rfl ?_
  refine den_getR (pc := 76) (b := 70) fa_11_7 (ok_69 _) rfl d11_feed_76 ?_
  refine den_bipush (pc := 79) d11_feed_79 (by decide) ?_
  refine den_aload_n (pc := 81) d11_feed_81 rfl rfl ?_
  refine den_getR (pc := 82) (b := 70) fa_11_7 (ok_69 _) rfl d11_feed_82 ?_
  refine den_iconst (pc := 85) d11_feed_85 ?_
  refine den_asrt (fun a1 => ?_)
  refine den_iaload (pc := 86) sh_70 (sz_lt (by decide)) rfl a1 d11_feed_86 ?_
  refine den_iadd (pc := 87) d11_feed_87 ?_
  refine den_iload (pc := 88) d11_feed_88 rfl ?_
  refine den_bipush (pc := 90) d11_feed_90 (by decide) ?_
  refine den_bipush (pc := 92) d11_feed_92 (by decide) ?_
  refine den_iload (pc := 94) d11_feed_94 rfl ?_
  refine den_iconst (pc := 96) d11_feed_96 ?_
  refine den_irem (pc := 97) d11_feed_97 (by decide) ?_
  refine den_imul (pc := 98) d11_feed_98 ?_
  refine den_isub (pc := 99) d11_feed_99 ?_
  refine den_ishr (pc := 100) d11_feed_100 ?_
  refine den_sipush (pc := 101) d11_feed_101 (by decide) ?_
  refine den_iand (pc := 104) d11_feed_104 ?_
  refine den_asrt (fun a2 => ?_)
  refine den_iastore (pc := 105) sh_70 (sz_lt (by decide)) rfl a2 d11_feed_105 ?_
  refine den_ltH (fun h3 m4 => ?_)
  refine den_aload_n (pc := 106) d11_feed_106 rfl rfl ?_
  refine den_getR (pc := 107) (b := 70) fa_11_7 (ok_69 _) rfl d11_feed_107 ?_
  refine den_iconst (pc := 110) d11_feed_110 ?_
  refine den_dup2 (pc := 111) d11_feed_111 rfl rfl ?_
  refine den_asrt (fun a5 => ?_)
  refine den_iaload (pc := 112) sh_70 (sz_lt (by decide)) rfl a5 d11_feed_112 ?_
  refine den_iconst (pc := 113) d11_feed_113 ?_
  refine den_iadd (pc := 114) d11_feed_114 ?_
  refine den_asrt (fun a6 => ?_)
  refine den_iastore (pc := 115) sh_70 (sz_lt (by decide)) rfl a6 d11_feed_115 ?_
  refine den_ltH (fun h7 m8 => ?_)
  refine den_iinc (pc := 116) (L2 := [some (vA G 69), some (vI x1), some (vI x2), some (vI x3), some (vI x4), some (vI x5), some (vI (x6 + 1)), some (vI s0)]) d11_feed_116 (by decide) rfl rfl ?_
  refine den_goto (pc := 119) (tgt := 20) d11_feed_119 (by decide) ?_
  refine den_wk [true, true, true, true, true, true, true, false] rfl ?_
  exact H20 (x6 + 1) h7
def b11_feed_20 (rec20 : Int × AH → Option (Int × AH)) (x1 : Int) (x2 : Int) (x3 : Int) (x4 : Int) (x5 : Int) (x6 : Int) (h : AH) : Option (Int × AH) :=
  if 20 ≤ w32 x6 then
    asrt (0 ≤ w32 4 ∧ w32 4 < 4824) <|
    some (h.2 70 (w32 4).toNat, h)
  else
    if 4 ≤ w32 x6 then
      if 8 ≤ w32 x6 then
        if 12 ≤ w32 x6 then
          if 16 ≤ w32 x6 then
            b11_feed_73 rec20 x1 x2 x3 x4 x5 x6 x5 h
          else
            b11_feed_73 rec20 x1 x2 x3 x4 x5 x6 x4 h
        else
          b11_feed_73 rec20 x1 x2 x3 x4 x5 x6 x3 h
      else
        b11_feed_73 rec20 x1 x2 x3 x4 x5 x6 x2 h
    else
      b11_feed_73 rec20 x1 x2 x3 x4 x5 x6 x1 h
set_option maxRecDepth 100000 in
theorem t11_feed_20 (l : Launch) (G : Geo) (d : Nat) (hd : 2 ≤ d) (x1 : Int) (x2 : Int) (x3 : Int) (x4 : Int) (x5 : Int) (x6 : Int) (rec20 : Int × AH → Option (Int × AH)) (H20 : ∀ (x6 : Int) (h : AH), Den l G m11_feed rvI d 20 [some (vA G 69), some (vI x1), some (vI x2), some (vI x3), some (vI x4), some (vI x5), some (vI x6), none] [] h (rec20 (x6, h))) (h : AH) : Den l G m11_feed rvI d 20 [some (vA G 69), some (vI x1), some (vI x2), some (vI x3), some (vI x4), some (vI x5), some (vI x6), none] [] h (b11_feed_20 rec20 x1 x2 x3 x4 x5 x6 h) := by
  unfold b11_feed_20
  refine den_iload (pc := 20) d11_feed_20 rfl ?_
  refine den_bipush (pc := 22) d11_feed_22 (by decide) ?_
  refine den_icmp_ge (pc := 24) (tgt := 122) d11_feed_24 (by decide) rfl (by decide) (fun _ => ?_) (fun _ => ?_)
  · refine den_aload_n (pc := 122) d11_feed_122 rfl rfl ?_
    refine den_getR (pc := 123) (b := 70) fa_11_7 (ok_69 _) rfl d11_feed_123 ?_
    refine den_iconst (pc := 126) d11_feed_126 ?_
    refine den_asrt (fun a9 => ?_)
    refine den_iaload (pc := 127) sh_70 (sz_lt (by decide)) rfl a9 d11_feed_127 ?_
    exact den_iret (pc := 128) rfl d11_feed_128
  · refine den_iload (pc := 27) d11_feed_27 rfl ?_
    refine den_iconst (pc := 29) d11_feed_29 ?_
    refine den_icmp_ge (pc := 30) (tgt := 37) d11_feed_30 (by decide) rfl (by decide) (fun _ => ?_) (fun _ => ?_)
    · refine den_iload (pc := 37) d11_feed_37 rfl ?_
      refine den_bipush (pc := 39) d11_feed_39 (by decide) ?_
      refine den_icmp_ge (pc := 41) (tgt := 48) d11_feed_41 (by decide) rfl (by decide) (fun _ => ?_) (fun _ => ?_)
      · refine den_iload (pc := 48) d11_feed_48 rfl ?_
        refine den_bipush (pc := 50) d11_feed_50 (by decide) ?_
        refine den_icmp_ge (pc := 52) (tgt := 59) d11_feed_52 (by decide) rfl (by decide) (fun _ => ?_) (fun _ => ?_)
        · refine den_iload (pc := 59) d11_feed_59 rfl ?_
          refine den_bipush (pc := 61) d11_feed_61 (by decide) ?_
          refine den_icmp_ge (pc := 63) (tgt := 71) d11_feed_63 (by decide) rfl (by decide) (fun _ => ?_) (fun _ => ?_)
          · refine den_iload (pc := 71) d11_feed_71 rfl ?_
            exact t11_feed_73 l G _ hd x1 x2 x3 x4 x5 x6 x5 rec20 H20 h
          · refine den_iload (pc := 66) d11_feed_66 rfl ?_
            refine den_goto (pc := 68) (tgt := 73) d11_feed_68 (by decide) ?_
            exact t11_feed_73 l G _ hd x1 x2 x3 x4 x5 x6 x4 rec20 H20 h
        · refine den_iload_n (pc := 55) d11_feed_55 rfl rfl ?_
          refine den_goto (pc := 56) (tgt := 73) d11_feed_56 (by decide) ?_
          exact t11_feed_73 l G _ hd x1 x2 x3 x4 x5 x6 x3 rec20 H20 h
      · refine den_iload_n (pc := 44) d11_feed_44 rfl rfl ?_
        refine den_goto (pc := 45) (tgt := 73) d11_feed_45 (by decide) ?_
        exact t11_feed_73 l G _ hd x1 x2 x3 x4 x5 x6 x2 rec20 H20 h
    · refine den_iload_n (pc := 33) d11_feed_33 rfl rfl ?_
      refine den_goto (pc := 34) (tgt := 73) d11_feed_34 (by decide) ?_
      exact t11_feed_73 l G _ hd x1 x2 x3 x4 x5 x6 x1 rec20 H20 h
def l11_feed_20 (x1 : Int) (x2 : Int) (x3 : Int) (x4 : Int) (x5 : Int) (x6 : Int) (h : AH) : Option (Int × AH) := fx (fun rec z => b11_feed_20 rec x1 x2 x3 x4 x5 z.1 z.2) FU (x6, h)
set_option maxRecDepth 100000 in
theorem tl11_feed_20 (l : Launch) (G : Geo) (d : Nat) (hd : 2 ≤ d) (x1 : Int) (x2 : Int) (x3 : Int) (x4 : Int) (x5 : Int) : ∀ (n : Nat) (z : Int × AH), True → Den l G m11_feed rvI d 20 [some (vA G 69), some (vI x1), some (vI x2), some (vI x3), some (vI x4), some (vI x5), some (vI z.1), none] [] z.2 (fx (fun rec z => b11_feed_20 rec x1 x2 x3 x4 x5 z.1 z.2) n z) :=
  den_fx (F := fun rec z => b11_feed_20 rec x1 x2 x3 x4 x5 z.1 z.2) (P := fun z => True) (fL := fun z => [some (vA G 69), some (vI x1), some (vI x2), some (vI x3), some (vI x4), some (vI x5), some (vI z.1), none]) (fs := fun z => []) (fh := fun z => z.2) (fun rec hrec z hz => t11_feed_20 l G d hd x1 x2 x3 x4 x5 z.1 rec (fun x6 h => hrec (x6, h) trivial) z.2 )
def f11_feed (x1 : Int) (x2 : Int) (x3 : Int) (x4 : Int) (x5 : Int) (h : AH) : Option (Int × AH) :=
  asrt (0 ≤ w32 4 ∧ w32 4 < 4824) <|
  if w32 ((h.2 70 (w32 4).toNat) + 20) ≤ 600 then
    l11_feed_20 x1 x2 x3 x4 x5 0 h
  else
    some ((-1), h)
set_option maxRecDepth 100000 in
theorem c11_feed (l : Launch) (G : Geo) (x1 : Int) (x2 : Int) (x3 : Int) (x4 : Int) (x5 : Int) (h : AH) : Con l G m11_feed rvI 2 [vA G 69, vI x1, vI x2, vI x3, vI x4, vI x5] h (f11_feed x1 x2 x3 x4 x5 h) := by
  have hd : 2 ≤ 2 := Nat.le_refl _
  refine con_I rfl (by decide) rfl rfl (Nat.le_of_ble_eq_true rfl) (L := [some (vA G 69), some (vI x1), some (vI x2), some (vI x3), some (vI x4), some (vI x5), none, none]) ?_
  unfold f11_feed
  refine den_aload_n (pc := 0) d11_feed_0 rfl rfl ?_
  refine den_getR (pc := 1) (b := 70) fa_11_7 (ok_69 _) rfl d11_feed_1 ?_
  refine den_iconst (pc := 4) d11_feed_4 ?_
  refine den_asrt (fun a10 => ?_)
  refine den_iaload (pc := 5) sh_70 (sz_lt (by decide)) rfl a10 d11_feed_5 ?_
  refine den_bipush (pc := 6) d11_feed_6 (by decide) ?_
  refine den_iadd (pc := 8) d11_feed_8 ?_
  refine den_sipush (pc := 9) d11_feed_9 (by decide) ?_
  refine den_icmp_le (pc := 12) (tgt := 17) d11_feed_12 (by decide) rfl (by decide) (fun _ => ?_) (fun _ => ?_)
  · refine den_iconst (pc := 17) d11_feed_17 ?_
    refine den_istore (pc := 18) (L2 := [some (vA G 69), some (vI x1), some (vI x2), some (vI x3), some (vI x4), some (vI x5), some (vI 0), none]) d11_feed_18 (by decide) rfl ?_
    exact tl11_feed_20 l G _ hd x1 x2 x3 x4 x5 FU (0, h) trivial
  · refine den_iconst (pc := 15) d11_feed_15 ?_
    exact den_iret (pc := 16) rfl d11_feed_16
theorem d11_end_0 : decode m11_end.2.1 0 = .ok (.iload_n 1, 1) := by decide +kernel
theorem d11_end_1 : decode m11_end.2.1 1 = .ok (.ifCond .lt 13, 3) := by decide +kernel
theorem d11_end_4 : decode m11_end.2.1 4 = .ok (.iload_n 1, 1) := by decide +kernel
theorem d11_end_5 : decode m11_end.2.1 5 = .ok (.aload_n 0, 1) := by decide +kernel
theorem d11_end_6 : decode m11_end.2.1 6 = .ok (.getfield 7, 3) := by decide +kernel
theorem d11_end_9 : decode m11_end.2.1 9 = .ok (.iconst 4, 1) := by decide +kernel
theorem d11_end_10 : decode m11_end.2.1 10 = .ok (.iaload, 1) := by decide +kernel
theorem d11_end_11 : decode m11_end.2.1 11 = .ok (.if_icmp .le 5, 3) := by decide +kernel
theorem d11_end_14 : decode m11_end.2.1 14 = .ok (.iconst (-1), 1) := by decide +kernel
theorem d11_end_15 : decode m11_end.2.1 15 = .ok (.ireturn, 1) := by decide +kernel
theorem d11_end_16 : decode m11_end.2.1 16 = .ok (.aload_n 0, 1) := by decide +kernel
theorem d11_end_17 : decode m11_end.2.1 17 = .ok (.getfield 7, 3) := by decide +kernel
theorem d11_end_20 : decode m11_end.2.1 20 = .ok (.iconst 4, 1) := by decide +kernel
theorem d11_end_21 : decode m11_end.2.1 21 = .ok (.iload_n 1, 1) := by decide +kernel
theorem d11_end_22 : decode m11_end.2.1 22 = .ok (.iastore, 1) := by decide +kernel
theorem d11_end_23 : decode m11_end.2.1 23 = .ok (.iload_n 1, 1) := by decide +kernel
theorem d11_end_24 : decode m11_end.2.1 24 = .ok (.ireturn, 1) := by decide +kernel
def f11_end (x1 : Int) (h : AH) : Option (Int × AH) :=
  if w32 x1 < 0 then
    some ((-1), h)
  else
    asrt (0 ≤ w32 4 ∧ w32 4 < 4824) <|
    if w32 x1 ≤ w32 (h.2 70 (w32 4).toNat) then
      asrt (0 ≤ w32 4 ∧ w32 4 < 4824) <|
      lt (wr h 70 (w32 4).toNat x1) fun h3 =>
      some (x1, h3)
    else
      some ((-1), h)
set_option maxRecDepth 100000 in
theorem c11_end (l : Launch) (G : Geo) (x1 : Int) (h : AH) : Con l G m11_end rvI 2 [vA G 69, vI x1] h (f11_end x1 h) := by
  have hd : 2 ≤ 2 := Nat.le_refl _
  refine con_I rfl (by decide) rfl rfl (Nat.le_of_ble_eq_true rfl) (L := [some (vA G 69), some (vI x1)]) ?_
  unfold f11_end
  refine den_iload_n (pc := 0) d11_end_0 rfl rfl ?_
  refine den_if_lt (pc := 1) (tgt := 14) d11_end_1 (by decide) rfl (fun _ => ?_) (fun _ => ?_)
  · refine den_iconst (pc := 14) d11_end_14 ?_
    exact den_iret (pc := 15) rfl d11_end_15
  · refine den_iload_n (pc := 4) d11_end_4 rfl rfl ?_
    refine den_aload_n (pc := 5) d11_end_5 rfl rfl ?_
    refine den_getR (pc := 6) (b := 70) fa_11_7 (ok_69 _) rfl d11_end_6 ?_
    refine den_iconst (pc := 9) d11_end_9 ?_
    refine den_asrt (fun a1 => ?_)
    refine den_iaload (pc := 10) sh_70 (sz_lt (by decide)) rfl a1 d11_end_10 ?_
    refine den_icmp_le (pc := 11) (tgt := 16) d11_end_11 (by decide) rfl rfl (fun _ => ?_) (fun _ => ?_)
    · refine den_aload_n (pc := 16) d11_end_16 rfl rfl ?_
      refine den_getR (pc := 17) (b := 70) fa_11_7 (ok_69 _) rfl d11_end_17 ?_
      refine den_iconst (pc := 20) d11_end_20 ?_
      refine den_iload_n (pc := 21) d11_end_21 rfl rfl ?_
      refine den_asrt (fun a2 => ?_)
      refine den_iastore (pc := 22) sh_70 (sz_lt (by decide)) rfl a2 d11_end_22 ?_
      refine den_ltH (fun h3 m4 => ?_)
      refine den_iload_n (pc := 23) d11_end_23 rfl rfl ?_
      exact den_iret (pc := 24) rfl d11_end_24
    · refine den_iconst (pc := 14) d11_end_14 ?_
      exact den_iret (pc := 15) rfl d11_end_15
theorem d11_byteAt_0 : decode m11_byteAt.2.1 0 = .ok (.iload_n 1, 1) := by decide +kernel
theorem d11_byteAt_1 : decode m11_byteAt.2.1 1 = .ok (.aload_n 0, 1) := by decide +kernel
theorem d11_byteAt_2 : decode m11_byteAt.2.1 2 = .ok (.getfield 80, 3) := by decide +kernel
theorem d11_byteAt_5 : decode m11_byteAt.2.1 5 = .ok (.if_icmp .ge 15, 3) := by decide +kernel
theorem d11_byteAt_8 : decode m11_byteAt.2.1 8 = .ok (.aload_n 0, 1) := by decide +kernel
theorem d11_byteAt_9 : decode m11_byteAt.2.1 9 = .ok (.getfield 7, 3) := by decide +kernel
theorem d11_byteAt_12 : decode m11_byteAt.2.1 12 = .ok (.bipush 10, 2) := by decide +kernel
theorem d11_byteAt_14 : decode m11_byteAt.2.1 14 = .ok (.iload_n 1, 1) := by decide +kernel
theorem d11_byteAt_15 : decode m11_byteAt.2.1 15 = .ok (.iadd, 1) := by decide +kernel
theorem d11_byteAt_16 : decode m11_byteAt.2.1 16 = .ok (.iaload, 1) := by decide +kernel
theorem d11_byteAt_17 : decode m11_byteAt.2.1 17 = .ok (.goto 4, 3) := by decide +kernel
theorem d11_byteAt_20 : decode m11_byteAt.2.1 20 = .ok (.iconst (-1), 1) := by decide +kernel
theorem d11_byteAt_21 : decode m11_byteAt.2.1 21 = .ok (.ireturn, 1) := by decide +kernel
def f11_byteAt (x1 : Int) (h : AH) : Option (Int × AH) :=
  if w32 (h.2 69 2) ≤ w32 x1 then
    some ((-1), h)
  else
    asrt (0 ≤ w32 (10 + x1) ∧ w32 (10 + x1) < 4824) <|
    some (h.2 70 (w32 (10 + x1)).toNat, h)
set_option maxRecDepth 100000 in
theorem c11_byteAt (l : Launch) (G : Geo) (x1 : Int) (h : AH) : Con l G m11_byteAt rvI 2 [vA G 69, vI x1] h (f11_byteAt x1 h) := by
  have hd : 2 ≤ 2 := Nat.le_refl _
  refine con_I rfl (by decide) rfl rfl (Nat.le_of_ble_eq_true rfl) (L := [some (vA G 69), some (vI x1)]) ?_
  unfold f11_byteAt
  refine den_iload_n (pc := 0) d11_byteAt_0 rfl rfl ?_
  refine den_aload_n (pc := 1) d11_byteAt_1 rfl rfl ?_
  refine den_getI (pc := 2) fa_11_80 (ok_69 _) d11_byteAt_2 ?_
  refine den_icmp_ge (pc := 5) (tgt := 20) d11_byteAt_5 (by decide) rfl rfl (fun _ => ?_) (fun _ => ?_)
  · refine den_iconst (pc := 20) d11_byteAt_20 ?_
    exact den_iret (pc := 21) rfl d11_byteAt_21
  · refine den_aload_n (pc := 8) d11_byteAt_8 rfl rfl ?_
    refine den_getR (pc := 9) (b := 70) fa_11_7 (ok_69 _) rfl d11_byteAt_9 ?_
    refine den_bipush (pc := 12) d11_byteAt_12 (by decide) ?_
    refine den_iload_n (pc := 14) d11_byteAt_14 rfl rfl ?_
    refine den_iadd (pc := 15) d11_byteAt_15 ?_
    refine den_asrt (fun a1 => ?_)
    refine den_iaload (pc := 16) sh_70 (sz_lt (by decide)) rfl a1 d11_byteAt_16 ?_
    refine den_goto (pc := 17) (tgt := 21) d11_byteAt_17 (by decide) ?_
    exact den_iret (pc := 21) rfl d11_byteAt_21
theorem d11_isLetter_0 : decode m11_isLetter.2.1 0 = .ok (.iload_n 0, 1) := by decide +kernel
theorem d11_isLetter_1 : decode m11_isLetter.2.1 1 = .ok (.bipush 97, 2) := by decide +kernel
theorem d11_isLetter_3 : decode m11_isLetter.2.1 3 = .ok (.if_icmp .lt 13, 3) := by decide +kernel
theorem d11_isLetter_6 : decode m11_isLetter.2.1 6 = .ok (.iload_n 0, 1) := by decide +kernel
theorem d11_isLetter_7 : decode m11_isLetter.2.1 7 = .ok (.bipush 122, 2) := by decide +kernel
theorem d11_isLetter_9 : decode m11_isLetter.2.1 9 = .ok (.if_icmp .gt 7, 3) := by decide +kernel
theorem d11_isLetter_12 : decode m11_isLetter.2.1 12 = .ok (.iconst 1, 1) := by decide +kernel
theorem d11_isLetter_13 : decode m11_isLetter.2.1 13 = .ok (.goto 4, 3) := by decide +kernel
theorem d11_isLetter_16 : decode m11_isLetter.2.1 16 = .ok (.iconst 0, 1) := by decide +kernel
theorem d11_isLetter_17 : decode m11_isLetter.2.1 17 = .ok (.ireturn, 1) := by decide +kernel
def f11_isLetter (x0 : Int) (h : AH) : Option (Int × AH) :=
  if w32 x0 < 97 then
    some (0, h)
  else
    if 122 < w32 x0 then
      some (0, h)
    else
      some (1, h)
set_option maxRecDepth 100000 in
theorem c11_isLetter (l : Launch) (G : Geo) (x0 : Int) (h : AH) : Con l G m11_isLetter rvI 2 [vI x0] h (f11_isLetter x0 h) := by
  have hd : 2 ≤ 2 := Nat.le_refl _
  refine con_Z rfl (by decide) rfl rfl (Nat.le_of_ble_eq_true rfl) (L := [some (vI x0)]) ?_
  unfold f11_isLetter
  refine den_iload_n (pc := 0) d11_isLetter_0 rfl rfl ?_
  refine den_bipush (pc := 1) d11_isLetter_1 (by decide) ?_
  refine den_icmp_lt (pc := 3) (tgt := 16) d11_isLetter_3 (by decide) rfl (by decide) (fun _ => ?_) (fun _ => ?_)
  · refine den_iconst (pc := 16) d11_isLetter_16 ?_
    exact den_zret (pc := 17) rfl (by decide) d11_isLetter_17
  · refine den_iload_n (pc := 6) d11_isLetter_6 rfl rfl ?_
    refine den_bipush (pc := 7) d11_isLetter_7 (by decide) ?_
    refine den_icmp_gt (pc := 9) (tgt := 16) d11_isLetter_9 (by decide) rfl (by decide) (fun _ => ?_) (fun _ => ?_)
    · refine den_iconst (pc := 16) d11_isLetter_16 ?_
      exact den_zret (pc := 17) rfl (by decide) d11_isLetter_17
    · refine den_iconst (pc := 12) d11_isLetter_12 ?_
      refine den_goto (pc := 13) (tgt := 17) d11_isLetter_13 (by decide) ?_
      exact den_zret (pc := 17) rfl (by decide) d11_isLetter_17
theorem d11_isDigit_0 : decode m11_isDigit.2.1 0 = .ok (.iload_n 0, 1) := by decide +kernel
theorem d11_isDigit_1 : decode m11_isDigit.2.1 1 = .ok (.bipush 48, 2) := by decide +kernel
theorem d11_isDigit_3 : decode m11_isDigit.2.1 3 = .ok (.if_icmp .lt 13, 3) := by decide +kernel
theorem d11_isDigit_6 : decode m11_isDigit.2.1 6 = .ok (.iload_n 0, 1) := by decide +kernel
theorem d11_isDigit_7 : decode m11_isDigit.2.1 7 = .ok (.bipush 57, 2) := by decide +kernel
theorem d11_isDigit_9 : decode m11_isDigit.2.1 9 = .ok (.if_icmp .gt 7, 3) := by decide +kernel
theorem d11_isDigit_12 : decode m11_isDigit.2.1 12 = .ok (.iconst 1, 1) := by decide +kernel
theorem d11_isDigit_13 : decode m11_isDigit.2.1 13 = .ok (.goto 4, 3) := by decide +kernel
theorem d11_isDigit_16 : decode m11_isDigit.2.1 16 = .ok (.iconst 0, 1) := by decide +kernel
theorem d11_isDigit_17 : decode m11_isDigit.2.1 17 = .ok (.ireturn, 1) := by decide +kernel
def f11_isDigit (x0 : Int) (h : AH) : Option (Int × AH) :=
  if w32 x0 < 48 then
    some (0, h)
  else
    if 57 < w32 x0 then
      some (0, h)
    else
      some (1, h)
set_option maxRecDepth 100000 in
theorem c11_isDigit (l : Launch) (G : Geo) (x0 : Int) (h : AH) : Con l G m11_isDigit rvI 2 [vI x0] h (f11_isDigit x0 h) := by
  have hd : 2 ≤ 2 := Nat.le_refl _
  refine con_Z rfl (by decide) rfl rfl (Nat.le_of_ble_eq_true rfl) (L := [some (vI x0)]) ?_
  unfold f11_isDigit
  refine den_iload_n (pc := 0) d11_isDigit_0 rfl rfl ?_
  refine den_bipush (pc := 1) d11_isDigit_1 (by decide) ?_
  refine den_icmp_lt (pc := 3) (tgt := 16) d11_isDigit_3 (by decide) rfl (by decide) (fun _ => ?_) (fun _ => ?_)
  · refine den_iconst (pc := 16) d11_isDigit_16 ?_
    exact den_zret (pc := 17) rfl (by decide) d11_isDigit_17
  · refine den_iload_n (pc := 6) d11_isDigit_6 rfl rfl ?_
    refine den_bipush (pc := 7) d11_isDigit_7 (by decide) ?_
    refine den_icmp_gt (pc := 9) (tgt := 16) d11_isDigit_9 (by decide) rfl (by decide) (fun _ => ?_) (fun _ => ?_)
    · refine den_iconst (pc := 16) d11_isDigit_16 ?_
      exact den_zret (pc := 17) rfl (by decide) d11_isDigit_17
    · refine den_iconst (pc := 12) d11_isDigit_12 ?_
      refine den_goto (pc := 13) (tgt := 17) d11_isDigit_13 (by decide) ?_
      exact den_zret (pc := 17) rfl (by decide) d11_isDigit_17
theorem d11_four_0 : decode m11_four.2.1 0 = .ok (.iload_n 0, 1) := by decide +kernel
theorem d11_four_1 : decode m11_four.2.1 1 = .ok (.bipush 32, 2) := by decide +kernel
theorem d11_four_3 : decode m11_four.2.1 3 = .ok (.imul, 1) := by decide +kernel
theorem d11_four_4 : decode m11_four.2.1 4 = .ok (.iload_n 1, 1) := by decide +kernel
theorem d11_four_5 : decode m11_four.2.1 5 = .ok (.iadd, 1) := by decide +kernel
theorem d11_four_6 : decode m11_four.2.1 6 = .ok (.bipush 32, 2) := by decide +kernel
theorem d11_four_8 : decode m11_four.2.1 8 = .ok (.imul, 1) := by decide +kernel
theorem d11_four_9 : decode m11_four.2.1 9 = .ok (.iload_n 2, 1) := by decide +kernel
theorem d11_four_10 : decode m11_four.2.1 10 = .ok (.iadd, 1) := by decide +kernel
theorem d11_four_11 : decode m11_four.2.1 11 = .ok (.bipush 32, 2) := by decide +kernel
theorem d11_four_13 : decode m11_four.2.1 13 = .ok (.imul, 1) := by decide +kernel
theorem d11_four_14 : decode m11_four.2.1 14 = .ok (.iload_n 3, 1) := by decide +kernel
theorem d11_four_15 : decode m11_four.2.1 15 = .ok (.iadd, 1) := by decide +kernel
theorem d11_four_16 : decode m11_four.2.1 16 = .ok (.i2l, 1) := by decide +kernel
theorem d11_four_17 : decode m11_four.2.1 17 = .ok (.lreturn, 1) := by decide +kernel
def f11_four (x0 : Int) (x1 : Int) (x2 : Int) (x3 : Int) (h : AH) : Option (Int × AH) :=
  some (w32 ((((((x0 * 32) + x1) * 32) + x2) * 32) + x3), h)
set_option maxRecDepth 100000 in
theorem c11_four (l : Launch) (G : Geo) (x0 : Int) (x1 : Int) (x2 : Int) (x3 : Int) (h : AH) : Con l G m11_four rvJ 2 [vI x0, vI x1, vI x2, vI x3] h (f11_four x0 x1 x2 x3 h) := by
  have hd : 2 ≤ 2 := Nat.le_refl _
  refine con_J rfl (by decide) rfl rfl (Nat.le_of_ble_eq_true rfl) (L := [some (vI x0), some (vI x1), some (vI x2), some (vI x3)]) ?_
  unfold f11_four
  refine den_iload_n (pc := 0) d11_four_0 rfl rfl ?_
  refine den_bipush (pc := 1) d11_four_1 (by decide) ?_
  refine den_imul (pc := 3) d11_four_3 ?_
  refine den_iload_n (pc := 4) d11_four_4 rfl rfl ?_
  refine den_iadd (pc := 5) d11_four_5 ?_
  refine den_bipush (pc := 6) d11_four_6 (by decide) ?_
  refine den_imul (pc := 8) d11_four_8 ?_
  refine den_iload_n (pc := 9) d11_four_9 rfl rfl ?_
  refine den_iadd (pc := 10) d11_four_10 ?_
  refine den_bipush (pc := 11) d11_four_11 (by decide) ?_
  refine den_imul (pc := 13) d11_four_13 ?_
  refine den_iload_n (pc := 14) d11_four_14 rfl rfl ?_
  refine den_iadd (pc := 15) d11_four_15 ?_
  refine den_i2l (pc := 16) d11_four_16 ?_
  exact den_lret (pc := 17) rfl d11_four_17
theorem d11_eight_0 : decode m11_eight.2.1 0 = .ok (.iload_n 0, 1) := by decide +kernel
theorem d11_eight_1 : decode m11_eight.2.1 1 = .ok (.iload_n 1, 1) := by decide +kernel
theorem d11_eight_2 : decode m11_eight.2.1 2 = .ok (.iload_n 2, 1) := by decide +kernel
theorem d11_eight_3 : decode m11_eight.2.1 3 = .ok (.iload_n 3, 1) := by decide +kernel
theorem d11_eight_4 : decode m11_eight.2.1 4 = .ok (.invokestatic 84, 3) := by decide +kernel
theorem d11_eight_7 : decode m11_eight.2.1 7 = .ok (.ldc2_w 88, 3) := by decide +kernel
theorem d11_eight_10 : decode m11_eight.2.1 10 = .ok (.lmul, 1) := by decide +kernel
theorem d11_eight_11 : decode m11_eight.2.1 11 = .ok (.iload 4, 2) := by decide +kernel
theorem d11_eight_13 : decode m11_eight.2.1 13 = .ok (.iload 5, 2) := by decide +kernel
theorem d11_eight_15 : decode m11_eight.2.1 15 = .ok (.iload 6, 2) := by decide +kernel
theorem d11_eight_17 : decode m11_eight.2.1 17 = .ok (.iload 7, 2) := by decide +kernel
theorem d11_eight_19 : decode m11_eight.2.1 19 = .ok (.invokestatic 84, 3) := by decide +kernel
theorem d11_eight_22 : decode m11_eight.2.1 22 = .ok (.ladd, 1) := by decide +kernel
theorem d11_eight_23 : decode m11_eight.2.1 23 = .ok (.lreturn, 1) := by decide +kernel
def f11_eight (x0 : Int) (x1 : Int) (x2 : Int) (x3 : Int) (x4 : Int) (x5 : Int) (x6 : Int) (x7 : Int) (h : AH) : Option (Int × AH) :=
  bnd (f11_four x0 x1 x2 x3 h) fun r1 h2 =>
  bnd (f11_four x4 x5 x6 x7 h2) fun r5 h6 =>
  some ((r1 * 1048576) + r5, h6)
set_option maxRecDepth 100000 in
theorem c11_eight (l : Launch) (G : Geo) (x0 : Int) (x1 : Int) (x2 : Int) (x3 : Int) (x4 : Int) (x5 : Int) (x6 : Int) (x7 : Int) (h : AH) : Con l G m11_eight rvJ 3 [vI x0, vI x1, vI x2, vI x3, vI x4, vI x5, vI x6, vI x7] h (f11_eight x0 x1 x2 x3 x4 x5 x6 x7 h) := by
  have hd : 3 ≤ 3 := Nat.le_refl _
  refine con_J rfl (by decide) rfl rfl (Nat.le_of_ble_eq_true rfl) (L := [some (vI x0), some (vI x1), some (vI x2), some (vI x3), some (vI x4), some (vI x5), some (vI x6), some (vI x7)]) ?_
  unfold f11_eight
  refine den_iload_n (pc := 0) d11_eight_0 rfl rfl ?_
  refine den_iload_n (pc := 1) d11_eight_1 rfl rfl ?_
  refine den_iload_n (pc := 2) d11_eight_2 rfl rfl ?_
  refine den_iload_n (pc := 3) d11_eight_3 rfl rfl ?_
  refine den_callSJ (pc := 4) (As := [vI x0, vI x1, vI x2, vI x3]) fs_11_84 rfl rfl (Nat.le_of_ble_eq_true rfl) (Nat.le_trans (by decide) hd) d11_eight_4 (c11_four l G x0 x1 x2 x3 h) (fun r1 h2 m3 o4 => ?_)
  refine den_ldc2 (pc := 7) kl_11_88 d11_eight_7 ?_
  refine den_lmul (pc := 10) d11_eight_10 ?_
  refine den_iload (pc := 11) d11_eight_11 rfl ?_
  refine den_iload (pc := 13) d11_eight_13 rfl ?_
  refine den_iload (pc := 15) d11_eight_15 rfl ?_
  refine den_iload (pc := 17) d11_eight_17 rfl ?_
  refine den_callSJ (pc := 19) (As := [vI x4, vI x5, vI x6, vI x7]) fs_11_84 rfl rfl (Nat.le_of_ble_eq_true rfl) (Nat.le_trans (by decide) hd) d11_eight_19 (c11_four l G x4 x5 x6 x7 h2) (fun r5 h6 m7 o8 => ?_)
  refine den_ladd (pc := 22) d11_eight_22 ?_
  exact den_lret (pc := 23) rfl d11_eight_23
theorem d11_wordOf_0 : decode m11_wordOf.2.1 0 = .ok (.lload_n 0, 1) := by decide +kernel
theorem d11_wordOf_1 : decode m11_wordOf.2.1 1 = .ok (.iconst 0, 1) := by decide +kernel
theorem d11_wordOf_2 : decode m11_wordOf.2.1 2 = .ok (.iconst 0, 1) := by decide +kernel
theorem d11_wordOf_3 : decode m11_wordOf.2.1 3 = .ok (.bipush 16, 2) := by decide +kernel
theorem d11_wordOf_5 : decode m11_wordOf.2.1 5 = .ok (.iconst 5, 1) := by decide +kernel
theorem d11_wordOf_6 : decode m11_wordOf.2.1 6 = .ok (.bipush 15, 2) := by decide +kernel
theorem d11_wordOf_8 : decode m11_wordOf.2.1 8 = .ok (.bipush 16, 2) := by decide +kernel
theorem d11_wordOf_10 : decode m11_wordOf.2.1 10 = .ok (.bipush 12, 2) := by decide +kernel
theorem d11_wordOf_12 : decode m11_wordOf.2.1 12 = .ok (.iconst 5, 1) := by decide +kernel
theorem d11_wordOf_13 : decode m11_wordOf.2.1 13 = .ok (.invokestatic 90, 3) := by decide +kernel
theorem d11_wordOf_16 : decode m11_wordOf.2.1 16 = .ok (.lcmp, 1) := by decide +kernel
theorem d11_wordOf_17 : decode m11_wordOf.2.1 17 = .ok (.ifCond .ne 5, 3) := by decide +kernel
theorem d11_wordOf_20 : decode m11_wordOf.2.1 20 = .ok (.iconst 1, 1) := by decide +kernel
theorem d11_wordOf_21 : decode m11_wordOf.2.1 21 = .ok (.ireturn, 1) := by decide +kernel
theorem d11_wordOf_22 : decode m11_wordOf.2.1 22 = .ok (.lload_n 0, 1) := by decide +kernel
theorem d11_wordOf_23 : decode m11_wordOf.2.1 23 = .ok (.iconst 0, 1) := by decide +kernel
theorem d11_wordOf_24 : decode m11_wordOf.2.1 24 = .ok (.iconst 0, 1) := by decide +kernel
theorem d11_wordOf_25 : decode m11_wordOf.2.1 25 = .ok (.iconst 0, 1) := by decide +kernel
theorem d11_wordOf_26 : decode m11_wordOf.2.1 26 = .ok (.iconst 3, 1) := by decide +kernel
theorem d11_wordOf_27 : decode m11_wordOf.2.1 27 = .ok (.bipush 15, 2) := by decide +kernel
theorem d11_wordOf_29 : decode m11_wordOf.2.1 29 = .ok (.bipush 15, 2) := by decide +kernel
theorem d11_wordOf_31 : decode m11_wordOf.2.1 31 = .ok (.bipush 12, 2) := by decide +kernel
theorem d11_wordOf_33 : decode m11_wordOf.2.1 33 = .ok (.bipush 19, 2) := by decide +kernel
theorem d11_wordOf_35 : decode m11_wordOf.2.1 35 = .ok (.invokestatic 90, 3) := by decide +kernel
theorem d11_wordOf_38 : decode m11_wordOf.2.1 38 = .ok (.lcmp, 1) := by decide +kernel
theorem d11_wordOf_39 : decode m11_wordOf.2.1 39 = .ok (.ifCond .ne 5, 3) := by decide +kernel
theorem d11_wordOf_42 : decode m11_wordOf.2.1 42 = .ok (.iconst 2, 1) := by decide +kernel
theorem d11_wordOf_43 : decode m11_wordOf.2.1 43 = .ok (.ireturn, 1) := by decide +kernel
theorem d11_wordOf_44 : decode m11_wordOf.2.1 44 = .ok (.lload_n 0, 1) := by decide +kernel
theorem d11_wordOf_45 : decode m11_wordOf.2.1 45 = .ok (.iconst 0, 1) := by decide +kernel
theorem d11_wordOf_46 : decode m11_wordOf.2.1 46 = .ok (.bipush 19, 2) := by decide +kernel
theorem d11_wordOf_48 : decode m11_wordOf.2.1 48 = .ok (.bipush 21, 2) := by decide +kernel
theorem d11_wordOf_50 : decode m11_wordOf.2.1 50 = .ok (.iconst 2, 1) := by decide +kernel
theorem d11_wordOf_51 : decode m11_wordOf.2.1 51 = .ok (.bipush 10, 2) := by decide +kernel
theorem d11_wordOf_53 : decode m11_wordOf.2.1 53 = .ok (.iconst 5, 1) := by decide +kernel
theorem d11_wordOf_54 : decode m11_wordOf.2.1 54 = .ok (.iconst 3, 1) := by decide +kernel
theorem d11_wordOf_55 : decode m11_wordOf.2.1 55 = .ok (.bipush 20, 2) := by decide +kernel
theorem d11_wordOf_57 : decode m11_wordOf.2.1 57 = .ok (.invokestatic 90, 3) := by decide +kernel
theorem d11_wordOf_60 : decode m11_wordOf.2.1 60 = .ok (.lcmp, 1) := by decide +kernel
theorem d11_wordOf_61 : decode m11_wordOf.2.1 61 = .ok (.ifCond .ne 5, 3) := by decide +kernel
theorem d11_wordOf_64 : decode m11_wordOf.2.1 64 = .ok (.iconst 3, 1) := by decide +kernel
theorem d11_wordOf_65 : decode m11_wordOf.2.1 65 = .ok (.ireturn, 1) := by decide +kernel
theorem d11_wordOf_66 : decode m11_wordOf.2.1 66 = .ok (.lload_n 0, 1) := by decide +kernel
theorem d11_wordOf_67 : decode m11_wordOf.2.1 67 = .ok (.iconst 0, 1) := by decide +kernel
theorem d11_wordOf_68 : decode m11_wordOf.2.1 68 = .ok (.iconst 0, 1) := by decide +kernel
theorem d11_wordOf_69 : decode m11_wordOf.2.1 69 = .ok (.bipush 8, 2) := by decide +kernel
theorem d11_wordOf_71 : decode m11_wordOf.2.1 71 = .ok (.iconst 5, 1) := by decide +kernel
theorem d11_wordOf_72 : decode m11_wordOf.2.1 72 = .ok (.iconst 1, 1) := by decide +kernel
theorem d11_wordOf_73 : decode m11_wordOf.2.1 73 = .ok (.bipush 18, 2) := by decide +kernel
theorem d11_wordOf_75 : decode m11_wordOf.2.1 75 = .ok (.bipush 20, 2) := by decide +kernel
theorem d11_wordOf_77 : decode m11_wordOf.2.1 77 = .ok (.bipush 8, 2) := by decide +kernel
theorem d11_wordOf_79 : decode m11_wordOf.2.1 79 = .ok (.invokestatic 90, 3) := by decide +kernel
theorem d11_wordOf_82 : decode m11_wordOf.2.1 82 = .ok (.lcmp, 1) := by decide +kernel
theorem d11_wordOf_83 : decode m11_wordOf.2.1 83 = .ok (.ifCond .ne 5, 3) := by decide +kernel
theorem d11_wordOf_86 : decode m11_wordOf.2.1 86 = .ok (.iconst 4, 1) := by decide +kernel
theorem d11_wordOf_87 : decode m11_wordOf.2.1 87 = .ok (.ireturn, 1) := by decide +kernel
theorem d11_wordOf_88 : decode m11_wordOf.2.1 88 = .ok (.lload_n 0, 1) := by decide +kernel
theorem d11_wordOf_89 : decode m11_wordOf.2.1 89 = .ok (.iconst 0, 1) := by decide +kernel
theorem d11_wordOf_90 : decode m11_wordOf.2.1 90 = .ok (.iconst 0, 1) := by decide +kernel
theorem d11_wordOf_91 : decode m11_wordOf.2.1 91 = .ok (.iconst 0, 1) := by decide +kernel
theorem d11_wordOf_92 : decode m11_wordOf.2.1 92 = .ok (.bipush 8, 2) := by decide +kernel
theorem d11_wordOf_94 : decode m11_wordOf.2.1 94 = .ok (.bipush 15, 2) := by decide +kernel
theorem d11_wordOf_96 : decode m11_wordOf.2.1 96 = .ok (.bipush 12, 2) := by decide +kernel
theorem d11_wordOf_98 : decode m11_wordOf.2.1 98 = .ok (.iconst 4, 1) := by decide +kernel
theorem d11_wordOf_99 : decode m11_wordOf.2.1 99 = .ok (.bipush 19, 2) := by decide +kernel
theorem d11_wordOf_101 : decode m11_wordOf.2.1 101 = .ok (.invokestatic 90, 3) := by decide +kernel
theorem d11_wordOf_104 : decode m11_wordOf.2.1 104 = .ok (.lcmp, 1) := by decide +kernel
theorem d11_wordOf_105 : decode m11_wordOf.2.1 105 = .ok (.ifCond .ne 5, 3) := by decide +kernel
theorem d11_wordOf_108 : decode m11_wordOf.2.1 108 = .ok (.iconst 5, 1) := by decide +kernel
theorem d11_wordOf_109 : decode m11_wordOf.2.1 109 = .ok (.ireturn, 1) := by decide +kernel
theorem d11_wordOf_110 : decode m11_wordOf.2.1 110 = .ok (.lload_n 0, 1) := by decide +kernel
theorem d11_wordOf_111 : decode m11_wordOf.2.1 111 = .ok (.iconst 0, 1) := by decide +kernel
theorem d11_wordOf_112 : decode m11_wordOf.2.1 112 = .ok (.bipush 17, 2) := by decide +kernel
theorem d11_wordOf_114 : decode m11_wordOf.2.1 114 = .ok (.bipush 21, 2) := by decide +kernel
theorem d11_wordOf_116 : decode m11_wordOf.2.1 116 = .ok (.iconst 1, 1) := by decide +kernel
theorem d11_wordOf_117 : decode m11_wordOf.2.1 117 = .ok (.bipush 18, 2) := by decide +kernel
theorem d11_wordOf_119 : decode m11_wordOf.2.1 119 = .ok (.bipush 18, 2) := by decide +kernel
theorem d11_wordOf_121 : decode m11_wordOf.2.1 121 = .ok (.iconst 5, 1) := by decide +kernel
theorem d11_wordOf_122 : decode m11_wordOf.2.1 122 = .ok (.bipush 12, 2) := by decide +kernel
theorem d11_wordOf_124 : decode m11_wordOf.2.1 124 = .ok (.invokestatic 90, 3) := by decide +kernel
theorem d11_wordOf_127 : decode m11_wordOf.2.1 127 = .ok (.lcmp, 1) := by decide +kernel
theorem d11_wordOf_128 : decode m11_wordOf.2.1 128 = .ok (.ifCond .ne 6, 3) := by decide +kernel
theorem d11_wordOf_131 : decode m11_wordOf.2.1 131 = .ok (.bipush 6, 2) := by decide +kernel
theorem d11_wordOf_133 : decode m11_wordOf.2.1 133 = .ok (.ireturn, 1) := by decide +kernel
theorem d11_wordOf_134 : decode m11_wordOf.2.1 134 = .ok (.lload_n 0, 1) := by decide +kernel
theorem d11_wordOf_135 : decode m11_wordOf.2.1 135 = .ok (.iconst 0, 1) := by decide +kernel
theorem d11_wordOf_136 : decode m11_wordOf.2.1 136 = .ok (.iconst 0, 1) := by decide +kernel
theorem d11_wordOf_137 : decode m11_wordOf.2.1 137 = .ok (.iconst 0, 1) := by decide +kernel
theorem d11_wordOf_138 : decode m11_wordOf.2.1 138 = .ok (.iconst 1, 1) := by decide +kernel
theorem d11_wordOf_139 : decode m11_wordOf.2.1 139 = .ok (.bipush 7, 2) := by decide +kernel
theorem d11_wordOf_141 : decode m11_wordOf.2.1 141 = .ok (.bipush 18, 2) := by decide +kernel
theorem d11_wordOf_143 : decode m11_wordOf.2.1 143 = .ok (.iconst 5, 1) := by decide +kernel
theorem d11_wordOf_144 : decode m11_wordOf.2.1 144 = .ok (.iconst 5, 1) := by decide +kernel
theorem d11_wordOf_145 : decode m11_wordOf.2.1 145 = .ok (.invokestatic 90, 3) := by decide +kernel
theorem d11_wordOf_148 : decode m11_wordOf.2.1 148 = .ok (.lcmp, 1) := by decide +kernel
theorem d11_wordOf_149 : decode m11_wordOf.2.1 149 = .ok (.ifCond .ne 6, 3) := by decide +kernel
theorem d11_wordOf_152 : decode m11_wordOf.2.1 152 = .ok (.bipush 7, 2) := by decide +kernel
theorem d11_wordOf_154 : decode m11_wordOf.2.1 154 = .ok (.ireturn, 1) := by decide +kernel
theorem d11_wordOf_155 : decode m11_wordOf.2.1 155 = .ok (.lload_n 0, 1) := by decide +kernel
theorem d11_wordOf_156 : decode m11_wordOf.2.1 156 = .ok (.iconst 4, 1) := by decide +kernel
theorem d11_wordOf_157 : decode m11_wordOf.2.1 157 = .ok (.iconst 5, 1) := by decide +kernel
theorem d11_wordOf_158 : decode m11_wordOf.2.1 158 = .ok (.bipush 14, 2) := by decide +kernel
theorem d11_wordOf_160 : decode m11_wordOf.2.1 160 = .ok (.bipush 25, 2) := by decide +kernel
theorem d11_wordOf_162 : decode m11_wordOf.2.1 162 = .ok (.invokestatic 84, 3) := by decide +kernel
theorem d11_wordOf_165 : decode m11_wordOf.2.1 165 = .ok (.lcmp, 1) := by decide +kernel
theorem d11_wordOf_166 : decode m11_wordOf.2.1 166 = .ok (.ifCond .ne 6, 3) := by decide +kernel
theorem d11_wordOf_169 : decode m11_wordOf.2.1 169 = .ok (.bipush 8, 2) := by decide +kernel
theorem d11_wordOf_171 : decode m11_wordOf.2.1 171 = .ok (.ireturn, 1) := by decide +kernel
theorem d11_wordOf_172 : decode m11_wordOf.2.1 172 = .ok (.lload_n 0, 1) := by decide +kernel
theorem d11_wordOf_173 : decode m11_wordOf.2.1 173 = .ok (.bipush 14, 2) := by decide +kernel
theorem d11_wordOf_175 : decode m11_wordOf.2.1 175 = .ok (.iconst 5, 1) := by decide +kernel
theorem d11_wordOf_176 : decode m11_wordOf.2.1 176 = .ok (.bipush 23, 2) := by decide +kernel
theorem d11_wordOf_178 : decode m11_wordOf.2.1 178 = .ok (.bipush 19, 2) := by decide +kernel
theorem d11_wordOf_180 : decode m11_wordOf.2.1 180 = .ok (.invokestatic 84, 3) := by decide +kernel
theorem d11_wordOf_183 : decode m11_wordOf.2.1 183 = .ok (.lcmp, 1) := by decide +kernel
theorem d11_wordOf_184 : decode m11_wordOf.2.1 184 = .ok (.ifCond .ne 6, 3) := by decide +kernel
theorem d11_wordOf_187 : decode m11_wordOf.2.1 187 = .ok (.bipush 9, 2) := by decide +kernel
theorem d11_wordOf_189 : decode m11_wordOf.2.1 189 = .ok (.ireturn, 1) := by decide +kernel
theorem d11_wordOf_190 : decode m11_wordOf.2.1 190 = .ok (.lload_n 0, 1) := by decide +kernel
theorem d11_wordOf_191 : decode m11_wordOf.2.1 191 = .ok (.bipush 8, 2) := by decide +kernel
theorem d11_wordOf_193 : decode m11_wordOf.2.1 193 = .ok (.bipush 15, 2) := by decide +kernel
theorem d11_wordOf_195 : decode m11_wordOf.2.1 195 = .ok (.bipush 21, 2) := by decide +kernel
theorem d11_wordOf_197 : decode m11_wordOf.2.1 197 = .ok (.bipush 18, 2) := by decide +kernel
theorem d11_wordOf_199 : decode m11_wordOf.2.1 199 = .ok (.invokestatic 84, 3) := by decide +kernel
theorem d11_wordOf_202 : decode m11_wordOf.2.1 202 = .ok (.lcmp, 1) := by decide +kernel
theorem d11_wordOf_203 : decode m11_wordOf.2.1 203 = .ok (.ifCond .ne 6, 3) := by decide +kernel
theorem d11_wordOf_206 : decode m11_wordOf.2.1 206 = .ok (.bipush 10, 2) := by decide +kernel
theorem d11_wordOf_208 : decode m11_wordOf.2.1 208 = .ok (.ireturn, 1) := by decide +kernel
theorem d11_wordOf_209 : decode m11_wordOf.2.1 209 = .ok (.lload_n 0, 1) := by decide +kernel
theorem d11_wordOf_210 : decode m11_wordOf.2.1 210 = .ok (.iconst 0, 1) := by decide +kernel
theorem d11_wordOf_211 : decode m11_wordOf.2.1 211 = .ok (.iconst 0, 1) := by decide +kernel
theorem d11_wordOf_212 : decode m11_wordOf.2.1 212 = .ok (.iconst 2, 1) := by decide +kernel
theorem d11_wordOf_213 : decode m11_wordOf.2.1 213 = .ok (.bipush 21, 2) := by decide +kernel
theorem d11_wordOf_215 : decode m11_wordOf.2.1 215 = .ok (.bipush 18, 2) := by decide +kernel
theorem d11_wordOf_217 : decode m11_wordOf.2.1 217 = .ok (.bipush 14, 2) := by decide +kernel
theorem d11_wordOf_219 : decode m11_wordOf.2.1 219 = .ok (.iconst 5, 1) := by decide +kernel
theorem d11_wordOf_220 : decode m11_wordOf.2.1 220 = .ok (.iconst 4, 1) := by decide +kernel
theorem d11_wordOf_221 : decode m11_wordOf.2.1 221 = .ok (.invokestatic 90, 3) := by decide +kernel
theorem d11_wordOf_224 : decode m11_wordOf.2.1 224 = .ok (.lcmp, 1) := by decide +kernel
theorem d11_wordOf_225 : decode m11_wordOf.2.1 225 = .ok (.ifCond .ne 8, 3) := by decide +kernel
theorem d11_wordOf_228 : decode m11_wordOf.2.1 228 = .ok (.bipush 11, 2) := by decide +kernel
theorem d11_wordOf_230 : decode m11_wordOf.2.1 230 = .ok (.goto 5, 3) := by decide +kernel
theorem d11_wordOf_233 : decode m11_wordOf.2.1 233 = .ok (.bipush 99, 2) := by decide +kernel
theorem d11_wordOf_235 : decode m11_wordOf.2.1 235 = .ok (.ireturn, 1) := by decide +kernel
def f11_wordOf (x0 : Int) (h : AH) : Option (Int × AH) :=
  bnd (f11_eight 0 0 16 5 15 16 12 5 h) fun r1 h2 =>
  if ¬ w32 (cmp64 x0 r1) = 0 then
    bnd (f11_eight 0 0 0 3 15 15 12 19 h2) fun r5 h6 =>
    if ¬ w32 (cmp64 x0 r5) = 0 then
      bnd (f11_eight 0 19 21 2 10 5 3 20 h6) fun r9 h10 =>
      if ¬ w32 (cmp64 x0 r9) = 0 then
        bnd (f11_eight 0 0 8 5 1 18 20 8 h10) fun r13 h14 =>
        if ¬ w32 (cmp64 x0 r13) = 0 then
          bnd (f11_eight 0 0 0 8 15 12 4 19 h14) fun r17 h18 =>
          if ¬ w32 (cmp64 x0 r17) = 0 then
            bnd (f11_eight 0 17 21 1 18 18 5 12 h18) fun r21 h22 =>
            if ¬ w32 (cmp64 x0 r21) = 0 then
              bnd (f11_eight 0 0 0 1 7 18 5 5 h22) fun r25 h26 =>
              if ¬ w32 (cmp64 x0 r25) = 0 then
                bnd (f11_four 4 5 14 25 h26) fun r29 h30 =>
                if ¬ w32 (cmp64 x0 r29) = 0 then
                  bnd (f11_four 14 5 23 19 h30) fun r33 h34 =>
                  if ¬ w32 (cmp64 x0 r33) = 0 then
                    bnd (f11_four 8 15 21 18 h34) fun r37 h38 =>
                    if ¬ w32 (cmp64 x0 r37) = 0 then
                      bnd (f11_eight 0 0 2 21 18 14 5 4 h38) fun r41 h42 =>
                      if ¬ w32 (cmp64 x0 r41) = 0 then
                        some (99, h42)
                      else
                        some (11, h42)
                    else
                      some (10, h38)
                  else
                    some (9, h34)
                else
                  some (8, h30)
              else
                some (7, h26)
            else
              some (6, h22)
          else
            some (5, h18)
        else
          some (4, h14)
      else
        some (3, h10)
    else
      some (2, h6)
  else
    some (1, h2)
set_option maxRecDepth 100000 in
theorem c11_wordOf (l : Launch) (G : Geo) (x0 : Int) (h : AH) : Con l G m11_wordOf rvI 4 [vJ x0] h (f11_wordOf x0 h) := by
  have hd : 4 ≤ 4 := Nat.le_refl _
  refine con_I rfl (by decide) rfl rfl (Nat.le_of_ble_eq_true rfl) (L := [some (vJ x0), none]) ?_
  unfold f11_wordOf
  refine den_lload_n (pc := 0) d11_wordOf_0 rfl rfl ?_
  refine den_iconst (pc := 1) d11_wordOf_1 ?_
  refine den_iconst (pc := 2) d11_wordOf_2 ?_
  refine den_bipush (pc := 3) d11_wordOf_3 (by decide) ?_
  refine den_iconst (pc := 5) d11_wordOf_5 ?_
  refine den_bipush (pc := 6) d11_wordOf_6 (by decide) ?_
  refine den_bipush (pc := 8) d11_wordOf_8 (by decide) ?_
  refine den_bipush (pc := 10) d11_wordOf_10 (by decide) ?_
  refine den_iconst (pc := 12) d11_wordOf_12 ?_
  refine den_callSJ (pc := 13) (As := [vI 0, vI 0, vI 16, vI 5, vI 15, vI 16, vI 12, vI 5]) fs_11_90 rfl rfl (Nat.le_of_ble_eq_true rfl) (Nat.le_trans (by decide) hd) d11_wordOf_13 (c11_eight l G 0 0 16 5 15 16 12 5 h) (fun r1 h2 m3 o4 => ?_)
  refine den_lcmp (pc := 16) d11_wordOf_16 ?_
  refine den_if_ne (pc := 17) (tgt := 22) d11_wordOf_17 (by decide) rfl (fun _ => ?_) (fun _ => ?_)
  · refine den_lload_n (pc := 22) d11_wordOf_22 rfl rfl ?_
    refine den_iconst (pc := 23) d11_wordOf_23 ?_
    refine den_iconst (pc := 24) d11_wordOf_24 ?_
    refine den_iconst (pc := 25) d11_wordOf_25 ?_
    refine den_iconst (pc := 26) d11_wordOf_26 ?_
    refine den_bipush (pc := 27) d11_wordOf_27 (by decide) ?_
    refine den_bipush (pc := 29) d11_wordOf_29 (by decide) ?_
    refine den_bipush (pc := 31) d11_wordOf_31 (by decide) ?_
    refine den_bipush (pc := 33) d11_wordOf_33 (by decide) ?_
    refine den_callSJ (pc := 35) (As := [vI 0, vI 0, vI 0, vI 3, vI 15, vI 15, vI 12, vI 19]) fs_11_90 rfl rfl (Nat.le_of_ble_eq_true rfl) (Nat.le_trans (by decide) hd) d11_wordOf_35 (c11_eight l G 0 0 0 3 15 15 12 19 h2) (fun r5 h6 m7 o8 => ?_)
    refine den_lcmp (pc := 38) d11_wordOf_38 ?_
    refine den_if_ne (pc := 39) (tgt := 44) d11_wordOf_39 (by decide) rfl (fun _ => ?_) (fun _ => ?_)
    · refine den_lload_n (pc := 44) d11_wordOf_44 rfl rfl ?_
      refine den_iconst (pc := 45) d11_wordOf_45 ?_
      refine den_bipush (pc := 46) d11_wordOf_46 (by decide) ?_
      refine den_bipush (pc := 48) d11_wordOf_48 (by decide) ?_
      refine den_iconst (pc := 50) d11_wordOf_50 ?_
      refine den_bipush (pc := 51) d11_wordOf_51 (by decide) ?_
      refine den_iconst (pc := 53) d11_wordOf_53 ?_
      refine den_iconst (pc := 54) d11_wordOf_54 ?_
      refine den_bipush (pc := 55) d11_wordOf_55 (by decide) ?_
      refine den_callSJ (pc := 57) (As := [vI 0, vI 19, vI 21, vI 2, vI 10, vI 5, vI 3, vI 20]) fs_11_90 rfl rfl (Nat.le_of_ble_eq_true rfl) (Nat.le_trans (by decide) hd) d11_wordOf_57 (c11_eight l G 0 19 21 2 10 5 3 20 h6) (fun r9 h10 m11 o12 => ?_)
      refine den_lcmp (pc := 60) d11_wordOf_60 ?_
      refine den_if_ne (pc := 61) (tgt := 66) d11_wordOf_61 (by decide) rfl (fun _ => ?_) (fun _ => ?_)
      · refine den_lload_n (pc := 66) d11_wordOf_66 rfl rfl ?_
        refine den_iconst (pc := 67) d11_wordOf_67 ?_
        refine den_iconst (pc := 68) d11_wordOf_68 ?_
        refine den_bipush (pc := 69) d11_wordOf_69 (by decide) ?_
        refine den_iconst (pc := 71) d11_wordOf_71 ?_
        refine den_iconst (pc := 72) d11_wordOf_72 ?_
        refine den_bipush (pc := 73) d11_wordOf_73 (by decide) ?_
        refine den_bipush (pc := 75) d11_wordOf_75 (by decide) ?_
        refine den_bipush (pc := 77) d11_wordOf_77 (by decide) ?_
        refine den_callSJ (pc := 79) (As := [vI 0, vI 0, vI 8, vI 5, vI 1, vI 18, vI 20, vI 8]) fs_11_90 rfl rfl (Nat.le_of_ble_eq_true rfl) (Nat.le_trans (by decide) hd) d11_wordOf_79 (c11_eight l G 0 0 8 5 1 18 20 8 h10) (fun r13 h14 m15 o16 => ?_)
        refine den_lcmp (pc := 82) d11_wordOf_82 ?_
        refine den_if_ne (pc := 83) (tgt := 88) d11_wordOf_83 (by decide) rfl (fun _ => ?_) (fun _ => ?_)
        · refine den_lload_n (pc := 88) d11_wordOf_88 rfl rfl ?_
          refine den_iconst (pc := 89) d11_wordOf_89 ?_
          refine den_iconst (pc := 90) d11_wordOf_90 ?_
          refine den_iconst (pc := 91) d11_wordOf_91 ?_
          refine den_bipush (pc := 92) d11_wordOf_92 (by decide) ?_
          refine den_bipush (pc := 94) d11_wordOf_94 (by decide) ?_
          refine den_bipush (pc := 96) d11_wordOf_96 (by decide) ?_
          refine den_iconst (pc := 98) d11_wordOf_98 ?_
          refine den_bipush (pc := 99) d11_wordOf_99 (by decide) ?_
          refine den_callSJ (pc := 101) (As := [vI 0, vI 0, vI 0, vI 8, vI 15, vI 12, vI 4, vI 19]) fs_11_90 rfl rfl (Nat.le_of_ble_eq_true rfl) (Nat.le_trans (by decide) hd) d11_wordOf_101 (c11_eight l G 0 0 0 8 15 12 4 19 h14) (fun r17 h18 m19 o20 => ?_)
          refine den_lcmp (pc := 104) d11_wordOf_104 ?_
          refine den_if_ne (pc := 105) (tgt := 110) d11_wordOf_105 (by decide) rfl (fun _ => ?_) (fun _ => ?_)
          · refine den_lload_n (pc := 110) d11_wordOf_110 rfl rfl ?_
            refine den_iconst (pc := 111) d11_wordOf_111 ?_
            refine den_bipush (pc := 112) d11_wordOf_112 (by decide) ?_
            refine den_bipush (pc := 114) d11_wordOf_114 (by decide) ?_
            refine den_iconst (pc := 116) d11_wordOf_116 ?_
            refine den_bipush (pc := 117) d11_wordOf_117 (by decide) ?_
            refine den_bipush (pc := 119) d11_wordOf_119 (by decide) ?_
            refine den_iconst (pc := 121) d11_wordOf_121 ?_
            refine den_bipush (pc := 122) d11_wordOf_122 (by decide) ?_
            refine den_callSJ (pc := 124) (As := [vI 0, vI 17, vI 21, vI 1, vI 18, vI 18, vI 5, vI 12]) fs_11_90 rfl rfl (Nat.le_of_ble_eq_true rfl) (Nat.le_trans (by decide) hd) d11_wordOf_124 (c11_eight l G 0 17 21 1 18 18 5 12 h18) (fun r21 h22 m23 o24 => ?_)
            refine den_lcmp (pc := 127) d11_wordOf_127 ?_
            refine den_if_ne (pc := 128) (tgt := 134) d11_wordOf_128 (by decide) rfl (fun _ => ?_) (fun _ => ?_)
            · refine den_lload_n (pc := 134) d11_wordOf_134 rfl rfl ?_
              refine den_iconst (pc := 135) d11_wordOf_135 ?_
              refine den_iconst (pc := 136) d11_wordOf_136 ?_
              refine den_iconst (pc := 137) d11_wordOf_137 ?_
              refine den_iconst (pc := 138) d11_wordOf_138 ?_
              refine den_bipush (pc := 139) d11_wordOf_139 (by decide) ?_
              refine den_bipush (pc := 141) d11_wordOf_141 (by decide) ?_
              refine den_iconst (pc := 143) d11_wordOf_143 ?_
              refine den_iconst (pc := 144) d11_wordOf_144 ?_
              refine den_callSJ (pc := 145) (As := [vI 0, vI 0, vI 0, vI 1, vI 7, vI 18, vI 5, vI 5]) fs_11_90 rfl rfl (Nat.le_of_ble_eq_true rfl) (Nat.le_trans (by decide) hd) d11_wordOf_145 (c11_eight l G 0 0 0 1 7 18 5 5 h22) (fun r25 h26 m27 o28 => ?_)
              refine den_lcmp (pc := 148) d11_wordOf_148 ?_
              refine den_if_ne (pc := 149) (tgt := 155) d11_wordOf_149 (by decide) rfl (fun _ => ?_) (fun _ => ?_)
              · refine den_lload_n (pc := 155) d11_wordOf_155 rfl rfl ?_
                refine den_iconst (pc := 156) d11_wordOf_156 ?_
                refine den_iconst (pc := 157) d11_wordOf_157 ?_
                refine den_bipush (pc := 158) d11_wordOf_158 (by decide) ?_
                refine den_bipush (pc := 160) d11_wordOf_160 (by decide) ?_
                refine den_callSJ (pc := 162) (As := [vI 4, vI 5, vI 14, vI 25]) fs_11_84 rfl rfl (Nat.le_of_ble_eq_true rfl) (Nat.le_trans (by decide) hd) d11_wordOf_162 (c11_four l G 4 5 14 25 h26) (fun r29 h30 m31 o32 => ?_)
                refine den_lcmp (pc := 165) d11_wordOf_165 ?_
                refine den_if_ne (pc := 166) (tgt := 172) d11_wordOf_166 (by decide) rfl (fun _ => ?_) (fun _ => ?_)
                · refine den_lload_n (pc := 172) d11_wordOf_172 rfl rfl ?_
                  refine den_bipush (pc := 173) d11_wordOf_173 (by decide) ?_
                  refine den_iconst (pc := 175) d11_wordOf_175 ?_
                  refine den_bipush (pc := 176) d11_wordOf_176 (by decide) ?_
                  refine den_bipush (pc := 178) d11_wordOf_178 (by decide) ?_
                  refine den_callSJ (pc := 180) (As := [vI 14, vI 5, vI 23, vI 19]) fs_11_84 rfl rfl (Nat.le_of_ble_eq_true rfl) (Nat.le_trans (by decide) hd) d11_wordOf_180 (c11_four l G 14 5 23 19 h30) (fun r33 h34 m35 o36 => ?_)
                  refine den_lcmp (pc := 183) d11_wordOf_183 ?_
                  refine den_if_ne (pc := 184) (tgt := 190) d11_wordOf_184 (by decide) rfl (fun _ => ?_) (fun _ => ?_)
                  · refine den_lload_n (pc := 190) d11_wordOf_190 rfl rfl ?_
                    refine den_bipush (pc := 191) d11_wordOf_191 (by decide) ?_
                    refine den_bipush (pc := 193) d11_wordOf_193 (by decide) ?_
                    refine den_bipush (pc := 195) d11_wordOf_195 (by decide) ?_
                    refine den_bipush (pc := 197) d11_wordOf_197 (by decide) ?_
                    refine den_callSJ (pc := 199) (As := [vI 8, vI 15, vI 21, vI 18]) fs_11_84 rfl rfl (Nat.le_of_ble_eq_true rfl) (Nat.le_trans (by decide) hd) d11_wordOf_199 (c11_four l G 8 15 21 18 h34) (fun r37 h38 m39 o40 => ?_)
                    refine den_lcmp (pc := 202) d11_wordOf_202 ?_
                    refine den_if_ne (pc := 203) (tgt := 209) d11_wordOf_203 (by decide) rfl (fun _ => ?_) (fun _ => ?_)
                    · refine den_lload_n (pc := 209) d11_wordOf_209 rfl rfl ?_
                      refine den_iconst (pc := 210) d11_wordOf_210 ?_
                      refine den_iconst (pc := 211) d11_wordOf_211 ?_
                      refine den_iconst (pc := 212) d11_wordOf_212 ?_
                      refine den_bipush (pc := 213) d11_wordOf_213 (by decide) ?_
                      refine den_bipush (pc := 215) d11_wordOf_215 (by decide) ?_
                      refine den_bipush (pc := 217) d11_wordOf_217 (by decide) ?_
                      refine den_iconst (pc := 219) d11_wordOf_219 ?_
                      refine den_iconst (pc := 220) d11_wordOf_220 ?_
                      refine den_callSJ (pc := 221) (As := [vI 0, vI 0, vI 2, vI 21, vI 18, vI 14, vI 5, vI 4]) fs_11_90 rfl rfl (Nat.le_of_ble_eq_true rfl) (Nat.le_trans (by decide) hd) d11_wordOf_221 (c11_eight l G 0 0 2 21 18 14 5 4 h38) (fun r41 h42 m43 o44 => ?_)
                      refine den_lcmp (pc := 224) d11_wordOf_224 ?_
                      refine den_if_ne (pc := 225) (tgt := 233) d11_wordOf_225 (by decide) rfl (fun _ => ?_) (fun _ => ?_)
                      · refine den_bipush (pc := 233) d11_wordOf_233 (by decide) ?_
                        exact den_iret (pc := 235) rfl d11_wordOf_235
                      · refine den_bipush (pc := 228) d11_wordOf_228 (by decide) ?_
                        refine den_goto (pc := 230) (tgt := 235) d11_wordOf_230 (by decide) ?_
                        exact den_iret (pc := 235) rfl d11_wordOf_235
                    · refine den_bipush (pc := 206) d11_wordOf_206 (by decide) ?_
                      exact den_iret (pc := 208) rfl d11_wordOf_208
                  · refine den_bipush (pc := 187) d11_wordOf_187 (by decide) ?_
                    exact den_iret (pc := 189) rfl d11_wordOf_189
                · refine den_bipush (pc := 169) d11_wordOf_169 (by decide) ?_
                  exact den_iret (pc := 171) rfl d11_wordOf_171
              · refine den_bipush (pc := 152) d11_wordOf_152 (by decide) ?_
                exact den_iret (pc := 154) rfl d11_wordOf_154
            · refine den_bipush (pc := 131) d11_wordOf_131 (by decide) ?_
              exact den_iret (pc := 133) rfl d11_wordOf_133
          · refine den_iconst (pc := 108) d11_wordOf_108 ?_
            exact den_iret (pc := 109) rfl d11_wordOf_109
        · refine den_iconst (pc := 86) d11_wordOf_86 ?_
          exact den_iret (pc := 87) rfl d11_wordOf_87
      · refine den_iconst (pc := 64) d11_wordOf_64 ?_
        exact den_iret (pc := 65) rfl d11_wordOf_65
    · refine den_iconst (pc := 42) d11_wordOf_42 ?_
      exact den_iret (pc := 43) rfl d11_wordOf_43
  · refine den_iconst (pc := 20) d11_wordOf_20 ?_
    exact den_iret (pc := 21) rfl d11_wordOf_21
