/-! 11_longest 11_circle 11_isKin 11_kinOf 11_triosOf 11_withAll 11_rankOf -/
theorem d11_longest_0 : decode m11_longest.2.1 0 = .ok (.iconst 0, 1) := by decide +kernel
theorem d11_longest_1 : decode m11_longest.2.1 1 = .ok (.istore_n 3, 1) := by decide +kernel
theorem d11_longest_2 : decode m11_longest.2.1 2 = .ok (.iconst 0, 1) := by decide +kernel
theorem d11_longest_3 : decode m11_longest.2.1 3 = .ok (.istore 4, 2) := by decide +kernel
theorem d11_longest_5 : decode m11_longest.2.1 5 = .ok (.iload 4, 2) := by decide +kernel
theorem d11_longest_7 : decode m11_longest.2.1 7 = .ok (.aload_n 0, 1) := by decide +kernel
theorem d11_longest_8 : decode m11_longest.2.1 8 = .ok (.getfield 192, 3) := by decide +kernel
theorem d11_longest_11 : decode m11_longest.2.1 11 = .ok (.if_icmp .ge 76, 3) := by decide +kernel
theorem d11_longest_14 : decode m11_longest.2.1 14 = .ok (.iload_n 1, 1) := by decide +kernel
theorem d11_longest_15 : decode m11_longest.2.1 15 = .ok (.iload 4, 2) := by decide +kernel
theorem d11_longest_17 : decode m11_longest.2.1 17 = .ok (.ishr, 1) := by decide +kernel
theorem d11_longest_18 : decode m11_longest.2.1 18 = .ok (.iconst 1, 1) := by decide +kernel
theorem d11_longest_19 : decode m11_longest.2.1 19 = .ok (.iand, 1) := by decide +kernel
theorem d11_longest_20 : decode m11_longest.2.1 20 = .ok (.ifCond .ne 61, 3) := by decide +kernel
theorem d11_longest_23 : decode m11_longest.2.1 23 = .ok (.iload_n 2, 1) := by decide +kernel
theorem d11_longest_24 : decode m11_longest.2.1 24 = .ok (.iconst (-1), 1) := by decide +kernel
theorem d11_longest_25 : decode m11_longest.2.1 25 = .ok (.if_icmp .eq 13, 3) := by decide +kernel
theorem d11_longest_28 : decode m11_longest.2.1 28 = .ok (.aload_n 0, 1) := by decide +kernel
theorem d11_longest_29 : decode m11_longest.2.1 29 = .ok (.iload_n 2, 1) := by decide +kernel
theorem d11_longest_30 : decode m11_longest.2.1 30 = .ok (.iload 4, 2) := by decide +kernel
theorem d11_longest_32 : decode m11_longest.2.1 32 = .ok (.invokevirtual 301, 3) := by decide +kernel
theorem d11_longest_35 : decode m11_longest.2.1 35 = .ok (.ifCond .eq 46, 3) := by decide +kernel
theorem d11_longest_38 : decode m11_longest.2.1 38 = .ok (.iconst 1, 1) := by decide +kernel
theorem d11_longest_39 : decode m11_longest.2.1 39 = .ok (.aload_n 0, 1) := by decide +kernel
theorem d11_longest_40 : decode m11_longest.2.1 40 = .ok (.getfield 62, 3) := by decide +kernel
theorem d11_longest_43 : decode m11_longest.2.1 43 = .ok (.bipush 8, 2) := by decide +kernel
theorem d11_longest_45 : decode m11_longest.2.1 45 = .ok (.iload_n 1, 1) := by decide +kernel
theorem d11_longest_46 : decode m11_longest.2.1 46 = .ok (.iconst 1, 1) := by decide +kernel
theorem d11_longest_47 : decode m11_longest.2.1 47 = .ok (.iload 4, 2) := by decide +kernel
theorem d11_longest_49 : decode m11_longest.2.1 49 = .ok (.ishl, 1) := by decide +kernel
theorem d11_longest_50 : decode m11_longest.2.1 50 = .ok (.ior, 1) := by decide +kernel
theorem d11_longest_51 : decode m11_longest.2.1 51 = .ok (.imul, 1) := by decide +kernel
theorem d11_longest_52 : decode m11_longest.2.1 52 = .ok (.iload 4, 2) := by decide +kernel
theorem d11_longest_54 : decode m11_longest.2.1 54 = .ok (.iadd, 1) := by decide +kernel
theorem d11_longest_55 : decode m11_longest.2.1 55 = .ok (.iaload, 1) := by decide +kernel
theorem d11_longest_56 : decode m11_longest.2.1 56 = .ok (.iadd, 1) := by decide +kernel
theorem d11_longest_57 : decode m11_longest.2.1 57 = .ok (.iload_n 3, 1) := by decide +kernel
theorem d11_longest_58 : decode m11_longest.2.1 58 = .ok (.if_icmp .le 23, 3) := by decide +kernel
theorem d11_longest_61 : decode m11_longest.2.1 61 = .ok (.iconst 1, 1) := by decide +kernel
theorem d11_longest_62 : decode m11_longest.2.1 62 = .ok (.aload_n 0, 1) := by decide +kernel
theorem d11_longest_63 : decode m11_longest.2.1 63 = .ok (.getfield 62, 3) := by decide +kernel
theorem d11_longest_66 : decode m11_longest.2.1 66 = .ok (.bipush 8, 2) := by decide +kernel
theorem d11_longest_68 : decode m11_longest.2.1 68 = .ok (.iload_n 1, 1) := by decide +kernel
theorem d11_longest_69 : decode m11_longest.2.1 69 = .ok (.iconst 1, 1) := by decide +kernel
theorem d11_longest_70 : decode m11_longest.2.1 70 = .ok (.iload 4, 2) := by decide +kernel
theorem d11_longest_72 : decode m11_longest.2.1 72 = .ok (.ishl, 1) := by decide +kernel
theorem d11_longest_73 : decode m11_longest.2.1 73 = .ok (.ior, 1) := by decide +kernel
theorem d11_longest_74 : decode m11_longest.2.1 74 = .ok (.imul, 1) := by decide +kernel
theorem d11_longest_75 : decode m11_longest.2.1 75 = .ok (.iload 4, 2) := by decide +kernel
theorem d11_longest_77 : decode m11_longest.2.1 77 = .ok (.iadd, 1) := by decide +kernel
theorem d11_longest_78 : decode m11_longest.2.1 78 = .ok (.iaload, 1) := by decide +kernel
theorem d11_longest_79 : decode m11_longest.2.1 79 = .ok (.iadd, 1) := by decide +kernel
theorem d11_longest_80 : decode m11_longest.2.1 80 = .ok (.istore_n 3, 1) := by decide +kernel
theorem d11_longest_81 : decode m11_longest.2.1 81 = .ok (.iinc 4 1, 3) := by decide +kernel
theorem d11_longest_84 : decode m11_longest.2.1 84 = .ok (.goto (-79), 3) := by decide +kernel
theorem d11_longest_87 : decode m11_longest.2.1 87 = .ok (.iload_n 3, 1) := by decide +kernel
theorem d11_longest_88 : decode m11_longest.2.1 88 = .ok (.ireturn, 1) := by decide +kernel
def b11_longest_81 (rec5 : Int × Int × AH → Option (Int × AH)) (x1 : Int) (x2 : Int) (x3 : Int) (x4 : Int) (h : AH) : Option (Int × AH) :=
  rec5 (x3, (x4 + 1), h)
set_option maxRecDepth 100000 in
theorem t11_longest_81 (l : Launch) (G : Geo) (d : Nat) (hd : 7 ≤ d) (x1 : Int) (x2 : Int) (x3 : Int) (x4 : Int) (rec5 : Int × Int × AH → Option (Int × AH)) (H5 : ∀ (x3 : Int) (x4 : Int) (h : AH), Den l G m11_longest rvI d 5 [some (vA G 69), some (vI x1), some (vI x2), some (vI x3), some (vI x4)] [] h (rec5 (x3, x4, h))) (h : AH) : Den l G m11_longest rvI d 81 [some (vA G 69), some (vI x1), some (vI x2), some (vI x3), some (vI x4)] [] h (b11_longest_81 rec5 x1 x2 x3 x4 h) := by
  unfold b11_longest_81
  refine den_iinc (pc := 81) (L2 := [some (vA G 69), some (vI x1), some (vI x2), some (vI x3), some (vI (x4 + 1))]) d11_longest_81 (by decide) rfl rfl ?_
  refine den_goto (pc := 84) (tgt := 5) d11_longest_84 (by decide) ?_
  exact H5 x3 (x4 + 1) h
def b11_longest_38 (rec5 : Int × Int × AH → Option (Int × AH)) (x1 : Int) (x2 : Int) (x3 : Int) (x4 : Int) (h : AH) : Option (Int × AH) :=
  asrt (0 ≤ w32 ((8 * (or32 x1 (shl32 1 x4))) + x4) ∧ w32 ((8 * (or32 x1 (shl32 1 x4))) + x4) < 2048) <|
  if w32 (1 + (h.2 87 (w32 ((8 * (or32 x1 (shl32 1 x4))) + x4)).toNat)) ≤ w32 x3 then
    b11_longest_81 rec5 x1 x2 x3 x4 h
  else
    asrt (0 ≤ w32 ((8 * (or32 x1 (shl32 1 x4))) + x4) ∧ w32 ((8 * (or32 x1 (shl32 1 x4))) + x4) < 2048) <|
    lt (1 + (h.2 87 (w32 ((8 * (or32 x1 (shl32 1 x4))) + x4)).toNat)) fun u3 =>
    b11_longest_81 rec5 x1 x2 u3 x4 h
set_option maxRecDepth 100000 in
theorem t11_longest_38 (l : Launch) (G : Geo) (d : Nat) (hd : 7 ≤ d) (x1 : Int) (x2 : Int) (x3 : Int) (x4 : Int) (rec5 : Int × Int × AH → Option (Int × AH)) (H5 : ∀ (x3 : Int) (x4 : Int) (h : AH), Den l G m11_longest rvI d 5 [some (vA G 69), some (vI x1), some (vI x2), some (vI x3), some (vI x4)] [] h (rec5 (x3, x4, h))) (h : AH) : Den l G m11_longest rvI d 38 [some (vA G 69), some (vI x1), some (vI x2), some (vI x3), some (vI x4)] [] h (b11_longest_38 rec5 x1 x2 x3 x4 h) := by
  unfold b11_longest_38
  refine den_iconst (pc := 38) d11_longest_38 ?_
  refine den_aload_n (pc := 39) d11_longest_39 rfl rfl ?_
  refine den_getR (pc := 40) (b := 87) fa_11_62 (ok_69 _) rfl d11_longest_40 ?_
  refine den_bipush (pc := 43) d11_longest_43 (by decide) ?_
  refine den_iload_n (pc := 45) d11_longest_45 rfl rfl ?_
  refine den_iconst (pc := 46) d11_longest_46 ?_
  refine den_iload (pc := 47) d11_longest_47 rfl ?_
  refine den_ishl (pc := 49) d11_longest_49 ?_
  refine den_ior (pc := 50) d11_longest_50 ?_
  refine den_imul (pc := 51) d11_longest_51 ?_
  refine den_iload (pc := 52) d11_longest_52 rfl ?_
  refine den_iadd (pc := 54) d11_longest_54 ?_
  refine den_asrt (fun a1 => ?_)
  refine den_iaload (pc := 55) sh_87 (sz_lt (by decide)) rfl a1 d11_longest_55 ?_
  refine den_iadd (pc := 56) d11_longest_56 ?_
  refine den_iload_n (pc := 57) d11_longest_57 rfl rfl ?_
  refine den_icmp_le (pc := 58) (tgt := 81) d11_longest_58 (by decide) rfl rfl (fun _ => ?_) (fun _ => ?_)
  · exact t11_longest_81 l G _ hd x1 x2 x3 x4 rec5 H5 h
  · refine den_iconst (pc := 61) d11_longest_61 ?_
    refine den_aload_n (pc := 62) d11_longest_62 rfl rfl ?_
    refine den_getR (pc := 63) (b := 87) fa_11_62 (ok_69 _) rfl d11_longest_63 ?_
    refine den_bipush (pc := 66) d11_longest_66 (by decide) ?_
    refine den_iload_n (pc := 68) d11_longest_68 rfl rfl ?_
    refine den_iconst (pc := 69) d11_longest_69 ?_
    refine den_iload (pc := 70) d11_longest_70 rfl ?_
    refine den_ishl (pc := 72) d11_longest_72 ?_
    refine den_ior (pc := 73) d11_longest_73 ?_
    refine den_imul (pc := 74) d11_longest_74 ?_
    refine den_iload (pc := 75) d11_longest_75 rfl ?_
    refine den_iadd (pc := 77) d11_longest_77 ?_
    refine den_asrt (fun a2 => ?_)
    refine den_iaload (pc := 78) sh_87 (sz_lt (by decide)) rfl a2 d11_longest_78 ?_
    refine den_iadd (pc := 79) d11_longest_79 ?_
    refine den_istore_nL (pc := 80) (L2 := fun y => [some (vA G 69), some (vI x1), some (vI x2), some (vI y), some (vI x4)]) d11_longest_80 rfl (by decide) (fun _ => rfl) (fun u3 => ?_)
    exact t11_longest_81 l G _ hd x1 x2 u3 x4 rec5 H5 h
def b11_longest_5 (rec5 : Int × Int × AH → Option (Int × AH)) (x1 : Int) (x2 : Int) (x3 : Int) (x4 : Int) (h : AH) : Option (Int × AH) :=
  if w32 (h.2 69 13) ≤ w32 x4 then
    some (x3, h)
  else
    if ¬ w32 (and32 (shr32 x1 x4) 1) = 0 then
      b11_longest_81 rec5 x1 x2 x3 x4 h
    else
      if w32 x2 = (-1) then
        b11_longest_38 rec5 x1 x2 x3 x4 h
      else
        bnd (f11_isApart x2 x4 h) fun r4 h5 =>
        if w32 r4 = 0 then
          b11_longest_81 rec5 x1 x2 x3 x4 h5
        else
          b11_longest_38 rec5 x1 x2 x3 x4 h5
set_option maxRecDepth 100000 in
theorem t11_longest_5 (l : Launch) (G : Geo) (d : Nat) (hd : 7 ≤ d) (x1 : Int) (x2 : Int) (x3 : Int) (x4 : Int) (rec5 : Int × Int × AH → Option (Int × AH)) (H5 : ∀ (x3 : Int) (x4 : Int) (h : AH), Den l G m11_longest rvI d 5 [some (vA G 69), some (vI x1), some (vI x2), some (vI x3), some (vI x4)] [] h (rec5 (x3, x4, h))) (h : AH) : Den l G m11_longest rvI d 5 [some (vA G 69), some (vI x1), some (vI x2), some (vI x3), some (vI x4)] [] h (b11_longest_5 rec5 x1 x2 x3 x4 h) := by
  unfold b11_longest_5
  refine den_iload (pc := 5) d11_longest_5 rfl ?_
  refine den_aload_n (pc := 7) d11_longest_7 rfl rfl ?_
  refine den_getI (pc := 8) fa_11_192 (ok_69 _) d11_longest_8 ?_
  refine den_icmp_ge (pc := 11) (tgt := 87) d11_longest_11 (by decide) rfl rfl (fun _ => ?_) (fun _ => ?_)
  · refine den_iload_n (pc := 87) d11_longest_87 rfl rfl ?_
    exact den_iret (pc := 88) rfl d11_longest_88
  · refine den_iload_n (pc := 14) d11_longest_14 rfl rfl ?_
    refine den_iload (pc := 15) d11_longest_15 rfl ?_
    refine den_ishr (pc := 17) d11_longest_17 ?_
    refine den_iconst (pc := 18) d11_longest_18 ?_
    refine den_iand (pc := 19) d11_longest_19 ?_
    refine den_if_ne (pc := 20) (tgt := 81) d11_longest_20 (by decide) rfl (fun _ => ?_) (fun _ => ?_)
    · exact t11_longest_81 l G _ hd x1 x2 x3 x4 rec5 H5 h
    · refine den_iload_n (pc := 23) d11_longest_23 rfl rfl ?_
      refine den_iconst (pc := 24) d11_longest_24 ?_
      refine den_icmp_eq (pc := 25) (tgt := 38) d11_longest_25 (by decide) rfl (by decide) (fun _ => ?_) (fun _ => ?_)
      · exact t11_longest_38 l G _ hd x1 x2 x3 x4 rec5 H5 h
      · refine den_aload_n (pc := 28) d11_longest_28 rfl rfl ?_
        refine den_iload_n (pc := 29) d11_longest_29 rfl rfl ?_
        refine den_iload (pc := 30) d11_longest_30 rfl ?_
        refine den_callVI (pc := 32) (As := [vI x2, vI x4]) fv_11_301 rfl rfl (ok_69 _) (Nat.le_of_ble_eq_true rfl) (Nat.le_trans (by decide) hd) d11_longest_32 (c11_isApart l G x2 x4 h) (fun r4 h5 m6 o7 => ?_)
        refine den_if_eq (pc := 35) (tgt := 81) d11_longest_35 (by decide) rfl (fun _ => ?_) (fun _ => ?_)
        · exact t11_longest_81 l G _ hd x1 x2 x3 x4 rec5 H5 h5
        · exact t11_longest_38 l G _ hd x1 x2 x3 x4 rec5 H5 h5
def l11_longest_5 (x1 : Int) (x2 : Int) (x3 : Int) (x4 : Int) (h : AH) : Option (Int × AH) := fx (fun rec z => b11_longest_5 rec x1 x2 z.1 z.2.1 z.2.2) FU (x3, x4, h)
set_option maxRecDepth 100000 in
theorem tl11_longest_5 (l : Launch) (G : Geo) (d : Nat) (hd : 7 ≤ d) (x1 : Int) (x2 : Int) : ∀ (n : Nat) (z : Int × Int × AH), True → Den l G m11_longest rvI d 5 [some (vA G 69), some (vI x1), some (vI x2), some (vI z.1), some (vI z.2.1)] [] z.2.2 (fx (fun rec z => b11_longest_5 rec x1 x2 z.1 z.2.1 z.2.2) n z) :=
  den_fx (F := fun rec z => b11_longest_5 rec x1 x2 z.1 z.2.1 z.2.2) (P := fun z => True) (fL := fun z => [some (vA G 69), some (vI x1), some (vI x2), some (vI z.1), some (vI z.2.1)]) (fs := fun z => []) (fh := fun z => z.2.2) (fun rec hrec z hz => t11_longest_5 l G d hd x1 x2 z.1 z.2.1 rec (fun x3 x4 h => hrec (x3, x4, h) trivial) z.2.2 )
def f11_longest (x1 : Int) (x2 : Int) (h : AH) : Option (Int × AH) :=
  l11_longest_5 x1 x2 0 0 h
set_option maxRecDepth 100000 in
theorem c11_longest (l : Launch) (G : Geo) (x1 : Int) (x2 : Int) (h : AH) : Con l G m11_longest rvI 7 [vA G 69, vI x1, vI x2] h (f11_longest x1 x2 h) := by
  have hd : 7 ≤ 7 := Nat.le_refl _
  refine con_I rfl (by decide) rfl rfl (Nat.le_of_ble_eq_true rfl) (L := [some (vA G 69), some (vI x1), some (vI x2), none, none]) ?_
  unfold f11_longest
  refine den_iconst (pc := 0) d11_longest_0 ?_
  refine den_istore_n (pc := 1) (L2 := [some (vA G 69), some (vI x1), some (vI x2), some (vI 0), none]) d11_longest_1 rfl (by decide) rfl ?_
  refine den_iconst (pc := 2) d11_longest_2 ?_
  refine den_istore (pc := 3) (L2 := [some (vA G 69), some (vI x1), some (vI x2), some (vI 0), some (vI 0)]) d11_longest_3 (by decide) rfl ?_
  exact tl11_longest_5 l G _ hd x1 x2 FU (0, 0, h) trivial
theorem d11_circle_0 : decode m11_circle.2.1 0 = .ok (.aload_n 0, 1) := by decide +kernel
theorem d11_circle_1 : decode m11_circle.2.1 1 = .ok (.iload_n 1, 1) := by decide +kernel
theorem d11_circle_2 : decode m11_circle.2.1 2 = .ok (.invokevirtual 201, 3) := by decide +kernel
theorem d11_circle_5 : decode m11_circle.2.1 5 = .ok (.ifCond .eq 8, 3) := by decide +kernel
theorem d11_circle_8 : decode m11_circle.2.1 8 = .ok (.iload_n 2, 1) := by decide +kernel
theorem d11_circle_9 : decode m11_circle.2.1 9 = .ok (.iconst (-1), 1) := by decide +kernel
theorem d11_circle_10 : decode m11_circle.2.1 10 = .ok (.if_icmp .ge 5, 3) := by decide +kernel
theorem d11_circle_13 : decode m11_circle.2.1 13 = .ok (.iconst (-1), 1) := by decide +kernel
theorem d11_circle_14 : decode m11_circle.2.1 14 = .ok (.ireturn, 1) := by decide +kernel
theorem d11_circle_15 : decode m11_circle.2.1 15 = .ok (.iconst 1, 1) := by decide +kernel
theorem d11_circle_16 : decode m11_circle.2.1 16 = .ok (.aload_n 0, 1) := by decide +kernel
theorem d11_circle_17 : decode m11_circle.2.1 17 = .ok (.getfield 192, 3) := by decide +kernel
theorem d11_circle_20 : decode m11_circle.2.1 20 = .ok (.ishl, 1) := by decide +kernel
theorem d11_circle_21 : decode m11_circle.2.1 21 = .ok (.iconst 1, 1) := by decide +kernel
theorem d11_circle_22 : decode m11_circle.2.1 22 = .ok (.isub, 1) := by decide +kernel
theorem d11_circle_23 : decode m11_circle.2.1 23 = .ok (.istore_n 3, 1) := by decide +kernel
theorem d11_circle_24 : decode m11_circle.2.1 24 = .ok (.iload_n 3, 1) := by decide +kernel
theorem d11_circle_25 : decode m11_circle.2.1 25 = .ok (.ifCond .le 60, 3) := by decide +kernel
theorem d11_circle_28 : decode m11_circle.2.1 28 = .ok (.iconst 0, 1) := by decide +kernel
theorem d11_circle_29 : decode m11_circle.2.1 29 = .ok (.istore 4, 2) := by decide +kernel
theorem d11_circle_31 : decode m11_circle.2.1 31 = .ok (.iload 4, 2) := by decide +kernel
theorem d11_circle_33 : decode m11_circle.2.1 33 = .ok (.aload_n 0, 1) := by decide +kernel
theorem d11_circle_34 : decode m11_circle.2.1 34 = .ok (.getfield 192, 3) := by decide +kernel
theorem d11_circle_37 : decode m11_circle.2.1 37 = .ok (.if_icmp .ge 42, 3) := by decide +kernel
theorem d11_circle_40 : decode m11_circle.2.1 40 = .ok (.aload_n 0, 1) := by decide +kernel
theorem d11_circle_41 : decode m11_circle.2.1 41 = .ok (.getfield 62, 3) := by decide +kernel
theorem d11_circle_44 : decode m11_circle.2.1 44 = .ok (.bipush 8, 2) := by decide +kernel
theorem d11_circle_46 : decode m11_circle.2.1 46 = .ok (.iload_n 3, 1) := by decide +kernel
theorem d11_circle_47 : decode m11_circle.2.1 47 = .ok (.imul, 1) := by decide +kernel
theorem d11_circle_48 : decode m11_circle.2.1 48 = .ok (.iload 4, 2) := by decide +kernel
theorem d11_circle_50 : decode m11_circle.2.1 50 = .ok (.iadd, 1) := by decide +kernel
theorem d11_circle_51 : decode m11_circle.2.1 51 = .ok (.iload_n 3, 1) := by decide +kernel
theorem d11_circle_52 : decode m11_circle.2.1 52 = .ok (.iload 4, 2) := by decide +kernel
theorem d11_circle_54 : decode m11_circle.2.1 54 = .ok (.ishr, 1) := by decide +kernel
theorem d11_circle_55 : decode m11_circle.2.1 55 = .ok (.iconst 1, 1) := by decide +kernel
theorem d11_circle_56 : decode m11_circle.2.1 56 = .ok (.iand, 1) := by decide +kernel
theorem d11_circle_57 : decode m11_circle.2.1 57 = .ok (.iconst 1, 1) := by decide +kernel
theorem d11_circle_58 : decode m11_circle.2.1 58 = .ok (.if_icmp .ne 13, 3) := by decide +kernel
theorem d11_circle_61 : decode m11_circle.2.1 61 = .ok (.aload_n 0, 1) := by decide +kernel
theorem d11_circle_62 : decode m11_circle.2.1 62 = .ok (.iload_n 3, 1) := by decide +kernel
theorem d11_circle_63 : decode m11_circle.2.1 63 = .ok (.iload 4, 2) := by decide +kernel
theorem d11_circle_65 : decode m11_circle.2.1 65 = .ok (.invokevirtual 304, 3) := by decide +kernel
theorem d11_circle_68 : decode m11_circle.2.1 68 = .ok (.goto 4, 3) := by decide +kernel
theorem d11_circle_71 : decode m11_circle.2.1 71 = .ok (.iconst 0, 1) := by decide +kernel
theorem d11_circle_72 : decode m11_circle.2.1 72 = .ok (.iastore, 1) := by decide +kernel
theorem d11_circle_73 : decode m11_circle.2.1 73 = .ok (.iinc 4 1, 3) := by decide +kernel
theorem d11_circle_76 : decode m11_circle.2.1 76 = .ok (.goto (-45), 3) := by decide +kernel
theorem d11_circle_79 : decode m11_circle.2.1 79 = .ok (.iinc 3 (-1), 3) := by decide +kernel
theorem d11_circle_82 : decode m11_circle.2.1 82 = .ok (.goto (-58), 3) := by decide +kernel
theorem d11_circle_85 : decode m11_circle.2.1 85 = .ok (.aload_n 0, 1) := by decide +kernel
theorem d11_circle_86 : decode m11_circle.2.1 86 = .ok (.iconst 0, 1) := by decide +kernel
theorem d11_circle_87 : decode m11_circle.2.1 87 = .ok (.iconst (-1), 1) := by decide +kernel
theorem d11_circle_88 : decode m11_circle.2.1 88 = .ok (.invokevirtual 304, 3) := by decide +kernel
theorem d11_circle_91 : decode m11_circle.2.1 91 = .ok (.istore_n 3, 1) := by decide +kernel
theorem d11_circle_92 : decode m11_circle.2.1 92 = .ok (.iload_n 2, 1) := by decide +kernel
theorem d11_circle_93 : decode m11_circle.2.1 93 = .ok (.iconst (-1), 1) := by decide +kernel
theorem d11_circle_94 : decode m11_circle.2.1 94 = .ok (.if_icmp .ne 5, 3) := by decide +kernel
theorem d11_circle_97 : decode m11_circle.2.1 97 = .ok (.iload_n 3, 1) := by decide +kernel
theorem d11_circle_98 : decode m11_circle.2.1 98 = .ok (.ireturn, 1) := by decide +kernel
theorem d11_circle_99 : decode m11_circle.2.1 99 = .ok (.iconst 0, 1) := by decide +kernel
theorem d11_circle_100 : decode m11_circle.2.1 100 = .ok (.istore 4, 2) := by decide +kernel
theorem d11_circle_102 : decode m11_circle.2.1 102 = .ok (.iconst (-1), 1) := by decide +kernel
theorem d11_circle_103 : decode m11_circle.2.1 103 = .ok (.istore 5, 2) := by decide +kernel
theorem d11_circle_105 : decode m11_circle.2.1 105 = .ok (.iconst 0, 1) := by decide +kernel
theorem d11_circle_106 : decode m11_circle.2.1 106 = .ok (.istore 6, 2) := by decide +kernel
theorem d11_circle_108 : decode m11_circle.2.1 108 = .ok (.iload_n 3, 1) := by decide +kernel
theorem d11_circle_109 : decode m11_circle.2.1 109 = .ok (.ifCond .le 95, 3) := by decide +kernel
theorem d11_circle_112 : decode m11_circle.2.1 112 = .ok (.iconst 0, 1) := by decide +kernel
theorem d11_circle_113 : decode m11_circle.2.1 113 = .ok (.istore 7, 2) := by decide +kernel
theorem d11_circle_115 : decode m11_circle.2.1 115 = .ok (.iload 4, 2) := by decide +kernel
theorem d11_circle_117 : decode m11_circle.2.1 117 = .ok (.iload 7, 2) := by decide +kernel
theorem d11_circle_119 : decode m11_circle.2.1 119 = .ok (.ishr, 1) := by decide +kernel
theorem d11_circle_120 : decode m11_circle.2.1 120 = .ok (.iconst 1, 1) := by decide +kernel
theorem d11_circle_121 : decode m11_circle.2.1 121 = .ok (.iand, 1) := by decide +kernel
theorem d11_circle_122 : decode m11_circle.2.1 122 = .ok (.iconst 1, 1) := by decide +kernel
theorem d11_circle_123 : decode m11_circle.2.1 123 = .ok (.if_icmp .eq 44, 3) := by decide +kernel
theorem d11_circle_126 : decode m11_circle.2.1 126 = .ok (.iload 5, 2) := by decide +kernel
theorem d11_circle_128 : decode m11_circle.2.1 128 = .ok (.iconst (-1), 1) := by decide +kernel
theorem d11_circle_129 : decode m11_circle.2.1 129 = .ok (.if_icmp .eq 14, 3) := by decide +kernel
theorem d11_circle_132 : decode m11_circle.2.1 132 = .ok (.aload_n 0, 1) := by decide +kernel
theorem d11_circle_133 : decode m11_circle.2.1 133 = .ok (.iload 5, 2) := by decide +kernel
theorem d11_circle_135 : decode m11_circle.2.1 135 = .ok (.iload 7, 2) := by decide +kernel
theorem d11_circle_137 : decode m11_circle.2.1 137 = .ok (.invokevirtual 301, 3) := by decide +kernel
theorem d11_circle_140 : decode m11_circle.2.1 140 = .ok (.ifCond .eq 27, 3) := by decide +kernel
theorem d11_circle_143 : decode m11_circle.2.1 143 = .ok (.iconst 1, 1) := by decide +kernel
theorem d11_circle_144 : decode m11_circle.2.1 144 = .ok (.aload_n 0, 1) := by decide +kernel
theorem d11_circle_145 : decode m11_circle.2.1 145 = .ok (.getfield 62, 3) := by decide +kernel
theorem d11_circle_148 : decode m11_circle.2.1 148 = .ok (.bipush 8, 2) := by decide +kernel
theorem d11_circle_150 : decode m11_circle.2.1 150 = .ok (.iload 4, 2) := by decide +kernel
theorem d11_circle_152 : decode m11_circle.2.1 152 = .ok (.iconst 1, 1) := by decide +kernel
theorem d11_circle_153 : decode m11_circle.2.1 153 = .ok (.iload 7, 2) := by decide +kernel
theorem d11_circle_155 : decode m11_circle.2.1 155 = .ok (.ishl, 1) := by decide +kernel
theorem d11_circle_156 : decode m11_circle.2.1 156 = .ok (.ior, 1) := by decide +kernel
theorem d11_circle_157 : decode m11_circle.2.1 157 = .ok (.imul, 1) := by decide +kernel
theorem d11_circle_158 : decode m11_circle.2.1 158 = .ok (.iload 7, 2) := by decide +kernel
theorem d11_circle_160 : decode m11_circle.2.1 160 = .ok (.iadd, 1) := by decide +kernel
theorem d11_circle_161 : decode m11_circle.2.1 161 = .ok (.iaload, 1) := by decide +kernel
theorem d11_circle_162 : decode m11_circle.2.1 162 = .ok (.iadd, 1) := by decide +kernel
theorem d11_circle_163 : decode m11_circle.2.1 163 = .ok (.iload_n 3, 1) := by decide +kernel
theorem d11_circle_164 : decode m11_circle.2.1 164 = .ok (.if_icmp .eq 9, 3) := by decide +kernel
theorem d11_circle_167 : decode m11_circle.2.1 167 = .ok (.iinc 7 1, 3) := by decide +kernel
theorem d11_circle_170 : decode m11_circle.2.1 170 = .ok (.goto (-55), 3) := by decide +kernel
theorem d11_circle_173 : decode m11_circle.2.1 173 = .ok (.iload 6, 2) := by decide +kernel
theorem d11_circle_175 : decode m11_circle.2.1 175 = .ok (.iload_n 2, 1) := by decide +kernel
theorem d11_circle_176 : decode m11_circle.2.1 176 = .ok (.if_icmp .ne 6, 3) := by decide +kernel
theorem d11_circle_179 : decode m11_circle.2.1 179 = .ok (.iload 7, 2) := by decide +kernel
theorem d11_circle_181 : decode m11_circle.2.1 181 = .ok (.ireturn, 1) := by decide +kernel
theorem d11_circle_182 : decode m11_circle.2.1 182 = .ok (.iload 4, 2) := by decide +kernel
theorem d11_circle_184 : decode m11_circle.2.1 184 = .ok (.iconst 1, 1) := by decide +kernel
theorem d11_circle_185 : decode m11_circle.2.1 185 = .ok (.iload 7, 2) := by decide +kernel
theorem d11_circle_187 : decode m11_circle.2.1 187 = .ok (.ishl, 1) := by decide +kernel
theorem d11_circle_188 : decode m11_circle.2.1 188 = .ok (.ior, 1) := by decide +kernel
theorem d11_circle_189 : decode m11_circle.2.1 189 = .ok (.istore 4, 2) := by decide +kernel
theorem d11_circle_191 : decode m11_circle.2.1 191 = .ok (.iload 7, 2) := by decide +kernel
theorem d11_circle_193 : decode m11_circle.2.1 193 = .ok (.istore 5, 2) := by decide +kernel
theorem d11_circle_195 : decode m11_circle.2.1 195 = .ok (.iinc 3 (-1), 3) := by decide +kernel
theorem d11_circle_198 : decode m11_circle.2.1 198 = .ok (.iinc 6 1, 3) := by decide +kernel
theorem d11_circle_201 : decode m11_circle.2.1 201 = .ok (.goto (-93), 3) := by decide +kernel
theorem d11_circle_204 : decode m11_circle.2.1 204 = .ok (.iconst (-1), 1) := by decide +kernel
theorem d11_circle_205 : decode m11_circle.2.1 205 = .ok (.ireturn, 1) := by decide +kernel
def b11_circle_72 (rec24 : Int × AH → Option (Int × AH)) (rec31 : Int × AH → Option (Int × AH)) (x2 : Int) (x3 : Int) (x4 : Int) (s0 : Int) (s1 : Int) (h : AH) : Option (Int × AH) :=
  asrt (0 ≤ w32 s1 ∧ w32 s1 < 2048) <|
  lt (wr h 87 (w32 s1).toNat s0) fun h2 =>
  rec31 ((x4 + 1), h2)
set_option maxRecDepth 100000 in
theorem t11_circle_72 (l : Launch) (G : Geo) (d : Nat) (hd : 8 ≤ d) (x2 : Int) (x3 : Int) (x4 : Int) (s0 : Int) (s1 : Int) (rec24 : Int × AH → Option (Int × AH)) (H24 : ∀ (x3 : Int) (h : AH), Den l G m11_circle rvI d 24 [some (vA G 69), none, some (vI x2), some (vI x3), none, none, none, none] [] h (rec24 (x3, h))) (rec31 : Int × AH → Option (Int × AH)) (H31 : ∀ (x4 : Int) (h : AH), Den l G m11_circle rvI d 31 [some (vA G 69), none, some (vI x2), some (vI x3), some (vI x4), none, none, none] [] h (rec31 (x4, h))) (h : AH) : Den l G m11_circle rvI d 72 [some (vA G 69), none, some (vI x2), some (vI x3), some (vI x4), none, none, none] [vI s0, vI s1, vA G 87] h (b11_circle_72 rec24 rec31 x2 x3 x4 s0 s1 h) := by
  unfold b11_circle_72
  refine den_asrt (fun a1 => ?_)
  refine den_iastore (pc := 72) sh_87 (sz_lt (by decide)) rfl a1 d11_circle_72 ?_
  refine den_ltH (fun h2 m3 => ?_)
  refine den_iinc (pc := 73) (L2 := [some (vA G 69), none, some (vI x2), some (vI x3), some (vI (x4 + 1)), none, none, none]) d11_circle_73 (by decide) rfl rfl ?_
  refine den_goto (pc := 76) (tgt := 31) d11_circle_76 (by decide) ?_
  exact H31 (x4 + 1) h2
def b11_circle_31 (rec31 : Int × AH → Option (Int × AH)) (rec24 : Int × AH → Option (Int × AH)) (x2 : Int) (x3 : Int) (x4 : Int) (h : AH) : Option (Int × AH) :=
  if w32 (h.2 69 13) ≤ w32 x4 then
    rec24 ((x3 + (-1)), h)
  else
    if ¬ w32 (and32 (shr32 x3 x4) 1) = 1 then
      b11_circle_72 rec24 rec31 x2 x3 x4 0 ((8 * x3) + x4) h
    else
      bnd (f11_longest x3 x4 h) fun r4 h5 =>
      b11_circle_72 rec24 rec31 x2 x3 x4 r4 ((8 * x3) + x4) h5
set_option maxRecDepth 100000 in
theorem t11_circle_31 (l : Launch) (G : Geo) (d : Nat) (hd : 8 ≤ d) (x2 : Int) (x3 : Int) (x4 : Int) (rec31 : Int × AH → Option (Int × AH)) (H31 : ∀ (x4 : Int) (h : AH), Den l G m11_circle rvI d 31 [some (vA G 69), none, some (vI x2), some (vI x3), some (vI x4), none, none, none] [] h (rec31 (x4, h))) (rec24 : Int × AH → Option (Int × AH)) (H24 : ∀ (x3 : Int) (h : AH), Den l G m11_circle rvI d 24 [some (vA G 69), none, some (vI x2), some (vI x3), none, none, none, none] [] h (rec24 (x3, h))) (h : AH) : Den l G m11_circle rvI d 31 [some (vA G 69), none, some (vI x2), some (vI x3), some (vI x4), none, none, none] [] h (b11_circle_31 rec31 rec24 x2 x3 x4 h) := by
  unfold b11_circle_31
  refine den_iload (pc := 31) d11_circle_31 rfl ?_
  refine den_aload_n (pc := 33) d11_circle_33 rfl rfl ?_
  refine den_getI (pc := 34) fa_11_192 (ok_69 _) d11_circle_34 ?_
  refine den_icmp_ge (pc := 37) (tgt := 79) d11_circle_37 (by decide) rfl rfl (fun _ => ?_) (fun _ => ?_)
  · refine den_iinc (pc := 79) (L2 := [some (vA G 69), none, some (vI x2), some (vI (x3 + (-1))), some (vI x4), none, none, none]) d11_circle_79 (by decide) rfl rfl ?_
    refine den_goto (pc := 82) (tgt := 24) d11_circle_82 (by decide) ?_
    refine den_wk [true, true, true, true, false, true, true, true] rfl ?_
    exact H24 (x3 + (-1)) h
  · refine den_aload_n (pc := 40) d11_circle_40 rfl rfl ?_
    refine den_getR (pc := 41) (b := 87) fa_11_62 (ok_69 _) rfl d11_circle_41 ?_
    refine den_bipush (pc := 44) d11_circle_44 (by decide) ?_
    refine den_iload_n (pc := 46) d11_circle_46 rfl rfl ?_
    refine den_imul (pc := 47) d11_circle_47 ?_
    refine den_iload (pc := 48) d11_circle_48 rfl ?_
    refine den_iadd (pc := 50) d11_circle_50 ?_
    refine den_iload_n (pc := 51) d11_circle_51 rfl rfl ?_
    refine den_iload (pc := 52) d11_circle_52 rfl ?_
    refine den_ishr (pc := 54) d11_circle_54 ?_
    refine den_iconst (pc := 55) d11_circle_55 ?_
    refine den_iand (pc := 56) d11_circle_56 ?_
    refine den_iconst (pc := 57) d11_circle_57 ?_
    refine den_icmp_ne (pc := 58) (tgt := 71) d11_circle_58 (by decide) rfl (by decide) (fun _ => ?_) (fun _ => ?_)
    · refine den_iconst (pc := 71) d11_circle_71 ?_
      exact t11_circle_72 l G _ hd x2 x3 x4 0 ((8 * x3) + x4) rec24 H24 rec31 H31 h
    · refine den_aload_n (pc := 61) d11_circle_61 rfl rfl ?_
      refine den_iload_n (pc := 62) d11_circle_62 rfl rfl ?_
      refine den_iload (pc := 63) d11_circle_63 rfl ?_
      refine den_callVI (pc := 65) (As := [vI x3, vI x4]) fv_11_304 rfl rfl (ok_69 _) (Nat.le_of_ble_eq_true rfl) (Nat.le_trans (by decide) hd) d11_circle_65 (c11_longest l G x3 x4 h) (fun r4 h5 m6 o7 => ?_)
      refine den_goto (pc := 68) (tgt := 72) d11_circle_68 (by decide) ?_
      exact t11_circle_72 l G _ hd x2 x3 x4 r4 ((8 * x3) + x4) rec24 H24 rec31 H31 h5
def l11_circle_31 (rec24 : Int × AH → Option (Int × AH)) (x2 : Int) (x3 : Int) (x4 : Int) (h : AH) : Option (Int × AH) := fx (fun rec z => b11_circle_31 rec rec24 x2 x3 z.1 z.2) FU (x4, h)
set_option maxRecDepth 100000 in
theorem tl11_circle_31 (l : Launch) (G : Geo) (d : Nat) (hd : 8 ≤ d) (x2 : Int) (x3 : Int) (rec24 : Int × AH → Option (Int × AH)) (H24 : ∀ (x3 : Int) (h : AH), Den l G m11_circle rvI d 24 [some (vA G 69), none, some (vI x2), some (vI x3), none, none, none, none] [] h (rec24 (x3, h))) : ∀ (n : Nat) (z : Int × AH), True → Den l G m11_circle rvI d 31 [some (vA G 69), none, some (vI x2), some (vI x3), some (vI z.1), none, none, none] [] z.2 (fx (fun rec z => b11_circle_31 rec rec24 x2 x3 z.1 z.2) n z) :=
  den_fx (F := fun rec z => b11_circle_31 rec rec24 x2 x3 z.1 z.2) (P := fun z => True) (fL := fun z => [some (vA G 69), none, some (vI x2), some (vI x3), some (vI z.1), none, none, none]) (fs := fun z => []) (fh := fun z => z.2) (fun rec hrec z hz => t11_circle_31 l G d hd x2 x3 z.1 rec (fun x4 h => hrec (x4, h) trivial) rec24 H24 z.2 )
def b11_circle_167 (rec108 : Int × Int × Int × Int × AH → Option (Int × AH)) (rec115 : Int × AH → Option (Int × AH)) (x2 : Int) (x3 : Int) (x4 : Int) (x5 : Int) (x6 : Int) (x7 : Int) (h : AH) : Option (Int × AH) :=
  rec115 ((x7 + 1), h)
set_option maxRecDepth 100000 in
theorem t11_circle_167 (l : Launch) (G : Geo) (d : Nat) (hd : 8 ≤ d) (x2 : Int) (x3 : Int) (x4 : Int) (x5 : Int) (x6 : Int) (x7 : Int) (rec108 : Int × Int × Int × Int × AH → Option (Int × AH)) (H108 : ∀ (x3 : Int) (x4 : Int) (x5 : Int) (x6 : Int) (h : AH), Den l G m11_circle rvI d 108 [some (vA G 69), none, some (vI x2), some (vI x3), some (vI x4), some (vI x5), some (vI x6), none] [] h (rec108 (x3, x4, x5, x6, h))) (rec115 : Int × AH → Option (Int × AH)) (H115 : ∀ (x7 : Int) (h : AH), Den l G m11_circle rvI d 115 [some (vA G 69), none, some (vI x2), some (vI x3), some (vI x4), some (vI x5), some (vI x6), some (vI x7)] [] h (rec115 (x7, h))) (h : AH) : Den l G m11_circle rvI d 167 [some (vA G 69), none, some (vI x2), some (vI x3), some (vI x4), some (vI x5), some (vI x6), some (vI x7)] [] h (b11_circle_167 rec108 rec115 x2 x3 x4 x5 x6 x7 h) := by
  unfold b11_circle_167
  refine den_iinc (pc := 167) (L2 := [some (vA G 69), none, some (vI x2), some (vI x3), some (vI x4), some (vI x5), some (vI x6), some (vI (x7 + 1))]) d11_circle_167 (by decide) rfl rfl ?_
  refine den_goto (pc := 170) (tgt := 115) d11_circle_170 (by decide) ?_
  exact H115 (x7 + 1) h
def b11_circle_143 (rec108 : Int × Int × Int × Int × AH → Option (Int × AH)) (rec115 : Int × AH → Option (Int × AH)) (x2 : Int) (x3 : Int) (x4 : Int) (x5 : Int) (x6 : Int) (x7 : Int) (h : AH) : Option (Int × AH) :=
  asrt (0 ≤ w32 ((8 * (or32 x4 (shl32 1 x7))) + x7) ∧ w32 ((8 * (or32 x4 (shl32 1 x7))) + x7) < 2048) <|
  if w32 (1 + (h.2 87 (w32 ((8 * (or32 x4 (shl32 1 x7))) + x7)).toNat)) = w32 x3 then
    if ¬ w32 x6 = w32 x2 then
      lt (or32 x4 (shl32 1 x7)) fun u9 =>
      rec108 ((x3 + (-1)), u9, x7, (x6 + 1), h)
    else
      some (x7, h)
  else
    b11_circle_167 rec108 rec115 x2 x3 x4 x5 x6 x7 h
set_option maxRecDepth 100000 in
theorem t11_circle_143 (l : Launch) (G : Geo) (d : Nat) (hd : 8 ≤ d) (x2 : Int) (x3 : Int) (x4 : Int) (x5 : Int) (x6 : Int) (x7 : Int) (rec108 : Int × Int × Int × Int × AH → Option (Int × AH)) (H108 : ∀ (x3 : Int) (x4 : Int) (x5 : Int) (x6 : Int) (h : AH), Den l G m11_circle rvI d 108 [some (vA G 69), none, some (vI x2), some (vI x3), some (vI x4), some (vI x5), some (vI x6), none] [] h (rec108 (x3, x4, x5, x6, h))) (rec115 : Int × AH → Option (Int × AH)) (H115 : ∀ (x7 : Int) (h : AH), Den l G m11_circle rvI d 115 [some (vA G 69), none, some (vI x2), some (vI x3), some (vI x4), some (vI x5), some (vI x6), some (vI x7)] [] h (rec115 (x7, h))) (h : AH) : Den l G m11_circle rvI d 143 [some (vA G 69), none, some (vI x2), some (vI x3), some (vI x4), some (vI x5), some (vI x6), some (vI x7)] [] h (b11_circle_143 rec108 rec115 x2 x3 x4 x5 x6 x7 h) := by
  unfold b11_circle_143
  refine den_iconst (pc := 143) d11_circle_143 ?_
  refine den_aload_n (pc := 144) d11_circle_144 rfl rfl ?_
  refine den_getR (pc := 145) (b := 87) fa_11_62 (ok_69 _) rfl d11_circle_145 ?_
  refine den_bipush (pc := 148) d11_circle_148 (by decide) ?_
  refine den_iload (pc := 150) d11_circle_150 rfl ?_
  refine den_iconst (pc := 152) d11_circle_152 ?_
  refine den_iload (pc := 153) d11_circle_153 rfl ?_
  refine den_ishl (pc := 155) d11_circle_155 ?_
  refine den_ior (pc := 156) d11_circle_156 ?_
  refine den_imul (pc := 157) d11_circle_157 ?_
  refine den_iload (pc := 158) d11_circle_158 rfl ?_
  refine den_iadd (pc := 160) d11_circle_160 ?_
  refine den_asrt (fun a8 => ?_)
  refine den_iaload (pc := 161) sh_87 (sz_lt (by decide)) rfl a8 d11_circle_161 ?_
  refine den_iadd (pc := 162) d11_circle_162 ?_
  refine den_iload_n (pc := 163) d11_circle_163 rfl rfl ?_
  refine den_icmp_eq (pc := 164) (tgt := 173) d11_circle_164 (by decide) rfl rfl (fun _ => ?_) (fun _ => ?_)
  · refine den_iload (pc := 173) d11_circle_173 rfl ?_
    refine den_iload_n (pc := 175) d11_circle_175 rfl rfl ?_
    refine den_icmp_ne (pc := 176) (tgt := 182) d11_circle_176 (by decide) rfl rfl (fun _ => ?_) (fun _ => ?_)
    · refine den_iload (pc := 182) d11_circle_182 rfl ?_
      refine den_iconst (pc := 184) d11_circle_184 ?_
      refine den_iload (pc := 185) d11_circle_185 rfl ?_
      refine den_ishl (pc := 187) d11_circle_187 ?_
      refine den_ior (pc := 188) d11_circle_188 ?_
      refine den_istoreL (pc := 189) (L2 := fun y => [some (vA G 69), none, some (vI x2), some (vI x3), some (vI y), some (vI x5), some (vI x6), some (vI x7)]) d11_circle_189 (by decide) (fun _ => rfl) (fun u9 => ?_)
      refine den_iload (pc := 191) d11_circle_191 rfl ?_
      refine den_istore (pc := 193) (L2 := [some (vA G 69), none, some (vI x2), some (vI x3), some (vI u9), some (vI x7), some (vI x6), some (vI x7)]) d11_circle_193 (by decide) rfl ?_
      refine den_iinc (pc := 195) (L2 := [some (vA G 69), none, some (vI x2), some (vI (x3 + (-1))), some (vI u9), some (vI x7), some (vI x6), some (vI x7)]) d11_circle_195 (by decide) rfl rfl ?_
      refine den_iinc (pc := 198) (L2 := [some (vA G 69), none, some (vI x2), some (vI (x3 + (-1))), some (vI u9), some (vI x7), some (vI (x6 + 1)), some (vI x7)]) d11_circle_198 (by decide) rfl rfl ?_
      refine den_goto (pc := 201) (tgt := 108) d11_circle_201 (by decide) ?_
      refine den_wk [true, true, true, true, true, true, true, false] rfl ?_
      exact H108 (x3 + (-1)) u9 x7 (x6 + 1) h
    · refine den_iload (pc := 179) d11_circle_179 rfl ?_
      exact den_iret (pc := 181) rfl d11_circle_181
  · exact t11_circle_167 l G _ hd x2 x3 x4 x5 x6 x7 rec108 H108 rec115 H115 h
def b11_circle_115 (rec115 : Int × AH → Option (Int × AH)) (rec108 : Int × Int × Int × Int × AH → Option (Int × AH)) (x2 : Int) (x3 : Int) (x4 : Int) (x5 : Int) (x6 : Int) (x7 : Int) (h : AH) : Option (Int × AH) :=
  if w32 (and32 (shr32 x4 x7) 1) = 1 then
    b11_circle_167 rec108 rec115 x2 x3 x4 x5 x6 x7 h
  else
    if w32 x5 = (-1) then
      b11_circle_143 rec108 rec115 x2 x3 x4 x5 x6 x7 h
    else
      bnd (f11_isApart x5 x7 h) fun r10 h11 =>
      if w32 r10 = 0 then
        b11_circle_167 rec108 rec115 x2 x3 x4 x5 x6 x7 h11
      else
        b11_circle_143 rec108 rec115 x2 x3 x4 x5 x6 x7 h11
set_option maxRecDepth 100000 in
theorem t11_circle_115 (l : Launch) (G : Geo) (d : Nat) (hd : 8 ≤ d) (x2 : Int) (x3 : Int) (x4 : Int) (x5 : Int) (x6 : Int) (x7 : Int) (rec115 : Int × AH → Option (Int × AH)) (H115 : ∀ (x7 : Int) (h : AH), Den l G m11_circle rvI d 115 [some (vA G 69), none, some (vI x2), some (vI x3), some (vI x4), some (vI x5), some (vI x6), some (vI x7)] [] h (rec115 (x7, h))) (rec108 : Int × Int × Int × Int × AH → Option (Int × AH)) (H108 : ∀ (x3 : Int) (x4 : Int) (x5 : Int) (x6 : Int) (h : AH), Den l G m11_circle rvI d 108 [some (vA G 69), none, some (vI x2), some (vI x3), some (vI x4), some (vI x5), some (vI x6), none] [] h (rec108 (x3, x4, x5, x6, h))) (h : AH) : Den l G m11_circle rvI d 115 [some (vA G 69), none, some (vI x2), some (vI x3), some (vI x4), some (vI x5), some (vI x6), some (vI x7)] [] h (b11_circle_115 rec115 rec108 x2 x3 x4 x5 x6 x7 h) := by
  unfold b11_circle_115
  refine den_iload (pc := 115) d11_circle_115 rfl ?_
  refine den_iload (pc := 117) d11_circle_117 rfl ?_
  refine den_ishr (pc := 119) d11_circle_119 ?_
  refine den_iconst (pc := 120) d11_circle_120 ?_
  refine den_iand (pc := 121) d11_circle_121 ?_
  refine den_iconst (pc := 122) d11_circle_122 ?_
  refine den_icmp_eq (pc := 123) (tgt := 167) d11_circle_123 (by decide) rfl (by decide) (fun _ => ?_) (fun _ => ?_)
  · exact t11_circle_167 l G _ hd x2 x3 x4 x5 x6 x7 rec108 H108 rec115 H115 h
  · refine den_iload (pc := 126) d11_circle_126 rfl ?_
    refine den_iconst (pc := 128) d11_circle_128 ?_
    refine den_icmp_eq (pc := 129) (tgt := 143) d11_circle_129 (by decide) rfl (by decide) (fun _ => ?_) (fun _ => ?_)
    · exact t11_circle_143 l G _ hd x2 x3 x4 x5 x6 x7 rec108 H108 rec115 H115 h
    · refine den_aload_n (pc := 132) d11_circle_132 rfl rfl ?_
      refine den_iload (pc := 133) d11_circle_133 rfl ?_
      refine den_iload (pc := 135) d11_circle_135 rfl ?_
      refine den_callVI (pc := 137) (As := [vI x5, vI x7]) fv_11_301 rfl rfl (ok_69 _) (Nat.le_of_ble_eq_true rfl) (Nat.le_trans (by decide) hd) d11_circle_137 (c11_isApart l G x5 x7 h) (fun r10 h11 m12 o13 => ?_)
      refine den_if_eq (pc := 140) (tgt := 167) d11_circle_140 (by decide) rfl (fun _ => ?_) (fun _ => ?_)
      · exact t11_circle_167 l G _ hd x2 x3 x4 x5 x6 x7 rec108 H108 rec115 H115 h11
      · exact t11_circle_143 l G _ hd x2 x3 x4 x5 x6 x7 rec108 H108 rec115 H115 h11
def l11_circle_115 (rec108 : Int × Int × Int × Int × AH → Option (Int × AH)) (x2 : Int) (x3 : Int) (x4 : Int) (x5 : Int) (x6 : Int) (x7 : Int) (h : AH) : Option (Int × AH) := fx (fun rec z => b11_circle_115 rec rec108 x2 x3 x4 x5 x6 z.1 z.2) FU (x7, h)
set_option maxRecDepth 100000 in
theorem tl11_circle_115 (l : Launch) (G : Geo) (d : Nat) (hd : 8 ≤ d) (x2 : Int) (x3 : Int) (x4 : Int) (x5 : Int) (x6 : Int) (rec108 : Int × Int × Int × Int × AH → Option (Int × AH)) (H108 : ∀ (x3 : Int) (x4 : Int) (x5 : Int) (x6 : Int) (h : AH), Den l G m11_circle rvI d 108 [some (vA G 69), none, some (vI x2), some (vI x3), some (vI x4), some (vI x5), some (vI x6), none] [] h (rec108 (x3, x4, x5, x6, h))) : ∀ (n : Nat) (z : Int × AH), True → Den l G m11_circle rvI d 115 [some (vA G 69), none, some (vI x2), some (vI x3), some (vI x4), some (vI x5), some (vI x6), some (vI z.1)] [] z.2 (fx (fun rec z => b11_circle_115 rec rec108 x2 x3 x4 x5 x6 z.1 z.2) n z) :=
  den_fx (F := fun rec z => b11_circle_115 rec rec108 x2 x3 x4 x5 x6 z.1 z.2) (P := fun z => True) (fL := fun z => [some (vA G 69), none, some (vI x2), some (vI x3), some (vI x4), some (vI x5), some (vI x6), some (vI z.1)]) (fs := fun z => []) (fh := fun z => z.2) (fun rec hrec z hz => t11_circle_115 l G d hd x2 x3 x4 x5 x6 z.1 rec (fun x7 h => hrec (x7, h) trivial) rec108 H108 z.2 )
def b11_circle_108 (rec108 : Int × Int × Int × Int × AH → Option (Int × AH)) (x2 : Int) (x3 : Int) (x4 : Int) (x5 : Int) (x6 : Int) (h : AH) : Option (Int × AH) :=
  if w32 x3 ≤ 0 then
    some ((-1), h)
  else
    l11_circle_115 rec108 x2 x3 x4 x5 x6 0 h
set_option maxRecDepth 100000 in
theorem t11_circle_108 (l : Launch) (G : Geo) (d : Nat) (hd : 8 ≤ d) (x2 : Int) (x3 : Int) (x4 : Int) (x5 : Int) (x6 : Int) (rec108 : Int × Int × Int × Int × AH → Option (Int × AH)) (H108 : ∀ (x3 : Int) (x4 : Int) (x5 : Int) (x6 : Int) (h : AH), Den l G m11_circle rvI d 108 [some (vA G 69), none, some (vI x2), some (vI x3), some (vI x4), some (vI x5), some (vI x6), none] [] h (rec108 (x3, x4, x5, x6, h))) (h : AH) : Den l G m11_circle rvI d 108 [some (vA G 69), none, some (vI x2), some (vI x3), some (vI x4), some (vI x5), some (vI x6), none] [] h (b11_circle_108 rec108 x2 x3 x4 x5 x6 h) := by
  unfold b11_circle_108
  refine den_iload_n (pc := 108) d11_circle_108 rfl rfl ?_
  refine den_if_le (pc := 109) (tgt := 204) d11_circle_109 (by decide) rfl (fun _ => ?_) (fun _ => ?_)
  · refine den_iconst (pc := 204) d11_circle_204 ?_
    exact den_iret (pc := 205) rfl d11_circle_205
  · refine den_iconst (pc := 112) d11_circle_112 ?_
    refine den_istore (pc := 113) (L2 := [some (vA G 69), none, some (vI x2), some (vI x3), some (vI x4), some (vI x5), some (vI x6), some (vI 0)]) d11_circle_113 (by decide) rfl ?_
    exact tl11_circle_115 l G _ hd x2 x3 x4 x5 x6 rec108 H108 FU (0, h) trivial
def l11_circle_108 (x2 : Int) (x3 : Int) (x4 : Int) (x5 : Int) (x6 : Int) (h : AH) : Option (Int × AH) := fx (fun rec z => b11_circle_108 rec x2 z.1 z.2.1 z.2.2.1 z.2.2.2.1 z.2.2.2.2) FU (x3, x4, x5, x6, h)
set_option maxRecDepth 100000 in
theorem tl11_circle_108 (l : Launch) (G : Geo) (d : Nat) (hd : 8 ≤ d) (x2 : Int) : ∀ (n : Nat) (z : Int × Int × Int × Int × AH), True → Den l G m11_circle rvI d 108 [some (vA G 69), none, some (vI x2), some (vI z.1), some (vI z.2.1), some (vI z.2.2.1), some (vI z.2.2.2.1), none] [] z.2.2.2.2 (fx (fun rec z => b11_circle_108 rec x2 z.1 z.2.1 z.2.2.1 z.2.2.2.1 z.2.2.2.2) n z) :=
  den_fx (F := fun rec z => b11_circle_108 rec x2 z.1 z.2.1 z.2.2.1 z.2.2.2.1 z.2.2.2.2) (P := fun z => True) (fL := fun z => [some (vA G 69), none, some (vI x2), some (vI z.1), some (vI z.2.1), some (vI z.2.2.1), some (vI z.2.2.2.1), none]) (fs := fun z => []) (fh := fun z => z.2.2.2.2) (fun rec hrec z hz => t11_circle_108 l G d hd x2 z.1 z.2.1 z.2.2.1 z.2.2.2.1 rec (fun x3 x4 x5 x6 h => hrec (x3, x4, x5, x6, h) trivial) z.2.2.2.2 )
def b11_circle_24 (rec24 : Int × AH → Option (Int × AH)) (x2 : Int) (x3 : Int) (h : AH) : Option (Int × AH) :=
  if w32 x3 ≤ 0 then
    bnd (f11_longest 0 (-1) h) fun r14 h15 =>
    if ¬ w32 x2 = (-1) then
      l11_circle_108 x2 r14 0 (-1) 0 h15
    else
      some (r14, h15)
  else
    l11_circle_31 rec24 x2 x3 0 h
set_option maxRecDepth 100000 in
theorem t11_circle_24 (l : Launch) (G : Geo) (d : Nat) (hd : 8 ≤ d) (x2 : Int) (x3 : Int) (rec24 : Int × AH → Option (Int × AH)) (H24 : ∀ (x3 : Int) (h : AH), Den l G m11_circle rvI d 24 [some (vA G 69), none, some (vI x2), some (vI x3), none, none, none, none] [] h (rec24 (x3, h))) (h : AH) : Den l G m11_circle rvI d 24 [some (vA G 69), none, some (vI x2), some (vI x3), none, none, none, none] [] h (b11_circle_24 rec24 x2 x3 h) := by
  unfold b11_circle_24
  refine den_iload_n (pc := 24) d11_circle_24 rfl rfl ?_
  refine den_if_le (pc := 25) (tgt := 85) d11_circle_25 (by decide) rfl (fun _ => ?_) (fun _ => ?_)
  · refine den_aload_n (pc := 85) d11_circle_85 rfl rfl ?_
    refine den_iconst (pc := 86) d11_circle_86 ?_
    refine den_iconst (pc := 87) d11_circle_87 ?_
    refine den_callVI (pc := 88) (As := [vI 0, vI (-1)]) fv_11_304 rfl rfl (ok_69 _) (Nat.le_of_ble_eq_true rfl) (Nat.le_trans (by decide) hd) d11_circle_88 (c11_longest l G 0 (-1) h) (fun r14 h15 m16 o17 => ?_)
    refine den_istore_n (pc := 91) (L2 := [some (vA G 69), none, some (vI x2), some (vI r14), none, none, none, none]) d11_circle_91 rfl (by decide) rfl ?_
    refine den_iload_n (pc := 92) d11_circle_92 rfl rfl ?_
    refine den_iconst (pc := 93) d11_circle_93 ?_
    refine den_icmp_ne (pc := 94) (tgt := 99) d11_circle_94 (by decide) rfl (by decide) (fun _ => ?_) (fun _ => ?_)
    · refine den_iconst (pc := 99) d11_circle_99 ?_
      refine den_istore (pc := 100) (L2 := [some (vA G 69), none, some (vI x2), some (vI r14), some (vI 0), none, none, none]) d11_circle_100 (by decide) rfl ?_
      refine den_iconst (pc := 102) d11_circle_102 ?_
      refine den_istore (pc := 103) (L2 := [some (vA G 69), none, some (vI x2), some (vI r14), some (vI 0), some (vI (-1)), none, none]) d11_circle_103 (by decide) rfl ?_
      refine den_iconst (pc := 105) d11_circle_105 ?_
      refine den_istore (pc := 106) (L2 := [some (vA G 69), none, some (vI x2), some (vI r14), some (vI 0), some (vI (-1)), some (vI 0), none]) d11_circle_106 (by decide) rfl ?_
      exact tl11_circle_108 l G _ hd x2 FU (r14, 0, (-1), 0, h15) trivial
    · refine den_iload_n (pc := 97) d11_circle_97 rfl rfl ?_
      exact den_iret (pc := 98) rfl d11_circle_98
  · refine den_iconst (pc := 28) d11_circle_28 ?_
    refine den_istore (pc := 29) (L2 := [some (vA G 69), none, some (vI x2), some (vI x3), some (vI 0), none, none, none]) d11_circle_29 (by decide) rfl ?_
    exact tl11_circle_31 l G _ hd x2 x3 rec24 H24 FU (0, h) trivial
def l11_circle_24 (x2 : Int) (x3 : Int) (h : AH) : Option (Int × AH) := fx (fun rec z => b11_circle_24 rec x2 z.1 z.2) FU (x3, h)
set_option maxRecDepth 100000 in
theorem tl11_circle_24 (l : Launch) (G : Geo) (d : Nat) (hd : 8 ≤ d) (x2 : Int) : ∀ (n : Nat) (z : Int × AH), True → Den l G m11_circle rvI d 24 [some (vA G 69), none, some (vI x2), some (vI z.1), none, none, none, none] [] z.2 (fx (fun rec z => b11_circle_24 rec x2 z.1 z.2) n z) :=
  den_fx (F := fun rec z => b11_circle_24 rec x2 z.1 z.2) (P := fun z => True) (fL := fun z => [some (vA G 69), none, some (vI x2), some (vI z.1), none, none, none, none]) (fs := fun z => []) (fh := fun z => z.2) (fun rec hrec z hz => t11_circle_24 l G d hd x2 z.1 rec (fun x3 h => hrec (x3, h) trivial) z.2 )
def f11_circle (x1 : Int) (x2 : Int) (h : AH) : Option (Int × AH) :=
  bnd (f11_isVillage x1 h) fun r18 h19 =>
  if w32 r18 = 0 then
    some ((-1), h19)
  else
    if (-1) ≤ w32 x2 then
      lt ((shl32 1 (h19.2 69 13)) - 1) fun u22 =>
      l11_circle_24 x2 u22 h19
    else
      some ((-1), h19)
set_option maxRecDepth 100000 in
theorem c11_circle (l : Launch) (G : Geo) (x1 : Int) (x2 : Int) (h : AH) : Con l G m11_circle rvI 8 [vA G 69, vI x1, vI x2] h (f11_circle x1 x2 h) := by
  have hd : 8 ≤ 8 := Nat.le_refl _
  refine con_I rfl (by decide) rfl rfl (Nat.le_of_ble_eq_true rfl) (L := [some (vA G 69), some (vI x1), some (vI x2), none, none, none, none, none]) ?_
  unfold f11_circle
  refine den_aload_n (pc := 0) d11_circle_0 rfl rfl ?_
  refine den_iload_n (pc := 1) d11_circle_1 rfl rfl ?_
  refine den_callVI (pc := 2) (As := [vI x1]) fv_11_201 rfl rfl (ok_69 _) (Nat.le_of_ble_eq_true rfl) (Nat.le_trans (by decide) hd) d11_circle_2 (c11_isVillage l G x1 h) (fun r18 h19 m20 o21 => ?_)
  refine den_if_eq (pc := 5) (tgt := 13) d11_circle_5 (by decide) rfl (fun _ => ?_) (fun _ => ?_)
  · refine den_iconst (pc := 13) d11_circle_13 ?_
    exact den_iret (pc := 14) rfl d11_circle_14
  · refine den_iload_n (pc := 8) d11_circle_8 rfl rfl ?_
    refine den_iconst (pc := 9) d11_circle_9 ?_
    refine den_icmp_ge (pc := 10) (tgt := 15) d11_circle_10 (by decide) rfl (by decide) (fun _ => ?_) (fun _ => ?_)
    · refine den_iconst (pc := 15) d11_circle_15 ?_
      refine den_aload_n (pc := 16) d11_circle_16 rfl rfl ?_
      refine den_getI (pc := 17) fa_11_192 (ok_69 _) d11_circle_17 ?_
      refine den_ishl (pc := 20) d11_circle_20 ?_
      refine den_iconst (pc := 21) d11_circle_21 ?_
      refine den_isub (pc := 22) d11_circle_22 ?_
      refine den_istore_nL (pc := 23) (L2 := fun y => [some (vA G 69), some (vI x1), some (vI x2), some (vI y), none, none, none, none]) d11_circle_23 rfl (by decide) (fun _ => rfl) (fun u22 => ?_)
      refine den_wk [true, false, true, true, true, true, true, true] rfl ?_
      exact tl11_circle_24 l G _ hd x2 FU (u22, h19) trivial
    · refine den_iconst (pc := 13) d11_circle_13 ?_
      exact den_iret (pc := 14) rfl d11_circle_14
theorem d11_isKin_0 : decode m11_isKin.2.1 0 = .ok (.iconst 1, 1) := by decide +kernel
theorem d11_isKin_1 : decode m11_isKin.2.1 1 = .ok (.istore_n 3, 1) := by decide +kernel
theorem d11_isKin_2 : decode m11_isKin.2.1 2 = .ok (.iconst 0, 1) := by decide +kernel
theorem d11_isKin_3 : decode m11_isKin.2.1 3 = .ok (.istore 4, 2) := by decide +kernel
theorem d11_isKin_5 : decode m11_isKin.2.1 5 = .ok (.iload 4, 2) := by decide +kernel
theorem d11_isKin_7 : decode m11_isKin.2.1 7 = .ok (.aload_n 0, 1) := by decide +kernel
theorem d11_isKin_8 : decode m11_isKin.2.1 8 = .ok (.getfield 195, 3) := by decide +kernel
theorem d11_isKin_11 : decode m11_isKin.2.1 11 = .ok (.if_icmp .ge 36, 3) := by decide +kernel
theorem d11_isKin_14 : decode m11_isKin.2.1 14 = .ok (.iload_n 3, 1) := by decide +kernel
theorem d11_isKin_15 : decode m11_isKin.2.1 15 = .ok (.ifCond .eq 24, 3) := by decide +kernel
theorem d11_isKin_18 : decode m11_isKin.2.1 18 = .ok (.aload_n 0, 1) := by decide +kernel
theorem d11_isKin_19 : decode m11_isKin.2.1 19 = .ok (.iload_n 1, 1) := by decide +kernel
theorem d11_isKin_20 : decode m11_isKin.2.1 20 = .ok (.iload 4, 2) := by decide +kernel
theorem d11_isKin_22 : decode m11_isKin.2.1 22 = .ok (.invokevirtual 210, 3) := by decide +kernel
theorem d11_isKin_25 : decode m11_isKin.2.1 25 = .ok (.aload_n 0, 1) := by decide +kernel
theorem d11_isKin_26 : decode m11_isKin.2.1 26 = .ok (.iload_n 2, 1) := by decide +kernel
theorem d11_isKin_27 : decode m11_isKin.2.1 27 = .ok (.iload 4, 2) := by decide +kernel
theorem d11_isKin_29 : decode m11_isKin.2.1 29 = .ok (.invokevirtual 210, 3) := by decide +kernel
theorem d11_isKin_32 : decode m11_isKin.2.1 32 = .ok (.if_icmp .ne 7, 3) := by decide +kernel
theorem d11_isKin_35 : decode m11_isKin.2.1 35 = .ok (.iconst 1, 1) := by decide +kernel
theorem d11_isKin_36 : decode m11_isKin.2.1 36 = .ok (.goto 4, 3) := by decide +kernel
theorem d11_isKin_39 : decode m11_isKin.2.1 39 = .ok (.iconst 0, 1) := by decide +kernel
theorem d11_isKin_40 : decode m11_isKin.2.1 40 = .ok (.istore_n 3, 1) := by decide +kernel
theorem d11_isKin_41 : decode m11_isKin.2.1 41 = .ok (.iinc 4 1, 3) := by decide +kernel
theorem d11_isKin_44 : decode m11_isKin.2.1 44 = .ok (.goto (-39), 3) := by decide +kernel
theorem d11_isKin_47 : decode m11_isKin.2.1 47 = .ok (.iload_n 3, 1) := by decide +kernel
theorem d11_isKin_48 : decode m11_isKin.2.1 48 = .ok (.ireturn, 1) := by decide +kernel
def b11_isKin_40 (rec5 : Int × Int × AH → Option (Int × AH)) (x1 : Int) (x2 : Int) (x4 : Int) (s0 : Int) (h : AH) : Option (Int × AH) :=
  rec5 (s0, (x4 + 1), h)
set_option maxRecDepth 100000 in
theorem t11_isKin_40 (l : Launch) (G : Geo) (d : Nat) (hd : 3 ≤ d) (x1 : Int) (x2 : Int) (x4 : Int) (s0 : Int) (rec5 : Int × Int × AH → Option (Int × AH)) (H5 : ∀ (x3 : Int) (x4 : Int) (h : AH), Den l G m11_isKin rvI d 5 [some (vA G 69), some (vI x1), some (vI x2), some (vI x3), some (vI x4)] [] h (rec5 (x3, x4, h))) (h : AH) : Den l G m11_isKin rvI d 40 [some (vA G 69), some (vI x1), some (vI x2), none, some (vI x4)] [vI s0] h (b11_isKin_40 rec5 x1 x2 x4 s0 h) := by
  unfold b11_isKin_40
  refine den_istore_n (pc := 40) (L2 := [some (vA G 69), some (vI x1), some (vI x2), some (vI s0), some (vI x4)]) d11_isKin_40 rfl (by decide) rfl ?_
  refine den_iinc (pc := 41) (L2 := [some (vA G 69), some (vI x1), some (vI x2), some (vI s0), some (vI (x4 + 1))]) d11_isKin_41 (by decide) rfl rfl ?_
  refine den_goto (pc := 44) (tgt := 5) d11_isKin_44 (by decide) ?_
  exact H5 s0 (x4 + 1) h
def b11_isKin_39 (rec5 : Int × Int × AH → Option (Int × AH)) (x1 : Int) (x2 : Int) (x4 : Int) (h : AH) : Option (Int × AH) :=
  b11_isKin_40 rec5 x1 x2 x4 0 h
set_option maxRecDepth 100000 in
theorem t11_isKin_39 (l : Launch) (G : Geo) (d : Nat) (hd : 3 ≤ d) (x1 : Int) (x2 : Int) (x4 : Int) (rec5 : Int × Int × AH → Option (Int × AH)) (H5 : ∀ (x3 : Int) (x4 : Int) (h : AH), Den l G m11_isKin rvI d 5 [some (vA G 69), some (vI x1), some (vI x2), some (vI x3), some (vI x4)] [] h (rec5 (x3, x4, h))) (h : AH) : Den l G m11_isKin rvI d 39 [some (vA G 69), some (vI x1), some (vI x2), none, some (vI x4)] [] h (b11_isKin_39 rec5 x1 x2 x4 h) := by
  unfold b11_isKin_39
  refine den_iconst (pc := 39) d11_isKin_39 ?_
  exact t11_isKin_40 l G _ hd x1 x2 x4 0 rec5 H5 h
def b11_isKin_5 (rec5 : Int × Int × AH → Option (Int × AH)) (x1 : Int) (x2 : Int) (x3 : Int) (x4 : Int) (h : AH) : Option (Int × AH) :=
  if w32 (h.2 69 14) ≤ w32 x4 then
    asrt (w32 x3 = 0 ∨ w32 x3 = 1) <|
    some (x3, h)
  else
    if w32 x3 = 0 then
      b11_isKin_39 rec5 x1 x2 x4 h
    else
      bnd (f11_heldOf x1 x4 h) fun r2 h3 =>
      bnd (f11_heldOf x2 x4 h3) fun r6 h7 =>
      if ¬ w32 r2 = w32 r6 then
        b11_isKin_39 rec5 x1 x2 x4 h7
      else
        b11_isKin_40 rec5 x1 x2 x4 1 h7
set_option maxRecDepth 100000 in
theorem t11_isKin_5 (l : Launch) (G : Geo) (d : Nat) (hd : 3 ≤ d) (x1 : Int) (x2 : Int) (x3 : Int) (x4 : Int) (rec5 : Int × Int × AH → Option (Int × AH)) (H5 : ∀ (x3 : Int) (x4 : Int) (h : AH), Den l G m11_isKin rvI d 5 [some (vA G 69), some (vI x1), some (vI x2), some (vI x3), some (vI x4)] [] h (rec5 (x3, x4, h))) (h : AH) : Den l G m11_isKin rvI d 5 [some (vA G 69), some (vI x1), some (vI x2), some (vI x3), some (vI x4)] [] h (b11_isKin_5 rec5 x1 x2 x3 x4 h) := by
  unfold b11_isKin_5
  refine den_iload (pc := 5) d11_isKin_5 rfl ?_
  refine den_aload_n (pc := 7) d11_isKin_7 rfl rfl ?_
  refine den_getI (pc := 8) fa_11_195 (ok_69 _) d11_isKin_8 ?_
  refine den_icmp_ge (pc := 11) (tgt := 47) d11_isKin_11 (by decide) rfl rfl (fun _ => ?_) (fun _ => ?_)
  · refine den_iload_n (pc := 47) d11_isKin_47 rfl rfl ?_
    refine den_asrt (fun a1 => ?_)
    exact den_zret (pc := 48) rfl a1 d11_isKin_48
  · refine den_iload_n (pc := 14) d11_isKin_14 rfl rfl ?_
    refine den_if_eq (pc := 15) (tgt := 39) d11_isKin_15 (by decide) rfl (fun _ => ?_) (fun _ => ?_)
    · refine den_wk [true, true, true, false, true] rfl ?_
      exact t11_isKin_39 l G _ hd x1 x2 x4 rec5 H5 h
    · refine den_aload_n (pc := 18) d11_isKin_18 rfl rfl ?_
      refine den_iload_n (pc := 19) d11_isKin_19 rfl rfl ?_
      refine den_iload (pc := 20) d11_isKin_20 rfl ?_
      refine den_callVI (pc := 22) (As := [vI x1, vI x4]) fv_11_210 rfl rfl (ok_69 _) (Nat.le_of_ble_eq_true rfl) (Nat.le_trans (by decide) hd) d11_isKin_22 (c11_heldOf l G x1 x4 h) (fun r2 h3 m4 o5 => ?_)
      refine den_aload_n (pc := 25) d11_isKin_25 rfl rfl ?_
      refine den_iload_n (pc := 26) d11_isKin_26 rfl rfl ?_
      refine den_iload (pc := 27) d11_isKin_27 rfl ?_
      refine den_callVI (pc := 29) (As := [vI x2, vI x4]) fv_11_210 rfl rfl (ok_69 _) (Nat.le_of_ble_eq_true rfl) (Nat.le_trans (by decide) hd) d11_isKin_29 (c11_heldOf l G x2 x4 h3) (fun r6 h7 m8 o9 => ?_)
      refine den_icmp_ne (pc := 32) (tgt := 39) d11_isKin_32 (by decide) rfl rfl (fun _ => ?_) (fun _ => ?_)
      · refine den_wk [true, true, true, false, true] rfl ?_
        exact t11_isKin_39 l G _ hd x1 x2 x4 rec5 H5 h7
      · refine den_iconst (pc := 35) d11_isKin_35 ?_
        refine den_goto (pc := 36) (tgt := 40) d11_isKin_36 (by decide) ?_
        refine den_wk [true, true, true, false, true] rfl ?_
        exact t11_isKin_40 l G _ hd x1 x2 x4 1 rec5 H5 h7
def l11_isKin_5 (x1 : Int) (x2 : Int) (x3 : Int) (x4 : Int) (h : AH) : Option (Int × AH) := fx (fun rec z => b11_isKin_5 rec x1 x2 z.1 z.2.1 z.2.2) FU (x3, x4, h)
set_option maxRecDepth 100000 in
theorem tl11_isKin_5 (l : Launch) (G : Geo) (d : Nat) (hd : 3 ≤ d) (x1 : Int) (x2 : Int) : ∀ (n : Nat) (z : Int × Int × AH), True → Den l G m11_isKin rvI d 5 [some (vA G 69), some (vI x1), some (vI x2), some (vI z.1), some (vI z.2.1)] [] z.2.2 (fx (fun rec z => b11_isKin_5 rec x1 x2 z.1 z.2.1 z.2.2) n z) :=
  den_fx (F := fun rec z => b11_isKin_5 rec x1 x2 z.1 z.2.1 z.2.2) (P := fun z => True) (fL := fun z => [some (vA G 69), some (vI x1), some (vI x2), some (vI z.1), some (vI z.2.1)]) (fs := fun z => []) (fh := fun z => z.2.2) (fun rec hrec z hz => t11_isKin_5 l G d hd x1 x2 z.1 z.2.1 rec (fun x3 x4 h => hrec (x3, x4, h) trivial) z.2.2 )
def f11_isKin (x1 : Int) (x2 : Int) (h : AH) : Option (Int × AH) :=
  l11_isKin_5 x1 x2 1 0 h
set_option maxRecDepth 100000 in
theorem c11_isKin (l : Launch) (G : Geo) (x1 : Int) (x2 : Int) (h : AH) : Con l G m11_isKin rvI 3 [vA G 69, vI x1, vI x2] h (f11_isKin x1 x2 h) := by
  have hd : 3 ≤ 3 := Nat.le_refl _
  refine con_Z rfl (by decide) rfl rfl (Nat.le_of_ble_eq_true rfl) (L := [some (vA G 69), some (vI x1), some (vI x2), none, none]) ?_
  unfold f11_isKin
  refine den_iconst (pc := 0) d11_isKin_0 ?_
  refine den_istore_n (pc := 1) (L2 := [some (vA G 69), some (vI x1), some (vI x2), some (vI 1), none]) d11_isKin_1 rfl (by decide) rfl ?_
  refine den_iconst (pc := 2) d11_isKin_2 ?_
  refine den_istore (pc := 3) (L2 := [some (vA G 69), some (vI x1), some (vI x2), some (vI 1), some (vI 0)]) d11_isKin_3 (by decide) rfl ?_
  exact tl11_isKin_5 l G _ hd x1 x2 FU (1, 0, h) trivial
theorem d11_kinOf_0 : decode m11_kinOf.2.1 0 = .ok (.iconst 0, 1) := by decide +kernel
theorem d11_kinOf_1 : decode m11_kinOf.2.1 1 = .ok (.istore_n 3, 1) := by decide +kernel
theorem d11_kinOf_2 : decode m11_kinOf.2.1 2 = .ok (.iconst 0, 1) := by decide +kernel
theorem d11_kinOf_3 : decode m11_kinOf.2.1 3 = .ok (.istore 4, 2) := by decide +kernel
theorem d11_kinOf_5 : decode m11_kinOf.2.1 5 = .ok (.iload 4, 2) := by decide +kernel
theorem d11_kinOf_7 : decode m11_kinOf.2.1 7 = .ok (.iload_n 2, 1) := by decide +kernel
theorem d11_kinOf_8 : decode m11_kinOf.2.1 8 = .ok (.if_icmp .ge 27, 3) := by decide +kernel
theorem d11_kinOf_11 : decode m11_kinOf.2.1 11 = .ok (.iload_n 3, 1) := by decide +kernel
theorem d11_kinOf_12 : decode m11_kinOf.2.1 12 = .ok (.aload_n 0, 1) := by decide +kernel
theorem d11_kinOf_13 : decode m11_kinOf.2.1 13 = .ok (.iload_n 1, 1) := by decide +kernel
theorem d11_kinOf_14 : decode m11_kinOf.2.1 14 = .ok (.iload 4, 2) := by decide +kernel
theorem d11_kinOf_16 : decode m11_kinOf.2.1 16 = .ok (.invokevirtual 307, 3) := by decide +kernel
theorem d11_kinOf_19 : decode m11_kinOf.2.1 19 = .ok (.ifCond .eq 7, 3) := by decide +kernel
theorem d11_kinOf_22 : decode m11_kinOf.2.1 22 = .ok (.iconst 1, 1) := by decide +kernel
theorem d11_kinOf_23 : decode m11_kinOf.2.1 23 = .ok (.goto 4, 3) := by decide +kernel
theorem d11_kinOf_26 : decode m11_kinOf.2.1 26 = .ok (.iconst 0, 1) := by decide +kernel
theorem d11_kinOf_27 : decode m11_kinOf.2.1 27 = .ok (.iadd, 1) := by decide +kernel
theorem d11_kinOf_28 : decode m11_kinOf.2.1 28 = .ok (.istore_n 3, 1) := by decide +kernel
theorem d11_kinOf_29 : decode m11_kinOf.2.1 29 = .ok (.iinc 4 1, 3) := by decide +kernel
theorem d11_kinOf_32 : decode m11_kinOf.2.1 32 = .ok (.goto (-27), 3) := by decide +kernel
theorem d11_kinOf_35 : decode m11_kinOf.2.1 35 = .ok (.iload_n 3, 1) := by decide +kernel
theorem d11_kinOf_36 : decode m11_kinOf.2.1 36 = .ok (.ireturn, 1) := by decide +kernel
def b11_kinOf_27 (rec5 : Int × Int × AH → Option (Int × AH)) (x1 : Int) (x2 : Int) (x4 : Int) (s0 : Int) (s1 : Int) (h : AH) : Option (Int × AH) :=
  lt (s1 + s0) fun u1 =>
  rec5 (u1, (x4 + 1), h)
set_option maxRecDepth 100000 in
theorem t11_kinOf_27 (l : Launch) (G : Geo) (d : Nat) (hd : 4 ≤ d) (x1 : Int) (x2 : Int) (x4 : Int) (s0 : Int) (s1 : Int) (rec5 : Int × Int × AH → Option (Int × AH)) (H5 : ∀ (x3 : Int) (x4 : Int) (h : AH), Den l G m11_kinOf rvI d 5 [some (vA G 69), some (vI x1), some (vI x2), some (vI x3), some (vI x4)] [] h (rec5 (x3, x4, h))) (h : AH) : Den l G m11_kinOf rvI d 27 [some (vA G 69), some (vI x1), some (vI x2), none, some (vI x4)] [vI s0, vI s1] h (b11_kinOf_27 rec5 x1 x2 x4 s0 s1 h) := by
  unfold b11_kinOf_27
  refine den_iadd (pc := 27) d11_kinOf_27 ?_
  refine den_istore_nL (pc := 28) (L2 := fun y => [some (vA G 69), some (vI x1), some (vI x2), some (vI y), some (vI x4)]) d11_kinOf_28 rfl (by decide) (fun _ => rfl) (fun u1 => ?_)
  refine den_iinc (pc := 29) (L2 := [some (vA G 69), some (vI x1), some (vI x2), some (vI u1), some (vI (x4 + 1))]) d11_kinOf_29 (by decide) rfl rfl ?_
  refine den_goto (pc := 32) (tgt := 5) d11_kinOf_32 (by decide) ?_
  exact H5 u1 (x4 + 1) h
def b11_kinOf_5 (rec5 : Int × Int × AH → Option (Int × AH)) (x1 : Int) (x2 : Int) (x3 : Int) (x4 : Int) (h : AH) : Option (Int × AH) :=
  if w32 x2 ≤ w32 x4 then
    some (x3, h)
  else
    bnd (f11_isKin x1 x4 h) fun r2 h3 =>
    if w32 r2 = 0 then
      b11_kinOf_27 rec5 x1 x2 x4 0 x3 h3
    else
      b11_kinOf_27 rec5 x1 x2 x4 1 x3 h3
set_option maxRecDepth 100000 in
theorem t11_kinOf_5 (l : Launch) (G : Geo) (d : Nat) (hd : 4 ≤ d) (x1 : Int) (x2 : Int) (x3 : Int) (x4 : Int) (rec5 : Int × Int × AH → Option (Int × AH)) (H5 : ∀ (x3 : Int) (x4 : Int) (h : AH), Den l G m11_kinOf rvI d 5 [some (vA G 69), some (vI x1), some (vI x2), some (vI x3), some (vI x4)] [] h (rec5 (x3, x4, h))) (h : AH) : Den l G m11_kinOf rvI d 5 [some (vA G 69), some (vI x1), some (vI x2), some (vI x3), some (vI x4)] [] h (b11_kinOf_5 rec5 x1 x2 x3 x4 h) := by
  unfold b11_kinOf_5
  refine den_iload (pc := 5) d11_kinOf_5 rfl ?_
  refine den_iload_n (pc := 7) d11_kinOf_7 rfl rfl ?_
  refine den_icmp_ge (pc := 8) (tgt := 35) d11_kinOf_8 (by decide) rfl rfl (fun _ => ?_) (fun _ => ?_)
  · refine den_iload_n (pc := 35) d11_kinOf_35 rfl rfl ?_
    exact den_iret (pc := 36) rfl d11_kinOf_36
  · refine den_iload_n (pc := 11) d11_kinOf_11 rfl rfl ?_
    refine den_aload_n (pc := 12) d11_kinOf_12 rfl rfl ?_
    refine den_iload_n (pc := 13) d11_kinOf_13 rfl rfl ?_
    refine den_iload (pc := 14) d11_kinOf_14 rfl ?_
    refine den_callVI (pc := 16) (As := [vI x1, vI x4]) fv_11_307 rfl rfl (ok_69 _) (Nat.le_of_ble_eq_true rfl) (Nat.le_trans (by decide) hd) d11_kinOf_16 (c11_isKin l G x1 x4 h) (fun r2 h3 m4 o5 => ?_)
    refine den_if_eq (pc := 19) (tgt := 26) d11_kinOf_19 (by decide) rfl (fun _ => ?_) (fun _ => ?_)
    · refine den_iconst (pc := 26) d11_kinOf_26 ?_
      refine den_wk [true, true, true, false, true] rfl ?_
      exact t11_kinOf_27 l G _ hd x1 x2 x4 0 x3 rec5 H5 h3
    · refine den_iconst (pc := 22) d11_kinOf_22 ?_
      refine den_goto (pc := 23) (tgt := 27) d11_kinOf_23 (by decide) ?_
      refine den_wk [true, true, true, false, true] rfl ?_
      exact t11_kinOf_27 l G _ hd x1 x2 x4 1 x3 rec5 H5 h3
def l11_kinOf_5 (x1 : Int) (x2 : Int) (x3 : Int) (x4 : Int) (h : AH) : Option (Int × AH) := fx (fun rec z => b11_kinOf_5 rec x1 x2 z.1 z.2.1 z.2.2) FU (x3, x4, h)
set_option maxRecDepth 100000 in
theorem tl11_kinOf_5 (l : Launch) (G : Geo) (d : Nat) (hd : 4 ≤ d) (x1 : Int) (x2 : Int) : ∀ (n : Nat) (z : Int × Int × AH), True → Den l G m11_kinOf rvI d 5 [some (vA G 69), some (vI x1), some (vI x2), some (vI z.1), some (vI z.2.1)] [] z.2.2 (fx (fun rec z => b11_kinOf_5 rec x1 x2 z.1 z.2.1 z.2.2) n z) :=
  den_fx (F := fun rec z => b11_kinOf_5 rec x1 x2 z.1 z.2.1 z.2.2) (P := fun z => True) (fL := fun z => [some (vA G 69), some (vI x1), some (vI x2), some (vI z.1), some (vI z.2.1)]) (fs := fun z => []) (fh := fun z => z.2.2) (fun rec hrec z hz => t11_kinOf_5 l G d hd x1 x2 z.1 z.2.1 rec (fun x3 x4 h => hrec (x3, x4, h) trivial) z.2.2 )
def f11_kinOf (x1 : Int) (x2 : Int) (h : AH) : Option (Int × AH) :=
  l11_kinOf_5 x1 x2 0 0 h
set_option maxRecDepth 100000 in
theorem c11_kinOf (l : Launch) (G : Geo) (x1 : Int) (x2 : Int) (h : AH) : Con l G m11_kinOf rvI 4 [vA G 69, vI x1, vI x2] h (f11_kinOf x1 x2 h) := by
  have hd : 4 ≤ 4 := Nat.le_refl _
  refine con_I rfl (by decide) rfl rfl (Nat.le_of_ble_eq_true rfl) (L := [some (vA G 69), some (vI x1), some (vI x2), none, none]) ?_
  unfold f11_kinOf
  refine den_iconst (pc := 0) d11_kinOf_0 ?_
  refine den_istore_n (pc := 1) (L2 := [some (vA G 69), some (vI x1), some (vI x2), some (vI 0), none]) d11_kinOf_1 rfl (by decide) rfl ?_
  refine den_iconst (pc := 2) d11_kinOf_2 ?_
  refine den_istore (pc := 3) (L2 := [some (vA G 69), some (vI x1), some (vI x2), some (vI 0), some (vI 0)]) d11_kinOf_3 (by decide) rfl ?_
  exact tl11_kinOf_5 l G _ hd x1 x2 FU (0, 0, h) trivial
theorem d11_triosOf_0 : decode m11_triosOf.2.1 0 = .ok (.iconst 0, 1) := by decide +kernel
theorem d11_triosOf_1 : decode m11_triosOf.2.1 1 = .ok (.istore_n 1, 1) := by decide +kernel
theorem d11_triosOf_2 : decode m11_triosOf.2.1 2 = .ok (.iconst 0, 1) := by decide +kernel
theorem d11_triosOf_3 : decode m11_triosOf.2.1 3 = .ok (.istore_n 2, 1) := by decide +kernel
theorem d11_triosOf_4 : decode m11_triosOf.2.1 4 = .ok (.iload_n 2, 1) := by decide +kernel
theorem d11_triosOf_5 : decode m11_triosOf.2.1 5 = .ok (.aload_n 0, 1) := by decide +kernel
theorem d11_triosOf_6 : decode m11_triosOf.2.1 6 = .ok (.getfield 192, 3) := by decide +kernel
theorem d11_triosOf_9 : decode m11_triosOf.2.1 9 = .ok (.if_icmp .ge 84, 3) := by decide +kernel
theorem d11_triosOf_12 : decode m11_triosOf.2.1 12 = .ok (.iload_n 2, 1) := by decide +kernel
theorem d11_triosOf_13 : decode m11_triosOf.2.1 13 = .ok (.iconst 1, 1) := by decide +kernel
theorem d11_triosOf_14 : decode m11_triosOf.2.1 14 = .ok (.iadd, 1) := by decide +kernel
theorem d11_triosOf_15 : decode m11_triosOf.2.1 15 = .ok (.istore_n 3, 1) := by decide +kernel
theorem d11_triosOf_16 : decode m11_triosOf.2.1 16 = .ok (.iload_n 3, 1) := by decide +kernel
theorem d11_triosOf_17 : decode m11_triosOf.2.1 17 = .ok (.aload_n 0, 1) := by decide +kernel
theorem d11_triosOf_18 : decode m11_triosOf.2.1 18 = .ok (.getfield 192, 3) := by decide +kernel
theorem d11_triosOf_21 : decode m11_triosOf.2.1 21 = .ok (.if_icmp .ge 66, 3) := by decide +kernel
theorem d11_triosOf_24 : decode m11_triosOf.2.1 24 = .ok (.iload_n 3, 1) := by decide +kernel
theorem d11_triosOf_25 : decode m11_triosOf.2.1 25 = .ok (.iconst 1, 1) := by decide +kernel
theorem d11_triosOf_26 : decode m11_triosOf.2.1 26 = .ok (.iadd, 1) := by decide +kernel
theorem d11_triosOf_27 : decode m11_triosOf.2.1 27 = .ok (.istore 4, 2) := by decide +kernel
theorem d11_triosOf_29 : decode m11_triosOf.2.1 29 = .ok (.iload 4, 2) := by decide +kernel
theorem d11_triosOf_31 : decode m11_triosOf.2.1 31 = .ok (.aload_n 0, 1) := by decide +kernel
theorem d11_triosOf_32 : decode m11_triosOf.2.1 32 = .ok (.getfield 192, 3) := by decide +kernel
theorem d11_triosOf_35 : decode m11_triosOf.2.1 35 = .ok (.if_icmp .ge 46, 3) := by decide +kernel
theorem d11_triosOf_38 : decode m11_triosOf.2.1 38 = .ok (.iload_n 1, 1) := by decide +kernel
theorem d11_triosOf_39 : decode m11_triosOf.2.1 39 = .ok (.aload_n 0, 1) := by decide +kernel
theorem d11_triosOf_40 : decode m11_triosOf.2.1 40 = .ok (.iload_n 2, 1) := by decide +kernel
theorem d11_triosOf_41 : decode m11_triosOf.2.1 41 = .ok (.iload_n 3, 1) := by decide +kernel
theorem d11_triosOf_42 : decode m11_triosOf.2.1 42 = .ok (.invokevirtual 301, 3) := by decide +kernel
theorem d11_triosOf_45 : decode m11_triosOf.2.1 45 = .ok (.ifCond .eq 27, 3) := by decide +kernel
theorem d11_triosOf_48 : decode m11_triosOf.2.1 48 = .ok (.aload_n 0, 1) := by decide +kernel
theorem d11_triosOf_49 : decode m11_triosOf.2.1 49 = .ok (.iload_n 2, 1) := by decide +kernel
theorem d11_triosOf_50 : decode m11_triosOf.2.1 50 = .ok (.iload 4, 2) := by decide +kernel
theorem d11_triosOf_52 : decode m11_triosOf.2.1 52 = .ok (.invokevirtual 301, 3) := by decide +kernel
theorem d11_triosOf_55 : decode m11_triosOf.2.1 55 = .ok (.ifCond .eq 17, 3) := by decide +kernel
theorem d11_triosOf_58 : decode m11_triosOf.2.1 58 = .ok (.aload_n 0, 1) := by decide +kernel
theorem d11_triosOf_59 : decode m11_triosOf.2.1 59 = .ok (.iload_n 3, 1) := by decide +kernel
theorem d11_triosOf_60 : decode m11_triosOf.2.1 60 = .ok (.iload 4, 2) := by decide +kernel
theorem d11_triosOf_62 : decode m11_triosOf.2.1 62 = .ok (.invokevirtual 301, 3) := by decide +kernel
theorem d11_triosOf_65 : decode m11_triosOf.2.1 65 = .ok (.ifCond .eq 7, 3) := by decide +kernel
theorem d11_triosOf_68 : decode m11_triosOf.2.1 68 = .ok (.iconst 1, 1) := by decide +kernel
theorem d11_triosOf_69 : decode m11_triosOf.2.1 69 = .ok (.goto 4, 3) := by decide +kernel
theorem d11_triosOf_72 : decode m11_triosOf.2.1 72 = .ok (.iconst 0, 1) := by decide +kernel
theorem d11_triosOf_73 : decode m11_triosOf.2.1 73 = .ok (.iadd, 1) := by decide +kernel
theorem d11_triosOf_74 : decode m11_triosOf.2.1 74 = .ok (.istore_n 1, 1) := by decide +kernel
theorem d11_triosOf_75 : decode m11_triosOf.2.1 75 = .ok (.iinc 4 1, 3) := by decide +kernel
theorem d11_triosOf_78 : decode m11_triosOf.2.1 78 = .ok (.goto (-49), 3) := by decide +kernel
theorem d11_triosOf_81 : decode m11_triosOf.2.1 81 = .ok (.iinc 3 1, 3) := by decide +kernel
theorem d11_triosOf_84 : decode m11_triosOf.2.1 84 = .ok (.goto (-68), 3) := by decide +kernel
theorem d11_triosOf_87 : decode m11_triosOf.2.1 87 = .ok (.iinc 2 1, 3) := by decide +kernel
theorem d11_triosOf_90 : decode m11_triosOf.2.1 90 = .ok (.goto (-86), 3) := by decide +kernel
theorem d11_triosOf_93 : decode m11_triosOf.2.1 93 = .ok (.iload_n 1, 1) := by decide +kernel
theorem d11_triosOf_94 : decode m11_triosOf.2.1 94 = .ok (.ireturn, 1) := by decide +kernel
def b11_triosOf_73 (rec4 : Int × Int × AH → Option (Int × AH)) (rec16 : Int × Int × AH → Option (Int × AH)) (rec29 : Int × Int × AH → Option (Int × AH)) (x2 : Int) (x3 : Int) (x4 : Int) (s0 : Int) (s1 : Int) (h : AH) : Option (Int × AH) :=
  lt (s1 + s0) fun u1 =>
  rec29 (u1, (x4 + 1), h)
set_option maxRecDepth 100000 in
theorem t11_triosOf_73 (l : Launch) (G : Geo) (d : Nat) (hd : 7 ≤ d) (x2 : Int) (x3 : Int) (x4 : Int) (s0 : Int) (s1 : Int) (rec4 : Int × Int × AH → Option (Int × AH)) (H4 : ∀ (x1 : Int) (x2 : Int) (h : AH), Den l G m11_triosOf rvI d 4 [some (vA G 69), some (vI x1), some (vI x2), none, none] [] h (rec4 (x1, x2, h))) (rec16 : Int × Int × AH → Option (Int × AH)) (H16 : ∀ (x1 : Int) (x3 : Int) (h : AH), Den l G m11_triosOf rvI d 16 [some (vA G 69), some (vI x1), some (vI x2), some (vI x3), none] [] h (rec16 (x1, x3, h))) (rec29 : Int × Int × AH → Option (Int × AH)) (H29 : ∀ (x1 : Int) (x4 : Int) (h : AH), Den l G m11_triosOf rvI d 29 [some (vA G 69), some (vI x1), some (vI x2), some (vI x3), some (vI x4)] [] h (rec29 (x1, x4, h))) (h : AH) : Den l G m11_triosOf rvI d 73 [some (vA G 69), none, some (vI x2), some (vI x3), some (vI x4)] [vI s0, vI s1] h (b11_triosOf_73 rec4 rec16 rec29 x2 x3 x4 s0 s1 h) := by
  unfold b11_triosOf_73
  refine den_iadd (pc := 73) d11_triosOf_73 ?_
  refine den_istore_nL (pc := 74) (L2 := fun y => [some (vA G 69), some (vI y), some (vI x2), some (vI x3), some (vI x4)]) d11_triosOf_74 rfl (by decide) (fun _ => rfl) (fun u1 => ?_)
  refine den_iinc (pc := 75) (L2 := [some (vA G 69), some (vI u1), some (vI x2), some (vI x3), some (vI (x4 + 1))]) d11_triosOf_75 (by decide) rfl rfl ?_
  refine den_goto (pc := 78) (tgt := 29) d11_triosOf_78 (by decide) ?_
  exact H29 u1 (x4 + 1) h
def b11_triosOf_72 (rec4 : Int × Int × AH → Option (Int × AH)) (rec16 : Int × Int × AH → Option (Int × AH)) (rec29 : Int × Int × AH → Option (Int × AH)) (x2 : Int) (x3 : Int) (x4 : Int) (s0 : Int) (h : AH) : Option (Int × AH) :=
  b11_triosOf_73 rec4 rec16 rec29 x2 x3 x4 0 s0 h
set_option maxRecDepth 100000 in
theorem t11_triosOf_72 (l : Launch) (G : Geo) (d : Nat) (hd : 7 ≤ d) (x2 : Int) (x3 : Int) (x4 : Int) (s0 : Int) (rec4 : Int × Int × AH → Option (Int × AH)) (H4 : ∀ (x1 : Int) (x2 : Int) (h : AH), Den l G m11_triosOf rvI d 4 [some (vA G 69), some (vI x1), some (vI x2), none, none] [] h (rec4 (x1, x2, h))) (rec16 : Int × Int × AH → Option (Int × AH)) (H16 : ∀ (x1 : Int) (x3 : Int) (h : AH), Den l G m11_triosOf rvI d 16 [some (vA G 69), some (vI x1), some (vI x2), some (vI x3), none] [] h (rec16 (x1, x3, h))) (rec29 : Int × Int × AH → Option (Int × AH)) (H29 : ∀ (x1 : Int) (x4 : Int) (h : AH), Den l G m11_triosOf rvI d 29 [some (vA G 69), some (vI x1), some (vI x2), some (vI x3), some (vI x4)] [] h (rec29 (x1, x4, h))) (h : AH) : Den l G m11_triosOf rvI d 72 [some (vA G 69), none, some (vI x2), some (vI x3), some (vI x4)] [vI s0] h (b11_triosOf_72 rec4 rec16 rec29 x2 x3 x4 s0 h) := by
  unfold b11_triosOf_72
  refine den_iconst (pc := 72) d11_triosOf_72 ?_
  exact t11_triosOf_73 l G _ hd x2 x3 x4 0 s0 rec4 H4 rec16 H16 rec29 H29 h
def b11_triosOf_29 (rec29 : Int × Int × AH → Option (Int × AH)) (rec4 : Int × Int × AH → Option (Int × AH)) (rec16 : Int × Int × AH → Option (Int × AH)) (x2 : Int) (x3 : Int) (x1 : Int) (x4 : Int) (h : AH) : Option (Int × AH) :=
  if w32 (h.2 69 13) ≤ w32 x4 then
    rec16 (x1, (x3 + 1), h)
  else
    bnd (f11_isApart x2 x3 h) fun r2 h3 =>
    if w32 r2 = 0 then
      b11_triosOf_72 rec4 rec16 rec29 x2 x3 x4 x1 h3
    else
      bnd (f11_isApart x2 x4 h3) fun r6 h7 =>
      if w32 r6 = 0 then
        b11_triosOf_72 rec4 rec16 rec29 x2 x3 x4 x1 h7
      else
        bnd (f11_isApart x3 x4 h7) fun r10 h11 =>
        if w32 r10 = 0 then
          b11_triosOf_72 rec4 rec16 rec29 x2 x3 x4 x1 h11
        else
          b11_triosOf_73 rec4 rec16 rec29 x2 x3 x4 1 x1 h11
set_option maxRecDepth 100000 in
theorem t11_triosOf_29 (l : Launch) (G : Geo) (d : Nat) (hd : 7 ≤ d) (x2 : Int) (x3 : Int) (x1 : Int) (x4 : Int) (rec29 : Int × Int × AH → Option (Int × AH)) (H29 : ∀ (x1 : Int) (x4 : Int) (h : AH), Den l G m11_triosOf rvI d 29 [some (vA G 69), some (vI x1), some (vI x2), some (vI x3), some (vI x4)] [] h (rec29 (x1, x4, h))) (rec4 : Int × Int × AH → Option (Int × AH)) (H4 : ∀ (x1 : Int) (x2 : Int) (h : AH), Den l G m11_triosOf rvI d 4 [some (vA G 69), some (vI x1), some (vI x2), none, none] [] h (rec4 (x1, x2, h))) (rec16 : Int × Int × AH → Option (Int × AH)) (H16 : ∀ (x1 : Int) (x3 : Int) (h : AH), Den l G m11_triosOf rvI d 16 [some (vA G 69), some (vI x1), some (vI x2), some (vI x3), none] [] h (rec16 (x1, x3, h))) (h : AH) : Den l G m11_triosOf rvI d 29 [some (vA G 69), some (vI x1), some (vI x2), some (vI x3), some (vI x4)] [] h (b11_triosOf_29 rec29 rec4 rec16 x2 x3 x1 x4 h) := by
  unfold b11_triosOf_29
  refine den_iload (pc := 29) d11_triosOf_29 rfl ?_
  refine den_aload_n (pc := 31) d11_triosOf_31 rfl rfl ?_
  refine den_getI (pc := 32) fa_11_192 (ok_69 _) d11_triosOf_32 ?_
  refine den_icmp_ge (pc := 35) (tgt := 81) d11_triosOf_35 (by decide) rfl rfl (fun _ => ?_) (fun _ => ?_)
  · refine den_iinc (pc := 81) (L2 := [some (vA G 69), some (vI x1), some (vI x2), some (vI (x3 + 1)), some (vI x4)]) d11_triosOf_81 (by decide) rfl rfl ?_
    refine den_goto (pc := 84) (tgt := 16) d11_triosOf_84 (by decide) ?_
    refine den_wk [true, true, true, true, false] rfl ?_
    exact H16 x1 (x3 + 1) h
  · refine den_iload_n (pc := 38) d11_triosOf_38 rfl rfl ?_
    refine den_aload_n (pc := 39) d11_triosOf_39 rfl rfl ?_
    refine den_iload_n (pc := 40) d11_triosOf_40 rfl rfl ?_
    refine den_iload_n (pc := 41) d11_triosOf_41 rfl rfl ?_
    refine den_callVI (pc := 42) (As := [vI x2, vI x3]) fv_11_301 rfl rfl (ok_69 _) (Nat.le_of_ble_eq_true rfl) (Nat.le_trans (by decide) hd) d11_triosOf_42 (c11_isApart l G x2 x3 h) (fun r2 h3 m4 o5 => ?_)
    refine den_if_eq (pc := 45) (tgt := 72) d11_triosOf_45 (by decide) rfl (fun _ => ?_) (fun _ => ?_)
    · refine den_wk [true, false, true, true, true] rfl ?_
      exact t11_triosOf_72 l G _ hd x2 x3 x4 x1 rec4 H4 rec16 H16 rec29 H29 h3
    · refine den_aload_n (pc := 48) d11_triosOf_48 rfl rfl ?_
      refine den_iload_n (pc := 49) d11_triosOf_49 rfl rfl ?_
      refine den_iload (pc := 50) d11_triosOf_50 rfl ?_
      refine den_callVI (pc := 52) (As := [vI x2, vI x4]) fv_11_301 rfl rfl (ok_69 _) (Nat.le_of_ble_eq_true rfl) (Nat.le_trans (by decide) hd) d11_triosOf_52 (c11_isApart l G x2 x4 h3) (fun r6 h7 m8 o9 => ?_)
      refine den_if_eq (pc := 55) (tgt := 72) d11_triosOf_55 (by decide) rfl (fun _ => ?_) (fun _ => ?_)
      · refine den_wk [true, false, true, true, true] rfl ?_
        exact t11_triosOf_72 l G _ hd x2 x3 x4 x1 rec4 H4 rec16 H16 rec29 H29 h7
      · refine den_aload_n (pc := 58) d11_triosOf_58 rfl rfl ?_
        refine den_iload_n (pc := 59) d11_triosOf_59 rfl rfl ?_
        refine den_iload (pc := 60) d11_triosOf_60 rfl ?_
        refine den_callVI (pc := 62) (As := [vI x3, vI x4]) fv_11_301 rfl rfl (ok_69 _) (Nat.le_of_ble_eq_true rfl) (Nat.le_trans (by decide) hd) d11_triosOf_62 (c11_isApart l G x3 x4 h7) (fun r10 h11 m12 o13 => ?_)
        refine den_if_eq (pc := 65) (tgt := 72) d11_triosOf_65 (by decide) rfl (fun _ => ?_) (fun _ => ?_)
        · refine den_wk [true, false, true, true, true] rfl ?_
          exact t11_triosOf_72 l G _ hd x2 x3 x4 x1 rec4 H4 rec16 H16 rec29 H29 h11
        · refine den_iconst (pc := 68) d11_triosOf_68 ?_
          refine den_goto (pc := 69) (tgt := 73) d11_triosOf_69 (by decide) ?_
          refine den_wk [true, false, true, true, true] rfl ?_
          exact t11_triosOf_73 l G _ hd x2 x3 x4 1 x1 rec4 H4 rec16 H16 rec29 H29 h11
def l11_triosOf_29 (rec4 : Int × Int × AH → Option (Int × AH)) (rec16 : Int × Int × AH → Option (Int × AH)) (x2 : Int) (x3 : Int) (x1 : Int) (x4 : Int) (h : AH) : Option (Int × AH) := fx (fun rec z => b11_triosOf_29 rec rec4 rec16 x2 x3 z.1 z.2.1 z.2.2) FU (x1, x4, h)
set_option maxRecDepth 100000 in
theorem tl11_triosOf_29 (l : Launch) (G : Geo) (d : Nat) (hd : 7 ≤ d) (x2 : Int) (x3 : Int) (rec4 : Int × Int × AH → Option (Int × AH)) (H4 : ∀ (x1 : Int) (x2 : Int) (h : AH), Den l G m11_triosOf rvI d 4 [some (vA G 69), some (vI x1), some (vI x2), none, none] [] h (rec4 (x1, x2, h))) (rec16 : Int × Int × AH → Option (Int × AH)) (H16 : ∀ (x1 : Int) (x3 : Int) (h : AH), Den l G m11_triosOf rvI d 16 [some (vA G 69), some (vI x1), some (vI x2), some (vI x3), none] [] h (rec16 (x1, x3, h))) : ∀ (n : Nat) (z : Int × Int × AH), True → Den l G m11_triosOf rvI d 29 [some (vA G 69), some (vI z.1), some (vI x2), some (vI x3), some (vI z.2.1)] [] z.2.2 (fx (fun rec z => b11_triosOf_29 rec rec4 rec16 x2 x3 z.1 z.2.1 z.2.2) n z) :=
  den_fx (F := fun rec z => b11_triosOf_29 rec rec4 rec16 x2 x3 z.1 z.2.1 z.2.2) (P := fun z => True) (fL := fun z => [some (vA G 69), some (vI z.1), some (vI x2), some (vI x3), some (vI z.2.1)]) (fs := fun z => []) (fh := fun z => z.2.2) (fun rec hrec z hz => t11_triosOf_29 l G d hd x2 x3 z.1 z.2.1 rec (fun x1 x4 h => hrec (x1, x4, h) trivial) rec4 H4 rec16 H16 z.2.2 )
def b11_triosOf_16 (rec16 : Int × Int × AH → Option (Int × AH)) (rec4 : Int × Int × AH → Option (Int × AH)) (x2 : Int) (x1 : Int) (x3 : Int) (h : AH) : Option (Int × AH) :=
  if w32 (h.2 69 13) ≤ w32 x3 then
    rec4 (x1, (x2 + 1), h)
  else
    lt (x3 + 1) fun u14 =>
    l11_triosOf_29 rec4 rec16 x2 x3 x1 u14 h
set_option maxRecDepth 100000 in
theorem t11_triosOf_16 (l : Launch) (G : Geo) (d : Nat) (hd : 7 ≤ d) (x2 : Int) (x1 : Int) (x3 : Int) (rec16 : Int × Int × AH → Option (Int × AH)) (H16 : ∀ (x1 : Int) (x3 : Int) (h : AH), Den l G m11_triosOf rvI d 16 [some (vA G 69), some (vI x1), some (vI x2), some (vI x3), none] [] h (rec16 (x1, x3, h))) (rec4 : Int × Int × AH → Option (Int × AH)) (H4 : ∀ (x1 : Int) (x2 : Int) (h : AH), Den l G m11_triosOf rvI d 4 [some (vA G 69), some (vI x1), some (vI x2), none, none] [] h (rec4 (x1, x2, h))) (h : AH) : Den l G m11_triosOf rvI d 16 [some (vA G 69), some (vI x1), some (vI x2), some (vI x3), none] [] h (b11_triosOf_16 rec16 rec4 x2 x1 x3 h) := by
  unfold b11_triosOf_16
  refine den_iload_n (pc := 16) d11_triosOf_16 rfl rfl ?_
  refine den_aload_n (pc := 17) d11_triosOf_17 rfl rfl ?_
  refine den_getI (pc := 18) fa_11_192 (ok_69 _) d11_triosOf_18 ?_
  refine den_icmp_ge (pc := 21) (tgt := 87) d11_triosOf_21 (by decide) rfl rfl (fun _ => ?_) (fun _ => ?_)
  · refine den_iinc (pc := 87) (L2 := [some (vA G 69), some (vI x1), some (vI (x2 + 1)), some (vI x3), none]) d11_triosOf_87 (by decide) rfl rfl ?_
    refine den_goto (pc := 90) (tgt := 4) d11_triosOf_90 (by decide) ?_
    refine den_wk [true, true, true, false, true] rfl ?_
    exact H4 x1 (x2 + 1) h
  · refine den_iload_n (pc := 24) d11_triosOf_24 rfl rfl ?_
    refine den_iconst (pc := 25) d11_triosOf_25 ?_
    refine den_iadd (pc := 26) d11_triosOf_26 ?_
    refine den_istoreL (pc := 27) (L2 := fun y => [some (vA G 69), some (vI x1), some (vI x2), some (vI x3), some (vI y)]) d11_triosOf_27 (by decide) (fun _ => rfl) (fun u14 => ?_)
    exact tl11_triosOf_29 l G _ hd x2 x3 rec4 H4 rec16 H16 FU (x1, u14, h) trivial
def l11_triosOf_16 (rec4 : Int × Int × AH → Option (Int × AH)) (x2 : Int) (x1 : Int) (x3 : Int) (h : AH) : Option (Int × AH) := fx (fun rec z => b11_triosOf_16 rec rec4 x2 z.1 z.2.1 z.2.2) FU (x1, x3, h)
set_option maxRecDepth 100000 in
theorem tl11_triosOf_16 (l : Launch) (G : Geo) (d : Nat) (hd : 7 ≤ d) (x2 : Int) (rec4 : Int × Int × AH → Option (Int × AH)) (H4 : ∀ (x1 : Int) (x2 : Int) (h : AH), Den l G m11_triosOf rvI d 4 [some (vA G 69), some (vI x1), some (vI x2), none, none] [] h (rec4 (x1, x2, h))) : ∀ (n : Nat) (z : Int × Int × AH), True → Den l G m11_triosOf rvI d 16 [some (vA G 69), some (vI z.1), some (vI x2), some (vI z.2.1), none] [] z.2.2 (fx (fun rec z => b11_triosOf_16 rec rec4 x2 z.1 z.2.1 z.2.2) n z) :=
  den_fx (F := fun rec z => b11_triosOf_16 rec rec4 x2 z.1 z.2.1 z.2.2) (P := fun z => True) (fL := fun z => [some (vA G 69), some (vI z.1), some (vI x2), some (vI z.2.1), none]) (fs := fun z => []) (fh := fun z => z.2.2) (fun rec hrec z hz => t11_triosOf_16 l G d hd x2 z.1 z.2.1 rec (fun x1 x3 h => hrec (x1, x3, h) trivial) rec4 H4 z.2.2 )
def b11_triosOf_4 (rec4 : Int × Int × AH → Option (Int × AH)) (x1 : Int) (x2 : Int) (h : AH) : Option (Int × AH) :=
  if w32 (h.2 69 13) ≤ w32 x2 then
    some (x1, h)
  else
    lt (x2 + 1) fun u15 =>
    l11_triosOf_16 rec4 x2 x1 u15 h
set_option maxRecDepth 100000 in
theorem t11_triosOf_4 (l : Launch) (G : Geo) (d : Nat) (hd : 7 ≤ d) (x1 : Int) (x2 : Int) (rec4 : Int × Int × AH → Option (Int × AH)) (H4 : ∀ (x1 : Int) (x2 : Int) (h : AH), Den l G m11_triosOf rvI d 4 [some (vA G 69), some (vI x1), some (vI x2), none, none] [] h (rec4 (x1, x2, h))) (h : AH) : Den l G m11_triosOf rvI d 4 [some (vA G 69), some (vI x1), some (vI x2), none, none] [] h (b11_triosOf_4 rec4 x1 x2 h) := by
  unfold b11_triosOf_4
  refine den_iload_n (pc := 4) d11_triosOf_4 rfl rfl ?_
  refine den_aload_n (pc := 5) d11_triosOf_5 rfl rfl ?_
  refine den_getI (pc := 6) fa_11_192 (ok_69 _) d11_triosOf_6 ?_
  refine den_icmp_ge (pc := 9) (tgt := 93) d11_triosOf_9 (by decide) rfl rfl (fun _ => ?_) (fun _ => ?_)
  · refine den_iload_n (pc := 93) d11_triosOf_93 rfl rfl ?_
    exact den_iret (pc := 94) rfl d11_triosOf_94
  · refine den_iload_n (pc := 12) d11_triosOf_12 rfl rfl ?_
    refine den_iconst (pc := 13) d11_triosOf_13 ?_
    refine den_iadd (pc := 14) d11_triosOf_14 ?_
    refine den_istore_nL (pc := 15) (L2 := fun y => [some (vA G 69), some (vI x1), some (vI x2), some (vI y), none]) d11_triosOf_15 rfl (by decide) (fun _ => rfl) (fun u15 => ?_)
    exact tl11_triosOf_16 l G _ hd x2 rec4 H4 FU (x1, u15, h) trivial
def l11_triosOf_4 (x1 : Int) (x2 : Int) (h : AH) : Option (Int × AH) := fx (fun rec z => b11_triosOf_4 rec z.1 z.2.1 z.2.2) FU (x1, x2, h)
set_option maxRecDepth 100000 in
theorem tl11_triosOf_4 (l : Launch) (G : Geo) (d : Nat) (hd : 7 ≤ d) : ∀ (n : Nat) (z : Int × Int × AH), True → Den l G m11_triosOf rvI d 4 [some (vA G 69), some (vI z.1), some (vI z.2.1), none, none] [] z.2.2 (fx (fun rec z => b11_triosOf_4 rec z.1 z.2.1 z.2.2) n z) :=
  den_fx (F := fun rec z => b11_triosOf_4 rec z.1 z.2.1 z.2.2) (P := fun z => True) (fL := fun z => [some (vA G 69), some (vI z.1), some (vI z.2.1), none, none]) (fs := fun z => []) (fh := fun z => z.2.2) (fun rec hrec z hz => t11_triosOf_4 l G d hd z.1 z.2.1 rec (fun x1 x2 h => hrec (x1, x2, h) trivial) z.2.2 )
def f11_triosOf (h : AH) : Option (Int × AH) :=
  l11_triosOf_4 0 0 h
set_option maxRecDepth 100000 in
theorem c11_triosOf (l : Launch) (G : Geo) (h : AH) : Con l G m11_triosOf rvI 7 [vA G 69] h (f11_triosOf  h) := by
  have hd : 7 ≤ 7 := Nat.le_refl _
  refine con_I rfl (by decide) rfl rfl (Nat.le_of_ble_eq_true rfl) (L := [some (vA G 69), none, none, none, none]) ?_
  unfold f11_triosOf
  refine den_iconst (pc := 0) d11_triosOf_0 ?_
  refine den_istore_n (pc := 1) (L2 := [some (vA G 69), some (vI 0), none, none, none]) d11_triosOf_1 rfl (by decide) rfl ?_
  refine den_iconst (pc := 2) d11_triosOf_2 ?_
  refine den_istore_n (pc := 3) (L2 := [some (vA G 69), some (vI 0), some (vI 0), none, none]) d11_triosOf_3 rfl (by decide) rfl ?_
  exact tl11_triosOf_4 l G _ hd FU (0, 0, h) trivial
theorem d11_withAll_0 : decode m11_withAll.2.1 0 = .ok (.iconst 0, 1) := by decide +kernel
theorem d11_withAll_1 : decode m11_withAll.2.1 1 = .ok (.istore_n 2, 1) := by decide +kernel
theorem d11_withAll_2 : decode m11_withAll.2.1 2 = .ok (.iconst 0, 1) := by decide +kernel
theorem d11_withAll_3 : decode m11_withAll.2.1 3 = .ok (.istore_n 3, 1) := by decide +kernel
theorem d11_withAll_4 : decode m11_withAll.2.1 4 = .ok (.iload_n 3, 1) := by decide +kernel
theorem d11_withAll_5 : decode m11_withAll.2.1 5 = .ok (.aload_n 0, 1) := by decide +kernel
theorem d11_withAll_6 : decode m11_withAll.2.1 6 = .ok (.getfield 192, 3) := by decide +kernel
theorem d11_withAll_9 : decode m11_withAll.2.1 9 = .ok (.if_icmp .ge 27, 3) := by decide +kernel
theorem d11_withAll_12 : decode m11_withAll.2.1 12 = .ok (.iload_n 2, 1) := by decide +kernel
theorem d11_withAll_13 : decode m11_withAll.2.1 13 = .ok (.iload_n 3, 1) := by decide +kernel
theorem d11_withAll_14 : decode m11_withAll.2.1 14 = .ok (.iload_n 1, 1) := by decide +kernel
theorem d11_withAll_15 : decode m11_withAll.2.1 15 = .ok (.if_icmp .ne 7, 3) := by decide +kernel
theorem d11_withAll_18 : decode m11_withAll.2.1 18 = .ok (.iconst 0, 1) := by decide +kernel
theorem d11_withAll_19 : decode m11_withAll.2.1 19 = .ok (.goto 9, 3) := by decide +kernel
theorem d11_withAll_22 : decode m11_withAll.2.1 22 = .ok (.aload_n 0, 1) := by decide +kernel
theorem d11_withAll_23 : decode m11_withAll.2.1 23 = .ok (.iload_n 1, 1) := by decide +kernel
theorem d11_withAll_24 : decode m11_withAll.2.1 24 = .ok (.iload_n 3, 1) := by decide +kernel
theorem d11_withAll_25 : decode m11_withAll.2.1 25 = .ok (.invokevirtual 243, 3) := by decide +kernel
theorem d11_withAll_28 : decode m11_withAll.2.1 28 = .ok (.iadd, 1) := by decide +kernel
theorem d11_withAll_29 : decode m11_withAll.2.1 29 = .ok (.istore_n 2, 1) := by decide +kernel
theorem d11_withAll_30 : decode m11_withAll.2.1 30 = .ok (.iinc 3 1, 3) := by decide +kernel
theorem d11_withAll_33 : decode m11_withAll.2.1 33 = .ok (.goto (-29), 3) := by decide +kernel
theorem d11_withAll_36 : decode m11_withAll.2.1 36 = .ok (.iload_n 2, 1) := by decide +kernel
theorem d11_withAll_37 : decode m11_withAll.2.1 37 = .ok (.ireturn, 1) := by decide +kernel
def b11_withAll_28 (rec4 : Int × Int × AH → Option (Int × AH)) (x1 : Int) (x3 : Int) (s0 : Int) (s1 : Int) (h : AH) : Option (Int × AH) :=
  lt (s1 + s0) fun u1 =>
  rec4 (u1, (x3 + 1), h)
set_option maxRecDepth 100000 in
theorem t11_withAll_28 (l : Launch) (G : Geo) (d : Nat) (hd : 7 ≤ d) (x1 : Int) (x3 : Int) (s0 : Int) (s1 : Int) (rec4 : Int × Int × AH → Option (Int × AH)) (H4 : ∀ (x2 : Int) (x3 : Int) (h : AH), Den l G m11_withAll rvI d 4 [some (vA G 69), some (vI x1), some (vI x2), some (vI x3)] [] h (rec4 (x2, x3, h))) (h : AH) : Den l G m11_withAll rvI d 28 [some (vA G 69), some (vI x1), none, some (vI x3)] [vI s0, vI s1] h (b11_withAll_28 rec4 x1 x3 s0 s1 h) := by
  unfold b11_withAll_28
  refine den_iadd (pc := 28) d11_withAll_28 ?_
  refine den_istore_nL (pc := 29) (L2 := fun y => [some (vA G 69), some (vI x1), some (vI y), some (vI x3)]) d11_withAll_29 rfl (by decide) (fun _ => rfl) (fun u1 => ?_)
  refine den_iinc (pc := 30) (L2 := [some (vA G 69), some (vI x1), some (vI u1), some (vI (x3 + 1))]) d11_withAll_30 (by decide) rfl rfl ?_
  refine den_goto (pc := 33) (tgt := 4) d11_withAll_33 (by decide) ?_
  exact H4 u1 (x3 + 1) h
def b11_withAll_4 (rec4 : Int × Int × AH → Option (Int × AH)) (x1 : Int) (x2 : Int) (x3 : Int) (h : AH) : Option (Int × AH) :=
  if w32 (h.2 69 13) ≤ w32 x3 then
    some (x2, h)
  else
    if ¬ w32 x3 = w32 x1 then
      bnd (f11_togetherOf x1 x3 h) fun r2 h3 =>
      b11_withAll_28 rec4 x1 x3 r2 x2 h3
    else
      b11_withAll_28 rec4 x1 x3 0 x2 h
set_option maxRecDepth 100000 in
theorem t11_withAll_4 (l : Launch) (G : Geo) (d : Nat) (hd : 7 ≤ d) (x1 : Int) (x2 : Int) (x3 : Int) (rec4 : Int × Int × AH → Option (Int × AH)) (H4 : ∀ (x2 : Int) (x3 : Int) (h : AH), Den l G m11_withAll rvI d 4 [some (vA G 69), some (vI x1), some (vI x2), some (vI x3)] [] h (rec4 (x2, x3, h))) (h : AH) : Den l G m11_withAll rvI d 4 [some (vA G 69), some (vI x1), some (vI x2), some (vI x3)] [] h (b11_withAll_4 rec4 x1 x2 x3 h) := by
  unfold b11_withAll_4
  refine den_iload_n (pc := 4) d11_withAll_4 rfl rfl ?_
  refine den_aload_n (pc := 5) d11_withAll_5 rfl rfl ?_
  refine den_getI (pc := 6) fa_11_192 (ok_69 _) d11_withAll_6 ?_
  refine den_icmp_ge (pc := 9) (tgt := 36) d11_withAll_9 (by decide) rfl rfl (fun _ => ?_) (fun _ => ?_)
  · refine den_iload_n (pc := 36) d11_withAll_36 rfl rfl ?_
    exact den_iret (pc := 37) rfl d11_withAll_37
  · refine den_iload_n (pc := 12) d11_withAll_12 rfl rfl ?_
    refine den_iload_n (pc := 13) d11_withAll_13 rfl rfl ?_
    refine den_iload_n (pc := 14) d11_withAll_14 rfl rfl ?_
    refine den_icmp_ne (pc := 15) (tgt := 22) d11_withAll_15 (by decide) rfl rfl (fun _ => ?_) (fun _ => ?_)
    · refine den_aload_n (pc := 22) d11_withAll_22 rfl rfl ?_
      refine den_iload_n (pc := 23) d11_withAll_23 rfl rfl ?_
      refine den_iload_n (pc := 24) d11_withAll_24 rfl rfl ?_
      refine den_callVI (pc := 25) (As := [vI x1, vI x3]) fv_11_243 rfl rfl (ok_69 _) (Nat.le_of_ble_eq_true rfl) (Nat.le_trans (by decide) hd) d11_withAll_25 (c11_togetherOf l G x1 x3 h) (fun r2 h3 m4 o5 => ?_)
      refine den_wk [true, true, false, true] rfl ?_
      exact t11_withAll_28 l G _ hd x1 x3 r2 x2 rec4 H4 h3
    · refine den_iconst (pc := 18) d11_withAll_18 ?_
      refine den_goto (pc := 19) (tgt := 28) d11_withAll_19 (by decide) ?_
      refine den_wk [true, true, false, true] rfl ?_
      exact t11_withAll_28 l G _ hd x1 x3 0 x2 rec4 H4 h
def l11_withAll_4 (x1 : Int) (x2 : Int) (x3 : Int) (h : AH) : Option (Int × AH) := fx (fun rec z => b11_withAll_4 rec x1 z.1 z.2.1 z.2.2) FU (x2, x3, h)
set_option maxRecDepth 100000 in
theorem tl11_withAll_4 (l : Launch) (G : Geo) (d : Nat) (hd : 7 ≤ d) (x1 : Int) : ∀ (n : Nat) (z : Int × Int × AH), True → Den l G m11_withAll rvI d 4 [some (vA G 69), some (vI x1), some (vI z.1), some (vI z.2.1)] [] z.2.2 (fx (fun rec z => b11_withAll_4 rec x1 z.1 z.2.1 z.2.2) n z) :=
  den_fx (F := fun rec z => b11_withAll_4 rec x1 z.1 z.2.1 z.2.2) (P := fun z => True) (fL := fun z => [some (vA G 69), some (vI x1), some (vI z.1), some (vI z.2.1)]) (fs := fun z => []) (fh := fun z => z.2.2) (fun rec hrec z hz => t11_withAll_4 l G d hd x1 z.1 z.2.1 rec (fun x2 x3 h => hrec (x2, x3, h) trivial) z.2.2 )
def f11_withAll (x1 : Int) (h : AH) : Option (Int × AH) :=
  l11_withAll_4 x1 0 0 h
set_option maxRecDepth 100000 in
theorem c11_withAll (l : Launch) (G : Geo) (x1 : Int) (h : AH) : Con l G m11_withAll rvI 7 [vA G 69, vI x1] h (f11_withAll x1 h) := by
  have hd : 7 ≤ 7 := Nat.le_refl _
  refine con_I rfl (by decide) rfl rfl (Nat.le_of_ble_eq_true rfl) (L := [some (vA G 69), some (vI x1), none, none]) ?_
  unfold f11_withAll
  refine den_iconst (pc := 0) d11_withAll_0 ?_
  refine den_istore_n (pc := 1) (L2 := [some (vA G 69), some (vI x1), some (vI 0), none]) d11_withAll_1 rfl (by decide) rfl ?_
  refine den_iconst (pc := 2) d11_withAll_2 ?_
  refine den_istore_n (pc := 3) (L2 := [some (vA G 69), some (vI x1), some (vI 0), some (vI 0)]) d11_withAll_3 rfl (by decide) rfl ?_
  exact tl11_withAll_4 l G _ hd x1 FU (0, 0, h) trivial
theorem d11_rankOf_0 : decode m11_rankOf.2.1 0 = .ok (.iconst 0, 1) := by decide +kernel
theorem d11_rankOf_1 : decode m11_rankOf.2.1 1 = .ok (.istore_n 2, 1) := by decide +kernel
theorem d11_rankOf_2 : decode m11_rankOf.2.1 2 = .ok (.iconst 0, 1) := by decide +kernel
theorem d11_rankOf_3 : decode m11_rankOf.2.1 3 = .ok (.istore_n 3, 1) := by decide +kernel
theorem d11_rankOf_4 : decode m11_rankOf.2.1 4 = .ok (.iload_n 3, 1) := by decide +kernel
theorem d11_rankOf_5 : decode m11_rankOf.2.1 5 = .ok (.aload_n 0, 1) := by decide +kernel
theorem d11_rankOf_6 : decode m11_rankOf.2.1 6 = .ok (.getfield 192, 3) := by decide +kernel
theorem d11_rankOf_9 : decode m11_rankOf.2.1 9 = .ok (.if_icmp .ge 48, 3) := by decide +kernel
theorem d11_rankOf_12 : decode m11_rankOf.2.1 12 = .ok (.iload_n 2, 1) := by decide +kernel
theorem d11_rankOf_13 : decode m11_rankOf.2.1 13 = .ok (.aload_n 0, 1) := by decide +kernel
theorem d11_rankOf_14 : decode m11_rankOf.2.1 14 = .ok (.iload_n 3, 1) := by decide +kernel
theorem d11_rankOf_15 : decode m11_rankOf.2.1 15 = .ok (.invokevirtual 310, 3) := by decide +kernel
theorem d11_rankOf_18 : decode m11_rankOf.2.1 18 = .ok (.aload_n 0, 1) := by decide +kernel
theorem d11_rankOf_19 : decode m11_rankOf.2.1 19 = .ok (.iload_n 1, 1) := by decide +kernel
theorem d11_rankOf_20 : decode m11_rankOf.2.1 20 = .ok (.invokevirtual 310, 3) := by decide +kernel
theorem d11_rankOf_23 : decode m11_rankOf.2.1 23 = .ok (.if_icmp .gt 21, 3) := by decide +kernel
theorem d11_rankOf_26 : decode m11_rankOf.2.1 26 = .ok (.aload_n 0, 1) := by decide +kernel
theorem d11_rankOf_27 : decode m11_rankOf.2.1 27 = .ok (.iload_n 3, 1) := by decide +kernel
theorem d11_rankOf_28 : decode m11_rankOf.2.1 28 = .ok (.invokevirtual 310, 3) := by decide +kernel
theorem d11_rankOf_31 : decode m11_rankOf.2.1 31 = .ok (.aload_n 0, 1) := by decide +kernel
theorem d11_rankOf_32 : decode m11_rankOf.2.1 32 = .ok (.iload_n 1, 1) := by decide +kernel
theorem d11_rankOf_33 : decode m11_rankOf.2.1 33 = .ok (.invokevirtual 310, 3) := by decide +kernel
theorem d11_rankOf_36 : decode m11_rankOf.2.1 36 = .ok (.if_icmp .ne 12, 3) := by decide +kernel
theorem d11_rankOf_39 : decode m11_rankOf.2.1 39 = .ok (.iload_n 3, 1) := by decide +kernel
theorem d11_rankOf_40 : decode m11_rankOf.2.1 40 = .ok (.iload_n 1, 1) := by decide +kernel
theorem d11_rankOf_41 : decode m11_rankOf.2.1 41 = .ok (.if_icmp .ge 7, 3) := by decide +kernel
theorem d11_rankOf_44 : decode m11_rankOf.2.1 44 = .ok (.iconst 1, 1) := by decide +kernel
theorem d11_rankOf_45 : decode m11_rankOf.2.1 45 = .ok (.goto 4, 3) := by decide +kernel
theorem d11_rankOf_48 : decode m11_rankOf.2.1 48 = .ok (.iconst 0, 1) := by decide +kernel
theorem d11_rankOf_49 : decode m11_rankOf.2.1 49 = .ok (.iadd, 1) := by decide +kernel
theorem d11_rankOf_50 : decode m11_rankOf.2.1 50 = .ok (.istore_n 2, 1) := by decide +kernel
theorem d11_rankOf_51 : decode m11_rankOf.2.1 51 = .ok (.iinc 3 1, 3) := by decide +kernel
theorem d11_rankOf_54 : decode m11_rankOf.2.1 54 = .ok (.goto (-50), 3) := by decide +kernel
theorem d11_rankOf_57 : decode m11_rankOf.2.1 57 = .ok (.iload_n 2, 1) := by decide +kernel
theorem d11_rankOf_58 : decode m11_rankOf.2.1 58 = .ok (.ireturn, 1) := by decide +kernel
def b11_rankOf_49 (rec4 : Int × Int × AH → Option (Int × AH)) (x1 : Int) (x3 : Int) (s0 : Int) (s1 : Int) (h : AH) : Option (Int × AH) :=
  lt (s1 + s0) fun u1 =>
  rec4 (u1, (x3 + 1), h)
set_option maxRecDepth 100000 in
theorem t11_rankOf_49 (l : Launch) (G : Geo) (d : Nat) (hd : 8 ≤ d) (x1 : Int) (x3 : Int) (s0 : Int) (s1 : Int) (rec4 : Int × Int × AH → Option (Int × AH)) (H4 : ∀ (x2 : Int) (x3 : Int) (h : AH), Den l G m11_rankOf rvI d 4 [some (vA G 69), some (vI x1), some (vI x2), some (vI x3)] [] h (rec4 (x2, x3, h))) (h : AH) : Den l G m11_rankOf rvI d 49 [some (vA G 69), some (vI x1), none, some (vI x3)] [vI s0, vI s1] h (b11_rankOf_49 rec4 x1 x3 s0 s1 h) := by
  unfold b11_rankOf_49
  refine den_iadd (pc := 49) d11_rankOf_49 ?_
  refine den_istore_nL (pc := 50) (L2 := fun y => [some (vA G 69), some (vI x1), some (vI y), some (vI x3)]) d11_rankOf_50 rfl (by decide) (fun _ => rfl) (fun u1 => ?_)
  refine den_iinc (pc := 51) (L2 := [some (vA G 69), some (vI x1), some (vI u1), some (vI (x3 + 1))]) d11_rankOf_51 (by decide) rfl rfl ?_
  refine den_goto (pc := 54) (tgt := 4) d11_rankOf_54 (by decide) ?_
  exact H4 u1 (x3 + 1) h
def b11_rankOf_44 (rec4 : Int × Int × AH → Option (Int × AH)) (x1 : Int) (x3 : Int) (s0 : Int) (h : AH) : Option (Int × AH) :=
  b11_rankOf_49 rec4 x1 x3 1 s0 h
set_option maxRecDepth 100000 in
theorem t11_rankOf_44 (l : Launch) (G : Geo) (d : Nat) (hd : 8 ≤ d) (x1 : Int) (x3 : Int) (s0 : Int) (rec4 : Int × Int × AH → Option (Int × AH)) (H4 : ∀ (x2 : Int) (x3 : Int) (h : AH), Den l G m11_rankOf rvI d 4 [some (vA G 69), some (vI x1), some (vI x2), some (vI x3)] [] h (rec4 (x2, x3, h))) (h : AH) : Den l G m11_rankOf rvI d 44 [some (vA G 69), some (vI x1), none, some (vI x3)] [vI s0] h (b11_rankOf_44 rec4 x1 x3 s0 h) := by
  unfold b11_rankOf_44
  refine den_iconst (pc := 44) d11_rankOf_44 ?_
  refine den_goto (pc := 45) (tgt := 49) d11_rankOf_45 (by decide) ?_
  exact t11_rankOf_49 l G _ hd x1 x3 1 s0 rec4 H4 h
def b11_rankOf_48 (rec4 : Int × Int × AH → Option (Int × AH)) (x1 : Int) (x3 : Int) (s0 : Int) (h : AH) : Option (Int × AH) :=
  b11_rankOf_49 rec4 x1 x3 0 s0 h
set_option maxRecDepth 100000 in
theorem t11_rankOf_48 (l : Launch) (G : Geo) (d : Nat) (hd : 8 ≤ d) (x1 : Int) (x3 : Int) (s0 : Int) (rec4 : Int × Int × AH → Option (Int × AH)) (H4 : ∀ (x2 : Int) (x3 : Int) (h : AH), Den l G m11_rankOf rvI d 4 [some (vA G 69), some (vI x1), some (vI x2), some (vI x3)] [] h (rec4 (x2, x3, h))) (h : AH) : Den l G m11_rankOf rvI d 48 [some (vA G 69), some (vI x1), none, some (vI x3)] [vI s0] h (b11_rankOf_48 rec4 x1 x3 s0 h) := by
  unfold b11_rankOf_48
  refine den_iconst (pc := 48) d11_rankOf_48 ?_
  exact t11_rankOf_49 l G _ hd x1 x3 0 s0 rec4 H4 h
def b11_rankOf_4 (rec4 : Int × Int × AH → Option (Int × AH)) (x1 : Int) (x2 : Int) (x3 : Int) (h : AH) : Option (Int × AH) :=
  if w32 (h.2 69 13) ≤ w32 x3 then
    some (x2, h)
  else
    bnd (f11_withAll x3 h) fun r2 h3 =>
    bnd (f11_withAll x1 h3) fun r6 h7 =>
    if w32 r6 < w32 r2 then
      b11_rankOf_44 rec4 x1 x3 x2 h7
    else
      bnd (f11_withAll x3 h7) fun r10 h11 =>
      bnd (f11_withAll x1 h11) fun r14 h15 =>
      if ¬ w32 r10 = w32 r14 then
        b11_rankOf_48 rec4 x1 x3 x2 h15
      else
        if w32 x1 ≤ w32 x3 then
          b11_rankOf_48 rec4 x1 x3 x2 h15
        else
          b11_rankOf_44 rec4 x1 x3 x2 h15
set_option maxRecDepth 100000 in
theorem t11_rankOf_4 (l : Launch) (G : Geo) (d : Nat) (hd : 8 ≤ d) (x1 : Int) (x2 : Int) (x3 : Int) (rec4 : Int × Int × AH → Option (Int × AH)) (H4 : ∀ (x2 : Int) (x3 : Int) (h : AH), Den l G m11_rankOf rvI d 4 [some (vA G 69), some (vI x1), some (vI x2), some (vI x3)] [] h (rec4 (x2, x3, h))) (h : AH) : Den l G m11_rankOf rvI d 4 [some (vA G 69), some (vI x1), some (vI x2), some (vI x3)] [] h (b11_rankOf_4 rec4 x1 x2 x3 h) := by
  unfold b11_rankOf_4
  refine den_iload_n (pc := 4) d11_rankOf_4 rfl rfl ?_
  refine den_aload_n (pc := 5) d11_rankOf_5 rfl rfl ?_
  refine den_getI (pc := 6) fa_11_192 (ok_69 _) d11_rankOf_6 ?_
  refine den_icmp_ge (pc := 9) (tgt := 57) d11_rankOf_9 (by decide) rfl rfl (fun _ => ?_) (fun _ => ?_)
  · refine den_iload_n (pc := 57) d11_rankOf_57 rfl rfl ?_
    exact den_iret (pc := 58) rfl d11_rankOf_58
  · refine den_iload_n (pc := 12) d11_rankOf_12 rfl rfl ?_
    refine den_aload_n (pc := 13) d11_rankOf_13 rfl rfl ?_
    refine den_iload_n (pc := 14) d11_rankOf_14 rfl rfl ?_
    refine den_callVI (pc := 15) (As := [vI x3]) fv_11_310 rfl rfl (ok_69 _) (Nat.le_of_ble_eq_true rfl) (Nat.le_trans (by decide) hd) d11_rankOf_15 (c11_withAll l G x3 h) (fun r2 h3 m4 o5 => ?_)
    refine den_aload_n (pc := 18) d11_rankOf_18 rfl rfl ?_
    refine den_iload_n (pc := 19) d11_rankOf_19 rfl rfl ?_
    refine den_callVI (pc := 20) (As := [vI x1]) fv_11_310 rfl rfl (ok_69 _) (Nat.le_of_ble_eq_true rfl) (Nat.le_trans (by decide) hd) d11_rankOf_20 (c11_withAll l G x1 h3) (fun r6 h7 m8 o9 => ?_)
    refine den_icmp_gt (pc := 23) (tgt := 44) d11_rankOf_23 (by decide) rfl rfl (fun _ => ?_) (fun _ => ?_)
    · refine den_wk [true, true, false, true] rfl ?_
      exact t11_rankOf_44 l G _ hd x1 x3 x2 rec4 H4 h7
    · refine den_aload_n (pc := 26) d11_rankOf_26 rfl rfl ?_
      refine den_iload_n (pc := 27) d11_rankOf_27 rfl rfl ?_
      refine den_callVI (pc := 28) (As := [vI x3]) fv_11_310 rfl rfl (ok_69 _) (Nat.le_of_ble_eq_true rfl) (Nat.le_trans (by decide) hd) d11_rankOf_28 (c11_withAll l G x3 h7) (fun r10 h11 m12 o13 => ?_)
      refine den_aload_n (pc := 31) d11_rankOf_31 rfl rfl ?_
      refine den_iload_n (pc := 32) d11_rankOf_32 rfl rfl ?_
      refine den_callVI (pc := 33) (As := [vI x1]) fv_11_310 rfl rfl (ok_69 _) (Nat.le_of_ble_eq_true rfl) (Nat.le_trans (by decide) hd) d11_rankOf_33 (c11_withAll l G x1 h11) (fun r14 h15 m16 o17 => ?_)
      refine den_icmp_ne (pc := 36) (tgt := 48) d11_rankOf_36 (by decide) rfl rfl (fun _ => ?_) (fun _ => ?_)
      · refine den_wk [true, true, false, true] rfl ?_
        exact t11_rankOf_48 l G _ hd x1 x3 x2 rec4 H4 h15
      · refine den_iload_n (pc := 39) d11_rankOf_39 rfl rfl ?_
        refine den_iload_n (pc := 40) d11_rankOf_40 rfl rfl ?_
        refine den_icmp_ge (pc := 41) (tgt := 48) d11_rankOf_41 (by decide) rfl rfl (fun _ => ?_) (fun _ => ?_)
        · refine den_wk [true, true, false, true] rfl ?_
          exact t11_rankOf_48 l G _ hd x1 x3 x2 rec4 H4 h15
        · refine den_wk [true, true, false, true] rfl ?_
          exact t11_rankOf_44 l G _ hd x1 x3 x2 rec4 H4 h15
def l11_rankOf_4 (x1 : Int) (x2 : Int) (x3 : Int) (h : AH) : Option (Int × AH) := fx (fun rec z => b11_rankOf_4 rec x1 z.1 z.2.1 z.2.2) FU (x2, x3, h)
set_option maxRecDepth 100000 in
theorem tl11_rankOf_4 (l : Launch) (G : Geo) (d : Nat) (hd : 8 ≤ d) (x1 : Int) : ∀ (n : Nat) (z : Int × Int × AH), True → Den l G m11_rankOf rvI d 4 [some (vA G 69), some (vI x1), some (vI z.1), some (vI z.2.1)] [] z.2.2 (fx (fun rec z => b11_rankOf_4 rec x1 z.1 z.2.1 z.2.2) n z) :=
  den_fx (F := fun rec z => b11_rankOf_4 rec x1 z.1 z.2.1 z.2.2) (P := fun z => True) (fL := fun z => [some (vA G 69), some (vI x1), some (vI z.1), some (vI z.2.1)]) (fs := fun z => []) (fh := fun z => z.2.2) (fun rec hrec z hz => t11_rankOf_4 l G d hd x1 z.1 z.2.1 rec (fun x2 x3 h => hrec (x2, x3, h) trivial) z.2.2 )
def f11_rankOf (x1 : Int) (h : AH) : Option (Int × AH) :=
  l11_rankOf_4 x1 0 0 h
set_option maxRecDepth 100000 in
theorem c11_rankOf (l : Launch) (G : Geo) (x1 : Int) (h : AH) : Con l G m11_rankOf rvI 8 [vA G 69, vI x1] h (f11_rankOf x1 h) := by
  have hd : 8 ≤ 8 := Nat.le_refl _
  refine con_I rfl (by decide) rfl rfl (Nat.le_of_ble_eq_true rfl) (L := [some (vA G 69), some (vI x1), none, none]) ?_
  unfold f11_rankOf
  refine den_iconst (pc := 0) d11_rankOf_0 ?_
  refine den_istore_n (pc := 1) (L2 := [some (vA G 69), some (vI x1), some (vI 0), none]) d11_rankOf_1 rfl (by decide) rfl ?_
  refine den_iconst (pc := 2) d11_rankOf_2 ?_
  refine den_istore_n (pc := 3) (L2 := [some (vA G 69), some (vI x1), some (vI 0), some (vI 0)]) d11_rankOf_3 rfl (by decide) rfl ?_
  exact tl11_rankOf_4 l G _ hd x1 FU (0, 0, h) trivial
