/-! 11_tells 11_cools 11_does 11_doesTold 11_runs 11_stop 11_nowOf 11_isCosy -/
theorem d11_tells_0 : decode m11_tells.2.1 0 = .ok (.aload_n 0, 1) := by decide +kernel
theorem d11_tells_1 : decode m11_tells.2.1 1 = .ok (.iload_n 1, 1) := by decide +kernel
theorem d11_tells_2 : decode m11_tells.2.1 2 = .ok (.invokevirtual 207, 3) := by decide +kernel
theorem d11_tells_5 : decode m11_tells.2.1 5 = .ok (.ifCond .ne 5, 3) := by decide +kernel
theorem d11_tells_8 : decode m11_tells.2.1 8 = .ok (.iconst 0, 1) := by decide +kernel
theorem d11_tells_9 : decode m11_tells.2.1 9 = .ok (.ireturn, 1) := by decide +kernel
theorem d11_tells_10 : decode m11_tells.2.1 10 = .ok (.iconst 0, 1) := by decide +kernel
theorem d11_tells_11 : decode m11_tells.2.1 11 = .ok (.istore_n 3, 1) := by decide +kernel
theorem d11_tells_12 : decode m11_tells.2.1 12 = .ok (.iload_n 3, 1) := by decide +kernel
theorem d11_tells_13 : decode m11_tells.2.1 13 = .ok (.aload_n 0, 1) := by decide +kernel
theorem d11_tells_14 : decode m11_tells.2.1 14 = .ok (.getfield 192, 3) := by decide +kernel
theorem d11_tells_17 : decode m11_tells.2.1 17 = .ok (.if_icmp .ge 21, 3) := by decide +kernel
theorem d11_tells_20 : decode m11_tells.2.1 20 = .ok (.aload_n 0, 1) := by decide +kernel
theorem d11_tells_21 : decode m11_tells.2.1 21 = .ok (.getfield 71, 3) := by decide +kernel
theorem d11_tells_24 : decode m11_tells.2.1 24 = .ok (.bipush 6, 2) := by decide +kernel
theorem d11_tells_26 : decode m11_tells.2.1 26 = .ok (.iload_n 3, 1) := by decide +kernel
theorem d11_tells_27 : decode m11_tells.2.1 27 = .ok (.imul, 1) := by decide +kernel
theorem d11_tells_28 : decode m11_tells.2.1 28 = .ok (.iload_n 1, 1) := by decide +kernel
theorem d11_tells_29 : decode m11_tells.2.1 29 = .ok (.iadd, 1) := by decide +kernel
theorem d11_tells_30 : decode m11_tells.2.1 30 = .ok (.iload_n 2, 1) := by decide +kernel
theorem d11_tells_31 : decode m11_tells.2.1 31 = .ok (.iastore, 1) := by decide +kernel
theorem d11_tells_32 : decode m11_tells.2.1 32 = .ok (.iinc 3 1, 3) := by decide +kernel
theorem d11_tells_35 : decode m11_tells.2.1 35 = .ok (.goto (-23), 3) := by decide +kernel
theorem d11_tells_38 : decode m11_tells.2.1 38 = .ok (.aload_n 0, 1) := by decide +kernel
theorem d11_tells_39 : decode m11_tells.2.1 39 = .ok (.getfield 68, 3) := by decide +kernel
theorem d11_tells_42 : decode m11_tells.2.1 42 = .ok (.iload_n 1, 1) := by decide +kernel
theorem d11_tells_43 : decode m11_tells.2.1 43 = .ok (.bipush 9, 2) := by decide +kernel
theorem d11_tells_45 : decode m11_tells.2.1 45 = .ok (.iastore, 1) := by decide +kernel
theorem d11_tells_46 : decode m11_tells.2.1 46 = .ok (.iconst 1, 1) := by decide +kernel
theorem d11_tells_47 : decode m11_tells.2.1 47 = .ok (.ireturn, 1) := by decide +kernel
def b11_tells_12 (rec12 : Int × AH → Option (Int × AH)) (x1 : Int) (x2 : Int) (x3 : Int) (h : AH) : Option (Int × AH) :=
  if w32 (h.2 69 13) ≤ w32 x3 then
    asrt (0 ≤ w32 x1 ∧ w32 x1 < 6) <|
    lt (wr h 89 (w32 x1).toNat 9) fun h2 =>
    some (1, h2)
  else
    asrt (0 ≤ w32 ((6 * x3) + x1) ∧ w32 ((6 * x3) + x1) < 48) <|
    lt (wr h 90 (w32 ((6 * x3) + x1)).toNat x2) fun h5 =>
    rec12 ((x3 + 1), h5)
set_option maxRecDepth 100000 in
theorem t11_tells_12 (l : Launch) (G : Geo) (d : Nat) (hd : 4 ≤ d) (x1 : Int) (x2 : Int) (x3 : Int) (rec12 : Int × AH → Option (Int × AH)) (H12 : ∀ (x3 : Int) (h : AH), Den l G m11_tells rvI d 12 [some (vA G 69), some (vI x1), some (vI x2), some (vI x3)] [] h (rec12 (x3, h))) (h : AH) : Den l G m11_tells rvI d 12 [some (vA G 69), some (vI x1), some (vI x2), some (vI x3)] [] h (b11_tells_12 rec12 x1 x2 x3 h) := by
  unfold b11_tells_12
  refine den_iload_n (pc := 12) d11_tells_12 rfl rfl ?_
  refine den_aload_n (pc := 13) d11_tells_13 rfl rfl ?_
  refine den_getI (pc := 14) fa_11_192 (ok_69 _) d11_tells_14 ?_
  refine den_icmp_ge (pc := 17) (tgt := 38) d11_tells_17 (by decide) rfl rfl (fun _ => ?_) (fun _ => ?_)
  · refine den_aload_n (pc := 38) d11_tells_38 rfl rfl ?_
    refine den_getR (pc := 39) (b := 89) fa_11_68 (ok_69 _) rfl d11_tells_39 ?_
    refine den_iload_n (pc := 42) d11_tells_42 rfl rfl ?_
    refine den_bipush (pc := 43) d11_tells_43 (by decide) ?_
    refine den_asrt (fun a1 => ?_)
    refine den_iastore (pc := 45) sh_89 (sz_lt (by decide)) rfl a1 d11_tells_45 ?_
    refine den_ltH (fun h2 m3 => ?_)
    refine den_iconst (pc := 46) d11_tells_46 ?_
    exact den_zret (pc := 47) rfl (by decide) d11_tells_47
  · refine den_aload_n (pc := 20) d11_tells_20 rfl rfl ?_
    refine den_getR (pc := 21) (b := 90) fa_11_71 (ok_69 _) rfl d11_tells_21 ?_
    refine den_bipush (pc := 24) d11_tells_24 (by decide) ?_
    refine den_iload_n (pc := 26) d11_tells_26 rfl rfl ?_
    refine den_imul (pc := 27) d11_tells_27 ?_
    refine den_iload_n (pc := 28) d11_tells_28 rfl rfl ?_
    refine den_iadd (pc := 29) d11_tells_29 ?_
    refine den_iload_n (pc := 30) d11_tells_30 rfl rfl ?_
    refine den_asrt (fun a4 => ?_)
    refine den_iastore (pc := 31) sh_90 (sz_lt (by decide)) rfl a4 d11_tells_31 ?_
    refine den_ltH (fun h5 m6 => ?_)
    refine den_iinc (pc := 32) (L2 := [some (vA G 69), some (vI x1), some (vI x2), some (vI (x3 + 1))]) d11_tells_32 (by decide) rfl rfl ?_
    refine den_goto (pc := 35) (tgt := 12) d11_tells_35 (by decide) ?_
    exact H12 (x3 + 1) h5
def l11_tells_12 (x1 : Int) (x2 : Int) (x3 : Int) (h : AH) : Option (Int × AH) := fx (fun rec z => b11_tells_12 rec x1 x2 z.1 z.2) FU (x3, h)
set_option maxRecDepth 100000 in
theorem tl11_tells_12 (l : Launch) (G : Geo) (d : Nat) (hd : 4 ≤ d) (x1 : Int) (x2 : Int) : ∀ (n : Nat) (z : Int × AH), True → Den l G m11_tells rvI d 12 [some (vA G 69), some (vI x1), some (vI x2), some (vI z.1)] [] z.2 (fx (fun rec z => b11_tells_12 rec x1 x2 z.1 z.2) n z) :=
  den_fx (F := fun rec z => b11_tells_12 rec x1 x2 z.1 z.2) (P := fun z => True) (fL := fun z => [some (vA G 69), some (vI x1), some (vI x2), some (vI z.1)]) (fs := fun z => []) (fh := fun z => z.2) (fun rec hrec z hz => t11_tells_12 l G d hd x1 x2 z.1 rec (fun x3 h => hrec (x3, h) trivial) z.2 )
def f11_tells (x1 : Int) (x2 : Int) (h : AH) : Option (Int × AH) :=
  bnd (f11_isSubject x1 h) fun r7 h8 =>
  if ¬ w32 r7 = 0 then
    l11_tells_12 x1 x2 0 h8
  else
    some (0, h8)
set_option maxRecDepth 100000 in
theorem c11_tells (l : Launch) (G : Geo) (x1 : Int) (x2 : Int) (h : AH) : Con l G m11_tells rvI 4 [vA G 69, vI x1, vI x2] h (f11_tells x1 x2 h) := by
  have hd : 4 ≤ 4 := Nat.le_refl _
  refine con_Z rfl (by decide) rfl rfl (Nat.le_of_ble_eq_true rfl) (L := [some (vA G 69), some (vI x1), some (vI x2), none]) ?_
  unfold f11_tells
  refine den_aload_n (pc := 0) d11_tells_0 rfl rfl ?_
  refine den_iload_n (pc := 1) d11_tells_1 rfl rfl ?_
  refine den_callVI (pc := 2) (As := [vI x1]) fv_11_207 rfl rfl (ok_69 _) (Nat.le_of_ble_eq_true rfl) (Nat.le_trans (by decide) hd) d11_tells_2 (c11_isSubject l G x1 h) (fun r7 h8 m9 o10 => ?_)
  refine den_if_ne (pc := 5) (tgt := 10) d11_tells_5 (by decide) rfl (fun _ => ?_) (fun _ => ?_)
  · refine den_iconst (pc := 10) d11_tells_10 ?_
    refine den_istore_n (pc := 11) (L2 := [some (vA G 69), some (vI x1), some (vI x2), some (vI 0)]) d11_tells_11 rfl (by decide) rfl ?_
    exact tl11_tells_12 l G _ hd x1 x2 FU (0, h8) trivial
  · refine den_iconst (pc := 8) d11_tells_8 ?_
    exact den_zret (pc := 9) rfl (by decide) d11_tells_9
theorem d11_cools_0 : decode m11_cools.2.1 0 = .ok (.aload_n 0, 1) := by decide +kernel
theorem d11_cools_1 : decode m11_cools.2.1 1 = .ok (.getfield 328, 3) := by decide +kernel
theorem d11_cools_4 : decode m11_cools.2.1 4 = .ok (.bipush 99, 2) := by decide +kernel
theorem d11_cools_6 : decode m11_cools.2.1 6 = .ok (.if_icmp .ne 5, 3) := by decide +kernel
theorem d11_cools_9 : decode m11_cools.2.1 9 = .ok (.iconst 0, 1) := by decide +kernel
theorem d11_cools_10 : decode m11_cools.2.1 10 = .ok (.ireturn, 1) := by decide +kernel
theorem d11_cools_11 : decode m11_cools.2.1 11 = .ok (.iconst 0, 1) := by decide +kernel
theorem d11_cools_12 : decode m11_cools.2.1 12 = .ok (.istore_n 1, 1) := by decide +kernel
theorem d11_cools_13 : decode m11_cools.2.1 13 = .ok (.iload_n 1, 1) := by decide +kernel
theorem d11_cools_14 : decode m11_cools.2.1 14 = .ok (.iconst 4, 1) := by decide +kernel
theorem d11_cools_15 : decode m11_cools.2.1 15 = .ok (.if_icmp .ge 57, 3) := by decide +kernel
theorem d11_cools_18 : decode m11_cools.2.1 18 = .ok (.aload_n 0, 1) := by decide +kernel
theorem d11_cools_19 : decode m11_cools.2.1 19 = .ok (.getfield 65, 3) := by decide +kernel
theorem d11_cools_22 : decode m11_cools.2.1 22 = .ok (.iload_n 1, 1) := by decide +kernel
theorem d11_cools_23 : decode m11_cools.2.1 23 = .ok (.aload_n 0, 1) := by decide +kernel
theorem d11_cools_24 : decode m11_cools.2.1 24 = .ok (.getfield 65, 3) := by decide +kernel
theorem d11_cools_27 : decode m11_cools.2.1 27 = .ok (.iload_n 1, 1) := by decide +kernel
theorem d11_cools_28 : decode m11_cools.2.1 28 = .ok (.iaload, 1) := by decide +kernel
theorem d11_cools_29 : decode m11_cools.2.1 29 = .ok (.aload_n 0, 1) := by decide +kernel
theorem d11_cools_30 : decode m11_cools.2.1 30 = .ok (.getfield 7, 3) := by decide +kernel
theorem d11_cools_33 : decode m11_cools.2.1 33 = .ok (.aload_n 0, 1) := by decide +kernel
theorem d11_cools_34 : decode m11_cools.2.1 34 = .ok (.getfield 189, 3) := by decide +kernel
theorem d11_cools_37 : decode m11_cools.2.1 37 = .ok (.iconst 3, 1) := by decide +kernel
theorem d11_cools_38 : decode m11_cools.2.1 38 = .ok (.iadd, 1) := by decide +kernel
theorem d11_cools_39 : decode m11_cools.2.1 39 = .ok (.iaload, 1) := by decide +kernel
theorem d11_cools_40 : decode m11_cools.2.1 40 = .ok (.if_icmp .le 24, 3) := by decide +kernel
theorem d11_cools_43 : decode m11_cools.2.1 43 = .ok (.aload_n 0, 1) := by decide +kernel
theorem d11_cools_44 : decode m11_cools.2.1 44 = .ok (.getfield 65, 3) := by decide +kernel
theorem d11_cools_47 : decode m11_cools.2.1 47 = .ok (.iload_n 1, 1) := by decide +kernel
theorem d11_cools_48 : decode m11_cools.2.1 48 = .ok (.iaload, 1) := by decide +kernel
theorem d11_cools_49 : decode m11_cools.2.1 49 = .ok (.aload_n 0, 1) := by decide +kernel
theorem d11_cools_50 : decode m11_cools.2.1 50 = .ok (.getfield 7, 3) := by decide +kernel
theorem d11_cools_53 : decode m11_cools.2.1 53 = .ok (.aload_n 0, 1) := by decide +kernel
theorem d11_cools_54 : decode m11_cools.2.1 54 = .ok (.getfield 189, 3) := by decide +kernel
theorem d11_cools_57 : decode m11_cools.2.1 57 = .ok (.iconst 3, 1) := by decide +kernel
theorem d11_cools_58 : decode m11_cools.2.1 58 = .ok (.iadd, 1) := by decide +kernel
theorem d11_cools_59 : decode m11_cools.2.1 59 = .ok (.iaload, 1) := by decide +kernel
theorem d11_cools_60 : decode m11_cools.2.1 60 = .ok (.isub, 1) := by decide +kernel
theorem d11_cools_61 : decode m11_cools.2.1 61 = .ok (.goto 4, 3) := by decide +kernel
theorem d11_cools_64 : decode m11_cools.2.1 64 = .ok (.iconst 0, 1) := by decide +kernel
theorem d11_cools_65 : decode m11_cools.2.1 65 = .ok (.iastore, 1) := by decide +kernel
theorem d11_cools_66 : decode m11_cools.2.1 66 = .ok (.iinc 1 1, 3) := by decide +kernel
theorem d11_cools_69 : decode m11_cools.2.1 69 = .ok (.goto (-56), 3) := by decide +kernel
theorem d11_cools_72 : decode m11_cools.2.1 72 = .ok (.aload_n 0, 1) := by decide +kernel
theorem d11_cools_73 : decode m11_cools.2.1 73 = .ok (.iconst 0, 1) := by decide +kernel
theorem d11_cools_74 : decode m11_cools.2.1 74 = .ok (.putfield 334, 3) := by decide +kernel
theorem d11_cools_77 : decode m11_cools.2.1 77 = .ok (.aload_n 0, 1) := by decide +kernel
theorem d11_cools_78 : decode m11_cools.2.1 78 = .ok (.dup, 1) := by decide +kernel
theorem d11_cools_79 : decode m11_cools.2.1 79 = .ok (.getfield 328, 3) := by decide +kernel
theorem d11_cools_82 : decode m11_cools.2.1 82 = .ok (.iconst 1, 1) := by decide +kernel
theorem d11_cools_83 : decode m11_cools.2.1 83 = .ok (.iadd, 1) := by decide +kernel
theorem d11_cools_84 : decode m11_cools.2.1 84 = .ok (.putfield 328, 3) := by decide +kernel
theorem d11_cools_87 : decode m11_cools.2.1 87 = .ok (.iconst 1, 1) := by decide +kernel
theorem d11_cools_88 : decode m11_cools.2.1 88 = .ok (.ireturn, 1) := by decide +kernel
def b11_cools_65 (rec13 : Int × AH → Option (Int × AH)) (x1 : Int) (s0 : Int) (s1 : Int) (h : AH) : Option (Int × AH) :=
  asrt (0 ≤ w32 s1 ∧ w32 s1 < 4) <|
  lt (wr h 88 (w32 s1).toNat s0) fun h2 =>
  rec13 ((x1 + 1), h2)
set_option maxRecDepth 100000 in
theorem t11_cools_65 (l : Launch) (G : Geo) (d : Nat) (hd : 2 ≤ d) (x1 : Int) (s0 : Int) (s1 : Int) (rec13 : Int × AH → Option (Int × AH)) (H13 : ∀ (x1 : Int) (h : AH), Den l G m11_cools rvI d 13 [some (vA G 69), some (vI x1)] [] h (rec13 (x1, h))) (h : AH) : Den l G m11_cools rvI d 65 [some (vA G 69), some (vI x1)] [vI s0, vI s1, vA G 88] h (b11_cools_65 rec13 x1 s0 s1 h) := by
  unfold b11_cools_65
  refine den_asrt (fun a1 => ?_)
  refine den_iastore (pc := 65) sh_88 (sz_lt (by decide)) rfl a1 d11_cools_65 ?_
  refine den_ltH (fun h2 m3 => ?_)
  refine den_iinc (pc := 66) (L2 := [some (vA G 69), some (vI (x1 + 1))]) d11_cools_66 (by decide) rfl rfl ?_
  refine den_goto (pc := 69) (tgt := 13) d11_cools_69 (by decide) ?_
  exact H13 (x1 + 1) h2
def b11_cools_13 (rec13 : Int × AH → Option (Int × AH)) (x1 : Int) (h : AH) : Option (Int × AH) :=
  if 4 ≤ w32 x1 then
    lt (wr h 69 34 0) fun h4 =>
    lt (wr h4 69 32 ((h4.2 69 32) + 1)) fun h6 =>
    some (1, h6)
  else
    asrt (0 ≤ w32 x1 ∧ w32 x1 < 4) <|
    asrt (0 ≤ w32 ((h.2 69 12) + 3) ∧ w32 ((h.2 69 12) + 3) < 4824) <|
    if w32 (h.2 88 (w32 x1).toNat) ≤ w32 (h.2 70 (w32 ((h.2 69 12) + 3)).toNat) then
      b11_cools_65 rec13 x1 0 x1 h
    else
      asrt (0 ≤ w32 x1 ∧ w32 x1 < 4) <|
      asrt (0 ≤ w32 ((h.2 69 12) + 3) ∧ w32 ((h.2 69 12) + 3) < 4824) <|
      b11_cools_65 rec13 x1 ((h.2 88 (w32 x1).toNat) - (h.2 70 (w32 ((h.2 69 12) + 3)).toNat)) x1 h
set_option maxRecDepth 100000 in
theorem t11_cools_13 (l : Launch) (G : Geo) (d : Nat) (hd : 2 ≤ d) (x1 : Int) (rec13 : Int × AH → Option (Int × AH)) (H13 : ∀ (x1 : Int) (h : AH), Den l G m11_cools rvI d 13 [some (vA G 69), some (vI x1)] [] h (rec13 (x1, h))) (h : AH) : Den l G m11_cools rvI d 13 [some (vA G 69), some (vI x1)] [] h (b11_cools_13 rec13 x1 h) := by
  unfold b11_cools_13
  refine den_iload_n (pc := 13) d11_cools_13 rfl rfl ?_
  refine den_iconst (pc := 14) d11_cools_14 ?_
  refine den_icmp_ge (pc := 15) (tgt := 72) d11_cools_15 (by decide) rfl (by decide) (fun _ => ?_) (fun _ => ?_)
  · refine den_aload_n (pc := 72) d11_cools_72 rfl rfl ?_
    refine den_iconst (pc := 73) d11_cools_73 ?_
    refine den_putI (pc := 74) fp_11_334 (ok_69 _) d11_cools_74 ?_
    refine den_ltH (fun h4 m5 => ?_)
    refine den_aload_n (pc := 77) d11_cools_77 rfl rfl ?_
    refine den_dup (pc := 78) d11_cools_78 rfl ?_
    refine den_getI (pc := 79) fa_11_328 (ok_69 _) d11_cools_79 ?_
    refine den_iconst (pc := 82) d11_cools_82 ?_
    refine den_iadd (pc := 83) d11_cools_83 ?_
    refine den_putI (pc := 84) fp_11_328 (ok_69 _) d11_cools_84 ?_
    refine den_ltH (fun h6 m7 => ?_)
    refine den_iconst (pc := 87) d11_cools_87 ?_
    exact den_zret (pc := 88) rfl (by decide) d11_cools_88
  · refine den_aload_n (pc := 18) d11_cools_18 rfl rfl ?_
    refine den_getR (pc := 19) (b := 88) fa_11_65 (ok_69 _) rfl d11_cools_19 ?_
    refine den_iload_n (pc := 22) d11_cools_22 rfl rfl ?_
    refine den_aload_n (pc := 23) d11_cools_23 rfl rfl ?_
    refine den_getR (pc := 24) (b := 88) fa_11_65 (ok_69 _) rfl d11_cools_24 ?_
    refine den_iload_n (pc := 27) d11_cools_27 rfl rfl ?_
    refine den_asrt (fun a8 => ?_)
    refine den_iaload (pc := 28) sh_88 (sz_lt (by decide)) rfl a8 d11_cools_28 ?_
    refine den_aload_n (pc := 29) d11_cools_29 rfl rfl ?_
    refine den_getR (pc := 30) (b := 70) fa_11_7 (ok_69 _) rfl d11_cools_30 ?_
    refine den_aload_n (pc := 33) d11_cools_33 rfl rfl ?_
    refine den_getI (pc := 34) fa_11_189 (ok_69 _) d11_cools_34 ?_
    refine den_iconst (pc := 37) d11_cools_37 ?_
    refine den_iadd (pc := 38) d11_cools_38 ?_
    refine den_asrt (fun a9 => ?_)
    refine den_iaload (pc := 39) sh_70 (sz_lt (by decide)) rfl a9 d11_cools_39 ?_
    refine den_icmp_le (pc := 40) (tgt := 64) d11_cools_40 (by decide) rfl rfl (fun _ => ?_) (fun _ => ?_)
    · refine den_iconst (pc := 64) d11_cools_64 ?_
      exact t11_cools_65 l G _ hd x1 0 x1 rec13 H13 h
    · refine den_aload_n (pc := 43) d11_cools_43 rfl rfl ?_
      refine den_getR (pc := 44) (b := 88) fa_11_65 (ok_69 _) rfl d11_cools_44 ?_
      refine den_iload_n (pc := 47) d11_cools_47 rfl rfl ?_
      refine den_asrt (fun a10 => ?_)
      refine den_iaload (pc := 48) sh_88 (sz_lt (by decide)) rfl a10 d11_cools_48 ?_
      refine den_aload_n (pc := 49) d11_cools_49 rfl rfl ?_
      refine den_getR (pc := 50) (b := 70) fa_11_7 (ok_69 _) rfl d11_cools_50 ?_
      refine den_aload_n (pc := 53) d11_cools_53 rfl rfl ?_
      refine den_getI (pc := 54) fa_11_189 (ok_69 _) d11_cools_54 ?_
      refine den_iconst (pc := 57) d11_cools_57 ?_
      refine den_iadd (pc := 58) d11_cools_58 ?_
      refine den_asrt (fun a11 => ?_)
      refine den_iaload (pc := 59) sh_70 (sz_lt (by decide)) rfl a11 d11_cools_59 ?_
      refine den_isub (pc := 60) d11_cools_60 ?_
      refine den_goto (pc := 61) (tgt := 65) d11_cools_61 (by decide) ?_
      exact t11_cools_65 l G _ hd x1 ((h.2 88 (w32 x1).toNat) - (h.2 70 (w32 ((h.2 69 12) + 3)).toNat)) x1 rec13 H13 h
def l11_cools_13 (x1 : Int) (h : AH) : Option (Int × AH) := fx (fun rec z => b11_cools_13 rec z.1 z.2) FU (x1, h)
set_option maxRecDepth 100000 in
theorem tl11_cools_13 (l : Launch) (G : Geo) (d : Nat) (hd : 2 ≤ d) : ∀ (n : Nat) (z : Int × AH), True → Den l G m11_cools rvI d 13 [some (vA G 69), some (vI z.1)] [] z.2 (fx (fun rec z => b11_cools_13 rec z.1 z.2) n z) :=
  den_fx (F := fun rec z => b11_cools_13 rec z.1 z.2) (P := fun z => True) (fL := fun z => [some (vA G 69), some (vI z.1)]) (fs := fun z => []) (fh := fun z => z.2) (fun rec hrec z hz => t11_cools_13 l G d hd z.1 rec (fun x1 h => hrec (x1, h) trivial) z.2 )
def f11_cools (h : AH) : Option (Int × AH) :=
  if ¬ w32 (h.2 69 32) = 99 then
    l11_cools_13 0 h
  else
    some (0, h)
set_option maxRecDepth 100000 in
theorem c11_cools (l : Launch) (G : Geo) (h : AH) : Con l G m11_cools rvI 2 [vA G 69] h (f11_cools  h) := by
  have hd : 2 ≤ 2 := Nat.le_refl _
  refine con_Z rfl (by decide) rfl rfl (Nat.le_of_ble_eq_true rfl) (L := [some (vA G 69), none]) ?_
  unfold f11_cools
  refine den_aload_n (pc := 0) d11_cools_0 rfl rfl ?_
  refine den_getI (pc := 1) fa_11_328 (ok_69 _) d11_cools_1 ?_
  refine den_bipush (pc := 4) d11_cools_4 (by decide) ?_
  refine den_icmp_ne (pc := 6) (tgt := 11) d11_cools_6 (by decide) rfl (by decide) (fun _ => ?_) (fun _ => ?_)
  · refine den_iconst (pc := 11) d11_cools_11 ?_
    refine den_istore_n (pc := 12) (L2 := [some (vA G 69), some (vI 0)]) d11_cools_12 rfl (by decide) rfl ?_
    exact tl11_cools_13 l G _ hd FU (0, h) trivial
  · refine den_iconst (pc := 9) d11_cools_9 ?_
    exact den_zret (pc := 10) rfl (by decide) d11_cools_10
theorem d11_does_0 : decode m11_does.2.1 0 = .ok (.iload_n 1, 1) := by decide +kernel
theorem d11_does_1 : decode m11_does.2.1 1 = .ok (.iconst 4, 1) := by decide +kernel
theorem d11_does_2 : decode m11_does.2.1 2 = .ok (.if_icmp .ne 8, 3) := by decide +kernel
theorem d11_does_5 : decode m11_does.2.1 5 = .ok (.aload_n 0, 1) := by decide +kernel
theorem d11_does_6 : decode m11_does.2.1 6 = .ok (.invokevirtual 346, 3) := by decide +kernel
theorem d11_does_9 : decode m11_does.2.1 9 = .ok (.ireturn, 1) := by decide +kernel
theorem d11_does_10 : decode m11_does.2.1 10 = .ok (.iload_n 1, 1) := by decide +kernel
theorem d11_does_11 : decode m11_does.2.1 11 = .ok (.iconst 3, 1) := by decide +kernel
theorem d11_does_12 : decode m11_does.2.1 12 = .ok (.if_icmp .ne 10, 3) := by decide +kernel
theorem d11_does_15 : decode m11_does.2.1 15 = .ok (.aload_n 0, 1) := by decide +kernel
theorem d11_does_16 : decode m11_does.2.1 16 = .ok (.iload_n 2, 1) := by decide +kernel
theorem d11_does_17 : decode m11_does.2.1 17 = .ok (.iload_n 3, 1) := by decide +kernel
theorem d11_does_18 : decode m11_does.2.1 18 = .ok (.invokevirtual 349, 3) := by decide +kernel
theorem d11_does_21 : decode m11_does.2.1 21 = .ok (.ireturn, 1) := by decide +kernel
theorem d11_does_22 : decode m11_does.2.1 22 = .ok (.aload_n 0, 1) := by decide +kernel
theorem d11_does_23 : decode m11_does.2.1 23 = .ok (.iload_n 2, 1) := by decide +kernel
theorem d11_does_24 : decode m11_does.2.1 24 = .ok (.iload_n 3, 1) := by decide +kernel
theorem d11_does_25 : decode m11_does.2.1 25 = .ok (.invokevirtual 228, 3) := by decide +kernel
theorem d11_does_28 : decode m11_does.2.1 28 = .ok (.ifCond .eq 12, 3) := by decide +kernel
theorem d11_does_31 : decode m11_does.2.1 31 = .ok (.aload_n 0, 1) := by decide +kernel
theorem d11_does_32 : decode m11_does.2.1 32 = .ok (.iload 4, 2) := by decide +kernel
theorem d11_does_34 : decode m11_does.2.1 34 = .ok (.invokevirtual 207, 3) := by decide +kernel
theorem d11_does_37 : decode m11_does.2.1 37 = .ok (.ifCond .ne 5, 3) := by decide +kernel
theorem d11_does_40 : decode m11_does.2.1 40 = .ok (.iconst 0, 1) := by decide +kernel
theorem d11_does_41 : decode m11_does.2.1 41 = .ok (.ireturn, 1) := by decide +kernel
theorem d11_does_42 : decode m11_does.2.1 42 = .ok (.iload_n 1, 1) := by decide +kernel
theorem d11_does_43 : decode m11_does.2.1 43 = .ok (.ifCond .ne 16, 3) := by decide +kernel
theorem d11_does_46 : decode m11_does.2.1 46 = .ok (.aload_n 0, 1) := by decide +kernel
theorem d11_does_47 : decode m11_does.2.1 47 = .ok (.iload_n 2, 1) := by decide +kernel
theorem d11_does_48 : decode m11_does.2.1 48 = .ok (.iload_n 3, 1) := by decide +kernel
theorem d11_does_49 : decode m11_does.2.1 49 = .ok (.iload 4, 2) := by decide +kernel
theorem d11_does_51 : decode m11_does.2.1 51 = .ok (.iload 5, 2) := by decide +kernel
theorem d11_does_53 : decode m11_does.2.1 53 = .ok (.invokevirtual 352, 3) := by decide +kernel
theorem d11_does_56 : decode m11_does.2.1 56 = .ok (.goto 27, 3) := by decide +kernel
theorem d11_does_59 : decode m11_does.2.1 59 = .ok (.iload_n 1, 1) := by decide +kernel
theorem d11_does_60 : decode m11_does.2.1 60 = .ok (.iconst 1, 1) := by decide +kernel
theorem d11_does_61 : decode m11_does.2.1 61 = .ok (.if_icmp .ne 14, 3) := by decide +kernel
theorem d11_does_64 : decode m11_does.2.1 64 = .ok (.aload_n 0, 1) := by decide +kernel
theorem d11_does_65 : decode m11_does.2.1 65 = .ok (.iload_n 2, 1) := by decide +kernel
theorem d11_does_66 : decode m11_does.2.1 66 = .ok (.iload_n 3, 1) := by decide +kernel
theorem d11_does_67 : decode m11_does.2.1 67 = .ok (.iload 4, 2) := by decide +kernel
theorem d11_does_69 : decode m11_does.2.1 69 = .ok (.invokevirtual 355, 3) := by decide +kernel
theorem d11_does_72 : decode m11_does.2.1 72 = .ok (.goto 11, 3) := by decide +kernel
theorem d11_does_75 : decode m11_does.2.1 75 = .ok (.aload_n 0, 1) := by decide +kernel
theorem d11_does_76 : decode m11_does.2.1 76 = .ok (.iload_n 2, 1) := by decide +kernel
theorem d11_does_77 : decode m11_does.2.1 77 = .ok (.iload_n 3, 1) := by decide +kernel
theorem d11_does_78 : decode m11_does.2.1 78 = .ok (.iload 4, 2) := by decide +kernel
theorem d11_does_80 : decode m11_does.2.1 80 = .ok (.invokevirtual 358, 3) := by decide +kernel
theorem d11_does_83 : decode m11_does.2.1 83 = .ok (.ireturn, 1) := by decide +kernel
def f11_does (x1 : Int) (x2 : Int) (x3 : Int) (x4 : Int) (x5 : Int) (h : AH) : Option (Int × AH) :=
  if ¬ w32 x1 = 4 then
    if ¬ w32 x1 = 3 then
      bnd (f11_isTwo x2 x3 h) fun r1 h2 =>
      if w32 r1 = 0 then
        some (0, h2)
      else
        bnd (f11_isSubject x4 h2) fun r5 h6 =>
        if ¬ w32 r5 = 0 then
          if ¬ w32 x1 = 0 then
            if ¬ w32 x1 = 1 then
              bnd (f11_denies x2 x3 x4 h6) fun r9 h10 =>
              asrt (w32 r9 = 0 ∨ w32 r9 = 1) <|
              some (r9, h10)
            else
              bnd (f11_agrees x2 x3 x4 h6) fun r14 h15 =>
              asrt (w32 r14 = 0 ∨ w32 r14 = 1) <|
              some (r14, h15)
          else
            bnd (f11_quarrels x2 x3 x4 x5 h6) fun r19 h20 =>
            asrt (w32 r19 = 0 ∨ w32 r19 = 1) <|
            some (r19, h20)
        else
          some (0, h6)
    else
      bnd (f11_tells x2 x3 h) fun r24 h25 =>
      asrt (w32 r24 = 0 ∨ w32 r24 = 1) <|
      some (r24, h25)
  else
    bnd (f11_cools h) fun r29 h30 =>
    asrt (w32 r29 = 0 ∨ w32 r29 = 1) <|
    some (r29, h30)
set_option maxRecDepth 100000 in
theorem c11_does (l : Launch) (G : Geo) (x1 : Int) (x2 : Int) (x3 : Int) (x4 : Int) (x5 : Int) (h : AH) : Con l G m11_does rvI 5 [vA G 69, vI x1, vI x2, vI x3, vI x4, vI x5] h (f11_does x1 x2 x3 x4 x5 h) := by
  have hd : 5 ≤ 5 := Nat.le_refl _
  refine con_Z rfl (by decide) rfl rfl (Nat.le_of_ble_eq_true rfl) (L := [some (vA G 69), some (vI x1), some (vI x2), some (vI x3), some (vI x4), some (vI x5)]) ?_
  unfold f11_does
  refine den_iload_n (pc := 0) d11_does_0 rfl rfl ?_
  refine den_iconst (pc := 1) d11_does_1 ?_
  refine den_icmp_ne (pc := 2) (tgt := 10) d11_does_2 (by decide) rfl (by decide) (fun _ => ?_) (fun _ => ?_)
  · refine den_iload_n (pc := 10) d11_does_10 rfl rfl ?_
    refine den_iconst (pc := 11) d11_does_11 ?_
    refine den_icmp_ne (pc := 12) (tgt := 22) d11_does_12 (by decide) rfl (by decide) (fun _ => ?_) (fun _ => ?_)
    · refine den_aload_n (pc := 22) d11_does_22 rfl rfl ?_
      refine den_iload_n (pc := 23) d11_does_23 rfl rfl ?_
      refine den_iload_n (pc := 24) d11_does_24 rfl rfl ?_
      refine den_callVI (pc := 25) (As := [vI x2, vI x3]) fv_11_228 rfl rfl (ok_69 _) (Nat.le_of_ble_eq_true rfl) (Nat.le_trans (by decide) hd) d11_does_25 (c11_isTwo l G x2 x3 h) (fun r1 h2 m3 o4 => ?_)
      refine den_if_eq (pc := 28) (tgt := 40) d11_does_28 (by decide) rfl (fun _ => ?_) (fun _ => ?_)
      · refine den_iconst (pc := 40) d11_does_40 ?_
        exact den_zret (pc := 41) rfl (by decide) d11_does_41
      · refine den_aload_n (pc := 31) d11_does_31 rfl rfl ?_
        refine den_iload (pc := 32) d11_does_32 rfl ?_
        refine den_callVI (pc := 34) (As := [vI x4]) fv_11_207 rfl rfl (ok_69 _) (Nat.le_of_ble_eq_true rfl) (Nat.le_trans (by decide) hd) d11_does_34 (c11_isSubject l G x4 h2) (fun r5 h6 m7 o8 => ?_)
        refine den_if_ne (pc := 37) (tgt := 42) d11_does_37 (by decide) rfl (fun _ => ?_) (fun _ => ?_)
        · refine den_iload_n (pc := 42) d11_does_42 rfl rfl ?_
          refine den_if_ne (pc := 43) (tgt := 59) d11_does_43 (by decide) rfl (fun _ => ?_) (fun _ => ?_)
          · refine den_iload_n (pc := 59) d11_does_59 rfl rfl ?_
            refine den_iconst (pc := 60) d11_does_60 ?_
            refine den_icmp_ne (pc := 61) (tgt := 75) d11_does_61 (by decide) rfl (by decide) (fun _ => ?_) (fun _ => ?_)
            · refine den_aload_n (pc := 75) d11_does_75 rfl rfl ?_
              refine den_iload_n (pc := 76) d11_does_76 rfl rfl ?_
              refine den_iload_n (pc := 77) d11_does_77 rfl rfl ?_
              refine den_iload (pc := 78) d11_does_78 rfl ?_
              refine den_callVI (pc := 80) (As := [vI x2, vI x3, vI x4]) fv_11_358 rfl rfl (ok_69 _) (Nat.le_of_ble_eq_true rfl) (Nat.le_trans (by decide) hd) d11_does_80 (c11_denies l G x2 x3 x4 h6) (fun r9 h10 m11 o12 => ?_)
              refine den_asrt (fun a13 => ?_)
              exact den_zret (pc := 83) rfl a13 d11_does_83
            · refine den_aload_n (pc := 64) d11_does_64 rfl rfl ?_
              refine den_iload_n (pc := 65) d11_does_65 rfl rfl ?_
              refine den_iload_n (pc := 66) d11_does_66 rfl rfl ?_
              refine den_iload (pc := 67) d11_does_67 rfl ?_
              refine den_callVI (pc := 69) (As := [vI x2, vI x3, vI x4]) fv_11_355 rfl rfl (ok_69 _) (Nat.le_of_ble_eq_true rfl) (Nat.le_trans (by decide) hd) d11_does_69 (c11_agrees l G x2 x3 x4 h6) (fun r14 h15 m16 o17 => ?_)
              refine den_goto (pc := 72) (tgt := 83) d11_does_72 (by decide) ?_
              refine den_asrt (fun a18 => ?_)
              exact den_zret (pc := 83) rfl a18 d11_does_83
          · refine den_aload_n (pc := 46) d11_does_46 rfl rfl ?_
            refine den_iload_n (pc := 47) d11_does_47 rfl rfl ?_
            refine den_iload_n (pc := 48) d11_does_48 rfl rfl ?_
            refine den_iload (pc := 49) d11_does_49 rfl ?_
            refine den_iload (pc := 51) d11_does_51 rfl ?_
            refine den_callVI (pc := 53) (As := [vI x2, vI x3, vI x4, vI x5]) fv_11_352 rfl rfl (ok_69 _) (Nat.le_of_ble_eq_true rfl) (Nat.le_trans (by decide) hd) d11_does_53 (c11_quarrels l G x2 x3 x4 x5 h6) (fun r19 h20 m21 o22 => ?_)
            refine den_goto (pc := 56) (tgt := 83) d11_does_56 (by decide) ?_
            refine den_asrt (fun a23 => ?_)
            exact den_zret (pc := 83) rfl a23 d11_does_83
        · refine den_iconst (pc := 40) d11_does_40 ?_
          exact den_zret (pc := 41) rfl (by decide) d11_does_41
    · refine den_aload_n (pc := 15) d11_does_15 rfl rfl ?_
      refine den_iload_n (pc := 16) d11_does_16 rfl rfl ?_
      refine den_iload_n (pc := 17) d11_does_17 rfl rfl ?_
      refine den_callVI (pc := 18) (As := [vI x2, vI x3]) fv_11_349 rfl rfl (ok_69 _) (Nat.le_of_ble_eq_true rfl) (Nat.le_trans (by decide) hd) d11_does_18 (c11_tells l G x2 x3 h) (fun r24 h25 m26 o27 => ?_)
      refine den_asrt (fun a28 => ?_)
      exact den_zret (pc := 21) rfl a28 d11_does_21
  · refine den_aload_n (pc := 5) d11_does_5 rfl rfl ?_
    refine den_callVI (pc := 6) (As := []) fv_11_346 rfl rfl (ok_69 _) (Nat.le_of_ble_eq_true rfl) (Nat.le_trans (by decide) hd) d11_does_6 (c11_cools l G h) (fun r29 h30 m31 o32 => ?_)
    refine den_asrt (fun a33 => ?_)
    exact den_zret (pc := 9) rfl a33 d11_does_9
theorem d11_doesTold_0 : decode m11_doesTold.2.1 0 = .ok (.aload_n 0, 1) := by decide +kernel
theorem d11_doesTold_1 : decode m11_doesTold.2.1 1 = .ok (.getfield 322, 3) := by decide +kernel
theorem d11_doesTold_4 : decode m11_doesTold.2.1 4 = .ok (.iconst 1, 1) := by decide +kernel
theorem d11_doesTold_5 : decode m11_doesTold.2.1 5 = .ok (.iadd, 1) := by decide +kernel
theorem d11_doesTold_6 : decode m11_doesTold.2.1 6 = .ok (.iconst 5, 1) := by decide +kernel
theorem d11_doesTold_7 : decode m11_doesTold.2.1 7 = .ok (.iload_n 1, 1) := by decide +kernel
theorem d11_doesTold_8 : decode m11_doesTold.2.1 8 = .ok (.imul, 1) := by decide +kernel
theorem d11_doesTold_9 : decode m11_doesTold.2.1 9 = .ok (.iadd, 1) := by decide +kernel
theorem d11_doesTold_10 : decode m11_doesTold.2.1 10 = .ok (.istore_n 2, 1) := by decide +kernel
theorem d11_doesTold_11 : decode m11_doesTold.2.1 11 = .ok (.aload_n 0, 1) := by decide +kernel
theorem d11_doesTold_12 : decode m11_doesTold.2.1 12 = .ok (.aload_n 0, 1) := by decide +kernel
theorem d11_doesTold_13 : decode m11_doesTold.2.1 13 = .ok (.getfield 7, 3) := by decide +kernel
theorem d11_doesTold_16 : decode m11_doesTold.2.1 16 = .ok (.iload_n 2, 1) := by decide +kernel
theorem d11_doesTold_17 : decode m11_doesTold.2.1 17 = .ok (.iaload, 1) := by decide +kernel
theorem d11_doesTold_18 : decode m11_doesTold.2.1 18 = .ok (.aload_n 0, 1) := by decide +kernel
theorem d11_doesTold_19 : decode m11_doesTold.2.1 19 = .ok (.getfield 7, 3) := by decide +kernel
theorem d11_doesTold_22 : decode m11_doesTold.2.1 22 = .ok (.iload_n 2, 1) := by decide +kernel
theorem d11_doesTold_23 : decode m11_doesTold.2.1 23 = .ok (.iconst 1, 1) := by decide +kernel
theorem d11_doesTold_24 : decode m11_doesTold.2.1 24 = .ok (.iadd, 1) := by decide +kernel
theorem d11_doesTold_25 : decode m11_doesTold.2.1 25 = .ok (.iaload, 1) := by decide +kernel
theorem d11_doesTold_26 : decode m11_doesTold.2.1 26 = .ok (.aload_n 0, 1) := by decide +kernel
theorem d11_doesTold_27 : decode m11_doesTold.2.1 27 = .ok (.getfield 7, 3) := by decide +kernel
theorem d11_doesTold_30 : decode m11_doesTold.2.1 30 = .ok (.iload_n 2, 1) := by decide +kernel
theorem d11_doesTold_31 : decode m11_doesTold.2.1 31 = .ok (.iconst 2, 1) := by decide +kernel
theorem d11_doesTold_32 : decode m11_doesTold.2.1 32 = .ok (.iadd, 1) := by decide +kernel
theorem d11_doesTold_33 : decode m11_doesTold.2.1 33 = .ok (.iaload, 1) := by decide +kernel
theorem d11_doesTold_34 : decode m11_doesTold.2.1 34 = .ok (.aload_n 0, 1) := by decide +kernel
theorem d11_doesTold_35 : decode m11_doesTold.2.1 35 = .ok (.getfield 7, 3) := by decide +kernel
theorem d11_doesTold_38 : decode m11_doesTold.2.1 38 = .ok (.iload_n 2, 1) := by decide +kernel
theorem d11_doesTold_39 : decode m11_doesTold.2.1 39 = .ok (.iconst 3, 1) := by decide +kernel
theorem d11_doesTold_40 : decode m11_doesTold.2.1 40 = .ok (.iadd, 1) := by decide +kernel
theorem d11_doesTold_41 : decode m11_doesTold.2.1 41 = .ok (.iaload, 1) := by decide +kernel
theorem d11_doesTold_42 : decode m11_doesTold.2.1 42 = .ok (.aload_n 0, 1) := by decide +kernel
theorem d11_doesTold_43 : decode m11_doesTold.2.1 43 = .ok (.getfield 7, 3) := by decide +kernel
theorem d11_doesTold_46 : decode m11_doesTold.2.1 46 = .ok (.iload_n 2, 1) := by decide +kernel
theorem d11_doesTold_47 : decode m11_doesTold.2.1 47 = .ok (.iconst 4, 1) := by decide +kernel
theorem d11_doesTold_48 : decode m11_doesTold.2.1 48 = .ok (.iadd, 1) := by decide +kernel
theorem d11_doesTold_49 : decode m11_doesTold.2.1 49 = .ok (.iaload, 1) := by decide +kernel
theorem d11_doesTold_50 : decode m11_doesTold.2.1 50 = .ok (.invokevirtual 361, 3) := by decide +kernel
theorem d11_doesTold_53 : decode m11_doesTold.2.1 53 = .ok (.ireturn, 1) := by decide +kernel
def f11_doesTold (x1 : Int) (h : AH) : Option (Int × AH) :=
  lt (((h.2 69 31) + 1) + (5 * x1)) fun u1 =>
  asrt (0 ≤ w32 u1 ∧ w32 u1 < 4824) <|
  asrt (0 ≤ w32 (u1 + 1) ∧ w32 (u1 + 1) < 4824) <|
  asrt (0 ≤ w32 (u1 + 2) ∧ w32 (u1 + 2) < 4824) <|
  asrt (0 ≤ w32 (u1 + 3) ∧ w32 (u1 + 3) < 4824) <|
  asrt (0 ≤ w32 (u1 + 4) ∧ w32 (u1 + 4) < 4824) <|
  bnd (f11_does (h.2 70 (w32 u1).toNat) (h.2 70 (w32 (u1 + 1)).toNat) (h.2 70 (w32 (u1 + 2)).toNat) (h.2 70 (w32 (u1 + 3)).toNat) (h.2 70 (w32 (u1 + 4)).toNat) h) fun r7 h8 =>
  asrt (w32 r7 = 0 ∨ w32 r7 = 1) <|
  some (r7, h8)
set_option maxRecDepth 100000 in
theorem c11_doesTold (l : Launch) (G : Geo) (x1 : Int) (h : AH) : Con l G m11_doesTold rvI 6 [vA G 69, vI x1] h (f11_doesTold x1 h) := by
  have hd : 6 ≤ 6 := Nat.le_refl _
  refine con_Z rfl (by decide) rfl rfl (Nat.le_of_ble_eq_true rfl) (L := [some (vA G 69), some (vI x1), none]) ?_
  unfold f11_doesTold
  refine den_aload_n (pc := 0) d11_doesTold_0 rfl rfl ?_
  refine den_getI (pc := 1) fa_11_322 (ok_69 _) d11_doesTold_1 ?_
  refine den_iconst (pc := 4) d11_doesTold_4 ?_
  refine den_iadd (pc := 5) d11_doesTold_5 ?_
  refine den_iconst (pc := 6) d11_doesTold_6 ?_
  refine den_iload_n (pc := 7) d11_doesTold_7 rfl rfl ?_
  refine den_imul (pc := 8) d11_doesTold_8 ?_
  refine den_iadd (pc := 9) d11_doesTold_9 ?_
  refine den_istore_nL (pc := 10) (L2 := fun y => [some (vA G 69), some (vI x1), some (vI y)]) d11_doesTold_10 rfl (by decide) (fun _ => rfl) (fun u1 => ?_)
  refine den_aload_n (pc := 11) d11_doesTold_11 rfl rfl ?_
  refine den_aload_n (pc := 12) d11_doesTold_12 rfl rfl ?_
  refine den_getR (pc := 13) (b := 70) fa_11_7 (ok_69 _) rfl d11_doesTold_13 ?_
  refine den_iload_n (pc := 16) d11_doesTold_16 rfl rfl ?_
  refine den_asrt (fun a2 => ?_)
  refine den_iaload (pc := 17) sh_70 (sz_lt (by decide)) rfl a2 d11_doesTold_17 ?_
  refine den_aload_n (pc := 18) d11_doesTold_18 rfl rfl ?_
  refine den_getR (pc := 19) (b := 70) fa_11_7 (ok_69 _) rfl d11_doesTold_19 ?_
  refine den_iload_n (pc := 22) d11_doesTold_22 rfl rfl ?_
  refine den_iconst (pc := 23) d11_doesTold_23 ?_
  refine den_iadd (pc := 24) d11_doesTold_24 ?_
  refine den_asrt (fun a3 => ?_)
  refine den_iaload (pc := 25) sh_70 (sz_lt (by decide)) rfl a3 d11_doesTold_25 ?_
  refine den_aload_n (pc := 26) d11_doesTold_26 rfl rfl ?_
  refine den_getR (pc := 27) (b := 70) fa_11_7 (ok_69 _) rfl d11_doesTold_27 ?_
  refine den_iload_n (pc := 30) d11_doesTold_30 rfl rfl ?_
  refine den_iconst (pc := 31) d11_doesTold_31 ?_
  refine den_iadd (pc := 32) d11_doesTold_32 ?_
  refine den_asrt (fun a4 => ?_)
  refine den_iaload (pc := 33) sh_70 (sz_lt (by decide)) rfl a4 d11_doesTold_33 ?_
  refine den_aload_n (pc := 34) d11_doesTold_34 rfl rfl ?_
  refine den_getR (pc := 35) (b := 70) fa_11_7 (ok_69 _) rfl d11_doesTold_35 ?_
  refine den_iload_n (pc := 38) d11_doesTold_38 rfl rfl ?_
  refine den_iconst (pc := 39) d11_doesTold_39 ?_
  refine den_iadd (pc := 40) d11_doesTold_40 ?_
  refine den_asrt (fun a5 => ?_)
  refine den_iaload (pc := 41) sh_70 (sz_lt (by decide)) rfl a5 d11_doesTold_41 ?_
  refine den_aload_n (pc := 42) d11_doesTold_42 rfl rfl ?_
  refine den_getR (pc := 43) (b := 70) fa_11_7 (ok_69 _) rfl d11_doesTold_43 ?_
  refine den_iload_n (pc := 46) d11_doesTold_46 rfl rfl ?_
  refine den_iconst (pc := 47) d11_doesTold_47 ?_
  refine den_iadd (pc := 48) d11_doesTold_48 ?_
  refine den_asrt (fun a6 => ?_)
  refine den_iaload (pc := 49) sh_70 (sz_lt (by decide)) rfl a6 d11_doesTold_49 ?_
  refine den_callVI (pc := 50) (As := [vI (h.2 70 (w32 u1).toNat), vI (h.2 70 (w32 (u1 + 1)).toNat), vI (h.2 70 (w32 (u1 + 2)).toNat), vI (h.2 70 (w32 (u1 + 3)).toNat), vI (h.2 70 (w32 (u1 + 4)).toNat)]) fv_11_361 rfl rfl (ok_69 _) (Nat.le_of_ble_eq_true rfl) (Nat.le_trans (by decide) hd) d11_doesTold_50 (c11_does l G (h.2 70 (w32 u1).toNat) (h.2 70 (w32 (u1 + 1)).toNat) (h.2 70 (w32 (u1 + 2)).toNat) (h.2 70 (w32 (u1 + 3)).toNat) (h.2 70 (w32 (u1 + 4)).toNat) h) (fun r7 h8 m9 o10 => ?_)
  refine den_asrt (fun a11 => ?_)
  exact den_zret (pc := 53) rfl a11 d11_doesTold_53
theorem d11_runs_0 : decode m11_runs.2.1 0 = .ok (.aload_n 0, 1) := by decide +kernel
theorem d11_runs_1 : decode m11_runs.2.1 1 = .ok (.invokevirtual 365, 3) := by decide +kernel
theorem d11_runs_4 : decode m11_runs.2.1 4 = .ok (.aload_n 0, 1) := by decide +kernel
theorem d11_runs_5 : decode m11_runs.2.1 5 = .ok (.getfield 340, 3) := by decide +kernel
theorem d11_runs_8 : decode m11_runs.2.1 8 = .ok (.iload_n 1, 1) := by decide +kernel
theorem d11_runs_9 : decode m11_runs.2.1 9 = .ok (.if_icmp .ge 43, 3) := by decide +kernel
theorem d11_runs_12 : decode m11_runs.2.1 12 = .ok (.aload_n 0, 1) := by decide +kernel
theorem d11_runs_13 : decode m11_runs.2.1 13 = .ok (.getfield 340, 3) := by decide +kernel
theorem d11_runs_16 : decode m11_runs.2.1 16 = .ok (.aload_n 0, 1) := by decide +kernel
theorem d11_runs_17 : decode m11_runs.2.1 17 = .ok (.getfield 7, 3) := by decide +kernel
theorem d11_runs_20 : decode m11_runs.2.1 20 = .ok (.aload_n 0, 1) := by decide +kernel
theorem d11_runs_21 : decode m11_runs.2.1 21 = .ok (.getfield 322, 3) := by decide +kernel
theorem d11_runs_24 : decode m11_runs.2.1 24 = .ok (.iaload, 1) := by decide +kernel
theorem d11_runs_25 : decode m11_runs.2.1 25 = .ok (.if_icmp .ge 27, 3) := by decide +kernel
theorem d11_runs_28 : decode m11_runs.2.1 28 = .ok (.aload_n 0, 1) := by decide +kernel
theorem d11_runs_29 : decode m11_runs.2.1 29 = .ok (.aload_n 0, 1) := by decide +kernel
theorem d11_runs_30 : decode m11_runs.2.1 30 = .ok (.getfield 340, 3) := by decide +kernel
theorem d11_runs_33 : decode m11_runs.2.1 33 = .ok (.invokevirtual 368, 3) := by decide +kernel
theorem d11_runs_36 : decode m11_runs.2.1 36 = .ok (.ifCond .eq 16, 3) := by decide +kernel
theorem d11_runs_39 : decode m11_runs.2.1 39 = .ok (.aload_n 0, 1) := by decide +kernel
theorem d11_runs_40 : decode m11_runs.2.1 40 = .ok (.dup, 1) := by decide +kernel
theorem d11_runs_41 : decode m11_runs.2.1 41 = .ok (.getfield 340, 3) := by decide +kernel
theorem d11_runs_44 : decode m11_runs.2.1 44 = .ok (.iconst 1, 1) := by decide +kernel
theorem d11_runs_45 : decode m11_runs.2.1 45 = .ok (.iadd, 1) := by decide +kernel
theorem d11_runs_46 : decode m11_runs.2.1 46 = .ok (.putfield 340, 3) := by decide +kernel
theorem d11_runs_49 : decode m11_runs.2.1 49 = .ok (.goto (-45), 3) := by decide +kernel
theorem d11_runs_52 : decode m11_runs.2.1 52 = .ok (.return_, 1) := by decide +kernel
def b11_runs_4 (rec4 : AH → Option (Int × AH)) (x1 : Int) (h : AH) : Option (Int × AH) :=
  if w32 x1 ≤ w32 (h.2 69 36) then
    some (0, h)
  else
    asrt (0 ≤ w32 (h.2 69 31) ∧ w32 (h.2 69 31) < 4824) <|
    if w32 (h.2 70 (w32 (h.2 69 31)).toNat) ≤ w32 (h.2 69 36) then
      some (0, h)
    else
      bnd (f11_doesTold (h.2 69 36) h) fun r2 h3 =>
      if w32 r2 = 0 then
        some (0, h3)
      else
        lt (wr h3 69 36 ((h3.2 69 36) + 1)) fun h6 =>
        rec4 h6
set_option maxRecDepth 100000 in
theorem t11_runs_4 (l : Launch) (G : Geo) (d : Nat) (hd : 7 ≤ d) (x1 : Int) (rec4 : AH → Option (Int × AH)) (H4 : ∀ (h : AH), Den l G m11_runs rvV d 4 [some (vA G 69), some (vI x1)] [] h (rec4 h)) (h : AH) : Den l G m11_runs rvV d 4 [some (vA G 69), some (vI x1)] [] h (b11_runs_4 rec4 x1 h) := by
  unfold b11_runs_4
  refine den_aload_n (pc := 4) d11_runs_4 rfl rfl ?_
  refine den_getI (pc := 5) fa_11_340 (ok_69 _) d11_runs_5 ?_
  refine den_iload_n (pc := 8) d11_runs_8 rfl rfl ?_
  refine den_icmp_ge (pc := 9) (tgt := 52) d11_runs_9 (by decide) rfl rfl (fun _ => ?_) (fun _ => ?_)
  · exact den_vret (pc := 52) rfl d11_runs_52
  · refine den_aload_n (pc := 12) d11_runs_12 rfl rfl ?_
    refine den_getI (pc := 13) fa_11_340 (ok_69 _) d11_runs_13 ?_
    refine den_aload_n (pc := 16) d11_runs_16 rfl rfl ?_
    refine den_getR (pc := 17) (b := 70) fa_11_7 (ok_69 _) rfl d11_runs_17 ?_
    refine den_aload_n (pc := 20) d11_runs_20 rfl rfl ?_
    refine den_getI (pc := 21) fa_11_322 (ok_69 _) d11_runs_21 ?_
    refine den_asrt (fun a1 => ?_)
    refine den_iaload (pc := 24) sh_70 (sz_lt (by decide)) rfl a1 d11_runs_24 ?_
    refine den_icmp_ge (pc := 25) (tgt := 52) d11_runs_25 (by decide) rfl rfl (fun _ => ?_) (fun _ => ?_)
    · exact den_vret (pc := 52) rfl d11_runs_52
    · refine den_aload_n (pc := 28) d11_runs_28 rfl rfl ?_
      refine den_aload_n (pc := 29) d11_runs_29 rfl rfl ?_
      refine den_getI (pc := 30) fa_11_340 (ok_69 _) d11_runs_30 ?_
      refine den_callVI (pc := 33) (As := [vI (h.2 69 36)]) fv_11_368 rfl rfl (ok_69 _) (Nat.le_of_ble_eq_true rfl) (Nat.le_trans (by decide) hd) d11_runs_33 (c11_doesTold l G (h.2 69 36) h) (fun r2 h3 m4 o5 => ?_)
      refine den_if_eq (pc := 36) (tgt := 52) d11_runs_36 (by decide) rfl (fun _ => ?_) (fun _ => ?_)
      · exact den_vret (pc := 52) rfl d11_runs_52
      · refine den_aload_n (pc := 39) d11_runs_39 rfl rfl ?_
        refine den_dup (pc := 40) d11_runs_40 rfl ?_
        refine den_getI (pc := 41) fa_11_340 (ok_69 _) d11_runs_41 ?_
        refine den_iconst (pc := 44) d11_runs_44 ?_
        refine den_iadd (pc := 45) d11_runs_45 ?_
        refine den_putI (pc := 46) fp_11_340 (ok_69 _) d11_runs_46 ?_
        refine den_ltH (fun h6 m7 => ?_)
        refine den_goto (pc := 49) (tgt := 4) d11_runs_49 (by decide) ?_
        exact H4 h6
def l11_runs_4 (x1 : Int) (h : AH) : Option (Int × AH) := fx (fun rec z => b11_runs_4 rec x1 z) FU h
set_option maxRecDepth 100000 in
theorem tl11_runs_4 (l : Launch) (G : Geo) (d : Nat) (hd : 7 ≤ d) (x1 : Int) : ∀ (n : Nat) (z : AH), True → Den l G m11_runs rvV d 4 [some (vA G 69), some (vI x1)] [] z (fx (fun rec z => b11_runs_4 rec x1 z) n z) :=
  den_fx (F := fun rec z => b11_runs_4 rec x1 z) (P := fun z => True) (fL := fun z => [some (vA G 69), some (vI x1)]) (fs := fun z => []) (fh := fun z => z) (fun rec hrec z hz => t11_runs_4 l G d hd x1  rec (fun h => hrec h trivial) z )
def f11_runs (x1 : Int) (h : AH) : Option (Int × AH) :=
  bnd (f11_begins h) fun r8 h9 =>
  l11_runs_4 x1 h9
set_option maxRecDepth 100000 in
theorem c11_runs (l : Launch) (G : Geo) (x1 : Int) (h : AH) : Con l G m11_runs rvV 7 [vA G 69, vI x1] h (f11_runs x1 h) := by
  have hd : 7 ≤ 7 := Nat.le_refl _
  refine con_V rfl (by decide) rfl rfl (Nat.le_of_ble_eq_true rfl) (L := [some (vA G 69), some (vI x1)]) ?_
  unfold f11_runs
  refine den_aload_n (pc := 0) d11_runs_0 rfl rfl ?_
  refine den_callVV (pc := 1) (As := []) fv_11_365 rfl rfl (ok_69 _) (Nat.le_of_ble_eq_true rfl) (Nat.le_trans (by decide) hd) d11_runs_1 (c11_begins l G h) (fun r8 h9 m10 o11 => ?_)
  exact tl11_runs_4 l G _ hd x1 FU h9 trivial
theorem d11_stop_0 : decode m11_stop.2.1 0 = .ok (.aload_n 0, 1) := by decide +kernel
theorem d11_stop_1 : decode m11_stop.2.1 1 = .ok (.iload_n 1, 1) := by decide +kernel
theorem d11_stop_2 : decode m11_stop.2.1 2 = .ok (.invokevirtual 201, 3) := by decide +kernel
theorem d11_stop_5 : decode m11_stop.2.1 5 = .ok (.ifCond .eq 11, 3) := by decide +kernel
theorem d11_stop_8 : decode m11_stop.2.1 8 = .ok (.aload_n 0, 1) := by decide +kernel
theorem d11_stop_9 : decode m11_stop.2.1 9 = .ok (.iload_n 2, 1) := by decide +kernel
theorem d11_stop_10 : decode m11_stop.2.1 10 = .ok (.invokevirtual 325, 3) := by decide +kernel
theorem d11_stop_13 : decode m11_stop.2.1 13 = .ok (.ifCond .ne 5, 3) := by decide +kernel
theorem d11_stop_16 : decode m11_stop.2.1 16 = .ok (.iconst (-1), 1) := by decide +kernel
theorem d11_stop_17 : decode m11_stop.2.1 17 = .ok (.ireturn, 1) := by decide +kernel
theorem d11_stop_18 : decode m11_stop.2.1 18 = .ok (.aload_n 0, 1) := by decide +kernel
theorem d11_stop_19 : decode m11_stop.2.1 19 = .ok (.bipush 40, 2) := by decide +kernel
theorem d11_stop_21 : decode m11_stop.2.1 21 = .ok (.invokevirtual 371, 3) := by decide +kernel
theorem d11_stop_24 : decode m11_stop.2.1 24 = .ok (.aload_n 0, 1) := by decide +kernel
theorem d11_stop_25 : decode m11_stop.2.1 25 = .ok (.getfield 340, 3) := by decide +kernel
theorem d11_stop_28 : decode m11_stop.2.1 28 = .ok (.ireturn, 1) := by decide +kernel
def f11_stop (x1 : Int) (x2 : Int) (h : AH) : Option (Int × AH) :=
  bnd (f11_isVillage x1 h) fun r1 h2 =>
  if w32 r1 = 0 then
    some ((-1), h2)
  else
    bnd (f11_isDay x2 h2) fun r5 h6 =>
    if ¬ w32 r5 = 0 then
      bnd (f11_runs 40 h6) fun r9 h10 =>
      some (h10.2 69 36, h10)
    else
      some ((-1), h6)
set_option maxRecDepth 100000 in
theorem c11_stop (l : Launch) (G : Geo) (x1 : Int) (x2 : Int) (h : AH) : Con l G m11_stop rvI 8 [vA G 69, vI x1, vI x2] h (f11_stop x1 x2 h) := by
  have hd : 8 ≤ 8 := Nat.le_refl _
  refine con_I rfl (by decide) rfl rfl (Nat.le_of_ble_eq_true rfl) (L := [some (vA G 69), some (vI x1), some (vI x2)]) ?_
  unfold f11_stop
  refine den_aload_n (pc := 0) d11_stop_0 rfl rfl ?_
  refine den_iload_n (pc := 1) d11_stop_1 rfl rfl ?_
  refine den_callVI (pc := 2) (As := [vI x1]) fv_11_201 rfl rfl (ok_69 _) (Nat.le_of_ble_eq_true rfl) (Nat.le_trans (by decide) hd) d11_stop_2 (c11_isVillage l G x1 h) (fun r1 h2 m3 o4 => ?_)
  refine den_if_eq (pc := 5) (tgt := 16) d11_stop_5 (by decide) rfl (fun _ => ?_) (fun _ => ?_)
  · refine den_iconst (pc := 16) d11_stop_16 ?_
    exact den_iret (pc := 17) rfl d11_stop_17
  · refine den_aload_n (pc := 8) d11_stop_8 rfl rfl ?_
    refine den_iload_n (pc := 9) d11_stop_9 rfl rfl ?_
    refine den_callVI (pc := 10) (As := [vI x2]) fv_11_325 rfl rfl (ok_69 _) (Nat.le_of_ble_eq_true rfl) (Nat.le_trans (by decide) hd) d11_stop_10 (c11_isDay l G x2 h2) (fun r5 h6 m7 o8 => ?_)
    refine den_if_ne (pc := 13) (tgt := 18) d11_stop_13 (by decide) rfl (fun _ => ?_) (fun _ => ?_)
    · refine den_aload_n (pc := 18) d11_stop_18 rfl rfl ?_
      refine den_bipush (pc := 19) d11_stop_19 (by decide) ?_
      refine den_callVV (pc := 21) (As := [vI 40]) fv_11_371 rfl rfl (ok_69 _) (Nat.le_of_ble_eq_true rfl) (Nat.le_trans (by decide) hd) d11_stop_21 (c11_runs l G 40 h6) (fun r9 h10 m11 o12 => ?_)
      refine den_aload_n (pc := 24) d11_stop_24 rfl rfl ?_
      refine den_getI (pc := 25) fa_11_340 (ok_69 _) d11_stop_25 ?_
      exact den_iret (pc := 28) rfl d11_stop_28
    · refine den_iconst (pc := 16) d11_stop_16 ?_
      exact den_iret (pc := 17) rfl d11_stop_17
theorem d11_nowOf_0 : decode m11_nowOf.2.1 0 = .ok (.iload_n 1, 1) := by decide +kernel
theorem d11_nowOf_1 : decode m11_nowOf.2.1 1 = .ok (.bipush 10, 2) := by decide +kernel
theorem d11_nowOf_3 : decode m11_nowOf.2.1 3 = .ok (.irem, 1) := by decide +kernel
theorem d11_nowOf_4 : decode m11_nowOf.2.1 4 = .ok (.istore_n 2, 1) := by decide +kernel
theorem d11_nowOf_5 : decode m11_nowOf.2.1 5 = .ok (.iload_n 1, 1) := by decide +kernel
theorem d11_nowOf_6 : decode m11_nowOf.2.1 6 = .ok (.tableswitch 50 0 3 #[30, 35, 40, 45], 30) := by decide +kernel
theorem d11_nowOf_36 : decode m11_nowOf.2.1 36 = .ok (.aload_n 0, 1) := by decide +kernel
theorem d11_nowOf_37 : decode m11_nowOf.2.1 37 = .ok (.getfield 328, 3) := by decide +kernel
theorem d11_nowOf_40 : decode m11_nowOf.2.1 40 = .ok (.ireturn, 1) := by decide +kernel
theorem d11_nowOf_41 : decode m11_nowOf.2.1 41 = .ok (.aload_n 0, 1) := by decide +kernel
theorem d11_nowOf_42 : decode m11_nowOf.2.1 42 = .ok (.getfield 331, 3) := by decide +kernel
theorem d11_nowOf_45 : decode m11_nowOf.2.1 45 = .ok (.ireturn, 1) := by decide +kernel
theorem d11_nowOf_46 : decode m11_nowOf.2.1 46 = .ok (.aload_n 0, 1) := by decide +kernel
theorem d11_nowOf_47 : decode m11_nowOf.2.1 47 = .ok (.getfield 334, 3) := by decide +kernel
theorem d11_nowOf_50 : decode m11_nowOf.2.1 50 = .ok (.ireturn, 1) := by decide +kernel
theorem d11_nowOf_51 : decode m11_nowOf.2.1 51 = .ok (.aload_n 0, 1) := by decide +kernel
theorem d11_nowOf_52 : decode m11_nowOf.2.1 52 = .ok (.getfield 337, 3) := by decide +kernel
theorem d11_nowOf_55 : decode m11_nowOf.2.1 55 = .ok (.ireturn, 1) := by decide +kernel
theorem d11_nowOf_56 : decode m11_nowOf.2.1 56 = .ok (.iload_n 1, 1) := by decide +kernel
theorem d11_nowOf_57 : decode m11_nowOf.2.1 57 = .ok (.bipush 100, 2) := by decide +kernel
theorem d11_nowOf_59 : decode m11_nowOf.2.1 59 = .ok (.if_icmp .lt 48, 3) := by decide +kernel
theorem d11_nowOf_62 : decode m11_nowOf.2.1 62 = .ok (.aload_n 0, 1) := by decide +kernel
theorem d11_nowOf_63 : decode m11_nowOf.2.1 63 = .ok (.iload_n 1, 1) := by decide +kernel
theorem d11_nowOf_64 : decode m11_nowOf.2.1 64 = .ok (.bipush 100, 2) := by decide +kernel
theorem d11_nowOf_66 : decode m11_nowOf.2.1 66 = .ok (.isub, 1) := by decide +kernel
theorem d11_nowOf_67 : decode m11_nowOf.2.1 67 = .ok (.bipush 10, 2) := by decide +kernel
theorem d11_nowOf_69 : decode m11_nowOf.2.1 69 = .ok (.idiv, 1) := by decide +kernel
theorem d11_nowOf_70 : decode m11_nowOf.2.1 70 = .ok (.invokevirtual 204, 3) := by decide +kernel
theorem d11_nowOf_73 : decode m11_nowOf.2.1 73 = .ok (.ifCond .eq 31, 3) := by decide +kernel
theorem d11_nowOf_76 : decode m11_nowOf.2.1 76 = .ok (.aload_n 0, 1) := by decide +kernel
theorem d11_nowOf_77 : decode m11_nowOf.2.1 77 = .ok (.iload_n 2, 1) := by decide +kernel
theorem d11_nowOf_78 : decode m11_nowOf.2.1 78 = .ok (.invokevirtual 207, 3) := by decide +kernel
theorem d11_nowOf_81 : decode m11_nowOf.2.1 81 = .ok (.ifCond .eq 23, 3) := by decide +kernel
theorem d11_nowOf_84 : decode m11_nowOf.2.1 84 = .ok (.aload_n 0, 1) := by decide +kernel
theorem d11_nowOf_85 : decode m11_nowOf.2.1 85 = .ok (.getfield 71, 3) := by decide +kernel
theorem d11_nowOf_88 : decode m11_nowOf.2.1 88 = .ok (.bipush 6, 2) := by decide +kernel
theorem d11_nowOf_90 : decode m11_nowOf.2.1 90 = .ok (.iload_n 1, 1) := by decide +kernel
theorem d11_nowOf_91 : decode m11_nowOf.2.1 91 = .ok (.bipush 100, 2) := by decide +kernel
theorem d11_nowOf_93 : decode m11_nowOf.2.1 93 = .ok (.isub, 1) := by decide +kernel
theorem d11_nowOf_94 : decode m11_nowOf.2.1 94 = .ok (.bipush 10, 2) := by decide +kernel
theorem d11_nowOf_96 : decode m11_nowOf.2.1 96 = .ok (.idiv, 1) := by decide +kernel
theorem d11_nowOf_97 : decode m11_nowOf.2.1 97 = .ok (.imul, 1) := by decide +kernel
theorem d11_nowOf_98 : decode m11_nowOf.2.1 98 = .ok (.iload_n 2, 1) := by decide +kernel
theorem d11_nowOf_99 : decode m11_nowOf.2.1 99 = .ok (.iadd, 1) := by decide +kernel
theorem d11_nowOf_100 : decode m11_nowOf.2.1 100 = .ok (.iaload, 1) := by decide +kernel
theorem d11_nowOf_101 : decode m11_nowOf.2.1 101 = .ok (.goto 5, 3) := by decide +kernel
theorem d11_nowOf_104 : decode m11_nowOf.2.1 104 = .ok (.bipush (-2), 2) := by decide +kernel
theorem d11_nowOf_106 : decode m11_nowOf.2.1 106 = .ok (.ireturn, 1) := by decide +kernel
theorem d11_nowOf_107 : decode m11_nowOf.2.1 107 = .ok (.iload_n 1, 1) := by decide +kernel
theorem d11_nowOf_108 : decode m11_nowOf.2.1 108 = .ok (.bipush 10, 2) := by decide +kernel
theorem d11_nowOf_110 : decode m11_nowOf.2.1 110 = .ok (.bipush 19, 2) := by decide +kernel
theorem d11_nowOf_112 : decode m11_nowOf.2.1 112 = .ok (.invokestatic 135, 3) := by decide +kernel
theorem d11_nowOf_115 : decode m11_nowOf.2.1 115 = .ok (.ifCond .eq 23, 3) := by decide +kernel
theorem d11_nowOf_118 : decode m11_nowOf.2.1 118 = .ok (.iload_n 2, 1) := by decide +kernel
theorem d11_nowOf_119 : decode m11_nowOf.2.1 119 = .ok (.aload_n 0, 1) := by decide +kernel
theorem d11_nowOf_120 : decode m11_nowOf.2.1 120 = .ok (.getfield 198, 3) := by decide +kernel
theorem d11_nowOf_123 : decode m11_nowOf.2.1 123 = .ok (.if_icmp .ge 12, 3) := by decide +kernel
theorem d11_nowOf_126 : decode m11_nowOf.2.1 126 = .ok (.aload_n 0, 1) := by decide +kernel
theorem d11_nowOf_127 : decode m11_nowOf.2.1 127 = .ok (.getfield 65, 3) := by decide +kernel
theorem d11_nowOf_130 : decode m11_nowOf.2.1 130 = .ok (.iload_n 2, 1) := by decide +kernel
theorem d11_nowOf_131 : decode m11_nowOf.2.1 131 = .ok (.iaload, 1) := by decide +kernel
theorem d11_nowOf_132 : decode m11_nowOf.2.1 132 = .ok (.goto 5, 3) := by decide +kernel
theorem d11_nowOf_135 : decode m11_nowOf.2.1 135 = .ok (.bipush (-2), 2) := by decide +kernel
theorem d11_nowOf_137 : decode m11_nowOf.2.1 137 = .ok (.ireturn, 1) := by decide +kernel
theorem d11_nowOf_138 : decode m11_nowOf.2.1 138 = .ok (.iload_n 1, 1) := by decide +kernel
theorem d11_nowOf_139 : decode m11_nowOf.2.1 139 = .ok (.bipush 20, 2) := by decide +kernel
theorem d11_nowOf_141 : decode m11_nowOf.2.1 141 = .ok (.bipush 29, 2) := by decide +kernel
theorem d11_nowOf_143 : decode m11_nowOf.2.1 143 = .ok (.invokestatic 135, 3) := by decide +kernel
theorem d11_nowOf_146 : decode m11_nowOf.2.1 146 = .ok (.ifCond .eq 20, 3) := by decide +kernel
theorem d11_nowOf_149 : decode m11_nowOf.2.1 149 = .ok (.aload_n 0, 1) := by decide +kernel
theorem d11_nowOf_150 : decode m11_nowOf.2.1 150 = .ok (.iload_n 2, 1) := by decide +kernel
theorem d11_nowOf_151 : decode m11_nowOf.2.1 151 = .ok (.invokevirtual 207, 3) := by decide +kernel
theorem d11_nowOf_154 : decode m11_nowOf.2.1 154 = .ok (.ifCond .eq 12, 3) := by decide +kernel
theorem d11_nowOf_157 : decode m11_nowOf.2.1 157 = .ok (.aload_n 0, 1) := by decide +kernel
theorem d11_nowOf_158 : decode m11_nowOf.2.1 158 = .ok (.getfield 68, 3) := by decide +kernel
theorem d11_nowOf_161 : decode m11_nowOf.2.1 161 = .ok (.iload_n 2, 1) := by decide +kernel
theorem d11_nowOf_162 : decode m11_nowOf.2.1 162 = .ok (.iaload, 1) := by decide +kernel
theorem d11_nowOf_163 : decode m11_nowOf.2.1 163 = .ok (.goto 5, 3) := by decide +kernel
theorem d11_nowOf_166 : decode m11_nowOf.2.1 166 = .ok (.bipush (-2), 2) := by decide +kernel
theorem d11_nowOf_168 : decode m11_nowOf.2.1 168 = .ok (.ireturn, 1) := by decide +kernel
def f11_nowOf (x1 : Int) (h : AH) : Option (Int × AH) :=
  lt (rm32 x1 10) fun u1 =>
  if w32 x1 = 0 then
    some (h.2 69 32, h)
  else
  if w32 x1 = 1 then
    some (h.2 69 33, h)
  else
  if w32 x1 = 2 then
    some (h.2 69 34, h)
  else
  if w32 x1 = 3 then
    some (h.2 69 35, h)
  else
  if w32 x1 < 100 then
    bnd (f11_isIn x1 10 19 h) fun r6 h7 =>
    if w32 r6 = 0 then
      bnd (f11_isIn x1 20 29 h7) fun r10 h11 =>
      if w32 r10 = 0 then
        some ((-2), h11)
      else
        bnd (f11_isSubject u1 h11) fun r14 h15 =>
        if w32 r14 = 0 then
          some ((-2), h15)
        else
          asrt (0 ≤ w32 u1 ∧ w32 u1 < 6) <|
          some (h15.2 89 (w32 u1).toNat, h15)
    else
      if w32 (h7.2 69 15) ≤ w32 u1 then
        some ((-2), h7)
      else
        asrt (0 ≤ w32 u1 ∧ w32 u1 < 4) <|
        some (h7.2 88 (w32 u1).toNat, h7)
  else
    bnd (f11_isPerson (dv32 (x1 - 100) 10) h) fun r20 h21 =>
    if w32 r20 = 0 then
      some ((-2), h21)
    else
      bnd (f11_isSubject u1 h21) fun r24 h25 =>
      if w32 r24 = 0 then
        some ((-2), h25)
      else
        asrt (0 ≤ w32 ((6 * (dv32 (x1 - 100) 10)) + u1) ∧ w32 ((6 * (dv32 (x1 - 100) 10)) + u1) < 48) <|
        some (h25.2 90 (w32 ((6 * (dv32 (x1 - 100) 10)) + u1)).toNat, h25)
set_option maxRecDepth 100000 in
theorem c11_nowOf (l : Launch) (G : Geo) (x1 : Int) (h : AH) : Con l G m11_nowOf rvI 4 [vA G 69, vI x1] h (f11_nowOf x1 h) := by
  have hd : 4 ≤ 4 := Nat.le_refl _
  refine con_I rfl (by decide) rfl rfl (Nat.le_of_ble_eq_true rfl) (L := [some (vA G 69), some (vI x1), none]) ?_
  unfold f11_nowOf
  refine den_iload_n (pc := 0) d11_nowOf_0 rfl rfl ?_
  refine den_bipush (pc := 1) d11_nowOf_1 (by decide) ?_
  refine den_irem (pc := 3) d11_nowOf_3 (by decide) ?_
  refine den_istore_nL (pc := 4) (L2 := fun y => [some (vA G 69), some (vI x1), some (vI y)]) d11_nowOf_4 rfl (by decide) (fun _ => rfl) (fun u1 => ?_)
  refine den_iload_n (pc := 5) d11_nowOf_5 rfl rfl ?_
  refine den_ite (fun c2 => ?_) (fun c2 => ?_)
  · refine den_tableIn (pc := 6) (tgt := 36) d11_nowOf_6 (by omega) (by omega) (by rw [c2]; rfl) (by decide) ?_
    refine den_aload_n (pc := 36) d11_nowOf_36 rfl rfl ?_
    refine den_getI (pc := 37) fa_11_328 (ok_69 _) d11_nowOf_37 ?_
    exact den_iret (pc := 40) rfl d11_nowOf_40
  refine den_ite (fun c3 => ?_) (fun c3 => ?_)
  · refine den_tableIn (pc := 6) (tgt := 41) d11_nowOf_6 (by omega) (by omega) (by rw [c3]; rfl) (by decide) ?_
    refine den_aload_n (pc := 41) d11_nowOf_41 rfl rfl ?_
    refine den_getI (pc := 42) fa_11_331 (ok_69 _) d11_nowOf_42 ?_
    exact den_iret (pc := 45) rfl d11_nowOf_45
  refine den_ite (fun c4 => ?_) (fun c4 => ?_)
  · refine den_tableIn (pc := 6) (tgt := 46) d11_nowOf_6 (by omega) (by omega) (by rw [c4]; rfl) (by decide) ?_
    refine den_aload_n (pc := 46) d11_nowOf_46 rfl rfl ?_
    refine den_getI (pc := 47) fa_11_334 (ok_69 _) d11_nowOf_47 ?_
    exact den_iret (pc := 50) rfl d11_nowOf_50
  refine den_ite (fun c5 => ?_) (fun c5 => ?_)
  · refine den_tableIn (pc := 6) (tgt := 51) d11_nowOf_6 (by omega) (by omega) (by rw [c5]; rfl) (by decide) ?_
    refine den_aload_n (pc := 51) d11_nowOf_51 rfl rfl ?_
    refine den_getI (pc := 52) fa_11_337 (ok_69 _) d11_nowOf_52 ?_
    exact den_iret (pc := 55) rfl d11_nowOf_55
  refine den_tableOut (pc := 6) (tgt := 56) d11_nowOf_6 (by omega) (by decide) ?_
  refine den_iload_n (pc := 56) d11_nowOf_56 rfl rfl ?_
  refine den_bipush (pc := 57) d11_nowOf_57 (by decide) ?_
  refine den_icmp_lt (pc := 59) (tgt := 107) d11_nowOf_59 (by decide) rfl (by decide) (fun _ => ?_) (fun _ => ?_)
  · refine den_iload_n (pc := 107) d11_nowOf_107 rfl rfl ?_
    refine den_bipush (pc := 108) d11_nowOf_108 (by decide) ?_
    refine den_bipush (pc := 110) d11_nowOf_110 (by decide) ?_
    refine den_callSI (pc := 112) (As := [vI x1, vI 10, vI 19]) fs_11_135 rfl rfl (Nat.le_of_ble_eq_true rfl) (Nat.le_trans (by decide) hd) d11_nowOf_112 (c11_isIn l G x1 10 19 h) (fun r6 h7 m8 o9 => ?_)
    refine den_if_eq (pc := 115) (tgt := 138) d11_nowOf_115 (by decide) rfl (fun _ => ?_) (fun _ => ?_)
    · refine den_iload_n (pc := 138) d11_nowOf_138 rfl rfl ?_
      refine den_bipush (pc := 139) d11_nowOf_139 (by decide) ?_
      refine den_bipush (pc := 141) d11_nowOf_141 (by decide) ?_
      refine den_callSI (pc := 143) (As := [vI x1, vI 20, vI 29]) fs_11_135 rfl rfl (Nat.le_of_ble_eq_true rfl) (Nat.le_trans (by decide) hd) d11_nowOf_143 (c11_isIn l G x1 20 29 h7) (fun r10 h11 m12 o13 => ?_)
      refine den_if_eq (pc := 146) (tgt := 166) d11_nowOf_146 (by decide) rfl (fun _ => ?_) (fun _ => ?_)
      · refine den_bipush (pc := 166) d11_nowOf_166 (by decide) ?_
        exact den_iret (pc := 168) rfl d11_nowOf_168
      · refine den_aload_n (pc := 149) d11_nowOf_149 rfl rfl ?_
        refine den_iload_n (pc := 150) d11_nowOf_150 rfl rfl ?_
        refine den_callVI (pc := 151) (As := [vI u1]) fv_11_207 rfl rfl (ok_69 _) (Nat.le_of_ble_eq_true rfl) (Nat.le_trans (by decide) hd) d11_nowOf_151 (c11_isSubject l G u1 h11) (fun r14 h15 m16 o17 => ?_)
        refine den_if_eq (pc := 154) (tgt := 166) d11_nowOf_154 (by decide) rfl (fun _ => ?_) (fun _ => ?_)
        · refine den_bipush (pc := 166) d11_nowOf_166 (by decide) ?_
          exact den_iret (pc := 168) rfl d11_nowOf_168
        · refine den_aload_n (pc := 157) d11_nowOf_157 rfl rfl ?_
          refine den_getR (pc := 158) (b := 89) fa_11_68 (ok_69 _) rfl d11_nowOf_158 ?_
          refine den_iload_n (pc := 161) d11_nowOf_161 rfl rfl ?_
          refine den_asrt (fun a18 => ?_)
          refine den_iaload (pc := 162) sh_89 (sz_lt (by decide)) rfl a18 d11_nowOf_162 ?_
          refine den_goto (pc := 163) (tgt := 168) d11_nowOf_163 (by decide) ?_
          exact den_iret (pc := 168) rfl d11_nowOf_168
    · refine den_iload_n (pc := 118) d11_nowOf_118 rfl rfl ?_
      refine den_aload_n (pc := 119) d11_nowOf_119 rfl rfl ?_
      refine den_getI (pc := 120) fa_11_198 (ok_69 _) d11_nowOf_120 ?_
      refine den_icmp_ge (pc := 123) (tgt := 135) d11_nowOf_123 (by decide) rfl rfl (fun _ => ?_) (fun _ => ?_)
      · refine den_bipush (pc := 135) d11_nowOf_135 (by decide) ?_
        exact den_iret (pc := 137) rfl d11_nowOf_137
      · refine den_aload_n (pc := 126) d11_nowOf_126 rfl rfl ?_
        refine den_getR (pc := 127) (b := 88) fa_11_65 (ok_69 _) rfl d11_nowOf_127 ?_
        refine den_iload_n (pc := 130) d11_nowOf_130 rfl rfl ?_
        refine den_asrt (fun a19 => ?_)
        refine den_iaload (pc := 131) sh_88 (sz_lt (by decide)) rfl a19 d11_nowOf_131 ?_
        refine den_goto (pc := 132) (tgt := 137) d11_nowOf_132 (by decide) ?_
        exact den_iret (pc := 137) rfl d11_nowOf_137
  · refine den_aload_n (pc := 62) d11_nowOf_62 rfl rfl ?_
    refine den_iload_n (pc := 63) d11_nowOf_63 rfl rfl ?_
    refine den_bipush (pc := 64) d11_nowOf_64 (by decide) ?_
    refine den_isub (pc := 66) d11_nowOf_66 ?_
    refine den_bipush (pc := 67) d11_nowOf_67 (by decide) ?_
    refine den_idiv (pc := 69) d11_nowOf_69 (by decide) ?_
    refine den_callVI (pc := 70) (As := [vI (dv32 (x1 - 100) 10)]) fv_11_204 rfl rfl (ok_69 _) (Nat.le_of_ble_eq_true rfl) (Nat.le_trans (by decide) hd) d11_nowOf_70 (c11_isPerson l G (dv32 (x1 - 100) 10) h) (fun r20 h21 m22 o23 => ?_)
    refine den_if_eq (pc := 73) (tgt := 104) d11_nowOf_73 (by decide) rfl (fun _ => ?_) (fun _ => ?_)
    · refine den_bipush (pc := 104) d11_nowOf_104 (by decide) ?_
      exact den_iret (pc := 106) rfl d11_nowOf_106
    · refine den_aload_n (pc := 76) d11_nowOf_76 rfl rfl ?_
      refine den_iload_n (pc := 77) d11_nowOf_77 rfl rfl ?_
      refine den_callVI (pc := 78) (As := [vI u1]) fv_11_207 rfl rfl (ok_69 _) (Nat.le_of_ble_eq_true rfl) (Nat.le_trans (by decide) hd) d11_nowOf_78 (c11_isSubject l G u1 h21) (fun r24 h25 m26 o27 => ?_)
      refine den_if_eq (pc := 81) (tgt := 104) d11_nowOf_81 (by decide) rfl (fun _ => ?_) (fun _ => ?_)
      · refine den_bipush (pc := 104) d11_nowOf_104 (by decide) ?_
        exact den_iret (pc := 106) rfl d11_nowOf_106
      · refine den_aload_n (pc := 84) d11_nowOf_84 rfl rfl ?_
        refine den_getR (pc := 85) (b := 90) fa_11_71 (ok_69 _) rfl d11_nowOf_85 ?_
        refine den_bipush (pc := 88) d11_nowOf_88 (by decide) ?_
        refine den_iload_n (pc := 90) d11_nowOf_90 rfl rfl ?_
        refine den_bipush (pc := 91) d11_nowOf_91 (by decide) ?_
        refine den_isub (pc := 93) d11_nowOf_93 ?_
        refine den_bipush (pc := 94) d11_nowOf_94 (by decide) ?_
        refine den_idiv (pc := 96) d11_nowOf_96 (by decide) ?_
        refine den_imul (pc := 97) d11_nowOf_97 ?_
        refine den_iload_n (pc := 98) d11_nowOf_98 rfl rfl ?_
        refine den_iadd (pc := 99) d11_nowOf_99 ?_
        refine den_asrt (fun a28 => ?_)
        refine den_iaload (pc := 100) sh_90 (sz_lt (by decide)) rfl a28 d11_nowOf_100 ?_
        refine den_goto (pc := 101) (tgt := 106) d11_nowOf_101 (by decide) ?_
        exact den_iret (pc := 106) rfl d11_nowOf_106
theorem d11_isCosy_0 : decode m11_isCosy.2.1 0 = .ok (.iconst 1, 1) := by decide +kernel
theorem d11_isCosy_1 : decode m11_isCosy.2.1 1 = .ok (.istore_n 1, 1) := by decide +kernel
theorem d11_isCosy_2 : decode m11_isCosy.2.1 2 = .ok (.iconst 0, 1) := by decide +kernel
theorem d11_isCosy_3 : decode m11_isCosy.2.1 3 = .ok (.istore_n 2, 1) := by decide +kernel
theorem d11_isCosy_4 : decode m11_isCosy.2.1 4 = .ok (.iload_n 2, 1) := by decide +kernel
theorem d11_isCosy_5 : decode m11_isCosy.2.1 5 = .ok (.aload_n 0, 1) := by decide +kernel
theorem d11_isCosy_6 : decode m11_isCosy.2.1 6 = .ok (.getfield 198, 3) := by decide +kernel
theorem d11_isCosy_9 : decode m11_isCosy.2.1 9 = .ok (.if_icmp .ge 33, 3) := by decide +kernel
theorem d11_isCosy_12 : decode m11_isCosy.2.1 12 = .ok (.iload_n 1, 1) := by decide +kernel
theorem d11_isCosy_13 : decode m11_isCosy.2.1 13 = .ok (.ifCond .eq 21, 3) := by decide +kernel
theorem d11_isCosy_16 : decode m11_isCosy.2.1 16 = .ok (.aload_n 0, 1) := by decide +kernel
theorem d11_isCosy_17 : decode m11_isCosy.2.1 17 = .ok (.getfield 65, 3) := by decide +kernel
theorem d11_isCosy_20 : decode m11_isCosy.2.1 20 = .ok (.iload_n 2, 1) := by decide +kernel
theorem d11_isCosy_21 : decode m11_isCosy.2.1 21 = .ok (.iaload, 1) := by decide +kernel
theorem d11_isCosy_22 : decode m11_isCosy.2.1 22 = .ok (.aload_n 0, 1) := by decide +kernel
theorem d11_isCosy_23 : decode m11_isCosy.2.1 23 = .ok (.iload_n 2, 1) := by decide +kernel
theorem d11_isCosy_24 : decode m11_isCosy.2.1 24 = .ok (.invokevirtual 219, 3) := by decide +kernel
theorem d11_isCosy_27 : decode m11_isCosy.2.1 27 = .ok (.if_icmp .lt 7, 3) := by decide +kernel
theorem d11_isCosy_30 : decode m11_isCosy.2.1 30 = .ok (.iconst 1, 1) := by decide +kernel
theorem d11_isCosy_31 : decode m11_isCosy.2.1 31 = .ok (.goto 4, 3) := by decide +kernel
theorem d11_isCosy_34 : decode m11_isCosy.2.1 34 = .ok (.iconst 0, 1) := by decide +kernel
theorem d11_isCosy_35 : decode m11_isCosy.2.1 35 = .ok (.istore_n 1, 1) := by decide +kernel
theorem d11_isCosy_36 : decode m11_isCosy.2.1 36 = .ok (.iinc 2 1, 3) := by decide +kernel
theorem d11_isCosy_39 : decode m11_isCosy.2.1 39 = .ok (.goto (-35), 3) := by decide +kernel
theorem d11_isCosy_42 : decode m11_isCosy.2.1 42 = .ok (.iload_n 1, 1) := by decide +kernel
theorem d11_isCosy_43 : decode m11_isCosy.2.1 43 = .ok (.ireturn, 1) := by decide +kernel
def b11_isCosy_35 (rec4 : Int × Int × AH → Option (Int × AH)) (x2 : Int) (s0 : Int) (h : AH) : Option (Int × AH) :=
  rec4 (s0, (x2 + 1), h)
set_option maxRecDepth 100000 in
theorem t11_isCosy_35 (l : Launch) (G : Geo) (d : Nat) (hd : 3 ≤ d) (x2 : Int) (s0 : Int) (rec4 : Int × Int × AH → Option (Int × AH)) (H4 : ∀ (x1 : Int) (x2 : Int) (h : AH), Den l G m11_isCosy rvI d 4 [some (vA G 69), some (vI x1), some (vI x2)] [] h (rec4 (x1, x2, h))) (h : AH) : Den l G m11_isCosy rvI d 35 [some (vA G 69), none, some (vI x2)] [vI s0] h (b11_isCosy_35 rec4 x2 s0 h) := by
  unfold b11_isCosy_35
  refine den_istore_n (pc := 35) (L2 := [some (vA G 69), some (vI s0), some (vI x2)]) d11_isCosy_35 rfl (by decide) rfl ?_
  refine den_iinc (pc := 36) (L2 := [some (vA G 69), some (vI s0), some (vI (x2 + 1))]) d11_isCosy_36 (by decide) rfl rfl ?_
  refine den_goto (pc := 39) (tgt := 4) d11_isCosy_39 (by decide) ?_
  exact H4 s0 (x2 + 1) h
def b11_isCosy_34 (rec4 : Int × Int × AH → Option (Int × AH)) (x2 : Int) (h : AH) : Option (Int × AH) :=
  b11_isCosy_35 rec4 x2 0 h
set_option maxRecDepth 100000 in
theorem t11_isCosy_34 (l : Launch) (G : Geo) (d : Nat) (hd : 3 ≤ d) (x2 : Int) (rec4 : Int × Int × AH → Option (Int × AH)) (H4 : ∀ (x1 : Int) (x2 : Int) (h : AH), Den l G m11_isCosy rvI d 4 [some (vA G 69), some (vI x1), some (vI x2)] [] h (rec4 (x1, x2, h))) (h : AH) : Den l G m11_isCosy rvI d 34 [some (vA G 69), none, some (vI x2)] [] h (b11_isCosy_34 rec4 x2 h) := by
  unfold b11_isCosy_34
  refine den_iconst (pc := 34) d11_isCosy_34 ?_
  exact t11_isCosy_35 l G _ hd x2 0 rec4 H4 h
def b11_isCosy_4 (rec4 : Int × Int × AH → Option (Int × AH)) (x1 : Int) (x2 : Int) (h : AH) : Option (Int × AH) :=
  if w32 (h.2 69 15) ≤ w32 x2 then
    asrt (w32 x1 = 0 ∨ w32 x1 = 1) <|
    some (x1, h)
  else
    if w32 x1 = 0 then
      b11_isCosy_34 rec4 x2 h
    else
      asrt (0 ≤ w32 x2 ∧ w32 x2 < 4) <|
      bnd (f11_wantsOf x2 h) fun r3 h4 =>
      if w32 (h.2 88 (w32 x2).toNat) < w32 r3 then
        b11_isCosy_34 rec4 x2 h4
      else
        b11_isCosy_35 rec4 x2 1 h4
set_option maxRecDepth 100000 in
theorem t11_isCosy_4 (l : Launch) (G : Geo) (d : Nat) (hd : 3 ≤ d) (x1 : Int) (x2 : Int) (rec4 : Int × Int × AH → Option (Int × AH)) (H4 : ∀ (x1 : Int) (x2 : Int) (h : AH), Den l G m11_isCosy rvI d 4 [some (vA G 69), some (vI x1), some (vI x2)] [] h (rec4 (x1, x2, h))) (h : AH) : Den l G m11_isCosy rvI d 4 [some (vA G 69), some (vI x1), some (vI x2)] [] h (b11_isCosy_4 rec4 x1 x2 h) := by
  unfold b11_isCosy_4
  refine den_iload_n (pc := 4) d11_isCosy_4 rfl rfl ?_
  refine den_aload_n (pc := 5) d11_isCosy_5 rfl rfl ?_
  refine den_getI (pc := 6) fa_11_198 (ok_69 _) d11_isCosy_6 ?_
  refine den_icmp_ge (pc := 9) (tgt := 42) d11_isCosy_9 (by decide) rfl rfl (fun _ => ?_) (fun _ => ?_)
  · refine den_iload_n (pc := 42) d11_isCosy_42 rfl rfl ?_
    refine den_asrt (fun a1 => ?_)
    exact den_zret (pc := 43) rfl a1 d11_isCosy_43
  · refine den_iload_n (pc := 12) d11_isCosy_12 rfl rfl ?_
    refine den_if_eq (pc := 13) (tgt := 34) d11_isCosy_13 (by decide) rfl (fun _ => ?_) (fun _ => ?_)
    · refine den_wk [true, false, true] rfl ?_
      exact t11_isCosy_34 l G _ hd x2 rec4 H4 h
    · refine den_aload_n (pc := 16) d11_isCosy_16 rfl rfl ?_
      refine den_getR (pc := 17) (b := 88) fa_11_65 (ok_69 _) rfl d11_isCosy_17 ?_
      refine den_iload_n (pc := 20) d11_isCosy_20 rfl rfl ?_
      refine den_asrt (fun a2 => ?_)
      refine den_iaload (pc := 21) sh_88 (sz_lt (by decide)) rfl a2 d11_isCosy_21 ?_
      refine den_aload_n (pc := 22) d11_isCosy_22 rfl rfl ?_
      refine den_iload_n (pc := 23) d11_isCosy_23 rfl rfl ?_
      refine den_callVI (pc := 24) (As := [vI x2]) fv_11_219 rfl rfl (ok_69 _) (Nat.le_of_ble_eq_true rfl) (Nat.le_trans (by decide) hd) d11_isCosy_24 (c11_wantsOf l G x2 h) (fun r3 h4 m5 o6 => ?_)
      refine den_icmp_lt (pc := 27) (tgt := 34) d11_isCosy_27 (by decide) rfl rfl (fun _ => ?_) (fun _ => ?_)
      · refine den_wk [true, false, true] rfl ?_
        exact t11_isCosy_34 l G _ hd x2 rec4 H4 h4
      · refine den_iconst (pc := 30) d11_isCosy_30 ?_
        refine den_goto (pc := 31) (tgt := 35) d11_isCosy_31 (by decide) ?_
        refine den_wk [true, false, true] rfl ?_
        exact t11_isCosy_35 l G _ hd x2 1 rec4 H4 h4
def l11_isCosy_4 (x1 : Int) (x2 : Int) (h : AH) : Option (Int × AH) := fx (fun rec z => b11_isCosy_4 rec z.1 z.2.1 z.2.2) FU (x1, x2, h)
set_option maxRecDepth 100000 in
theorem tl11_isCosy_4 (l : Launch) (G : Geo) (d : Nat) (hd : 3 ≤ d) : ∀ (n : Nat) (z : Int × Int × AH), True → Den l G m11_isCosy rvI d 4 [some (vA G 69), some (vI z.1), some (vI z.2.1)] [] z.2.2 (fx (fun rec z => b11_isCosy_4 rec z.1 z.2.1 z.2.2) n z) :=
  den_fx (F := fun rec z => b11_isCosy_4 rec z.1 z.2.1 z.2.2) (P := fun z => True) (fL := fun z => [some (vA G 69), some (vI z.1), some (vI z.2.1)]) (fs := fun z => []) (fh := fun z => z.2.2) (fun rec hrec z hz => t11_isCosy_4 l G d hd z.1 z.2.1 rec (fun x1 x2 h => hrec (x1, x2, h) trivial) z.2.2 )
def f11_isCosy (h : AH) : Option (Int × AH) :=
  l11_isCosy_4 1 0 h
set_option maxRecDepth 100000 in
theorem c11_isCosy (l : Launch) (G : Geo) (h : AH) : Con l G m11_isCosy rvI 3 [vA G 69] h (f11_isCosy  h) := by
  have hd : 3 ≤ 3 := Nat.le_refl _
  refine con_Z rfl (by decide) rfl rfl (Nat.le_of_ble_eq_true rfl) (L := [some (vA G 69), none, none]) ?_
  unfold f11_isCosy
  refine den_iconst (pc := 0) d11_isCosy_0 ?_
  refine den_istore_n (pc := 1) (L2 := [some (vA G 69), some (vI 1), none]) d11_isCosy_1 rfl (by decide) rfl ?_
  refine den_iconst (pc := 2) d11_isCosy_2 ?_
  refine den_istore_n (pc := 3) (L2 := [some (vA G 69), some (vI 1), some (vI 0)]) d11_isCosy_3 rfl (by decide) rfl ?_
  exact tl11_isCosy_4 l G _ hd FU (1, 0, h) trivial
