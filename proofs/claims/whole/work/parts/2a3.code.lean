/-! 3_hours 4_add 4_gather 4_keyOf 4_suits 4_leastFrom 4_chooseFirst 4_arrange 4_fillBehind -/
theorem d3_hours_0 : decode m3_hours.2.1 0 = .ok (.aload_n 1, 1) := by decide +kernel
theorem d3_hours_1 : decode m3_hours.2.1 1 = .ok (.iload 4, 2) := by decide +kernel
theorem d3_hours_3 : decode m3_hours.2.1 3 = .ok (.invokevirtual 18, 3) := by decide +kernel
theorem d3_hours_6 : decode m3_hours.2.1 6 = .ok (.ifCond .ne 5, 3) := by decide +kernel
theorem d3_hours_9 : decode m3_hours.2.1 9 = .ok (.iconst 0, 1) := by decide +kernel
theorem d3_hours_10 : decode m3_hours.2.1 10 = .ok (.ireturn, 1) := by decide +kernel
theorem d3_hours_11 : decode m3_hours.2.1 11 = .ok (.aload_n 0, 1) := by decide +kernel
theorem d3_hours_12 : decode m3_hours.2.1 12 = .ok (.getfield 15, 3) := by decide +kernel
theorem d3_hours_15 : decode m3_hours.2.1 15 = .ok (.iconst 0, 1) := by decide +kernel
theorem d3_hours_16 : decode m3_hours.2.1 16 = .ok (.invokestatic 24, 3) := by decide +kernel
theorem d3_hours_19 : decode m3_hours.2.1 19 = .ok (.bipush 9, 2) := by decide +kernel
theorem d3_hours_21 : decode m3_hours.2.1 21 = .ok (.istore 5, 2) := by decide +kernel
theorem d3_hours_23 : decode m3_hours.2.1 23 = .ok (.iload 5, 2) := by decide +kernel
theorem d3_hours_25 : decode m3_hours.2.1 25 = .ok (.ifCond .lt 90, 3) := by decide +kernel
theorem d3_hours_28 : decode m3_hours.2.1 28 = .ok (.iload_n 2, 1) := by decide +kernel
theorem d3_hours_29 : decode m3_hours.2.1 29 = .ok (.aload_n 1, 1) := by decide +kernel
theorem d3_hours_30 : decode m3_hours.2.1 30 = .ok (.iload_n 3, 1) := by decide +kernel
theorem d3_hours_31 : decode m3_hours.2.1 31 = .ok (.iload 5, 2) := by decide +kernel
theorem d3_hours_33 : decode m3_hours.2.1 33 = .ok (.invokevirtual 30, 3) := by decide +kernel
theorem d3_hours_36 : decode m3_hours.2.1 36 = .ok (.imul, 1) := by decide +kernel
theorem d3_hours_37 : decode m3_hours.2.1 37 = .ok (.istore 6, 2) := by decide +kernel
theorem d3_hours_39 : decode m3_hours.2.1 39 = .ok (.iconst 0, 1) := by decide +kernel
theorem d3_hours_40 : decode m3_hours.2.1 40 = .ok (.istore 7, 2) := by decide +kernel
theorem d3_hours_42 : decode m3_hours.2.1 42 = .ok (.iload 7, 2) := by decide +kernel
theorem d3_hours_44 : decode m3_hours.2.1 44 = .ok (.bipush 99, 2) := by decide +kernel
theorem d3_hours_46 : decode m3_hours.2.1 46 = .ok (.if_icmp .gt 48, 3) := by decide +kernel
theorem d3_hours_49 : decode m3_hours.2.1 49 = .ok (.aload_n 0, 1) := by decide +kernel
theorem d3_hours_50 : decode m3_hours.2.1 50 = .ok (.aload_n 1, 1) := by decide +kernel
theorem d3_hours_51 : decode m3_hours.2.1 51 = .ok (.iload 4, 2) := by decide +kernel
theorem d3_hours_53 : decode m3_hours.2.1 53 = .ok (.iload 7, 2) := by decide +kernel
theorem d3_hours_55 : decode m3_hours.2.1 55 = .ok (.iload 6, 2) := by decide +kernel
theorem d3_hours_57 : decode m3_hours.2.1 57 = .ok (.invokevirtual 34, 3) := by decide +kernel
theorem d3_hours_60 : decode m3_hours.2.1 60 = .ok (.aload_n 0, 1) := by decide +kernel
theorem d3_hours_61 : decode m3_hours.2.1 61 = .ok (.aload_n 1, 1) := by decide +kernel
theorem d3_hours_62 : decode m3_hours.2.1 62 = .ok (.iload 4, 2) := by decide +kernel
theorem d3_hours_64 : decode m3_hours.2.1 64 = .ok (.iload 7, 2) := by decide +kernel
theorem d3_hours_66 : decode m3_hours.2.1 66 = .ok (.invokevirtual 38, 3) := by decide +kernel
theorem d3_hours_69 : decode m3_hours.2.1 69 = .ok (.invokestatic 42, 3) := by decide +kernel
theorem d3_hours_72 : decode m3_hours.2.1 72 = .ok (.istore 8, 2) := by decide +kernel
theorem d3_hours_74 : decode m3_hours.2.1 74 = .ok (.aload_n 0, 1) := by decide +kernel
theorem d3_hours_75 : decode m3_hours.2.1 75 = .ok (.getfield 9, 3) := by decide +kernel
theorem d3_hours_78 : decode m3_hours.2.1 78 = .ok (.iload 7, 2) := by decide +kernel
theorem d3_hours_80 : decode m3_hours.2.1 80 = .ok (.bipush 99, 2) := by decide +kernel
theorem d3_hours_82 : decode m3_hours.2.1 82 = .ok (.iload 8, 2) := by decide +kernel
theorem d3_hours_84 : decode m3_hours.2.1 84 = .ok (.invokestatic 47, 3) := by decide +kernel
theorem d3_hours_87 : decode m3_hours.2.1 87 = .ok (.iastore, 1) := by decide +kernel
theorem d3_hours_88 : decode m3_hours.2.1 88 = .ok (.iinc 7 1, 3) := by decide +kernel
theorem d3_hours_91 : decode m3_hours.2.1 91 = .ok (.goto (-49), 3) := by decide +kernel
theorem d3_hours_94 : decode m3_hours.2.1 94 = .ok (.aload_n 0, 1) := by decide +kernel
theorem d3_hours_95 : decode m3_hours.2.1 95 = .ok (.getfield 9, 3) := by decide +kernel
theorem d3_hours_98 : decode m3_hours.2.1 98 = .ok (.iconst 0, 1) := by decide +kernel
theorem d3_hours_99 : decode m3_hours.2.1 99 = .ok (.aload_n 0, 1) := by decide +kernel
theorem d3_hours_100 : decode m3_hours.2.1 100 = .ok (.getfield 15, 3) := by decide +kernel
theorem d3_hours_103 : decode m3_hours.2.1 103 = .ok (.iconst 0, 1) := by decide +kernel
theorem d3_hours_104 : decode m3_hours.2.1 104 = .ok (.bipush 100, 2) := by decide +kernel
theorem d3_hours_106 : decode m3_hours.2.1 106 = .ok (.invokestatic 50, 3) := by decide +kernel
theorem d3_hours_109 : decode m3_hours.2.1 109 = .ok (.iinc 5 (-1), 3) := by decide +kernel
theorem d3_hours_112 : decode m3_hours.2.1 112 = .ok (.goto (-89), 3) := by decide +kernel
theorem d3_hours_115 : decode m3_hours.2.1 115 = .ok (.aload_n 0, 1) := by decide +kernel
theorem d3_hours_116 : decode m3_hours.2.1 116 = .ok (.getfield 9, 3) := by decide +kernel
theorem d3_hours_119 : decode m3_hours.2.1 119 = .ok (.iconst 0, 1) := by decide +kernel
theorem d3_hours_120 : decode m3_hours.2.1 120 = .ok (.iaload, 1) := by decide +kernel
theorem d3_hours_121 : decode m3_hours.2.1 121 = .ok (.ireturn, 1) := by decide +kernel
def b3_hours_42 (rec42 : Int × AH → Option (Int × AH)) (rec23 : Int × AH → Option (Int × AH)) (x1 : Nat) (x2 : Int) (x3 : Int) (x4 : Int) (x5 : Int) (x6 : Int) (x7 : Int) (h : AH) : Option (Int × AH) :=
  if 99 < w32 x7 then
    asrt (0 ≤ w32 0 ∧ 0 ≤ w32 0 ∧ 0 ≤ w32 100 ∧ w32 0 + w32 100 ≤ 100 ∧ w32 0 + w32 100 ≤ 100) <|
    lt (cpy h 60 61 (w32 0).toNat (w32 0).toNat (w32 100).toNat) fun h2 =>
    rec23 ((x5 + (-1)), h2)
  else
    bnd (f3_byQuarrel x1 x4 x7 x6 h) fun r5 h6 =>
    bnd (f3_byRest x1 x4 x7 h6) fun r10 h11 =>
    lt (max32 r5 r10) fun u15 =>
    asrt (0 ≤ w32 x7 ∧ w32 x7 < 100) <|
    lt (wr h11 60 (w32 x7).toNat (min32 99 u15)) fun h17 =>
    rec42 ((x7 + 1), h17)
set_option maxRecDepth 100000 in
theorem t3_hours_42 (l : Launch) (G : Geo) (d : Nat) (hd : 4 ≤ d) (x1 : Nat) (x2 : Int) (x3 : Int) (x4 : Int) (x5 : Int) (x6 : Int) (x7 : Int) (rec42 : Int × AH → Option (Int × AH)) (H42 : ∀ (x7 : Int) (h : AH), ok h.1 x1 9 → Den l G m3_hours rvI d 42 [some (vA G 59), some (vA G x1), some (vI x2), some (vI x3), some (vI x4), some (vI x5), some (vI x6), some (vI x7), none] [] h (rec42 (x7, h))) (rec23 : Int × AH → Option (Int × AH)) (H23 : ∀ (x5 : Int) (h : AH), ok h.1 x1 9 → Den l G m3_hours rvI d 23 [some (vA G 59), some (vA G x1), some (vI x2), some (vI x3), some (vI x4), some (vI x5), none, none, none] [] h (rec23 (x5, h))) (h : AH) (kx1 : ok h.1 x1 9) : Den l G m3_hours rvI d 42 [some (vA G 59), some (vA G x1), some (vI x2), some (vI x3), some (vI x4), some (vI x5), some (vI x6), some (vI x7), none] [] h (b3_hours_42 rec42 rec23 x1 x2 x3 x4 x5 x6 x7 h) := by
  unfold b3_hours_42
  refine den_iload (pc := 42) d3_hours_42 rfl ?_
  refine den_bipush (pc := 44) d3_hours_44 (by decide) ?_
  refine den_icmp_gt (pc := 46) (tgt := 94) d3_hours_46 (by decide) rfl (by decide) (fun _ => ?_) (fun _ => ?_)
  · refine den_aload_n (pc := 94) d3_hours_94 rfl rfl ?_
    refine den_getR (pc := 95) (b := 60) fa_3_9 (ok_59 _) rfl d3_hours_95 ?_
    refine den_iconst (pc := 98) d3_hours_98 ?_
    refine den_aload_n (pc := 99) d3_hours_99 rfl rfl ?_
    refine den_getR (pc := 100) (b := 61) fa_3_15 (ok_59 _) rfl d3_hours_100 ?_
    refine den_iconst (pc := 103) d3_hours_103 ?_
    refine den_bipush (pc := 104) d3_hours_104 (by decide) ?_
    refine den_asrt (fun a1 => ?_)
    refine den_copyI (pc := 106) fc_3_50 sh_60 (sz_lt (by decide)) sh_61 (sz_lt (by decide)) rfl rfl (Nat.le_trans (by decide) hd) a1 (Nat.le_of_ble_eq_true rfl) d3_hours_106 ?_
    refine den_ltH (fun h2 m3 => ?_)
    have q4 := ok.mono kx1 m3
    refine den_iinc (pc := 109) (L2 := [some (vA G 59), some (vA G x1), some (vI x2), some (vI x3), some (vI x4), some (vI (x5 + (-1))), some (vI x6), some (vI x7), none]) d3_hours_109 (by decide) rfl rfl ?_
    refine den_goto (pc := 112) (tgt := 23) d3_hours_112 (by decide) ?_
    refine den_wk [true, true, true, true, true, true, false, false, true] rfl ?_
    exact H23 (x5 + (-1)) h2 q4
  · refine den_aload_n (pc := 49) d3_hours_49 rfl rfl ?_
    refine den_aload_n (pc := 50) d3_hours_50 rfl rfl ?_
    refine den_iload (pc := 51) d3_hours_51 rfl ?_
    refine den_iload (pc := 53) d3_hours_53 rfl ?_
    refine den_iload (pc := 55) d3_hours_55 rfl ?_
    refine den_callVI (pc := 57) (As := [vA G x1, vI x4, vI x7, vI x6]) fv_3_34 rfl rfl (ok_59 _) (Nat.le_of_ble_eq_true rfl) (Nat.le_trans (by decide) hd) d3_hours_57 (c3_byQuarrel l G x1 x4 x7 x6 h kx1) (fun r5 h6 m7 o8 => ?_)
    have q9 := ok.mono kx1 m7
    refine den_aload_n (pc := 60) d3_hours_60 rfl rfl ?_
    refine den_aload_n (pc := 61) d3_hours_61 rfl rfl ?_
    refine den_iload (pc := 62) d3_hours_62 rfl ?_
    refine den_iload (pc := 64) d3_hours_64 rfl ?_
    refine den_callVI (pc := 66) (As := [vA G x1, vI x4, vI x7]) fv_3_38 rfl rfl (ok_59 _) (Nat.le_of_ble_eq_true rfl) (Nat.le_trans (by decide) hd) d3_hours_66 (c3_byRest l G x1 x4 x7 h6 q9) (fun r10 h11 m12 o13 => ?_)
    have q14 := ok.mono q9 m12
    refine den_max (pc := 69) fm_3_42 (Nat.le_of_ble_eq_true rfl) (Nat.le_trans (by decide) hd) d3_hours_69 ?_
    refine den_istoreL (pc := 72) (L2 := fun y => [some (vA G 59), some (vA G x1), some (vI x2), some (vI x3), some (vI x4), some (vI x5), some (vI x6), some (vI x7), some (vI y)]) d3_hours_72 (by decide) (fun _ => rfl) (fun u15 => ?_)
    refine den_aload_n (pc := 74) d3_hours_74 rfl rfl ?_
    refine den_getR (pc := 75) (b := 60) fa_3_9 (ok_59 _) rfl d3_hours_75 ?_
    refine den_iload (pc := 78) d3_hours_78 rfl ?_
    refine den_bipush (pc := 80) d3_hours_80 (by decide) ?_
    refine den_iload (pc := 82) d3_hours_82 rfl ?_
    refine den_min (pc := 84) fm_3_47 (Nat.le_of_ble_eq_true rfl) (Nat.le_trans (by decide) hd) d3_hours_84 ?_
    refine den_asrt (fun a16 => ?_)
    refine den_iastore (pc := 87) sh_60 (sz_lt (by decide)) rfl a16 d3_hours_87 ?_
    refine den_ltH (fun h17 m18 => ?_)
    have q19 := ok.mono q14 m18
    refine den_iinc (pc := 88) (L2 := [some (vA G 59), some (vA G x1), some (vI x2), some (vI x3), some (vI x4), some (vI x5), some (vI x6), some (vI (x7 + 1)), some (vI u15)]) d3_hours_88 (by decide) rfl rfl ?_
    refine den_goto (pc := 91) (tgt := 42) d3_hours_91 (by decide) ?_
    refine den_wk [true, true, true, true, true, true, true, true, false] rfl ?_
    exact H42 (x7 + 1) h17 q19
def l3_hours_42 (rec23 : Int × AH → Option (Int × AH)) (x1 : Nat) (x2 : Int) (x3 : Int) (x4 : Int) (x5 : Int) (x6 : Int) (x7 : Int) (h : AH) : Option (Int × AH) := fx (fun rec z => b3_hours_42 rec rec23 x1 x2 x3 x4 x5 x6 z.1 z.2) FU (x7, h)
set_option maxRecDepth 100000 in
theorem tl3_hours_42 (l : Launch) (G : Geo) (d : Nat) (hd : 4 ≤ d) (x1 : Nat) (x2 : Int) (x3 : Int) (x4 : Int) (x5 : Int) (x6 : Int) (rec23 : Int × AH → Option (Int × AH)) (H23 : ∀ (x5 : Int) (h : AH), ok h.1 x1 9 → Den l G m3_hours rvI d 23 [some (vA G 59), some (vA G x1), some (vI x2), some (vI x3), some (vI x4), some (vI x5), none, none, none] [] h (rec23 (x5, h))) : ∀ (n : Nat) (z : Int × AH), ok z.2.1 x1 9 → Den l G m3_hours rvI d 42 [some (vA G 59), some (vA G x1), some (vI x2), some (vI x3), some (vI x4), some (vI x5), some (vI x6), some (vI z.1), none] [] z.2 (fx (fun rec z => b3_hours_42 rec rec23 x1 x2 x3 x4 x5 x6 z.1 z.2) n z) :=
  den_fx (F := fun rec z => b3_hours_42 rec rec23 x1 x2 x3 x4 x5 x6 z.1 z.2) (P := fun z => ok z.2.1 x1 9) (fL := fun z => [some (vA G 59), some (vA G x1), some (vI x2), some (vI x3), some (vI x4), some (vI x5), some (vI x6), some (vI z.1), none]) (fs := fun z => []) (fh := fun z => z.2) (fun rec hrec z hz => t3_hours_42 l G d hd x1 x2 x3 x4 x5 x6 z.1 rec (fun x7 h w0 => hrec (x7, h) w0) rec23 H23 z.2 hz)
def b3_hours_23 (rec23 : Int × AH → Option (Int × AH)) (x1 : Nat) (x2 : Int) (x3 : Int) (x4 : Int) (x5 : Int) (h : AH) : Option (Int × AH) :=
  if w32 x5 < 0 then
    asrt (0 ≤ w32 0 ∧ w32 0 < 100) <|
    some (h.2 60 (w32 0).toNat, h)
  else
    bnd (f9_heatAfter x1 x3 x5 h) fun r21 h22 =>
    lt (x2 * r21) fun u26 =>
    l3_hours_42 rec23 x1 x2 x3 x4 x5 u26 0 h22
set_option maxRecDepth 100000 in
theorem t3_hours_23 (l : Launch) (G : Geo) (d : Nat) (hd : 4 ≤ d) (x1 : Nat) (x2 : Int) (x3 : Int) (x4 : Int) (x5 : Int) (rec23 : Int × AH → Option (Int × AH)) (H23 : ∀ (x5 : Int) (h : AH), ok h.1 x1 9 → Den l G m3_hours rvI d 23 [some (vA G 59), some (vA G x1), some (vI x2), some (vI x3), some (vI x4), some (vI x5), none, none, none] [] h (rec23 (x5, h))) (h : AH) (kx1 : ok h.1 x1 9) : Den l G m3_hours rvI d 23 [some (vA G 59), some (vA G x1), some (vI x2), some (vI x3), some (vI x4), some (vI x5), none, none, none] [] h (b3_hours_23 rec23 x1 x2 x3 x4 x5 h) := by
  unfold b3_hours_23
  refine den_iload (pc := 23) d3_hours_23 rfl ?_
  refine den_if_lt (pc := 25) (tgt := 115) d3_hours_25 (by decide) rfl (fun _ => ?_) (fun _ => ?_)
  · refine den_aload_n (pc := 115) d3_hours_115 rfl rfl ?_
    refine den_getR (pc := 116) (b := 60) fa_3_9 (ok_59 _) rfl d3_hours_116 ?_
    refine den_iconst (pc := 119) d3_hours_119 ?_
    refine den_asrt (fun a20 => ?_)
    refine den_iaload (pc := 120) sh_60 (sz_lt (by decide)) rfl a20 d3_hours_120 ?_
    exact den_iret (pc := 121) rfl d3_hours_121
  · refine den_iload_n (pc := 28) d3_hours_28 rfl rfl ?_
    refine den_aload_n (pc := 29) d3_hours_29 rfl rfl ?_
    refine den_iload_n (pc := 30) d3_hours_30 rfl rfl ?_
    refine den_iload (pc := 31) d3_hours_31 rfl ?_
    refine den_callVI (pc := 33) (As := [vI x3, vI x5]) fv_3_30 rfl rfl kx1 (Nat.le_of_ble_eq_true rfl) (Nat.le_trans (by decide) hd) d3_hours_33 (c9_heatAfter l G x1 x3 x5 h kx1) (fun r21 h22 m23 o24 => ?_)
    have q25 := ok.mono kx1 m23
    refine den_imul (pc := 36) d3_hours_36 ?_
    refine den_istoreL (pc := 37) (L2 := fun y => [some (vA G 59), some (vA G x1), some (vI x2), some (vI x3), some (vI x4), some (vI x5), some (vI y), none, none]) d3_hours_37 (by decide) (fun _ => rfl) (fun u26 => ?_)
    refine den_iconst (pc := 39) d3_hours_39 ?_
    refine den_istore (pc := 40) (L2 := [some (vA G 59), some (vA G x1), some (vI x2), some (vI x3), some (vI x4), some (vI x5), some (vI u26), some (vI 0), none]) d3_hours_40 (by decide) rfl ?_
    exact tl3_hours_42 l G _ hd x1 x2 x3 x4 x5 u26 rec23 H23 FU (0, h22) q25
def l3_hours_23 (x1 : Nat) (x2 : Int) (x3 : Int) (x4 : Int) (x5 : Int) (h : AH) : Option (Int × AH) := fx (fun rec z => b3_hours_23 rec x1 x2 x3 x4 z.1 z.2) FU (x5, h)
set_option maxRecDepth 100000 in
theorem tl3_hours_23 (l : Launch) (G : Geo) (d : Nat) (hd : 4 ≤ d) (x1 : Nat) (x2 : Int) (x3 : Int) (x4 : Int) : ∀ (n : Nat) (z : Int × AH), ok z.2.1 x1 9 → Den l G m3_hours rvI d 23 [some (vA G 59), some (vA G x1), some (vI x2), some (vI x3), some (vI x4), some (vI z.1), none, none, none] [] z.2 (fx (fun rec z => b3_hours_23 rec x1 x2 x3 x4 z.1 z.2) n z) :=
  den_fx (F := fun rec z => b3_hours_23 rec x1 x2 x3 x4 z.1 z.2) (P := fun z => ok z.2.1 x1 9) (fL := fun z => [some (vA G 59), some (vA G x1), some (vI x2), some (vI x3), some (vI x4), some (vI z.1), none, none, none]) (fs := fun z => []) (fh := fun z => z.2) (fun rec hrec z hz => t3_hours_23 l G d hd x1 x2 x3 x4 z.1 rec (fun x5 h w0 => hrec (x5, h) w0) z.2 hz)
def f3_hours (x1 : Nat) (x2 : Int) (x3 : Int) (x4 : Int) (h : AH) : Option (Int × AH) :=
  bnd (f9_hasHearth x1 x4 h) fun r27 h28 =>
  if ¬ w32 r27 = 0 then
    bnd (f12_fill 61 0 h28) fun r32 h33 =>
    l3_hours_23 x1 x2 x3 x4 9 h33
  else
    some (0, h28)
set_option maxRecDepth 100000 in
theorem c3_hours (l : Launch) (G : Geo) (x1 : Nat) (x2 : Int) (x3 : Int) (x4 : Int) (h : AH) (kx1 : ok h.1 x1 9) : Con l G m3_hours rvI 4 [vA G 59, vA G x1, vI x2, vI x3, vI x4] h (f3_hours x1 x2 x3 x4 h) := by
  have hd : 4 ≤ 4 := Nat.le_refl _
  refine con_I rfl (by decide) rfl rfl (Nat.le_of_ble_eq_true rfl) (L := [some (vA G 59), some (vA G x1), some (vI x2), some (vI x3), some (vI x4), none, none, none, none]) ?_
  unfold f3_hours
  refine den_aload_n (pc := 0) d3_hours_0 rfl rfl ?_
  refine den_iload (pc := 1) d3_hours_1 rfl ?_
  refine den_callVI (pc := 3) (As := [vI x4]) fv_3_18 rfl rfl kx1 (Nat.le_of_ble_eq_true rfl) (Nat.le_trans (by decide) hd) d3_hours_3 (c9_hasHearth l G x1 x4 h kx1) (fun r27 h28 m29 o30 => ?_)
  have q31 := ok.mono kx1 m29
  refine den_if_ne (pc := 6) (tgt := 11) d3_hours_6 (by decide) rfl (fun _ => ?_) (fun _ => ?_)
  · refine den_aload_n (pc := 11) d3_hours_11 rfl rfl ?_
    refine den_getR (pc := 12) (b := 61) fa_3_15 (ok_59 _) rfl d3_hours_12 ?_
    refine den_iconst (pc := 15) d3_hours_15 ?_
    refine den_callSV (pc := 16) (As := [vA G 61, vI 0]) fs_3_24 rfl rfl (Nat.le_of_ble_eq_true rfl) (Nat.le_trans (by decide) hd) d3_hours_16 (c12_fill l G 61 0 h28 ⟨sz_lt (by decide), by decide⟩) (fun r32 h33 m34 o35 => ?_)
    have q36 := ok.mono q31 m34
    refine den_bipush (pc := 19) d3_hours_19 (by decide) ?_
    refine den_istore (pc := 21) (L2 := [some (vA G 59), some (vA G x1), some (vI x2), some (vI x3), some (vI x4), some (vI 9), none, none, none]) d3_hours_21 (by decide) rfl ?_
    exact tl3_hours_23 l G _ hd x1 x2 x3 x4 FU (9, h33) q36
  · refine den_iconst (pc := 9) d3_hours_9 ?_
    exact den_iret (pc := 10) rfl d3_hours_10
theorem d4_add_0 : decode m4_add.2.1 0 = .ok (.iload_n 2, 1) := by decide +kernel
theorem d4_add_1 : decode m4_add.2.1 1 = .ok (.ifCond .le 53, 3) := by decide +kernel
theorem d4_add_4 : decode m4_add.2.1 4 = .ok (.aload_n 0, 1) := by decide +kernel
theorem d4_add_5 : decode m4_add.2.1 5 = .ok (.getfield 27, 3) := by decide +kernel
theorem d4_add_8 : decode m4_add.2.1 8 = .ok (.sipush 168, 3) := by decide +kernel
theorem d4_add_11 : decode m4_add.2.1 11 = .ok (.if_icmp .ge 43, 3) := by decide +kernel
theorem d4_add_14 : decode m4_add.2.1 14 = .ok (.aload_n 0, 1) := by decide +kernel
theorem d4_add_15 : decode m4_add.2.1 15 = .ok (.getfield 15, 3) := by decide +kernel
theorem d4_add_18 : decode m4_add.2.1 18 = .ok (.aload_n 0, 1) := by decide +kernel
theorem d4_add_19 : decode m4_add.2.1 19 = .ok (.getfield 27, 3) := by decide +kernel
theorem d4_add_22 : decode m4_add.2.1 22 = .ok (.iload_n 1, 1) := by decide +kernel
theorem d4_add_23 : decode m4_add.2.1 23 = .ok (.iastore, 1) := by decide +kernel
theorem d4_add_24 : decode m4_add.2.1 24 = .ok (.aload_n 0, 1) := by decide +kernel
theorem d4_add_25 : decode m4_add.2.1 25 = .ok (.getfield 18, 3) := by decide +kernel
theorem d4_add_28 : decode m4_add.2.1 28 = .ok (.aload_n 0, 1) := by decide +kernel
theorem d4_add_29 : decode m4_add.2.1 29 = .ok (.getfield 27, 3) := by decide +kernel
theorem d4_add_32 : decode m4_add.2.1 32 = .ok (.iload_n 2, 1) := by decide +kernel
theorem d4_add_33 : decode m4_add.2.1 33 = .ok (.iastore, 1) := by decide +kernel
theorem d4_add_34 : decode m4_add.2.1 34 = .ok (.aload_n 0, 1) := by decide +kernel
theorem d4_add_35 : decode m4_add.2.1 35 = .ok (.getfield 21, 3) := by decide +kernel
theorem d4_add_38 : decode m4_add.2.1 38 = .ok (.aload_n 0, 1) := by decide +kernel
theorem d4_add_39 : decode m4_add.2.1 39 = .ok (.getfield 27, 3) := by decide +kernel
theorem d4_add_42 : decode m4_add.2.1 42 = .ok (.iload_n 3, 1) := by decide +kernel
theorem d4_add_43 : decode m4_add.2.1 43 = .ok (.iastore, 1) := by decide +kernel
theorem d4_add_44 : decode m4_add.2.1 44 = .ok (.aload_n 0, 1) := by decide +kernel
theorem d4_add_45 : decode m4_add.2.1 45 = .ok (.dup, 1) := by decide +kernel
theorem d4_add_46 : decode m4_add.2.1 46 = .ok (.getfield 27, 3) := by decide +kernel
theorem d4_add_49 : decode m4_add.2.1 49 = .ok (.iconst 1, 1) := by decide +kernel
theorem d4_add_50 : decode m4_add.2.1 50 = .ok (.iadd, 1) := by decide +kernel
theorem d4_add_51 : decode m4_add.2.1 51 = .ok (.putfield 27, 3) := by decide +kernel
theorem d4_add_54 : decode m4_add.2.1 54 = .ok (.return_, 1) := by decide +kernel
def f4_add (x1 : Int) (x2 : Int) (x3 : Int) (h : AH) : Option (Int × AH) :=
  if w32 x2 ≤ 0 then
    some (0, h)
  else
    if 168 ≤ w32 (h.2 53 7) then
      some (0, h)
    else
      asrt (0 ≤ w32 (h.2 53 7) ∧ w32 (h.2 53 7) < 168) <|
      lt (wr h 55 (w32 (h.2 53 7)).toNat x1) fun h2 =>
      asrt (0 ≤ w32 (h2.2 53 7) ∧ w32 (h2.2 53 7) < 168) <|
      lt (wr h2 56 (w32 (h2.2 53 7)).toNat x2) fun h5 =>
      asrt (0 ≤ w32 (h5.2 53 7) ∧ w32 (h5.2 53 7) < 168) <|
      lt (wr h5 57 (w32 (h5.2 53 7)).toNat x3) fun h8 =>
      lt (wr h8 53 7 ((h8.2 53 7) + 1)) fun h10 =>
      some (0, h10)
set_option maxRecDepth 100000 in
theorem c4_add (l : Launch) (G : Geo) (x1 : Int) (x2 : Int) (x3 : Int) (h : AH) : Con l G m4_add rvV 2 [vA G 53, vI x1, vI x2, vI x3] h (f4_add x1 x2 x3 h) := by
  have hd : 2 ≤ 2 := Nat.le_refl _
  refine con_V rfl (by decide) rfl rfl (Nat.le_of_ble_eq_true rfl) (L := [some (vA G 53), some (vI x1), some (vI x2), some (vI x3)]) ?_
  unfold f4_add
  refine den_iload_n (pc := 0) d4_add_0 rfl rfl ?_
  refine den_if_le (pc := 1) (tgt := 54) d4_add_1 (by decide) rfl (fun _ => ?_) (fun _ => ?_)
  · exact den_vret (pc := 54) rfl d4_add_54
  · refine den_aload_n (pc := 4) d4_add_4 rfl rfl ?_
    refine den_getI (pc := 5) fa_4_27 (ok_53 _) d4_add_5 ?_
    refine den_sipush (pc := 8) d4_add_8 (by decide) ?_
    refine den_icmp_ge (pc := 11) (tgt := 54) d4_add_11 (by decide) rfl (by decide) (fun _ => ?_) (fun _ => ?_)
    · exact den_vret (pc := 54) rfl d4_add_54
    · refine den_aload_n (pc := 14) d4_add_14 rfl rfl ?_
      refine den_getR (pc := 15) (b := 55) fa_4_15 (ok_53 _) rfl d4_add_15 ?_
      refine den_aload_n (pc := 18) d4_add_18 rfl rfl ?_
      refine den_getI (pc := 19) fa_4_27 (ok_53 _) d4_add_19 ?_
      refine den_iload_n (pc := 22) d4_add_22 rfl rfl ?_
      refine den_asrt (fun a1 => ?_)
      refine den_iastore (pc := 23) sh_55 (sz_lt (by decide)) rfl a1 d4_add_23 ?_
      refine den_ltH (fun h2 m3 => ?_)
      refine den_aload_n (pc := 24) d4_add_24 rfl rfl ?_
      refine den_getR (pc := 25) (b := 56) fa_4_18 (ok_53 _) rfl d4_add_25 ?_
      refine den_aload_n (pc := 28) d4_add_28 rfl rfl ?_
      refine den_getI (pc := 29) fa_4_27 (ok_53 _) d4_add_29 ?_
      refine den_iload_n (pc := 32) d4_add_32 rfl rfl ?_
      refine den_asrt (fun a4 => ?_)
      refine den_iastore (pc := 33) sh_56 (sz_lt (by decide)) rfl a4 d4_add_33 ?_
      refine den_ltH (fun h5 m6 => ?_)
      refine den_aload_n (pc := 34) d4_add_34 rfl rfl ?_
      refine den_getR (pc := 35) (b := 57) fa_4_21 (ok_53 _) rfl d4_add_35 ?_
      refine den_aload_n (pc := 38) d4_add_38 rfl rfl ?_
      refine den_getI (pc := 39) fa_4_27 (ok_53 _) d4_add_39 ?_
      refine den_iload_n (pc := 42) d4_add_42 rfl rfl ?_
      refine den_asrt (fun a7 => ?_)
      refine den_iastore (pc := 43) sh_57 (sz_lt (by decide)) rfl a7 d4_add_43 ?_
      refine den_ltH (fun h8 m9 => ?_)
      refine den_aload_n (pc := 44) d4_add_44 rfl rfl ?_
      refine den_dup (pc := 45) d4_add_45 rfl ?_
      refine den_getI (pc := 46) fa_4_27 (ok_53 _) d4_add_46 ?_
      refine den_iconst (pc := 49) d4_add_49 ?_
      refine den_iadd (pc := 50) d4_add_50 ?_
      refine den_putI (pc := 51) fp_4_27 (ok_53 _) d4_add_51 ?_
      refine den_ltH (fun h10 m11 => ?_)
      exact den_vret (pc := 54) rfl d4_add_54
theorem d4_gather_0 : decode m4_gather.2.1 0 = .ok (.aload_n 0, 1) := by decide +kernel
theorem d4_gather_1 : decode m4_gather.2.1 1 = .ok (.iconst 0, 1) := by decide +kernel
theorem d4_gather_2 : decode m4_gather.2.1 2 = .ok (.putfield 27, 3) := by decide +kernel
theorem d4_gather_5 : decode m4_gather.2.1 5 = .ok (.iconst 0, 1) := by decide +kernel
theorem d4_gather_6 : decode m4_gather.2.1 6 = .ok (.istore_n 2, 1) := by decide +kernel
theorem d4_gather_7 : decode m4_gather.2.1 7 = .ok (.iload_n 2, 1) := by decide +kernel
theorem d4_gather_8 : decode m4_gather.2.1 8 = .ok (.aload_n 1, 1) := by decide +kernel
theorem d4_gather_9 : decode m4_gather.2.1 9 = .ok (.getfield 31, 3) := by decide +kernel
theorem d4_gather_12 : decode m4_gather.2.1 12 = .ok (.if_icmp .ge 88, 3) := by decide +kernel
theorem d4_gather_15 : decode m4_gather.2.1 15 = .ok (.iconst 0, 1) := by decide +kernel
theorem d4_gather_16 : decode m4_gather.2.1 16 = .ok (.istore_n 3, 1) := by decide +kernel
theorem d4_gather_17 : decode m4_gather.2.1 17 = .ok (.iload_n 3, 1) := by decide +kernel
theorem d4_gather_18 : decode m4_gather.2.1 18 = .ok (.aload_n 1, 1) := by decide +kernel
theorem d4_gather_19 : decode m4_gather.2.1 19 = .ok (.getfield 36, 3) := by decide +kernel
theorem d4_gather_22 : decode m4_gather.2.1 22 = .ok (.if_icmp .ge 72, 3) := by decide +kernel
theorem d4_gather_25 : decode m4_gather.2.1 25 = .ok (.iload_n 3, 1) := by decide +kernel
theorem d4_gather_26 : decode m4_gather.2.1 26 = .ok (.iconst 1, 1) := by decide +kernel
theorem d4_gather_27 : decode m4_gather.2.1 27 = .ok (.iadd, 1) := by decide +kernel
theorem d4_gather_28 : decode m4_gather.2.1 28 = .ok (.istore 4, 2) := by decide +kernel
theorem d4_gather_30 : decode m4_gather.2.1 30 = .ok (.iload 4, 2) := by decide +kernel
theorem d4_gather_32 : decode m4_gather.2.1 32 = .ok (.aload_n 1, 1) := by decide +kernel
theorem d4_gather_33 : decode m4_gather.2.1 33 = .ok (.getfield 36, 3) := by decide +kernel
theorem d4_gather_36 : decode m4_gather.2.1 36 = .ok (.if_icmp .ge 52, 3) := by decide +kernel
theorem d4_gather_39 : decode m4_gather.2.1 39 = .ok (.iconst 1, 1) := by decide +kernel
theorem d4_gather_40 : decode m4_gather.2.1 40 = .ok (.iload_n 3, 1) := by decide +kernel
theorem d4_gather_41 : decode m4_gather.2.1 41 = .ok (.ishl, 1) := by decide +kernel
theorem d4_gather_42 : decode m4_gather.2.1 42 = .ok (.iconst 1, 1) := by decide +kernel
theorem d4_gather_43 : decode m4_gather.2.1 43 = .ok (.iload 4, 2) := by decide +kernel
theorem d4_gather_45 : decode m4_gather.2.1 45 = .ok (.ishl, 1) := by decide +kernel
theorem d4_gather_46 : decode m4_gather.2.1 46 = .ok (.ior, 1) := by decide +kernel
theorem d4_gather_47 : decode m4_gather.2.1 47 = .ok (.istore 5, 2) := by decide +kernel
theorem d4_gather_49 : decode m4_gather.2.1 49 = .ok (.aload_n 0, 1) := by decide +kernel
theorem d4_gather_50 : decode m4_gather.2.1 50 = .ok (.bipush 100, 2) := by decide +kernel
theorem d4_gather_52 : decode m4_gather.2.1 52 = .ok (.iload_n 2, 1) := by decide +kernel
theorem d4_gather_53 : decode m4_gather.2.1 53 = .ok (.imul, 1) := by decide +kernel
theorem d4_gather_54 : decode m4_gather.2.1 54 = .ok (.bipush 10, 2) := by decide +kernel
theorem d4_gather_56 : decode m4_gather.2.1 56 = .ok (.iload_n 3, 1) := by decide +kernel
theorem d4_gather_57 : decode m4_gather.2.1 57 = .ok (.imul, 1) := by decide +kernel
theorem d4_gather_58 : decode m4_gather.2.1 58 = .ok (.iadd, 1) := by decide +kernel
theorem d4_gather_59 : decode m4_gather.2.1 59 = .ok (.iload 4, 2) := by decide +kernel
theorem d4_gather_61 : decode m4_gather.2.1 61 = .ok (.iadd, 1) := by decide +kernel
theorem d4_gather_62 : decode m4_gather.2.1 62 = .ok (.aload_n 1, 1) := by decide +kernel
theorem d4_gather_63 : decode m4_gather.2.1 63 = .ok (.iload_n 3, 1) := by decide +kernel
theorem d4_gather_64 : decode m4_gather.2.1 64 = .ok (.iload 4, 2) := by decide +kernel
theorem d4_gather_66 : decode m4_gather.2.1 66 = .ok (.iload_n 2, 1) := by decide +kernel
theorem d4_gather_67 : decode m4_gather.2.1 67 = .ok (.invokevirtual 39, 3) := by decide +kernel
theorem d4_gather_70 : decode m4_gather.2.1 70 = .ok (.iload 5, 2) := by decide +kernel
theorem d4_gather_72 : decode m4_gather.2.1 72 = .ok (.bipush 6, 2) := by decide +kernel
theorem d4_gather_74 : decode m4_gather.2.1 74 = .ok (.ishl, 1) := by decide +kernel
theorem d4_gather_75 : decode m4_gather.2.1 75 = .ok (.iconst 1, 1) := by decide +kernel
theorem d4_gather_76 : decode m4_gather.2.1 76 = .ok (.iload_n 2, 1) := by decide +kernel
theorem d4_gather_77 : decode m4_gather.2.1 77 = .ok (.ishl, 1) := by decide +kernel
theorem d4_gather_78 : decode m4_gather.2.1 78 = .ok (.ior, 1) := by decide +kernel
theorem d4_gather_79 : decode m4_gather.2.1 79 = .ok (.invokevirtual 43, 3) := by decide +kernel
theorem d4_gather_82 : decode m4_gather.2.1 82 = .ok (.iinc 4 1, 3) := by decide +kernel
theorem d4_gather_85 : decode m4_gather.2.1 85 = .ok (.goto (-55), 3) := by decide +kernel
theorem d4_gather_88 : decode m4_gather.2.1 88 = .ok (.iinc 3 1, 3) := by decide +kernel
theorem d4_gather_91 : decode m4_gather.2.1 91 = .ok (.goto (-74), 3) := by decide +kernel
theorem d4_gather_94 : decode m4_gather.2.1 94 = .ok (.iinc 2 1, 3) := by decide +kernel
theorem d4_gather_97 : decode m4_gather.2.1 97 = .ok (.goto (-90), 3) := by decide +kernel
theorem d4_gather_100 : decode m4_gather.2.1 100 = .ok (.return_, 1) := by decide +kernel
def b4_gather_30 (rec30 : Int × AH → Option (Int × AH)) (rec7 : Int × AH → Option (Int × AH)) (rec17 : Int × AH → Option (Int × AH)) (x1 : Nat) (x2 : Int) (x3 : Int) (x4 : Int) (h : AH) : Option (Int × AH) :=
  if w32 (h.2 x1 0) ≤ w32 x4 then
    rec17 ((x3 + 1), h)
  else
    lt (or32 (shl32 1 x3) (shl32 1 x4)) fun u1 =>
    bnd (f9_burning x1 x3 x4 x2 h) fun r2 h3 =>
    bnd (f4_add (((100 * x2) + (10 * x3)) + x4) r2 (or32 (shl32 u1 6) (shl32 1 x2)) h3) fun r7 h8 =>
    rec30 ((x4 + 1), h8)
set_option maxRecDepth 100000 in
theorem t4_gather_30 (l : Launch) (G : Geo) (d : Nat) (hd : 5 ≤ d) (x1 : Nat) (x2 : Int) (x3 : Int) (x4 : Int) (rec30 : Int × AH → Option (Int × AH)) (H30 : ∀ (x4 : Int) (h : AH), ok h.1 x1 9 → Den l G m4_gather rvV d 30 [some (vA G 53), some (vA G x1), some (vI x2), some (vI x3), some (vI x4), none] [] h (rec30 (x4, h))) (rec7 : Int × AH → Option (Int × AH)) (H7 : ∀ (x2 : Int) (h : AH), ok h.1 x1 9 → Den l G m4_gather rvV d 7 [some (vA G 53), some (vA G x1), some (vI x2), none, none, none] [] h (rec7 (x2, h))) (rec17 : Int × AH → Option (Int × AH)) (H17 : ∀ (x3 : Int) (h : AH), ok h.1 x1 9 → Den l G m4_gather rvV d 17 [some (vA G 53), some (vA G x1), some (vI x2), some (vI x3), none, none] [] h (rec17 (x3, h))) (h : AH) (kx1 : ok h.1 x1 9) : Den l G m4_gather rvV d 30 [some (vA G 53), some (vA G x1), some (vI x2), some (vI x3), some (vI x4), none] [] h (b4_gather_30 rec30 rec7 rec17 x1 x2 x3 x4 h) := by
  unfold b4_gather_30
  refine den_iload (pc := 30) d4_gather_30 rfl ?_
  refine den_aload_n (pc := 32) d4_gather_32 rfl rfl ?_
  refine den_getI (pc := 33) fa_4_36 kx1 d4_gather_33 ?_
  refine den_icmp_ge (pc := 36) (tgt := 88) d4_gather_36 (by decide) rfl rfl (fun _ => ?_) (fun _ => ?_)
  · refine den_iinc (pc := 88) (L2 := [some (vA G 53), some (vA G x1), some (vI x2), some (vI (x3 + 1)), some (vI x4), none]) d4_gather_88 (by decide) rfl rfl ?_
    refine den_goto (pc := 91) (tgt := 17) d4_gather_91 (by decide) ?_
    refine den_wk [true, true, true, true, false, true] rfl ?_
    exact H17 (x3 + 1) h kx1
  · refine den_iconst (pc := 39) d4_gather_39 ?_
    refine den_iload_n (pc := 40) d4_gather_40 rfl rfl ?_
    refine den_ishl (pc := 41) d4_gather_41 ?_
    refine den_iconst (pc := 42) d4_gather_42 ?_
    refine den_iload (pc := 43) d4_gather_43 rfl ?_
    refine den_ishl (pc := 45) d4_gather_45 ?_
    refine den_ior (pc := 46) d4_gather_46 ?_
    refine den_istoreL (pc := 47) (L2 := fun y => [some (vA G 53), some (vA G x1), some (vI x2), some (vI x3), some (vI x4), some (vI y)]) d4_gather_47 (by decide) (fun _ => rfl) (fun u1 => ?_)
    refine den_aload_n (pc := 49) d4_gather_49 rfl rfl ?_
    refine den_bipush (pc := 50) d4_gather_50 (by decide) ?_
    refine den_iload_n (pc := 52) d4_gather_52 rfl rfl ?_
    refine den_imul (pc := 53) d4_gather_53 ?_
    refine den_bipush (pc := 54) d4_gather_54 (by decide) ?_
    refine den_iload_n (pc := 56) d4_gather_56 rfl rfl ?_
    refine den_imul (pc := 57) d4_gather_57 ?_
    refine den_iadd (pc := 58) d4_gather_58 ?_
    refine den_iload (pc := 59) d4_gather_59 rfl ?_
    refine den_iadd (pc := 61) d4_gather_61 ?_
    refine den_aload_n (pc := 62) d4_gather_62 rfl rfl ?_
    refine den_iload_n (pc := 63) d4_gather_63 rfl rfl ?_
    refine den_iload (pc := 64) d4_gather_64 rfl ?_
    refine den_iload_n (pc := 66) d4_gather_66 rfl rfl ?_
    refine den_callVI (pc := 67) (As := [vI x3, vI x4, vI x2]) fv_4_39 rfl rfl kx1 (Nat.le_of_ble_eq_true rfl) (Nat.le_trans (by decide) hd) d4_gather_67 (c9_burning l G x1 x3 x4 x2 h kx1) (fun r2 h3 m4 o5 => ?_)
    have q6 := ok.mono kx1 m4
    refine den_iload (pc := 70) d4_gather_70 rfl ?_
    refine den_bipush (pc := 72) d4_gather_72 (by decide) ?_
    refine den_ishl (pc := 74) d4_gather_74 ?_
    refine den_iconst (pc := 75) d4_gather_75 ?_
    refine den_iload_n (pc := 76) d4_gather_76 rfl rfl ?_
    refine den_ishl (pc := 77) d4_gather_77 ?_
    refine den_ior (pc := 78) d4_gather_78 ?_
    refine den_callVV (pc := 79) (As := [vI (((100 * x2) + (10 * x3)) + x4), vI r2, vI (or32 (shl32 u1 6) (shl32 1 x2))]) fv_4_43 rfl rfl (ok_53 _) (Nat.le_of_ble_eq_true rfl) (Nat.le_trans (by decide) hd) d4_gather_79 (c4_add l G (((100 * x2) + (10 * x3)) + x4) r2 (or32 (shl32 u1 6) (shl32 1 x2)) h3) (fun r7 h8 m9 o10 => ?_)
    have q11 := ok.mono q6 m9
    refine den_iinc (pc := 82) (L2 := [some (vA G 53), some (vA G x1), some (vI x2), some (vI x3), some (vI (x4 + 1)), some (vI u1)]) d4_gather_82 (by decide) rfl rfl ?_
    refine den_goto (pc := 85) (tgt := 30) d4_gather_85 (by decide) ?_
    refine den_wk [true, true, true, true, true, false] rfl ?_
    exact H30 (x4 + 1) h8 q11
def l4_gather_30 (rec7 : Int × AH → Option (Int × AH)) (rec17 : Int × AH → Option (Int × AH)) (x1 : Nat) (x2 : Int) (x3 : Int) (x4 : Int) (h : AH) : Option (Int × AH) := fx (fun rec z => b4_gather_30 rec rec7 rec17 x1 x2 x3 z.1 z.2) FU (x4, h)
set_option maxRecDepth 100000 in
theorem tl4_gather_30 (l : Launch) (G : Geo) (d : Nat) (hd : 5 ≤ d) (x1 : Nat) (x2 : Int) (x3 : Int) (rec7 : Int × AH → Option (Int × AH)) (H7 : ∀ (x2 : Int) (h : AH), ok h.1 x1 9 → Den l G m4_gather rvV d 7 [some (vA G 53), some (vA G x1), some (vI x2), none, none, none] [] h (rec7 (x2, h))) (rec17 : Int × AH → Option (Int × AH)) (H17 : ∀ (x3 : Int) (h : AH), ok h.1 x1 9 → Den l G m4_gather rvV d 17 [some (vA G 53), some (vA G x1), some (vI x2), some (vI x3), none, none] [] h (rec17 (x3, h))) : ∀ (n : Nat) (z : Int × AH), ok z.2.1 x1 9 → Den l G m4_gather rvV d 30 [some (vA G 53), some (vA G x1), some (vI x2), some (vI x3), some (vI z.1), none] [] z.2 (fx (fun rec z => b4_gather_30 rec rec7 rec17 x1 x2 x3 z.1 z.2) n z) :=
  den_fx (F := fun rec z => b4_gather_30 rec rec7 rec17 x1 x2 x3 z.1 z.2) (P := fun z => ok z.2.1 x1 9) (fL := fun z => [some (vA G 53), some (vA G x1), some (vI x2), some (vI x3), some (vI z.1), none]) (fs := fun z => []) (fh := fun z => z.2) (fun rec hrec z hz => t4_gather_30 l G d hd x1 x2 x3 z.1 rec (fun x4 h w0 => hrec (x4, h) w0) rec7 H7 rec17 H17 z.2 hz)
def b4_gather_17 (rec17 : Int × AH → Option (Int × AH)) (rec7 : Int × AH → Option (Int × AH)) (x1 : Nat) (x2 : Int) (x3 : Int) (h : AH) : Option (Int × AH) :=
  if w32 (h.2 x1 0) ≤ w32 x3 then
    rec7 ((x2 + 1), h)
  else
    lt (x3 + 1) fun u12 =>
    l4_gather_30 rec7 rec17 x1 x2 x3 u12 h
set_option maxRecDepth 100000 in
theorem t4_gather_17 (l : Launch) (G : Geo) (d : Nat) (hd : 5 ≤ d) (x1 : Nat) (x2 : Int) (x3 : Int) (rec17 : Int × AH → Option (Int × AH)) (H17 : ∀ (x3 : Int) (h : AH), ok h.1 x1 9 → Den l G m4_gather rvV d 17 [some (vA G 53), some (vA G x1), some (vI x2), some (vI x3), none, none] [] h (rec17 (x3, h))) (rec7 : Int × AH → Option (Int × AH)) (H7 : ∀ (x2 : Int) (h : AH), ok h.1 x1 9 → Den l G m4_gather rvV d 7 [some (vA G 53), some (vA G x1), some (vI x2), none, none, none] [] h (rec7 (x2, h))) (h : AH) (kx1 : ok h.1 x1 9) : Den l G m4_gather rvV d 17 [some (vA G 53), some (vA G x1), some (vI x2), some (vI x3), none, none] [] h (b4_gather_17 rec17 rec7 x1 x2 x3 h) := by
  unfold b4_gather_17
  refine den_iload_n (pc := 17) d4_gather_17 rfl rfl ?_
  refine den_aload_n (pc := 18) d4_gather_18 rfl rfl ?_
  refine den_getI (pc := 19) fa_4_36 kx1 d4_gather_19 ?_
  refine den_icmp_ge (pc := 22) (tgt := 94) d4_gather_22 (by decide) rfl rfl (fun _ => ?_) (fun _ => ?_)
  · refine den_iinc (pc := 94) (L2 := [some (vA G 53), some (vA G x1), some (vI (x2 + 1)), some (vI x3), none, none]) d4_gather_94 (by decide) rfl rfl ?_
    refine den_goto (pc := 97) (tgt := 7) d4_gather_97 (by decide) ?_
    refine den_wk [true, true, true, false, true, true] rfl ?_
    exact H7 (x2 + 1) h kx1
  · refine den_iload_n (pc := 25) d4_gather_25 rfl rfl ?_
    refine den_iconst (pc := 26) d4_gather_26 ?_
    refine den_iadd (pc := 27) d4_gather_27 ?_
    refine den_istoreL (pc := 28) (L2 := fun y => [some (vA G 53), some (vA G x1), some (vI x2), some (vI x3), some (vI y), none]) d4_gather_28 (by decide) (fun _ => rfl) (fun u12 => ?_)
    exact tl4_gather_30 l G _ hd x1 x2 x3 rec7 H7 rec17 H17 FU (u12, h) kx1
def l4_gather_17 (rec7 : Int × AH → Option (Int × AH)) (x1 : Nat) (x2 : Int) (x3 : Int) (h : AH) : Option (Int × AH) := fx (fun rec z => b4_gather_17 rec rec7 x1 x2 z.1 z.2) FU (x3, h)
set_option maxRecDepth 100000 in
theorem tl4_gather_17 (l : Launch) (G : Geo) (d : Nat) (hd : 5 ≤ d) (x1 : Nat) (x2 : Int) (rec7 : Int × AH → Option (Int × AH)) (H7 : ∀ (x2 : Int) (h : AH), ok h.1 x1 9 → Den l G m4_gather rvV d 7 [some (vA G 53), some (vA G x1), some (vI x2), none, none, none] [] h (rec7 (x2, h))) : ∀ (n : Nat) (z : Int × AH), ok z.2.1 x1 9 → Den l G m4_gather rvV d 17 [some (vA G 53), some (vA G x1), some (vI x2), some (vI z.1), none, none] [] z.2 (fx (fun rec z => b4_gather_17 rec rec7 x1 x2 z.1 z.2) n z) :=
  den_fx (F := fun rec z => b4_gather_17 rec rec7 x1 x2 z.1 z.2) (P := fun z => ok z.2.1 x1 9) (fL := fun z => [some (vA G 53), some (vA G x1), some (vI x2), some (vI z.1), none, none]) (fs := fun z => []) (fh := fun z => z.2) (fun rec hrec z hz => t4_gather_17 l G d hd x1 x2 z.1 rec (fun x3 h w0 => hrec (x3, h) w0) rec7 H7 z.2 hz)
def b4_gather_7 (rec7 : Int × AH → Option (Int × AH)) (x1 : Nat) (x2 : Int) (h : AH) : Option (Int × AH) :=
  if w32 (h.2 x1 1) ≤ w32 x2 then
    some (0, h)
  else
    l4_gather_17 rec7 x1 x2 0 h
set_option maxRecDepth 100000 in
theorem t4_gather_7 (l : Launch) (G : Geo) (d : Nat) (hd : 5 ≤ d) (x1 : Nat) (x2 : Int) (rec7 : Int × AH → Option (Int × AH)) (H7 : ∀ (x2 : Int) (h : AH), ok h.1 x1 9 → Den l G m4_gather rvV d 7 [some (vA G 53), some (vA G x1), some (vI x2), none, none, none] [] h (rec7 (x2, h))) (h : AH) (kx1 : ok h.1 x1 9) : Den l G m4_gather rvV d 7 [some (vA G 53), some (vA G x1), some (vI x2), none, none, none] [] h (b4_gather_7 rec7 x1 x2 h) := by
  unfold b4_gather_7
  refine den_iload_n (pc := 7) d4_gather_7 rfl rfl ?_
  refine den_aload_n (pc := 8) d4_gather_8 rfl rfl ?_
  refine den_getI (pc := 9) fa_4_31 kx1 d4_gather_9 ?_
  refine den_icmp_ge (pc := 12) (tgt := 100) d4_gather_12 (by decide) rfl rfl (fun _ => ?_) (fun _ => ?_)
  · exact den_vret (pc := 100) rfl d4_gather_100
  · refine den_iconst (pc := 15) d4_gather_15 ?_
    refine den_istore_n (pc := 16) (L2 := [some (vA G 53), some (vA G x1), some (vI x2), some (vI 0), none, none]) d4_gather_16 rfl (by decide) rfl ?_
    exact tl4_gather_17 l G _ hd x1 x2 rec7 H7 FU (0, h) kx1
def l4_gather_7 (x1 : Nat) (x2 : Int) (h : AH) : Option (Int × AH) := fx (fun rec z => b4_gather_7 rec x1 z.1 z.2) FU (x2, h)
set_option maxRecDepth 100000 in
theorem tl4_gather_7 (l : Launch) (G : Geo) (d : Nat) (hd : 5 ≤ d) (x1 : Nat) : ∀ (n : Nat) (z : Int × AH), ok z.2.1 x1 9 → Den l G m4_gather rvV d 7 [some (vA G 53), some (vA G x1), some (vI z.1), none, none, none] [] z.2 (fx (fun rec z => b4_gather_7 rec x1 z.1 z.2) n z) :=
  den_fx (F := fun rec z => b4_gather_7 rec x1 z.1 z.2) (P := fun z => ok z.2.1 x1 9) (fL := fun z => [some (vA G 53), some (vA G x1), some (vI z.1), none, none, none]) (fs := fun z => []) (fh := fun z => z.2) (fun rec hrec z hz => t4_gather_7 l G d hd x1 z.1 rec (fun x2 h w0 => hrec (x2, h) w0) z.2 hz)
def f4_gather (x1 : Nat) (h : AH) : Option (Int × AH) :=
  lt (wr h 53 7 0) fun h13 =>
  l4_gather_7 x1 0 h13
set_option maxRecDepth 100000 in
theorem c4_gather (l : Launch) (G : Geo) (x1 : Nat) (h : AH) (kx1 : ok h.1 x1 9) : Con l G m4_gather rvV 5 [vA G 53, vA G x1] h (f4_gather x1 h) := by
  have hd : 5 ≤ 5 := Nat.le_refl _
  refine con_V rfl (by decide) rfl rfl (Nat.le_of_ble_eq_true rfl) (L := [some (vA G 53), some (vA G x1), none, none, none, none]) ?_
  unfold f4_gather
  refine den_aload_n (pc := 0) d4_gather_0 rfl rfl ?_
  refine den_iconst (pc := 1) d4_gather_1 ?_
  refine den_putI (pc := 2) fp_4_27 (ok_53 _) d4_gather_2 ?_
  refine den_ltH (fun h13 m14 => ?_)
  have q15 := ok.mono kx1 m14
  refine den_iconst (pc := 5) d4_gather_5 ?_
  refine den_istore_n (pc := 6) (L2 := [some (vA G 53), some (vA G x1), some (vI 0), none, none, none]) d4_gather_6 rfl (by decide) rfl ?_
  exact tl4_gather_7 l G _ hd x1 FU (0, h13) q15
theorem d4_keyOf_0 : decode m4_keyOf.2.1 0 = .ok (.iload_n 0, 1) := by decide +kernel
theorem d4_keyOf_1 : decode m4_keyOf.2.1 1 = .ok (.bipush 7, 2) := by decide +kernel
theorem d4_keyOf_3 : decode m4_keyOf.2.1 3 = .ok (.iushr, 1) := by decide +kernel
theorem d4_keyOf_4 : decode m4_keyOf.2.1 4 = .ok (.bipush 6, 2) := by decide +kernel
theorem d4_keyOf_6 : decode m4_keyOf.2.1 6 = .ok (.ishl, 1) := by decide +kernel
theorem d4_keyOf_7 : decode m4_keyOf.2.1 7 = .ok (.istore_n 1, 1) := by decide +kernel
theorem d4_keyOf_8 : decode m4_keyOf.2.1 8 = .ok (.iload_n 0, 1) := by decide +kernel
theorem d4_keyOf_9 : decode m4_keyOf.2.1 9 = .ok (.bipush 63, 2) := by decide +kernel
theorem d4_keyOf_11 : decode m4_keyOf.2.1 11 = .ok (.iand, 1) := by decide +kernel
theorem d4_keyOf_12 : decode m4_keyOf.2.1 12 = .ok (.istore_n 2, 1) := by decide +kernel
theorem d4_keyOf_13 : decode m4_keyOf.2.1 13 = .ok (.iload_n 1, 1) := by decide +kernel
theorem d4_keyOf_14 : decode m4_keyOf.2.1 14 = .ok (.iload_n 2, 1) := by decide +kernel
theorem d4_keyOf_15 : decode m4_keyOf.2.1 15 = .ok (.ior, 1) := by decide +kernel
theorem d4_keyOf_16 : decode m4_keyOf.2.1 16 = .ok (.sipush 8191, 3) := by decide +kernel
theorem d4_keyOf_19 : decode m4_keyOf.2.1 19 = .ok (.iand, 1) := by decide +kernel
theorem d4_keyOf_20 : decode m4_keyOf.2.1 20 = .ok (.ireturn, 1) := by decide +kernel
def f4_keyOf (x0 : Int) (h : AH) : Option (Int × AH) :=
  lt (shl32 (ush32 x0 7) 6) fun u1 =>
  lt (and32 x0 63) fun u2 =>
  some (and32 (or32 u1 u2) 8191, h)
set_option maxRecDepth 100000 in
theorem c4_keyOf (l : Launch) (G : Geo) (x0 : Int) (h : AH) : Con l G m4_keyOf rvI 2 [vI x0] h (f4_keyOf x0 h) := by
  have hd : 2 ≤ 2 := Nat.le_refl _
  refine con_I rfl (by decide) rfl rfl (Nat.le_of_ble_eq_true rfl) (L := [some (vI x0), none, none]) ?_
  unfold f4_keyOf
  refine den_iload_n (pc := 0) d4_keyOf_0 rfl rfl ?_
  refine den_bipush (pc := 1) d4_keyOf_1 (by decide) ?_
  refine den_iushr (pc := 3) d4_keyOf_3 ?_
  refine den_bipush (pc := 4) d4_keyOf_4 (by decide) ?_
  refine den_ishl (pc := 6) d4_keyOf_6 ?_
  refine den_istore_nL (pc := 7) (L2 := fun y => [some (vI x0), some (vI y), none]) d4_keyOf_7 rfl (by decide) (fun _ => rfl) (fun u1 => ?_)
  refine den_iload_n (pc := 8) d4_keyOf_8 rfl rfl ?_
  refine den_bipush (pc := 9) d4_keyOf_9 (by decide) ?_
  refine den_iand (pc := 11) d4_keyOf_11 ?_
  refine den_istore_nL (pc := 12) (L2 := fun y => [some (vI x0), some (vI u1), some (vI y)]) d4_keyOf_12 rfl (by decide) (fun _ => rfl) (fun u2 => ?_)
  refine den_iload_n (pc := 13) d4_keyOf_13 rfl rfl ?_
  refine den_iload_n (pc := 14) d4_keyOf_14 rfl rfl ?_
  refine den_ior (pc := 15) d4_keyOf_15 ?_
  refine den_sipush (pc := 16) d4_keyOf_16 (by decide) ?_
  refine den_iand (pc := 19) d4_keyOf_19 ?_
  exact den_iret (pc := 20) rfl d4_keyOf_20
theorem d4_suits_0 : decode m4_suits.2.1 0 = .ok (.aload_n 0, 1) := by decide +kernel
theorem d4_suits_1 : decode m4_suits.2.1 1 = .ok (.getfield 21, 3) := by decide +kernel
theorem d4_suits_4 : decode m4_suits.2.1 4 = .ok (.iload_n 2, 1) := by decide +kernel
theorem d4_suits_5 : decode m4_suits.2.1 5 = .ok (.iaload, 1) := by decide +kernel
theorem d4_suits_6 : decode m4_suits.2.1 6 = .ok (.iload 4, 2) := by decide +kernel
theorem d4_suits_8 : decode m4_suits.2.1 8 = .ok (.iand, 1) := by decide +kernel
theorem d4_suits_9 : decode m4_suits.2.1 9 = .ok (.ifCond .ne 37, 3) := by decide +kernel
theorem d4_suits_12 : decode m4_suits.2.1 12 = .ok (.aload_n 0, 1) := by decide +kernel
theorem d4_suits_13 : decode m4_suits.2.1 13 = .ok (.getfield 18, 3) := by decide +kernel
theorem d4_suits_16 : decode m4_suits.2.1 16 = .ok (.iload_n 2, 1) := by decide +kernel
theorem d4_suits_17 : decode m4_suits.2.1 17 = .ok (.iaload, 1) := by decide +kernel
theorem d4_suits_18 : decode m4_suits.2.1 18 = .ok (.aload_n 1, 1) := by decide +kernel
theorem d4_suits_19 : decode m4_suits.2.1 19 = .ok (.getfield 88, 3) := by decide +kernel
theorem d4_suits_22 : decode m4_suits.2.1 22 = .ok (.iload_n 3, 1) := by decide +kernel
theorem d4_suits_23 : decode m4_suits.2.1 23 = .ok (.iaload, 1) := by decide +kernel
theorem d4_suits_24 : decode m4_suits.2.1 24 = .ok (.if_icmp .lt 22, 3) := by decide +kernel
theorem d4_suits_27 : decode m4_suits.2.1 27 = .ok (.aload_n 0, 1) := by decide +kernel
theorem d4_suits_28 : decode m4_suits.2.1 28 = .ok (.getfield 18, 3) := by decide +kernel
theorem d4_suits_31 : decode m4_suits.2.1 31 = .ok (.iload_n 2, 1) := by decide +kernel
theorem d4_suits_32 : decode m4_suits.2.1 32 = .ok (.iaload, 1) := by decide +kernel
theorem d4_suits_33 : decode m4_suits.2.1 33 = .ok (.aload_n 1, 1) := by decide +kernel
theorem d4_suits_34 : decode m4_suits.2.1 34 = .ok (.getfield 91, 3) := by decide +kernel
theorem d4_suits_37 : decode m4_suits.2.1 37 = .ok (.iload_n 3, 1) := by decide +kernel
theorem d4_suits_38 : decode m4_suits.2.1 38 = .ok (.iaload, 1) := by decide +kernel
theorem d4_suits_39 : decode m4_suits.2.1 39 = .ok (.if_icmp .gt 7, 3) := by decide +kernel
theorem d4_suits_42 : decode m4_suits.2.1 42 = .ok (.iconst 1, 1) := by decide +kernel
theorem d4_suits_43 : decode m4_suits.2.1 43 = .ok (.goto 4, 3) := by decide +kernel
theorem d4_suits_46 : decode m4_suits.2.1 46 = .ok (.iconst 0, 1) := by decide +kernel
theorem d4_suits_47 : decode m4_suits.2.1 47 = .ok (.ireturn, 1) := by decide +kernel
def f4_suits (x1 : Nat) (x2 : Int) (x3 : Int) (x4 : Int) (h : AH) : Option (Int × AH) :=
  asrt (0 ≤ w32 x2 ∧ w32 x2 < 168) <|
  if ¬ w32 (and32 (h.2 57 (w32 x2).toNat) x4) = 0 then
    some (0, h)
  else
    asrt (0 ≤ w32 x2 ∧ w32 x2 < 168) <|
    asrt (0 ≤ w32 x3 ∧ w32 x3 < 4) <|
    if w32 (h.2 56 (w32 x2).toNat) < w32 (h.2 (x1 + 3) (w32 x3).toNat) then
      some (0, h)
    else
      asrt (0 ≤ w32 x2 ∧ w32 x2 < 168) <|
      asrt (0 ≤ w32 x3 ∧ w32 x3 < 4) <|
      if w32 (h.2 (x1 + 4) (w32 x3).toNat) < w32 (h.2 56 (w32 x2).toNat) then
        some (0, h)
      else
        some (1, h)
set_option maxRecDepth 100000 in
theorem c4_suits (l : Launch) (G : Geo) (x1 : Nat) (x2 : Int) (x3 : Int) (x4 : Int) (h : AH) (kx1 : ok h.1 x1 9) : Con l G m4_suits rvI 2 [vA G 53, vA G x1, vI x2, vI x3, vI x4] h (f4_suits x1 x2 x3 x4 h) := by
  have hd : 2 ≤ 2 := Nat.le_refl _
  refine con_Z rfl (by decide) rfl rfl (Nat.le_of_ble_eq_true rfl) (L := [some (vA G 53), some (vA G x1), some (vI x2), some (vI x3), some (vI x4)]) ?_
  unfold f4_suits
  refine den_aload_n (pc := 0) d4_suits_0 rfl rfl ?_
  refine den_getR (pc := 1) (b := 57) fa_4_21 (ok_53 _) rfl d4_suits_1 ?_
  refine den_iload_n (pc := 4) d4_suits_4 rfl rfl ?_
  refine den_asrt (fun a1 => ?_)
  refine den_iaload (pc := 5) sh_57 (sz_lt (by decide)) rfl a1 d4_suits_5 ?_
  refine den_iload (pc := 6) d4_suits_6 rfl ?_
  refine den_iand (pc := 8) d4_suits_8 ?_
  refine den_if_ne (pc := 9) (tgt := 46) d4_suits_9 (by decide) rfl (fun _ => ?_) (fun _ => ?_)
  · refine den_iconst (pc := 46) d4_suits_46 ?_
    exact den_zret (pc := 47) rfl (by decide) d4_suits_47
  · refine den_aload_n (pc := 12) d4_suits_12 rfl rfl ?_
    refine den_getR (pc := 13) (b := 56) fa_4_18 (ok_53 _) rfl d4_suits_13 ?_
    refine den_iload_n (pc := 16) d4_suits_16 rfl rfl ?_
    refine den_asrt (fun a2 => ?_)
    refine den_iaload (pc := 17) sh_56 (sz_lt (by decide)) rfl a2 d4_suits_17 ?_
    refine den_aload_n (pc := 18) d4_suits_18 rfl rfl ?_
    refine den_getR (pc := 19) (b := x1 + 3) fa_4_88 kx1 rfl d4_suits_19 ?_
    refine den_iload_n (pc := 22) d4_suits_22 rfl rfl ?_
    refine den_asrt (fun a3 => ?_)
    refine den_iaload (pc := 23) (vil_s3 kx1) (vil_l3 kx1) rfl a3 d4_suits_23 ?_
    refine den_icmp_lt (pc := 24) (tgt := 46) d4_suits_24 (by decide) rfl rfl (fun _ => ?_) (fun _ => ?_)
    · refine den_iconst (pc := 46) d4_suits_46 ?_
      exact den_zret (pc := 47) rfl (by decide) d4_suits_47
    · refine den_aload_n (pc := 27) d4_suits_27 rfl rfl ?_
      refine den_getR (pc := 28) (b := 56) fa_4_18 (ok_53 _) rfl d4_suits_28 ?_
      refine den_iload_n (pc := 31) d4_suits_31 rfl rfl ?_
      refine den_asrt (fun a4 => ?_)
      refine den_iaload (pc := 32) sh_56 (sz_lt (by decide)) rfl a4 d4_suits_32 ?_
      refine den_aload_n (pc := 33) d4_suits_33 rfl rfl ?_
      refine den_getR (pc := 34) (b := x1 + 4) fa_4_91 kx1 rfl d4_suits_34 ?_
      refine den_iload_n (pc := 37) d4_suits_37 rfl rfl ?_
      refine den_asrt (fun a5 => ?_)
      refine den_iaload (pc := 38) (vil_s4 kx1) (vil_l4 kx1) rfl a5 d4_suits_38 ?_
      refine den_icmp_gt (pc := 39) (tgt := 46) d4_suits_39 (by decide) rfl rfl (fun _ => ?_) (fun _ => ?_)
      · refine den_iconst (pc := 46) d4_suits_46 ?_
        exact den_zret (pc := 47) rfl (by decide) d4_suits_47
      · refine den_iconst (pc := 42) d4_suits_42 ?_
        refine den_goto (pc := 43) (tgt := 47) d4_suits_43 (by decide) ?_
        exact den_zret (pc := 47) rfl (by decide) d4_suits_47
theorem d4_leastFrom_0 : decode m4_leastFrom.2.1 0 = .ok (.aload_n 1, 1) := by decide +kernel
theorem d4_leastFrom_1 : decode m4_leastFrom.2.1 1 = .ok (.iload_n 2, 1) := by decide +kernel
theorem d4_leastFrom_2 : decode m4_leastFrom.2.1 2 = .ok (.invokevirtual 70, 3) := by decide +kernel
theorem d4_leastFrom_5 : decode m4_leastFrom.2.1 5 = .ok (.ifCond .ne 5, 3) := by decide +kernel
theorem d4_leastFrom_8 : decode m4_leastFrom.2.1 8 = .ok (.iconst 0, 1) := by decide +kernel
theorem d4_leastFrom_9 : decode m4_leastFrom.2.1 9 = .ok (.ireturn, 1) := by decide +kernel
theorem d4_leastFrom_10 : decode m4_leastFrom.2.1 10 = .ok (.iload_n 3, 1) := by decide +kernel
theorem d4_leastFrom_11 : decode m4_leastFrom.2.1 11 = .ok (.invokestatic 74, 3) := by decide +kernel
theorem d4_leastFrom_14 : decode m4_leastFrom.2.1 14 = .ok (.istore 4, 2) := by decide +kernel
theorem d4_leastFrom_16 : decode m4_leastFrom.2.1 16 = .ok (.aload_n 0, 1) := by decide +kernel
theorem d4_leastFrom_17 : decode m4_leastFrom.2.1 17 = .ok (.getfield 24, 3) := by decide +kernel
theorem d4_leastFrom_20 : decode m4_leastFrom.2.1 20 = .ok (.iload 4, 2) := by decide +kernel
theorem d4_leastFrom_22 : decode m4_leastFrom.2.1 22 = .ok (.iaload, 1) := by decide +kernel
theorem d4_leastFrom_23 : decode m4_leastFrom.2.1 23 = .ok (.iconst (-1), 1) := by decide +kernel
theorem d4_leastFrom_24 : decode m4_leastFrom.2.1 24 = .ok (.if_icmp .ne 79, 3) := by decide +kernel
theorem d4_leastFrom_27 : decode m4_leastFrom.2.1 27 = .ok (.sipush 1000, 3) := by decide +kernel
theorem d4_leastFrom_30 : decode m4_leastFrom.2.1 30 = .ok (.istore 5, 2) := by decide +kernel
theorem d4_leastFrom_32 : decode m4_leastFrom.2.1 32 = .ok (.iconst 0, 1) := by decide +kernel
theorem d4_leastFrom_33 : decode m4_leastFrom.2.1 33 = .ok (.istore 6, 2) := by decide +kernel
theorem d4_leastFrom_35 : decode m4_leastFrom.2.1 35 = .ok (.iload 6, 2) := by decide +kernel
theorem d4_leastFrom_37 : decode m4_leastFrom.2.1 37 = .ok (.aload_n 0, 1) := by decide +kernel
theorem d4_leastFrom_38 : decode m4_leastFrom.2.1 38 = .ok (.getfield 27, 3) := by decide +kernel
theorem d4_leastFrom_41 : decode m4_leastFrom.2.1 41 = .ok (.if_icmp .ge 53, 3) := by decide +kernel
theorem d4_leastFrom_44 : decode m4_leastFrom.2.1 44 = .ok (.aload_n 0, 1) := by decide +kernel
theorem d4_leastFrom_45 : decode m4_leastFrom.2.1 45 = .ok (.aload_n 1, 1) := by decide +kernel
theorem d4_leastFrom_46 : decode m4_leastFrom.2.1 46 = .ok (.iload 6, 2) := by decide +kernel
theorem d4_leastFrom_48 : decode m4_leastFrom.2.1 48 = .ok (.iload_n 2, 1) := by decide +kernel
theorem d4_leastFrom_49 : decode m4_leastFrom.2.1 49 = .ok (.iload_n 3, 1) := by decide +kernel
theorem d4_leastFrom_50 : decode m4_leastFrom.2.1 50 = .ok (.invokevirtual 78, 3) := by decide +kernel
theorem d4_leastFrom_53 : decode m4_leastFrom.2.1 53 = .ok (.ifCond .eq 35, 3) := by decide +kernel
theorem d4_leastFrom_56 : decode m4_leastFrom.2.1 56 = .ok (.iload 5, 2) := by decide +kernel
theorem d4_leastFrom_58 : decode m4_leastFrom.2.1 58 = .ok (.aload_n 0, 1) := by decide +kernel
theorem d4_leastFrom_59 : decode m4_leastFrom.2.1 59 = .ok (.getfield 18, 3) := by decide +kernel
theorem d4_leastFrom_62 : decode m4_leastFrom.2.1 62 = .ok (.iload 6, 2) := by decide +kernel
theorem d4_leastFrom_64 : decode m4_leastFrom.2.1 64 = .ok (.iaload, 1) := by decide +kernel
theorem d4_leastFrom_65 : decode m4_leastFrom.2.1 65 = .ok (.aload_n 0, 1) := by decide +kernel
theorem d4_leastFrom_66 : decode m4_leastFrom.2.1 66 = .ok (.aload_n 1, 1) := by decide +kernel
theorem d4_leastFrom_67 : decode m4_leastFrom.2.1 67 = .ok (.iload_n 2, 1) := by decide +kernel
theorem d4_leastFrom_68 : decode m4_leastFrom.2.1 68 = .ok (.iconst 1, 1) := by decide +kernel
theorem d4_leastFrom_69 : decode m4_leastFrom.2.1 69 = .ok (.iadd, 1) := by decide +kernel
theorem d4_leastFrom_70 : decode m4_leastFrom.2.1 70 = .ok (.iload_n 3, 1) := by decide +kernel
theorem d4_leastFrom_71 : decode m4_leastFrom.2.1 71 = .ok (.aload_n 0, 1) := by decide +kernel
theorem d4_leastFrom_72 : decode m4_leastFrom.2.1 72 = .ok (.getfield 21, 3) := by decide +kernel
theorem d4_leastFrom_75 : decode m4_leastFrom.2.1 75 = .ok (.iload 6, 2) := by decide +kernel
theorem d4_leastFrom_77 : decode m4_leastFrom.2.1 77 = .ok (.iaload, 1) := by decide +kernel
theorem d4_leastFrom_78 : decode m4_leastFrom.2.1 78 = .ok (.ior, 1) := by decide +kernel
theorem d4_leastFrom_79 : decode m4_leastFrom.2.1 79 = .ok (.invokevirtual 57, 3) := by decide +kernel
theorem d4_leastFrom_82 : decode m4_leastFrom.2.1 82 = .ok (.iadd, 1) := by decide +kernel
theorem d4_leastFrom_83 : decode m4_leastFrom.2.1 83 = .ok (.invokestatic 82, 3) := by decide +kernel
theorem d4_leastFrom_86 : decode m4_leastFrom.2.1 86 = .ok (.istore 5, 2) := by decide +kernel
theorem d4_leastFrom_88 : decode m4_leastFrom.2.1 88 = .ok (.iinc 6 1, 3) := by decide +kernel
theorem d4_leastFrom_91 : decode m4_leastFrom.2.1 91 = .ok (.goto (-56), 3) := by decide +kernel
theorem d4_leastFrom_94 : decode m4_leastFrom.2.1 94 = .ok (.aload_n 0, 1) := by decide +kernel
theorem d4_leastFrom_95 : decode m4_leastFrom.2.1 95 = .ok (.getfield 24, 3) := by decide +kernel
theorem d4_leastFrom_98 : decode m4_leastFrom.2.1 98 = .ok (.iload 4, 2) := by decide +kernel
theorem d4_leastFrom_100 : decode m4_leastFrom.2.1 100 = .ok (.iload 5, 2) := by decide +kernel
theorem d4_leastFrom_102 : decode m4_leastFrom.2.1 102 = .ok (.iastore, 1) := by decide +kernel
theorem d4_leastFrom_103 : decode m4_leastFrom.2.1 103 = .ok (.aload_n 0, 1) := by decide +kernel
theorem d4_leastFrom_104 : decode m4_leastFrom.2.1 104 = .ok (.getfield 24, 3) := by decide +kernel
theorem d4_leastFrom_107 : decode m4_leastFrom.2.1 107 = .ok (.iload 4, 2) := by decide +kernel
theorem d4_leastFrom_109 : decode m4_leastFrom.2.1 109 = .ok (.iaload, 1) := by decide +kernel
theorem d4_leastFrom_110 : decode m4_leastFrom.2.1 110 = .ok (.ireturn, 1) := by decide +kernel
def b4_leastFrom_88 (self : Nat → Int → Int → AH → Option (Int × AH)) (rec35 : Int × Int × AH → Option (Int × AH)) (x1 : Nat) (x2 : Int) (x3 : Int) (x4 : Int) (x5 : Int) (x6 : Int) (h : AH) : Option (Int × AH) :=
  rec35 (x5, (x6 + 1), h)
set_option maxRecDepth 100000 in
theorem t4_leastFrom_88 (l : Launch) (G : Geo) (d : Nat) (hd : 3 ≤ d) (self : Nat → Int → Int → AH → Option (Int × AH)) (d2 : Nat) (hd2 : d2 + 1 ≤ d) (hself : ∀ (x1 : Nat) (x2 : Int) (x3 : Int) (h : AH), ok h.1 x1 9 → Con l G m4_leastFrom rvI d2 [vA G 53, vA G x1, vI x2, vI x3] h (self x1 x2 x3 h)) (x1 : Nat) (x2 : Int) (x3 : Int) (x4 : Int) (x5 : Int) (x6 : Int) (rec35 : Int × Int × AH → Option (Int × AH)) (H35 : ∀ (x5 : Int) (x6 : Int) (h : AH), ok h.1 x1 9 → Den l G m4_leastFrom rvI d 35 [some (vA G 53), some (vA G x1), some (vI x2), some (vI x3), some (vI x4), some (vI x5), some (vI x6)] [] h (rec35 (x5, x6, h))) (h : AH) (kx1 : ok h.1 x1 9) : Den l G m4_leastFrom rvI d 88 [some (vA G 53), some (vA G x1), some (vI x2), some (vI x3), some (vI x4), some (vI x5), some (vI x6)] [] h (b4_leastFrom_88 self rec35 x1 x2 x3 x4 x5 x6 h) := by
  unfold b4_leastFrom_88
  refine den_iinc (pc := 88) (L2 := [some (vA G 53), some (vA G x1), some (vI x2), some (vI x3), some (vI x4), some (vI x5), some (vI (x6 + 1))]) d4_leastFrom_88 (by decide) rfl rfl ?_
  refine den_goto (pc := 91) (tgt := 35) d4_leastFrom_91 (by decide) ?_
  exact H35 x5 (x6 + 1) h kx1
def b4_leastFrom_103 (self : Nat → Int → Int → AH → Option (Int × AH)) (x4 : Int) (h : AH) : Option (Int × AH) :=
  asrt (0 ≤ w32 x4 ∧ w32 x4 < 8192) <|
  some (h.2 58 (w32 x4).toNat, h)
set_option maxRecDepth 100000 in
theorem t4_leastFrom_103 (l : Launch) (G : Geo) (d : Nat) (hd : 3 ≤ d) (self : Nat → Int → Int → AH → Option (Int × AH)) (d2 : Nat) (hd2 : d2 + 1 ≤ d) (hself : ∀ (x1 : Nat) (x2 : Int) (x3 : Int) (h : AH), ok h.1 x1 9 → Con l G m4_leastFrom rvI d2 [vA G 53, vA G x1, vI x2, vI x3] h (self x1 x2 x3 h)) (x4 : Int) (h : AH) : Den l G m4_leastFrom rvI d 103 [some (vA G 53), none, none, none, some (vI x4), none, none] [] h (b4_leastFrom_103 self x4 h) := by
  unfold b4_leastFrom_103
  refine den_aload_n (pc := 103) d4_leastFrom_103 rfl rfl ?_
  refine den_getR (pc := 104) (b := 58) fa_4_24 (ok_53 _) rfl d4_leastFrom_104 ?_
  refine den_iload (pc := 107) d4_leastFrom_107 rfl ?_
  refine den_asrt (fun a1 => ?_)
  refine den_iaload (pc := 109) sh_58 (sz_lt (by decide)) rfl a1 d4_leastFrom_109 ?_
  exact den_iret (pc := 110) rfl d4_leastFrom_110
def b4_leastFrom_35 (self : Nat → Int → Int → AH → Option (Int × AH)) (rec35 : Int × Int × AH → Option (Int × AH)) (x1 : Nat) (x2 : Int) (x3 : Int) (x4 : Int) (x5 : Int) (x6 : Int) (h : AH) : Option (Int × AH) :=
  if w32 (h.2 53 7) ≤ w32 x6 then
    asrt (0 ≤ w32 x4 ∧ w32 x4 < 8192) <|
    lt (wr h 58 (w32 x4).toNat x5) fun h3 =>
    b4_leastFrom_103 self x4 h3
  else
    bnd (f4_suits x1 x6 x2 x3 h) fun r6 h7 =>
    if w32 r6 = 0 then
      b4_leastFrom_88 self rec35 x1 x2 x3 x4 x5 x6 h7
    else
      asrt (0 ≤ w32 x6 ∧ w32 x6 < 168) <|
      asrt (0 ≤ w32 x6 ∧ w32 x6 < 168) <|
      bnd (self x1 (x2 + 1) (or32 x3 (h7.2 57 (w32 x6).toNat)) h7) fun r13 h14 =>
      lt (min32 x5 ((h7.2 56 (w32 x6).toNat) + r13)) fun u18 =>
      b4_leastFrom_88 self rec35 x1 x2 x3 x4 u18 x6 h14
set_option maxRecDepth 100000 in
theorem t4_leastFrom_35 (l : Launch) (G : Geo) (d : Nat) (hd : 3 ≤ d) (self : Nat → Int → Int → AH → Option (Int × AH)) (d2 : Nat) (hd2 : d2 + 1 ≤ d) (hself : ∀ (x1 : Nat) (x2 : Int) (x3 : Int) (h : AH), ok h.1 x1 9 → Con l G m4_leastFrom rvI d2 [vA G 53, vA G x1, vI x2, vI x3] h (self x1 x2 x3 h)) (x1 : Nat) (x2 : Int) (x3 : Int) (x4 : Int) (x5 : Int) (x6 : Int) (rec35 : Int × Int × AH → Option (Int × AH)) (H35 : ∀ (x5 : Int) (x6 : Int) (h : AH), ok h.1 x1 9 → Den l G m4_leastFrom rvI d 35 [some (vA G 53), some (vA G x1), some (vI x2), some (vI x3), some (vI x4), some (vI x5), some (vI x6)] [] h (rec35 (x5, x6, h))) (h : AH) (kx1 : ok h.1 x1 9) : Den l G m4_leastFrom rvI d 35 [some (vA G 53), some (vA G x1), some (vI x2), some (vI x3), some (vI x4), some (vI x5), some (vI x6)] [] h (b4_leastFrom_35 self rec35 x1 x2 x3 x4 x5 x6 h) := by
  unfold b4_leastFrom_35
  refine den_iload (pc := 35) d4_leastFrom_35 rfl ?_
  refine den_aload_n (pc := 37) d4_leastFrom_37 rfl rfl ?_
  refine den_getI (pc := 38) fa_4_27 (ok_53 _) d4_leastFrom_38 ?_
  refine den_icmp_ge (pc := 41) (tgt := 94) d4_leastFrom_41 (by decide) rfl rfl (fun _ => ?_) (fun _ => ?_)
  · refine den_aload_n (pc := 94) d4_leastFrom_94 rfl rfl ?_
    refine den_getR (pc := 95) (b := 58) fa_4_24 (ok_53 _) rfl d4_leastFrom_95 ?_
    refine den_iload (pc := 98) d4_leastFrom_98 rfl ?_
    refine den_iload (pc := 100) d4_leastFrom_100 rfl ?_
    refine den_asrt (fun a2 => ?_)
    refine den_iastore (pc := 102) sh_58 (sz_lt (by decide)) rfl a2 d4_leastFrom_102 ?_
    refine den_ltH (fun h3 m4 => ?_)
    have q5 := ok.mono kx1 m4
    refine den_wk [true, false, false, false, true, false, false] rfl ?_
    exact t4_leastFrom_103 l G _ hd self d2 hd2 hself x4 h3
  · refine den_aload_n (pc := 44) d4_leastFrom_44 rfl rfl ?_
    refine den_aload_n (pc := 45) d4_leastFrom_45 rfl rfl ?_
    refine den_iload (pc := 46) d4_leastFrom_46 rfl ?_
    refine den_iload_n (pc := 48) d4_leastFrom_48 rfl rfl ?_
    refine den_iload_n (pc := 49) d4_leastFrom_49 rfl rfl ?_
    refine den_callVI (pc := 50) (As := [vA G x1, vI x6, vI x2, vI x3]) fv_4_78 rfl rfl (ok_53 _) (Nat.le_of_ble_eq_true rfl) (Nat.le_trans (by decide) hd) d4_leastFrom_50 (c4_suits l G x1 x6 x2 x3 h kx1) (fun r6 h7 m8 o9 => ?_)
    have q10 := ok.mono kx1 m8
    refine den_if_eq (pc := 53) (tgt := 88) d4_leastFrom_53 (by decide) rfl (fun _ => ?_) (fun _ => ?_)
    · exact t4_leastFrom_88 l G _ hd self d2 hd2 hself x1 x2 x3 x4 x5 x6 rec35 H35 h7 q10
    · refine den_iload (pc := 56) d4_leastFrom_56 rfl ?_
      refine den_aload_n (pc := 58) d4_leastFrom_58 rfl rfl ?_
      refine den_getR (pc := 59) (b := 56) fa_4_18 (ok_53 _) rfl d4_leastFrom_59 ?_
      refine den_iload (pc := 62) d4_leastFrom_62 rfl ?_
      refine den_asrt (fun a11 => ?_)
      refine den_iaload (pc := 64) sh_56 (sz_lt (by decide)) rfl a11 d4_leastFrom_64 ?_
      refine den_aload_n (pc := 65) d4_leastFrom_65 rfl rfl ?_
      refine den_aload_n (pc := 66) d4_leastFrom_66 rfl rfl ?_
      refine den_iload_n (pc := 67) d4_leastFrom_67 rfl rfl ?_
      refine den_iconst (pc := 68) d4_leastFrom_68 ?_
      refine den_iadd (pc := 69) d4_leastFrom_69 ?_
      refine den_iload_n (pc := 70) d4_leastFrom_70 rfl rfl ?_
      refine den_aload_n (pc := 71) d4_leastFrom_71 rfl rfl ?_
      refine den_getR (pc := 72) (b := 57) fa_4_21 (ok_53 _) rfl d4_leastFrom_72 ?_
      refine den_iload (pc := 75) d4_leastFrom_75 rfl ?_
      refine den_asrt (fun a12 => ?_)
      refine den_iaload (pc := 77) sh_57 (sz_lt (by decide)) rfl a12 d4_leastFrom_77 ?_
      refine den_ior (pc := 78) d4_leastFrom_78 ?_
      refine den_callVI (pc := 79) (As := [vA G x1, vI (x2 + 1), vI (or32 x3 (h7.2 57 (w32 x6).toNat))]) fv_4_57 rfl rfl (ok_53 _) (Nat.le_of_ble_eq_true rfl) hd2 d4_leastFrom_79 (hself x1 (x2 + 1) (or32 x3 (h7.2 57 (w32 x6).toNat)) h7 q10) (fun r13 h14 m15 o16 => ?_)
      have q17 := ok.mono q10 m15
      refine den_iadd (pc := 82) d4_leastFrom_82 ?_
      refine den_min (pc := 83) fm_4_82 (Nat.le_of_ble_eq_true rfl) (Nat.le_trans (by decide) hd) d4_leastFrom_83 ?_
      refine den_istoreL (pc := 86) (L2 := fun y => [some (vA G 53), some (vA G x1), some (vI x2), some (vI x3), some (vI x4), some (vI y), some (vI x6)]) d4_leastFrom_86 (by decide) (fun _ => rfl) (fun u18 => ?_)
      exact t4_leastFrom_88 l G _ hd self d2 hd2 hself x1 x2 x3 x4 u18 x6 rec35 H35 h14 q17
def l4_leastFrom_35 (self : Nat → Int → Int → AH → Option (Int × AH)) (x1 : Nat) (x2 : Int) (x3 : Int) (x4 : Int) (x5 : Int) (x6 : Int) (h : AH) : Option (Int × AH) := fx (fun rec z => b4_leastFrom_35 self rec x1 x2 x3 x4 z.1 z.2.1 z.2.2) FU (x5, x6, h)
set_option maxRecDepth 100000 in
theorem tl4_leastFrom_35 (l : Launch) (G : Geo) (d : Nat) (hd : 3 ≤ d) (self : Nat → Int → Int → AH → Option (Int × AH)) (d2 : Nat) (hd2 : d2 + 1 ≤ d) (hself : ∀ (x1 : Nat) (x2 : Int) (x3 : Int) (h : AH), ok h.1 x1 9 → Con l G m4_leastFrom rvI d2 [vA G 53, vA G x1, vI x2, vI x3] h (self x1 x2 x3 h)) (x1 : Nat) (x2 : Int) (x3 : Int) (x4 : Int) : ∀ (n : Nat) (z : Int × Int × AH), ok z.2.2.1 x1 9 → Den l G m4_leastFrom rvI d 35 [some (vA G 53), some (vA G x1), some (vI x2), some (vI x3), some (vI x4), some (vI z.1), some (vI z.2.1)] [] z.2.2 (fx (fun rec z => b4_leastFrom_35 self rec x1 x2 x3 x4 z.1 z.2.1 z.2.2) n z) :=
  den_fx (F := fun rec z => b4_leastFrom_35 self rec x1 x2 x3 x4 z.1 z.2.1 z.2.2) (P := fun z => ok z.2.2.1 x1 9) (fL := fun z => [some (vA G 53), some (vA G x1), some (vI x2), some (vI x3), some (vI x4), some (vI z.1), some (vI z.2.1)]) (fs := fun z => []) (fh := fun z => z.2.2) (fun rec hrec z hz => t4_leastFrom_35 l G d hd self d2 hd2 hself x1 x2 x3 x4 z.1 z.2.1 rec (fun x5 x6 h w0 => hrec (x5, x6, h) w0) z.2.2 hz)
def e4_leastFrom (self : Nat → Int → Int → AH → Option (Int × AH)) (x1 : Nat) (x2 : Int) (x3 : Int) (h : AH) : Option (Int × AH) :=
  bnd (f9_hasHearth x1 x2 h) fun r19 h20 =>
  if ¬ w32 r19 = 0 then
    bnd (f4_keyOf x3 h20) fun r24 h25 =>
    asrt (0 ≤ w32 r24 ∧ w32 r24 < 8192) <|
    if ¬ w32 (h25.2 58 (w32 r24).toNat) = (-1) then
      b4_leastFrom_103 self r24 h25
    else
      l4_leastFrom_35 self x1 x2 x3 r24 1000 0 h25
  else
    some (0, h20)
def f4_leastFrom : Nat → Nat → Int → Int → AH → Option (Int × AH)
  | 0 => fun _ _ _ _ => none
  | n + 1 => fun x1 x2 x3 h => e4_leastFrom (f4_leastFrom n) x1 x2 x3 h
set_option maxRecDepth 100000 in
theorem t4_leastFrom_e (l : Launch) (G : Geo) (d : Nat) (hd : 3 ≤ d) (self : Nat → Int → Int → AH → Option (Int × AH)) (d2 : Nat) (hd2 : d2 + 1 ≤ d) (hself : ∀ (x1 : Nat) (x2 : Int) (x3 : Int) (h : AH), ok h.1 x1 9 → Con l G m4_leastFrom rvI d2 [vA G 53, vA G x1, vI x2, vI x3] h (self x1 x2 x3 h)) (x1 : Nat) (x2 : Int) (x3 : Int) (h : AH) (kx1 : ok h.1 x1 9) : Den l G m4_leastFrom rvI d 0 [some (vA G 53), some (vA G x1), some (vI x2), some (vI x3), none, none, none] [] h (e4_leastFrom self x1 x2 x3 h) := by
  unfold e4_leastFrom
  refine den_aload_n (pc := 0) d4_leastFrom_0 rfl rfl ?_
  refine den_iload_n (pc := 1) d4_leastFrom_1 rfl rfl ?_
  refine den_callVI (pc := 2) (As := [vI x2]) fv_4_70 rfl rfl kx1 (Nat.le_of_ble_eq_true rfl) (Nat.le_trans (by decide) hd) d4_leastFrom_2 (c9_hasHearth l G x1 x2 h kx1) (fun r19 h20 m21 o22 => ?_)
  have q23 := ok.mono kx1 m21
  refine den_if_ne (pc := 5) (tgt := 10) d4_leastFrom_5 (by decide) rfl (fun _ => ?_) (fun _ => ?_)
  · refine den_iload_n (pc := 10) d4_leastFrom_10 rfl rfl ?_
    refine den_callSI (pc := 11) (As := [vI x3]) fs_4_74 rfl rfl (Nat.le_of_ble_eq_true rfl) (Nat.le_trans (by decide) hd) d4_leastFrom_11 (c4_keyOf l G x3 h20) (fun r24 h25 m26 o27 => ?_)
    have q28 := ok.mono q23 m26
    refine den_istore (pc := 14) (L2 := [some (vA G 53), some (vA G x1), some (vI x2), some (vI x3), some (vI r24), none, none]) d4_leastFrom_14 (by decide) rfl ?_
    refine den_aload_n (pc := 16) d4_leastFrom_16 rfl rfl ?_
    refine den_getR (pc := 17) (b := 58) fa_4_24 (ok_53 _) rfl d4_leastFrom_17 ?_
    refine den_iload (pc := 20) d4_leastFrom_20 rfl ?_
    refine den_asrt (fun a29 => ?_)
    refine den_iaload (pc := 22) sh_58 (sz_lt (by decide)) rfl a29 d4_leastFrom_22 ?_
    refine den_iconst (pc := 23) d4_leastFrom_23 ?_
    refine den_icmp_ne (pc := 24) (tgt := 103) d4_leastFrom_24 (by decide) rfl (by decide) (fun _ => ?_) (fun _ => ?_)
    · refine den_wk [true, false, false, false, true, true, true] rfl ?_
      exact t4_leastFrom_103 l G _ hd self d2 hd2 hself r24 h25
    · refine den_sipush (pc := 27) d4_leastFrom_27 (by decide) ?_
      refine den_istore (pc := 30) (L2 := [some (vA G 53), some (vA G x1), some (vI x2), some (vI x3), some (vI r24), some (vI 1000), none]) d4_leastFrom_30 (by decide) rfl ?_
      refine den_iconst (pc := 32) d4_leastFrom_32 ?_
      refine den_istore (pc := 33) (L2 := [some (vA G 53), some (vA G x1), some (vI x2), some (vI x3), some (vI r24), some (vI 1000), some (vI 0)]) d4_leastFrom_33 (by decide) rfl ?_
      exact tl4_leastFrom_35 l G _ hd self d2 hd2 hself x1 x2 x3 r24 FU (1000, 0, h25) q28
  · refine den_iconst (pc := 8) d4_leastFrom_8 ?_
    exact den_iret (pc := 9) rfl d4_leastFrom_9
theorem c4_leastFrom (l : Launch) (G : Geo) : ∀ (n : Nat) (x1 : Nat) (x2 : Int) (x3 : Int) (h : AH) (kx1 : ok h.1 x1 9) , Con l G m4_leastFrom rvI (3 + n) [vA G 53, vA G x1, vI x2, vI x3] h (f4_leastFrom n x1 x2 x3 h) := by
  intro n
  induction n with
  | zero =>
    intro x1 x2 x3 h kx1 r h2 q
    cases q
  | succ n ih =>
    intro x1 x2 x3 h kx1
    exact con_I rfl (by decide) rfl rfl (Nat.le_of_ble_eq_true rfl) (t4_leastFrom_e l G _ (Nat.le_add_right _ _) (f4_leastFrom n) (3 + n) (Nat.le_refl _) ih x1 x2 x3 h kx1)
theorem d4_chooseFirst_0 : decode m4_chooseFirst.2.1 0 = .ok (.aload_n 0, 1) := by decide +kernel
theorem d4_chooseFirst_1 : decode m4_chooseFirst.2.1 1 = .ok (.aload_n 1, 1) := by decide +kernel
theorem d4_chooseFirst_2 : decode m4_chooseFirst.2.1 2 = .ok (.iload_n 2, 1) := by decide +kernel
theorem d4_chooseFirst_3 : decode m4_chooseFirst.2.1 3 = .ok (.iload_n 3, 1) := by decide +kernel
theorem d4_chooseFirst_4 : decode m4_chooseFirst.2.1 4 = .ok (.invokevirtual 57, 3) := by decide +kernel
theorem d4_chooseFirst_7 : decode m4_chooseFirst.2.1 7 = .ok (.istore 4, 2) := by decide +kernel
theorem d4_chooseFirst_9 : decode m4_chooseFirst.2.1 9 = .ok (.iconst 0, 1) := by decide +kernel
theorem d4_chooseFirst_10 : decode m4_chooseFirst.2.1 10 = .ok (.istore 5, 2) := by decide +kernel
theorem d4_chooseFirst_12 : decode m4_chooseFirst.2.1 12 = .ok (.iload 5, 2) := by decide +kernel
theorem d4_chooseFirst_14 : decode m4_chooseFirst.2.1 14 = .ok (.aload_n 0, 1) := by decide +kernel
theorem d4_chooseFirst_15 : decode m4_chooseFirst.2.1 15 = .ok (.getfield 27, 3) := by decide +kernel
theorem d4_chooseFirst_18 : decode m4_chooseFirst.2.1 18 = .ok (.if_icmp .ge 72, 3) := by decide +kernel
theorem d4_chooseFirst_21 : decode m4_chooseFirst.2.1 21 = .ok (.aload_n 0, 1) := by decide +kernel
theorem d4_chooseFirst_22 : decode m4_chooseFirst.2.1 22 = .ok (.aload_n 1, 1) := by decide +kernel
theorem d4_chooseFirst_23 : decode m4_chooseFirst.2.1 23 = .ok (.iload 5, 2) := by decide +kernel
theorem d4_chooseFirst_25 : decode m4_chooseFirst.2.1 25 = .ok (.iload_n 2, 1) := by decide +kernel
theorem d4_chooseFirst_26 : decode m4_chooseFirst.2.1 26 = .ok (.iload_n 3, 1) := by decide +kernel
theorem d4_chooseFirst_27 : decode m4_chooseFirst.2.1 27 = .ok (.invokevirtual 78, 3) := by decide +kernel
theorem d4_chooseFirst_30 : decode m4_chooseFirst.2.1 30 = .ok (.ifCond .eq 54, 3) := by decide +kernel
theorem d4_chooseFirst_33 : decode m4_chooseFirst.2.1 33 = .ok (.aload_n 0, 1) := by decide +kernel
theorem d4_chooseFirst_34 : decode m4_chooseFirst.2.1 34 = .ok (.getfield 18, 3) := by decide +kernel
theorem d4_chooseFirst_37 : decode m4_chooseFirst.2.1 37 = .ok (.iload 5, 2) := by decide +kernel
theorem d4_chooseFirst_39 : decode m4_chooseFirst.2.1 39 = .ok (.iaload, 1) := by decide +kernel
theorem d4_chooseFirst_40 : decode m4_chooseFirst.2.1 40 = .ok (.aload_n 0, 1) := by decide +kernel
theorem d4_chooseFirst_41 : decode m4_chooseFirst.2.1 41 = .ok (.aload_n 1, 1) := by decide +kernel
theorem d4_chooseFirst_42 : decode m4_chooseFirst.2.1 42 = .ok (.iload_n 2, 1) := by decide +kernel
theorem d4_chooseFirst_43 : decode m4_chooseFirst.2.1 43 = .ok (.iconst 1, 1) := by decide +kernel
theorem d4_chooseFirst_44 : decode m4_chooseFirst.2.1 44 = .ok (.iadd, 1) := by decide +kernel
theorem d4_chooseFirst_45 : decode m4_chooseFirst.2.1 45 = .ok (.iload_n 3, 1) := by decide +kernel
theorem d4_chooseFirst_46 : decode m4_chooseFirst.2.1 46 = .ok (.aload_n 0, 1) := by decide +kernel
theorem d4_chooseFirst_47 : decode m4_chooseFirst.2.1 47 = .ok (.getfield 21, 3) := by decide +kernel
theorem d4_chooseFirst_50 : decode m4_chooseFirst.2.1 50 = .ok (.iload 5, 2) := by decide +kernel
theorem d4_chooseFirst_52 : decode m4_chooseFirst.2.1 52 = .ok (.iaload, 1) := by decide +kernel
theorem d4_chooseFirst_53 : decode m4_chooseFirst.2.1 53 = .ok (.ior, 1) := by decide +kernel
theorem d4_chooseFirst_54 : decode m4_chooseFirst.2.1 54 = .ok (.invokevirtual 57, 3) := by decide +kernel
theorem d4_chooseFirst_57 : decode m4_chooseFirst.2.1 57 = .ok (.iadd, 1) := by decide +kernel
theorem d4_chooseFirst_58 : decode m4_chooseFirst.2.1 58 = .ok (.iload 4, 2) := by decide +kernel
theorem d4_chooseFirst_60 : decode m4_chooseFirst.2.1 60 = .ok (.if_icmp .ne 24, 3) := by decide +kernel
theorem d4_chooseFirst_63 : decode m4_chooseFirst.2.1 63 = .ok (.aload_n 0, 1) := by decide +kernel
theorem d4_chooseFirst_64 : decode m4_chooseFirst.2.1 64 = .ok (.getfield 9, 3) := by decide +kernel
theorem d4_chooseFirst_67 : decode m4_chooseFirst.2.1 67 = .ok (.iload_n 2, 1) := by decide +kernel
theorem d4_chooseFirst_68 : decode m4_chooseFirst.2.1 68 = .ok (.aload_n 0, 1) := by decide +kernel
theorem d4_chooseFirst_69 : decode m4_chooseFirst.2.1 69 = .ok (.getfield 15, 3) := by decide +kernel
theorem d4_chooseFirst_72 : decode m4_chooseFirst.2.1 72 = .ok (.iload 5, 2) := by decide +kernel
theorem d4_chooseFirst_74 : decode m4_chooseFirst.2.1 74 = .ok (.iaload, 1) := by decide +kernel
theorem d4_chooseFirst_75 : decode m4_chooseFirst.2.1 75 = .ok (.iastore, 1) := by decide +kernel
theorem d4_chooseFirst_76 : decode m4_chooseFirst.2.1 76 = .ok (.aload_n 0, 1) := by decide +kernel
theorem d4_chooseFirst_77 : decode m4_chooseFirst.2.1 77 = .ok (.getfield 21, 3) := by decide +kernel
theorem d4_chooseFirst_80 : decode m4_chooseFirst.2.1 80 = .ok (.iload 5, 2) := by decide +kernel
theorem d4_chooseFirst_82 : decode m4_chooseFirst.2.1 82 = .ok (.iaload, 1) := by decide +kernel
theorem d4_chooseFirst_83 : decode m4_chooseFirst.2.1 83 = .ok (.ireturn, 1) := by decide +kernel
theorem d4_chooseFirst_84 : decode m4_chooseFirst.2.1 84 = .ok (.iinc 5 1, 3) := by decide +kernel
theorem d4_chooseFirst_87 : decode m4_chooseFirst.2.1 87 = .ok (.goto (-75), 3) := by decide +kernel
theorem d4_chooseFirst_90 : decode m4_chooseFirst.2.1 90 = .ok (.iconst 0, 1) := by decide +kernel
theorem d4_chooseFirst_91 : decode m4_chooseFirst.2.1 91 = .ok (.ireturn, 1) := by decide +kernel
def b4_chooseFirst_84 (rec12 : Int × AH → Option (Int × AH)) (x1 : Nat) (x2 : Int) (x3 : Int) (x4 : Int) (x5 : Int) (h : AH) : Option (Int × AH) :=
  rec12 ((x5 + 1), h)
set_option maxRecDepth 100000 in
theorem t4_chooseFirst_84 (l : Launch) (G : Geo) (d : Nat) (hd : 10 ≤ d) (x1 : Nat) (x2 : Int) (x3 : Int) (x4 : Int) (x5 : Int) (rec12 : Int × AH → Option (Int × AH)) (H12 : ∀ (x5 : Int) (h : AH), ok h.1 x1 9 → Den l G m4_chooseFirst rvI d 12 [some (vA G 53), some (vA G x1), some (vI x2), some (vI x3), some (vI x4), some (vI x5)] [] h (rec12 (x5, h))) (h : AH) (kx1 : ok h.1 x1 9) : Den l G m4_chooseFirst rvI d 84 [some (vA G 53), some (vA G x1), some (vI x2), some (vI x3), some (vI x4), some (vI x5)] [] h (b4_chooseFirst_84 rec12 x1 x2 x3 x4 x5 h) := by
  unfold b4_chooseFirst_84
  refine den_iinc (pc := 84) (L2 := [some (vA G 53), some (vA G x1), some (vI x2), some (vI x3), some (vI x4), some (vI (x5 + 1))]) d4_chooseFirst_84 (by decide) rfl rfl ?_
  refine den_goto (pc := 87) (tgt := 12) d4_chooseFirst_87 (by decide) ?_
  exact H12 (x5 + 1) h kx1
def b4_chooseFirst_12 (rec12 : Int × AH → Option (Int × AH)) (x1 : Nat) (x2 : Int) (x3 : Int) (x4 : Int) (x5 : Int) (h : AH) : Option (Int × AH) :=
  if w32 (h.2 53 7) ≤ w32 x5 then
    some (0, h)
  else
    bnd (f4_suits x1 x5 x2 x3 h) fun r1 h2 =>
    if w32 r1 = 0 then
      b4_chooseFirst_84 rec12 x1 x2 x3 x4 x5 h2
    else
      asrt (0 ≤ w32 x5 ∧ w32 x5 < 168) <|
      asrt (0 ≤ w32 x5 ∧ w32 x5 < 168) <|
      bnd (f4_leastFrom 6 x1 (x2 + 1) (or32 x3 (h2.2 57 (w32 x5).toNat)) h2) fun r8 h9 =>
      if ¬ w32 ((h2.2 56 (w32 x5).toNat) + r8) = w32 x4 then
        b4_chooseFirst_84 rec12 x1 x2 x3 x4 x5 h9
      else
        asrt (0 ≤ w32 x5 ∧ w32 x5 < 168) <|
        asrt (0 ≤ w32 x2 ∧ w32 x2 < 4) <|
        lt (wr h9 54 (w32 x2).toNat (h9.2 55 (w32 x5).toNat)) fun h15 =>
        asrt (0 ≤ w32 x5 ∧ w32 x5 < 168) <|
        some (h15.2 57 (w32 x5).toNat, h15)
set_option maxRecDepth 100000 in
theorem t4_chooseFirst_12 (l : Launch) (G : Geo) (d : Nat) (hd : 10 ≤ d) (x1 : Nat) (x2 : Int) (x3 : Int) (x4 : Int) (x5 : Int) (rec12 : Int × AH → Option (Int × AH)) (H12 : ∀ (x5 : Int) (h : AH), ok h.1 x1 9 → Den l G m4_chooseFirst rvI d 12 [some (vA G 53), some (vA G x1), some (vI x2), some (vI x3), some (vI x4), some (vI x5)] [] h (rec12 (x5, h))) (h : AH) (kx1 : ok h.1 x1 9) : Den l G m4_chooseFirst rvI d 12 [some (vA G 53), some (vA G x1), some (vI x2), some (vI x3), some (vI x4), some (vI x5)] [] h (b4_chooseFirst_12 rec12 x1 x2 x3 x4 x5 h) := by
  unfold b4_chooseFirst_12
  refine den_iload (pc := 12) d4_chooseFirst_12 rfl ?_
  refine den_aload_n (pc := 14) d4_chooseFirst_14 rfl rfl ?_
  refine den_getI (pc := 15) fa_4_27 (ok_53 _) d4_chooseFirst_15 ?_
  refine den_icmp_ge (pc := 18) (tgt := 90) d4_chooseFirst_18 (by decide) rfl rfl (fun _ => ?_) (fun _ => ?_)
  · refine den_iconst (pc := 90) d4_chooseFirst_90 ?_
    exact den_iret (pc := 91) rfl d4_chooseFirst_91
  · refine den_aload_n (pc := 21) d4_chooseFirst_21 rfl rfl ?_
    refine den_aload_n (pc := 22) d4_chooseFirst_22 rfl rfl ?_
    refine den_iload (pc := 23) d4_chooseFirst_23 rfl ?_
    refine den_iload_n (pc := 25) d4_chooseFirst_25 rfl rfl ?_
    refine den_iload_n (pc := 26) d4_chooseFirst_26 rfl rfl ?_
    refine den_callVI (pc := 27) (As := [vA G x1, vI x5, vI x2, vI x3]) fv_4_78 rfl rfl (ok_53 _) (Nat.le_of_ble_eq_true rfl) (Nat.le_trans (by decide) hd) d4_chooseFirst_27 (c4_suits l G x1 x5 x2 x3 h kx1) (fun r1 h2 m3 o4 => ?_)
    have q5 := ok.mono kx1 m3
    refine den_if_eq (pc := 30) (tgt := 84) d4_chooseFirst_30 (by decide) rfl (fun _ => ?_) (fun _ => ?_)
    · exact t4_chooseFirst_84 l G _ hd x1 x2 x3 x4 x5 rec12 H12 h2 q5
    · refine den_aload_n (pc := 33) d4_chooseFirst_33 rfl rfl ?_
      refine den_getR (pc := 34) (b := 56) fa_4_18 (ok_53 _) rfl d4_chooseFirst_34 ?_
      refine den_iload (pc := 37) d4_chooseFirst_37 rfl ?_
      refine den_asrt (fun a6 => ?_)
      refine den_iaload (pc := 39) sh_56 (sz_lt (by decide)) rfl a6 d4_chooseFirst_39 ?_
      refine den_aload_n (pc := 40) d4_chooseFirst_40 rfl rfl ?_
      refine den_aload_n (pc := 41) d4_chooseFirst_41 rfl rfl ?_
      refine den_iload_n (pc := 42) d4_chooseFirst_42 rfl rfl ?_
      refine den_iconst (pc := 43) d4_chooseFirst_43 ?_
      refine den_iadd (pc := 44) d4_chooseFirst_44 ?_
      refine den_iload_n (pc := 45) d4_chooseFirst_45 rfl rfl ?_
      refine den_aload_n (pc := 46) d4_chooseFirst_46 rfl rfl ?_
      refine den_getR (pc := 47) (b := 57) fa_4_21 (ok_53 _) rfl d4_chooseFirst_47 ?_
      refine den_iload (pc := 50) d4_chooseFirst_50 rfl ?_
      refine den_asrt (fun a7 => ?_)
      refine den_iaload (pc := 52) sh_57 (sz_lt (by decide)) rfl a7 d4_chooseFirst_52 ?_
      refine den_ior (pc := 53) d4_chooseFirst_53 ?_
      refine den_callVI (pc := 54) (As := [vA G x1, vI (x2 + 1), vI (or32 x3 (h2.2 57 (w32 x5).toNat))]) fv_4_57 rfl rfl (ok_53 _) (Nat.le_of_ble_eq_true rfl) (Nat.le_trans (by decide) hd) d4_chooseFirst_54 (c4_leastFrom l G 6 x1 (x2 + 1) (or32 x3 (h2.2 57 (w32 x5).toNat)) h2 q5) (fun r8 h9 m10 o11 => ?_)
      have q12 := ok.mono q5 m10
      refine den_iadd (pc := 57) d4_chooseFirst_57 ?_
      refine den_iload (pc := 58) d4_chooseFirst_58 rfl ?_
      refine den_icmp_ne (pc := 60) (tgt := 84) d4_chooseFirst_60 (by decide) rfl rfl (fun _ => ?_) (fun _ => ?_)
      · exact t4_chooseFirst_84 l G _ hd x1 x2 x3 x4 x5 rec12 H12 h9 q12
      · refine den_aload_n (pc := 63) d4_chooseFirst_63 rfl rfl ?_
        refine den_getR (pc := 64) (b := 54) fa_4_9 (ok_53 _) rfl d4_chooseFirst_64 ?_
        refine den_iload_n (pc := 67) d4_chooseFirst_67 rfl rfl ?_
        refine den_aload_n (pc := 68) d4_chooseFirst_68 rfl rfl ?_
        refine den_getR (pc := 69) (b := 55) fa_4_15 (ok_53 _) rfl d4_chooseFirst_69 ?_
        refine den_iload (pc := 72) d4_chooseFirst_72 rfl ?_
        refine den_asrt (fun a13 => ?_)
        refine den_iaload (pc := 74) sh_55 (sz_lt (by decide)) rfl a13 d4_chooseFirst_74 ?_
        refine den_asrt (fun a14 => ?_)
        refine den_iastore (pc := 75) sh_54 (sz_lt (by decide)) rfl a14 d4_chooseFirst_75 ?_
        refine den_ltH (fun h15 m16 => ?_)
        have q17 := ok.mono q12 m16
        refine den_aload_n (pc := 76) d4_chooseFirst_76 rfl rfl ?_
        refine den_getR (pc := 77) (b := 57) fa_4_21 (ok_53 _) rfl d4_chooseFirst_77 ?_
        refine den_iload (pc := 80) d4_chooseFirst_80 rfl ?_
        refine den_asrt (fun a18 => ?_)
        refine den_iaload (pc := 82) sh_57 (sz_lt (by decide)) rfl a18 d4_chooseFirst_82 ?_
        exact den_iret (pc := 83) rfl d4_chooseFirst_83
def l4_chooseFirst_12 (x1 : Nat) (x2 : Int) (x3 : Int) (x4 : Int) (x5 : Int) (h : AH) : Option (Int × AH) := fx (fun rec z => b4_chooseFirst_12 rec x1 x2 x3 x4 z.1 z.2) FU (x5, h)
set_option maxRecDepth 100000 in
theorem tl4_chooseFirst_12 (l : Launch) (G : Geo) (d : Nat) (hd : 10 ≤ d) (x1 : Nat) (x2 : Int) (x3 : Int) (x4 : Int) : ∀ (n : Nat) (z : Int × AH), ok z.2.1 x1 9 → Den l G m4_chooseFirst rvI d 12 [some (vA G 53), some (vA G x1), some (vI x2), some (vI x3), some (vI x4), some (vI z.1)] [] z.2 (fx (fun rec z => b4_chooseFirst_12 rec x1 x2 x3 x4 z.1 z.2) n z) :=
  den_fx (F := fun rec z => b4_chooseFirst_12 rec x1 x2 x3 x4 z.1 z.2) (P := fun z => ok z.2.1 x1 9) (fL := fun z => [some (vA G 53), some (vA G x1), some (vI x2), some (vI x3), some (vI x4), some (vI z.1)]) (fs := fun z => []) (fh := fun z => z.2) (fun rec hrec z hz => t4_chooseFirst_12 l G d hd x1 x2 x3 x4 z.1 rec (fun x5 h w0 => hrec (x5, h) w0) z.2 hz)
def f4_chooseFirst (x1 : Nat) (x2 : Int) (x3 : Int) (h : AH) : Option (Int × AH) :=
  bnd (f4_leastFrom 6 x1 x2 x3 h) fun r19 h20 =>
  l4_chooseFirst_12 x1 x2 x3 r19 0 h20
set_option maxRecDepth 100000 in
theorem c4_chooseFirst (l : Launch) (G : Geo) (x1 : Nat) (x2 : Int) (x3 : Int) (h : AH) (kx1 : ok h.1 x1 9) : Con l G m4_chooseFirst rvI 10 [vA G 53, vA G x1, vI x2, vI x3] h (f4_chooseFirst x1 x2 x3 h) := by
  have hd : 10 ≤ 10 := Nat.le_refl _
  refine con_I rfl (by decide) rfl rfl (Nat.le_of_ble_eq_true rfl) (L := [some (vA G 53), some (vA G x1), some (vI x2), some (vI x3), none, none]) ?_
  unfold f4_chooseFirst
  refine den_aload_n (pc := 0) d4_chooseFirst_0 rfl rfl ?_
  refine den_aload_n (pc := 1) d4_chooseFirst_1 rfl rfl ?_
  refine den_iload_n (pc := 2) d4_chooseFirst_2 rfl rfl ?_
  refine den_iload_n (pc := 3) d4_chooseFirst_3 rfl rfl ?_
  refine den_callVI (pc := 4) (As := [vA G x1, vI x2, vI x3]) fv_4_57 rfl rfl (ok_53 _) (Nat.le_of_ble_eq_true rfl) (Nat.le_trans (by decide) hd) d4_chooseFirst_4 (c4_leastFrom l G 6 x1 x2 x3 h kx1) (fun r19 h20 m21 o22 => ?_)
  have q23 := ok.mono kx1 m21
  refine den_istore (pc := 7) (L2 := [some (vA G 53), some (vA G x1), some (vI x2), some (vI x3), some (vI r19), none]) d4_chooseFirst_7 (by decide) rfl ?_
  refine den_iconst (pc := 9) d4_chooseFirst_9 ?_
  refine den_istore (pc := 10) (L2 := [some (vA G 53), some (vA G x1), some (vI x2), some (vI x3), some (vI r19), some (vI 0)]) d4_chooseFirst_10 (by decide) rfl ?_
  exact tl4_chooseFirst_12 l G _ hd x1 x2 x3 r19 FU (0, h20) q23
theorem d4_arrange_0 : decode m4_arrange.2.1 0 = .ok (.aload_n 0, 1) := by decide +kernel
theorem d4_arrange_1 : decode m4_arrange.2.1 1 = .ok (.aload_n 1, 1) := by decide +kernel
theorem d4_arrange_2 : decode m4_arrange.2.1 2 = .ok (.invokevirtual 47, 3) := by decide +kernel
theorem d4_arrange_5 : decode m4_arrange.2.1 5 = .ok (.aload_n 0, 1) := by decide +kernel
theorem d4_arrange_6 : decode m4_arrange.2.1 6 = .ok (.getfield 24, 3) := by decide +kernel
theorem d4_arrange_9 : decode m4_arrange.2.1 9 = .ok (.iconst (-1), 1) := by decide +kernel
theorem d4_arrange_10 : decode m4_arrange.2.1 10 = .ok (.invokestatic 51, 3) := by decide +kernel
theorem d4_arrange_13 : decode m4_arrange.2.1 13 = .ok (.aload_n 0, 1) := by decide +kernel
theorem d4_arrange_14 : decode m4_arrange.2.1 14 = .ok (.aload_n 0, 1) := by decide +kernel
theorem d4_arrange_15 : decode m4_arrange.2.1 15 = .ok (.aload_n 1, 1) := by decide +kernel
theorem d4_arrange_16 : decode m4_arrange.2.1 16 = .ok (.iconst 0, 1) := by decide +kernel
theorem d4_arrange_17 : decode m4_arrange.2.1 17 = .ok (.iconst 0, 1) := by decide +kernel
theorem d4_arrange_18 : decode m4_arrange.2.1 18 = .ok (.invokevirtual 57, 3) := by decide +kernel
theorem d4_arrange_21 : decode m4_arrange.2.1 21 = .ok (.putfield 61, 3) := by decide +kernel
theorem d4_arrange_24 : decode m4_arrange.2.1 24 = .ok (.aload_n 0, 1) := by decide +kernel
theorem d4_arrange_25 : decode m4_arrange.2.1 25 = .ok (.getfield 61, 3) := by decide +kernel
theorem d4_arrange_28 : decode m4_arrange.2.1 28 = .ok (.sipush 1000, 3) := by decide +kernel
theorem d4_arrange_31 : decode m4_arrange.2.1 31 = .ok (.if_icmp .lt 5, 3) := by decide +kernel
theorem d4_arrange_34 : decode m4_arrange.2.1 34 = .ok (.iconst 0, 1) := by decide +kernel
theorem d4_arrange_35 : decode m4_arrange.2.1 35 = .ok (.ireturn, 1) := by decide +kernel
theorem d4_arrange_36 : decode m4_arrange.2.1 36 = .ok (.iconst 0, 1) := by decide +kernel
theorem d4_arrange_37 : decode m4_arrange.2.1 37 = .ok (.istore_n 2, 1) := by decide +kernel
theorem d4_arrange_38 : decode m4_arrange.2.1 38 = .ok (.iconst 0, 1) := by decide +kernel
theorem d4_arrange_39 : decode m4_arrange.2.1 39 = .ok (.istore_n 3, 1) := by decide +kernel
theorem d4_arrange_40 : decode m4_arrange.2.1 40 = .ok (.iload_n 3, 1) := by decide +kernel
theorem d4_arrange_41 : decode m4_arrange.2.1 41 = .ok (.aload_n 1, 1) := by decide +kernel
theorem d4_arrange_42 : decode m4_arrange.2.1 42 = .ok (.getfield 64, 3) := by decide +kernel
theorem d4_arrange_45 : decode m4_arrange.2.1 45 = .ok (.if_icmp .ge 19, 3) := by decide +kernel
theorem d4_arrange_48 : decode m4_arrange.2.1 48 = .ok (.iload_n 2, 1) := by decide +kernel
theorem d4_arrange_49 : decode m4_arrange.2.1 49 = .ok (.aload_n 0, 1) := by decide +kernel
theorem d4_arrange_50 : decode m4_arrange.2.1 50 = .ok (.aload_n 1, 1) := by decide +kernel
theorem d4_arrange_51 : decode m4_arrange.2.1 51 = .ok (.iload_n 3, 1) := by decide +kernel
theorem d4_arrange_52 : decode m4_arrange.2.1 52 = .ok (.iload_n 2, 1) := by decide +kernel
theorem d4_arrange_53 : decode m4_arrange.2.1 53 = .ok (.invokevirtual 67, 3) := by decide +kernel
theorem d4_arrange_56 : decode m4_arrange.2.1 56 = .ok (.ior, 1) := by decide +kernel
theorem d4_arrange_57 : decode m4_arrange.2.1 57 = .ok (.istore_n 2, 1) := by decide +kernel
theorem d4_arrange_58 : decode m4_arrange.2.1 58 = .ok (.iinc 3 1, 3) := by decide +kernel
theorem d4_arrange_61 : decode m4_arrange.2.1 61 = .ok (.goto (-21), 3) := by decide +kernel
theorem d4_arrange_64 : decode m4_arrange.2.1 64 = .ok (.iconst 1, 1) := by decide +kernel
theorem d4_arrange_65 : decode m4_arrange.2.1 65 = .ok (.ireturn, 1) := by decide +kernel
def b4_arrange_40 (rec40 : Int × Int × AH → Option (Int × AH)) (x1 : Nat) (x2 : Int) (x3 : Int) (h : AH) : Option (Int × AH) :=
  if w32 (h.2 x1 2) ≤ w32 x3 then
    some (1, h)
  else
    bnd (f4_chooseFirst x1 x3 x2 h) fun r1 h2 =>
    lt (or32 x2 r1) fun u6 =>
    rec40 (u6, (x3 + 1), h2)
set_option maxRecDepth 100000 in
theorem t4_arrange_40 (l : Launch) (G : Geo) (d : Nat) (hd : 11 ≤ d) (x1 : Nat) (x2 : Int) (x3 : Int) (rec40 : Int × Int × AH → Option (Int × AH)) (H40 : ∀ (x2 : Int) (x3 : Int) (h : AH), ok h.1 x1 9 → Den l G m4_arrange rvI d 40 [some (vA G 53), some (vA G x1), some (vI x2), some (vI x3)] [] h (rec40 (x2, x3, h))) (h : AH) (kx1 : ok h.1 x1 9) : Den l G m4_arrange rvI d 40 [some (vA G 53), some (vA G x1), some (vI x2), some (vI x3)] [] h (b4_arrange_40 rec40 x1 x2 x3 h) := by
  unfold b4_arrange_40
  refine den_iload_n (pc := 40) d4_arrange_40 rfl rfl ?_
  refine den_aload_n (pc := 41) d4_arrange_41 rfl rfl ?_
  refine den_getI (pc := 42) fa_4_64 kx1 d4_arrange_42 ?_
  refine den_icmp_ge (pc := 45) (tgt := 64) d4_arrange_45 (by decide) rfl rfl (fun _ => ?_) (fun _ => ?_)
  · refine den_iconst (pc := 64) d4_arrange_64 ?_
    exact den_zret (pc := 65) rfl (by decide) d4_arrange_65
  · refine den_iload_n (pc := 48) d4_arrange_48 rfl rfl ?_
    refine den_aload_n (pc := 49) d4_arrange_49 rfl rfl ?_
    refine den_aload_n (pc := 50) d4_arrange_50 rfl rfl ?_
    refine den_iload_n (pc := 51) d4_arrange_51 rfl rfl ?_
    refine den_iload_n (pc := 52) d4_arrange_52 rfl rfl ?_
    refine den_callVI (pc := 53) (As := [vA G x1, vI x3, vI x2]) fv_4_67 rfl rfl (ok_53 _) (Nat.le_of_ble_eq_true rfl) (Nat.le_trans (by decide) hd) d4_arrange_53 (c4_chooseFirst l G x1 x3 x2 h kx1) (fun r1 h2 m3 o4 => ?_)
    have q5 := ok.mono kx1 m3
    refine den_ior (pc := 56) d4_arrange_56 ?_
    refine den_istore_nL (pc := 57) (L2 := fun y => [some (vA G 53), some (vA G x1), some (vI y), some (vI x3)]) d4_arrange_57 rfl (by decide) (fun _ => rfl) (fun u6 => ?_)
    refine den_iinc (pc := 58) (L2 := [some (vA G 53), some (vA G x1), some (vI u6), some (vI (x3 + 1))]) d4_arrange_58 (by decide) rfl rfl ?_
    refine den_goto (pc := 61) (tgt := 40) d4_arrange_61 (by decide) ?_
    exact H40 u6 (x3 + 1) h2 q5
def l4_arrange_40 (x1 : Nat) (x2 : Int) (x3 : Int) (h : AH) : Option (Int × AH) := fx (fun rec z => b4_arrange_40 rec x1 z.1 z.2.1 z.2.2) FU (x2, x3, h)
set_option maxRecDepth 100000 in
theorem tl4_arrange_40 (l : Launch) (G : Geo) (d : Nat) (hd : 11 ≤ d) (x1 : Nat) : ∀ (n : Nat) (z : Int × Int × AH), ok z.2.2.1 x1 9 → Den l G m4_arrange rvI d 40 [some (vA G 53), some (vA G x1), some (vI z.1), some (vI z.2.1)] [] z.2.2 (fx (fun rec z => b4_arrange_40 rec x1 z.1 z.2.1 z.2.2) n z) :=
  den_fx (F := fun rec z => b4_arrange_40 rec x1 z.1 z.2.1 z.2.2) (P := fun z => ok z.2.2.1 x1 9) (fL := fun z => [some (vA G 53), some (vA G x1), some (vI z.1), some (vI z.2.1)]) (fs := fun z => []) (fh := fun z => z.2.2) (fun rec hrec z hz => t4_arrange_40 l G d hd x1 z.1 z.2.1 rec (fun x2 x3 h w0 => hrec (x2, x3, h) w0) z.2.2 hz)
def f4_arrange (x1 : Nat) (h : AH) : Option (Int × AH) :=
  bnd (f4_gather x1 h) fun r7 h8 =>
  bnd (f12_fill 58 (-1) h8) fun r12 h13 =>
  bnd (f4_leastFrom 6 x1 0 0 h13) fun r17 h18 =>
  lt (wr h18 53 2 r17) fun h22 =>
  if w32 (h22.2 53 2) < 1000 then
    l4_arrange_40 x1 0 0 h22
  else
    some (0, h22)
set_option maxRecDepth 100000 in
theorem c4_arrange (l : Launch) (G : Geo) (x1 : Nat) (h : AH) (kx1 : ok h.1 x1 9) : Con l G m4_arrange rvI 11 [vA G 53, vA G x1] h (f4_arrange x1 h) := by
  have hd : 11 ≤ 11 := Nat.le_refl _
  refine con_Z rfl (by decide) rfl rfl (Nat.le_of_ble_eq_true rfl) (L := [some (vA G 53), some (vA G x1), none, none]) ?_
  unfold f4_arrange
  refine den_aload_n (pc := 0) d4_arrange_0 rfl rfl ?_
  refine den_aload_n (pc := 1) d4_arrange_1 rfl rfl ?_
  refine den_callVV (pc := 2) (As := [vA G x1]) fv_4_47 rfl rfl (ok_53 _) (Nat.le_of_ble_eq_true rfl) (Nat.le_trans (by decide) hd) d4_arrange_2 (c4_gather l G x1 h kx1) (fun r7 h8 m9 o10 => ?_)
  have q11 := ok.mono kx1 m9
  refine den_aload_n (pc := 5) d4_arrange_5 rfl rfl ?_
  refine den_getR (pc := 6) (b := 58) fa_4_24 (ok_53 _) rfl d4_arrange_6 ?_
  refine den_iconst (pc := 9) d4_arrange_9 ?_
  refine den_callSV (pc := 10) (As := [vA G 58, vI (-1)]) fs_4_51 rfl rfl (Nat.le_of_ble_eq_true rfl) (Nat.le_trans (by decide) hd) d4_arrange_10 (c12_fill l G 58 (-1) h8 ⟨sz_lt (by decide), by decide⟩) (fun r12 h13 m14 o15 => ?_)
  have q16 := ok.mono q11 m14
  refine den_aload_n (pc := 13) d4_arrange_13 rfl rfl ?_
  refine den_aload_n (pc := 14) d4_arrange_14 rfl rfl ?_
  refine den_aload_n (pc := 15) d4_arrange_15 rfl rfl ?_
  refine den_iconst (pc := 16) d4_arrange_16 ?_
  refine den_iconst (pc := 17) d4_arrange_17 ?_
  refine den_callVI (pc := 18) (As := [vA G x1, vI 0, vI 0]) fv_4_57 rfl rfl (ok_53 _) (Nat.le_of_ble_eq_true rfl) (Nat.le_trans (by decide) hd) d4_arrange_18 (c4_leastFrom l G 6 x1 0 0 h13 q16) (fun r17 h18 m19 o20 => ?_)
  have q21 := ok.mono q16 m19
  refine den_putI (pc := 21) fp_4_61 (ok_53 _) d4_arrange_21 ?_
  refine den_ltH (fun h22 m23 => ?_)
  have q24 := ok.mono q21 m23
  refine den_aload_n (pc := 24) d4_arrange_24 rfl rfl ?_
  refine den_getI (pc := 25) fa_4_61 (ok_53 _) d4_arrange_25 ?_
  refine den_sipush (pc := 28) d4_arrange_28 (by decide) ?_
  refine den_icmp_lt (pc := 31) (tgt := 36) d4_arrange_31 (by decide) rfl (by decide) (fun _ => ?_) (fun _ => ?_)
  · refine den_iconst (pc := 36) d4_arrange_36 ?_
    refine den_istore_n (pc := 37) (L2 := [some (vA G 53), some (vA G x1), some (vI 0), none]) d4_arrange_37 rfl (by decide) rfl ?_
    refine den_iconst (pc := 38) d4_arrange_38 ?_
    refine den_istore_n (pc := 39) (L2 := [some (vA G 53), some (vA G x1), some (vI 0), some (vI 0)]) d4_arrange_39 rfl (by decide) rfl ?_
    exact tl4_arrange_40 l G _ hd x1 FU (0, 0, h22) q24
  · refine den_iconst (pc := 34) d4_arrange_34 ?_
    exact den_zret (pc := 35) rfl (by decide) d4_arrange_35
theorem d4_fillBehind_0 : decode m4_fillBehind.2.1 0 = .ok (.iload_n 1, 1) := by decide +kernel
theorem d4_fillBehind_1 : decode m4_fillBehind.2.1 1 = .ok (.iconst 1, 1) := by decide +kernel
theorem d4_fillBehind_2 : decode m4_fillBehind.2.1 2 = .ok (.iadd, 1) := by decide +kernel
theorem d4_fillBehind_3 : decode m4_fillBehind.2.1 3 = .ok (.istore_n 3, 1) := by decide +kernel
theorem d4_fillBehind_4 : decode m4_fillBehind.2.1 4 = .ok (.iload_n 3, 1) := by decide +kernel
theorem d4_fillBehind_5 : decode m4_fillBehind.2.1 5 = .ok (.aload_n 0, 1) := by decide +kernel
theorem d4_fillBehind_6 : decode m4_fillBehind.2.1 6 = .ok (.getfield 27, 3) := by decide +kernel
theorem d4_fillBehind_9 : decode m4_fillBehind.2.1 9 = .ok (.if_icmp .ge 90, 3) := by decide +kernel
theorem d4_fillBehind_12 : decode m4_fillBehind.2.1 12 = .ok (.aload_n 0, 1) := by decide +kernel
theorem d4_fillBehind_13 : decode m4_fillBehind.2.1 13 = .ok (.getfield 18, 3) := by decide +kernel
theorem d4_fillBehind_16 : decode m4_fillBehind.2.1 16 = .ok (.iload_n 1, 1) := by decide +kernel
theorem d4_fillBehind_17 : decode m4_fillBehind.2.1 17 = .ok (.iaload, 1) := by decide +kernel
theorem d4_fillBehind_18 : decode m4_fillBehind.2.1 18 = .ok (.aload_n 0, 1) := by decide +kernel
theorem d4_fillBehind_19 : decode m4_fillBehind.2.1 19 = .ok (.getfield 18, 3) := by decide +kernel
theorem d4_fillBehind_22 : decode m4_fillBehind.2.1 22 = .ok (.iload_n 3, 1) := by decide +kernel
theorem d4_fillBehind_23 : decode m4_fillBehind.2.1 23 = .ok (.iaload, 1) := by decide +kernel
theorem d4_fillBehind_24 : decode m4_fillBehind.2.1 24 = .ok (.iadd, 1) := by decide +kernel
theorem d4_fillBehind_25 : decode m4_fillBehind.2.1 25 = .ok (.istore 4, 2) := by decide +kernel
theorem d4_fillBehind_27 : decode m4_fillBehind.2.1 27 = .ok (.iload 4, 2) := by decide +kernel
theorem d4_fillBehind_29 : decode m4_fillBehind.2.1 29 = .ok (.aload_n 0, 1) := by decide +kernel
theorem d4_fillBehind_30 : decode m4_fillBehind.2.1 30 = .ok (.getfield 61, 3) := by decide +kernel
theorem d4_fillBehind_33 : decode m4_fillBehind.2.1 33 = .ok (.if_icmp .le 60, 3) := by decide +kernel
theorem d4_fillBehind_36 : decode m4_fillBehind.2.1 36 = .ok (.iload 4, 2) := by decide +kernel
theorem d4_fillBehind_38 : decode m4_fillBehind.2.1 38 = .ok (.iload_n 2, 1) := by decide +kernel
theorem d4_fillBehind_39 : decode m4_fillBehind.2.1 39 = .ok (.if_icmp .gt 54, 3) := by decide +kernel
theorem d4_fillBehind_42 : decode m4_fillBehind.2.1 42 = .ok (.aload_n 0, 1) := by decide +kernel
theorem d4_fillBehind_43 : decode m4_fillBehind.2.1 43 = .ok (.getfield 21, 3) := by decide +kernel
theorem d4_fillBehind_46 : decode m4_fillBehind.2.1 46 = .ok (.iload_n 1, 1) := by decide +kernel
theorem d4_fillBehind_47 : decode m4_fillBehind.2.1 47 = .ok (.iaload, 1) := by decide +kernel
theorem d4_fillBehind_48 : decode m4_fillBehind.2.1 48 = .ok (.aload_n 0, 1) := by decide +kernel
theorem d4_fillBehind_49 : decode m4_fillBehind.2.1 49 = .ok (.getfield 21, 3) := by decide +kernel
theorem d4_fillBehind_52 : decode m4_fillBehind.2.1 52 = .ok (.iload_n 3, 1) := by decide +kernel
theorem d4_fillBehind_53 : decode m4_fillBehind.2.1 53 = .ok (.iaload, 1) := by decide +kernel
theorem d4_fillBehind_54 : decode m4_fillBehind.2.1 54 = .ok (.iand, 1) := by decide +kernel
theorem d4_fillBehind_55 : decode m4_fillBehind.2.1 55 = .ok (.ifCond .ne 38, 3) := by decide +kernel
theorem d4_fillBehind_58 : decode m4_fillBehind.2.1 58 = .ok (.aload_n 0, 1) := by decide +kernel
theorem d4_fillBehind_59 : decode m4_fillBehind.2.1 59 = .ok (.iload 4, 2) := by decide +kernel
theorem d4_fillBehind_61 : decode m4_fillBehind.2.1 61 = .ok (.putfield 61, 3) := by decide +kernel
theorem d4_fillBehind_64 : decode m4_fillBehind.2.1 64 = .ok (.aload_n 0, 1) := by decide +kernel
theorem d4_fillBehind_65 : decode m4_fillBehind.2.1 65 = .ok (.iconst 2, 1) := by decide +kernel
theorem d4_fillBehind_66 : decode m4_fillBehind.2.1 66 = .ok (.putfield 94, 3) := by decide +kernel
theorem d4_fillBehind_69 : decode m4_fillBehind.2.1 69 = .ok (.aload_n 0, 1) := by decide +kernel
theorem d4_fillBehind_70 : decode m4_fillBehind.2.1 70 = .ok (.getfield 9, 3) := by decide +kernel
theorem d4_fillBehind_73 : decode m4_fillBehind.2.1 73 = .ok (.iconst 0, 1) := by decide +kernel
theorem d4_fillBehind_74 : decode m4_fillBehind.2.1 74 = .ok (.aload_n 0, 1) := by decide +kernel
theorem d4_fillBehind_75 : decode m4_fillBehind.2.1 75 = .ok (.getfield 15, 3) := by decide +kernel
theorem d4_fillBehind_78 : decode m4_fillBehind.2.1 78 = .ok (.iload_n 1, 1) := by decide +kernel
theorem d4_fillBehind_79 : decode m4_fillBehind.2.1 79 = .ok (.iaload, 1) := by decide +kernel
theorem d4_fillBehind_80 : decode m4_fillBehind.2.1 80 = .ok (.iastore, 1) := by decide +kernel
theorem d4_fillBehind_81 : decode m4_fillBehind.2.1 81 = .ok (.aload_n 0, 1) := by decide +kernel
theorem d4_fillBehind_82 : decode m4_fillBehind.2.1 82 = .ok (.getfield 9, 3) := by decide +kernel
theorem d4_fillBehind_85 : decode m4_fillBehind.2.1 85 = .ok (.iconst 1, 1) := by decide +kernel
theorem d4_fillBehind_86 : decode m4_fillBehind.2.1 86 = .ok (.aload_n 0, 1) := by decide +kernel
theorem d4_fillBehind_87 : decode m4_fillBehind.2.1 87 = .ok (.getfield 15, 3) := by decide +kernel
theorem d4_fillBehind_90 : decode m4_fillBehind.2.1 90 = .ok (.iload_n 3, 1) := by decide +kernel
theorem d4_fillBehind_91 : decode m4_fillBehind.2.1 91 = .ok (.iaload, 1) := by decide +kernel
theorem d4_fillBehind_92 : decode m4_fillBehind.2.1 92 = .ok (.iastore, 1) := by decide +kernel
theorem d4_fillBehind_93 : decode m4_fillBehind.2.1 93 = .ok (.iinc 3 1, 3) := by decide +kernel
theorem d4_fillBehind_96 : decode m4_fillBehind.2.1 96 = .ok (.goto (-92), 3) := by decide +kernel
theorem d4_fillBehind_99 : decode m4_fillBehind.2.1 99 = .ok (.return_, 1) := by decide +kernel
def b4_fillBehind_93 (rec4 : Int × AH → Option (Int × AH)) (x1 : Int) (x2 : Int) (x3 : Int) (h : AH) : Option (Int × AH) :=
  rec4 ((x3 + 1), h)
set_option maxRecDepth 100000 in
theorem t4_fillBehind_93 (l : Launch) (G : Geo) (d : Nat) (hd : 2 ≤ d) (x1 : Int) (x2 : Int) (x3 : Int) (rec4 : Int × AH → Option (Int × AH)) (H4 : ∀ (x3 : Int) (h : AH), Den l G m4_fillBehind rvV d 4 [some (vA G 53), some (vI x1), some (vI x2), some (vI x3), none] [] h (rec4 (x3, h))) (h : AH) : Den l G m4_fillBehind rvV d 93 [some (vA G 53), some (vI x1), some (vI x2), some (vI x3), none] [] h (b4_fillBehind_93 rec4 x1 x2 x3 h) := by
  unfold b4_fillBehind_93
  refine den_iinc (pc := 93) (L2 := [some (vA G 53), some (vI x1), some (vI x2), some (vI (x3 + 1)), none]) d4_fillBehind_93 (by decide) rfl rfl ?_
  refine den_goto (pc := 96) (tgt := 4) d4_fillBehind_96 (by decide) ?_
  exact H4 (x3 + 1) h
def b4_fillBehind_4 (rec4 : Int × AH → Option (Int × AH)) (x1 : Int) (x2 : Int) (x3 : Int) (h : AH) : Option (Int × AH) :=
  if w32 (h.2 53 7) ≤ w32 x3 then
    some (0, h)
  else
    asrt (0 ≤ w32 x1 ∧ w32 x1 < 168) <|
    asrt (0 ≤ w32 x3 ∧ w32 x3 < 168) <|
    lt ((h.2 56 (w32 x1).toNat) + (h.2 56 (w32 x3).toNat)) fun u3 =>
    if w32 u3 ≤ w32 (h.2 53 2) then
      b4_fillBehind_93 rec4 x1 x2 x3 h
    else
      if w32 x2 < w32 u3 then
        b4_fillBehind_93 rec4 x1 x2 x3 h
      else
        asrt (0 ≤ w32 x1 ∧ w32 x1 < 168) <|
        asrt (0 ≤ w32 x3 ∧ w32 x3 < 168) <|
        if ¬ w32 (and32 (h.2 57 (w32 x1).toNat) (h.2 57 (w32 x3).toNat)) = 0 then
          b4_fillBehind_93 rec4 x1 x2 x3 h
        else
          lt (wr h 53 2 u3) fun h6 =>
          lt (wr h6 53 1 2) fun h8 =>
          asrt (0 ≤ w32 x1 ∧ w32 x1 < 168) <|
          asrt (0 ≤ w32 0 ∧ w32 0 < 4) <|
          lt (wr h8 54 (w32 0).toNat (h8.2 55 (w32 x1).toNat)) fun h12 =>
          asrt (0 ≤ w32 x3 ∧ w32 x3 < 168) <|
          asrt (0 ≤ w32 1 ∧ w32 1 < 4) <|
          lt (wr h12 54 (w32 1).toNat (h12.2 55 (w32 x3).toNat)) fun h16 =>
          b4_fillBehind_93 rec4 x1 x2 x3 h16
set_option maxRecDepth 100000 in
theorem t4_fillBehind_4 (l : Launch) (G : Geo) (d : Nat) (hd : 2 ≤ d) (x1 : Int) (x2 : Int) (x3 : Int) (rec4 : Int × AH → Option (Int × AH)) (H4 : ∀ (x3 : Int) (h : AH), Den l G m4_fillBehind rvV d 4 [some (vA G 53), some (vI x1), some (vI x2), some (vI x3), none] [] h (rec4 (x3, h))) (h : AH) : Den l G m4_fillBehind rvV d 4 [some (vA G 53), some (vI x1), some (vI x2), some (vI x3), none] [] h (b4_fillBehind_4 rec4 x1 x2 x3 h) := by
  unfold b4_fillBehind_4
  refine den_iload_n (pc := 4) d4_fillBehind_4 rfl rfl ?_
  refine den_aload_n (pc := 5) d4_fillBehind_5 rfl rfl ?_
  refine den_getI (pc := 6) fa_4_27 (ok_53 _) d4_fillBehind_6 ?_
  refine den_icmp_ge (pc := 9) (tgt := 99) d4_fillBehind_9 (by decide) rfl rfl (fun _ => ?_) (fun _ => ?_)
  · exact den_vret (pc := 99) rfl d4_fillBehind_99
  · refine den_aload_n (pc := 12) d4_fillBehind_12 rfl rfl ?_
    refine den_getR (pc := 13) (b := 56) fa_4_18 (ok_53 _) rfl d4_fillBehind_13 ?_
    refine den_iload_n (pc := 16) d4_fillBehind_16 rfl rfl ?_
    refine den_asrt (fun a1 => ?_)
    refine den_iaload (pc := 17) sh_56 (sz_lt (by decide)) rfl a1 d4_fillBehind_17 ?_
    refine den_aload_n (pc := 18) d4_fillBehind_18 rfl rfl ?_
    refine den_getR (pc := 19) (b := 56) fa_4_18 (ok_53 _) rfl d4_fillBehind_19 ?_
    refine den_iload_n (pc := 22) d4_fillBehind_22 rfl rfl ?_
    refine den_asrt (fun a2 => ?_)
    refine den_iaload (pc := 23) sh_56 (sz_lt (by decide)) rfl a2 d4_fillBehind_23 ?_
    refine den_iadd (pc := 24) d4_fillBehind_24 ?_
    refine den_istoreL (pc := 25) (L2 := fun y => [some (vA G 53), some (vI x1), some (vI x2), some (vI x3), some (vI y)]) d4_fillBehind_25 (by decide) (fun _ => rfl) (fun u3 => ?_)
    refine den_iload (pc := 27) d4_fillBehind_27 rfl ?_
    refine den_aload_n (pc := 29) d4_fillBehind_29 rfl rfl ?_
    refine den_getI (pc := 30) fa_4_61 (ok_53 _) d4_fillBehind_30 ?_
    refine den_icmp_le (pc := 33) (tgt := 93) d4_fillBehind_33 (by decide) rfl rfl (fun _ => ?_) (fun _ => ?_)
    · refine den_wk [true, true, true, true, false] rfl ?_
      exact t4_fillBehind_93 l G _ hd x1 x2 x3 rec4 H4 h
    · refine den_iload (pc := 36) d4_fillBehind_36 rfl ?_
      refine den_iload_n (pc := 38) d4_fillBehind_38 rfl rfl ?_
      refine den_icmp_gt (pc := 39) (tgt := 93) d4_fillBehind_39 (by decide) rfl rfl (fun _ => ?_) (fun _ => ?_)
      · refine den_wk [true, true, true, true, false] rfl ?_
        exact t4_fillBehind_93 l G _ hd x1 x2 x3 rec4 H4 h
      · refine den_aload_n (pc := 42) d4_fillBehind_42 rfl rfl ?_
        refine den_getR (pc := 43) (b := 57) fa_4_21 (ok_53 _) rfl d4_fillBehind_43 ?_
        refine den_iload_n (pc := 46) d4_fillBehind_46 rfl rfl ?_
        refine den_asrt (fun a4 => ?_)
        refine den_iaload (pc := 47) sh_57 (sz_lt (by decide)) rfl a4 d4_fillBehind_47 ?_
        refine den_aload_n (pc := 48) d4_fillBehind_48 rfl rfl ?_
        refine den_getR (pc := 49) (b := 57) fa_4_21 (ok_53 _) rfl d4_fillBehind_49 ?_
        refine den_iload_n (pc := 52) d4_fillBehind_52 rfl rfl ?_
        refine den_asrt (fun a5 => ?_)
        refine den_iaload (pc := 53) sh_57 (sz_lt (by decide)) rfl a5 d4_fillBehind_53 ?_
        refine den_iand (pc := 54) d4_fillBehind_54 ?_
        refine den_if_ne (pc := 55) (tgt := 93) d4_fillBehind_55 (by decide) rfl (fun _ => ?_) (fun _ => ?_)
        · refine den_wk [true, true, true, true, false] rfl ?_
          exact t4_fillBehind_93 l G _ hd x1 x2 x3 rec4 H4 h
        · refine den_aload_n (pc := 58) d4_fillBehind_58 rfl rfl ?_
          refine den_iload (pc := 59) d4_fillBehind_59 rfl ?_
          refine den_putI (pc := 61) fp_4_61 (ok_53 _) d4_fillBehind_61 ?_
          refine den_ltH (fun h6 m7 => ?_)
          refine den_aload_n (pc := 64) d4_fillBehind_64 rfl rfl ?_
          refine den_iconst (pc := 65) d4_fillBehind_65 ?_
          refine den_putI (pc := 66) fp_4_94 (ok_53 _) d4_fillBehind_66 ?_
          refine den_ltH (fun h8 m9 => ?_)
          refine den_aload_n (pc := 69) d4_fillBehind_69 rfl rfl ?_
          refine den_getR (pc := 70) (b := 54) fa_4_9 (ok_53 _) rfl d4_fillBehind_70 ?_
          refine den_iconst (pc := 73) d4_fillBehind_73 ?_
          refine den_aload_n (pc := 74) d4_fillBehind_74 rfl rfl ?_
          refine den_getR (pc := 75) (b := 55) fa_4_15 (ok_53 _) rfl d4_fillBehind_75 ?_
          refine den_iload_n (pc := 78) d4_fillBehind_78 rfl rfl ?_
          refine den_asrt (fun a10 => ?_)
          refine den_iaload (pc := 79) sh_55 (sz_lt (by decide)) rfl a10 d4_fillBehind_79 ?_
          refine den_asrt (fun a11 => ?_)
          refine den_iastore (pc := 80) sh_54 (sz_lt (by decide)) rfl a11 d4_fillBehind_80 ?_
          refine den_ltH (fun h12 m13 => ?_)
          refine den_aload_n (pc := 81) d4_fillBehind_81 rfl rfl ?_
          refine den_getR (pc := 82) (b := 54) fa_4_9 (ok_53 _) rfl d4_fillBehind_82 ?_
          refine den_iconst (pc := 85) d4_fillBehind_85 ?_
          refine den_aload_n (pc := 86) d4_fillBehind_86 rfl rfl ?_
          refine den_getR (pc := 87) (b := 55) fa_4_15 (ok_53 _) rfl d4_fillBehind_87 ?_
          refine den_iload_n (pc := 90) d4_fillBehind_90 rfl rfl ?_
          refine den_asrt (fun a14 => ?_)
          refine den_iaload (pc := 91) sh_55 (sz_lt (by decide)) rfl a14 d4_fillBehind_91 ?_
          refine den_asrt (fun a15 => ?_)
          refine den_iastore (pc := 92) sh_54 (sz_lt (by decide)) rfl a15 d4_fillBehind_92 ?_
          refine den_ltH (fun h16 m17 => ?_)
          refine den_wk [true, true, true, true, false] rfl ?_
          exact t4_fillBehind_93 l G _ hd x1 x2 x3 rec4 H4 h16
def l4_fillBehind_4 (x1 : Int) (x2 : Int) (x3 : Int) (h : AH) : Option (Int × AH) := fx (fun rec z => b4_fillBehind_4 rec x1 x2 z.1 z.2) FU (x3, h)
set_option maxRecDepth 100000 in
theorem tl4_fillBehind_4 (l : Launch) (G : Geo) (d : Nat) (hd : 2 ≤ d) (x1 : Int) (x2 : Int) : ∀ (n : Nat) (z : Int × AH), True → Den l G m4_fillBehind rvV d 4 [some (vA G 53), some (vI x1), some (vI x2), some (vI z.1), none] [] z.2 (fx (fun rec z => b4_fillBehind_4 rec x1 x2 z.1 z.2) n z) :=
  den_fx (F := fun rec z => b4_fillBehind_4 rec x1 x2 z.1 z.2) (P := fun z => True) (fL := fun z => [some (vA G 53), some (vI x1), some (vI x2), some (vI z.1), none]) (fs := fun z => []) (fh := fun z => z.2) (fun rec hrec z hz => t4_fillBehind_4 l G d hd x1 x2 z.1 rec (fun x3 h => hrec (x3, h) trivial) z.2 )
def f4_fillBehind (x1 : Int) (x2 : Int) (h : AH) : Option (Int × AH) :=
  lt (x1 + 1) fun u18 =>
  l4_fillBehind_4 x1 x2 u18 h
set_option maxRecDepth 100000 in
theorem c4_fillBehind (l : Launch) (G : Geo) (x1 : Int) (x2 : Int) (h : AH) : Con l G m4_fillBehind rvV 2 [vA G 53, vI x1, vI x2] h (f4_fillBehind x1 x2 h) := by
  have hd : 2 ≤ 2 := Nat.le_refl _
  refine con_V rfl (by decide) rfl rfl (Nat.le_of_ble_eq_true rfl) (L := [some (vA G 53), some (vI x1), some (vI x2), none, none]) ?_
  unfold f4_fillBehind
  refine den_iload_n (pc := 0) d4_fillBehind_0 rfl rfl ?_
  refine den_iconst (pc := 1) d4_fillBehind_1 ?_
  refine den_iadd (pc := 2) d4_fillBehind_2 ?_
  refine den_istore_nL (pc := 3) (L2 := fun y => [some (vA G 53), some (vI x1), some (vI x2), some (vI y), none]) d4_fillBehind_3 rfl (by decide) (fun _ => rfl) (fun u18 => ?_)
  exact tl4_fillBehind_4 l G _ hd x1 x2 FU (u18, h) trivial
