/-! 4_fill 5_note 5_breakOff 6_isFull 5_isOneTooMany 5_isWord 5_dayLine 5_villageLine 5_lineOf 5_mayBe 5_numberHere 5_isDigit 5_isLetter 5_step 6_addRow -/
theorem d4_fill_0 : decode m4_fill.2.1 0 = .ok (.aload_n 0, 1) := by decide +kernel
theorem d4_fill_1 : decode m4_fill.2.1 1 = .ok (.aload_n 1, 1) := by decide +kernel
theorem d4_fill_2 : decode m4_fill.2.1 2 = .ok (.invokevirtual 47, 3) := by decide +kernel
theorem d4_fill_5 : decode m4_fill.2.1 5 = .ok (.aload_n 0, 1) := by decide +kernel
theorem d4_fill_6 : decode m4_fill.2.1 6 = .ok (.iconst 0, 1) := by decide +kernel
theorem d4_fill_7 : decode m4_fill.2.1 7 = .ok (.putfield 61, 3) := by decide +kernel
theorem d4_fill_10 : decode m4_fill.2.1 10 = .ok (.aload_n 0, 1) := by decide +kernel
theorem d4_fill_11 : decode m4_fill.2.1 11 = .ok (.iconst 0, 1) := by decide +kernel
theorem d4_fill_12 : decode m4_fill.2.1 12 = .ok (.putfield 94, 3) := by decide +kernel
theorem d4_fill_15 : decode m4_fill.2.1 15 = .ok (.aload_n 1, 1) := by decide +kernel
theorem d4_fill_16 : decode m4_fill.2.1 16 = .ok (.iload_n 2, 1) := by decide +kernel
theorem d4_fill_17 : decode m4_fill.2.1 17 = .ok (.invokevirtual 70, 3) := by decide +kernel
theorem d4_fill_20 : decode m4_fill.2.1 20 = .ok (.ifCond .eq 12, 3) := by decide +kernel
theorem d4_fill_23 : decode m4_fill.2.1 23 = .ok (.aload_n 1, 1) := by decide +kernel
theorem d4_fill_24 : decode m4_fill.2.1 24 = .ok (.getfield 91, 3) := by decide +kernel
theorem d4_fill_27 : decode m4_fill.2.1 27 = .ok (.iload_n 2, 1) := by decide +kernel
theorem d4_fill_28 : decode m4_fill.2.1 28 = .ok (.iaload, 1) := by decide +kernel
theorem d4_fill_29 : decode m4_fill.2.1 29 = .ok (.goto 4, 3) := by decide +kernel
theorem d4_fill_32 : decode m4_fill.2.1 32 = .ok (.iconst 0, 1) := by decide +kernel
theorem d4_fill_33 : decode m4_fill.2.1 33 = .ok (.istore_n 3, 1) := by decide +kernel
theorem d4_fill_34 : decode m4_fill.2.1 34 = .ok (.iconst 0, 1) := by decide +kernel
theorem d4_fill_35 : decode m4_fill.2.1 35 = .ok (.istore 4, 2) := by decide +kernel
theorem d4_fill_37 : decode m4_fill.2.1 37 = .ok (.iload 4, 2) := by decide +kernel
theorem d4_fill_39 : decode m4_fill.2.1 39 = .ok (.aload_n 0, 1) := by decide +kernel
theorem d4_fill_40 : decode m4_fill.2.1 40 = .ok (.getfield 27, 3) := by decide +kernel
theorem d4_fill_43 : decode m4_fill.2.1 43 = .ok (.if_icmp .ge 63, 3) := by decide +kernel
theorem d4_fill_46 : decode m4_fill.2.1 46 = .ok (.aload_n 0, 1) := by decide +kernel
theorem d4_fill_47 : decode m4_fill.2.1 47 = .ok (.getfield 18, 3) := by decide +kernel
theorem d4_fill_50 : decode m4_fill.2.1 50 = .ok (.iload 4, 2) := by decide +kernel
theorem d4_fill_52 : decode m4_fill.2.1 52 = .ok (.iaload, 1) := by decide +kernel
theorem d4_fill_53 : decode m4_fill.2.1 53 = .ok (.aload_n 0, 1) := by decide +kernel
theorem d4_fill_54 : decode m4_fill.2.1 54 = .ok (.getfield 61, 3) := by decide +kernel
theorem d4_fill_57 : decode m4_fill.2.1 57 = .ok (.if_icmp .le 43, 3) := by decide +kernel
theorem d4_fill_60 : decode m4_fill.2.1 60 = .ok (.aload_n 0, 1) := by decide +kernel
theorem d4_fill_61 : decode m4_fill.2.1 61 = .ok (.getfield 18, 3) := by decide +kernel
theorem d4_fill_64 : decode m4_fill.2.1 64 = .ok (.iload 4, 2) := by decide +kernel
theorem d4_fill_66 : decode m4_fill.2.1 66 = .ok (.iaload, 1) := by decide +kernel
theorem d4_fill_67 : decode m4_fill.2.1 67 = .ok (.iload_n 3, 1) := by decide +kernel
theorem d4_fill_68 : decode m4_fill.2.1 68 = .ok (.if_icmp .gt 32, 3) := by decide +kernel
theorem d4_fill_71 : decode m4_fill.2.1 71 = .ok (.aload_n 0, 1) := by decide +kernel
theorem d4_fill_72 : decode m4_fill.2.1 72 = .ok (.aload_n 0, 1) := by decide +kernel
theorem d4_fill_73 : decode m4_fill.2.1 73 = .ok (.getfield 18, 3) := by decide +kernel
theorem d4_fill_76 : decode m4_fill.2.1 76 = .ok (.iload 4, 2) := by decide +kernel
theorem d4_fill_78 : decode m4_fill.2.1 78 = .ok (.iaload, 1) := by decide +kernel
theorem d4_fill_79 : decode m4_fill.2.1 79 = .ok (.putfield 61, 3) := by decide +kernel
theorem d4_fill_82 : decode m4_fill.2.1 82 = .ok (.aload_n 0, 1) := by decide +kernel
theorem d4_fill_83 : decode m4_fill.2.1 83 = .ok (.iconst 1, 1) := by decide +kernel
theorem d4_fill_84 : decode m4_fill.2.1 84 = .ok (.putfield 94, 3) := by decide +kernel
theorem d4_fill_87 : decode m4_fill.2.1 87 = .ok (.aload_n 0, 1) := by decide +kernel
theorem d4_fill_88 : decode m4_fill.2.1 88 = .ok (.getfield 9, 3) := by decide +kernel
theorem d4_fill_91 : decode m4_fill.2.1 91 = .ok (.iconst 0, 1) := by decide +kernel
theorem d4_fill_92 : decode m4_fill.2.1 92 = .ok (.aload_n 0, 1) := by decide +kernel
theorem d4_fill_93 : decode m4_fill.2.1 93 = .ok (.getfield 15, 3) := by decide +kernel
theorem d4_fill_96 : decode m4_fill.2.1 96 = .ok (.iload 4, 2) := by decide +kernel
theorem d4_fill_98 : decode m4_fill.2.1 98 = .ok (.iaload, 1) := by decide +kernel
theorem d4_fill_99 : decode m4_fill.2.1 99 = .ok (.iastore, 1) := by decide +kernel
theorem d4_fill_100 : decode m4_fill.2.1 100 = .ok (.iinc 4 1, 3) := by decide +kernel
theorem d4_fill_103 : decode m4_fill.2.1 103 = .ok (.goto (-66), 3) := by decide +kernel
theorem d4_fill_106 : decode m4_fill.2.1 106 = .ok (.iconst 0, 1) := by decide +kernel
theorem d4_fill_107 : decode m4_fill.2.1 107 = .ok (.istore 4, 2) := by decide +kernel
theorem d4_fill_109 : decode m4_fill.2.1 109 = .ok (.iload 4, 2) := by decide +kernel
theorem d4_fill_111 : decode m4_fill.2.1 111 = .ok (.aload_n 0, 1) := by decide +kernel
theorem d4_fill_112 : decode m4_fill.2.1 112 = .ok (.getfield 27, 3) := by decide +kernel
theorem d4_fill_115 : decode m4_fill.2.1 115 = .ok (.if_icmp .ge 16, 3) := by decide +kernel
theorem d4_fill_118 : decode m4_fill.2.1 118 = .ok (.aload_n 0, 1) := by decide +kernel
theorem d4_fill_119 : decode m4_fill.2.1 119 = .ok (.iload 4, 2) := by decide +kernel
theorem d4_fill_121 : decode m4_fill.2.1 121 = .ok (.iload_n 3, 1) := by decide +kernel
theorem d4_fill_122 : decode m4_fill.2.1 122 = .ok (.invokevirtual 97, 3) := by decide +kernel
theorem d4_fill_125 : decode m4_fill.2.1 125 = .ok (.iinc 4 1, 3) := by decide +kernel
theorem d4_fill_128 : decode m4_fill.2.1 128 = .ok (.goto (-19), 3) := by decide +kernel
theorem d4_fill_131 : decode m4_fill.2.1 131 = .ok (.return_, 1) := by decide +kernel
def b4_fill_100 (rec37 : Int × AH → Option (Int × AH)) (x3 : Int) (x4 : Int) (h : AH) : Option (Int × AH) :=
  rec37 ((x4 + 1), h)
set_option maxRecDepth 100000 in
theorem t4_fill_100 (l : Launch) (G : Geo) (d : Nat) (hd : 6 ≤ d) (x3 : Int) (x4 : Int) (rec37 : Int × AH → Option (Int × AH)) (H37 : ∀ (x4 : Int) (h : AH), Den l G m4_fill rvV d 37 [some (vA G 53), none, none, some (vI x3), some (vI x4)] [] h (rec37 (x4, h))) (h : AH) : Den l G m4_fill rvV d 100 [some (vA G 53), none, none, some (vI x3), some (vI x4)] [] h (b4_fill_100 rec37 x3 x4 h) := by
  unfold b4_fill_100
  refine den_iinc (pc := 100) (L2 := [some (vA G 53), none, none, some (vI x3), some (vI (x4 + 1))]) d4_fill_100 (by decide) rfl rfl ?_
  refine den_goto (pc := 103) (tgt := 37) d4_fill_103 (by decide) ?_
  exact H37 (x4 + 1) h
def b4_fill_109 (rec109 : Int × AH → Option (Int × AH)) (x3 : Int) (x4 : Int) (h : AH) : Option (Int × AH) :=
  if w32 (h.2 53 7) ≤ w32 x4 then
    some (0, h)
  else
    bnd (f4_fillBehind x4 x3 h) fun r1 h2 =>
    rec109 ((x4 + 1), h2)
set_option maxRecDepth 100000 in
theorem t4_fill_109 (l : Launch) (G : Geo) (d : Nat) (hd : 6 ≤ d) (x3 : Int) (x4 : Int) (rec109 : Int × AH → Option (Int × AH)) (H109 : ∀ (x4 : Int) (h : AH), Den l G m4_fill rvV d 109 [some (vA G 53), none, none, some (vI x3), some (vI x4)] [] h (rec109 (x4, h))) (h : AH) : Den l G m4_fill rvV d 109 [some (vA G 53), none, none, some (vI x3), some (vI x4)] [] h (b4_fill_109 rec109 x3 x4 h) := by
  unfold b4_fill_109
  refine den_iload (pc := 109) d4_fill_109 rfl ?_
  refine den_aload_n (pc := 111) d4_fill_111 rfl rfl ?_
  refine den_getI (pc := 112) fa_4_27 (ok_53 _) d4_fill_112 ?_
  refine den_icmp_ge (pc := 115) (tgt := 131) d4_fill_115 (by decide) rfl rfl (fun _ => ?_) (fun _ => ?_)
  · exact den_vret (pc := 131) rfl d4_fill_131
  · refine den_aload_n (pc := 118) d4_fill_118 rfl rfl ?_
    refine den_iload (pc := 119) d4_fill_119 rfl ?_
    refine den_iload_n (pc := 121) d4_fill_121 rfl rfl ?_
    refine den_callVV (pc := 122) (As := [vI x4, vI x3]) fv_4_97 rfl rfl (ok_53 _) (Nat.le_of_ble_eq_true rfl) (Nat.le_trans (by decide) hd) d4_fill_122 (c4_fillBehind l G x4 x3 h) (fun r1 h2 m3 o4 => ?_)
    refine den_iinc (pc := 125) (L2 := [some (vA G 53), none, none, some (vI x3), some (vI (x4 + 1))]) d4_fill_125 (by decide) rfl rfl ?_
    refine den_goto (pc := 128) (tgt := 109) d4_fill_128 (by decide) ?_
    exact H109 (x4 + 1) h2
def l4_fill_109 (x3 : Int) (x4 : Int) (h : AH) : Option (Int × AH) := fx (fun rec z => b4_fill_109 rec x3 z.1 z.2) FU (x4, h)
set_option maxRecDepth 100000 in
theorem tl4_fill_109 (l : Launch) (G : Geo) (d : Nat) (hd : 6 ≤ d) (x3 : Int) : ∀ (n : Nat) (z : Int × AH), True → Den l G m4_fill rvV d 109 [some (vA G 53), none, none, some (vI x3), some (vI z.1)] [] z.2 (fx (fun rec z => b4_fill_109 rec x3 z.1 z.2) n z) :=
  den_fx (F := fun rec z => b4_fill_109 rec x3 z.1 z.2) (P := fun z => True) (fL := fun z => [some (vA G 53), none, none, some (vI x3), some (vI z.1)]) (fs := fun z => []) (fh := fun z => z.2) (fun rec hrec z hz => t4_fill_109 l G d hd x3 z.1 rec (fun x4 h => hrec (x4, h) trivial) z.2 )
def b4_fill_37 (rec37 : Int × AH → Option (Int × AH)) (x3 : Int) (x4 : Int) (h : AH) : Option (Int × AH) :=
  if w32 (h.2 53 7) ≤ w32 x4 then
    l4_fill_109 x3 0 h
  else
    asrt (0 ≤ w32 x4 ∧ w32 x4 < 168) <|
    if w32 (h.2 56 (w32 x4).toNat) ≤ w32 (h.2 53 2) then
      b4_fill_100 rec37 x3 x4 h
    else
      asrt (0 ≤ w32 x4 ∧ w32 x4 < 168) <|
      if w32 x3 < w32 (h.2 56 (w32 x4).toNat) then
        b4_fill_100 rec37 x3 x4 h
      else
        asrt (0 ≤ w32 x4 ∧ w32 x4 < 168) <|
        lt (wr h 53 2 (h.2 56 (w32 x4).toNat)) fun h8 =>
        lt (wr h8 53 1 1) fun h10 =>
        asrt (0 ≤ w32 x4 ∧ w32 x4 < 168) <|
        asrt (0 ≤ w32 0 ∧ w32 0 < 4) <|
        lt (wr h10 54 (w32 0).toNat (h10.2 55 (w32 x4).toNat)) fun h14 =>
        b4_fill_100 rec37 x3 x4 h14
set_option maxRecDepth 100000 in
theorem t4_fill_37 (l : Launch) (G : Geo) (d : Nat) (hd : 6 ≤ d) (x3 : Int) (x4 : Int) (rec37 : Int × AH → Option (Int × AH)) (H37 : ∀ (x4 : Int) (h : AH), Den l G m4_fill rvV d 37 [some (vA G 53), none, none, some (vI x3), some (vI x4)] [] h (rec37 (x4, h))) (h : AH) : Den l G m4_fill rvV d 37 [some (vA G 53), none, none, some (vI x3), some (vI x4)] [] h (b4_fill_37 rec37 x3 x4 h) := by
  unfold b4_fill_37
  refine den_iload (pc := 37) d4_fill_37 rfl ?_
  refine den_aload_n (pc := 39) d4_fill_39 rfl rfl ?_
  refine den_getI (pc := 40) fa_4_27 (ok_53 _) d4_fill_40 ?_
  refine den_icmp_ge (pc := 43) (tgt := 106) d4_fill_43 (by decide) rfl rfl (fun _ => ?_) (fun _ => ?_)
  · refine den_iconst (pc := 106) d4_fill_106 ?_
    refine den_istore (pc := 107) (L2 := [some (vA G 53), none, none, some (vI x3), some (vI 0)]) d4_fill_107 (by decide) rfl ?_
    exact tl4_fill_109 l G _ hd x3 FU (0, h) trivial
  · refine den_aload_n (pc := 46) d4_fill_46 rfl rfl ?_
    refine den_getR (pc := 47) (b := 56) fa_4_18 (ok_53 _) rfl d4_fill_47 ?_
    refine den_iload (pc := 50) d4_fill_50 rfl ?_
    refine den_asrt (fun a5 => ?_)
    refine den_iaload (pc := 52) sh_56 (sz_lt (by decide)) rfl a5 d4_fill_52 ?_
    refine den_aload_n (pc := 53) d4_fill_53 rfl rfl ?_
    refine den_getI (pc := 54) fa_4_61 (ok_53 _) d4_fill_54 ?_
    refine den_icmp_le (pc := 57) (tgt := 100) d4_fill_57 (by decide) rfl rfl (fun _ => ?_) (fun _ => ?_)
    · exact t4_fill_100 l G _ hd x3 x4 rec37 H37 h
    · refine den_aload_n (pc := 60) d4_fill_60 rfl rfl ?_
      refine den_getR (pc := 61) (b := 56) fa_4_18 (ok_53 _) rfl d4_fill_61 ?_
      refine den_iload (pc := 64) d4_fill_64 rfl ?_
      refine den_asrt (fun a6 => ?_)
      refine den_iaload (pc := 66) sh_56 (sz_lt (by decide)) rfl a6 d4_fill_66 ?_
      refine den_iload_n (pc := 67) d4_fill_67 rfl rfl ?_
      refine den_icmp_gt (pc := 68) (tgt := 100) d4_fill_68 (by decide) rfl rfl (fun _ => ?_) (fun _ => ?_)
      · exact t4_fill_100 l G _ hd x3 x4 rec37 H37 h
      · refine den_aload_n (pc := 71) d4_fill_71 rfl rfl ?_
        refine den_aload_n (pc := 72) d4_fill_72 rfl rfl ?_
        refine den_getR (pc := 73) (b := 56) fa_4_18 (ok_53 _) rfl d4_fill_73 ?_
        refine den_iload (pc := 76) d4_fill_76 rfl ?_
        refine den_asrt (fun a7 => ?_)
        refine den_iaload (pc := 78) sh_56 (sz_lt (by decide)) rfl a7 d4_fill_78 ?_
        refine den_putI (pc := 79) fp_4_61 (ok_53 _) d4_fill_79 ?_
        refine den_ltH (fun h8 m9 => ?_)
        refine den_aload_n (pc := 82) d4_fill_82 rfl rfl ?_
        refine den_iconst (pc := 83) d4_fill_83 ?_
        refine den_putI (pc := 84) fp_4_94 (ok_53 _) d4_fill_84 ?_
        refine den_ltH (fun h10 m11 => ?_)
        refine den_aload_n (pc := 87) d4_fill_87 rfl rfl ?_
        refine den_getR (pc := 88) (b := 54) fa_4_9 (ok_53 _) rfl d4_fill_88 ?_
        refine den_iconst (pc := 91) d4_fill_91 ?_
        refine den_aload_n (pc := 92) d4_fill_92 rfl rfl ?_
        refine den_getR (pc := 93) (b := 55) fa_4_15 (ok_53 _) rfl d4_fill_93 ?_
        refine den_iload (pc := 96) d4_fill_96 rfl ?_
        refine den_asrt (fun a12 => ?_)
        refine den_iaload (pc := 98) sh_55 (sz_lt (by decide)) rfl a12 d4_fill_98 ?_
        refine den_asrt (fun a13 => ?_)
        refine den_iastore (pc := 99) sh_54 (sz_lt (by decide)) rfl a13 d4_fill_99 ?_
        refine den_ltH (fun h14 m15 => ?_)
        exact t4_fill_100 l G _ hd x3 x4 rec37 H37 h14
def l4_fill_37 (x3 : Int) (x4 : Int) (h : AH) : Option (Int × AH) := fx (fun rec z => b4_fill_37 rec x3 z.1 z.2) FU (x4, h)
set_option maxRecDepth 100000 in
theorem tl4_fill_37 (l : Launch) (G : Geo) (d : Nat) (hd : 6 ≤ d) (x3 : Int) : ∀ (n : Nat) (z : Int × AH), True → Den l G m4_fill rvV d 37 [some (vA G 53), none, none, some (vI x3), some (vI z.1)] [] z.2 (fx (fun rec z => b4_fill_37 rec x3 z.1 z.2) n z) :=
  den_fx (F := fun rec z => b4_fill_37 rec x3 z.1 z.2) (P := fun z => True) (fL := fun z => [some (vA G 53), none, none, some (vI x3), some (vI z.1)]) (fs := fun z => []) (fh := fun z => z.2) (fun rec hrec z hz => t4_fill_37 l G d hd x3 z.1 rec (fun x4 h => hrec (x4, h) trivial) z.2 )
def b4_fill_33 (s0 : Int) (h : AH) : Option (Int × AH) :=
  l4_fill_37 s0 0 h
set_option maxRecDepth 100000 in
theorem t4_fill_33 (l : Launch) (G : Geo) (d : Nat) (hd : 6 ≤ d) (s0 : Int) (h : AH) : Den l G m4_fill rvV d 33 [some (vA G 53), none, none, none, none] [vI s0] h (b4_fill_33 s0 h) := by
  unfold b4_fill_33
  refine den_istore_n (pc := 33) (L2 := [some (vA G 53), none, none, some (vI s0), none]) d4_fill_33 rfl (by decide) rfl ?_
  refine den_iconst (pc := 34) d4_fill_34 ?_
  refine den_istore (pc := 35) (L2 := [some (vA G 53), none, none, some (vI s0), some (vI 0)]) d4_fill_35 (by decide) rfl ?_
  exact tl4_fill_37 l G _ hd s0 FU (0, h) trivial
def f4_fill (x1 : Nat) (x2 : Int) (h : AH) : Option (Int × AH) :=
  bnd (f4_gather x1 h) fun r16 h17 =>
  lt (wr h17 53 2 0) fun h21 =>
  lt (wr h21 53 1 0) fun h24 =>
  bnd (f9_hasHearth x1 x2 h24) fun r27 h28 =>
  if w32 r27 = 0 then
    b4_fill_33 0 h28
  else
    asrt (0 ≤ w32 x2 ∧ w32 x2 < 4) <|
    b4_fill_33 (h28.2 (x1 + 4) (w32 x2).toNat) h28
set_option maxRecDepth 100000 in
theorem c4_fill (l : Launch) (G : Geo) (x1 : Nat) (x2 : Int) (h : AH) (kx1 : ok h.1 x1 9) : Con l G m4_fill rvV 6 [vA G 53, vA G x1, vI x2] h (f4_fill x1 x2 h) := by
  have hd : 6 ≤ 6 := Nat.le_refl _
  refine con_V rfl (by decide) rfl rfl (Nat.le_of_ble_eq_true rfl) (L := [some (vA G 53), some (vA G x1), some (vI x2), none, none]) ?_
  unfold f4_fill
  refine den_aload_n (pc := 0) d4_fill_0 rfl rfl ?_
  refine den_aload_n (pc := 1) d4_fill_1 rfl rfl ?_
  refine den_callVV (pc := 2) (As := [vA G x1]) fv_4_47 rfl rfl (ok_53 _) (Nat.le_of_ble_eq_true rfl) (Nat.le_trans (by decide) hd) d4_fill_2 (c4_gather l G x1 h kx1) (fun r16 h17 m18 o19 => ?_)
  have q20 := ok.mono kx1 m18
  refine den_aload_n (pc := 5) d4_fill_5 rfl rfl ?_
  refine den_iconst (pc := 6) d4_fill_6 ?_
  refine den_putI (pc := 7) fp_4_61 (ok_53 _) d4_fill_7 ?_
  refine den_ltH (fun h21 m22 => ?_)
  have q23 := ok.mono q20 m22
  refine den_aload_n (pc := 10) d4_fill_10 rfl rfl ?_
  refine den_iconst (pc := 11) d4_fill_11 ?_
  refine den_putI (pc := 12) fp_4_94 (ok_53 _) d4_fill_12 ?_
  refine den_ltH (fun h24 m25 => ?_)
  have q26 := ok.mono q23 m25
  refine den_aload_n (pc := 15) d4_fill_15 rfl rfl ?_
  refine den_iload_n (pc := 16) d4_fill_16 rfl rfl ?_
  refine den_callVI (pc := 17) (As := [vI x2]) fv_4_70 rfl rfl q26 (Nat.le_of_ble_eq_true rfl) (Nat.le_trans (by decide) hd) d4_fill_17 (c9_hasHearth l G x1 x2 h24 q26) (fun r27 h28 m29 o30 => ?_)
  have q31 := ok.mono q26 m29
  refine den_if_eq (pc := 20) (tgt := 32) d4_fill_20 (by decide) rfl (fun _ => ?_) (fun _ => ?_)
  · refine den_iconst (pc := 32) d4_fill_32 ?_
    refine den_wk [true, false, false, true, true] rfl ?_
    exact t4_fill_33 l G _ hd 0 h28
  · refine den_aload_n (pc := 23) d4_fill_23 rfl rfl ?_
    refine den_getR (pc := 24) (b := x1 + 4) fa_4_91 q31 rfl d4_fill_24 ?_
    refine den_iload_n (pc := 27) d4_fill_27 rfl rfl ?_
    refine den_asrt (fun a32 => ?_)
    refine den_iaload (pc := 28) (vil_s4 q31) (vil_l4 q31) rfl a32 d4_fill_28 ?_
    refine den_goto (pc := 29) (tgt := 33) d4_fill_29 (by decide) ?_
    refine den_wk [true, false, false, true, true] rfl ?_
    exact t4_fill_33 l G _ hd (h28.2 (x1 + 4) (w32 x2).toNat) h28
theorem d5_note_0 : decode m5_note.2.1 0 = .ok (.aload_n 0, 1) := by decide +kernel
theorem d5_note_1 : decode m5_note.2.1 1 = .ok (.getfield 60, 3) := by decide +kernel
theorem d5_note_4 : decode m5_note.2.1 4 = .ok (.ifCond .ne 13, 3) := by decide +kernel
theorem d5_note_7 : decode m5_note.2.1 7 = .ok (.aload_n 0, 1) := by decide +kernel
theorem d5_note_8 : decode m5_note.2.1 8 = .ok (.iload_n 1, 1) := by decide +kernel
theorem d5_note_9 : decode m5_note.2.1 9 = .ok (.putfield 60, 3) := by decide +kernel
theorem d5_note_12 : decode m5_note.2.1 12 = .ok (.aload_n 0, 1) := by decide +kernel
theorem d5_note_13 : decode m5_note.2.1 13 = .ok (.iload_n 2, 1) := by decide +kernel
theorem d5_note_14 : decode m5_note.2.1 14 = .ok (.putfield 63, 3) := by decide +kernel
theorem d5_note_17 : decode m5_note.2.1 17 = .ok (.return_, 1) := by decide +kernel
def f5_note (x1 : Int) (x2 : Int) (h : AH) : Option (Int × AH) :=
  if ¬ w32 (h.2 28 3) = 0 then
    some (0, h)
  else
    lt (wr h 28 3 x1) fun h1 =>
    lt (wr h1 28 4 x2) fun h3 =>
    some (0, h3)
set_option maxRecDepth 100000 in
theorem c5_note (l : Launch) (G : Geo) (x1 : Int) (x2 : Int) (h : AH) : Con l G m5_note rvV 2 [vA G 28, vI x1, vI x2] h (f5_note x1 x2 h) := by
  have hd : 2 ≤ 2 := Nat.le_refl _
  refine con_V rfl (by decide) rfl rfl (Nat.le_of_ble_eq_true rfl) (L := [some (vA G 28), some (vI x1), some (vI x2)]) ?_
  unfold f5_note
  refine den_aload_n (pc := 0) d5_note_0 rfl rfl ?_
  refine den_getI (pc := 1) fa_5_60 (ok_28 _) d5_note_1 ?_
  refine den_if_ne (pc := 4) (tgt := 17) d5_note_4 (by decide) rfl (fun _ => ?_) (fun _ => ?_)
  · exact den_vret (pc := 17) rfl d5_note_17
  · refine den_aload_n (pc := 7) d5_note_7 rfl rfl ?_
    refine den_iload_n (pc := 8) d5_note_8 rfl rfl ?_
    refine den_putI (pc := 9) fp_5_60 (ok_28 _) d5_note_9 ?_
    refine den_ltH (fun h1 m2 => ?_)
    refine den_aload_n (pc := 12) d5_note_12 rfl rfl ?_
    refine den_iload_n (pc := 13) d5_note_13 rfl rfl ?_
    refine den_putI (pc := 14) fp_5_63 (ok_28 _) d5_note_14 ?_
    refine den_ltH (fun h3 m4 => ?_)
    exact den_vret (pc := 17) rfl d5_note_17
theorem d5_breakOff_0 : decode m5_breakOff.2.1 0 = .ok (.aload_n 0, 1) := by decide +kernel
theorem d5_breakOff_1 : decode m5_breakOff.2.1 1 = .ok (.iconst 1, 1) := by decide +kernel
theorem d5_breakOff_2 : decode m5_breakOff.2.1 2 = .ok (.putfield 60, 3) := by decide +kernel
theorem d5_breakOff_5 : decode m5_breakOff.2.1 5 = .ok (.aload_n 0, 1) := by decide +kernel
theorem d5_breakOff_6 : decode m5_breakOff.2.1 6 = .ok (.aload_n 0, 1) := by decide +kernel
theorem d5_breakOff_7 : decode m5_breakOff.2.1 7 = .ok (.getfield 108, 3) := by decide +kernel
theorem d5_breakOff_10 : decode m5_breakOff.2.1 10 = .ok (.putfield 63, 3) := by decide +kernel
theorem d5_breakOff_13 : decode m5_breakOff.2.1 13 = .ok (.return_, 1) := by decide +kernel
def f5_breakOff (h : AH) : Option (Int × AH) :=
  lt (wr h 28 3 1) fun h1 =>
  lt (wr h1 28 4 (h1.2 28 9)) fun h3 =>
  some (0, h3)
set_option maxRecDepth 100000 in
theorem c5_breakOff (l : Launch) (G : Geo) (h : AH) : Con l G m5_breakOff rvV 2 [vA G 28] h (f5_breakOff  h) := by
  have hd : 2 ≤ 2 := Nat.le_refl _
  refine con_V rfl (by decide) rfl rfl (Nat.le_of_ble_eq_true rfl) (L := [some (vA G 28)]) ?_
  unfold f5_breakOff
  refine den_aload_n (pc := 0) d5_breakOff_0 rfl rfl ?_
  refine den_iconst (pc := 1) d5_breakOff_1 ?_
  refine den_putI (pc := 2) fp_5_60 (ok_28 _) d5_breakOff_2 ?_
  refine den_ltH (fun h1 m2 => ?_)
  refine den_aload_n (pc := 5) d5_breakOff_5 rfl rfl ?_
  refine den_aload_n (pc := 6) d5_breakOff_6 rfl rfl ?_
  refine den_getI (pc := 7) fa_5_108 (ok_28 _) d5_breakOff_7 ?_
  refine den_putI (pc := 10) fp_5_63 (ok_28 _) d5_breakOff_10 ?_
  refine den_ltH (fun h3 m4 => ?_)
  exact den_vret (pc := 13) rfl d5_breakOff_13
theorem d6_isFull_0 : decode m6_isFull.2.1 0 = .ok (.aload_n 0, 1) := by decide +kernel
theorem d6_isFull_1 : decode m6_isFull.2.1 1 = .ok (.getfield 22, 3) := by decide +kernel
theorem d6_isFull_4 : decode m6_isFull.2.1 4 = .ok (.aload_n 0, 1) := by decide +kernel
theorem d6_isFull_5 : decode m6_isFull.2.1 5 = .ok (.getfield 15, 3) := by decide +kernel
theorem d6_isFull_8 : decode m6_isFull.2.1 8 = .ok (.if_icmp .lt 7, 3) := by decide +kernel
theorem d6_isFull_11 : decode m6_isFull.2.1 11 = .ok (.iconst 1, 1) := by decide +kernel
theorem d6_isFull_12 : decode m6_isFull.2.1 12 = .ok (.goto 4, 3) := by decide +kernel
theorem d6_isFull_15 : decode m6_isFull.2.1 15 = .ok (.iconst 0, 1) := by decide +kernel
theorem d6_isFull_16 : decode m6_isFull.2.1 16 = .ok (.ireturn, 1) := by decide +kernel
def f6_isFull (x0 : Nat) (h : AH) : Option (Int × AH) :=
  if w32 (h.2 x0 3) < w32 (h.2 x0 1) then
    some (0, h)
  else
    some (1, h)
set_option maxRecDepth 100000 in
theorem c6_isFull (l : Launch) (G : Geo) (x0 : Nat) (h : AH) (kx0 : ok h.1 x0 6) : Con l G m6_isFull rvI 2 [vA G x0] h (f6_isFull x0 h) := by
  have hd : 2 ≤ 2 := Nat.le_refl _
  refine con_Z rfl (by decide) rfl rfl (Nat.le_of_ble_eq_true rfl) (L := [some (vA G x0)]) ?_
  unfold f6_isFull
  refine den_aload_n (pc := 0) d6_isFull_0 rfl rfl ?_
  refine den_getI (pc := 1) fa_6_22 kx0 d6_isFull_1 ?_
  refine den_aload_n (pc := 4) d6_isFull_4 rfl rfl ?_
  refine den_getI (pc := 5) fa_6_15 kx0 d6_isFull_5 ?_
  refine den_icmp_lt (pc := 8) (tgt := 15) d6_isFull_8 (by decide) rfl rfl (fun _ => ?_) (fun _ => ?_)
  · refine den_iconst (pc := 15) d6_isFull_15 ?_
    exact den_zret (pc := 16) rfl (by decide) d6_isFull_16
  · refine den_iconst (pc := 11) d6_isFull_11 ?_
    refine den_goto (pc := 12) (tgt := 16) d6_isFull_12 (by decide) ?_
    exact den_zret (pc := 16) rfl (by decide) d6_isFull_16
theorem d5_isOneTooMany_0 : decode m5_isOneTooMany.2.1 0 = .ok (.iload_n 1, 1) := by decide +kernel
theorem d5_isOneTooMany_1 : decode m5_isOneTooMany.2.1 1 = .ok (.tableswitch 104 0 10 #[59, 59, 61, 79, 59, 104, 104, 104, 104, 104, 96], 59) := by decide +kernel
theorem d5_isOneTooMany_60 : decode m5_isOneTooMany.2.1 60 = .ok (.iconst 0, 1) := by decide +kernel
theorem d5_isOneTooMany_61 : decode m5_isOneTooMany.2.1 61 = .ok (.ireturn, 1) := by decide +kernel
theorem d5_isOneTooMany_62 : decode m5_isOneTooMany.2.1 62 = .ok (.aload_n 0, 1) := by decide +kernel
theorem d5_isOneTooMany_63 : decode m5_isOneTooMany.2.1 63 = .ok (.getfield 12, 3) := by decide +kernel
theorem d5_isOneTooMany_66 : decode m5_isOneTooMany.2.1 66 = .ok (.getfield 91, 3) := by decide +kernel
theorem d5_isOneTooMany_69 : decode m5_isOneTooMany.2.1 69 = .ok (.bipush 6, 2) := by decide +kernel
theorem d5_isOneTooMany_71 : decode m5_isOneTooMany.2.1 71 = .ok (.if_icmp .lt 7, 3) := by decide +kernel
theorem d5_isOneTooMany_74 : decode m5_isOneTooMany.2.1 74 = .ok (.iconst 1, 1) := by decide +kernel
theorem d5_isOneTooMany_75 : decode m5_isOneTooMany.2.1 75 = .ok (.goto 4, 3) := by decide +kernel
theorem d5_isOneTooMany_78 : decode m5_isOneTooMany.2.1 78 = .ok (.iconst 0, 1) := by decide +kernel
theorem d5_isOneTooMany_79 : decode m5_isOneTooMany.2.1 79 = .ok (.ireturn, 1) := by decide +kernel
theorem d5_isOneTooMany_80 : decode m5_isOneTooMany.2.1 80 = .ok (.aload_n 0, 1) := by decide +kernel
theorem d5_isOneTooMany_81 : decode m5_isOneTooMany.2.1 81 = .ok (.getfield 12, 3) := by decide +kernel
theorem d5_isOneTooMany_84 : decode m5_isOneTooMany.2.1 84 = .ok (.getfield 156, 3) := by decide +kernel
theorem d5_isOneTooMany_87 : decode m5_isOneTooMany.2.1 87 = .ok (.iconst 4, 1) := by decide +kernel
theorem d5_isOneTooMany_88 : decode m5_isOneTooMany.2.1 88 = .ok (.if_icmp .lt 7, 3) := by decide +kernel
theorem d5_isOneTooMany_91 : decode m5_isOneTooMany.2.1 91 = .ok (.iconst 1, 1) := by decide +kernel
theorem d5_isOneTooMany_92 : decode m5_isOneTooMany.2.1 92 = .ok (.goto 4, 3) := by decide +kernel
theorem d5_isOneTooMany_95 : decode m5_isOneTooMany.2.1 95 = .ok (.iconst 0, 1) := by decide +kernel
theorem d5_isOneTooMany_96 : decode m5_isOneTooMany.2.1 96 = .ok (.ireturn, 1) := by decide +kernel
theorem d5_isOneTooMany_97 : decode m5_isOneTooMany.2.1 97 = .ok (.aload_n 0, 1) := by decide +kernel
theorem d5_isOneTooMany_98 : decode m5_isOneTooMany.2.1 98 = .ok (.getfield 27, 3) := by decide +kernel
theorem d5_isOneTooMany_101 : decode m5_isOneTooMany.2.1 101 = .ok (.invokevirtual 159, 3) := by decide +kernel
theorem d5_isOneTooMany_104 : decode m5_isOneTooMany.2.1 104 = .ok (.ireturn, 1) := by decide +kernel
theorem d5_isOneTooMany_105 : decode m5_isOneTooMany.2.1 105 = .ok (.aload_n 0, 1) := by decide +kernel
theorem d5_isOneTooMany_106 : decode m5_isOneTooMany.2.1 106 = .ok (.getfield 23, 3) := by decide +kernel
theorem d5_isOneTooMany_109 : decode m5_isOneTooMany.2.1 109 = .ok (.invokevirtual 159, 3) := by decide +kernel
theorem d5_isOneTooMany_112 : decode m5_isOneTooMany.2.1 112 = .ok (.ireturn, 1) := by decide +kernel
def f5_isOneTooMany (x1 : Int) (h : AH) : Option (Int × AH) :=
  if w32 x1 = 0 then
    some (0, h)
  else
  if w32 x1 = 1 then
    some (0, h)
  else
  if w32 x1 = 2 then
    if w32 (h.2 29 1) < 6 then
      some (0, h)
    else
      some (1, h)
  else
  if w32 x1 = 3 then
    if w32 (h.2 29 2) < 4 then
      some (0, h)
    else
      some (1, h)
  else
  if w32 x1 = 4 then
    some (0, h)
  else
  if w32 x1 = 10 then
    bnd (f6_isFull 37 h) fun r7 h8 =>
    asrt (w32 r7 = 0 ∨ w32 r7 = 1) <|
    some (r7, h8)
  else
  bnd (f6_isFull 35 h) fun r42 h43 =>
  asrt (w32 r42 = 0 ∨ w32 r42 = 1) <|
  some (r42, h43)
set_option maxRecDepth 100000 in
theorem c5_isOneTooMany (l : Launch) (G : Geo) (x1 : Int) (h : AH) : Con l G m5_isOneTooMany rvI 3 [vA G 28, vI x1] h (f5_isOneTooMany x1 h) := by
  have hd : 3 ≤ 3 := Nat.le_refl _
  refine con_Z rfl (by decide) rfl rfl (Nat.le_of_ble_eq_true rfl) (L := [some (vA G 28), some (vI x1)]) ?_
  unfold f5_isOneTooMany
  refine den_iload_n (pc := 0) d5_isOneTooMany_0 rfl rfl ?_
  refine den_ite (fun c1 => ?_) (fun c1 => ?_)
  · refine den_tableIn (pc := 1) (tgt := 60) d5_isOneTooMany_1 (by omega) (by omega) (by rw [c1]; rfl) (by decide) ?_
    refine den_iconst (pc := 60) d5_isOneTooMany_60 ?_
    exact den_zret (pc := 61) rfl (by decide) d5_isOneTooMany_61
  refine den_ite (fun c2 => ?_) (fun c2 => ?_)
  · refine den_tableIn (pc := 1) (tgt := 60) d5_isOneTooMany_1 (by omega) (by omega) (by rw [c2]; rfl) (by decide) ?_
    refine den_iconst (pc := 60) d5_isOneTooMany_60 ?_
    exact den_zret (pc := 61) rfl (by decide) d5_isOneTooMany_61
  refine den_ite (fun c3 => ?_) (fun c3 => ?_)
  · refine den_tableIn (pc := 1) (tgt := 62) d5_isOneTooMany_1 (by omega) (by omega) (by rw [c3]; rfl) (by decide) ?_
    refine den_aload_n (pc := 62) d5_isOneTooMany_62 rfl rfl ?_
    refine den_getR (pc := 63) (b := 29) fa_5_12 (ok_28 _) rfl d5_isOneTooMany_63 ?_
    refine den_getI (pc := 66) fa_5_91 (ok_29 _) d5_isOneTooMany_66 ?_
    refine den_bipush (pc := 69) d5_isOneTooMany_69 (by decide) ?_
    refine den_icmp_lt (pc := 71) (tgt := 78) d5_isOneTooMany_71 (by decide) rfl (by decide) (fun _ => ?_) (fun _ => ?_)
    · refine den_iconst (pc := 78) d5_isOneTooMany_78 ?_
      exact den_zret (pc := 79) rfl (by decide) d5_isOneTooMany_79
    · refine den_iconst (pc := 74) d5_isOneTooMany_74 ?_
      refine den_goto (pc := 75) (tgt := 79) d5_isOneTooMany_75 (by decide) ?_
      exact den_zret (pc := 79) rfl (by decide) d5_isOneTooMany_79
  refine den_ite (fun c4 => ?_) (fun c4 => ?_)
  · refine den_tableIn (pc := 1) (tgt := 80) d5_isOneTooMany_1 (by omega) (by omega) (by rw [c4]; rfl) (by decide) ?_
    refine den_aload_n (pc := 80) d5_isOneTooMany_80 rfl rfl ?_
    refine den_getR (pc := 81) (b := 29) fa_5_12 (ok_28 _) rfl d5_isOneTooMany_81 ?_
    refine den_getI (pc := 84) fa_5_156 (ok_29 _) d5_isOneTooMany_84 ?_
    refine den_iconst (pc := 87) d5_isOneTooMany_87 ?_
    refine den_icmp_lt (pc := 88) (tgt := 95) d5_isOneTooMany_88 (by decide) rfl (by decide) (fun _ => ?_) (fun _ => ?_)
    · refine den_iconst (pc := 95) d5_isOneTooMany_95 ?_
      exact den_zret (pc := 96) rfl (by decide) d5_isOneTooMany_96
    · refine den_iconst (pc := 91) d5_isOneTooMany_91 ?_
      refine den_goto (pc := 92) (tgt := 96) d5_isOneTooMany_92 (by decide) ?_
      exact den_zret (pc := 96) rfl (by decide) d5_isOneTooMany_96
  refine den_ite (fun c5 => ?_) (fun c5 => ?_)
  · refine den_tableIn (pc := 1) (tgt := 60) d5_isOneTooMany_1 (by omega) (by omega) (by rw [c5]; rfl) (by decide) ?_
    refine den_iconst (pc := 60) d5_isOneTooMany_60 ?_
    exact den_zret (pc := 61) rfl (by decide) d5_isOneTooMany_61
  refine den_ite (fun c6 => ?_) (fun c6 => ?_)
  · refine den_tableIn (pc := 1) (tgt := 97) d5_isOneTooMany_1 (by omega) (by omega) (by rw [c6]; rfl) (by decide) ?_
    refine den_aload_n (pc := 97) d5_isOneTooMany_97 rfl rfl ?_
    refine den_getR (pc := 98) (b := 37) fa_5_27 (ok_28 _) rfl d5_isOneTooMany_98 ?_
    refine den_callVI (pc := 101) (As := []) fv_5_159 rfl rfl (ok_37 _) (Nat.le_of_ble_eq_true rfl) (Nat.le_trans (by decide) hd) d5_isOneTooMany_101 (c6_isFull l G 37 h (ok_37 _)) (fun r7 h8 m9 o10 => ?_)
    refine den_asrt (fun a11 => ?_)
    exact den_zret (pc := 104) rfl a11 d5_isOneTooMany_104
  by_cases c12 : w32 x1 = 5
  · refine den_tableIn (pc := 1) (tgt := 105) d5_isOneTooMany_1 (by omega) (by omega) (by rw [c12]; rfl) (by decide) ?_
    refine den_aload_n (pc := 105) d5_isOneTooMany_105 rfl rfl ?_
    refine den_getR (pc := 106) (b := 35) fa_5_23 (ok_28 _) rfl d5_isOneTooMany_106 ?_
    refine den_callVI (pc := 109) (As := []) fv_5_159 rfl rfl (ok_35 _) (Nat.le_of_ble_eq_true rfl) (Nat.le_trans (by decide) hd) d5_isOneTooMany_109 (c6_isFull l G 35 h (ok_35 _)) (fun r13 h14 m15 o16 => ?_)
    refine den_asrt (fun a17 => ?_)
    exact den_zret (pc := 112) rfl a17 d5_isOneTooMany_112
  by_cases c18 : w32 x1 = 6
  · refine den_tableIn (pc := 1) (tgt := 105) d5_isOneTooMany_1 (by omega) (by omega) (by rw [c18]; rfl) (by decide) ?_
    refine den_aload_n (pc := 105) d5_isOneTooMany_105 rfl rfl ?_
    refine den_getR (pc := 106) (b := 35) fa_5_23 (ok_28 _) rfl d5_isOneTooMany_106 ?_
    refine den_callVI (pc := 109) (As := []) fv_5_159 rfl rfl (ok_35 _) (Nat.le_of_ble_eq_true rfl) (Nat.le_trans (by decide) hd) d5_isOneTooMany_109 (c6_isFull l G 35 h (ok_35 _)) (fun r19 h20 m21 o22 => ?_)
    refine den_asrt (fun a23 => ?_)
    exact den_zret (pc := 112) rfl a23 d5_isOneTooMany_112
  by_cases c24 : w32 x1 = 7
  · refine den_tableIn (pc := 1) (tgt := 105) d5_isOneTooMany_1 (by omega) (by omega) (by rw [c24]; rfl) (by decide) ?_
    refine den_aload_n (pc := 105) d5_isOneTooMany_105 rfl rfl ?_
    refine den_getR (pc := 106) (b := 35) fa_5_23 (ok_28 _) rfl d5_isOneTooMany_106 ?_
    refine den_callVI (pc := 109) (As := []) fv_5_159 rfl rfl (ok_35 _) (Nat.le_of_ble_eq_true rfl) (Nat.le_trans (by decide) hd) d5_isOneTooMany_109 (c6_isFull l G 35 h (ok_35 _)) (fun r25 h26 m27 o28 => ?_)
    refine den_asrt (fun a29 => ?_)
    exact den_zret (pc := 112) rfl a29 d5_isOneTooMany_112
  by_cases c30 : w32 x1 = 8
  · refine den_tableIn (pc := 1) (tgt := 105) d5_isOneTooMany_1 (by omega) (by omega) (by rw [c30]; rfl) (by decide) ?_
    refine den_aload_n (pc := 105) d5_isOneTooMany_105 rfl rfl ?_
    refine den_getR (pc := 106) (b := 35) fa_5_23 (ok_28 _) rfl d5_isOneTooMany_106 ?_
    refine den_callVI (pc := 109) (As := []) fv_5_159 rfl rfl (ok_35 _) (Nat.le_of_ble_eq_true rfl) (Nat.le_trans (by decide) hd) d5_isOneTooMany_109 (c6_isFull l G 35 h (ok_35 _)) (fun r31 h32 m33 o34 => ?_)
    refine den_asrt (fun a35 => ?_)
    exact den_zret (pc := 112) rfl a35 d5_isOneTooMany_112
  by_cases c36 : w32 x1 = 9
  · refine den_tableIn (pc := 1) (tgt := 105) d5_isOneTooMany_1 (by omega) (by omega) (by rw [c36]; rfl) (by decide) ?_
    refine den_aload_n (pc := 105) d5_isOneTooMany_105 rfl rfl ?_
    refine den_getR (pc := 106) (b := 35) fa_5_23 (ok_28 _) rfl d5_isOneTooMany_106 ?_
    refine den_callVI (pc := 109) (As := []) fv_5_159 rfl rfl (ok_35 _) (Nat.le_of_ble_eq_true rfl) (Nat.le_trans (by decide) hd) d5_isOneTooMany_109 (c6_isFull l G 35 h (ok_35 _)) (fun r37 h38 m39 o40 => ?_)
    refine den_asrt (fun a41 => ?_)
    exact den_zret (pc := 112) rfl a41 d5_isOneTooMany_112
  refine den_tableOut (pc := 1) (tgt := 105) d5_isOneTooMany_1 (by omega) (by decide) ?_
  refine den_aload_n (pc := 105) d5_isOneTooMany_105 rfl rfl ?_
  refine den_getR (pc := 106) (b := 35) fa_5_23 (ok_28 _) rfl d5_isOneTooMany_106 ?_
  refine den_callVI (pc := 109) (As := []) fv_5_159 rfl rfl (ok_35 _) (Nat.le_of_ble_eq_true rfl) (Nat.le_trans (by decide) hd) d5_isOneTooMany_109 (c6_isFull l G 35 h (ok_35 _)) (fun r42 h43 m44 o45 => ?_)
  refine den_asrt (fun a46 => ?_)
  exact den_zret (pc := 112) rfl a46 d5_isOneTooMany_112
theorem d5_isWord_0 : decode m5_isWord.2.1 0 = .ok (.aload_n 0, 1) := by decide +kernel
theorem d5_isWord_1 : decode m5_isWord.2.1 1 = .ok (.getfield 57, 3) := by decide +kernel
theorem d5_isWord_4 : decode m5_isWord.2.1 4 = .ok (.aload_n 0, 1) := by decide +kernel
theorem d5_isWord_5 : decode m5_isWord.2.1 5 = .ok (.getfield 108, 3) := by decide +kernel
theorem d5_isWord_8 : decode m5_isWord.2.1 8 = .ok (.isub, 1) := by decide +kernel
theorem d5_isWord_9 : decode m5_isWord.2.1 9 = .ok (.aload_n 1, 1) := by decide +kernel
theorem d5_isWord_10 : decode m5_isWord.2.1 10 = .ok (.invokevirtual 211, 3) := by decide +kernel
theorem d5_isWord_13 : decode m5_isWord.2.1 13 = .ok (.if_icmp .eq 5, 3) := by decide +kernel
theorem d5_isWord_16 : decode m5_isWord.2.1 16 = .ok (.iconst 0, 1) := by decide +kernel
theorem d5_isWord_17 : decode m5_isWord.2.1 17 = .ok (.ireturn, 1) := by decide +kernel
theorem d5_isWord_18 : decode m5_isWord.2.1 18 = .ok (.iconst 0, 1) := by decide +kernel
theorem d5_isWord_19 : decode m5_isWord.2.1 19 = .ok (.istore_n 2, 1) := by decide +kernel
theorem d5_isWord_20 : decode m5_isWord.2.1 20 = .ok (.iload_n 2, 1) := by decide +kernel
theorem d5_isWord_21 : decode m5_isWord.2.1 21 = .ok (.aload_n 1, 1) := by decide +kernel
theorem d5_isWord_22 : decode m5_isWord.2.1 22 = .ok (.invokevirtual 211, 3) := by decide +kernel
theorem d5_isWord_25 : decode m5_isWord.2.1 25 = .ok (.if_icmp .ge 30, 3) := by decide +kernel
theorem d5_isWord_28 : decode m5_isWord.2.1 28 = .ok (.aload_n 0, 1) := by decide +kernel
theorem d5_isWord_29 : decode m5_isWord.2.1 29 = .ok (.getfield 30, 3) := by decide +kernel
theorem d5_isWord_32 : decode m5_isWord.2.1 32 = .ok (.aload_n 0, 1) := by decide +kernel
theorem d5_isWord_33 : decode m5_isWord.2.1 33 = .ok (.getfield 108, 3) := by decide +kernel
theorem d5_isWord_36 : decode m5_isWord.2.1 36 = .ok (.iload_n 2, 1) := by decide +kernel
theorem d5_isWord_37 : decode m5_isWord.2.1 37 = .ok (.iadd, 1) := by decide +kernel
theorem d5_isWord_38 : decode m5_isWord.2.1 38 = .ok (.baload, 1) := by decide +kernel
theorem d5_isWord_39 : decode m5_isWord.2.1 39 = .ok (.aload_n 1, 1) := by decide +kernel
theorem d5_isWord_40 : decode m5_isWord.2.1 40 = .ok (.iload_n 2, 1) := by decide +kernel
theorem d5_isWord_41 : decode m5_isWord.2.1 41 = .ok (.invokevirtual 216, 3) := by decide +kernel
theorem d5_isWord_44 : decode m5_isWord.2.1 44 = .ok (.if_icmp .eq 5, 3) := by decide +kernel
theorem d5_isWord_47 : decode m5_isWord.2.1 47 = .ok (.iconst 0, 1) := by decide +kernel
theorem d5_isWord_48 : decode m5_isWord.2.1 48 = .ok (.ireturn, 1) := by decide +kernel
theorem d5_isWord_49 : decode m5_isWord.2.1 49 = .ok (.iinc 2 1, 3) := by decide +kernel
theorem d5_isWord_52 : decode m5_isWord.2.1 52 = .ok (.goto (-32), 3) := by decide +kernel
theorem d5_isWord_55 : decode m5_isWord.2.1 55 = .ok (.iconst 1, 1) := by decide +kernel
theorem d5_isWord_56 : decode m5_isWord.2.1 56 = .ok (.ireturn, 1) := by decide +kernel
def b5_isWord_20 (rec20 : Int × AH → Option (Int × AH)) (x1 : Nat) (x2 : Int) (h : AH) : Option (Int × AH) :=
  asrt (3 ≤ x1 ∧ x1 < 14) <|
  if w32 (strLen x1) ≤ w32 x2 then
    some (1, h)
  else
    asrt (0 ≤ w32 ((h.2 28 9) + x2) ∧ w32 ((h.2 28 9) + x2) < 600) <|
    asrt ((3 ≤ x1 ∧ x1 < 14) ∧ 0 ≤ w32 x2 ∧ w32 x2 < strLen x1) <|
    if w32 (h.2 39 (w32 ((h.2 28 9) + x2)).toNat) = w32 (strAt x1 (w32 x2).toNat) then
      rec20 ((x2 + 1), h)
    else
      some (0, h)
set_option maxRecDepth 100000 in
theorem t5_isWord_20 (l : Launch) (G : Geo) (d : Nat) (hd : 9 ≤ d) (x1 : Nat) (x2 : Int) (rec20 : Int × AH → Option (Int × AH)) (H20 : ∀ (x2 : Int) (h : AH), Den l G m5_isWord rvI d 20 [some (vA G 28), some (vS G x1), some (vI x2)] [] h (rec20 (x2, h))) (h : AH) : Den l G m5_isWord rvI d 20 [some (vA G 28), some (vS G x1), some (vI x2)] [] h (b5_isWord_20 rec20 x1 x2 h) := by
  unfold b5_isWord_20
  refine den_iload_n (pc := 20) d5_isWord_20 rfl rfl ?_
  refine den_aloadS_n (pc := 21) d5_isWord_21 rfl rfl ?_
  refine den_asrt (fun a5 => ?_)
  refine den_strlen (pc := 22) fx_5_211 a5 (Nat.le_of_ble_eq_true rfl) (Nat.le_trans (by decide) hd) d5_isWord_22 ?_
  refine den_icmp_ge (pc := 25) (tgt := 55) d5_isWord_25 (by decide) rfl rfl (fun _ => ?_) (fun _ => ?_)
  · refine den_iconst (pc := 55) d5_isWord_55 ?_
    exact den_zret (pc := 56) rfl (by decide) d5_isWord_56
  · refine den_aload_n (pc := 28) d5_isWord_28 rfl rfl ?_
    refine den_getR (pc := 29) (b := 39) fa_5_30 (ok_28 _) rfl d5_isWord_29 ?_
    refine den_aload_n (pc := 32) d5_isWord_32 rfl rfl ?_
    refine den_getI (pc := 33) fa_5_108 (ok_28 _) d5_isWord_33 ?_
    refine den_iload_n (pc := 36) d5_isWord_36 rfl rfl ?_
    refine den_iadd (pc := 37) d5_isWord_37 ?_
    refine den_asrt (fun a6 => ?_)
    refine den_baload (pc := 38) sh_39 (sz_lt (by decide)) rfl a6 d5_isWord_38 ?_
    refine den_aloadS_n (pc := 39) d5_isWord_39 rfl rfl ?_
    refine den_iload_n (pc := 40) d5_isWord_40 rfl rfl ?_
    refine den_asrt (fun a11 => ?_)
    refine den_charAt (pc := 41) fx_5_216 a11 (Nat.le_of_ble_eq_true rfl) (Nat.le_trans (by decide) hd) d5_isWord_41 ?_
    refine den_icmp_eq (pc := 44) (tgt := 49) d5_isWord_44 (by decide) rfl rfl (fun _ => ?_) (fun _ => ?_)
    · refine den_iinc (pc := 49) (L2 := [some (vA G 28), some (vS G x1), some (vI (x2 + 1))]) d5_isWord_49 (by decide) rfl rfl ?_
      refine den_goto (pc := 52) (tgt := 20) d5_isWord_52 (by decide) ?_
      exact H20 (x2 + 1) h
    · refine den_iconst (pc := 47) d5_isWord_47 ?_
      exact den_zret (pc := 48) rfl (by decide) d5_isWord_48
def l5_isWord_20 (x1 : Nat) (x2 : Int) (h : AH) : Option (Int × AH) := fx (fun rec z => b5_isWord_20 rec x1 z.1 z.2) FU (x2, h)
set_option maxRecDepth 100000 in
theorem tl5_isWord_20 (l : Launch) (G : Geo) (d : Nat) (hd : 9 ≤ d) (x1 : Nat) : ∀ (n : Nat) (z : Int × AH), True → Den l G m5_isWord rvI d 20 [some (vA G 28), some (vS G x1), some (vI z.1)] [] z.2 (fx (fun rec z => b5_isWord_20 rec x1 z.1 z.2) n z) :=
  den_fx (F := fun rec z => b5_isWord_20 rec x1 z.1 z.2) (P := fun z => True) (fL := fun z => [some (vA G 28), some (vS G x1), some (vI z.1)]) (fs := fun z => []) (fh := fun z => z.2) (fun rec hrec z hz => t5_isWord_20 l G d hd x1 z.1 rec (fun x2 h => hrec (x2, h) trivial) z.2 )
def f5_isWord (x1 : Nat) (h : AH) : Option (Int × AH) :=
  asrt (3 ≤ x1 ∧ x1 < 14) <|
  if w32 ((h.2 28 10) - (h.2 28 9)) = w32 (strLen x1) then
    l5_isWord_20 x1 0 h
  else
    some (0, h)
set_option maxRecDepth 100000 in
theorem c5_isWord (l : Launch) (G : Geo) (x1 : Nat) (h : AH) : Con l G m5_isWord rvI 9 [vA G 28, vS G x1] h (f5_isWord x1 h) := by
  have hd : 9 ≤ 9 := Nat.le_refl _
  refine con_Z rfl (by decide) rfl rfl (Nat.le_of_ble_eq_true rfl) (L := [some (vA G 28), some (vS G x1), none]) ?_
  unfold f5_isWord
  refine den_aload_n (pc := 0) d5_isWord_0 rfl rfl ?_
  refine den_getI (pc := 1) fa_5_57 (ok_28 _) d5_isWord_1 ?_
  refine den_aload_n (pc := 4) d5_isWord_4 rfl rfl ?_
  refine den_getI (pc := 5) fa_5_108 (ok_28 _) d5_isWord_5 ?_
  refine den_isub (pc := 8) d5_isWord_8 ?_
  refine den_aloadS_n (pc := 9) d5_isWord_9 rfl rfl ?_
  refine den_asrt (fun a16 => ?_)
  refine den_strlen (pc := 10) fx_5_211 a16 (Nat.le_of_ble_eq_true rfl) (Nat.le_trans (by decide) hd) d5_isWord_10 ?_
  refine den_icmp_eq (pc := 13) (tgt := 18) d5_isWord_13 (by decide) rfl rfl (fun _ => ?_) (fun _ => ?_)
  · refine den_iconst (pc := 18) d5_isWord_18 ?_
    refine den_istore_n (pc := 19) (L2 := [some (vA G 28), some (vS G x1), some (vI 0)]) d5_isWord_19 rfl (by decide) rfl ?_
    exact tl5_isWord_20 l G _ hd x1 FU (0, h) trivial
  · refine den_iconst (pc := 16) d5_isWord_16 ?_
    exact den_zret (pc := 17) rfl (by decide) d5_isWord_17
theorem d5_dayLine_0 : decode m5_dayLine.2.1 0 = .ok (.aload_n 0, 1) := by decide +kernel
theorem d5_dayLine_1 : decode m5_dayLine.2.1 1 = .ok (.ldc 146, 2) := by decide +kernel
theorem d5_dayLine_3 : decode m5_dayLine.2.1 3 = .ok (.invokevirtual 133, 3) := by decide +kernel
theorem d5_dayLine_6 : decode m5_dayLine.2.1 6 = .ok (.ifCond .eq 5, 3) := by decide +kernel
theorem d5_dayLine_9 : decode m5_dayLine.2.1 9 = .ok (.iconst 5, 1) := by decide +kernel
theorem d5_dayLine_10 : decode m5_dayLine.2.1 10 = .ok (.ireturn, 1) := by decide +kernel
theorem d5_dayLine_11 : decode m5_dayLine.2.1 11 = .ok (.aload_n 0, 1) := by decide +kernel
theorem d5_dayLine_12 : decode m5_dayLine.2.1 12 = .ok (.ldc 148, 2) := by decide +kernel
theorem d5_dayLine_14 : decode m5_dayLine.2.1 14 = .ok (.invokevirtual 133, 3) := by decide +kernel
theorem d5_dayLine_17 : decode m5_dayLine.2.1 17 = .ok (.ifCond .eq 6, 3) := by decide +kernel
theorem d5_dayLine_20 : decode m5_dayLine.2.1 20 = .ok (.bipush 6, 2) := by decide +kernel
theorem d5_dayLine_22 : decode m5_dayLine.2.1 22 = .ok (.ireturn, 1) := by decide +kernel
theorem d5_dayLine_23 : decode m5_dayLine.2.1 23 = .ok (.aload_n 0, 1) := by decide +kernel
theorem d5_dayLine_24 : decode m5_dayLine.2.1 24 = .ok (.ldc 150, 2) := by decide +kernel
theorem d5_dayLine_26 : decode m5_dayLine.2.1 26 = .ok (.invokevirtual 133, 3) := by decide +kernel
theorem d5_dayLine_29 : decode m5_dayLine.2.1 29 = .ok (.ifCond .eq 6, 3) := by decide +kernel
theorem d5_dayLine_32 : decode m5_dayLine.2.1 32 = .ok (.bipush 7, 2) := by decide +kernel
theorem d5_dayLine_34 : decode m5_dayLine.2.1 34 = .ok (.ireturn, 1) := by decide +kernel
theorem d5_dayLine_35 : decode m5_dayLine.2.1 35 = .ok (.aload_n 0, 1) := by decide +kernel
theorem d5_dayLine_36 : decode m5_dayLine.2.1 36 = .ok (.ldc 152, 2) := by decide +kernel
theorem d5_dayLine_38 : decode m5_dayLine.2.1 38 = .ok (.invokevirtual 133, 3) := by decide +kernel
theorem d5_dayLine_41 : decode m5_dayLine.2.1 41 = .ok (.ifCond .eq 6, 3) := by decide +kernel
theorem d5_dayLine_44 : decode m5_dayLine.2.1 44 = .ok (.bipush 8, 2) := by decide +kernel
theorem d5_dayLine_46 : decode m5_dayLine.2.1 46 = .ok (.ireturn, 1) := by decide +kernel
theorem d5_dayLine_47 : decode m5_dayLine.2.1 47 = .ok (.aload_n 0, 1) := by decide +kernel
theorem d5_dayLine_48 : decode m5_dayLine.2.1 48 = .ok (.ldc 154, 2) := by decide +kernel
theorem d5_dayLine_50 : decode m5_dayLine.2.1 50 = .ok (.invokevirtual 133, 3) := by decide +kernel
theorem d5_dayLine_53 : decode m5_dayLine.2.1 53 = .ok (.ifCond .eq 8, 3) := by decide +kernel
theorem d5_dayLine_56 : decode m5_dayLine.2.1 56 = .ok (.bipush 9, 2) := by decide +kernel
theorem d5_dayLine_58 : decode m5_dayLine.2.1 58 = .ok (.goto 4, 3) := by decide +kernel
theorem d5_dayLine_61 : decode m5_dayLine.2.1 61 = .ok (.iconst (-1), 1) := by decide +kernel
theorem d5_dayLine_62 : decode m5_dayLine.2.1 62 = .ok (.ireturn, 1) := by decide +kernel
def f5_dayLine (h : AH) : Option (Int × AH) :=
  bnd (f5_isWord 8 h) fun r1 h2 =>
  if w32 r1 = 0 then
    bnd (f5_isWord 9 h2) fun r5 h6 =>
    if w32 r5 = 0 then
      bnd (f5_isWord 10 h6) fun r9 h10 =>
      if w32 r9 = 0 then
        bnd (f5_isWord 11 h10) fun r13 h14 =>
        if w32 r13 = 0 then
          bnd (f5_isWord 12 h14) fun r17 h18 =>
          if w32 r17 = 0 then
            some ((-1), h18)
          else
            some (9, h18)
        else
          some (8, h14)
      else
        some (7, h10)
    else
      some (6, h6)
  else
    some (5, h2)
set_option maxRecDepth 100000 in
theorem c5_dayLine (l : Launch) (G : Geo) (h : AH) : Con l G m5_dayLine rvI 10 [vA G 28] h (f5_dayLine  h) := by
  have hd : 10 ≤ 10 := Nat.le_refl _
  refine con_I rfl (by decide) rfl rfl (Nat.le_of_ble_eq_true rfl) (L := [some (vA G 28)]) ?_
  unfold f5_dayLine
  refine den_aload_n (pc := 0) d5_dayLine_0 rfl rfl ?_
  refine den_ldcS (pc := 1) (i := 5) (by decide) (by decide) rfl d5_dayLine_1 ?_
  refine den_callVI (pc := 3) (As := [vS G 8]) fv_5_133 rfl rfl (ok_28 _) (Nat.le_of_ble_eq_true rfl) (Nat.le_trans (by decide) hd) d5_dayLine_3 (c5_isWord l G 8 h) (fun r1 h2 m3 o4 => ?_)
  refine den_if_eq (pc := 6) (tgt := 11) d5_dayLine_6 (by decide) rfl (fun _ => ?_) (fun _ => ?_)
  · refine den_aload_n (pc := 11) d5_dayLine_11 rfl rfl ?_
    refine den_ldcS (pc := 12) (i := 6) (by decide) (by decide) rfl d5_dayLine_12 ?_
    refine den_callVI (pc := 14) (As := [vS G 9]) fv_5_133 rfl rfl (ok_28 _) (Nat.le_of_ble_eq_true rfl) (Nat.le_trans (by decide) hd) d5_dayLine_14 (c5_isWord l G 9 h2) (fun r5 h6 m7 o8 => ?_)
    refine den_if_eq (pc := 17) (tgt := 23) d5_dayLine_17 (by decide) rfl (fun _ => ?_) (fun _ => ?_)
    · refine den_aload_n (pc := 23) d5_dayLine_23 rfl rfl ?_
      refine den_ldcS (pc := 24) (i := 7) (by decide) (by decide) rfl d5_dayLine_24 ?_
      refine den_callVI (pc := 26) (As := [vS G 10]) fv_5_133 rfl rfl (ok_28 _) (Nat.le_of_ble_eq_true rfl) (Nat.le_trans (by decide) hd) d5_dayLine_26 (c5_isWord l G 10 h6) (fun r9 h10 m11 o12 => ?_)
      refine den_if_eq (pc := 29) (tgt := 35) d5_dayLine_29 (by decide) rfl (fun _ => ?_) (fun _ => ?_)
      · refine den_aload_n (pc := 35) d5_dayLine_35 rfl rfl ?_
        refine den_ldcS (pc := 36) (i := 8) (by decide) (by decide) rfl d5_dayLine_36 ?_
        refine den_callVI (pc := 38) (As := [vS G 11]) fv_5_133 rfl rfl (ok_28 _) (Nat.le_of_ble_eq_true rfl) (Nat.le_trans (by decide) hd) d5_dayLine_38 (c5_isWord l G 11 h10) (fun r13 h14 m15 o16 => ?_)
        refine den_if_eq (pc := 41) (tgt := 47) d5_dayLine_41 (by decide) rfl (fun _ => ?_) (fun _ => ?_)
        · refine den_aload_n (pc := 47) d5_dayLine_47 rfl rfl ?_
          refine den_ldcS (pc := 48) (i := 9) (by decide) (by decide) rfl d5_dayLine_48 ?_
          refine den_callVI (pc := 50) (As := [vS G 12]) fv_5_133 rfl rfl (ok_28 _) (Nat.le_of_ble_eq_true rfl) (Nat.le_trans (by decide) hd) d5_dayLine_50 (c5_isWord l G 12 h14) (fun r17 h18 m19 o20 => ?_)
          refine den_if_eq (pc := 53) (tgt := 61) d5_dayLine_53 (by decide) rfl (fun _ => ?_) (fun _ => ?_)
          · refine den_iconst (pc := 61) d5_dayLine_61 ?_
            exact den_iret (pc := 62) rfl d5_dayLine_62
          · refine den_bipush (pc := 56) d5_dayLine_56 (by decide) ?_
            refine den_goto (pc := 58) (tgt := 62) d5_dayLine_58 (by decide) ?_
            exact den_iret (pc := 62) rfl d5_dayLine_62
        · refine den_bipush (pc := 44) d5_dayLine_44 (by decide) ?_
          exact den_iret (pc := 46) rfl d5_dayLine_46
      · refine den_bipush (pc := 32) d5_dayLine_32 (by decide) ?_
        exact den_iret (pc := 34) rfl d5_dayLine_34
    · refine den_bipush (pc := 20) d5_dayLine_20 (by decide) ?_
      exact den_iret (pc := 22) rfl d5_dayLine_22
  · refine den_iconst (pc := 9) d5_dayLine_9 ?_
    exact den_iret (pc := 10) rfl d5_dayLine_10
theorem d5_villageLine_0 : decode m5_villageLine.2.1 0 = .ok (.aload_n 0, 1) := by decide +kernel
theorem d5_villageLine_1 : decode m5_villageLine.2.1 1 = .ok (.ldc 137, 2) := by decide +kernel
theorem d5_villageLine_3 : decode m5_villageLine.2.1 3 = .ok (.invokevirtual 133, 3) := by decide +kernel
theorem d5_villageLine_6 : decode m5_villageLine.2.1 6 = .ok (.ifCond .eq 5, 3) := by decide +kernel
theorem d5_villageLine_9 : decode m5_villageLine.2.1 9 = .ok (.iconst 0, 1) := by decide +kernel
theorem d5_villageLine_10 : decode m5_villageLine.2.1 10 = .ok (.ireturn, 1) := by decide +kernel
theorem d5_villageLine_11 : decode m5_villageLine.2.1 11 = .ok (.aload_n 0, 1) := by decide +kernel
theorem d5_villageLine_12 : decode m5_villageLine.2.1 12 = .ok (.ldc 138, 2) := by decide +kernel
theorem d5_villageLine_14 : decode m5_villageLine.2.1 14 = .ok (.invokevirtual 133, 3) := by decide +kernel
theorem d5_villageLine_17 : decode m5_villageLine.2.1 17 = .ok (.ifCond .eq 5, 3) := by decide +kernel
theorem d5_villageLine_20 : decode m5_villageLine.2.1 20 = .ok (.iconst 1, 1) := by decide +kernel
theorem d5_villageLine_21 : decode m5_villageLine.2.1 21 = .ok (.ireturn, 1) := by decide +kernel
theorem d5_villageLine_22 : decode m5_villageLine.2.1 22 = .ok (.aload_n 0, 1) := by decide +kernel
theorem d5_villageLine_23 : decode m5_villageLine.2.1 23 = .ok (.ldc 140, 2) := by decide +kernel
theorem d5_villageLine_25 : decode m5_villageLine.2.1 25 = .ok (.invokevirtual 133, 3) := by decide +kernel
theorem d5_villageLine_28 : decode m5_villageLine.2.1 28 = .ok (.ifCond .eq 5, 3) := by decide +kernel
theorem d5_villageLine_31 : decode m5_villageLine.2.1 31 = .ok (.iconst 2, 1) := by decide +kernel
theorem d5_villageLine_32 : decode m5_villageLine.2.1 32 = .ok (.ireturn, 1) := by decide +kernel
theorem d5_villageLine_33 : decode m5_villageLine.2.1 33 = .ok (.aload_n 0, 1) := by decide +kernel
theorem d5_villageLine_34 : decode m5_villageLine.2.1 34 = .ok (.ldc 142, 2) := by decide +kernel
theorem d5_villageLine_36 : decode m5_villageLine.2.1 36 = .ok (.invokevirtual 133, 3) := by decide +kernel
theorem d5_villageLine_39 : decode m5_villageLine.2.1 39 = .ok (.ifCond .eq 5, 3) := by decide +kernel
theorem d5_villageLine_42 : decode m5_villageLine.2.1 42 = .ok (.iconst 3, 1) := by decide +kernel
theorem d5_villageLine_43 : decode m5_villageLine.2.1 43 = .ok (.ireturn, 1) := by decide +kernel
theorem d5_villageLine_44 : decode m5_villageLine.2.1 44 = .ok (.aload_n 0, 1) := by decide +kernel
theorem d5_villageLine_45 : decode m5_villageLine.2.1 45 = .ok (.ldc 144, 2) := by decide +kernel
theorem d5_villageLine_47 : decode m5_villageLine.2.1 47 = .ok (.invokevirtual 133, 3) := by decide +kernel
theorem d5_villageLine_50 : decode m5_villageLine.2.1 50 = .ok (.ifCond .eq 7, 3) := by decide +kernel
theorem d5_villageLine_53 : decode m5_villageLine.2.1 53 = .ok (.iconst 4, 1) := by decide +kernel
theorem d5_villageLine_54 : decode m5_villageLine.2.1 54 = .ok (.goto 4, 3) := by decide +kernel
theorem d5_villageLine_57 : decode m5_villageLine.2.1 57 = .ok (.iconst (-1), 1) := by decide +kernel
theorem d5_villageLine_58 : decode m5_villageLine.2.1 58 = .ok (.ireturn, 1) := by decide +kernel
def f5_villageLine (h : AH) : Option (Int × AH) :=
  bnd (f5_isWord 3 h) fun r1 h2 =>
  if w32 r1 = 0 then
    bnd (f5_isWord 4 h2) fun r5 h6 =>
    if w32 r5 = 0 then
      bnd (f5_isWord 5 h6) fun r9 h10 =>
      if w32 r9 = 0 then
        bnd (f5_isWord 6 h10) fun r13 h14 =>
        if w32 r13 = 0 then
          bnd (f5_isWord 7 h14) fun r17 h18 =>
          if w32 r17 = 0 then
            some ((-1), h18)
          else
            some (4, h18)
        else
          some (3, h14)
      else
        some (2, h10)
    else
      some (1, h6)
  else
    some (0, h2)
set_option maxRecDepth 100000 in
theorem c5_villageLine (l : Launch) (G : Geo) (h : AH) : Con l G m5_villageLine rvI 10 [vA G 28] h (f5_villageLine  h) := by
  have hd : 10 ≤ 10 := Nat.le_refl _
  refine con_I rfl (by decide) rfl rfl (Nat.le_of_ble_eq_true rfl) (L := [some (vA G 28)]) ?_
  unfold f5_villageLine
  refine den_aload_n (pc := 0) d5_villageLine_0 rfl rfl ?_
  refine den_ldcS (pc := 1) (i := 0) (by decide) (by decide) rfl d5_villageLine_1 ?_
  refine den_callVI (pc := 3) (As := [vS G 3]) fv_5_133 rfl rfl (ok_28 _) (Nat.le_of_ble_eq_true rfl) (Nat.le_trans (by decide) hd) d5_villageLine_3 (c5_isWord l G 3 h) (fun r1 h2 m3 o4 => ?_)
  refine den_if_eq (pc := 6) (tgt := 11) d5_villageLine_6 (by decide) rfl (fun _ => ?_) (fun _ => ?_)
  · refine den_aload_n (pc := 11) d5_villageLine_11 rfl rfl ?_
    refine den_ldcS (pc := 12) (i := 1) (by decide) (by decide) rfl d5_villageLine_12 ?_
    refine den_callVI (pc := 14) (As := [vS G 4]) fv_5_133 rfl rfl (ok_28 _) (Nat.le_of_ble_eq_true rfl) (Nat.le_trans (by decide) hd) d5_villageLine_14 (c5_isWord l G 4 h2) (fun r5 h6 m7 o8 => ?_)
    refine den_if_eq (pc := 17) (tgt := 22) d5_villageLine_17 (by decide) rfl (fun _ => ?_) (fun _ => ?_)
    · refine den_aload_n (pc := 22) d5_villageLine_22 rfl rfl ?_
      refine den_ldcS (pc := 23) (i := 2) (by decide) (by decide) rfl d5_villageLine_23 ?_
      refine den_callVI (pc := 25) (As := [vS G 5]) fv_5_133 rfl rfl (ok_28 _) (Nat.le_of_ble_eq_true rfl) (Nat.le_trans (by decide) hd) d5_villageLine_25 (c5_isWord l G 5 h6) (fun r9 h10 m11 o12 => ?_)
      refine den_if_eq (pc := 28) (tgt := 33) d5_villageLine_28 (by decide) rfl (fun _ => ?_) (fun _ => ?_)
      · refine den_aload_n (pc := 33) d5_villageLine_33 rfl rfl ?_
        refine den_ldcS (pc := 34) (i := 3) (by decide) (by decide) rfl d5_villageLine_34 ?_
        refine den_callVI (pc := 36) (As := [vS G 6]) fv_5_133 rfl rfl (ok_28 _) (Nat.le_of_ble_eq_true rfl) (Nat.le_trans (by decide) hd) d5_villageLine_36 (c5_isWord l G 6 h10) (fun r13 h14 m15 o16 => ?_)
        refine den_if_eq (pc := 39) (tgt := 44) d5_villageLine_39 (by decide) rfl (fun _ => ?_) (fun _ => ?_)
        · refine den_aload_n (pc := 44) d5_villageLine_44 rfl rfl ?_
          refine den_ldcS (pc := 45) (i := 4) (by decide) (by decide) rfl d5_villageLine_45 ?_
          refine den_callVI (pc := 47) (As := [vS G 7]) fv_5_133 rfl rfl (ok_28 _) (Nat.le_of_ble_eq_true rfl) (Nat.le_trans (by decide) hd) d5_villageLine_47 (c5_isWord l G 7 h14) (fun r17 h18 m19 o20 => ?_)
          refine den_if_eq (pc := 50) (tgt := 57) d5_villageLine_50 (by decide) rfl (fun _ => ?_) (fun _ => ?_)
          · refine den_iconst (pc := 57) d5_villageLine_57 ?_
            exact den_iret (pc := 58) rfl d5_villageLine_58
          · refine den_iconst (pc := 53) d5_villageLine_53 ?_
            refine den_goto (pc := 54) (tgt := 58) d5_villageLine_54 (by decide) ?_
            exact den_iret (pc := 58) rfl d5_villageLine_58
        · refine den_iconst (pc := 42) d5_villageLine_42 ?_
          exact den_iret (pc := 43) rfl d5_villageLine_43
      · refine den_iconst (pc := 31) d5_villageLine_31 ?_
        exact den_iret (pc := 32) rfl d5_villageLine_32
    · refine den_iconst (pc := 20) d5_villageLine_20 ?_
      exact den_iret (pc := 21) rfl d5_villageLine_21
  · refine den_iconst (pc := 9) d5_villageLine_9 ?_
    exact den_iret (pc := 10) rfl d5_villageLine_10
theorem d5_lineOf_0 : decode m5_lineOf.2.1 0 = .ok (.iload_n 1, 1) := by decide +kernel
theorem d5_lineOf_1 : decode m5_lineOf.2.1 1 = .ok (.ifCond .ne 8, 3) := by decide +kernel
theorem d5_lineOf_4 : decode m5_lineOf.2.1 4 = .ok (.aload_n 0, 1) := by decide +kernel
theorem d5_lineOf_5 : decode m5_lineOf.2.1 5 = .ok (.invokevirtual 125, 3) := by decide +kernel
theorem d5_lineOf_8 : decode m5_lineOf.2.1 8 = .ok (.ireturn, 1) := by decide +kernel
theorem d5_lineOf_9 : decode m5_lineOf.2.1 9 = .ok (.iload_n 1, 1) := by decide +kernel
theorem d5_lineOf_10 : decode m5_lineOf.2.1 10 = .ok (.iconst 1, 1) := by decide +kernel
theorem d5_lineOf_11 : decode m5_lineOf.2.1 11 = .ok (.if_icmp .ne 8, 3) := by decide +kernel
theorem d5_lineOf_14 : decode m5_lineOf.2.1 14 = .ok (.aload_n 0, 1) := by decide +kernel
theorem d5_lineOf_15 : decode m5_lineOf.2.1 15 = .ok (.invokevirtual 128, 3) := by decide +kernel
theorem d5_lineOf_18 : decode m5_lineOf.2.1 18 = .ok (.ireturn, 1) := by decide +kernel
theorem d5_lineOf_19 : decode m5_lineOf.2.1 19 = .ok (.aload_n 0, 1) := by decide +kernel
theorem d5_lineOf_20 : decode m5_lineOf.2.1 20 = .ok (.ldc 131, 2) := by decide +kernel
theorem d5_lineOf_22 : decode m5_lineOf.2.1 22 = .ok (.invokevirtual 133, 3) := by decide +kernel
theorem d5_lineOf_25 : decode m5_lineOf.2.1 25 = .ok (.ifCond .eq 8, 3) := by decide +kernel
theorem d5_lineOf_28 : decode m5_lineOf.2.1 28 = .ok (.bipush 10, 2) := by decide +kernel
theorem d5_lineOf_30 : decode m5_lineOf.2.1 30 = .ok (.goto 4, 3) := by decide +kernel
theorem d5_lineOf_33 : decode m5_lineOf.2.1 33 = .ok (.iconst (-1), 1) := by decide +kernel
theorem d5_lineOf_34 : decode m5_lineOf.2.1 34 = .ok (.ireturn, 1) := by decide +kernel
def f5_lineOf (x1 : Int) (h : AH) : Option (Int × AH) :=
  if ¬ w32 x1 = 0 then
    if ¬ w32 x1 = 1 then
      bnd (f5_isWord 13 h) fun r1 h2 =>
      if w32 r1 = 0 then
        some ((-1), h2)
      else
        some (10, h2)
    else
      bnd (f5_dayLine h) fun r5 h6 =>
      some (r5, h6)
  else
    bnd (f5_villageLine h) fun r9 h10 =>
    some (r9, h10)
set_option maxRecDepth 100000 in
theorem c5_lineOf (l : Launch) (G : Geo) (x1 : Int) (h : AH) : Con l G m5_lineOf rvI 11 [vA G 28, vI x1] h (f5_lineOf x1 h) := by
  have hd : 11 ≤ 11 := Nat.le_refl _
  refine con_I rfl (by decide) rfl rfl (Nat.le_of_ble_eq_true rfl) (L := [some (vA G 28), some (vI x1)]) ?_
  unfold f5_lineOf
  refine den_iload_n (pc := 0) d5_lineOf_0 rfl rfl ?_
  refine den_if_ne (pc := 1) (tgt := 9) d5_lineOf_1 (by decide) rfl (fun _ => ?_) (fun _ => ?_)
  · refine den_iload_n (pc := 9) d5_lineOf_9 rfl rfl ?_
    refine den_iconst (pc := 10) d5_lineOf_10 ?_
    refine den_icmp_ne (pc := 11) (tgt := 19) d5_lineOf_11 (by decide) rfl (by decide) (fun _ => ?_) (fun _ => ?_)
    · refine den_aload_n (pc := 19) d5_lineOf_19 rfl rfl ?_
      refine den_ldcS (pc := 20) (i := 10) (by decide) (by decide) rfl d5_lineOf_20 ?_
      refine den_callVI (pc := 22) (As := [vS G 13]) fv_5_133 rfl rfl (ok_28 _) (Nat.le_of_ble_eq_true rfl) (Nat.le_trans (by decide) hd) d5_lineOf_22 (c5_isWord l G 13 h) (fun r1 h2 m3 o4 => ?_)
      refine den_if_eq (pc := 25) (tgt := 33) d5_lineOf_25 (by decide) rfl (fun _ => ?_) (fun _ => ?_)
      · refine den_iconst (pc := 33) d5_lineOf_33 ?_
        exact den_iret (pc := 34) rfl d5_lineOf_34
      · refine den_bipush (pc := 28) d5_lineOf_28 (by decide) ?_
        refine den_goto (pc := 30) (tgt := 34) d5_lineOf_30 (by decide) ?_
        exact den_iret (pc := 34) rfl d5_lineOf_34
    · refine den_aload_n (pc := 14) d5_lineOf_14 rfl rfl ?_
      refine den_callVI (pc := 15) (As := []) fv_5_128 rfl rfl (ok_28 _) (Nat.le_of_ble_eq_true rfl) (Nat.le_trans (by decide) hd) d5_lineOf_15 (c5_dayLine l G h) (fun r5 h6 m7 o8 => ?_)
      exact den_iret (pc := 18) rfl d5_lineOf_18
  · refine den_aload_n (pc := 4) d5_lineOf_4 rfl rfl ?_
    refine den_callVI (pc := 5) (As := []) fv_5_125 rfl rfl (ok_28 _) (Nat.le_of_ble_eq_true rfl) (Nat.le_trans (by decide) hd) d5_lineOf_5 (c5_villageLine l G h) (fun r9 h10 m11 o12 => ?_)
    exact den_iret (pc := 8) rfl d5_lineOf_8
theorem d5_mayBe_0 : decode m5_mayBe.2.1 0 = .ok (.aload_n 0, 1) := by decide +kernel
theorem d5_mayBe_1 : decode m5_mayBe.2.1 1 = .ok (.getfield 34, 3) := by decide +kernel
theorem d5_mayBe_4 : decode m5_mayBe.2.1 4 = .ok (.iload_n 2, 1) := by decide +kernel
theorem d5_mayBe_5 : decode m5_mayBe.2.1 5 = .ok (.iaload, 1) := by decide +kernel
theorem d5_mayBe_6 : decode m5_mayBe.2.1 6 = .ok (.istore_n 3, 1) := by decide +kernel
theorem d5_mayBe_7 : decode m5_mayBe.2.1 7 = .ok (.iload_n 1, 1) := by decide +kernel
theorem d5_mayBe_8 : decode m5_mayBe.2.1 8 = .ok (.iconst 4, 1) := by decide +kernel
theorem d5_mayBe_9 : decode m5_mayBe.2.1 9 = .ok (.imul, 1) := by decide +kernel
theorem d5_mayBe_10 : decode m5_mayBe.2.1 10 = .ok (.iload_n 2, 1) := by decide +kernel
theorem d5_mayBe_11 : decode m5_mayBe.2.1 11 = .ok (.iadd, 1) := by decide +kernel
theorem d5_mayBe_12 : decode m5_mayBe.2.1 12 = .ok (.istore 4, 2) := by decide +kernel
theorem d5_mayBe_14 : decode m5_mayBe.2.1 14 = .ok (.iload_n 3, 1) := by decide +kernel
theorem d5_mayBe_15 : decode m5_mayBe.2.1 15 = .ok (.getstatic 163, 3) := by decide +kernel
theorem d5_mayBe_18 : decode m5_mayBe.2.1 18 = .ok (.iload 4, 2) := by decide +kernel
theorem d5_mayBe_20 : decode m5_mayBe.2.1 20 = .ok (.iaload, 1) := by decide +kernel
theorem d5_mayBe_21 : decode m5_mayBe.2.1 21 = .ok (.if_icmp .lt 13, 3) := by decide +kernel
theorem d5_mayBe_24 : decode m5_mayBe.2.1 24 = .ok (.iload_n 3, 1) := by decide +kernel
theorem d5_mayBe_25 : decode m5_mayBe.2.1 25 = .ok (.getstatic 166, 3) := by decide +kernel
theorem d5_mayBe_28 : decode m5_mayBe.2.1 28 = .ok (.iload 4, 2) := by decide +kernel
theorem d5_mayBe_30 : decode m5_mayBe.2.1 30 = .ok (.iaload, 1) := by decide +kernel
theorem d5_mayBe_31 : decode m5_mayBe.2.1 31 = .ok (.if_icmp .le 5, 3) := by decide +kernel
theorem d5_mayBe_34 : decode m5_mayBe.2.1 34 = .ok (.iconst 0, 1) := by decide +kernel
theorem d5_mayBe_35 : decode m5_mayBe.2.1 35 = .ok (.ireturn, 1) := by decide +kernel
theorem d5_mayBe_36 : decode m5_mayBe.2.1 36 = .ok (.iload_n 2, 1) := by decide +kernel
theorem d5_mayBe_37 : decode m5_mayBe.2.1 37 = .ok (.iconst 1, 1) := by decide +kernel
theorem d5_mayBe_38 : decode m5_mayBe.2.1 38 = .ok (.if_icmp .eq 5, 3) := by decide +kernel
theorem d5_mayBe_41 : decode m5_mayBe.2.1 41 = .ok (.iconst 1, 1) := by decide +kernel
theorem d5_mayBe_42 : decode m5_mayBe.2.1 42 = .ok (.ireturn, 1) := by decide +kernel
theorem d5_mayBe_43 : decode m5_mayBe.2.1 43 = .ok (.iload_n 1, 1) := by decide +kernel
theorem d5_mayBe_44 : decode m5_mayBe.2.1 44 = .ok (.tableswitch 80 3 10 #[48, 80, 64, 64, 64, 80, 80, 64], 48) := by decide +kernel
theorem d5_mayBe_92 : decode m5_mayBe.2.1 92 = .ok (.iload_n 3, 1) := by decide +kernel
theorem d5_mayBe_93 : decode m5_mayBe.2.1 93 = .ok (.aload_n 0, 1) := by decide +kernel
theorem d5_mayBe_94 : decode m5_mayBe.2.1 94 = .ok (.getfield 34, 3) := by decide +kernel
theorem d5_mayBe_97 : decode m5_mayBe.2.1 97 = .ok (.iconst 0, 1) := by decide +kernel
theorem d5_mayBe_98 : decode m5_mayBe.2.1 98 = .ok (.iaload, 1) := by decide +kernel
theorem d5_mayBe_99 : decode m5_mayBe.2.1 99 = .ok (.if_icmp .lt 7, 3) := by decide +kernel
theorem d5_mayBe_102 : decode m5_mayBe.2.1 102 = .ok (.iconst 1, 1) := by decide +kernel
theorem d5_mayBe_103 : decode m5_mayBe.2.1 103 = .ok (.goto 4, 3) := by decide +kernel
theorem d5_mayBe_106 : decode m5_mayBe.2.1 106 = .ok (.iconst 0, 1) := by decide +kernel
theorem d5_mayBe_107 : decode m5_mayBe.2.1 107 = .ok (.ireturn, 1) := by decide +kernel
theorem d5_mayBe_108 : decode m5_mayBe.2.1 108 = .ok (.iload_n 3, 1) := by decide +kernel
theorem d5_mayBe_109 : decode m5_mayBe.2.1 109 = .ok (.aload_n 0, 1) := by decide +kernel
theorem d5_mayBe_110 : decode m5_mayBe.2.1 110 = .ok (.getfield 34, 3) := by decide +kernel
theorem d5_mayBe_113 : decode m5_mayBe.2.1 113 = .ok (.iconst 0, 1) := by decide +kernel
theorem d5_mayBe_114 : decode m5_mayBe.2.1 114 = .ok (.iaload, 1) := by decide +kernel
theorem d5_mayBe_115 : decode m5_mayBe.2.1 115 = .ok (.if_icmp .eq 7, 3) := by decide +kernel
theorem d5_mayBe_118 : decode m5_mayBe.2.1 118 = .ok (.iconst 1, 1) := by decide +kernel
theorem d5_mayBe_119 : decode m5_mayBe.2.1 119 = .ok (.goto 4, 3) := by decide +kernel
theorem d5_mayBe_122 : decode m5_mayBe.2.1 122 = .ok (.iconst 0, 1) := by decide +kernel
theorem d5_mayBe_123 : decode m5_mayBe.2.1 123 = .ok (.ireturn, 1) := by decide +kernel
theorem d5_mayBe_124 : decode m5_mayBe.2.1 124 = .ok (.iconst 1, 1) := by decide +kernel
theorem d5_mayBe_125 : decode m5_mayBe.2.1 125 = .ok (.ireturn, 1) := by decide +kernel
def f5_mayBe (x1 : Int) (x2 : Int) (h : AH) : Option (Int × AH) :=
  asrt (0 ≤ w32 x2 ∧ w32 x2 < 4) <|
  lt (h.2 40 (w32 x2).toNat) fun u2 =>
  lt ((x1 * 4) + x2) fun u3 =>
  asrt (0 ≤ w32 u3 ∧ w32 u3 < 44) <|
  if w32 u2 < w32 ((stV 1).getD (w32 u3).toNat 0) then
    some (0, h)
  else
    asrt (0 ≤ w32 u3 ∧ w32 u3 < 44) <|
    if w32 u2 ≤ w32 ((stV 2).getD (w32 u3).toNat 0) then
      if w32 x2 = 1 then
        if w32 x1 = 3 then
          asrt (0 ≤ w32 0 ∧ w32 0 < 4) <|
          if w32 u2 < w32 (h.2 40 (w32 0).toNat) then
            some (0, h)
          else
            some (1, h)
        else
        if w32 x1 = 5 then
          asrt (0 ≤ w32 0 ∧ w32 0 < 4) <|
          if w32 u2 = w32 (h.2 40 (w32 0).toNat) then
            some (0, h)
          else
            some (1, h)
        else
        if w32 x1 = 6 then
          asrt (0 ≤ w32 0 ∧ w32 0 < 4) <|
          if w32 u2 = w32 (h.2 40 (w32 0).toNat) then
            some (0, h)
          else
            some (1, h)
        else
        if w32 x1 = 7 then
          asrt (0 ≤ w32 0 ∧ w32 0 < 4) <|
          if w32 u2 = w32 (h.2 40 (w32 0).toNat) then
            some (0, h)
          else
            some (1, h)
        else
        if w32 x1 = 10 then
          asrt (0 ≤ w32 0 ∧ w32 0 < 4) <|
          if w32 u2 = w32 (h.2 40 (w32 0).toNat) then
            some (0, h)
          else
            some (1, h)
        else
        some (1, h)
      else
        some (1, h)
    else
      some (0, h)
set_option maxRecDepth 100000 in
theorem c5_mayBe (l : Launch) (G : Geo) (x1 : Int) (x2 : Int) (h : AH) : Con l G m5_mayBe rvI 2 [vA G 28, vI x1, vI x2] h (f5_mayBe x1 x2 h) := by
  have hd : 2 ≤ 2 := Nat.le_refl _
  refine con_Z rfl (by decide) rfl rfl (Nat.le_of_ble_eq_true rfl) (L := [some (vA G 28), some (vI x1), some (vI x2), none, none]) ?_
  unfold f5_mayBe
  refine den_aload_n (pc := 0) d5_mayBe_0 rfl rfl ?_
  refine den_getR (pc := 1) (b := 40) fa_5_34 (ok_28 _) rfl d5_mayBe_1 ?_
  refine den_iload_n (pc := 4) d5_mayBe_4 rfl rfl ?_
  refine den_asrt (fun a1 => ?_)
  refine den_iaload (pc := 5) sh_40 (sz_lt (by decide)) rfl a1 d5_mayBe_5 ?_
  refine den_istore_nL (pc := 6) (L2 := fun y => [some (vA G 28), some (vI x1), some (vI x2), some (vI y), none]) d5_mayBe_6 rfl (by decide) (fun _ => rfl) (fun u2 => ?_)
  refine den_iload_n (pc := 7) d5_mayBe_7 rfl rfl ?_
  refine den_iconst (pc := 8) d5_mayBe_8 ?_
  refine den_imul (pc := 9) d5_mayBe_9 ?_
  refine den_iload_n (pc := 10) d5_mayBe_10 rfl rfl ?_
  refine den_iadd (pc := 11) d5_mayBe_11 ?_
  refine den_istoreL (pc := 12) (L2 := fun y => [some (vA G 28), some (vI x1), some (vI x2), some (vI u2), some (vI y)]) d5_mayBe_12 (by decide) (fun _ => rfl) (fun u3 => ?_)
  refine den_iload_n (pc := 14) d5_mayBe_14 rfl rfl ?_
  refine den_gets (pc := 15) (k := 1) (by decide) ks_5_163 d5_mayBe_15 ?_
  refine den_iload (pc := 18) d5_mayBe_18 rfl ?_
  refine den_asrt (fun a4 => ?_)
  refine den_saload (pc := 20) (by decide) (by decide) a4 d5_mayBe_20 ?_
  refine den_icmp_lt (pc := 21) (tgt := 34) d5_mayBe_21 (by decide) rfl rfl (fun _ => ?_) (fun _ => ?_)
  · refine den_iconst (pc := 34) d5_mayBe_34 ?_
    exact den_zret (pc := 35) rfl (by decide) d5_mayBe_35
  · refine den_iload_n (pc := 24) d5_mayBe_24 rfl rfl ?_
    refine den_gets (pc := 25) (k := 2) (by decide) ks_5_166 d5_mayBe_25 ?_
    refine den_iload (pc := 28) d5_mayBe_28 rfl ?_
    refine den_asrt (fun a5 => ?_)
    refine den_saload (pc := 30) (by decide) (by decide) a5 d5_mayBe_30 ?_
    refine den_icmp_le (pc := 31) (tgt := 36) d5_mayBe_31 (by decide) rfl rfl (fun _ => ?_) (fun _ => ?_)
    · refine den_iload_n (pc := 36) d5_mayBe_36 rfl rfl ?_
      refine den_iconst (pc := 37) d5_mayBe_37 ?_
      refine den_icmp_eq (pc := 38) (tgt := 43) d5_mayBe_38 (by decide) rfl (by decide) (fun _ => ?_) (fun _ => ?_)
      · refine den_iload_n (pc := 43) d5_mayBe_43 rfl rfl ?_
        refine den_ite (fun c6 => ?_) (fun c6 => ?_)
        · refine den_tableIn (pc := 44) (tgt := 92) d5_mayBe_44 (by omega) (by omega) (by rw [c6]; rfl) (by decide) ?_
          refine den_iload_n (pc := 92) d5_mayBe_92 rfl rfl ?_
          refine den_aload_n (pc := 93) d5_mayBe_93 rfl rfl ?_
          refine den_getR (pc := 94) (b := 40) fa_5_34 (ok_28 _) rfl d5_mayBe_94 ?_
          refine den_iconst (pc := 97) d5_mayBe_97 ?_
          refine den_asrt (fun a7 => ?_)
          refine den_iaload (pc := 98) sh_40 (sz_lt (by decide)) rfl a7 d5_mayBe_98 ?_
          refine den_icmp_lt (pc := 99) (tgt := 106) d5_mayBe_99 (by decide) rfl rfl (fun _ => ?_) (fun _ => ?_)
          · refine den_iconst (pc := 106) d5_mayBe_106 ?_
            exact den_zret (pc := 107) rfl (by decide) d5_mayBe_107
          · refine den_iconst (pc := 102) d5_mayBe_102 ?_
            refine den_goto (pc := 103) (tgt := 107) d5_mayBe_103 (by decide) ?_
            exact den_zret (pc := 107) rfl (by decide) d5_mayBe_107
        refine den_ite (fun c8 => ?_) (fun c8 => ?_)
        · refine den_tableIn (pc := 44) (tgt := 108) d5_mayBe_44 (by omega) (by omega) (by rw [c8]; rfl) (by decide) ?_
          refine den_iload_n (pc := 108) d5_mayBe_108 rfl rfl ?_
          refine den_aload_n (pc := 109) d5_mayBe_109 rfl rfl ?_
          refine den_getR (pc := 110) (b := 40) fa_5_34 (ok_28 _) rfl d5_mayBe_110 ?_
          refine den_iconst (pc := 113) d5_mayBe_113 ?_
          refine den_asrt (fun a9 => ?_)
          refine den_iaload (pc := 114) sh_40 (sz_lt (by decide)) rfl a9 d5_mayBe_114 ?_
          refine den_icmp_eq (pc := 115) (tgt := 122) d5_mayBe_115 (by decide) rfl rfl (fun _ => ?_) (fun _ => ?_)
          · refine den_iconst (pc := 122) d5_mayBe_122 ?_
            exact den_zret (pc := 123) rfl (by decide) d5_mayBe_123
          · refine den_iconst (pc := 118) d5_mayBe_118 ?_
            refine den_goto (pc := 119) (tgt := 123) d5_mayBe_119 (by decide) ?_
            exact den_zret (pc := 123) rfl (by decide) d5_mayBe_123
        refine den_ite (fun c10 => ?_) (fun c10 => ?_)
        · refine den_tableIn (pc := 44) (tgt := 108) d5_mayBe_44 (by omega) (by omega) (by rw [c10]; rfl) (by decide) ?_
          refine den_iload_n (pc := 108) d5_mayBe_108 rfl rfl ?_
          refine den_aload_n (pc := 109) d5_mayBe_109 rfl rfl ?_
          refine den_getR (pc := 110) (b := 40) fa_5_34 (ok_28 _) rfl d5_mayBe_110 ?_
          refine den_iconst (pc := 113) d5_mayBe_113 ?_
          refine den_asrt (fun a11 => ?_)
          refine den_iaload (pc := 114) sh_40 (sz_lt (by decide)) rfl a11 d5_mayBe_114 ?_
          refine den_icmp_eq (pc := 115) (tgt := 122) d5_mayBe_115 (by decide) rfl rfl (fun _ => ?_) (fun _ => ?_)
          · refine den_iconst (pc := 122) d5_mayBe_122 ?_
            exact den_zret (pc := 123) rfl (by decide) d5_mayBe_123
          · refine den_iconst (pc := 118) d5_mayBe_118 ?_
            refine den_goto (pc := 119) (tgt := 123) d5_mayBe_119 (by decide) ?_
            exact den_zret (pc := 123) rfl (by decide) d5_mayBe_123
        refine den_ite (fun c12 => ?_) (fun c12 => ?_)
        · refine den_tableIn (pc := 44) (tgt := 108) d5_mayBe_44 (by omega) (by omega) (by rw [c12]; rfl) (by decide) ?_
          refine den_iload_n (pc := 108) d5_mayBe_108 rfl rfl ?_
          refine den_aload_n (pc := 109) d5_mayBe_109 rfl rfl ?_
          refine den_getR (pc := 110) (b := 40) fa_5_34 (ok_28 _) rfl d5_mayBe_110 ?_
          refine den_iconst (pc := 113) d5_mayBe_113 ?_
          refine den_asrt (fun a13 => ?_)
          refine den_iaload (pc := 114) sh_40 (sz_lt (by decide)) rfl a13 d5_mayBe_114 ?_
          refine den_icmp_eq (pc := 115) (tgt := 122) d5_mayBe_115 (by decide) rfl rfl (fun _ => ?_) (fun _ => ?_)
          · refine den_iconst (pc := 122) d5_mayBe_122 ?_
            exact den_zret (pc := 123) rfl (by decide) d5_mayBe_123
          · refine den_iconst (pc := 118) d5_mayBe_118 ?_
            refine den_goto (pc := 119) (tgt := 123) d5_mayBe_119 (by decide) ?_
            exact den_zret (pc := 123) rfl (by decide) d5_mayBe_123
        refine den_ite (fun c14 => ?_) (fun c14 => ?_)
        · refine den_tableIn (pc := 44) (tgt := 108) d5_mayBe_44 (by omega) (by omega) (by rw [c14]; rfl) (by decide) ?_
          refine den_iload_n (pc := 108) d5_mayBe_108 rfl rfl ?_
          refine den_aload_n (pc := 109) d5_mayBe_109 rfl rfl ?_
          refine den_getR (pc := 110) (b := 40) fa_5_34 (ok_28 _) rfl d5_mayBe_110 ?_
          refine den_iconst (pc := 113) d5_mayBe_113 ?_
          refine den_asrt (fun a15 => ?_)
          refine den_iaload (pc := 114) sh_40 (sz_lt (by decide)) rfl a15 d5_mayBe_114 ?_
          refine den_icmp_eq (pc := 115) (tgt := 122) d5_mayBe_115 (by decide) rfl rfl (fun _ => ?_) (fun _ => ?_)
          · refine den_iconst (pc := 122) d5_mayBe_122 ?_
            exact den_zret (pc := 123) rfl (by decide) d5_mayBe_123
          · refine den_iconst (pc := 118) d5_mayBe_118 ?_
            refine den_goto (pc := 119) (tgt := 123) d5_mayBe_119 (by decide) ?_
            exact den_zret (pc := 123) rfl (by decide) d5_mayBe_123
        by_cases c16 : w32 x1 = 4
        · refine den_tableIn (pc := 44) (tgt := 124) d5_mayBe_44 (by omega) (by omega) (by rw [c16]; rfl) (by decide) ?_
          refine den_iconst (pc := 124) d5_mayBe_124 ?_
          exact den_zret (pc := 125) rfl (by decide) d5_mayBe_125
        by_cases c17 : w32 x1 = 8
        · refine den_tableIn (pc := 44) (tgt := 124) d5_mayBe_44 (by omega) (by omega) (by rw [c17]; rfl) (by decide) ?_
          refine den_iconst (pc := 124) d5_mayBe_124 ?_
          exact den_zret (pc := 125) rfl (by decide) d5_mayBe_125
        by_cases c18 : w32 x1 = 9
        · refine den_tableIn (pc := 44) (tgt := 124) d5_mayBe_44 (by omega) (by omega) (by rw [c18]; rfl) (by decide) ?_
          refine den_iconst (pc := 124) d5_mayBe_124 ?_
          exact den_zret (pc := 125) rfl (by decide) d5_mayBe_125
        refine den_tableOut (pc := 44) (tgt := 124) d5_mayBe_44 (by omega) (by decide) ?_
        refine den_iconst (pc := 124) d5_mayBe_124 ?_
        exact den_zret (pc := 125) rfl (by decide) d5_mayBe_125
      · refine den_iconst (pc := 41) d5_mayBe_41 ?_
        exact den_zret (pc := 42) rfl (by decide) d5_mayBe_42
    · refine den_iconst (pc := 34) d5_mayBe_34 ?_
      exact den_zret (pc := 35) rfl (by decide) d5_mayBe_35
theorem d5_numberHere_0 : decode m5_numberHere.2.1 0 = .ok (.iconst 0, 1) := by decide +kernel
theorem d5_numberHere_1 : decode m5_numberHere.2.1 1 = .ok (.istore_n 1, 1) := by decide +kernel
theorem d5_numberHere_2 : decode m5_numberHere.2.1 2 = .ok (.aload_n 0, 1) := by decide +kernel
theorem d5_numberHere_3 : decode m5_numberHere.2.1 3 = .ok (.getfield 108, 3) := by decide +kernel
theorem d5_numberHere_6 : decode m5_numberHere.2.1 6 = .ok (.istore_n 2, 1) := by decide +kernel
theorem d5_numberHere_7 : decode m5_numberHere.2.1 7 = .ok (.iload_n 2, 1) := by decide +kernel
theorem d5_numberHere_8 : decode m5_numberHere.2.1 8 = .ok (.aload_n 0, 1) := by decide +kernel
theorem d5_numberHere_9 : decode m5_numberHere.2.1 9 = .ok (.getfield 57, 3) := by decide +kernel
theorem d5_numberHere_12 : decode m5_numberHere.2.1 12 = .ok (.if_icmp .ge 24, 3) := by decide +kernel
theorem d5_numberHere_15 : decode m5_numberHere.2.1 15 = .ok (.bipush 10, 2) := by decide +kernel
theorem d5_numberHere_17 : decode m5_numberHere.2.1 17 = .ok (.iload_n 1, 1) := by decide +kernel
theorem d5_numberHere_18 : decode m5_numberHere.2.1 18 = .ok (.imul, 1) := by decide +kernel
theorem d5_numberHere_19 : decode m5_numberHere.2.1 19 = .ok (.aload_n 0, 1) := by decide +kernel
theorem d5_numberHere_20 : decode m5_numberHere.2.1 20 = .ok (.getfield 30, 3) := by decide +kernel
theorem d5_numberHere_23 : decode m5_numberHere.2.1 23 = .ok (.iload_n 2, 1) := by decide +kernel
theorem d5_numberHere_24 : decode m5_numberHere.2.1 24 = .ok (.baload, 1) := by decide +kernel
theorem d5_numberHere_25 : decode m5_numberHere.2.1 25 = .ok (.iadd, 1) := by decide +kernel
theorem d5_numberHere_26 : decode m5_numberHere.2.1 26 = .ok (.bipush 48, 2) := by decide +kernel
theorem d5_numberHere_28 : decode m5_numberHere.2.1 28 = .ok (.isub, 1) := by decide +kernel
theorem d5_numberHere_29 : decode m5_numberHere.2.1 29 = .ok (.istore_n 1, 1) := by decide +kernel
theorem d5_numberHere_30 : decode m5_numberHere.2.1 30 = .ok (.iinc 2 1, 3) := by decide +kernel
theorem d5_numberHere_33 : decode m5_numberHere.2.1 33 = .ok (.goto (-26), 3) := by decide +kernel
theorem d5_numberHere_36 : decode m5_numberHere.2.1 36 = .ok (.iload_n 1, 1) := by decide +kernel
theorem d5_numberHere_37 : decode m5_numberHere.2.1 37 = .ok (.ireturn, 1) := by decide +kernel
def b5_numberHere_7 (rec7 : Int × Int × AH → Option (Int × AH)) (x1 : Int) (x2 : Int) (h : AH) : Option (Int × AH) :=
  if w32 (h.2 28 10) ≤ w32 x2 then
    some (x1, h)
  else
    asrt (0 ≤ w32 x2 ∧ w32 x2 < 600) <|
    lt (((10 * x1) + (h.2 39 (w32 x2).toNat)) - 48) fun u2 =>
    rec7 (u2, (x2 + 1), h)
set_option maxRecDepth 100000 in
theorem t5_numberHere_7 (l : Launch) (G : Geo) (d : Nat) (hd : 2 ≤ d) (x1 : Int) (x2 : Int) (rec7 : Int × Int × AH → Option (Int × AH)) (H7 : ∀ (x1 : Int) (x2 : Int) (h : AH), Den l G m5_numberHere rvI d 7 [some (vA G 28), some (vI x1), some (vI x2)] [] h (rec7 (x1, x2, h))) (h : AH) : Den l G m5_numberHere rvI d 7 [some (vA G 28), some (vI x1), some (vI x2)] [] h (b5_numberHere_7 rec7 x1 x2 h) := by
  unfold b5_numberHere_7
  refine den_iload_n (pc := 7) d5_numberHere_7 rfl rfl ?_
  refine den_aload_n (pc := 8) d5_numberHere_8 rfl rfl ?_
  refine den_getI (pc := 9) fa_5_57 (ok_28 _) d5_numberHere_9 ?_
  refine den_icmp_ge (pc := 12) (tgt := 36) d5_numberHere_12 (by decide) rfl rfl (fun _ => ?_) (fun _ => ?_)
  · refine den_iload_n (pc := 36) d5_numberHere_36 rfl rfl ?_
    exact den_iret (pc := 37) rfl d5_numberHere_37
  · refine den_bipush (pc := 15) d5_numberHere_15 (by decide) ?_
    refine den_iload_n (pc := 17) d5_numberHere_17 rfl rfl ?_
    refine den_imul (pc := 18) d5_numberHere_18 ?_
    refine den_aload_n (pc := 19) d5_numberHere_19 rfl rfl ?_
    refine den_getR (pc := 20) (b := 39) fa_5_30 (ok_28 _) rfl d5_numberHere_20 ?_
    refine den_iload_n (pc := 23) d5_numberHere_23 rfl rfl ?_
    refine den_asrt (fun a1 => ?_)
    refine den_baload (pc := 24) sh_39 (sz_lt (by decide)) rfl a1 d5_numberHere_24 ?_
    refine den_iadd (pc := 25) d5_numberHere_25 ?_
    refine den_bipush (pc := 26) d5_numberHere_26 (by decide) ?_
    refine den_isub (pc := 28) d5_numberHere_28 ?_
    refine den_istore_nL (pc := 29) (L2 := fun y => [some (vA G 28), some (vI y), some (vI x2)]) d5_numberHere_29 rfl (by decide) (fun _ => rfl) (fun u2 => ?_)
    refine den_iinc (pc := 30) (L2 := [some (vA G 28), some (vI u2), some (vI (x2 + 1))]) d5_numberHere_30 (by decide) rfl rfl ?_
    refine den_goto (pc := 33) (tgt := 7) d5_numberHere_33 (by decide) ?_
    exact H7 u2 (x2 + 1) h
def l5_numberHere_7 (x1 : Int) (x2 : Int) (h : AH) : Option (Int × AH) := fx (fun rec z => b5_numberHere_7 rec z.1 z.2.1 z.2.2) FU (x1, x2, h)
set_option maxRecDepth 100000 in
theorem tl5_numberHere_7 (l : Launch) (G : Geo) (d : Nat) (hd : 2 ≤ d) : ∀ (n : Nat) (z : Int × Int × AH), True → Den l G m5_numberHere rvI d 7 [some (vA G 28), some (vI z.1), some (vI z.2.1)] [] z.2.2 (fx (fun rec z => b5_numberHere_7 rec z.1 z.2.1 z.2.2) n z) :=
  den_fx (F := fun rec z => b5_numberHere_7 rec z.1 z.2.1 z.2.2) (P := fun z => True) (fL := fun z => [some (vA G 28), some (vI z.1), some (vI z.2.1)]) (fs := fun z => []) (fh := fun z => z.2.2) (fun rec hrec z hz => t5_numberHere_7 l G d hd z.1 z.2.1 rec (fun x1 x2 h => hrec (x1, x2, h) trivial) z.2.2 )
def f5_numberHere (h : AH) : Option (Int × AH) :=
  lt (h.2 28 9) fun u3 =>
  l5_numberHere_7 0 u3 h
set_option maxRecDepth 100000 in
theorem c5_numberHere (l : Launch) (G : Geo) (h : AH) : Con l G m5_numberHere rvI 2 [vA G 28] h (f5_numberHere  h) := by
  have hd : 2 ≤ 2 := Nat.le_refl _
  refine con_I rfl (by decide) rfl rfl (Nat.le_of_ble_eq_true rfl) (L := [some (vA G 28), none, none]) ?_
  unfold f5_numberHere
  refine den_iconst (pc := 0) d5_numberHere_0 ?_
  refine den_istore_n (pc := 1) (L2 := [some (vA G 28), some (vI 0), none]) d5_numberHere_1 rfl (by decide) rfl ?_
  refine den_aload_n (pc := 2) d5_numberHere_2 rfl rfl ?_
  refine den_getI (pc := 3) fa_5_108 (ok_28 _) d5_numberHere_3 ?_
  refine den_istore_nL (pc := 6) (L2 := fun y => [some (vA G 28), some (vI 0), some (vI y)]) d5_numberHere_6 rfl (by decide) (fun _ => rfl) (fun u3 => ?_)
  exact tl5_numberHere_7 l G _ hd FU (0, u3, h) trivial
theorem d5_isDigit_0 : decode m5_isDigit.2.1 0 = .ok (.iload_n 0, 1) := by decide +kernel
theorem d5_isDigit_1 : decode m5_isDigit.2.1 1 = .ok (.bipush 48, 2) := by decide +kernel
theorem d5_isDigit_3 : decode m5_isDigit.2.1 3 = .ok (.if_icmp .lt 13, 3) := by decide +kernel
theorem d5_isDigit_6 : decode m5_isDigit.2.1 6 = .ok (.iload_n 0, 1) := by decide +kernel
theorem d5_isDigit_7 : decode m5_isDigit.2.1 7 = .ok (.bipush 57, 2) := by decide +kernel
theorem d5_isDigit_9 : decode m5_isDigit.2.1 9 = .ok (.if_icmp .gt 7, 3) := by decide +kernel
theorem d5_isDigit_12 : decode m5_isDigit.2.1 12 = .ok (.iconst 1, 1) := by decide +kernel
theorem d5_isDigit_13 : decode m5_isDigit.2.1 13 = .ok (.goto 4, 3) := by decide +kernel
theorem d5_isDigit_16 : decode m5_isDigit.2.1 16 = .ok (.iconst 0, 1) := by decide +kernel
theorem d5_isDigit_17 : decode m5_isDigit.2.1 17 = .ok (.ireturn, 1) := by decide +kernel
def f5_isDigit (x0 : Int) (h : AH) : Option (Int × AH) :=
  if w32 x0 < 48 then
    some (0, h)
  else
    if 57 < w32 x0 then
      some (0, h)
    else
      some (1, h)
set_option maxRecDepth 100000 in
theorem c5_isDigit (l : Launch) (G : Geo) (x0 : Int) (h : AH) : Con l G m5_isDigit rvI 2 [vI x0] h (f5_isDigit x0 h) := by
  have hd : 2 ≤ 2 := Nat.le_refl _
  refine con_Z rfl (by decide) rfl rfl (Nat.le_of_ble_eq_true rfl) (L := [some (vI x0)]) ?_
  unfold f5_isDigit
  refine den_iload_n (pc := 0) d5_isDigit_0 rfl rfl ?_
  refine den_bipush (pc := 1) d5_isDigit_1 (by decide) ?_
  refine den_icmp_lt (pc := 3) (tgt := 16) d5_isDigit_3 (by decide) rfl (by decide) (fun _ => ?_) (fun _ => ?_)
  · refine den_iconst (pc := 16) d5_isDigit_16 ?_
    exact den_zret (pc := 17) rfl (by decide) d5_isDigit_17
  · refine den_iload_n (pc := 6) d5_isDigit_6 rfl rfl ?_
    refine den_bipush (pc := 7) d5_isDigit_7 (by decide) ?_
    refine den_icmp_gt (pc := 9) (tgt := 16) d5_isDigit_9 (by decide) rfl (by decide) (fun _ => ?_) (fun _ => ?_)
    · refine den_iconst (pc := 16) d5_isDigit_16 ?_
      exact den_zret (pc := 17) rfl (by decide) d5_isDigit_17
    · refine den_iconst (pc := 12) d5_isDigit_12 ?_
      refine den_goto (pc := 13) (tgt := 17) d5_isDigit_13 (by decide) ?_
      exact den_zret (pc := 17) rfl (by decide) d5_isDigit_17
theorem d5_isLetter_0 : decode m5_isLetter.2.1 0 = .ok (.iload_n 0, 1) := by decide +kernel
theorem d5_isLetter_1 : decode m5_isLetter.2.1 1 = .ok (.bipush 97, 2) := by decide +kernel
theorem d5_isLetter_3 : decode m5_isLetter.2.1 3 = .ok (.if_icmp .lt 13, 3) := by decide +kernel
theorem d5_isLetter_6 : decode m5_isLetter.2.1 6 = .ok (.iload_n 0, 1) := by decide +kernel
theorem d5_isLetter_7 : decode m5_isLetter.2.1 7 = .ok (.bipush 122, 2) := by decide +kernel
theorem d5_isLetter_9 : decode m5_isLetter.2.1 9 = .ok (.if_icmp .gt 7, 3) := by decide +kernel
theorem d5_isLetter_12 : decode m5_isLetter.2.1 12 = .ok (.iconst 1, 1) := by decide +kernel
theorem d5_isLetter_13 : decode m5_isLetter.2.1 13 = .ok (.goto 4, 3) := by decide +kernel
theorem d5_isLetter_16 : decode m5_isLetter.2.1 16 = .ok (.iconst 0, 1) := by decide +kernel
theorem d5_isLetter_17 : decode m5_isLetter.2.1 17 = .ok (.ireturn, 1) := by decide +kernel
def f5_isLetter (x0 : Int) (h : AH) : Option (Int × AH) :=
  if w32 x0 < 97 then
    some (0, h)
  else
    if 122 < w32 x0 then
      some (0, h)
    else
      some (1, h)
set_option maxRecDepth 100000 in
theorem c5_isLetter (l : Launch) (G : Geo) (x0 : Int) (h : AH) : Con l G m5_isLetter rvI 2 [vI x0] h (f5_isLetter x0 h) := by
  have hd : 2 ≤ 2 := Nat.le_refl _
  refine con_Z rfl (by decide) rfl rfl (Nat.le_of_ble_eq_true rfl) (L := [some (vI x0)]) ?_
  unfold f5_isLetter
  refine den_iload_n (pc := 0) d5_isLetter_0 rfl rfl ?_
  refine den_bipush (pc := 1) d5_isLetter_1 (by decide) ?_
  refine den_icmp_lt (pc := 3) (tgt := 16) d5_isLetter_3 (by decide) rfl (by decide) (fun _ => ?_) (fun _ => ?_)
  · refine den_iconst (pc := 16) d5_isLetter_16 ?_
    exact den_zret (pc := 17) rfl (by decide) d5_isLetter_17
  · refine den_iload_n (pc := 6) d5_isLetter_6 rfl rfl ?_
    refine den_bipush (pc := 7) d5_isLetter_7 (by decide) ?_
    refine den_icmp_gt (pc := 9) (tgt := 16) d5_isLetter_9 (by decide) rfl (by decide) (fun _ => ?_) (fun _ => ?_)
    · refine den_iconst (pc := 16) d5_isLetter_16 ?_
      exact den_zret (pc := 17) rfl (by decide) d5_isLetter_17
    · refine den_iconst (pc := 12) d5_isLetter_12 ?_
      refine den_goto (pc := 13) (tgt := 17) d5_isLetter_13 (by decide) ?_
      exact den_zret (pc := 17) rfl (by decide) d5_isLetter_17
theorem d5_step_0 : decode m5_step.2.1 0 = .ok (.aload_n 0, 1) := by decide +kernel
theorem d5_step_1 : decode m5_step.2.1 1 = .ok (.aload_n 0, 1) := by decide +kernel
theorem d5_step_2 : decode m5_step.2.1 2 = .ok (.getfield 57, 3) := by decide +kernel
theorem d5_step_5 : decode m5_step.2.1 5 = .ok (.putfield 108, 3) := by decide +kernel
theorem d5_step_8 : decode m5_step.2.1 8 = .ok (.aload_n 0, 1) := by decide +kernel
theorem d5_step_9 : decode m5_step.2.1 9 = .ok (.getfield 108, 3) := by decide +kernel
theorem d5_step_12 : decode m5_step.2.1 12 = .ok (.aload_n 0, 1) := by decide +kernel
theorem d5_step_13 : decode m5_step.2.1 13 = .ok (.getfield 47, 3) := by decide +kernel
theorem d5_step_16 : decode m5_step.2.1 16 = .ok (.if_icmp .ge 44, 3) := by decide +kernel
theorem d5_step_19 : decode m5_step.2.1 19 = .ok (.aload_n 0, 1) := by decide +kernel
theorem d5_step_20 : decode m5_step.2.1 20 = .ok (.getfield 30, 3) := by decide +kernel
theorem d5_step_23 : decode m5_step.2.1 23 = .ok (.aload_n 0, 1) := by decide +kernel
theorem d5_step_24 : decode m5_step.2.1 24 = .ok (.getfield 108, 3) := by decide +kernel
theorem d5_step_27 : decode m5_step.2.1 27 = .ok (.baload, 1) := by decide +kernel
theorem d5_step_28 : decode m5_step.2.1 28 = .ok (.bipush 10, 2) := by decide +kernel
theorem d5_step_30 : decode m5_step.2.1 30 = .ok (.if_icmp .eq 17, 3) := by decide +kernel
theorem d5_step_33 : decode m5_step.2.1 33 = .ok (.aload_n 0, 1) := by decide +kernel
theorem d5_step_34 : decode m5_step.2.1 34 = .ok (.getfield 30, 3) := by decide +kernel
theorem d5_step_37 : decode m5_step.2.1 37 = .ok (.aload_n 0, 1) := by decide +kernel
theorem d5_step_38 : decode m5_step.2.1 38 = .ok (.getfield 108, 3) := by decide +kernel
theorem d5_step_41 : decode m5_step.2.1 41 = .ok (.baload, 1) := by decide +kernel
theorem d5_step_42 : decode m5_step.2.1 42 = .ok (.bipush 32, 2) := by decide +kernel
theorem d5_step_44 : decode m5_step.2.1 44 = .ok (.if_icmp .ne 16, 3) := by decide +kernel
theorem d5_step_47 : decode m5_step.2.1 47 = .ok (.aload_n 0, 1) := by decide +kernel
theorem d5_step_48 : decode m5_step.2.1 48 = .ok (.dup, 1) := by decide +kernel
theorem d5_step_49 : decode m5_step.2.1 49 = .ok (.getfield 108, 3) := by decide +kernel
theorem d5_step_52 : decode m5_step.2.1 52 = .ok (.iconst 1, 1) := by decide +kernel
theorem d5_step_53 : decode m5_step.2.1 53 = .ok (.iadd, 1) := by decide +kernel
theorem d5_step_54 : decode m5_step.2.1 54 = .ok (.putfield 108, 3) := by decide +kernel
theorem d5_step_57 : decode m5_step.2.1 57 = .ok (.goto (-49), 3) := by decide +kernel
theorem d5_step_60 : decode m5_step.2.1 60 = .ok (.aload_n 0, 1) := by decide +kernel
theorem d5_step_61 : decode m5_step.2.1 61 = .ok (.aload_n 0, 1) := by decide +kernel
theorem d5_step_62 : decode m5_step.2.1 62 = .ok (.getfield 108, 3) := by decide +kernel
theorem d5_step_65 : decode m5_step.2.1 65 = .ok (.putfield 57, 3) := by decide +kernel
theorem d5_step_68 : decode m5_step.2.1 68 = .ok (.aload_n 0, 1) := by decide +kernel
theorem d5_step_69 : decode m5_step.2.1 69 = .ok (.getfield 108, 3) := by decide +kernel
theorem d5_step_72 : decode m5_step.2.1 72 = .ok (.aload_n 0, 1) := by decide +kernel
theorem d5_step_73 : decode m5_step.2.1 73 = .ok (.getfield 47, 3) := by decide +kernel
theorem d5_step_76 : decode m5_step.2.1 76 = .ok (.if_icmp .lt 11, 3) := by decide +kernel
theorem d5_step_79 : decode m5_step.2.1 79 = .ok (.aload_n 0, 1) := by decide +kernel
theorem d5_step_80 : decode m5_step.2.1 80 = .ok (.iconst 0, 1) := by decide +kernel
theorem d5_step_81 : decode m5_step.2.1 81 = .ok (.putfield 81, 3) := by decide +kernel
theorem d5_step_84 : decode m5_step.2.1 84 = .ok (.goto 177, 3) := by decide +kernel
theorem d5_step_87 : decode m5_step.2.1 87 = .ok (.aload_n 0, 1) := by decide +kernel
theorem d5_step_88 : decode m5_step.2.1 88 = .ok (.getfield 30, 3) := by decide +kernel
theorem d5_step_91 : decode m5_step.2.1 91 = .ok (.aload_n 0, 1) := by decide +kernel
theorem d5_step_92 : decode m5_step.2.1 92 = .ok (.getfield 108, 3) := by decide +kernel
theorem d5_step_95 : decode m5_step.2.1 95 = .ok (.baload, 1) := by decide +kernel
theorem d5_step_96 : decode m5_step.2.1 96 = .ok (.invokestatic 205, 3) := by decide +kernel
theorem d5_step_99 : decode m5_step.2.1 99 = .ok (.ifCond .eq 50, 3) := by decide +kernel
theorem d5_step_102 : decode m5_step.2.1 102 = .ok (.aload_n 0, 1) := by decide +kernel
theorem d5_step_103 : decode m5_step.2.1 103 = .ok (.getfield 57, 3) := by decide +kernel
theorem d5_step_106 : decode m5_step.2.1 106 = .ok (.aload_n 0, 1) := by decide +kernel
theorem d5_step_107 : decode m5_step.2.1 107 = .ok (.getfield 47, 3) := by decide +kernel
theorem d5_step_110 : decode m5_step.2.1 110 = .ok (.if_icmp .ge 31, 3) := by decide +kernel
theorem d5_step_113 : decode m5_step.2.1 113 = .ok (.aload_n 0, 1) := by decide +kernel
theorem d5_step_114 : decode m5_step.2.1 114 = .ok (.getfield 30, 3) := by decide +kernel
theorem d5_step_117 : decode m5_step.2.1 117 = .ok (.aload_n 0, 1) := by decide +kernel
theorem d5_step_118 : decode m5_step.2.1 118 = .ok (.getfield 57, 3) := by decide +kernel
theorem d5_step_121 : decode m5_step.2.1 121 = .ok (.baload, 1) := by decide +kernel
theorem d5_step_122 : decode m5_step.2.1 122 = .ok (.invokestatic 205, 3) := by decide +kernel
theorem d5_step_125 : decode m5_step.2.1 125 = .ok (.ifCond .eq 16, 3) := by decide +kernel
theorem d5_step_128 : decode m5_step.2.1 128 = .ok (.aload_n 0, 1) := by decide +kernel
theorem d5_step_129 : decode m5_step.2.1 129 = .ok (.dup, 1) := by decide +kernel
theorem d5_step_130 : decode m5_step.2.1 130 = .ok (.getfield 57, 3) := by decide +kernel
theorem d5_step_133 : decode m5_step.2.1 133 = .ok (.iconst 1, 1) := by decide +kernel
theorem d5_step_134 : decode m5_step.2.1 134 = .ok (.iadd, 1) := by decide +kernel
theorem d5_step_135 : decode m5_step.2.1 135 = .ok (.putfield 57, 3) := by decide +kernel
theorem d5_step_138 : decode m5_step.2.1 138 = .ok (.goto (-36), 3) := by decide +kernel
theorem d5_step_141 : decode m5_step.2.1 141 = .ok (.aload_n 0, 1) := by decide +kernel
theorem d5_step_142 : decode m5_step.2.1 142 = .ok (.iconst 1, 1) := by decide +kernel
theorem d5_step_143 : decode m5_step.2.1 143 = .ok (.putfield 81, 3) := by decide +kernel
theorem d5_step_146 : decode m5_step.2.1 146 = .ok (.goto 115, 3) := by decide +kernel
theorem d5_step_149 : decode m5_step.2.1 149 = .ok (.aload_n 0, 1) := by decide +kernel
theorem d5_step_150 : decode m5_step.2.1 150 = .ok (.getfield 30, 3) := by decide +kernel
theorem d5_step_153 : decode m5_step.2.1 153 = .ok (.aload_n 0, 1) := by decide +kernel
theorem d5_step_154 : decode m5_step.2.1 154 = .ok (.getfield 108, 3) := by decide +kernel
theorem d5_step_157 : decode m5_step.2.1 157 = .ok (.baload, 1) := by decide +kernel
theorem d5_step_158 : decode m5_step.2.1 158 = .ok (.invokestatic 208, 3) := by decide +kernel
theorem d5_step_161 : decode m5_step.2.1 161 = .ok (.ifCond .eq 67, 3) := by decide +kernel
theorem d5_step_164 : decode m5_step.2.1 164 = .ok (.aload_n 0, 1) := by decide +kernel
theorem d5_step_165 : decode m5_step.2.1 165 = .ok (.getfield 57, 3) := by decide +kernel
theorem d5_step_168 : decode m5_step.2.1 168 = .ok (.aload_n 0, 1) := by decide +kernel
theorem d5_step_169 : decode m5_step.2.1 169 = .ok (.getfield 47, 3) := by decide +kernel
theorem d5_step_172 : decode m5_step.2.1 172 = .ok (.if_icmp .ge 31, 3) := by decide +kernel
theorem d5_step_175 : decode m5_step.2.1 175 = .ok (.aload_n 0, 1) := by decide +kernel
theorem d5_step_176 : decode m5_step.2.1 176 = .ok (.getfield 30, 3) := by decide +kernel
theorem d5_step_179 : decode m5_step.2.1 179 = .ok (.aload_n 0, 1) := by decide +kernel
theorem d5_step_180 : decode m5_step.2.1 180 = .ok (.getfield 57, 3) := by decide +kernel
theorem d5_step_183 : decode m5_step.2.1 183 = .ok (.baload, 1) := by decide +kernel
theorem d5_step_184 : decode m5_step.2.1 184 = .ok (.invokestatic 208, 3) := by decide +kernel
theorem d5_step_187 : decode m5_step.2.1 187 = .ok (.ifCond .eq 16, 3) := by decide +kernel
theorem d5_step_190 : decode m5_step.2.1 190 = .ok (.aload_n 0, 1) := by decide +kernel
theorem d5_step_191 : decode m5_step.2.1 191 = .ok (.dup, 1) := by decide +kernel
theorem d5_step_192 : decode m5_step.2.1 192 = .ok (.getfield 57, 3) := by decide +kernel
theorem d5_step_195 : decode m5_step.2.1 195 = .ok (.iconst 1, 1) := by decide +kernel
theorem d5_step_196 : decode m5_step.2.1 196 = .ok (.iadd, 1) := by decide +kernel
theorem d5_step_197 : decode m5_step.2.1 197 = .ok (.putfield 57, 3) := by decide +kernel
theorem d5_step_200 : decode m5_step.2.1 200 = .ok (.goto (-36), 3) := by decide +kernel
theorem d5_step_203 : decode m5_step.2.1 203 = .ok (.aload_n 0, 1) := by decide +kernel
theorem d5_step_204 : decode m5_step.2.1 204 = .ok (.aload_n 0, 1) := by decide +kernel
theorem d5_step_205 : decode m5_step.2.1 205 = .ok (.getfield 57, 3) := by decide +kernel
theorem d5_step_208 : decode m5_step.2.1 208 = .ok (.aload_n 0, 1) := by decide +kernel
theorem d5_step_209 : decode m5_step.2.1 209 = .ok (.getfield 108, 3) := by decide +kernel
theorem d5_step_212 : decode m5_step.2.1 212 = .ok (.isub, 1) := by decide +kernel
theorem d5_step_213 : decode m5_step.2.1 213 = .ok (.iconst 2, 1) := by decide +kernel
theorem d5_step_214 : decode m5_step.2.1 214 = .ok (.if_icmp .gt 7, 3) := by decide +kernel
theorem d5_step_217 : decode m5_step.2.1 217 = .ok (.iconst 2, 1) := by decide +kernel
theorem d5_step_218 : decode m5_step.2.1 218 = .ok (.goto 4, 3) := by decide +kernel
theorem d5_step_221 : decode m5_step.2.1 221 = .ok (.iconst 4, 1) := by decide +kernel
theorem d5_step_222 : decode m5_step.2.1 222 = .ok (.putfield 81, 3) := by decide +kernel
theorem d5_step_225 : decode m5_step.2.1 225 = .ok (.goto 36, 3) := by decide +kernel
theorem d5_step_228 : decode m5_step.2.1 228 = .ok (.aload_n 0, 1) := by decide +kernel
theorem d5_step_229 : decode m5_step.2.1 229 = .ok (.dup, 1) := by decide +kernel
theorem d5_step_230 : decode m5_step.2.1 230 = .ok (.getfield 57, 3) := by decide +kernel
theorem d5_step_233 : decode m5_step.2.1 233 = .ok (.iconst 1, 1) := by decide +kernel
theorem d5_step_234 : decode m5_step.2.1 234 = .ok (.iadd, 1) := by decide +kernel
theorem d5_step_235 : decode m5_step.2.1 235 = .ok (.putfield 57, 3) := by decide +kernel
theorem d5_step_238 : decode m5_step.2.1 238 = .ok (.aload_n 0, 1) := by decide +kernel
theorem d5_step_239 : decode m5_step.2.1 239 = .ok (.aload_n 0, 1) := by decide +kernel
theorem d5_step_240 : decode m5_step.2.1 240 = .ok (.getfield 30, 3) := by decide +kernel
theorem d5_step_243 : decode m5_step.2.1 243 = .ok (.aload_n 0, 1) := by decide +kernel
theorem d5_step_244 : decode m5_step.2.1 244 = .ok (.getfield 108, 3) := by decide +kernel
theorem d5_step_247 : decode m5_step.2.1 247 = .ok (.baload, 1) := by decide +kernel
theorem d5_step_248 : decode m5_step.2.1 248 = .ok (.bipush 59, 2) := by decide +kernel
theorem d5_step_250 : decode m5_step.2.1 250 = .ok (.if_icmp .ne 7, 3) := by decide +kernel
theorem d5_step_253 : decode m5_step.2.1 253 = .ok (.iconst 3, 1) := by decide +kernel
theorem d5_step_254 : decode m5_step.2.1 254 = .ok (.goto 4, 3) := by decide +kernel
theorem d5_step_257 : decode m5_step.2.1 257 = .ok (.iconst 4, 1) := by decide +kernel
theorem d5_step_258 : decode m5_step.2.1 258 = .ok (.putfield 81, 3) := by decide +kernel
theorem d5_step_261 : decode m5_step.2.1 261 = .ok (.return_, 1) := by decide +kernel
def b5_step_47 (rec8 : AH → Option (Int × AH)) (h : AH) : Option (Int × AH) :=
  lt (wr h 28 9 ((h.2 28 9) + 1)) fun h1 =>
  rec8 h1
set_option maxRecDepth 100000 in
theorem t5_step_47 (l : Launch) (G : Geo) (d : Nat) (hd : 3 ≤ d) (rec8 : AH → Option (Int × AH)) (H8 : ∀ (h : AH), Den l G m5_step rvV d 8 [some (vA G 28)] [] h (rec8 h)) (h : AH) : Den l G m5_step rvV d 47 [some (vA G 28)] [] h (b5_step_47 rec8 h) := by
  unfold b5_step_47
  refine den_aload_n (pc := 47) d5_step_47 rfl rfl ?_
  refine den_dup (pc := 48) d5_step_48 rfl ?_
  refine den_getI (pc := 49) fa_5_108 (ok_28 _) d5_step_49 ?_
  refine den_iconst (pc := 52) d5_step_52 ?_
  refine den_iadd (pc := 53) d5_step_53 ?_
  refine den_putI (pc := 54) fp_5_108 (ok_28 _) d5_step_54 ?_
  refine den_ltH (fun h1 m2 => ?_)
  refine den_goto (pc := 57) (tgt := 8) d5_step_57 (by decide) ?_
  exact H8 h1
def b5_step_141 (h : AH) : Option (Int × AH) :=
  lt (wr h 28 8 1) fun h3 =>
  some (0, h3)
set_option maxRecDepth 100000 in
theorem t5_step_141 (l : Launch) (G : Geo) (d : Nat) (hd : 3 ≤ d) (h : AH) : Den l G m5_step rvV d 141 [some (vA G 28)] [] h (b5_step_141 h) := by
  unfold b5_step_141
  refine den_aload_n (pc := 141) d5_step_141 rfl rfl ?_
  refine den_iconst (pc := 142) d5_step_142 ?_
  refine den_putI (pc := 143) fp_5_81 (ok_28 _) d5_step_143 ?_
  refine den_ltH (fun h3 m4 => ?_)
  refine den_goto (pc := 146) (tgt := 261) d5_step_146 (by decide) ?_
  exact den_vret (pc := 261) rfl d5_step_261
def b5_step_102 (rec102 : AH → Option (Int × AH)) (h : AH) : Option (Int × AH) :=
  if w32 (h.2 28 7) ≤ w32 (h.2 28 10) then
    b5_step_141 h
  else
    asrt (0 ≤ w32 (h.2 28 10) ∧ w32 (h.2 28 10) < 600) <|
    bnd (f5_isLetter (h.2 39 (w32 (h.2 28 10)).toNat) h) fun r6 h7 =>
    if w32 r6 = 0 then
      b5_step_141 h7
    else
      lt (wr h7 28 10 ((h7.2 28 10) + 1)) fun h10 =>
      rec102 h10
set_option maxRecDepth 100000 in
theorem t5_step_102 (l : Launch) (G : Geo) (d : Nat) (hd : 3 ≤ d) (rec102 : AH → Option (Int × AH)) (H102 : ∀ (h : AH), Den l G m5_step rvV d 102 [some (vA G 28)] [] h (rec102 h)) (h : AH) : Den l G m5_step rvV d 102 [some (vA G 28)] [] h (b5_step_102 rec102 h) := by
  unfold b5_step_102
  refine den_aload_n (pc := 102) d5_step_102 rfl rfl ?_
  refine den_getI (pc := 103) fa_5_57 (ok_28 _) d5_step_103 ?_
  refine den_aload_n (pc := 106) d5_step_106 rfl rfl ?_
  refine den_getI (pc := 107) fa_5_47 (ok_28 _) d5_step_107 ?_
  refine den_icmp_ge (pc := 110) (tgt := 141) d5_step_110 (by decide) rfl rfl (fun _ => ?_) (fun _ => ?_)
  · exact t5_step_141 l G _ hd h
  · refine den_aload_n (pc := 113) d5_step_113 rfl rfl ?_
    refine den_getR (pc := 114) (b := 39) fa_5_30 (ok_28 _) rfl d5_step_114 ?_
    refine den_aload_n (pc := 117) d5_step_117 rfl rfl ?_
    refine den_getI (pc := 118) fa_5_57 (ok_28 _) d5_step_118 ?_
    refine den_asrt (fun a5 => ?_)
    refine den_baload (pc := 121) sh_39 (sz_lt (by decide)) rfl a5 d5_step_121 ?_
    refine den_callSI (pc := 122) (As := [vI (h.2 39 (w32 (h.2 28 10)).toNat)]) fs_5_205 rfl rfl (Nat.le_of_ble_eq_true rfl) (Nat.le_trans (by decide) hd) d5_step_122 (c5_isLetter l G (h.2 39 (w32 (h.2 28 10)).toNat) h) (fun r6 h7 m8 o9 => ?_)
    refine den_if_eq (pc := 125) (tgt := 141) d5_step_125 (by decide) rfl (fun _ => ?_) (fun _ => ?_)
    · exact t5_step_141 l G _ hd h7
    · refine den_aload_n (pc := 128) d5_step_128 rfl rfl ?_
      refine den_dup (pc := 129) d5_step_129 rfl ?_
      refine den_getI (pc := 130) fa_5_57 (ok_28 _) d5_step_130 ?_
      refine den_iconst (pc := 133) d5_step_133 ?_
      refine den_iadd (pc := 134) d5_step_134 ?_
      refine den_putI (pc := 135) fp_5_57 (ok_28 _) d5_step_135 ?_
      refine den_ltH (fun h10 m11 => ?_)
      refine den_goto (pc := 138) (tgt := 102) d5_step_138 (by decide) ?_
      exact H102 h10
def l5_step_102 (h : AH) : Option (Int × AH) := fx (fun rec z => b5_step_102 rec z) FU h
set_option maxRecDepth 100000 in
theorem tl5_step_102 (l : Launch) (G : Geo) (d : Nat) (hd : 3 ≤ d) : ∀ (n : Nat) (z : AH), True → Den l G m5_step rvV d 102 [some (vA G 28)] [] z (fx (fun rec z => b5_step_102 rec z) n z) :=
  den_fx (F := fun rec z => b5_step_102 rec z) (P := fun z => True) (fL := fun z => [some (vA G 28)]) (fs := fun z => []) (fh := fun z => z) (fun rec hrec z hz => t5_step_102 l G d hd  rec (fun h => hrec h trivial) z )
def b5_step_203 (h : AH) : Option (Int × AH) :=
  if 2 < w32 ((h.2 28 10) - (h.2 28 9)) then
    lt (wr h 28 8 4) fun h12 =>
    some (0, h12)
  else
    lt (wr h 28 8 2) fun h14 =>
    some (0, h14)
set_option maxRecDepth 100000 in
theorem t5_step_203 (l : Launch) (G : Geo) (d : Nat) (hd : 3 ≤ d) (h : AH) : Den l G m5_step rvV d 203 [some (vA G 28)] [] h (b5_step_203 h) := by
  unfold b5_step_203
  refine den_aload_n (pc := 203) d5_step_203 rfl rfl ?_
  refine den_aload_n (pc := 204) d5_step_204 rfl rfl ?_
  refine den_getI (pc := 205) fa_5_57 (ok_28 _) d5_step_205 ?_
  refine den_aload_n (pc := 208) d5_step_208 rfl rfl ?_
  refine den_getI (pc := 209) fa_5_108 (ok_28 _) d5_step_209 ?_
  refine den_isub (pc := 212) d5_step_212 ?_
  refine den_iconst (pc := 213) d5_step_213 ?_
  refine den_icmp_gt (pc := 214) (tgt := 221) d5_step_214 (by decide) rfl (by decide) (fun _ => ?_) (fun _ => ?_)
  · refine den_iconst (pc := 221) d5_step_221 ?_
    refine den_putI (pc := 222) fp_5_81 (ok_28 _) d5_step_222 ?_
    refine den_ltH (fun h12 m13 => ?_)
    refine den_goto (pc := 225) (tgt := 261) d5_step_225 (by decide) ?_
    exact den_vret (pc := 261) rfl d5_step_261
  · refine den_iconst (pc := 217) d5_step_217 ?_
    refine den_goto (pc := 218) (tgt := 222) d5_step_218 (by decide) ?_
    refine den_putI (pc := 222) fp_5_81 (ok_28 _) d5_step_222 ?_
    refine den_ltH (fun h14 m15 => ?_)
    refine den_goto (pc := 225) (tgt := 261) d5_step_225 (by decide) ?_
    exact den_vret (pc := 261) rfl d5_step_261
def b5_step_164 (rec164 : AH → Option (Int × AH)) (h : AH) : Option (Int × AH) :=
  if w32 (h.2 28 7) ≤ w32 (h.2 28 10) then
    b5_step_203 h
  else
    asrt (0 ≤ w32 (h.2 28 10) ∧ w32 (h.2 28 10) < 600) <|
    bnd (f5_isDigit (h.2 39 (w32 (h.2 28 10)).toNat) h) fun r17 h18 =>
    if w32 r17 = 0 then
      b5_step_203 h18
    else
      lt (wr h18 28 10 ((h18.2 28 10) + 1)) fun h21 =>
      rec164 h21
set_option maxRecDepth 100000 in
theorem t5_step_164 (l : Launch) (G : Geo) (d : Nat) (hd : 3 ≤ d) (rec164 : AH → Option (Int × AH)) (H164 : ∀ (h : AH), Den l G m5_step rvV d 164 [some (vA G 28)] [] h (rec164 h)) (h : AH) : Den l G m5_step rvV d 164 [some (vA G 28)] [] h (b5_step_164 rec164 h) := by
  unfold b5_step_164
  refine den_aload_n (pc := 164) d5_step_164 rfl rfl ?_
  refine den_getI (pc := 165) fa_5_57 (ok_28 _) d5_step_165 ?_
  refine den_aload_n (pc := 168) d5_step_168 rfl rfl ?_
  refine den_getI (pc := 169) fa_5_47 (ok_28 _) d5_step_169 ?_
  refine den_icmp_ge (pc := 172) (tgt := 203) d5_step_172 (by decide) rfl rfl (fun _ => ?_) (fun _ => ?_)
  · exact t5_step_203 l G _ hd h
  · refine den_aload_n (pc := 175) d5_step_175 rfl rfl ?_
    refine den_getR (pc := 176) (b := 39) fa_5_30 (ok_28 _) rfl d5_step_176 ?_
    refine den_aload_n (pc := 179) d5_step_179 rfl rfl ?_
    refine den_getI (pc := 180) fa_5_57 (ok_28 _) d5_step_180 ?_
    refine den_asrt (fun a16 => ?_)
    refine den_baload (pc := 183) sh_39 (sz_lt (by decide)) rfl a16 d5_step_183 ?_
    refine den_callSI (pc := 184) (As := [vI (h.2 39 (w32 (h.2 28 10)).toNat)]) fs_5_208 rfl rfl (Nat.le_of_ble_eq_true rfl) (Nat.le_trans (by decide) hd) d5_step_184 (c5_isDigit l G (h.2 39 (w32 (h.2 28 10)).toNat) h) (fun r17 h18 m19 o20 => ?_)
    refine den_if_eq (pc := 187) (tgt := 203) d5_step_187 (by decide) rfl (fun _ => ?_) (fun _ => ?_)
    · exact t5_step_203 l G _ hd h18
    · refine den_aload_n (pc := 190) d5_step_190 rfl rfl ?_
      refine den_dup (pc := 191) d5_step_191 rfl ?_
      refine den_getI (pc := 192) fa_5_57 (ok_28 _) d5_step_192 ?_
      refine den_iconst (pc := 195) d5_step_195 ?_
      refine den_iadd (pc := 196) d5_step_196 ?_
      refine den_putI (pc := 197) fp_5_57 (ok_28 _) d5_step_197 ?_
      refine den_ltH (fun h21 m22 => ?_)
      refine den_goto (pc := 200) (tgt := 164) d5_step_200 (by decide) ?_
      exact H164 h21
def l5_step_164 (h : AH) : Option (Int × AH) := fx (fun rec z => b5_step_164 rec z) FU h
set_option maxRecDepth 100000 in
theorem tl5_step_164 (l : Launch) (G : Geo) (d : Nat) (hd : 3 ≤ d) : ∀ (n : Nat) (z : AH), True → Den l G m5_step rvV d 164 [some (vA G 28)] [] z (fx (fun rec z => b5_step_164 rec z) n z) :=
  den_fx (F := fun rec z => b5_step_164 rec z) (P := fun z => True) (fL := fun z => [some (vA G 28)]) (fs := fun z => []) (fh := fun z => z) (fun rec hrec z hz => t5_step_164 l G d hd  rec (fun h => hrec h trivial) z )
def b5_step_60 (h : AH) : Option (Int × AH) :=
  lt (wr h 28 10 (h.2 28 9)) fun h23 =>
  if w32 (h23.2 28 9) < w32 (h23.2 28 7) then
    asrt (0 ≤ w32 (h23.2 28 9) ∧ w32 (h23.2 28 9) < 600) <|
    bnd (f5_isLetter (h23.2 39 (w32 (h23.2 28 9)).toNat) h23) fun r26 h27 =>
    if w32 r26 = 0 then
      asrt (0 ≤ w32 (h27.2 28 9) ∧ w32 (h27.2 28 9) < 600) <|
      bnd (f5_isDigit (h27.2 39 (w32 (h27.2 28 9)).toNat) h27) fun r31 h32 =>
      if w32 r31 = 0 then
        lt (wr h32 28 10 ((h32.2 28 10) + 1)) fun h35 =>
        asrt (0 ≤ w32 (h35.2 28 9) ∧ w32 (h35.2 28 9) < 600) <|
        if ¬ w32 (h35.2 39 (w32 (h35.2 28 9)).toNat) = 59 then
          lt (wr h35 28 8 4) fun h38 =>
          some (0, h38)
        else
          lt (wr h35 28 8 3) fun h40 =>
          some (0, h40)
      else
        l5_step_164 h32
    else
      l5_step_102 h27
  else
    lt (wr h23 28 8 0) fun h42 =>
    some (0, h42)
set_option maxRecDepth 100000 in
theorem t5_step_60 (l : Launch) (G : Geo) (d : Nat) (hd : 3 ≤ d) (h : AH) : Den l G m5_step rvV d 60 [some (vA G 28)] [] h (b5_step_60 h) := by
  unfold b5_step_60
  refine den_aload_n (pc := 60) d5_step_60 rfl rfl ?_
  refine den_aload_n (pc := 61) d5_step_61 rfl rfl ?_
  refine den_getI (pc := 62) fa_5_108 (ok_28 _) d5_step_62 ?_
  refine den_putI (pc := 65) fp_5_57 (ok_28 _) d5_step_65 ?_
  refine den_ltH (fun h23 m24 => ?_)
  refine den_aload_n (pc := 68) d5_step_68 rfl rfl ?_
  refine den_getI (pc := 69) fa_5_108 (ok_28 _) d5_step_69 ?_
  refine den_aload_n (pc := 72) d5_step_72 rfl rfl ?_
  refine den_getI (pc := 73) fa_5_47 (ok_28 _) d5_step_73 ?_
  refine den_icmp_lt (pc := 76) (tgt := 87) d5_step_76 (by decide) rfl rfl (fun _ => ?_) (fun _ => ?_)
  · refine den_aload_n (pc := 87) d5_step_87 rfl rfl ?_
    refine den_getR (pc := 88) (b := 39) fa_5_30 (ok_28 _) rfl d5_step_88 ?_
    refine den_aload_n (pc := 91) d5_step_91 rfl rfl ?_
    refine den_getI (pc := 92) fa_5_108 (ok_28 _) d5_step_92 ?_
    refine den_asrt (fun a25 => ?_)
    refine den_baload (pc := 95) sh_39 (sz_lt (by decide)) rfl a25 d5_step_95 ?_
    refine den_callSI (pc := 96) (As := [vI (h23.2 39 (w32 (h23.2 28 9)).toNat)]) fs_5_205 rfl rfl (Nat.le_of_ble_eq_true rfl) (Nat.le_trans (by decide) hd) d5_step_96 (c5_isLetter l G (h23.2 39 (w32 (h23.2 28 9)).toNat) h23) (fun r26 h27 m28 o29 => ?_)
    refine den_if_eq (pc := 99) (tgt := 149) d5_step_99 (by decide) rfl (fun _ => ?_) (fun _ => ?_)
    · refine den_aload_n (pc := 149) d5_step_149 rfl rfl ?_
      refine den_getR (pc := 150) (b := 39) fa_5_30 (ok_28 _) rfl d5_step_150 ?_
      refine den_aload_n (pc := 153) d5_step_153 rfl rfl ?_
      refine den_getI (pc := 154) fa_5_108 (ok_28 _) d5_step_154 ?_
      refine den_asrt (fun a30 => ?_)
      refine den_baload (pc := 157) sh_39 (sz_lt (by decide)) rfl a30 d5_step_157 ?_
      refine den_callSI (pc := 158) (As := [vI (h27.2 39 (w32 (h27.2 28 9)).toNat)]) fs_5_208 rfl rfl (Nat.le_of_ble_eq_true rfl) (Nat.le_trans (by decide) hd) d5_step_158 (c5_isDigit l G (h27.2 39 (w32 (h27.2 28 9)).toNat) h27) (fun r31 h32 m33 o34 => ?_)
      refine den_if_eq (pc := 161) (tgt := 228) d5_step_161 (by decide) rfl (fun _ => ?_) (fun _ => ?_)
      · refine den_aload_n (pc := 228) d5_step_228 rfl rfl ?_
        refine den_dup (pc := 229) d5_step_229 rfl ?_
        refine den_getI (pc := 230) fa_5_57 (ok_28 _) d5_step_230 ?_
        refine den_iconst (pc := 233) d5_step_233 ?_
        refine den_iadd (pc := 234) d5_step_234 ?_
        refine den_putI (pc := 235) fp_5_57 (ok_28 _) d5_step_235 ?_
        refine den_ltH (fun h35 m36 => ?_)
        refine den_aload_n (pc := 238) d5_step_238 rfl rfl ?_
        refine den_aload_n (pc := 239) d5_step_239 rfl rfl ?_
        refine den_getR (pc := 240) (b := 39) fa_5_30 (ok_28 _) rfl d5_step_240 ?_
        refine den_aload_n (pc := 243) d5_step_243 rfl rfl ?_
        refine den_getI (pc := 244) fa_5_108 (ok_28 _) d5_step_244 ?_
        refine den_asrt (fun a37 => ?_)
        refine den_baload (pc := 247) sh_39 (sz_lt (by decide)) rfl a37 d5_step_247 ?_
        refine den_bipush (pc := 248) d5_step_248 (by decide) ?_
        refine den_icmp_ne (pc := 250) (tgt := 257) d5_step_250 (by decide) rfl (by decide) (fun _ => ?_) (fun _ => ?_)
        · refine den_iconst (pc := 257) d5_step_257 ?_
          refine den_putI (pc := 258) fp_5_81 (ok_28 _) d5_step_258 ?_
          refine den_ltH (fun h38 m39 => ?_)
          exact den_vret (pc := 261) rfl d5_step_261
        · refine den_iconst (pc := 253) d5_step_253 ?_
          refine den_goto (pc := 254) (tgt := 258) d5_step_254 (by decide) ?_
          refine den_putI (pc := 258) fp_5_81 (ok_28 _) d5_step_258 ?_
          refine den_ltH (fun h40 m41 => ?_)
          exact den_vret (pc := 261) rfl d5_step_261
      · exact tl5_step_164 l G _ hd FU h32 trivial
    · exact tl5_step_102 l G _ hd FU h27 trivial
  · refine den_aload_n (pc := 79) d5_step_79 rfl rfl ?_
    refine den_iconst (pc := 80) d5_step_80 ?_
    refine den_putI (pc := 81) fp_5_81 (ok_28 _) d5_step_81 ?_
    refine den_ltH (fun h42 m43 => ?_)
    refine den_goto (pc := 84) (tgt := 261) d5_step_84 (by decide) ?_
    exact den_vret (pc := 261) rfl d5_step_261
def b5_step_8 (rec8 : AH → Option (Int × AH)) (h : AH) : Option (Int × AH) :=
  if w32 (h.2 28 7) ≤ w32 (h.2 28 9) then
    b5_step_60 h
  else
    asrt (0 ≤ w32 (h.2 28 9) ∧ w32 (h.2 28 9) < 600) <|
    if w32 (h.2 39 (w32 (h.2 28 9)).toNat) = 10 then
      b5_step_47 rec8 h
    else
      asrt (0 ≤ w32 (h.2 28 9) ∧ w32 (h.2 28 9) < 600) <|
      if ¬ w32 (h.2 39 (w32 (h.2 28 9)).toNat) = 32 then
        b5_step_60 h
      else
        b5_step_47 rec8 h
set_option maxRecDepth 100000 in
theorem t5_step_8 (l : Launch) (G : Geo) (d : Nat) (hd : 3 ≤ d) (rec8 : AH → Option (Int × AH)) (H8 : ∀ (h : AH), Den l G m5_step rvV d 8 [some (vA G 28)] [] h (rec8 h)) (h : AH) : Den l G m5_step rvV d 8 [some (vA G 28)] [] h (b5_step_8 rec8 h) := by
  unfold b5_step_8
  refine den_aload_n (pc := 8) d5_step_8 rfl rfl ?_
  refine den_getI (pc := 9) fa_5_108 (ok_28 _) d5_step_9 ?_
  refine den_aload_n (pc := 12) d5_step_12 rfl rfl ?_
  refine den_getI (pc := 13) fa_5_47 (ok_28 _) d5_step_13 ?_
  refine den_icmp_ge (pc := 16) (tgt := 60) d5_step_16 (by decide) rfl rfl (fun _ => ?_) (fun _ => ?_)
  · exact t5_step_60 l G _ hd h
  · refine den_aload_n (pc := 19) d5_step_19 rfl rfl ?_
    refine den_getR (pc := 20) (b := 39) fa_5_30 (ok_28 _) rfl d5_step_20 ?_
    refine den_aload_n (pc := 23) d5_step_23 rfl rfl ?_
    refine den_getI (pc := 24) fa_5_108 (ok_28 _) d5_step_24 ?_
    refine den_asrt (fun a44 => ?_)
    refine den_baload (pc := 27) sh_39 (sz_lt (by decide)) rfl a44 d5_step_27 ?_
    refine den_bipush (pc := 28) d5_step_28 (by decide) ?_
    refine den_icmp_eq (pc := 30) (tgt := 47) d5_step_30 (by decide) rfl (by decide) (fun _ => ?_) (fun _ => ?_)
    · exact t5_step_47 l G _ hd rec8 H8 h
    · refine den_aload_n (pc := 33) d5_step_33 rfl rfl ?_
      refine den_getR (pc := 34) (b := 39) fa_5_30 (ok_28 _) rfl d5_step_34 ?_
      refine den_aload_n (pc := 37) d5_step_37 rfl rfl ?_
      refine den_getI (pc := 38) fa_5_108 (ok_28 _) d5_step_38 ?_
      refine den_asrt (fun a45 => ?_)
      refine den_baload (pc := 41) sh_39 (sz_lt (by decide)) rfl a45 d5_step_41 ?_
      refine den_bipush (pc := 42) d5_step_42 (by decide) ?_
      refine den_icmp_ne (pc := 44) (tgt := 60) d5_step_44 (by decide) rfl (by decide) (fun _ => ?_) (fun _ => ?_)
      · exact t5_step_60 l G _ hd h
      · exact t5_step_47 l G _ hd rec8 H8 h
def l5_step_8 (h : AH) : Option (Int × AH) := fx (fun rec z => b5_step_8 rec z) FU h
set_option maxRecDepth 100000 in
theorem tl5_step_8 (l : Launch) (G : Geo) (d : Nat) (hd : 3 ≤ d) : ∀ (n : Nat) (z : AH), True → Den l G m5_step rvV d 8 [some (vA G 28)] [] z (fx (fun rec z => b5_step_8 rec z) n z) :=
  den_fx (F := fun rec z => b5_step_8 rec z) (P := fun z => True) (fL := fun z => [some (vA G 28)]) (fs := fun z => []) (fh := fun z => z) (fun rec hrec z hz => t5_step_8 l G d hd  rec (fun h => hrec h trivial) z )
def f5_step (h : AH) : Option (Int × AH) :=
  lt (wr h 28 9 (h.2 28 10)) fun h46 =>
  l5_step_8 h46
set_option maxRecDepth 100000 in
theorem c5_step (l : Launch) (G : Geo) (h : AH) : Con l G m5_step rvV 3 [vA G 28] h (f5_step  h) := by
  have hd : 3 ≤ 3 := Nat.le_refl _
  refine con_V rfl (by decide) rfl rfl (Nat.le_of_ble_eq_true rfl) (L := [some (vA G 28)]) ?_
  unfold f5_step
  refine den_aload_n (pc := 0) d5_step_0 rfl rfl ?_
  refine den_aload_n (pc := 1) d5_step_1 rfl rfl ?_
  refine den_getI (pc := 2) fa_5_57 (ok_28 _) d5_step_2 ?_
  refine den_putI (pc := 5) fp_5_108 (ok_28 _) d5_step_5 ?_
  refine den_ltH (fun h46 m47 => ?_)
  exact tl5_step_8 l G _ hd FU h46 trivial
theorem d6_addRow_0 : decode m6_addRow.2.1 0 = .ok (.aload_n 0, 1) := by decide +kernel
theorem d6_addRow_1 : decode m6_addRow.2.1 1 = .ok (.invokevirtual 35, 3) := by decide +kernel
theorem d6_addRow_4 : decode m6_addRow.2.1 4 = .ok (.ifCond .ne 13, 3) := by decide +kernel
theorem d6_addRow_7 : decode m6_addRow.2.1 7 = .ok (.aload_n 0, 1) := by decide +kernel
theorem d6_addRow_8 : decode m6_addRow.2.1 8 = .ok (.dup, 1) := by decide +kernel
theorem d6_addRow_9 : decode m6_addRow.2.1 9 = .ok (.getfield 22, 3) := by decide +kernel
theorem d6_addRow_12 : decode m6_addRow.2.1 12 = .ok (.iconst 1, 1) := by decide +kernel
theorem d6_addRow_13 : decode m6_addRow.2.1 13 = .ok (.iadd, 1) := by decide +kernel
theorem d6_addRow_14 : decode m6_addRow.2.1 14 = .ok (.putfield 22, 3) := by decide +kernel
theorem d6_addRow_17 : decode m6_addRow.2.1 17 = .ok (.return_, 1) := by decide +kernel
def f6_addRow (x0 : Nat) (h : AH) : Option (Int × AH) :=
  bnd (f6_isFull x0 h) fun r1 h2 =>
  if ¬ w32 r1 = 0 then
    some (0, h2)
  else
    lt (wr h2 x0 3 ((h2.2 x0 3) + 1)) fun h6 =>
    some (0, h6)
set_option maxRecDepth 100000 in
theorem c6_addRow (l : Launch) (G : Geo) (x0 : Nat) (h : AH) (kx0 : ok h.1 x0 6) : Con l G m6_addRow rvV 3 [vA G x0] h (f6_addRow x0 h) := by
  have hd : 3 ≤ 3 := Nat.le_refl _
  refine con_V rfl (by decide) rfl rfl (Nat.le_of_ble_eq_true rfl) (L := [some (vA G x0)]) ?_
  unfold f6_addRow
  refine den_aload_n (pc := 0) d6_addRow_0 rfl rfl ?_
  refine den_callVI (pc := 1) (As := []) fv_6_35 rfl rfl kx0 (Nat.le_of_ble_eq_true rfl) (Nat.le_trans (by decide) hd) d6_addRow_1 (c6_isFull l G x0 h kx0) (fun r1 h2 m3 o4 => ?_)
  have q5 := ok.mono kx0 m3
  refine den_if_ne (pc := 4) (tgt := 17) d6_addRow_4 (by decide) rfl (fun _ => ?_) (fun _ => ?_)
  · exact den_vret (pc := 17) rfl d6_addRow_17
  · refine den_aload_n (pc := 7) d6_addRow_7 rfl rfl ?_
    refine den_dup (pc := 8) d6_addRow_8 rfl ?_
    refine den_getI (pc := 9) fa_6_22 q5 d6_addRow_9 ?_
    refine den_iconst (pc := 12) d6_addRow_12 ?_
    refine den_iadd (pc := 13) d6_addRow_13 ?_
    refine den_putI (pc := 14) fp_6_22 q5 d6_addRow_14 ?_
    refine den_ltH (fun h6 m7 => ?_)
    have q8 := ok.mono q5 m7
    exact den_vret (pc := 17) rfl d6_addRow_17
