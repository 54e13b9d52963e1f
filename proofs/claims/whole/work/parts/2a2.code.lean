/-! 6_cell 2_isAsLogged 9_hasPerson 2_gather 2_burningNext 2_mostAlike 2_ask 2_sure 2_answer 2_extreme 3_byQuarrel 3_byRest 9_hasHearth -/
theorem d6_cell_0 : decode m6_cell.2.1 0 = .ok (.iload_n 1, 1) := by decide +kernel
theorem d6_cell_1 : decode m6_cell.2.1 1 = .ok (.ifCond .lt 39, 3) := by decide +kernel
theorem d6_cell_4 : decode m6_cell.2.1 4 = .ok (.iload_n 1, 1) := by decide +kernel
theorem d6_cell_5 : decode m6_cell.2.1 5 = .ok (.aload_n 0, 1) := by decide +kernel
theorem d6_cell_6 : decode m6_cell.2.1 6 = .ok (.getfield 22, 3) := by decide +kernel
theorem d6_cell_9 : decode m6_cell.2.1 9 = .ok (.if_icmp .ge 31, 3) := by decide +kernel
theorem d6_cell_12 : decode m6_cell.2.1 12 = .ok (.iload_n 2, 1) := by decide +kernel
theorem d6_cell_13 : decode m6_cell.2.1 13 = .ok (.ifCond .lt 27, 3) := by decide +kernel
theorem d6_cell_16 : decode m6_cell.2.1 16 = .ok (.iload_n 2, 1) := by decide +kernel
theorem d6_cell_17 : decode m6_cell.2.1 17 = .ok (.aload_n 0, 1) := by decide +kernel
theorem d6_cell_18 : decode m6_cell.2.1 18 = .ok (.getfield 9, 3) := by decide +kernel
theorem d6_cell_21 : decode m6_cell.2.1 21 = .ok (.if_icmp .ge 19, 3) := by decide +kernel
theorem d6_cell_24 : decode m6_cell.2.1 24 = .ok (.aload_n 0, 1) := by decide +kernel
theorem d6_cell_25 : decode m6_cell.2.1 25 = .ok (.getfield 18, 3) := by decide +kernel
theorem d6_cell_28 : decode m6_cell.2.1 28 = .ok (.iload_n 1, 1) := by decide +kernel
theorem d6_cell_29 : decode m6_cell.2.1 29 = .ok (.aload_n 0, 1) := by decide +kernel
theorem d6_cell_30 : decode m6_cell.2.1 30 = .ok (.getfield 9, 3) := by decide +kernel
theorem d6_cell_33 : decode m6_cell.2.1 33 = .ok (.imul, 1) := by decide +kernel
theorem d6_cell_34 : decode m6_cell.2.1 34 = .ok (.iload_n 2, 1) := by decide +kernel
theorem d6_cell_35 : decode m6_cell.2.1 35 = .ok (.iadd, 1) := by decide +kernel
theorem d6_cell_36 : decode m6_cell.2.1 36 = .ok (.iaload, 1) := by decide +kernel
theorem d6_cell_37 : decode m6_cell.2.1 37 = .ok (.goto 5, 3) := by decide +kernel
theorem d6_cell_40 : decode m6_cell.2.1 40 = .ok (.bipush (-2), 2) := by decide +kernel
theorem d6_cell_42 : decode m6_cell.2.1 42 = .ok (.ireturn, 1) := by decide +kernel
def f6_cell (x0 : Nat) (x1 : Int) (x2 : Int) (h : AH) : Option (Int × AH) :=
  if w32 x1 < 0 then
    some ((-2), h)
  else
    if w32 (h.2 x0 3) ≤ w32 x1 then
      some ((-2), h)
    else
      if w32 x2 < 0 then
        some ((-2), h)
      else
        if w32 (h.2 x0 0) ≤ w32 x2 then
          some ((-2), h)
        else
          asrt (0 ≤ w32 ((x1 * (h.2 x0 0)) + x2) ∧ w32 ((x1 * (h.2 x0 0)) + x2) < ((shp (x0 + 1)).2 : Int)) <|
          some (h.2 (x0 + 1) (w32 ((x1 * (h.2 x0 0)) + x2)).toNat, h)
set_option maxRecDepth 100000 in
theorem c6_cell (l : Launch) (G : Geo) (x0 : Nat) (x1 : Int) (x2 : Int) (h : AH) (kx0 : ok h.1 x0 6) : Con l G m6_cell rvI 2 [vA G x0, vI x1, vI x2] h (f6_cell x0 x1 x2 h) := by
  have hd : 2 ≤ 2 := Nat.le_refl _
  refine con_I rfl (by decide) rfl rfl (Nat.le_of_ble_eq_true rfl) (L := [some (vA G x0), some (vI x1), some (vI x2)]) ?_
  unfold f6_cell
  refine den_iload_n (pc := 0) d6_cell_0 rfl rfl ?_
  refine den_if_lt (pc := 1) (tgt := 40) d6_cell_1 (by decide) rfl (fun _ => ?_) (fun _ => ?_)
  · refine den_bipush (pc := 40) d6_cell_40 (by decide) ?_
    exact den_iret (pc := 42) rfl d6_cell_42
  · refine den_iload_n (pc := 4) d6_cell_4 rfl rfl ?_
    refine den_aload_n (pc := 5) d6_cell_5 rfl rfl ?_
    refine den_getI (pc := 6) fa_6_22 kx0 d6_cell_6 ?_
    refine den_icmp_ge (pc := 9) (tgt := 40) d6_cell_9 (by decide) rfl rfl (fun _ => ?_) (fun _ => ?_)
    · refine den_bipush (pc := 40) d6_cell_40 (by decide) ?_
      exact den_iret (pc := 42) rfl d6_cell_42
    · refine den_iload_n (pc := 12) d6_cell_12 rfl rfl ?_
      refine den_if_lt (pc := 13) (tgt := 40) d6_cell_13 (by decide) rfl (fun _ => ?_) (fun _ => ?_)
      · refine den_bipush (pc := 40) d6_cell_40 (by decide) ?_
        exact den_iret (pc := 42) rfl d6_cell_42
      · refine den_iload_n (pc := 16) d6_cell_16 rfl rfl ?_
        refine den_aload_n (pc := 17) d6_cell_17 rfl rfl ?_
        refine den_getI (pc := 18) fa_6_9 kx0 d6_cell_18 ?_
        refine den_icmp_ge (pc := 21) (tgt := 40) d6_cell_21 (by decide) rfl rfl (fun _ => ?_) (fun _ => ?_)
        · refine den_bipush (pc := 40) d6_cell_40 (by decide) ?_
          exact den_iret (pc := 42) rfl d6_cell_42
        · refine den_aload_n (pc := 24) d6_cell_24 rfl rfl ?_
          refine den_getR (pc := 25) (b := x0 + 1) fa_6_18 kx0 rfl d6_cell_25 ?_
          refine den_iload_n (pc := 28) d6_cell_28 rfl rfl ?_
          refine den_aload_n (pc := 29) d6_cell_29 rfl rfl ?_
          refine den_getI (pc := 30) fa_6_9 kx0 d6_cell_30 ?_
          refine den_imul (pc := 33) d6_cell_33 ?_
          refine den_iload_n (pc := 34) d6_cell_34 rfl rfl ?_
          refine den_iadd (pc := 35) d6_cell_35 ?_
          refine den_asrt (fun a1 => ?_)
          refine den_iaload (pc := 36) (row_s1 kx0) (row_l1 kx0) rfl a1 d6_cell_36 ?_
          refine den_goto (pc := 37) (tgt := 42) d6_cell_37 (by decide) ?_
          exact den_iret (pc := 42) rfl d6_cell_42
theorem d2_isAsLogged_0 : decode m2_isAsLogged.2.1 0 = .ok (.iconst 0, 1) := by decide +kernel
theorem d2_isAsLogged_1 : decode m2_isAsLogged.2.1 1 = .ok (.istore 5, 2) := by decide +kernel
theorem d2_isAsLogged_3 : decode m2_isAsLogged.2.1 3 = .ok (.iload 5, 2) := by decide +kernel
theorem d2_isAsLogged_5 : decode m2_isAsLogged.2.1 5 = .ok (.aload_n 0, 1) := by decide +kernel
theorem d2_isAsLogged_6 : decode m2_isAsLogged.2.1 6 = .ok (.getfield 27, 3) := by decide +kernel
theorem d2_isAsLogged_9 : decode m2_isAsLogged.2.1 9 = .ok (.if_icmp .ge 59, 3) := by decide +kernel
theorem d2_isAsLogged_12 : decode m2_isAsLogged.2.1 12 = .ok (.aload_n 1, 1) := by decide +kernel
theorem d2_isAsLogged_13 : decode m2_isAsLogged.2.1 13 = .ok (.aload_n 2, 1) := by decide +kernel
theorem d2_isAsLogged_14 : decode m2_isAsLogged.2.1 14 = .ok (.iload 5, 2) := by decide +kernel
theorem d2_isAsLogged_16 : decode m2_isAsLogged.2.1 16 = .ok (.iconst 0, 1) := by decide +kernel
theorem d2_isAsLogged_17 : decode m2_isAsLogged.2.1 17 = .ok (.invokevirtual 30, 3) := by decide +kernel
theorem d2_isAsLogged_20 : decode m2_isAsLogged.2.1 20 = .ok (.aload_n 2, 1) := by decide +kernel
theorem d2_isAsLogged_21 : decode m2_isAsLogged.2.1 21 = .ok (.iload 5, 2) := by decide +kernel
theorem d2_isAsLogged_23 : decode m2_isAsLogged.2.1 23 = .ok (.iconst 1, 1) := by decide +kernel
theorem d2_isAsLogged_24 : decode m2_isAsLogged.2.1 24 = .ok (.invokevirtual 30, 3) := by decide +kernel
theorem d2_isAsLogged_27 : decode m2_isAsLogged.2.1 27 = .ok (.iload_n 3, 1) := by decide +kernel
theorem d2_isAsLogged_28 : decode m2_isAsLogged.2.1 28 = .ok (.invokevirtual 47, 3) := by decide +kernel
theorem d2_isAsLogged_31 : decode m2_isAsLogged.2.1 31 = .ok (.istore 6, 2) := by decide +kernel
theorem d2_isAsLogged_33 : decode m2_isAsLogged.2.1 33 = .ok (.iconst 0, 1) := by decide +kernel
theorem d2_isAsLogged_34 : decode m2_isAsLogged.2.1 34 = .ok (.iload 6, 2) := by decide +kernel
theorem d2_isAsLogged_36 : decode m2_isAsLogged.2.1 36 = .ok (.invokestatic 51, 3) := by decide +kernel
theorem d2_isAsLogged_39 : decode m2_isAsLogged.2.1 39 = .ok (.aload_n 1, 1) := by decide +kernel
theorem d2_isAsLogged_40 : decode m2_isAsLogged.2.1 40 = .ok (.iload_n 3, 1) := by decide +kernel
theorem d2_isAsLogged_41 : decode m2_isAsLogged.2.1 41 = .ok (.iload 4, 2) := by decide +kernel
theorem d2_isAsLogged_43 : decode m2_isAsLogged.2.1 43 = .ok (.iload 5, 2) := by decide +kernel
theorem d2_isAsLogged_45 : decode m2_isAsLogged.2.1 45 = .ok (.iadd, 1) := by decide +kernel
theorem d2_isAsLogged_46 : decode m2_isAsLogged.2.1 46 = .ok (.invokevirtual 56, 3) := by decide +kernel
theorem d2_isAsLogged_49 : decode m2_isAsLogged.2.1 49 = .ok (.imul, 1) := by decide +kernel
theorem d2_isAsLogged_50 : decode m2_isAsLogged.2.1 50 = .ok (.aload_n 2, 1) := by decide +kernel
theorem d2_isAsLogged_51 : decode m2_isAsLogged.2.1 51 = .ok (.iload 5, 2) := by decide +kernel
theorem d2_isAsLogged_53 : decode m2_isAsLogged.2.1 53 = .ok (.iconst 2, 1) := by decide +kernel
theorem d2_isAsLogged_54 : decode m2_isAsLogged.2.1 54 = .ok (.invokevirtual 30, 3) := by decide +kernel
theorem d2_isAsLogged_57 : decode m2_isAsLogged.2.1 57 = .ok (.if_icmp .eq 5, 3) := by decide +kernel
theorem d2_isAsLogged_60 : decode m2_isAsLogged.2.1 60 = .ok (.iconst 0, 1) := by decide +kernel
theorem d2_isAsLogged_61 : decode m2_isAsLogged.2.1 61 = .ok (.ireturn, 1) := by decide +kernel
theorem d2_isAsLogged_62 : decode m2_isAsLogged.2.1 62 = .ok (.iinc 5 1, 3) := by decide +kernel
theorem d2_isAsLogged_65 : decode m2_isAsLogged.2.1 65 = .ok (.goto (-62), 3) := by decide +kernel
theorem d2_isAsLogged_68 : decode m2_isAsLogged.2.1 68 = .ok (.iconst 1, 1) := by decide +kernel
theorem d2_isAsLogged_69 : decode m2_isAsLogged.2.1 69 = .ok (.ireturn, 1) := by decide +kernel
def b2_isAsLogged_3 (rec3 : Int × AH → Option (Int × AH)) (x1 : Nat) (x2 : Nat) (x3 : Int) (x4 : Int) (x5 : Int) (h : AH) : Option (Int × AH) :=
  if w32 (h.2 66 3) ≤ w32 x5 then
    some (1, h)
  else
    bnd (f6_cell x2 x5 0 h) fun r1 h2 =>
    bnd (f6_cell x2 x5 1 h2) fun r7 h8 =>
    bnd (f9_gap x1 r1 r7 x3 h8) fun r13 h14 =>
    bnd (f9_heatAfter x1 x3 (x4 + x5) h14) fun r19 h20 =>
    bnd (f6_cell x2 x5 2 h20) fun r25 h26 =>
    if w32 ((max32 0 r13) * r19) = w32 r25 then
      rec3 ((x5 + 1), h26)
    else
      some (0, h26)
set_option maxRecDepth 100000 in
theorem t2_isAsLogged_3 (l : Launch) (G : Geo) (d : Nat) (hd : 4 ≤ d) (x1 : Nat) (x2 : Nat) (x3 : Int) (x4 : Int) (x5 : Int) (rec3 : Int × AH → Option (Int × AH)) (H3 : ∀ (x5 : Int) (h : AH), ok h.1 x1 9 → ok h.1 x2 6 → Den l G m2_isAsLogged rvI d 3 [some (vA G 66), some (vA G x1), some (vA G x2), some (vI x3), some (vI x4), some (vI x5), none] [] h (rec3 (x5, h))) (h : AH) (kx1 : ok h.1 x1 9) (kx2 : ok h.1 x2 6) : Den l G m2_isAsLogged rvI d 3 [some (vA G 66), some (vA G x1), some (vA G x2), some (vI x3), some (vI x4), some (vI x5), none] [] h (b2_isAsLogged_3 rec3 x1 x2 x3 x4 x5 h) := by
  unfold b2_isAsLogged_3
  refine den_iload (pc := 3) d2_isAsLogged_3 rfl ?_
  refine den_aload_n (pc := 5) d2_isAsLogged_5 rfl rfl ?_
  refine den_getI (pc := 6) fa_2_27 (ok_66 _) d2_isAsLogged_6 ?_
  refine den_icmp_ge (pc := 9) (tgt := 68) d2_isAsLogged_9 (by decide) rfl rfl (fun _ => ?_) (fun _ => ?_)
  · refine den_iconst (pc := 68) d2_isAsLogged_68 ?_
    exact den_zret (pc := 69) rfl (by decide) d2_isAsLogged_69
  · refine den_aload_n (pc := 12) d2_isAsLogged_12 rfl rfl ?_
    refine den_aload_n (pc := 13) d2_isAsLogged_13 rfl rfl ?_
    refine den_iload (pc := 14) d2_isAsLogged_14 rfl ?_
    refine den_iconst (pc := 16) d2_isAsLogged_16 ?_
    refine den_callVI (pc := 17) (As := [vI x5, vI 0]) fv_2_30 rfl rfl kx2 (Nat.le_of_ble_eq_true rfl) (Nat.le_trans (by decide) hd) d2_isAsLogged_17 (c6_cell l G x2 x5 0 h kx2) (fun r1 h2 m3 o4 => ?_)
    have q5 := ok.mono kx1 m3
    have q6 := ok.mono kx2 m3
    refine den_aload_n (pc := 20) d2_isAsLogged_20 rfl rfl ?_
    refine den_iload (pc := 21) d2_isAsLogged_21 rfl ?_
    refine den_iconst (pc := 23) d2_isAsLogged_23 ?_
    refine den_callVI (pc := 24) (As := [vI x5, vI 1]) fv_2_30 rfl rfl q6 (Nat.le_of_ble_eq_true rfl) (Nat.le_trans (by decide) hd) d2_isAsLogged_24 (c6_cell l G x2 x5 1 h2 q6) (fun r7 h8 m9 o10 => ?_)
    have q11 := ok.mono q5 m9
    have q12 := ok.mono q6 m9
    refine den_iload_n (pc := 27) d2_isAsLogged_27 rfl rfl ?_
    refine den_callVI (pc := 28) (As := [vI r1, vI r7, vI x3]) fv_2_47 rfl rfl q11 (Nat.le_of_ble_eq_true rfl) (Nat.le_trans (by decide) hd) d2_isAsLogged_28 (c9_gap l G x1 r1 r7 x3 h8 q11) (fun r13 h14 m15 o16 => ?_)
    have q17 := ok.mono q11 m15
    have q18 := ok.mono q12 m15
    refine den_istore (pc := 31) (L2 := [some (vA G 66), some (vA G x1), some (vA G x2), some (vI x3), some (vI x4), some (vI x5), some (vI r13)]) d2_isAsLogged_31 (by decide) rfl ?_
    refine den_iconst (pc := 33) d2_isAsLogged_33 ?_
    refine den_iload (pc := 34) d2_isAsLogged_34 rfl ?_
    refine den_max (pc := 36) fm_2_51 (Nat.le_of_ble_eq_true rfl) (Nat.le_trans (by decide) hd) d2_isAsLogged_36 ?_
    refine den_aload_n (pc := 39) d2_isAsLogged_39 rfl rfl ?_
    refine den_iload_n (pc := 40) d2_isAsLogged_40 rfl rfl ?_
    refine den_iload (pc := 41) d2_isAsLogged_41 rfl ?_
    refine den_iload (pc := 43) d2_isAsLogged_43 rfl ?_
    refine den_iadd (pc := 45) d2_isAsLogged_45 ?_
    refine den_callVI (pc := 46) (As := [vI x3, vI (x4 + x5)]) fv_2_56 rfl rfl q17 (Nat.le_of_ble_eq_true rfl) (Nat.le_trans (by decide) hd) d2_isAsLogged_46 (c9_heatAfter l G x1 x3 (x4 + x5) h14 q17) (fun r19 h20 m21 o22 => ?_)
    have q23 := ok.mono q17 m21
    have q24 := ok.mono q18 m21
    refine den_imul (pc := 49) d2_isAsLogged_49 ?_
    refine den_aload_n (pc := 50) d2_isAsLogged_50 rfl rfl ?_
    refine den_iload (pc := 51) d2_isAsLogged_51 rfl ?_
    refine den_iconst (pc := 53) d2_isAsLogged_53 ?_
    refine den_callVI (pc := 54) (As := [vI x5, vI 2]) fv_2_30 rfl rfl q24 (Nat.le_of_ble_eq_true rfl) (Nat.le_trans (by decide) hd) d2_isAsLogged_54 (c6_cell l G x2 x5 2 h20 q24) (fun r25 h26 m27 o28 => ?_)
    have q29 := ok.mono q23 m27
    have q30 := ok.mono q24 m27
    refine den_icmp_eq (pc := 57) (tgt := 62) d2_isAsLogged_57 (by decide) rfl rfl (fun _ => ?_) (fun _ => ?_)
    · refine den_iinc (pc := 62) (L2 := [some (vA G 66), some (vA G x1), some (vA G x2), some (vI x3), some (vI x4), some (vI (x5 + 1)), some (vI r13)]) d2_isAsLogged_62 (by decide) rfl rfl ?_
      refine den_goto (pc := 65) (tgt := 3) d2_isAsLogged_65 (by decide) ?_
      refine den_wk [true, true, true, true, true, true, false] rfl ?_
      exact H3 (x5 + 1) h26 q29 q30
    · refine den_iconst (pc := 60) d2_isAsLogged_60 ?_
      exact den_zret (pc := 61) rfl (by decide) d2_isAsLogged_61
def l2_isAsLogged_3 (x1 : Nat) (x2 : Nat) (x3 : Int) (x4 : Int) (x5 : Int) (h : AH) : Option (Int × AH) := fx (fun rec z => b2_isAsLogged_3 rec x1 x2 x3 x4 z.1 z.2) FU (x5, h)
set_option maxRecDepth 100000 in
theorem tl2_isAsLogged_3 (l : Launch) (G : Geo) (d : Nat) (hd : 4 ≤ d) (x1 : Nat) (x2 : Nat) (x3 : Int) (x4 : Int) : ∀ (n : Nat) (z : Int × AH), ok z.2.1 x1 9 ∧ ok z.2.1 x2 6 → Den l G m2_isAsLogged rvI d 3 [some (vA G 66), some (vA G x1), some (vA G x2), some (vI x3), some (vI x4), some (vI z.1), none] [] z.2 (fx (fun rec z => b2_isAsLogged_3 rec x1 x2 x3 x4 z.1 z.2) n z) :=
  den_fx (F := fun rec z => b2_isAsLogged_3 rec x1 x2 x3 x4 z.1 z.2) (P := fun z => ok z.2.1 x1 9 ∧ ok z.2.1 x2 6) (fL := fun z => [some (vA G 66), some (vA G x1), some (vA G x2), some (vI x3), some (vI x4), some (vI z.1), none]) (fs := fun z => []) (fh := fun z => z.2) (fun rec hrec z hz => t2_isAsLogged_3 l G d hd x1 x2 x3 x4 z.1 rec (fun x5 h w0 w1 => hrec (x5, h) ⟨w0, w1⟩) z.2 hz.1 hz.2)
def f2_isAsLogged (x1 : Nat) (x2 : Nat) (x3 : Int) (x4 : Int) (h : AH) : Option (Int × AH) :=
  l2_isAsLogged_3 x1 x2 x3 x4 0 h
set_option maxRecDepth 100000 in
theorem c2_isAsLogged (l : Launch) (G : Geo) (x1 : Nat) (x2 : Nat) (x3 : Int) (x4 : Int) (h : AH) (kx1 : ok h.1 x1 9) (kx2 : ok h.1 x2 6) : Con l G m2_isAsLogged rvI 4 [vA G 66, vA G x1, vA G x2, vI x3, vI x4] h (f2_isAsLogged x1 x2 x3 x4 h) := by
  have hd : 4 ≤ 4 := Nat.le_refl _
  refine con_Z rfl (by decide) rfl rfl (Nat.le_of_ble_eq_true rfl) (L := [some (vA G 66), some (vA G x1), some (vA G x2), some (vI x3), some (vI x4), none, none]) ?_
  unfold f2_isAsLogged
  refine den_iconst (pc := 0) d2_isAsLogged_0 ?_
  refine den_istore (pc := 1) (L2 := [some (vA G 66), some (vA G x1), some (vA G x2), some (vI x3), some (vI x4), some (vI 0), none]) d2_isAsLogged_1 (by decide) rfl ?_
  exact tl2_isAsLogged_3 l G _ hd x1 x2 x3 x4 FU (0, h) ⟨kx1, kx2⟩
theorem d9_hasPerson_0 : decode m9_hasPerson.2.1 0 = .ok (.iload_n 1, 1) := by decide +kernel
theorem d9_hasPerson_1 : decode m9_hasPerson.2.1 1 = .ok (.ifCond .lt 15, 3) := by decide +kernel
theorem d9_hasPerson_4 : decode m9_hasPerson.2.1 4 = .ok (.iload_n 1, 1) := by decide +kernel
theorem d9_hasPerson_5 : decode m9_hasPerson.2.1 5 = .ok (.aload_n 0, 1) := by decide +kernel
theorem d9_hasPerson_6 : decode m9_hasPerson.2.1 6 = .ok (.getfield 31, 3) := by decide +kernel
theorem d9_hasPerson_9 : decode m9_hasPerson.2.1 9 = .ok (.if_icmp .ge 7, 3) := by decide +kernel
theorem d9_hasPerson_12 : decode m9_hasPerson.2.1 12 = .ok (.iconst 1, 1) := by decide +kernel
theorem d9_hasPerson_13 : decode m9_hasPerson.2.1 13 = .ok (.goto 4, 3) := by decide +kernel
theorem d9_hasPerson_16 : decode m9_hasPerson.2.1 16 = .ok (.iconst 0, 1) := by decide +kernel
theorem d9_hasPerson_17 : decode m9_hasPerson.2.1 17 = .ok (.ireturn, 1) := by decide +kernel
def f9_hasPerson (x0 : Nat) (x1 : Int) (h : AH) : Option (Int × AH) :=
  if w32 x1 < 0 then
    some (0, h)
  else
    if w32 (h.2 x0 0) ≤ w32 x1 then
      some (0, h)
    else
      some (1, h)
set_option maxRecDepth 100000 in
theorem c9_hasPerson (l : Launch) (G : Geo) (x0 : Nat) (x1 : Int) (h : AH) (kx0 : ok h.1 x0 9) : Con l G m9_hasPerson rvI 2 [vA G x0, vI x1] h (f9_hasPerson x0 x1 h) := by
  have hd : 2 ≤ 2 := Nat.le_refl _
  refine con_Z rfl (by decide) rfl rfl (Nat.le_of_ble_eq_true rfl) (L := [some (vA G x0), some (vI x1)]) ?_
  unfold f9_hasPerson
  refine den_iload_n (pc := 0) d9_hasPerson_0 rfl rfl ?_
  refine den_if_lt (pc := 1) (tgt := 16) d9_hasPerson_1 (by decide) rfl (fun _ => ?_) (fun _ => ?_)
  · refine den_iconst (pc := 16) d9_hasPerson_16 ?_
    exact den_zret (pc := 17) rfl (by decide) d9_hasPerson_17
  · refine den_iload_n (pc := 4) d9_hasPerson_4 rfl rfl ?_
    refine den_aload_n (pc := 5) d9_hasPerson_5 rfl rfl ?_
    refine den_getI (pc := 6) fa_9_31 kx0 d9_hasPerson_6 ?_
    refine den_icmp_ge (pc := 9) (tgt := 16) d9_hasPerson_9 (by decide) rfl rfl (fun _ => ?_) (fun _ => ?_)
    · refine den_iconst (pc := 16) d9_hasPerson_16 ?_
      exact den_zret (pc := 17) rfl (by decide) d9_hasPerson_17
    · refine den_iconst (pc := 12) d9_hasPerson_12 ?_
      refine den_goto (pc := 13) (tgt := 17) d9_hasPerson_13 (by decide) ?_
      exact den_zret (pc := 17) rfl (by decide) d9_hasPerson_17
theorem d2_gather_0 : decode m2_gather.2.1 0 = .ok (.aload_n 0, 1) := by decide +kernel
theorem d2_gather_1 : decode m2_gather.2.1 1 = .ok (.iconst 0, 1) := by decide +kernel
theorem d2_gather_2 : decode m2_gather.2.1 2 = .ok (.putfield 18, 3) := by decide +kernel
theorem d2_gather_5 : decode m2_gather.2.1 5 = .ok (.aload_n 0, 1) := by decide +kernel
theorem d2_gather_6 : decode m2_gather.2.1 6 = .ok (.aload_n 2, 1) := by decide +kernel
theorem d2_gather_7 : decode m2_gather.2.1 7 = .ok (.getfield 22, 3) := by decide +kernel
theorem d2_gather_10 : decode m2_gather.2.1 10 = .ok (.putfield 27, 3) := by decide +kernel
theorem d2_gather_13 : decode m2_gather.2.1 13 = .ok (.iconst 0, 1) := by decide +kernel
theorem d2_gather_14 : decode m2_gather.2.1 14 = .ok (.istore_n 3, 1) := by decide +kernel
theorem d2_gather_15 : decode m2_gather.2.1 15 = .ok (.iload_n 3, 1) := by decide +kernel
theorem d2_gather_16 : decode m2_gather.2.1 16 = .ok (.aload_n 0, 1) := by decide +kernel
theorem d2_gather_17 : decode m2_gather.2.1 17 = .ok (.getfield 27, 3) := by decide +kernel
theorem d2_gather_20 : decode m2_gather.2.1 20 = .ok (.if_icmp .ge 37, 3) := by decide +kernel
theorem d2_gather_23 : decode m2_gather.2.1 23 = .ok (.aload_n 1, 1) := by decide +kernel
theorem d2_gather_24 : decode m2_gather.2.1 24 = .ok (.aload_n 2, 1) := by decide +kernel
theorem d2_gather_25 : decode m2_gather.2.1 25 = .ok (.iload_n 3, 1) := by decide +kernel
theorem d2_gather_26 : decode m2_gather.2.1 26 = .ok (.iconst 0, 1) := by decide +kernel
theorem d2_gather_27 : decode m2_gather.2.1 27 = .ok (.invokevirtual 30, 3) := by decide +kernel
theorem d2_gather_30 : decode m2_gather.2.1 30 = .ok (.invokevirtual 34, 3) := by decide +kernel
theorem d2_gather_33 : decode m2_gather.2.1 33 = .ok (.ifCond .eq 16, 3) := by decide +kernel
theorem d2_gather_36 : decode m2_gather.2.1 36 = .ok (.aload_n 1, 1) := by decide +kernel
theorem d2_gather_37 : decode m2_gather.2.1 37 = .ok (.aload_n 2, 1) := by decide +kernel
theorem d2_gather_38 : decode m2_gather.2.1 38 = .ok (.iload_n 3, 1) := by decide +kernel
theorem d2_gather_39 : decode m2_gather.2.1 39 = .ok (.iconst 1, 1) := by decide +kernel
theorem d2_gather_40 : decode m2_gather.2.1 40 = .ok (.invokevirtual 30, 3) := by decide +kernel
theorem d2_gather_43 : decode m2_gather.2.1 43 = .ok (.invokevirtual 34, 3) := by decide +kernel
theorem d2_gather_46 : decode m2_gather.2.1 46 = .ok (.ifCond .ne 5, 3) := by decide +kernel
theorem d2_gather_49 : decode m2_gather.2.1 49 = .ok (.iconst 0, 1) := by decide +kernel
theorem d2_gather_50 : decode m2_gather.2.1 50 = .ok (.ireturn, 1) := by decide +kernel
theorem d2_gather_51 : decode m2_gather.2.1 51 = .ok (.iinc 3 1, 3) := by decide +kernel
theorem d2_gather_54 : decode m2_gather.2.1 54 = .ok (.goto (-39), 3) := by decide +kernel
theorem d2_gather_57 : decode m2_gather.2.1 57 = .ok (.iconst 0, 1) := by decide +kernel
theorem d2_gather_58 : decode m2_gather.2.1 58 = .ok (.istore_n 3, 1) := by decide +kernel
theorem d2_gather_59 : decode m2_gather.2.1 59 = .ok (.iload_n 3, 1) := by decide +kernel
theorem d2_gather_60 : decode m2_gather.2.1 60 = .ok (.aload_n 1, 1) := by decide +kernel
theorem d2_gather_61 : decode m2_gather.2.1 61 = .ok (.getfield 40, 3) := by decide +kernel
theorem d2_gather_64 : decode m2_gather.2.1 64 = .ok (.if_icmp .ge 75, 3) := by decide +kernel
theorem d2_gather_67 : decode m2_gather.2.1 67 = .ok (.iconst 0, 1) := by decide +kernel
theorem d2_gather_68 : decode m2_gather.2.1 68 = .ok (.istore 4, 2) := by decide +kernel
theorem d2_gather_70 : decode m2_gather.2.1 70 = .ok (.iload 4, 2) := by decide +kernel
theorem d2_gather_72 : decode m2_gather.2.1 72 = .ok (.bipush 9, 2) := by decide +kernel
theorem d2_gather_74 : decode m2_gather.2.1 74 = .ok (.if_icmp .gt 59, 3) := by decide +kernel
theorem d2_gather_77 : decode m2_gather.2.1 77 = .ok (.aload_n 0, 1) := by decide +kernel
theorem d2_gather_78 : decode m2_gather.2.1 78 = .ok (.getfield 18, 3) := by decide +kernel
theorem d2_gather_81 : decode m2_gather.2.1 81 = .ok (.aload_n 0, 1) := by decide +kernel
theorem d2_gather_82 : decode m2_gather.2.1 82 = .ok (.getfield 9, 3) := by decide +kernel
theorem d2_gather_85 : decode m2_gather.2.1 85 = .ok (.arraylength, 1) := by decide +kernel
theorem d2_gather_86 : decode m2_gather.2.1 86 = .ok (.if_icmp .ge 41, 3) := by decide +kernel
theorem d2_gather_89 : decode m2_gather.2.1 89 = .ok (.aload_n 0, 1) := by decide +kernel
theorem d2_gather_90 : decode m2_gather.2.1 90 = .ok (.aload_n 1, 1) := by decide +kernel
theorem d2_gather_91 : decode m2_gather.2.1 91 = .ok (.aload_n 2, 1) := by decide +kernel
theorem d2_gather_92 : decode m2_gather.2.1 92 = .ok (.iload_n 3, 1) := by decide +kernel
theorem d2_gather_93 : decode m2_gather.2.1 93 = .ok (.iload 4, 2) := by decide +kernel
theorem d2_gather_95 : decode m2_gather.2.1 95 = .ok (.invokevirtual 43, 3) := by decide +kernel
theorem d2_gather_98 : decode m2_gather.2.1 98 = .ok (.ifCond .eq 29, 3) := by decide +kernel
theorem d2_gather_101 : decode m2_gather.2.1 101 = .ok (.aload_n 0, 1) := by decide +kernel
theorem d2_gather_102 : decode m2_gather.2.1 102 = .ok (.getfield 9, 3) := by decide +kernel
theorem d2_gather_105 : decode m2_gather.2.1 105 = .ok (.aload_n 0, 1) := by decide +kernel
theorem d2_gather_106 : decode m2_gather.2.1 106 = .ok (.getfield 18, 3) := by decide +kernel
theorem d2_gather_109 : decode m2_gather.2.1 109 = .ok (.bipush 10, 2) := by decide +kernel
theorem d2_gather_111 : decode m2_gather.2.1 111 = .ok (.iload_n 3, 1) := by decide +kernel
theorem d2_gather_112 : decode m2_gather.2.1 112 = .ok (.imul, 1) := by decide +kernel
theorem d2_gather_113 : decode m2_gather.2.1 113 = .ok (.iload 4, 2) := by decide +kernel
theorem d2_gather_115 : decode m2_gather.2.1 115 = .ok (.iadd, 1) := by decide +kernel
theorem d2_gather_116 : decode m2_gather.2.1 116 = .ok (.iastore, 1) := by decide +kernel
theorem d2_gather_117 : decode m2_gather.2.1 117 = .ok (.aload_n 0, 1) := by decide +kernel
theorem d2_gather_118 : decode m2_gather.2.1 118 = .ok (.dup, 1) := by decide +kernel
theorem d2_gather_119 : decode m2_gather.2.1 119 = .ok (.getfield 18, 3) := by decide +kernel
theorem d2_gather_122 : decode m2_gather.2.1 122 = .ok (.iconst 1, 1) := by decide +kernel
theorem d2_gather_123 : decode m2_gather.2.1 123 = .ok (.iadd, 1) := by decide +kernel
theorem d2_gather_124 : decode m2_gather.2.1 124 = .ok (.putfield 18, 3) := by decide +kernel
theorem d2_gather_127 : decode m2_gather.2.1 127 = .ok (.iinc 4 1, 3) := by decide +kernel
theorem d2_gather_130 : decode m2_gather.2.1 130 = .ok (.goto (-60), 3) := by decide +kernel
theorem d2_gather_133 : decode m2_gather.2.1 133 = .ok (.iinc 3 1, 3) := by decide +kernel
theorem d2_gather_136 : decode m2_gather.2.1 136 = .ok (.goto (-77), 3) := by decide +kernel
theorem d2_gather_139 : decode m2_gather.2.1 139 = .ok (.iconst 1, 1) := by decide +kernel
theorem d2_gather_140 : decode m2_gather.2.1 140 = .ok (.ireturn, 1) := by decide +kernel
def b2_gather_127 (rec59 : Int × AH → Option (Int × AH)) (rec70 : Int × AH → Option (Int × AH)) (x1 : Nat) (x2 : Nat) (x3 : Int) (x4 : Int) (h : AH) : Option (Int × AH) :=
  rec70 ((x4 + 1), h)
set_option maxRecDepth 100000 in
theorem t2_gather_127 (l : Launch) (G : Geo) (d : Nat) (hd : 5 ≤ d) (x1 : Nat) (x2 : Nat) (x3 : Int) (x4 : Int) (rec59 : Int × AH → Option (Int × AH)) (H59 : ∀ (x3 : Int) (h : AH), ok h.1 x1 9 → ok h.1 x2 6 → Den l G m2_gather rvI d 59 [some (vA G 66), some (vA G x1), some (vA G x2), some (vI x3), none] [] h (rec59 (x3, h))) (rec70 : Int × AH → Option (Int × AH)) (H70 : ∀ (x4 : Int) (h : AH), ok h.1 x1 9 → ok h.1 x2 6 → Den l G m2_gather rvI d 70 [some (vA G 66), some (vA G x1), some (vA G x2), some (vI x3), some (vI x4)] [] h (rec70 (x4, h))) (h : AH) (kx1 : ok h.1 x1 9) (kx2 : ok h.1 x2 6) : Den l G m2_gather rvI d 127 [some (vA G 66), some (vA G x1), some (vA G x2), some (vI x3), some (vI x4)] [] h (b2_gather_127 rec59 rec70 x1 x2 x3 x4 h) := by
  unfold b2_gather_127
  refine den_iinc (pc := 127) (L2 := [some (vA G 66), some (vA G x1), some (vA G x2), some (vI x3), some (vI (x4 + 1))]) d2_gather_127 (by decide) rfl rfl ?_
  refine den_goto (pc := 130) (tgt := 70) d2_gather_130 (by decide) ?_
  exact H70 (x4 + 1) h kx1 kx2
def b2_gather_70 (rec70 : Int × AH → Option (Int × AH)) (rec59 : Int × AH → Option (Int × AH)) (x1 : Nat) (x2 : Nat) (x3 : Int) (x4 : Int) (h : AH) : Option (Int × AH) :=
  if 9 < w32 x4 then
    rec59 ((x3 + 1), h)
  else
    if 60 ≤ w32 (h.2 66 2) then
      b2_gather_127 rec59 rec70 x1 x2 x3 x4 h
    else
      bnd (f2_isAsLogged x1 x2 x3 x4 h) fun r1 h2 =>
      if w32 r1 = 0 then
        b2_gather_127 rec59 rec70 x1 x2 x3 x4 h2
      else
        asrt (0 ≤ w32 (h2.2 66 2) ∧ w32 (h2.2 66 2) < 60) <|
        lt (wr h2 67 (w32 (h2.2 66 2)).toNat ((10 * x3) + x4)) fun h8 =>
        lt (wr h8 66 2 ((h8.2 66 2) + 1)) fun h12 =>
        b2_gather_127 rec59 rec70 x1 x2 x3 x4 h12
set_option maxRecDepth 100000 in
theorem t2_gather_70 (l : Launch) (G : Geo) (d : Nat) (hd : 5 ≤ d) (x1 : Nat) (x2 : Nat) (x3 : Int) (x4 : Int) (rec70 : Int × AH → Option (Int × AH)) (H70 : ∀ (x4 : Int) (h : AH), ok h.1 x1 9 → ok h.1 x2 6 → Den l G m2_gather rvI d 70 [some (vA G 66), some (vA G x1), some (vA G x2), some (vI x3), some (vI x4)] [] h (rec70 (x4, h))) (rec59 : Int × AH → Option (Int × AH)) (H59 : ∀ (x3 : Int) (h : AH), ok h.1 x1 9 → ok h.1 x2 6 → Den l G m2_gather rvI d 59 [some (vA G 66), some (vA G x1), some (vA G x2), some (vI x3), none] [] h (rec59 (x3, h))) (h : AH) (kx1 : ok h.1 x1 9) (kx2 : ok h.1 x2 6) : Den l G m2_gather rvI d 70 [some (vA G 66), some (vA G x1), some (vA G x2), some (vI x3), some (vI x4)] [] h (b2_gather_70 rec70 rec59 x1 x2 x3 x4 h) := by
  unfold b2_gather_70
  refine den_iload (pc := 70) d2_gather_70 rfl ?_
  refine den_bipush (pc := 72) d2_gather_72 (by decide) ?_
  refine den_icmp_gt (pc := 74) (tgt := 133) d2_gather_74 (by decide) rfl (by decide) (fun _ => ?_) (fun _ => ?_)
  · refine den_iinc (pc := 133) (L2 := [some (vA G 66), some (vA G x1), some (vA G x2), some (vI (x3 + 1)), some (vI x4)]) d2_gather_133 (by decide) rfl rfl ?_
    refine den_goto (pc := 136) (tgt := 59) d2_gather_136 (by decide) ?_
    refine den_wk [true, true, true, true, false] rfl ?_
    exact H59 (x3 + 1) h kx1 kx2
  · refine den_aload_n (pc := 77) d2_gather_77 rfl rfl ?_
    refine den_getI (pc := 78) fa_2_18 (ok_66 _) d2_gather_78 ?_
    refine den_aload_n (pc := 81) d2_gather_81 rfl rfl ?_
    refine den_getR (pc := 82) (b := 67) fa_2_9 (ok_66 _) rfl d2_gather_82 ?_
    refine den_alen0 (pc := 85) sh_67 (sz_lt (by decide)) rfl d2_gather_85 ?_
    refine den_icmp_ge (pc := 86) (tgt := 127) d2_gather_86 (by decide) rfl (by decide) (fun _ => ?_) (fun _ => ?_)
    · exact t2_gather_127 l G _ hd x1 x2 x3 x4 rec59 H59 rec70 H70 h kx1 kx2
    · refine den_aload_n (pc := 89) d2_gather_89 rfl rfl ?_
      refine den_aload_n (pc := 90) d2_gather_90 rfl rfl ?_
      refine den_aload_n (pc := 91) d2_gather_91 rfl rfl ?_
      refine den_iload_n (pc := 92) d2_gather_92 rfl rfl ?_
      refine den_iload (pc := 93) d2_gather_93 rfl ?_
      refine den_callVI (pc := 95) (As := [vA G x1, vA G x2, vI x3, vI x4]) fv_2_43 rfl rfl (ok_66 _) (Nat.le_of_ble_eq_true rfl) (Nat.le_trans (by decide) hd) d2_gather_95 (c2_isAsLogged l G x1 x2 x3 x4 h kx1 kx2) (fun r1 h2 m3 o4 => ?_)
      have q5 := ok.mono kx1 m3
      have q6 := ok.mono kx2 m3
      refine den_if_eq (pc := 98) (tgt := 127) d2_gather_98 (by decide) rfl (fun _ => ?_) (fun _ => ?_)
      · exact t2_gather_127 l G _ hd x1 x2 x3 x4 rec59 H59 rec70 H70 h2 q5 q6
      · refine den_aload_n (pc := 101) d2_gather_101 rfl rfl ?_
        refine den_getR (pc := 102) (b := 67) fa_2_9 (ok_66 _) rfl d2_gather_102 ?_
        refine den_aload_n (pc := 105) d2_gather_105 rfl rfl ?_
        refine den_getI (pc := 106) fa_2_18 (ok_66 _) d2_gather_106 ?_
        refine den_bipush (pc := 109) d2_gather_109 (by decide) ?_
        refine den_iload_n (pc := 111) d2_gather_111 rfl rfl ?_
        refine den_imul (pc := 112) d2_gather_112 ?_
        refine den_iload (pc := 113) d2_gather_113 rfl ?_
        refine den_iadd (pc := 115) d2_gather_115 ?_
        refine den_asrt (fun a7 => ?_)
        refine den_iastore (pc := 116) sh_67 (sz_lt (by decide)) rfl a7 d2_gather_116 ?_
        refine den_ltH (fun h8 m9 => ?_)
        have q10 := ok.mono q5 m9
        have q11 := ok.mono q6 m9
        refine den_aload_n (pc := 117) d2_gather_117 rfl rfl ?_
        refine den_dup (pc := 118) d2_gather_118 rfl ?_
        refine den_getI (pc := 119) fa_2_18 (ok_66 _) d2_gather_119 ?_
        refine den_iconst (pc := 122) d2_gather_122 ?_
        refine den_iadd (pc := 123) d2_gather_123 ?_
        refine den_putI (pc := 124) fp_2_18 (ok_66 _) d2_gather_124 ?_
        refine den_ltH (fun h12 m13 => ?_)
        have q14 := ok.mono q10 m13
        have q15 := ok.mono q11 m13
        exact t2_gather_127 l G _ hd x1 x2 x3 x4 rec59 H59 rec70 H70 h12 q14 q15
def l2_gather_70 (rec59 : Int × AH → Option (Int × AH)) (x1 : Nat) (x2 : Nat) (x3 : Int) (x4 : Int) (h : AH) : Option (Int × AH) := fx (fun rec z => b2_gather_70 rec rec59 x1 x2 x3 z.1 z.2) FU (x4, h)
set_option maxRecDepth 100000 in
theorem tl2_gather_70 (l : Launch) (G : Geo) (d : Nat) (hd : 5 ≤ d) (x1 : Nat) (x2 : Nat) (x3 : Int) (rec59 : Int × AH → Option (Int × AH)) (H59 : ∀ (x3 : Int) (h : AH), ok h.1 x1 9 → ok h.1 x2 6 → Den l G m2_gather rvI d 59 [some (vA G 66), some (vA G x1), some (vA G x2), some (vI x3), none] [] h (rec59 (x3, h))) : ∀ (n : Nat) (z : Int × AH), ok z.2.1 x1 9 ∧ ok z.2.1 x2 6 → Den l G m2_gather rvI d 70 [some (vA G 66), some (vA G x1), some (vA G x2), some (vI x3), some (vI z.1)] [] z.2 (fx (fun rec z => b2_gather_70 rec rec59 x1 x2 x3 z.1 z.2) n z) :=
  den_fx (F := fun rec z => b2_gather_70 rec rec59 x1 x2 x3 z.1 z.2) (P := fun z => ok z.2.1 x1 9 ∧ ok z.2.1 x2 6) (fL := fun z => [some (vA G 66), some (vA G x1), some (vA G x2), some (vI x3), some (vI z.1)]) (fs := fun z => []) (fh := fun z => z.2) (fun rec hrec z hz => t2_gather_70 l G d hd x1 x2 x3 z.1 rec (fun x4 h w0 w1 => hrec (x4, h) ⟨w0, w1⟩) rec59 H59 z.2 hz.1 hz.2)
def b2_gather_59 (rec59 : Int × AH → Option (Int × AH)) (x1 : Nat) (x2 : Nat) (x3 : Int) (h : AH) : Option (Int × AH) :=
  if w32 (h.2 x1 1) ≤ w32 x3 then
    some (1, h)
  else
    l2_gather_70 rec59 x1 x2 x3 0 h
set_option maxRecDepth 100000 in
theorem t2_gather_59 (l : Launch) (G : Geo) (d : Nat) (hd : 5 ≤ d) (x1 : Nat) (x2 : Nat) (x3 : Int) (rec59 : Int × AH → Option (Int × AH)) (H59 : ∀ (x3 : Int) (h : AH), ok h.1 x1 9 → ok h.1 x2 6 → Den l G m2_gather rvI d 59 [some (vA G 66), some (vA G x1), some (vA G x2), some (vI x3), none] [] h (rec59 (x3, h))) (h : AH) (kx1 : ok h.1 x1 9) (kx2 : ok h.1 x2 6) : Den l G m2_gather rvI d 59 [some (vA G 66), some (vA G x1), some (vA G x2), some (vI x3), none] [] h (b2_gather_59 rec59 x1 x2 x3 h) := by
  unfold b2_gather_59
  refine den_iload_n (pc := 59) d2_gather_59 rfl rfl ?_
  refine den_aload_n (pc := 60) d2_gather_60 rfl rfl ?_
  refine den_getI (pc := 61) fa_2_40 kx1 d2_gather_61 ?_
  refine den_icmp_ge (pc := 64) (tgt := 139) d2_gather_64 (by decide) rfl rfl (fun _ => ?_) (fun _ => ?_)
  · refine den_iconst (pc := 139) d2_gather_139 ?_
    exact den_zret (pc := 140) rfl (by decide) d2_gather_140
  · refine den_iconst (pc := 67) d2_gather_67 ?_
    refine den_istore (pc := 68) (L2 := [some (vA G 66), some (vA G x1), some (vA G x2), some (vI x3), some (vI 0)]) d2_gather_68 (by decide) rfl ?_
    exact tl2_gather_70 l G _ hd x1 x2 x3 rec59 H59 FU (0, h) ⟨kx1, kx2⟩
def l2_gather_59 (x1 : Nat) (x2 : Nat) (x3 : Int) (h : AH) : Option (Int × AH) := fx (fun rec z => b2_gather_59 rec x1 x2 z.1 z.2) FU (x3, h)
set_option maxRecDepth 100000 in
theorem tl2_gather_59 (l : Launch) (G : Geo) (d : Nat) (hd : 5 ≤ d) (x1 : Nat) (x2 : Nat) : ∀ (n : Nat) (z : Int × AH), ok z.2.1 x1 9 ∧ ok z.2.1 x2 6 → Den l G m2_gather rvI d 59 [some (vA G 66), some (vA G x1), some (vA G x2), some (vI z.1), none] [] z.2 (fx (fun rec z => b2_gather_59 rec x1 x2 z.1 z.2) n z) :=
  den_fx (F := fun rec z => b2_gather_59 rec x1 x2 z.1 z.2) (P := fun z => ok z.2.1 x1 9 ∧ ok z.2.1 x2 6) (fL := fun z => [some (vA G 66), some (vA G x1), some (vA G x2), some (vI z.1), none]) (fs := fun z => []) (fh := fun z => z.2) (fun rec hrec z hz => t2_gather_59 l G d hd x1 x2 z.1 rec (fun x3 h w0 w1 => hrec (x3, h) ⟨w0, w1⟩) z.2 hz.1 hz.2)
def b2_gather_15 (rec15 : Int × AH → Option (Int × AH)) (x1 : Nat) (x2 : Nat) (x3 : Int) (h : AH) : Option (Int × AH) :=
  if w32 (h.2 66 3) ≤ w32 x3 then
    l2_gather_59 x1 x2 0 h
  else
    bnd (f6_cell x2 x3 0 h) fun r16 h17 =>
    bnd (f9_hasPerson x1 r16 h17) fun r22 h23 =>
    if w32 r22 = 0 then
      some (0, h23)
    else
      bnd (f6_cell x2 x3 1 h23) fun r28 h29 =>
      bnd (f9_hasPerson x1 r28 h29) fun r34 h35 =>
      if ¬ w32 r34 = 0 then
        rec15 ((x3 + 1), h35)
      else
        some (0, h35)
set_option maxRecDepth 100000 in
theorem t2_gather_15 (l : Launch) (G : Geo) (d : Nat) (hd : 5 ≤ d) (x1 : Nat) (x2 : Nat) (x3 : Int) (rec15 : Int × AH → Option (Int × AH)) (H15 : ∀ (x3 : Int) (h : AH), ok h.1 x1 9 → ok h.1 x2 6 → Den l G m2_gather rvI d 15 [some (vA G 66), some (vA G x1), some (vA G x2), some (vI x3), none] [] h (rec15 (x3, h))) (h : AH) (kx1 : ok h.1 x1 9) (kx2 : ok h.1 x2 6) : Den l G m2_gather rvI d 15 [some (vA G 66), some (vA G x1), some (vA G x2), some (vI x3), none] [] h (b2_gather_15 rec15 x1 x2 x3 h) := by
  unfold b2_gather_15
  refine den_iload_n (pc := 15) d2_gather_15 rfl rfl ?_
  refine den_aload_n (pc := 16) d2_gather_16 rfl rfl ?_
  refine den_getI (pc := 17) fa_2_27 (ok_66 _) d2_gather_17 ?_
  refine den_icmp_ge (pc := 20) (tgt := 57) d2_gather_20 (by decide) rfl rfl (fun _ => ?_) (fun _ => ?_)
  · refine den_iconst (pc := 57) d2_gather_57 ?_
    refine den_istore_n (pc := 58) (L2 := [some (vA G 66), some (vA G x1), some (vA G x2), some (vI 0), none]) d2_gather_58 rfl (by decide) rfl ?_
    exact tl2_gather_59 l G _ hd x1 x2 FU (0, h) ⟨kx1, kx2⟩
  · refine den_aload_n (pc := 23) d2_gather_23 rfl rfl ?_
    refine den_aload_n (pc := 24) d2_gather_24 rfl rfl ?_
    refine den_iload_n (pc := 25) d2_gather_25 rfl rfl ?_
    refine den_iconst (pc := 26) d2_gather_26 ?_
    refine den_callVI (pc := 27) (As := [vI x3, vI 0]) fv_2_30 rfl rfl kx2 (Nat.le_of_ble_eq_true rfl) (Nat.le_trans (by decide) hd) d2_gather_27 (c6_cell l G x2 x3 0 h kx2) (fun r16 h17 m18 o19 => ?_)
    have q20 := ok.mono kx1 m18
    have q21 := ok.mono kx2 m18
    refine den_callVI (pc := 30) (As := [vI r16]) fv_2_34 rfl rfl q20 (Nat.le_of_ble_eq_true rfl) (Nat.le_trans (by decide) hd) d2_gather_30 (c9_hasPerson l G x1 r16 h17 q20) (fun r22 h23 m24 o25 => ?_)
    have q26 := ok.mono q20 m24
    have q27 := ok.mono q21 m24
    refine den_if_eq (pc := 33) (tgt := 49) d2_gather_33 (by decide) rfl (fun _ => ?_) (fun _ => ?_)
    · refine den_iconst (pc := 49) d2_gather_49 ?_
      exact den_zret (pc := 50) rfl (by decide) d2_gather_50
    · refine den_aload_n (pc := 36) d2_gather_36 rfl rfl ?_
      refine den_aload_n (pc := 37) d2_gather_37 rfl rfl ?_
      refine den_iload_n (pc := 38) d2_gather_38 rfl rfl ?_
      refine den_iconst (pc := 39) d2_gather_39 ?_
      refine den_callVI (pc := 40) (As := [vI x3, vI 1]) fv_2_30 rfl rfl q27 (Nat.le_of_ble_eq_true rfl) (Nat.le_trans (by decide) hd) d2_gather_40 (c6_cell l G x2 x3 1 h23 q27) (fun r28 h29 m30 o31 => ?_)
      have q32 := ok.mono q26 m30
      have q33 := ok.mono q27 m30
      refine den_callVI (pc := 43) (As := [vI r28]) fv_2_34 rfl rfl q32 (Nat.le_of_ble_eq_true rfl) (Nat.le_trans (by decide) hd) d2_gather_43 (c9_hasPerson l G x1 r28 h29 q32) (fun r34 h35 m36 o37 => ?_)
      have q38 := ok.mono q32 m36
      have q39 := ok.mono q33 m36
      refine den_if_ne (pc := 46) (tgt := 51) d2_gather_46 (by decide) rfl (fun _ => ?_) (fun _ => ?_)
      · refine den_iinc (pc := 51) (L2 := [some (vA G 66), some (vA G x1), some (vA G x2), some (vI (x3 + 1)), none]) d2_gather_51 (by decide) rfl rfl ?_
        refine den_goto (pc := 54) (tgt := 15) d2_gather_54 (by decide) ?_
        exact H15 (x3 + 1) h35 q38 q39
      · refine den_iconst (pc := 49) d2_gather_49 ?_
        exact den_zret (pc := 50) rfl (by decide) d2_gather_50
def l2_gather_15 (x1 : Nat) (x2 : Nat) (x3 : Int) (h : AH) : Option (Int × AH) := fx (fun rec z => b2_gather_15 rec x1 x2 z.1 z.2) FU (x3, h)
set_option maxRecDepth 100000 in
theorem tl2_gather_15 (l : Launch) (G : Geo) (d : Nat) (hd : 5 ≤ d) (x1 : Nat) (x2 : Nat) : ∀ (n : Nat) (z : Int × AH), ok z.2.1 x1 9 ∧ ok z.2.1 x2 6 → Den l G m2_gather rvI d 15 [some (vA G 66), some (vA G x1), some (vA G x2), some (vI z.1), none] [] z.2 (fx (fun rec z => b2_gather_15 rec x1 x2 z.1 z.2) n z) :=
  den_fx (F := fun rec z => b2_gather_15 rec x1 x2 z.1 z.2) (P := fun z => ok z.2.1 x1 9 ∧ ok z.2.1 x2 6) (fL := fun z => [some (vA G 66), some (vA G x1), some (vA G x2), some (vI z.1), none]) (fs := fun z => []) (fh := fun z => z.2) (fun rec hrec z hz => t2_gather_15 l G d hd x1 x2 z.1 rec (fun x3 h w0 w1 => hrec (x3, h) ⟨w0, w1⟩) z.2 hz.1 hz.2)
def f2_gather (x1 : Nat) (x2 : Nat) (h : AH) : Option (Int × AH) :=
  lt (wr h 66 2 0) fun h40 =>
  lt (wr h40 66 3 (h40.2 x2 3)) fun h44 =>
  l2_gather_15 x1 x2 0 h44
set_option maxRecDepth 100000 in
theorem c2_gather (l : Launch) (G : Geo) (x1 : Nat) (x2 : Nat) (h : AH) (kx1 : ok h.1 x1 9) (kx2 : ok h.1 x2 6) : Con l G m2_gather rvI 5 [vA G 66, vA G x1, vA G x2] h (f2_gather x1 x2 h) := by
  have hd : 5 ≤ 5 := Nat.le_refl _
  refine con_Z rfl (by decide) rfl rfl (Nat.le_of_ble_eq_true rfl) (L := [some (vA G 66), some (vA G x1), some (vA G x2), none, none]) ?_
  unfold f2_gather
  refine den_aload_n (pc := 0) d2_gather_0 rfl rfl ?_
  refine den_iconst (pc := 1) d2_gather_1 ?_
  refine den_putI (pc := 2) fp_2_18 (ok_66 _) d2_gather_2 ?_
  refine den_ltH (fun h40 m41 => ?_)
  have q42 := ok.mono kx1 m41
  have q43 := ok.mono kx2 m41
  refine den_aload_n (pc := 5) d2_gather_5 rfl rfl ?_
  refine den_aload_n (pc := 6) d2_gather_6 rfl rfl ?_
  refine den_getI (pc := 7) fa_2_22 q43 d2_gather_7 ?_
  refine den_putI (pc := 10) fp_2_27 (ok_66 _) d2_gather_10 ?_
  refine den_ltH (fun h44 m45 => ?_)
  have q46 := ok.mono q42 m45
  have q47 := ok.mono q43 m45
  refine den_iconst (pc := 13) d2_gather_13 ?_
  refine den_istore_n (pc := 14) (L2 := [some (vA G 66), some (vA G x1), some (vA G x2), some (vI 0), none]) d2_gather_14 rfl (by decide) rfl ?_
  exact tl2_gather_15 l G _ hd x1 x2 FU (0, h44) ⟨q46, q47⟩
theorem d2_burningNext_0 : decode m2_burningNext.2.1 0 = .ok (.aload_n 0, 1) := by decide +kernel
theorem d2_burningNext_1 : decode m2_burningNext.2.1 1 = .ok (.getfield 9, 3) := by decide +kernel
theorem d2_burningNext_4 : decode m2_burningNext.2.1 4 = .ok (.iload_n 2, 1) := by decide +kernel
theorem d2_burningNext_5 : decode m2_burningNext.2.1 5 = .ok (.iaload, 1) := by decide +kernel
theorem d2_burningNext_6 : decode m2_burningNext.2.1 6 = .ok (.bipush 10, 2) := by decide +kernel
theorem d2_burningNext_8 : decode m2_burningNext.2.1 8 = .ok (.idiv, 1) := by decide +kernel
theorem d2_burningNext_9 : decode m2_burningNext.2.1 9 = .ok (.istore 5, 2) := by decide +kernel
theorem d2_burningNext_11 : decode m2_burningNext.2.1 11 = .ok (.aload_n 0, 1) := by decide +kernel
theorem d2_burningNext_12 : decode m2_burningNext.2.1 12 = .ok (.getfield 9, 3) := by decide +kernel
theorem d2_burningNext_15 : decode m2_burningNext.2.1 15 = .ok (.iload_n 2, 1) := by decide +kernel
theorem d2_burningNext_16 : decode m2_burningNext.2.1 16 = .ok (.iaload, 1) := by decide +kernel
theorem d2_burningNext_17 : decode m2_burningNext.2.1 17 = .ok (.bipush 10, 2) := by decide +kernel
theorem d2_burningNext_19 : decode m2_burningNext.2.1 19 = .ok (.irem, 1) := by decide +kernel
theorem d2_burningNext_20 : decode m2_burningNext.2.1 20 = .ok (.aload_n 0, 1) := by decide +kernel
theorem d2_burningNext_21 : decode m2_burningNext.2.1 21 = .ok (.getfield 27, 3) := by decide +kernel
theorem d2_burningNext_24 : decode m2_burningNext.2.1 24 = .ok (.iadd, 1) := by decide +kernel
theorem d2_burningNext_25 : decode m2_burningNext.2.1 25 = .ok (.istore 6, 2) := by decide +kernel
theorem d2_burningNext_27 : decode m2_burningNext.2.1 27 = .ok (.iconst 0, 1) := by decide +kernel
theorem d2_burningNext_28 : decode m2_burningNext.2.1 28 = .ok (.aload_n 1, 1) := by decide +kernel
theorem d2_burningNext_29 : decode m2_burningNext.2.1 29 = .ok (.iload_n 3, 1) := by decide +kernel
theorem d2_burningNext_30 : decode m2_burningNext.2.1 30 = .ok (.iload 4, 2) := by decide +kernel
theorem d2_burningNext_32 : decode m2_burningNext.2.1 32 = .ok (.iload 5, 2) := by decide +kernel
theorem d2_burningNext_34 : decode m2_burningNext.2.1 34 = .ok (.invokevirtual 47, 3) := by decide +kernel
theorem d2_burningNext_37 : decode m2_burningNext.2.1 37 = .ok (.invokestatic 51, 3) := by decide +kernel
theorem d2_burningNext_40 : decode m2_burningNext.2.1 40 = .ok (.aload_n 1, 1) := by decide +kernel
theorem d2_burningNext_41 : decode m2_burningNext.2.1 41 = .ok (.iload 5, 2) := by decide +kernel
theorem d2_burningNext_43 : decode m2_burningNext.2.1 43 = .ok (.iload 6, 2) := by decide +kernel
theorem d2_burningNext_45 : decode m2_burningNext.2.1 45 = .ok (.invokevirtual 56, 3) := by decide +kernel
theorem d2_burningNext_48 : decode m2_burningNext.2.1 48 = .ok (.imul, 1) := by decide +kernel
theorem d2_burningNext_49 : decode m2_burningNext.2.1 49 = .ok (.ireturn, 1) := by decide +kernel
def f2_burningNext (x1 : Nat) (x2 : Int) (x3 : Int) (x4 : Int) (h : AH) : Option (Int × AH) :=
  asrt (0 ≤ w32 x2 ∧ w32 x2 < 60) <|
  lt (dv32 (h.2 67 (w32 x2).toNat) 10) fun u2 =>
  asrt (0 ≤ w32 x2 ∧ w32 x2 < 60) <|
  lt ((rm32 (h.2 67 (w32 x2).toNat) 10) + (h.2 66 3)) fun u4 =>
  bnd (f9_gap x1 x3 x4 u2 h) fun r5 h6 =>
  bnd (f9_heatAfter x1 u2 u4 h6) fun r10 h11 =>
  some ((max32 0 r5) * r10, h11)
set_option maxRecDepth 100000 in
theorem c2_burningNext (l : Launch) (G : Geo) (x1 : Nat) (x2 : Int) (x3 : Int) (x4 : Int) (h : AH) (kx1 : ok h.1 x1 9) : Con l G m2_burningNext rvI 4 [vA G 66, vA G x1, vI x2, vI x3, vI x4] h (f2_burningNext x1 x2 x3 x4 h) := by
  have hd : 4 ≤ 4 := Nat.le_refl _
  refine con_I rfl (by decide) rfl rfl (Nat.le_of_ble_eq_true rfl) (L := [some (vA G 66), some (vA G x1), some (vI x2), some (vI x3), some (vI x4), none, none]) ?_
  unfold f2_burningNext
  refine den_aload_n (pc := 0) d2_burningNext_0 rfl rfl ?_
  refine den_getR (pc := 1) (b := 67) fa_2_9 (ok_66 _) rfl d2_burningNext_1 ?_
  refine den_iload_n (pc := 4) d2_burningNext_4 rfl rfl ?_
  refine den_asrt (fun a1 => ?_)
  refine den_iaload (pc := 5) sh_67 (sz_lt (by decide)) rfl a1 d2_burningNext_5 ?_
  refine den_bipush (pc := 6) d2_burningNext_6 (by decide) ?_
  refine den_idiv (pc := 8) d2_burningNext_8 (by decide) ?_
  refine den_istoreL (pc := 9) (L2 := fun y => [some (vA G 66), some (vA G x1), some (vI x2), some (vI x3), some (vI x4), some (vI y), none]) d2_burningNext_9 (by decide) (fun _ => rfl) (fun u2 => ?_)
  refine den_aload_n (pc := 11) d2_burningNext_11 rfl rfl ?_
  refine den_getR (pc := 12) (b := 67) fa_2_9 (ok_66 _) rfl d2_burningNext_12 ?_
  refine den_iload_n (pc := 15) d2_burningNext_15 rfl rfl ?_
  refine den_asrt (fun a3 => ?_)
  refine den_iaload (pc := 16) sh_67 (sz_lt (by decide)) rfl a3 d2_burningNext_16 ?_
  refine den_bipush (pc := 17) d2_burningNext_17 (by decide) ?_
  refine den_irem (pc := 19) d2_burningNext_19 (by decide) ?_
  refine den_aload_n (pc := 20) d2_burningNext_20 rfl rfl ?_
  refine den_getI (pc := 21) fa_2_27 (ok_66 _) d2_burningNext_21 ?_
  refine den_iadd (pc := 24) d2_burningNext_24 ?_
  refine den_istoreL (pc := 25) (L2 := fun y => [some (vA G 66), some (vA G x1), some (vI x2), some (vI x3), some (vI x4), some (vI u2), some (vI y)]) d2_burningNext_25 (by decide) (fun _ => rfl) (fun u4 => ?_)
  refine den_iconst (pc := 27) d2_burningNext_27 ?_
  refine den_aload_n (pc := 28) d2_burningNext_28 rfl rfl ?_
  refine den_iload_n (pc := 29) d2_burningNext_29 rfl rfl ?_
  refine den_iload (pc := 30) d2_burningNext_30 rfl ?_
  refine den_iload (pc := 32) d2_burningNext_32 rfl ?_
  refine den_callVI (pc := 34) (As := [vI x3, vI x4, vI u2]) fv_2_47 rfl rfl kx1 (Nat.le_of_ble_eq_true rfl) (Nat.le_trans (by decide) hd) d2_burningNext_34 (c9_gap l G x1 x3 x4 u2 h kx1) (fun r5 h6 m7 o8 => ?_)
  have q9 := ok.mono kx1 m7
  refine den_max (pc := 37) fm_2_51 (Nat.le_of_ble_eq_true rfl) (Nat.le_trans (by decide) hd) d2_burningNext_37 ?_
  refine den_aload_n (pc := 40) d2_burningNext_40 rfl rfl ?_
  refine den_iload (pc := 41) d2_burningNext_41 rfl ?_
  refine den_iload (pc := 43) d2_burningNext_43 rfl ?_
  refine den_callVI (pc := 45) (As := [vI u2, vI u4]) fv_2_56 rfl rfl q9 (Nat.le_of_ble_eq_true rfl) (Nat.le_trans (by decide) hd) d2_burningNext_45 (c9_heatAfter l G x1 u2 u4 h6 q9) (fun r10 h11 m12 o13 => ?_)
  have q14 := ok.mono q9 m12
  refine den_imul (pc := 48) d2_burningNext_48 ?_
  exact den_iret (pc := 49) rfl d2_burningNext_49
theorem d2_mostAlike_0 : decode m2_mostAlike.2.1 0 = .ok (.aload_n 0, 1) := by decide +kernel
theorem d2_mostAlike_1 : decode m2_mostAlike.2.1 1 = .ok (.getfield 15, 3) := by decide +kernel
theorem d2_mostAlike_4 : decode m2_mostAlike.2.1 4 = .ok (.iconst 0, 1) := by decide +kernel
theorem d2_mostAlike_5 : decode m2_mostAlike.2.1 5 = .ok (.invokestatic 74, 3) := by decide +kernel
theorem d2_mostAlike_8 : decode m2_mostAlike.2.1 8 = .ok (.iconst 0, 1) := by decide +kernel
theorem d2_mostAlike_9 : decode m2_mostAlike.2.1 9 = .ok (.istore 4, 2) := by decide +kernel
theorem d2_mostAlike_11 : decode m2_mostAlike.2.1 11 = .ok (.iconst 0, 1) := by decide +kernel
theorem d2_mostAlike_12 : decode m2_mostAlike.2.1 12 = .ok (.istore 5, 2) := by decide +kernel
theorem d2_mostAlike_14 : decode m2_mostAlike.2.1 14 = .ok (.iload 5, 2) := by decide +kernel
theorem d2_mostAlike_16 : decode m2_mostAlike.2.1 16 = .ok (.aload_n 0, 1) := by decide +kernel
theorem d2_mostAlike_17 : decode m2_mostAlike.2.1 17 = .ok (.getfield 18, 3) := by decide +kernel
theorem d2_mostAlike_20 : decode m2_mostAlike.2.1 20 = .ok (.if_icmp .ge 50, 3) := by decide +kernel
theorem d2_mostAlike_23 : decode m2_mostAlike.2.1 23 = .ok (.bipush 81, 2) := by decide +kernel
theorem d2_mostAlike_25 : decode m2_mostAlike.2.1 25 = .ok (.aload_n 0, 1) := by decide +kernel
theorem d2_mostAlike_26 : decode m2_mostAlike.2.1 26 = .ok (.aload_n 1, 1) := by decide +kernel
theorem d2_mostAlike_27 : decode m2_mostAlike.2.1 27 = .ok (.iload 5, 2) := by decide +kernel
theorem d2_mostAlike_29 : decode m2_mostAlike.2.1 29 = .ok (.iload_n 2, 1) := by decide +kernel
theorem d2_mostAlike_30 : decode m2_mostAlike.2.1 30 = .ok (.iload_n 3, 1) := by decide +kernel
theorem d2_mostAlike_31 : decode m2_mostAlike.2.1 31 = .ok (.invokevirtual 80, 3) := by decide +kernel
theorem d2_mostAlike_34 : decode m2_mostAlike.2.1 34 = .ok (.invokestatic 84, 3) := by decide +kernel
theorem d2_mostAlike_37 : decode m2_mostAlike.2.1 37 = .ok (.istore 6, 2) := by decide +kernel
theorem d2_mostAlike_39 : decode m2_mostAlike.2.1 39 = .ok (.aload_n 0, 1) := by decide +kernel
theorem d2_mostAlike_40 : decode m2_mostAlike.2.1 40 = .ok (.getfield 15, 3) := by decide +kernel
theorem d2_mostAlike_43 : decode m2_mostAlike.2.1 43 = .ok (.iload 6, 2) := by decide +kernel
theorem d2_mostAlike_45 : decode m2_mostAlike.2.1 45 = .ok (.dup2, 1) := by decide +kernel
theorem d2_mostAlike_46 : decode m2_mostAlike.2.1 46 = .ok (.iaload, 1) := by decide +kernel
theorem d2_mostAlike_47 : decode m2_mostAlike.2.1 47 = .ok (.iconst 1, 1) := by decide +kernel
theorem d2_mostAlike_48 : decode m2_mostAlike.2.1 48 = .ok (.iadd, 1) := by decide +kernel
theorem d2_mostAlike_49 : decode m2_mostAlike.2.1 49 = .ok (.iastore, 1) := by decide +kernel
theorem d2_mostAlike_50 : decode m2_mostAlike.2.1 50 = .ok (.iload 4, 2) := by decide +kernel
theorem d2_mostAlike_52 : decode m2_mostAlike.2.1 52 = .ok (.aload_n 0, 1) := by decide +kernel
theorem d2_mostAlike_53 : decode m2_mostAlike.2.1 53 = .ok (.getfield 15, 3) := by decide +kernel
theorem d2_mostAlike_56 : decode m2_mostAlike.2.1 56 = .ok (.iload 6, 2) := by decide +kernel
theorem d2_mostAlike_58 : decode m2_mostAlike.2.1 58 = .ok (.iaload, 1) := by decide +kernel
theorem d2_mostAlike_59 : decode m2_mostAlike.2.1 59 = .ok (.invokestatic 51, 3) := by decide +kernel
theorem d2_mostAlike_62 : decode m2_mostAlike.2.1 62 = .ok (.istore 4, 2) := by decide +kernel
theorem d2_mostAlike_64 : decode m2_mostAlike.2.1 64 = .ok (.iinc 5 1, 3) := by decide +kernel
theorem d2_mostAlike_67 : decode m2_mostAlike.2.1 67 = .ok (.goto (-53), 3) := by decide +kernel
theorem d2_mostAlike_70 : decode m2_mostAlike.2.1 70 = .ok (.iload 4, 2) := by decide +kernel
theorem d2_mostAlike_72 : decode m2_mostAlike.2.1 72 = .ok (.ireturn, 1) := by decide +kernel
def b2_mostAlike_14 (rec14 : Int × Int × AH → Option (Int × AH)) (x1 : Nat) (x2 : Int) (x3 : Int) (x4 : Int) (x5 : Int) (h : AH) : Option (Int × AH) :=
  if w32 (h.2 66 2) ≤ w32 x5 then
    some (x4, h)
  else
    bnd (f2_burningNext x1 x5 x2 x3 h) fun r1 h2 =>
    lt (min32 81 r1) fun u6 =>
    asrt (0 ≤ w32 u6 ∧ w32 u6 < 82) <|
    asrt (0 ≤ w32 u6 ∧ w32 u6 < 82) <|
    lt (wr h2 68 (w32 u6).toNat ((h2.2 68 (w32 u6).toNat) + 1)) fun h9 =>
    asrt (0 ≤ w32 u6 ∧ w32 u6 < 82) <|
    lt (max32 x4 (h9.2 68 (w32 u6).toNat)) fun u13 =>
    rec14 (u13, (x5 + 1), h9)
set_option maxRecDepth 100000 in
theorem t2_mostAlike_14 (l : Launch) (G : Geo) (d : Nat) (hd : 5 ≤ d) (x1 : Nat) (x2 : Int) (x3 : Int) (x4 : Int) (x5 : Int) (rec14 : Int × Int × AH → Option (Int × AH)) (H14 : ∀ (x4 : Int) (x5 : Int) (h : AH), ok h.1 x1 9 → Den l G m2_mostAlike rvI d 14 [some (vA G 66), some (vA G x1), some (vI x2), some (vI x3), some (vI x4), some (vI x5), none] [] h (rec14 (x4, x5, h))) (h : AH) (kx1 : ok h.1 x1 9) : Den l G m2_mostAlike rvI d 14 [some (vA G 66), some (vA G x1), some (vI x2), some (vI x3), some (vI x4), some (vI x5), none] [] h (b2_mostAlike_14 rec14 x1 x2 x3 x4 x5 h) := by
  unfold b2_mostAlike_14
  refine den_iload (pc := 14) d2_mostAlike_14 rfl ?_
  refine den_aload_n (pc := 16) d2_mostAlike_16 rfl rfl ?_
  refine den_getI (pc := 17) fa_2_18 (ok_66 _) d2_mostAlike_17 ?_
  refine den_icmp_ge (pc := 20) (tgt := 70) d2_mostAlike_20 (by decide) rfl rfl (fun _ => ?_) (fun _ => ?_)
  · refine den_iload (pc := 70) d2_mostAlike_70 rfl ?_
    exact den_iret (pc := 72) rfl d2_mostAlike_72
  · refine den_bipush (pc := 23) d2_mostAlike_23 (by decide) ?_
    refine den_aload_n (pc := 25) d2_mostAlike_25 rfl rfl ?_
    refine den_aload_n (pc := 26) d2_mostAlike_26 rfl rfl ?_
    refine den_iload (pc := 27) d2_mostAlike_27 rfl ?_
    refine den_iload_n (pc := 29) d2_mostAlike_29 rfl rfl ?_
    refine den_iload_n (pc := 30) d2_mostAlike_30 rfl rfl ?_
    refine den_callVI (pc := 31) (As := [vA G x1, vI x5, vI x2, vI x3]) fv_2_80 rfl rfl (ok_66 _) (Nat.le_of_ble_eq_true rfl) (Nat.le_trans (by decide) hd) d2_mostAlike_31 (c2_burningNext l G x1 x5 x2 x3 h kx1) (fun r1 h2 m3 o4 => ?_)
    have q5 := ok.mono kx1 m3
    refine den_min (pc := 34) fm_2_84 (Nat.le_of_ble_eq_true rfl) (Nat.le_trans (by decide) hd) d2_mostAlike_34 ?_
    refine den_istoreL (pc := 37) (L2 := fun y => [some (vA G 66), some (vA G x1), some (vI x2), some (vI x3), some (vI x4), some (vI x5), some (vI y)]) d2_mostAlike_37 (by decide) (fun _ => rfl) (fun u6 => ?_)
    refine den_aload_n (pc := 39) d2_mostAlike_39 rfl rfl ?_
    refine den_getR (pc := 40) (b := 68) fa_2_15 (ok_66 _) rfl d2_mostAlike_40 ?_
    refine den_iload (pc := 43) d2_mostAlike_43 rfl ?_
    refine den_dup2 (pc := 45) d2_mostAlike_45 rfl rfl ?_
    refine den_asrt (fun a7 => ?_)
    refine den_iaload (pc := 46) sh_68 (sz_lt (by decide)) rfl a7 d2_mostAlike_46 ?_
    refine den_iconst (pc := 47) d2_mostAlike_47 ?_
    refine den_iadd (pc := 48) d2_mostAlike_48 ?_
    refine den_asrt (fun a8 => ?_)
    refine den_iastore (pc := 49) sh_68 (sz_lt (by decide)) rfl a8 d2_mostAlike_49 ?_
    refine den_ltH (fun h9 m10 => ?_)
    have q11 := ok.mono q5 m10
    refine den_iload (pc := 50) d2_mostAlike_50 rfl ?_
    refine den_aload_n (pc := 52) d2_mostAlike_52 rfl rfl ?_
    refine den_getR (pc := 53) (b := 68) fa_2_15 (ok_66 _) rfl d2_mostAlike_53 ?_
    refine den_iload (pc := 56) d2_mostAlike_56 rfl ?_
    refine den_asrt (fun a12 => ?_)
    refine den_iaload (pc := 58) sh_68 (sz_lt (by decide)) rfl a12 d2_mostAlike_58 ?_
    refine den_max (pc := 59) fm_2_51 (Nat.le_of_ble_eq_true rfl) (Nat.le_trans (by decide) hd) d2_mostAlike_59 ?_
    refine den_istoreL (pc := 62) (L2 := fun y => [some (vA G 66), some (vA G x1), some (vI x2), some (vI x3), some (vI y), some (vI x5), some (vI u6)]) d2_mostAlike_62 (by decide) (fun _ => rfl) (fun u13 => ?_)
    refine den_iinc (pc := 64) (L2 := [some (vA G 66), some (vA G x1), some (vI x2), some (vI x3), some (vI u13), some (vI (x5 + 1)), some (vI u6)]) d2_mostAlike_64 (by decide) rfl rfl ?_
    refine den_goto (pc := 67) (tgt := 14) d2_mostAlike_67 (by decide) ?_
    refine den_wk [true, true, true, true, true, true, false] rfl ?_
    exact H14 u13 (x5 + 1) h9 q11
def l2_mostAlike_14 (x1 : Nat) (x2 : Int) (x3 : Int) (x4 : Int) (x5 : Int) (h : AH) : Option (Int × AH) := fx (fun rec z => b2_mostAlike_14 rec x1 x2 x3 z.1 z.2.1 z.2.2) FU (x4, x5, h)
set_option maxRecDepth 100000 in
theorem tl2_mostAlike_14 (l : Launch) (G : Geo) (d : Nat) (hd : 5 ≤ d) (x1 : Nat) (x2 : Int) (x3 : Int) : ∀ (n : Nat) (z : Int × Int × AH), ok z.2.2.1 x1 9 → Den l G m2_mostAlike rvI d 14 [some (vA G 66), some (vA G x1), some (vI x2), some (vI x3), some (vI z.1), some (vI z.2.1), none] [] z.2.2 (fx (fun rec z => b2_mostAlike_14 rec x1 x2 x3 z.1 z.2.1 z.2.2) n z) :=
  den_fx (F := fun rec z => b2_mostAlike_14 rec x1 x2 x3 z.1 z.2.1 z.2.2) (P := fun z => ok z.2.2.1 x1 9) (fL := fun z => [some (vA G 66), some (vA G x1), some (vI x2), some (vI x3), some (vI z.1), some (vI z.2.1), none]) (fs := fun z => []) (fh := fun z => z.2.2) (fun rec hrec z hz => t2_mostAlike_14 l G d hd x1 x2 x3 z.1 z.2.1 rec (fun x4 x5 h w0 => hrec (x4, x5, h) w0) z.2.2 hz)
def f2_mostAlike (x1 : Nat) (x2 : Int) (x3 : Int) (h : AH) : Option (Int × AH) :=
  bnd (f12_fill 68 0 h) fun r14 h15 =>
  l2_mostAlike_14 x1 x2 x3 0 0 h15
set_option maxRecDepth 100000 in
theorem c2_mostAlike (l : Launch) (G : Geo) (x1 : Nat) (x2 : Int) (x3 : Int) (h : AH) (kx1 : ok h.1 x1 9) : Con l G m2_mostAlike rvI 5 [vA G 66, vA G x1, vI x2, vI x3] h (f2_mostAlike x1 x2 x3 h) := by
  have hd : 5 ≤ 5 := Nat.le_refl _
  refine con_I rfl (by decide) rfl rfl (Nat.le_of_ble_eq_true rfl) (L := [some (vA G 66), some (vA G x1), some (vI x2), some (vI x3), none, none, none]) ?_
  unfold f2_mostAlike
  refine den_aload_n (pc := 0) d2_mostAlike_0 rfl rfl ?_
  refine den_getR (pc := 1) (b := 68) fa_2_15 (ok_66 _) rfl d2_mostAlike_1 ?_
  refine den_iconst (pc := 4) d2_mostAlike_4 ?_
  refine den_callSV (pc := 5) (As := [vA G 68, vI 0]) fs_2_74 rfl rfl (Nat.le_of_ble_eq_true rfl) (Nat.le_trans (by decide) hd) d2_mostAlike_5 (c12_fill l G 68 0 h ⟨sz_lt (by decide), by decide⟩) (fun r14 h15 m16 o17 => ?_)
  have q18 := ok.mono kx1 m16
  refine den_iconst (pc := 8) d2_mostAlike_8 ?_
  refine den_istore (pc := 9) (L2 := [some (vA G 66), some (vA G x1), some (vI x2), some (vI x3), some (vI 0), none, none]) d2_mostAlike_9 (by decide) rfl ?_
  refine den_iconst (pc := 11) d2_mostAlike_11 ?_
  refine den_istore (pc := 12) (L2 := [some (vA G 66), some (vA G x1), some (vI x2), some (vI x3), some (vI 0), some (vI 0), none]) d2_mostAlike_12 (by decide) rfl ?_
  exact tl2_mostAlike_14 l G _ hd x1 x2 x3 FU (0, 0, h15) q18
theorem d2_ask_0 : decode m2_ask.2.1 0 = .ok (.iconst (-1), 1) := by decide +kernel
theorem d2_ask_1 : decode m2_ask.2.1 1 = .ok (.istore_n 2, 1) := by decide +kernel
theorem d2_ask_2 : decode m2_ask.2.1 2 = .ok (.aload_n 0, 1) := by decide +kernel
theorem d2_ask_3 : decode m2_ask.2.1 3 = .ok (.getfield 18, 3) := by decide +kernel
theorem d2_ask_6 : decode m2_ask.2.1 6 = .ok (.istore_n 3, 1) := by decide +kernel
theorem d2_ask_7 : decode m2_ask.2.1 7 = .ok (.aload_n 0, 1) := by decide +kernel
theorem d2_ask_8 : decode m2_ask.2.1 8 = .ok (.getfield 18, 3) := by decide +kernel
theorem d2_ask_11 : decode m2_ask.2.1 11 = .ok (.ifCond .le 76, 3) := by decide +kernel
theorem d2_ask_14 : decode m2_ask.2.1 14 = .ok (.iconst 0, 1) := by decide +kernel
theorem d2_ask_15 : decode m2_ask.2.1 15 = .ok (.istore 4, 2) := by decide +kernel
theorem d2_ask_17 : decode m2_ask.2.1 17 = .ok (.iload 4, 2) := by decide +kernel
theorem d2_ask_19 : decode m2_ask.2.1 19 = .ok (.aload_n 1, 1) := by decide +kernel
theorem d2_ask_20 : decode m2_ask.2.1 20 = .ok (.getfield 67, 3) := by decide +kernel
theorem d2_ask_23 : decode m2_ask.2.1 23 = .ok (.if_icmp .ge 64, 3) := by decide +kernel
theorem d2_ask_26 : decode m2_ask.2.1 26 = .ok (.iload 4, 2) := by decide +kernel
theorem d2_ask_28 : decode m2_ask.2.1 28 = .ok (.iconst 1, 1) := by decide +kernel
theorem d2_ask_29 : decode m2_ask.2.1 29 = .ok (.iadd, 1) := by decide +kernel
theorem d2_ask_30 : decode m2_ask.2.1 30 = .ok (.istore 5, 2) := by decide +kernel
theorem d2_ask_32 : decode m2_ask.2.1 32 = .ok (.iload 5, 2) := by decide +kernel
theorem d2_ask_34 : decode m2_ask.2.1 34 = .ok (.aload_n 1, 1) := by decide +kernel
theorem d2_ask_35 : decode m2_ask.2.1 35 = .ok (.getfield 67, 3) := by decide +kernel
theorem d2_ask_38 : decode m2_ask.2.1 38 = .ok (.if_icmp .ge 43, 3) := by decide +kernel
theorem d2_ask_41 : decode m2_ask.2.1 41 = .ok (.aload_n 0, 1) := by decide +kernel
theorem d2_ask_42 : decode m2_ask.2.1 42 = .ok (.aload_n 1, 1) := by decide +kernel
theorem d2_ask_43 : decode m2_ask.2.1 43 = .ok (.iload 4, 2) := by decide +kernel
theorem d2_ask_45 : decode m2_ask.2.1 45 = .ok (.iload 5, 2) := by decide +kernel
theorem d2_ask_47 : decode m2_ask.2.1 47 = .ok (.invokevirtual 70, 3) := by decide +kernel
theorem d2_ask_50 : decode m2_ask.2.1 50 = .ok (.istore 6, 2) := by decide +kernel
theorem d2_ask_52 : decode m2_ask.2.1 52 = .ok (.iload_n 2, 1) := by decide +kernel
theorem d2_ask_53 : decode m2_ask.2.1 53 = .ok (.iconst (-1), 1) := by decide +kernel
theorem d2_ask_54 : decode m2_ask.2.1 54 = .ok (.if_icmp .eq 9, 3) := by decide +kernel
theorem d2_ask_57 : decode m2_ask.2.1 57 = .ok (.iload 6, 2) := by decide +kernel
theorem d2_ask_59 : decode m2_ask.2.1 59 = .ok (.iload_n 3, 1) := by decide +kernel
theorem d2_ask_60 : decode m2_ask.2.1 60 = .ok (.if_icmp .ge 15, 3) := by decide +kernel
theorem d2_ask_63 : decode m2_ask.2.1 63 = .ok (.bipush 10, 2) := by decide +kernel
theorem d2_ask_65 : decode m2_ask.2.1 65 = .ok (.iload 4, 2) := by decide +kernel
theorem d2_ask_67 : decode m2_ask.2.1 67 = .ok (.imul, 1) := by decide +kernel
theorem d2_ask_68 : decode m2_ask.2.1 68 = .ok (.iload 5, 2) := by decide +kernel
theorem d2_ask_70 : decode m2_ask.2.1 70 = .ok (.iadd, 1) := by decide +kernel
theorem d2_ask_71 : decode m2_ask.2.1 71 = .ok (.istore_n 2, 1) := by decide +kernel
theorem d2_ask_72 : decode m2_ask.2.1 72 = .ok (.iload 6, 2) := by decide +kernel
theorem d2_ask_74 : decode m2_ask.2.1 74 = .ok (.istore_n 3, 1) := by decide +kernel
theorem d2_ask_75 : decode m2_ask.2.1 75 = .ok (.iinc 5 1, 3) := by decide +kernel
theorem d2_ask_78 : decode m2_ask.2.1 78 = .ok (.goto (-46), 3) := by decide +kernel
theorem d2_ask_81 : decode m2_ask.2.1 81 = .ok (.iinc 4 1, 3) := by decide +kernel
theorem d2_ask_84 : decode m2_ask.2.1 84 = .ok (.goto (-67), 3) := by decide +kernel
theorem d2_ask_87 : decode m2_ask.2.1 87 = .ok (.iload_n 2, 1) := by decide +kernel
theorem d2_ask_88 : decode m2_ask.2.1 88 = .ok (.ireturn, 1) := by decide +kernel
def b2_ask_75 (rec17 : Int × Int × Int × AH → Option (Int × AH)) (rec32 : Int × Int × Int × AH → Option (Int × AH)) (x1 : Nat) (x2 : Int) (x3 : Int) (x4 : Int) (x5 : Int) (h : AH) : Option (Int × AH) :=
  rec32 (x2, x3, (x5 + 1), h)
set_option maxRecDepth 100000 in
theorem t2_ask_75 (l : Launch) (G : Geo) (d : Nat) (hd : 6 ≤ d) (x1 : Nat) (x2 : Int) (x3 : Int) (x4 : Int) (x5 : Int) (rec17 : Int × Int × Int × AH → Option (Int × AH)) (H17 : ∀ (x2 : Int) (x3 : Int) (x4 : Int) (h : AH), ok h.1 x1 9 → Den l G m2_ask rvI d 17 [some (vA G 66), some (vA G x1), some (vI x2), some (vI x3), some (vI x4), none, none] [] h (rec17 (x2, x3, x4, h))) (rec32 : Int × Int × Int × AH → Option (Int × AH)) (H32 : ∀ (x2 : Int) (x3 : Int) (x5 : Int) (h : AH), ok h.1 x1 9 → Den l G m2_ask rvI d 32 [some (vA G 66), some (vA G x1), some (vI x2), some (vI x3), some (vI x4), some (vI x5), none] [] h (rec32 (x2, x3, x5, h))) (h : AH) (kx1 : ok h.1 x1 9) : Den l G m2_ask rvI d 75 [some (vA G 66), some (vA G x1), some (vI x2), some (vI x3), some (vI x4), some (vI x5), none] [] h (b2_ask_75 rec17 rec32 x1 x2 x3 x4 x5 h) := by
  unfold b2_ask_75
  refine den_iinc (pc := 75) (L2 := [some (vA G 66), some (vA G x1), some (vI x2), some (vI x3), some (vI x4), some (vI (x5 + 1)), none]) d2_ask_75 (by decide) rfl rfl ?_
  refine den_goto (pc := 78) (tgt := 32) d2_ask_78 (by decide) ?_
  exact H32 x2 x3 (x5 + 1) h kx1
def b2_ask_63 (rec17 : Int × Int × Int × AH → Option (Int × AH)) (rec32 : Int × Int × Int × AH → Option (Int × AH)) (x1 : Nat) (x4 : Int) (x5 : Int) (x6 : Int) (h : AH) : Option (Int × AH) :=
  lt ((10 * x4) + x5) fun u1 =>
  b2_ask_75 rec17 rec32 x1 u1 x6 x4 x5 h
set_option maxRecDepth 100000 in
theorem t2_ask_63 (l : Launch) (G : Geo) (d : Nat) (hd : 6 ≤ d) (x1 : Nat) (x4 : Int) (x5 : Int) (x6 : Int) (rec17 : Int × Int × Int × AH → Option (Int × AH)) (H17 : ∀ (x2 : Int) (x3 : Int) (x4 : Int) (h : AH), ok h.1 x1 9 → Den l G m2_ask rvI d 17 [some (vA G 66), some (vA G x1), some (vI x2), some (vI x3), some (vI x4), none, none] [] h (rec17 (x2, x3, x4, h))) (rec32 : Int × Int × Int × AH → Option (Int × AH)) (H32 : ∀ (x2 : Int) (x3 : Int) (x5 : Int) (h : AH), ok h.1 x1 9 → Den l G m2_ask rvI d 32 [some (vA G 66), some (vA G x1), some (vI x2), some (vI x3), some (vI x4), some (vI x5), none] [] h (rec32 (x2, x3, x5, h))) (h : AH) (kx1 : ok h.1 x1 9) : Den l G m2_ask rvI d 63 [some (vA G 66), some (vA G x1), none, none, some (vI x4), some (vI x5), some (vI x6)] [] h (b2_ask_63 rec17 rec32 x1 x4 x5 x6 h) := by
  unfold b2_ask_63
  refine den_bipush (pc := 63) d2_ask_63 (by decide) ?_
  refine den_iload (pc := 65) d2_ask_65 rfl ?_
  refine den_imul (pc := 67) d2_ask_67 ?_
  refine den_iload (pc := 68) d2_ask_68 rfl ?_
  refine den_iadd (pc := 70) d2_ask_70 ?_
  refine den_istore_nL (pc := 71) (L2 := fun y => [some (vA G 66), some (vA G x1), some (vI y), none, some (vI x4), some (vI x5), some (vI x6)]) d2_ask_71 rfl (by decide) (fun _ => rfl) (fun u1 => ?_)
  refine den_iload (pc := 72) d2_ask_72 rfl ?_
  refine den_istore_n (pc := 74) (L2 := [some (vA G 66), some (vA G x1), some (vI u1), some (vI x6), some (vI x4), some (vI x5), some (vI x6)]) d2_ask_74 rfl (by decide) rfl ?_
  refine den_wk [true, true, true, true, true, true, false] rfl ?_
  exact t2_ask_75 l G _ hd x1 u1 x6 x4 x5 rec17 H17 rec32 H32 h kx1
def b2_ask_32 (rec32 : Int × Int × Int × AH → Option (Int × AH)) (rec17 : Int × Int × Int × AH → Option (Int × AH)) (x1 : Nat) (x4 : Int) (x2 : Int) (x3 : Int) (x5 : Int) (h : AH) : Option (Int × AH) :=
  if w32 (h.2 x1 0) ≤ w32 x5 then
    rec17 (x2, x3, (x4 + 1), h)
  else
    bnd (f2_mostAlike x1 x4 x5 h) fun r2 h3 =>
    if w32 x2 = (-1) then
      b2_ask_63 rec17 rec32 x1 x4 x5 r2 h3
    else
      if w32 x3 ≤ w32 r2 then
        b2_ask_75 rec17 rec32 x1 x2 x3 x4 x5 h3
      else
        b2_ask_63 rec17 rec32 x1 x4 x5 r2 h3
set_option maxRecDepth 100000 in
theorem t2_ask_32 (l : Launch) (G : Geo) (d : Nat) (hd : 6 ≤ d) (x1 : Nat) (x4 : Int) (x2 : Int) (x3 : Int) (x5 : Int) (rec32 : Int × Int × Int × AH → Option (Int × AH)) (H32 : ∀ (x2 : Int) (x3 : Int) (x5 : Int) (h : AH), ok h.1 x1 9 → Den l G m2_ask rvI d 32 [some (vA G 66), some (vA G x1), some (vI x2), some (vI x3), some (vI x4), some (vI x5), none] [] h (rec32 (x2, x3, x5, h))) (rec17 : Int × Int × Int × AH → Option (Int × AH)) (H17 : ∀ (x2 : Int) (x3 : Int) (x4 : Int) (h : AH), ok h.1 x1 9 → Den l G m2_ask rvI d 17 [some (vA G 66), some (vA G x1), some (vI x2), some (vI x3), some (vI x4), none, none] [] h (rec17 (x2, x3, x4, h))) (h : AH) (kx1 : ok h.1 x1 9) : Den l G m2_ask rvI d 32 [some (vA G 66), some (vA G x1), some (vI x2), some (vI x3), some (vI x4), some (vI x5), none] [] h (b2_ask_32 rec32 rec17 x1 x4 x2 x3 x5 h) := by
  unfold b2_ask_32
  refine den_iload (pc := 32) d2_ask_32 rfl ?_
  refine den_aload_n (pc := 34) d2_ask_34 rfl rfl ?_
  refine den_getI (pc := 35) fa_2_67 kx1 d2_ask_35 ?_
  refine den_icmp_ge (pc := 38) (tgt := 81) d2_ask_38 (by decide) rfl rfl (fun _ => ?_) (fun _ => ?_)
  · refine den_iinc (pc := 81) (L2 := [some (vA G 66), some (vA G x1), some (vI x2), some (vI x3), some (vI (x4 + 1)), some (vI x5), none]) d2_ask_81 (by decide) rfl rfl ?_
    refine den_goto (pc := 84) (tgt := 17) d2_ask_84 (by decide) ?_
    refine den_wk [true, true, true, true, true, false, true] rfl ?_
    exact H17 x2 x3 (x4 + 1) h kx1
  · refine den_aload_n (pc := 41) d2_ask_41 rfl rfl ?_
    refine den_aload_n (pc := 42) d2_ask_42 rfl rfl ?_
    refine den_iload (pc := 43) d2_ask_43 rfl ?_
    refine den_iload (pc := 45) d2_ask_45 rfl ?_
    refine den_callVI (pc := 47) (As := [vA G x1, vI x4, vI x5]) fv_2_70 rfl rfl (ok_66 _) (Nat.le_of_ble_eq_true rfl) (Nat.le_trans (by decide) hd) d2_ask_47 (c2_mostAlike l G x1 x4 x5 h kx1) (fun r2 h3 m4 o5 => ?_)
    have q6 := ok.mono kx1 m4
    refine den_istore (pc := 50) (L2 := [some (vA G 66), some (vA G x1), some (vI x2), some (vI x3), some (vI x4), some (vI x5), some (vI r2)]) d2_ask_50 (by decide) rfl ?_
    refine den_iload_n (pc := 52) d2_ask_52 rfl rfl ?_
    refine den_iconst (pc := 53) d2_ask_53 ?_
    refine den_icmp_eq (pc := 54) (tgt := 63) d2_ask_54 (by decide) rfl (by decide) (fun _ => ?_) (fun _ => ?_)
    · refine den_wk [true, true, false, false, true, true, true] rfl ?_
      exact t2_ask_63 l G _ hd x1 x4 x5 r2 rec17 H17 rec32 H32 h3 q6
    · refine den_iload (pc := 57) d2_ask_57 rfl ?_
      refine den_iload_n (pc := 59) d2_ask_59 rfl rfl ?_
      refine den_icmp_ge (pc := 60) (tgt := 75) d2_ask_60 (by decide) rfl rfl (fun _ => ?_) (fun _ => ?_)
      · refine den_wk [true, true, true, true, true, true, false] rfl ?_
        exact t2_ask_75 l G _ hd x1 x2 x3 x4 x5 rec17 H17 rec32 H32 h3 q6
      · refine den_wk [true, true, false, false, true, true, true] rfl ?_
        exact t2_ask_63 l G _ hd x1 x4 x5 r2 rec17 H17 rec32 H32 h3 q6
def l2_ask_32 (rec17 : Int × Int × Int × AH → Option (Int × AH)) (x1 : Nat) (x4 : Int) (x2 : Int) (x3 : Int) (x5 : Int) (h : AH) : Option (Int × AH) := fx (fun rec z => b2_ask_32 rec rec17 x1 x4 z.1 z.2.1 z.2.2.1 z.2.2.2) FU (x2, x3, x5, h)
set_option maxRecDepth 100000 in
theorem tl2_ask_32 (l : Launch) (G : Geo) (d : Nat) (hd : 6 ≤ d) (x1 : Nat) (x4 : Int) (rec17 : Int × Int × Int × AH → Option (Int × AH)) (H17 : ∀ (x2 : Int) (x3 : Int) (x4 : Int) (h : AH), ok h.1 x1 9 → Den l G m2_ask rvI d 17 [some (vA G 66), some (vA G x1), some (vI x2), some (vI x3), some (vI x4), none, none] [] h (rec17 (x2, x3, x4, h))) : ∀ (n : Nat) (z : Int × Int × Int × AH), ok z.2.2.2.1 x1 9 → Den l G m2_ask rvI d 32 [some (vA G 66), some (vA G x1), some (vI z.1), some (vI z.2.1), some (vI x4), some (vI z.2.2.1), none] [] z.2.2.2 (fx (fun rec z => b2_ask_32 rec rec17 x1 x4 z.1 z.2.1 z.2.2.1 z.2.2.2) n z) :=
  den_fx (F := fun rec z => b2_ask_32 rec rec17 x1 x4 z.1 z.2.1 z.2.2.1 z.2.2.2) (P := fun z => ok z.2.2.2.1 x1 9) (fL := fun z => [some (vA G 66), some (vA G x1), some (vI z.1), some (vI z.2.1), some (vI x4), some (vI z.2.2.1), none]) (fs := fun z => []) (fh := fun z => z.2.2.2) (fun rec hrec z hz => t2_ask_32 l G d hd x1 x4 z.1 z.2.1 z.2.2.1 rec (fun x2 x3 x5 h w0 => hrec (x2, x3, x5, h) w0) rec17 H17 z.2.2.2 hz)
def b2_ask_17 (rec17 : Int × Int × Int × AH → Option (Int × AH)) (x1 : Nat) (x2 : Int) (x3 : Int) (x4 : Int) (h : AH) : Option (Int × AH) :=
  if w32 (h.2 x1 0) ≤ w32 x4 then
    some (x2, h)
  else
    lt (x4 + 1) fun u7 =>
    l2_ask_32 rec17 x1 x4 x2 x3 u7 h
set_option maxRecDepth 100000 in
theorem t2_ask_17 (l : Launch) (G : Geo) (d : Nat) (hd : 6 ≤ d) (x1 : Nat) (x2 : Int) (x3 : Int) (x4 : Int) (rec17 : Int × Int × Int × AH → Option (Int × AH)) (H17 : ∀ (x2 : Int) (x3 : Int) (x4 : Int) (h : AH), ok h.1 x1 9 → Den l G m2_ask rvI d 17 [some (vA G 66), some (vA G x1), some (vI x2), some (vI x3), some (vI x4), none, none] [] h (rec17 (x2, x3, x4, h))) (h : AH) (kx1 : ok h.1 x1 9) : Den l G m2_ask rvI d 17 [some (vA G 66), some (vA G x1), some (vI x2), some (vI x3), some (vI x4), none, none] [] h (b2_ask_17 rec17 x1 x2 x3 x4 h) := by
  unfold b2_ask_17
  refine den_iload (pc := 17) d2_ask_17 rfl ?_
  refine den_aload_n (pc := 19) d2_ask_19 rfl rfl ?_
  refine den_getI (pc := 20) fa_2_67 kx1 d2_ask_20 ?_
  refine den_icmp_ge (pc := 23) (tgt := 87) d2_ask_23 (by decide) rfl rfl (fun _ => ?_) (fun _ => ?_)
  · refine den_iload_n (pc := 87) d2_ask_87 rfl rfl ?_
    exact den_iret (pc := 88) rfl d2_ask_88
  · refine den_iload (pc := 26) d2_ask_26 rfl ?_
    refine den_iconst (pc := 28) d2_ask_28 ?_
    refine den_iadd (pc := 29) d2_ask_29 ?_
    refine den_istoreL (pc := 30) (L2 := fun y => [some (vA G 66), some (vA G x1), some (vI x2), some (vI x3), some (vI x4), some (vI y), none]) d2_ask_30 (by decide) (fun _ => rfl) (fun u7 => ?_)
    exact tl2_ask_32 l G _ hd x1 x4 rec17 H17 FU (x2, x3, u7, h) kx1
def l2_ask_17 (x1 : Nat) (x2 : Int) (x3 : Int) (x4 : Int) (h : AH) : Option (Int × AH) := fx (fun rec z => b2_ask_17 rec x1 z.1 z.2.1 z.2.2.1 z.2.2.2) FU (x2, x3, x4, h)
set_option maxRecDepth 100000 in
theorem tl2_ask_17 (l : Launch) (G : Geo) (d : Nat) (hd : 6 ≤ d) (x1 : Nat) : ∀ (n : Nat) (z : Int × Int × Int × AH), ok z.2.2.2.1 x1 9 → Den l G m2_ask rvI d 17 [some (vA G 66), some (vA G x1), some (vI z.1), some (vI z.2.1), some (vI z.2.2.1), none, none] [] z.2.2.2 (fx (fun rec z => b2_ask_17 rec x1 z.1 z.2.1 z.2.2.1 z.2.2.2) n z) :=
  den_fx (F := fun rec z => b2_ask_17 rec x1 z.1 z.2.1 z.2.2.1 z.2.2.2) (P := fun z => ok z.2.2.2.1 x1 9) (fL := fun z => [some (vA G 66), some (vA G x1), some (vI z.1), some (vI z.2.1), some (vI z.2.2.1), none, none]) (fs := fun z => []) (fh := fun z => z.2.2.2) (fun rec hrec z hz => t2_ask_17 l G d hd x1 z.1 z.2.1 z.2.2.1 rec (fun x2 x3 x4 h w0 => hrec (x2, x3, x4, h) w0) z.2.2.2 hz)
def f2_ask (x1 : Nat) (h : AH) : Option (Int × AH) :=
  lt (h.2 66 2) fun u8 =>
  if w32 (h.2 66 2) ≤ 0 then
    some ((-1), h)
  else
    l2_ask_17 x1 (-1) u8 0 h
set_option maxRecDepth 100000 in
theorem c2_ask (l : Launch) (G : Geo) (x1 : Nat) (h : AH) (kx1 : ok h.1 x1 9) : Con l G m2_ask rvI 6 [vA G 66, vA G x1] h (f2_ask x1 h) := by
  have hd : 6 ≤ 6 := Nat.le_refl _
  refine con_I rfl (by decide) rfl rfl (Nat.le_of_ble_eq_true rfl) (L := [some (vA G 66), some (vA G x1), none, none, none, none, none]) ?_
  unfold f2_ask
  refine den_iconst (pc := 0) d2_ask_0 ?_
  refine den_istore_n (pc := 1) (L2 := [some (vA G 66), some (vA G x1), some (vI (-1)), none, none, none, none]) d2_ask_1 rfl (by decide) rfl ?_
  refine den_aload_n (pc := 2) d2_ask_2 rfl rfl ?_
  refine den_getI (pc := 3) fa_2_18 (ok_66 _) d2_ask_3 ?_
  refine den_istore_nL (pc := 6) (L2 := fun y => [some (vA G 66), some (vA G x1), some (vI (-1)), some (vI y), none, none, none]) d2_ask_6 rfl (by decide) (fun _ => rfl) (fun u8 => ?_)
  refine den_aload_n (pc := 7) d2_ask_7 rfl rfl ?_
  refine den_getI (pc := 8) fa_2_18 (ok_66 _) d2_ask_8 ?_
  refine den_if_le (pc := 11) (tgt := 87) d2_ask_11 (by decide) rfl (fun _ => ?_) (fun _ => ?_)
  · refine den_iload_n (pc := 87) d2_ask_87 rfl rfl ?_
    exact den_iret (pc := 88) rfl d2_ask_88
  · refine den_iconst (pc := 14) d2_ask_14 ?_
    refine den_istore (pc := 15) (L2 := [some (vA G 66), some (vA G x1), some (vI (-1)), some (vI u8), some (vI 0), none, none]) d2_ask_15 (by decide) rfl ?_
    exact tl2_ask_17 l G _ hd x1 FU ((-1), u8, 0, h) kx1
theorem d2_sure_0 : decode m2_sure.2.1 0 = .ok (.aload_n 0, 1) := by decide +kernel
theorem d2_sure_1 : decode m2_sure.2.1 1 = .ok (.getfield 18, 3) := by decide +kernel
theorem d2_sure_4 : decode m2_sure.2.1 4 = .ok (.ifCond .eq 29, 3) := by decide +kernel
theorem d2_sure_7 : decode m2_sure.2.1 7 = .ok (.aload_n 0, 1) := by decide +kernel
theorem d2_sure_8 : decode m2_sure.2.1 8 = .ok (.getfield 9, 3) := by decide +kernel
theorem d2_sure_11 : decode m2_sure.2.1 11 = .ok (.iconst 0, 1) := by decide +kernel
theorem d2_sure_12 : decode m2_sure.2.1 12 = .ok (.iaload, 1) := by decide +kernel
theorem d2_sure_13 : decode m2_sure.2.1 13 = .ok (.bipush 10, 2) := by decide +kernel
theorem d2_sure_15 : decode m2_sure.2.1 15 = .ok (.idiv, 1) := by decide +kernel
theorem d2_sure_16 : decode m2_sure.2.1 16 = .ok (.aload_n 0, 1) := by decide +kernel
theorem d2_sure_17 : decode m2_sure.2.1 17 = .ok (.getfield 9, 3) := by decide +kernel
theorem d2_sure_20 : decode m2_sure.2.1 20 = .ok (.aload_n 0, 1) := by decide +kernel
theorem d2_sure_21 : decode m2_sure.2.1 21 = .ok (.getfield 18, 3) := by decide +kernel
theorem d2_sure_24 : decode m2_sure.2.1 24 = .ok (.iconst 1, 1) := by decide +kernel
theorem d2_sure_25 : decode m2_sure.2.1 25 = .ok (.isub, 1) := by decide +kernel
theorem d2_sure_26 : decode m2_sure.2.1 26 = .ok (.iaload, 1) := by decide +kernel
theorem d2_sure_27 : decode m2_sure.2.1 27 = .ok (.bipush 10, 2) := by decide +kernel
theorem d2_sure_29 : decode m2_sure.2.1 29 = .ok (.idiv, 1) := by decide +kernel
theorem d2_sure_30 : decode m2_sure.2.1 30 = .ok (.if_icmp .eq 5, 3) := by decide +kernel
theorem d2_sure_33 : decode m2_sure.2.1 33 = .ok (.iconst (-1), 1) := by decide +kernel
theorem d2_sure_34 : decode m2_sure.2.1 34 = .ok (.ireturn, 1) := by decide +kernel
theorem d2_sure_35 : decode m2_sure.2.1 35 = .ok (.aload_n 0, 1) := by decide +kernel
theorem d2_sure_36 : decode m2_sure.2.1 36 = .ok (.getfield 9, 3) := by decide +kernel
theorem d2_sure_39 : decode m2_sure.2.1 39 = .ok (.iconst 0, 1) := by decide +kernel
theorem d2_sure_40 : decode m2_sure.2.1 40 = .ok (.iaload, 1) := by decide +kernel
theorem d2_sure_41 : decode m2_sure.2.1 41 = .ok (.bipush 10, 2) := by decide +kernel
theorem d2_sure_43 : decode m2_sure.2.1 43 = .ok (.idiv, 1) := by decide +kernel
theorem d2_sure_44 : decode m2_sure.2.1 44 = .ok (.ireturn, 1) := by decide +kernel
def f2_sure (h : AH) : Option (Int × AH) :=
  if w32 (h.2 66 2) = 0 then
    some ((-1), h)
  else
    asrt (0 ≤ w32 0 ∧ w32 0 < 60) <|
    asrt (0 ≤ w32 ((h.2 66 2) - 1) ∧ w32 ((h.2 66 2) - 1) < 60) <|
    if w32 (dv32 (h.2 67 (w32 0).toNat) 10) = w32 (dv32 (h.2 67 (w32 ((h.2 66 2) - 1)).toNat) 10) then
      asrt (0 ≤ w32 0 ∧ w32 0 < 60) <|
      some (dv32 (h.2 67 (w32 0).toNat) 10, h)
    else
      some ((-1), h)
set_option maxRecDepth 100000 in
theorem c2_sure (l : Launch) (G : Geo) (h : AH) : Con l G m2_sure rvI 2 [vA G 66] h (f2_sure  h) := by
  have hd : 2 ≤ 2 := Nat.le_refl _
  refine con_I rfl (by decide) rfl rfl (Nat.le_of_ble_eq_true rfl) (L := [some (vA G 66)]) ?_
  unfold f2_sure
  refine den_aload_n (pc := 0) d2_sure_0 rfl rfl ?_
  refine den_getI (pc := 1) fa_2_18 (ok_66 _) d2_sure_1 ?_
  refine den_if_eq (pc := 4) (tgt := 33) d2_sure_4 (by decide) rfl (fun _ => ?_) (fun _ => ?_)
  · refine den_iconst (pc := 33) d2_sure_33 ?_
    exact den_iret (pc := 34) rfl d2_sure_34
  · refine den_aload_n (pc := 7) d2_sure_7 rfl rfl ?_
    refine den_getR (pc := 8) (b := 67) fa_2_9 (ok_66 _) rfl d2_sure_8 ?_
    refine den_iconst (pc := 11) d2_sure_11 ?_
    refine den_asrt (fun a1 => ?_)
    refine den_iaload (pc := 12) sh_67 (sz_lt (by decide)) rfl a1 d2_sure_12 ?_
    refine den_bipush (pc := 13) d2_sure_13 (by decide) ?_
    refine den_idiv (pc := 15) d2_sure_15 (by decide) ?_
    refine den_aload_n (pc := 16) d2_sure_16 rfl rfl ?_
    refine den_getR (pc := 17) (b := 67) fa_2_9 (ok_66 _) rfl d2_sure_17 ?_
    refine den_aload_n (pc := 20) d2_sure_20 rfl rfl ?_
    refine den_getI (pc := 21) fa_2_18 (ok_66 _) d2_sure_21 ?_
    refine den_iconst (pc := 24) d2_sure_24 ?_
    refine den_isub (pc := 25) d2_sure_25 ?_
    refine den_asrt (fun a2 => ?_)
    refine den_iaload (pc := 26) sh_67 (sz_lt (by decide)) rfl a2 d2_sure_26 ?_
    refine den_bipush (pc := 27) d2_sure_27 (by decide) ?_
    refine den_idiv (pc := 29) d2_sure_29 (by decide) ?_
    refine den_icmp_eq (pc := 30) (tgt := 35) d2_sure_30 (by decide) rfl rfl (fun _ => ?_) (fun _ => ?_)
    · refine den_aload_n (pc := 35) d2_sure_35 rfl rfl ?_
      refine den_getR (pc := 36) (b := 67) fa_2_9 (ok_66 _) rfl d2_sure_36 ?_
      refine den_iconst (pc := 39) d2_sure_39 ?_
      refine den_asrt (fun a3 => ?_)
      refine den_iaload (pc := 40) sh_67 (sz_lt (by decide)) rfl a3 d2_sure_40 ?_
      refine den_bipush (pc := 41) d2_sure_41 (by decide) ?_
      refine den_idiv (pc := 43) d2_sure_43 (by decide) ?_
      exact den_iret (pc := 44) rfl d2_sure_44
    · refine den_iconst (pc := 33) d2_sure_33 ?_
      exact den_iret (pc := 34) rfl d2_sure_34
theorem d2_answer_0 : decode m2_answer.2.1 0 = .ok (.iload_n 2, 1) := by decide +kernel
theorem d2_answer_1 : decode m2_answer.2.1 1 = .ok (.tableswitch 43 0 2 #[27, 32, 37], 27) := by decide +kernel
theorem d2_answer_28 : decode m2_answer.2.1 28 = .ok (.aload_n 0, 1) := by decide +kernel
theorem d2_answer_29 : decode m2_answer.2.1 29 = .ok (.getfield 18, 3) := by decide +kernel
theorem d2_answer_32 : decode m2_answer.2.1 32 = .ok (.ireturn, 1) := by decide +kernel
theorem d2_answer_33 : decode m2_answer.2.1 33 = .ok (.aload_n 0, 1) := by decide +kernel
theorem d2_answer_34 : decode m2_answer.2.1 34 = .ok (.invokevirtual 59, 3) := by decide +kernel
theorem d2_answer_37 : decode m2_answer.2.1 37 = .ok (.ireturn, 1) := by decide +kernel
theorem d2_answer_38 : decode m2_answer.2.1 38 = .ok (.aload_n 0, 1) := by decide +kernel
theorem d2_answer_39 : decode m2_answer.2.1 39 = .ok (.aload_n 1, 1) := by decide +kernel
theorem d2_answer_40 : decode m2_answer.2.1 40 = .ok (.invokevirtual 63, 3) := by decide +kernel
theorem d2_answer_43 : decode m2_answer.2.1 43 = .ok (.ireturn, 1) := by decide +kernel
theorem d2_answer_44 : decode m2_answer.2.1 44 = .ok (.iload_n 2, 1) := by decide +kernel
theorem d2_answer_45 : decode m2_answer.2.1 45 = .ok (.bipush 10, 2) := by decide +kernel
theorem d2_answer_47 : decode m2_answer.2.1 47 = .ok (.if_icmp .lt 26, 3) := by decide +kernel
theorem d2_answer_50 : decode m2_answer.2.1 50 = .ok (.iload_n 2, 1) := by decide +kernel
theorem d2_answer_51 : decode m2_answer.2.1 51 = .ok (.bipush 10, 2) := by decide +kernel
theorem d2_answer_53 : decode m2_answer.2.1 53 = .ok (.isub, 1) := by decide +kernel
theorem d2_answer_54 : decode m2_answer.2.1 54 = .ok (.aload_n 0, 1) := by decide +kernel
theorem d2_answer_55 : decode m2_answer.2.1 55 = .ok (.getfield 18, 3) := by decide +kernel
theorem d2_answer_58 : decode m2_answer.2.1 58 = .ok (.if_icmp .ge 15, 3) := by decide +kernel
theorem d2_answer_61 : decode m2_answer.2.1 61 = .ok (.aload_n 0, 1) := by decide +kernel
theorem d2_answer_62 : decode m2_answer.2.1 62 = .ok (.getfield 9, 3) := by decide +kernel
theorem d2_answer_65 : decode m2_answer.2.1 65 = .ok (.iload_n 2, 1) := by decide +kernel
theorem d2_answer_66 : decode m2_answer.2.1 66 = .ok (.bipush 10, 2) := by decide +kernel
theorem d2_answer_68 : decode m2_answer.2.1 68 = .ok (.isub, 1) := by decide +kernel
theorem d2_answer_69 : decode m2_answer.2.1 69 = .ok (.iaload, 1) := by decide +kernel
theorem d2_answer_70 : decode m2_answer.2.1 70 = .ok (.goto 5, 3) := by decide +kernel
theorem d2_answer_73 : decode m2_answer.2.1 73 = .ok (.bipush (-2), 2) := by decide +kernel
theorem d2_answer_75 : decode m2_answer.2.1 75 = .ok (.ireturn, 1) := by decide +kernel
def f2_answer (x1 : Nat) (x2 : Int) (h : AH) : Option (Int × AH) :=
  if w32 x2 = 0 then
    some (h.2 66 2, h)
  else
  if w32 x2 = 1 then
    bnd (f2_sure h) fun r3 h4 =>
    some (r3, h4)
  else
  if w32 x2 = 2 then
    bnd (f2_ask x1 h) fun r9 h10 =>
    some (r9, h10)
  else
  if w32 x2 < 10 then
    some ((-2), h)
  else
    if w32 (h.2 66 2) ≤ w32 (x2 - 10) then
      some ((-2), h)
    else
      asrt (0 ≤ w32 (x2 - 10) ∧ w32 (x2 - 10) < 60) <|
      some (h.2 67 (w32 (x2 - 10)).toNat, h)
set_option maxRecDepth 100000 in
theorem c2_answer (l : Launch) (G : Geo) (x1 : Nat) (x2 : Int) (h : AH) (kx1 : ok h.1 x1 9) : Con l G m2_answer rvI 7 [vA G 66, vA G x1, vI x2] h (f2_answer x1 x2 h) := by
  have hd : 7 ≤ 7 := Nat.le_refl _
  refine con_I rfl (by decide) rfl rfl (Nat.le_of_ble_eq_true rfl) (L := [some (vA G 66), some (vA G x1), some (vI x2)]) ?_
  unfold f2_answer
  refine den_iload_n (pc := 0) d2_answer_0 rfl rfl ?_
  refine den_ite (fun c1 => ?_) (fun c1 => ?_)
  · refine den_tableIn (pc := 1) (tgt := 28) d2_answer_1 (by omega) (by omega) (by rw [c1]; rfl) (by decide) ?_
    refine den_aload_n (pc := 28) d2_answer_28 rfl rfl ?_
    refine den_getI (pc := 29) fa_2_18 (ok_66 _) d2_answer_29 ?_
    exact den_iret (pc := 32) rfl d2_answer_32
  refine den_ite (fun c2 => ?_) (fun c2 => ?_)
  · refine den_tableIn (pc := 1) (tgt := 33) d2_answer_1 (by omega) (by omega) (by rw [c2]; rfl) (by decide) ?_
    refine den_aload_n (pc := 33) d2_answer_33 rfl rfl ?_
    refine den_callVI (pc := 34) (As := []) fv_2_59 rfl rfl (ok_66 _) (Nat.le_of_ble_eq_true rfl) (Nat.le_trans (by decide) hd) d2_answer_34 (c2_sure l G h) (fun r3 h4 m5 o6 => ?_)
    have q7 := ok.mono kx1 m5
    exact den_iret (pc := 37) rfl d2_answer_37
  refine den_ite (fun c8 => ?_) (fun c8 => ?_)
  · refine den_tableIn (pc := 1) (tgt := 38) d2_answer_1 (by omega) (by omega) (by rw [c8]; rfl) (by decide) ?_
    refine den_aload_n (pc := 38) d2_answer_38 rfl rfl ?_
    refine den_aload_n (pc := 39) d2_answer_39 rfl rfl ?_
    refine den_callVI (pc := 40) (As := [vA G x1]) fv_2_63 rfl rfl (ok_66 _) (Nat.le_of_ble_eq_true rfl) (Nat.le_trans (by decide) hd) d2_answer_40 (c2_ask l G x1 h kx1) (fun r9 h10 m11 o12 => ?_)
    have q13 := ok.mono kx1 m11
    exact den_iret (pc := 43) rfl d2_answer_43
  refine den_tableOut (pc := 1) (tgt := 44) d2_answer_1 (by omega) (by decide) ?_
  refine den_iload_n (pc := 44) d2_answer_44 rfl rfl ?_
  refine den_bipush (pc := 45) d2_answer_45 (by decide) ?_
  refine den_icmp_lt (pc := 47) (tgt := 73) d2_answer_47 (by decide) rfl (by decide) (fun _ => ?_) (fun _ => ?_)
  · refine den_bipush (pc := 73) d2_answer_73 (by decide) ?_
    exact den_iret (pc := 75) rfl d2_answer_75
  · refine den_iload_n (pc := 50) d2_answer_50 rfl rfl ?_
    refine den_bipush (pc := 51) d2_answer_51 (by decide) ?_
    refine den_isub (pc := 53) d2_answer_53 ?_
    refine den_aload_n (pc := 54) d2_answer_54 rfl rfl ?_
    refine den_getI (pc := 55) fa_2_18 (ok_66 _) d2_answer_55 ?_
    refine den_icmp_ge (pc := 58) (tgt := 73) d2_answer_58 (by decide) rfl rfl (fun _ => ?_) (fun _ => ?_)
    · refine den_bipush (pc := 73) d2_answer_73 (by decide) ?_
      exact den_iret (pc := 75) rfl d2_answer_75
    · refine den_aload_n (pc := 61) d2_answer_61 rfl rfl ?_
      refine den_getR (pc := 62) (b := 67) fa_2_9 (ok_66 _) rfl d2_answer_62 ?_
      refine den_iload_n (pc := 65) d2_answer_65 rfl rfl ?_
      refine den_bipush (pc := 66) d2_answer_66 (by decide) ?_
      refine den_isub (pc := 68) d2_answer_68 ?_
      refine den_asrt (fun a14 => ?_)
      refine den_iaload (pc := 69) sh_67 (sz_lt (by decide)) rfl a14 d2_answer_69 ?_
      refine den_goto (pc := 70) (tgt := 75) d2_answer_70 (by decide) ?_
      exact den_iret (pc := 75) rfl d2_answer_75
theorem d2_extreme_0 : decode m2_extreme.2.1 0 = .ok (.iconst (-1), 1) := by decide +kernel
theorem d2_extreme_1 : decode m2_extreme.2.1 1 = .ok (.istore 5, 2) := by decide +kernel
theorem d2_extreme_3 : decode m2_extreme.2.1 3 = .ok (.iconst 0, 1) := by decide +kernel
theorem d2_extreme_4 : decode m2_extreme.2.1 4 = .ok (.istore 6, 2) := by decide +kernel
theorem d2_extreme_6 : decode m2_extreme.2.1 6 = .ok (.iload 6, 2) := by decide +kernel
theorem d2_extreme_8 : decode m2_extreme.2.1 8 = .ok (.aload_n 0, 1) := by decide +kernel
theorem d2_extreme_9 : decode m2_extreme.2.1 9 = .ok (.getfield 18, 3) := by decide +kernel
theorem d2_extreme_12 : decode m2_extreme.2.1 12 = .ok (.if_icmp .ge 52, 3) := by decide +kernel
theorem d2_extreme_15 : decode m2_extreme.2.1 15 = .ok (.aload_n 0, 1) := by decide +kernel
theorem d2_extreme_16 : decode m2_extreme.2.1 16 = .ok (.aload_n 1, 1) := by decide +kernel
theorem d2_extreme_17 : decode m2_extreme.2.1 17 = .ok (.iload 6, 2) := by decide +kernel
theorem d2_extreme_19 : decode m2_extreme.2.1 19 = .ok (.iload_n 2, 1) := by decide +kernel
theorem d2_extreme_20 : decode m2_extreme.2.1 20 = .ok (.iload_n 3, 1) := by decide +kernel
theorem d2_extreme_21 : decode m2_extreme.2.1 21 = .ok (.invokevirtual 80, 3) := by decide +kernel
theorem d2_extreme_24 : decode m2_extreme.2.1 24 = .ok (.istore 7, 2) := by decide +kernel
theorem d2_extreme_26 : decode m2_extreme.2.1 26 = .ok (.iload 5, 2) := by decide +kernel
theorem d2_extreme_28 : decode m2_extreme.2.1 28 = .ok (.iconst (-1), 1) := by decide +kernel
theorem d2_extreme_29 : decode m2_extreme.2.1 29 = .ok (.if_icmp .eq 25, 3) := by decide +kernel
theorem d2_extreme_32 : decode m2_extreme.2.1 32 = .ok (.iload 4, 2) := by decide +kernel
theorem d2_extreme_34 : decode m2_extreme.2.1 34 = .ok (.ifCond .eq 13, 3) := by decide +kernel
theorem d2_extreme_37 : decode m2_extreme.2.1 37 = .ok (.iload 7, 2) := by decide +kernel
theorem d2_extreme_39 : decode m2_extreme.2.1 39 = .ok (.iload 5, 2) := by decide +kernel
theorem d2_extreme_41 : decode m2_extreme.2.1 41 = .ok (.if_icmp .le 17, 3) := by decide +kernel
theorem d2_extreme_44 : decode m2_extreme.2.1 44 = .ok (.goto 10, 3) := by decide +kernel
theorem d2_extreme_47 : decode m2_extreme.2.1 47 = .ok (.iload 7, 2) := by decide +kernel
theorem d2_extreme_49 : decode m2_extreme.2.1 49 = .ok (.iload 5, 2) := by decide +kernel
theorem d2_extreme_51 : decode m2_extreme.2.1 51 = .ok (.if_icmp .ge 7, 3) := by decide +kernel
theorem d2_extreme_54 : decode m2_extreme.2.1 54 = .ok (.iload 7, 2) := by decide +kernel
theorem d2_extreme_56 : decode m2_extreme.2.1 56 = .ok (.istore 5, 2) := by decide +kernel
theorem d2_extreme_58 : decode m2_extreme.2.1 58 = .ok (.iinc 6 1, 3) := by decide +kernel
theorem d2_extreme_61 : decode m2_extreme.2.1 61 = .ok (.goto (-55), 3) := by decide +kernel
theorem d2_extreme_64 : decode m2_extreme.2.1 64 = .ok (.iload 5, 2) := by decide +kernel
theorem d2_extreme_66 : decode m2_extreme.2.1 66 = .ok (.ireturn, 1) := by decide +kernel
def b2_extreme_58 (rec6 : Int × Int × AH → Option (Int × AH)) (x1 : Nat) (x2 : Int) (x3 : Int) (x4 : Int) (x5 : Int) (x6 : Int) (h : AH) : Option (Int × AH) :=
  rec6 (x5, (x6 + 1), h)
set_option maxRecDepth 100000 in
theorem t2_extreme_58 (l : Launch) (G : Geo) (d : Nat) (hd : 5 ≤ d) (x1 : Nat) (x2 : Int) (x3 : Int) (x4 : Int) (x5 : Int) (x6 : Int) (rec6 : Int × Int × AH → Option (Int × AH)) (H6 : ∀ (x5 : Int) (x6 : Int) (h : AH), ok h.1 x1 9 → Den l G m2_extreme rvI d 6 [some (vA G 66), some (vA G x1), some (vI x2), some (vI x3), some (vI x4), some (vI x5), some (vI x6), none] [] h (rec6 (x5, x6, h))) (h : AH) (kx1 : ok h.1 x1 9) : Den l G m2_extreme rvI d 58 [some (vA G 66), some (vA G x1), some (vI x2), some (vI x3), some (vI x4), some (vI x5), some (vI x6), none] [] h (b2_extreme_58 rec6 x1 x2 x3 x4 x5 x6 h) := by
  unfold b2_extreme_58
  refine den_iinc (pc := 58) (L2 := [some (vA G 66), some (vA G x1), some (vI x2), some (vI x3), some (vI x4), some (vI x5), some (vI (x6 + 1)), none]) d2_extreme_58 (by decide) rfl rfl ?_
  refine den_goto (pc := 61) (tgt := 6) d2_extreme_61 (by decide) ?_
  exact H6 x5 (x6 + 1) h kx1
def b2_extreme_54 (rec6 : Int × Int × AH → Option (Int × AH)) (x1 : Nat) (x2 : Int) (x3 : Int) (x4 : Int) (x6 : Int) (x7 : Int) (h : AH) : Option (Int × AH) :=
  b2_extreme_58 rec6 x1 x2 x3 x4 x7 x6 h
set_option maxRecDepth 100000 in
theorem t2_extreme_54 (l : Launch) (G : Geo) (d : Nat) (hd : 5 ≤ d) (x1 : Nat) (x2 : Int) (x3 : Int) (x4 : Int) (x6 : Int) (x7 : Int) (rec6 : Int × Int × AH → Option (Int × AH)) (H6 : ∀ (x5 : Int) (x6 : Int) (h : AH), ok h.1 x1 9 → Den l G m2_extreme rvI d 6 [some (vA G 66), some (vA G x1), some (vI x2), some (vI x3), some (vI x4), some (vI x5), some (vI x6), none] [] h (rec6 (x5, x6, h))) (h : AH) (kx1 : ok h.1 x1 9) : Den l G m2_extreme rvI d 54 [some (vA G 66), some (vA G x1), some (vI x2), some (vI x3), some (vI x4), none, some (vI x6), some (vI x7)] [] h (b2_extreme_54 rec6 x1 x2 x3 x4 x6 x7 h) := by
  unfold b2_extreme_54
  refine den_iload (pc := 54) d2_extreme_54 rfl ?_
  refine den_istore (pc := 56) (L2 := [some (vA G 66), some (vA G x1), some (vI x2), some (vI x3), some (vI x4), some (vI x7), some (vI x6), some (vI x7)]) d2_extreme_56 (by decide) rfl ?_
  refine den_wk [true, true, true, true, true, true, true, false] rfl ?_
  exact t2_extreme_58 l G _ hd x1 x2 x3 x4 x7 x6 rec6 H6 h kx1
def b2_extreme_6 (rec6 : Int × Int × AH → Option (Int × AH)) (x1 : Nat) (x2 : Int) (x3 : Int) (x4 : Int) (x5 : Int) (x6 : Int) (h : AH) : Option (Int × AH) :=
  if w32 (h.2 66 2) ≤ w32 x6 then
    some (x5, h)
  else
    bnd (f2_burningNext x1 x6 x2 x3 h) fun r1 h2 =>
    if w32 x5 = (-1) then
      b2_extreme_54 rec6 x1 x2 x3 x4 x6 r1 h2
    else
      if w32 x4 = 0 then
        if w32 x5 ≤ w32 r1 then
          b2_extreme_58 rec6 x1 x2 x3 x4 x5 x6 h2
        else
          b2_extreme_54 rec6 x1 x2 x3 x4 x6 r1 h2
      else
        if w32 r1 ≤ w32 x5 then
          b2_extreme_58 rec6 x1 x2 x3 x4 x5 x6 h2
        else
          b2_extreme_54 rec6 x1 x2 x3 x4 x6 r1 h2
set_option maxRecDepth 100000 in
theorem t2_extreme_6 (l : Launch) (G : Geo) (d : Nat) (hd : 5 ≤ d) (x1 : Nat) (x2 : Int) (x3 : Int) (x4 : Int) (x5 : Int) (x6 : Int) (rec6 : Int × Int × AH → Option (Int × AH)) (H6 : ∀ (x5 : Int) (x6 : Int) (h : AH), ok h.1 x1 9 → Den l G m2_extreme rvI d 6 [some (vA G 66), some (vA G x1), some (vI x2), some (vI x3), some (vI x4), some (vI x5), some (vI x6), none] [] h (rec6 (x5, x6, h))) (h : AH) (kx1 : ok h.1 x1 9) : Den l G m2_extreme rvI d 6 [some (vA G 66), some (vA G x1), some (vI x2), some (vI x3), some (vI x4), some (vI x5), some (vI x6), none] [] h (b2_extreme_6 rec6 x1 x2 x3 x4 x5 x6 h) := by
  unfold b2_extreme_6
  refine den_iload (pc := 6) d2_extreme_6 rfl ?_
  refine den_aload_n (pc := 8) d2_extreme_8 rfl rfl ?_
  refine den_getI (pc := 9) fa_2_18 (ok_66 _) d2_extreme_9 ?_
  refine den_icmp_ge (pc := 12) (tgt := 64) d2_extreme_12 (by decide) rfl rfl (fun _ => ?_) (fun _ => ?_)
  · refine den_iload (pc := 64) d2_extreme_64 rfl ?_
    exact den_iret (pc := 66) rfl d2_extreme_66
  · refine den_aload_n (pc := 15) d2_extreme_15 rfl rfl ?_
    refine den_aload_n (pc := 16) d2_extreme_16 rfl rfl ?_
    refine den_iload (pc := 17) d2_extreme_17 rfl ?_
    refine den_iload_n (pc := 19) d2_extreme_19 rfl rfl ?_
    refine den_iload_n (pc := 20) d2_extreme_20 rfl rfl ?_
    refine den_callVI (pc := 21) (As := [vA G x1, vI x6, vI x2, vI x3]) fv_2_80 rfl rfl (ok_66 _) (Nat.le_of_ble_eq_true rfl) (Nat.le_trans (by decide) hd) d2_extreme_21 (c2_burningNext l G x1 x6 x2 x3 h kx1) (fun r1 h2 m3 o4 => ?_)
    have q5 := ok.mono kx1 m3
    refine den_istore (pc := 24) (L2 := [some (vA G 66), some (vA G x1), some (vI x2), some (vI x3), some (vI x4), some (vI x5), some (vI x6), some (vI r1)]) d2_extreme_24 (by decide) rfl ?_
    refine den_iload (pc := 26) d2_extreme_26 rfl ?_
    refine den_iconst (pc := 28) d2_extreme_28 ?_
    refine den_icmp_eq (pc := 29) (tgt := 54) d2_extreme_29 (by decide) rfl (by decide) (fun _ => ?_) (fun _ => ?_)
    · refine den_wk [true, true, true, true, true, false, true, true] rfl ?_
      exact t2_extreme_54 l G _ hd x1 x2 x3 x4 x6 r1 rec6 H6 h2 q5
    · refine den_iload (pc := 32) d2_extreme_32 rfl ?_
      refine den_if_eq (pc := 34) (tgt := 47) d2_extreme_34 (by decide) rfl (fun _ => ?_) (fun _ => ?_)
      · refine den_iload (pc := 47) d2_extreme_47 rfl ?_
        refine den_iload (pc := 49) d2_extreme_49 rfl ?_
        refine den_icmp_ge (pc := 51) (tgt := 58) d2_extreme_51 (by decide) rfl rfl (fun _ => ?_) (fun _ => ?_)
        · refine den_wk [true, true, true, true, true, true, true, false] rfl ?_
          exact t2_extreme_58 l G _ hd x1 x2 x3 x4 x5 x6 rec6 H6 h2 q5
        · refine den_wk [true, true, true, true, true, false, true, true] rfl ?_
          exact t2_extreme_54 l G _ hd x1 x2 x3 x4 x6 r1 rec6 H6 h2 q5
      · refine den_iload (pc := 37) d2_extreme_37 rfl ?_
        refine den_iload (pc := 39) d2_extreme_39 rfl ?_
        refine den_icmp_le (pc := 41) (tgt := 58) d2_extreme_41 (by decide) rfl rfl (fun _ => ?_) (fun _ => ?_)
        · refine den_wk [true, true, true, true, true, true, true, false] rfl ?_
          exact t2_extreme_58 l G _ hd x1 x2 x3 x4 x5 x6 rec6 H6 h2 q5
        · refine den_goto (pc := 44) (tgt := 54) d2_extreme_44 (by decide) ?_
          refine den_wk [true, true, true, true, true, false, true, true] rfl ?_
          exact t2_extreme_54 l G _ hd x1 x2 x3 x4 x6 r1 rec6 H6 h2 q5
def l2_extreme_6 (x1 : Nat) (x2 : Int) (x3 : Int) (x4 : Int) (x5 : Int) (x6 : Int) (h : AH) : Option (Int × AH) := fx (fun rec z => b2_extreme_6 rec x1 x2 x3 x4 z.1 z.2.1 z.2.2) FU (x5, x6, h)
set_option maxRecDepth 100000 in
theorem tl2_extreme_6 (l : Launch) (G : Geo) (d : Nat) (hd : 5 ≤ d) (x1 : Nat) (x2 : Int) (x3 : Int) (x4 : Int) : ∀ (n : Nat) (z : Int × Int × AH), ok z.2.2.1 x1 9 → Den l G m2_extreme rvI d 6 [some (vA G 66), some (vA G x1), some (vI x2), some (vI x3), some (vI x4), some (vI z.1), some (vI z.2.1), none] [] z.2.2 (fx (fun rec z => b2_extreme_6 rec x1 x2 x3 x4 z.1 z.2.1 z.2.2) n z) :=
  den_fx (F := fun rec z => b2_extreme_6 rec x1 x2 x3 x4 z.1 z.2.1 z.2.2) (P := fun z => ok z.2.2.1 x1 9) (fL := fun z => [some (vA G 66), some (vA G x1), some (vI x2), some (vI x3), some (vI x4), some (vI z.1), some (vI z.2.1), none]) (fs := fun z => []) (fh := fun z => z.2.2) (fun rec hrec z hz => t2_extreme_6 l G d hd x1 x2 x3 x4 z.1 z.2.1 rec (fun x5 x6 h w0 => hrec (x5, x6, h) w0) z.2.2 hz)
def f2_extreme (x1 : Nat) (x2 : Int) (x3 : Int) (x4 : Int) (h : AH) : Option (Int × AH) :=
  l2_extreme_6 x1 x2 x3 x4 (-1) 0 h
set_option maxRecDepth 100000 in
theorem c2_extreme (l : Launch) (G : Geo) (x1 : Nat) (x2 : Int) (x3 : Int) (x4 : Int) (h : AH) (kx1 : ok h.1 x1 9) : Con l G m2_extreme rvI 5 [vA G 66, vA G x1, vI x2, vI x3, vI x4] h (f2_extreme x1 x2 x3 x4 h) := by
  have hd : 5 ≤ 5 := Nat.le_refl _
  refine con_I rfl (by decide) rfl rfl (Nat.le_of_ble_eq_true rfl) (L := [some (vA G 66), some (vA G x1), some (vI x2), some (vI x3), some (vI x4), none, none, none]) ?_
  unfold f2_extreme
  refine den_iconst (pc := 0) d2_extreme_0 ?_
  refine den_istore (pc := 1) (L2 := [some (vA G 66), some (vA G x1), some (vI x2), some (vI x3), some (vI x4), some (vI (-1)), none, none]) d2_extreme_1 (by decide) rfl ?_
  refine den_iconst (pc := 3) d2_extreme_3 ?_
  refine den_istore (pc := 4) (L2 := [some (vA G 66), some (vA G x1), some (vI x2), some (vI x3), some (vI x4), some (vI (-1)), some (vI 0), none]) d2_extreme_4 (by decide) rfl ?_
  exact tl2_extreme_6 l G _ hd x1 x2 x3 x4 FU ((-1), 0, h) kx1
theorem d3_byQuarrel_0 : decode m3_byQuarrel.2.1 0 = .ok (.iload_n 3, 1) := by decide +kernel
theorem d3_byQuarrel_1 : decode m3_byQuarrel.2.1 1 = .ok (.iload 4, 2) := by decide +kernel
theorem d3_byQuarrel_3 : decode m3_byQuarrel.2.1 3 = .ok (.iadd, 1) := by decide +kernel
theorem d3_byQuarrel_4 : decode m3_byQuarrel.2.1 4 = .ok (.istore 5, 2) := by decide +kernel
theorem d3_byQuarrel_6 : decode m3_byQuarrel.2.1 6 = .ok (.iload 4, 2) := by decide +kernel
theorem d3_byQuarrel_8 : decode m3_byQuarrel.2.1 8 = .ok (.ifCond .eq 32, 3) := by decide +kernel
theorem d3_byQuarrel_11 : decode m3_byQuarrel.2.1 11 = .ok (.iload 5, 2) := by decide +kernel
theorem d3_byQuarrel_13 : decode m3_byQuarrel.2.1 13 = .ok (.aload_n 1, 1) := by decide +kernel
theorem d3_byQuarrel_14 : decode m3_byQuarrel.2.1 14 = .ok (.getfield 56, 3) := by decide +kernel
theorem d3_byQuarrel_17 : decode m3_byQuarrel.2.1 17 = .ok (.iload_n 2, 1) := by decide +kernel
theorem d3_byQuarrel_18 : decode m3_byQuarrel.2.1 18 = .ok (.iaload, 1) := by decide +kernel
theorem d3_byQuarrel_19 : decode m3_byQuarrel.2.1 19 = .ok (.if_icmp .lt 21, 3) := by decide +kernel
theorem d3_byQuarrel_22 : decode m3_byQuarrel.2.1 22 = .ok (.iload 5, 2) := by decide +kernel
theorem d3_byQuarrel_24 : decode m3_byQuarrel.2.1 24 = .ok (.aload_n 1, 1) := by decide +kernel
theorem d3_byQuarrel_25 : decode m3_byQuarrel.2.1 25 = .ok (.getfield 59, 3) := by decide +kernel
theorem d3_byQuarrel_28 : decode m3_byQuarrel.2.1 28 = .ok (.iload_n 2, 1) := by decide +kernel
theorem d3_byQuarrel_29 : decode m3_byQuarrel.2.1 29 = .ok (.iaload, 1) := by decide +kernel
theorem d3_byQuarrel_30 : decode m3_byQuarrel.2.1 30 = .ok (.if_icmp .gt 10, 3) := by decide +kernel
theorem d3_byQuarrel_33 : decode m3_byQuarrel.2.1 33 = .ok (.iload 5, 2) := by decide +kernel
theorem d3_byQuarrel_35 : decode m3_byQuarrel.2.1 35 = .ok (.bipush 99, 2) := by decide +kernel
theorem d3_byQuarrel_37 : decode m3_byQuarrel.2.1 37 = .ok (.if_icmp .le 5, 3) := by decide +kernel
theorem d3_byQuarrel_40 : decode m3_byQuarrel.2.1 40 = .ok (.iconst 0, 1) := by decide +kernel
theorem d3_byQuarrel_41 : decode m3_byQuarrel.2.1 41 = .ok (.ireturn, 1) := by decide +kernel
theorem d3_byQuarrel_42 : decode m3_byQuarrel.2.1 42 = .ok (.iconst 1, 1) := by decide +kernel
theorem d3_byQuarrel_43 : decode m3_byQuarrel.2.1 43 = .ok (.aload_n 0, 1) := by decide +kernel
theorem d3_byQuarrel_44 : decode m3_byQuarrel.2.1 44 = .ok (.getfield 15, 3) := by decide +kernel
theorem d3_byQuarrel_47 : decode m3_byQuarrel.2.1 47 = .ok (.iconst 0, 1) := by decide +kernel
theorem d3_byQuarrel_48 : decode m3_byQuarrel.2.1 48 = .ok (.iload 5, 2) := by decide +kernel
theorem d3_byQuarrel_50 : decode m3_byQuarrel.2.1 50 = .ok (.aload_n 1, 1) := by decide +kernel
theorem d3_byQuarrel_51 : decode m3_byQuarrel.2.1 51 = .ok (.getfield 62, 3) := by decide +kernel
theorem d3_byQuarrel_54 : decode m3_byQuarrel.2.1 54 = .ok (.isub, 1) := by decide +kernel
theorem d3_byQuarrel_55 : decode m3_byQuarrel.2.1 55 = .ok (.invokestatic 42, 3) := by decide +kernel
theorem d3_byQuarrel_58 : decode m3_byQuarrel.2.1 58 = .ok (.iaload, 1) := by decide +kernel
theorem d3_byQuarrel_59 : decode m3_byQuarrel.2.1 59 = .ok (.iadd, 1) := by decide +kernel
theorem d3_byQuarrel_60 : decode m3_byQuarrel.2.1 60 = .ok (.ireturn, 1) := by decide +kernel
def f3_byQuarrel (x1 : Nat) (x2 : Int) (x3 : Int) (x4 : Int) (h : AH) : Option (Int × AH) :=
  lt (x3 + x4) fun u1 =>
  if w32 x4 = 0 then
    some (0, h)
  else
    asrt (0 ≤ w32 x2 ∧ w32 x2 < 4) <|
    if w32 u1 < w32 (h.2 (x1 + 3) (w32 x2).toNat) then
      some (0, h)
    else
      asrt (0 ≤ w32 x2 ∧ w32 x2 < 4) <|
      if w32 (h.2 (x1 + 4) (w32 x2).toNat) < w32 u1 then
        some (0, h)
      else
        if w32 u1 ≤ 99 then
          asrt (0 ≤ w32 (max32 0 (u1 - (h.2 x1 3))) ∧ w32 (max32 0 (u1 - (h.2 x1 3))) < 100) <|
          some (1 + (h.2 61 (w32 (max32 0 (u1 - (h.2 x1 3)))).toNat), h)
        else
          some (0, h)
set_option maxRecDepth 100000 in
theorem c3_byQuarrel (l : Launch) (G : Geo) (x1 : Nat) (x2 : Int) (x3 : Int) (x4 : Int) (h : AH) (kx1 : ok h.1 x1 9) : Con l G m3_byQuarrel rvI 3 [vA G 59, vA G x1, vI x2, vI x3, vI x4] h (f3_byQuarrel x1 x2 x3 x4 h) := by
  have hd : 3 ≤ 3 := Nat.le_refl _
  refine con_I rfl (by decide) rfl rfl (Nat.le_of_ble_eq_true rfl) (L := [some (vA G 59), some (vA G x1), some (vI x2), some (vI x3), some (vI x4), none]) ?_
  unfold f3_byQuarrel
  refine den_iload_n (pc := 0) d3_byQuarrel_0 rfl rfl ?_
  refine den_iload (pc := 1) d3_byQuarrel_1 rfl ?_
  refine den_iadd (pc := 3) d3_byQuarrel_3 ?_
  refine den_istoreL (pc := 4) (L2 := fun y => [some (vA G 59), some (vA G x1), some (vI x2), some (vI x3), some (vI x4), some (vI y)]) d3_byQuarrel_4 (by decide) (fun _ => rfl) (fun u1 => ?_)
  refine den_iload (pc := 6) d3_byQuarrel_6 rfl ?_
  refine den_if_eq (pc := 8) (tgt := 40) d3_byQuarrel_8 (by decide) rfl (fun _ => ?_) (fun _ => ?_)
  · refine den_iconst (pc := 40) d3_byQuarrel_40 ?_
    exact den_iret (pc := 41) rfl d3_byQuarrel_41
  · refine den_iload (pc := 11) d3_byQuarrel_11 rfl ?_
    refine den_aload_n (pc := 13) d3_byQuarrel_13 rfl rfl ?_
    refine den_getR (pc := 14) (b := x1 + 3) fa_3_56 kx1 rfl d3_byQuarrel_14 ?_
    refine den_iload_n (pc := 17) d3_byQuarrel_17 rfl rfl ?_
    refine den_asrt (fun a2 => ?_)
    refine den_iaload (pc := 18) (vil_s3 kx1) (vil_l3 kx1) rfl a2 d3_byQuarrel_18 ?_
    refine den_icmp_lt (pc := 19) (tgt := 40) d3_byQuarrel_19 (by decide) rfl rfl (fun _ => ?_) (fun _ => ?_)
    · refine den_iconst (pc := 40) d3_byQuarrel_40 ?_
      exact den_iret (pc := 41) rfl d3_byQuarrel_41
    · refine den_iload (pc := 22) d3_byQuarrel_22 rfl ?_
      refine den_aload_n (pc := 24) d3_byQuarrel_24 rfl rfl ?_
      refine den_getR (pc := 25) (b := x1 + 4) fa_3_59 kx1 rfl d3_byQuarrel_25 ?_
      refine den_iload_n (pc := 28) d3_byQuarrel_28 rfl rfl ?_
      refine den_asrt (fun a3 => ?_)
      refine den_iaload (pc := 29) (vil_s4 kx1) (vil_l4 kx1) rfl a3 d3_byQuarrel_29 ?_
      refine den_icmp_gt (pc := 30) (tgt := 40) d3_byQuarrel_30 (by decide) rfl rfl (fun _ => ?_) (fun _ => ?_)
      · refine den_iconst (pc := 40) d3_byQuarrel_40 ?_
        exact den_iret (pc := 41) rfl d3_byQuarrel_41
      · refine den_iload (pc := 33) d3_byQuarrel_33 rfl ?_
        refine den_bipush (pc := 35) d3_byQuarrel_35 (by decide) ?_
        refine den_icmp_le (pc := 37) (tgt := 42) d3_byQuarrel_37 (by decide) rfl (by decide) (fun _ => ?_) (fun _ => ?_)
        · refine den_iconst (pc := 42) d3_byQuarrel_42 ?_
          refine den_aload_n (pc := 43) d3_byQuarrel_43 rfl rfl ?_
          refine den_getR (pc := 44) (b := 61) fa_3_15 (ok_59 _) rfl d3_byQuarrel_44 ?_
          refine den_iconst (pc := 47) d3_byQuarrel_47 ?_
          refine den_iload (pc := 48) d3_byQuarrel_48 rfl ?_
          refine den_aload_n (pc := 50) d3_byQuarrel_50 rfl rfl ?_
          refine den_getI (pc := 51) fa_3_62 kx1 d3_byQuarrel_51 ?_
          refine den_isub (pc := 54) d3_byQuarrel_54 ?_
          refine den_max (pc := 55) fm_3_42 (Nat.le_of_ble_eq_true rfl) (Nat.le_trans (by decide) hd) d3_byQuarrel_55 ?_
          refine den_asrt (fun a4 => ?_)
          refine den_iaload (pc := 58) sh_61 (sz_lt (by decide)) rfl a4 d3_byQuarrel_58 ?_
          refine den_iadd (pc := 59) d3_byQuarrel_59 ?_
          exact den_iret (pc := 60) rfl d3_byQuarrel_60
        · refine den_iconst (pc := 40) d3_byQuarrel_40 ?_
          exact den_iret (pc := 41) rfl d3_byQuarrel_41
theorem d3_byRest_0 : decode m3_byRest.2.1 0 = .ok (.iload_n 3, 1) := by decide +kernel
theorem d3_byRest_1 : decode m3_byRest.2.1 1 = .ok (.aload_n 1, 1) := by decide +kernel
theorem d3_byRest_2 : decode m3_byRest.2.1 2 = .ok (.getfield 56, 3) := by decide +kernel
theorem d3_byRest_5 : decode m3_byRest.2.1 5 = .ok (.iload_n 2, 1) := by decide +kernel
theorem d3_byRest_6 : decode m3_byRest.2.1 6 = .ok (.iaload, 1) := by decide +kernel
theorem d3_byRest_7 : decode m3_byRest.2.1 7 = .ok (.if_icmp .ge 5, 3) := by decide +kernel
theorem d3_byRest_10 : decode m3_byRest.2.1 10 = .ok (.iconst 0, 1) := by decide +kernel
theorem d3_byRest_11 : decode m3_byRest.2.1 11 = .ok (.ireturn, 1) := by decide +kernel
theorem d3_byRest_12 : decode m3_byRest.2.1 12 = .ok (.aload_n 1, 1) := by decide +kernel
theorem d3_byRest_13 : decode m3_byRest.2.1 13 = .ok (.getfield 62, 3) := by decide +kernel
theorem d3_byRest_16 : decode m3_byRest.2.1 16 = .ok (.ifCond .ne 8, 3) := by decide +kernel
theorem d3_byRest_19 : decode m3_byRest.2.1 19 = .ok (.bipush 99, 2) := by decide +kernel
theorem d3_byRest_21 : decode m3_byRest.2.1 21 = .ok (.goto 20, 3) := by decide +kernel
theorem d3_byRest_24 : decode m3_byRest.2.1 24 = .ok (.iconst 1, 1) := by decide +kernel
theorem d3_byRest_25 : decode m3_byRest.2.1 25 = .ok (.aload_n 0, 1) := by decide +kernel
theorem d3_byRest_26 : decode m3_byRest.2.1 26 = .ok (.getfield 9, 3) := by decide +kernel
theorem d3_byRest_29 : decode m3_byRest.2.1 29 = .ok (.iconst 0, 1) := by decide +kernel
theorem d3_byRest_30 : decode m3_byRest.2.1 30 = .ok (.iload_n 3, 1) := by decide +kernel
theorem d3_byRest_31 : decode m3_byRest.2.1 31 = .ok (.aload_n 1, 1) := by decide +kernel
theorem d3_byRest_32 : decode m3_byRest.2.1 32 = .ok (.getfield 62, 3) := by decide +kernel
theorem d3_byRest_35 : decode m3_byRest.2.1 35 = .ok (.isub, 1) := by decide +kernel
theorem d3_byRest_36 : decode m3_byRest.2.1 36 = .ok (.invokestatic 42, 3) := by decide +kernel
theorem d3_byRest_39 : decode m3_byRest.2.1 39 = .ok (.iaload, 1) := by decide +kernel
theorem d3_byRest_40 : decode m3_byRest.2.1 40 = .ok (.iadd, 1) := by decide +kernel
theorem d3_byRest_41 : decode m3_byRest.2.1 41 = .ok (.ireturn, 1) := by decide +kernel
def f3_byRest (x1 : Nat) (x2 : Int) (x3 : Int) (h : AH) : Option (Int × AH) :=
  asrt (0 ≤ w32 x2 ∧ w32 x2 < 4) <|
  if w32 (h.2 (x1 + 3) (w32 x2).toNat) ≤ w32 x3 then
    if ¬ w32 (h.2 x1 3) = 0 then
      asrt (0 ≤ w32 (max32 0 (x3 - (h.2 x1 3))) ∧ w32 (max32 0 (x3 - (h.2 x1 3))) < 100) <|
      some (1 + (h.2 60 (w32 (max32 0 (x3 - (h.2 x1 3)))).toNat), h)
    else
      some (99, h)
  else
    some (0, h)
set_option maxRecDepth 100000 in
theorem c3_byRest (l : Launch) (G : Geo) (x1 : Nat) (x2 : Int) (x3 : Int) (h : AH) (kx1 : ok h.1 x1 9) : Con l G m3_byRest rvI 3 [vA G 59, vA G x1, vI x2, vI x3] h (f3_byRest x1 x2 x3 h) := by
  have hd : 3 ≤ 3 := Nat.le_refl _
  refine con_I rfl (by decide) rfl rfl (Nat.le_of_ble_eq_true rfl) (L := [some (vA G 59), some (vA G x1), some (vI x2), some (vI x3)]) ?_
  unfold f3_byRest
  refine den_iload_n (pc := 0) d3_byRest_0 rfl rfl ?_
  refine den_aload_n (pc := 1) d3_byRest_1 rfl rfl ?_
  refine den_getR (pc := 2) (b := x1 + 3) fa_3_56 kx1 rfl d3_byRest_2 ?_
  refine den_iload_n (pc := 5) d3_byRest_5 rfl rfl ?_
  refine den_asrt (fun a1 => ?_)
  refine den_iaload (pc := 6) (vil_s3 kx1) (vil_l3 kx1) rfl a1 d3_byRest_6 ?_
  refine den_icmp_ge (pc := 7) (tgt := 12) d3_byRest_7 (by decide) rfl rfl (fun _ => ?_) (fun _ => ?_)
  · refine den_aload_n (pc := 12) d3_byRest_12 rfl rfl ?_
    refine den_getI (pc := 13) fa_3_62 kx1 d3_byRest_13 ?_
    refine den_if_ne (pc := 16) (tgt := 24) d3_byRest_16 (by decide) rfl (fun _ => ?_) (fun _ => ?_)
    · refine den_iconst (pc := 24) d3_byRest_24 ?_
      refine den_aload_n (pc := 25) d3_byRest_25 rfl rfl ?_
      refine den_getR (pc := 26) (b := 60) fa_3_9 (ok_59 _) rfl d3_byRest_26 ?_
      refine den_iconst (pc := 29) d3_byRest_29 ?_
      refine den_iload_n (pc := 30) d3_byRest_30 rfl rfl ?_
      refine den_aload_n (pc := 31) d3_byRest_31 rfl rfl ?_
      refine den_getI (pc := 32) fa_3_62 kx1 d3_byRest_32 ?_
      refine den_isub (pc := 35) d3_byRest_35 ?_
      refine den_max (pc := 36) fm_3_42 (Nat.le_of_ble_eq_true rfl) (Nat.le_trans (by decide) hd) d3_byRest_36 ?_
      refine den_asrt (fun a2 => ?_)
      refine den_iaload (pc := 39) sh_60 (sz_lt (by decide)) rfl a2 d3_byRest_39 ?_
      refine den_iadd (pc := 40) d3_byRest_40 ?_
      exact den_iret (pc := 41) rfl d3_byRest_41
    · refine den_bipush (pc := 19) d3_byRest_19 (by decide) ?_
      refine den_goto (pc := 21) (tgt := 41) d3_byRest_21 (by decide) ?_
      exact den_iret (pc := 41) rfl d3_byRest_41
  · refine den_iconst (pc := 10) d3_byRest_10 ?_
    exact den_iret (pc := 11) rfl d3_byRest_11
theorem d9_hasHearth_0 : decode m9_hasHearth.2.1 0 = .ok (.iload_n 1, 1) := by decide +kernel
theorem d9_hasHearth_1 : decode m9_hasHearth.2.1 1 = .ok (.ifCond .lt 15, 3) := by decide +kernel
theorem d9_hasHearth_4 : decode m9_hasHearth.2.1 4 = .ok (.iload_n 1, 1) := by decide +kernel
theorem d9_hasHearth_5 : decode m9_hasHearth.2.1 5 = .ok (.aload_n 0, 1) := by decide +kernel
theorem d9_hasHearth_6 : decode m9_hasHearth.2.1 6 = .ok (.getfield 37, 3) := by decide +kernel
theorem d9_hasHearth_9 : decode m9_hasHearth.2.1 9 = .ok (.if_icmp .ge 7, 3) := by decide +kernel
theorem d9_hasHearth_12 : decode m9_hasHearth.2.1 12 = .ok (.iconst 1, 1) := by decide +kernel
theorem d9_hasHearth_13 : decode m9_hasHearth.2.1 13 = .ok (.goto 4, 3) := by decide +kernel
theorem d9_hasHearth_16 : decode m9_hasHearth.2.1 16 = .ok (.iconst 0, 1) := by decide +kernel
theorem d9_hasHearth_17 : decode m9_hasHearth.2.1 17 = .ok (.ireturn, 1) := by decide +kernel
def f9_hasHearth (x0 : Nat) (x1 : Int) (h : AH) : Option (Int × AH) :=
  if w32 x1 < 0 then
    some (0, h)
  else
    if w32 (h.2 x0 2) ≤ w32 x1 then
      some (0, h)
    else
      some (1, h)
set_option maxRecDepth 100000 in
theorem c9_hasHearth (l : Launch) (G : Geo) (x0 : Nat) (x1 : Int) (h : AH) (kx0 : ok h.1 x0 9) : Con l G m9_hasHearth rvI 2 [vA G x0, vI x1] h (f9_hasHearth x0 x1 h) := by
  have hd : 2 ≤ 2 := Nat.le_refl _
  refine con_Z rfl (by decide) rfl rfl (Nat.le_of_ble_eq_true rfl) (L := [some (vA G x0), some (vI x1)]) ?_
  unfold f9_hasHearth
  refine den_iload_n (pc := 0) d9_hasHearth_0 rfl rfl ?_
  refine den_if_lt (pc := 1) (tgt := 16) d9_hasHearth_1 (by decide) rfl (fun _ => ?_) (fun _ => ?_)
  · refine den_iconst (pc := 16) d9_hasHearth_16 ?_
    exact den_zret (pc := 17) rfl (by decide) d9_hasHearth_17
  · refine den_iload_n (pc := 4) d9_hasHearth_4 rfl rfl ?_
    refine den_aload_n (pc := 5) d9_hasHearth_5 rfl rfl ?_
    refine den_getI (pc := 6) fa_9_37 kx0 d9_hasHearth_6 ?_
    refine den_icmp_ge (pc := 9) (tgt := 16) d9_hasHearth_9 (by decide) rfl rfl (fun _ => ?_) (fun _ => ?_)
    · refine den_iconst (pc := 16) d9_hasHearth_16 ?_
      exact den_zret (pc := 17) rfl (by decide) d9_hasHearth_17
    · refine den_iconst (pc := 12) d9_hasHearth_12 ?_
      refine den_goto (pc := 13) (tgt := 17) d9_hasHearth_13 (by decide) ?_
      exact den_zret (pc := 17) rfl (by decide) d9_hasHearth_17
