/-! 9_held 9_gap 0_apartOnAny 0_gather 0_grow 0_findLongest 13_bitCount 0_trios 0_alone 1_setBetween 9_hasSubject 9_heatAfter 9_burningInAll 9_burningOnAll 1_gatherTogether 9_heat 9_burning -/
theorem d9_held_0 : decode m9_held.2.1 0 = .ok (.iload_n 1, 1) := by decide +kernel
theorem d9_held_1 : decode m9_held.2.1 1 = .ok (.ifCond .lt 27, 3) := by decide +kernel
theorem d9_held_4 : decode m9_held.2.1 4 = .ok (.iload_n 1, 1) := by decide +kernel
theorem d9_held_5 : decode m9_held.2.1 5 = .ok (.aload_n 0, 1) := by decide +kernel
theorem d9_held_6 : decode m9_held.2.1 6 = .ok (.getfield 31, 3) := by decide +kernel
theorem d9_held_9 : decode m9_held.2.1 9 = .ok (.if_icmp .ge 19, 3) := by decide +kernel
theorem d9_held_12 : decode m9_held.2.1 12 = .ok (.iload_n 2, 1) := by decide +kernel
theorem d9_held_13 : decode m9_held.2.1 13 = .ok (.ifCond .lt 15, 3) := by decide +kernel
theorem d9_held_16 : decode m9_held.2.1 16 = .ok (.iload_n 2, 1) := by decide +kernel
theorem d9_held_17 : decode m9_held.2.1 17 = .ok (.aload_n 0, 1) := by decide +kernel
theorem d9_held_18 : decode m9_held.2.1 18 = .ok (.getfield 34, 3) := by decide +kernel
theorem d9_held_21 : decode m9_held.2.1 21 = .ok (.if_icmp .ge 7, 3) := by decide +kernel
theorem d9_held_24 : decode m9_held.2.1 24 = .ok (.iconst 1, 1) := by decide +kernel
theorem d9_held_25 : decode m9_held.2.1 25 = .ok (.goto 4, 3) := by decide +kernel
theorem d9_held_28 : decode m9_held.2.1 28 = .ok (.iconst 0, 1) := by decide +kernel
theorem d9_held_29 : decode m9_held.2.1 29 = .ok (.istore_n 3, 1) := by decide +kernel
theorem d9_held_30 : decode m9_held.2.1 30 = .ok (.iload_n 3, 1) := by decide +kernel
theorem d9_held_31 : decode m9_held.2.1 31 = .ok (.ifCond .eq 17, 3) := by decide +kernel
theorem d9_held_34 : decode m9_held.2.1 34 = .ok (.aload_n 0, 1) := by decide +kernel
theorem d9_held_35 : decode m9_held.2.1 35 = .ok (.getfield 28, 3) := by decide +kernel
theorem d9_held_38 : decode m9_held.2.1 38 = .ok (.iload_n 1, 1) := by decide +kernel
theorem d9_held_39 : decode m9_held.2.1 39 = .ok (.bipush 6, 2) := by decide +kernel
theorem d9_held_41 : decode m9_held.2.1 41 = .ok (.imul, 1) := by decide +kernel
theorem d9_held_42 : decode m9_held.2.1 42 = .ok (.iload_n 2, 1) := by decide +kernel
theorem d9_held_43 : decode m9_held.2.1 43 = .ok (.iadd, 1) := by decide +kernel
theorem d9_held_44 : decode m9_held.2.1 44 = .ok (.iaload, 1) := by decide +kernel
theorem d9_held_45 : decode m9_held.2.1 45 = .ok (.goto 4, 3) := by decide +kernel
theorem d9_held_48 : decode m9_held.2.1 48 = .ok (.iconst (-1), 1) := by decide +kernel
theorem d9_held_49 : decode m9_held.2.1 49 = .ok (.ireturn, 1) := by decide +kernel
def b9_held_29 (x0 : Nat) (x1 : Int) (x2 : Int) (s0 : Int) (h : AH) : Option (Int × AH) :=
  if w32 s0 = 0 then
    some ((-1), h)
  else
    asrt (0 ≤ w32 ((x1 * 6) + x2) ∧ w32 ((x1 * 6) + x2) < 48) <|
    some (h.2 (x0 + 5) (w32 ((x1 * 6) + x2)).toNat, h)
set_option maxRecDepth 100000 in
theorem t9_held_29 (l : Launch) (G : Geo) (d : Nat) (hd : 2 ≤ d) (x0 : Nat) (x1 : Int) (x2 : Int) (s0 : Int) (h : AH) (kx0 : ok h.1 x0 9) : Den l G m9_held rvI d 29 [some (vA G x0), some (vI x1), some (vI x2), none] [vI s0] h (b9_held_29 x0 x1 x2 s0 h) := by
  unfold b9_held_29
  refine den_istore_n (pc := 29) (L2 := [some (vA G x0), some (vI x1), some (vI x2), some (vI s0)]) d9_held_29 rfl (by decide) rfl ?_
  refine den_iload_n (pc := 30) d9_held_30 rfl rfl ?_
  refine den_if_eq (pc := 31) (tgt := 48) d9_held_31 (by decide) rfl (fun _ => ?_) (fun _ => ?_)
  · refine den_iconst (pc := 48) d9_held_48 ?_
    exact den_iret (pc := 49) rfl d9_held_49
  · refine den_aload_n (pc := 34) d9_held_34 rfl rfl ?_
    refine den_getR (pc := 35) (b := x0 + 5) fa_9_28 kx0 rfl d9_held_35 ?_
    refine den_iload_n (pc := 38) d9_held_38 rfl rfl ?_
    refine den_bipush (pc := 39) d9_held_39 (by decide) ?_
    refine den_imul (pc := 41) d9_held_41 ?_
    refine den_iload_n (pc := 42) d9_held_42 rfl rfl ?_
    refine den_iadd (pc := 43) d9_held_43 ?_
    refine den_asrt (fun a1 => ?_)
    refine den_iaload (pc := 44) (vil_s5 kx0) (vil_l5 kx0) rfl a1 d9_held_44 ?_
    refine den_goto (pc := 45) (tgt := 49) d9_held_45 (by decide) ?_
    exact den_iret (pc := 49) rfl d9_held_49
def b9_held_28 (x0 : Nat) (x1 : Int) (x2 : Int) (h : AH) : Option (Int × AH) :=
  b9_held_29 x0 x1 x2 0 h
set_option maxRecDepth 100000 in
theorem t9_held_28 (l : Launch) (G : Geo) (d : Nat) (hd : 2 ≤ d) (x0 : Nat) (x1 : Int) (x2 : Int) (h : AH) (kx0 : ok h.1 x0 9) : Den l G m9_held rvI d 28 [some (vA G x0), some (vI x1), some (vI x2), none] [] h (b9_held_28 x0 x1 x2 h) := by
  unfold b9_held_28
  refine den_iconst (pc := 28) d9_held_28 ?_
  exact t9_held_29 l G _ hd x0 x1 x2 0 h kx0
def f9_held (x0 : Nat) (x1 : Int) (x2 : Int) (h : AH) : Option (Int × AH) :=
  if w32 x1 < 0 then
    b9_held_28 x0 x1 x2 h
  else
    if w32 (h.2 x0 0) ≤ w32 x1 then
      b9_held_28 x0 x1 x2 h
    else
      if w32 x2 < 0 then
        b9_held_28 x0 x1 x2 h
      else
        if w32 (h.2 x0 1) ≤ w32 x2 then
          b9_held_28 x0 x1 x2 h
        else
          b9_held_29 x0 x1 x2 1 h
set_option maxRecDepth 100000 in
theorem c9_held (l : Launch) (G : Geo) (x0 : Nat) (x1 : Int) (x2 : Int) (h : AH) (kx0 : ok h.1 x0 9) : Con l G m9_held rvI 2 [vA G x0, vI x1, vI x2] h (f9_held x0 x1 x2 h) := by
  have hd : 2 ≤ 2 := Nat.le_refl _
  refine con_I rfl (by decide) rfl rfl (Nat.le_of_ble_eq_true rfl) (L := [some (vA G x0), some (vI x1), some (vI x2), none]) ?_
  unfold f9_held
  refine den_iload_n (pc := 0) d9_held_0 rfl rfl ?_
  refine den_if_lt (pc := 1) (tgt := 28) d9_held_1 (by decide) rfl (fun _ => ?_) (fun _ => ?_)
  · exact t9_held_28 l G _ hd x0 x1 x2 h kx0
  · refine den_iload_n (pc := 4) d9_held_4 rfl rfl ?_
    refine den_aload_n (pc := 5) d9_held_5 rfl rfl ?_
    refine den_getI (pc := 6) fa_9_31 kx0 d9_held_6 ?_
    refine den_icmp_ge (pc := 9) (tgt := 28) d9_held_9 (by decide) rfl rfl (fun _ => ?_) (fun _ => ?_)
    · exact t9_held_28 l G _ hd x0 x1 x2 h kx0
    · refine den_iload_n (pc := 12) d9_held_12 rfl rfl ?_
      refine den_if_lt (pc := 13) (tgt := 28) d9_held_13 (by decide) rfl (fun _ => ?_) (fun _ => ?_)
      · exact t9_held_28 l G _ hd x0 x1 x2 h kx0
      · refine den_iload_n (pc := 16) d9_held_16 rfl rfl ?_
        refine den_aload_n (pc := 17) d9_held_17 rfl rfl ?_
        refine den_getI (pc := 18) fa_9_34 kx0 d9_held_18 ?_
        refine den_icmp_ge (pc := 21) (tgt := 28) d9_held_21 (by decide) rfl rfl (fun _ => ?_) (fun _ => ?_)
        · exact t9_held_28 l G _ hd x0 x1 x2 h kx0
        · refine den_iconst (pc := 24) d9_held_24 ?_
          refine den_goto (pc := 25) (tgt := 29) d9_held_25 (by decide) ?_
          exact t9_held_29 l G _ hd x0 x1 x2 1 h kx0
theorem d9_gap_0 : decode m9_gap.2.1 0 = .ok (.iload_n 1, 1) := by decide +kernel
theorem d9_gap_1 : decode m9_gap.2.1 1 = .ok (.iload_n 2, 1) := by decide +kernel
theorem d9_gap_2 : decode m9_gap.2.1 2 = .ok (.if_icmp .ne 5, 3) := by decide +kernel
theorem d9_gap_5 : decode m9_gap.2.1 5 = .ok (.iconst (-1), 1) := by decide +kernel
theorem d9_gap_6 : decode m9_gap.2.1 6 = .ok (.ireturn, 1) := by decide +kernel
theorem d9_gap_7 : decode m9_gap.2.1 7 = .ok (.aload_n 0, 1) := by decide +kernel
theorem d9_gap_8 : decode m9_gap.2.1 8 = .ok (.iload_n 1, 1) := by decide +kernel
theorem d9_gap_9 : decode m9_gap.2.1 9 = .ok (.iload_n 3, 1) := by decide +kernel
theorem d9_gap_10 : decode m9_gap.2.1 10 = .ok (.invokevirtual 69, 3) := by decide +kernel
theorem d9_gap_13 : decode m9_gap.2.1 13 = .ok (.istore 4, 2) := by decide +kernel
theorem d9_gap_15 : decode m9_gap.2.1 15 = .ok (.aload_n 0, 1) := by decide +kernel
theorem d9_gap_16 : decode m9_gap.2.1 16 = .ok (.iload_n 2, 1) := by decide +kernel
theorem d9_gap_17 : decode m9_gap.2.1 17 = .ok (.iload_n 3, 1) := by decide +kernel
theorem d9_gap_18 : decode m9_gap.2.1 18 = .ok (.invokevirtual 69, 3) := by decide +kernel
theorem d9_gap_21 : decode m9_gap.2.1 21 = .ok (.istore 5, 2) := by decide +kernel
theorem d9_gap_23 : decode m9_gap.2.1 23 = .ok (.iload 4, 2) := by decide +kernel
theorem d9_gap_25 : decode m9_gap.2.1 25 = .ok (.iconst (-1), 1) := by decide +kernel
theorem d9_gap_26 : decode m9_gap.2.1 26 = .ok (.if_icmp .eq 9, 3) := by decide +kernel
theorem d9_gap_29 : decode m9_gap.2.1 29 = .ok (.iload 5, 2) := by decide +kernel
theorem d9_gap_31 : decode m9_gap.2.1 31 = .ok (.iconst (-1), 1) := by decide +kernel
theorem d9_gap_32 : decode m9_gap.2.1 32 = .ok (.if_icmp .ne 7, 3) := by decide +kernel
theorem d9_gap_35 : decode m9_gap.2.1 35 = .ok (.iconst (-1), 1) := by decide +kernel
theorem d9_gap_36 : decode m9_gap.2.1 36 = .ok (.goto 11, 3) := by decide +kernel
theorem d9_gap_39 : decode m9_gap.2.1 39 = .ok (.iload 4, 2) := by decide +kernel
theorem d9_gap_41 : decode m9_gap.2.1 41 = .ok (.iload 5, 2) := by decide +kernel
theorem d9_gap_43 : decode m9_gap.2.1 43 = .ok (.isub, 1) := by decide +kernel
theorem d9_gap_44 : decode m9_gap.2.1 44 = .ok (.invokestatic 73, 3) := by decide +kernel
theorem d9_gap_47 : decode m9_gap.2.1 47 = .ok (.ireturn, 1) := by decide +kernel
def f9_gap (x0 : Nat) (x1 : Int) (x2 : Int) (x3 : Int) (h : AH) : Option (Int × AH) :=
  if ¬ w32 x1 = w32 x2 then
    bnd (f9_held x0 x1 x3 h) fun r1 h2 =>
    bnd (f9_held x0 x2 x3 h2) fun r6 h7 =>
    if w32 r1 = (-1) then
      some ((-1), h7)
    else
      if ¬ w32 r6 = (-1) then
        some (abs32 (r1 - r6), h7)
      else
        some ((-1), h7)
  else
    some ((-1), h)
set_option maxRecDepth 100000 in
theorem c9_gap (l : Launch) (G : Geo) (x0 : Nat) (x1 : Int) (x2 : Int) (x3 : Int) (h : AH) (kx0 : ok h.1 x0 9) : Con l G m9_gap rvI 3 [vA G x0, vI x1, vI x2, vI x3] h (f9_gap x0 x1 x2 x3 h) := by
  have hd : 3 ≤ 3 := Nat.le_refl _
  refine con_I rfl (by decide) rfl rfl (Nat.le_of_ble_eq_true rfl) (L := [some (vA G x0), some (vI x1), some (vI x2), some (vI x3), none, none]) ?_
  unfold f9_gap
  refine den_iload_n (pc := 0) d9_gap_0 rfl rfl ?_
  refine den_iload_n (pc := 1) d9_gap_1 rfl rfl ?_
  refine den_icmp_ne (pc := 2) (tgt := 7) d9_gap_2 (by decide) rfl rfl (fun _ => ?_) (fun _ => ?_)
  · refine den_aload_n (pc := 7) d9_gap_7 rfl rfl ?_
    refine den_iload_n (pc := 8) d9_gap_8 rfl rfl ?_
    refine den_iload_n (pc := 9) d9_gap_9 rfl rfl ?_
    refine den_callVI (pc := 10) (As := [vI x1, vI x3]) fv_9_69 rfl rfl kx0 (Nat.le_of_ble_eq_true rfl) (Nat.le_trans (by decide) hd) d9_gap_10 (c9_held l G x0 x1 x3 h kx0) (fun r1 h2 m3 o4 => ?_)
    have q5 := ok.mono kx0 m3
    refine den_istore (pc := 13) (L2 := [some (vA G x0), some (vI x1), some (vI x2), some (vI x3), some (vI r1), none]) d9_gap_13 (by decide) rfl ?_
    refine den_aload_n (pc := 15) d9_gap_15 rfl rfl ?_
    refine den_iload_n (pc := 16) d9_gap_16 rfl rfl ?_
    refine den_iload_n (pc := 17) d9_gap_17 rfl rfl ?_
    refine den_callVI (pc := 18) (As := [vI x2, vI x3]) fv_9_69 rfl rfl q5 (Nat.le_of_ble_eq_true rfl) (Nat.le_trans (by decide) hd) d9_gap_18 (c9_held l G x0 x2 x3 h2 q5) (fun r6 h7 m8 o9 => ?_)
    have q10 := ok.mono q5 m8
    refine den_istore (pc := 21) (L2 := [some (vA G x0), some (vI x1), some (vI x2), some (vI x3), some (vI r1), some (vI r6)]) d9_gap_21 (by decide) rfl ?_
    refine den_iload (pc := 23) d9_gap_23 rfl ?_
    refine den_iconst (pc := 25) d9_gap_25 ?_
    refine den_icmp_eq (pc := 26) (tgt := 35) d9_gap_26 (by decide) rfl (by decide) (fun _ => ?_) (fun _ => ?_)
    · refine den_iconst (pc := 35) d9_gap_35 ?_
      refine den_goto (pc := 36) (tgt := 47) d9_gap_36 (by decide) ?_
      exact den_iret (pc := 47) rfl d9_gap_47
    · refine den_iload (pc := 29) d9_gap_29 rfl ?_
      refine den_iconst (pc := 31) d9_gap_31 ?_
      refine den_icmp_ne (pc := 32) (tgt := 39) d9_gap_32 (by decide) rfl (by decide) (fun _ => ?_) (fun _ => ?_)
      · refine den_iload (pc := 39) d9_gap_39 rfl ?_
        refine den_iload (pc := 41) d9_gap_41 rfl ?_
        refine den_isub (pc := 43) d9_gap_43 ?_
        refine den_abs (pc := 44) fm_9_73 (Nat.le_of_ble_eq_true rfl) (Nat.le_trans (by decide) hd) d9_gap_44 ?_
        exact den_iret (pc := 47) rfl d9_gap_47
      · refine den_iconst (pc := 35) d9_gap_35 ?_
        refine den_goto (pc := 36) (tgt := 47) d9_gap_36 (by decide) ?_
        exact den_iret (pc := 47) rfl d9_gap_47
  · refine den_iconst (pc := 5) d9_gap_5 ?_
    exact den_iret (pc := 6) rfl d9_gap_6
theorem d0_apartOnAny_0 : decode m0_apartOnAny.2.1 0 = .ok (.iconst 0, 1) := by decide +kernel
theorem d0_apartOnAny_1 : decode m0_apartOnAny.2.1 1 = .ok (.istore_n 3, 1) := by decide +kernel
theorem d0_apartOnAny_2 : decode m0_apartOnAny.2.1 2 = .ok (.iload_n 3, 1) := by decide +kernel
theorem d0_apartOnAny_3 : decode m0_apartOnAny.2.1 3 = .ok (.aload_n 0, 1) := by decide +kernel
theorem d0_apartOnAny_4 : decode m0_apartOnAny.2.1 4 = .ok (.getfield 32, 3) := by decide +kernel
theorem d0_apartOnAny_7 : decode m0_apartOnAny.2.1 7 = .ok (.if_icmp .ge 21, 3) := by decide +kernel
theorem d0_apartOnAny_10 : decode m0_apartOnAny.2.1 10 = .ok (.aload_n 0, 1) := by decide +kernel
theorem d0_apartOnAny_11 : decode m0_apartOnAny.2.1 11 = .ok (.iload_n 1, 1) := by decide +kernel
theorem d0_apartOnAny_12 : decode m0_apartOnAny.2.1 12 = .ok (.iload_n 2, 1) := by decide +kernel
theorem d0_apartOnAny_13 : decode m0_apartOnAny.2.1 13 = .ok (.iload_n 3, 1) := by decide +kernel
theorem d0_apartOnAny_14 : decode m0_apartOnAny.2.1 14 = .ok (.invokevirtual 35, 3) := by decide +kernel
theorem d0_apartOnAny_17 : decode m0_apartOnAny.2.1 17 = .ok (.ifCond .le 5, 3) := by decide +kernel
theorem d0_apartOnAny_20 : decode m0_apartOnAny.2.1 20 = .ok (.iconst 1, 1) := by decide +kernel
theorem d0_apartOnAny_21 : decode m0_apartOnAny.2.1 21 = .ok (.ireturn, 1) := by decide +kernel
theorem d0_apartOnAny_22 : decode m0_apartOnAny.2.1 22 = .ok (.iinc 3 1, 3) := by decide +kernel
theorem d0_apartOnAny_25 : decode m0_apartOnAny.2.1 25 = .ok (.goto (-23), 3) := by decide +kernel
theorem d0_apartOnAny_28 : decode m0_apartOnAny.2.1 28 = .ok (.iconst 0, 1) := by decide +kernel
theorem d0_apartOnAny_29 : decode m0_apartOnAny.2.1 29 = .ok (.ireturn, 1) := by decide +kernel
def b0_apartOnAny_2 (rec2 : Int × AH → Option (Int × AH)) (x0 : Nat) (x1 : Int) (x2 : Int) (x3 : Int) (h : AH) : Option (Int × AH) :=
  if w32 (h.2 x0 1) ≤ w32 x3 then
    some (0, h)
  else
    bnd (f9_gap x0 x1 x2 x3 h) fun r1 h2 =>
    if w32 r1 ≤ 0 then
      rec2 ((x3 + 1), h2)
    else
      some (1, h2)
set_option maxRecDepth 100000 in
theorem t0_apartOnAny_2 (l : Launch) (G : Geo) (d : Nat) (hd : 4 ≤ d) (x0 : Nat) (x1 : Int) (x2 : Int) (x3 : Int) (rec2 : Int × AH → Option (Int × AH)) (H2 : ∀ (x3 : Int) (h : AH), ok h.1 x0 9 → Den l G m0_apartOnAny rvI d 2 [some (vA G x0), some (vI x1), some (vI x2), some (vI x3)] [] h (rec2 (x3, h))) (h : AH) (kx0 : ok h.1 x0 9) : Den l G m0_apartOnAny rvI d 2 [some (vA G x0), some (vI x1), some (vI x2), some (vI x3)] [] h (b0_apartOnAny_2 rec2 x0 x1 x2 x3 h) := by
  unfold b0_apartOnAny_2
  refine den_iload_n (pc := 2) d0_apartOnAny_2 rfl rfl ?_
  refine den_aload_n (pc := 3) d0_apartOnAny_3 rfl rfl ?_
  refine den_getI (pc := 4) fa_0_32 kx0 d0_apartOnAny_4 ?_
  refine den_icmp_ge (pc := 7) (tgt := 28) d0_apartOnAny_7 (by decide) rfl rfl (fun _ => ?_) (fun _ => ?_)
  · refine den_iconst (pc := 28) d0_apartOnAny_28 ?_
    exact den_zret (pc := 29) rfl (by decide) d0_apartOnAny_29
  · refine den_aload_n (pc := 10) d0_apartOnAny_10 rfl rfl ?_
    refine den_iload_n (pc := 11) d0_apartOnAny_11 rfl rfl ?_
    refine den_iload_n (pc := 12) d0_apartOnAny_12 rfl rfl ?_
    refine den_iload_n (pc := 13) d0_apartOnAny_13 rfl rfl ?_
    refine den_callVI (pc := 14) (As := [vI x1, vI x2, vI x3]) fv_0_35 rfl rfl kx0 (Nat.le_of_ble_eq_true rfl) (Nat.le_trans (by decide) hd) d0_apartOnAny_14 (c9_gap l G x0 x1 x2 x3 h kx0) (fun r1 h2 m3 o4 => ?_)
    have q5 := ok.mono kx0 m3
    refine den_if_le (pc := 17) (tgt := 22) d0_apartOnAny_17 (by decide) rfl (fun _ => ?_) (fun _ => ?_)
    · refine den_iinc (pc := 22) (L2 := [some (vA G x0), some (vI x1), some (vI x2), some (vI (x3 + 1))]) d0_apartOnAny_22 (by decide) rfl rfl ?_
      refine den_goto (pc := 25) (tgt := 2) d0_apartOnAny_25 (by decide) ?_
      exact H2 (x3 + 1) h2 q5
    · refine den_iconst (pc := 20) d0_apartOnAny_20 ?_
      exact den_zret (pc := 21) rfl (by decide) d0_apartOnAny_21
def l0_apartOnAny_2 (x0 : Nat) (x1 : Int) (x2 : Int) (x3 : Int) (h : AH) : Option (Int × AH) := fx (fun rec z => b0_apartOnAny_2 rec x0 x1 x2 z.1 z.2) FU (x3, h)
set_option maxRecDepth 100000 in
theorem tl0_apartOnAny_2 (l : Launch) (G : Geo) (d : Nat) (hd : 4 ≤ d) (x0 : Nat) (x1 : Int) (x2 : Int) : ∀ (n : Nat) (z : Int × AH), ok z.2.1 x0 9 → Den l G m0_apartOnAny rvI d 2 [some (vA G x0), some (vI x1), some (vI x2), some (vI z.1)] [] z.2 (fx (fun rec z => b0_apartOnAny_2 rec x0 x1 x2 z.1 z.2) n z) :=
  den_fx (F := fun rec z => b0_apartOnAny_2 rec x0 x1 x2 z.1 z.2) (P := fun z => ok z.2.1 x0 9) (fL := fun z => [some (vA G x0), some (vI x1), some (vI x2), some (vI z.1)]) (fs := fun z => []) (fh := fun z => z.2) (fun rec hrec z hz => t0_apartOnAny_2 l G d hd x0 x1 x2 z.1 rec (fun x3 h w0 => hrec (x3, h) w0) z.2 hz)
def f0_apartOnAny (x0 : Nat) (x1 : Int) (x2 : Int) (h : AH) : Option (Int × AH) :=
  l0_apartOnAny_2 x0 x1 x2 0 h
set_option maxRecDepth 100000 in
theorem c0_apartOnAny (l : Launch) (G : Geo) (x0 : Nat) (x1 : Int) (x2 : Int) (h : AH) (kx0 : ok h.1 x0 9) : Con l G m0_apartOnAny rvI 4 [vA G x0, vI x1, vI x2] h (f0_apartOnAny x0 x1 x2 h) := by
  have hd : 4 ≤ 4 := Nat.le_refl _
  refine con_Z rfl (by decide) rfl rfl (Nat.le_of_ble_eq_true rfl) (L := [some (vA G x0), some (vI x1), some (vI x2), none]) ?_
  unfold f0_apartOnAny
  refine den_iconst (pc := 0) d0_apartOnAny_0 ?_
  refine den_istore_n (pc := 1) (L2 := [some (vA G x0), some (vI x1), some (vI x2), some (vI 0)]) d0_apartOnAny_1 rfl (by decide) rfl ?_
  exact tl0_apartOnAny_2 l G _ hd x0 x1 x2 FU (0, h) kx0
theorem d0_gather_0 : decode m0_gather.2.1 0 = .ok (.aload_n 0, 1) := by decide +kernel
theorem d0_gather_1 : decode m0_gather.2.1 1 = .ok (.aload_n 1, 1) := by decide +kernel
theorem d0_gather_2 : decode m0_gather.2.1 2 = .ok (.getfield 21, 3) := by decide +kernel
theorem d0_gather_5 : decode m0_gather.2.1 5 = .ok (.putfield 27, 3) := by decide +kernel
theorem d0_gather_8 : decode m0_gather.2.1 8 = .ok (.iconst 0, 1) := by decide +kernel
theorem d0_gather_9 : decode m0_gather.2.1 9 = .ok (.istore_n 2, 1) := by decide +kernel
theorem d0_gather_10 : decode m0_gather.2.1 10 = .ok (.iload_n 2, 1) := by decide +kernel
theorem d0_gather_11 : decode m0_gather.2.1 11 = .ok (.aload_n 0, 1) := by decide +kernel
theorem d0_gather_12 : decode m0_gather.2.1 12 = .ok (.getfield 27, 3) := by decide +kernel
theorem d0_gather_15 : decode m0_gather.2.1 15 = .ok (.if_icmp .ge 57, 3) := by decide +kernel
theorem d0_gather_18 : decode m0_gather.2.1 18 = .ok (.aload_n 0, 1) := by decide +kernel
theorem d0_gather_19 : decode m0_gather.2.1 19 = .ok (.getfield 18, 3) := by decide +kernel
theorem d0_gather_22 : decode m0_gather.2.1 22 = .ok (.iload_n 2, 1) := by decide +kernel
theorem d0_gather_23 : decode m0_gather.2.1 23 = .ok (.iconst 0, 1) := by decide +kernel
theorem d0_gather_24 : decode m0_gather.2.1 24 = .ok (.iastore, 1) := by decide +kernel
theorem d0_gather_25 : decode m0_gather.2.1 25 = .ok (.iconst 0, 1) := by decide +kernel
theorem d0_gather_26 : decode m0_gather.2.1 26 = .ok (.istore_n 3, 1) := by decide +kernel
theorem d0_gather_27 : decode m0_gather.2.1 27 = .ok (.iload_n 3, 1) := by decide +kernel
theorem d0_gather_28 : decode m0_gather.2.1 28 = .ok (.aload_n 0, 1) := by decide +kernel
theorem d0_gather_29 : decode m0_gather.2.1 29 = .ok (.getfield 27, 3) := by decide +kernel
theorem d0_gather_32 : decode m0_gather.2.1 32 = .ok (.if_icmp .ge 34, 3) := by decide +kernel
theorem d0_gather_35 : decode m0_gather.2.1 35 = .ok (.aload_n 0, 1) := by decide +kernel
theorem d0_gather_36 : decode m0_gather.2.1 36 = .ok (.getfield 18, 3) := by decide +kernel
theorem d0_gather_39 : decode m0_gather.2.1 39 = .ok (.iload_n 2, 1) := by decide +kernel
theorem d0_gather_40 : decode m0_gather.2.1 40 = .ok (.dup2, 1) := by decide +kernel
theorem d0_gather_41 : decode m0_gather.2.1 41 = .ok (.iaload, 1) := by decide +kernel
theorem d0_gather_42 : decode m0_gather.2.1 42 = .ok (.aload_n 1, 1) := by decide +kernel
theorem d0_gather_43 : decode m0_gather.2.1 43 = .ok (.iload_n 2, 1) := by decide +kernel
theorem d0_gather_44 : decode m0_gather.2.1 44 = .ok (.iload_n 3, 1) := by decide +kernel
theorem d0_gather_45 : decode m0_gather.2.1 45 = .ok (.invokestatic 28, 3) := by decide +kernel
theorem d0_gather_48 : decode m0_gather.2.1 48 = .ok (.ifCond .eq 9, 3) := by decide +kernel
theorem d0_gather_51 : decode m0_gather.2.1 51 = .ok (.iconst 1, 1) := by decide +kernel
theorem d0_gather_52 : decode m0_gather.2.1 52 = .ok (.iload_n 3, 1) := by decide +kernel
theorem d0_gather_53 : decode m0_gather.2.1 53 = .ok (.ishl, 1) := by decide +kernel
theorem d0_gather_54 : decode m0_gather.2.1 54 = .ok (.goto 4, 3) := by decide +kernel
theorem d0_gather_57 : decode m0_gather.2.1 57 = .ok (.iconst 0, 1) := by decide +kernel
theorem d0_gather_58 : decode m0_gather.2.1 58 = .ok (.ior, 1) := by decide +kernel
theorem d0_gather_59 : decode m0_gather.2.1 59 = .ok (.iastore, 1) := by decide +kernel
theorem d0_gather_60 : decode m0_gather.2.1 60 = .ok (.iinc 3 1, 3) := by decide +kernel
theorem d0_gather_63 : decode m0_gather.2.1 63 = .ok (.goto (-36), 3) := by decide +kernel
theorem d0_gather_66 : decode m0_gather.2.1 66 = .ok (.iinc 2 1, 3) := by decide +kernel
theorem d0_gather_69 : decode m0_gather.2.1 69 = .ok (.goto (-59), 3) := by decide +kernel
theorem d0_gather_72 : decode m0_gather.2.1 72 = .ok (.return_, 1) := by decide +kernel
def b0_gather_58 (rec10 : Int × AH → Option (Int × AH)) (rec27 : Int × AH → Option (Int × AH)) (x1 : Nat) (x2 : Int) (x3 : Int) (s0 : Int) (s1 : Int) (s2 : Int) (h : AH) : Option (Int × AH) :=
  asrt (0 ≤ w32 s2 ∧ w32 s2 < 8) <|
  lt (wr h 65 (w32 s2).toNat (or32 s1 s0)) fun h2 =>
  rec27 ((x3 + 1), h2)
set_option maxRecDepth 100000 in
theorem t0_gather_58 (l : Launch) (G : Geo) (d : Nat) (hd : 5 ≤ d) (x1 : Nat) (x2 : Int) (x3 : Int) (s0 : Int) (s1 : Int) (s2 : Int) (rec10 : Int × AH → Option (Int × AH)) (H10 : ∀ (x2 : Int) (h : AH), ok h.1 x1 9 → Den l G m0_gather rvV d 10 [some (vA G 62), some (vA G x1), some (vI x2), none] [] h (rec10 (x2, h))) (rec27 : Int × AH → Option (Int × AH)) (H27 : ∀ (x3 : Int) (h : AH), ok h.1 x1 9 → Den l G m0_gather rvV d 27 [some (vA G 62), some (vA G x1), some (vI x2), some (vI x3)] [] h (rec27 (x3, h))) (h : AH) (kx1 : ok h.1 x1 9) : Den l G m0_gather rvV d 58 [some (vA G 62), some (vA G x1), some (vI x2), some (vI x3)] [vI s0, vI s1, vI s2, vA G 65] h (b0_gather_58 rec10 rec27 x1 x2 x3 s0 s1 s2 h) := by
  unfold b0_gather_58
  refine den_ior (pc := 58) d0_gather_58 ?_
  refine den_asrt (fun a1 => ?_)
  refine den_iastore (pc := 59) sh_65 (sz_lt (by decide)) rfl a1 d0_gather_59 ?_
  refine den_ltH (fun h2 m3 => ?_)
  have q4 := ok.mono kx1 m3
  refine den_iinc (pc := 60) (L2 := [some (vA G 62), some (vA G x1), some (vI x2), some (vI (x3 + 1))]) d0_gather_60 (by decide) rfl rfl ?_
  refine den_goto (pc := 63) (tgt := 27) d0_gather_63 (by decide) ?_
  exact H27 (x3 + 1) h2 q4
def b0_gather_27 (rec27 : Int × AH → Option (Int × AH)) (rec10 : Int × AH → Option (Int × AH)) (x1 : Nat) (x2 : Int) (x3 : Int) (h : AH) : Option (Int × AH) :=
  if w32 (h.2 62 4) ≤ w32 x3 then
    rec10 ((x2 + 1), h)
  else
    asrt (0 ≤ w32 x2 ∧ w32 x2 < 8) <|
    bnd (f0_apartOnAny x1 x2 x3 h) fun r6 h7 =>
    if w32 r6 = 0 then
      b0_gather_58 rec10 rec27 x1 x2 x3 0 (h.2 65 (w32 x2).toNat) x2 h7
    else
      b0_gather_58 rec10 rec27 x1 x2 x3 (shl32 1 x3) (h.2 65 (w32 x2).toNat) x2 h7
set_option maxRecDepth 100000 in
theorem t0_gather_27 (l : Launch) (G : Geo) (d : Nat) (hd : 5 ≤ d) (x1 : Nat) (x2 : Int) (x3 : Int) (rec27 : Int × AH → Option (Int × AH)) (H27 : ∀ (x3 : Int) (h : AH), ok h.1 x1 9 → Den l G m0_gather rvV d 27 [some (vA G 62), some (vA G x1), some (vI x2), some (vI x3)] [] h (rec27 (x3, h))) (rec10 : Int × AH → Option (Int × AH)) (H10 : ∀ (x2 : Int) (h : AH), ok h.1 x1 9 → Den l G m0_gather rvV d 10 [some (vA G 62), some (vA G x1), some (vI x2), none] [] h (rec10 (x2, h))) (h : AH) (kx1 : ok h.1 x1 9) : Den l G m0_gather rvV d 27 [some (vA G 62), some (vA G x1), some (vI x2), some (vI x3)] [] h (b0_gather_27 rec27 rec10 x1 x2 x3 h) := by
  unfold b0_gather_27
  refine den_iload_n (pc := 27) d0_gather_27 rfl rfl ?_
  refine den_aload_n (pc := 28) d0_gather_28 rfl rfl ?_
  refine den_getI (pc := 29) fa_0_27 (ok_62 _) d0_gather_29 ?_
  refine den_icmp_ge (pc := 32) (tgt := 66) d0_gather_32 (by decide) rfl rfl (fun _ => ?_) (fun _ => ?_)
  · refine den_iinc (pc := 66) (L2 := [some (vA G 62), some (vA G x1), some (vI (x2 + 1)), some (vI x3)]) d0_gather_66 (by decide) rfl rfl ?_
    refine den_goto (pc := 69) (tgt := 10) d0_gather_69 (by decide) ?_
    refine den_wk [true, true, true, false] rfl ?_
    exact H10 (x2 + 1) h kx1
  · refine den_aload_n (pc := 35) d0_gather_35 rfl rfl ?_
    refine den_getR (pc := 36) (b := 65) fa_0_18 (ok_62 _) rfl d0_gather_36 ?_
    refine den_iload_n (pc := 39) d0_gather_39 rfl rfl ?_
    refine den_dup2 (pc := 40) d0_gather_40 rfl rfl ?_
    refine den_asrt (fun a5 => ?_)
    refine den_iaload (pc := 41) sh_65 (sz_lt (by decide)) rfl a5 d0_gather_41 ?_
    refine den_aload_n (pc := 42) d0_gather_42 rfl rfl ?_
    refine den_iload_n (pc := 43) d0_gather_43 rfl rfl ?_
    refine den_iload_n (pc := 44) d0_gather_44 rfl rfl ?_
    refine den_callSI (pc := 45) (As := [vA G x1, vI x2, vI x3]) fs_0_28 rfl rfl (Nat.le_of_ble_eq_true rfl) (Nat.le_trans (by decide) hd) d0_gather_45 (c0_apartOnAny l G x1 x2 x3 h kx1) (fun r6 h7 m8 o9 => ?_)
    have q10 := ok.mono kx1 m8
    refine den_if_eq (pc := 48) (tgt := 57) d0_gather_48 (by decide) rfl (fun _ => ?_) (fun _ => ?_)
    · refine den_iconst (pc := 57) d0_gather_57 ?_
      exact t0_gather_58 l G _ hd x1 x2 x3 0 (h.2 65 (w32 x2).toNat) x2 rec10 H10 rec27 H27 h7 q10
    · refine den_iconst (pc := 51) d0_gather_51 ?_
      refine den_iload_n (pc := 52) d0_gather_52 rfl rfl ?_
      refine den_ishl (pc := 53) d0_gather_53 ?_
      refine den_goto (pc := 54) (tgt := 58) d0_gather_54 (by decide) ?_
      exact t0_gather_58 l G _ hd x1 x2 x3 (shl32 1 x3) (h.2 65 (w32 x2).toNat) x2 rec10 H10 rec27 H27 h7 q10
def l0_gather_27 (rec10 : Int × AH → Option (Int × AH)) (x1 : Nat) (x2 : Int) (x3 : Int) (h : AH) : Option (Int × AH) := fx (fun rec z => b0_gather_27 rec rec10 x1 x2 z.1 z.2) FU (x3, h)
set_option maxRecDepth 100000 in
theorem tl0_gather_27 (l : Launch) (G : Geo) (d : Nat) (hd : 5 ≤ d) (x1 : Nat) (x2 : Int) (rec10 : Int × AH → Option (Int × AH)) (H10 : ∀ (x2 : Int) (h : AH), ok h.1 x1 9 → Den l G m0_gather rvV d 10 [some (vA G 62), some (vA G x1), some (vI x2), none] [] h (rec10 (x2, h))) : ∀ (n : Nat) (z : Int × AH), ok z.2.1 x1 9 → Den l G m0_gather rvV d 27 [some (vA G 62), some (vA G x1), some (vI x2), some (vI z.1)] [] z.2 (fx (fun rec z => b0_gather_27 rec rec10 x1 x2 z.1 z.2) n z) :=
  den_fx (F := fun rec z => b0_gather_27 rec rec10 x1 x2 z.1 z.2) (P := fun z => ok z.2.1 x1 9) (fL := fun z => [some (vA G 62), some (vA G x1), some (vI x2), some (vI z.1)]) (fs := fun z => []) (fh := fun z => z.2) (fun rec hrec z hz => t0_gather_27 l G d hd x1 x2 z.1 rec (fun x3 h w0 => hrec (x3, h) w0) rec10 H10 z.2 hz)
def b0_gather_10 (rec10 : Int × AH → Option (Int × AH)) (x1 : Nat) (x2 : Int) (h : AH) : Option (Int × AH) :=
  if w32 (h.2 62 4) ≤ w32 x2 then
    some (0, h)
  else
    asrt (0 ≤ w32 x2 ∧ w32 x2 < 8) <|
    lt (wr h 65 (w32 x2).toNat 0) fun h12 =>
    l0_gather_27 rec10 x1 x2 0 h12
set_option maxRecDepth 100000 in
theorem t0_gather_10 (l : Launch) (G : Geo) (d : Nat) (hd : 5 ≤ d) (x1 : Nat) (x2 : Int) (rec10 : Int × AH → Option (Int × AH)) (H10 : ∀ (x2 : Int) (h : AH), ok h.1 x1 9 → Den l G m0_gather rvV d 10 [some (vA G 62), some (vA G x1), some (vI x2), none] [] h (rec10 (x2, h))) (h : AH) (kx1 : ok h.1 x1 9) : Den l G m0_gather rvV d 10 [some (vA G 62), some (vA G x1), some (vI x2), none] [] h (b0_gather_10 rec10 x1 x2 h) := by
  unfold b0_gather_10
  refine den_iload_n (pc := 10) d0_gather_10 rfl rfl ?_
  refine den_aload_n (pc := 11) d0_gather_11 rfl rfl ?_
  refine den_getI (pc := 12) fa_0_27 (ok_62 _) d0_gather_12 ?_
  refine den_icmp_ge (pc := 15) (tgt := 72) d0_gather_15 (by decide) rfl rfl (fun _ => ?_) (fun _ => ?_)
  · exact den_vret (pc := 72) rfl d0_gather_72
  · refine den_aload_n (pc := 18) d0_gather_18 rfl rfl ?_
    refine den_getR (pc := 19) (b := 65) fa_0_18 (ok_62 _) rfl d0_gather_19 ?_
    refine den_iload_n (pc := 22) d0_gather_22 rfl rfl ?_
    refine den_iconst (pc := 23) d0_gather_23 ?_
    refine den_asrt (fun a11 => ?_)
    refine den_iastore (pc := 24) sh_65 (sz_lt (by decide)) rfl a11 d0_gather_24 ?_
    refine den_ltH (fun h12 m13 => ?_)
    have q14 := ok.mono kx1 m13
    refine den_iconst (pc := 25) d0_gather_25 ?_
    refine den_istore_n (pc := 26) (L2 := [some (vA G 62), some (vA G x1), some (vI x2), some (vI 0)]) d0_gather_26 rfl (by decide) rfl ?_
    exact tl0_gather_27 l G _ hd x1 x2 rec10 H10 FU (0, h12) q14
def l0_gather_10 (x1 : Nat) (x2 : Int) (h : AH) : Option (Int × AH) := fx (fun rec z => b0_gather_10 rec x1 z.1 z.2) FU (x2, h)
set_option maxRecDepth 100000 in
theorem tl0_gather_10 (l : Launch) (G : Geo) (d : Nat) (hd : 5 ≤ d) (x1 : Nat) : ∀ (n : Nat) (z : Int × AH), ok z.2.1 x1 9 → Den l G m0_gather rvV d 10 [some (vA G 62), some (vA G x1), some (vI z.1), none] [] z.2 (fx (fun rec z => b0_gather_10 rec x1 z.1 z.2) n z) :=
  den_fx (F := fun rec z => b0_gather_10 rec x1 z.1 z.2) (P := fun z => ok z.2.1 x1 9) (fL := fun z => [some (vA G 62), some (vA G x1), some (vI z.1), none]) (fs := fun z => []) (fh := fun z => z.2) (fun rec hrec z hz => t0_gather_10 l G d hd x1 z.1 rec (fun x2 h w0 => hrec (x2, h) w0) z.2 hz)
def f0_gather (x1 : Nat) (h : AH) : Option (Int × AH) :=
  lt (wr h 62 4 (h.2 x1 0)) fun h15 =>
  l0_gather_10 x1 0 h15
set_option maxRecDepth 100000 in
theorem c0_gather (l : Launch) (G : Geo) (x1 : Nat) (h : AH) (kx1 : ok h.1 x1 9) : Con l G m0_gather rvV 5 [vA G 62, vA G x1] h (f0_gather x1 h) := by
  have hd : 5 ≤ 5 := Nat.le_refl _
  refine con_V rfl (by decide) rfl rfl (Nat.le_of_ble_eq_true rfl) (L := [some (vA G 62), some (vA G x1), none, none]) ?_
  unfold f0_gather
  refine den_aload_n (pc := 0) d0_gather_0 rfl rfl ?_
  refine den_aload_n (pc := 1) d0_gather_1 rfl rfl ?_
  refine den_getI (pc := 2) fa_0_21 kx1 d0_gather_2 ?_
  refine den_putI (pc := 5) fp_0_27 (ok_62 _) d0_gather_5 ?_
  refine den_ltH (fun h15 m16 => ?_)
  have q17 := ok.mono kx1 m16
  refine den_iconst (pc := 8) d0_gather_8 ?_
  refine den_istore_n (pc := 9) (L2 := [some (vA G 62), some (vA G x1), some (vI 0), none]) d0_gather_9 rfl (by decide) rfl ?_
  exact tl0_gather_10 l G _ hd x1 FU (0, h15) q17
theorem d0_grow_0 : decode m0_grow.2.1 0 = .ok (.iload_n 1, 1) := by decide +kernel
theorem d0_grow_1 : decode m0_grow.2.1 1 = .ok (.aload_n 0, 1) := by decide +kernel
theorem d0_grow_2 : decode m0_grow.2.1 2 = .ok (.getfield 39, 3) := by decide +kernel
theorem d0_grow_5 : decode m0_grow.2.1 5 = .ok (.if_icmp .le 23, 3) := by decide +kernel
theorem d0_grow_8 : decode m0_grow.2.1 8 = .ok (.aload_n 0, 1) := by decide +kernel
theorem d0_grow_9 : decode m0_grow.2.1 9 = .ok (.iload_n 1, 1) := by decide +kernel
theorem d0_grow_10 : decode m0_grow.2.1 10 = .ok (.putfield 39, 3) := by decide +kernel
theorem d0_grow_13 : decode m0_grow.2.1 13 = .ok (.aload_n 0, 1) := by decide +kernel
theorem d0_grow_14 : decode m0_grow.2.1 14 = .ok (.getfield 15, 3) := by decide +kernel
theorem d0_grow_17 : decode m0_grow.2.1 17 = .ok (.iconst 0, 1) := by decide +kernel
theorem d0_grow_18 : decode m0_grow.2.1 18 = .ok (.aload_n 0, 1) := by decide +kernel
theorem d0_grow_19 : decode m0_grow.2.1 19 = .ok (.getfield 9, 3) := by decide +kernel
theorem d0_grow_22 : decode m0_grow.2.1 22 = .ok (.iconst 0, 1) := by decide +kernel
theorem d0_grow_23 : decode m0_grow.2.1 23 = .ok (.bipush 8, 2) := by decide +kernel
theorem d0_grow_25 : decode m0_grow.2.1 25 = .ok (.invokestatic 46, 3) := by decide +kernel
theorem d0_grow_28 : decode m0_grow.2.1 28 = .ok (.iload_n 1, 1) := by decide +kernel
theorem d0_grow_29 : decode m0_grow.2.1 29 = .ok (.bipush 8, 2) := by decide +kernel
theorem d0_grow_31 : decode m0_grow.2.1 31 = .ok (.if_icmp .lt 4, 3) := by decide +kernel
theorem d0_grow_34 : decode m0_grow.2.1 34 = .ok (.return_, 1) := by decide +kernel
theorem d0_grow_35 : decode m0_grow.2.1 35 = .ok (.iconst 0, 1) := by decide +kernel
theorem d0_grow_36 : decode m0_grow.2.1 36 = .ok (.istore 4, 2) := by decide +kernel
theorem d0_grow_38 : decode m0_grow.2.1 38 = .ok (.iload 4, 2) := by decide +kernel
theorem d0_grow_40 : decode m0_grow.2.1 40 = .ok (.aload_n 0, 1) := by decide +kernel
theorem d0_grow_41 : decode m0_grow.2.1 41 = .ok (.getfield 27, 3) := by decide +kernel
theorem d0_grow_44 : decode m0_grow.2.1 44 = .ok (.if_icmp .ge 61, 3) := by decide +kernel
theorem d0_grow_47 : decode m0_grow.2.1 47 = .ok (.aload_n 0, 1) := by decide +kernel
theorem d0_grow_48 : decode m0_grow.2.1 48 = .ok (.getfield 39, 3) := by decide +kernel
theorem d0_grow_51 : decode m0_grow.2.1 51 = .ok (.aload_n 0, 1) := by decide +kernel
theorem d0_grow_52 : decode m0_grow.2.1 52 = .ok (.getfield 27, 3) := by decide +kernel
theorem d0_grow_55 : decode m0_grow.2.1 55 = .ok (.if_icmp .ge 50, 3) := by decide +kernel
theorem d0_grow_58 : decode m0_grow.2.1 58 = .ok (.iload_n 2, 1) := by decide +kernel
theorem d0_grow_59 : decode m0_grow.2.1 59 = .ok (.iload_n 3, 1) := by decide +kernel
theorem d0_grow_60 : decode m0_grow.2.1 60 = .ok (.iconst (-1), 1) := by decide +kernel
theorem d0_grow_61 : decode m0_grow.2.1 61 = .ok (.ixor, 1) := by decide +kernel
theorem d0_grow_62 : decode m0_grow.2.1 62 = .ok (.iand, 1) := by decide +kernel
theorem d0_grow_63 : decode m0_grow.2.1 63 = .ok (.iconst 1, 1) := by decide +kernel
theorem d0_grow_64 : decode m0_grow.2.1 64 = .ok (.iload 4, 2) := by decide +kernel
theorem d0_grow_66 : decode m0_grow.2.1 66 = .ok (.ishl, 1) := by decide +kernel
theorem d0_grow_67 : decode m0_grow.2.1 67 = .ok (.iand, 1) := by decide +kernel
theorem d0_grow_68 : decode m0_grow.2.1 68 = .ok (.ifCond .eq 31, 3) := by decide +kernel
theorem d0_grow_71 : decode m0_grow.2.1 71 = .ok (.aload_n 0, 1) := by decide +kernel
theorem d0_grow_72 : decode m0_grow.2.1 72 = .ok (.getfield 15, 3) := by decide +kernel
theorem d0_grow_75 : decode m0_grow.2.1 75 = .ok (.iload_n 1, 1) := by decide +kernel
theorem d0_grow_76 : decode m0_grow.2.1 76 = .ok (.iload 4, 2) := by decide +kernel
theorem d0_grow_78 : decode m0_grow.2.1 78 = .ok (.iastore, 1) := by decide +kernel
theorem d0_grow_79 : decode m0_grow.2.1 79 = .ok (.aload_n 0, 1) := by decide +kernel
theorem d0_grow_80 : decode m0_grow.2.1 80 = .ok (.iload_n 1, 1) := by decide +kernel
theorem d0_grow_81 : decode m0_grow.2.1 81 = .ok (.iconst 1, 1) := by decide +kernel
theorem d0_grow_82 : decode m0_grow.2.1 82 = .ok (.iadd, 1) := by decide +kernel
theorem d0_grow_83 : decode m0_grow.2.1 83 = .ok (.aload_n 0, 1) := by decide +kernel
theorem d0_grow_84 : decode m0_grow.2.1 84 = .ok (.getfield 18, 3) := by decide +kernel
theorem d0_grow_87 : decode m0_grow.2.1 87 = .ok (.iload 4, 2) := by decide +kernel
theorem d0_grow_89 : decode m0_grow.2.1 89 = .ok (.iaload, 1) := by decide +kernel
theorem d0_grow_90 : decode m0_grow.2.1 90 = .ok (.iload_n 3, 1) := by decide +kernel
theorem d0_grow_91 : decode m0_grow.2.1 91 = .ok (.iconst 1, 1) := by decide +kernel
theorem d0_grow_92 : decode m0_grow.2.1 92 = .ok (.iload 4, 2) := by decide +kernel
theorem d0_grow_94 : decode m0_grow.2.1 94 = .ok (.ishl, 1) := by decide +kernel
theorem d0_grow_95 : decode m0_grow.2.1 95 = .ok (.ior, 1) := by decide +kernel
theorem d0_grow_96 : decode m0_grow.2.1 96 = .ok (.invokevirtual 42, 3) := by decide +kernel
theorem d0_grow_99 : decode m0_grow.2.1 99 = .ok (.iinc 4 1, 3) := by decide +kernel
theorem d0_grow_102 : decode m0_grow.2.1 102 = .ok (.goto (-64), 3) := by decide +kernel
theorem d0_grow_105 : decode m0_grow.2.1 105 = .ok (.return_, 1) := by decide +kernel
def b0_grow_99 (self : Int → Int → Int → AH → Option (Int × AH)) (rec38 : Int × AH → Option (Int × AH)) (x1 : Int) (x2 : Int) (x3 : Int) (x4 : Int) (h : AH) : Option (Int × AH) :=
  rec38 ((x4 + 1), h)
set_option maxRecDepth 100000 in
theorem t0_grow_99 (l : Launch) (G : Geo) (d : Nat) (hd : 3 ≤ d) (self : Int → Int → Int → AH → Option (Int × AH)) (d2 : Nat) (hd2 : d2 + 1 ≤ d) (hself : ∀ (x1 : Int) (x2 : Int) (x3 : Int) (h : AH), Con l G m0_grow rvV d2 [vA G 62, vI x1, vI x2, vI x3] h (self x1 x2 x3 h)) (x1 : Int) (x2 : Int) (x3 : Int) (x4 : Int) (rec38 : Int × AH → Option (Int × AH)) (H38 : ∀ (x4 : Int) (h : AH), Den l G m0_grow rvV d 38 [some (vA G 62), some (vI x1), some (vI x2), some (vI x3), some (vI x4)] [] h (rec38 (x4, h))) (h : AH) : Den l G m0_grow rvV d 99 [some (vA G 62), some (vI x1), some (vI x2), some (vI x3), some (vI x4)] [] h (b0_grow_99 self rec38 x1 x2 x3 x4 h) := by
  unfold b0_grow_99
  refine den_iinc (pc := 99) (L2 := [some (vA G 62), some (vI x1), some (vI x2), some (vI x3), some (vI (x4 + 1))]) d0_grow_99 (by decide) rfl rfl ?_
  refine den_goto (pc := 102) (tgt := 38) d0_grow_102 (by decide) ?_
  exact H38 (x4 + 1) h
def b0_grow_38 (self : Int → Int → Int → AH → Option (Int × AH)) (rec38 : Int × AH → Option (Int × AH)) (x1 : Int) (x2 : Int) (x3 : Int) (x4 : Int) (h : AH) : Option (Int × AH) :=
  if w32 (h.2 62 4) ≤ w32 x4 then
    some (0, h)
  else
    if w32 (h.2 62 4) ≤ w32 (h.2 62 1) then
      some (0, h)
    else
      if w32 (and32 (and32 x2 (xor32 x3 (-1))) (shl32 1 x4)) = 0 then
        b0_grow_99 self rec38 x1 x2 x3 x4 h
      else
        asrt (0 ≤ w32 x1 ∧ w32 x1 < 8) <|
        lt (wr h 64 (w32 x1).toNat x4) fun h2 =>
        asrt (0 ≤ w32 x4 ∧ w32 x4 < 8) <|
        bnd (self (x1 + 1) (h2.2 65 (w32 x4).toNat) (or32 x3 (shl32 1 x4)) h2) fun r5 h6 =>
        b0_grow_99 self rec38 x1 x2 x3 x4 h6
set_option maxRecDepth 100000 in
theorem t0_grow_38 (l : Launch) (G : Geo) (d : Nat) (hd : 3 ≤ d) (self : Int → Int → Int → AH → Option (Int × AH)) (d2 : Nat) (hd2 : d2 + 1 ≤ d) (hself : ∀ (x1 : Int) (x2 : Int) (x3 : Int) (h : AH), Con l G m0_grow rvV d2 [vA G 62, vI x1, vI x2, vI x3] h (self x1 x2 x3 h)) (x1 : Int) (x2 : Int) (x3 : Int) (x4 : Int) (rec38 : Int × AH → Option (Int × AH)) (H38 : ∀ (x4 : Int) (h : AH), Den l G m0_grow rvV d 38 [some (vA G 62), some (vI x1), some (vI x2), some (vI x3), some (vI x4)] [] h (rec38 (x4, h))) (h : AH) : Den l G m0_grow rvV d 38 [some (vA G 62), some (vI x1), some (vI x2), some (vI x3), some (vI x4)] [] h (b0_grow_38 self rec38 x1 x2 x3 x4 h) := by
  unfold b0_grow_38
  refine den_iload (pc := 38) d0_grow_38 rfl ?_
  refine den_aload_n (pc := 40) d0_grow_40 rfl rfl ?_
  refine den_getI (pc := 41) fa_0_27 (ok_62 _) d0_grow_41 ?_
  refine den_icmp_ge (pc := 44) (tgt := 105) d0_grow_44 (by decide) rfl rfl (fun _ => ?_) (fun _ => ?_)
  · exact den_vret (pc := 105) rfl d0_grow_105
  · refine den_aload_n (pc := 47) d0_grow_47 rfl rfl ?_
    refine den_getI (pc := 48) fa_0_39 (ok_62 _) d0_grow_48 ?_
    refine den_aload_n (pc := 51) d0_grow_51 rfl rfl ?_
    refine den_getI (pc := 52) fa_0_27 (ok_62 _) d0_grow_52 ?_
    refine den_icmp_ge (pc := 55) (tgt := 105) d0_grow_55 (by decide) rfl rfl (fun _ => ?_) (fun _ => ?_)
    · exact den_vret (pc := 105) rfl d0_grow_105
    · refine den_iload_n (pc := 58) d0_grow_58 rfl rfl ?_
      refine den_iload_n (pc := 59) d0_grow_59 rfl rfl ?_
      refine den_iconst (pc := 60) d0_grow_60 ?_
      refine den_ixor (pc := 61) d0_grow_61 ?_
      refine den_iand (pc := 62) d0_grow_62 ?_
      refine den_iconst (pc := 63) d0_grow_63 ?_
      refine den_iload (pc := 64) d0_grow_64 rfl ?_
      refine den_ishl (pc := 66) d0_grow_66 ?_
      refine den_iand (pc := 67) d0_grow_67 ?_
      refine den_if_eq (pc := 68) (tgt := 99) d0_grow_68 (by decide) rfl (fun _ => ?_) (fun _ => ?_)
      · exact t0_grow_99 l G _ hd self d2 hd2 hself x1 x2 x3 x4 rec38 H38 h
      · refine den_aload_n (pc := 71) d0_grow_71 rfl rfl ?_
        refine den_getR (pc := 72) (b := 64) fa_0_15 (ok_62 _) rfl d0_grow_72 ?_
        refine den_iload_n (pc := 75) d0_grow_75 rfl rfl ?_
        refine den_iload (pc := 76) d0_grow_76 rfl ?_
        refine den_asrt (fun a1 => ?_)
        refine den_iastore (pc := 78) sh_64 (sz_lt (by decide)) rfl a1 d0_grow_78 ?_
        refine den_ltH (fun h2 m3 => ?_)
        refine den_aload_n (pc := 79) d0_grow_79 rfl rfl ?_
        refine den_iload_n (pc := 80) d0_grow_80 rfl rfl ?_
        refine den_iconst (pc := 81) d0_grow_81 ?_
        refine den_iadd (pc := 82) d0_grow_82 ?_
        refine den_aload_n (pc := 83) d0_grow_83 rfl rfl ?_
        refine den_getR (pc := 84) (b := 65) fa_0_18 (ok_62 _) rfl d0_grow_84 ?_
        refine den_iload (pc := 87) d0_grow_87 rfl ?_
        refine den_asrt (fun a4 => ?_)
        refine den_iaload (pc := 89) sh_65 (sz_lt (by decide)) rfl a4 d0_grow_89 ?_
        refine den_iload_n (pc := 90) d0_grow_90 rfl rfl ?_
        refine den_iconst (pc := 91) d0_grow_91 ?_
        refine den_iload (pc := 92) d0_grow_92 rfl ?_
        refine den_ishl (pc := 94) d0_grow_94 ?_
        refine den_ior (pc := 95) d0_grow_95 ?_
        refine den_callVV (pc := 96) (As := [vI (x1 + 1), vI (h2.2 65 (w32 x4).toNat), vI (or32 x3 (shl32 1 x4))]) fv_0_42 rfl rfl (ok_62 _) (Nat.le_of_ble_eq_true rfl) hd2 d0_grow_96 (hself (x1 + 1) (h2.2 65 (w32 x4).toNat) (or32 x3 (shl32 1 x4)) h2) (fun r5 h6 m7 o8 => ?_)
        exact t0_grow_99 l G _ hd self d2 hd2 hself x1 x2 x3 x4 rec38 H38 h6
def l0_grow_38 (self : Int → Int → Int → AH → Option (Int × AH)) (x1 : Int) (x2 : Int) (x3 : Int) (x4 : Int) (h : AH) : Option (Int × AH) := fx (fun rec z => b0_grow_38 self rec x1 x2 x3 z.1 z.2) FU (x4, h)
set_option maxRecDepth 100000 in
theorem tl0_grow_38 (l : Launch) (G : Geo) (d : Nat) (hd : 3 ≤ d) (self : Int → Int → Int → AH → Option (Int × AH)) (d2 : Nat) (hd2 : d2 + 1 ≤ d) (hself : ∀ (x1 : Int) (x2 : Int) (x3 : Int) (h : AH), Con l G m0_grow rvV d2 [vA G 62, vI x1, vI x2, vI x3] h (self x1 x2 x3 h)) (x1 : Int) (x2 : Int) (x3 : Int) : ∀ (n : Nat) (z : Int × AH), True → Den l G m0_grow rvV d 38 [some (vA G 62), some (vI x1), some (vI x2), some (vI x3), some (vI z.1)] [] z.2 (fx (fun rec z => b0_grow_38 self rec x1 x2 x3 z.1 z.2) n z) :=
  den_fx (F := fun rec z => b0_grow_38 self rec x1 x2 x3 z.1 z.2) (P := fun z => True) (fL := fun z => [some (vA G 62), some (vI x1), some (vI x2), some (vI x3), some (vI z.1)]) (fs := fun z => []) (fh := fun z => z.2) (fun rec hrec z hz => t0_grow_38 l G d hd self d2 hd2 hself x1 x2 x3 z.1 rec (fun x4 h => hrec (x4, h) trivial) z.2 )
def b0_grow_28 (self : Int → Int → Int → AH → Option (Int × AH)) (x1 : Int) (x2 : Int) (x3 : Int) (h : AH) : Option (Int × AH) :=
  if w32 x1 < 8 then
    l0_grow_38 self x1 x2 x3 0 h
  else
    some (0, h)
set_option maxRecDepth 100000 in
theorem t0_grow_28 (l : Launch) (G : Geo) (d : Nat) (hd : 3 ≤ d) (self : Int → Int → Int → AH → Option (Int × AH)) (d2 : Nat) (hd2 : d2 + 1 ≤ d) (hself : ∀ (x1 : Int) (x2 : Int) (x3 : Int) (h : AH), Con l G m0_grow rvV d2 [vA G 62, vI x1, vI x2, vI x3] h (self x1 x2 x3 h)) (x1 : Int) (x2 : Int) (x3 : Int) (h : AH) : Den l G m0_grow rvV d 28 [some (vA G 62), some (vI x1), some (vI x2), some (vI x3), none] [] h (b0_grow_28 self x1 x2 x3 h) := by
  unfold b0_grow_28
  refine den_iload_n (pc := 28) d0_grow_28 rfl rfl ?_
  refine den_bipush (pc := 29) d0_grow_29 (by decide) ?_
  refine den_icmp_lt (pc := 31) (tgt := 35) d0_grow_31 (by decide) rfl (by decide) (fun _ => ?_) (fun _ => ?_)
  · refine den_iconst (pc := 35) d0_grow_35 ?_
    refine den_istore (pc := 36) (L2 := [some (vA G 62), some (vI x1), some (vI x2), some (vI x3), some (vI 0)]) d0_grow_36 (by decide) rfl ?_
    exact tl0_grow_38 l G _ hd self d2 hd2 hself x1 x2 x3 FU (0, h) trivial
  · exact den_vret (pc := 34) rfl d0_grow_34
def e0_grow (self : Int → Int → Int → AH → Option (Int × AH)) (x1 : Int) (x2 : Int) (x3 : Int) (h : AH) : Option (Int × AH) :=
  if w32 x1 ≤ w32 (h.2 62 1) then
    b0_grow_28 self x1 x2 x3 h
  else
    lt (wr h 62 1 x1) fun h9 =>
    asrt (0 ≤ w32 0 ∧ 0 ≤ w32 0 ∧ 0 ≤ w32 8 ∧ w32 0 + w32 8 ≤ 8 ∧ w32 0 + w32 8 ≤ 8) <|
    lt (cpy h9 64 63 (w32 0).toNat (w32 0).toNat (w32 8).toNat) fun h12 =>
    b0_grow_28 self x1 x2 x3 h12
def f0_grow : Nat → Int → Int → Int → AH → Option (Int × AH)
  | 0 => fun _ _ _ _ => none
  | n + 1 => fun x1 x2 x3 h => e0_grow (f0_grow n) x1 x2 x3 h
set_option maxRecDepth 100000 in
theorem t0_grow_e (l : Launch) (G : Geo) (d : Nat) (hd : 3 ≤ d) (self : Int → Int → Int → AH → Option (Int × AH)) (d2 : Nat) (hd2 : d2 + 1 ≤ d) (hself : ∀ (x1 : Int) (x2 : Int) (x3 : Int) (h : AH), Con l G m0_grow rvV d2 [vA G 62, vI x1, vI x2, vI x3] h (self x1 x2 x3 h)) (x1 : Int) (x2 : Int) (x3 : Int) (h : AH) : Den l G m0_grow rvV d 0 [some (vA G 62), some (vI x1), some (vI x2), some (vI x3), none] [] h (e0_grow self x1 x2 x3 h) := by
  unfold e0_grow
  refine den_iload_n (pc := 0) d0_grow_0 rfl rfl ?_
  refine den_aload_n (pc := 1) d0_grow_1 rfl rfl ?_
  refine den_getI (pc := 2) fa_0_39 (ok_62 _) d0_grow_2 ?_
  refine den_icmp_le (pc := 5) (tgt := 28) d0_grow_5 (by decide) rfl rfl (fun _ => ?_) (fun _ => ?_)
  · exact t0_grow_28 l G _ hd self d2 hd2 hself x1 x2 x3 h
  · refine den_aload_n (pc := 8) d0_grow_8 rfl rfl ?_
    refine den_iload_n (pc := 9) d0_grow_9 rfl rfl ?_
    refine den_putI (pc := 10) fp_0_39 (ok_62 _) d0_grow_10 ?_
    refine den_ltH (fun h9 m10 => ?_)
    refine den_aload_n (pc := 13) d0_grow_13 rfl rfl ?_
    refine den_getR (pc := 14) (b := 64) fa_0_15 (ok_62 _) rfl d0_grow_14 ?_
    refine den_iconst (pc := 17) d0_grow_17 ?_
    refine den_aload_n (pc := 18) d0_grow_18 rfl rfl ?_
    refine den_getR (pc := 19) (b := 63) fa_0_9 (ok_62 _) rfl d0_grow_19 ?_
    refine den_iconst (pc := 22) d0_grow_22 ?_
    refine den_bipush (pc := 23) d0_grow_23 (by decide) ?_
    refine den_asrt (fun a11 => ?_)
    refine den_copyI (pc := 25) fc_0_46 sh_64 (sz_lt (by decide)) sh_63 (sz_lt (by decide)) rfl rfl (Nat.le_trans (by decide) hd) a11 (Nat.le_of_ble_eq_true rfl) d0_grow_25 ?_
    refine den_ltH (fun h12 m13 => ?_)
    exact t0_grow_28 l G _ hd self d2 hd2 hself x1 x2 x3 h12
theorem c0_grow (l : Launch) (G : Geo) : ∀ (n : Nat) (x1 : Int) (x2 : Int) (x3 : Int) (h : AH) , Con l G m0_grow rvV (3 + n) [vA G 62, vI x1, vI x2, vI x3] h (f0_grow n x1 x2 x3 h) := by
  intro n
  induction n with
  | zero =>
    intro x1 x2 x3 h  r h2 q
    cases q
  | succ n ih =>
    intro x1 x2 x3 h 
    exact con_V rfl (by decide) rfl rfl (Nat.le_of_ble_eq_true rfl) (t0_grow_e l G _ (Nat.le_add_right _ _) (f0_grow n) (3 + n) (Nat.le_refl _) ih x1 x2 x3 h )
theorem d0_findLongest_0 : decode m0_findLongest.2.1 0 = .ok (.aload_n 0, 1) := by decide +kernel
theorem d0_findLongest_1 : decode m0_findLongest.2.1 1 = .ok (.iconst 0, 1) := by decide +kernel
theorem d0_findLongest_2 : decode m0_findLongest.2.1 2 = .ok (.putfield 39, 3) := by decide +kernel
theorem d0_findLongest_5 : decode m0_findLongest.2.1 5 = .ok (.aload_n 0, 1) := by decide +kernel
theorem d0_findLongest_6 : decode m0_findLongest.2.1 6 = .ok (.iconst 0, 1) := by decide +kernel
theorem d0_findLongest_7 : decode m0_findLongest.2.1 7 = .ok (.iconst 1, 1) := by decide +kernel
theorem d0_findLongest_8 : decode m0_findLongest.2.1 8 = .ok (.aload_n 0, 1) := by decide +kernel
theorem d0_findLongest_9 : decode m0_findLongest.2.1 9 = .ok (.getfield 27, 3) := by decide +kernel
theorem d0_findLongest_12 : decode m0_findLongest.2.1 12 = .ok (.ishl, 1) := by decide +kernel
theorem d0_findLongest_13 : decode m0_findLongest.2.1 13 = .ok (.iconst 1, 1) := by decide +kernel
theorem d0_findLongest_14 : decode m0_findLongest.2.1 14 = .ok (.isub, 1) := by decide +kernel
theorem d0_findLongest_15 : decode m0_findLongest.2.1 15 = .ok (.iconst 0, 1) := by decide +kernel
theorem d0_findLongest_16 : decode m0_findLongest.2.1 16 = .ok (.invokevirtual 42, 3) := by decide +kernel
theorem d0_findLongest_19 : decode m0_findLongest.2.1 19 = .ok (.return_, 1) := by decide +kernel
def f0_findLongest (h : AH) : Option (Int × AH) :=
  lt (wr h 62 1 0) fun h1 =>
  bnd (f0_grow 10 0 ((shl32 1 (h1.2 62 4)) - 1) 0 h1) fun r3 h4 =>
  some (0, h4)
set_option maxRecDepth 100000 in
theorem c0_findLongest (l : Launch) (G : Geo) (h : AH) : Con l G m0_findLongest rvV 14 [vA G 62] h (f0_findLongest  h) := by
  have hd : 14 ≤ 14 := Nat.le_refl _
  refine con_V rfl (by decide) rfl rfl (Nat.le_of_ble_eq_true rfl) (L := [some (vA G 62)]) ?_
  unfold f0_findLongest
  refine den_aload_n (pc := 0) d0_findLongest_0 rfl rfl ?_
  refine den_iconst (pc := 1) d0_findLongest_1 ?_
  refine den_putI (pc := 2) fp_0_39 (ok_62 _) d0_findLongest_2 ?_
  refine den_ltH (fun h1 m2 => ?_)
  refine den_aload_n (pc := 5) d0_findLongest_5 rfl rfl ?_
  refine den_iconst (pc := 6) d0_findLongest_6 ?_
  refine den_iconst (pc := 7) d0_findLongest_7 ?_
  refine den_aload_n (pc := 8) d0_findLongest_8 rfl rfl ?_
  refine den_getI (pc := 9) fa_0_27 (ok_62 _) d0_findLongest_9 ?_
  refine den_ishl (pc := 12) d0_findLongest_12 ?_
  refine den_iconst (pc := 13) d0_findLongest_13 ?_
  refine den_isub (pc := 14) d0_findLongest_14 ?_
  refine den_iconst (pc := 15) d0_findLongest_15 ?_
  refine den_callVV (pc := 16) (As := [vI 0, vI ((shl32 1 (h1.2 62 4)) - 1), vI 0]) fv_0_42 rfl rfl (ok_62 _) (Nat.le_of_ble_eq_true rfl) (Nat.le_trans (by decide) hd) d0_findLongest_16 (c0_grow l G 10 0 ((shl32 1 (h1.2 62 4)) - 1) 0 h1) (fun r3 h4 m5 o6 => ?_)
  exact den_vret (pc := 19) rfl d0_findLongest_19
theorem d13_bitCount_0 : decode m13_bitCount.2.1 0 = .ok (.iload_n 0, 1) := by decide +kernel
theorem d13_bitCount_1 : decode m13_bitCount.2.1 1 = .ok (.iload_n 0, 1) := by decide +kernel
theorem d13_bitCount_2 : decode m13_bitCount.2.1 2 = .ok (.iconst 1, 1) := by decide +kernel
theorem d13_bitCount_3 : decode m13_bitCount.2.1 3 = .ok (.iushr, 1) := by decide +kernel
theorem d13_bitCount_4 : decode m13_bitCount.2.1 4 = .ok (.ldc_w 265, 3) := by decide +kernel
theorem d13_bitCount_7 : decode m13_bitCount.2.1 7 = .ok (.iand, 1) := by decide +kernel
theorem d13_bitCount_8 : decode m13_bitCount.2.1 8 = .ok (.isub, 1) := by decide +kernel
theorem d13_bitCount_9 : decode m13_bitCount.2.1 9 = .ok (.istore_n 0, 1) := by decide +kernel
theorem d13_bitCount_10 : decode m13_bitCount.2.1 10 = .ok (.iload_n 0, 1) := by decide +kernel
theorem d13_bitCount_11 : decode m13_bitCount.2.1 11 = .ok (.ldc_w 266, 3) := by decide +kernel
theorem d13_bitCount_14 : decode m13_bitCount.2.1 14 = .ok (.iand, 1) := by decide +kernel
theorem d13_bitCount_15 : decode m13_bitCount.2.1 15 = .ok (.iload_n 0, 1) := by decide +kernel
theorem d13_bitCount_16 : decode m13_bitCount.2.1 16 = .ok (.iconst 2, 1) := by decide +kernel
theorem d13_bitCount_17 : decode m13_bitCount.2.1 17 = .ok (.iushr, 1) := by decide +kernel
theorem d13_bitCount_18 : decode m13_bitCount.2.1 18 = .ok (.ldc_w 266, 3) := by decide +kernel
theorem d13_bitCount_21 : decode m13_bitCount.2.1 21 = .ok (.iand, 1) := by decide +kernel
theorem d13_bitCount_22 : decode m13_bitCount.2.1 22 = .ok (.iadd, 1) := by decide +kernel
theorem d13_bitCount_23 : decode m13_bitCount.2.1 23 = .ok (.istore_n 0, 1) := by decide +kernel
theorem d13_bitCount_24 : decode m13_bitCount.2.1 24 = .ok (.iload_n 0, 1) := by decide +kernel
theorem d13_bitCount_25 : decode m13_bitCount.2.1 25 = .ok (.iload_n 0, 1) := by decide +kernel
theorem d13_bitCount_26 : decode m13_bitCount.2.1 26 = .ok (.iconst 4, 1) := by decide +kernel
theorem d13_bitCount_27 : decode m13_bitCount.2.1 27 = .ok (.iushr, 1) := by decide +kernel
theorem d13_bitCount_28 : decode m13_bitCount.2.1 28 = .ok (.iadd, 1) := by decide +kernel
theorem d13_bitCount_29 : decode m13_bitCount.2.1 29 = .ok (.ldc_w 267, 3) := by decide +kernel
theorem d13_bitCount_32 : decode m13_bitCount.2.1 32 = .ok (.iand, 1) := by decide +kernel
theorem d13_bitCount_33 : decode m13_bitCount.2.1 33 = .ok (.istore_n 0, 1) := by decide +kernel
theorem d13_bitCount_34 : decode m13_bitCount.2.1 34 = .ok (.iload_n 0, 1) := by decide +kernel
theorem d13_bitCount_35 : decode m13_bitCount.2.1 35 = .ok (.iload_n 0, 1) := by decide +kernel
theorem d13_bitCount_36 : decode m13_bitCount.2.1 36 = .ok (.bipush 8, 2) := by decide +kernel
theorem d13_bitCount_38 : decode m13_bitCount.2.1 38 = .ok (.iushr, 1) := by decide +kernel
theorem d13_bitCount_39 : decode m13_bitCount.2.1 39 = .ok (.iadd, 1) := by decide +kernel
theorem d13_bitCount_40 : decode m13_bitCount.2.1 40 = .ok (.istore_n 0, 1) := by decide +kernel
theorem d13_bitCount_41 : decode m13_bitCount.2.1 41 = .ok (.iload_n 0, 1) := by decide +kernel
theorem d13_bitCount_42 : decode m13_bitCount.2.1 42 = .ok (.iload_n 0, 1) := by decide +kernel
theorem d13_bitCount_43 : decode m13_bitCount.2.1 43 = .ok (.bipush 16, 2) := by decide +kernel
theorem d13_bitCount_45 : decode m13_bitCount.2.1 45 = .ok (.iushr, 1) := by decide +kernel
theorem d13_bitCount_46 : decode m13_bitCount.2.1 46 = .ok (.iadd, 1) := by decide +kernel
theorem d13_bitCount_47 : decode m13_bitCount.2.1 47 = .ok (.istore_n 0, 1) := by decide +kernel
theorem d13_bitCount_48 : decode m13_bitCount.2.1 48 = .ok (.iload_n 0, 1) := by decide +kernel
theorem d13_bitCount_49 : decode m13_bitCount.2.1 49 = .ok (.bipush 63, 2) := by decide +kernel
theorem d13_bitCount_51 : decode m13_bitCount.2.1 51 = .ok (.iand, 1) := by decide +kernel
theorem d13_bitCount_52 : decode m13_bitCount.2.1 52 = .ok (.ireturn, 1) := by decide +kernel
def f13_bitCount (x0 : Int) (h : AH) : Option (Int × AH) :=
  lt (x0 - (and32 (ush32 x0 1) 1431655765)) fun u1 =>
  lt ((and32 u1 858993459) + (and32 (ush32 u1 2) 858993459)) fun u2 =>
  lt (and32 (u2 + (ush32 u2 4)) 252645135) fun u3 =>
  lt (u3 + (ush32 u3 8)) fun u4 =>
  lt (u4 + (ush32 u4 16)) fun u5 =>
  some (and32 u5 63, h)
set_option maxRecDepth 100000 in
theorem c13_bitCount (l : Launch) (G : Geo) (x0 : Int) (h : AH) : Con l G m13_bitCount rvI 2 [vI x0] h (f13_bitCount x0 h) := by
  have hd : 2 ≤ 2 := Nat.le_refl _
  refine con_I rfl (by decide) rfl rfl (Nat.le_of_ble_eq_true rfl) (L := [some (vI x0)]) ?_
  unfold f13_bitCount
  refine den_iload_n (pc := 0) d13_bitCount_0 rfl rfl ?_
  refine den_iload_n (pc := 1) d13_bitCount_1 rfl rfl ?_
  refine den_iconst (pc := 2) d13_bitCount_2 ?_
  refine den_iushr (pc := 3) d13_bitCount_3 ?_
  refine den_ldc_w (pc := 4) kc_13_265 d13_bitCount_4 ?_
  refine den_iand (pc := 7) d13_bitCount_7 ?_
  refine den_isub (pc := 8) d13_bitCount_8 ?_
  refine den_istore_nL (pc := 9) (L2 := fun y => [some (vI y)]) d13_bitCount_9 rfl (by decide) (fun _ => rfl) (fun u1 => ?_)
  refine den_iload_n (pc := 10) d13_bitCount_10 rfl rfl ?_
  refine den_ldc_w (pc := 11) kc_13_266 d13_bitCount_11 ?_
  refine den_iand (pc := 14) d13_bitCount_14 ?_
  refine den_iload_n (pc := 15) d13_bitCount_15 rfl rfl ?_
  refine den_iconst (pc := 16) d13_bitCount_16 ?_
  refine den_iushr (pc := 17) d13_bitCount_17 ?_
  refine den_ldc_w (pc := 18) kc_13_266 d13_bitCount_18 ?_
  refine den_iand (pc := 21) d13_bitCount_21 ?_
  refine den_iadd (pc := 22) d13_bitCount_22 ?_
  refine den_istore_nL (pc := 23) (L2 := fun y => [some (vI y)]) d13_bitCount_23 rfl (by decide) (fun _ => rfl) (fun u2 => ?_)
  refine den_iload_n (pc := 24) d13_bitCount_24 rfl rfl ?_
  refine den_iload_n (pc := 25) d13_bitCount_25 rfl rfl ?_
  refine den_iconst (pc := 26) d13_bitCount_26 ?_
  refine den_iushr (pc := 27) d13_bitCount_27 ?_
  refine den_iadd (pc := 28) d13_bitCount_28 ?_
  refine den_ldc_w (pc := 29) kc_13_267 d13_bitCount_29 ?_
  refine den_iand (pc := 32) d13_bitCount_32 ?_
  refine den_istore_nL (pc := 33) (L2 := fun y => [some (vI y)]) d13_bitCount_33 rfl (by decide) (fun _ => rfl) (fun u3 => ?_)
  refine den_iload_n (pc := 34) d13_bitCount_34 rfl rfl ?_
  refine den_iload_n (pc := 35) d13_bitCount_35 rfl rfl ?_
  refine den_bipush (pc := 36) d13_bitCount_36 (by decide) ?_
  refine den_iushr (pc := 38) d13_bitCount_38 ?_
  refine den_iadd (pc := 39) d13_bitCount_39 ?_
  refine den_istore_nL (pc := 40) (L2 := fun y => [some (vI y)]) d13_bitCount_40 rfl (by decide) (fun _ => rfl) (fun u4 => ?_)
  refine den_iload_n (pc := 41) d13_bitCount_41 rfl rfl ?_
  refine den_iload_n (pc := 42) d13_bitCount_42 rfl rfl ?_
  refine den_bipush (pc := 43) d13_bitCount_43 (by decide) ?_
  refine den_iushr (pc := 45) d13_bitCount_45 ?_
  refine den_iadd (pc := 46) d13_bitCount_46 ?_
  refine den_istore_nL (pc := 47) (L2 := fun y => [some (vI y)]) d13_bitCount_47 rfl (by decide) (fun _ => rfl) (fun u5 => ?_)
  refine den_iload_n (pc := 48) d13_bitCount_48 rfl rfl ?_
  refine den_bipush (pc := 49) d13_bitCount_49 (by decide) ?_
  refine den_iand (pc := 51) d13_bitCount_51 ?_
  exact den_iret (pc := 52) rfl d13_bitCount_52
theorem d0_trios_0 : decode m0_trios.2.1 0 = .ok (.iconst 0, 1) := by decide +kernel
theorem d0_trios_1 : decode m0_trios.2.1 1 = .ok (.istore_n 1, 1) := by decide +kernel
theorem d0_trios_2 : decode m0_trios.2.1 2 = .ok (.iconst 0, 1) := by decide +kernel
theorem d0_trios_3 : decode m0_trios.2.1 3 = .ok (.istore_n 2, 1) := by decide +kernel
theorem d0_trios_4 : decode m0_trios.2.1 4 = .ok (.iload_n 2, 1) := by decide +kernel
theorem d0_trios_5 : decode m0_trios.2.1 5 = .ok (.aload_n 0, 1) := by decide +kernel
theorem d0_trios_6 : decode m0_trios.2.1 6 = .ok (.getfield 27, 3) := by decide +kernel
theorem d0_trios_9 : decode m0_trios.2.1 9 = .ok (.if_icmp .ge 63, 3) := by decide +kernel
theorem d0_trios_12 : decode m0_trios.2.1 12 = .ok (.iload_n 2, 1) := by decide +kernel
theorem d0_trios_13 : decode m0_trios.2.1 13 = .ok (.iconst 1, 1) := by decide +kernel
theorem d0_trios_14 : decode m0_trios.2.1 14 = .ok (.iadd, 1) := by decide +kernel
theorem d0_trios_15 : decode m0_trios.2.1 15 = .ok (.istore_n 3, 1) := by decide +kernel
theorem d0_trios_16 : decode m0_trios.2.1 16 = .ok (.iload_n 3, 1) := by decide +kernel
theorem d0_trios_17 : decode m0_trios.2.1 17 = .ok (.aload_n 0, 1) := by decide +kernel
theorem d0_trios_18 : decode m0_trios.2.1 18 = .ok (.getfield 27, 3) := by decide +kernel
theorem d0_trios_21 : decode m0_trios.2.1 21 = .ok (.if_icmp .ge 45, 3) := by decide +kernel
theorem d0_trios_24 : decode m0_trios.2.1 24 = .ok (.aload_n 0, 1) := by decide +kernel
theorem d0_trios_25 : decode m0_trios.2.1 25 = .ok (.getfield 18, 3) := by decide +kernel
theorem d0_trios_28 : decode m0_trios.2.1 28 = .ok (.iload_n 2, 1) := by decide +kernel
theorem d0_trios_29 : decode m0_trios.2.1 29 = .ok (.iaload, 1) := by decide +kernel
theorem d0_trios_30 : decode m0_trios.2.1 30 = .ok (.iconst 1, 1) := by decide +kernel
theorem d0_trios_31 : decode m0_trios.2.1 31 = .ok (.iload_n 3, 1) := by decide +kernel
theorem d0_trios_32 : decode m0_trios.2.1 32 = .ok (.ishl, 1) := by decide +kernel
theorem d0_trios_33 : decode m0_trios.2.1 33 = .ok (.iand, 1) := by decide +kernel
theorem d0_trios_34 : decode m0_trios.2.1 34 = .ok (.ifCond .eq 26, 3) := by decide +kernel
theorem d0_trios_37 : decode m0_trios.2.1 37 = .ok (.iload_n 1, 1) := by decide +kernel
theorem d0_trios_38 : decode m0_trios.2.1 38 = .ok (.aload_n 0, 1) := by decide +kernel
theorem d0_trios_39 : decode m0_trios.2.1 39 = .ok (.getfield 18, 3) := by decide +kernel
theorem d0_trios_42 : decode m0_trios.2.1 42 = .ok (.iload_n 2, 1) := by decide +kernel
theorem d0_trios_43 : decode m0_trios.2.1 43 = .ok (.iaload, 1) := by decide +kernel
theorem d0_trios_44 : decode m0_trios.2.1 44 = .ok (.aload_n 0, 1) := by decide +kernel
theorem d0_trios_45 : decode m0_trios.2.1 45 = .ok (.getfield 18, 3) := by decide +kernel
theorem d0_trios_48 : decode m0_trios.2.1 48 = .ok (.iload_n 3, 1) := by decide +kernel
theorem d0_trios_49 : decode m0_trios.2.1 49 = .ok (.iaload, 1) := by decide +kernel
theorem d0_trios_50 : decode m0_trios.2.1 50 = .ok (.iand, 1) := by decide +kernel
theorem d0_trios_51 : decode m0_trios.2.1 51 = .ok (.iload_n 3, 1) := by decide +kernel
theorem d0_trios_52 : decode m0_trios.2.1 52 = .ok (.iconst 1, 1) := by decide +kernel
theorem d0_trios_53 : decode m0_trios.2.1 53 = .ok (.iadd, 1) := by decide +kernel
theorem d0_trios_54 : decode m0_trios.2.1 54 = .ok (.iushr, 1) := by decide +kernel
theorem d0_trios_55 : decode m0_trios.2.1 55 = .ok (.invokestatic 52, 3) := by decide +kernel
theorem d0_trios_58 : decode m0_trios.2.1 58 = .ok (.iadd, 1) := by decide +kernel
theorem d0_trios_59 : decode m0_trios.2.1 59 = .ok (.istore_n 1, 1) := by decide +kernel
theorem d0_trios_60 : decode m0_trios.2.1 60 = .ok (.iinc 3 1, 3) := by decide +kernel
theorem d0_trios_63 : decode m0_trios.2.1 63 = .ok (.goto (-47), 3) := by decide +kernel
theorem d0_trios_66 : decode m0_trios.2.1 66 = .ok (.iinc 2 1, 3) := by decide +kernel
theorem d0_trios_69 : decode m0_trios.2.1 69 = .ok (.goto (-65), 3) := by decide +kernel
theorem d0_trios_72 : decode m0_trios.2.1 72 = .ok (.iload_n 1, 1) := by decide +kernel
theorem d0_trios_73 : decode m0_trios.2.1 73 = .ok (.ireturn, 1) := by decide +kernel
def b0_trios_60 (rec4 : Int × Int × AH → Option (Int × AH)) (rec16 : Int × Int × AH → Option (Int × AH)) (x1 : Int) (x2 : Int) (x3 : Int) (h : AH) : Option (Int × AH) :=
  rec16 (x1, (x3 + 1), h)
set_option maxRecDepth 100000 in
theorem t0_trios_60 (l : Launch) (G : Geo) (d : Nat) (hd : 3 ≤ d) (x1 : Int) (x2 : Int) (x3 : Int) (rec4 : Int × Int × AH → Option (Int × AH)) (H4 : ∀ (x1 : Int) (x2 : Int) (h : AH), Den l G m0_trios rvI d 4 [some (vA G 62), some (vI x1), some (vI x2), none] [] h (rec4 (x1, x2, h))) (rec16 : Int × Int × AH → Option (Int × AH)) (H16 : ∀ (x1 : Int) (x3 : Int) (h : AH), Den l G m0_trios rvI d 16 [some (vA G 62), some (vI x1), some (vI x2), some (vI x3)] [] h (rec16 (x1, x3, h))) (h : AH) : Den l G m0_trios rvI d 60 [some (vA G 62), some (vI x1), some (vI x2), some (vI x3)] [] h (b0_trios_60 rec4 rec16 x1 x2 x3 h) := by
  unfold b0_trios_60
  refine den_iinc (pc := 60) (L2 := [some (vA G 62), some (vI x1), some (vI x2), some (vI (x3 + 1))]) d0_trios_60 (by decide) rfl rfl ?_
  refine den_goto (pc := 63) (tgt := 16) d0_trios_63 (by decide) ?_
  exact H16 x1 (x3 + 1) h
def b0_trios_16 (rec16 : Int × Int × AH → Option (Int × AH)) (rec4 : Int × Int × AH → Option (Int × AH)) (x2 : Int) (x1 : Int) (x3 : Int) (h : AH) : Option (Int × AH) :=
  if w32 (h.2 62 4) ≤ w32 x3 then
    rec4 (x1, (x2 + 1), h)
  else
    asrt (0 ≤ w32 x2 ∧ w32 x2 < 8) <|
    if w32 (and32 (h.2 65 (w32 x2).toNat) (shl32 1 x3)) = 0 then
      b0_trios_60 rec4 rec16 x1 x2 x3 h
    else
      asrt (0 ≤ w32 x2 ∧ w32 x2 < 8) <|
      asrt (0 ≤ w32 x3 ∧ w32 x3 < 8) <|
      bnd (f13_bitCount (ush32 (and32 (h.2 65 (w32 x2).toNat) (h.2 65 (w32 x3).toNat)) (x3 + 1)) h) fun r4 h5 =>
      lt (x1 + r4) fun u8 =>
      b0_trios_60 rec4 rec16 u8 x2 x3 h5
set_option maxRecDepth 100000 in
theorem t0_trios_16 (l : Launch) (G : Geo) (d : Nat) (hd : 3 ≤ d) (x2 : Int) (x1 : Int) (x3 : Int) (rec16 : Int × Int × AH → Option (Int × AH)) (H16 : ∀ (x1 : Int) (x3 : Int) (h : AH), Den l G m0_trios rvI d 16 [some (vA G 62), some (vI x1), some (vI x2), some (vI x3)] [] h (rec16 (x1, x3, h))) (rec4 : Int × Int × AH → Option (Int × AH)) (H4 : ∀ (x1 : Int) (x2 : Int) (h : AH), Den l G m0_trios rvI d 4 [some (vA G 62), some (vI x1), some (vI x2), none] [] h (rec4 (x1, x2, h))) (h : AH) : Den l G m0_trios rvI d 16 [some (vA G 62), some (vI x1), some (vI x2), some (vI x3)] [] h (b0_trios_16 rec16 rec4 x2 x1 x3 h) := by
  unfold b0_trios_16
  refine den_iload_n (pc := 16) d0_trios_16 rfl rfl ?_
  refine den_aload_n (pc := 17) d0_trios_17 rfl rfl ?_
  refine den_getI (pc := 18) fa_0_27 (ok_62 _) d0_trios_18 ?_
  refine den_icmp_ge (pc := 21) (tgt := 66) d0_trios_21 (by decide) rfl rfl (fun _ => ?_) (fun _ => ?_)
  · refine den_iinc (pc := 66) (L2 := [some (vA G 62), some (vI x1), some (vI (x2 + 1)), some (vI x3)]) d0_trios_66 (by decide) rfl rfl ?_
    refine den_goto (pc := 69) (tgt := 4) d0_trios_69 (by decide) ?_
    refine den_wk [true, true, true, false] rfl ?_
    exact H4 x1 (x2 + 1) h
  · refine den_aload_n (pc := 24) d0_trios_24 rfl rfl ?_
    refine den_getR (pc := 25) (b := 65) fa_0_18 (ok_62 _) rfl d0_trios_25 ?_
    refine den_iload_n (pc := 28) d0_trios_28 rfl rfl ?_
    refine den_asrt (fun a1 => ?_)
    refine den_iaload (pc := 29) sh_65 (sz_lt (by decide)) rfl a1 d0_trios_29 ?_
    refine den_iconst (pc := 30) d0_trios_30 ?_
    refine den_iload_n (pc := 31) d0_trios_31 rfl rfl ?_
    refine den_ishl (pc := 32) d0_trios_32 ?_
    refine den_iand (pc := 33) d0_trios_33 ?_
    refine den_if_eq (pc := 34) (tgt := 60) d0_trios_34 (by decide) rfl (fun _ => ?_) (fun _ => ?_)
    · exact t0_trios_60 l G _ hd x1 x2 x3 rec4 H4 rec16 H16 h
    · refine den_iload_n (pc := 37) d0_trios_37 rfl rfl ?_
      refine den_aload_n (pc := 38) d0_trios_38 rfl rfl ?_
      refine den_getR (pc := 39) (b := 65) fa_0_18 (ok_62 _) rfl d0_trios_39 ?_
      refine den_iload_n (pc := 42) d0_trios_42 rfl rfl ?_
      refine den_asrt (fun a2 => ?_)
      refine den_iaload (pc := 43) sh_65 (sz_lt (by decide)) rfl a2 d0_trios_43 ?_
      refine den_aload_n (pc := 44) d0_trios_44 rfl rfl ?_
      refine den_getR (pc := 45) (b := 65) fa_0_18 (ok_62 _) rfl d0_trios_45 ?_
      refine den_iload_n (pc := 48) d0_trios_48 rfl rfl ?_
      refine den_asrt (fun a3 => ?_)
      refine den_iaload (pc := 49) sh_65 (sz_lt (by decide)) rfl a3 d0_trios_49 ?_
      refine den_iand (pc := 50) d0_trios_50 ?_
      refine den_iload_n (pc := 51) d0_trios_51 rfl rfl ?_
      refine den_iconst (pc := 52) d0_trios_52 ?_
      refine den_iadd (pc := 53) d0_trios_53 ?_
      refine den_iushr (pc := 54) d0_trios_54 ?_
      refine den_callSI (pc := 55) (As := [vI (ush32 (and32 (h.2 65 (w32 x2).toNat) (h.2 65 (w32 x3).toNat)) (x3 + 1))]) fs_0_52 rfl rfl (Nat.le_of_ble_eq_true rfl) (Nat.le_trans (by decide) hd) d0_trios_55 (c13_bitCount l G (ush32 (and32 (h.2 65 (w32 x2).toNat) (h.2 65 (w32 x3).toNat)) (x3 + 1)) h) (fun r4 h5 m6 o7 => ?_)
      refine den_iadd (pc := 58) d0_trios_58 ?_
      refine den_istore_nL (pc := 59) (L2 := fun y => [some (vA G 62), some (vI y), some (vI x2), some (vI x3)]) d0_trios_59 rfl (by decide) (fun _ => rfl) (fun u8 => ?_)
      exact t0_trios_60 l G _ hd u8 x2 x3 rec4 H4 rec16 H16 h5
def l0_trios_16 (rec4 : Int × Int × AH → Option (Int × AH)) (x2 : Int) (x1 : Int) (x3 : Int) (h : AH) : Option (Int × AH) := fx (fun rec z => b0_trios_16 rec rec4 x2 z.1 z.2.1 z.2.2) FU (x1, x3, h)
set_option maxRecDepth 100000 in
theorem tl0_trios_16 (l : Launch) (G : Geo) (d : Nat) (hd : 3 ≤ d) (x2 : Int) (rec4 : Int × Int × AH → Option (Int × AH)) (H4 : ∀ (x1 : Int) (x2 : Int) (h : AH), Den l G m0_trios rvI d 4 [some (vA G 62), some (vI x1), some (vI x2), none] [] h (rec4 (x1, x2, h))) : ∀ (n : Nat) (z : Int × Int × AH), True → Den l G m0_trios rvI d 16 [some (vA G 62), some (vI z.1), some (vI x2), some (vI z.2.1)] [] z.2.2 (fx (fun rec z => b0_trios_16 rec rec4 x2 z.1 z.2.1 z.2.2) n z) :=
  den_fx (F := fun rec z => b0_trios_16 rec rec4 x2 z.1 z.2.1 z.2.2) (P := fun z => True) (fL := fun z => [some (vA G 62), some (vI z.1), some (vI x2), some (vI z.2.1)]) (fs := fun z => []) (fh := fun z => z.2.2) (fun rec hrec z hz => t0_trios_16 l G d hd x2 z.1 z.2.1 rec (fun x1 x3 h => hrec (x1, x3, h) trivial) rec4 H4 z.2.2 )
def b0_trios_4 (rec4 : Int × Int × AH → Option (Int × AH)) (x1 : Int) (x2 : Int) (h : AH) : Option (Int × AH) :=
  if w32 (h.2 62 4) ≤ w32 x2 then
    some (x1, h)
  else
    lt (x2 + 1) fun u9 =>
    l0_trios_16 rec4 x2 x1 u9 h
set_option maxRecDepth 100000 in
theorem t0_trios_4 (l : Launch) (G : Geo) (d : Nat) (hd : 3 ≤ d) (x1 : Int) (x2 : Int) (rec4 : Int × Int × AH → Option (Int × AH)) (H4 : ∀ (x1 : Int) (x2 : Int) (h : AH), Den l G m0_trios rvI d 4 [some (vA G 62), some (vI x1), some (vI x2), none] [] h (rec4 (x1, x2, h))) (h : AH) : Den l G m0_trios rvI d 4 [some (vA G 62), some (vI x1), some (vI x2), none] [] h (b0_trios_4 rec4 x1 x2 h) := by
  unfold b0_trios_4
  refine den_iload_n (pc := 4) d0_trios_4 rfl rfl ?_
  refine den_aload_n (pc := 5) d0_trios_5 rfl rfl ?_
  refine den_getI (pc := 6) fa_0_27 (ok_62 _) d0_trios_6 ?_
  refine den_icmp_ge (pc := 9) (tgt := 72) d0_trios_9 (by decide) rfl rfl (fun _ => ?_) (fun _ => ?_)
  · refine den_iload_n (pc := 72) d0_trios_72 rfl rfl ?_
    exact den_iret (pc := 73) rfl d0_trios_73
  · refine den_iload_n (pc := 12) d0_trios_12 rfl rfl ?_
    refine den_iconst (pc := 13) d0_trios_13 ?_
    refine den_iadd (pc := 14) d0_trios_14 ?_
    refine den_istore_nL (pc := 15) (L2 := fun y => [some (vA G 62), some (vI x1), some (vI x2), some (vI y)]) d0_trios_15 rfl (by decide) (fun _ => rfl) (fun u9 => ?_)
    exact tl0_trios_16 l G _ hd x2 rec4 H4 FU (x1, u9, h) trivial
def l0_trios_4 (x1 : Int) (x2 : Int) (h : AH) : Option (Int × AH) := fx (fun rec z => b0_trios_4 rec z.1 z.2.1 z.2.2) FU (x1, x2, h)
set_option maxRecDepth 100000 in
theorem tl0_trios_4 (l : Launch) (G : Geo) (d : Nat) (hd : 3 ≤ d) : ∀ (n : Nat) (z : Int × Int × AH), True → Den l G m0_trios rvI d 4 [some (vA G 62), some (vI z.1), some (vI z.2.1), none] [] z.2.2 (fx (fun rec z => b0_trios_4 rec z.1 z.2.1 z.2.2) n z) :=
  den_fx (F := fun rec z => b0_trios_4 rec z.1 z.2.1 z.2.2) (P := fun z => True) (fL := fun z => [some (vA G 62), some (vI z.1), some (vI z.2.1), none]) (fs := fun z => []) (fh := fun z => z.2.2) (fun rec hrec z hz => t0_trios_4 l G d hd z.1 z.2.1 rec (fun x1 x2 h => hrec (x1, x2, h) trivial) z.2.2 )
def f0_trios (h : AH) : Option (Int × AH) :=
  l0_trios_4 0 0 h
set_option maxRecDepth 100000 in
theorem c0_trios (l : Launch) (G : Geo) (h : AH) : Con l G m0_trios rvI 3 [vA G 62] h (f0_trios  h) := by
  have hd : 3 ≤ 3 := Nat.le_refl _
  refine con_I rfl (by decide) rfl rfl (Nat.le_of_ble_eq_true rfl) (L := [some (vA G 62), none, none, none]) ?_
  unfold f0_trios
  refine den_iconst (pc := 0) d0_trios_0 ?_
  refine den_istore_n (pc := 1) (L2 := [some (vA G 62), some (vI 0), none, none]) d0_trios_1 rfl (by decide) rfl ?_
  refine den_iconst (pc := 2) d0_trios_2 ?_
  refine den_istore_n (pc := 3) (L2 := [some (vA G 62), some (vI 0), some (vI 0), none]) d0_trios_3 rfl (by decide) rfl ?_
  exact tl0_trios_4 l G _ hd FU (0, 0, h) trivial
theorem d0_alone_0 : decode m0_alone.2.1 0 = .ok (.iconst 0, 1) := by decide +kernel
theorem d0_alone_1 : decode m0_alone.2.1 1 = .ok (.istore_n 1, 1) := by decide +kernel
theorem d0_alone_2 : decode m0_alone.2.1 2 = .ok (.iconst 0, 1) := by decide +kernel
theorem d0_alone_3 : decode m0_alone.2.1 3 = .ok (.istore_n 2, 1) := by decide +kernel
theorem d0_alone_4 : decode m0_alone.2.1 4 = .ok (.iload_n 2, 1) := by decide +kernel
theorem d0_alone_5 : decode m0_alone.2.1 5 = .ok (.aload_n 0, 1) := by decide +kernel
theorem d0_alone_6 : decode m0_alone.2.1 6 = .ok (.getfield 27, 3) := by decide +kernel
theorem d0_alone_9 : decode m0_alone.2.1 9 = .ok (.if_icmp .ge 28, 3) := by decide +kernel
theorem d0_alone_12 : decode m0_alone.2.1 12 = .ok (.iload_n 1, 1) := by decide +kernel
theorem d0_alone_13 : decode m0_alone.2.1 13 = .ok (.aload_n 0, 1) := by decide +kernel
theorem d0_alone_14 : decode m0_alone.2.1 14 = .ok (.getfield 18, 3) := by decide +kernel
theorem d0_alone_17 : decode m0_alone.2.1 17 = .ok (.iload_n 2, 1) := by decide +kernel
theorem d0_alone_18 : decode m0_alone.2.1 18 = .ok (.iaload, 1) := by decide +kernel
theorem d0_alone_19 : decode m0_alone.2.1 19 = .ok (.ifCond .ne 9, 3) := by decide +kernel
theorem d0_alone_22 : decode m0_alone.2.1 22 = .ok (.iconst 1, 1) := by decide +kernel
theorem d0_alone_23 : decode m0_alone.2.1 23 = .ok (.iload_n 2, 1) := by decide +kernel
theorem d0_alone_24 : decode m0_alone.2.1 24 = .ok (.ishl, 1) := by decide +kernel
theorem d0_alone_25 : decode m0_alone.2.1 25 = .ok (.goto 4, 3) := by decide +kernel
theorem d0_alone_28 : decode m0_alone.2.1 28 = .ok (.iconst 0, 1) := by decide +kernel
theorem d0_alone_29 : decode m0_alone.2.1 29 = .ok (.ior, 1) := by decide +kernel
theorem d0_alone_30 : decode m0_alone.2.1 30 = .ok (.istore_n 1, 1) := by decide +kernel
theorem d0_alone_31 : decode m0_alone.2.1 31 = .ok (.iinc 2 1, 3) := by decide +kernel
theorem d0_alone_34 : decode m0_alone.2.1 34 = .ok (.goto (-30), 3) := by decide +kernel
theorem d0_alone_37 : decode m0_alone.2.1 37 = .ok (.iload_n 1, 1) := by decide +kernel
theorem d0_alone_38 : decode m0_alone.2.1 38 = .ok (.ireturn, 1) := by decide +kernel
def b0_alone_29 (rec4 : Int × Int × AH → Option (Int × AH)) (x2 : Int) (s0 : Int) (s1 : Int) (h : AH) : Option (Int × AH) :=
  lt (or32 s1 s0) fun u1 =>
  rec4 (u1, (x2 + 1), h)
set_option maxRecDepth 100000 in
theorem t0_alone_29 (l : Launch) (G : Geo) (d : Nat) (hd : 2 ≤ d) (x2 : Int) (s0 : Int) (s1 : Int) (rec4 : Int × Int × AH → Option (Int × AH)) (H4 : ∀ (x1 : Int) (x2 : Int) (h : AH), Den l G m0_alone rvI d 4 [some (vA G 62), some (vI x1), some (vI x2)] [] h (rec4 (x1, x2, h))) (h : AH) : Den l G m0_alone rvI d 29 [some (vA G 62), none, some (vI x2)] [vI s0, vI s1] h (b0_alone_29 rec4 x2 s0 s1 h) := by
  unfold b0_alone_29
  refine den_ior (pc := 29) d0_alone_29 ?_
  refine den_istore_nL (pc := 30) (L2 := fun y => [some (vA G 62), some (vI y), some (vI x2)]) d0_alone_30 rfl (by decide) (fun _ => rfl) (fun u1 => ?_)
  refine den_iinc (pc := 31) (L2 := [some (vA G 62), some (vI u1), some (vI (x2 + 1))]) d0_alone_31 (by decide) rfl rfl ?_
  refine den_goto (pc := 34) (tgt := 4) d0_alone_34 (by decide) ?_
  exact H4 u1 (x2 + 1) h
def b0_alone_4 (rec4 : Int × Int × AH → Option (Int × AH)) (x1 : Int) (x2 : Int) (h : AH) : Option (Int × AH) :=
  if w32 (h.2 62 4) ≤ w32 x2 then
    some (x1, h)
  else
    asrt (0 ≤ w32 x2 ∧ w32 x2 < 8) <|
    if ¬ w32 (h.2 65 (w32 x2).toNat) = 0 then
      b0_alone_29 rec4 x2 0 x1 h
    else
      b0_alone_29 rec4 x2 (shl32 1 x2) x1 h
set_option maxRecDepth 100000 in
theorem t0_alone_4 (l : Launch) (G : Geo) (d : Nat) (hd : 2 ≤ d) (x1 : Int) (x2 : Int) (rec4 : Int × Int × AH → Option (Int × AH)) (H4 : ∀ (x1 : Int) (x2 : Int) (h : AH), Den l G m0_alone rvI d 4 [some (vA G 62), some (vI x1), some (vI x2)] [] h (rec4 (x1, x2, h))) (h : AH) : Den l G m0_alone rvI d 4 [some (vA G 62), some (vI x1), some (vI x2)] [] h (b0_alone_4 rec4 x1 x2 h) := by
  unfold b0_alone_4
  refine den_iload_n (pc := 4) d0_alone_4 rfl rfl ?_
  refine den_aload_n (pc := 5) d0_alone_5 rfl rfl ?_
  refine den_getI (pc := 6) fa_0_27 (ok_62 _) d0_alone_6 ?_
  refine den_icmp_ge (pc := 9) (tgt := 37) d0_alone_9 (by decide) rfl rfl (fun _ => ?_) (fun _ => ?_)
  · refine den_iload_n (pc := 37) d0_alone_37 rfl rfl ?_
    exact den_iret (pc := 38) rfl d0_alone_38
  · refine den_iload_n (pc := 12) d0_alone_12 rfl rfl ?_
    refine den_aload_n (pc := 13) d0_alone_13 rfl rfl ?_
    refine den_getR (pc := 14) (b := 65) fa_0_18 (ok_62 _) rfl d0_alone_14 ?_
    refine den_iload_n (pc := 17) d0_alone_17 rfl rfl ?_
    refine den_asrt (fun a2 => ?_)
    refine den_iaload (pc := 18) sh_65 (sz_lt (by decide)) rfl a2 d0_alone_18 ?_
    refine den_if_ne (pc := 19) (tgt := 28) d0_alone_19 (by decide) rfl (fun _ => ?_) (fun _ => ?_)
    · refine den_iconst (pc := 28) d0_alone_28 ?_
      refine den_wk [true, false, true] rfl ?_
      exact t0_alone_29 l G _ hd x2 0 x1 rec4 H4 h
    · refine den_iconst (pc := 22) d0_alone_22 ?_
      refine den_iload_n (pc := 23) d0_alone_23 rfl rfl ?_
      refine den_ishl (pc := 24) d0_alone_24 ?_
      refine den_goto (pc := 25) (tgt := 29) d0_alone_25 (by decide) ?_
      refine den_wk [true, false, true] rfl ?_
      exact t0_alone_29 l G _ hd x2 (shl32 1 x2) x1 rec4 H4 h
def l0_alone_4 (x1 : Int) (x2 : Int) (h : AH) : Option (Int × AH) := fx (fun rec z => b0_alone_4 rec z.1 z.2.1 z.2.2) FU (x1, x2, h)
set_option maxRecDepth 100000 in
theorem tl0_alone_4 (l : Launch) (G : Geo) (d : Nat) (hd : 2 ≤ d) : ∀ (n : Nat) (z : Int × Int × AH), True → Den l G m0_alone rvI d 4 [some (vA G 62), some (vI z.1), some (vI z.2.1)] [] z.2.2 (fx (fun rec z => b0_alone_4 rec z.1 z.2.1 z.2.2) n z) :=
  den_fx (F := fun rec z => b0_alone_4 rec z.1 z.2.1 z.2.2) (P := fun z => True) (fL := fun z => [some (vA G 62), some (vI z.1), some (vI z.2.1)]) (fs := fun z => []) (fh := fun z => z.2.2) (fun rec hrec z hz => t0_alone_4 l G d hd z.1 z.2.1 rec (fun x1 x2 h => hrec (x1, x2, h) trivial) z.2.2 )
def f0_alone (h : AH) : Option (Int × AH) :=
  l0_alone_4 0 0 h
set_option maxRecDepth 100000 in
theorem c0_alone (l : Launch) (G : Geo) (h : AH) : Con l G m0_alone rvI 2 [vA G 62] h (f0_alone  h) := by
  have hd : 2 ≤ 2 := Nat.le_refl _
  refine con_I rfl (by decide) rfl rfl (Nat.le_of_ble_eq_true rfl) (L := [some (vA G 62), none, none]) ?_
  unfold f0_alone
  refine den_iconst (pc := 0) d0_alone_0 ?_
  refine den_istore_n (pc := 1) (L2 := [some (vA G 62), some (vI 0), none]) d0_alone_1 rfl (by decide) rfl ?_
  refine den_iconst (pc := 2) d0_alone_2 ?_
  refine den_istore_n (pc := 3) (L2 := [some (vA G 62), some (vI 0), some (vI 0)]) d0_alone_3 rfl (by decide) rfl ?_
  exact tl0_alone_4 l G _ hd FU (0, 0, h) trivial
theorem d1_setBetween_0 : decode m1_setBetween.2.1 0 = .ok (.aload_n 0, 1) := by decide +kernel
theorem d1_setBetween_1 : decode m1_setBetween.2.1 1 = .ok (.getfield 15, 3) := by decide +kernel
theorem d1_setBetween_4 : decode m1_setBetween.2.1 4 = .ok (.iload_n 1, 1) := by decide +kernel
theorem d1_setBetween_5 : decode m1_setBetween.2.1 5 = .ok (.bipush 8, 2) := by decide +kernel
theorem d1_setBetween_7 : decode m1_setBetween.2.1 7 = .ok (.imul, 1) := by decide +kernel
theorem d1_setBetween_8 : decode m1_setBetween.2.1 8 = .ok (.iload_n 2, 1) := by decide +kernel
theorem d1_setBetween_9 : decode m1_setBetween.2.1 9 = .ok (.iadd, 1) := by decide +kernel
theorem d1_setBetween_10 : decode m1_setBetween.2.1 10 = .ok (.iload_n 3, 1) := by decide +kernel
theorem d1_setBetween_11 : decode m1_setBetween.2.1 11 = .ok (.iastore, 1) := by decide +kernel
theorem d1_setBetween_12 : decode m1_setBetween.2.1 12 = .ok (.aload_n 0, 1) := by decide +kernel
theorem d1_setBetween_13 : decode m1_setBetween.2.1 13 = .ok (.getfield 15, 3) := by decide +kernel
theorem d1_setBetween_16 : decode m1_setBetween.2.1 16 = .ok (.iload_n 2, 1) := by decide +kernel
theorem d1_setBetween_17 : decode m1_setBetween.2.1 17 = .ok (.bipush 8, 2) := by decide +kernel
theorem d1_setBetween_19 : decode m1_setBetween.2.1 19 = .ok (.imul, 1) := by decide +kernel
theorem d1_setBetween_20 : decode m1_setBetween.2.1 20 = .ok (.iload_n 1, 1) := by decide +kernel
theorem d1_setBetween_21 : decode m1_setBetween.2.1 21 = .ok (.iadd, 1) := by decide +kernel
theorem d1_setBetween_22 : decode m1_setBetween.2.1 22 = .ok (.iload_n 3, 1) := by decide +kernel
theorem d1_setBetween_23 : decode m1_setBetween.2.1 23 = .ok (.iastore, 1) := by decide +kernel
theorem d1_setBetween_24 : decode m1_setBetween.2.1 24 = .ok (.return_, 1) := by decide +kernel
def f1_setBetween (x1 : Int) (x2 : Int) (x3 : Int) (h : AH) : Option (Int × AH) :=
  asrt (0 ≤ w32 ((x1 * 8) + x2) ∧ w32 ((x1 * 8) + x2) < 64) <|
  lt (wr h 52 (w32 ((x1 * 8) + x2)).toNat x3) fun h2 =>
  asrt (0 ≤ w32 ((x2 * 8) + x1) ∧ w32 ((x2 * 8) + x1) < 64) <|
  lt (wr h2 52 (w32 ((x2 * 8) + x1)).toNat x3) fun h5 =>
  some (0, h5)
set_option maxRecDepth 100000 in
theorem c1_setBetween (l : Launch) (G : Geo) (x1 : Int) (x2 : Int) (x3 : Int) (h : AH) : Con l G m1_setBetween rvV 2 [vA G 50, vI x1, vI x2, vI x3] h (f1_setBetween x1 x2 x3 h) := by
  have hd : 2 ≤ 2 := Nat.le_refl _
  refine con_V rfl (by decide) rfl rfl (Nat.le_of_ble_eq_true rfl) (L := [some (vA G 50), some (vI x1), some (vI x2), some (vI x3)]) ?_
  unfold f1_setBetween
  refine den_aload_n (pc := 0) d1_setBetween_0 rfl rfl ?_
  refine den_getR (pc := 1) (b := 52) fa_1_15 (ok_50 _) rfl d1_setBetween_1 ?_
  refine den_iload_n (pc := 4) d1_setBetween_4 rfl rfl ?_
  refine den_bipush (pc := 5) d1_setBetween_5 (by decide) ?_
  refine den_imul (pc := 7) d1_setBetween_7 ?_
  refine den_iload_n (pc := 8) d1_setBetween_8 rfl rfl ?_
  refine den_iadd (pc := 9) d1_setBetween_9 ?_
  refine den_iload_n (pc := 10) d1_setBetween_10 rfl rfl ?_
  refine den_asrt (fun a1 => ?_)
  refine den_iastore (pc := 11) sh_52 (sz_lt (by decide)) rfl a1 d1_setBetween_11 ?_
  refine den_ltH (fun h2 m3 => ?_)
  refine den_aload_n (pc := 12) d1_setBetween_12 rfl rfl ?_
  refine den_getR (pc := 13) (b := 52) fa_1_15 (ok_50 _) rfl d1_setBetween_13 ?_
  refine den_iload_n (pc := 16) d1_setBetween_16 rfl rfl ?_
  refine den_bipush (pc := 17) d1_setBetween_17 (by decide) ?_
  refine den_imul (pc := 19) d1_setBetween_19 ?_
  refine den_iload_n (pc := 20) d1_setBetween_20 rfl rfl ?_
  refine den_iadd (pc := 21) d1_setBetween_21 ?_
  refine den_iload_n (pc := 22) d1_setBetween_22 rfl rfl ?_
  refine den_asrt (fun a4 => ?_)
  refine den_iastore (pc := 23) sh_52 (sz_lt (by decide)) rfl a4 d1_setBetween_23 ?_
  refine den_ltH (fun h5 m6 => ?_)
  exact den_vret (pc := 24) rfl d1_setBetween_24
theorem d9_hasSubject_0 : decode m9_hasSubject.2.1 0 = .ok (.iload_n 1, 1) := by decide +kernel
theorem d9_hasSubject_1 : decode m9_hasSubject.2.1 1 = .ok (.ifCond .lt 15, 3) := by decide +kernel
theorem d9_hasSubject_4 : decode m9_hasSubject.2.1 4 = .ok (.iload_n 1, 1) := by decide +kernel
theorem d9_hasSubject_5 : decode m9_hasSubject.2.1 5 = .ok (.aload_n 0, 1) := by decide +kernel
theorem d9_hasSubject_6 : decode m9_hasSubject.2.1 6 = .ok (.getfield 34, 3) := by decide +kernel
theorem d9_hasSubject_9 : decode m9_hasSubject.2.1 9 = .ok (.if_icmp .ge 7, 3) := by decide +kernel
theorem d9_hasSubject_12 : decode m9_hasSubject.2.1 12 = .ok (.iconst 1, 1) := by decide +kernel
theorem d9_hasSubject_13 : decode m9_hasSubject.2.1 13 = .ok (.goto 4, 3) := by decide +kernel
theorem d9_hasSubject_16 : decode m9_hasSubject.2.1 16 = .ok (.iconst 0, 1) := by decide +kernel
theorem d9_hasSubject_17 : decode m9_hasSubject.2.1 17 = .ok (.ireturn, 1) := by decide +kernel
def f9_hasSubject (x0 : Nat) (x1 : Int) (h : AH) : Option (Int × AH) :=
  if w32 x1 < 0 then
    some (0, h)
  else
    if w32 (h.2 x0 1) ≤ w32 x1 then
      some (0, h)
    else
      some (1, h)
set_option maxRecDepth 100000 in
theorem c9_hasSubject (l : Launch) (G : Geo) (x0 : Nat) (x1 : Int) (h : AH) (kx0 : ok h.1 x0 9) : Con l G m9_hasSubject rvI 2 [vA G x0, vI x1] h (f9_hasSubject x0 x1 h) := by
  have hd : 2 ≤ 2 := Nat.le_refl _
  refine con_Z rfl (by decide) rfl rfl (Nat.le_of_ble_eq_true rfl) (L := [some (vA G x0), some (vI x1)]) ?_
  unfold f9_hasSubject
  refine den_iload_n (pc := 0) d9_hasSubject_0 rfl rfl ?_
  refine den_if_lt (pc := 1) (tgt := 16) d9_hasSubject_1 (by decide) rfl (fun _ => ?_) (fun _ => ?_)
  · refine den_iconst (pc := 16) d9_hasSubject_16 ?_
    exact den_zret (pc := 17) rfl (by decide) d9_hasSubject_17
  · refine den_iload_n (pc := 4) d9_hasSubject_4 rfl rfl ?_
    refine den_aload_n (pc := 5) d9_hasSubject_5 rfl rfl ?_
    refine den_getI (pc := 6) fa_9_34 kx0 d9_hasSubject_6 ?_
    refine den_icmp_ge (pc := 9) (tgt := 16) d9_hasSubject_9 (by decide) rfl rfl (fun _ => ?_) (fun _ => ?_)
    · refine den_iconst (pc := 16) d9_hasSubject_16 ?_
      exact den_zret (pc := 17) rfl (by decide) d9_hasSubject_17
    · refine den_iconst (pc := 12) d9_hasSubject_12 ?_
      refine den_goto (pc := 13) (tgt := 17) d9_hasSubject_13 (by decide) ?_
      exact den_zret (pc := 17) rfl (by decide) d9_hasSubject_17
theorem d9_heatAfter_0 : decode m9_heatAfter.2.1 0 = .ok (.aload_n 0, 1) := by decide +kernel
theorem d9_heatAfter_1 : decode m9_heatAfter.2.1 1 = .ok (.iload_n 1, 1) := by decide +kernel
theorem d9_heatAfter_2 : decode m9_heatAfter.2.1 2 = .ok (.invokevirtual 56, 3) := by decide +kernel
theorem d9_heatAfter_5 : decode m9_heatAfter.2.1 5 = .ok (.ifCond .eq 25, 3) := by decide +kernel
theorem d9_heatAfter_8 : decode m9_heatAfter.2.1 8 = .ok (.iconst 0, 1) := by decide +kernel
theorem d9_heatAfter_9 : decode m9_heatAfter.2.1 9 = .ok (.aload_n 0, 1) := by decide +kernel
theorem d9_heatAfter_10 : decode m9_heatAfter.2.1 10 = .ok (.getfield 15, 3) := by decide +kernel
theorem d9_heatAfter_13 : decode m9_heatAfter.2.1 13 = .ok (.iload_n 1, 1) := by decide +kernel
theorem d9_heatAfter_14 : decode m9_heatAfter.2.1 14 = .ok (.iaload, 1) := by decide +kernel
theorem d9_heatAfter_15 : decode m9_heatAfter.2.1 15 = .ok (.iload_n 2, 1) := by decide +kernel
theorem d9_heatAfter_16 : decode m9_heatAfter.2.1 16 = .ok (.aload_n 0, 1) := by decide +kernel
theorem d9_heatAfter_17 : decode m9_heatAfter.2.1 17 = .ok (.getfield 19, 3) := by decide +kernel
theorem d9_heatAfter_20 : decode m9_heatAfter.2.1 20 = .ok (.iload_n 1, 1) := by decide +kernel
theorem d9_heatAfter_21 : decode m9_heatAfter.2.1 21 = .ok (.iaload, 1) := by decide +kernel
theorem d9_heatAfter_22 : decode m9_heatAfter.2.1 22 = .ok (.imul, 1) := by decide +kernel
theorem d9_heatAfter_23 : decode m9_heatAfter.2.1 23 = .ok (.isub, 1) := by decide +kernel
theorem d9_heatAfter_24 : decode m9_heatAfter.2.1 24 = .ok (.invokestatic 82, 3) := by decide +kernel
theorem d9_heatAfter_27 : decode m9_heatAfter.2.1 27 = .ok (.goto 4, 3) := by decide +kernel
theorem d9_heatAfter_30 : decode m9_heatAfter.2.1 30 = .ok (.iconst 0, 1) := by decide +kernel
theorem d9_heatAfter_31 : decode m9_heatAfter.2.1 31 = .ok (.ireturn, 1) := by decide +kernel
def f9_heatAfter (x0 : Nat) (x1 : Int) (x2 : Int) (h : AH) : Option (Int × AH) :=
  bnd (f9_hasSubject x0 x1 h) fun r1 h2 =>
  if w32 r1 = 0 then
    some (0, h2)
  else
    asrt (0 ≤ w32 x1 ∧ w32 x1 < 6) <|
    asrt (0 ≤ w32 x1 ∧ w32 x1 < 6) <|
    some (max32 0 ((h2.2 (x0 + 1) (w32 x1).toNat) - (x2 * (h2.2 (x0 + 2) (w32 x1).toNat))), h2)
set_option maxRecDepth 100000 in
theorem c9_heatAfter (l : Launch) (G : Geo) (x0 : Nat) (x1 : Int) (x2 : Int) (h : AH) (kx0 : ok h.1 x0 9) : Con l G m9_heatAfter rvI 3 [vA G x0, vI x1, vI x2] h (f9_heatAfter x0 x1 x2 h) := by
  have hd : 3 ≤ 3 := Nat.le_refl _
  refine con_I rfl (by decide) rfl rfl (Nat.le_of_ble_eq_true rfl) (L := [some (vA G x0), some (vI x1), some (vI x2)]) ?_
  unfold f9_heatAfter
  refine den_aload_n (pc := 0) d9_heatAfter_0 rfl rfl ?_
  refine den_iload_n (pc := 1) d9_heatAfter_1 rfl rfl ?_
  refine den_callVI (pc := 2) (As := [vI x1]) fv_9_56 rfl rfl kx0 (Nat.le_of_ble_eq_true rfl) (Nat.le_trans (by decide) hd) d9_heatAfter_2 (c9_hasSubject l G x0 x1 h kx0) (fun r1 h2 m3 o4 => ?_)
  have q5 := ok.mono kx0 m3
  refine den_if_eq (pc := 5) (tgt := 30) d9_heatAfter_5 (by decide) rfl (fun _ => ?_) (fun _ => ?_)
  · refine den_iconst (pc := 30) d9_heatAfter_30 ?_
    exact den_iret (pc := 31) rfl d9_heatAfter_31
  · refine den_iconst (pc := 8) d9_heatAfter_8 ?_
    refine den_aload_n (pc := 9) d9_heatAfter_9 rfl rfl ?_
    refine den_getR (pc := 10) (b := x0 + 1) fa_9_15 q5 rfl d9_heatAfter_10 ?_
    refine den_iload_n (pc := 13) d9_heatAfter_13 rfl rfl ?_
    refine den_asrt (fun a6 => ?_)
    refine den_iaload (pc := 14) (vil_s1 q5) (vil_l1 q5) rfl a6 d9_heatAfter_14 ?_
    refine den_iload_n (pc := 15) d9_heatAfter_15 rfl rfl ?_
    refine den_aload_n (pc := 16) d9_heatAfter_16 rfl rfl ?_
    refine den_getR (pc := 17) (b := x0 + 2) fa_9_19 q5 rfl d9_heatAfter_17 ?_
    refine den_iload_n (pc := 20) d9_heatAfter_20 rfl rfl ?_
    refine den_asrt (fun a7 => ?_)
    refine den_iaload (pc := 21) (vil_s2 q5) (vil_l2 q5) rfl a7 d9_heatAfter_21 ?_
    refine den_imul (pc := 22) d9_heatAfter_22 ?_
    refine den_isub (pc := 23) d9_heatAfter_23 ?_
    refine den_max (pc := 24) fm_9_82 (Nat.le_of_ble_eq_true rfl) (Nat.le_trans (by decide) hd) d9_heatAfter_24 ?_
    refine den_goto (pc := 27) (tgt := 31) d9_heatAfter_27 (by decide) ?_
    exact den_iret (pc := 31) rfl d9_heatAfter_31
theorem d9_burningInAll_0 : decode m9_burningInAll.2.1 0 = .ok (.iconst 0, 1) := by decide +kernel
theorem d9_burningInAll_1 : decode m9_burningInAll.2.1 1 = .ok (.istore 4, 2) := by decide +kernel
theorem d9_burningInAll_3 : decode m9_burningInAll.2.1 3 = .ok (.iconst 0, 1) := by decide +kernel
theorem d9_burningInAll_4 : decode m9_burningInAll.2.1 4 = .ok (.istore 5, 2) := by decide +kernel
theorem d9_burningInAll_6 : decode m9_burningInAll.2.1 6 = .ok (.iload 5, 2) := by decide +kernel
theorem d9_burningInAll_8 : decode m9_burningInAll.2.1 8 = .ok (.bipush 9, 2) := by decide +kernel
theorem d9_burningInAll_10 : decode m9_burningInAll.2.1 10 = .ok (.if_icmp .ge 21, 3) := by decide +kernel
theorem d9_burningInAll_13 : decode m9_burningInAll.2.1 13 = .ok (.iload 4, 2) := by decide +kernel
theorem d9_burningInAll_15 : decode m9_burningInAll.2.1 15 = .ok (.aload_n 0, 1) := by decide +kernel
theorem d9_burningInAll_16 : decode m9_burningInAll.2.1 16 = .ok (.iload_n 3, 1) := by decide +kernel
theorem d9_burningInAll_17 : decode m9_burningInAll.2.1 17 = .ok (.iload 5, 2) := by decide +kernel
theorem d9_burningInAll_19 : decode m9_burningInAll.2.1 19 = .ok (.invokevirtual 88, 3) := by decide +kernel
theorem d9_burningInAll_22 : decode m9_burningInAll.2.1 22 = .ok (.iadd, 1) := by decide +kernel
theorem d9_burningInAll_23 : decode m9_burningInAll.2.1 23 = .ok (.istore 4, 2) := by decide +kernel
theorem d9_burningInAll_25 : decode m9_burningInAll.2.1 25 = .ok (.iinc 5 1, 3) := by decide +kernel
theorem d9_burningInAll_28 : decode m9_burningInAll.2.1 28 = .ok (.goto (-22), 3) := by decide +kernel
theorem d9_burningInAll_31 : decode m9_burningInAll.2.1 31 = .ok (.iconst 0, 1) := by decide +kernel
theorem d9_burningInAll_32 : decode m9_burningInAll.2.1 32 = .ok (.aload_n 0, 1) := by decide +kernel
theorem d9_burningInAll_33 : decode m9_burningInAll.2.1 33 = .ok (.iload_n 1, 1) := by decide +kernel
theorem d9_burningInAll_34 : decode m9_burningInAll.2.1 34 = .ok (.iload_n 2, 1) := by decide +kernel
theorem d9_burningInAll_35 : decode m9_burningInAll.2.1 35 = .ok (.iload_n 3, 1) := by decide +kernel
theorem d9_burningInAll_36 : decode m9_burningInAll.2.1 36 = .ok (.invokevirtual 78, 3) := by decide +kernel
theorem d9_burningInAll_39 : decode m9_burningInAll.2.1 39 = .ok (.invokestatic 82, 3) := by decide +kernel
theorem d9_burningInAll_42 : decode m9_burningInAll.2.1 42 = .ok (.iload 4, 2) := by decide +kernel
theorem d9_burningInAll_44 : decode m9_burningInAll.2.1 44 = .ok (.imul, 1) := by decide +kernel
theorem d9_burningInAll_45 : decode m9_burningInAll.2.1 45 = .ok (.ireturn, 1) := by decide +kernel
def b9_burningInAll_6 (rec6 : Int × Int × AH → Option (Int × AH)) (x0 : Nat) (x1 : Int) (x2 : Int) (x3 : Int) (x4 : Int) (x5 : Int) (h : AH) : Option (Int × AH) :=
  if 9 ≤ w32 x5 then
    bnd (f9_gap x0 x1 x2 x3 h) fun r1 h2 =>
    some ((max32 0 r1) * x4, h2)
  else
    bnd (f9_heatAfter x0 x3 x5 h) fun r6 h7 =>
    lt (x4 + r6) fun u11 =>
    rec6 (u11, (x5 + 1), h7)
set_option maxRecDepth 100000 in
theorem t9_burningInAll_6 (l : Launch) (G : Geo) (d : Nat) (hd : 4 ≤ d) (x0 : Nat) (x1 : Int) (x2 : Int) (x3 : Int) (x4 : Int) (x5 : Int) (rec6 : Int × Int × AH → Option (Int × AH)) (H6 : ∀ (x4 : Int) (x5 : Int) (h : AH), ok h.1 x0 9 → Den l G m9_burningInAll rvI d 6 [some (vA G x0), some (vI x1), some (vI x2), some (vI x3), some (vI x4), some (vI x5)] [] h (rec6 (x4, x5, h))) (h : AH) (kx0 : ok h.1 x0 9) : Den l G m9_burningInAll rvI d 6 [some (vA G x0), some (vI x1), some (vI x2), some (vI x3), some (vI x4), some (vI x5)] [] h (b9_burningInAll_6 rec6 x0 x1 x2 x3 x4 x5 h) := by
  unfold b9_burningInAll_6
  refine den_iload (pc := 6) d9_burningInAll_6 rfl ?_
  refine den_bipush (pc := 8) d9_burningInAll_8 (by decide) ?_
  refine den_icmp_ge (pc := 10) (tgt := 31) d9_burningInAll_10 (by decide) rfl (by decide) (fun _ => ?_) (fun _ => ?_)
  · refine den_iconst (pc := 31) d9_burningInAll_31 ?_
    refine den_aload_n (pc := 32) d9_burningInAll_32 rfl rfl ?_
    refine den_iload_n (pc := 33) d9_burningInAll_33 rfl rfl ?_
    refine den_iload_n (pc := 34) d9_burningInAll_34 rfl rfl ?_
    refine den_iload_n (pc := 35) d9_burningInAll_35 rfl rfl ?_
    refine den_callVI (pc := 36) (As := [vI x1, vI x2, vI x3]) fv_9_78 rfl rfl kx0 (Nat.le_of_ble_eq_true rfl) (Nat.le_trans (by decide) hd) d9_burningInAll_36 (c9_gap l G x0 x1 x2 x3 h kx0) (fun r1 h2 m3 o4 => ?_)
    have q5 := ok.mono kx0 m3
    refine den_max (pc := 39) fm_9_82 (Nat.le_of_ble_eq_true rfl) (Nat.le_trans (by decide) hd) d9_burningInAll_39 ?_
    refine den_iload (pc := 42) d9_burningInAll_42 rfl ?_
    refine den_imul (pc := 44) d9_burningInAll_44 ?_
    exact den_iret (pc := 45) rfl d9_burningInAll_45
  · refine den_iload (pc := 13) d9_burningInAll_13 rfl ?_
    refine den_aload_n (pc := 15) d9_burningInAll_15 rfl rfl ?_
    refine den_iload_n (pc := 16) d9_burningInAll_16 rfl rfl ?_
    refine den_iload (pc := 17) d9_burningInAll_17 rfl ?_
    refine den_callVI (pc := 19) (As := [vI x3, vI x5]) fv_9_88 rfl rfl kx0 (Nat.le_of_ble_eq_true rfl) (Nat.le_trans (by decide) hd) d9_burningInAll_19 (c9_heatAfter l G x0 x3 x5 h kx0) (fun r6 h7 m8 o9 => ?_)
    have q10 := ok.mono kx0 m8
    refine den_iadd (pc := 22) d9_burningInAll_22 ?_
    refine den_istoreL (pc := 23) (L2 := fun y => [some (vA G x0), some (vI x1), some (vI x2), some (vI x3), some (vI y), some (vI x5)]) d9_burningInAll_23 (by decide) (fun _ => rfl) (fun u11 => ?_)
    refine den_iinc (pc := 25) (L2 := [some (vA G x0), some (vI x1), some (vI x2), some (vI x3), some (vI u11), some (vI (x5 + 1))]) d9_burningInAll_25 (by decide) rfl rfl ?_
    refine den_goto (pc := 28) (tgt := 6) d9_burningInAll_28 (by decide) ?_
    exact H6 u11 (x5 + 1) h7 q10
def l9_burningInAll_6 (x0 : Nat) (x1 : Int) (x2 : Int) (x3 : Int) (x4 : Int) (x5 : Int) (h : AH) : Option (Int × AH) := fx (fun rec z => b9_burningInAll_6 rec x0 x1 x2 x3 z.1 z.2.1 z.2.2) FU (x4, x5, h)
set_option maxRecDepth 100000 in
theorem tl9_burningInAll_6 (l : Launch) (G : Geo) (d : Nat) (hd : 4 ≤ d) (x0 : Nat) (x1 : Int) (x2 : Int) (x3 : Int) : ∀ (n : Nat) (z : Int × Int × AH), ok z.2.2.1 x0 9 → Den l G m9_burningInAll rvI d 6 [some (vA G x0), some (vI x1), some (vI x2), some (vI x3), some (vI z.1), some (vI z.2.1)] [] z.2.2 (fx (fun rec z => b9_burningInAll_6 rec x0 x1 x2 x3 z.1 z.2.1 z.2.2) n z) :=
  den_fx (F := fun rec z => b9_burningInAll_6 rec x0 x1 x2 x3 z.1 z.2.1 z.2.2) (P := fun z => ok z.2.2.1 x0 9) (fL := fun z => [some (vA G x0), some (vI x1), some (vI x2), some (vI x3), some (vI z.1), some (vI z.2.1)]) (fs := fun z => []) (fh := fun z => z.2.2) (fun rec hrec z hz => t9_burningInAll_6 l G d hd x0 x1 x2 x3 z.1 z.2.1 rec (fun x4 x5 h w0 => hrec (x4, x5, h) w0) z.2.2 hz)
def f9_burningInAll (x0 : Nat) (x1 : Int) (x2 : Int) (x3 : Int) (h : AH) : Option (Int × AH) :=
  l9_burningInAll_6 x0 x1 x2 x3 0 0 h
set_option maxRecDepth 100000 in
theorem c9_burningInAll (l : Launch) (G : Geo) (x0 : Nat) (x1 : Int) (x2 : Int) (x3 : Int) (h : AH) (kx0 : ok h.1 x0 9) : Con l G m9_burningInAll rvI 4 [vA G x0, vI x1, vI x2, vI x3] h (f9_burningInAll x0 x1 x2 x3 h) := by
  have hd : 4 ≤ 4 := Nat.le_refl _
  refine con_I rfl (by decide) rfl rfl (Nat.le_of_ble_eq_true rfl) (L := [some (vA G x0), some (vI x1), some (vI x2), some (vI x3), none, none]) ?_
  unfold f9_burningInAll
  refine den_iconst (pc := 0) d9_burningInAll_0 ?_
  refine den_istore (pc := 1) (L2 := [some (vA G x0), some (vI x1), some (vI x2), some (vI x3), some (vI 0), none]) d9_burningInAll_1 (by decide) rfl ?_
  refine den_iconst (pc := 3) d9_burningInAll_3 ?_
  refine den_istore (pc := 4) (L2 := [some (vA G x0), some (vI x1), some (vI x2), some (vI x3), some (vI 0), some (vI 0)]) d9_burningInAll_4 (by decide) rfl ?_
  exact tl9_burningInAll_6 l G _ hd x0 x1 x2 x3 FU (0, 0, h) kx0
theorem d9_burningOnAll_0 : decode m9_burningOnAll.2.1 0 = .ok (.iconst 0, 1) := by decide +kernel
theorem d9_burningOnAll_1 : decode m9_burningOnAll.2.1 1 = .ok (.istore_n 3, 1) := by decide +kernel
theorem d9_burningOnAll_2 : decode m9_burningOnAll.2.1 2 = .ok (.iconst 0, 1) := by decide +kernel
theorem d9_burningOnAll_3 : decode m9_burningOnAll.2.1 3 = .ok (.istore 4, 2) := by decide +kernel
theorem d9_burningOnAll_5 : decode m9_burningOnAll.2.1 5 = .ok (.iload 4, 2) := by decide +kernel
theorem d9_burningOnAll_7 : decode m9_burningOnAll.2.1 7 = .ok (.aload_n 0, 1) := by decide +kernel
theorem d9_burningOnAll_8 : decode m9_burningOnAll.2.1 8 = .ok (.getfield 34, 3) := by decide +kernel
theorem d9_burningOnAll_11 : decode m9_burningOnAll.2.1 11 = .ok (.if_icmp .ge 20, 3) := by decide +kernel
theorem d9_burningOnAll_14 : decode m9_burningOnAll.2.1 14 = .ok (.iload_n 3, 1) := by decide +kernel
theorem d9_burningOnAll_15 : decode m9_burningOnAll.2.1 15 = .ok (.aload_n 0, 1) := by decide +kernel
theorem d9_burningOnAll_16 : decode m9_burningOnAll.2.1 16 = .ok (.iload_n 1, 1) := by decide +kernel
theorem d9_burningOnAll_17 : decode m9_burningOnAll.2.1 17 = .ok (.iload_n 2, 1) := by decide +kernel
theorem d9_burningOnAll_18 : decode m9_burningOnAll.2.1 18 = .ok (.iload 4, 2) := by decide +kernel
theorem d9_burningOnAll_20 : decode m9_burningOnAll.2.1 20 = .ok (.invokevirtual 94, 3) := by decide +kernel
theorem d9_burningOnAll_23 : decode m9_burningOnAll.2.1 23 = .ok (.iadd, 1) := by decide +kernel
theorem d9_burningOnAll_24 : decode m9_burningOnAll.2.1 24 = .ok (.istore_n 3, 1) := by decide +kernel
theorem d9_burningOnAll_25 : decode m9_burningOnAll.2.1 25 = .ok (.iinc 4 1, 3) := by decide +kernel
theorem d9_burningOnAll_28 : decode m9_burningOnAll.2.1 28 = .ok (.goto (-23), 3) := by decide +kernel
theorem d9_burningOnAll_31 : decode m9_burningOnAll.2.1 31 = .ok (.iload_n 3, 1) := by decide +kernel
theorem d9_burningOnAll_32 : decode m9_burningOnAll.2.1 32 = .ok (.ireturn, 1) := by decide +kernel
def b9_burningOnAll_5 (rec5 : Int × Int × AH → Option (Int × AH)) (x0 : Nat) (x1 : Int) (x2 : Int) (x3 : Int) (x4 : Int) (h : AH) : Option (Int × AH) :=
  if w32 (h.2 x0 1) ≤ w32 x4 then
    some (x3, h)
  else
    bnd (f9_burningInAll x0 x1 x2 x4 h) fun r1 h2 =>
    lt (x3 + r1) fun u6 =>
    rec5 (u6, (x4 + 1), h2)
set_option maxRecDepth 100000 in
theorem t9_burningOnAll_5 (l : Launch) (G : Geo) (d : Nat) (hd : 5 ≤ d) (x0 : Nat) (x1 : Int) (x2 : Int) (x3 : Int) (x4 : Int) (rec5 : Int × Int × AH → Option (Int × AH)) (H5 : ∀ (x3 : Int) (x4 : Int) (h : AH), ok h.1 x0 9 → Den l G m9_burningOnAll rvI d 5 [some (vA G x0), some (vI x1), some (vI x2), some (vI x3), some (vI x4)] [] h (rec5 (x3, x4, h))) (h : AH) (kx0 : ok h.1 x0 9) : Den l G m9_burningOnAll rvI d 5 [some (vA G x0), some (vI x1), some (vI x2), some (vI x3), some (vI x4)] [] h (b9_burningOnAll_5 rec5 x0 x1 x2 x3 x4 h) := by
  unfold b9_burningOnAll_5
  refine den_iload (pc := 5) d9_burningOnAll_5 rfl ?_
  refine den_aload_n (pc := 7) d9_burningOnAll_7 rfl rfl ?_
  refine den_getI (pc := 8) fa_9_34 kx0 d9_burningOnAll_8 ?_
  refine den_icmp_ge (pc := 11) (tgt := 31) d9_burningOnAll_11 (by decide) rfl rfl (fun _ => ?_) (fun _ => ?_)
  · refine den_iload_n (pc := 31) d9_burningOnAll_31 rfl rfl ?_
    exact den_iret (pc := 32) rfl d9_burningOnAll_32
  · refine den_iload_n (pc := 14) d9_burningOnAll_14 rfl rfl ?_
    refine den_aload_n (pc := 15) d9_burningOnAll_15 rfl rfl ?_
    refine den_iload_n (pc := 16) d9_burningOnAll_16 rfl rfl ?_
    refine den_iload_n (pc := 17) d9_burningOnAll_17 rfl rfl ?_
    refine den_iload (pc := 18) d9_burningOnAll_18 rfl ?_
    refine den_callVI (pc := 20) (As := [vI x1, vI x2, vI x4]) fv_9_94 rfl rfl kx0 (Nat.le_of_ble_eq_true rfl) (Nat.le_trans (by decide) hd) d9_burningOnAll_20 (c9_burningInAll l G x0 x1 x2 x4 h kx0) (fun r1 h2 m3 o4 => ?_)
    have q5 := ok.mono kx0 m3
    refine den_iadd (pc := 23) d9_burningOnAll_23 ?_
    refine den_istore_nL (pc := 24) (L2 := fun y => [some (vA G x0), some (vI x1), some (vI x2), some (vI y), some (vI x4)]) d9_burningOnAll_24 rfl (by decide) (fun _ => rfl) (fun u6 => ?_)
    refine den_iinc (pc := 25) (L2 := [some (vA G x0), some (vI x1), some (vI x2), some (vI u6), some (vI (x4 + 1))]) d9_burningOnAll_25 (by decide) rfl rfl ?_
    refine den_goto (pc := 28) (tgt := 5) d9_burningOnAll_28 (by decide) ?_
    exact H5 u6 (x4 + 1) h2 q5
def l9_burningOnAll_5 (x0 : Nat) (x1 : Int) (x2 : Int) (x3 : Int) (x4 : Int) (h : AH) : Option (Int × AH) := fx (fun rec z => b9_burningOnAll_5 rec x0 x1 x2 z.1 z.2.1 z.2.2) FU (x3, x4, h)
set_option maxRecDepth 100000 in
theorem tl9_burningOnAll_5 (l : Launch) (G : Geo) (d : Nat) (hd : 5 ≤ d) (x0 : Nat) (x1 : Int) (x2 : Int) : ∀ (n : Nat) (z : Int × Int × AH), ok z.2.2.1 x0 9 → Den l G m9_burningOnAll rvI d 5 [some (vA G x0), some (vI x1), some (vI x2), some (vI z.1), some (vI z.2.1)] [] z.2.2 (fx (fun rec z => b9_burningOnAll_5 rec x0 x1 x2 z.1 z.2.1 z.2.2) n z) :=
  den_fx (F := fun rec z => b9_burningOnAll_5 rec x0 x1 x2 z.1 z.2.1 z.2.2) (P := fun z => ok z.2.2.1 x0 9) (fL := fun z => [some (vA G x0), some (vI x1), some (vI x2), some (vI z.1), some (vI z.2.1)]) (fs := fun z => []) (fh := fun z => z.2.2) (fun rec hrec z hz => t9_burningOnAll_5 l G d hd x0 x1 x2 z.1 z.2.1 rec (fun x3 x4 h w0 => hrec (x3, x4, h) w0) z.2.2 hz)
def f9_burningOnAll (x0 : Nat) (x1 : Int) (x2 : Int) (h : AH) : Option (Int × AH) :=
  l9_burningOnAll_5 x0 x1 x2 0 0 h
set_option maxRecDepth 100000 in
theorem c9_burningOnAll (l : Launch) (G : Geo) (x0 : Nat) (x1 : Int) (x2 : Int) (h : AH) (kx0 : ok h.1 x0 9) : Con l G m9_burningOnAll rvI 5 [vA G x0, vI x1, vI x2] h (f9_burningOnAll x0 x1 x2 h) := by
  have hd : 5 ≤ 5 := Nat.le_refl _
  refine con_I rfl (by decide) rfl rfl (Nat.le_of_ble_eq_true rfl) (L := [some (vA G x0), some (vI x1), some (vI x2), none, none]) ?_
  unfold f9_burningOnAll
  refine den_iconst (pc := 0) d9_burningOnAll_0 ?_
  refine den_istore_n (pc := 1) (L2 := [some (vA G x0), some (vI x1), some (vI x2), some (vI 0), none]) d9_burningOnAll_1 rfl (by decide) rfl ?_
  refine den_iconst (pc := 2) d9_burningOnAll_2 ?_
  refine den_istore (pc := 3) (L2 := [some (vA G x0), some (vI x1), some (vI x2), some (vI 0), some (vI 0)]) d9_burningOnAll_3 (by decide) rfl ?_
  exact tl9_burningOnAll_5 l G _ hd x0 x1 x2 FU (0, 0, h) kx0
theorem d1_gatherTogether_0 : decode m1_gatherTogether.2.1 0 = .ok (.aload_n 0, 1) := by decide +kernel
theorem d1_gatherTogether_1 : decode m1_gatherTogether.2.1 1 = .ok (.aload_n 1, 1) := by decide +kernel
theorem d1_gatherTogether_2 : decode m1_gatherTogether.2.1 2 = .ok (.getfield 18, 3) := by decide +kernel
theorem d1_gatherTogether_5 : decode m1_gatherTogether.2.1 5 = .ok (.putfield 24, 3) := by decide +kernel
theorem d1_gatherTogether_8 : decode m1_gatherTogether.2.1 8 = .ok (.iconst 0, 1) := by decide +kernel
theorem d1_gatherTogether_9 : decode m1_gatherTogether.2.1 9 = .ok (.istore_n 2, 1) := by decide +kernel
theorem d1_gatherTogether_10 : decode m1_gatherTogether.2.1 10 = .ok (.iload_n 2, 1) := by decide +kernel
theorem d1_gatherTogether_11 : decode m1_gatherTogether.2.1 11 = .ok (.aload_n 0, 1) := by decide +kernel
theorem d1_gatherTogether_12 : decode m1_gatherTogether.2.1 12 = .ok (.getfield 24, 3) := by decide +kernel
theorem d1_gatherTogether_15 : decode m1_gatherTogether.2.1 15 = .ok (.if_icmp .ge 39, 3) := by decide +kernel
theorem d1_gatherTogether_18 : decode m1_gatherTogether.2.1 18 = .ok (.iload_n 2, 1) := by decide +kernel
theorem d1_gatherTogether_19 : decode m1_gatherTogether.2.1 19 = .ok (.iconst 1, 1) := by decide +kernel
theorem d1_gatherTogether_20 : decode m1_gatherTogether.2.1 20 = .ok (.iadd, 1) := by decide +kernel
theorem d1_gatherTogether_21 : decode m1_gatherTogether.2.1 21 = .ok (.istore_n 3, 1) := by decide +kernel
theorem d1_gatherTogether_22 : decode m1_gatherTogether.2.1 22 = .ok (.iload_n 3, 1) := by decide +kernel
theorem d1_gatherTogether_23 : decode m1_gatherTogether.2.1 23 = .ok (.aload_n 0, 1) := by decide +kernel
theorem d1_gatherTogether_24 : decode m1_gatherTogether.2.1 24 = .ok (.getfield 24, 3) := by decide +kernel
theorem d1_gatherTogether_27 : decode m1_gatherTogether.2.1 27 = .ok (.if_icmp .ge 21, 3) := by decide +kernel
theorem d1_gatherTogether_30 : decode m1_gatherTogether.2.1 30 = .ok (.aload_n 0, 1) := by decide +kernel
theorem d1_gatherTogether_31 : decode m1_gatherTogether.2.1 31 = .ok (.iload_n 2, 1) := by decide +kernel
theorem d1_gatherTogether_32 : decode m1_gatherTogether.2.1 32 = .ok (.iload_n 3, 1) := by decide +kernel
theorem d1_gatherTogether_33 : decode m1_gatherTogether.2.1 33 = .ok (.aload_n 1, 1) := by decide +kernel
theorem d1_gatherTogether_34 : decode m1_gatherTogether.2.1 34 = .ok (.iload_n 2, 1) := by decide +kernel
theorem d1_gatherTogether_35 : decode m1_gatherTogether.2.1 35 = .ok (.iload_n 3, 1) := by decide +kernel
theorem d1_gatherTogether_36 : decode m1_gatherTogether.2.1 36 = .ok (.invokevirtual 25, 3) := by decide +kernel
theorem d1_gatherTogether_39 : decode m1_gatherTogether.2.1 39 = .ok (.invokevirtual 29, 3) := by decide +kernel
theorem d1_gatherTogether_42 : decode m1_gatherTogether.2.1 42 = .ok (.iinc 3 1, 3) := by decide +kernel
theorem d1_gatherTogether_45 : decode m1_gatherTogether.2.1 45 = .ok (.goto (-23), 3) := by decide +kernel
theorem d1_gatherTogether_48 : decode m1_gatherTogether.2.1 48 = .ok (.iinc 2 1, 3) := by decide +kernel
theorem d1_gatherTogether_51 : decode m1_gatherTogether.2.1 51 = .ok (.goto (-41), 3) := by decide +kernel
theorem d1_gatherTogether_54 : decode m1_gatherTogether.2.1 54 = .ok (.return_, 1) := by decide +kernel
def b1_gatherTogether_22 (rec22 : Int × AH → Option (Int × AH)) (rec10 : Int × AH → Option (Int × AH)) (x1 : Nat) (x2 : Int) (x3 : Int) (h : AH) : Option (Int × AH) :=
  if w32 (h.2 50 2) ≤ w32 x3 then
    rec10 ((x2 + 1), h)
  else
    bnd (f9_burningOnAll x1 x2 x3 h) fun r1 h2 =>
    bnd (f1_setBetween x2 x3 r1 h2) fun r6 h7 =>
    rec22 ((x3 + 1), h7)
set_option maxRecDepth 100000 in
theorem t1_gatherTogether_22 (l : Launch) (G : Geo) (d : Nat) (hd : 6 ≤ d) (x1 : Nat) (x2 : Int) (x3 : Int) (rec22 : Int × AH → Option (Int × AH)) (H22 : ∀ (x3 : Int) (h : AH), ok h.1 x1 9 → Den l G m1_gatherTogether rvV d 22 [some (vA G 50), some (vA G x1), some (vI x2), some (vI x3)] [] h (rec22 (x3, h))) (rec10 : Int × AH → Option (Int × AH)) (H10 : ∀ (x2 : Int) (h : AH), ok h.1 x1 9 → Den l G m1_gatherTogether rvV d 10 [some (vA G 50), some (vA G x1), some (vI x2), none] [] h (rec10 (x2, h))) (h : AH) (kx1 : ok h.1 x1 9) : Den l G m1_gatherTogether rvV d 22 [some (vA G 50), some (vA G x1), some (vI x2), some (vI x3)] [] h (b1_gatherTogether_22 rec22 rec10 x1 x2 x3 h) := by
  unfold b1_gatherTogether_22
  refine den_iload_n (pc := 22) d1_gatherTogether_22 rfl rfl ?_
  refine den_aload_n (pc := 23) d1_gatherTogether_23 rfl rfl ?_
  refine den_getI (pc := 24) fa_1_24 (ok_50 _) d1_gatherTogether_24 ?_
  refine den_icmp_ge (pc := 27) (tgt := 48) d1_gatherTogether_27 (by decide) rfl rfl (fun _ => ?_) (fun _ => ?_)
  · refine den_iinc (pc := 48) (L2 := [some (vA G 50), some (vA G x1), some (vI (x2 + 1)), some (vI x3)]) d1_gatherTogether_48 (by decide) rfl rfl ?_
    refine den_goto (pc := 51) (tgt := 10) d1_gatherTogether_51 (by decide) ?_
    refine den_wk [true, true, true, false] rfl ?_
    exact H10 (x2 + 1) h kx1
  · refine den_aload_n (pc := 30) d1_gatherTogether_30 rfl rfl ?_
    refine den_iload_n (pc := 31) d1_gatherTogether_31 rfl rfl ?_
    refine den_iload_n (pc := 32) d1_gatherTogether_32 rfl rfl ?_
    refine den_aload_n (pc := 33) d1_gatherTogether_33 rfl rfl ?_
    refine den_iload_n (pc := 34) d1_gatherTogether_34 rfl rfl ?_
    refine den_iload_n (pc := 35) d1_gatherTogether_35 rfl rfl ?_
    refine den_callVI (pc := 36) (As := [vI x2, vI x3]) fv_1_25 rfl rfl kx1 (Nat.le_of_ble_eq_true rfl) (Nat.le_trans (by decide) hd) d1_gatherTogether_36 (c9_burningOnAll l G x1 x2 x3 h kx1) (fun r1 h2 m3 o4 => ?_)
    have q5 := ok.mono kx1 m3
    refine den_callVV (pc := 39) (As := [vI x2, vI x3, vI r1]) fv_1_29 rfl rfl (ok_50 _) (Nat.le_of_ble_eq_true rfl) (Nat.le_trans (by decide) hd) d1_gatherTogether_39 (c1_setBetween l G x2 x3 r1 h2) (fun r6 h7 m8 o9 => ?_)
    have q10 := ok.mono q5 m8
    refine den_iinc (pc := 42) (L2 := [some (vA G 50), some (vA G x1), some (vI x2), some (vI (x3 + 1))]) d1_gatherTogether_42 (by decide) rfl rfl ?_
    refine den_goto (pc := 45) (tgt := 22) d1_gatherTogether_45 (by decide) ?_
    exact H22 (x3 + 1) h7 q10
def l1_gatherTogether_22 (rec10 : Int × AH → Option (Int × AH)) (x1 : Nat) (x2 : Int) (x3 : Int) (h : AH) : Option (Int × AH) := fx (fun rec z => b1_gatherTogether_22 rec rec10 x1 x2 z.1 z.2) FU (x3, h)
set_option maxRecDepth 100000 in
theorem tl1_gatherTogether_22 (l : Launch) (G : Geo) (d : Nat) (hd : 6 ≤ d) (x1 : Nat) (x2 : Int) (rec10 : Int × AH → Option (Int × AH)) (H10 : ∀ (x2 : Int) (h : AH), ok h.1 x1 9 → Den l G m1_gatherTogether rvV d 10 [some (vA G 50), some (vA G x1), some (vI x2), none] [] h (rec10 (x2, h))) : ∀ (n : Nat) (z : Int × AH), ok z.2.1 x1 9 → Den l G m1_gatherTogether rvV d 22 [some (vA G 50), some (vA G x1), some (vI x2), some (vI z.1)] [] z.2 (fx (fun rec z => b1_gatherTogether_22 rec rec10 x1 x2 z.1 z.2) n z) :=
  den_fx (F := fun rec z => b1_gatherTogether_22 rec rec10 x1 x2 z.1 z.2) (P := fun z => ok z.2.1 x1 9) (fL := fun z => [some (vA G 50), some (vA G x1), some (vI x2), some (vI z.1)]) (fs := fun z => []) (fh := fun z => z.2) (fun rec hrec z hz => t1_gatherTogether_22 l G d hd x1 x2 z.1 rec (fun x3 h w0 => hrec (x3, h) w0) rec10 H10 z.2 hz)
def b1_gatherTogether_10 (rec10 : Int × AH → Option (Int × AH)) (x1 : Nat) (x2 : Int) (h : AH) : Option (Int × AH) :=
  if w32 (h.2 50 2) ≤ w32 x2 then
    some (0, h)
  else
    lt (x2 + 1) fun u11 =>
    l1_gatherTogether_22 rec10 x1 x2 u11 h
set_option maxRecDepth 100000 in
theorem t1_gatherTogether_10 (l : Launch) (G : Geo) (d : Nat) (hd : 6 ≤ d) (x1 : Nat) (x2 : Int) (rec10 : Int × AH → Option (Int × AH)) (H10 : ∀ (x2 : Int) (h : AH), ok h.1 x1 9 → Den l G m1_gatherTogether rvV d 10 [some (vA G 50), some (vA G x1), some (vI x2), none] [] h (rec10 (x2, h))) (h : AH) (kx1 : ok h.1 x1 9) : Den l G m1_gatherTogether rvV d 10 [some (vA G 50), some (vA G x1), some (vI x2), none] [] h (b1_gatherTogether_10 rec10 x1 x2 h) := by
  unfold b1_gatherTogether_10
  refine den_iload_n (pc := 10) d1_gatherTogether_10 rfl rfl ?_
  refine den_aload_n (pc := 11) d1_gatherTogether_11 rfl rfl ?_
  refine den_getI (pc := 12) fa_1_24 (ok_50 _) d1_gatherTogether_12 ?_
  refine den_icmp_ge (pc := 15) (tgt := 54) d1_gatherTogether_15 (by decide) rfl rfl (fun _ => ?_) (fun _ => ?_)
  · exact den_vret (pc := 54) rfl d1_gatherTogether_54
  · refine den_iload_n (pc := 18) d1_gatherTogether_18 rfl rfl ?_
    refine den_iconst (pc := 19) d1_gatherTogether_19 ?_
    refine den_iadd (pc := 20) d1_gatherTogether_20 ?_
    refine den_istore_nL (pc := 21) (L2 := fun y => [some (vA G 50), some (vA G x1), some (vI x2), some (vI y)]) d1_gatherTogether_21 rfl (by decide) (fun _ => rfl) (fun u11 => ?_)
    exact tl1_gatherTogether_22 l G _ hd x1 x2 rec10 H10 FU (u11, h) kx1
def l1_gatherTogether_10 (x1 : Nat) (x2 : Int) (h : AH) : Option (Int × AH) := fx (fun rec z => b1_gatherTogether_10 rec x1 z.1 z.2) FU (x2, h)
set_option maxRecDepth 100000 in
theorem tl1_gatherTogether_10 (l : Launch) (G : Geo) (d : Nat) (hd : 6 ≤ d) (x1 : Nat) : ∀ (n : Nat) (z : Int × AH), ok z.2.1 x1 9 → Den l G m1_gatherTogether rvV d 10 [some (vA G 50), some (vA G x1), some (vI z.1), none] [] z.2 (fx (fun rec z => b1_gatherTogether_10 rec x1 z.1 z.2) n z) :=
  den_fx (F := fun rec z => b1_gatherTogether_10 rec x1 z.1 z.2) (P := fun z => ok z.2.1 x1 9) (fL := fun z => [some (vA G 50), some (vA G x1), some (vI z.1), none]) (fs := fun z => []) (fh := fun z => z.2) (fun rec hrec z hz => t1_gatherTogether_10 l G d hd x1 z.1 rec (fun x2 h w0 => hrec (x2, h) w0) z.2 hz)
def f1_gatherTogether (x1 : Nat) (h : AH) : Option (Int × AH) :=
  lt (wr h 50 2 (h.2 x1 0)) fun h12 =>
  l1_gatherTogether_10 x1 0 h12
set_option maxRecDepth 100000 in
theorem c1_gatherTogether (l : Launch) (G : Geo) (x1 : Nat) (h : AH) (kx1 : ok h.1 x1 9) : Con l G m1_gatherTogether rvV 6 [vA G 50, vA G x1] h (f1_gatherTogether x1 h) := by
  have hd : 6 ≤ 6 := Nat.le_refl _
  refine con_V rfl (by decide) rfl rfl (Nat.le_of_ble_eq_true rfl) (L := [some (vA G 50), some (vA G x1), none, none]) ?_
  unfold f1_gatherTogether
  refine den_aload_n (pc := 0) d1_gatherTogether_0 rfl rfl ?_
  refine den_aload_n (pc := 1) d1_gatherTogether_1 rfl rfl ?_
  refine den_getI (pc := 2) fa_1_18 kx1 d1_gatherTogether_2 ?_
  refine den_putI (pc := 5) fp_1_24 (ok_50 _) d1_gatherTogether_5 ?_
  refine den_ltH (fun h12 m13 => ?_)
  have q14 := ok.mono kx1 m13
  refine den_iconst (pc := 8) d1_gatherTogether_8 ?_
  refine den_istore_n (pc := 9) (L2 := [some (vA G 50), some (vA G x1), some (vI 0), none]) d1_gatherTogether_9 rfl (by decide) rfl ?_
  exact tl1_gatherTogether_10 l G _ hd x1 FU (0, h12) q14
theorem d9_heat_0 : decode m9_heat.2.1 0 = .ok (.aload_n 0, 1) := by decide +kernel
theorem d9_heat_1 : decode m9_heat.2.1 1 = .ok (.iload_n 1, 1) := by decide +kernel
theorem d9_heat_2 : decode m9_heat.2.1 2 = .ok (.invokevirtual 56, 3) := by decide +kernel
theorem d9_heat_5 : decode m9_heat.2.1 5 = .ok (.ifCond .eq 12, 3) := by decide +kernel
theorem d9_heat_8 : decode m9_heat.2.1 8 = .ok (.aload_n 0, 1) := by decide +kernel
theorem d9_heat_9 : decode m9_heat.2.1 9 = .ok (.getfield 15, 3) := by decide +kernel
theorem d9_heat_12 : decode m9_heat.2.1 12 = .ok (.iload_n 1, 1) := by decide +kernel
theorem d9_heat_13 : decode m9_heat.2.1 13 = .ok (.iaload, 1) := by decide +kernel
theorem d9_heat_14 : decode m9_heat.2.1 14 = .ok (.goto 4, 3) := by decide +kernel
theorem d9_heat_17 : decode m9_heat.2.1 17 = .ok (.iconst 0, 1) := by decide +kernel
theorem d9_heat_18 : decode m9_heat.2.1 18 = .ok (.ireturn, 1) := by decide +kernel
def f9_heat (x0 : Nat) (x1 : Int) (h : AH) : Option (Int × AH) :=
  bnd (f9_hasSubject x0 x1 h) fun r1 h2 =>
  if w32 r1 = 0 then
    some (0, h2)
  else
    asrt (0 ≤ w32 x1 ∧ w32 x1 < 6) <|
    some (h2.2 (x0 + 1) (w32 x1).toNat, h2)
set_option maxRecDepth 100000 in
theorem c9_heat (l : Launch) (G : Geo) (x0 : Nat) (x1 : Int) (h : AH) (kx0 : ok h.1 x0 9) : Con l G m9_heat rvI 3 [vA G x0, vI x1] h (f9_heat x0 x1 h) := by
  have hd : 3 ≤ 3 := Nat.le_refl _
  refine con_I rfl (by decide) rfl rfl (Nat.le_of_ble_eq_true rfl) (L := [some (vA G x0), some (vI x1)]) ?_
  unfold f9_heat
  refine den_aload_n (pc := 0) d9_heat_0 rfl rfl ?_
  refine den_iload_n (pc := 1) d9_heat_1 rfl rfl ?_
  refine den_callVI (pc := 2) (As := [vI x1]) fv_9_56 rfl rfl kx0 (Nat.le_of_ble_eq_true rfl) (Nat.le_trans (by decide) hd) d9_heat_2 (c9_hasSubject l G x0 x1 h kx0) (fun r1 h2 m3 o4 => ?_)
  have q5 := ok.mono kx0 m3
  refine den_if_eq (pc := 5) (tgt := 17) d9_heat_5 (by decide) rfl (fun _ => ?_) (fun _ => ?_)
  · refine den_iconst (pc := 17) d9_heat_17 ?_
    exact den_iret (pc := 18) rfl d9_heat_18
  · refine den_aload_n (pc := 8) d9_heat_8 rfl rfl ?_
    refine den_getR (pc := 9) (b := x0 + 1) fa_9_15 q5 rfl d9_heat_9 ?_
    refine den_iload_n (pc := 12) d9_heat_12 rfl rfl ?_
    refine den_asrt (fun a6 => ?_)
    refine den_iaload (pc := 13) (vil_s1 q5) (vil_l1 q5) rfl a6 d9_heat_13 ?_
    refine den_goto (pc := 14) (tgt := 18) d9_heat_14 (by decide) ?_
    exact den_iret (pc := 18) rfl d9_heat_18
theorem d9_burning_0 : decode m9_burning.2.1 0 = .ok (.iconst 0, 1) := by decide +kernel
theorem d9_burning_1 : decode m9_burning.2.1 1 = .ok (.aload_n 0, 1) := by decide +kernel
theorem d9_burning_2 : decode m9_burning.2.1 2 = .ok (.iload_n 1, 1) := by decide +kernel
theorem d9_burning_3 : decode m9_burning.2.1 3 = .ok (.iload_n 2, 1) := by decide +kernel
theorem d9_burning_4 : decode m9_burning.2.1 4 = .ok (.iload_n 3, 1) := by decide +kernel
theorem d9_burning_5 : decode m9_burning.2.1 5 = .ok (.invokevirtual 78, 3) := by decide +kernel
theorem d9_burning_8 : decode m9_burning.2.1 8 = .ok (.invokestatic 82, 3) := by decide +kernel
theorem d9_burning_11 : decode m9_burning.2.1 11 = .ok (.aload_n 0, 1) := by decide +kernel
theorem d9_burning_12 : decode m9_burning.2.1 12 = .ok (.iload_n 3, 1) := by decide +kernel
theorem d9_burning_13 : decode m9_burning.2.1 13 = .ok (.invokevirtual 85, 3) := by decide +kernel
theorem d9_burning_16 : decode m9_burning.2.1 16 = .ok (.imul, 1) := by decide +kernel
theorem d9_burning_17 : decode m9_burning.2.1 17 = .ok (.ireturn, 1) := by decide +kernel
def f9_burning (x0 : Nat) (x1 : Int) (x2 : Int) (x3 : Int) (h : AH) : Option (Int × AH) :=
  bnd (f9_gap x0 x1 x2 x3 h) fun r1 h2 =>
  bnd (f9_heat x0 x3 h2) fun r6 h7 =>
  some ((max32 0 r1) * r6, h7)
set_option maxRecDepth 100000 in
theorem c9_burning (l : Launch) (G : Geo) (x0 : Nat) (x1 : Int) (x2 : Int) (x3 : Int) (h : AH) (kx0 : ok h.1 x0 9) : Con l G m9_burning rvI 4 [vA G x0, vI x1, vI x2, vI x3] h (f9_burning x0 x1 x2 x3 h) := by
  have hd : 4 ≤ 4 := Nat.le_refl _
  refine con_I rfl (by decide) rfl rfl (Nat.le_of_ble_eq_true rfl) (L := [some (vA G x0), some (vI x1), some (vI x2), some (vI x3)]) ?_
  unfold f9_burning
  refine den_iconst (pc := 0) d9_burning_0 ?_
  refine den_aload_n (pc := 1) d9_burning_1 rfl rfl ?_
  refine den_iload_n (pc := 2) d9_burning_2 rfl rfl ?_
  refine den_iload_n (pc := 3) d9_burning_3 rfl rfl ?_
  refine den_iload_n (pc := 4) d9_burning_4 rfl rfl ?_
  refine den_callVI (pc := 5) (As := [vI x1, vI x2, vI x3]) fv_9_78 rfl rfl kx0 (Nat.le_of_ble_eq_true rfl) (Nat.le_trans (by decide) hd) d9_burning_5 (c9_gap l G x0 x1 x2 x3 h kx0) (fun r1 h2 m3 o4 => ?_)
  have q5 := ok.mono kx0 m3
  refine den_max (pc := 8) fm_9_82 (Nat.le_of_ble_eq_true rfl) (Nat.le_trans (by decide) hd) d9_burning_8 ?_
  refine den_aload_n (pc := 11) d9_burning_11 rfl rfl ?_
  refine den_iload_n (pc := 12) d9_burning_12 rfl rfl ?_
  refine den_callVI (pc := 13) (As := [vI x3]) fv_9_85 rfl rfl q5 (Nat.le_of_ble_eq_true rfl) (Nat.le_trans (by decide) hd) d9_burning_13 (c9_heat l G x0 x3 h2 q5) (fun r6 h7 m8 o9 => ?_)
  have q10 := ok.mono q5 m8
  refine den_imul (pc := 16) d9_burning_16 ?_
  exact den_iret (pc := 17) rfl d9_burning_17
