/-! 7_begin 9_hasCouple 7_letDeny 7_letHourPass 9_fade 7_letQuarrel 7_spread 9_agreeOn 7_act 7_look 7_play 7_loudest 7_answerHeat -/
theorem d7_begin_0 : decode m7_begin.2.1 0 = .ok (.aload_n 0, 1) := by decide +kernel
theorem d7_begin_1 : decode m7_begin.2.1 1 = .ok (.getfield 12, 3) := by decide +kernel
theorem d7_begin_4 : decode m7_begin.2.1 4 = .ok (.aload_n 1, 1) := by decide +kernel
theorem d7_begin_5 : decode m7_begin.2.1 5 = .ok (.invokevirtual 25, 3) := by decide +kernel
theorem d7_begin_8 : decode m7_begin.2.1 8 = .ok (.aload_n 0, 1) := by decide +kernel
theorem d7_begin_9 : decode m7_begin.2.1 9 = .ok (.getfield 18, 3) := by decide +kernel
theorem d7_begin_12 : decode m7_begin.2.1 12 = .ok (.iconst 0, 1) := by decide +kernel
theorem d7_begin_13 : decode m7_begin.2.1 13 = .ok (.invokestatic 29, 3) := by decide +kernel
theorem d7_begin_16 : decode m7_begin.2.1 16 = .ok (.aload_n 0, 1) := by decide +kernel
theorem d7_begin_17 : decode m7_begin.2.1 17 = .ok (.getfield 22, 3) := by decide +kernel
theorem d7_begin_20 : decode m7_begin.2.1 20 = .ok (.iconst 0, 1) := by decide +kernel
theorem d7_begin_21 : decode m7_begin.2.1 21 = .ok (.invokestatic 29, 3) := by decide +kernel
theorem d7_begin_24 : decode m7_begin.2.1 24 = .ok (.aload_n 0, 1) := by decide +kernel
theorem d7_begin_25 : decode m7_begin.2.1 25 = .ok (.iconst 0, 1) := by decide +kernel
theorem d7_begin_26 : decode m7_begin.2.1 26 = .ok (.putfield 35, 3) := by decide +kernel
theorem d7_begin_29 : decode m7_begin.2.1 29 = .ok (.aload_n 0, 1) := by decide +kernel
theorem d7_begin_30 : decode m7_begin.2.1 30 = .ok (.iconst 0, 1) := by decide +kernel
theorem d7_begin_31 : decode m7_begin.2.1 31 = .ok (.putfield 39, 3) := by decide +kernel
theorem d7_begin_34 : decode m7_begin.2.1 34 = .ok (.aload_n 0, 1) := by decide +kernel
theorem d7_begin_35 : decode m7_begin.2.1 35 = .ok (.iconst 0, 1) := by decide +kernel
theorem d7_begin_36 : decode m7_begin.2.1 36 = .ok (.putfield 42, 3) := by decide +kernel
theorem d7_begin_39 : decode m7_begin.2.1 39 = .ok (.aload_n 0, 1) := by decide +kernel
theorem d7_begin_40 : decode m7_begin.2.1 40 = .ok (.iconst 0, 1) := by decide +kernel
theorem d7_begin_41 : decode m7_begin.2.1 41 = .ok (.putfield 45, 3) := by decide +kernel
theorem d7_begin_44 : decode m7_begin.2.1 44 = .ok (.aload_n 0, 1) := by decide +kernel
theorem d7_begin_45 : decode m7_begin.2.1 45 = .ok (.iconst 0, 1) := by decide +kernel
theorem d7_begin_46 : decode m7_begin.2.1 46 = .ok (.putfield 48, 3) := by decide +kernel
theorem d7_begin_49 : decode m7_begin.2.1 49 = .ok (.aload_n 0, 1) := by decide +kernel
theorem d7_begin_50 : decode m7_begin.2.1 50 = .ok (.iconst (-1), 1) := by decide +kernel
theorem d7_begin_51 : decode m7_begin.2.1 51 = .ok (.putfield 51, 3) := by decide +kernel
theorem d7_begin_54 : decode m7_begin.2.1 54 = .ok (.aload_n 0, 1) := by decide +kernel
theorem d7_begin_55 : decode m7_begin.2.1 55 = .ok (.iconst 0, 1) := by decide +kernel
theorem d7_begin_56 : decode m7_begin.2.1 56 = .ok (.putfield 54, 3) := by decide +kernel
theorem d7_begin_59 : decode m7_begin.2.1 59 = .ok (.return_, 1) := by decide +kernel
def f7_begin (x1 : Nat) (h : AH) : Option (Int × AH) :=
  bnd (f9_copy 42 x1 h) fun r1 h2 =>
  bnd (f12_fill 48 0 h2) fun r6 h7 =>
  bnd (f12_fill 49 0 h7) fun r11 h12 =>
  lt (wr h12 41 3 0) fun h16 =>
  lt (wr h16 41 4 0) fun h19 =>
  lt (wr h19 41 5 0) fun h22 =>
  lt (wr h22 41 6 0) fun h25 =>
  lt (wr h25 41 7 0) fun h28 =>
  lt (wr h28 41 8 (-1)) fun h31 =>
  lt (wr h31 41 9 0) fun h34 =>
  some (0, h34)
set_option maxRecDepth 100000 in
theorem c7_begin (l : Launch) (G : Geo) (x1 : Nat) (h : AH) (kx1 : ok h.1 x1 9) : Con l G m7_begin rvV 4 [vA G 41, vA G x1] h (f7_begin x1 h) := by
  have hd : 4 ≤ 4 := Nat.le_refl _
  refine con_V rfl (by decide) rfl rfl (Nat.le_of_ble_eq_true rfl) (L := [some (vA G 41), some (vA G x1)]) ?_
  unfold f7_begin
  refine den_aload_n (pc := 0) d7_begin_0 rfl rfl ?_
  refine den_getR (pc := 1) (b := 42) fa_7_12 (ok_41 _) rfl d7_begin_1 ?_
  refine den_aload_n (pc := 4) d7_begin_4 rfl rfl ?_
  refine den_callVV (pc := 5) (As := [vA G x1]) fv_7_25 rfl rfl (ok_42 _) (Nat.le_of_ble_eq_true rfl) (Nat.le_trans (by decide) hd) d7_begin_5 (c9_copy l G 42 x1 h (ok_42 _) kx1) (fun r1 h2 m3 o4 => ?_)
  have q5 := ok.mono kx1 m3
  refine den_aload_n (pc := 8) d7_begin_8 rfl rfl ?_
  refine den_getR (pc := 9) (b := 48) fa_7_18 (ok_41 _) rfl d7_begin_9 ?_
  refine den_iconst (pc := 12) d7_begin_12 ?_
  refine den_callSV (pc := 13) (As := [vA G 48, vI 0]) fs_7_29 rfl rfl (Nat.le_of_ble_eq_true rfl) (Nat.le_trans (by decide) hd) d7_begin_13 (c12_fill l G 48 0 h2 ⟨sz_lt (by decide), by decide⟩) (fun r6 h7 m8 o9 => ?_)
  have q10 := ok.mono q5 m8
  refine den_aload_n (pc := 16) d7_begin_16 rfl rfl ?_
  refine den_getR (pc := 17) (b := 49) fa_7_22 (ok_41 _) rfl d7_begin_17 ?_
  refine den_iconst (pc := 20) d7_begin_20 ?_
  refine den_callSV (pc := 21) (As := [vA G 49, vI 0]) fs_7_29 rfl rfl (Nat.le_of_ble_eq_true rfl) (Nat.le_trans (by decide) hd) d7_begin_21 (c12_fill l G 49 0 h7 ⟨sz_lt (by decide), by decide⟩) (fun r11 h12 m13 o14 => ?_)
  have q15 := ok.mono q10 m13
  refine den_aload_n (pc := 24) d7_begin_24 rfl rfl ?_
  refine den_iconst (pc := 25) d7_begin_25 ?_
  refine den_putI (pc := 26) fp_7_35 (ok_41 _) d7_begin_26 ?_
  refine den_ltH (fun h16 m17 => ?_)
  have q18 := ok.mono q15 m17
  refine den_aload_n (pc := 29) d7_begin_29 rfl rfl ?_
  refine den_iconst (pc := 30) d7_begin_30 ?_
  refine den_putI (pc := 31) fp_7_39 (ok_41 _) d7_begin_31 ?_
  refine den_ltH (fun h19 m20 => ?_)
  have q21 := ok.mono q18 m20
  refine den_aload_n (pc := 34) d7_begin_34 rfl rfl ?_
  refine den_iconst (pc := 35) d7_begin_35 ?_
  refine den_putI (pc := 36) fp_7_42 (ok_41 _) d7_begin_36 ?_
  refine den_ltH (fun h22 m23 => ?_)
  have q24 := ok.mono q21 m23
  refine den_aload_n (pc := 39) d7_begin_39 rfl rfl ?_
  refine den_iconst (pc := 40) d7_begin_40 ?_
  refine den_putI (pc := 41) fp_7_45 (ok_41 _) d7_begin_41 ?_
  refine den_ltH (fun h25 m26 => ?_)
  have q27 := ok.mono q24 m26
  refine den_aload_n (pc := 44) d7_begin_44 rfl rfl ?_
  refine den_iconst (pc := 45) d7_begin_45 ?_
  refine den_putI (pc := 46) fp_7_48 (ok_41 _) d7_begin_46 ?_
  refine den_ltH (fun h28 m29 => ?_)
  have q30 := ok.mono q27 m29
  refine den_aload_n (pc := 49) d7_begin_49 rfl rfl ?_
  refine den_iconst (pc := 50) d7_begin_50 ?_
  refine den_putI (pc := 51) fp_7_51 (ok_41 _) d7_begin_51 ?_
  refine den_ltH (fun h31 m32 => ?_)
  have q33 := ok.mono q30 m32
  refine den_aload_n (pc := 54) d7_begin_54 rfl rfl ?_
  refine den_iconst (pc := 55) d7_begin_55 ?_
  refine den_putI (pc := 56) fp_7_54 (ok_41 _) d7_begin_56 ?_
  refine den_ltH (fun h34 m35 => ?_)
  have q36 := ok.mono q33 m35
  exact den_vret (pc := 59) rfl d7_begin_59
theorem d9_hasCouple_0 : decode m9_hasCouple.2.1 0 = .ok (.iload_n 1, 1) := by decide +kernel
theorem d9_hasCouple_1 : decode m9_hasCouple.2.1 1 = .ok (.iload_n 2, 1) := by decide +kernel
theorem d9_hasCouple_2 : decode m9_hasCouple.2.1 2 = .ok (.if_icmp .eq 23, 3) := by decide +kernel
theorem d9_hasCouple_5 : decode m9_hasCouple.2.1 5 = .ok (.aload_n 0, 1) := by decide +kernel
theorem d9_hasCouple_6 : decode m9_hasCouple.2.1 6 = .ok (.iload_n 1, 1) := by decide +kernel
theorem d9_hasCouple_7 : decode m9_hasCouple.2.1 7 = .ok (.invokevirtual 52, 3) := by decide +kernel
theorem d9_hasCouple_10 : decode m9_hasCouple.2.1 10 = .ok (.ifCond .eq 15, 3) := by decide +kernel
theorem d9_hasCouple_13 : decode m9_hasCouple.2.1 13 = .ok (.aload_n 0, 1) := by decide +kernel
theorem d9_hasCouple_14 : decode m9_hasCouple.2.1 14 = .ok (.iload_n 2, 1) := by decide +kernel
theorem d9_hasCouple_15 : decode m9_hasCouple.2.1 15 = .ok (.invokevirtual 52, 3) := by decide +kernel
theorem d9_hasCouple_18 : decode m9_hasCouple.2.1 18 = .ok (.ifCond .eq 7, 3) := by decide +kernel
theorem d9_hasCouple_21 : decode m9_hasCouple.2.1 21 = .ok (.iconst 1, 1) := by decide +kernel
theorem d9_hasCouple_22 : decode m9_hasCouple.2.1 22 = .ok (.goto 4, 3) := by decide +kernel
theorem d9_hasCouple_25 : decode m9_hasCouple.2.1 25 = .ok (.iconst 0, 1) := by decide +kernel
theorem d9_hasCouple_26 : decode m9_hasCouple.2.1 26 = .ok (.ireturn, 1) := by decide +kernel
def f9_hasCouple (x0 : Nat) (x1 : Int) (x2 : Int) (h : AH) : Option (Int × AH) :=
  if w32 x1 = w32 x2 then
    some (0, h)
  else
    bnd (f9_hasPerson x0 x1 h) fun r1 h2 =>
    if w32 r1 = 0 then
      some (0, h2)
    else
      bnd (f9_hasPerson x0 x2 h2) fun r6 h7 =>
      if w32 r6 = 0 then
        some (0, h7)
      else
        some (1, h7)
set_option maxRecDepth 100000 in
theorem c9_hasCouple (l : Launch) (G : Geo) (x0 : Nat) (x1 : Int) (x2 : Int) (h : AH) (kx0 : ok h.1 x0 9) : Con l G m9_hasCouple rvI 3 [vA G x0, vI x1, vI x2] h (f9_hasCouple x0 x1 x2 h) := by
  have hd : 3 ≤ 3 := Nat.le_refl _
  refine con_Z rfl (by decide) rfl rfl (Nat.le_of_ble_eq_true rfl) (L := [some (vA G x0), some (vI x1), some (vI x2)]) ?_
  unfold f9_hasCouple
  refine den_iload_n (pc := 0) d9_hasCouple_0 rfl rfl ?_
  refine den_iload_n (pc := 1) d9_hasCouple_1 rfl rfl ?_
  refine den_icmp_eq (pc := 2) (tgt := 25) d9_hasCouple_2 (by decide) rfl rfl (fun _ => ?_) (fun _ => ?_)
  · refine den_iconst (pc := 25) d9_hasCouple_25 ?_
    exact den_zret (pc := 26) rfl (by decide) d9_hasCouple_26
  · refine den_aload_n (pc := 5) d9_hasCouple_5 rfl rfl ?_
    refine den_iload_n (pc := 6) d9_hasCouple_6 rfl rfl ?_
    refine den_callVI (pc := 7) (As := [vI x1]) fv_9_52 rfl rfl kx0 (Nat.le_of_ble_eq_true rfl) (Nat.le_trans (by decide) hd) d9_hasCouple_7 (c9_hasPerson l G x0 x1 h kx0) (fun r1 h2 m3 o4 => ?_)
    have q5 := ok.mono kx0 m3
    refine den_if_eq (pc := 10) (tgt := 25) d9_hasCouple_10 (by decide) rfl (fun _ => ?_) (fun _ => ?_)
    · refine den_iconst (pc := 25) d9_hasCouple_25 ?_
      exact den_zret (pc := 26) rfl (by decide) d9_hasCouple_26
    · refine den_aload_n (pc := 13) d9_hasCouple_13 rfl rfl ?_
      refine den_iload_n (pc := 14) d9_hasCouple_14 rfl rfl ?_
      refine den_callVI (pc := 15) (As := [vI x2]) fv_9_52 rfl rfl q5 (Nat.le_of_ble_eq_true rfl) (Nat.le_trans (by decide) hd) d9_hasCouple_15 (c9_hasPerson l G x0 x2 h2 q5) (fun r6 h7 m8 o9 => ?_)
      have q10 := ok.mono q5 m8
      refine den_if_eq (pc := 18) (tgt := 25) d9_hasCouple_18 (by decide) rfl (fun _ => ?_) (fun _ => ?_)
      · refine den_iconst (pc := 25) d9_hasCouple_25 ?_
        exact den_zret (pc := 26) rfl (by decide) d9_hasCouple_26
      · refine den_iconst (pc := 21) d9_hasCouple_21 ?_
        refine den_goto (pc := 22) (tgt := 26) d9_hasCouple_22 (by decide) ?_
        exact den_zret (pc := 26) rfl (by decide) d9_hasCouple_26
theorem d7_letDeny_0 : decode m7_letDeny.2.1 0 = .ok (.aload_n 0, 1) := by decide +kernel
theorem d7_letDeny_1 : decode m7_letDeny.2.1 1 = .ok (.getfield 12, 3) := by decide +kernel
theorem d7_letDeny_4 : decode m7_letDeny.2.1 4 = .ok (.iload_n 2, 1) := by decide +kernel
theorem d7_letDeny_5 : decode m7_letDeny.2.1 5 = .ok (.iload_n 3, 1) := by decide +kernel
theorem d7_letDeny_6 : decode m7_letDeny.2.1 6 = .ok (.invokevirtual 140, 3) := by decide +kernel
theorem d7_letDeny_9 : decode m7_letDeny.2.1 9 = .ok (.istore 4, 2) := by decide +kernel
theorem d7_letDeny_11 : decode m7_letDeny.2.1 11 = .ok (.iload 4, 2) := by decide +kernel
theorem d7_letDeny_13 : decode m7_letDeny.2.1 13 = .ok (.iconst (-1), 1) := by decide +kernel
theorem d7_letDeny_14 : decode m7_letDeny.2.1 14 = .ok (.if_icmp .eq 15, 3) := by decide +kernel
theorem d7_letDeny_17 : decode m7_letDeny.2.1 17 = .ok (.aload_n 0, 1) := by decide +kernel
theorem d7_letDeny_18 : decode m7_letDeny.2.1 18 = .ok (.getfield 12, 3) := by decide +kernel
theorem d7_letDeny_21 : decode m7_letDeny.2.1 21 = .ok (.iload_n 1, 1) := by decide +kernel
theorem d7_letDeny_22 : decode m7_letDeny.2.1 22 = .ok (.iload_n 2, 1) := by decide +kernel
theorem d7_letDeny_23 : decode m7_letDeny.2.1 23 = .ok (.invokevirtual 130, 3) := by decide +kernel
theorem d7_letDeny_26 : decode m7_letDeny.2.1 26 = .ok (.ifCond .ne 5, 3) := by decide +kernel
theorem d7_letDeny_29 : decode m7_letDeny.2.1 29 = .ok (.iconst 0, 1) := by decide +kernel
theorem d7_letDeny_30 : decode m7_letDeny.2.1 30 = .ok (.ireturn, 1) := by decide +kernel
theorem d7_letDeny_31 : decode m7_letDeny.2.1 31 = .ok (.aload_n 0, 1) := by decide +kernel
theorem d7_letDeny_32 : decode m7_letDeny.2.1 32 = .ok (.getfield 12, 3) := by decide +kernel
theorem d7_letDeny_35 : decode m7_letDeny.2.1 35 = .ok (.iload_n 1, 1) := by decide +kernel
theorem d7_letDeny_36 : decode m7_letDeny.2.1 36 = .ok (.iload_n 3, 1) := by decide +kernel
theorem d7_letDeny_37 : decode m7_letDeny.2.1 37 = .ok (.bipush 9, 2) := by decide +kernel
theorem d7_letDeny_39 : decode m7_letDeny.2.1 39 = .ok (.iload 4, 2) := by decide +kernel
theorem d7_letDeny_41 : decode m7_letDeny.2.1 41 = .ok (.isub, 1) := by decide +kernel
theorem d7_letDeny_42 : decode m7_letDeny.2.1 42 = .ok (.invokevirtual 143, 3) := by decide +kernel
theorem d7_letDeny_45 : decode m7_letDeny.2.1 45 = .ok (.iconst 1, 1) := by decide +kernel
theorem d7_letDeny_46 : decode m7_letDeny.2.1 46 = .ok (.ireturn, 1) := by decide +kernel
def f7_letDeny (x1 : Int) (x2 : Int) (x3 : Int) (h : AH) : Option (Int × AH) :=
  bnd (f9_held 42 x2 x3 h) fun r1 h2 =>
  if w32 r1 = (-1) then
    some (0, h2)
  else
    bnd (f9_hasCouple 42 x1 x2 h2) fun r5 h6 =>
    if ¬ w32 r5 = 0 then
      bnd (f9_hold 42 x1 x3 (9 - r1) h6) fun r9 h10 =>
      some (1, h10)
    else
      some (0, h6)
set_option maxRecDepth 100000 in
theorem c7_letDeny (l : Launch) (G : Geo) (x1 : Int) (x2 : Int) (x3 : Int) (h : AH) : Con l G m7_letDeny rvI 4 [vA G 41, vI x1, vI x2, vI x3] h (f7_letDeny x1 x2 x3 h) := by
  have hd : 4 ≤ 4 := Nat.le_refl _
  refine con_Z rfl (by decide) rfl rfl (Nat.le_of_ble_eq_true rfl) (L := [some (vA G 41), some (vI x1), some (vI x2), some (vI x3), none]) ?_
  unfold f7_letDeny
  refine den_aload_n (pc := 0) d7_letDeny_0 rfl rfl ?_
  refine den_getR (pc := 1) (b := 42) fa_7_12 (ok_41 _) rfl d7_letDeny_1 ?_
  refine den_iload_n (pc := 4) d7_letDeny_4 rfl rfl ?_
  refine den_iload_n (pc := 5) d7_letDeny_5 rfl rfl ?_
  refine den_callVI (pc := 6) (As := [vI x2, vI x3]) fv_7_140 rfl rfl (ok_42 _) (Nat.le_of_ble_eq_true rfl) (Nat.le_trans (by decide) hd) d7_letDeny_6 (c9_held l G 42 x2 x3 h (ok_42 _)) (fun r1 h2 m3 o4 => ?_)
  refine den_istore (pc := 9) (L2 := [some (vA G 41), some (vI x1), some (vI x2), some (vI x3), some (vI r1)]) d7_letDeny_9 (by decide) rfl ?_
  refine den_iload (pc := 11) d7_letDeny_11 rfl ?_
  refine den_iconst (pc := 13) d7_letDeny_13 ?_
  refine den_icmp_eq (pc := 14) (tgt := 29) d7_letDeny_14 (by decide) rfl (by decide) (fun _ => ?_) (fun _ => ?_)
  · refine den_iconst (pc := 29) d7_letDeny_29 ?_
    exact den_zret (pc := 30) rfl (by decide) d7_letDeny_30
  · refine den_aload_n (pc := 17) d7_letDeny_17 rfl rfl ?_
    refine den_getR (pc := 18) (b := 42) fa_7_12 (ok_41 _) rfl d7_letDeny_18 ?_
    refine den_iload_n (pc := 21) d7_letDeny_21 rfl rfl ?_
    refine den_iload_n (pc := 22) d7_letDeny_22 rfl rfl ?_
    refine den_callVI (pc := 23) (As := [vI x1, vI x2]) fv_7_130 rfl rfl (ok_42 _) (Nat.le_of_ble_eq_true rfl) (Nat.le_trans (by decide) hd) d7_letDeny_23 (c9_hasCouple l G 42 x1 x2 h2 (ok_42 _)) (fun r5 h6 m7 o8 => ?_)
    refine den_if_ne (pc := 26) (tgt := 31) d7_letDeny_26 (by decide) rfl (fun _ => ?_) (fun _ => ?_)
    · refine den_aload_n (pc := 31) d7_letDeny_31 rfl rfl ?_
      refine den_getR (pc := 32) (b := 42) fa_7_12 (ok_41 _) rfl d7_letDeny_32 ?_
      refine den_iload_n (pc := 35) d7_letDeny_35 rfl rfl ?_
      refine den_iload_n (pc := 36) d7_letDeny_36 rfl rfl ?_
      refine den_bipush (pc := 37) d7_letDeny_37 (by decide) ?_
      refine den_iload (pc := 39) d7_letDeny_39 rfl ?_
      refine den_isub (pc := 41) d7_letDeny_41 ?_
      refine den_callVV (pc := 42) (As := [vI x1, vI x3, vI (9 - r1)]) fv_7_143 rfl rfl (ok_42 _) (Nat.le_of_ble_eq_true rfl) (Nat.le_trans (by decide) hd) d7_letDeny_42 (c9_hold l G 42 x1 x3 (9 - r1) h6 (ok_42 _)) (fun r9 h10 m11 o12 => ?_)
      refine den_iconst (pc := 45) d7_letDeny_45 ?_
      exact den_zret (pc := 46) rfl (by decide) d7_letDeny_46
    · refine den_iconst (pc := 29) d7_letDeny_29 ?_
      exact den_zret (pc := 30) rfl (by decide) d7_letDeny_30
theorem d7_letHourPass_0 : decode m7_letHourPass.2.1 0 = .ok (.aload_n 0, 1) := by decide +kernel
theorem d7_letHourPass_1 : decode m7_letHourPass.2.1 1 = .ok (.getfield 35, 3) := by decide +kernel
theorem d7_letHourPass_4 : decode m7_letHourPass.2.1 4 = .ok (.bipush 99, 2) := by decide +kernel
theorem d7_letHourPass_6 : decode m7_letHourPass.2.1 6 = .ok (.if_icmp .lt 5, 3) := by decide +kernel
theorem d7_letHourPass_9 : decode m7_letHourPass.2.1 9 = .ok (.iconst 0, 1) := by decide +kernel
theorem d7_letHourPass_10 : decode m7_letHourPass.2.1 10 = .ok (.ireturn, 1) := by decide +kernel
theorem d7_letHourPass_11 : decode m7_letHourPass.2.1 11 = .ok (.iconst 0, 1) := by decide +kernel
theorem d7_letHourPass_12 : decode m7_letHourPass.2.1 12 = .ok (.istore_n 1, 1) := by decide +kernel
theorem d7_letHourPass_13 : decode m7_letHourPass.2.1 13 = .ok (.iload_n 1, 1) := by decide +kernel
theorem d7_letHourPass_14 : decode m7_letHourPass.2.1 14 = .ok (.iconst 4, 1) := by decide +kernel
theorem d7_letHourPass_15 : decode m7_letHourPass.2.1 15 = .ok (.if_icmp .ge 33, 3) := by decide +kernel
theorem d7_letHourPass_18 : decode m7_letHourPass.2.1 18 = .ok (.aload_n 0, 1) := by decide +kernel
theorem d7_letHourPass_19 : decode m7_letHourPass.2.1 19 = .ok (.getfield 18, 3) := by decide +kernel
theorem d7_letHourPass_22 : decode m7_letHourPass.2.1 22 = .ok (.iload_n 1, 1) := by decide +kernel
theorem d7_letHourPass_23 : decode m7_letHourPass.2.1 23 = .ok (.iconst 0, 1) := by decide +kernel
theorem d7_letHourPass_24 : decode m7_letHourPass.2.1 24 = .ok (.aload_n 0, 1) := by decide +kernel
theorem d7_letHourPass_25 : decode m7_letHourPass.2.1 25 = .ok (.getfield 18, 3) := by decide +kernel
theorem d7_letHourPass_28 : decode m7_letHourPass.2.1 28 = .ok (.iload_n 1, 1) := by decide +kernel
theorem d7_letHourPass_29 : decode m7_letHourPass.2.1 29 = .ok (.iaload, 1) := by decide +kernel
theorem d7_letHourPass_30 : decode m7_letHourPass.2.1 30 = .ok (.aload_n 0, 1) := by decide +kernel
theorem d7_letHourPass_31 : decode m7_letHourPass.2.1 31 = .ok (.getfield 12, 3) := by decide +kernel
theorem d7_letHourPass_34 : decode m7_letHourPass.2.1 34 = .ok (.getfield 147, 3) := by decide +kernel
theorem d7_letHourPass_37 : decode m7_letHourPass.2.1 37 = .ok (.isub, 1) := by decide +kernel
theorem d7_letHourPass_38 : decode m7_letHourPass.2.1 38 = .ok (.invokestatic 79, 3) := by decide +kernel
theorem d7_letHourPass_41 : decode m7_letHourPass.2.1 41 = .ok (.iastore, 1) := by decide +kernel
theorem d7_letHourPass_42 : decode m7_letHourPass.2.1 42 = .ok (.iinc 1 1, 3) := by decide +kernel
theorem d7_letHourPass_45 : decode m7_letHourPass.2.1 45 = .ok (.goto (-32), 3) := by decide +kernel
theorem d7_letHourPass_48 : decode m7_letHourPass.2.1 48 = .ok (.aload_n 0, 1) := by decide +kernel
theorem d7_letHourPass_49 : decode m7_letHourPass.2.1 49 = .ok (.iconst 0, 1) := by decide +kernel
theorem d7_letHourPass_50 : decode m7_letHourPass.2.1 50 = .ok (.putfield 42, 3) := by decide +kernel
theorem d7_letHourPass_53 : decode m7_letHourPass.2.1 53 = .ok (.aload_n 0, 1) := by decide +kernel
theorem d7_letHourPass_54 : decode m7_letHourPass.2.1 54 = .ok (.dup, 1) := by decide +kernel
theorem d7_letHourPass_55 : decode m7_letHourPass.2.1 55 = .ok (.getfield 35, 3) := by decide +kernel
theorem d7_letHourPass_58 : decode m7_letHourPass.2.1 58 = .ok (.iconst 1, 1) := by decide +kernel
theorem d7_letHourPass_59 : decode m7_letHourPass.2.1 59 = .ok (.iadd, 1) := by decide +kernel
theorem d7_letHourPass_60 : decode m7_letHourPass.2.1 60 = .ok (.putfield 35, 3) := by decide +kernel
theorem d7_letHourPass_63 : decode m7_letHourPass.2.1 63 = .ok (.iconst 1, 1) := by decide +kernel
theorem d7_letHourPass_64 : decode m7_letHourPass.2.1 64 = .ok (.ireturn, 1) := by decide +kernel
def b7_letHourPass_13 (rec13 : Int × AH → Option (Int × AH)) (x1 : Int) (h : AH) : Option (Int × AH) :=
  if 4 ≤ w32 x1 then
    lt (wr h 41 5 0) fun h1 =>
    lt (wr h1 41 3 ((h1.2 41 3) + 1)) fun h3 =>
    some (1, h3)
  else
    asrt (0 ≤ w32 x1 ∧ w32 x1 < 4) <|
    asrt (0 ≤ w32 x1 ∧ w32 x1 < 4) <|
    lt (wr h 48 (w32 x1).toNat (max32 0 ((h.2 48 (w32 x1).toNat) - (h.2 42 3)))) fun h7 =>
    rec13 ((x1 + 1), h7)
set_option maxRecDepth 100000 in
theorem t7_letHourPass_13 (l : Launch) (G : Geo) (d : Nat) (hd : 3 ≤ d) (x1 : Int) (rec13 : Int × AH → Option (Int × AH)) (H13 : ∀ (x1 : Int) (h : AH), Den l G m7_letHourPass rvI d 13 [some (vA G 41), some (vI x1)] [] h (rec13 (x1, h))) (h : AH) : Den l G m7_letHourPass rvI d 13 [some (vA G 41), some (vI x1)] [] h (b7_letHourPass_13 rec13 x1 h) := by
  unfold b7_letHourPass_13
  refine den_iload_n (pc := 13) d7_letHourPass_13 rfl rfl ?_
  refine den_iconst (pc := 14) d7_letHourPass_14 ?_
  refine den_icmp_ge (pc := 15) (tgt := 48) d7_letHourPass_15 (by decide) rfl (by decide) (fun _ => ?_) (fun _ => ?_)
  · refine den_aload_n (pc := 48) d7_letHourPass_48 rfl rfl ?_
    refine den_iconst (pc := 49) d7_letHourPass_49 ?_
    refine den_putI (pc := 50) fp_7_42 (ok_41 _) d7_letHourPass_50 ?_
    refine den_ltH (fun h1 m2 => ?_)
    refine den_aload_n (pc := 53) d7_letHourPass_53 rfl rfl ?_
    refine den_dup (pc := 54) d7_letHourPass_54 rfl ?_
    refine den_getI (pc := 55) fa_7_35 (ok_41 _) d7_letHourPass_55 ?_
    refine den_iconst (pc := 58) d7_letHourPass_58 ?_
    refine den_iadd (pc := 59) d7_letHourPass_59 ?_
    refine den_putI (pc := 60) fp_7_35 (ok_41 _) d7_letHourPass_60 ?_
    refine den_ltH (fun h3 m4 => ?_)
    refine den_iconst (pc := 63) d7_letHourPass_63 ?_
    exact den_zret (pc := 64) rfl (by decide) d7_letHourPass_64
  · refine den_aload_n (pc := 18) d7_letHourPass_18 rfl rfl ?_
    refine den_getR (pc := 19) (b := 48) fa_7_18 (ok_41 _) rfl d7_letHourPass_19 ?_
    refine den_iload_n (pc := 22) d7_letHourPass_22 rfl rfl ?_
    refine den_iconst (pc := 23) d7_letHourPass_23 ?_
    refine den_aload_n (pc := 24) d7_letHourPass_24 rfl rfl ?_
    refine den_getR (pc := 25) (b := 48) fa_7_18 (ok_41 _) rfl d7_letHourPass_25 ?_
    refine den_iload_n (pc := 28) d7_letHourPass_28 rfl rfl ?_
    refine den_asrt (fun a5 => ?_)
    refine den_iaload (pc := 29) sh_48 (sz_lt (by decide)) rfl a5 d7_letHourPass_29 ?_
    refine den_aload_n (pc := 30) d7_letHourPass_30 rfl rfl ?_
    refine den_getR (pc := 31) (b := 42) fa_7_12 (ok_41 _) rfl d7_letHourPass_31 ?_
    refine den_getI (pc := 34) fa_7_147 (ok_42 _) d7_letHourPass_34 ?_
    refine den_isub (pc := 37) d7_letHourPass_37 ?_
    refine den_max (pc := 38) fm_7_79 (Nat.le_of_ble_eq_true rfl) (Nat.le_trans (by decide) hd) d7_letHourPass_38 ?_
    refine den_asrt (fun a6 => ?_)
    refine den_iastore (pc := 41) sh_48 (sz_lt (by decide)) rfl a6 d7_letHourPass_41 ?_
    refine den_ltH (fun h7 m8 => ?_)
    refine den_iinc (pc := 42) (L2 := [some (vA G 41), some (vI (x1 + 1))]) d7_letHourPass_42 (by decide) rfl rfl ?_
    refine den_goto (pc := 45) (tgt := 13) d7_letHourPass_45 (by decide) ?_
    exact H13 (x1 + 1) h7
def l7_letHourPass_13 (x1 : Int) (h : AH) : Option (Int × AH) := fx (fun rec z => b7_letHourPass_13 rec z.1 z.2) FU (x1, h)
set_option maxRecDepth 100000 in
theorem tl7_letHourPass_13 (l : Launch) (G : Geo) (d : Nat) (hd : 3 ≤ d) : ∀ (n : Nat) (z : Int × AH), True → Den l G m7_letHourPass rvI d 13 [some (vA G 41), some (vI z.1)] [] z.2 (fx (fun rec z => b7_letHourPass_13 rec z.1 z.2) n z) :=
  den_fx (F := fun rec z => b7_letHourPass_13 rec z.1 z.2) (P := fun z => True) (fL := fun z => [some (vA G 41), some (vI z.1)]) (fs := fun z => []) (fh := fun z => z.2) (fun rec hrec z hz => t7_letHourPass_13 l G d hd z.1 rec (fun x1 h => hrec (x1, h) trivial) z.2 )
def f7_letHourPass (h : AH) : Option (Int × AH) :=
  if w32 (h.2 41 3) < 99 then
    l7_letHourPass_13 0 h
  else
    some (0, h)
set_option maxRecDepth 100000 in
theorem c7_letHourPass (l : Launch) (G : Geo) (h : AH) : Con l G m7_letHourPass rvI 3 [vA G 41] h (f7_letHourPass  h) := by
  have hd : 3 ≤ 3 := Nat.le_refl _
  refine con_Z rfl (by decide) rfl rfl (Nat.le_of_ble_eq_true rfl) (L := [some (vA G 41), none]) ?_
  unfold f7_letHourPass
  refine den_aload_n (pc := 0) d7_letHourPass_0 rfl rfl ?_
  refine den_getI (pc := 1) fa_7_35 (ok_41 _) d7_letHourPass_1 ?_
  refine den_bipush (pc := 4) d7_letHourPass_4 (by decide) ?_
  refine den_icmp_lt (pc := 6) (tgt := 11) d7_letHourPass_6 (by decide) rfl (by decide) (fun _ => ?_) (fun _ => ?_)
  · refine den_iconst (pc := 11) d7_letHourPass_11 ?_
    refine den_istore_n (pc := 12) (L2 := [some (vA G 41), some (vI 0)]) d7_letHourPass_12 rfl (by decide) rfl ?_
    exact tl7_letHourPass_13 l G _ hd FU (0, h) trivial
  · refine den_iconst (pc := 9) d7_letHourPass_9 ?_
    exact den_zret (pc := 10) rfl (by decide) d7_letHourPass_10
theorem d9_fade_0 : decode m9_fade.2.1 0 = .ok (.aload_n 0, 1) := by decide +kernel
theorem d9_fade_1 : decode m9_fade.2.1 1 = .ok (.iload_n 1, 1) := by decide +kernel
theorem d9_fade_2 : decode m9_fade.2.1 2 = .ok (.invokevirtual 56, 3) := by decide +kernel
theorem d9_fade_5 : decode m9_fade.2.1 5 = .ok (.ifCond .eq 15, 3) := by decide +kernel
theorem d9_fade_8 : decode m9_fade.2.1 8 = .ok (.aload_n 0, 1) := by decide +kernel
theorem d9_fade_9 : decode m9_fade.2.1 9 = .ok (.getfield 15, 3) := by decide +kernel
theorem d9_fade_12 : decode m9_fade.2.1 12 = .ok (.iload_n 1, 1) := by decide +kernel
theorem d9_fade_13 : decode m9_fade.2.1 13 = .ok (.aload_n 0, 1) := by decide +kernel
theorem d9_fade_14 : decode m9_fade.2.1 14 = .ok (.iload_n 1, 1) := by decide +kernel
theorem d9_fade_15 : decode m9_fade.2.1 15 = .ok (.iconst 1, 1) := by decide +kernel
theorem d9_fade_16 : decode m9_fade.2.1 16 = .ok (.invokevirtual 88, 3) := by decide +kernel
theorem d9_fade_19 : decode m9_fade.2.1 19 = .ok (.iastore, 1) := by decide +kernel
theorem d9_fade_20 : decode m9_fade.2.1 20 = .ok (.return_, 1) := by decide +kernel
def f9_fade (x0 : Nat) (x1 : Int) (h : AH) : Option (Int × AH) :=
  bnd (f9_hasSubject x0 x1 h) fun r1 h2 =>
  if w32 r1 = 0 then
    some (0, h2)
  else
    bnd (f9_heatAfter x0 x1 1 h2) fun r6 h7 =>
    asrt (0 ≤ w32 x1 ∧ w32 x1 < 6) <|
    lt (wr h7 (x0 + 1) (w32 x1).toNat r6) fun h13 =>
    some (0, h13)
set_option maxRecDepth 100000 in
theorem c9_fade (l : Launch) (G : Geo) (x0 : Nat) (x1 : Int) (h : AH) (kx0 : ok h.1 x0 9) : Con l G m9_fade rvV 4 [vA G x0, vI x1] h (f9_fade x0 x1 h) := by
  have hd : 4 ≤ 4 := Nat.le_refl _
  refine con_V rfl (by decide) rfl rfl (Nat.le_of_ble_eq_true rfl) (L := [some (vA G x0), some (vI x1)]) ?_
  unfold f9_fade
  refine den_aload_n (pc := 0) d9_fade_0 rfl rfl ?_
  refine den_iload_n (pc := 1) d9_fade_1 rfl rfl ?_
  refine den_callVI (pc := 2) (As := [vI x1]) fv_9_56 rfl rfl kx0 (Nat.le_of_ble_eq_true rfl) (Nat.le_trans (by decide) hd) d9_fade_2 (c9_hasSubject l G x0 x1 h kx0) (fun r1 h2 m3 o4 => ?_)
  have q5 := ok.mono kx0 m3
  refine den_if_eq (pc := 5) (tgt := 20) d9_fade_5 (by decide) rfl (fun _ => ?_) (fun _ => ?_)
  · exact den_vret (pc := 20) rfl d9_fade_20
  · refine den_aload_n (pc := 8) d9_fade_8 rfl rfl ?_
    refine den_getR (pc := 9) (b := x0 + 1) fa_9_15 q5 rfl d9_fade_9 ?_
    refine den_iload_n (pc := 12) d9_fade_12 rfl rfl ?_
    refine den_aload_n (pc := 13) d9_fade_13 rfl rfl ?_
    refine den_iload_n (pc := 14) d9_fade_14 rfl rfl ?_
    refine den_iconst (pc := 15) d9_fade_15 ?_
    refine den_callVI (pc := 16) (As := [vI x1, vI 1]) fv_9_88 rfl rfl q5 (Nat.le_of_ble_eq_true rfl) (Nat.le_trans (by decide) hd) d9_fade_16 (c9_heatAfter l G x0 x1 1 h2 q5) (fun r6 h7 m8 o9 => ?_)
    have q10 := ok.mono q5 m8
    have q11 := lt_mono (vil_l1 q5) m8
    refine den_asrt (fun a12 => ?_)
    refine den_iastore (pc := 19) (vil_s1 q5) q11 rfl a12 d9_fade_19 ?_
    refine den_ltH (fun h13 m14 => ?_)
    have q15 := ok.mono q10 m14
    exact den_vret (pc := 20) rfl d9_fade_20
theorem d7_letQuarrel_0 : decode m7_letQuarrel.2.1 0 = .ok (.aload_n 0, 1) := by decide +kernel
theorem d7_letQuarrel_1 : decode m7_letQuarrel.2.1 1 = .ok (.getfield 12, 3) := by decide +kernel
theorem d7_letQuarrel_4 : decode m7_letQuarrel.2.1 4 = .ok (.iload_n 1, 1) := by decide +kernel
theorem d7_letQuarrel_5 : decode m7_letQuarrel.2.1 5 = .ok (.iload_n 2, 1) := by decide +kernel
theorem d7_letQuarrel_6 : decode m7_letQuarrel.2.1 6 = .ok (.iload_n 3, 1) := by decide +kernel
theorem d7_letQuarrel_7 : decode m7_letQuarrel.2.1 7 = .ok (.invokevirtual 126, 3) := by decide +kernel
theorem d7_letQuarrel_10 : decode m7_letQuarrel.2.1 10 = .ok (.istore 5, 2) := by decide +kernel
theorem d7_letQuarrel_12 : decode m7_letQuarrel.2.1 12 = .ok (.iload 5, 2) := by decide +kernel
theorem d7_letQuarrel_14 : decode m7_letQuarrel.2.1 14 = .ok (.ifCond .eq 27, 3) := by decide +kernel
theorem d7_letQuarrel_17 : decode m7_letQuarrel.2.1 17 = .ok (.aload_n 0, 1) := by decide +kernel
theorem d7_letQuarrel_18 : decode m7_letQuarrel.2.1 18 = .ok (.getfield 12, 3) := by decide +kernel
theorem d7_letQuarrel_21 : decode m7_letQuarrel.2.1 21 = .ok (.iload_n 1, 1) := by decide +kernel
theorem d7_letQuarrel_22 : decode m7_letQuarrel.2.1 22 = .ok (.iload_n 2, 1) := by decide +kernel
theorem d7_letQuarrel_23 : decode m7_letQuarrel.2.1 23 = .ok (.invokevirtual 130, 3) := by decide +kernel
theorem d7_letQuarrel_26 : decode m7_letQuarrel.2.1 26 = .ok (.ifCond .eq 15, 3) := by decide +kernel
theorem d7_letQuarrel_29 : decode m7_letQuarrel.2.1 29 = .ok (.aload_n 0, 1) := by decide +kernel
theorem d7_letQuarrel_30 : decode m7_letQuarrel.2.1 30 = .ok (.getfield 12, 3) := by decide +kernel
theorem d7_letQuarrel_33 : decode m7_letQuarrel.2.1 33 = .ok (.iload 4, 2) := by decide +kernel
theorem d7_letQuarrel_35 : decode m7_letQuarrel.2.1 35 = .ok (.invokevirtual 97, 3) := by decide +kernel
theorem d7_letQuarrel_38 : decode m7_letQuarrel.2.1 38 = .ok (.ifCond .ne 5, 3) := by decide +kernel
theorem d7_letQuarrel_41 : decode m7_letQuarrel.2.1 41 = .ok (.iconst 0, 1) := by decide +kernel
theorem d7_letQuarrel_42 : decode m7_letQuarrel.2.1 42 = .ok (.ireturn, 1) := by decide +kernel
theorem d7_letQuarrel_43 : decode m7_letQuarrel.2.1 43 = .ok (.iconst 1, 1) := by decide +kernel
theorem d7_letQuarrel_44 : decode m7_letQuarrel.2.1 44 = .ok (.iload_n 1, 1) := by decide +kernel
theorem d7_letQuarrel_45 : decode m7_letQuarrel.2.1 45 = .ok (.ishl, 1) := by decide +kernel
theorem d7_letQuarrel_46 : decode m7_letQuarrel.2.1 46 = .ok (.iconst 1, 1) := by decide +kernel
theorem d7_letQuarrel_47 : decode m7_letQuarrel.2.1 47 = .ok (.iload_n 2, 1) := by decide +kernel
theorem d7_letQuarrel_48 : decode m7_letQuarrel.2.1 48 = .ok (.ishl, 1) := by decide +kernel
theorem d7_letQuarrel_49 : decode m7_letQuarrel.2.1 49 = .ok (.ior, 1) := by decide +kernel
theorem d7_letQuarrel_50 : decode m7_letQuarrel.2.1 50 = .ok (.istore 6, 2) := by decide +kernel
theorem d7_letQuarrel_52 : decode m7_letQuarrel.2.1 52 = .ok (.aload_n 0, 1) := by decide +kernel
theorem d7_letQuarrel_53 : decode m7_letQuarrel.2.1 53 = .ok (.getfield 42, 3) := by decide +kernel
theorem d7_letQuarrel_56 : decode m7_letQuarrel.2.1 56 = .ok (.iload 6, 2) := by decide +kernel
theorem d7_letQuarrel_58 : decode m7_letQuarrel.2.1 58 = .ok (.iand, 1) := by decide +kernel
theorem d7_letQuarrel_59 : decode m7_letQuarrel.2.1 59 = .ok (.ifCond .ne 15, 3) := by decide +kernel
theorem d7_letQuarrel_62 : decode m7_letQuarrel.2.1 62 = .ok (.aload_n 0, 1) := by decide +kernel
theorem d7_letQuarrel_63 : decode m7_letQuarrel.2.1 63 = .ok (.getfield 39, 3) := by decide +kernel
theorem d7_letQuarrel_66 : decode m7_letQuarrel.2.1 66 = .ok (.iconst 1, 1) := by decide +kernel
theorem d7_letQuarrel_67 : decode m7_letQuarrel.2.1 67 = .ok (.iload 4, 2) := by decide +kernel
theorem d7_letQuarrel_69 : decode m7_letQuarrel.2.1 69 = .ok (.ishl, 1) := by decide +kernel
theorem d7_letQuarrel_70 : decode m7_letQuarrel.2.1 70 = .ok (.iand, 1) := by decide +kernel
theorem d7_letQuarrel_71 : decode m7_letQuarrel.2.1 71 = .ok (.ifCond .eq 5, 3) := by decide +kernel
theorem d7_letQuarrel_74 : decode m7_letQuarrel.2.1 74 = .ok (.iconst 0, 1) := by decide +kernel
theorem d7_letQuarrel_75 : decode m7_letQuarrel.2.1 75 = .ok (.ireturn, 1) := by decide +kernel
theorem d7_letQuarrel_76 : decode m7_letQuarrel.2.1 76 = .ok (.aload_n 0, 1) := by decide +kernel
theorem d7_letQuarrel_77 : decode m7_letQuarrel.2.1 77 = .ok (.dup, 1) := by decide +kernel
theorem d7_letQuarrel_78 : decode m7_letQuarrel.2.1 78 = .ok (.getfield 42, 3) := by decide +kernel
theorem d7_letQuarrel_81 : decode m7_letQuarrel.2.1 81 = .ok (.iload 6, 2) := by decide +kernel
theorem d7_letQuarrel_83 : decode m7_letQuarrel.2.1 83 = .ok (.ior, 1) := by decide +kernel
theorem d7_letQuarrel_84 : decode m7_letQuarrel.2.1 84 = .ok (.putfield 42, 3) := by decide +kernel
theorem d7_letQuarrel_87 : decode m7_letQuarrel.2.1 87 = .ok (.aload_n 0, 1) := by decide +kernel
theorem d7_letQuarrel_88 : decode m7_letQuarrel.2.1 88 = .ok (.getfield 22, 3) := by decide +kernel
theorem d7_letQuarrel_91 : decode m7_letQuarrel.2.1 91 = .ok (.iload_n 1, 1) := by decide +kernel
theorem d7_letQuarrel_92 : decode m7_letQuarrel.2.1 92 = .ok (.dup2, 1) := by decide +kernel
theorem d7_letQuarrel_93 : decode m7_letQuarrel.2.1 93 = .ok (.iaload, 1) := by decide +kernel
theorem d7_letQuarrel_94 : decode m7_letQuarrel.2.1 94 = .ok (.iconst 1, 1) := by decide +kernel
theorem d7_letQuarrel_95 : decode m7_letQuarrel.2.1 95 = .ok (.iadd, 1) := by decide +kernel
theorem d7_letQuarrel_96 : decode m7_letQuarrel.2.1 96 = .ok (.iastore, 1) := by decide +kernel
theorem d7_letQuarrel_97 : decode m7_letQuarrel.2.1 97 = .ok (.aload_n 0, 1) := by decide +kernel
theorem d7_letQuarrel_98 : decode m7_letQuarrel.2.1 98 = .ok (.getfield 22, 3) := by decide +kernel
theorem d7_letQuarrel_101 : decode m7_letQuarrel.2.1 101 = .ok (.iload_n 2, 1) := by decide +kernel
theorem d7_letQuarrel_102 : decode m7_letQuarrel.2.1 102 = .ok (.dup2, 1) := by decide +kernel
theorem d7_letQuarrel_103 : decode m7_letQuarrel.2.1 103 = .ok (.iaload, 1) := by decide +kernel
theorem d7_letQuarrel_104 : decode m7_letQuarrel.2.1 104 = .ok (.iconst 1, 1) := by decide +kernel
theorem d7_letQuarrel_105 : decode m7_letQuarrel.2.1 105 = .ok (.iadd, 1) := by decide +kernel
theorem d7_letQuarrel_106 : decode m7_letQuarrel.2.1 106 = .ok (.iastore, 1) := by decide +kernel
theorem d7_letQuarrel_107 : decode m7_letQuarrel.2.1 107 = .ok (.aload_n 0, 1) := by decide +kernel
theorem d7_letQuarrel_108 : decode m7_letQuarrel.2.1 108 = .ok (.dup, 1) := by decide +kernel
theorem d7_letQuarrel_109 : decode m7_letQuarrel.2.1 109 = .ok (.getfield 45, 3) := by decide +kernel
theorem d7_letQuarrel_112 : decode m7_letQuarrel.2.1 112 = .ok (.iload 5, 2) := by decide +kernel
theorem d7_letQuarrel_114 : decode m7_letQuarrel.2.1 114 = .ok (.iadd, 1) := by decide +kernel
theorem d7_letQuarrel_115 : decode m7_letQuarrel.2.1 115 = .ok (.putfield 45, 3) := by decide +kernel
theorem d7_letQuarrel_118 : decode m7_letQuarrel.2.1 118 = .ok (.aload_n 0, 1) := by decide +kernel
theorem d7_letQuarrel_119 : decode m7_letQuarrel.2.1 119 = .ok (.getfield 18, 3) := by decide +kernel
theorem d7_letQuarrel_122 : decode m7_letQuarrel.2.1 122 = .ok (.iload 4, 2) := by decide +kernel
theorem d7_letQuarrel_124 : decode m7_letQuarrel.2.1 124 = .ok (.dup2, 1) := by decide +kernel
theorem d7_letQuarrel_125 : decode m7_letQuarrel.2.1 125 = .ok (.iaload, 1) := by decide +kernel
theorem d7_letQuarrel_126 : decode m7_letQuarrel.2.1 126 = .ok (.iload 5, 2) := by decide +kernel
theorem d7_letQuarrel_128 : decode m7_letQuarrel.2.1 128 = .ok (.iadd, 1) := by decide +kernel
theorem d7_letQuarrel_129 : decode m7_letQuarrel.2.1 129 = .ok (.iastore, 1) := by decide +kernel
theorem d7_letQuarrel_130 : decode m7_letQuarrel.2.1 130 = .ok (.aload_n 0, 1) := by decide +kernel
theorem d7_letQuarrel_131 : decode m7_letQuarrel.2.1 131 = .ok (.getfield 18, 3) := by decide +kernel
theorem d7_letQuarrel_134 : decode m7_letQuarrel.2.1 134 = .ok (.iload 4, 2) := by decide +kernel
theorem d7_letQuarrel_136 : decode m7_letQuarrel.2.1 136 = .ok (.iaload, 1) := by decide +kernel
theorem d7_letQuarrel_137 : decode m7_letQuarrel.2.1 137 = .ok (.aload_n 0, 1) := by decide +kernel
theorem d7_letQuarrel_138 : decode m7_letQuarrel.2.1 138 = .ok (.getfield 12, 3) := by decide +kernel
theorem d7_letQuarrel_141 : decode m7_letQuarrel.2.1 141 = .ok (.getfield 133, 3) := by decide +kernel
theorem d7_letQuarrel_144 : decode m7_letQuarrel.2.1 144 = .ok (.iload 4, 2) := by decide +kernel
theorem d7_letQuarrel_146 : decode m7_letQuarrel.2.1 146 = .ok (.iaload, 1) := by decide +kernel
theorem d7_letQuarrel_147 : decode m7_letQuarrel.2.1 147 = .ok (.if_icmp .le 24, 3) := by decide +kernel
theorem d7_letQuarrel_150 : decode m7_letQuarrel.2.1 150 = .ok (.aload_n 0, 1) := by decide +kernel
theorem d7_letQuarrel_151 : decode m7_letQuarrel.2.1 151 = .ok (.dup, 1) := by decide +kernel
theorem d7_letQuarrel_152 : decode m7_letQuarrel.2.1 152 = .ok (.getfield 39, 3) := by decide +kernel
theorem d7_letQuarrel_155 : decode m7_letQuarrel.2.1 155 = .ok (.iconst 1, 1) := by decide +kernel
theorem d7_letQuarrel_156 : decode m7_letQuarrel.2.1 156 = .ok (.iload 4, 2) := by decide +kernel
theorem d7_letQuarrel_158 : decode m7_letQuarrel.2.1 158 = .ok (.ishl, 1) := by decide +kernel
theorem d7_letQuarrel_159 : decode m7_letQuarrel.2.1 159 = .ok (.ior, 1) := by decide +kernel
theorem d7_letQuarrel_160 : decode m7_letQuarrel.2.1 160 = .ok (.putfield 39, 3) := by decide +kernel
theorem d7_letQuarrel_163 : decode m7_letQuarrel.2.1 163 = .ok (.aload_n 0, 1) := by decide +kernel
theorem d7_letQuarrel_164 : decode m7_letQuarrel.2.1 164 = .ok (.getfield 18, 3) := by decide +kernel
theorem d7_letQuarrel_167 : decode m7_letQuarrel.2.1 167 = .ok (.iload 4, 2) := by decide +kernel
theorem d7_letQuarrel_169 : decode m7_letQuarrel.2.1 169 = .ok (.iconst 0, 1) := by decide +kernel
theorem d7_letQuarrel_170 : decode m7_letQuarrel.2.1 170 = .ok (.iastore, 1) := by decide +kernel
theorem d7_letQuarrel_171 : decode m7_letQuarrel.2.1 171 = .ok (.aload_n 0, 1) := by decide +kernel
theorem d7_letQuarrel_172 : decode m7_letQuarrel.2.1 172 = .ok (.getfield 12, 3) := by decide +kernel
theorem d7_letQuarrel_175 : decode m7_letQuarrel.2.1 175 = .ok (.iload_n 3, 1) := by decide +kernel
theorem d7_letQuarrel_176 : decode m7_letQuarrel.2.1 176 = .ok (.invokevirtual 136, 3) := by decide +kernel
theorem d7_letQuarrel_179 : decode m7_letQuarrel.2.1 179 = .ok (.iconst 1, 1) := by decide +kernel
theorem d7_letQuarrel_180 : decode m7_letQuarrel.2.1 180 = .ok (.ireturn, 1) := by decide +kernel
def b7_letQuarrel_171 (x3 : Int) (h : AH) : Option (Int × AH) :=
  bnd (f9_fade 42 x3 h) fun r1 h2 =>
  some (1, h2)
set_option maxRecDepth 100000 in
theorem t7_letQuarrel_171 (l : Launch) (G : Geo) (d : Nat) (hd : 5 ≤ d) (x3 : Int) (h : AH) : Den l G m7_letQuarrel rvI d 171 [some (vA G 41), none, none, some (vI x3), none, none, none] [] h (b7_letQuarrel_171 x3 h) := by
  unfold b7_letQuarrel_171
  refine den_aload_n (pc := 171) d7_letQuarrel_171 rfl rfl ?_
  refine den_getR (pc := 172) (b := 42) fa_7_12 (ok_41 _) rfl d7_letQuarrel_172 ?_
  refine den_iload_n (pc := 175) d7_letQuarrel_175 rfl rfl ?_
  refine den_callVV (pc := 176) (As := [vI x3]) fv_7_136 rfl rfl (ok_42 _) (Nat.le_of_ble_eq_true rfl) (Nat.le_trans (by decide) hd) d7_letQuarrel_176 (c9_fade l G 42 x3 h (ok_42 _)) (fun r1 h2 m3 o4 => ?_)
  refine den_iconst (pc := 179) d7_letQuarrel_179 ?_
  exact den_zret (pc := 180) rfl (by decide) d7_letQuarrel_180
def f7_letQuarrel (x1 : Int) (x2 : Int) (x3 : Int) (x4 : Int) (h : AH) : Option (Int × AH) :=
  bnd (f9_burning 42 x1 x2 x3 h) fun r5 h6 =>
  if w32 r5 = 0 then
    some (0, h6)
  else
    bnd (f9_hasCouple 42 x1 x2 h6) fun r9 h10 =>
    if w32 r9 = 0 then
      some (0, h10)
    else
      bnd (f9_hasHearth 42 x4 h10) fun r13 h14 =>
      if ¬ w32 r13 = 0 then
        lt (or32 (shl32 1 x1) (shl32 1 x2)) fun u17 =>
        if ¬ w32 (and32 (h14.2 41 5) u17) = 0 then
          some (0, h14)
        else
          if w32 (and32 (h14.2 41 4) (shl32 1 x4)) = 0 then
            lt (wr h14 41 5 (or32 (h14.2 41 5) u17)) fun h18 =>
            asrt (0 ≤ w32 x1 ∧ w32 x1 < 8) <|
            asrt (0 ≤ w32 x1 ∧ w32 x1 < 8) <|
            lt (wr h18 49 (w32 x1).toNat ((h18.2 49 (w32 x1).toNat) + 1)) fun h22 =>
            asrt (0 ≤ w32 x2 ∧ w32 x2 < 8) <|
            asrt (0 ≤ w32 x2 ∧ w32 x2 < 8) <|
            lt (wr h22 49 (w32 x2).toNat ((h22.2 49 (w32 x2).toNat) + 1)) fun h26 =>
            lt (wr h26 41 6 ((h26.2 41 6) + r5)) fun h28 =>
            asrt (0 ≤ w32 x4 ∧ w32 x4 < 4) <|
            asrt (0 ≤ w32 x4 ∧ w32 x4 < 4) <|
            lt (wr h28 48 (w32 x4).toNat ((h28.2 48 (w32 x4).toNat) + r5)) fun h32 =>
            asrt (0 ≤ w32 x4 ∧ w32 x4 < 4) <|
            asrt (0 ≤ w32 x4 ∧ w32 x4 < 4) <|
            if w32 (h32.2 48 (w32 x4).toNat) ≤ w32 (h32.2 46 (w32 x4).toNat) then
              b7_letQuarrel_171 x3 h32
            else
              lt (wr h32 41 4 (or32 (h32.2 41 4) (shl32 1 x4))) fun h36 =>
              asrt (0 ≤ w32 x4 ∧ w32 x4 < 4) <|
              lt (wr h36 48 (w32 x4).toNat 0) fun h39 =>
              b7_letQuarrel_171 x3 h39
          else
            some (0, h14)
      else
        some (0, h14)
set_option maxRecDepth 100000 in
theorem c7_letQuarrel (l : Launch) (G : Geo) (x1 : Int) (x2 : Int) (x3 : Int) (x4 : Int) (h : AH) : Con l G m7_letQuarrel rvI 5 [vA G 41, vI x1, vI x2, vI x3, vI x4] h (f7_letQuarrel x1 x2 x3 x4 h) := by
  have hd : 5 ≤ 5 := Nat.le_refl _
  refine con_Z rfl (by decide) rfl rfl (Nat.le_of_ble_eq_true rfl) (L := [some (vA G 41), some (vI x1), some (vI x2), some (vI x3), some (vI x4), none, none]) ?_
  unfold f7_letQuarrel
  refine den_aload_n (pc := 0) d7_letQuarrel_0 rfl rfl ?_
  refine den_getR (pc := 1) (b := 42) fa_7_12 (ok_41 _) rfl d7_letQuarrel_1 ?_
  refine den_iload_n (pc := 4) d7_letQuarrel_4 rfl rfl ?_
  refine den_iload_n (pc := 5) d7_letQuarrel_5 rfl rfl ?_
  refine den_iload_n (pc := 6) d7_letQuarrel_6 rfl rfl ?_
  refine den_callVI (pc := 7) (As := [vI x1, vI x2, vI x3]) fv_7_126 rfl rfl (ok_42 _) (Nat.le_of_ble_eq_true rfl) (Nat.le_trans (by decide) hd) d7_letQuarrel_7 (c9_burning l G 42 x1 x2 x3 h (ok_42 _)) (fun r5 h6 m7 o8 => ?_)
  refine den_istore (pc := 10) (L2 := [some (vA G 41), some (vI x1), some (vI x2), some (vI x3), some (vI x4), some (vI r5), none]) d7_letQuarrel_10 (by decide) rfl ?_
  refine den_iload (pc := 12) d7_letQuarrel_12 rfl ?_
  refine den_if_eq (pc := 14) (tgt := 41) d7_letQuarrel_14 (by decide) rfl (fun _ => ?_) (fun _ => ?_)
  · refine den_iconst (pc := 41) d7_letQuarrel_41 ?_
    exact den_zret (pc := 42) rfl (by decide) d7_letQuarrel_42
  · refine den_aload_n (pc := 17) d7_letQuarrel_17 rfl rfl ?_
    refine den_getR (pc := 18) (b := 42) fa_7_12 (ok_41 _) rfl d7_letQuarrel_18 ?_
    refine den_iload_n (pc := 21) d7_letQuarrel_21 rfl rfl ?_
    refine den_iload_n (pc := 22) d7_letQuarrel_22 rfl rfl ?_
    refine den_callVI (pc := 23) (As := [vI x1, vI x2]) fv_7_130 rfl rfl (ok_42 _) (Nat.le_of_ble_eq_true rfl) (Nat.le_trans (by decide) hd) d7_letQuarrel_23 (c9_hasCouple l G 42 x1 x2 h6 (ok_42 _)) (fun r9 h10 m11 o12 => ?_)
    refine den_if_eq (pc := 26) (tgt := 41) d7_letQuarrel_26 (by decide) rfl (fun _ => ?_) (fun _ => ?_)
    · refine den_iconst (pc := 41) d7_letQuarrel_41 ?_
      exact den_zret (pc := 42) rfl (by decide) d7_letQuarrel_42
    · refine den_aload_n (pc := 29) d7_letQuarrel_29 rfl rfl ?_
      refine den_getR (pc := 30) (b := 42) fa_7_12 (ok_41 _) rfl d7_letQuarrel_30 ?_
      refine den_iload (pc := 33) d7_letQuarrel_33 rfl ?_
      refine den_callVI (pc := 35) (As := [vI x4]) fv_7_97 rfl rfl (ok_42 _) (Nat.le_of_ble_eq_true rfl) (Nat.le_trans (by decide) hd) d7_letQuarrel_35 (c9_hasHearth l G 42 x4 h10 (ok_42 _)) (fun r13 h14 m15 o16 => ?_)
      refine den_if_ne (pc := 38) (tgt := 43) d7_letQuarrel_38 (by decide) rfl (fun _ => ?_) (fun _ => ?_)
      · refine den_iconst (pc := 43) d7_letQuarrel_43 ?_
        refine den_iload_n (pc := 44) d7_letQuarrel_44 rfl rfl ?_
        refine den_ishl (pc := 45) d7_letQuarrel_45 ?_
        refine den_iconst (pc := 46) d7_letQuarrel_46 ?_
        refine den_iload_n (pc := 47) d7_letQuarrel_47 rfl rfl ?_
        refine den_ishl (pc := 48) d7_letQuarrel_48 ?_
        refine den_ior (pc := 49) d7_letQuarrel_49 ?_
        refine den_istoreL (pc := 50) (L2 := fun y => [some (vA G 41), some (vI x1), some (vI x2), some (vI x3), some (vI x4), some (vI r5), some (vI y)]) d7_letQuarrel_50 (by decide) (fun _ => rfl) (fun u17 => ?_)
        refine den_aload_n (pc := 52) d7_letQuarrel_52 rfl rfl ?_
        refine den_getI (pc := 53) fa_7_42 (ok_41 _) d7_letQuarrel_53 ?_
        refine den_iload (pc := 56) d7_letQuarrel_56 rfl ?_
        refine den_iand (pc := 58) d7_letQuarrel_58 ?_
        refine den_if_ne (pc := 59) (tgt := 74) d7_letQuarrel_59 (by decide) rfl (fun _ => ?_) (fun _ => ?_)
        · refine den_iconst (pc := 74) d7_letQuarrel_74 ?_
          exact den_zret (pc := 75) rfl (by decide) d7_letQuarrel_75
        · refine den_aload_n (pc := 62) d7_letQuarrel_62 rfl rfl ?_
          refine den_getI (pc := 63) fa_7_39 (ok_41 _) d7_letQuarrel_63 ?_
          refine den_iconst (pc := 66) d7_letQuarrel_66 ?_
          refine den_iload (pc := 67) d7_letQuarrel_67 rfl ?_
          refine den_ishl (pc := 69) d7_letQuarrel_69 ?_
          refine den_iand (pc := 70) d7_letQuarrel_70 ?_
          refine den_if_eq (pc := 71) (tgt := 76) d7_letQuarrel_71 (by decide) rfl (fun _ => ?_) (fun _ => ?_)
          · refine den_aload_n (pc := 76) d7_letQuarrel_76 rfl rfl ?_
            refine den_dup (pc := 77) d7_letQuarrel_77 rfl ?_
            refine den_getI (pc := 78) fa_7_42 (ok_41 _) d7_letQuarrel_78 ?_
            refine den_iload (pc := 81) d7_letQuarrel_81 rfl ?_
            refine den_ior (pc := 83) d7_letQuarrel_83 ?_
            refine den_putI (pc := 84) fp_7_42 (ok_41 _) d7_letQuarrel_84 ?_
            refine den_ltH (fun h18 m19 => ?_)
            refine den_aload_n (pc := 87) d7_letQuarrel_87 rfl rfl ?_
            refine den_getR (pc := 88) (b := 49) fa_7_22 (ok_41 _) rfl d7_letQuarrel_88 ?_
            refine den_iload_n (pc := 91) d7_letQuarrel_91 rfl rfl ?_
            refine den_dup2 (pc := 92) d7_letQuarrel_92 rfl rfl ?_
            refine den_asrt (fun a20 => ?_)
            refine den_iaload (pc := 93) sh_49 (sz_lt (by decide)) rfl a20 d7_letQuarrel_93 ?_
            refine den_iconst (pc := 94) d7_letQuarrel_94 ?_
            refine den_iadd (pc := 95) d7_letQuarrel_95 ?_
            refine den_asrt (fun a21 => ?_)
            refine den_iastore (pc := 96) sh_49 (sz_lt (by decide)) rfl a21 d7_letQuarrel_96 ?_
            refine den_ltH (fun h22 m23 => ?_)
            refine den_aload_n (pc := 97) d7_letQuarrel_97 rfl rfl ?_
            refine den_getR (pc := 98) (b := 49) fa_7_22 (ok_41 _) rfl d7_letQuarrel_98 ?_
            refine den_iload_n (pc := 101) d7_letQuarrel_101 rfl rfl ?_
            refine den_dup2 (pc := 102) d7_letQuarrel_102 rfl rfl ?_
            refine den_asrt (fun a24 => ?_)
            refine den_iaload (pc := 103) sh_49 (sz_lt (by decide)) rfl a24 d7_letQuarrel_103 ?_
            refine den_iconst (pc := 104) d7_letQuarrel_104 ?_
            refine den_iadd (pc := 105) d7_letQuarrel_105 ?_
            refine den_asrt (fun a25 => ?_)
            refine den_iastore (pc := 106) sh_49 (sz_lt (by decide)) rfl a25 d7_letQuarrel_106 ?_
            refine den_ltH (fun h26 m27 => ?_)
            refine den_aload_n (pc := 107) d7_letQuarrel_107 rfl rfl ?_
            refine den_dup (pc := 108) d7_letQuarrel_108 rfl ?_
            refine den_getI (pc := 109) fa_7_45 (ok_41 _) d7_letQuarrel_109 ?_
            refine den_iload (pc := 112) d7_letQuarrel_112 rfl ?_
            refine den_iadd (pc := 114) d7_letQuarrel_114 ?_
            refine den_putI (pc := 115) fp_7_45 (ok_41 _) d7_letQuarrel_115 ?_
            refine den_ltH (fun h28 m29 => ?_)
            refine den_aload_n (pc := 118) d7_letQuarrel_118 rfl rfl ?_
            refine den_getR (pc := 119) (b := 48) fa_7_18 (ok_41 _) rfl d7_letQuarrel_119 ?_
            refine den_iload (pc := 122) d7_letQuarrel_122 rfl ?_
            refine den_dup2 (pc := 124) d7_letQuarrel_124 rfl rfl ?_
            refine den_asrt (fun a30 => ?_)
            refine den_iaload (pc := 125) sh_48 (sz_lt (by decide)) rfl a30 d7_letQuarrel_125 ?_
            refine den_iload (pc := 126) d7_letQuarrel_126 rfl ?_
            refine den_iadd (pc := 128) d7_letQuarrel_128 ?_
            refine den_asrt (fun a31 => ?_)
            refine den_iastore (pc := 129) sh_48 (sz_lt (by decide)) rfl a31 d7_letQuarrel_129 ?_
            refine den_ltH (fun h32 m33 => ?_)
            refine den_aload_n (pc := 130) d7_letQuarrel_130 rfl rfl ?_
            refine den_getR (pc := 131) (b := 48) fa_7_18 (ok_41 _) rfl d7_letQuarrel_131 ?_
            refine den_iload (pc := 134) d7_letQuarrel_134 rfl ?_
            refine den_asrt (fun a34 => ?_)
            refine den_iaload (pc := 136) sh_48 (sz_lt (by decide)) rfl a34 d7_letQuarrel_136 ?_
            refine den_aload_n (pc := 137) d7_letQuarrel_137 rfl rfl ?_
            refine den_getR (pc := 138) (b := 42) fa_7_12 (ok_41 _) rfl d7_letQuarrel_138 ?_
            refine den_getR (pc := 141) (b := 46) fa_7_133 (ok_42 _) rfl d7_letQuarrel_141 ?_
            refine den_iload (pc := 144) d7_letQuarrel_144 rfl ?_
            refine den_asrt (fun a35 => ?_)
            refine den_iaload (pc := 146) sh_46 (sz_lt (by decide)) rfl a35 d7_letQuarrel_146 ?_
            refine den_icmp_le (pc := 147) (tgt := 171) d7_letQuarrel_147 (by decide) rfl rfl (fun _ => ?_) (fun _ => ?_)
            · refine den_wk [true, false, false, true, false, false, false] rfl ?_
              exact t7_letQuarrel_171 l G _ hd x3 h32
            · refine den_aload_n (pc := 150) d7_letQuarrel_150 rfl rfl ?_
              refine den_dup (pc := 151) d7_letQuarrel_151 rfl ?_
              refine den_getI (pc := 152) fa_7_39 (ok_41 _) d7_letQuarrel_152 ?_
              refine den_iconst (pc := 155) d7_letQuarrel_155 ?_
              refine den_iload (pc := 156) d7_letQuarrel_156 rfl ?_
              refine den_ishl (pc := 158) d7_letQuarrel_158 ?_
              refine den_ior (pc := 159) d7_letQuarrel_159 ?_
              refine den_putI (pc := 160) fp_7_39 (ok_41 _) d7_letQuarrel_160 ?_
              refine den_ltH (fun h36 m37 => ?_)
              refine den_aload_n (pc := 163) d7_letQuarrel_163 rfl rfl ?_
              refine den_getR (pc := 164) (b := 48) fa_7_18 (ok_41 _) rfl d7_letQuarrel_164 ?_
              refine den_iload (pc := 167) d7_letQuarrel_167 rfl ?_
              refine den_iconst (pc := 169) d7_letQuarrel_169 ?_
              refine den_asrt (fun a38 => ?_)
              refine den_iastore (pc := 170) sh_48 (sz_lt (by decide)) rfl a38 d7_letQuarrel_170 ?_
              refine den_ltH (fun h39 m40 => ?_)
              refine den_wk [true, false, false, true, false, false, false] rfl ?_
              exact t7_letQuarrel_171 l G _ hd x3 h39
          · refine den_iconst (pc := 74) d7_letQuarrel_74 ?_
            exact den_zret (pc := 75) rfl (by decide) d7_letQuarrel_75
      · refine den_iconst (pc := 41) d7_letQuarrel_41 ?_
        exact den_zret (pc := 42) rfl (by decide) d7_letQuarrel_42
theorem d7_spread_0 : decode m7_spread.2.1 0 = .ok (.aload_n 0, 1) := by decide +kernel
theorem d7_spread_1 : decode m7_spread.2.1 1 = .ok (.getfield 12, 3) := by decide +kernel
theorem d7_spread_4 : decode m7_spread.2.1 4 = .ok (.iload_n 1, 1) := by decide +kernel
theorem d7_spread_5 : decode m7_spread.2.1 5 = .ok (.invokevirtual 101, 3) := by decide +kernel
theorem d7_spread_8 : decode m7_spread.2.1 8 = .ok (.ifCond .ne 5, 3) := by decide +kernel
theorem d7_spread_11 : decode m7_spread.2.1 11 = .ok (.iconst 0, 1) := by decide +kernel
theorem d7_spread_12 : decode m7_spread.2.1 12 = .ok (.ireturn, 1) := by decide +kernel
theorem d7_spread_13 : decode m7_spread.2.1 13 = .ok (.iconst 0, 1) := by decide +kernel
theorem d7_spread_14 : decode m7_spread.2.1 14 = .ok (.istore_n 3, 1) := by decide +kernel
theorem d7_spread_15 : decode m7_spread.2.1 15 = .ok (.iload_n 3, 1) := by decide +kernel
theorem d7_spread_16 : decode m7_spread.2.1 16 = .ok (.aload_n 0, 1) := by decide +kernel
theorem d7_spread_17 : decode m7_spread.2.1 17 = .ok (.getfield 12, 3) := by decide +kernel
theorem d7_spread_20 : decode m7_spread.2.1 20 = .ok (.getfield 87, 3) := by decide +kernel
theorem d7_spread_23 : decode m7_spread.2.1 23 = .ok (.if_icmp .ge 19, 3) := by decide +kernel
theorem d7_spread_26 : decode m7_spread.2.1 26 = .ok (.aload_n 0, 1) := by decide +kernel
theorem d7_spread_27 : decode m7_spread.2.1 27 = .ok (.getfield 12, 3) := by decide +kernel
theorem d7_spread_30 : decode m7_spread.2.1 30 = .ok (.iload_n 3, 1) := by decide +kernel
theorem d7_spread_31 : decode m7_spread.2.1 31 = .ok (.iload_n 1, 1) := by decide +kernel
theorem d7_spread_32 : decode m7_spread.2.1 32 = .ok (.iload_n 2, 1) := by decide +kernel
theorem d7_spread_33 : decode m7_spread.2.1 33 = .ok (.invokevirtual 143, 3) := by decide +kernel
theorem d7_spread_36 : decode m7_spread.2.1 36 = .ok (.iinc 3 1, 3) := by decide +kernel
theorem d7_spread_39 : decode m7_spread.2.1 39 = .ok (.goto (-24), 3) := by decide +kernel
theorem d7_spread_42 : decode m7_spread.2.1 42 = .ok (.aload_n 0, 1) := by decide +kernel
theorem d7_spread_43 : decode m7_spread.2.1 43 = .ok (.getfield 12, 3) := by decide +kernel
theorem d7_spread_46 : decode m7_spread.2.1 46 = .ok (.getfield 104, 3) := by decide +kernel
theorem d7_spread_49 : decode m7_spread.2.1 49 = .ok (.iload_n 1, 1) := by decide +kernel
theorem d7_spread_50 : decode m7_spread.2.1 50 = .ok (.bipush 9, 2) := by decide +kernel
theorem d7_spread_52 : decode m7_spread.2.1 52 = .ok (.iastore, 1) := by decide +kernel
theorem d7_spread_53 : decode m7_spread.2.1 53 = .ok (.iconst 1, 1) := by decide +kernel
theorem d7_spread_54 : decode m7_spread.2.1 54 = .ok (.ireturn, 1) := by decide +kernel
def b7_spread_15 (rec15 : Int × AH → Option (Int × AH)) (x1 : Int) (x2 : Int) (x3 : Int) (h : AH) : Option (Int × AH) :=
  if w32 (h.2 42 0) ≤ w32 x3 then
    asrt (0 ≤ w32 x1 ∧ w32 x1 < 6) <|
    lt (wr h 43 (w32 x1).toNat 9) fun h2 =>
    some (1, h2)
  else
    bnd (f9_hold 42 x3 x1 x2 h) fun r4 h5 =>
    rec15 ((x3 + 1), h5)
set_option maxRecDepth 100000 in
theorem t7_spread_15 (l : Launch) (G : Geo) (d : Nat) (hd : 3 ≤ d) (x1 : Int) (x2 : Int) (x3 : Int) (rec15 : Int × AH → Option (Int × AH)) (H15 : ∀ (x3 : Int) (h : AH), Den l G m7_spread rvI d 15 [some (vA G 41), some (vI x1), some (vI x2), some (vI x3)] [] h (rec15 (x3, h))) (h : AH) : Den l G m7_spread rvI d 15 [some (vA G 41), some (vI x1), some (vI x2), some (vI x3)] [] h (b7_spread_15 rec15 x1 x2 x3 h) := by
  unfold b7_spread_15
  refine den_iload_n (pc := 15) d7_spread_15 rfl rfl ?_
  refine den_aload_n (pc := 16) d7_spread_16 rfl rfl ?_
  refine den_getR (pc := 17) (b := 42) fa_7_12 (ok_41 _) rfl d7_spread_17 ?_
  refine den_getI (pc := 20) fa_7_87 (ok_42 _) d7_spread_20 ?_
  refine den_icmp_ge (pc := 23) (tgt := 42) d7_spread_23 (by decide) rfl rfl (fun _ => ?_) (fun _ => ?_)
  · refine den_aload_n (pc := 42) d7_spread_42 rfl rfl ?_
    refine den_getR (pc := 43) (b := 42) fa_7_12 (ok_41 _) rfl d7_spread_43 ?_
    refine den_getR (pc := 46) (b := 43) fa_7_104 (ok_42 _) rfl d7_spread_46 ?_
    refine den_iload_n (pc := 49) d7_spread_49 rfl rfl ?_
    refine den_bipush (pc := 50) d7_spread_50 (by decide) ?_
    refine den_asrt (fun a1 => ?_)
    refine den_iastore (pc := 52) sh_43 (sz_lt (by decide)) rfl a1 d7_spread_52 ?_
    refine den_ltH (fun h2 m3 => ?_)
    refine den_iconst (pc := 53) d7_spread_53 ?_
    exact den_zret (pc := 54) rfl (by decide) d7_spread_54
  · refine den_aload_n (pc := 26) d7_spread_26 rfl rfl ?_
    refine den_getR (pc := 27) (b := 42) fa_7_12 (ok_41 _) rfl d7_spread_27 ?_
    refine den_iload_n (pc := 30) d7_spread_30 rfl rfl ?_
    refine den_iload_n (pc := 31) d7_spread_31 rfl rfl ?_
    refine den_iload_n (pc := 32) d7_spread_32 rfl rfl ?_
    refine den_callVV (pc := 33) (As := [vI x3, vI x1, vI x2]) fv_7_143 rfl rfl (ok_42 _) (Nat.le_of_ble_eq_true rfl) (Nat.le_trans (by decide) hd) d7_spread_33 (c9_hold l G 42 x3 x1 x2 h (ok_42 _)) (fun r4 h5 m6 o7 => ?_)
    refine den_iinc (pc := 36) (L2 := [some (vA G 41), some (vI x1), some (vI x2), some (vI (x3 + 1))]) d7_spread_36 (by decide) rfl rfl ?_
    refine den_goto (pc := 39) (tgt := 15) d7_spread_39 (by decide) ?_
    exact H15 (x3 + 1) h5
def l7_spread_15 (x1 : Int) (x2 : Int) (x3 : Int) (h : AH) : Option (Int × AH) := fx (fun rec z => b7_spread_15 rec x1 x2 z.1 z.2) FU (x3, h)
set_option maxRecDepth 100000 in
theorem tl7_spread_15 (l : Launch) (G : Geo) (d : Nat) (hd : 3 ≤ d) (x1 : Int) (x2 : Int) : ∀ (n : Nat) (z : Int × AH), True → Den l G m7_spread rvI d 15 [some (vA G 41), some (vI x1), some (vI x2), some (vI z.1)] [] z.2 (fx (fun rec z => b7_spread_15 rec x1 x2 z.1 z.2) n z) :=
  den_fx (F := fun rec z => b7_spread_15 rec x1 x2 z.1 z.2) (P := fun z => True) (fL := fun z => [some (vA G 41), some (vI x1), some (vI x2), some (vI z.1)]) (fs := fun z => []) (fh := fun z => z.2) (fun rec hrec z hz => t7_spread_15 l G d hd x1 x2 z.1 rec (fun x3 h => hrec (x3, h) trivial) z.2 )
def f7_spread (x1 : Int) (x2 : Int) (h : AH) : Option (Int × AH) :=
  bnd (f9_hasSubject 42 x1 h) fun r8 h9 =>
  if ¬ w32 r8 = 0 then
    l7_spread_15 x1 x2 0 h9
  else
    some (0, h9)
set_option maxRecDepth 100000 in
theorem c7_spread (l : Launch) (G : Geo) (x1 : Int) (x2 : Int) (h : AH) : Con l G m7_spread rvI 3 [vA G 41, vI x1, vI x2] h (f7_spread x1 x2 h) := by
  have hd : 3 ≤ 3 := Nat.le_refl _
  refine con_Z rfl (by decide) rfl rfl (Nat.le_of_ble_eq_true rfl) (L := [some (vA G 41), some (vI x1), some (vI x2), none]) ?_
  unfold f7_spread
  refine den_aload_n (pc := 0) d7_spread_0 rfl rfl ?_
  refine den_getR (pc := 1) (b := 42) fa_7_12 (ok_41 _) rfl d7_spread_1 ?_
  refine den_iload_n (pc := 4) d7_spread_4 rfl rfl ?_
  refine den_callVI (pc := 5) (As := [vI x1]) fv_7_101 rfl rfl (ok_42 _) (Nat.le_of_ble_eq_true rfl) (Nat.le_trans (by decide) hd) d7_spread_5 (c9_hasSubject l G 42 x1 h (ok_42 _)) (fun r8 h9 m10 o11 => ?_)
  refine den_if_ne (pc := 8) (tgt := 13) d7_spread_8 (by decide) rfl (fun _ => ?_) (fun _ => ?_)
  · refine den_iconst (pc := 13) d7_spread_13 ?_
    refine den_istore_n (pc := 14) (L2 := [some (vA G 41), some (vI x1), some (vI x2), some (vI 0)]) d7_spread_14 rfl (by decide) rfl ?_
    exact tl7_spread_15 l G _ hd x1 x2 FU (0, h9) trivial
  · refine den_iconst (pc := 11) d7_spread_11 ?_
    exact den_zret (pc := 12) rfl (by decide) d7_spread_12
theorem d9_agreeOn_0 : decode m9_agreeOn.2.1 0 = .ok (.aload_n 0, 1) := by decide +kernel
theorem d9_agreeOn_1 : decode m9_agreeOn.2.1 1 = .ok (.iload_n 1, 1) := by decide +kernel
theorem d9_agreeOn_2 : decode m9_agreeOn.2.1 2 = .ok (.iload_n 2, 1) := by decide +kernel
theorem d9_agreeOn_3 : decode m9_agreeOn.2.1 3 = .ok (.iload_n 3, 1) := by decide +kernel
theorem d9_agreeOn_4 : decode m9_agreeOn.2.1 4 = .ok (.invokevirtual 78, 3) := by decide +kernel
theorem d9_agreeOn_7 : decode m9_agreeOn.2.1 7 = .ok (.iconst (-1), 1) := by decide +kernel
theorem d9_agreeOn_8 : decode m9_agreeOn.2.1 8 = .ok (.if_icmp .ne 5, 3) := by decide +kernel
theorem d9_agreeOn_11 : decode m9_agreeOn.2.1 11 = .ok (.iconst 0, 1) := by decide +kernel
theorem d9_agreeOn_12 : decode m9_agreeOn.2.1 12 = .ok (.ireturn, 1) := by decide +kernel
theorem d9_agreeOn_13 : decode m9_agreeOn.2.1 13 = .ok (.aload_n 0, 1) := by decide +kernel
theorem d9_agreeOn_14 : decode m9_agreeOn.2.1 14 = .ok (.iload_n 1, 1) := by decide +kernel
theorem d9_agreeOn_15 : decode m9_agreeOn.2.1 15 = .ok (.iload_n 3, 1) := by decide +kernel
theorem d9_agreeOn_16 : decode m9_agreeOn.2.1 16 = .ok (.invokevirtual 69, 3) := by decide +kernel
theorem d9_agreeOn_19 : decode m9_agreeOn.2.1 19 = .ok (.aload_n 0, 1) := by decide +kernel
theorem d9_agreeOn_20 : decode m9_agreeOn.2.1 20 = .ok (.iload_n 2, 1) := by decide +kernel
theorem d9_agreeOn_21 : decode m9_agreeOn.2.1 21 = .ok (.iload_n 3, 1) := by decide +kernel
theorem d9_agreeOn_22 : decode m9_agreeOn.2.1 22 = .ok (.invokevirtual 69, 3) := by decide +kernel
theorem d9_agreeOn_25 : decode m9_agreeOn.2.1 25 = .ok (.iadd, 1) := by decide +kernel
theorem d9_agreeOn_26 : decode m9_agreeOn.2.1 26 = .ok (.iconst 2, 1) := by decide +kernel
theorem d9_agreeOn_27 : decode m9_agreeOn.2.1 27 = .ok (.idiv, 1) := by decide +kernel
theorem d9_agreeOn_28 : decode m9_agreeOn.2.1 28 = .ok (.istore 4, 2) := by decide +kernel
theorem d9_agreeOn_30 : decode m9_agreeOn.2.1 30 = .ok (.aload_n 0, 1) := by decide +kernel
theorem d9_agreeOn_31 : decode m9_agreeOn.2.1 31 = .ok (.iload_n 1, 1) := by decide +kernel
theorem d9_agreeOn_32 : decode m9_agreeOn.2.1 32 = .ok (.iload_n 3, 1) := by decide +kernel
theorem d9_agreeOn_33 : decode m9_agreeOn.2.1 33 = .ok (.iload 4, 2) := by decide +kernel
theorem d9_agreeOn_35 : decode m9_agreeOn.2.1 35 = .ok (.invokevirtual 97, 3) := by decide +kernel
theorem d9_agreeOn_38 : decode m9_agreeOn.2.1 38 = .ok (.aload_n 0, 1) := by decide +kernel
theorem d9_agreeOn_39 : decode m9_agreeOn.2.1 39 = .ok (.iload_n 2, 1) := by decide +kernel
theorem d9_agreeOn_40 : decode m9_agreeOn.2.1 40 = .ok (.iload_n 3, 1) := by decide +kernel
theorem d9_agreeOn_41 : decode m9_agreeOn.2.1 41 = .ok (.iload 4, 2) := by decide +kernel
theorem d9_agreeOn_43 : decode m9_agreeOn.2.1 43 = .ok (.invokevirtual 97, 3) := by decide +kernel
theorem d9_agreeOn_46 : decode m9_agreeOn.2.1 46 = .ok (.iconst 1, 1) := by decide +kernel
theorem d9_agreeOn_47 : decode m9_agreeOn.2.1 47 = .ok (.ireturn, 1) := by decide +kernel
def f9_agreeOn (x0 : Nat) (x1 : Int) (x2 : Int) (x3 : Int) (h : AH) : Option (Int × AH) :=
  bnd (f9_gap x0 x1 x2 x3 h) fun r1 h2 =>
  if ¬ w32 r1 = (-1) then
    bnd (f9_held x0 x1 x3 h2) fun r6 h7 =>
    bnd (f9_held x0 x2 x3 h7) fun r11 h12 =>
    lt (dv32 (r6 + r11) 2) fun u16 =>
    bnd (f9_hold x0 x1 x3 u16 h12) fun r17 h18 =>
    bnd (f9_hold x0 x2 x3 u16 h18) fun r22 h23 =>
    some (1, h23)
  else
    some (0, h2)
set_option maxRecDepth 100000 in
theorem c9_agreeOn (l : Launch) (G : Geo) (x0 : Nat) (x1 : Int) (x2 : Int) (x3 : Int) (h : AH) (kx0 : ok h.1 x0 9) : Con l G m9_agreeOn rvI 4 [vA G x0, vI x1, vI x2, vI x3] h (f9_agreeOn x0 x1 x2 x3 h) := by
  have hd : 4 ≤ 4 := Nat.le_refl _
  refine con_Z rfl (by decide) rfl rfl (Nat.le_of_ble_eq_true rfl) (L := [some (vA G x0), some (vI x1), some (vI x2), some (vI x3), none]) ?_
  unfold f9_agreeOn
  refine den_aload_n (pc := 0) d9_agreeOn_0 rfl rfl ?_
  refine den_iload_n (pc := 1) d9_agreeOn_1 rfl rfl ?_
  refine den_iload_n (pc := 2) d9_agreeOn_2 rfl rfl ?_
  refine den_iload_n (pc := 3) d9_agreeOn_3 rfl rfl ?_
  refine den_callVI (pc := 4) (As := [vI x1, vI x2, vI x3]) fv_9_78 rfl rfl kx0 (Nat.le_of_ble_eq_true rfl) (Nat.le_trans (by decide) hd) d9_agreeOn_4 (c9_gap l G x0 x1 x2 x3 h kx0) (fun r1 h2 m3 o4 => ?_)
  have q5 := ok.mono kx0 m3
  refine den_iconst (pc := 7) d9_agreeOn_7 ?_
  refine den_icmp_ne (pc := 8) (tgt := 13) d9_agreeOn_8 (by decide) rfl (by decide) (fun _ => ?_) (fun _ => ?_)
  · refine den_aload_n (pc := 13) d9_agreeOn_13 rfl rfl ?_
    refine den_iload_n (pc := 14) d9_agreeOn_14 rfl rfl ?_
    refine den_iload_n (pc := 15) d9_agreeOn_15 rfl rfl ?_
    refine den_callVI (pc := 16) (As := [vI x1, vI x3]) fv_9_69 rfl rfl q5 (Nat.le_of_ble_eq_true rfl) (Nat.le_trans (by decide) hd) d9_agreeOn_16 (c9_held l G x0 x1 x3 h2 q5) (fun r6 h7 m8 o9 => ?_)
    have q10 := ok.mono q5 m8
    refine den_aload_n (pc := 19) d9_agreeOn_19 rfl rfl ?_
    refine den_iload_n (pc := 20) d9_agreeOn_20 rfl rfl ?_
    refine den_iload_n (pc := 21) d9_agreeOn_21 rfl rfl ?_
    refine den_callVI (pc := 22) (As := [vI x2, vI x3]) fv_9_69 rfl rfl q10 (Nat.le_of_ble_eq_true rfl) (Nat.le_trans (by decide) hd) d9_agreeOn_22 (c9_held l G x0 x2 x3 h7 q10) (fun r11 h12 m13 o14 => ?_)
    have q15 := ok.mono q10 m13
    refine den_iadd (pc := 25) d9_agreeOn_25 ?_
    refine den_iconst (pc := 26) d9_agreeOn_26 ?_
    refine den_idiv (pc := 27) d9_agreeOn_27 (by decide) ?_
    refine den_istoreL (pc := 28) (L2 := fun y => [some (vA G x0), some (vI x1), some (vI x2), some (vI x3), some (vI y)]) d9_agreeOn_28 (by decide) (fun _ => rfl) (fun u16 => ?_)
    refine den_aload_n (pc := 30) d9_agreeOn_30 rfl rfl ?_
    refine den_iload_n (pc := 31) d9_agreeOn_31 rfl rfl ?_
    refine den_iload_n (pc := 32) d9_agreeOn_32 rfl rfl ?_
    refine den_iload (pc := 33) d9_agreeOn_33 rfl ?_
    refine den_callVV (pc := 35) (As := [vI x1, vI x3, vI u16]) fv_9_97 rfl rfl q15 (Nat.le_of_ble_eq_true rfl) (Nat.le_trans (by decide) hd) d9_agreeOn_35 (c9_hold l G x0 x1 x3 u16 h12 q15) (fun r17 h18 m19 o20 => ?_)
    have q21 := ok.mono q15 m19
    refine den_aload_n (pc := 38) d9_agreeOn_38 rfl rfl ?_
    refine den_iload_n (pc := 39) d9_agreeOn_39 rfl rfl ?_
    refine den_iload_n (pc := 40) d9_agreeOn_40 rfl rfl ?_
    refine den_iload (pc := 41) d9_agreeOn_41 rfl ?_
    refine den_callVV (pc := 43) (As := [vI x2, vI x3, vI u16]) fv_9_97 rfl rfl q21 (Nat.le_of_ble_eq_true rfl) (Nat.le_trans (by decide) hd) d9_agreeOn_43 (c9_hold l G x0 x2 x3 u16 h18 q21) (fun r22 h23 m24 o25 => ?_)
    have q26 := ok.mono q21 m24
    refine den_iconst (pc := 46) d9_agreeOn_46 ?_
    exact den_zret (pc := 47) rfl (by decide) d9_agreeOn_47
  · refine den_iconst (pc := 11) d9_agreeOn_11 ?_
    exact den_zret (pc := 12) rfl (by decide) d9_agreeOn_12
theorem d7_act_0 : decode m7_act.2.1 0 = .ok (.iload_n 1, 1) := by decide +kernel
theorem d7_act_1 : decode m7_act.2.1 1 = .ok (.tableswitch 79 0 4 #[35, 46, 58, 67, 74], 35) := by decide +kernel
theorem d7_act_36 : decode m7_act.2.1 36 = .ok (.aload_n 0, 1) := by decide +kernel
theorem d7_act_37 : decode m7_act.2.1 37 = .ok (.iload_n 2, 1) := by decide +kernel
theorem d7_act_38 : decode m7_act.2.1 38 = .ok (.iload_n 3, 1) := by decide +kernel
theorem d7_act_39 : decode m7_act.2.1 39 = .ok (.iload 4, 2) := by decide +kernel
theorem d7_act_41 : decode m7_act.2.1 41 = .ok (.iload 5, 2) := by decide +kernel
theorem d7_act_43 : decode m7_act.2.1 43 = .ok (.invokevirtual 107, 3) := by decide +kernel
theorem d7_act_46 : decode m7_act.2.1 46 = .ok (.ireturn, 1) := by decide +kernel
theorem d7_act_47 : decode m7_act.2.1 47 = .ok (.aload_n 0, 1) := by decide +kernel
theorem d7_act_48 : decode m7_act.2.1 48 = .ok (.getfield 12, 3) := by decide +kernel
theorem d7_act_51 : decode m7_act.2.1 51 = .ok (.iload_n 2, 1) := by decide +kernel
theorem d7_act_52 : decode m7_act.2.1 52 = .ok (.iload_n 3, 1) := by decide +kernel
theorem d7_act_53 : decode m7_act.2.1 53 = .ok (.iload 4, 2) := by decide +kernel
theorem d7_act_55 : decode m7_act.2.1 55 = .ok (.invokevirtual 111, 3) := by decide +kernel
theorem d7_act_58 : decode m7_act.2.1 58 = .ok (.ireturn, 1) := by decide +kernel
theorem d7_act_59 : decode m7_act.2.1 59 = .ok (.aload_n 0, 1) := by decide +kernel
theorem d7_act_60 : decode m7_act.2.1 60 = .ok (.iload_n 2, 1) := by decide +kernel
theorem d7_act_61 : decode m7_act.2.1 61 = .ok (.iload_n 3, 1) := by decide +kernel
theorem d7_act_62 : decode m7_act.2.1 62 = .ok (.iload 4, 2) := by decide +kernel
theorem d7_act_64 : decode m7_act.2.1 64 = .ok (.invokevirtual 115, 3) := by decide +kernel
theorem d7_act_67 : decode m7_act.2.1 67 = .ok (.ireturn, 1) := by decide +kernel
theorem d7_act_68 : decode m7_act.2.1 68 = .ok (.aload_n 0, 1) := by decide +kernel
theorem d7_act_69 : decode m7_act.2.1 69 = .ok (.iload_n 2, 1) := by decide +kernel
theorem d7_act_70 : decode m7_act.2.1 70 = .ok (.iload_n 3, 1) := by decide +kernel
theorem d7_act_71 : decode m7_act.2.1 71 = .ok (.invokevirtual 118, 3) := by decide +kernel
theorem d7_act_74 : decode m7_act.2.1 74 = .ok (.ireturn, 1) := by decide +kernel
theorem d7_act_75 : decode m7_act.2.1 75 = .ok (.aload_n 0, 1) := by decide +kernel
theorem d7_act_76 : decode m7_act.2.1 76 = .ok (.invokevirtual 122, 3) := by decide +kernel
theorem d7_act_79 : decode m7_act.2.1 79 = .ok (.ireturn, 1) := by decide +kernel
theorem d7_act_80 : decode m7_act.2.1 80 = .ok (.iconst 0, 1) := by decide +kernel
theorem d7_act_81 : decode m7_act.2.1 81 = .ok (.ireturn, 1) := by decide +kernel
def f7_act (x1 : Int) (x2 : Int) (x3 : Int) (x4 : Int) (x5 : Int) (h : AH) : Option (Int × AH) :=
  if w32 x1 = 0 then
    bnd (f7_letQuarrel x2 x3 x4 x5 h) fun r2 h3 =>
    asrt (w32 r2 = 0 ∨ w32 r2 = 1) <|
    some (r2, h3)
  else
  if w32 x1 = 1 then
    bnd (f9_agreeOn 42 x2 x3 x4 h) fun r8 h9 =>
    asrt (w32 r8 = 0 ∨ w32 r8 = 1) <|
    some (r8, h9)
  else
  if w32 x1 = 2 then
    bnd (f7_letDeny x2 x3 x4 h) fun r14 h15 =>
    asrt (w32 r14 = 0 ∨ w32 r14 = 1) <|
    some (r14, h15)
  else
  if w32 x1 = 3 then
    bnd (f7_spread x2 x3 h) fun r20 h21 =>
    asrt (w32 r20 = 0 ∨ w32 r20 = 1) <|
    some (r20, h21)
  else
  if w32 x1 = 4 then
    bnd (f7_letHourPass h) fun r26 h27 =>
    asrt (w32 r26 = 0 ∨ w32 r26 = 1) <|
    some (r26, h27)
  else
  some (0, h)
set_option maxRecDepth 100000 in
theorem c7_act (l : Launch) (G : Geo) (x1 : Int) (x2 : Int) (x3 : Int) (x4 : Int) (x5 : Int) (h : AH) : Con l G m7_act rvI 6 [vA G 41, vI x1, vI x2, vI x3, vI x4, vI x5] h (f7_act x1 x2 x3 x4 x5 h) := by
  have hd : 6 ≤ 6 := Nat.le_refl _
  refine con_Z rfl (by decide) rfl rfl (Nat.le_of_ble_eq_true rfl) (L := [some (vA G 41), some (vI x1), some (vI x2), some (vI x3), some (vI x4), some (vI x5)]) ?_
  unfold f7_act
  refine den_iload_n (pc := 0) d7_act_0 rfl rfl ?_
  refine den_ite (fun c1 => ?_) (fun c1 => ?_)
  · refine den_tableIn (pc := 1) (tgt := 36) d7_act_1 (by omega) (by omega) (by rw [c1]; rfl) (by decide) ?_
    refine den_aload_n (pc := 36) d7_act_36 rfl rfl ?_
    refine den_iload_n (pc := 37) d7_act_37 rfl rfl ?_
    refine den_iload_n (pc := 38) d7_act_38 rfl rfl ?_
    refine den_iload (pc := 39) d7_act_39 rfl ?_
    refine den_iload (pc := 41) d7_act_41 rfl ?_
    refine den_callVI (pc := 43) (As := [vI x2, vI x3, vI x4, vI x5]) fv_7_107 rfl rfl (ok_41 _) (Nat.le_of_ble_eq_true rfl) (Nat.le_trans (by decide) hd) d7_act_43 (c7_letQuarrel l G x2 x3 x4 x5 h) (fun r2 h3 m4 o5 => ?_)
    refine den_asrt (fun a6 => ?_)
    exact den_zret (pc := 46) rfl a6 d7_act_46
  refine den_ite (fun c7 => ?_) (fun c7 => ?_)
  · refine den_tableIn (pc := 1) (tgt := 47) d7_act_1 (by omega) (by omega) (by rw [c7]; rfl) (by decide) ?_
    refine den_aload_n (pc := 47) d7_act_47 rfl rfl ?_
    refine den_getR (pc := 48) (b := 42) fa_7_12 (ok_41 _) rfl d7_act_48 ?_
    refine den_iload_n (pc := 51) d7_act_51 rfl rfl ?_
    refine den_iload_n (pc := 52) d7_act_52 rfl rfl ?_
    refine den_iload (pc := 53) d7_act_53 rfl ?_
    refine den_callVI (pc := 55) (As := [vI x2, vI x3, vI x4]) fv_7_111 rfl rfl (ok_42 _) (Nat.le_of_ble_eq_true rfl) (Nat.le_trans (by decide) hd) d7_act_55 (c9_agreeOn l G 42 x2 x3 x4 h (ok_42 _)) (fun r8 h9 m10 o11 => ?_)
    refine den_asrt (fun a12 => ?_)
    exact den_zret (pc := 58) rfl a12 d7_act_58
  refine den_ite (fun c13 => ?_) (fun c13 => ?_)
  · refine den_tableIn (pc := 1) (tgt := 59) d7_act_1 (by omega) (by omega) (by rw [c13]; rfl) (by decide) ?_
    refine den_aload_n (pc := 59) d7_act_59 rfl rfl ?_
    refine den_iload_n (pc := 60) d7_act_60 rfl rfl ?_
    refine den_iload_n (pc := 61) d7_act_61 rfl rfl ?_
    refine den_iload (pc := 62) d7_act_62 rfl ?_
    refine den_callVI (pc := 64) (As := [vI x2, vI x3, vI x4]) fv_7_115 rfl rfl (ok_41 _) (Nat.le_of_ble_eq_true rfl) (Nat.le_trans (by decide) hd) d7_act_64 (c7_letDeny l G x2 x3 x4 h) (fun r14 h15 m16 o17 => ?_)
    refine den_asrt (fun a18 => ?_)
    exact den_zret (pc := 67) rfl a18 d7_act_67
  refine den_ite (fun c19 => ?_) (fun c19 => ?_)
  · refine den_tableIn (pc := 1) (tgt := 68) d7_act_1 (by omega) (by omega) (by rw [c19]; rfl) (by decide) ?_
    refine den_aload_n (pc := 68) d7_act_68 rfl rfl ?_
    refine den_iload_n (pc := 69) d7_act_69 rfl rfl ?_
    refine den_iload_n (pc := 70) d7_act_70 rfl rfl ?_
    refine den_callVI (pc := 71) (As := [vI x2, vI x3]) fv_7_118 rfl rfl (ok_41 _) (Nat.le_of_ble_eq_true rfl) (Nat.le_trans (by decide) hd) d7_act_71 (c7_spread l G x2 x3 h) (fun r20 h21 m22 o23 => ?_)
    refine den_asrt (fun a24 => ?_)
    exact den_zret (pc := 74) rfl a24 d7_act_74
  refine den_ite (fun c25 => ?_) (fun c25 => ?_)
  · refine den_tableIn (pc := 1) (tgt := 75) d7_act_1 (by omega) (by omega) (by rw [c25]; rfl) (by decide) ?_
    refine den_aload_n (pc := 75) d7_act_75 rfl rfl ?_
    refine den_callVI (pc := 76) (As := []) fv_7_122 rfl rfl (ok_41 _) (Nat.le_of_ble_eq_true rfl) (Nat.le_trans (by decide) hd) d7_act_76 (c7_letHourPass l G h) (fun r26 h27 m28 o29 => ?_)
    refine den_asrt (fun a30 => ?_)
    exact den_zret (pc := 79) rfl a30 d7_act_79
  refine den_tableOut (pc := 1) (tgt := 80) d7_act_1 (by omega) (by decide) ?_
  refine den_iconst (pc := 80) d7_act_80 ?_
  exact den_zret (pc := 81) rfl (by decide) d7_act_81
theorem d7_look_0 : decode m7_look.2.1 0 = .ok (.iconst 1, 1) := by decide +kernel
theorem d7_look_1 : decode m7_look.2.1 1 = .ok (.istore_n 1, 1) := by decide +kernel
theorem d7_look_2 : decode m7_look.2.1 2 = .ok (.iconst 0, 1) := by decide +kernel
theorem d7_look_3 : decode m7_look.2.1 3 = .ok (.istore_n 2, 1) := by decide +kernel
theorem d7_look_4 : decode m7_look.2.1 4 = .ok (.iload_n 2, 1) := by decide +kernel
theorem d7_look_5 : decode m7_look.2.1 5 = .ok (.aload_n 0, 1) := by decide +kernel
theorem d7_look_6 : decode m7_look.2.1 6 = .ok (.getfield 12, 3) := by decide +kernel
theorem d7_look_9 : decode m7_look.2.1 9 = .ok (.getfield 76, 3) := by decide +kernel
theorem d7_look_12 : decode m7_look.2.1 12 = .ok (.if_icmp .ge 54, 3) := by decide +kernel
theorem d7_look_15 : decode m7_look.2.1 15 = .ok (.aload_n 0, 1) := by decide +kernel
theorem d7_look_16 : decode m7_look.2.1 16 = .ok (.aload_n 0, 1) := by decide +kernel
theorem d7_look_17 : decode m7_look.2.1 17 = .ok (.getfield 48, 3) := by decide +kernel
theorem d7_look_20 : decode m7_look.2.1 20 = .ok (.aload_n 0, 1) := by decide +kernel
theorem d7_look_21 : decode m7_look.2.1 21 = .ok (.getfield 18, 3) := by decide +kernel
theorem d7_look_24 : decode m7_look.2.1 24 = .ok (.iload_n 2, 1) := by decide +kernel
theorem d7_look_25 : decode m7_look.2.1 25 = .ok (.iaload, 1) := by decide +kernel
theorem d7_look_26 : decode m7_look.2.1 26 = .ok (.invokestatic 79, 3) := by decide +kernel
theorem d7_look_29 : decode m7_look.2.1 29 = .ok (.putfield 48, 3) := by decide +kernel
theorem d7_look_32 : decode m7_look.2.1 32 = .ok (.iload_n 1, 1) := by decide +kernel
theorem d7_look_33 : decode m7_look.2.1 33 = .ok (.ifCond .eq 25, 3) := by decide +kernel
theorem d7_look_36 : decode m7_look.2.1 36 = .ok (.aload_n 0, 1) := by decide +kernel
theorem d7_look_37 : decode m7_look.2.1 37 = .ok (.getfield 18, 3) := by decide +kernel
theorem d7_look_40 : decode m7_look.2.1 40 = .ok (.iload_n 2, 1) := by decide +kernel
theorem d7_look_41 : decode m7_look.2.1 41 = .ok (.iaload, 1) := by decide +kernel
theorem d7_look_42 : decode m7_look.2.1 42 = .ok (.aload_n 0, 1) := by decide +kernel
theorem d7_look_43 : decode m7_look.2.1 43 = .ok (.getfield 12, 3) := by decide +kernel
theorem d7_look_46 : decode m7_look.2.1 46 = .ok (.getfield 84, 3) := by decide +kernel
theorem d7_look_49 : decode m7_look.2.1 49 = .ok (.iload_n 2, 1) := by decide +kernel
theorem d7_look_50 : decode m7_look.2.1 50 = .ok (.iaload, 1) := by decide +kernel
theorem d7_look_51 : decode m7_look.2.1 51 = .ok (.if_icmp .lt 7, 3) := by decide +kernel
theorem d7_look_54 : decode m7_look.2.1 54 = .ok (.iconst 1, 1) := by decide +kernel
theorem d7_look_55 : decode m7_look.2.1 55 = .ok (.goto 4, 3) := by decide +kernel
theorem d7_look_58 : decode m7_look.2.1 58 = .ok (.iconst 0, 1) := by decide +kernel
theorem d7_look_59 : decode m7_look.2.1 59 = .ok (.istore_n 1, 1) := by decide +kernel
theorem d7_look_60 : decode m7_look.2.1 60 = .ok (.iinc 2 1, 3) := by decide +kernel
theorem d7_look_63 : decode m7_look.2.1 63 = .ok (.goto (-59), 3) := by decide +kernel
theorem d7_look_66 : decode m7_look.2.1 66 = .ok (.aload_n 0, 1) := by decide +kernel
theorem d7_look_67 : decode m7_look.2.1 67 = .ok (.dup, 1) := by decide +kernel
theorem d7_look_68 : decode m7_look.2.1 68 = .ok (.getfield 54, 3) := by decide +kernel
theorem d7_look_71 : decode m7_look.2.1 71 = .ok (.iload_n 1, 1) := by decide +kernel
theorem d7_look_72 : decode m7_look.2.1 72 = .ok (.ifCond .eq 7, 3) := by decide +kernel
theorem d7_look_75 : decode m7_look.2.1 75 = .ok (.iconst 1, 1) := by decide +kernel
theorem d7_look_76 : decode m7_look.2.1 76 = .ok (.goto 4, 3) := by decide +kernel
theorem d7_look_79 : decode m7_look.2.1 79 = .ok (.iconst 0, 1) := by decide +kernel
theorem d7_look_80 : decode m7_look.2.1 80 = .ok (.iadd, 1) := by decide +kernel
theorem d7_look_81 : decode m7_look.2.1 81 = .ok (.putfield 54, 3) := by decide +kernel
theorem d7_look_84 : decode m7_look.2.1 84 = .ok (.return_, 1) := by decide +kernel
def b7_look_59 (rec4 : Int × Int × AH → Option (Int × AH)) (x2 : Int) (s0 : Int) (h : AH) : Option (Int × AH) :=
  rec4 (s0, (x2 + 1), h)
set_option maxRecDepth 100000 in
theorem t7_look_59 (l : Launch) (G : Geo) (d : Nat) (hd : 3 ≤ d) (x2 : Int) (s0 : Int) (rec4 : Int × Int × AH → Option (Int × AH)) (H4 : ∀ (x1 : Int) (x2 : Int) (h : AH), Den l G m7_look rvV d 4 [some (vA G 41), some (vI x1), some (vI x2)] [] h (rec4 (x1, x2, h))) (h : AH) : Den l G m7_look rvV d 59 [some (vA G 41), none, some (vI x2)] [vI s0] h (b7_look_59 rec4 x2 s0 h) := by
  unfold b7_look_59
  refine den_istore_n (pc := 59) (L2 := [some (vA G 41), some (vI s0), some (vI x2)]) d7_look_59 rfl (by decide) rfl ?_
  refine den_iinc (pc := 60) (L2 := [some (vA G 41), some (vI s0), some (vI (x2 + 1))]) d7_look_60 (by decide) rfl rfl ?_
  refine den_goto (pc := 63) (tgt := 4) d7_look_63 (by decide) ?_
  exact H4 s0 (x2 + 1) h
def b7_look_58 (rec4 : Int × Int × AH → Option (Int × AH)) (x2 : Int) (h : AH) : Option (Int × AH) :=
  b7_look_59 rec4 x2 0 h
set_option maxRecDepth 100000 in
theorem t7_look_58 (l : Launch) (G : Geo) (d : Nat) (hd : 3 ≤ d) (x2 : Int) (rec4 : Int × Int × AH → Option (Int × AH)) (H4 : ∀ (x1 : Int) (x2 : Int) (h : AH), Den l G m7_look rvV d 4 [some (vA G 41), some (vI x1), some (vI x2)] [] h (rec4 (x1, x2, h))) (h : AH) : Den l G m7_look rvV d 58 [some (vA G 41), none, some (vI x2)] [] h (b7_look_58 rec4 x2 h) := by
  unfold b7_look_58
  refine den_iconst (pc := 58) d7_look_58 ?_
  exact t7_look_59 l G _ hd x2 0 rec4 H4 h
def b7_look_4 (rec4 : Int × Int × AH → Option (Int × AH)) (x1 : Int) (x2 : Int) (h : AH) : Option (Int × AH) :=
  if w32 (h.2 42 2) ≤ w32 x2 then
    if w32 x1 = 0 then
      lt (wr h 41 9 ((h.2 41 9) + 0)) fun h1 =>
      some (0, h1)
    else
      lt (wr h 41 9 ((h.2 41 9) + 1)) fun h3 =>
      some (0, h3)
  else
    asrt (0 ≤ w32 x2 ∧ w32 x2 < 4) <|
    lt (wr h 41 7 (max32 (h.2 41 7) (h.2 48 (w32 x2).toNat))) fun h6 =>
    if w32 x1 = 0 then
      b7_look_58 rec4 x2 h6
    else
      asrt (0 ≤ w32 x2 ∧ w32 x2 < 4) <|
      asrt (0 ≤ w32 x2 ∧ w32 x2 < 4) <|
      if w32 (h6.2 48 (w32 x2).toNat) < w32 (h6.2 45 (w32 x2).toNat) then
        b7_look_58 rec4 x2 h6
      else
        b7_look_59 rec4 x2 1 h6
set_option maxRecDepth 100000 in
theorem t7_look_4 (l : Launch) (G : Geo) (d : Nat) (hd : 3 ≤ d) (x1 : Int) (x2 : Int) (rec4 : Int × Int × AH → Option (Int × AH)) (H4 : ∀ (x1 : Int) (x2 : Int) (h : AH), Den l G m7_look rvV d 4 [some (vA G 41), some (vI x1), some (vI x2)] [] h (rec4 (x1, x2, h))) (h : AH) : Den l G m7_look rvV d 4 [some (vA G 41), some (vI x1), some (vI x2)] [] h (b7_look_4 rec4 x1 x2 h) := by
  unfold b7_look_4
  refine den_iload_n (pc := 4) d7_look_4 rfl rfl ?_
  refine den_aload_n (pc := 5) d7_look_5 rfl rfl ?_
  refine den_getR (pc := 6) (b := 42) fa_7_12 (ok_41 _) rfl d7_look_6 ?_
  refine den_getI (pc := 9) fa_7_76 (ok_42 _) d7_look_9 ?_
  refine den_icmp_ge (pc := 12) (tgt := 66) d7_look_12 (by decide) rfl rfl (fun _ => ?_) (fun _ => ?_)
  · refine den_aload_n (pc := 66) d7_look_66 rfl rfl ?_
    refine den_dup (pc := 67) d7_look_67 rfl ?_
    refine den_getI (pc := 68) fa_7_54 (ok_41 _) d7_look_68 ?_
    refine den_iload_n (pc := 71) d7_look_71 rfl rfl ?_
    refine den_if_eq (pc := 72) (tgt := 79) d7_look_72 (by decide) rfl (fun _ => ?_) (fun _ => ?_)
    · refine den_iconst (pc := 79) d7_look_79 ?_
      refine den_iadd (pc := 80) d7_look_80 ?_
      refine den_putI (pc := 81) fp_7_54 (ok_41 _) d7_look_81 ?_
      refine den_ltH (fun h1 m2 => ?_)
      exact den_vret (pc := 84) rfl d7_look_84
    · refine den_iconst (pc := 75) d7_look_75 ?_
      refine den_goto (pc := 76) (tgt := 80) d7_look_76 (by decide) ?_
      refine den_iadd (pc := 80) d7_look_80 ?_
      refine den_putI (pc := 81) fp_7_54 (ok_41 _) d7_look_81 ?_
      refine den_ltH (fun h3 m4 => ?_)
      exact den_vret (pc := 84) rfl d7_look_84
  · refine den_aload_n (pc := 15) d7_look_15 rfl rfl ?_
    refine den_aload_n (pc := 16) d7_look_16 rfl rfl ?_
    refine den_getI (pc := 17) fa_7_48 (ok_41 _) d7_look_17 ?_
    refine den_aload_n (pc := 20) d7_look_20 rfl rfl ?_
    refine den_getR (pc := 21) (b := 48) fa_7_18 (ok_41 _) rfl d7_look_21 ?_
    refine den_iload_n (pc := 24) d7_look_24 rfl rfl ?_
    refine den_asrt (fun a5 => ?_)
    refine den_iaload (pc := 25) sh_48 (sz_lt (by decide)) rfl a5 d7_look_25 ?_
    refine den_max (pc := 26) fm_7_79 (Nat.le_of_ble_eq_true rfl) (Nat.le_trans (by decide) hd) d7_look_26 ?_
    refine den_putI (pc := 29) fp_7_48 (ok_41 _) d7_look_29 ?_
    refine den_ltH (fun h6 m7 => ?_)
    refine den_iload_n (pc := 32) d7_look_32 rfl rfl ?_
    refine den_if_eq (pc := 33) (tgt := 58) d7_look_33 (by decide) rfl (fun _ => ?_) (fun _ => ?_)
    · refine den_wk [true, false, true] rfl ?_
      exact t7_look_58 l G _ hd x2 rec4 H4 h6
    · refine den_aload_n (pc := 36) d7_look_36 rfl rfl ?_
      refine den_getR (pc := 37) (b := 48) fa_7_18 (ok_41 _) rfl d7_look_37 ?_
      refine den_iload_n (pc := 40) d7_look_40 rfl rfl ?_
      refine den_asrt (fun a8 => ?_)
      refine den_iaload (pc := 41) sh_48 (sz_lt (by decide)) rfl a8 d7_look_41 ?_
      refine den_aload_n (pc := 42) d7_look_42 rfl rfl ?_
      refine den_getR (pc := 43) (b := 42) fa_7_12 (ok_41 _) rfl d7_look_43 ?_
      refine den_getR (pc := 46) (b := 45) fa_7_84 (ok_42 _) rfl d7_look_46 ?_
      refine den_iload_n (pc := 49) d7_look_49 rfl rfl ?_
      refine den_asrt (fun a9 => ?_)
      refine den_iaload (pc := 50) sh_45 (sz_lt (by decide)) rfl a9 d7_look_50 ?_
      refine den_icmp_lt (pc := 51) (tgt := 58) d7_look_51 (by decide) rfl rfl (fun _ => ?_) (fun _ => ?_)
      · refine den_wk [true, false, true] rfl ?_
        exact t7_look_58 l G _ hd x2 rec4 H4 h6
      · refine den_iconst (pc := 54) d7_look_54 ?_
        refine den_goto (pc := 55) (tgt := 59) d7_look_55 (by decide) ?_
        refine den_wk [true, false, true] rfl ?_
        exact t7_look_59 l G _ hd x2 1 rec4 H4 h6
def l7_look_4 (x1 : Int) (x2 : Int) (h : AH) : Option (Int × AH) := fx (fun rec z => b7_look_4 rec z.1 z.2.1 z.2.2) FU (x1, x2, h)
set_option maxRecDepth 100000 in
theorem tl7_look_4 (l : Launch) (G : Geo) (d : Nat) (hd : 3 ≤ d) : ∀ (n : Nat) (z : Int × Int × AH), True → Den l G m7_look rvV d 4 [some (vA G 41), some (vI z.1), some (vI z.2.1)] [] z.2.2 (fx (fun rec z => b7_look_4 rec z.1 z.2.1 z.2.2) n z) :=
  den_fx (F := fun rec z => b7_look_4 rec z.1 z.2.1 z.2.2) (P := fun z => True) (fL := fun z => [some (vA G 41), some (vI z.1), some (vI z.2.1)]) (fs := fun z => []) (fh := fun z => z.2.2) (fun rec hrec z hz => t7_look_4 l G d hd z.1 z.2.1 rec (fun x1 x2 h => hrec (x1, x2, h) trivial) z.2.2 )
def f7_look (h : AH) : Option (Int × AH) :=
  l7_look_4 1 0 h
set_option maxRecDepth 100000 in
theorem c7_look (l : Launch) (G : Geo) (h : AH) : Con l G m7_look rvV 3 [vA G 41] h (f7_look  h) := by
  have hd : 3 ≤ 3 := Nat.le_refl _
  refine con_V rfl (by decide) rfl rfl (Nat.le_of_ble_eq_true rfl) (L := [some (vA G 41), none, none]) ?_
  unfold f7_look
  refine den_iconst (pc := 0) d7_look_0 ?_
  refine den_istore_n (pc := 1) (L2 := [some (vA G 41), some (vI 1), none]) d7_look_1 rfl (by decide) rfl ?_
  refine den_iconst (pc := 2) d7_look_2 ?_
  refine den_istore_n (pc := 3) (L2 := [some (vA G 41), some (vI 1), some (vI 0)]) d7_look_3 rfl (by decide) rfl ?_
  exact tl7_look_4 l G _ hd FU (1, 0, h) trivial
theorem d7_play_0 : decode m7_play.2.1 0 = .ok (.aload_n 0, 1) := by decide +kernel
theorem d7_play_1 : decode m7_play.2.1 1 = .ok (.aload_n 1, 1) := by decide +kernel
theorem d7_play_2 : decode m7_play.2.1 2 = .ok (.invokevirtual 57, 3) := by decide +kernel
theorem d7_play_5 : decode m7_play.2.1 5 = .ok (.aload_n 0, 1) := by decide +kernel
theorem d7_play_6 : decode m7_play.2.1 6 = .ok (.invokevirtual 60, 3) := by decide +kernel
theorem d7_play_9 : decode m7_play.2.1 9 = .ok (.iconst 0, 1) := by decide +kernel
theorem d7_play_10 : decode m7_play.2.1 10 = .ok (.istore 4, 2) := by decide +kernel
theorem d7_play_12 : decode m7_play.2.1 12 = .ok (.iload 4, 2) := by decide +kernel
theorem d7_play_14 : decode m7_play.2.1 14 = .ok (.iload_n 3, 1) := by decide +kernel
theorem d7_play_15 : decode m7_play.2.1 15 = .ok (.if_icmp .ge 88, 3) := by decide +kernel
theorem d7_play_18 : decode m7_play.2.1 18 = .ok (.iload 4, 2) := by decide +kernel
theorem d7_play_20 : decode m7_play.2.1 20 = .ok (.aload_n 2, 1) := by decide +kernel
theorem d7_play_21 : decode m7_play.2.1 21 = .ok (.getfield 63, 3) := by decide +kernel
theorem d7_play_24 : decode m7_play.2.1 24 = .ok (.if_icmp .ge 79, 3) := by decide +kernel
theorem d7_play_27 : decode m7_play.2.1 27 = .ok (.aload_n 0, 1) := by decide +kernel
theorem d7_play_28 : decode m7_play.2.1 28 = .ok (.aload_n 2, 1) := by decide +kernel
theorem d7_play_29 : decode m7_play.2.1 29 = .ok (.iload 4, 2) := by decide +kernel
theorem d7_play_31 : decode m7_play.2.1 31 = .ok (.iconst 0, 1) := by decide +kernel
theorem d7_play_32 : decode m7_play.2.1 32 = .ok (.invokevirtual 68, 3) := by decide +kernel
theorem d7_play_35 : decode m7_play.2.1 35 = .ok (.aload_n 2, 1) := by decide +kernel
theorem d7_play_36 : decode m7_play.2.1 36 = .ok (.iload 4, 2) := by decide +kernel
theorem d7_play_38 : decode m7_play.2.1 38 = .ok (.iconst 1, 1) := by decide +kernel
theorem d7_play_39 : decode m7_play.2.1 39 = .ok (.invokevirtual 68, 3) := by decide +kernel
theorem d7_play_42 : decode m7_play.2.1 42 = .ok (.aload_n 2, 1) := by decide +kernel
theorem d7_play_43 : decode m7_play.2.1 43 = .ok (.iload 4, 2) := by decide +kernel
theorem d7_play_45 : decode m7_play.2.1 45 = .ok (.iconst 2, 1) := by decide +kernel
theorem d7_play_46 : decode m7_play.2.1 46 = .ok (.invokevirtual 68, 3) := by decide +kernel
theorem d7_play_49 : decode m7_play.2.1 49 = .ok (.aload_n 2, 1) := by decide +kernel
theorem d7_play_50 : decode m7_play.2.1 50 = .ok (.iload 4, 2) := by decide +kernel
theorem d7_play_52 : decode m7_play.2.1 52 = .ok (.iconst 3, 1) := by decide +kernel
theorem d7_play_53 : decode m7_play.2.1 53 = .ok (.invokevirtual 68, 3) := by decide +kernel
theorem d7_play_56 : decode m7_play.2.1 56 = .ok (.aload_n 2, 1) := by decide +kernel
theorem d7_play_57 : decode m7_play.2.1 57 = .ok (.iload 4, 2) := by decide +kernel
theorem d7_play_59 : decode m7_play.2.1 59 = .ok (.iconst 4, 1) := by decide +kernel
theorem d7_play_60 : decode m7_play.2.1 60 = .ok (.invokevirtual 68, 3) := by decide +kernel
theorem d7_play_63 : decode m7_play.2.1 63 = .ok (.invokevirtual 72, 3) := by decide +kernel
theorem d7_play_66 : decode m7_play.2.1 66 = .ok (.ifCond .ne 6, 3) := by decide +kernel
theorem d7_play_69 : decode m7_play.2.1 69 = .ok (.iload 4, 2) := by decide +kernel
theorem d7_play_71 : decode m7_play.2.1 71 = .ok (.ireturn, 1) := by decide +kernel
theorem d7_play_72 : decode m7_play.2.1 72 = .ok (.aload_n 0, 1) := by decide +kernel
theorem d7_play_73 : decode m7_play.2.1 73 = .ok (.getfield 51, 3) := by decide +kernel
theorem d7_play_76 : decode m7_play.2.1 76 = .ok (.iconst (-1), 1) := by decide +kernel
theorem d7_play_77 : decode m7_play.2.1 77 = .ok (.if_icmp .ne 16, 3) := by decide +kernel
theorem d7_play_80 : decode m7_play.2.1 80 = .ok (.aload_n 0, 1) := by decide +kernel
theorem d7_play_81 : decode m7_play.2.1 81 = .ok (.getfield 39, 3) := by decide +kernel
theorem d7_play_84 : decode m7_play.2.1 84 = .ok (.ifCond .eq 9, 3) := by decide +kernel
theorem d7_play_87 : decode m7_play.2.1 87 = .ok (.aload_n 0, 1) := by decide +kernel
theorem d7_play_88 : decode m7_play.2.1 88 = .ok (.iload 4, 2) := by decide +kernel
theorem d7_play_90 : decode m7_play.2.1 90 = .ok (.putfield 51, 3) := by decide +kernel
theorem d7_play_93 : decode m7_play.2.1 93 = .ok (.aload_n 0, 1) := by decide +kernel
theorem d7_play_94 : decode m7_play.2.1 94 = .ok (.invokevirtual 60, 3) := by decide +kernel
theorem d7_play_97 : decode m7_play.2.1 97 = .ok (.iinc 4 1, 3) := by decide +kernel
theorem d7_play_100 : decode m7_play.2.1 100 = .ok (.goto (-88), 3) := by decide +kernel
theorem d7_play_103 : decode m7_play.2.1 103 = .ok (.iload 4, 2) := by decide +kernel
theorem d7_play_105 : decode m7_play.2.1 105 = .ok (.ireturn, 1) := by decide +kernel
def b7_play_93 (rec12 : Int × AH → Option (Int × AH)) (x2 : Nat) (x3 : Int) (x4 : Int) (h : AH) : Option (Int × AH) :=
  bnd (f7_look h) fun r1 h2 =>
  rec12 ((x4 + 1), h2)
set_option maxRecDepth 100000 in
theorem t7_play_93 (l : Launch) (G : Geo) (d : Nat) (hd : 7 ≤ d) (x2 : Nat) (x3 : Int) (x4 : Int) (rec12 : Int × AH → Option (Int × AH)) (H12 : ∀ (x4 : Int) (h : AH), ok h.1 x2 6 → Den l G m7_play rvI d 12 [some (vA G 41), none, some (vA G x2), some (vI x3), some (vI x4)] [] h (rec12 (x4, h))) (h : AH) (kx2 : ok h.1 x2 6) : Den l G m7_play rvI d 93 [some (vA G 41), none, some (vA G x2), some (vI x3), some (vI x4)] [] h (b7_play_93 rec12 x2 x3 x4 h) := by
  unfold b7_play_93
  refine den_aload_n (pc := 93) d7_play_93 rfl rfl ?_
  refine den_callVV (pc := 94) (As := []) fv_7_60 rfl rfl (ok_41 _) (Nat.le_of_ble_eq_true rfl) (Nat.le_trans (by decide) hd) d7_play_94 (c7_look l G h) (fun r1 h2 m3 o4 => ?_)
  have q5 := ok.mono kx2 m3
  refine den_iinc (pc := 97) (L2 := [some (vA G 41), none, some (vA G x2), some (vI x3), some (vI (x4 + 1))]) d7_play_97 (by decide) rfl rfl ?_
  refine den_goto (pc := 100) (tgt := 12) d7_play_100 (by decide) ?_
  exact H12 (x4 + 1) h2 q5
def b7_play_12 (rec12 : Int × AH → Option (Int × AH)) (x2 : Nat) (x3 : Int) (x4 : Int) (h : AH) : Option (Int × AH) :=
  if w32 x3 ≤ w32 x4 then
    some (x4, h)
  else
    if w32 (h.2 x2 3) ≤ w32 x4 then
      some (x4, h)
    else
      bnd (f6_cell x2 x4 0 h) fun r6 h7 =>
      bnd (f6_cell x2 x4 1 h7) fun r11 h12 =>
      bnd (f6_cell x2 x4 2 h12) fun r16 h17 =>
      bnd (f6_cell x2 x4 3 h17) fun r21 h22 =>
      bnd (f6_cell x2 x4 4 h22) fun r26 h27 =>
      bnd (f7_act r6 r11 r16 r21 r26 h27) fun r31 h32 =>
      if ¬ w32 r31 = 0 then
        if ¬ w32 (h32.2 41 8) = (-1) then
          b7_play_93 rec12 x2 x3 x4 h32
        else
          if w32 (h32.2 41 4) = 0 then
            b7_play_93 rec12 x2 x3 x4 h32
          else
            lt (wr h32 41 8 x4) fun h36 =>
            b7_play_93 rec12 x2 x3 x4 h36
      else
        some (x4, h32)
set_option maxRecDepth 100000 in
theorem t7_play_12 (l : Launch) (G : Geo) (d : Nat) (hd : 7 ≤ d) (x2 : Nat) (x3 : Int) (x4 : Int) (rec12 : Int × AH → Option (Int × AH)) (H12 : ∀ (x4 : Int) (h : AH), ok h.1 x2 6 → Den l G m7_play rvI d 12 [some (vA G 41), none, some (vA G x2), some (vI x3), some (vI x4)] [] h (rec12 (x4, h))) (h : AH) (kx2 : ok h.1 x2 6) : Den l G m7_play rvI d 12 [some (vA G 41), none, some (vA G x2), some (vI x3), some (vI x4)] [] h (b7_play_12 rec12 x2 x3 x4 h) := by
  unfold b7_play_12
  refine den_iload (pc := 12) d7_play_12 rfl ?_
  refine den_iload_n (pc := 14) d7_play_14 rfl rfl ?_
  refine den_icmp_ge (pc := 15) (tgt := 103) d7_play_15 (by decide) rfl rfl (fun _ => ?_) (fun _ => ?_)
  · refine den_iload (pc := 103) d7_play_103 rfl ?_
    exact den_iret (pc := 105) rfl d7_play_105
  · refine den_iload (pc := 18) d7_play_18 rfl ?_
    refine den_aload_n (pc := 20) d7_play_20 rfl rfl ?_
    refine den_getI (pc := 21) fa_7_63 kx2 d7_play_21 ?_
    refine den_icmp_ge (pc := 24) (tgt := 103) d7_play_24 (by decide) rfl rfl (fun _ => ?_) (fun _ => ?_)
    · refine den_iload (pc := 103) d7_play_103 rfl ?_
      exact den_iret (pc := 105) rfl d7_play_105
    · refine den_aload_n (pc := 27) d7_play_27 rfl rfl ?_
      refine den_aload_n (pc := 28) d7_play_28 rfl rfl ?_
      refine den_iload (pc := 29) d7_play_29 rfl ?_
      refine den_iconst (pc := 31) d7_play_31 ?_
      refine den_callVI (pc := 32) (As := [vI x4, vI 0]) fv_7_68 rfl rfl kx2 (Nat.le_of_ble_eq_true rfl) (Nat.le_trans (by decide) hd) d7_play_32 (c6_cell l G x2 x4 0 h kx2) (fun r6 h7 m8 o9 => ?_)
      have q10 := ok.mono kx2 m8
      refine den_aload_n (pc := 35) d7_play_35 rfl rfl ?_
      refine den_iload (pc := 36) d7_play_36 rfl ?_
      refine den_iconst (pc := 38) d7_play_38 ?_
      refine den_callVI (pc := 39) (As := [vI x4, vI 1]) fv_7_68 rfl rfl q10 (Nat.le_of_ble_eq_true rfl) (Nat.le_trans (by decide) hd) d7_play_39 (c6_cell l G x2 x4 1 h7 q10) (fun r11 h12 m13 o14 => ?_)
      have q15 := ok.mono q10 m13
      refine den_aload_n (pc := 42) d7_play_42 rfl rfl ?_
      refine den_iload (pc := 43) d7_play_43 rfl ?_
      refine den_iconst (pc := 45) d7_play_45 ?_
      refine den_callVI (pc := 46) (As := [vI x4, vI 2]) fv_7_68 rfl rfl q15 (Nat.le_of_ble_eq_true rfl) (Nat.le_trans (by decide) hd) d7_play_46 (c6_cell l G x2 x4 2 h12 q15) (fun r16 h17 m18 o19 => ?_)
      have q20 := ok.mono q15 m18
      refine den_aload_n (pc := 49) d7_play_49 rfl rfl ?_
      refine den_iload (pc := 50) d7_play_50 rfl ?_
      refine den_iconst (pc := 52) d7_play_52 ?_
      refine den_callVI (pc := 53) (As := [vI x4, vI 3]) fv_7_68 rfl rfl q20 (Nat.le_of_ble_eq_true rfl) (Nat.le_trans (by decide) hd) d7_play_53 (c6_cell l G x2 x4 3 h17 q20) (fun r21 h22 m23 o24 => ?_)
      have q25 := ok.mono q20 m23
      refine den_aload_n (pc := 56) d7_play_56 rfl rfl ?_
      refine den_iload (pc := 57) d7_play_57 rfl ?_
      refine den_iconst (pc := 59) d7_play_59 ?_
      refine den_callVI (pc := 60) (As := [vI x4, vI 4]) fv_7_68 rfl rfl q25 (Nat.le_of_ble_eq_true rfl) (Nat.le_trans (by decide) hd) d7_play_60 (c6_cell l G x2 x4 4 h22 q25) (fun r26 h27 m28 o29 => ?_)
      have q30 := ok.mono q25 m28
      refine den_callVI (pc := 63) (As := [vI r6, vI r11, vI r16, vI r21, vI r26]) fv_7_72 rfl rfl (ok_41 _) (Nat.le_of_ble_eq_true rfl) (Nat.le_trans (by decide) hd) d7_play_63 (c7_act l G r6 r11 r16 r21 r26 h27) (fun r31 h32 m33 o34 => ?_)
      have q35 := ok.mono q30 m33
      refine den_if_ne (pc := 66) (tgt := 72) d7_play_66 (by decide) rfl (fun _ => ?_) (fun _ => ?_)
      · refine den_aload_n (pc := 72) d7_play_72 rfl rfl ?_
        refine den_getI (pc := 73) fa_7_51 (ok_41 _) d7_play_73 ?_
        refine den_iconst (pc := 76) d7_play_76 ?_
        refine den_icmp_ne (pc := 77) (tgt := 93) d7_play_77 (by decide) rfl (by decide) (fun _ => ?_) (fun _ => ?_)
        · exact t7_play_93 l G _ hd x2 x3 x4 rec12 H12 h32 q35
        · refine den_aload_n (pc := 80) d7_play_80 rfl rfl ?_
          refine den_getI (pc := 81) fa_7_39 (ok_41 _) d7_play_81 ?_
          refine den_if_eq (pc := 84) (tgt := 93) d7_play_84 (by decide) rfl (fun _ => ?_) (fun _ => ?_)
          · exact t7_play_93 l G _ hd x2 x3 x4 rec12 H12 h32 q35
          · refine den_aload_n (pc := 87) d7_play_87 rfl rfl ?_
            refine den_iload (pc := 88) d7_play_88 rfl ?_
            refine den_putI (pc := 90) fp_7_51 (ok_41 _) d7_play_90 ?_
            refine den_ltH (fun h36 m37 => ?_)
            have q38 := ok.mono q35 m37
            exact t7_play_93 l G _ hd x2 x3 x4 rec12 H12 h36 q38
      · refine den_iload (pc := 69) d7_play_69 rfl ?_
        exact den_iret (pc := 71) rfl d7_play_71
def l7_play_12 (x2 : Nat) (x3 : Int) (x4 : Int) (h : AH) : Option (Int × AH) := fx (fun rec z => b7_play_12 rec x2 x3 z.1 z.2) FU (x4, h)
set_option maxRecDepth 100000 in
theorem tl7_play_12 (l : Launch) (G : Geo) (d : Nat) (hd : 7 ≤ d) (x2 : Nat) (x3 : Int) : ∀ (n : Nat) (z : Int × AH), ok z.2.1 x2 6 → Den l G m7_play rvI d 12 [some (vA G 41), none, some (vA G x2), some (vI x3), some (vI z.1)] [] z.2 (fx (fun rec z => b7_play_12 rec x2 x3 z.1 z.2) n z) :=
  den_fx (F := fun rec z => b7_play_12 rec x2 x3 z.1 z.2) (P := fun z => ok z.2.1 x2 6) (fL := fun z => [some (vA G 41), none, some (vA G x2), some (vI x3), some (vI z.1)]) (fs := fun z => []) (fh := fun z => z.2) (fun rec hrec z hz => t7_play_12 l G d hd x2 x3 z.1 rec (fun x4 h w0 => hrec (x4, h) w0) z.2 hz)
def f7_play (x1 : Nat) (x2 : Nat) (x3 : Int) (h : AH) : Option (Int × AH) :=
  bnd (f7_begin x1 h) fun r39 h40 =>
  bnd (f7_look h40) fun r45 h46 =>
  l7_play_12 x2 x3 0 h46
set_option maxRecDepth 100000 in
theorem c7_play (l : Launch) (G : Geo) (x1 : Nat) (x2 : Nat) (x3 : Int) (h : AH) (kx1 : ok h.1 x1 9) (kx2 : ok h.1 x2 6) : Con l G m7_play rvI 7 [vA G 41, vA G x1, vA G x2, vI x3] h (f7_play x1 x2 x3 h) := by
  have hd : 7 ≤ 7 := Nat.le_refl _
  refine con_I rfl (by decide) rfl rfl (Nat.le_of_ble_eq_true rfl) (L := [some (vA G 41), some (vA G x1), some (vA G x2), some (vI x3), none]) ?_
  unfold f7_play
  refine den_aload_n (pc := 0) d7_play_0 rfl rfl ?_
  refine den_aload_n (pc := 1) d7_play_1 rfl rfl ?_
  refine den_callVV (pc := 2) (As := [vA G x1]) fv_7_57 rfl rfl (ok_41 _) (Nat.le_of_ble_eq_true rfl) (Nat.le_trans (by decide) hd) d7_play_2 (c7_begin l G x1 h kx1) (fun r39 h40 m41 o42 => ?_)
  have q43 := ok.mono kx1 m41
  have q44 := ok.mono kx2 m41
  refine den_aload_n (pc := 5) d7_play_5 rfl rfl ?_
  refine den_callVV (pc := 6) (As := []) fv_7_60 rfl rfl (ok_41 _) (Nat.le_of_ble_eq_true rfl) (Nat.le_trans (by decide) hd) d7_play_6 (c7_look l G h40) (fun r45 h46 m47 o48 => ?_)
  have q49 := ok.mono q43 m47
  have q50 := ok.mono q44 m47
  refine den_iconst (pc := 9) d7_play_9 ?_
  refine den_istore (pc := 10) (L2 := [some (vA G 41), some (vA G x1), some (vA G x2), some (vI x3), some (vI 0)]) d7_play_10 (by decide) rfl ?_
  refine den_wk [true, false, true, true, true] rfl ?_
  exact tl7_play_12 l G _ hd x2 x3 FU (0, h46) q50
theorem d7_loudest_0 : decode m7_loudest.2.1 0 = .ok (.iconst (-1), 1) := by decide +kernel
theorem d7_loudest_1 : decode m7_loudest.2.1 1 = .ok (.istore_n 1, 1) := by decide +kernel
theorem d7_loudest_2 : decode m7_loudest.2.1 2 = .ok (.iconst 0, 1) := by decide +kernel
theorem d7_loudest_3 : decode m7_loudest.2.1 3 = .ok (.istore_n 2, 1) := by decide +kernel
theorem d7_loudest_4 : decode m7_loudest.2.1 4 = .ok (.iconst 0, 1) := by decide +kernel
theorem d7_loudest_5 : decode m7_loudest.2.1 5 = .ok (.istore_n 3, 1) := by decide +kernel
theorem d7_loudest_6 : decode m7_loudest.2.1 6 = .ok (.iload_n 3, 1) := by decide +kernel
theorem d7_loudest_7 : decode m7_loudest.2.1 7 = .ok (.aload_n 0, 1) := by decide +kernel
theorem d7_loudest_8 : decode m7_loudest.2.1 8 = .ok (.getfield 12, 3) := by decide +kernel
theorem d7_loudest_11 : decode m7_loudest.2.1 11 = .ok (.getfield 87, 3) := by decide +kernel
theorem d7_loudest_14 : decode m7_loudest.2.1 14 = .ok (.if_icmp .ge 28, 3) := by decide +kernel
theorem d7_loudest_17 : decode m7_loudest.2.1 17 = .ok (.aload_n 0, 1) := by decide +kernel
theorem d7_loudest_18 : decode m7_loudest.2.1 18 = .ok (.getfield 22, 3) := by decide +kernel
theorem d7_loudest_21 : decode m7_loudest.2.1 21 = .ok (.iload_n 3, 1) := by decide +kernel
theorem d7_loudest_22 : decode m7_loudest.2.1 22 = .ok (.iaload, 1) := by decide +kernel
theorem d7_loudest_23 : decode m7_loudest.2.1 23 = .ok (.iload_n 2, 1) := by decide +kernel
theorem d7_loudest_24 : decode m7_loudest.2.1 24 = .ok (.if_icmp .le 12, 3) := by decide +kernel
theorem d7_loudest_27 : decode m7_loudest.2.1 27 = .ok (.iload_n 3, 1) := by decide +kernel
theorem d7_loudest_28 : decode m7_loudest.2.1 28 = .ok (.istore_n 1, 1) := by decide +kernel
theorem d7_loudest_29 : decode m7_loudest.2.1 29 = .ok (.aload_n 0, 1) := by decide +kernel
theorem d7_loudest_30 : decode m7_loudest.2.1 30 = .ok (.getfield 22, 3) := by decide +kernel
theorem d7_loudest_33 : decode m7_loudest.2.1 33 = .ok (.iload_n 3, 1) := by decide +kernel
theorem d7_loudest_34 : decode m7_loudest.2.1 34 = .ok (.iaload, 1) := by decide +kernel
theorem d7_loudest_35 : decode m7_loudest.2.1 35 = .ok (.istore_n 2, 1) := by decide +kernel
theorem d7_loudest_36 : decode m7_loudest.2.1 36 = .ok (.iinc 3 1, 3) := by decide +kernel
theorem d7_loudest_39 : decode m7_loudest.2.1 39 = .ok (.goto (-33), 3) := by decide +kernel
theorem d7_loudest_42 : decode m7_loudest.2.1 42 = .ok (.iload_n 1, 1) := by decide +kernel
theorem d7_loudest_43 : decode m7_loudest.2.1 43 = .ok (.ireturn, 1) := by decide +kernel
def b7_loudest_36 (rec6 : Int × Int × Int × AH → Option (Int × AH)) (x1 : Int) (x2 : Int) (x3 : Int) (h : AH) : Option (Int × AH) :=
  rec6 (x1, x2, (x3 + 1), h)
set_option maxRecDepth 100000 in
theorem t7_loudest_36 (l : Launch) (G : Geo) (d : Nat) (hd : 2 ≤ d) (x1 : Int) (x2 : Int) (x3 : Int) (rec6 : Int × Int × Int × AH → Option (Int × AH)) (H6 : ∀ (x1 : Int) (x2 : Int) (x3 : Int) (h : AH), Den l G m7_loudest rvI d 6 [some (vA G 41), some (vI x1), some (vI x2), some (vI x3)] [] h (rec6 (x1, x2, x3, h))) (h : AH) : Den l G m7_loudest rvI d 36 [some (vA G 41), some (vI x1), some (vI x2), some (vI x3)] [] h (b7_loudest_36 rec6 x1 x2 x3 h) := by
  unfold b7_loudest_36
  refine den_iinc (pc := 36) (L2 := [some (vA G 41), some (vI x1), some (vI x2), some (vI (x3 + 1))]) d7_loudest_36 (by decide) rfl rfl ?_
  refine den_goto (pc := 39) (tgt := 6) d7_loudest_39 (by decide) ?_
  exact H6 x1 x2 (x3 + 1) h
def b7_loudest_6 (rec6 : Int × Int × Int × AH → Option (Int × AH)) (x1 : Int) (x2 : Int) (x3 : Int) (h : AH) : Option (Int × AH) :=
  if w32 (h.2 42 0) ≤ w32 x3 then
    some (x1, h)
  else
    asrt (0 ≤ w32 x3 ∧ w32 x3 < 8) <|
    if w32 (h.2 49 (w32 x3).toNat) ≤ w32 x2 then
      b7_loudest_36 rec6 x1 x2 x3 h
    else
      asrt (0 ≤ w32 x3 ∧ w32 x3 < 8) <|
      lt (h.2 49 (w32 x3).toNat) fun u3 =>
      b7_loudest_36 rec6 x3 u3 x3 h
set_option maxRecDepth 100000 in
theorem t7_loudest_6 (l : Launch) (G : Geo) (d : Nat) (hd : 2 ≤ d) (x1 : Int) (x2 : Int) (x3 : Int) (rec6 : Int × Int × Int × AH → Option (Int × AH)) (H6 : ∀ (x1 : Int) (x2 : Int) (x3 : Int) (h : AH), Den l G m7_loudest rvI d 6 [some (vA G 41), some (vI x1), some (vI x2), some (vI x3)] [] h (rec6 (x1, x2, x3, h))) (h : AH) : Den l G m7_loudest rvI d 6 [some (vA G 41), some (vI x1), some (vI x2), some (vI x3)] [] h (b7_loudest_6 rec6 x1 x2 x3 h) := by
  unfold b7_loudest_6
  refine den_iload_n (pc := 6) d7_loudest_6 rfl rfl ?_
  refine den_aload_n (pc := 7) d7_loudest_7 rfl rfl ?_
  refine den_getR (pc := 8) (b := 42) fa_7_12 (ok_41 _) rfl d7_loudest_8 ?_
  refine den_getI (pc := 11) fa_7_87 (ok_42 _) d7_loudest_11 ?_
  refine den_icmp_ge (pc := 14) (tgt := 42) d7_loudest_14 (by decide) rfl rfl (fun _ => ?_) (fun _ => ?_)
  · refine den_iload_n (pc := 42) d7_loudest_42 rfl rfl ?_
    exact den_iret (pc := 43) rfl d7_loudest_43
  · refine den_aload_n (pc := 17) d7_loudest_17 rfl rfl ?_
    refine den_getR (pc := 18) (b := 49) fa_7_22 (ok_41 _) rfl d7_loudest_18 ?_
    refine den_iload_n (pc := 21) d7_loudest_21 rfl rfl ?_
    refine den_asrt (fun a1 => ?_)
    refine den_iaload (pc := 22) sh_49 (sz_lt (by decide)) rfl a1 d7_loudest_22 ?_
    refine den_iload_n (pc := 23) d7_loudest_23 rfl rfl ?_
    refine den_icmp_le (pc := 24) (tgt := 36) d7_loudest_24 (by decide) rfl rfl (fun _ => ?_) (fun _ => ?_)
    · exact t7_loudest_36 l G _ hd x1 x2 x3 rec6 H6 h
    · refine den_iload_n (pc := 27) d7_loudest_27 rfl rfl ?_
      refine den_istore_n (pc := 28) (L2 := [some (vA G 41), some (vI x3), some (vI x2), some (vI x3)]) d7_loudest_28 rfl (by decide) rfl ?_
      refine den_aload_n (pc := 29) d7_loudest_29 rfl rfl ?_
      refine den_getR (pc := 30) (b := 49) fa_7_22 (ok_41 _) rfl d7_loudest_30 ?_
      refine den_iload_n (pc := 33) d7_loudest_33 rfl rfl ?_
      refine den_asrt (fun a2 => ?_)
      refine den_iaload (pc := 34) sh_49 (sz_lt (by decide)) rfl a2 d7_loudest_34 ?_
      refine den_istore_nL (pc := 35) (L2 := fun y => [some (vA G 41), some (vI x3), some (vI y), some (vI x3)]) d7_loudest_35 rfl (by decide) (fun _ => rfl) (fun u3 => ?_)
      exact t7_loudest_36 l G _ hd x3 u3 x3 rec6 H6 h
def l7_loudest_6 (x1 : Int) (x2 : Int) (x3 : Int) (h : AH) : Option (Int × AH) := fx (fun rec z => b7_loudest_6 rec z.1 z.2.1 z.2.2.1 z.2.2.2) FU (x1, x2, x3, h)
set_option maxRecDepth 100000 in
theorem tl7_loudest_6 (l : Launch) (G : Geo) (d : Nat) (hd : 2 ≤ d) : ∀ (n : Nat) (z : Int × Int × Int × AH), True → Den l G m7_loudest rvI d 6 [some (vA G 41), some (vI z.1), some (vI z.2.1), some (vI z.2.2.1)] [] z.2.2.2 (fx (fun rec z => b7_loudest_6 rec z.1 z.2.1 z.2.2.1 z.2.2.2) n z) :=
  den_fx (F := fun rec z => b7_loudest_6 rec z.1 z.2.1 z.2.2.1 z.2.2.2) (P := fun z => True) (fL := fun z => [some (vA G 41), some (vI z.1), some (vI z.2.1), some (vI z.2.2.1)]) (fs := fun z => []) (fh := fun z => z.2.2.2) (fun rec hrec z hz => t7_loudest_6 l G d hd z.1 z.2.1 z.2.2.1 rec (fun x1 x2 x3 h => hrec (x1, x2, x3, h) trivial) z.2.2.2 )
def f7_loudest (h : AH) : Option (Int × AH) :=
  l7_loudest_6 (-1) 0 0 h
set_option maxRecDepth 100000 in
theorem c7_loudest (l : Launch) (G : Geo) (h : AH) : Con l G m7_loudest rvI 2 [vA G 41] h (f7_loudest  h) := by
  have hd : 2 ≤ 2 := Nat.le_refl _
  refine con_I rfl (by decide) rfl rfl (Nat.le_of_ble_eq_true rfl) (L := [some (vA G 41), none, none, none]) ?_
  unfold f7_loudest
  refine den_iconst (pc := 0) d7_loudest_0 ?_
  refine den_istore_n (pc := 1) (L2 := [some (vA G 41), some (vI (-1)), none, none]) d7_loudest_1 rfl (by decide) rfl ?_
  refine den_iconst (pc := 2) d7_loudest_2 ?_
  refine den_istore_n (pc := 3) (L2 := [some (vA G 41), some (vI (-1)), some (vI 0), none]) d7_loudest_3 rfl (by decide) rfl ?_
  refine den_iconst (pc := 4) d7_loudest_4 ?_
  refine den_istore_n (pc := 5) (L2 := [some (vA G 41), some (vI (-1)), some (vI 0), some (vI 0)]) d7_loudest_5 rfl (by decide) rfl ?_
  exact tl7_loudest_6 l G _ hd FU ((-1), 0, 0, h) trivial
theorem d7_answerHeat_0 : decode m7_answerHeat.2.1 0 = .ok (.iload_n 1, 1) := by decide +kernel
theorem d7_answerHeat_1 : decode m7_answerHeat.2.1 1 = .ok (.bipush 10, 2) := by decide +kernel
theorem d7_answerHeat_3 : decode m7_answerHeat.2.1 3 = .ok (.if_icmp .lt 27, 3) := by decide +kernel
theorem d7_answerHeat_6 : decode m7_answerHeat.2.1 6 = .ok (.aload_n 0, 1) := by decide +kernel
theorem d7_answerHeat_7 : decode m7_answerHeat.2.1 7 = .ok (.getfield 12, 3) := by decide +kernel
theorem d7_answerHeat_10 : decode m7_answerHeat.2.1 10 = .ok (.iload_n 1, 1) := by decide +kernel
theorem d7_answerHeat_11 : decode m7_answerHeat.2.1 11 = .ok (.bipush 10, 2) := by decide +kernel
theorem d7_answerHeat_13 : decode m7_answerHeat.2.1 13 = .ok (.isub, 1) := by decide +kernel
theorem d7_answerHeat_14 : decode m7_answerHeat.2.1 14 = .ok (.invokevirtual 97, 3) := by decide +kernel
theorem d7_answerHeat_17 : decode m7_answerHeat.2.1 17 = .ok (.ifCond .eq 13, 3) := by decide +kernel
theorem d7_answerHeat_20 : decode m7_answerHeat.2.1 20 = .ok (.aload_n 0, 1) := by decide +kernel
theorem d7_answerHeat_21 : decode m7_answerHeat.2.1 21 = .ok (.getfield 18, 3) := by decide +kernel
theorem d7_answerHeat_24 : decode m7_answerHeat.2.1 24 = .ok (.iload_n 1, 1) := by decide +kernel
theorem d7_answerHeat_25 : decode m7_answerHeat.2.1 25 = .ok (.bipush 10, 2) := by decide +kernel
theorem d7_answerHeat_27 : decode m7_answerHeat.2.1 27 = .ok (.isub, 1) := by decide +kernel
theorem d7_answerHeat_28 : decode m7_answerHeat.2.1 28 = .ok (.iaload, 1) := by decide +kernel
theorem d7_answerHeat_29 : decode m7_answerHeat.2.1 29 = .ok (.ireturn, 1) := by decide +kernel
theorem d7_answerHeat_30 : decode m7_answerHeat.2.1 30 = .ok (.iload_n 1, 1) := by decide +kernel
theorem d7_answerHeat_31 : decode m7_answerHeat.2.1 31 = .ok (.bipush 20, 2) := by decide +kernel
theorem d7_answerHeat_33 : decode m7_answerHeat.2.1 33 = .ok (.if_icmp .lt 32, 3) := by decide +kernel
theorem d7_answerHeat_36 : decode m7_answerHeat.2.1 36 = .ok (.aload_n 0, 1) := by decide +kernel
theorem d7_answerHeat_37 : decode m7_answerHeat.2.1 37 = .ok (.getfield 12, 3) := by decide +kernel
theorem d7_answerHeat_40 : decode m7_answerHeat.2.1 40 = .ok (.iload_n 1, 1) := by decide +kernel
theorem d7_answerHeat_41 : decode m7_answerHeat.2.1 41 = .ok (.bipush 20, 2) := by decide +kernel
theorem d7_answerHeat_43 : decode m7_answerHeat.2.1 43 = .ok (.isub, 1) := by decide +kernel
theorem d7_answerHeat_44 : decode m7_answerHeat.2.1 44 = .ok (.invokevirtual 101, 3) := by decide +kernel
theorem d7_answerHeat_47 : decode m7_answerHeat.2.1 47 = .ok (.ifCond .eq 18, 3) := by decide +kernel
theorem d7_answerHeat_50 : decode m7_answerHeat.2.1 50 = .ok (.aload_n 0, 1) := by decide +kernel
theorem d7_answerHeat_51 : decode m7_answerHeat.2.1 51 = .ok (.getfield 12, 3) := by decide +kernel
theorem d7_answerHeat_54 : decode m7_answerHeat.2.1 54 = .ok (.getfield 104, 3) := by decide +kernel
theorem d7_answerHeat_57 : decode m7_answerHeat.2.1 57 = .ok (.iload_n 1, 1) := by decide +kernel
theorem d7_answerHeat_58 : decode m7_answerHeat.2.1 58 = .ok (.bipush 20, 2) := by decide +kernel
theorem d7_answerHeat_60 : decode m7_answerHeat.2.1 60 = .ok (.isub, 1) := by decide +kernel
theorem d7_answerHeat_61 : decode m7_answerHeat.2.1 61 = .ok (.iaload, 1) := by decide +kernel
theorem d7_answerHeat_62 : decode m7_answerHeat.2.1 62 = .ok (.goto 5, 3) := by decide +kernel
theorem d7_answerHeat_65 : decode m7_answerHeat.2.1 65 = .ok (.bipush (-2), 2) := by decide +kernel
theorem d7_answerHeat_67 : decode m7_answerHeat.2.1 67 = .ok (.ireturn, 1) := by decide +kernel
def b7_answerHeat_30 (x1 : Int) (h : AH) : Option (Int × AH) :=
  if w32 x1 < 20 then
    some ((-2), h)
  else
    bnd (f9_hasSubject 42 (x1 - 20) h) fun r1 h2 =>
    if w32 r1 = 0 then
      some ((-2), h2)
    else
      asrt (0 ≤ w32 (x1 - 20) ∧ w32 (x1 - 20) < 6) <|
      some (h2.2 43 (w32 (x1 - 20)).toNat, h2)
set_option maxRecDepth 100000 in
theorem t7_answerHeat_30 (l : Launch) (G : Geo) (d : Nat) (hd : 3 ≤ d) (x1 : Int) (h : AH) : Den l G m7_answerHeat rvI d 30 [some (vA G 41), some (vI x1)] [] h (b7_answerHeat_30 x1 h) := by
  unfold b7_answerHeat_30
  refine den_iload_n (pc := 30) d7_answerHeat_30 rfl rfl ?_
  refine den_bipush (pc := 31) d7_answerHeat_31 (by decide) ?_
  refine den_icmp_lt (pc := 33) (tgt := 65) d7_answerHeat_33 (by decide) rfl (by decide) (fun _ => ?_) (fun _ => ?_)
  · refine den_bipush (pc := 65) d7_answerHeat_65 (by decide) ?_
    exact den_iret (pc := 67) rfl d7_answerHeat_67
  · refine den_aload_n (pc := 36) d7_answerHeat_36 rfl rfl ?_
    refine den_getR (pc := 37) (b := 42) fa_7_12 (ok_41 _) rfl d7_answerHeat_37 ?_
    refine den_iload_n (pc := 40) d7_answerHeat_40 rfl rfl ?_
    refine den_bipush (pc := 41) d7_answerHeat_41 (by decide) ?_
    refine den_isub (pc := 43) d7_answerHeat_43 ?_
    refine den_callVI (pc := 44) (As := [vI (x1 - 20)]) fv_7_101 rfl rfl (ok_42 _) (Nat.le_of_ble_eq_true rfl) (Nat.le_trans (by decide) hd) d7_answerHeat_44 (c9_hasSubject l G 42 (x1 - 20) h (ok_42 _)) (fun r1 h2 m3 o4 => ?_)
    refine den_if_eq (pc := 47) (tgt := 65) d7_answerHeat_47 (by decide) rfl (fun _ => ?_) (fun _ => ?_)
    · refine den_bipush (pc := 65) d7_answerHeat_65 (by decide) ?_
      exact den_iret (pc := 67) rfl d7_answerHeat_67
    · refine den_aload_n (pc := 50) d7_answerHeat_50 rfl rfl ?_
      refine den_getR (pc := 51) (b := 42) fa_7_12 (ok_41 _) rfl d7_answerHeat_51 ?_
      refine den_getR (pc := 54) (b := 43) fa_7_104 (ok_42 _) rfl d7_answerHeat_54 ?_
      refine den_iload_n (pc := 57) d7_answerHeat_57 rfl rfl ?_
      refine den_bipush (pc := 58) d7_answerHeat_58 (by decide) ?_
      refine den_isub (pc := 60) d7_answerHeat_60 ?_
      refine den_asrt (fun a5 => ?_)
      refine den_iaload (pc := 61) sh_43 (sz_lt (by decide)) rfl a5 d7_answerHeat_61 ?_
      refine den_goto (pc := 62) (tgt := 67) d7_answerHeat_62 (by decide) ?_
      exact den_iret (pc := 67) rfl d7_answerHeat_67
def f7_answerHeat (x1 : Int) (h : AH) : Option (Int × AH) :=
  if w32 x1 < 10 then
    b7_answerHeat_30 x1 h
  else
    bnd (f9_hasHearth 42 (x1 - 10) h) fun r6 h7 =>
    if w32 r6 = 0 then
      b7_answerHeat_30 x1 h7
    else
      asrt (0 ≤ w32 (x1 - 10) ∧ w32 (x1 - 10) < 4) <|
      some (h7.2 48 (w32 (x1 - 10)).toNat, h7)
set_option maxRecDepth 100000 in
theorem c7_answerHeat (l : Launch) (G : Geo) (x1 : Int) (h : AH) : Con l G m7_answerHeat rvI 3 [vA G 41, vI x1] h (f7_answerHeat x1 h) := by
  have hd : 3 ≤ 3 := Nat.le_refl _
  refine con_I rfl (by decide) rfl rfl (Nat.le_of_ble_eq_true rfl) (L := [some (vA G 41), some (vI x1)]) ?_
  unfold f7_answerHeat
  refine den_iload_n (pc := 0) d7_answerHeat_0 rfl rfl ?_
  refine den_bipush (pc := 1) d7_answerHeat_1 (by decide) ?_
  refine den_icmp_lt (pc := 3) (tgt := 30) d7_answerHeat_3 (by decide) rfl (by decide) (fun _ => ?_) (fun _ => ?_)
  · exact t7_answerHeat_30 l G _ hd x1 h
  · refine den_aload_n (pc := 6) d7_answerHeat_6 rfl rfl ?_
    refine den_getR (pc := 7) (b := 42) fa_7_12 (ok_41 _) rfl d7_answerHeat_7 ?_
    refine den_iload_n (pc := 10) d7_answerHeat_10 rfl rfl ?_
    refine den_bipush (pc := 11) d7_answerHeat_11 (by decide) ?_
    refine den_isub (pc := 13) d7_answerHeat_13 ?_
    refine den_callVI (pc := 14) (As := [vI (x1 - 10)]) fv_7_97 rfl rfl (ok_42 _) (Nat.le_of_ble_eq_true rfl) (Nat.le_trans (by decide) hd) d7_answerHeat_14 (c9_hasHearth l G 42 (x1 - 10) h (ok_42 _)) (fun r6 h7 m8 o9 => ?_)
    refine den_if_eq (pc := 17) (tgt := 30) d7_answerHeat_17 (by decide) rfl (fun _ => ?_) (fun _ => ?_)
    · exact t7_answerHeat_30 l G _ hd x1 h7
    · refine den_aload_n (pc := 20) d7_answerHeat_20 rfl rfl ?_
      refine den_getR (pc := 21) (b := 48) fa_7_18 (ok_41 _) rfl d7_answerHeat_21 ?_
      refine den_iload_n (pc := 24) d7_answerHeat_24 rfl rfl ?_
      refine den_bipush (pc := 25) d7_answerHeat_25 (by decide) ?_
      refine den_isub (pc := 27) d7_answerHeat_27 ?_
      refine den_asrt (fun a10 => ?_)
      refine den_iaload (pc := 28) sh_48 (sz_lt (by decide)) rfl a10 d7_answerHeat_28 ?_
      exact den_iret (pc := 29) rfl d7_answerHeat_29
