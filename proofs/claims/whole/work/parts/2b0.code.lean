/-! 10_drawn 10_spent 10_kept 10_calm 10_hired 10_filled 10_halves 10_circle 10_kindred 10_mean 10_after 10_next -/
theorem d10_drawn_0 : decode m10_drawn.2.1 0 = .ok (.aload_n 0, 1) := by decide +kernel
theorem d10_drawn_1 : decode m10_drawn.2.1 1 = .ok (.getfield 10, 3) := by decide +kernel
theorem d10_drawn_4 : decode m10_drawn.2.1 4 = .ok (.iload_n 1, 1) := by decide +kernel
theorem d10_drawn_5 : decode m10_drawn.2.1 5 = .ok (.invokevirtual 101, 3) := by decide +kernel
theorem d10_drawn_8 : decode m10_drawn.2.1 8 = .ok (.astore 5, 2) := by decide +kernel
theorem d10_drawn_10 : decode m10_drawn.2.1 10 = .ok (.aload 5, 2) := by decide +kernel
theorem d10_drawn_12 : decode m10_drawn.2.1 12 = .ok (.ifnull 13, 3) := by decide +kernel
theorem d10_drawn_15 : decode m10_drawn.2.1 15 = .ok (.iload_n 3, 1) := by decide +kernel
theorem d10_drawn_16 : decode m10_drawn.2.1 16 = .ok (.ifCond .lt 9, 3) := by decide +kernel
theorem d10_drawn_19 : decode m10_drawn.2.1 19 = .ok (.iload_n 3, 1) := by decide +kernel
theorem d10_drawn_20 : decode m10_drawn.2.1 20 = .ok (.bipush 60, 2) := by decide +kernel
theorem d10_drawn_22 : decode m10_drawn.2.1 22 = .ok (.if_icmp .le 6, 3) := by decide +kernel
theorem d10_drawn_25 : decode m10_drawn.2.1 25 = .ok (.bipush (-2), 2) := by decide +kernel
theorem d10_drawn_27 : decode m10_drawn.2.1 27 = .ok (.ireturn, 1) := by decide +kernel
theorem d10_drawn_28 : decode m10_drawn.2.1 28 = .ok (.aload_n 0, 1) := by decide +kernel
theorem d10_drawn_29 : decode m10_drawn.2.1 29 = .ok (.getfield 30, 3) := by decide +kernel
theorem d10_drawn_32 : decode m10_drawn.2.1 32 = .ok (.aload 5, 2) := by decide +kernel
theorem d10_drawn_34 : decode m10_drawn.2.1 34 = .ok (.iload_n 2, 1) := by decide +kernel
theorem d10_drawn_35 : decode m10_drawn.2.1 35 = .ok (.iload_n 3, 1) := by decide +kernel
theorem d10_drawn_36 : decode m10_drawn.2.1 36 = .ok (.invokevirtual 203, 3) := by decide +kernel
theorem d10_drawn_39 : decode m10_drawn.2.1 39 = .ok (.aload_n 0, 1) := by decide +kernel
theorem d10_drawn_40 : decode m10_drawn.2.1 40 = .ok (.getfield 30, 3) := by decide +kernel
theorem d10_drawn_43 : decode m10_drawn.2.1 43 = .ok (.iload 4, 2) := by decide +kernel
theorem d10_drawn_45 : decode m10_drawn.2.1 45 = .ok (.invokevirtual 133, 3) := by decide +kernel
theorem d10_drawn_48 : decode m10_drawn.2.1 48 = .ok (.ireturn, 1) := by decide +kernel
def f10_drawn (x1 : Int) (x2 : Int) (x3 : Int) (x4 : Int) (h : AH) : Option (Int × AH) :=
  bnd (f8_villageAt 1 x1 h) fun r1 h2 =>
  if r1 < 0 then
    some ((-2), h2)
  else
    if w32 x3 < 0 then
      some ((-2), h2)
    else
      if w32 x3 ≤ 60 then
        bnd (f7_playBySeed r1.toNat x2 x3 h2) fun r8 h9 =>
        bnd (f7_answer x4 h9) fun r13 h14 =>
        some (r13, h14)
      else
        some ((-2), h2)
set_option maxRecDepth 100000 in
theorem c10_drawn (l : Launch) (G : Geo) (x1 : Int) (x2 : Int) (x3 : Int) (x4 : Int) (h : AH) : Con l G m10_drawn rvI 8 [vA G 0, vI x1, vI x2, vI x3, vI x4] h (f10_drawn x1 x2 x3 x4 h) := by
  have hd : 8 ≤ 8 := Nat.le_refl _
  refine con_I rfl (by decide) rfl rfl (Nat.le_of_ble_eq_true rfl) (L := [some (vA G 0), some (vI x1), some (vI x2), some (vI x3), some (vI x4), none]) ?_
  unfold f10_drawn
  refine den_aload_n (pc := 0) d10_drawn_0 rfl rfl ?_
  refine den_getR (pc := 1) (b := 1) fa_10_10 (ok_0 _) rfl d10_drawn_1 ?_
  refine den_iload_n (pc := 4) d10_drawn_4 rfl rfl ?_
  refine den_callVR (pc := 5) (As := [vI x1]) fv_10_101 rfl rfl (ok_1 _) (Nat.le_of_ble_eq_true rfl) (Nat.le_trans (by decide) hd) d10_drawn_5 (c8_villageAt l G 1 x1 h (ok_1 _)) (fun r1 h2 m3 o4 => ?_)
  have q5 := RO.v o4
  refine den_astoreR (pc := 8) (L2 := [some (vA G 0), some (vI x1), some (vI x2), some (vI x3), some (vI x4), some (vR G r1)]) d10_drawn_8 (by decide) rfl ?_
  refine den_aloadR (pc := 10) d10_drawn_10 rfl ?_
  refine den_ifnull (pc := 12) (tgt := 25) d10_drawn_12 (by decide) (fun _ => ?_) (fun n6 => ?_)
  · refine den_bipush (pc := 25) d10_drawn_25 (by decide) ?_
    exact den_iret (pc := 27) rfl d10_drawn_27
  · rw [vR_pos G n6]
    have q7 := Or.resolve_left q5 n6
    refine den_iload_n (pc := 15) d10_drawn_15 rfl rfl ?_
    refine den_if_lt (pc := 16) (tgt := 25) d10_drawn_16 (by decide) rfl (fun _ => ?_) (fun _ => ?_)
    · refine den_bipush (pc := 25) d10_drawn_25 (by decide) ?_
      exact den_iret (pc := 27) rfl d10_drawn_27
    · refine den_iload_n (pc := 19) d10_drawn_19 rfl rfl ?_
      refine den_bipush (pc := 20) d10_drawn_20 (by decide) ?_
      refine den_icmp_le (pc := 22) (tgt := 28) d10_drawn_22 (by decide) rfl (by decide) (fun _ => ?_) (fun _ => ?_)
      · refine den_aload_n (pc := 28) d10_drawn_28 rfl rfl ?_
        refine den_getR (pc := 29) (b := 41) fa_10_30 (ok_0 _) rfl d10_drawn_29 ?_
        refine den_aload (pc := 32) d10_drawn_32 rfl ?_
        refine den_iload_n (pc := 34) d10_drawn_34 rfl rfl ?_
        refine den_iload_n (pc := 35) d10_drawn_35 rfl rfl ?_
        refine den_callVV (pc := 36) (As := [vA G r1.toNat, vI x2, vI x3]) fv_10_203 rfl rfl (ok_41 _) (Nat.le_of_ble_eq_true rfl) (Nat.le_trans (by decide) hd) d10_drawn_36 (c7_playBySeed l G r1.toNat x2 x3 h2 q7) (fun r8 h9 m10 o11 => ?_)
        have q12 := ok.mono q7 m10
        refine den_aload_n (pc := 39) d10_drawn_39 rfl rfl ?_
        refine den_getR (pc := 40) (b := 41) fa_10_30 (ok_0 _) rfl d10_drawn_40 ?_
        refine den_iload (pc := 43) d10_drawn_43 rfl ?_
        refine den_callVI (pc := 45) (As := [vI x4]) fv_10_133 rfl rfl (ok_41 _) (Nat.le_of_ble_eq_true rfl) (Nat.le_trans (by decide) hd) d10_drawn_45 (c7_answer l G x4 h9) (fun r13 h14 m15 o16 => ?_)
        have q17 := ok.mono q12 m15
        exact den_iret (pc := 48) rfl d10_drawn_48
      · refine den_bipush (pc := 25) d10_drawn_25 (by decide) ?_
        exact den_iret (pc := 27) rfl d10_drawn_27
theorem d10_spent_0 : decode m10_spent.2.1 0 = .ok (.aload_n 0, 1) := by decide +kernel
theorem d10_spent_1 : decode m10_spent.2.1 1 = .ok (.getfield 10, 3) := by decide +kernel
theorem d10_spent_4 : decode m10_spent.2.1 4 = .ok (.iload_n 1, 1) := by decide +kernel
theorem d10_spent_5 : decode m10_spent.2.1 5 = .ok (.invokevirtual 101, 3) := by decide +kernel
theorem d10_spent_8 : decode m10_spent.2.1 8 = .ok (.astore 6, 2) := by decide +kernel
theorem d10_spent_10 : decode m10_spent.2.1 10 = .ok (.aload 6, 2) := by decide +kernel
theorem d10_spent_12 : decode m10_spent.2.1 12 = .ok (.ifnull 25, 3) := by decide +kernel
theorem d10_spent_15 : decode m10_spent.2.1 15 = .ok (.aload 6, 2) := by decide +kernel
theorem d10_spent_17 : decode m10_spent.2.1 17 = .ok (.iload_n 2, 1) := by decide +kernel
theorem d10_spent_18 : decode m10_spent.2.1 18 = .ok (.iload_n 3, 1) := by decide +kernel
theorem d10_spent_19 : decode m10_spent.2.1 19 = .ok (.invokevirtual 143, 3) := by decide +kernel
theorem d10_spent_22 : decode m10_spent.2.1 22 = .ok (.ifCond .eq 15, 3) := by decide +kernel
theorem d10_spent_25 : decode m10_spent.2.1 25 = .ok (.iload 4, 2) := by decide +kernel
theorem d10_spent_27 : decode m10_spent.2.1 27 = .ok (.ifCond .lt 10, 3) := by decide +kernel
theorem d10_spent_30 : decode m10_spent.2.1 30 = .ok (.iload 4, 2) := by decide +kernel
theorem d10_spent_32 : decode m10_spent.2.1 32 = .ok (.bipush 20, 2) := by decide +kernel
theorem d10_spent_34 : decode m10_spent.2.1 34 = .ok (.if_icmp .le 5, 3) := by decide +kernel
theorem d10_spent_37 : decode m10_spent.2.1 37 = .ok (.iconst (-1), 1) := by decide +kernel
theorem d10_spent_38 : decode m10_spent.2.1 38 = .ok (.ireturn, 1) := by decide +kernel
theorem d10_spent_39 : decode m10_spent.2.1 39 = .ok (.aload_n 0, 1) := by decide +kernel
theorem d10_spent_40 : decode m10_spent.2.1 40 = .ok (.getfield 30, 3) := by decide +kernel
theorem d10_spent_43 : decode m10_spent.2.1 43 = .ok (.aload 6, 2) := by decide +kernel
theorem d10_spent_45 : decode m10_spent.2.1 45 = .ok (.iload_n 2, 1) := by decide +kernel
theorem d10_spent_46 : decode m10_spent.2.1 46 = .ok (.iload_n 3, 1) := by decide +kernel
theorem d10_spent_47 : decode m10_spent.2.1 47 = .ok (.iload 4, 2) := by decide +kernel
theorem d10_spent_49 : decode m10_spent.2.1 49 = .ok (.iload 5, 2) := by decide +kernel
theorem d10_spent_51 : decode m10_spent.2.1 51 = .ok (.invokevirtual 207, 3) := by decide +kernel
theorem d10_spent_54 : decode m10_spent.2.1 54 = .ok (.ireturn, 1) := by decide +kernel
def f10_spent (x1 : Int) (x2 : Int) (x3 : Int) (x4 : Int) (x5 : Int) (h : AH) : Option (Int × AH) :=
  bnd (f8_villageAt 1 x1 h) fun r1 h2 =>
  if r1 < 0 then
    some ((-1), h2)
  else
    bnd (f9_hasCouple r1.toNat x2 x3 h2) fun r8 h9 =>
    if w32 r8 = 0 then
      some ((-1), h9)
    else
      if w32 x4 < 0 then
        some ((-1), h9)
      else
        if w32 x4 ≤ 20 then
          bnd (f7_spend r1.toNat x2 x3 x4 x5 h9) fun r13 h14 =>
          some (r13, h14)
        else
          some ((-1), h9)
set_option maxRecDepth 100000 in
theorem c10_spent (l : Launch) (G : Geo) (x1 : Int) (x2 : Int) (x3 : Int) (x4 : Int) (x5 : Int) (h : AH) : Con l G m10_spent rvI 7 [vA G 0, vI x1, vI x2, vI x3, vI x4, vI x5] h (f10_spent x1 x2 x3 x4 x5 h) := by
  have hd : 7 ≤ 7 := Nat.le_refl _
  refine con_I rfl (by decide) rfl rfl (Nat.le_of_ble_eq_true rfl) (L := [some (vA G 0), some (vI x1), some (vI x2), some (vI x3), some (vI x4), some (vI x5), none]) ?_
  unfold f10_spent
  refine den_aload_n (pc := 0) d10_spent_0 rfl rfl ?_
  refine den_getR (pc := 1) (b := 1) fa_10_10 (ok_0 _) rfl d10_spent_1 ?_
  refine den_iload_n (pc := 4) d10_spent_4 rfl rfl ?_
  refine den_callVR (pc := 5) (As := [vI x1]) fv_10_101 rfl rfl (ok_1 _) (Nat.le_of_ble_eq_true rfl) (Nat.le_trans (by decide) hd) d10_spent_5 (c8_villageAt l G 1 x1 h (ok_1 _)) (fun r1 h2 m3 o4 => ?_)
  have q5 := RO.v o4
  refine den_astoreR (pc := 8) (L2 := [some (vA G 0), some (vI x1), some (vI x2), some (vI x3), some (vI x4), some (vI x5), some (vR G r1)]) d10_spent_8 (by decide) rfl ?_
  refine den_aloadR (pc := 10) d10_spent_10 rfl ?_
  refine den_ifnull (pc := 12) (tgt := 37) d10_spent_12 (by decide) (fun _ => ?_) (fun n6 => ?_)
  · refine den_iconst (pc := 37) d10_spent_37 ?_
    exact den_iret (pc := 38) rfl d10_spent_38
  · rw [vR_pos G n6]
    have q7 := Or.resolve_left q5 n6
    refine den_aload (pc := 15) d10_spent_15 rfl ?_
    refine den_iload_n (pc := 17) d10_spent_17 rfl rfl ?_
    refine den_iload_n (pc := 18) d10_spent_18 rfl rfl ?_
    refine den_callVI (pc := 19) (As := [vI x2, vI x3]) fv_10_143 rfl rfl q7 (Nat.le_of_ble_eq_true rfl) (Nat.le_trans (by decide) hd) d10_spent_19 (c9_hasCouple l G r1.toNat x2 x3 h2 q7) (fun r8 h9 m10 o11 => ?_)
    have q12 := ok.mono q7 m10
    refine den_if_eq (pc := 22) (tgt := 37) d10_spent_22 (by decide) rfl (fun _ => ?_) (fun _ => ?_)
    · refine den_iconst (pc := 37) d10_spent_37 ?_
      exact den_iret (pc := 38) rfl d10_spent_38
    · refine den_iload (pc := 25) d10_spent_25 rfl ?_
      refine den_if_lt (pc := 27) (tgt := 37) d10_spent_27 (by decide) rfl (fun _ => ?_) (fun _ => ?_)
      · refine den_iconst (pc := 37) d10_spent_37 ?_
        exact den_iret (pc := 38) rfl d10_spent_38
      · refine den_iload (pc := 30) d10_spent_30 rfl ?_
        refine den_bipush (pc := 32) d10_spent_32 (by decide) ?_
        refine den_icmp_le (pc := 34) (tgt := 39) d10_spent_34 (by decide) rfl (by decide) (fun _ => ?_) (fun _ => ?_)
        · refine den_aload_n (pc := 39) d10_spent_39 rfl rfl ?_
          refine den_getR (pc := 40) (b := 41) fa_10_30 (ok_0 _) rfl d10_spent_40 ?_
          refine den_aload (pc := 43) d10_spent_43 rfl ?_
          refine den_iload_n (pc := 45) d10_spent_45 rfl rfl ?_
          refine den_iload_n (pc := 46) d10_spent_46 rfl rfl ?_
          refine den_iload (pc := 47) d10_spent_47 rfl ?_
          refine den_iload (pc := 49) d10_spent_49 rfl ?_
          refine den_callVI (pc := 51) (As := [vA G r1.toNat, vI x2, vI x3, vI x4, vI x5]) fv_10_207 rfl rfl (ok_41 _) (Nat.le_of_ble_eq_true rfl) (Nat.le_trans (by decide) hd) d10_spent_51 (c7_spend l G r1.toNat x2 x3 x4 x5 h9 q12) (fun r13 h14 m15 o16 => ?_)
          have q17 := ok.mono q12 m15
          exact den_iret (pc := 54) rfl d10_spent_54
        · refine den_iconst (pc := 37) d10_spent_37 ?_
          exact den_iret (pc := 38) rfl d10_spent_38
theorem d10_kept_0 : decode m10_kept.2.1 0 = .ok (.aload_n 0, 1) := by decide +kernel
theorem d10_kept_1 : decode m10_kept.2.1 1 = .ok (.getfield 10, 3) := by decide +kernel
theorem d10_kept_4 : decode m10_kept.2.1 4 = .ok (.iload_n 1, 1) := by decide +kernel
theorem d10_kept_5 : decode m10_kept.2.1 5 = .ok (.invokevirtual 101, 3) := by decide +kernel
theorem d10_kept_8 : decode m10_kept.2.1 8 = .ok (.astore 6, 2) := by decide +kernel
theorem d10_kept_10 : decode m10_kept.2.1 10 = .ok (.aload 6, 2) := by decide +kernel
theorem d10_kept_12 : decode m10_kept.2.1 12 = .ok (.ifnull 26, 3) := by decide +kernel
theorem d10_kept_15 : decode m10_kept.2.1 15 = .ok (.aload 6, 2) := by decide +kernel
theorem d10_kept_17 : decode m10_kept.2.1 17 = .ok (.iload_n 2, 1) := by decide +kernel
theorem d10_kept_18 : decode m10_kept.2.1 18 = .ok (.iload_n 3, 1) := by decide +kernel
theorem d10_kept_19 : decode m10_kept.2.1 19 = .ok (.iload 4, 2) := by decide +kernel
theorem d10_kept_21 : decode m10_kept.2.1 21 = .ok (.invokevirtual 111, 3) := by decide +kernel
theorem d10_kept_24 : decode m10_kept.2.1 24 = .ok (.iconst (-1), 1) := by decide +kernel
theorem d10_kept_25 : decode m10_kept.2.1 25 = .ok (.if_icmp .eq 13, 3) := by decide +kernel
theorem d10_kept_28 : decode m10_kept.2.1 28 = .ok (.aload 6, 2) := by decide +kernel
theorem d10_kept_30 : decode m10_kept.2.1 30 = .ok (.iload 5, 2) := by decide +kernel
theorem d10_kept_32 : decode m10_kept.2.1 32 = .ok (.invokevirtual 150, 3) := by decide +kernel
theorem d10_kept_35 : decode m10_kept.2.1 35 = .ok (.ifCond .ne 5, 3) := by decide +kernel
theorem d10_kept_38 : decode m10_kept.2.1 38 = .ok (.iconst (-1), 1) := by decide +kernel
theorem d10_kept_39 : decode m10_kept.2.1 39 = .ok (.ireturn, 1) := by decide +kernel
theorem d10_kept_40 : decode m10_kept.2.1 40 = .ok (.aload_n 0, 1) := by decide +kernel
theorem d10_kept_41 : decode m10_kept.2.1 41 = .ok (.getfield 51, 3) := by decide +kernel
theorem d10_kept_44 : decode m10_kept.2.1 44 = .ok (.aload 6, 2) := by decide +kernel
theorem d10_kept_46 : decode m10_kept.2.1 46 = .ok (.aload 6, 2) := by decide +kernel
theorem d10_kept_48 : decode m10_kept.2.1 48 = .ok (.iload_n 2, 1) := by decide +kernel
theorem d10_kept_49 : decode m10_kept.2.1 49 = .ok (.iload_n 3, 1) := by decide +kernel
theorem d10_kept_50 : decode m10_kept.2.1 50 = .ok (.iload 4, 2) := by decide +kernel
theorem d10_kept_52 : decode m10_kept.2.1 52 = .ok (.invokevirtual 111, 3) := by decide +kernel
theorem d10_kept_55 : decode m10_kept.2.1 55 = .ok (.iload 4, 2) := by decide +kernel
theorem d10_kept_57 : decode m10_kept.2.1 57 = .ok (.iload 5, 2) := by decide +kernel
theorem d10_kept_59 : decode m10_kept.2.1 59 = .ok (.invokevirtual 211, 3) := by decide +kernel
theorem d10_kept_62 : decode m10_kept.2.1 62 = .ok (.ireturn, 1) := by decide +kernel
def f10_kept (x1 : Int) (x2 : Int) (x3 : Int) (x4 : Int) (x5 : Int) (h : AH) : Option (Int × AH) :=
  bnd (f8_villageAt 1 x1 h) fun r1 h2 =>
  if r1 < 0 then
    some ((-1), h2)
  else
    bnd (f9_gap r1.toNat x2 x3 x4 h2) fun r8 h9 =>
    if w32 r8 = (-1) then
      some ((-1), h9)
    else
      bnd (f9_hasHearth r1.toNat x5 h9) fun r13 h14 =>
      if ¬ w32 r13 = 0 then
        bnd (f9_gap r1.toNat x2 x3 x4 h14) fun r18 h19 =>
        bnd (f3_hours r1.toNat r18 x4 x5 h19) fun r23 h24 =>
        some (r23, h24)
      else
        some ((-1), h14)
set_option maxRecDepth 100000 in
theorem c10_kept (l : Launch) (G : Geo) (x1 : Int) (x2 : Int) (x3 : Int) (x4 : Int) (x5 : Int) (h : AH) : Con l G m10_kept rvI 5 [vA G 0, vI x1, vI x2, vI x3, vI x4, vI x5] h (f10_kept x1 x2 x3 x4 x5 h) := by
  have hd : 5 ≤ 5 := Nat.le_refl _
  refine con_I rfl (by decide) rfl rfl (Nat.le_of_ble_eq_true rfl) (L := [some (vA G 0), some (vI x1), some (vI x2), some (vI x3), some (vI x4), some (vI x5), none]) ?_
  unfold f10_kept
  refine den_aload_n (pc := 0) d10_kept_0 rfl rfl ?_
  refine den_getR (pc := 1) (b := 1) fa_10_10 (ok_0 _) rfl d10_kept_1 ?_
  refine den_iload_n (pc := 4) d10_kept_4 rfl rfl ?_
  refine den_callVR (pc := 5) (As := [vI x1]) fv_10_101 rfl rfl (ok_1 _) (Nat.le_of_ble_eq_true rfl) (Nat.le_trans (by decide) hd) d10_kept_5 (c8_villageAt l G 1 x1 h (ok_1 _)) (fun r1 h2 m3 o4 => ?_)
  have q5 := RO.v o4
  refine den_astoreR (pc := 8) (L2 := [some (vA G 0), some (vI x1), some (vI x2), some (vI x3), some (vI x4), some (vI x5), some (vR G r1)]) d10_kept_8 (by decide) rfl ?_
  refine den_aloadR (pc := 10) d10_kept_10 rfl ?_
  refine den_ifnull (pc := 12) (tgt := 38) d10_kept_12 (by decide) (fun _ => ?_) (fun n6 => ?_)
  · refine den_iconst (pc := 38) d10_kept_38 ?_
    exact den_iret (pc := 39) rfl d10_kept_39
  · rw [vR_pos G n6]
    have q7 := Or.resolve_left q5 n6
    refine den_aload (pc := 15) d10_kept_15 rfl ?_
    refine den_iload_n (pc := 17) d10_kept_17 rfl rfl ?_
    refine den_iload_n (pc := 18) d10_kept_18 rfl rfl ?_
    refine den_iload (pc := 19) d10_kept_19 rfl ?_
    refine den_callVI (pc := 21) (As := [vI x2, vI x3, vI x4]) fv_10_111 rfl rfl q7 (Nat.le_of_ble_eq_true rfl) (Nat.le_trans (by decide) hd) d10_kept_21 (c9_gap l G r1.toNat x2 x3 x4 h2 q7) (fun r8 h9 m10 o11 => ?_)
    have q12 := ok.mono q7 m10
    refine den_iconst (pc := 24) d10_kept_24 ?_
    refine den_icmp_eq (pc := 25) (tgt := 38) d10_kept_25 (by decide) rfl (by decide) (fun _ => ?_) (fun _ => ?_)
    · refine den_iconst (pc := 38) d10_kept_38 ?_
      exact den_iret (pc := 39) rfl d10_kept_39
    · refine den_aload (pc := 28) d10_kept_28 rfl ?_
      refine den_iload (pc := 30) d10_kept_30 rfl ?_
      refine den_callVI (pc := 32) (As := [vI x5]) fv_10_150 rfl rfl q12 (Nat.le_of_ble_eq_true rfl) (Nat.le_trans (by decide) hd) d10_kept_32 (c9_hasHearth l G r1.toNat x5 h9 q12) (fun r13 h14 m15 o16 => ?_)
      have q17 := ok.mono q12 m15
      refine den_if_ne (pc := 35) (tgt := 40) d10_kept_35 (by decide) rfl (fun _ => ?_) (fun _ => ?_)
      · refine den_aload_n (pc := 40) d10_kept_40 rfl rfl ?_
        refine den_getR (pc := 41) (b := 59) fa_10_51 (ok_0 _) rfl d10_kept_41 ?_
        refine den_aload (pc := 44) d10_kept_44 rfl ?_
        refine den_aload (pc := 46) d10_kept_46 rfl ?_
        refine den_iload_n (pc := 48) d10_kept_48 rfl rfl ?_
        refine den_iload_n (pc := 49) d10_kept_49 rfl rfl ?_
        refine den_iload (pc := 50) d10_kept_50 rfl ?_
        refine den_callVI (pc := 52) (As := [vI x2, vI x3, vI x4]) fv_10_111 rfl rfl q17 (Nat.le_of_ble_eq_true rfl) (Nat.le_trans (by decide) hd) d10_kept_52 (c9_gap l G r1.toNat x2 x3 x4 h14 q17) (fun r18 h19 m20 o21 => ?_)
        have q22 := ok.mono q17 m20
        refine den_iload (pc := 55) d10_kept_55 rfl ?_
        refine den_iload (pc := 57) d10_kept_57 rfl ?_
        refine den_callVI (pc := 59) (As := [vA G r1.toNat, vI r18, vI x4, vI x5]) fv_10_211 rfl rfl (ok_59 _) (Nat.le_of_ble_eq_true rfl) (Nat.le_trans (by decide) hd) d10_kept_59 (c3_hours l G r1.toNat r18 x4 x5 h19 q22) (fun r23 h24 m25 o26 => ?_)
        have q27 := ok.mono q22 m25
        exact den_iret (pc := 62) rfl d10_kept_62
      · refine den_iconst (pc := 38) d10_kept_38 ?_
        exact den_iret (pc := 39) rfl d10_kept_39
theorem d10_calm_0 : decode m10_calm.2.1 0 = .ok (.aload_n 0, 1) := by decide +kernel
theorem d10_calm_1 : decode m10_calm.2.1 1 = .ok (.getfield 10, 3) := by decide +kernel
theorem d10_calm_4 : decode m10_calm.2.1 4 = .ok (.iload_n 1, 1) := by decide +kernel
theorem d10_calm_5 : decode m10_calm.2.1 5 = .ok (.invokevirtual 101, 3) := by decide +kernel
theorem d10_calm_8 : decode m10_calm.2.1 8 = .ok (.astore 4, 2) := by decide +kernel
theorem d10_calm_10 : decode m10_calm.2.1 10 = .ok (.aload 4, 2) := by decide +kernel
theorem d10_calm_12 : decode m10_calm.2.1 12 = .ok (.ifnull 12, 3) := by decide +kernel
theorem d10_calm_15 : decode m10_calm.2.1 15 = .ok (.aload 4, 2) := by decide +kernel
theorem d10_calm_17 : decode m10_calm.2.1 17 = .ok (.iload_n 2, 1) := by decide +kernel
theorem d10_calm_18 : decode m10_calm.2.1 18 = .ok (.invokevirtual 215, 3) := by decide +kernel
theorem d10_calm_21 : decode m10_calm.2.1 21 = .ok (.ifCond .ne 6, 3) := by decide +kernel
theorem d10_calm_24 : decode m10_calm.2.1 24 = .ok (.bipush (-2), 2) := by decide +kernel
theorem d10_calm_26 : decode m10_calm.2.1 26 = .ok (.ireturn, 1) := by decide +kernel
theorem d10_calm_27 : decode m10_calm.2.1 27 = .ok (.iload_n 3, 1) := by decide +kernel
theorem d10_calm_28 : decode m10_calm.2.1 28 = .ok (.tableswitch 111 0 4 #[36, 47, 70, 91, 104], 36) := by decide +kernel
theorem d10_calm_64 : decode m10_calm.2.1 64 = .ok (.aload_n 0, 1) := by decide +kernel
theorem d10_calm_65 : decode m10_calm.2.1 65 = .ok (.getfield 30, 3) := by decide +kernel
theorem d10_calm_68 : decode m10_calm.2.1 68 = .ok (.aload 4, 2) := by decide +kernel
theorem d10_calm_70 : decode m10_calm.2.1 70 = .ok (.iload_n 2, 1) := by decide +kernel
theorem d10_calm_71 : decode m10_calm.2.1 71 = .ok (.invokevirtual 218, 3) := by decide +kernel
theorem d10_calm_74 : decode m10_calm.2.1 74 = .ok (.ireturn, 1) := by decide +kernel
theorem d10_calm_75 : decode m10_calm.2.1 75 = .ok (.aload_n 0, 1) := by decide +kernel
theorem d10_calm_76 : decode m10_calm.2.1 76 = .ok (.getfield 30, 3) := by decide +kernel
theorem d10_calm_79 : decode m10_calm.2.1 79 = .ok (.aload 4, 2) := by decide +kernel
theorem d10_calm_81 : decode m10_calm.2.1 81 = .ok (.iload_n 2, 1) := by decide +kernel
theorem d10_calm_82 : decode m10_calm.2.1 82 = .ok (.invokevirtual 218, 3) := by decide +kernel
theorem d10_calm_85 : decode m10_calm.2.1 85 = .ok (.pop, 1) := by decide +kernel
theorem d10_calm_86 : decode m10_calm.2.1 86 = .ok (.aload_n 0, 1) := by decide +kernel
theorem d10_calm_87 : decode m10_calm.2.1 87 = .ok (.getfield 30, 3) := by decide +kernel
theorem d10_calm_90 : decode m10_calm.2.1 90 = .ok (.getfield 221, 3) := by decide +kernel
theorem d10_calm_93 : decode m10_calm.2.1 93 = .ok (.iload_n 2, 1) := by decide +kernel
theorem d10_calm_94 : decode m10_calm.2.1 94 = .ok (.invokevirtual 225, 3) := by decide +kernel
theorem d10_calm_97 : decode m10_calm.2.1 97 = .ok (.ireturn, 1) := by decide +kernel
theorem d10_calm_98 : decode m10_calm.2.1 98 = .ok (.aload 4, 2) := by decide +kernel
theorem d10_calm_100 : decode m10_calm.2.1 100 = .ok (.iload_n 2, 1) := by decide +kernel
theorem d10_calm_101 : decode m10_calm.2.1 101 = .ok (.invokevirtual 225, 3) := by decide +kernel
theorem d10_calm_104 : decode m10_calm.2.1 104 = .ok (.iconst (-1), 1) := by decide +kernel
theorem d10_calm_105 : decode m10_calm.2.1 105 = .ok (.if_icmp .ne 7, 3) := by decide +kernel
theorem d10_calm_108 : decode m10_calm.2.1 108 = .ok (.iconst (-1), 1) := by decide +kernel
theorem d10_calm_109 : decode m10_calm.2.1 109 = .ok (.goto 9, 3) := by decide +kernel
theorem d10_calm_112 : decode m10_calm.2.1 112 = .ok (.aload 4, 2) := by decide +kernel
theorem d10_calm_114 : decode m10_calm.2.1 114 = .ok (.iload_n 2, 1) := by decide +kernel
theorem d10_calm_115 : decode m10_calm.2.1 115 = .ok (.invokevirtual 228, 3) := by decide +kernel
theorem d10_calm_118 : decode m10_calm.2.1 118 = .ok (.ireturn, 1) := by decide +kernel
theorem d10_calm_119 : decode m10_calm.2.1 119 = .ok (.aload 4, 2) := by decide +kernel
theorem d10_calm_121 : decode m10_calm.2.1 121 = .ok (.iload_n 2, 1) := by decide +kernel
theorem d10_calm_122 : decode m10_calm.2.1 122 = .ok (.aload 4, 2) := by decide +kernel
theorem d10_calm_124 : decode m10_calm.2.1 124 = .ok (.iload_n 2, 1) := by decide +kernel
theorem d10_calm_125 : decode m10_calm.2.1 125 = .ok (.invokevirtual 228, 3) := by decide +kernel
theorem d10_calm_128 : decode m10_calm.2.1 128 = .ok (.invokevirtual 231, 3) := by decide +kernel
theorem d10_calm_131 : decode m10_calm.2.1 131 = .ok (.ireturn, 1) := by decide +kernel
theorem d10_calm_132 : decode m10_calm.2.1 132 = .ok (.aload 4, 2) := by decide +kernel
theorem d10_calm_134 : decode m10_calm.2.1 134 = .ok (.iload_n 2, 1) := by decide +kernel
theorem d10_calm_135 : decode m10_calm.2.1 135 = .ok (.invokevirtual 234, 3) := by decide +kernel
theorem d10_calm_138 : decode m10_calm.2.1 138 = .ok (.ireturn, 1) := by decide +kernel
theorem d10_calm_139 : decode m10_calm.2.1 139 = .ok (.bipush (-2), 2) := by decide +kernel
theorem d10_calm_141 : decode m10_calm.2.1 141 = .ok (.ireturn, 1) := by decide +kernel
def f10_calm (x1 : Int) (x2 : Int) (x3 : Int) (h : AH) : Option (Int × AH) :=
  bnd (f8_villageAt 1 x1 h) fun r1 h2 =>
  if r1 < 0 then
    some ((-2), h2)
  else
    bnd (f9_hasSubject r1.toNat x2 h2) fun r8 h9 =>
    if ¬ w32 r8 = 0 then
      if w32 x3 = 0 then
        bnd (f7_makeCalm r1.toNat x2 h9) fun r14 h15 =>
        some (r14, h15)
      else
      if w32 x3 = 1 then
        bnd (f7_makeCalm r1.toNat x2 h9) fun r20 h21 =>
        bnd (f9_firstHeld 42 x2 h21) fun r25 h26 =>
        some (r25, h26)
      else
      if w32 x3 = 2 then
        bnd (f9_firstHeld r1.toNat x2 h9) fun r31 h32 =>
        if ¬ w32 r31 = (-1) then
          bnd (f9_middle r1.toNat x2 h32) fun r36 h37 =>
          some (r36, h37)
        else
          some ((-1), h32)
      else
      if w32 x3 = 3 then
        bnd (f9_middle r1.toNat x2 h9) fun r42 h43 =>
        bnd (f9_differing r1.toNat x2 r42 h43) fun r47 h48 =>
        some (r47, h48)
      else
      if w32 x3 = 4 then
        bnd (f9_leavingForOath r1.toNat x2 h9) fun r53 h54 =>
        some (r53, h54)
      else
      some ((-2), h9)
    else
      some ((-2), h9)
set_option maxRecDepth 100000 in
theorem c10_calm (l : Launch) (G : Geo) (x1 : Int) (x2 : Int) (x3 : Int) (h : AH) : Con l G m10_calm rvI 7 [vA G 0, vI x1, vI x2, vI x3] h (f10_calm x1 x2 x3 h) := by
  have hd : 7 ≤ 7 := Nat.le_refl _
  refine con_I rfl (by decide) rfl rfl (Nat.le_of_ble_eq_true rfl) (L := [some (vA G 0), some (vI x1), some (vI x2), some (vI x3), none]) ?_
  unfold f10_calm
  refine den_aload_n (pc := 0) d10_calm_0 rfl rfl ?_
  refine den_getR (pc := 1) (b := 1) fa_10_10 (ok_0 _) rfl d10_calm_1 ?_
  refine den_iload_n (pc := 4) d10_calm_4 rfl rfl ?_
  refine den_callVR (pc := 5) (As := [vI x1]) fv_10_101 rfl rfl (ok_1 _) (Nat.le_of_ble_eq_true rfl) (Nat.le_trans (by decide) hd) d10_calm_5 (c8_villageAt l G 1 x1 h (ok_1 _)) (fun r1 h2 m3 o4 => ?_)
  have q5 := RO.v o4
  refine den_astoreR (pc := 8) (L2 := [some (vA G 0), some (vI x1), some (vI x2), some (vI x3), some (vR G r1)]) d10_calm_8 (by decide) rfl ?_
  refine den_aloadR (pc := 10) d10_calm_10 rfl ?_
  refine den_ifnull (pc := 12) (tgt := 24) d10_calm_12 (by decide) (fun _ => ?_) (fun n6 => ?_)
  · refine den_bipush (pc := 24) d10_calm_24 (by decide) ?_
    exact den_iret (pc := 26) rfl d10_calm_26
  · rw [vR_pos G n6]
    have q7 := Or.resolve_left q5 n6
    refine den_aload (pc := 15) d10_calm_15 rfl ?_
    refine den_iload_n (pc := 17) d10_calm_17 rfl rfl ?_
    refine den_callVI (pc := 18) (As := [vI x2]) fv_10_215 rfl rfl q7 (Nat.le_of_ble_eq_true rfl) (Nat.le_trans (by decide) hd) d10_calm_18 (c9_hasSubject l G r1.toNat x2 h2 q7) (fun r8 h9 m10 o11 => ?_)
    have q12 := ok.mono q7 m10
    refine den_if_ne (pc := 21) (tgt := 27) d10_calm_21 (by decide) rfl (fun _ => ?_) (fun _ => ?_)
    · refine den_iload_n (pc := 27) d10_calm_27 rfl rfl ?_
      refine den_ite (fun c13 => ?_) (fun c13 => ?_)
      · refine den_tableIn (pc := 28) (tgt := 64) d10_calm_28 (by omega) (by omega) (by rw [c13]; rfl) (by decide) ?_
        refine den_aload_n (pc := 64) d10_calm_64 rfl rfl ?_
        refine den_getR (pc := 65) (b := 41) fa_10_30 (ok_0 _) rfl d10_calm_65 ?_
        refine den_aload (pc := 68) d10_calm_68 rfl ?_
        refine den_iload_n (pc := 70) d10_calm_70 rfl rfl ?_
        refine den_callVI (pc := 71) (As := [vA G r1.toNat, vI x2]) fv_10_218 rfl rfl (ok_41 _) (Nat.le_of_ble_eq_true rfl) (Nat.le_trans (by decide) hd) d10_calm_71 (c7_makeCalm l G r1.toNat x2 h9 q12) (fun r14 h15 m16 o17 => ?_)
        have q18 := ok.mono q12 m16
        exact den_iret (pc := 74) rfl d10_calm_74
      refine den_ite (fun c19 => ?_) (fun c19 => ?_)
      · refine den_tableIn (pc := 28) (tgt := 75) d10_calm_28 (by omega) (by omega) (by rw [c19]; rfl) (by decide) ?_
        refine den_aload_n (pc := 75) d10_calm_75 rfl rfl ?_
        refine den_getR (pc := 76) (b := 41) fa_10_30 (ok_0 _) rfl d10_calm_76 ?_
        refine den_aload (pc := 79) d10_calm_79 rfl ?_
        refine den_iload_n (pc := 81) d10_calm_81 rfl rfl ?_
        refine den_callVI (pc := 82) (As := [vA G r1.toNat, vI x2]) fv_10_218 rfl rfl (ok_41 _) (Nat.le_of_ble_eq_true rfl) (Nat.le_trans (by decide) hd) d10_calm_82 (c7_makeCalm l G r1.toNat x2 h9 q12) (fun r20 h21 m22 o23 => ?_)
        have q24 := ok.mono q12 m22
        refine den_pop (pc := 85) d10_calm_85 rfl ?_
        refine den_aload_n (pc := 86) d10_calm_86 rfl rfl ?_
        refine den_getR (pc := 87) (b := 41) fa_10_30 (ok_0 _) rfl d10_calm_87 ?_
        refine den_getR (pc := 90) (b := 42) fa_10_221 (ok_41 _) rfl d10_calm_90 ?_
        refine den_iload_n (pc := 93) d10_calm_93 rfl rfl ?_
        refine den_callVI (pc := 94) (As := [vI x2]) fv_10_225 rfl rfl (ok_42 _) (Nat.le_of_ble_eq_true rfl) (Nat.le_trans (by decide) hd) d10_calm_94 (c9_firstHeld l G 42 x2 h21 (ok_42 _)) (fun r25 h26 m27 o28 => ?_)
        have q29 := ok.mono q24 m27
        exact den_iret (pc := 97) rfl d10_calm_97
      refine den_ite (fun c30 => ?_) (fun c30 => ?_)
      · refine den_tableIn (pc := 28) (tgt := 98) d10_calm_28 (by omega) (by omega) (by rw [c30]; rfl) (by decide) ?_
        refine den_aload (pc := 98) d10_calm_98 rfl ?_
        refine den_iload_n (pc := 100) d10_calm_100 rfl rfl ?_
        refine den_callVI (pc := 101) (As := [vI x2]) fv_10_225 rfl rfl q12 (Nat.le_of_ble_eq_true rfl) (Nat.le_trans (by decide) hd) d10_calm_101 (c9_firstHeld l G r1.toNat x2 h9 q12) (fun r31 h32 m33 o34 => ?_)
        have q35 := ok.mono q12 m33
        refine den_iconst (pc := 104) d10_calm_104 ?_
        refine den_icmp_ne (pc := 105) (tgt := 112) d10_calm_105 (by decide) rfl (by decide) (fun _ => ?_) (fun _ => ?_)
        · refine den_aload (pc := 112) d10_calm_112 rfl ?_
          refine den_iload_n (pc := 114) d10_calm_114 rfl rfl ?_
          refine den_callVI (pc := 115) (As := [vI x2]) fv_10_228 rfl rfl q35 (Nat.le_of_ble_eq_true rfl) (Nat.le_trans (by decide) hd) d10_calm_115 (c9_middle l G r1.toNat x2 h32 q35) (fun r36 h37 m38 o39 => ?_)
          have q40 := ok.mono q35 m38
          exact den_iret (pc := 118) rfl d10_calm_118
        · refine den_iconst (pc := 108) d10_calm_108 ?_
          refine den_goto (pc := 109) (tgt := 118) d10_calm_109 (by decide) ?_
          exact den_iret (pc := 118) rfl d10_calm_118
      refine den_ite (fun c41 => ?_) (fun c41 => ?_)
      · refine den_tableIn (pc := 28) (tgt := 119) d10_calm_28 (by omega) (by omega) (by rw [c41]; rfl) (by decide) ?_
        refine den_aload (pc := 119) d10_calm_119 rfl ?_
        refine den_iload_n (pc := 121) d10_calm_121 rfl rfl ?_
        refine den_aload (pc := 122) d10_calm_122 rfl ?_
        refine den_iload_n (pc := 124) d10_calm_124 rfl rfl ?_
        refine den_callVI (pc := 125) (As := [vI x2]) fv_10_228 rfl rfl q12 (Nat.le_of_ble_eq_true rfl) (Nat.le_trans (by decide) hd) d10_calm_125 (c9_middle l G r1.toNat x2 h9 q12) (fun r42 h43 m44 o45 => ?_)
        have q46 := ok.mono q12 m44
        refine den_callVI (pc := 128) (As := [vI x2, vI r42]) fv_10_231 rfl rfl q46 (Nat.le_of_ble_eq_true rfl) (Nat.le_trans (by decide) hd) d10_calm_128 (c9_differing l G r1.toNat x2 r42 h43 q46) (fun r47 h48 m49 o50 => ?_)
        have q51 := ok.mono q46 m49
        exact den_iret (pc := 131) rfl d10_calm_131
      refine den_ite (fun c52 => ?_) (fun c52 => ?_)
      · refine den_tableIn (pc := 28) (tgt := 132) d10_calm_28 (by omega) (by omega) (by rw [c52]; rfl) (by decide) ?_
        refine den_aload (pc := 132) d10_calm_132 rfl ?_
        refine den_iload_n (pc := 134) d10_calm_134 rfl rfl ?_
        refine den_callVI (pc := 135) (As := [vI x2]) fv_10_234 rfl rfl q12 (Nat.le_of_ble_eq_true rfl) (Nat.le_trans (by decide) hd) d10_calm_135 (c9_leavingForOath l G r1.toNat x2 h9 q12) (fun r53 h54 m55 o56 => ?_)
        have q57 := ok.mono q12 m55
        exact den_iret (pc := 138) rfl d10_calm_138
      refine den_tableOut (pc := 28) (tgt := 139) d10_calm_28 (by omega) (by decide) ?_
      refine den_bipush (pc := 139) d10_calm_139 (by decide) ?_
      exact den_iret (pc := 141) rfl d10_calm_141
    · refine den_bipush (pc := 24) d10_calm_24 (by decide) ?_
      exact den_iret (pc := 26) rfl d10_calm_26
theorem d10_hired_0 : decode m10_hired.2.1 0 = .ok (.aload_n 0, 1) := by decide +kernel
theorem d10_hired_1 : decode m10_hired.2.1 1 = .ok (.getfield 10, 3) := by decide +kernel
theorem d10_hired_4 : decode m10_hired.2.1 4 = .ok (.iload_n 1, 1) := by decide +kernel
theorem d10_hired_5 : decode m10_hired.2.1 5 = .ok (.invokevirtual 101, 3) := by decide +kernel
theorem d10_hired_8 : decode m10_hired.2.1 8 = .ok (.astore 5, 2) := by decide +kernel
theorem d10_hired_10 : decode m10_hired.2.1 10 = .ok (.aload 5, 2) := by decide +kernel
theorem d10_hired_12 : decode m10_hired.2.1 12 = .ok (.ifnull 13, 3) := by decide +kernel
theorem d10_hired_15 : decode m10_hired.2.1 15 = .ok (.aload 5, 2) := by decide +kernel
theorem d10_hired_17 : decode m10_hired.2.1 17 = .ok (.iload_n 2, 1) := by decide +kernel
theorem d10_hired_18 : decode m10_hired.2.1 18 = .ok (.iload_n 3, 1) := by decide +kernel
theorem d10_hired_19 : decode m10_hired.2.1 19 = .ok (.invokevirtual 143, 3) := by decide +kernel
theorem d10_hired_22 : decode m10_hired.2.1 22 = .ok (.ifCond .ne 5, 3) := by decide +kernel
theorem d10_hired_25 : decode m10_hired.2.1 25 = .ok (.iconst (-1), 1) := by decide +kernel
theorem d10_hired_26 : decode m10_hired.2.1 26 = .ok (.ireturn, 1) := by decide +kernel
theorem d10_hired_27 : decode m10_hired.2.1 27 = .ok (.iconst (-1), 1) := by decide +kernel
theorem d10_hired_28 : decode m10_hired.2.1 28 = .ok (.istore 6, 2) := by decide +kernel
theorem d10_hired_30 : decode m10_hired.2.1 30 = .ok (.iconst 0, 1) := by decide +kernel
theorem d10_hired_31 : decode m10_hired.2.1 31 = .ok (.istore 7, 2) := by decide +kernel
theorem d10_hired_33 : decode m10_hired.2.1 33 = .ok (.iconst 0, 1) := by decide +kernel
theorem d10_hired_34 : decode m10_hired.2.1 34 = .ok (.istore 8, 2) := by decide +kernel
theorem d10_hired_36 : decode m10_hired.2.1 36 = .ok (.iload 8, 2) := by decide +kernel
theorem d10_hired_38 : decode m10_hired.2.1 38 = .ok (.aload 5, 2) := by decide +kernel
theorem d10_hired_40 : decode m10_hired.2.1 40 = .ok (.getfield 237, 3) := by decide +kernel
theorem d10_hired_43 : decode m10_hired.2.1 43 = .ok (.if_icmp .ge 34, 3) := by decide +kernel
theorem d10_hired_46 : decode m10_hired.2.1 46 = .ok (.aload 5, 2) := by decide +kernel
theorem d10_hired_48 : decode m10_hired.2.1 48 = .ok (.iload_n 3, 1) := by decide +kernel
theorem d10_hired_49 : decode m10_hired.2.1 49 = .ok (.iload 8, 2) := by decide +kernel
theorem d10_hired_51 : decode m10_hired.2.1 51 = .ok (.invokevirtual 240, 3) := by decide +kernel
theorem d10_hired_54 : decode m10_hired.2.1 54 = .ok (.istore 9, 2) := by decide +kernel
theorem d10_hired_56 : decode m10_hired.2.1 56 = .ok (.iload 9, 2) := by decide +kernel
theorem d10_hired_58 : decode m10_hired.2.1 58 = .ok (.iload 7, 2) := by decide +kernel
theorem d10_hired_60 : decode m10_hired.2.1 60 = .ok (.if_icmp .le 11, 3) := by decide +kernel
theorem d10_hired_63 : decode m10_hired.2.1 63 = .ok (.iload 8, 2) := by decide +kernel
theorem d10_hired_65 : decode m10_hired.2.1 65 = .ok (.istore 6, 2) := by decide +kernel
theorem d10_hired_67 : decode m10_hired.2.1 67 = .ok (.iload 9, 2) := by decide +kernel
theorem d10_hired_69 : decode m10_hired.2.1 69 = .ok (.istore 7, 2) := by decide +kernel
theorem d10_hired_71 : decode m10_hired.2.1 71 = .ok (.iinc 8 1, 3) := by decide +kernel
theorem d10_hired_74 : decode m10_hired.2.1 74 = .ok (.goto (-38), 3) := by decide +kernel
theorem d10_hired_77 : decode m10_hired.2.1 77 = .ok (.iload 6, 2) := by decide +kernel
theorem d10_hired_79 : decode m10_hired.2.1 79 = .ok (.iconst (-1), 1) := by decide +kernel
theorem d10_hired_80 : decode m10_hired.2.1 80 = .ok (.if_icmp .eq 8, 3) := by decide +kernel
theorem d10_hired_83 : decode m10_hired.2.1 83 = .ok (.iload 4, 2) := by decide +kernel
theorem d10_hired_85 : decode m10_hired.2.1 85 = .ok (.ifCond .ne 8, 3) := by decide +kernel
theorem d10_hired_88 : decode m10_hired.2.1 88 = .ok (.iload 6, 2) := by decide +kernel
theorem d10_hired_90 : decode m10_hired.2.1 90 = .ok (.goto 5, 3) := by decide +kernel
theorem d10_hired_93 : decode m10_hired.2.1 93 = .ok (.iload 7, 2) := by decide +kernel
theorem d10_hired_95 : decode m10_hired.2.1 95 = .ok (.ireturn, 1) := by decide +kernel
def b10_hired_71 (rec36 : Int × Int × Int × AH → Option (Int × AH)) (x3 : Int) (x4 : Int) (x5 : Nat) (x6 : Int) (x7 : Int) (x8 : Int) (h : AH) : Option (Int × AH) :=
  rec36 (x6, x7, (x8 + 1), h)
set_option maxRecDepth 100000 in
theorem t10_hired_71 (l : Launch) (G : Geo) (d : Nat) (hd : 5 ≤ d) (x3 : Int) (x4 : Int) (x5 : Nat) (x6 : Int) (x7 : Int) (x8 : Int) (rec36 : Int × Int × Int × AH → Option (Int × AH)) (H36 : ∀ (x6 : Int) (x7 : Int) (x8 : Int) (h : AH), ok h.1 x5 9 → Den l G m10_hired rvI d 36 [none, none, none, some (vI x3), some (vI x4), some (vA G x5), some (vI x6), some (vI x7), some (vI x8), none] [] h (rec36 (x6, x7, x8, h))) (h : AH) (kx5 : ok h.1 x5 9) : Den l G m10_hired rvI d 71 [none, none, none, some (vI x3), some (vI x4), some (vA G x5), some (vI x6), some (vI x7), some (vI x8), none] [] h (b10_hired_71 rec36 x3 x4 x5 x6 x7 x8 h) := by
  unfold b10_hired_71
  refine den_iinc (pc := 71) (L2 := [none, none, none, some (vI x3), some (vI x4), some (vA G x5), some (vI x6), some (vI x7), some (vI (x8 + 1)), none]) d10_hired_71 (by decide) rfl rfl ?_
  refine den_goto (pc := 74) (tgt := 36) d10_hired_74 (by decide) ?_
  exact H36 x6 x7 (x8 + 1) h kx5
def b10_hired_36 (rec36 : Int × Int × Int × AH → Option (Int × AH)) (x3 : Int) (x4 : Int) (x5 : Nat) (x6 : Int) (x7 : Int) (x8 : Int) (h : AH) : Option (Int × AH) :=
  if w32 (h.2 x5 1) ≤ w32 x8 then
    if w32 x6 = (-1) then
      some (x6, h)
    else
      if ¬ w32 x4 = 0 then
        some (x7, h)
      else
        some (x6, h)
  else
    bnd (f9_burningByHire x5 x3 x8 h) fun r1 h2 =>
    if w32 r1 ≤ w32 x7 then
      b10_hired_71 rec36 x3 x4 x5 x6 x7 x8 h2
    else
      b10_hired_71 rec36 x3 x4 x5 x8 r1 x8 h2
set_option maxRecDepth 100000 in
theorem t10_hired_36 (l : Launch) (G : Geo) (d : Nat) (hd : 5 ≤ d) (x3 : Int) (x4 : Int) (x5 : Nat) (x6 : Int) (x7 : Int) (x8 : Int) (rec36 : Int × Int × Int × AH → Option (Int × AH)) (H36 : ∀ (x6 : Int) (x7 : Int) (x8 : Int) (h : AH), ok h.1 x5 9 → Den l G m10_hired rvI d 36 [none, none, none, some (vI x3), some (vI x4), some (vA G x5), some (vI x6), some (vI x7), some (vI x8), none] [] h (rec36 (x6, x7, x8, h))) (h : AH) (kx5 : ok h.1 x5 9) : Den l G m10_hired rvI d 36 [none, none, none, some (vI x3), some (vI x4), some (vA G x5), some (vI x6), some (vI x7), some (vI x8), none] [] h (b10_hired_36 rec36 x3 x4 x5 x6 x7 x8 h) := by
  unfold b10_hired_36
  refine den_iload (pc := 36) d10_hired_36 rfl ?_
  refine den_aload (pc := 38) d10_hired_38 rfl ?_
  refine den_getI (pc := 40) fa_10_237 kx5 d10_hired_40 ?_
  refine den_icmp_ge (pc := 43) (tgt := 77) d10_hired_43 (by decide) rfl rfl (fun _ => ?_) (fun _ => ?_)
  · refine den_iload (pc := 77) d10_hired_77 rfl ?_
    refine den_iconst (pc := 79) d10_hired_79 ?_
    refine den_icmp_eq (pc := 80) (tgt := 88) d10_hired_80 (by decide) rfl (by decide) (fun _ => ?_) (fun _ => ?_)
    · refine den_iload (pc := 88) d10_hired_88 rfl ?_
      refine den_goto (pc := 90) (tgt := 95) d10_hired_90 (by decide) ?_
      exact den_iret (pc := 95) rfl d10_hired_95
    · refine den_iload (pc := 83) d10_hired_83 rfl ?_
      refine den_if_ne (pc := 85) (tgt := 93) d10_hired_85 (by decide) rfl (fun _ => ?_) (fun _ => ?_)
      · refine den_iload (pc := 93) d10_hired_93 rfl ?_
        exact den_iret (pc := 95) rfl d10_hired_95
      · refine den_iload (pc := 88) d10_hired_88 rfl ?_
        refine den_goto (pc := 90) (tgt := 95) d10_hired_90 (by decide) ?_
        exact den_iret (pc := 95) rfl d10_hired_95
  · refine den_aload (pc := 46) d10_hired_46 rfl ?_
    refine den_iload_n (pc := 48) d10_hired_48 rfl rfl ?_
    refine den_iload (pc := 49) d10_hired_49 rfl ?_
    refine den_callVI (pc := 51) (As := [vI x3, vI x8]) fv_10_240 rfl rfl kx5 (Nat.le_of_ble_eq_true rfl) (Nat.le_trans (by decide) hd) d10_hired_51 (c9_burningByHire l G x5 x3 x8 h kx5) (fun r1 h2 m3 o4 => ?_)
    have q5 := ok.mono kx5 m3
    refine den_istore (pc := 54) (L2 := [none, none, none, some (vI x3), some (vI x4), some (vA G x5), some (vI x6), some (vI x7), some (vI x8), some (vI r1)]) d10_hired_54 (by decide) rfl ?_
    refine den_iload (pc := 56) d10_hired_56 rfl ?_
    refine den_iload (pc := 58) d10_hired_58 rfl ?_
    refine den_icmp_le (pc := 60) (tgt := 71) d10_hired_60 (by decide) rfl rfl (fun _ => ?_) (fun _ => ?_)
    · refine den_wk [true, true, true, true, true, true, true, true, true, false] rfl ?_
      exact t10_hired_71 l G _ hd x3 x4 x5 x6 x7 x8 rec36 H36 h2 q5
    · refine den_iload (pc := 63) d10_hired_63 rfl ?_
      refine den_istore (pc := 65) (L2 := [none, none, none, some (vI x3), some (vI x4), some (vA G x5), some (vI x8), some (vI x7), some (vI x8), some (vI r1)]) d10_hired_65 (by decide) rfl ?_
      refine den_iload (pc := 67) d10_hired_67 rfl ?_
      refine den_istore (pc := 69) (L2 := [none, none, none, some (vI x3), some (vI x4), some (vA G x5), some (vI x8), some (vI r1), some (vI x8), some (vI r1)]) d10_hired_69 (by decide) rfl ?_
      refine den_wk [true, true, true, true, true, true, true, true, true, false] rfl ?_
      exact t10_hired_71 l G _ hd x3 x4 x5 x8 r1 x8 rec36 H36 h2 q5
def l10_hired_36 (x3 : Int) (x4 : Int) (x5 : Nat) (x6 : Int) (x7 : Int) (x8 : Int) (h : AH) : Option (Int × AH) := fx (fun rec z => b10_hired_36 rec x3 x4 x5 z.1 z.2.1 z.2.2.1 z.2.2.2) FU (x6, x7, x8, h)
set_option maxRecDepth 100000 in
theorem tl10_hired_36 (l : Launch) (G : Geo) (d : Nat) (hd : 5 ≤ d) (x3 : Int) (x4 : Int) (x5 : Nat) : ∀ (n : Nat) (z : Int × Int × Int × AH), ok z.2.2.2.1 x5 9 → Den l G m10_hired rvI d 36 [none, none, none, some (vI x3), some (vI x4), some (vA G x5), some (vI z.1), some (vI z.2.1), some (vI z.2.2.1), none] [] z.2.2.2 (fx (fun rec z => b10_hired_36 rec x3 x4 x5 z.1 z.2.1 z.2.2.1 z.2.2.2) n z) :=
  den_fx (F := fun rec z => b10_hired_36 rec x3 x4 x5 z.1 z.2.1 z.2.2.1 z.2.2.2) (P := fun z => ok z.2.2.2.1 x5 9) (fL := fun z => [none, none, none, some (vI x3), some (vI x4), some (vA G x5), some (vI z.1), some (vI z.2.1), some (vI z.2.2.1), none]) (fs := fun z => []) (fh := fun z => z.2.2.2) (fun rec hrec z hz => t10_hired_36 l G d hd x3 x4 x5 z.1 z.2.1 z.2.2.1 rec (fun x6 x7 x8 h w0 => hrec (x6, x7, x8, h) w0) z.2.2.2 hz)
def f10_hired (x1 : Int) (x2 : Int) (x3 : Int) (x4 : Int) (h : AH) : Option (Int × AH) :=
  bnd (f8_villageAt 1 x1 h) fun r6 h7 =>
  if r6 < 0 then
    some ((-1), h7)
  else
    bnd (f9_hasCouple r6.toNat x2 x3 h7) fun r13 h14 =>
    if ¬ w32 r13 = 0 then
      l10_hired_36 x3 x4 r6.toNat (-1) 0 0 h14
    else
      some ((-1), h14)
set_option maxRecDepth 100000 in
theorem c10_hired (l : Launch) (G : Geo) (x1 : Int) (x2 : Int) (x3 : Int) (x4 : Int) (h : AH) : Con l G m10_hired rvI 5 [vA G 0, vI x1, vI x2, vI x3, vI x4] h (f10_hired x1 x2 x3 x4 h) := by
  have hd : 5 ≤ 5 := Nat.le_refl _
  refine con_I rfl (by decide) rfl rfl (Nat.le_of_ble_eq_true rfl) (L := [some (vA G 0), some (vI x1), some (vI x2), some (vI x3), some (vI x4), none, none, none, none, none]) ?_
  unfold f10_hired
  refine den_aload_n (pc := 0) d10_hired_0 rfl rfl ?_
  refine den_getR (pc := 1) (b := 1) fa_10_10 (ok_0 _) rfl d10_hired_1 ?_
  refine den_iload_n (pc := 4) d10_hired_4 rfl rfl ?_
  refine den_callVR (pc := 5) (As := [vI x1]) fv_10_101 rfl rfl (ok_1 _) (Nat.le_of_ble_eq_true rfl) (Nat.le_trans (by decide) hd) d10_hired_5 (c8_villageAt l G 1 x1 h (ok_1 _)) (fun r6 h7 m8 o9 => ?_)
  have q10 := RO.v o9
  refine den_astoreR (pc := 8) (L2 := [some (vA G 0), some (vI x1), some (vI x2), some (vI x3), some (vI x4), some (vR G r6), none, none, none, none]) d10_hired_8 (by decide) rfl ?_
  refine den_aloadR (pc := 10) d10_hired_10 rfl ?_
  refine den_ifnull (pc := 12) (tgt := 25) d10_hired_12 (by decide) (fun _ => ?_) (fun n11 => ?_)
  · refine den_iconst (pc := 25) d10_hired_25 ?_
    exact den_iret (pc := 26) rfl d10_hired_26
  · rw [vR_pos G n11]
    have q12 := Or.resolve_left q10 n11
    refine den_aload (pc := 15) d10_hired_15 rfl ?_
    refine den_iload_n (pc := 17) d10_hired_17 rfl rfl ?_
    refine den_iload_n (pc := 18) d10_hired_18 rfl rfl ?_
    refine den_callVI (pc := 19) (As := [vI x2, vI x3]) fv_10_143 rfl rfl q12 (Nat.le_of_ble_eq_true rfl) (Nat.le_trans (by decide) hd) d10_hired_19 (c9_hasCouple l G r6.toNat x2 x3 h7 q12) (fun r13 h14 m15 o16 => ?_)
    have q17 := ok.mono q12 m15
    refine den_if_ne (pc := 22) (tgt := 27) d10_hired_22 (by decide) rfl (fun _ => ?_) (fun _ => ?_)
    · refine den_iconst (pc := 27) d10_hired_27 ?_
      refine den_istore (pc := 28) (L2 := [some (vA G 0), some (vI x1), some (vI x2), some (vI x3), some (vI x4), some (vA G r6.toNat), some (vI (-1)), none, none, none]) d10_hired_28 (by decide) rfl ?_
      refine den_iconst (pc := 30) d10_hired_30 ?_
      refine den_istore (pc := 31) (L2 := [some (vA G 0), some (vI x1), some (vI x2), some (vI x3), some (vI x4), some (vA G r6.toNat), some (vI (-1)), some (vI 0), none, none]) d10_hired_31 (by decide) rfl ?_
      refine den_iconst (pc := 33) d10_hired_33 ?_
      refine den_istore (pc := 34) (L2 := [some (vA G 0), some (vI x1), some (vI x2), some (vI x3), some (vI x4), some (vA G r6.toNat), some (vI (-1)), some (vI 0), some (vI 0), none]) d10_hired_34 (by decide) rfl ?_
      refine den_wk [false, false, false, true, true, true, true, true, true, true] rfl ?_
      exact tl10_hired_36 l G _ hd x3 x4 r6.toNat FU ((-1), 0, 0, h14) q17
    · refine den_iconst (pc := 25) d10_hired_25 ?_
      exact den_iret (pc := 26) rfl d10_hired_26
theorem d10_filled_0 : decode m10_filled.2.1 0 = .ok (.aload_n 0, 1) := by decide +kernel
theorem d10_filled_1 : decode m10_filled.2.1 1 = .ok (.getfield 10, 3) := by decide +kernel
theorem d10_filled_4 : decode m10_filled.2.1 4 = .ok (.iload_n 1, 1) := by decide +kernel
theorem d10_filled_5 : decode m10_filled.2.1 5 = .ok (.invokevirtual 101, 3) := by decide +kernel
theorem d10_filled_8 : decode m10_filled.2.1 8 = .ok (.astore 4, 2) := by decide +kernel
theorem d10_filled_10 : decode m10_filled.2.1 10 = .ok (.aload 4, 2) := by decide +kernel
theorem d10_filled_12 : decode m10_filled.2.1 12 = .ok (.ifnull 12, 3) := by decide +kernel
theorem d10_filled_15 : decode m10_filled.2.1 15 = .ok (.aload 4, 2) := by decide +kernel
theorem d10_filled_17 : decode m10_filled.2.1 17 = .ok (.iload_n 2, 1) := by decide +kernel
theorem d10_filled_18 : decode m10_filled.2.1 18 = .ok (.invokevirtual 150, 3) := by decide +kernel
theorem d10_filled_21 : decode m10_filled.2.1 21 = .ok (.ifCond .ne 5, 3) := by decide +kernel
theorem d10_filled_24 : decode m10_filled.2.1 24 = .ok (.iconst (-1), 1) := by decide +kernel
theorem d10_filled_25 : decode m10_filled.2.1 25 = .ok (.ireturn, 1) := by decide +kernel
theorem d10_filled_26 : decode m10_filled.2.1 26 = .ok (.aload_n 0, 1) := by decide +kernel
theorem d10_filled_27 : decode m10_filled.2.1 27 = .ok (.getfield 44, 3) := by decide +kernel
theorem d10_filled_30 : decode m10_filled.2.1 30 = .ok (.aload 4, 2) := by decide +kernel
theorem d10_filled_32 : decode m10_filled.2.1 32 = .ok (.iload_n 2, 1) := by decide +kernel
theorem d10_filled_33 : decode m10_filled.2.1 33 = .ok (.invokevirtual 243, 3) := by decide +kernel
theorem d10_filled_36 : decode m10_filled.2.1 36 = .ok (.iload_n 3, 1) := by decide +kernel
theorem d10_filled_37 : decode m10_filled.2.1 37 = .ok (.iconst (-1), 1) := by decide +kernel
theorem d10_filled_38 : decode m10_filled.2.1 38 = .ok (.if_icmp .ne 11, 3) := by decide +kernel
theorem d10_filled_41 : decode m10_filled.2.1 41 = .ok (.aload_n 0, 1) := by decide +kernel
theorem d10_filled_42 : decode m10_filled.2.1 42 = .ok (.getfield 44, 3) := by decide +kernel
theorem d10_filled_45 : decode m10_filled.2.1 45 = .ok (.getfield 158, 3) := by decide +kernel
theorem d10_filled_48 : decode m10_filled.2.1 48 = .ok (.ireturn, 1) := by decide +kernel
theorem d10_filled_49 : decode m10_filled.2.1 49 = .ok (.iload_n 3, 1) := by decide +kernel
theorem d10_filled_50 : decode m10_filled.2.1 50 = .ok (.ifCond .lt 26, 3) := by decide +kernel
theorem d10_filled_53 : decode m10_filled.2.1 53 = .ok (.iload_n 3, 1) := by decide +kernel
theorem d10_filled_54 : decode m10_filled.2.1 54 = .ok (.aload_n 0, 1) := by decide +kernel
theorem d10_filled_55 : decode m10_filled.2.1 55 = .ok (.getfield 44, 3) := by decide +kernel
theorem d10_filled_58 : decode m10_filled.2.1 58 = .ok (.getfield 247, 3) := by decide +kernel
theorem d10_filled_61 : decode m10_filled.2.1 61 = .ok (.if_icmp .ge 15, 3) := by decide +kernel
theorem d10_filled_64 : decode m10_filled.2.1 64 = .ok (.aload_n 0, 1) := by decide +kernel
theorem d10_filled_65 : decode m10_filled.2.1 65 = .ok (.getfield 44, 3) := by decide +kernel
theorem d10_filled_68 : decode m10_filled.2.1 68 = .ok (.getfield 161, 3) := by decide +kernel
theorem d10_filled_71 : decode m10_filled.2.1 71 = .ok (.iload_n 3, 1) := by decide +kernel
theorem d10_filled_72 : decode m10_filled.2.1 72 = .ok (.iaload, 1) := by decide +kernel
theorem d10_filled_73 : decode m10_filled.2.1 73 = .ok (.goto 4, 3) := by decide +kernel
theorem d10_filled_76 : decode m10_filled.2.1 76 = .ok (.iconst (-1), 1) := by decide +kernel
theorem d10_filled_77 : decode m10_filled.2.1 77 = .ok (.ireturn, 1) := by decide +kernel
def f10_filled (x1 : Int) (x2 : Int) (x3 : Int) (h : AH) : Option (Int × AH) :=
  bnd (f8_villageAt 1 x1 h) fun r1 h2 =>
  if r1 < 0 then
    some ((-1), h2)
  else
    bnd (f9_hasHearth r1.toNat x2 h2) fun r8 h9 =>
    if ¬ w32 r8 = 0 then
      bnd (f4_fill r1.toNat x2 h9) fun r13 h14 =>
      if ¬ w32 x3 = (-1) then
        if w32 x3 < 0 then
          some ((-1), h14)
        else
          if w32 (h14.2 53 1) ≤ w32 x3 then
            some ((-1), h14)
          else
            asrt (0 ≤ w32 x3 ∧ w32 x3 < 4) <|
            some (h14.2 54 (w32 x3).toNat, h14)
      else
        some (h14.2 53 2, h14)
    else
      some ((-1), h9)
set_option maxRecDepth 100000 in
theorem c10_filled (l : Launch) (G : Geo) (x1 : Int) (x2 : Int) (x3 : Int) (h : AH) : Con l G m10_filled rvI 7 [vA G 0, vI x1, vI x2, vI x3] h (f10_filled x1 x2 x3 h) := by
  have hd : 7 ≤ 7 := Nat.le_refl _
  refine con_I rfl (by decide) rfl rfl (Nat.le_of_ble_eq_true rfl) (L := [some (vA G 0), some (vI x1), some (vI x2), some (vI x3), none]) ?_
  unfold f10_filled
  refine den_aload_n (pc := 0) d10_filled_0 rfl rfl ?_
  refine den_getR (pc := 1) (b := 1) fa_10_10 (ok_0 _) rfl d10_filled_1 ?_
  refine den_iload_n (pc := 4) d10_filled_4 rfl rfl ?_
  refine den_callVR (pc := 5) (As := [vI x1]) fv_10_101 rfl rfl (ok_1 _) (Nat.le_of_ble_eq_true rfl) (Nat.le_trans (by decide) hd) d10_filled_5 (c8_villageAt l G 1 x1 h (ok_1 _)) (fun r1 h2 m3 o4 => ?_)
  have q5 := RO.v o4
  refine den_astoreR (pc := 8) (L2 := [some (vA G 0), some (vI x1), some (vI x2), some (vI x3), some (vR G r1)]) d10_filled_8 (by decide) rfl ?_
  refine den_aloadR (pc := 10) d10_filled_10 rfl ?_
  refine den_ifnull (pc := 12) (tgt := 24) d10_filled_12 (by decide) (fun _ => ?_) (fun n6 => ?_)
  · refine den_iconst (pc := 24) d10_filled_24 ?_
    exact den_iret (pc := 25) rfl d10_filled_25
  · rw [vR_pos G n6]
    have q7 := Or.resolve_left q5 n6
    refine den_aload (pc := 15) d10_filled_15 rfl ?_
    refine den_iload_n (pc := 17) d10_filled_17 rfl rfl ?_
    refine den_callVI (pc := 18) (As := [vI x2]) fv_10_150 rfl rfl q7 (Nat.le_of_ble_eq_true rfl) (Nat.le_trans (by decide) hd) d10_filled_18 (c9_hasHearth l G r1.toNat x2 h2 q7) (fun r8 h9 m10 o11 => ?_)
    have q12 := ok.mono q7 m10
    refine den_if_ne (pc := 21) (tgt := 26) d10_filled_21 (by decide) rfl (fun _ => ?_) (fun _ => ?_)
    · refine den_aload_n (pc := 26) d10_filled_26 rfl rfl ?_
      refine den_getR (pc := 27) (b := 53) fa_10_44 (ok_0 _) rfl d10_filled_27 ?_
      refine den_aload (pc := 30) d10_filled_30 rfl ?_
      refine den_iload_n (pc := 32) d10_filled_32 rfl rfl ?_
      refine den_callVV (pc := 33) (As := [vA G r1.toNat, vI x2]) fv_10_243 rfl rfl (ok_53 _) (Nat.le_of_ble_eq_true rfl) (Nat.le_trans (by decide) hd) d10_filled_33 (c4_fill l G r1.toNat x2 h9 q12) (fun r13 h14 m15 o16 => ?_)
      have q17 := ok.mono q12 m15
      refine den_iload_n (pc := 36) d10_filled_36 rfl rfl ?_
      refine den_iconst (pc := 37) d10_filled_37 ?_
      refine den_icmp_ne (pc := 38) (tgt := 49) d10_filled_38 (by decide) rfl (by decide) (fun _ => ?_) (fun _ => ?_)
      · refine den_iload_n (pc := 49) d10_filled_49 rfl rfl ?_
        refine den_if_lt (pc := 50) (tgt := 76) d10_filled_50 (by decide) rfl (fun _ => ?_) (fun _ => ?_)
        · refine den_iconst (pc := 76) d10_filled_76 ?_
          exact den_iret (pc := 77) rfl d10_filled_77
        · refine den_iload_n (pc := 53) d10_filled_53 rfl rfl ?_
          refine den_aload_n (pc := 54) d10_filled_54 rfl rfl ?_
          refine den_getR (pc := 55) (b := 53) fa_10_44 (ok_0 _) rfl d10_filled_55 ?_
          refine den_getI (pc := 58) fa_10_247 (ok_53 _) d10_filled_58 ?_
          refine den_icmp_ge (pc := 61) (tgt := 76) d10_filled_61 (by decide) rfl rfl (fun _ => ?_) (fun _ => ?_)
          · refine den_iconst (pc := 76) d10_filled_76 ?_
            exact den_iret (pc := 77) rfl d10_filled_77
          · refine den_aload_n (pc := 64) d10_filled_64 rfl rfl ?_
            refine den_getR (pc := 65) (b := 53) fa_10_44 (ok_0 _) rfl d10_filled_65 ?_
            refine den_getR (pc := 68) (b := 54) fa_10_161 (ok_53 _) rfl d10_filled_68 ?_
            refine den_iload_n (pc := 71) d10_filled_71 rfl rfl ?_
            refine den_asrt (fun a18 => ?_)
            refine den_iaload (pc := 72) sh_54 (sz_lt (by decide)) rfl a18 d10_filled_72 ?_
            refine den_goto (pc := 73) (tgt := 77) d10_filled_73 (by decide) ?_
            exact den_iret (pc := 77) rfl d10_filled_77
      · refine den_aload_n (pc := 41) d10_filled_41 rfl rfl ?_
        refine den_getR (pc := 42) (b := 53) fa_10_44 (ok_0 _) rfl d10_filled_42 ?_
        refine den_getI (pc := 45) fa_10_158 (ok_53 _) d10_filled_45 ?_
        exact den_iret (pc := 48) rfl d10_filled_48
    · refine den_iconst (pc := 24) d10_filled_24 ?_
      exact den_iret (pc := 25) rfl d10_filled_25
theorem d10_halves_0 : decode m10_halves.2.1 0 = .ok (.aload_n 0, 1) := by decide +kernel
theorem d10_halves_1 : decode m10_halves.2.1 1 = .ok (.getfield 10, 3) := by decide +kernel
theorem d10_halves_4 : decode m10_halves.2.1 4 = .ok (.iload_n 1, 1) := by decide +kernel
theorem d10_halves_5 : decode m10_halves.2.1 5 = .ok (.invokevirtual 101, 3) := by decide +kernel
theorem d10_halves_8 : decode m10_halves.2.1 8 = .ok (.astore_n 3, 1) := by decide +kernel
theorem d10_halves_9 : decode m10_halves.2.1 9 = .ok (.aload_n 3, 1) := by decide +kernel
theorem d10_halves_10 : decode m10_halves.2.1 10 = .ok (.ifnull 10, 3) := by decide +kernel
theorem d10_halves_13 : decode m10_halves.2.1 13 = .ok (.aload_n 3, 1) := by decide +kernel
theorem d10_halves_14 : decode m10_halves.2.1 14 = .ok (.getfield 250, 3) := by decide +kernel
theorem d10_halves_17 : decode m10_halves.2.1 17 = .ok (.ifCond .ne 5, 3) := by decide +kernel
theorem d10_halves_20 : decode m10_halves.2.1 20 = .ok (.iconst (-1), 1) := by decide +kernel
theorem d10_halves_21 : decode m10_halves.2.1 21 = .ok (.ireturn, 1) := by decide +kernel
theorem d10_halves_22 : decode m10_halves.2.1 22 = .ok (.aload_n 0, 1) := by decide +kernel
theorem d10_halves_23 : decode m10_halves.2.1 23 = .ok (.getfield 37, 3) := by decide +kernel
theorem d10_halves_26 : decode m10_halves.2.1 26 = .ok (.aload_n 3, 1) := by decide +kernel
theorem d10_halves_27 : decode m10_halves.2.1 27 = .ok (.invokevirtual 253, 3) := by decide +kernel
theorem d10_halves_30 : decode m10_halves.2.1 30 = .ok (.aload_n 0, 1) := by decide +kernel
theorem d10_halves_31 : decode m10_halves.2.1 31 = .ok (.getfield 37, 3) := by decide +kernel
theorem d10_halves_34 : decode m10_halves.2.1 34 = .ok (.invokevirtual 256, 3) := by decide +kernel
theorem d10_halves_37 : decode m10_halves.2.1 37 = .ok (.istore 4, 2) := by decide +kernel
theorem d10_halves_39 : decode m10_halves.2.1 39 = .ok (.iload_n 2, 1) := by decide +kernel
theorem d10_halves_40 : decode m10_halves.2.1 40 = .ok (.ifCond .eq 8, 3) := by decide +kernel
theorem d10_halves_43 : decode m10_halves.2.1 43 = .ok (.iload 4, 2) := by decide +kernel
theorem d10_halves_45 : decode m10_halves.2.1 45 = .ok (.goto 12, 3) := by decide +kernel
theorem d10_halves_48 : decode m10_halves.2.1 48 = .ok (.aload_n 0, 1) := by decide +kernel
theorem d10_halves_49 : decode m10_halves.2.1 49 = .ok (.getfield 37, 3) := by decide +kernel
theorem d10_halves_52 : decode m10_halves.2.1 52 = .ok (.iload 4, 2) := by decide +kernel
theorem d10_halves_54 : decode m10_halves.2.1 54 = .ok (.invokevirtual 259, 3) := by decide +kernel
theorem d10_halves_57 : decode m10_halves.2.1 57 = .ok (.ireturn, 1) := by decide +kernel
def f10_halves (x1 : Int) (x2 : Int) (h : AH) : Option (Int × AH) :=
  bnd (f8_villageAt 1 x1 h) fun r1 h2 =>
  if r1 < 0 then
    some ((-1), h2)
  else
    if ¬ w32 (h2.2 r1.toNat 0) = 0 then
      bnd (f1_gatherKeenest r1.toNat h2) fun r8 h9 =>
      bnd (f1_bestCamp h9) fun r13 h14 =>
      if w32 x2 = 0 then
        bnd (f1_acrossCamps r13 h14) fun r18 h19 =>
        some (r18, h19)
      else
        some (r13, h14)
    else
      some ((-1), h2)
set_option maxRecDepth 100000 in
theorem c10_halves (l : Launch) (G : Geo) (x1 : Int) (x2 : Int) (h : AH) : Con l G m10_halves rvI 7 [vA G 0, vI x1, vI x2] h (f10_halves x1 x2 h) := by
  have hd : 7 ≤ 7 := Nat.le_refl _
  refine con_I rfl (by decide) rfl rfl (Nat.le_of_ble_eq_true rfl) (L := [some (vA G 0), some (vI x1), some (vI x2), none, none]) ?_
  unfold f10_halves
  refine den_aload_n (pc := 0) d10_halves_0 rfl rfl ?_
  refine den_getR (pc := 1) (b := 1) fa_10_10 (ok_0 _) rfl d10_halves_1 ?_
  refine den_iload_n (pc := 4) d10_halves_4 rfl rfl ?_
  refine den_callVR (pc := 5) (As := [vI x1]) fv_10_101 rfl rfl (ok_1 _) (Nat.le_of_ble_eq_true rfl) (Nat.le_trans (by decide) hd) d10_halves_5 (c8_villageAt l G 1 x1 h (ok_1 _)) (fun r1 h2 m3 o4 => ?_)
  have q5 := RO.v o4
  refine den_astoreR_n (pc := 8) (L2 := [some (vA G 0), some (vI x1), some (vI x2), some (vR G r1), none]) d10_halves_8 rfl (by decide) rfl ?_
  refine den_aloadR_n (pc := 9) d10_halves_9 rfl rfl ?_
  refine den_ifnull (pc := 10) (tgt := 20) d10_halves_10 (by decide) (fun _ => ?_) (fun n6 => ?_)
  · refine den_iconst (pc := 20) d10_halves_20 ?_
    exact den_iret (pc := 21) rfl d10_halves_21
  · rw [vR_pos G n6]
    have q7 := Or.resolve_left q5 n6
    refine den_aload_n (pc := 13) d10_halves_13 rfl rfl ?_
    refine den_getI (pc := 14) fa_10_250 q7 d10_halves_14 ?_
    refine den_if_ne (pc := 17) (tgt := 22) d10_halves_17 (by decide) rfl (fun _ => ?_) (fun _ => ?_)
    · refine den_aload_n (pc := 22) d10_halves_22 rfl rfl ?_
      refine den_getR (pc := 23) (b := 50) fa_10_37 (ok_0 _) rfl d10_halves_23 ?_
      refine den_aload_n (pc := 26) d10_halves_26 rfl rfl ?_
      refine den_callVV (pc := 27) (As := [vA G r1.toNat]) fv_10_253 rfl rfl (ok_50 _) (Nat.le_of_ble_eq_true rfl) (Nat.le_trans (by decide) hd) d10_halves_27 (c1_gatherKeenest l G r1.toNat h2 q7) (fun r8 h9 m10 o11 => ?_)
      have q12 := ok.mono q7 m10
      refine den_aload_n (pc := 30) d10_halves_30 rfl rfl ?_
      refine den_getR (pc := 31) (b := 50) fa_10_37 (ok_0 _) rfl d10_halves_31 ?_
      refine den_callVI (pc := 34) (As := []) fv_10_256 rfl rfl (ok_50 _) (Nat.le_of_ble_eq_true rfl) (Nat.le_trans (by decide) hd) d10_halves_34 (c1_bestCamp l G h9) (fun r13 h14 m15 o16 => ?_)
      have q17 := ok.mono q12 m15
      refine den_istore (pc := 37) (L2 := [some (vA G 0), some (vI x1), some (vI x2), some (vA G r1.toNat), some (vI r13)]) d10_halves_37 (by decide) rfl ?_
      refine den_iload_n (pc := 39) d10_halves_39 rfl rfl ?_
      refine den_if_eq (pc := 40) (tgt := 48) d10_halves_40 (by decide) rfl (fun _ => ?_) (fun _ => ?_)
      · refine den_aload_n (pc := 48) d10_halves_48 rfl rfl ?_
        refine den_getR (pc := 49) (b := 50) fa_10_37 (ok_0 _) rfl d10_halves_49 ?_
        refine den_iload (pc := 52) d10_halves_52 rfl ?_
        refine den_callVI (pc := 54) (As := [vI r13]) fv_10_259 rfl rfl (ok_50 _) (Nat.le_of_ble_eq_true rfl) (Nat.le_trans (by decide) hd) d10_halves_54 (c1_acrossCamps l G r13 h14) (fun r18 h19 m20 o21 => ?_)
        have q22 := ok.mono q17 m20
        exact den_iret (pc := 57) rfl d10_halves_57
      · refine den_iload (pc := 43) d10_halves_43 rfl ?_
        refine den_goto (pc := 45) (tgt := 57) d10_halves_45 (by decide) ?_
        exact den_iret (pc := 57) rfl d10_halves_57
    · refine den_iconst (pc := 20) d10_halves_20 ?_
      exact den_iret (pc := 21) rfl d10_halves_21
theorem d10_circle_0 : decode m10_circle.2.1 0 = .ok (.aload_n 0, 1) := by decide +kernel
theorem d10_circle_1 : decode m10_circle.2.1 1 = .ok (.getfield 10, 3) := by decide +kernel
theorem d10_circle_4 : decode m10_circle.2.1 4 = .ok (.iload_n 1, 1) := by decide +kernel
theorem d10_circle_5 : decode m10_circle.2.1 5 = .ok (.invokevirtual 101, 3) := by decide +kernel
theorem d10_circle_8 : decode m10_circle.2.1 8 = .ok (.astore_n 3, 1) := by decide +kernel
theorem d10_circle_9 : decode m10_circle.2.1 9 = .ok (.aload_n 3, 1) := by decide +kernel
theorem d10_circle_10 : decode m10_circle.2.1 10 = .ok (.ifnonnull 5, 3) := by decide +kernel
theorem d10_circle_13 : decode m10_circle.2.1 13 = .ok (.iconst (-1), 1) := by decide +kernel
theorem d10_circle_14 : decode m10_circle.2.1 14 = .ok (.ireturn, 1) := by decide +kernel
theorem d10_circle_15 : decode m10_circle.2.1 15 = .ok (.aload_n 0, 1) := by decide +kernel
theorem d10_circle_16 : decode m10_circle.2.1 16 = .ok (.getfield 58, 3) := by decide +kernel
theorem d10_circle_19 : decode m10_circle.2.1 19 = .ok (.aload_n 3, 1) := by decide +kernel
theorem d10_circle_20 : decode m10_circle.2.1 20 = .ok (.invokevirtual 262, 3) := by decide +kernel
theorem d10_circle_23 : decode m10_circle.2.1 23 = .ok (.aload_n 0, 1) := by decide +kernel
theorem d10_circle_24 : decode m10_circle.2.1 24 = .ok (.getfield 58, 3) := by decide +kernel
theorem d10_circle_27 : decode m10_circle.2.1 27 = .ok (.invokevirtual 264, 3) := by decide +kernel
theorem d10_circle_30 : decode m10_circle.2.1 30 = .ok (.iload_n 2, 1) := by decide +kernel
theorem d10_circle_31 : decode m10_circle.2.1 31 = .ok (.iconst (-1), 1) := by decide +kernel
theorem d10_circle_32 : decode m10_circle.2.1 32 = .ok (.if_icmp .ne 11, 3) := by decide +kernel
theorem d10_circle_35 : decode m10_circle.2.1 35 = .ok (.aload_n 0, 1) := by decide +kernel
theorem d10_circle_36 : decode m10_circle.2.1 36 = .ok (.getfield 58, 3) := by decide +kernel
theorem d10_circle_39 : decode m10_circle.2.1 39 = .ok (.getfield 267, 3) := by decide +kernel
theorem d10_circle_42 : decode m10_circle.2.1 42 = .ok (.ireturn, 1) := by decide +kernel
theorem d10_circle_43 : decode m10_circle.2.1 43 = .ok (.iload_n 2, 1) := by decide +kernel
theorem d10_circle_44 : decode m10_circle.2.1 44 = .ok (.ifCond .lt 26, 3) := by decide +kernel
theorem d10_circle_47 : decode m10_circle.2.1 47 = .ok (.iload_n 2, 1) := by decide +kernel
theorem d10_circle_48 : decode m10_circle.2.1 48 = .ok (.aload_n 0, 1) := by decide +kernel
theorem d10_circle_49 : decode m10_circle.2.1 49 = .ok (.getfield 58, 3) := by decide +kernel
theorem d10_circle_52 : decode m10_circle.2.1 52 = .ok (.getfield 267, 3) := by decide +kernel
theorem d10_circle_55 : decode m10_circle.2.1 55 = .ok (.if_icmp .ge 15, 3) := by decide +kernel
theorem d10_circle_58 : decode m10_circle.2.1 58 = .ok (.aload_n 0, 1) := by decide +kernel
theorem d10_circle_59 : decode m10_circle.2.1 59 = .ok (.getfield 58, 3) := by decide +kernel
theorem d10_circle_62 : decode m10_circle.2.1 62 = .ok (.getfield 268, 3) := by decide +kernel
theorem d10_circle_65 : decode m10_circle.2.1 65 = .ok (.iload_n 2, 1) := by decide +kernel
theorem d10_circle_66 : decode m10_circle.2.1 66 = .ok (.iaload, 1) := by decide +kernel
theorem d10_circle_67 : decode m10_circle.2.1 67 = .ok (.goto 4, 3) := by decide +kernel
theorem d10_circle_70 : decode m10_circle.2.1 70 = .ok (.iconst (-1), 1) := by decide +kernel
theorem d10_circle_71 : decode m10_circle.2.1 71 = .ok (.ireturn, 1) := by decide +kernel
def f10_circle (x1 : Int) (x2 : Int) (h : AH) : Option (Int × AH) :=
  bnd (f8_villageAt 1 x1 h) fun r1 h2 =>
  if r1 < 0 then
    some ((-1), h2)
  else
    bnd (f0_gather r1.toNat h2) fun r8 h9 =>
    bnd (f0_findLongest h9) fun r13 h14 =>
    if ¬ w32 x2 = (-1) then
      if w32 x2 < 0 then
        some ((-1), h14)
      else
        if w32 (h14.2 62 1) ≤ w32 x2 then
          some ((-1), h14)
        else
          asrt (0 ≤ w32 x2 ∧ w32 x2 < 8) <|
          some (h14.2 63 (w32 x2).toNat, h14)
    else
      some (h14.2 62 1, h14)
set_option maxRecDepth 100000 in
theorem c10_circle (l : Launch) (G : Geo) (x1 : Int) (x2 : Int) (h : AH) : Con l G m10_circle rvI 15 [vA G 0, vI x1, vI x2] h (f10_circle x1 x2 h) := by
  have hd : 15 ≤ 15 := Nat.le_refl _
  refine con_I rfl (by decide) rfl rfl (Nat.le_of_ble_eq_true rfl) (L := [some (vA G 0), some (vI x1), some (vI x2), none]) ?_
  unfold f10_circle
  refine den_aload_n (pc := 0) d10_circle_0 rfl rfl ?_
  refine den_getR (pc := 1) (b := 1) fa_10_10 (ok_0 _) rfl d10_circle_1 ?_
  refine den_iload_n (pc := 4) d10_circle_4 rfl rfl ?_
  refine den_callVR (pc := 5) (As := [vI x1]) fv_10_101 rfl rfl (ok_1 _) (Nat.le_of_ble_eq_true rfl) (Nat.le_trans (by decide) hd) d10_circle_5 (c8_villageAt l G 1 x1 h (ok_1 _)) (fun r1 h2 m3 o4 => ?_)
  have q5 := RO.v o4
  refine den_astoreR_n (pc := 8) (L2 := [some (vA G 0), some (vI x1), some (vI x2), some (vR G r1)]) d10_circle_8 rfl (by decide) rfl ?_
  refine den_aloadR_n (pc := 9) d10_circle_9 rfl rfl ?_
  refine den_ifnonnull (pc := 10) (tgt := 15) d10_circle_10 (by decide) (fun _ => ?_) (fun n6 => ?_)
  · refine den_iconst (pc := 13) d10_circle_13 ?_
    exact den_iret (pc := 14) rfl d10_circle_14
  · rw [vR_pos G n6]
    have q7 := Or.resolve_left q5 n6
    refine den_aload_n (pc := 15) d10_circle_15 rfl rfl ?_
    refine den_getR (pc := 16) (b := 62) fa_10_58 (ok_0 _) rfl d10_circle_16 ?_
    refine den_aload_n (pc := 19) d10_circle_19 rfl rfl ?_
    refine den_callVV (pc := 20) (As := [vA G r1.toNat]) fv_10_262 rfl rfl (ok_62 _) (Nat.le_of_ble_eq_true rfl) (Nat.le_trans (by decide) hd) d10_circle_20 (c0_gather l G r1.toNat h2 q7) (fun r8 h9 m10 o11 => ?_)
    have q12 := ok.mono q7 m10
    refine den_aload_n (pc := 23) d10_circle_23 rfl rfl ?_
    refine den_getR (pc := 24) (b := 62) fa_10_58 (ok_0 _) rfl d10_circle_24 ?_
    refine den_callVV (pc := 27) (As := []) fv_10_264 rfl rfl (ok_62 _) (Nat.le_of_ble_eq_true rfl) (Nat.le_trans (by decide) hd) d10_circle_27 (c0_findLongest l G h9) (fun r13 h14 m15 o16 => ?_)
    have q17 := ok.mono q12 m15
    refine den_iload_n (pc := 30) d10_circle_30 rfl rfl ?_
    refine den_iconst (pc := 31) d10_circle_31 ?_
    refine den_icmp_ne (pc := 32) (tgt := 43) d10_circle_32 (by decide) rfl (by decide) (fun _ => ?_) (fun _ => ?_)
    · refine den_iload_n (pc := 43) d10_circle_43 rfl rfl ?_
      refine den_if_lt (pc := 44) (tgt := 70) d10_circle_44 (by decide) rfl (fun _ => ?_) (fun _ => ?_)
      · refine den_iconst (pc := 70) d10_circle_70 ?_
        exact den_iret (pc := 71) rfl d10_circle_71
      · refine den_iload_n (pc := 47) d10_circle_47 rfl rfl ?_
        refine den_aload_n (pc := 48) d10_circle_48 rfl rfl ?_
        refine den_getR (pc := 49) (b := 62) fa_10_58 (ok_0 _) rfl d10_circle_49 ?_
        refine den_getI (pc := 52) fa_10_267 (ok_62 _) d10_circle_52 ?_
        refine den_icmp_ge (pc := 55) (tgt := 70) d10_circle_55 (by decide) rfl rfl (fun _ => ?_) (fun _ => ?_)
        · refine den_iconst (pc := 70) d10_circle_70 ?_
          exact den_iret (pc := 71) rfl d10_circle_71
        · refine den_aload_n (pc := 58) d10_circle_58 rfl rfl ?_
          refine den_getR (pc := 59) (b := 62) fa_10_58 (ok_0 _) rfl d10_circle_59 ?_
          refine den_getR (pc := 62) (b := 63) fa_10_268 (ok_62 _) rfl d10_circle_62 ?_
          refine den_iload_n (pc := 65) d10_circle_65 rfl rfl ?_
          refine den_asrt (fun a18 => ?_)
          refine den_iaload (pc := 66) sh_63 (sz_lt (by decide)) rfl a18 d10_circle_66 ?_
          refine den_goto (pc := 67) (tgt := 71) d10_circle_67 (by decide) ?_
          exact den_iret (pc := 71) rfl d10_circle_71
    · refine den_aload_n (pc := 35) d10_circle_35 rfl rfl ?_
      refine den_getR (pc := 36) (b := 62) fa_10_58 (ok_0 _) rfl d10_circle_36 ?_
      refine den_getI (pc := 39) fa_10_267 (ok_62 _) d10_circle_39 ?_
      exact den_iret (pc := 42) rfl d10_circle_42
theorem d10_kindred_0 : decode m10_kindred.2.1 0 = .ok (.aload_n 0, 1) := by decide +kernel
theorem d10_kindred_1 : decode m10_kindred.2.1 1 = .ok (.getfield 10, 3) := by decide +kernel
theorem d10_kindred_4 : decode m10_kindred.2.1 4 = .ok (.iload_n 1, 1) := by decide +kernel
theorem d10_kindred_5 : decode m10_kindred.2.1 5 = .ok (.invokevirtual 101, 3) := by decide +kernel
theorem d10_kindred_8 : decode m10_kindred.2.1 8 = .ok (.astore_n 3, 1) := by decide +kernel
theorem d10_kindred_9 : decode m10_kindred.2.1 9 = .ok (.aload_n 3, 1) := by decide +kernel
theorem d10_kindred_10 : decode m10_kindred.2.1 10 = .ok (.ifnonnull 6, 3) := by decide +kernel
theorem d10_kindred_13 : decode m10_kindred.2.1 13 = .ok (.bipush (-2), 2) := by decide +kernel
theorem d10_kindred_15 : decode m10_kindred.2.1 15 = .ok (.ireturn, 1) := by decide +kernel
theorem d10_kindred_16 : decode m10_kindred.2.1 16 = .ok (.iload_n 2, 1) := by decide +kernel
theorem d10_kindred_17 : decode m10_kindred.2.1 17 = .ok (.tableswitch 53 0 2 #[27, 32, 37], 27) := by decide +kernel
theorem d10_kindred_44 : decode m10_kindred.2.1 44 = .ok (.aload_n 3, 1) := by decide +kernel
theorem d10_kindred_45 : decode m10_kindred.2.1 45 = .ok (.invokevirtual 269, 3) := by decide +kernel
theorem d10_kindred_48 : decode m10_kindred.2.1 48 = .ok (.ireturn, 1) := by decide +kernel
theorem d10_kindred_49 : decode m10_kindred.2.1 49 = .ok (.aload_n 3, 1) := by decide +kernel
theorem d10_kindred_50 : decode m10_kindred.2.1 50 = .ok (.invokevirtual 272, 3) := by decide +kernel
theorem d10_kindred_53 : decode m10_kindred.2.1 53 = .ok (.ireturn, 1) := by decide +kernel
theorem d10_kindred_54 : decode m10_kindred.2.1 54 = .ok (.aload_n 0, 1) := by decide +kernel
theorem d10_kindred_55 : decode m10_kindred.2.1 55 = .ok (.getfield 58, 3) := by decide +kernel
theorem d10_kindred_58 : decode m10_kindred.2.1 58 = .ok (.aload_n 3, 1) := by decide +kernel
theorem d10_kindred_59 : decode m10_kindred.2.1 59 = .ok (.invokevirtual 262, 3) := by decide +kernel
theorem d10_kindred_62 : decode m10_kindred.2.1 62 = .ok (.aload_n 0, 1) := by decide +kernel
theorem d10_kindred_63 : decode m10_kindred.2.1 63 = .ok (.getfield 58, 3) := by decide +kernel
theorem d10_kindred_66 : decode m10_kindred.2.1 66 = .ok (.invokevirtual 275, 3) := by decide +kernel
theorem d10_kindred_69 : decode m10_kindred.2.1 69 = .ok (.ireturn, 1) := by decide +kernel
theorem d10_kindred_70 : decode m10_kindred.2.1 70 = .ok (.iload_n 2, 1) := by decide +kernel
theorem d10_kindred_71 : decode m10_kindred.2.1 71 = .ok (.bipush 10, 2) := by decide +kernel
theorem d10_kindred_73 : decode m10_kindred.2.1 73 = .ok (.if_icmp .lt 14, 3) := by decide +kernel
theorem d10_kindred_76 : decode m10_kindred.2.1 76 = .ok (.aload_n 3, 1) := by decide +kernel
theorem d10_kindred_77 : decode m10_kindred.2.1 77 = .ok (.iload_n 2, 1) := by decide +kernel
theorem d10_kindred_78 : decode m10_kindred.2.1 78 = .ok (.bipush 10, 2) := by decide +kernel
theorem d10_kindred_80 : decode m10_kindred.2.1 80 = .ok (.isub, 1) := by decide +kernel
theorem d10_kindred_81 : decode m10_kindred.2.1 81 = .ok (.invokevirtual 165, 3) := by decide +kernel
theorem d10_kindred_84 : decode m10_kindred.2.1 84 = .ok (.ifCond .ne 6, 3) := by decide +kernel
theorem d10_kindred_87 : decode m10_kindred.2.1 87 = .ok (.bipush (-2), 2) := by decide +kernel
theorem d10_kindred_89 : decode m10_kindred.2.1 89 = .ok (.ireturn, 1) := by decide +kernel
theorem d10_kindred_90 : decode m10_kindred.2.1 90 = .ok (.aload_n 0, 1) := by decide +kernel
theorem d10_kindred_91 : decode m10_kindred.2.1 91 = .ok (.getfield 37, 3) := by decide +kernel
theorem d10_kindred_94 : decode m10_kindred.2.1 94 = .ok (.aload_n 3, 1) := by decide +kernel
theorem d10_kindred_95 : decode m10_kindred.2.1 95 = .ok (.invokevirtual 168, 3) := by decide +kernel
theorem d10_kindred_98 : decode m10_kindred.2.1 98 = .ok (.aload_n 0, 1) := by decide +kernel
theorem d10_kindred_99 : decode m10_kindred.2.1 99 = .ok (.getfield 37, 3) := by decide +kernel
theorem d10_kindred_102 : decode m10_kindred.2.1 102 = .ok (.iload_n 2, 1) := by decide +kernel
theorem d10_kindred_103 : decode m10_kindred.2.1 103 = .ok (.bipush 10, 2) := by decide +kernel
theorem d10_kindred_105 : decode m10_kindred.2.1 105 = .ok (.isub, 1) := by decide +kernel
theorem d10_kindred_106 : decode m10_kindred.2.1 106 = .ok (.invokevirtual 278, 3) := by decide +kernel
theorem d10_kindred_109 : decode m10_kindred.2.1 109 = .ok (.ireturn, 1) := by decide +kernel
def f10_kindred (x1 : Int) (x2 : Int) (h : AH) : Option (Int × AH) :=
  bnd (f8_villageAt 1 x1 h) fun r1 h2 =>
  if r1 < 0 then
    some ((-2), h2)
  else
    if w32 x2 = 0 then
      bnd (f9_kins r1.toNat h2) fun r9 h10 =>
      some (r9, h10)
    else
    if w32 x2 = 1 then
      bnd (f9_largestKin r1.toNat h2) fun r15 h16 =>
      some (r15, h16)
    else
    if w32 x2 = 2 then
      bnd (f0_gather r1.toNat h2) fun r21 h22 =>
      bnd (f0_trios h22) fun r26 h27 =>
      some (r26, h27)
    else
    if w32 x2 < 10 then
      some ((-2), h2)
    else
      bnd (f9_hasPerson r1.toNat (x2 - 10) h2) fun r31 h32 =>
      if ¬ w32 r31 = 0 then
        bnd (f1_gatherTogether r1.toNat h32) fun r36 h37 =>
        bnd (f1_ranked (x2 - 10) h37) fun r41 h42 =>
        some (r41, h42)
      else
        some ((-2), h32)
set_option maxRecDepth 100000 in
theorem c10_kindred (l : Launch) (G : Geo) (x1 : Int) (x2 : Int) (h : AH) : Con l G m10_kindred rvI 7 [vA G 0, vI x1, vI x2] h (f10_kindred x1 x2 h) := by
  have hd : 7 ≤ 7 := Nat.le_refl _
  refine con_I rfl (by decide) rfl rfl (Nat.le_of_ble_eq_true rfl) (L := [some (vA G 0), some (vI x1), some (vI x2), none]) ?_
  unfold f10_kindred
  refine den_aload_n (pc := 0) d10_kindred_0 rfl rfl ?_
  refine den_getR (pc := 1) (b := 1) fa_10_10 (ok_0 _) rfl d10_kindred_1 ?_
  refine den_iload_n (pc := 4) d10_kindred_4 rfl rfl ?_
  refine den_callVR (pc := 5) (As := [vI x1]) fv_10_101 rfl rfl (ok_1 _) (Nat.le_of_ble_eq_true rfl) (Nat.le_trans (by decide) hd) d10_kindred_5 (c8_villageAt l G 1 x1 h (ok_1 _)) (fun r1 h2 m3 o4 => ?_)
  have q5 := RO.v o4
  refine den_astoreR_n (pc := 8) (L2 := [some (vA G 0), some (vI x1), some (vI x2), some (vR G r1)]) d10_kindred_8 rfl (by decide) rfl ?_
  refine den_aloadR_n (pc := 9) d10_kindred_9 rfl rfl ?_
  refine den_ifnonnull (pc := 10) (tgt := 16) d10_kindred_10 (by decide) (fun _ => ?_) (fun n6 => ?_)
  · refine den_bipush (pc := 13) d10_kindred_13 (by decide) ?_
    exact den_iret (pc := 15) rfl d10_kindred_15
  · rw [vR_pos G n6]
    have q7 := Or.resolve_left q5 n6
    refine den_iload_n (pc := 16) d10_kindred_16 rfl rfl ?_
    refine den_ite (fun c8 => ?_) (fun c8 => ?_)
    · refine den_tableIn (pc := 17) (tgt := 44) d10_kindred_17 (by omega) (by omega) (by rw [c8]; rfl) (by decide) ?_
      refine den_aload_n (pc := 44) d10_kindred_44 rfl rfl ?_
      refine den_callVI (pc := 45) (As := []) fv_10_269 rfl rfl q7 (Nat.le_of_ble_eq_true rfl) (Nat.le_trans (by decide) hd) d10_kindred_45 (c9_kins l G r1.toNat h2 q7) (fun r9 h10 m11 o12 => ?_)
      have q13 := ok.mono q7 m11
      exact den_iret (pc := 48) rfl d10_kindred_48
    refine den_ite (fun c14 => ?_) (fun c14 => ?_)
    · refine den_tableIn (pc := 17) (tgt := 49) d10_kindred_17 (by omega) (by omega) (by rw [c14]; rfl) (by decide) ?_
      refine den_aload_n (pc := 49) d10_kindred_49 rfl rfl ?_
      refine den_callVI (pc := 50) (As := []) fv_10_272 rfl rfl q7 (Nat.le_of_ble_eq_true rfl) (Nat.le_trans (by decide) hd) d10_kindred_50 (c9_largestKin l G r1.toNat h2 q7) (fun r15 h16 m17 o18 => ?_)
      have q19 := ok.mono q7 m17
      exact den_iret (pc := 53) rfl d10_kindred_53
    refine den_ite (fun c20 => ?_) (fun c20 => ?_)
    · refine den_tableIn (pc := 17) (tgt := 54) d10_kindred_17 (by omega) (by omega) (by rw [c20]; rfl) (by decide) ?_
      refine den_aload_n (pc := 54) d10_kindred_54 rfl rfl ?_
      refine den_getR (pc := 55) (b := 62) fa_10_58 (ok_0 _) rfl d10_kindred_55 ?_
      refine den_aload_n (pc := 58) d10_kindred_58 rfl rfl ?_
      refine den_callVV (pc := 59) (As := [vA G r1.toNat]) fv_10_262 rfl rfl (ok_62 _) (Nat.le_of_ble_eq_true rfl) (Nat.le_trans (by decide) hd) d10_kindred_59 (c0_gather l G r1.toNat h2 q7) (fun r21 h22 m23 o24 => ?_)
      have q25 := ok.mono q7 m23
      refine den_aload_n (pc := 62) d10_kindred_62 rfl rfl ?_
      refine den_getR (pc := 63) (b := 62) fa_10_58 (ok_0 _) rfl d10_kindred_63 ?_
      refine den_callVI (pc := 66) (As := []) fv_10_275 rfl rfl (ok_62 _) (Nat.le_of_ble_eq_true rfl) (Nat.le_trans (by decide) hd) d10_kindred_66 (c0_trios l G h22) (fun r26 h27 m28 o29 => ?_)
      have q30 := ok.mono q25 m28
      exact den_iret (pc := 69) rfl d10_kindred_69
    refine den_tableOut (pc := 17) (tgt := 70) d10_kindred_17 (by omega) (by decide) ?_
    refine den_iload_n (pc := 70) d10_kindred_70 rfl rfl ?_
    refine den_bipush (pc := 71) d10_kindred_71 (by decide) ?_
    refine den_icmp_lt (pc := 73) (tgt := 87) d10_kindred_73 (by decide) rfl (by decide) (fun _ => ?_) (fun _ => ?_)
    · refine den_bipush (pc := 87) d10_kindred_87 (by decide) ?_
      exact den_iret (pc := 89) rfl d10_kindred_89
    · refine den_aload_n (pc := 76) d10_kindred_76 rfl rfl ?_
      refine den_iload_n (pc := 77) d10_kindred_77 rfl rfl ?_
      refine den_bipush (pc := 78) d10_kindred_78 (by decide) ?_
      refine den_isub (pc := 80) d10_kindred_80 ?_
      refine den_callVI (pc := 81) (As := [vI (x2 - 10)]) fv_10_165 rfl rfl q7 (Nat.le_of_ble_eq_true rfl) (Nat.le_trans (by decide) hd) d10_kindred_81 (c9_hasPerson l G r1.toNat (x2 - 10) h2 q7) (fun r31 h32 m33 o34 => ?_)
      have q35 := ok.mono q7 m33
      refine den_if_ne (pc := 84) (tgt := 90) d10_kindred_84 (by decide) rfl (fun _ => ?_) (fun _ => ?_)
      · refine den_aload_n (pc := 90) d10_kindred_90 rfl rfl ?_
        refine den_getR (pc := 91) (b := 50) fa_10_37 (ok_0 _) rfl d10_kindred_91 ?_
        refine den_aload_n (pc := 94) d10_kindred_94 rfl rfl ?_
        refine den_callVV (pc := 95) (As := [vA G r1.toNat]) fv_10_168 rfl rfl (ok_50 _) (Nat.le_of_ble_eq_true rfl) (Nat.le_trans (by decide) hd) d10_kindred_95 (c1_gatherTogether l G r1.toNat h32 q35) (fun r36 h37 m38 o39 => ?_)
        have q40 := ok.mono q35 m38
        refine den_aload_n (pc := 98) d10_kindred_98 rfl rfl ?_
        refine den_getR (pc := 99) (b := 50) fa_10_37 (ok_0 _) rfl d10_kindred_99 ?_
        refine den_iload_n (pc := 102) d10_kindred_102 rfl rfl ?_
        refine den_bipush (pc := 103) d10_kindred_103 (by decide) ?_
        refine den_isub (pc := 105) d10_kindred_105 ?_
        refine den_callVI (pc := 106) (As := [vI (x2 - 10)]) fv_10_278 rfl rfl (ok_50 _) (Nat.le_of_ble_eq_true rfl) (Nat.le_trans (by decide) hd) d10_kindred_106 (c1_ranked l G (x2 - 10) h37) (fun r41 h42 m43 o44 => ?_)
        have q45 := ok.mono q40 m43
        exact den_iret (pc := 109) rfl d10_kindred_109
      · refine den_bipush (pc := 87) d10_kindred_87 (by decide) ?_
        exact den_iret (pc := 89) rfl d10_kindred_89
theorem d10_mean_0 : decode m10_mean.2.1 0 = .ok (.aload_n 0, 1) := by decide +kernel
theorem d10_mean_1 : decode m10_mean.2.1 1 = .ok (.getfield 10, 3) := by decide +kernel
theorem d10_mean_4 : decode m10_mean.2.1 4 = .ok (.iload_n 1, 1) := by decide +kernel
theorem d10_mean_5 : decode m10_mean.2.1 5 = .ok (.invokevirtual 101, 3) := by decide +kernel
theorem d10_mean_8 : decode m10_mean.2.1 8 = .ok (.astore 4, 2) := by decide +kernel
theorem d10_mean_10 : decode m10_mean.2.1 10 = .ok (.aload 4, 2) := by decide +kernel
theorem d10_mean_12 : decode m10_mean.2.1 12 = .ok (.ifnull 12, 3) := by decide +kernel
theorem d10_mean_15 : decode m10_mean.2.1 15 = .ok (.aload 4, 2) := by decide +kernel
theorem d10_mean_17 : decode m10_mean.2.1 17 = .ok (.iload_n 2, 1) := by decide +kernel
theorem d10_mean_18 : decode m10_mean.2.1 18 = .ok (.invokevirtual 215, 3) := by decide +kernel
theorem d10_mean_21 : decode m10_mean.2.1 21 = .ok (.ifCond .ne 7, 3) := by decide +kernel
theorem d10_mean_24 : decode m10_mean.2.1 24 = .ok (.ldc2_w 182, 3) := by decide +kernel
theorem d10_mean_27 : decode m10_mean.2.1 27 = .ok (.lreturn, 1) := by decide +kernel
theorem d10_mean_28 : decode m10_mean.2.1 28 = .ok (.lconst 0, 1) := by decide +kernel
theorem d10_mean_29 : decode m10_mean.2.1 29 = .ok (.lstore 5, 2) := by decide +kernel
theorem d10_mean_31 : decode m10_mean.2.1 31 = .ok (.lconst 0, 1) := by decide +kernel
theorem d10_mean_32 : decode m10_mean.2.1 32 = .ok (.lstore 7, 2) := by decide +kernel
theorem d10_mean_34 : decode m10_mean.2.1 34 = .ok (.iconst 0, 1) := by decide +kernel
theorem d10_mean_35 : decode m10_mean.2.1 35 = .ok (.istore 9, 2) := by decide +kernel
theorem d10_mean_37 : decode m10_mean.2.1 37 = .ok (.iload 9, 2) := by decide +kernel
theorem d10_mean_39 : decode m10_mean.2.1 39 = .ok (.aload 4, 2) := by decide +kernel
theorem d10_mean_41 : decode m10_mean.2.1 41 = .ok (.getfield 250, 3) := by decide +kernel
theorem d10_mean_44 : decode m10_mean.2.1 44 = .ok (.if_icmp .ge 67, 3) := by decide +kernel
theorem d10_mean_47 : decode m10_mean.2.1 47 = .ok (.iload 9, 2) := by decide +kernel
theorem d10_mean_49 : decode m10_mean.2.1 49 = .ok (.iconst 1, 1) := by decide +kernel
theorem d10_mean_50 : decode m10_mean.2.1 50 = .ok (.iadd, 1) := by decide +kernel
theorem d10_mean_51 : decode m10_mean.2.1 51 = .ok (.istore 10, 2) := by decide +kernel
theorem d10_mean_53 : decode m10_mean.2.1 53 = .ok (.iload 10, 2) := by decide +kernel
theorem d10_mean_55 : decode m10_mean.2.1 55 = .ok (.aload 4, 2) := by decide +kernel
theorem d10_mean_57 : decode m10_mean.2.1 57 = .ok (.getfield 250, 3) := by decide +kernel
theorem d10_mean_60 : decode m10_mean.2.1 60 = .ok (.if_icmp .ge 45, 3) := by decide +kernel
theorem d10_mean_63 : decode m10_mean.2.1 63 = .ok (.aload 4, 2) := by decide +kernel
theorem d10_mean_65 : decode m10_mean.2.1 65 = .ok (.iload 9, 2) := by decide +kernel
theorem d10_mean_67 : decode m10_mean.2.1 67 = .ok (.iload 10, 2) := by decide +kernel
theorem d10_mean_69 : decode m10_mean.2.1 69 = .ok (.iload_n 2, 1) := by decide +kernel
theorem d10_mean_70 : decode m10_mean.2.1 70 = .ok (.invokevirtual 111, 3) := by decide +kernel
theorem d10_mean_73 : decode m10_mean.2.1 73 = .ok (.iconst (-1), 1) := by decide +kernel
theorem d10_mean_74 : decode m10_mean.2.1 74 = .ok (.if_icmp .eq 25, 3) := by decide +kernel
theorem d10_mean_77 : decode m10_mean.2.1 77 = .ok (.lload 5, 2) := by decide +kernel
theorem d10_mean_79 : decode m10_mean.2.1 79 = .ok (.aload 4, 2) := by decide +kernel
theorem d10_mean_81 : decode m10_mean.2.1 81 = .ok (.iload 9, 2) := by decide +kernel
theorem d10_mean_83 : decode m10_mean.2.1 83 = .ok (.iload 10, 2) := by decide +kernel
theorem d10_mean_85 : decode m10_mean.2.1 85 = .ok (.iload_n 2, 1) := by decide +kernel
theorem d10_mean_86 : decode m10_mean.2.1 86 = .ok (.invokevirtual 115, 3) := by decide +kernel
theorem d10_mean_89 : decode m10_mean.2.1 89 = .ok (.i2l, 1) := by decide +kernel
theorem d10_mean_90 : decode m10_mean.2.1 90 = .ok (.ladd, 1) := by decide +kernel
theorem d10_mean_91 : decode m10_mean.2.1 91 = .ok (.lstore 5, 2) := by decide +kernel
theorem d10_mean_93 : decode m10_mean.2.1 93 = .ok (.lload 7, 2) := by decide +kernel
theorem d10_mean_95 : decode m10_mean.2.1 95 = .ok (.lconst 1, 1) := by decide +kernel
theorem d10_mean_96 : decode m10_mean.2.1 96 = .ok (.ladd, 1) := by decide +kernel
theorem d10_mean_97 : decode m10_mean.2.1 97 = .ok (.lstore 7, 2) := by decide +kernel
theorem d10_mean_99 : decode m10_mean.2.1 99 = .ok (.iinc 10 1, 3) := by decide +kernel
theorem d10_mean_102 : decode m10_mean.2.1 102 = .ok (.goto (-49), 3) := by decide +kernel
theorem d10_mean_105 : decode m10_mean.2.1 105 = .ok (.iinc 9 1, 3) := by decide +kernel
theorem d10_mean_108 : decode m10_mean.2.1 108 = .ok (.goto (-71), 3) := by decide +kernel
theorem d10_mean_111 : decode m10_mean.2.1 111 = .ok (.lload 7, 2) := by decide +kernel
theorem d10_mean_113 : decode m10_mean.2.1 113 = .ok (.lconst 0, 1) := by decide +kernel
theorem d10_mean_114 : decode m10_mean.2.1 114 = .ok (.lcmp, 1) := by decide +kernel
theorem d10_mean_115 : decode m10_mean.2.1 115 = .ok (.ifCond .ne 9, 3) := by decide +kernel
theorem d10_mean_118 : decode m10_mean.2.1 118 = .ok (.ldc2_w 182, 3) := by decide +kernel
theorem d10_mean_121 : decode m10_mean.2.1 121 = .ok (.goto 11, 3) := by decide +kernel
theorem d10_mean_124 : decode m10_mean.2.1 124 = .ok (.lload 5, 2) := by decide +kernel
theorem d10_mean_126 : decode m10_mean.2.1 126 = .ok (.lload 7, 2) := by decide +kernel
theorem d10_mean_128 : decode m10_mean.2.1 128 = .ok (.iload_n 3, 1) := by decide +kernel
theorem d10_mean_129 : decode m10_mean.2.1 129 = .ok (.invokestatic 189, 3) := by decide +kernel
theorem d10_mean_132 : decode m10_mean.2.1 132 = .ok (.lreturn, 1) := by decide +kernel
def b10_mean_99 (rec37 : Int × Int × Int × AH → Option (Int × AH)) (rec53 : Int × Int × Int × AH → Option (Int × AH)) (x2 : Int) (x3 : Int) (x4 : Nat) (x5 : Int) (x7 : Int) (x9 : Int) (x10 : Int) (h : AH) : Option (Int × AH) :=
  rec53 (x5, x7, (x10 + 1), h)
set_option maxRecDepth 100000 in
theorem t10_mean_99 (l : Launch) (G : Geo) (d : Nat) (hd : 5 ≤ d) (x2 : Int) (x3 : Int) (x4 : Nat) (x5 : Int) (x7 : Int) (x9 : Int) (x10 : Int) (rec37 : Int × Int × Int × AH → Option (Int × AH)) (H37 : ∀ (x5 : Int) (x7 : Int) (x9 : Int) (h : AH), ok h.1 x4 9 → Den l G m10_mean rvJ d 37 [none, none, some (vI x2), some (vI x3), some (vA G x4), some (vJ x5), none, some (vJ x7), none, some (vI x9), none] [] h (rec37 (x5, x7, x9, h))) (rec53 : Int × Int × Int × AH → Option (Int × AH)) (H53 : ∀ (x5 : Int) (x7 : Int) (x10 : Int) (h : AH), ok h.1 x4 9 → Den l G m10_mean rvJ d 53 [none, none, some (vI x2), some (vI x3), some (vA G x4), some (vJ x5), none, some (vJ x7), none, some (vI x9), some (vI x10)] [] h (rec53 (x5, x7, x10, h))) (h : AH) (kx4 : ok h.1 x4 9) : Den l G m10_mean rvJ d 99 [none, none, some (vI x2), some (vI x3), some (vA G x4), some (vJ x5), none, some (vJ x7), none, some (vI x9), some (vI x10)] [] h (b10_mean_99 rec37 rec53 x2 x3 x4 x5 x7 x9 x10 h) := by
  unfold b10_mean_99
  refine den_iinc (pc := 99) (L2 := [none, none, some (vI x2), some (vI x3), some (vA G x4), some (vJ x5), none, some (vJ x7), none, some (vI x9), some (vI (x10 + 1))]) d10_mean_99 (by decide) rfl rfl ?_
  refine den_goto (pc := 102) (tgt := 53) d10_mean_102 (by decide) ?_
  exact H53 x5 x7 (x10 + 1) h kx4
def b10_mean_53 (rec53 : Int × Int × Int × AH → Option (Int × AH)) (rec37 : Int × Int × Int × AH → Option (Int × AH)) (x2 : Int) (x3 : Int) (x4 : Nat) (x9 : Int) (x5 : Int) (x7 : Int) (x10 : Int) (h : AH) : Option (Int × AH) :=
  if w32 (h.2 x4 0) ≤ w32 x10 then
    rec37 (x5, x7, (x9 + 1), h)
  else
    bnd (f9_gap x4 x9 x10 x2 h) fun r1 h2 =>
    if w32 r1 = (-1) then
      b10_mean_99 rec37 rec53 x2 x3 x4 x5 x7 x9 x10 h2
    else
      bnd (f9_burning x4 x9 x10 x2 h2) fun r6 h7 =>
      lt (x5 + (w32 r6)) fun u11 =>
      lt (x7 + 1) fun u12 =>
      b10_mean_99 rec37 rec53 x2 x3 x4 u11 u12 x9 x10 h7
set_option maxRecDepth 100000 in
theorem t10_mean_53 (l : Launch) (G : Geo) (d : Nat) (hd : 5 ≤ d) (x2 : Int) (x3 : Int) (x4 : Nat) (x9 : Int) (x5 : Int) (x7 : Int) (x10 : Int) (rec53 : Int × Int × Int × AH → Option (Int × AH)) (H53 : ∀ (x5 : Int) (x7 : Int) (x10 : Int) (h : AH), ok h.1 x4 9 → Den l G m10_mean rvJ d 53 [none, none, some (vI x2), some (vI x3), some (vA G x4), some (vJ x5), none, some (vJ x7), none, some (vI x9), some (vI x10)] [] h (rec53 (x5, x7, x10, h))) (rec37 : Int × Int × Int × AH → Option (Int × AH)) (H37 : ∀ (x5 : Int) (x7 : Int) (x9 : Int) (h : AH), ok h.1 x4 9 → Den l G m10_mean rvJ d 37 [none, none, some (vI x2), some (vI x3), some (vA G x4), some (vJ x5), none, some (vJ x7), none, some (vI x9), none] [] h (rec37 (x5, x7, x9, h))) (h : AH) (kx4 : ok h.1 x4 9) : Den l G m10_mean rvJ d 53 [none, none, some (vI x2), some (vI x3), some (vA G x4), some (vJ x5), none, some (vJ x7), none, some (vI x9), some (vI x10)] [] h (b10_mean_53 rec53 rec37 x2 x3 x4 x9 x5 x7 x10 h) := by
  unfold b10_mean_53
  refine den_iload (pc := 53) d10_mean_53 rfl ?_
  refine den_aload (pc := 55) d10_mean_55 rfl ?_
  refine den_getI (pc := 57) fa_10_250 kx4 d10_mean_57 ?_
  refine den_icmp_ge (pc := 60) (tgt := 105) d10_mean_60 (by decide) rfl rfl (fun _ => ?_) (fun _ => ?_)
  · refine den_iinc (pc := 105) (L2 := [none, none, some (vI x2), some (vI x3), some (vA G x4), some (vJ x5), none, some (vJ x7), none, some (vI (x9 + 1)), some (vI x10)]) d10_mean_105 (by decide) rfl rfl ?_
    refine den_goto (pc := 108) (tgt := 37) d10_mean_108 (by decide) ?_
    refine den_wk [true, true, true, true, true, true, true, true, true, true, false] rfl ?_
    exact H37 x5 x7 (x9 + 1) h kx4
  · refine den_aload (pc := 63) d10_mean_63 rfl ?_
    refine den_iload (pc := 65) d10_mean_65 rfl ?_
    refine den_iload (pc := 67) d10_mean_67 rfl ?_
    refine den_iload_n (pc := 69) d10_mean_69 rfl rfl ?_
    refine den_callVI (pc := 70) (As := [vI x9, vI x10, vI x2]) fv_10_111 rfl rfl kx4 (Nat.le_of_ble_eq_true rfl) (Nat.le_trans (by decide) hd) d10_mean_70 (c9_gap l G x4 x9 x10 x2 h kx4) (fun r1 h2 m3 o4 => ?_)
    have q5 := ok.mono kx4 m3
    refine den_iconst (pc := 73) d10_mean_73 ?_
    refine den_icmp_eq (pc := 74) (tgt := 99) d10_mean_74 (by decide) rfl (by decide) (fun _ => ?_) (fun _ => ?_)
    · exact t10_mean_99 l G _ hd x2 x3 x4 x5 x7 x9 x10 rec37 H37 rec53 H53 h2 q5
    · refine den_lload (pc := 77) d10_mean_77 rfl ?_
      refine den_aload (pc := 79) d10_mean_79 rfl ?_
      refine den_iload (pc := 81) d10_mean_81 rfl ?_
      refine den_iload (pc := 83) d10_mean_83 rfl ?_
      refine den_iload_n (pc := 85) d10_mean_85 rfl rfl ?_
      refine den_callVI (pc := 86) (As := [vI x9, vI x10, vI x2]) fv_10_115 rfl rfl q5 (Nat.le_of_ble_eq_true rfl) (Nat.le_trans (by decide) hd) d10_mean_86 (c9_burning l G x4 x9 x10 x2 h2 q5) (fun r6 h7 m8 o9 => ?_)
      have q10 := ok.mono q5 m8
      refine den_i2l (pc := 89) d10_mean_89 ?_
      refine den_ladd (pc := 90) d10_mean_90 ?_
      refine den_lstoreL (pc := 91) (L2 := fun y => [none, none, some (vI x2), some (vI x3), some (vA G x4), some (vJ y), none, some (vJ x7), none, some (vI x9), some (vI x10)]) d10_mean_91 (by decide) (fun _ => rfl) (fun u11 => ?_)
      refine den_lload (pc := 93) d10_mean_93 rfl ?_
      refine den_lconst (pc := 95) (x := 1) d10_mean_95 (by decide) ?_
      refine den_ladd (pc := 96) d10_mean_96 ?_
      refine den_lstoreL (pc := 97) (L2 := fun y => [none, none, some (vI x2), some (vI x3), some (vA G x4), some (vJ u11), none, some (vJ y), none, some (vI x9), some (vI x10)]) d10_mean_97 (by decide) (fun _ => rfl) (fun u12 => ?_)
      exact t10_mean_99 l G _ hd x2 x3 x4 u11 u12 x9 x10 rec37 H37 rec53 H53 h7 q10
def l10_mean_53 (rec37 : Int × Int × Int × AH → Option (Int × AH)) (x2 : Int) (x3 : Int) (x4 : Nat) (x9 : Int) (x5 : Int) (x7 : Int) (x10 : Int) (h : AH) : Option (Int × AH) := fx (fun rec z => b10_mean_53 rec rec37 x2 x3 x4 x9 z.1 z.2.1 z.2.2.1 z.2.2.2) FU (x5, x7, x10, h)
set_option maxRecDepth 100000 in
theorem tl10_mean_53 (l : Launch) (G : Geo) (d : Nat) (hd : 5 ≤ d) (x2 : Int) (x3 : Int) (x4 : Nat) (x9 : Int) (rec37 : Int × Int × Int × AH → Option (Int × AH)) (H37 : ∀ (x5 : Int) (x7 : Int) (x9 : Int) (h : AH), ok h.1 x4 9 → Den l G m10_mean rvJ d 37 [none, none, some (vI x2), some (vI x3), some (vA G x4), some (vJ x5), none, some (vJ x7), none, some (vI x9), none] [] h (rec37 (x5, x7, x9, h))) : ∀ (n : Nat) (z : Int × Int × Int × AH), ok z.2.2.2.1 x4 9 → Den l G m10_mean rvJ d 53 [none, none, some (vI x2), some (vI x3), some (vA G x4), some (vJ z.1), none, some (vJ z.2.1), none, some (vI x9), some (vI z.2.2.1)] [] z.2.2.2 (fx (fun rec z => b10_mean_53 rec rec37 x2 x3 x4 x9 z.1 z.2.1 z.2.2.1 z.2.2.2) n z) :=
  den_fx (F := fun rec z => b10_mean_53 rec rec37 x2 x3 x4 x9 z.1 z.2.1 z.2.2.1 z.2.2.2) (P := fun z => ok z.2.2.2.1 x4 9) (fL := fun z => [none, none, some (vI x2), some (vI x3), some (vA G x4), some (vJ z.1), none, some (vJ z.2.1), none, some (vI x9), some (vI z.2.2.1)]) (fs := fun z => []) (fh := fun z => z.2.2.2) (fun rec hrec z hz => t10_mean_53 l G d hd x2 x3 x4 x9 z.1 z.2.1 z.2.2.1 rec (fun x5 x7 x10 h w0 => hrec (x5, x7, x10, h) w0) rec37 H37 z.2.2.2 hz)
def b10_mean_37 (rec37 : Int × Int × Int × AH → Option (Int × AH)) (x2 : Int) (x3 : Int) (x4 : Nat) (x5 : Int) (x7 : Int) (x9 : Int) (h : AH) : Option (Int × AH) :=
  if w32 (h.2 x4 0) ≤ w32 x9 then
    if ¬ w32 (cmp64 x7 0) = 0 then
      bnd (f10_lowest x5 x7 x3 h) fun r13 h14 =>
      some (r13, h14)
    else
      some ((-1), h)
  else
    lt (x9 + 1) fun u18 =>
    l10_mean_53 rec37 x2 x3 x4 x9 x5 x7 u18 h
set_option maxRecDepth 100000 in
theorem t10_mean_37 (l : Launch) (G : Geo) (d : Nat) (hd : 5 ≤ d) (x2 : Int) (x3 : Int) (x4 : Nat) (x5 : Int) (x7 : Int) (x9 : Int) (rec37 : Int × Int × Int × AH → Option (Int × AH)) (H37 : ∀ (x5 : Int) (x7 : Int) (x9 : Int) (h : AH), ok h.1 x4 9 → Den l G m10_mean rvJ d 37 [none, none, some (vI x2), some (vI x3), some (vA G x4), some (vJ x5), none, some (vJ x7), none, some (vI x9), none] [] h (rec37 (x5, x7, x9, h))) (h : AH) (kx4 : ok h.1 x4 9) : Den l G m10_mean rvJ d 37 [none, none, some (vI x2), some (vI x3), some (vA G x4), some (vJ x5), none, some (vJ x7), none, some (vI x9), none] [] h (b10_mean_37 rec37 x2 x3 x4 x5 x7 x9 h) := by
  unfold b10_mean_37
  refine den_iload (pc := 37) d10_mean_37 rfl ?_
  refine den_aload (pc := 39) d10_mean_39 rfl ?_
  refine den_getI (pc := 41) fa_10_250 kx4 d10_mean_41 ?_
  refine den_icmp_ge (pc := 44) (tgt := 111) d10_mean_44 (by decide) rfl rfl (fun _ => ?_) (fun _ => ?_)
  · refine den_lload (pc := 111) d10_mean_111 rfl ?_
    refine den_lconst (pc := 113) (x := 0) d10_mean_113 (by decide) ?_
    refine den_lcmp (pc := 114) d10_mean_114 ?_
    refine den_if_ne (pc := 115) (tgt := 124) d10_mean_115 (by decide) rfl (fun _ => ?_) (fun _ => ?_)
    · refine den_lload (pc := 124) d10_mean_124 rfl ?_
      refine den_lload (pc := 126) d10_mean_126 rfl ?_
      refine den_iload_n (pc := 128) d10_mean_128 rfl rfl ?_
      refine den_callSJ (pc := 129) (As := [vJ x5, vJ x7, vI x3]) fs_10_189 rfl rfl (Nat.le_of_ble_eq_true rfl) (Nat.le_trans (by decide) hd) d10_mean_129 (c10_lowest l G x5 x7 x3 h) (fun r13 h14 m15 o16 => ?_)
      have q17 := ok.mono kx4 m15
      exact den_lret (pc := 132) rfl d10_mean_132
    · refine den_ldc2 (pc := 118) kl_10_182 d10_mean_118 ?_
      refine den_goto (pc := 121) (tgt := 132) d10_mean_121 (by decide) ?_
      exact den_lret (pc := 132) rfl d10_mean_132
  · refine den_iload (pc := 47) d10_mean_47 rfl ?_
    refine den_iconst (pc := 49) d10_mean_49 ?_
    refine den_iadd (pc := 50) d10_mean_50 ?_
    refine den_istoreL (pc := 51) (L2 := fun y => [none, none, some (vI x2), some (vI x3), some (vA G x4), some (vJ x5), none, some (vJ x7), none, some (vI x9), some (vI y)]) d10_mean_51 (by decide) (fun _ => rfl) (fun u18 => ?_)
    exact tl10_mean_53 l G _ hd x2 x3 x4 x9 rec37 H37 FU (x5, x7, u18, h) kx4
def l10_mean_37 (x2 : Int) (x3 : Int) (x4 : Nat) (x5 : Int) (x7 : Int) (x9 : Int) (h : AH) : Option (Int × AH) := fx (fun rec z => b10_mean_37 rec x2 x3 x4 z.1 z.2.1 z.2.2.1 z.2.2.2) FU (x5, x7, x9, h)
set_option maxRecDepth 100000 in
theorem tl10_mean_37 (l : Launch) (G : Geo) (d : Nat) (hd : 5 ≤ d) (x2 : Int) (x3 : Int) (x4 : Nat) : ∀ (n : Nat) (z : Int × Int × Int × AH), ok z.2.2.2.1 x4 9 → Den l G m10_mean rvJ d 37 [none, none, some (vI x2), some (vI x3), some (vA G x4), some (vJ z.1), none, some (vJ z.2.1), none, some (vI z.2.2.1), none] [] z.2.2.2 (fx (fun rec z => b10_mean_37 rec x2 x3 x4 z.1 z.2.1 z.2.2.1 z.2.2.2) n z) :=
  den_fx (F := fun rec z => b10_mean_37 rec x2 x3 x4 z.1 z.2.1 z.2.2.1 z.2.2.2) (P := fun z => ok z.2.2.2.1 x4 9) (fL := fun z => [none, none, some (vI x2), some (vI x3), some (vA G x4), some (vJ z.1), none, some (vJ z.2.1), none, some (vI z.2.2.1), none]) (fs := fun z => []) (fh := fun z => z.2.2.2) (fun rec hrec z hz => t10_mean_37 l G d hd x2 x3 x4 z.1 z.2.1 z.2.2.1 rec (fun x5 x7 x9 h w0 => hrec (x5, x7, x9, h) w0) z.2.2.2 hz)
def f10_mean (x1 : Int) (x2 : Int) (x3 : Int) (h : AH) : Option (Int × AH) :=
  bnd (f8_villageAt 1 x1 h) fun r19 h20 =>
  if r19 < 0 then
    some ((-1), h20)
  else
    bnd (f9_hasSubject r19.toNat x2 h20) fun r26 h27 =>
    if ¬ w32 r26 = 0 then
      l10_mean_37 x2 x3 r19.toNat 0 0 0 h27
    else
      some ((-1), h27)
set_option maxRecDepth 100000 in
theorem c10_mean (l : Launch) (G : Geo) (x1 : Int) (x2 : Int) (x3 : Int) (h : AH) : Con l G m10_mean rvJ 5 [vA G 0, vI x1, vI x2, vI x3] h (f10_mean x1 x2 x3 h) := by
  have hd : 5 ≤ 5 := Nat.le_refl _
  refine con_J rfl (by decide) rfl rfl (Nat.le_of_ble_eq_true rfl) (L := [some (vA G 0), some (vI x1), some (vI x2), some (vI x3), none, none, none, none, none, none, none]) ?_
  unfold f10_mean
  refine den_aload_n (pc := 0) d10_mean_0 rfl rfl ?_
  refine den_getR (pc := 1) (b := 1) fa_10_10 (ok_0 _) rfl d10_mean_1 ?_
  refine den_iload_n (pc := 4) d10_mean_4 rfl rfl ?_
  refine den_callVR (pc := 5) (As := [vI x1]) fv_10_101 rfl rfl (ok_1 _) (Nat.le_of_ble_eq_true rfl) (Nat.le_trans (by decide) hd) d10_mean_5 (c8_villageAt l G 1 x1 h (ok_1 _)) (fun r19 h20 m21 o22 => ?_)
  have q23 := RO.v o22
  refine den_astoreR (pc := 8) (L2 := [some (vA G 0), some (vI x1), some (vI x2), some (vI x3), some (vR G r19), none, none, none, none, none, none]) d10_mean_8 (by decide) rfl ?_
  refine den_aloadR (pc := 10) d10_mean_10 rfl ?_
  refine den_ifnull (pc := 12) (tgt := 24) d10_mean_12 (by decide) (fun _ => ?_) (fun n24 => ?_)
  · refine den_ldc2 (pc := 24) kl_10_182 d10_mean_24 ?_
    exact den_lret (pc := 27) rfl d10_mean_27
  · rw [vR_pos G n24]
    have q25 := Or.resolve_left q23 n24
    refine den_aload (pc := 15) d10_mean_15 rfl ?_
    refine den_iload_n (pc := 17) d10_mean_17 rfl rfl ?_
    refine den_callVI (pc := 18) (As := [vI x2]) fv_10_215 rfl rfl q25 (Nat.le_of_ble_eq_true rfl) (Nat.le_trans (by decide) hd) d10_mean_18 (c9_hasSubject l G r19.toNat x2 h20 q25) (fun r26 h27 m28 o29 => ?_)
    have q30 := ok.mono q25 m28
    refine den_if_ne (pc := 21) (tgt := 28) d10_mean_21 (by decide) rfl (fun _ => ?_) (fun _ => ?_)
    · refine den_lconst (pc := 28) (x := 0) d10_mean_28 (by decide) ?_
      refine den_lstore (pc := 29) (L2 := [some (vA G 0), some (vI x1), some (vI x2), some (vI x3), some (vA G r19.toNat), some (vJ 0), none, none, none, none, none]) d10_mean_29 (by decide) rfl ?_
      refine den_lconst (pc := 31) (x := 0) d10_mean_31 (by decide) ?_
      refine den_lstore (pc := 32) (L2 := [some (vA G 0), some (vI x1), some (vI x2), some (vI x3), some (vA G r19.toNat), some (vJ 0), none, some (vJ 0), none, none, none]) d10_mean_32 (by decide) rfl ?_
      refine den_iconst (pc := 34) d10_mean_34 ?_
      refine den_istore (pc := 35) (L2 := [some (vA G 0), some (vI x1), some (vI x2), some (vI x3), some (vA G r19.toNat), some (vJ 0), none, some (vJ 0), none, some (vI 0), none]) d10_mean_35 (by decide) rfl ?_
      refine den_wk [false, false, true, true, true, true, true, true, true, true, true] rfl ?_
      exact tl10_mean_37 l G _ hd x2 x3 r19.toNat FU (0, 0, 0, h27) q30
    · refine den_ldc2 (pc := 24) kl_10_182 d10_mean_24 ?_
      exact den_lret (pc := 27) rfl d10_mean_27
theorem d10_after_0 : decode m10_after.2.1 0 = .ok (.aload_n 0, 1) := by decide +kernel
theorem d10_after_1 : decode m10_after.2.1 1 = .ok (.getfield 10, 3) := by decide +kernel
theorem d10_after_4 : decode m10_after.2.1 4 = .ok (.iload_n 1, 1) := by decide +kernel
theorem d10_after_5 : decode m10_after.2.1 5 = .ok (.invokevirtual 101, 3) := by decide +kernel
theorem d10_after_8 : decode m10_after.2.1 8 = .ok (.astore 4, 2) := by decide +kernel
theorem d10_after_10 : decode m10_after.2.1 10 = .ok (.aload_n 0, 1) := by decide +kernel
theorem d10_after_11 : decode m10_after.2.1 11 = .ok (.getfield 10, 3) := by decide +kernel
theorem d10_after_14 : decode m10_after.2.1 14 = .ok (.iload_n 2, 1) := by decide +kernel
theorem d10_after_15 : decode m10_after.2.1 15 = .ok (.invokevirtual 118, 3) := by decide +kernel
theorem d10_after_18 : decode m10_after.2.1 18 = .ok (.astore 5, 2) := by decide +kernel
theorem d10_after_20 : decode m10_after.2.1 20 = .ok (.aload 4, 2) := by decide +kernel
theorem d10_after_22 : decode m10_after.2.1 22 = .ok (.ifnull 8, 3) := by decide +kernel
theorem d10_after_25 : decode m10_after.2.1 25 = .ok (.aload 5, 2) := by decide +kernel
theorem d10_after_27 : decode m10_after.2.1 27 = .ok (.ifnonnull 6, 3) := by decide +kernel
theorem d10_after_30 : decode m10_after.2.1 30 = .ok (.bipush (-2), 2) := by decide +kernel
theorem d10_after_32 : decode m10_after.2.1 32 = .ok (.ireturn, 1) := by decide +kernel
theorem d10_after_33 : decode m10_after.2.1 33 = .ok (.aload_n 0, 1) := by decide +kernel
theorem d10_after_34 : decode m10_after.2.1 34 = .ok (.getfield 30, 3) := by decide +kernel
theorem d10_after_37 : decode m10_after.2.1 37 = .ok (.aload 4, 2) := by decide +kernel
theorem d10_after_39 : decode m10_after.2.1 39 = .ok (.aload 5, 2) := by decide +kernel
theorem d10_after_41 : decode m10_after.2.1 41 = .ok (.bipush 40, 2) := by decide +kernel
theorem d10_after_43 : decode m10_after.2.1 43 = .ok (.invokevirtual 126, 3) := by decide +kernel
theorem d10_after_46 : decode m10_after.2.1 46 = .ok (.pop, 1) := by decide +kernel
theorem d10_after_47 : decode m10_after.2.1 47 = .ok (.iload_n 3, 1) := by decide +kernel
theorem d10_after_48 : decode m10_after.2.1 48 = .ok (.tableswitch 64 0 3 #[32, 40, 48, 56], 32) := by decide +kernel
theorem d10_after_80 : decode m10_after.2.1 80 = .ok (.aload_n 0, 1) := by decide +kernel
theorem d10_after_81 : decode m10_after.2.1 81 = .ok (.getfield 30, 3) := by decide +kernel
theorem d10_after_84 : decode m10_after.2.1 84 = .ok (.getfield 281, 3) := by decide +kernel
theorem d10_after_87 : decode m10_after.2.1 87 = .ok (.ireturn, 1) := by decide +kernel
theorem d10_after_88 : decode m10_after.2.1 88 = .ok (.aload_n 0, 1) := by decide +kernel
theorem d10_after_89 : decode m10_after.2.1 89 = .ok (.getfield 30, 3) := by decide +kernel
theorem d10_after_92 : decode m10_after.2.1 92 = .ok (.invokevirtual 284, 3) := by decide +kernel
theorem d10_after_95 : decode m10_after.2.1 95 = .ok (.ireturn, 1) := by decide +kernel
theorem d10_after_96 : decode m10_after.2.1 96 = .ok (.aload_n 0, 1) := by decide +kernel
theorem d10_after_97 : decode m10_after.2.1 97 = .ok (.getfield 30, 3) := by decide +kernel
theorem d10_after_100 : decode m10_after.2.1 100 = .ok (.getfield 287, 3) := by decide +kernel
theorem d10_after_103 : decode m10_after.2.1 103 = .ok (.ireturn, 1) := by decide +kernel
theorem d10_after_104 : decode m10_after.2.1 104 = .ok (.aload_n 0, 1) := by decide +kernel
theorem d10_after_105 : decode m10_after.2.1 105 = .ok (.getfield 30, 3) := by decide +kernel
theorem d10_after_108 : decode m10_after.2.1 108 = .ok (.getfield 290, 3) := by decide +kernel
theorem d10_after_111 : decode m10_after.2.1 111 = .ok (.ireturn, 1) := by decide +kernel
theorem d10_after_112 : decode m10_after.2.1 112 = .ok (.bipush (-2), 2) := by decide +kernel
theorem d10_after_114 : decode m10_after.2.1 114 = .ok (.ireturn, 1) := by decide +kernel
def f10_after (x1 : Int) (x2 : Int) (x3 : Int) (h : AH) : Option (Int × AH) :=
  bnd (f8_villageAt 1 x1 h) fun r1 h2 =>
  bnd (f8_dayAt 1 x2 h2) fun r6 h7 =>
  if r1 < 0 then
    some ((-2), h7)
  else
    if r6 < 0 then
      some ((-2), h7)
    else
      bnd (f7_play r1.toNat r6.toNat 40 h7) fun r16 h17 =>
      if w32 x3 = 0 then
        some (h17.2 41 7, h17)
      else
      if w32 x3 = 1 then
        bnd (f7_loudest h17) fun r24 h25 =>
        some (r24, h25)
      else
      if w32 x3 = 2 then
        some (h17.2 41 8, h17)
      else
      if w32 x3 = 3 then
        some (h17.2 41 9, h17)
      else
      some ((-2), h17)
set_option maxRecDepth 100000 in
theorem c10_after (l : Launch) (G : Geo) (x1 : Int) (x2 : Int) (x3 : Int) (h : AH) : Con l G m10_after rvI 8 [vA G 0, vI x1, vI x2, vI x3] h (f10_after x1 x2 x3 h) := by
  have hd : 8 ≤ 8 := Nat.le_refl _
  refine con_I rfl (by decide) rfl rfl (Nat.le_of_ble_eq_true rfl) (L := [some (vA G 0), some (vI x1), some (vI x2), some (vI x3), none, none]) ?_
  unfold f10_after
  refine den_aload_n (pc := 0) d10_after_0 rfl rfl ?_
  refine den_getR (pc := 1) (b := 1) fa_10_10 (ok_0 _) rfl d10_after_1 ?_
  refine den_iload_n (pc := 4) d10_after_4 rfl rfl ?_
  refine den_callVR (pc := 5) (As := [vI x1]) fv_10_101 rfl rfl (ok_1 _) (Nat.le_of_ble_eq_true rfl) (Nat.le_trans (by decide) hd) d10_after_5 (c8_villageAt l G 1 x1 h (ok_1 _)) (fun r1 h2 m3 o4 => ?_)
  have q5 := RO.v o4
  refine den_astoreR (pc := 8) (L2 := [some (vA G 0), some (vI x1), some (vI x2), some (vI x3), some (vR G r1), none]) d10_after_8 (by decide) rfl ?_
  refine den_aload_n (pc := 10) d10_after_10 rfl rfl ?_
  refine den_getR (pc := 11) (b := 1) fa_10_10 (ok_0 _) rfl d10_after_11 ?_
  refine den_iload_n (pc := 14) d10_after_14 rfl rfl ?_
  refine den_callVR (pc := 15) (As := [vI x2]) fv_10_118 rfl rfl (ok_1 _) (Nat.le_of_ble_eq_true rfl) (Nat.le_trans (by decide) hd) d10_after_15 (c8_dayAt l G 1 x2 h2 (ok_1 _)) (fun r6 h7 m8 o9 => ?_)
  have q10 := Or.imp id (fun z => ok.mono z m8) q5
  have q11 := RO.r o9
  refine den_astoreR (pc := 18) (L2 := [some (vA G 0), some (vI x1), some (vI x2), some (vI x3), some (vR G r1), some (vR G r6)]) d10_after_18 (by decide) (by simp [st1, kl_vR]) ?_
  refine den_aloadR (pc := 20) d10_after_20 rfl ?_
  refine den_ifnull (pc := 22) (tgt := 30) d10_after_22 (by decide) (fun _ => ?_) (fun n12 => ?_)
  · refine den_bipush (pc := 30) d10_after_30 (by decide) ?_
    exact den_iret (pc := 32) rfl d10_after_32
  · rw [vR_pos G n12]
    have q13 := Or.resolve_left q10 n12
    refine den_aloadR (pc := 25) d10_after_25 rfl ?_
    refine den_ifnonnull (pc := 27) (tgt := 33) d10_after_27 (by decide) (fun _ => ?_) (fun n14 => ?_)
    · refine den_bipush (pc := 30) d10_after_30 (by decide) ?_
      exact den_iret (pc := 32) rfl d10_after_32
    · rw [vR_pos G n14]
      have q15 := Or.resolve_left q11 n14
      refine den_aload_n (pc := 33) d10_after_33 rfl rfl ?_
      refine den_getR (pc := 34) (b := 41) fa_10_30 (ok_0 _) rfl d10_after_34 ?_
      refine den_aload (pc := 37) d10_after_37 rfl ?_
      refine den_aload (pc := 39) d10_after_39 rfl ?_
      refine den_bipush (pc := 41) d10_after_41 (by decide) ?_
      refine den_callVI (pc := 43) (As := [vA G r1.toNat, vA G r6.toNat, vI 40]) fv_10_126 rfl rfl (ok_41 _) (Nat.le_of_ble_eq_true rfl) (Nat.le_trans (by decide) hd) d10_after_43 (c7_play l G r1.toNat r6.toNat 40 h7 q13 q15) (fun r16 h17 m18 o19 => ?_)
      have q20 := ok.mono q13 m18
      have q21 := ok.mono q15 m18
      refine den_pop (pc := 46) d10_after_46 rfl ?_
      refine den_iload_n (pc := 47) d10_after_47 rfl rfl ?_
      refine den_ite (fun c22 => ?_) (fun c22 => ?_)
      · refine den_tableIn (pc := 48) (tgt := 80) d10_after_48 (by omega) (by omega) (by rw [c22]; rfl) (by decide) ?_
        refine den_aload_n (pc := 80) d10_after_80 rfl rfl ?_
        refine den_getR (pc := 81) (b := 41) fa_10_30 (ok_0 _) rfl d10_after_81 ?_
        refine den_getI (pc := 84) fa_10_281 (ok_41 _) d10_after_84 ?_
        exact den_iret (pc := 87) rfl d10_after_87
      refine den_ite (fun c23 => ?_) (fun c23 => ?_)
      · refine den_tableIn (pc := 48) (tgt := 88) d10_after_48 (by omega) (by omega) (by rw [c23]; rfl) (by decide) ?_
        refine den_aload_n (pc := 88) d10_after_88 rfl rfl ?_
        refine den_getR (pc := 89) (b := 41) fa_10_30 (ok_0 _) rfl d10_after_89 ?_
        refine den_callVI (pc := 92) (As := []) fv_10_284 rfl rfl (ok_41 _) (Nat.le_of_ble_eq_true rfl) (Nat.le_trans (by decide) hd) d10_after_92 (c7_loudest l G h17) (fun r24 h25 m26 o27 => ?_)
        have q28 := ok.mono q20 m26
        have q29 := ok.mono q21 m26
        exact den_iret (pc := 95) rfl d10_after_95
      refine den_ite (fun c30 => ?_) (fun c30 => ?_)
      · refine den_tableIn (pc := 48) (tgt := 96) d10_after_48 (by omega) (by omega) (by rw [c30]; rfl) (by decide) ?_
        refine den_aload_n (pc := 96) d10_after_96 rfl rfl ?_
        refine den_getR (pc := 97) (b := 41) fa_10_30 (ok_0 _) rfl d10_after_97 ?_
        refine den_getI (pc := 100) fa_10_287 (ok_41 _) d10_after_100 ?_
        exact den_iret (pc := 103) rfl d10_after_103
      refine den_ite (fun c31 => ?_) (fun c31 => ?_)
      · refine den_tableIn (pc := 48) (tgt := 104) d10_after_48 (by omega) (by omega) (by rw [c31]; rfl) (by decide) ?_
        refine den_aload_n (pc := 104) d10_after_104 rfl rfl ?_
        refine den_getR (pc := 105) (b := 41) fa_10_30 (ok_0 _) rfl d10_after_105 ?_
        refine den_getI (pc := 108) fa_10_290 (ok_41 _) d10_after_108 ?_
        exact den_iret (pc := 111) rfl d10_after_111
      refine den_tableOut (pc := 48) (tgt := 112) d10_after_48 (by omega) (by decide) ?_
      refine den_bipush (pc := 112) d10_after_112 (by decide) ?_
      exact den_iret (pc := 114) rfl d10_after_114
theorem d10_next_0 : decode m10_next.2.1 0 = .ok (.aload_n 0, 1) := by decide +kernel
theorem d10_next_1 : decode m10_next.2.1 1 = .ok (.getfield 10, 3) := by decide +kernel
theorem d10_next_4 : decode m10_next.2.1 4 = .ok (.iload_n 1, 1) := by decide +kernel
theorem d10_next_5 : decode m10_next.2.1 5 = .ok (.invokevirtual 101, 3) := by decide +kernel
theorem d10_next_8 : decode m10_next.2.1 8 = .ok (.astore 6, 2) := by decide +kernel
theorem d10_next_10 : decode m10_next.2.1 10 = .ok (.aload_n 0, 1) := by decide +kernel
theorem d10_next_11 : decode m10_next.2.1 11 = .ok (.getfield 10, 3) := by decide +kernel
theorem d10_next_14 : decode m10_next.2.1 14 = .ok (.iload_n 2, 1) := by decide +kernel
theorem d10_next_15 : decode m10_next.2.1 15 = .ok (.invokevirtual 193, 3) := by decide +kernel
theorem d10_next_18 : decode m10_next.2.1 18 = .ok (.astore 7, 2) := by decide +kernel
theorem d10_next_20 : decode m10_next.2.1 20 = .ok (.aload 6, 2) := by decide +kernel
theorem d10_next_22 : decode m10_next.2.1 22 = .ok (.ifnull 33, 3) := by decide +kernel
theorem d10_next_25 : decode m10_next.2.1 25 = .ok (.aload 7, 2) := by decide +kernel
theorem d10_next_27 : decode m10_next.2.1 27 = .ok (.ifnull 28, 3) := by decide +kernel
theorem d10_next_30 : decode m10_next.2.1 30 = .ok (.aload 6, 2) := by decide +kernel
theorem d10_next_32 : decode m10_next.2.1 32 = .ok (.iload_n 3, 1) := by decide +kernel
theorem d10_next_33 : decode m10_next.2.1 33 = .ok (.iload 4, 2) := by decide +kernel
theorem d10_next_35 : decode m10_next.2.1 35 = .ok (.invokevirtual 143, 3) := by decide +kernel
theorem d10_next_38 : decode m10_next.2.1 38 = .ok (.ifCond .eq 17, 3) := by decide +kernel
theorem d10_next_41 : decode m10_next.2.1 41 = .ok (.aload_n 0, 1) := by decide +kernel
theorem d10_next_42 : decode m10_next.2.1 42 = .ok (.getfield 65, 3) := by decide +kernel
theorem d10_next_45 : decode m10_next.2.1 45 = .ok (.aload 6, 2) := by decide +kernel
theorem d10_next_47 : decode m10_next.2.1 47 = .ok (.aload 7, 2) := by decide +kernel
theorem d10_next_49 : decode m10_next.2.1 49 = .ok (.invokevirtual 196, 3) := by decide +kernel
theorem d10_next_52 : decode m10_next.2.1 52 = .ok (.ifCond .ne 5, 3) := by decide +kernel
theorem d10_next_55 : decode m10_next.2.1 55 = .ok (.iconst (-1), 1) := by decide +kernel
theorem d10_next_56 : decode m10_next.2.1 56 = .ok (.ireturn, 1) := by decide +kernel
theorem d10_next_57 : decode m10_next.2.1 57 = .ok (.aload_n 0, 1) := by decide +kernel
theorem d10_next_58 : decode m10_next.2.1 58 = .ok (.getfield 65, 3) := by decide +kernel
theorem d10_next_61 : decode m10_next.2.1 61 = .ok (.aload 6, 2) := by decide +kernel
theorem d10_next_63 : decode m10_next.2.1 63 = .ok (.iload_n 3, 1) := by decide +kernel
theorem d10_next_64 : decode m10_next.2.1 64 = .ok (.iload 4, 2) := by decide +kernel
theorem d10_next_66 : decode m10_next.2.1 66 = .ok (.iload 5, 2) := by decide +kernel
theorem d10_next_68 : decode m10_next.2.1 68 = .ok (.invokevirtual 293, 3) := by decide +kernel
theorem d10_next_71 : decode m10_next.2.1 71 = .ok (.ireturn, 1) := by decide +kernel
def f10_next (x1 : Int) (x2 : Int) (x3 : Int) (x4 : Int) (x5 : Int) (h : AH) : Option (Int × AH) :=
  bnd (f8_villageAt 1 x1 h) fun r1 h2 =>
  bnd (f8_logAt 1 x2 h2) fun r6 h7 =>
  if r1 < 0 then
    some ((-1), h7)
  else
    if r6 < 0 then
      some ((-1), h7)
    else
      bnd (f9_hasCouple r1.toNat x3 x4 h7) fun r16 h17 =>
      if w32 r16 = 0 then
        some ((-1), h17)
      else
        bnd (f2_gather r1.toNat r6.toNat h17) fun r22 h23 =>
        if ¬ w32 r22 = 0 then
          bnd (f2_extreme r1.toNat x3 x4 x5 h23) fun r28 h29 =>
          some (r28, h29)
        else
          some ((-1), h23)
set_option maxRecDepth 100000 in
theorem c10_next (l : Launch) (G : Geo) (x1 : Int) (x2 : Int) (x3 : Int) (x4 : Int) (x5 : Int) (h : AH) : Con l G m10_next rvI 6 [vA G 0, vI x1, vI x2, vI x3, vI x4, vI x5] h (f10_next x1 x2 x3 x4 x5 h) := by
  have hd : 6 ≤ 6 := Nat.le_refl _
  refine con_I rfl (by decide) rfl rfl (Nat.le_of_ble_eq_true rfl) (L := [some (vA G 0), some (vI x1), some (vI x2), some (vI x3), some (vI x4), some (vI x5), none, none]) ?_
  unfold f10_next
  refine den_aload_n (pc := 0) d10_next_0 rfl rfl ?_
  refine den_getR (pc := 1) (b := 1) fa_10_10 (ok_0 _) rfl d10_next_1 ?_
  refine den_iload_n (pc := 4) d10_next_4 rfl rfl ?_
  refine den_callVR (pc := 5) (As := [vI x1]) fv_10_101 rfl rfl (ok_1 _) (Nat.le_of_ble_eq_true rfl) (Nat.le_trans (by decide) hd) d10_next_5 (c8_villageAt l G 1 x1 h (ok_1 _)) (fun r1 h2 m3 o4 => ?_)
  have q5 := RO.v o4
  refine den_astoreR (pc := 8) (L2 := [some (vA G 0), some (vI x1), some (vI x2), some (vI x3), some (vI x4), some (vI x5), some (vR G r1), none]) d10_next_8 (by decide) rfl ?_
  refine den_aload_n (pc := 10) d10_next_10 rfl rfl ?_
  refine den_getR (pc := 11) (b := 1) fa_10_10 (ok_0 _) rfl d10_next_11 ?_
  refine den_iload_n (pc := 14) d10_next_14 rfl rfl ?_
  refine den_callVR (pc := 15) (As := [vI x2]) fv_10_193 rfl rfl (ok_1 _) (Nat.le_of_ble_eq_true rfl) (Nat.le_trans (by decide) hd) d10_next_15 (c8_logAt l G 1 x2 h2 (ok_1 _)) (fun r6 h7 m8 o9 => ?_)
  have q10 := Or.imp id (fun z => ok.mono z m8) q5
  have q11 := RO.r o9
  refine den_astoreR (pc := 18) (L2 := [some (vA G 0), some (vI x1), some (vI x2), some (vI x3), some (vI x4), some (vI x5), some (vR G r1), some (vR G r6)]) d10_next_18 (by decide) (by simp [st1, kl_vR]) ?_
  refine den_aloadR (pc := 20) d10_next_20 rfl ?_
  refine den_ifnull (pc := 22) (tgt := 55) d10_next_22 (by decide) (fun _ => ?_) (fun n12 => ?_)
  · refine den_iconst (pc := 55) d10_next_55 ?_
    exact den_iret (pc := 56) rfl d10_next_56
  · rw [vR_pos G n12]
    have q13 := Or.resolve_left q10 n12
    refine den_aloadR (pc := 25) d10_next_25 rfl ?_
    refine den_ifnull (pc := 27) (tgt := 55) d10_next_27 (by decide) (fun _ => ?_) (fun n14 => ?_)
    · refine den_iconst (pc := 55) d10_next_55 ?_
      exact den_iret (pc := 56) rfl d10_next_56
    · rw [vR_pos G n14]
      have q15 := Or.resolve_left q11 n14
      refine den_aload (pc := 30) d10_next_30 rfl ?_
      refine den_iload_n (pc := 32) d10_next_32 rfl rfl ?_
      refine den_iload (pc := 33) d10_next_33 rfl ?_
      refine den_callVI (pc := 35) (As := [vI x3, vI x4]) fv_10_143 rfl rfl q13 (Nat.le_of_ble_eq_true rfl) (Nat.le_trans (by decide) hd) d10_next_35 (c9_hasCouple l G r1.toNat x3 x4 h7 q13) (fun r16 h17 m18 o19 => ?_)
      have q20 := ok.mono q13 m18
      have q21 := ok.mono q15 m18
      refine den_if_eq (pc := 38) (tgt := 55) d10_next_38 (by decide) rfl (fun _ => ?_) (fun _ => ?_)
      · refine den_iconst (pc := 55) d10_next_55 ?_
        exact den_iret (pc := 56) rfl d10_next_56
      · refine den_aload_n (pc := 41) d10_next_41 rfl rfl ?_
        refine den_getR (pc := 42) (b := 66) fa_10_65 (ok_0 _) rfl d10_next_42 ?_
        refine den_aload (pc := 45) d10_next_45 rfl ?_
        refine den_aload (pc := 47) d10_next_47 rfl ?_
        refine den_callVI (pc := 49) (As := [vA G r1.toNat, vA G r6.toNat]) fv_10_196 rfl rfl (ok_66 _) (Nat.le_of_ble_eq_true rfl) (Nat.le_trans (by decide) hd) d10_next_49 (c2_gather l G r1.toNat r6.toNat h17 q20 q21) (fun r22 h23 m24 o25 => ?_)
        have q26 := ok.mono q20 m24
        have q27 := ok.mono q21 m24
        refine den_if_ne (pc := 52) (tgt := 57) d10_next_52 (by decide) rfl (fun _ => ?_) (fun _ => ?_)
        · refine den_aload_n (pc := 57) d10_next_57 rfl rfl ?_
          refine den_getR (pc := 58) (b := 66) fa_10_65 (ok_0 _) rfl d10_next_58 ?_
          refine den_aload (pc := 61) d10_next_61 rfl ?_
          refine den_iload_n (pc := 63) d10_next_63 rfl rfl ?_
          refine den_iload (pc := 64) d10_next_64 rfl ?_
          refine den_iload (pc := 66) d10_next_66 rfl ?_
          refine den_callVI (pc := 68) (As := [vA G r1.toNat, vI x3, vI x4, vI x5]) fv_10_293 rfl rfl (ok_66 _) (Nat.le_of_ble_eq_true rfl) (Nat.le_trans (by decide) hd) d10_next_68 (c2_extreme l G r1.toNat x3 x4 x5 h23 q26) (fun r28 h29 m30 o31 => ?_)
          have q32 := ok.mono q26 m30
          have q33 := ok.mono q27 m30
          exact den_iret (pc := 71) rfl d10_next_71
        · refine den_iconst (pc := 55) d10_next_55 ?_
          exact den_iret (pc := 56) rfl d10_next_56
