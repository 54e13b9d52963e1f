/-! 9_answerHeld 7_answer 7_below 7_mayDraw 7_drawDeed 7_playBySeed 7_spend 9_agreeFirst 7_makeCalm 8_copy 8_addBytes 8_isThere 8_villageAt 8_dayAt 8_logAt 8_placeFor -/
theorem d9_answerHeld_0 : decode m9_answerHeld.2.1 0 = .ok (.iload_n 1, 1) := by decide +kernel
theorem d9_answerHeld_1 : decode m9_answerHeld.2.1 1 = .ok (.bipush 100, 2) := by decide +kernel
theorem d9_answerHeld_3 : decode m9_answerHeld.2.1 3 = .ok (.isub, 1) := by decide +kernel
theorem d9_answerHeld_4 : decode m9_answerHeld.2.1 4 = .ok (.bipush 10, 2) := by decide +kernel
theorem d9_answerHeld_6 : decode m9_answerHeld.2.1 6 = .ok (.idiv, 1) := by decide +kernel
theorem d9_answerHeld_7 : decode m9_answerHeld.2.1 7 = .ok (.istore_n 2, 1) := by decide +kernel
theorem d9_answerHeld_8 : decode m9_answerHeld.2.1 8 = .ok (.iload_n 1, 1) := by decide +kernel
theorem d9_answerHeld_9 : decode m9_answerHeld.2.1 9 = .ok (.bipush 100, 2) := by decide +kernel
theorem d9_answerHeld_11 : decode m9_answerHeld.2.1 11 = .ok (.isub, 1) := by decide +kernel
theorem d9_answerHeld_12 : decode m9_answerHeld.2.1 12 = .ok (.bipush 10, 2) := by decide +kernel
theorem d9_answerHeld_14 : decode m9_answerHeld.2.1 14 = .ok (.irem, 1) := by decide +kernel
theorem d9_answerHeld_15 : decode m9_answerHeld.2.1 15 = .ok (.istore_n 3, 1) := by decide +kernel
theorem d9_answerHeld_16 : decode m9_answerHeld.2.1 16 = .ok (.iload_n 1, 1) := by decide +kernel
theorem d9_answerHeld_17 : decode m9_answerHeld.2.1 17 = .ok (.bipush 100, 2) := by decide +kernel
theorem d9_answerHeld_19 : decode m9_answerHeld.2.1 19 = .ok (.if_icmp .lt 28, 3) := by decide +kernel
theorem d9_answerHeld_22 : decode m9_answerHeld.2.1 22 = .ok (.aload_n 0, 1) := by decide +kernel
theorem d9_answerHeld_23 : decode m9_answerHeld.2.1 23 = .ok (.iload_n 2, 1) := by decide +kernel
theorem d9_answerHeld_24 : decode m9_answerHeld.2.1 24 = .ok (.invokevirtual 52, 3) := by decide +kernel
theorem d9_answerHeld_27 : decode m9_answerHeld.2.1 27 = .ok (.ifCond .eq 20, 3) := by decide +kernel
theorem d9_answerHeld_30 : decode m9_answerHeld.2.1 30 = .ok (.aload_n 0, 1) := by decide +kernel
theorem d9_answerHeld_31 : decode m9_answerHeld.2.1 31 = .ok (.iload_n 3, 1) := by decide +kernel
theorem d9_answerHeld_32 : decode m9_answerHeld.2.1 32 = .ok (.invokevirtual 56, 3) := by decide +kernel
theorem d9_answerHeld_35 : decode m9_answerHeld.2.1 35 = .ok (.ifCond .eq 12, 3) := by decide +kernel
theorem d9_answerHeld_38 : decode m9_answerHeld.2.1 38 = .ok (.aload_n 0, 1) := by decide +kernel
theorem d9_answerHeld_39 : decode m9_answerHeld.2.1 39 = .ok (.iload_n 2, 1) := by decide +kernel
theorem d9_answerHeld_40 : decode m9_answerHeld.2.1 40 = .ok (.iload_n 3, 1) := by decide +kernel
theorem d9_answerHeld_41 : decode m9_answerHeld.2.1 41 = .ok (.invokevirtual 69, 3) := by decide +kernel
theorem d9_answerHeld_44 : decode m9_answerHeld.2.1 44 = .ok (.goto 5, 3) := by decide +kernel
theorem d9_answerHeld_47 : decode m9_answerHeld.2.1 47 = .ok (.bipush (-2), 2) := by decide +kernel
theorem d9_answerHeld_49 : decode m9_answerHeld.2.1 49 = .ok (.ireturn, 1) := by decide +kernel
def f9_answerHeld (x0 : Nat) (x1 : Int) (h : AH) : Option (Int × AH) :=
  lt (dv32 (x1 - 100) 10) fun u1 =>
  lt (rm32 (x1 - 100) 10) fun u2 =>
  if w32 x1 < 100 then
    some ((-2), h)
  else
    bnd (f9_hasPerson x0 u1 h) fun r3 h4 =>
    if w32 r3 = 0 then
      some ((-2), h4)
    else
      bnd (f9_hasSubject x0 u2 h4) fun r8 h9 =>
      if w32 r8 = 0 then
        some ((-2), h9)
      else
        bnd (f9_held x0 u1 u2 h9) fun r13 h14 =>
        some (r13, h14)
set_option maxRecDepth 100000 in
theorem c9_answerHeld (l : Launch) (G : Geo) (x0 : Nat) (x1 : Int) (h : AH) (kx0 : ok h.1 x0 9) : Con l G m9_answerHeld rvI 3 [vA G x0, vI x1] h (f9_answerHeld x0 x1 h) := by
  have hd : 3 ≤ 3 := Nat.le_refl _
  refine con_I rfl (by decide) rfl rfl (Nat.le_of_ble_eq_true rfl) (L := [some (vA G x0), some (vI x1), none, none]) ?_
  unfold f9_answerHeld
  refine den_iload_n (pc := 0) d9_answerHeld_0 rfl rfl ?_
  refine den_bipush (pc := 1) d9_answerHeld_1 (by decide) ?_
  refine den_isub (pc := 3) d9_answerHeld_3 ?_
  refine den_bipush (pc := 4) d9_answerHeld_4 (by decide) ?_
  refine den_idiv (pc := 6) d9_answerHeld_6 (by decide) ?_
  refine den_istore_nL (pc := 7) (L2 := fun y => [some (vA G x0), some (vI x1), some (vI y), none]) d9_answerHeld_7 rfl (by decide) (fun _ => rfl) (fun u1 => ?_)
  refine den_iload_n (pc := 8) d9_answerHeld_8 rfl rfl ?_
  refine den_bipush (pc := 9) d9_answerHeld_9 (by decide) ?_
  refine den_isub (pc := 11) d9_answerHeld_11 ?_
  refine den_bipush (pc := 12) d9_answerHeld_12 (by decide) ?_
  refine den_irem (pc := 14) d9_answerHeld_14 (by decide) ?_
  refine den_istore_nL (pc := 15) (L2 := fun y => [some (vA G x0), some (vI x1), some (vI u1), some (vI y)]) d9_answerHeld_15 rfl (by decide) (fun _ => rfl) (fun u2 => ?_)
  refine den_iload_n (pc := 16) d9_answerHeld_16 rfl rfl ?_
  refine den_bipush (pc := 17) d9_answerHeld_17 (by decide) ?_
  refine den_icmp_lt (pc := 19) (tgt := 47) d9_answerHeld_19 (by decide) rfl (by decide) (fun _ => ?_) (fun _ => ?_)
  · refine den_bipush (pc := 47) d9_answerHeld_47 (by decide) ?_
    exact den_iret (pc := 49) rfl d9_answerHeld_49
  · refine den_aload_n (pc := 22) d9_answerHeld_22 rfl rfl ?_
    refine den_iload_n (pc := 23) d9_answerHeld_23 rfl rfl ?_
    refine den_callVI (pc := 24) (As := [vI u1]) fv_9_52 rfl rfl kx0 (Nat.le_of_ble_eq_true rfl) (Nat.le_trans (by decide) hd) d9_answerHeld_24 (c9_hasPerson l G x0 u1 h kx0) (fun r3 h4 m5 o6 => ?_)
    have q7 := ok.mono kx0 m5
    refine den_if_eq (pc := 27) (tgt := 47) d9_answerHeld_27 (by decide) rfl (fun _ => ?_) (fun _ => ?_)
    · refine den_bipush (pc := 47) d9_answerHeld_47 (by decide) ?_
      exact den_iret (pc := 49) rfl d9_answerHeld_49
    · refine den_aload_n (pc := 30) d9_answerHeld_30 rfl rfl ?_
      refine den_iload_n (pc := 31) d9_answerHeld_31 rfl rfl ?_
      refine den_callVI (pc := 32) (As := [vI u2]) fv_9_56 rfl rfl q7 (Nat.le_of_ble_eq_true rfl) (Nat.le_trans (by decide) hd) d9_answerHeld_32 (c9_hasSubject l G x0 u2 h4 q7) (fun r8 h9 m10 o11 => ?_)
      have q12 := ok.mono q7 m10
      refine den_if_eq (pc := 35) (tgt := 47) d9_answerHeld_35 (by decide) rfl (fun _ => ?_) (fun _ => ?_)
      · refine den_bipush (pc := 47) d9_answerHeld_47 (by decide) ?_
        exact den_iret (pc := 49) rfl d9_answerHeld_49
      · refine den_aload_n (pc := 38) d9_answerHeld_38 rfl rfl ?_
        refine den_iload_n (pc := 39) d9_answerHeld_39 rfl rfl ?_
        refine den_iload_n (pc := 40) d9_answerHeld_40 rfl rfl ?_
        refine den_callVI (pc := 41) (As := [vI u1, vI u2]) fv_9_69 rfl rfl q12 (Nat.le_of_ble_eq_true rfl) (Nat.le_trans (by decide) hd) d9_answerHeld_41 (c9_held l G x0 u1 u2 h9 q12) (fun r13 h14 m15 o16 => ?_)
        have q17 := ok.mono q12 m15
        refine den_goto (pc := 44) (tgt := 49) d9_answerHeld_44 (by decide) ?_
        exact den_iret (pc := 49) rfl d9_answerHeld_49
theorem d7_answer_0 : decode m7_answer.2.1 0 = .ok (.iload_n 1, 1) := by decide +kernel
theorem d7_answer_1 : decode m7_answer.2.1 1 = .ok (.tableswitch 51 0 3 #[31, 36, 41, 46], 31) := by decide +kernel
theorem d7_answer_32 : decode m7_answer.2.1 32 = .ok (.aload_n 0, 1) := by decide +kernel
theorem d7_answer_33 : decode m7_answer.2.1 33 = .ok (.getfield 35, 3) := by decide +kernel
theorem d7_answer_36 : decode m7_answer.2.1 36 = .ok (.ireturn, 1) := by decide +kernel
theorem d7_answer_37 : decode m7_answer.2.1 37 = .ok (.aload_n 0, 1) := by decide +kernel
theorem d7_answer_38 : decode m7_answer.2.1 38 = .ok (.getfield 39, 3) := by decide +kernel
theorem d7_answer_41 : decode m7_answer.2.1 41 = .ok (.ireturn, 1) := by decide +kernel
theorem d7_answer_42 : decode m7_answer.2.1 42 = .ok (.aload_n 0, 1) := by decide +kernel
theorem d7_answer_43 : decode m7_answer.2.1 43 = .ok (.getfield 42, 3) := by decide +kernel
theorem d7_answer_46 : decode m7_answer.2.1 46 = .ok (.ireturn, 1) := by decide +kernel
theorem d7_answer_47 : decode m7_answer.2.1 47 = .ok (.aload_n 0, 1) := by decide +kernel
theorem d7_answer_48 : decode m7_answer.2.1 48 = .ok (.getfield 45, 3) := by decide +kernel
theorem d7_answer_51 : decode m7_answer.2.1 51 = .ok (.ireturn, 1) := by decide +kernel
theorem d7_answer_52 : decode m7_answer.2.1 52 = .ok (.iload_n 1, 1) := by decide +kernel
theorem d7_answer_53 : decode m7_answer.2.1 53 = .ok (.bipush 100, 2) := by decide +kernel
theorem d7_answer_55 : decode m7_answer.2.1 55 = .ok (.if_icmp .lt 14, 3) := by decide +kernel
theorem d7_answer_58 : decode m7_answer.2.1 58 = .ok (.aload_n 0, 1) := by decide +kernel
theorem d7_answer_59 : decode m7_answer.2.1 59 = .ok (.getfield 12, 3) := by decide +kernel
theorem d7_answer_62 : decode m7_answer.2.1 62 = .ok (.iload_n 1, 1) := by decide +kernel
theorem d7_answer_63 : decode m7_answer.2.1 63 = .ok (.invokevirtual 90, 3) := by decide +kernel
theorem d7_answer_66 : decode m7_answer.2.1 66 = .ok (.goto 8, 3) := by decide +kernel
theorem d7_answer_69 : decode m7_answer.2.1 69 = .ok (.aload_n 0, 1) := by decide +kernel
theorem d7_answer_70 : decode m7_answer.2.1 70 = .ok (.iload_n 1, 1) := by decide +kernel
theorem d7_answer_71 : decode m7_answer.2.1 71 = .ok (.invokevirtual 94, 3) := by decide +kernel
theorem d7_answer_74 : decode m7_answer.2.1 74 = .ok (.ireturn, 1) := by decide +kernel
def f7_answer (x1 : Int) (h : AH) : Option (Int × AH) :=
  if w32 x1 = 0 then
    some (h.2 41 3, h)
  else
  if w32 x1 = 1 then
    some (h.2 41 4, h)
  else
  if w32 x1 = 2 then
    some (h.2 41 5, h)
  else
  if w32 x1 = 3 then
    some (h.2 41 6, h)
  else
  if w32 x1 < 100 then
    bnd (f7_answerHeat x1 h) fun r5 h6 =>
    some (r5, h6)
  else
    bnd (f9_answerHeld 42 x1 h) fun r9 h10 =>
    some (r9, h10)
set_option maxRecDepth 100000 in
theorem c7_answer (l : Launch) (G : Geo) (x1 : Int) (h : AH) : Con l G m7_answer rvI 4 [vA G 41, vI x1] h (f7_answer x1 h) := by
  have hd : 4 ≤ 4 := Nat.le_refl _
  refine con_I rfl (by decide) rfl rfl (Nat.le_of_ble_eq_true rfl) (L := [some (vA G 41), some (vI x1)]) ?_
  unfold f7_answer
  refine den_iload_n (pc := 0) d7_answer_0 rfl rfl ?_
  refine den_ite (fun c1 => ?_) (fun c1 => ?_)
  · refine den_tableIn (pc := 1) (tgt := 32) d7_answer_1 (by omega) (by omega) (by rw [c1]; rfl) (by decide) ?_
    refine den_aload_n (pc := 32) d7_answer_32 rfl rfl ?_
    refine den_getI (pc := 33) fa_7_35 (ok_41 _) d7_answer_33 ?_
    exact den_iret (pc := 36) rfl d7_answer_36
  refine den_ite (fun c2 => ?_) (fun c2 => ?_)
  · refine den_tableIn (pc := 1) (tgt := 37) d7_answer_1 (by omega) (by omega) (by rw [c2]; rfl) (by decide) ?_
    refine den_aload_n (pc := 37) d7_answer_37 rfl rfl ?_
    refine den_getI (pc := 38) fa_7_39 (ok_41 _) d7_answer_38 ?_
    exact den_iret (pc := 41) rfl d7_answer_41
  refine den_ite (fun c3 => ?_) (fun c3 => ?_)
  · refine den_tableIn (pc := 1) (tgt := 42) d7_answer_1 (by omega) (by omega) (by rw [c3]; rfl) (by decide) ?_
    refine den_aload_n (pc := 42) d7_answer_42 rfl rfl ?_
    refine den_getI (pc := 43) fa_7_42 (ok_41 _) d7_answer_43 ?_
    exact den_iret (pc := 46) rfl d7_answer_46
  refine den_ite (fun c4 => ?_) (fun c4 => ?_)
  · refine den_tableIn (pc := 1) (tgt := 47) d7_answer_1 (by omega) (by omega) (by rw [c4]; rfl) (by decide) ?_
    refine den_aload_n (pc := 47) d7_answer_47 rfl rfl ?_
    refine den_getI (pc := 48) fa_7_45 (ok_41 _) d7_answer_48 ?_
    exact den_iret (pc := 51) rfl d7_answer_51
  refine den_tableOut (pc := 1) (tgt := 52) d7_answer_1 (by omega) (by decide) ?_
  refine den_iload_n (pc := 52) d7_answer_52 rfl rfl ?_
  refine den_bipush (pc := 53) d7_answer_53 (by decide) ?_
  refine den_icmp_lt (pc := 55) (tgt := 69) d7_answer_55 (by decide) rfl (by decide) (fun _ => ?_) (fun _ => ?_)
  · refine den_aload_n (pc := 69) d7_answer_69 rfl rfl ?_
    refine den_iload_n (pc := 70) d7_answer_70 rfl rfl ?_
    refine den_callVI (pc := 71) (As := [vI x1]) fv_7_94 rfl rfl (ok_41 _) (Nat.le_of_ble_eq_true rfl) (Nat.le_trans (by decide) hd) d7_answer_71 (c7_answerHeat l G x1 h) (fun r5 h6 m7 o8 => ?_)
    exact den_iret (pc := 74) rfl d7_answer_74
  · refine den_aload_n (pc := 58) d7_answer_58 rfl rfl ?_
    refine den_getR (pc := 59) (b := 42) fa_7_12 (ok_41 _) rfl d7_answer_59 ?_
    refine den_iload_n (pc := 62) d7_answer_62 rfl rfl ?_
    refine den_callVI (pc := 63) (As := [vI x1]) fv_7_90 rfl rfl (ok_42 _) (Nat.le_of_ble_eq_true rfl) (Nat.le_trans (by decide) hd) d7_answer_63 (c9_answerHeld l G 42 x1 h (ok_42 _)) (fun r9 h10 m11 o12 => ?_)
    refine den_goto (pc := 66) (tgt := 74) d7_answer_66 (by decide) ?_
    exact den_iret (pc := 74) rfl d7_answer_74
theorem d7_below_0 : decode m7_below.2.1 0 = .ok (.aload_n 0, 1) := by decide +kernel
theorem d7_below_1 : decode m7_below.2.1 1 = .ok (.aload_n 0, 1) := by decide +kernel
theorem d7_below_2 : decode m7_below.2.1 2 = .ok (.getfield 150, 3) := by decide +kernel
theorem d7_below_5 : decode m7_below.2.1 5 = .ok (.ldc 165, 2) := by decide +kernel
theorem d7_below_7 : decode m7_below.2.1 7 = .ok (.imul, 1) := by decide +kernel
theorem d7_below_8 : decode m7_below.2.1 8 = .ok (.sipush 12345, 3) := by decide +kernel
theorem d7_below_11 : decode m7_below.2.1 11 = .ok (.iadd, 1) := by decide +kernel
theorem d7_below_12 : decode m7_below.2.1 12 = .ok (.putfield 150, 3) := by decide +kernel
theorem d7_below_15 : decode m7_below.2.1 15 = .ok (.iload_n 1, 1) := by decide +kernel
theorem d7_below_16 : decode m7_below.2.1 16 = .ok (.ifCond .le 15, 3) := by decide +kernel
theorem d7_below_19 : decode m7_below.2.1 19 = .ok (.aload_n 0, 1) := by decide +kernel
theorem d7_below_20 : decode m7_below.2.1 20 = .ok (.getfield 150, 3) := by decide +kernel
theorem d7_below_23 : decode m7_below.2.1 23 = .ok (.bipush 16, 2) := by decide +kernel
theorem d7_below_25 : decode m7_below.2.1 25 = .ok (.iushr, 1) := by decide +kernel
theorem d7_below_26 : decode m7_below.2.1 26 = .ok (.iload_n 1, 1) := by decide +kernel
theorem d7_below_27 : decode m7_below.2.1 27 = .ok (.irem, 1) := by decide +kernel
theorem d7_below_28 : decode m7_below.2.1 28 = .ok (.goto 4, 3) := by decide +kernel
theorem d7_below_31 : decode m7_below.2.1 31 = .ok (.iconst 0, 1) := by decide +kernel
theorem d7_below_32 : decode m7_below.2.1 32 = .ok (.ireturn, 1) := by decide +kernel
def f7_below (x1 : Int) (h : AH) : Option (Int × AH) :=
  lt (wr h 41 10 (((h.2 41 10) * 1103515245) + 12345)) fun h1 =>
  if w32 x1 ≤ 0 then
    some (0, h1)
  else
    asrt (¬ w32 x1 = 0) <|
    some (rm32 (ush32 (h1.2 41 10) 16) x1, h1)
set_option maxRecDepth 100000 in
theorem c7_below (l : Launch) (G : Geo) (x1 : Int) (h : AH) : Con l G m7_below rvI 2 [vA G 41, vI x1] h (f7_below x1 h) := by
  have hd : 2 ≤ 2 := Nat.le_refl _
  refine con_I rfl (by decide) rfl rfl (Nat.le_of_ble_eq_true rfl) (L := [some (vA G 41), some (vI x1)]) ?_
  unfold f7_below
  refine den_aload_n (pc := 0) d7_below_0 rfl rfl ?_
  refine den_aload_n (pc := 1) d7_below_1 rfl rfl ?_
  refine den_getI (pc := 2) fa_7_150 (ok_41 _) d7_below_2 ?_
  refine den_ldc (pc := 5) kc_7_165 d7_below_5 ?_
  refine den_imul (pc := 7) d7_below_7 ?_
  refine den_sipush (pc := 8) d7_below_8 (by decide) ?_
  refine den_iadd (pc := 11) d7_below_11 ?_
  refine den_putI (pc := 12) fp_7_150 (ok_41 _) d7_below_12 ?_
  refine den_ltH (fun h1 m2 => ?_)
  refine den_iload_n (pc := 15) d7_below_15 rfl rfl ?_
  refine den_if_le (pc := 16) (tgt := 31) d7_below_16 (by decide) rfl (fun _ => ?_) (fun _ => ?_)
  · refine den_iconst (pc := 31) d7_below_31 ?_
    exact den_iret (pc := 32) rfl d7_below_32
  · refine den_aload_n (pc := 19) d7_below_19 rfl rfl ?_
    refine den_getI (pc := 20) fa_7_150 (ok_41 _) d7_below_20 ?_
    refine den_bipush (pc := 23) d7_below_23 (by decide) ?_
    refine den_iushr (pc := 25) d7_below_25 ?_
    refine den_iload_n (pc := 26) d7_below_26 rfl rfl ?_
    refine den_asrt (fun a3 => ?_)
    refine den_irem (pc := 27) d7_below_27 a3 ?_
    refine den_goto (pc := 28) (tgt := 32) d7_below_28 (by decide) ?_
    exact den_iret (pc := 32) rfl d7_below_32
theorem d7_mayDraw_0 : decode m7_mayDraw.2.1 0 = .ok (.iload_n 1, 1) := by decide +kernel
theorem d7_mayDraw_1 : decode m7_mayDraw.2.1 1 = .ok (.iconst 5, 1) := by decide +kernel
theorem d7_mayDraw_2 : decode m7_mayDraw.2.1 2 = .ok (.if_icmp .gt 14, 3) := by decide +kernel
theorem d7_mayDraw_5 : decode m7_mayDraw.2.1 5 = .ok (.aload_n 0, 1) := by decide +kernel
theorem d7_mayDraw_6 : decode m7_mayDraw.2.1 6 = .ok (.getfield 12, 3) := by decide +kernel
theorem d7_mayDraw_9 : decode m7_mayDraw.2.1 9 = .ok (.getfield 87, 3) := by decide +kernel
theorem d7_mayDraw_12 : decode m7_mayDraw.2.1 12 = .ok (.iconst 1, 1) := by decide +kernel
theorem d7_mayDraw_13 : decode m7_mayDraw.2.1 13 = .ok (.if_icmp .le 7, 3) := by decide +kernel
theorem d7_mayDraw_16 : decode m7_mayDraw.2.1 16 = .ok (.iconst 1, 1) := by decide +kernel
theorem d7_mayDraw_17 : decode m7_mayDraw.2.1 17 = .ok (.goto 4, 3) := by decide +kernel
theorem d7_mayDraw_20 : decode m7_mayDraw.2.1 20 = .ok (.iconst 0, 1) := by decide +kernel
theorem d7_mayDraw_21 : decode m7_mayDraw.2.1 21 = .ok (.istore_n 2, 1) := by decide +kernel
theorem d7_mayDraw_22 : decode m7_mayDraw.2.1 22 = .ok (.iload_n 1, 1) := by decide +kernel
theorem d7_mayDraw_23 : decode m7_mayDraw.2.1 23 = .ok (.iconst 3, 1) := by decide +kernel
theorem d7_mayDraw_24 : decode m7_mayDraw.2.1 24 = .ok (.if_icmp .gt 13, 3) := by decide +kernel
theorem d7_mayDraw_27 : decode m7_mayDraw.2.1 27 = .ok (.aload_n 0, 1) := by decide +kernel
theorem d7_mayDraw_28 : decode m7_mayDraw.2.1 28 = .ok (.getfield 12, 3) := by decide +kernel
theorem d7_mayDraw_31 : decode m7_mayDraw.2.1 31 = .ok (.getfield 76, 3) := by decide +kernel
theorem d7_mayDraw_34 : decode m7_mayDraw.2.1 34 = .ok (.ifCond .le 7, 3) := by decide +kernel
theorem d7_mayDraw_37 : decode m7_mayDraw.2.1 37 = .ok (.iconst 1, 1) := by decide +kernel
theorem d7_mayDraw_38 : decode m7_mayDraw.2.1 38 = .ok (.goto 4, 3) := by decide +kernel
theorem d7_mayDraw_41 : decode m7_mayDraw.2.1 41 = .ok (.iconst 0, 1) := by decide +kernel
theorem d7_mayDraw_42 : decode m7_mayDraw.2.1 42 = .ok (.istore_n 3, 1) := by decide +kernel
theorem d7_mayDraw_43 : decode m7_mayDraw.2.1 43 = .ok (.aload_n 0, 1) := by decide +kernel
theorem d7_mayDraw_44 : decode m7_mayDraw.2.1 44 = .ok (.getfield 12, 3) := by decide +kernel
theorem d7_mayDraw_47 : decode m7_mayDraw.2.1 47 = .ok (.getfield 162, 3) := by decide +kernel
theorem d7_mayDraw_50 : decode m7_mayDraw.2.1 50 = .ok (.ifCond .le 15, 3) := by decide +kernel
theorem d7_mayDraw_53 : decode m7_mayDraw.2.1 53 = .ok (.iload_n 2, 1) := by decide +kernel
theorem d7_mayDraw_54 : decode m7_mayDraw.2.1 54 = .ok (.ifCond .eq 11, 3) := by decide +kernel
theorem d7_mayDraw_57 : decode m7_mayDraw.2.1 57 = .ok (.iload_n 3, 1) := by decide +kernel
theorem d7_mayDraw_58 : decode m7_mayDraw.2.1 58 = .ok (.ifCond .eq 7, 3) := by decide +kernel
theorem d7_mayDraw_61 : decode m7_mayDraw.2.1 61 = .ok (.iconst 1, 1) := by decide +kernel
theorem d7_mayDraw_62 : decode m7_mayDraw.2.1 62 = .ok (.goto 4, 3) := by decide +kernel
theorem d7_mayDraw_65 : decode m7_mayDraw.2.1 65 = .ok (.iconst 0, 1) := by decide +kernel
theorem d7_mayDraw_66 : decode m7_mayDraw.2.1 66 = .ok (.ireturn, 1) := by decide +kernel
def b7_mayDraw_42 (x2 : Int) (s0 : Int) (h : AH) : Option (Int × AH) :=
  if w32 (h.2 42 1) ≤ 0 then
    some (0, h)
  else
    if w32 x2 = 0 then
      some (0, h)
    else
      if w32 s0 = 0 then
        some (0, h)
      else
        some (1, h)
set_option maxRecDepth 100000 in
theorem t7_mayDraw_42 (l : Launch) (G : Geo) (d : Nat) (hd : 2 ≤ d) (x2 : Int) (s0 : Int) (h : AH) : Den l G m7_mayDraw rvI d 42 [some (vA G 41), none, some (vI x2), none] [vI s0] h (b7_mayDraw_42 x2 s0 h) := by
  unfold b7_mayDraw_42
  refine den_istore_n (pc := 42) (L2 := [some (vA G 41), none, some (vI x2), some (vI s0)]) d7_mayDraw_42 rfl (by decide) rfl ?_
  refine den_aload_n (pc := 43) d7_mayDraw_43 rfl rfl ?_
  refine den_getR (pc := 44) (b := 42) fa_7_12 (ok_41 _) rfl d7_mayDraw_44 ?_
  refine den_getI (pc := 47) fa_7_162 (ok_42 _) d7_mayDraw_47 ?_
  refine den_if_le (pc := 50) (tgt := 65) d7_mayDraw_50 (by decide) rfl (fun _ => ?_) (fun _ => ?_)
  · refine den_iconst (pc := 65) d7_mayDraw_65 ?_
    exact den_zret (pc := 66) rfl (by decide) d7_mayDraw_66
  · refine den_iload_n (pc := 53) d7_mayDraw_53 rfl rfl ?_
    refine den_if_eq (pc := 54) (tgt := 65) d7_mayDraw_54 (by decide) rfl (fun _ => ?_) (fun _ => ?_)
    · refine den_iconst (pc := 65) d7_mayDraw_65 ?_
      exact den_zret (pc := 66) rfl (by decide) d7_mayDraw_66
    · refine den_iload_n (pc := 57) d7_mayDraw_57 rfl rfl ?_
      refine den_if_eq (pc := 58) (tgt := 65) d7_mayDraw_58 (by decide) rfl (fun _ => ?_) (fun _ => ?_)
      · refine den_iconst (pc := 65) d7_mayDraw_65 ?_
        exact den_zret (pc := 66) rfl (by decide) d7_mayDraw_66
      · refine den_iconst (pc := 61) d7_mayDraw_61 ?_
        refine den_goto (pc := 62) (tgt := 66) d7_mayDraw_62 (by decide) ?_
        exact den_zret (pc := 66) rfl (by decide) d7_mayDraw_66
def b7_mayDraw_37 (x2 : Int) (h : AH) : Option (Int × AH) :=
  b7_mayDraw_42 x2 1 h
set_option maxRecDepth 100000 in
theorem t7_mayDraw_37 (l : Launch) (G : Geo) (d : Nat) (hd : 2 ≤ d) (x2 : Int) (h : AH) : Den l G m7_mayDraw rvI d 37 [some (vA G 41), none, some (vI x2), none] [] h (b7_mayDraw_37 x2 h) := by
  unfold b7_mayDraw_37
  refine den_iconst (pc := 37) d7_mayDraw_37 ?_
  refine den_goto (pc := 38) (tgt := 42) d7_mayDraw_38 (by decide) ?_
  exact t7_mayDraw_42 l G _ hd x2 1 h
def b7_mayDraw_21 (x1 : Int) (s0 : Int) (h : AH) : Option (Int × AH) :=
  if 3 < w32 x1 then
    b7_mayDraw_37 s0 h
  else
    if w32 (h.2 42 2) ≤ 0 then
      b7_mayDraw_42 s0 0 h
    else
      b7_mayDraw_37 s0 h
set_option maxRecDepth 100000 in
theorem t7_mayDraw_21 (l : Launch) (G : Geo) (d : Nat) (hd : 2 ≤ d) (x1 : Int) (s0 : Int) (h : AH) : Den l G m7_mayDraw rvI d 21 [some (vA G 41), some (vI x1), none, none] [vI s0] h (b7_mayDraw_21 x1 s0 h) := by
  unfold b7_mayDraw_21
  refine den_istore_n (pc := 21) (L2 := [some (vA G 41), some (vI x1), some (vI s0), none]) d7_mayDraw_21 rfl (by decide) rfl ?_
  refine den_iload_n (pc := 22) d7_mayDraw_22 rfl rfl ?_
  refine den_iconst (pc := 23) d7_mayDraw_23 ?_
  refine den_icmp_gt (pc := 24) (tgt := 37) d7_mayDraw_24 (by decide) rfl (by decide) (fun _ => ?_) (fun _ => ?_)
  · refine den_wk [true, false, true, true] rfl ?_
    exact t7_mayDraw_37 l G _ hd s0 h
  · refine den_aload_n (pc := 27) d7_mayDraw_27 rfl rfl ?_
    refine den_getR (pc := 28) (b := 42) fa_7_12 (ok_41 _) rfl d7_mayDraw_28 ?_
    refine den_getI (pc := 31) fa_7_76 (ok_42 _) d7_mayDraw_31 ?_
    refine den_if_le (pc := 34) (tgt := 41) d7_mayDraw_34 (by decide) rfl (fun _ => ?_) (fun _ => ?_)
    · refine den_iconst (pc := 41) d7_mayDraw_41 ?_
      refine den_wk [true, false, true, true] rfl ?_
      exact t7_mayDraw_42 l G _ hd s0 0 h
    · refine den_wk [true, false, true, true] rfl ?_
      exact t7_mayDraw_37 l G _ hd s0 h
def b7_mayDraw_16 (x1 : Int) (h : AH) : Option (Int × AH) :=
  b7_mayDraw_21 x1 1 h
set_option maxRecDepth 100000 in
theorem t7_mayDraw_16 (l : Launch) (G : Geo) (d : Nat) (hd : 2 ≤ d) (x1 : Int) (h : AH) : Den l G m7_mayDraw rvI d 16 [some (vA G 41), some (vI x1), none, none] [] h (b7_mayDraw_16 x1 h) := by
  unfold b7_mayDraw_16
  refine den_iconst (pc := 16) d7_mayDraw_16 ?_
  refine den_goto (pc := 17) (tgt := 21) d7_mayDraw_17 (by decide) ?_
  exact t7_mayDraw_21 l G _ hd x1 1 h
def f7_mayDraw (x1 : Int) (h : AH) : Option (Int × AH) :=
  if 5 < w32 x1 then
    b7_mayDraw_16 x1 h
  else
    if w32 (h.2 42 0) ≤ 1 then
      b7_mayDraw_21 x1 0 h
    else
      b7_mayDraw_16 x1 h
set_option maxRecDepth 100000 in
theorem c7_mayDraw (l : Launch) (G : Geo) (x1 : Int) (h : AH) : Con l G m7_mayDraw rvI 2 [vA G 41, vI x1] h (f7_mayDraw x1 h) := by
  have hd : 2 ≤ 2 := Nat.le_refl _
  refine con_Z rfl (by decide) rfl rfl (Nat.le_of_ble_eq_true rfl) (L := [some (vA G 41), some (vI x1), none, none]) ?_
  unfold f7_mayDraw
  refine den_iload_n (pc := 0) d7_mayDraw_0 rfl rfl ?_
  refine den_iconst (pc := 1) d7_mayDraw_1 ?_
  refine den_icmp_gt (pc := 2) (tgt := 16) d7_mayDraw_2 (by decide) rfl (by decide) (fun _ => ?_) (fun _ => ?_)
  · exact t7_mayDraw_16 l G _ hd x1 h
  · refine den_aload_n (pc := 5) d7_mayDraw_5 rfl rfl ?_
    refine den_getR (pc := 6) (b := 42) fa_7_12 (ok_41 _) rfl d7_mayDraw_6 ?_
    refine den_getI (pc := 9) fa_7_87 (ok_42 _) d7_mayDraw_9 ?_
    refine den_iconst (pc := 12) d7_mayDraw_12 ?_
    refine den_icmp_le (pc := 13) (tgt := 20) d7_mayDraw_13 (by decide) rfl (by decide) (fun _ => ?_) (fun _ => ?_)
    · refine den_iconst (pc := 20) d7_mayDraw_20 ?_
      exact t7_mayDraw_21 l G _ hd x1 0 h
    · exact t7_mayDraw_16 l G _ hd x1 h
theorem d7_drawDeed_0 : decode m7_drawDeed.2.1 0 = .ok (.aload_n 0, 1) := by decide +kernel
theorem d7_drawDeed_1 : decode m7_drawDeed.2.1 1 = .ok (.bipush 8, 2) := by decide +kernel
theorem d7_drawDeed_3 : decode m7_drawDeed.2.1 3 = .ok (.invokevirtual 156, 3) := by decide +kernel
theorem d7_drawDeed_6 : decode m7_drawDeed.2.1 6 = .ok (.istore_n 1, 1) := by decide +kernel
theorem d7_drawDeed_7 : decode m7_drawDeed.2.1 7 = .ok (.iload_n 1, 1) := by decide +kernel
theorem d7_drawDeed_8 : decode m7_drawDeed.2.1 8 = .ok (.bipush 7, 2) := by decide +kernel
theorem d7_drawDeed_10 : decode m7_drawDeed.2.1 10 = .ok (.if_icmp .ne 9, 3) := by decide +kernel
theorem d7_drawDeed_13 : decode m7_drawDeed.2.1 13 = .ok (.aload_n 0, 1) := by decide +kernel
theorem d7_drawDeed_14 : decode m7_drawDeed.2.1 14 = .ok (.invokevirtual 122, 3) := by decide +kernel
theorem d7_drawDeed_17 : decode m7_drawDeed.2.1 17 = .ok (.pop, 1) := by decide +kernel
theorem d7_drawDeed_18 : decode m7_drawDeed.2.1 18 = .ok (.return_, 1) := by decide +kernel
theorem d7_drawDeed_19 : decode m7_drawDeed.2.1 19 = .ok (.aload_n 0, 1) := by decide +kernel
theorem d7_drawDeed_20 : decode m7_drawDeed.2.1 20 = .ok (.iload_n 1, 1) := by decide +kernel
theorem d7_drawDeed_21 : decode m7_drawDeed.2.1 21 = .ok (.invokevirtual 159, 3) := by decide +kernel
theorem d7_drawDeed_24 : decode m7_drawDeed.2.1 24 = .ok (.ifCond .ne 4, 3) := by decide +kernel
theorem d7_drawDeed_27 : decode m7_drawDeed.2.1 27 = .ok (.return_, 1) := by decide +kernel
theorem d7_drawDeed_28 : decode m7_drawDeed.2.1 28 = .ok (.iload_n 1, 1) := by decide +kernel
theorem d7_drawDeed_29 : decode m7_drawDeed.2.1 29 = .ok (.bipush 6, 2) := by decide +kernel
theorem d7_drawDeed_31 : decode m7_drawDeed.2.1 31 = .ok (.if_icmp .ne 28, 3) := by decide +kernel
theorem d7_drawDeed_34 : decode m7_drawDeed.2.1 34 = .ok (.aload_n 0, 1) := by decide +kernel
theorem d7_drawDeed_35 : decode m7_drawDeed.2.1 35 = .ok (.aload_n 0, 1) := by decide +kernel
theorem d7_drawDeed_36 : decode m7_drawDeed.2.1 36 = .ok (.getfield 12, 3) := by decide +kernel
theorem d7_drawDeed_39 : decode m7_drawDeed.2.1 39 = .ok (.getfield 162, 3) := by decide +kernel
theorem d7_drawDeed_42 : decode m7_drawDeed.2.1 42 = .ok (.invokevirtual 156, 3) := by decide +kernel
theorem d7_drawDeed_45 : decode m7_drawDeed.2.1 45 = .ok (.istore_n 2, 1) := by decide +kernel
theorem d7_drawDeed_46 : decode m7_drawDeed.2.1 46 = .ok (.aload_n 0, 1) := by decide +kernel
theorem d7_drawDeed_47 : decode m7_drawDeed.2.1 47 = .ok (.iload_n 2, 1) := by decide +kernel
theorem d7_drawDeed_48 : decode m7_drawDeed.2.1 48 = .ok (.aload_n 0, 1) := by decide +kernel
theorem d7_drawDeed_49 : decode m7_drawDeed.2.1 49 = .ok (.bipush 10, 2) := by decide +kernel
theorem d7_drawDeed_51 : decode m7_drawDeed.2.1 51 = .ok (.invokevirtual 156, 3) := by decide +kernel
theorem d7_drawDeed_54 : decode m7_drawDeed.2.1 54 = .ok (.invokevirtual 118, 3) := by decide +kernel
theorem d7_drawDeed_57 : decode m7_drawDeed.2.1 57 = .ok (.pop, 1) := by decide +kernel
theorem d7_drawDeed_58 : decode m7_drawDeed.2.1 58 = .ok (.return_, 1) := by decide +kernel
theorem d7_drawDeed_59 : decode m7_drawDeed.2.1 59 = .ok (.aload_n 0, 1) := by decide +kernel
theorem d7_drawDeed_60 : decode m7_drawDeed.2.1 60 = .ok (.aload_n 0, 1) := by decide +kernel
theorem d7_drawDeed_61 : decode m7_drawDeed.2.1 61 = .ok (.getfield 12, 3) := by decide +kernel
theorem d7_drawDeed_64 : decode m7_drawDeed.2.1 64 = .ok (.getfield 87, 3) := by decide +kernel
theorem d7_drawDeed_67 : decode m7_drawDeed.2.1 67 = .ok (.invokevirtual 156, 3) := by decide +kernel
theorem d7_drawDeed_70 : decode m7_drawDeed.2.1 70 = .ok (.istore_n 2, 1) := by decide +kernel
theorem d7_drawDeed_71 : decode m7_drawDeed.2.1 71 = .ok (.aload_n 0, 1) := by decide +kernel
theorem d7_drawDeed_72 : decode m7_drawDeed.2.1 72 = .ok (.aload_n 0, 1) := by decide +kernel
theorem d7_drawDeed_73 : decode m7_drawDeed.2.1 73 = .ok (.getfield 12, 3) := by decide +kernel
theorem d7_drawDeed_76 : decode m7_drawDeed.2.1 76 = .ok (.getfield 87, 3) := by decide +kernel
theorem d7_drawDeed_79 : decode m7_drawDeed.2.1 79 = .ok (.iconst 1, 1) := by decide +kernel
theorem d7_drawDeed_80 : decode m7_drawDeed.2.1 80 = .ok (.isub, 1) := by decide +kernel
theorem d7_drawDeed_81 : decode m7_drawDeed.2.1 81 = .ok (.invokevirtual 156, 3) := by decide +kernel
theorem d7_drawDeed_84 : decode m7_drawDeed.2.1 84 = .ok (.iconst 1, 1) := by decide +kernel
theorem d7_drawDeed_85 : decode m7_drawDeed.2.1 85 = .ok (.iadd, 1) := by decide +kernel
theorem d7_drawDeed_86 : decode m7_drawDeed.2.1 86 = .ok (.iload_n 2, 1) := by decide +kernel
theorem d7_drawDeed_87 : decode m7_drawDeed.2.1 87 = .ok (.iadd, 1) := by decide +kernel
theorem d7_drawDeed_88 : decode m7_drawDeed.2.1 88 = .ok (.istore_n 3, 1) := by decide +kernel
theorem d7_drawDeed_89 : decode m7_drawDeed.2.1 89 = .ok (.aload_n 0, 1) := by decide +kernel
theorem d7_drawDeed_90 : decode m7_drawDeed.2.1 90 = .ok (.getfield 12, 3) := by decide +kernel
theorem d7_drawDeed_93 : decode m7_drawDeed.2.1 93 = .ok (.getfield 87, 3) := by decide +kernel
theorem d7_drawDeed_96 : decode m7_drawDeed.2.1 96 = .ok (.ifCond .le 15, 3) := by decide +kernel
theorem d7_drawDeed_99 : decode m7_drawDeed.2.1 99 = .ok (.iload_n 3, 1) := by decide +kernel
theorem d7_drawDeed_100 : decode m7_drawDeed.2.1 100 = .ok (.aload_n 0, 1) := by decide +kernel
theorem d7_drawDeed_101 : decode m7_drawDeed.2.1 101 = .ok (.getfield 12, 3) := by decide +kernel
theorem d7_drawDeed_104 : decode m7_drawDeed.2.1 104 = .ok (.getfield 87, 3) := by decide +kernel
theorem d7_drawDeed_107 : decode m7_drawDeed.2.1 107 = .ok (.irem, 1) := by decide +kernel
theorem d7_drawDeed_108 : decode m7_drawDeed.2.1 108 = .ok (.goto 4, 3) := by decide +kernel
theorem d7_drawDeed_111 : decode m7_drawDeed.2.1 111 = .ok (.iconst 0, 1) := by decide +kernel
theorem d7_drawDeed_112 : decode m7_drawDeed.2.1 112 = .ok (.istore 4, 2) := by decide +kernel
theorem d7_drawDeed_114 : decode m7_drawDeed.2.1 114 = .ok (.aload_n 0, 1) := by decide +kernel
theorem d7_drawDeed_115 : decode m7_drawDeed.2.1 115 = .ok (.aload_n 0, 1) := by decide +kernel
theorem d7_drawDeed_116 : decode m7_drawDeed.2.1 116 = .ok (.getfield 12, 3) := by decide +kernel
theorem d7_drawDeed_119 : decode m7_drawDeed.2.1 119 = .ok (.getfield 162, 3) := by decide +kernel
theorem d7_drawDeed_122 : decode m7_drawDeed.2.1 122 = .ok (.invokevirtual 156, 3) := by decide +kernel
theorem d7_drawDeed_125 : decode m7_drawDeed.2.1 125 = .ok (.istore 5, 2) := by decide +kernel
theorem d7_drawDeed_127 : decode m7_drawDeed.2.1 127 = .ok (.iload_n 1, 1) := by decide +kernel
theorem d7_drawDeed_128 : decode m7_drawDeed.2.1 128 = .ok (.iconst 4, 1) := by decide +kernel
theorem d7_drawDeed_129 : decode m7_drawDeed.2.1 129 = .ok (.if_icmp .ne 19, 3) := by decide +kernel
theorem d7_drawDeed_132 : decode m7_drawDeed.2.1 132 = .ok (.aload_n 0, 1) := by decide +kernel
theorem d7_drawDeed_133 : decode m7_drawDeed.2.1 133 = .ok (.getfield 12, 3) := by decide +kernel
theorem d7_drawDeed_136 : decode m7_drawDeed.2.1 136 = .ok (.iload_n 2, 1) := by decide +kernel
theorem d7_drawDeed_137 : decode m7_drawDeed.2.1 137 = .ok (.iload 4, 2) := by decide +kernel
theorem d7_drawDeed_139 : decode m7_drawDeed.2.1 139 = .ok (.iload 5, 2) := by decide +kernel
theorem d7_drawDeed_141 : decode m7_drawDeed.2.1 141 = .ok (.invokevirtual 111, 3) := by decide +kernel
theorem d7_drawDeed_144 : decode m7_drawDeed.2.1 144 = .ok (.pop, 1) := by decide +kernel
theorem d7_drawDeed_145 : decode m7_drawDeed.2.1 145 = .ok (.goto 42, 3) := by decide +kernel
theorem d7_drawDeed_148 : decode m7_drawDeed.2.1 148 = .ok (.iload_n 1, 1) := by decide +kernel
theorem d7_drawDeed_149 : decode m7_drawDeed.2.1 149 = .ok (.iconst 5, 1) := by decide +kernel
theorem d7_drawDeed_150 : decode m7_drawDeed.2.1 150 = .ok (.if_icmp .ne 16, 3) := by decide +kernel
theorem d7_drawDeed_153 : decode m7_drawDeed.2.1 153 = .ok (.aload_n 0, 1) := by decide +kernel
theorem d7_drawDeed_154 : decode m7_drawDeed.2.1 154 = .ok (.iload_n 2, 1) := by decide +kernel
theorem d7_drawDeed_155 : decode m7_drawDeed.2.1 155 = .ok (.iload 4, 2) := by decide +kernel
theorem d7_drawDeed_157 : decode m7_drawDeed.2.1 157 = .ok (.iload 5, 2) := by decide +kernel
theorem d7_drawDeed_159 : decode m7_drawDeed.2.1 159 = .ok (.invokevirtual 115, 3) := by decide +kernel
theorem d7_drawDeed_162 : decode m7_drawDeed.2.1 162 = .ok (.pop, 1) := by decide +kernel
theorem d7_drawDeed_163 : decode m7_drawDeed.2.1 163 = .ok (.goto 24, 3) := by decide +kernel
theorem d7_drawDeed_166 : decode m7_drawDeed.2.1 166 = .ok (.aload_n 0, 1) := by decide +kernel
theorem d7_drawDeed_167 : decode m7_drawDeed.2.1 167 = .ok (.iload_n 2, 1) := by decide +kernel
theorem d7_drawDeed_168 : decode m7_drawDeed.2.1 168 = .ok (.iload 4, 2) := by decide +kernel
theorem d7_drawDeed_170 : decode m7_drawDeed.2.1 170 = .ok (.iload 5, 2) := by decide +kernel
theorem d7_drawDeed_172 : decode m7_drawDeed.2.1 172 = .ok (.aload_n 0, 1) := by decide +kernel
theorem d7_drawDeed_173 : decode m7_drawDeed.2.1 173 = .ok (.aload_n 0, 1) := by decide +kernel
theorem d7_drawDeed_174 : decode m7_drawDeed.2.1 174 = .ok (.getfield 12, 3) := by decide +kernel
theorem d7_drawDeed_177 : decode m7_drawDeed.2.1 177 = .ok (.getfield 76, 3) := by decide +kernel
theorem d7_drawDeed_180 : decode m7_drawDeed.2.1 180 = .ok (.invokevirtual 156, 3) := by decide +kernel
theorem d7_drawDeed_183 : decode m7_drawDeed.2.1 183 = .ok (.invokevirtual 107, 3) := by decide +kernel
theorem d7_drawDeed_186 : decode m7_drawDeed.2.1 186 = .ok (.pop, 1) := by decide +kernel
theorem d7_drawDeed_187 : decode m7_drawDeed.2.1 187 = .ok (.return_, 1) := by decide +kernel
def b7_drawDeed_112 (x1 : Int) (x2 : Int) (s0 : Int) (h : AH) : Option (Int × AH) :=
  bnd (f7_below (h.2 42 1) h) fun r1 h2 =>
  if ¬ w32 x1 = 4 then
    if ¬ w32 x1 = 5 then
      bnd (f7_below (h2.2 42 2) h2) fun r5 h6 =>
      bnd (f7_letQuarrel x2 s0 r1 r5 h6) fun r9 h10 =>
      some (0, h10)
    else
      bnd (f7_letDeny x2 s0 r1 h2) fun r13 h14 =>
      some (0, h14)
  else
    bnd (f9_agreeOn 42 x2 s0 r1 h2) fun r17 h18 =>
    some (0, h18)
set_option maxRecDepth 100000 in
theorem t7_drawDeed_112 (l : Launch) (G : Geo) (d : Nat) (hd : 6 ≤ d) (x1 : Int) (x2 : Int) (s0 : Int) (h : AH) : Den l G m7_drawDeed rvV d 112 [some (vA G 41), some (vI x1), some (vI x2), none, none, none] [vI s0] h (b7_drawDeed_112 x1 x2 s0 h) := by
  unfold b7_drawDeed_112
  refine den_istore (pc := 112) (L2 := [some (vA G 41), some (vI x1), some (vI x2), none, some (vI s0), none]) d7_drawDeed_112 (by decide) rfl ?_
  refine den_aload_n (pc := 114) d7_drawDeed_114 rfl rfl ?_
  refine den_aload_n (pc := 115) d7_drawDeed_115 rfl rfl ?_
  refine den_getR (pc := 116) (b := 42) fa_7_12 (ok_41 _) rfl d7_drawDeed_116 ?_
  refine den_getI (pc := 119) fa_7_162 (ok_42 _) d7_drawDeed_119 ?_
  refine den_callVI (pc := 122) (As := [vI (h.2 42 1)]) fv_7_156 rfl rfl (ok_41 _) (Nat.le_of_ble_eq_true rfl) (Nat.le_trans (by decide) hd) d7_drawDeed_122 (c7_below l G (h.2 42 1) h) (fun r1 h2 m3 o4 => ?_)
  refine den_istore (pc := 125) (L2 := [some (vA G 41), some (vI x1), some (vI x2), none, some (vI s0), some (vI r1)]) d7_drawDeed_125 (by decide) rfl ?_
  refine den_iload_n (pc := 127) d7_drawDeed_127 rfl rfl ?_
  refine den_iconst (pc := 128) d7_drawDeed_128 ?_
  refine den_icmp_ne (pc := 129) (tgt := 148) d7_drawDeed_129 (by decide) rfl (by decide) (fun _ => ?_) (fun _ => ?_)
  · refine den_iload_n (pc := 148) d7_drawDeed_148 rfl rfl ?_
    refine den_iconst (pc := 149) d7_drawDeed_149 ?_
    refine den_icmp_ne (pc := 150) (tgt := 166) d7_drawDeed_150 (by decide) rfl (by decide) (fun _ => ?_) (fun _ => ?_)
    · refine den_aload_n (pc := 166) d7_drawDeed_166 rfl rfl ?_
      refine den_iload_n (pc := 167) d7_drawDeed_167 rfl rfl ?_
      refine den_iload (pc := 168) d7_drawDeed_168 rfl ?_
      refine den_iload (pc := 170) d7_drawDeed_170 rfl ?_
      refine den_aload_n (pc := 172) d7_drawDeed_172 rfl rfl ?_
      refine den_aload_n (pc := 173) d7_drawDeed_173 rfl rfl ?_
      refine den_getR (pc := 174) (b := 42) fa_7_12 (ok_41 _) rfl d7_drawDeed_174 ?_
      refine den_getI (pc := 177) fa_7_76 (ok_42 _) d7_drawDeed_177 ?_
      refine den_callVI (pc := 180) (As := [vI (h2.2 42 2)]) fv_7_156 rfl rfl (ok_41 _) (Nat.le_of_ble_eq_true rfl) (Nat.le_trans (by decide) hd) d7_drawDeed_180 (c7_below l G (h2.2 42 2) h2) (fun r5 h6 m7 o8 => ?_)
      refine den_callVI (pc := 183) (As := [vI x2, vI s0, vI r1, vI r5]) fv_7_107 rfl rfl (ok_41 _) (Nat.le_of_ble_eq_true rfl) (Nat.le_trans (by decide) hd) d7_drawDeed_183 (c7_letQuarrel l G x2 s0 r1 r5 h6) (fun r9 h10 m11 o12 => ?_)
      refine den_pop (pc := 186) d7_drawDeed_186 rfl ?_
      exact den_vret (pc := 187) rfl d7_drawDeed_187
    · refine den_aload_n (pc := 153) d7_drawDeed_153 rfl rfl ?_
      refine den_iload_n (pc := 154) d7_drawDeed_154 rfl rfl ?_
      refine den_iload (pc := 155) d7_drawDeed_155 rfl ?_
      refine den_iload (pc := 157) d7_drawDeed_157 rfl ?_
      refine den_callVI (pc := 159) (As := [vI x2, vI s0, vI r1]) fv_7_115 rfl rfl (ok_41 _) (Nat.le_of_ble_eq_true rfl) (Nat.le_trans (by decide) hd) d7_drawDeed_159 (c7_letDeny l G x2 s0 r1 h2) (fun r13 h14 m15 o16 => ?_)
      refine den_pop (pc := 162) d7_drawDeed_162 rfl ?_
      refine den_goto (pc := 163) (tgt := 187) d7_drawDeed_163 (by decide) ?_
      exact den_vret (pc := 187) rfl d7_drawDeed_187
  · refine den_aload_n (pc := 132) d7_drawDeed_132 rfl rfl ?_
    refine den_getR (pc := 133) (b := 42) fa_7_12 (ok_41 _) rfl d7_drawDeed_133 ?_
    refine den_iload_n (pc := 136) d7_drawDeed_136 rfl rfl ?_
    refine den_iload (pc := 137) d7_drawDeed_137 rfl ?_
    refine den_iload (pc := 139) d7_drawDeed_139 rfl ?_
    refine den_callVI (pc := 141) (As := [vI x2, vI s0, vI r1]) fv_7_111 rfl rfl (ok_42 _) (Nat.le_of_ble_eq_true rfl) (Nat.le_trans (by decide) hd) d7_drawDeed_141 (c9_agreeOn l G 42 x2 s0 r1 h2 (ok_42 _)) (fun r17 h18 m19 o20 => ?_)
    refine den_pop (pc := 144) d7_drawDeed_144 rfl ?_
    refine den_goto (pc := 145) (tgt := 187) d7_drawDeed_145 (by decide) ?_
    exact den_vret (pc := 187) rfl d7_drawDeed_187
def f7_drawDeed (h : AH) : Option (Int × AH) :=
  bnd (f7_below 8 h) fun r21 h22 =>
  if ¬ w32 r21 = 7 then
    bnd (f7_mayDraw r21 h22) fun r25 h26 =>
    if ¬ w32 r25 = 0 then
      if ¬ w32 r21 = 6 then
        bnd (f7_below (h26.2 42 0) h26) fun r29 h30 =>
        bnd (f7_below ((h30.2 42 0) - 1) h30) fun r33 h34 =>
        lt ((r33 + 1) + r29) fun u37 =>
        if w32 (h34.2 42 0) ≤ 0 then
          b7_drawDeed_112 r21 r29 0 h34
        else
          asrt (¬ w32 (h34.2 42 0) = 0) <|
          b7_drawDeed_112 r21 r29 (rm32 u37 (h34.2 42 0)) h34
      else
        bnd (f7_below (h26.2 42 1) h26) fun r39 h40 =>
        bnd (f7_below 10 h40) fun r43 h44 =>
        bnd (f7_spread r39 r43 h44) fun r47 h48 =>
        some (0, h48)
    else
      some (0, h26)
  else
    bnd (f7_letHourPass h22) fun r51 h52 =>
    some (0, h52)
set_option maxRecDepth 100000 in
theorem c7_drawDeed (l : Launch) (G : Geo) (h : AH) : Con l G m7_drawDeed rvV 6 [vA G 41] h (f7_drawDeed  h) := by
  have hd : 6 ≤ 6 := Nat.le_refl _
  refine con_V rfl (by decide) rfl rfl (Nat.le_of_ble_eq_true rfl) (L := [some (vA G 41), none, none, none, none, none]) ?_
  unfold f7_drawDeed
  refine den_aload_n (pc := 0) d7_drawDeed_0 rfl rfl ?_
  refine den_bipush (pc := 1) d7_drawDeed_1 (by decide) ?_
  refine den_callVI (pc := 3) (As := [vI 8]) fv_7_156 rfl rfl (ok_41 _) (Nat.le_of_ble_eq_true rfl) (Nat.le_trans (by decide) hd) d7_drawDeed_3 (c7_below l G 8 h) (fun r21 h22 m23 o24 => ?_)
  refine den_istore_n (pc := 6) (L2 := [some (vA G 41), some (vI r21), none, none, none, none]) d7_drawDeed_6 rfl (by decide) rfl ?_
  refine den_iload_n (pc := 7) d7_drawDeed_7 rfl rfl ?_
  refine den_bipush (pc := 8) d7_drawDeed_8 (by decide) ?_
  refine den_icmp_ne (pc := 10) (tgt := 19) d7_drawDeed_10 (by decide) rfl (by decide) (fun _ => ?_) (fun _ => ?_)
  · refine den_aload_n (pc := 19) d7_drawDeed_19 rfl rfl ?_
    refine den_iload_n (pc := 20) d7_drawDeed_20 rfl rfl ?_
    refine den_callVI (pc := 21) (As := [vI r21]) fv_7_159 rfl rfl (ok_41 _) (Nat.le_of_ble_eq_true rfl) (Nat.le_trans (by decide) hd) d7_drawDeed_21 (c7_mayDraw l G r21 h22) (fun r25 h26 m27 o28 => ?_)
    refine den_if_ne (pc := 24) (tgt := 28) d7_drawDeed_24 (by decide) rfl (fun _ => ?_) (fun _ => ?_)
    · refine den_iload_n (pc := 28) d7_drawDeed_28 rfl rfl ?_
      refine den_bipush (pc := 29) d7_drawDeed_29 (by decide) ?_
      refine den_icmp_ne (pc := 31) (tgt := 59) d7_drawDeed_31 (by decide) rfl (by decide) (fun _ => ?_) (fun _ => ?_)
      · refine den_aload_n (pc := 59) d7_drawDeed_59 rfl rfl ?_
        refine den_aload_n (pc := 60) d7_drawDeed_60 rfl rfl ?_
        refine den_getR (pc := 61) (b := 42) fa_7_12 (ok_41 _) rfl d7_drawDeed_61 ?_
        refine den_getI (pc := 64) fa_7_87 (ok_42 _) d7_drawDeed_64 ?_
        refine den_callVI (pc := 67) (As := [vI (h26.2 42 0)]) fv_7_156 rfl rfl (ok_41 _) (Nat.le_of_ble_eq_true rfl) (Nat.le_trans (by decide) hd) d7_drawDeed_67 (c7_below l G (h26.2 42 0) h26) (fun r29 h30 m31 o32 => ?_)
        refine den_istore_n (pc := 70) (L2 := [some (vA G 41), some (vI r21), some (vI r29), none, none, none]) d7_drawDeed_70 rfl (by decide) rfl ?_
        refine den_aload_n (pc := 71) d7_drawDeed_71 rfl rfl ?_
        refine den_aload_n (pc := 72) d7_drawDeed_72 rfl rfl ?_
        refine den_getR (pc := 73) (b := 42) fa_7_12 (ok_41 _) rfl d7_drawDeed_73 ?_
        refine den_getI (pc := 76) fa_7_87 (ok_42 _) d7_drawDeed_76 ?_
        refine den_iconst (pc := 79) d7_drawDeed_79 ?_
        refine den_isub (pc := 80) d7_drawDeed_80 ?_
        refine den_callVI (pc := 81) (As := [vI ((h30.2 42 0) - 1)]) fv_7_156 rfl rfl (ok_41 _) (Nat.le_of_ble_eq_true rfl) (Nat.le_trans (by decide) hd) d7_drawDeed_81 (c7_below l G ((h30.2 42 0) - 1) h30) (fun r33 h34 m35 o36 => ?_)
        refine den_iconst (pc := 84) d7_drawDeed_84 ?_
        refine den_iadd (pc := 85) d7_drawDeed_85 ?_
        refine den_iload_n (pc := 86) d7_drawDeed_86 rfl rfl ?_
        refine den_iadd (pc := 87) d7_drawDeed_87 ?_
        refine den_istore_nL (pc := 88) (L2 := fun y => [some (vA G 41), some (vI r21), some (vI r29), some (vI y), none, none]) d7_drawDeed_88 rfl (by decide) (fun _ => rfl) (fun u37 => ?_)
        refine den_aload_n (pc := 89) d7_drawDeed_89 rfl rfl ?_
        refine den_getR (pc := 90) (b := 42) fa_7_12 (ok_41 _) rfl d7_drawDeed_90 ?_
        refine den_getI (pc := 93) fa_7_87 (ok_42 _) d7_drawDeed_93 ?_
        refine den_if_le (pc := 96) (tgt := 111) d7_drawDeed_96 (by decide) rfl (fun _ => ?_) (fun _ => ?_)
        · refine den_iconst (pc := 111) d7_drawDeed_111 ?_
          refine den_wk [true, true, true, false, true, true] rfl ?_
          exact t7_drawDeed_112 l G _ hd r21 r29 0 h34
        · refine den_iload_n (pc := 99) d7_drawDeed_99 rfl rfl ?_
          refine den_aload_n (pc := 100) d7_drawDeed_100 rfl rfl ?_
          refine den_getR (pc := 101) (b := 42) fa_7_12 (ok_41 _) rfl d7_drawDeed_101 ?_
          refine den_getI (pc := 104) fa_7_87 (ok_42 _) d7_drawDeed_104 ?_
          refine den_asrt (fun a38 => ?_)
          refine den_irem (pc := 107) d7_drawDeed_107 a38 ?_
          refine den_goto (pc := 108) (tgt := 112) d7_drawDeed_108 (by decide) ?_
          refine den_wk [true, true, true, false, true, true] rfl ?_
          exact t7_drawDeed_112 l G _ hd r21 r29 (rm32 u37 (h34.2 42 0)) h34
      · refine den_aload_n (pc := 34) d7_drawDeed_34 rfl rfl ?_
        refine den_aload_n (pc := 35) d7_drawDeed_35 rfl rfl ?_
        refine den_getR (pc := 36) (b := 42) fa_7_12 (ok_41 _) rfl d7_drawDeed_36 ?_
        refine den_getI (pc := 39) fa_7_162 (ok_42 _) d7_drawDeed_39 ?_
        refine den_callVI (pc := 42) (As := [vI (h26.2 42 1)]) fv_7_156 rfl rfl (ok_41 _) (Nat.le_of_ble_eq_true rfl) (Nat.le_trans (by decide) hd) d7_drawDeed_42 (c7_below l G (h26.2 42 1) h26) (fun r39 h40 m41 o42 => ?_)
        refine den_istore_n (pc := 45) (L2 := [some (vA G 41), some (vI r21), some (vI r39), none, none, none]) d7_drawDeed_45 rfl (by decide) rfl ?_
        refine den_aload_n (pc := 46) d7_drawDeed_46 rfl rfl ?_
        refine den_iload_n (pc := 47) d7_drawDeed_47 rfl rfl ?_
        refine den_aload_n (pc := 48) d7_drawDeed_48 rfl rfl ?_
        refine den_bipush (pc := 49) d7_drawDeed_49 (by decide) ?_
        refine den_callVI (pc := 51) (As := [vI 10]) fv_7_156 rfl rfl (ok_41 _) (Nat.le_of_ble_eq_true rfl) (Nat.le_trans (by decide) hd) d7_drawDeed_51 (c7_below l G 10 h40) (fun r43 h44 m45 o46 => ?_)
        refine den_callVI (pc := 54) (As := [vI r39, vI r43]) fv_7_118 rfl rfl (ok_41 _) (Nat.le_of_ble_eq_true rfl) (Nat.le_trans (by decide) hd) d7_drawDeed_54 (c7_spread l G r39 r43 h44) (fun r47 h48 m49 o50 => ?_)
        refine den_pop (pc := 57) d7_drawDeed_57 rfl ?_
        exact den_vret (pc := 58) rfl d7_drawDeed_58
    · exact den_vret (pc := 27) rfl d7_drawDeed_27
  · refine den_aload_n (pc := 13) d7_drawDeed_13 rfl rfl ?_
    refine den_callVI (pc := 14) (As := []) fv_7_122 rfl rfl (ok_41 _) (Nat.le_of_ble_eq_true rfl) (Nat.le_trans (by decide) hd) d7_drawDeed_14 (c7_letHourPass l G h22) (fun r51 h52 m53 o54 => ?_)
    refine den_pop (pc := 17) d7_drawDeed_17 rfl ?_
    exact den_vret (pc := 18) rfl d7_drawDeed_18
theorem d7_playBySeed_0 : decode m7_playBySeed.2.1 0 = .ok (.aload_n 0, 1) := by decide +kernel
theorem d7_playBySeed_1 : decode m7_playBySeed.2.1 1 = .ok (.aload_n 1, 1) := by decide +kernel
theorem d7_playBySeed_2 : decode m7_playBySeed.2.1 2 = .ok (.invokevirtual 57, 3) := by decide +kernel
theorem d7_playBySeed_5 : decode m7_playBySeed.2.1 5 = .ok (.aload_n 0, 1) := by decide +kernel
theorem d7_playBySeed_6 : decode m7_playBySeed.2.1 6 = .ok (.iload_n 2, 1) := by decide +kernel
theorem d7_playBySeed_7 : decode m7_playBySeed.2.1 7 = .ok (.putfield 150, 3) := by decide +kernel
theorem d7_playBySeed_10 : decode m7_playBySeed.2.1 10 = .ok (.iconst 0, 1) := by decide +kernel
theorem d7_playBySeed_11 : decode m7_playBySeed.2.1 11 = .ok (.istore 4, 2) := by decide +kernel
theorem d7_playBySeed_13 : decode m7_playBySeed.2.1 13 = .ok (.iload 4, 2) := by decide +kernel
theorem d7_playBySeed_15 : decode m7_playBySeed.2.1 15 = .ok (.iload_n 3, 1) := by decide +kernel
theorem d7_playBySeed_16 : decode m7_playBySeed.2.1 16 = .ok (.if_icmp .ge 13, 3) := by decide +kernel
theorem d7_playBySeed_19 : decode m7_playBySeed.2.1 19 = .ok (.aload_n 0, 1) := by decide +kernel
theorem d7_playBySeed_20 : decode m7_playBySeed.2.1 20 = .ok (.invokevirtual 153, 3) := by decide +kernel
theorem d7_playBySeed_23 : decode m7_playBySeed.2.1 23 = .ok (.iinc 4 1, 3) := by decide +kernel
theorem d7_playBySeed_26 : decode m7_playBySeed.2.1 26 = .ok (.goto (-13), 3) := by decide +kernel
theorem d7_playBySeed_29 : decode m7_playBySeed.2.1 29 = .ok (.return_, 1) := by decide +kernel
def b7_playBySeed_13 (rec13 : Int × AH → Option (Int × AH)) (x3 : Int) (x4 : Int) (h : AH) : Option (Int × AH) :=
  if w32 x3 ≤ w32 x4 then
    some (0, h)
  else
    bnd (f7_drawDeed h) fun r1 h2 =>
    rec13 ((x4 + 1), h2)
set_option maxRecDepth 100000 in
theorem t7_playBySeed_13 (l : Launch) (G : Geo) (d : Nat) (hd : 7 ≤ d) (x3 : Int) (x4 : Int) (rec13 : Int × AH → Option (Int × AH)) (H13 : ∀ (x4 : Int) (h : AH), Den l G m7_playBySeed rvV d 13 [some (vA G 41), none, none, some (vI x3), some (vI x4)] [] h (rec13 (x4, h))) (h : AH) : Den l G m7_playBySeed rvV d 13 [some (vA G 41), none, none, some (vI x3), some (vI x4)] [] h (b7_playBySeed_13 rec13 x3 x4 h) := by
  unfold b7_playBySeed_13
  refine den_iload (pc := 13) d7_playBySeed_13 rfl ?_
  refine den_iload_n (pc := 15) d7_playBySeed_15 rfl rfl ?_
  refine den_icmp_ge (pc := 16) (tgt := 29) d7_playBySeed_16 (by decide) rfl rfl (fun _ => ?_) (fun _ => ?_)
  · exact den_vret (pc := 29) rfl d7_playBySeed_29
  · refine den_aload_n (pc := 19) d7_playBySeed_19 rfl rfl ?_
    refine den_callVV (pc := 20) (As := []) fv_7_153 rfl rfl (ok_41 _) (Nat.le_of_ble_eq_true rfl) (Nat.le_trans (by decide) hd) d7_playBySeed_20 (c7_drawDeed l G h) (fun r1 h2 m3 o4 => ?_)
    refine den_iinc (pc := 23) (L2 := [some (vA G 41), none, none, some (vI x3), some (vI (x4 + 1))]) d7_playBySeed_23 (by decide) rfl rfl ?_
    refine den_goto (pc := 26) (tgt := 13) d7_playBySeed_26 (by decide) ?_
    exact H13 (x4 + 1) h2
def l7_playBySeed_13 (x3 : Int) (x4 : Int) (h : AH) : Option (Int × AH) := fx (fun rec z => b7_playBySeed_13 rec x3 z.1 z.2) FU (x4, h)
set_option maxRecDepth 100000 in
theorem tl7_playBySeed_13 (l : Launch) (G : Geo) (d : Nat) (hd : 7 ≤ d) (x3 : Int) : ∀ (n : Nat) (z : Int × AH), True → Den l G m7_playBySeed rvV d 13 [some (vA G 41), none, none, some (vI x3), some (vI z.1)] [] z.2 (fx (fun rec z => b7_playBySeed_13 rec x3 z.1 z.2) n z) :=
  den_fx (F := fun rec z => b7_playBySeed_13 rec x3 z.1 z.2) (P := fun z => True) (fL := fun z => [some (vA G 41), none, none, some (vI x3), some (vI z.1)]) (fs := fun z => []) (fh := fun z => z.2) (fun rec hrec z hz => t7_playBySeed_13 l G d hd x3 z.1 rec (fun x4 h => hrec (x4, h) trivial) z.2 )
def f7_playBySeed (x1 : Nat) (x2 : Int) (x3 : Int) (h : AH) : Option (Int × AH) :=
  bnd (f7_begin x1 h) fun r5 h6 =>
  lt (wr h6 41 10 x2) fun h10 =>
  l7_playBySeed_13 x3 0 h10
set_option maxRecDepth 100000 in
theorem c7_playBySeed (l : Launch) (G : Geo) (x1 : Nat) (x2 : Int) (x3 : Int) (h : AH) (kx1 : ok h.1 x1 9) : Con l G m7_playBySeed rvV 7 [vA G 41, vA G x1, vI x2, vI x3] h (f7_playBySeed x1 x2 x3 h) := by
  have hd : 7 ≤ 7 := Nat.le_refl _
  refine con_V rfl (by decide) rfl rfl (Nat.le_of_ble_eq_true rfl) (L := [some (vA G 41), some (vA G x1), some (vI x2), some (vI x3), none]) ?_
  unfold f7_playBySeed
  refine den_aload_n (pc := 0) d7_playBySeed_0 rfl rfl ?_
  refine den_aload_n (pc := 1) d7_playBySeed_1 rfl rfl ?_
  refine den_callVV (pc := 2) (As := [vA G x1]) fv_7_57 rfl rfl (ok_41 _) (Nat.le_of_ble_eq_true rfl) (Nat.le_trans (by decide) hd) d7_playBySeed_2 (c7_begin l G x1 h kx1) (fun r5 h6 m7 o8 => ?_)
  have q9 := ok.mono kx1 m7
  refine den_aload_n (pc := 5) d7_playBySeed_5 rfl rfl ?_
  refine den_iload_n (pc := 6) d7_playBySeed_6 rfl rfl ?_
  refine den_putI (pc := 7) fp_7_150 (ok_41 _) d7_playBySeed_7 ?_
  refine den_ltH (fun h10 m11 => ?_)
  have q12 := ok.mono q9 m11
  refine den_iconst (pc := 10) d7_playBySeed_10 ?_
  refine den_istore (pc := 11) (L2 := [some (vA G 41), some (vA G x1), some (vI x2), some (vI x3), some (vI 0)]) d7_playBySeed_11 (by decide) rfl ?_
  refine den_wk [true, false, false, true, true] rfl ?_
  exact tl7_playBySeed_13 l G _ hd x3 FU (0, h10) trivial
theorem d7_spend_0 : decode m7_spend.2.1 0 = .ok (.aload_n 0, 1) := by decide +kernel
theorem d7_spend_1 : decode m7_spend.2.1 1 = .ok (.aload_n 1, 1) := by decide +kernel
theorem d7_spend_2 : decode m7_spend.2.1 2 = .ok (.invokevirtual 57, 3) := by decide +kernel
theorem d7_spend_5 : decode m7_spend.2.1 5 = .ok (.iconst 0, 1) := by decide +kernel
theorem d7_spend_6 : decode m7_spend.2.1 6 = .ok (.istore 6, 2) := by decide +kernel
theorem d7_spend_8 : decode m7_spend.2.1 8 = .ok (.iconst 0, 1) := by decide +kernel
theorem d7_spend_9 : decode m7_spend.2.1 9 = .ok (.istore 7, 2) := by decide +kernel
theorem d7_spend_11 : decode m7_spend.2.1 11 = .ok (.iload 7, 2) := by decide +kernel
theorem d7_spend_13 : decode m7_spend.2.1 13 = .ok (.iload 4, 2) := by decide +kernel
theorem d7_spend_15 : decode m7_spend.2.1 15 = .ok (.if_icmp .ge 64, 3) := by decide +kernel
theorem d7_spend_18 : decode m7_spend.2.1 18 = .ok (.aload_n 0, 1) := by decide +kernel
theorem d7_spend_19 : decode m7_spend.2.1 19 = .ok (.getfield 12, 3) := by decide +kernel
theorem d7_spend_22 : decode m7_spend.2.1 22 = .ok (.iload_n 2, 1) := by decide +kernel
theorem d7_spend_23 : decode m7_spend.2.1 23 = .ok (.iload_n 3, 1) := by decide +kernel
theorem d7_spend_24 : decode m7_spend.2.1 24 = .ok (.invokevirtual 166, 3) := by decide +kernel
theorem d7_spend_27 : decode m7_spend.2.1 27 = .ok (.istore 8, 2) := by decide +kernel
theorem d7_spend_29 : decode m7_spend.2.1 29 = .ok (.iload 8, 2) := by decide +kernel
theorem d7_spend_31 : decode m7_spend.2.1 31 = .ok (.iconst (-1), 1) := by decide +kernel
theorem d7_spend_32 : decode m7_spend.2.1 32 = .ok (.if_icmp .ne 6, 3) := by decide +kernel
theorem d7_spend_35 : decode m7_spend.2.1 35 = .ok (.goto 44, 3) := by decide +kernel
theorem d7_spend_38 : decode m7_spend.2.1 38 = .ok (.iload 7, 2) := by decide +kernel
theorem d7_spend_40 : decode m7_spend.2.1 40 = .ok (.iload 5, 2) := by decide +kernel
theorem d7_spend_42 : decode m7_spend.2.1 42 = .ok (.if_icmp .ne 6, 3) := by decide +kernel
theorem d7_spend_45 : decode m7_spend.2.1 45 = .ok (.iload 8, 2) := by decide +kernel
theorem d7_spend_47 : decode m7_spend.2.1 47 = .ok (.ireturn, 1) := by decide +kernel
theorem d7_spend_48 : decode m7_spend.2.1 48 = .ok (.iload 6, 2) := by decide +kernel
theorem d7_spend_50 : decode m7_spend.2.1 50 = .ok (.aload_n 0, 1) := by decide +kernel
theorem d7_spend_51 : decode m7_spend.2.1 51 = .ok (.getfield 12, 3) := by decide +kernel
theorem d7_spend_54 : decode m7_spend.2.1 54 = .ok (.iload_n 2, 1) := by decide +kernel
theorem d7_spend_55 : decode m7_spend.2.1 55 = .ok (.iload_n 3, 1) := by decide +kernel
theorem d7_spend_56 : decode m7_spend.2.1 56 = .ok (.iload 8, 2) := by decide +kernel
theorem d7_spend_58 : decode m7_spend.2.1 58 = .ok (.invokevirtual 126, 3) := by decide +kernel
theorem d7_spend_61 : decode m7_spend.2.1 61 = .ok (.iadd, 1) := by decide +kernel
theorem d7_spend_62 : decode m7_spend.2.1 62 = .ok (.istore 6, 2) := by decide +kernel
theorem d7_spend_64 : decode m7_spend.2.1 64 = .ok (.aload_n 0, 1) := by decide +kernel
theorem d7_spend_65 : decode m7_spend.2.1 65 = .ok (.getfield 12, 3) := by decide +kernel
theorem d7_spend_68 : decode m7_spend.2.1 68 = .ok (.iload 8, 2) := by decide +kernel
theorem d7_spend_70 : decode m7_spend.2.1 70 = .ok (.invokevirtual 136, 3) := by decide +kernel
theorem d7_spend_73 : decode m7_spend.2.1 73 = .ok (.iinc 7 1, 3) := by decide +kernel
theorem d7_spend_76 : decode m7_spend.2.1 76 = .ok (.goto (-65), 3) := by decide +kernel
theorem d7_spend_79 : decode m7_spend.2.1 79 = .ok (.iload 5, 2) := by decide +kernel
theorem d7_spend_81 : decode m7_spend.2.1 81 = .ok (.iconst (-1), 1) := by decide +kernel
theorem d7_spend_82 : decode m7_spend.2.1 82 = .ok (.if_icmp .ne 8, 3) := by decide +kernel
theorem d7_spend_85 : decode m7_spend.2.1 85 = .ok (.iload 6, 2) := by decide +kernel
theorem d7_spend_87 : decode m7_spend.2.1 87 = .ok (.goto 4, 3) := by decide +kernel
theorem d7_spend_90 : decode m7_spend.2.1 90 = .ok (.iconst (-1), 1) := by decide +kernel
theorem d7_spend_91 : decode m7_spend.2.1 91 = .ok (.ireturn, 1) := by decide +kernel
def b7_spend_79 (x5 : Int) (x6 : Int) (h : AH) : Option (Int × AH) :=
  if ¬ w32 x5 = (-1) then
    some ((-1), h)
  else
    some (x6, h)
set_option maxRecDepth 100000 in
theorem t7_spend_79 (l : Launch) (G : Geo) (d : Nat) (hd : 6 ≤ d) (x5 : Int) (x6 : Int) (h : AH) : Den l G m7_spend rvI d 79 [none, none, none, none, none, some (vI x5), some (vI x6), none, none] [] h (b7_spend_79 x5 x6 h) := by
  unfold b7_spend_79
  refine den_iload (pc := 79) d7_spend_79 rfl ?_
  refine den_iconst (pc := 81) d7_spend_81 ?_
  refine den_icmp_ne (pc := 82) (tgt := 90) d7_spend_82 (by decide) rfl (by decide) (fun _ => ?_) (fun _ => ?_)
  · refine den_iconst (pc := 90) d7_spend_90 ?_
    exact den_iret (pc := 91) rfl d7_spend_91
  · refine den_iload (pc := 85) d7_spend_85 rfl ?_
    refine den_goto (pc := 87) (tgt := 91) d7_spend_87 (by decide) ?_
    exact den_iret (pc := 91) rfl d7_spend_91
def b7_spend_11 (rec11 : Int × Int × AH → Option (Int × AH)) (x2 : Int) (x3 : Int) (x4 : Int) (x5 : Int) (x6 : Int) (x7 : Int) (h : AH) : Option (Int × AH) :=
  if w32 x4 ≤ w32 x7 then
    b7_spend_79 x5 x6 h
  else
    bnd (f9_hottestBetween 42 x2 x3 h) fun r1 h2 =>
    if ¬ w32 r1 = (-1) then
      if ¬ w32 x7 = w32 x5 then
        bnd (f9_burning 42 x2 x3 r1 h2) fun r5 h6 =>
        lt (x6 + r5) fun u9 =>
        bnd (f9_fade 42 r1 h6) fun r10 h11 =>
        rec11 (u9, (x7 + 1), h11)
      else
        some (r1, h2)
    else
      b7_spend_79 x5 x6 h2
set_option maxRecDepth 100000 in
theorem t7_spend_11 (l : Launch) (G : Geo) (d : Nat) (hd : 6 ≤ d) (x2 : Int) (x3 : Int) (x4 : Int) (x5 : Int) (x6 : Int) (x7 : Int) (rec11 : Int × Int × AH → Option (Int × AH)) (H11 : ∀ (x6 : Int) (x7 : Int) (h : AH), Den l G m7_spend rvI d 11 [some (vA G 41), none, some (vI x2), some (vI x3), some (vI x4), some (vI x5), some (vI x6), some (vI x7), none] [] h (rec11 (x6, x7, h))) (h : AH) : Den l G m7_spend rvI d 11 [some (vA G 41), none, some (vI x2), some (vI x3), some (vI x4), some (vI x5), some (vI x6), some (vI x7), none] [] h (b7_spend_11 rec11 x2 x3 x4 x5 x6 x7 h) := by
  unfold b7_spend_11
  refine den_iload (pc := 11) d7_spend_11 rfl ?_
  refine den_iload (pc := 13) d7_spend_13 rfl ?_
  refine den_icmp_ge (pc := 15) (tgt := 79) d7_spend_15 (by decide) rfl rfl (fun _ => ?_) (fun _ => ?_)
  · refine den_wk [false, true, false, false, false, true, true, false, true] rfl ?_
    exact t7_spend_79 l G _ hd x5 x6 h
  · refine den_aload_n (pc := 18) d7_spend_18 rfl rfl ?_
    refine den_getR (pc := 19) (b := 42) fa_7_12 (ok_41 _) rfl d7_spend_19 ?_
    refine den_iload_n (pc := 22) d7_spend_22 rfl rfl ?_
    refine den_iload_n (pc := 23) d7_spend_23 rfl rfl ?_
    refine den_callVI (pc := 24) (As := [vI x2, vI x3]) fv_7_166 rfl rfl (ok_42 _) (Nat.le_of_ble_eq_true rfl) (Nat.le_trans (by decide) hd) d7_spend_24 (c9_hottestBetween l G 42 x2 x3 h (ok_42 _)) (fun r1 h2 m3 o4 => ?_)
    refine den_istore (pc := 27) (L2 := [some (vA G 41), none, some (vI x2), some (vI x3), some (vI x4), some (vI x5), some (vI x6), some (vI x7), some (vI r1)]) d7_spend_27 (by decide) rfl ?_
    refine den_iload (pc := 29) d7_spend_29 rfl ?_
    refine den_iconst (pc := 31) d7_spend_31 ?_
    refine den_icmp_ne (pc := 32) (tgt := 38) d7_spend_32 (by decide) rfl (by decide) (fun _ => ?_) (fun _ => ?_)
    · refine den_iload (pc := 38) d7_spend_38 rfl ?_
      refine den_iload (pc := 40) d7_spend_40 rfl ?_
      refine den_icmp_ne (pc := 42) (tgt := 48) d7_spend_42 (by decide) rfl rfl (fun _ => ?_) (fun _ => ?_)
      · refine den_iload (pc := 48) d7_spend_48 rfl ?_
        refine den_aload_n (pc := 50) d7_spend_50 rfl rfl ?_
        refine den_getR (pc := 51) (b := 42) fa_7_12 (ok_41 _) rfl d7_spend_51 ?_
        refine den_iload_n (pc := 54) d7_spend_54 rfl rfl ?_
        refine den_iload_n (pc := 55) d7_spend_55 rfl rfl ?_
        refine den_iload (pc := 56) d7_spend_56 rfl ?_
        refine den_callVI (pc := 58) (As := [vI x2, vI x3, vI r1]) fv_7_126 rfl rfl (ok_42 _) (Nat.le_of_ble_eq_true rfl) (Nat.le_trans (by decide) hd) d7_spend_58 (c9_burning l G 42 x2 x3 r1 h2 (ok_42 _)) (fun r5 h6 m7 o8 => ?_)
        refine den_iadd (pc := 61) d7_spend_61 ?_
        refine den_istoreL (pc := 62) (L2 := fun y => [some (vA G 41), none, some (vI x2), some (vI x3), some (vI x4), some (vI x5), some (vI y), some (vI x7), some (vI r1)]) d7_spend_62 (by decide) (fun _ => rfl) (fun u9 => ?_)
        refine den_aload_n (pc := 64) d7_spend_64 rfl rfl ?_
        refine den_getR (pc := 65) (b := 42) fa_7_12 (ok_41 _) rfl d7_spend_65 ?_
        refine den_iload (pc := 68) d7_spend_68 rfl ?_
        refine den_callVV (pc := 70) (As := [vI r1]) fv_7_136 rfl rfl (ok_42 _) (Nat.le_of_ble_eq_true rfl) (Nat.le_trans (by decide) hd) d7_spend_70 (c9_fade l G 42 r1 h6 (ok_42 _)) (fun r10 h11 m12 o13 => ?_)
        refine den_iinc (pc := 73) (L2 := [some (vA G 41), none, some (vI x2), some (vI x3), some (vI x4), some (vI x5), some (vI u9), some (vI (x7 + 1)), some (vI r1)]) d7_spend_73 (by decide) rfl rfl ?_
        refine den_goto (pc := 76) (tgt := 11) d7_spend_76 (by decide) ?_
        refine den_wk [true, true, true, true, true, true, true, true, false] rfl ?_
        exact H11 u9 (x7 + 1) h11
      · refine den_iload (pc := 45) d7_spend_45 rfl ?_
        exact den_iret (pc := 47) rfl d7_spend_47
    · refine den_goto (pc := 35) (tgt := 79) d7_spend_35 (by decide) ?_
      refine den_wk [false, true, false, false, false, true, true, false, false] rfl ?_
      exact t7_spend_79 l G _ hd x5 x6 h2
def l7_spend_11 (x2 : Int) (x3 : Int) (x4 : Int) (x5 : Int) (x6 : Int) (x7 : Int) (h : AH) : Option (Int × AH) := fx (fun rec z => b7_spend_11 rec x2 x3 x4 x5 z.1 z.2.1 z.2.2) FU (x6, x7, h)
set_option maxRecDepth 100000 in
theorem tl7_spend_11 (l : Launch) (G : Geo) (d : Nat) (hd : 6 ≤ d) (x2 : Int) (x3 : Int) (x4 : Int) (x5 : Int) : ∀ (n : Nat) (z : Int × Int × AH), True → Den l G m7_spend rvI d 11 [some (vA G 41), none, some (vI x2), some (vI x3), some (vI x4), some (vI x5), some (vI z.1), some (vI z.2.1), none] [] z.2.2 (fx (fun rec z => b7_spend_11 rec x2 x3 x4 x5 z.1 z.2.1 z.2.2) n z) :=
  den_fx (F := fun rec z => b7_spend_11 rec x2 x3 x4 x5 z.1 z.2.1 z.2.2) (P := fun z => True) (fL := fun z => [some (vA G 41), none, some (vI x2), some (vI x3), some (vI x4), some (vI x5), some (vI z.1), some (vI z.2.1), none]) (fs := fun z => []) (fh := fun z => z.2.2) (fun rec hrec z hz => t7_spend_11 l G d hd x2 x3 x4 x5 z.1 z.2.1 rec (fun x6 x7 h => hrec (x6, x7, h) trivial) z.2.2 )
def f7_spend (x1 : Nat) (x2 : Int) (x3 : Int) (x4 : Int) (x5 : Int) (h : AH) : Option (Int × AH) :=
  bnd (f7_begin x1 h) fun r14 h15 =>
  l7_spend_11 x2 x3 x4 x5 0 0 h15
set_option maxRecDepth 100000 in
theorem c7_spend (l : Launch) (G : Geo) (x1 : Nat) (x2 : Int) (x3 : Int) (x4 : Int) (x5 : Int) (h : AH) (kx1 : ok h.1 x1 9) : Con l G m7_spend rvI 6 [vA G 41, vA G x1, vI x2, vI x3, vI x4, vI x5] h (f7_spend x1 x2 x3 x4 x5 h) := by
  have hd : 6 ≤ 6 := Nat.le_refl _
  refine con_I rfl (by decide) rfl rfl (Nat.le_of_ble_eq_true rfl) (L := [some (vA G 41), some (vA G x1), some (vI x2), some (vI x3), some (vI x4), some (vI x5), none, none, none]) ?_
  unfold f7_spend
  refine den_aload_n (pc := 0) d7_spend_0 rfl rfl ?_
  refine den_aload_n (pc := 1) d7_spend_1 rfl rfl ?_
  refine den_callVV (pc := 2) (As := [vA G x1]) fv_7_57 rfl rfl (ok_41 _) (Nat.le_of_ble_eq_true rfl) (Nat.le_trans (by decide) hd) d7_spend_2 (c7_begin l G x1 h kx1) (fun r14 h15 m16 o17 => ?_)
  have q18 := ok.mono kx1 m16
  refine den_iconst (pc := 5) d7_spend_5 ?_
  refine den_istore (pc := 6) (L2 := [some (vA G 41), some (vA G x1), some (vI x2), some (vI x3), some (vI x4), some (vI x5), some (vI 0), none, none]) d7_spend_6 (by decide) rfl ?_
  refine den_iconst (pc := 8) d7_spend_8 ?_
  refine den_istore (pc := 9) (L2 := [some (vA G 41), some (vA G x1), some (vI x2), some (vI x3), some (vI x4), some (vI x5), some (vI 0), some (vI 0), none]) d7_spend_9 (by decide) rfl ?_
  refine den_wk [true, false, true, true, true, true, true, true, true] rfl ?_
  exact tl7_spend_11 l G _ hd x2 x3 x4 x5 FU (0, 0, h15) trivial
theorem d9_agreeFirst_0 : decode m9_agreeFirst.2.1 0 = .ok (.iconst 0, 1) := by decide +kernel
theorem d9_agreeFirst_1 : decode m9_agreeFirst.2.1 1 = .ok (.istore_n 2, 1) := by decide +kernel
theorem d9_agreeFirst_2 : decode m9_agreeFirst.2.1 2 = .ok (.iload_n 2, 1) := by decide +kernel
theorem d9_agreeFirst_3 : decode m9_agreeFirst.2.1 3 = .ok (.aload_n 0, 1) := by decide +kernel
theorem d9_agreeFirst_4 : decode m9_agreeFirst.2.1 4 = .ok (.getfield 31, 3) := by decide +kernel
theorem d9_agreeFirst_7 : decode m9_agreeFirst.2.1 7 = .ok (.if_icmp .ge 45, 3) := by decide +kernel
theorem d9_agreeFirst_10 : decode m9_agreeFirst.2.1 10 = .ok (.iload_n 2, 1) := by decide +kernel
theorem d9_agreeFirst_11 : decode m9_agreeFirst.2.1 11 = .ok (.iconst 1, 1) := by decide +kernel
theorem d9_agreeFirst_12 : decode m9_agreeFirst.2.1 12 = .ok (.iadd, 1) := by decide +kernel
theorem d9_agreeFirst_13 : decode m9_agreeFirst.2.1 13 = .ok (.istore_n 3, 1) := by decide +kernel
theorem d9_agreeFirst_14 : decode m9_agreeFirst.2.1 14 = .ok (.iload_n 3, 1) := by decide +kernel
theorem d9_agreeFirst_15 : decode m9_agreeFirst.2.1 15 = .ok (.aload_n 0, 1) := by decide +kernel
theorem d9_agreeFirst_16 : decode m9_agreeFirst.2.1 16 = .ok (.getfield 31, 3) := by decide +kernel
theorem d9_agreeFirst_19 : decode m9_agreeFirst.2.1 19 = .ok (.if_icmp .ge 27, 3) := by decide +kernel
theorem d9_agreeFirst_22 : decode m9_agreeFirst.2.1 22 = .ok (.aload_n 0, 1) := by decide +kernel
theorem d9_agreeFirst_23 : decode m9_agreeFirst.2.1 23 = .ok (.iload_n 2, 1) := by decide +kernel
theorem d9_agreeFirst_24 : decode m9_agreeFirst.2.1 24 = .ok (.iload_n 3, 1) := by decide +kernel
theorem d9_agreeFirst_25 : decode m9_agreeFirst.2.1 25 = .ok (.iload_n 1, 1) := by decide +kernel
theorem d9_agreeFirst_26 : decode m9_agreeFirst.2.1 26 = .ok (.invokevirtual 78, 3) := by decide +kernel
theorem d9_agreeFirst_29 : decode m9_agreeFirst.2.1 29 = .ok (.ifCond .le 11, 3) := by decide +kernel
theorem d9_agreeFirst_32 : decode m9_agreeFirst.2.1 32 = .ok (.aload_n 0, 1) := by decide +kernel
theorem d9_agreeFirst_33 : decode m9_agreeFirst.2.1 33 = .ok (.iload_n 2, 1) := by decide +kernel
theorem d9_agreeFirst_34 : decode m9_agreeFirst.2.1 34 = .ok (.iload_n 3, 1) := by decide +kernel
theorem d9_agreeFirst_35 : decode m9_agreeFirst.2.1 35 = .ok (.iload_n 1, 1) := by decide +kernel
theorem d9_agreeFirst_36 : decode m9_agreeFirst.2.1 36 = .ok (.invokevirtual 101, 3) := by decide +kernel
theorem d9_agreeFirst_39 : decode m9_agreeFirst.2.1 39 = .ok (.ireturn, 1) := by decide +kernel
theorem d9_agreeFirst_40 : decode m9_agreeFirst.2.1 40 = .ok (.iinc 3 1, 3) := by decide +kernel
theorem d9_agreeFirst_43 : decode m9_agreeFirst.2.1 43 = .ok (.goto (-29), 3) := by decide +kernel
theorem d9_agreeFirst_46 : decode m9_agreeFirst.2.1 46 = .ok (.iinc 2 1, 3) := by decide +kernel
theorem d9_agreeFirst_49 : decode m9_agreeFirst.2.1 49 = .ok (.goto (-47), 3) := by decide +kernel
theorem d9_agreeFirst_52 : decode m9_agreeFirst.2.1 52 = .ok (.iconst 0, 1) := by decide +kernel
theorem d9_agreeFirst_53 : decode m9_agreeFirst.2.1 53 = .ok (.ireturn, 1) := by decide +kernel
def b9_agreeFirst_14 (rec14 : Int × AH → Option (Int × AH)) (rec2 : Int × AH → Option (Int × AH)) (x0 : Nat) (x1 : Int) (x2 : Int) (x3 : Int) (h : AH) : Option (Int × AH) :=
  if w32 (h.2 x0 0) ≤ w32 x3 then
    rec2 ((x2 + 1), h)
  else
    bnd (f9_gap x0 x2 x3 x1 h) fun r1 h2 =>
    if w32 r1 ≤ 0 then
      rec14 ((x3 + 1), h2)
    else
      bnd (f9_agreeOn x0 x2 x3 x1 h2) fun r6 h7 =>
      asrt (w32 r6 = 0 ∨ w32 r6 = 1) <|
      some (r6, h7)
set_option maxRecDepth 100000 in
theorem t9_agreeFirst_14 (l : Launch) (G : Geo) (d : Nat) (hd : 5 ≤ d) (x0 : Nat) (x1 : Int) (x2 : Int) (x3 : Int) (rec14 : Int × AH → Option (Int × AH)) (H14 : ∀ (x3 : Int) (h : AH), ok h.1 x0 9 → Den l G m9_agreeFirst rvI d 14 [some (vA G x0), some (vI x1), some (vI x2), some (vI x3)] [] h (rec14 (x3, h))) (rec2 : Int × AH → Option (Int × AH)) (H2 : ∀ (x2 : Int) (h : AH), ok h.1 x0 9 → Den l G m9_agreeFirst rvI d 2 [some (vA G x0), some (vI x1), some (vI x2), none] [] h (rec2 (x2, h))) (h : AH) (kx0 : ok h.1 x0 9) : Den l G m9_agreeFirst rvI d 14 [some (vA G x0), some (vI x1), some (vI x2), some (vI x3)] [] h (b9_agreeFirst_14 rec14 rec2 x0 x1 x2 x3 h) := by
  unfold b9_agreeFirst_14
  refine den_iload_n (pc := 14) d9_agreeFirst_14 rfl rfl ?_
  refine den_aload_n (pc := 15) d9_agreeFirst_15 rfl rfl ?_
  refine den_getI (pc := 16) fa_9_31 kx0 d9_agreeFirst_16 ?_
  refine den_icmp_ge (pc := 19) (tgt := 46) d9_agreeFirst_19 (by decide) rfl rfl (fun _ => ?_) (fun _ => ?_)
  · refine den_iinc (pc := 46) (L2 := [some (vA G x0), some (vI x1), some (vI (x2 + 1)), some (vI x3)]) d9_agreeFirst_46 (by decide) rfl rfl ?_
    refine den_goto (pc := 49) (tgt := 2) d9_agreeFirst_49 (by decide) ?_
    refine den_wk [true, true, true, false] rfl ?_
    exact H2 (x2 + 1) h kx0
  · refine den_aload_n (pc := 22) d9_agreeFirst_22 rfl rfl ?_
    refine den_iload_n (pc := 23) d9_agreeFirst_23 rfl rfl ?_
    refine den_iload_n (pc := 24) d9_agreeFirst_24 rfl rfl ?_
    refine den_iload_n (pc := 25) d9_agreeFirst_25 rfl rfl ?_
    refine den_callVI (pc := 26) (As := [vI x2, vI x3, vI x1]) fv_9_78 rfl rfl kx0 (Nat.le_of_ble_eq_true rfl) (Nat.le_trans (by decide) hd) d9_agreeFirst_26 (c9_gap l G x0 x2 x3 x1 h kx0) (fun r1 h2 m3 o4 => ?_)
    have q5 := ok.mono kx0 m3
    refine den_if_le (pc := 29) (tgt := 40) d9_agreeFirst_29 (by decide) rfl (fun _ => ?_) (fun _ => ?_)
    · refine den_iinc (pc := 40) (L2 := [some (vA G x0), some (vI x1), some (vI x2), some (vI (x3 + 1))]) d9_agreeFirst_40 (by decide) rfl rfl ?_
      refine den_goto (pc := 43) (tgt := 14) d9_agreeFirst_43 (by decide) ?_
      exact H14 (x3 + 1) h2 q5
    · refine den_aload_n (pc := 32) d9_agreeFirst_32 rfl rfl ?_
      refine den_iload_n (pc := 33) d9_agreeFirst_33 rfl rfl ?_
      refine den_iload_n (pc := 34) d9_agreeFirst_34 rfl rfl ?_
      refine den_iload_n (pc := 35) d9_agreeFirst_35 rfl rfl ?_
      refine den_callVI (pc := 36) (As := [vI x2, vI x3, vI x1]) fv_9_101 rfl rfl q5 (Nat.le_of_ble_eq_true rfl) (Nat.le_trans (by decide) hd) d9_agreeFirst_36 (c9_agreeOn l G x0 x2 x3 x1 h2 q5) (fun r6 h7 m8 o9 => ?_)
      have q10 := ok.mono q5 m8
      refine den_asrt (fun a11 => ?_)
      exact den_zret (pc := 39) rfl a11 d9_agreeFirst_39
def l9_agreeFirst_14 (rec2 : Int × AH → Option (Int × AH)) (x0 : Nat) (x1 : Int) (x2 : Int) (x3 : Int) (h : AH) : Option (Int × AH) := fx (fun rec z => b9_agreeFirst_14 rec rec2 x0 x1 x2 z.1 z.2) FU (x3, h)
set_option maxRecDepth 100000 in
theorem tl9_agreeFirst_14 (l : Launch) (G : Geo) (d : Nat) (hd : 5 ≤ d) (x0 : Nat) (x1 : Int) (x2 : Int) (rec2 : Int × AH → Option (Int × AH)) (H2 : ∀ (x2 : Int) (h : AH), ok h.1 x0 9 → Den l G m9_agreeFirst rvI d 2 [some (vA G x0), some (vI x1), some (vI x2), none] [] h (rec2 (x2, h))) : ∀ (n : Nat) (z : Int × AH), ok z.2.1 x0 9 → Den l G m9_agreeFirst rvI d 14 [some (vA G x0), some (vI x1), some (vI x2), some (vI z.1)] [] z.2 (fx (fun rec z => b9_agreeFirst_14 rec rec2 x0 x1 x2 z.1 z.2) n z) :=
  den_fx (F := fun rec z => b9_agreeFirst_14 rec rec2 x0 x1 x2 z.1 z.2) (P := fun z => ok z.2.1 x0 9) (fL := fun z => [some (vA G x0), some (vI x1), some (vI x2), some (vI z.1)]) (fs := fun z => []) (fh := fun z => z.2) (fun rec hrec z hz => t9_agreeFirst_14 l G d hd x0 x1 x2 z.1 rec (fun x3 h w0 => hrec (x3, h) w0) rec2 H2 z.2 hz)
def b9_agreeFirst_2 (rec2 : Int × AH → Option (Int × AH)) (x0 : Nat) (x1 : Int) (x2 : Int) (h : AH) : Option (Int × AH) :=
  if w32 (h.2 x0 0) ≤ w32 x2 then
    some (0, h)
  else
    lt (x2 + 1) fun u12 =>
    l9_agreeFirst_14 rec2 x0 x1 x2 u12 h
set_option maxRecDepth 100000 in
theorem t9_agreeFirst_2 (l : Launch) (G : Geo) (d : Nat) (hd : 5 ≤ d) (x0 : Nat) (x1 : Int) (x2 : Int) (rec2 : Int × AH → Option (Int × AH)) (H2 : ∀ (x2 : Int) (h : AH), ok h.1 x0 9 → Den l G m9_agreeFirst rvI d 2 [some (vA G x0), some (vI x1), some (vI x2), none] [] h (rec2 (x2, h))) (h : AH) (kx0 : ok h.1 x0 9) : Den l G m9_agreeFirst rvI d 2 [some (vA G x0), some (vI x1), some (vI x2), none] [] h (b9_agreeFirst_2 rec2 x0 x1 x2 h) := by
  unfold b9_agreeFirst_2
  refine den_iload_n (pc := 2) d9_agreeFirst_2 rfl rfl ?_
  refine den_aload_n (pc := 3) d9_agreeFirst_3 rfl rfl ?_
  refine den_getI (pc := 4) fa_9_31 kx0 d9_agreeFirst_4 ?_
  refine den_icmp_ge (pc := 7) (tgt := 52) d9_agreeFirst_7 (by decide) rfl rfl (fun _ => ?_) (fun _ => ?_)
  · refine den_iconst (pc := 52) d9_agreeFirst_52 ?_
    exact den_zret (pc := 53) rfl (by decide) d9_agreeFirst_53
  · refine den_iload_n (pc := 10) d9_agreeFirst_10 rfl rfl ?_
    refine den_iconst (pc := 11) d9_agreeFirst_11 ?_
    refine den_iadd (pc := 12) d9_agreeFirst_12 ?_
    refine den_istore_nL (pc := 13) (L2 := fun y => [some (vA G x0), some (vI x1), some (vI x2), some (vI y)]) d9_agreeFirst_13 rfl (by decide) (fun _ => rfl) (fun u12 => ?_)
    exact tl9_agreeFirst_14 l G _ hd x0 x1 x2 rec2 H2 FU (u12, h) kx0
def l9_agreeFirst_2 (x0 : Nat) (x1 : Int) (x2 : Int) (h : AH) : Option (Int × AH) := fx (fun rec z => b9_agreeFirst_2 rec x0 x1 z.1 z.2) FU (x2, h)
set_option maxRecDepth 100000 in
theorem tl9_agreeFirst_2 (l : Launch) (G : Geo) (d : Nat) (hd : 5 ≤ d) (x0 : Nat) (x1 : Int) : ∀ (n : Nat) (z : Int × AH), ok z.2.1 x0 9 → Den l G m9_agreeFirst rvI d 2 [some (vA G x0), some (vI x1), some (vI z.1), none] [] z.2 (fx (fun rec z => b9_agreeFirst_2 rec x0 x1 z.1 z.2) n z) :=
  den_fx (F := fun rec z => b9_agreeFirst_2 rec x0 x1 z.1 z.2) (P := fun z => ok z.2.1 x0 9) (fL := fun z => [some (vA G x0), some (vI x1), some (vI z.1), none]) (fs := fun z => []) (fh := fun z => z.2) (fun rec hrec z hz => t9_agreeFirst_2 l G d hd x0 x1 z.1 rec (fun x2 h w0 => hrec (x2, h) w0) z.2 hz)
def f9_agreeFirst (x0 : Nat) (x1 : Int) (h : AH) : Option (Int × AH) :=
  l9_agreeFirst_2 x0 x1 0 h
set_option maxRecDepth 100000 in
theorem c9_agreeFirst (l : Launch) (G : Geo) (x0 : Nat) (x1 : Int) (h : AH) (kx0 : ok h.1 x0 9) : Con l G m9_agreeFirst rvI 5 [vA G x0, vI x1] h (f9_agreeFirst x0 x1 h) := by
  have hd : 5 ≤ 5 := Nat.le_refl _
  refine con_Z rfl (by decide) rfl rfl (Nat.le_of_ble_eq_true rfl) (L := [some (vA G x0), some (vI x1), none, none]) ?_
  unfold f9_agreeFirst
  refine den_iconst (pc := 0) d9_agreeFirst_0 ?_
  refine den_istore_n (pc := 1) (L2 := [some (vA G x0), some (vI x1), some (vI 0), none]) d9_agreeFirst_1 rfl (by decide) rfl ?_
  exact tl9_agreeFirst_2 l G _ hd x0 x1 FU (0, h) kx0
theorem d7_makeCalm_0 : decode m7_makeCalm.2.1 0 = .ok (.aload_n 0, 1) := by decide +kernel
theorem d7_makeCalm_1 : decode m7_makeCalm.2.1 1 = .ok (.aload_n 1, 1) := by decide +kernel
theorem d7_makeCalm_2 : decode m7_makeCalm.2.1 2 = .ok (.invokevirtual 57, 3) := by decide +kernel
theorem d7_makeCalm_5 : decode m7_makeCalm.2.1 5 = .ok (.iconst 0, 1) := by decide +kernel
theorem d7_makeCalm_6 : decode m7_makeCalm.2.1 6 = .ok (.istore_n 3, 1) := by decide +kernel
theorem d7_makeCalm_7 : decode m7_makeCalm.2.1 7 = .ok (.iload_n 3, 1) := by decide +kernel
theorem d7_makeCalm_8 : decode m7_makeCalm.2.1 8 = .ok (.sipush 1000, 3) := by decide +kernel
theorem d7_makeCalm_11 : decode m7_makeCalm.2.1 11 = .ok (.if_icmp .ge 20, 3) := by decide +kernel
theorem d7_makeCalm_14 : decode m7_makeCalm.2.1 14 = .ok (.aload_n 0, 1) := by decide +kernel
theorem d7_makeCalm_15 : decode m7_makeCalm.2.1 15 = .ok (.getfield 12, 3) := by decide +kernel
theorem d7_makeCalm_18 : decode m7_makeCalm.2.1 18 = .ok (.iload_n 2, 1) := by decide +kernel
theorem d7_makeCalm_19 : decode m7_makeCalm.2.1 19 = .ok (.invokevirtual 169, 3) := by decide +kernel
theorem d7_makeCalm_22 : decode m7_makeCalm.2.1 22 = .ok (.ifCond .eq 9, 3) := by decide +kernel
theorem d7_makeCalm_25 : decode m7_makeCalm.2.1 25 = .ok (.iinc 3 1, 3) := by decide +kernel
theorem d7_makeCalm_28 : decode m7_makeCalm.2.1 28 = .ok (.goto (-21), 3) := by decide +kernel
theorem d7_makeCalm_31 : decode m7_makeCalm.2.1 31 = .ok (.iload_n 3, 1) := by decide +kernel
theorem d7_makeCalm_32 : decode m7_makeCalm.2.1 32 = .ok (.ireturn, 1) := by decide +kernel
def b7_makeCalm_7 (rec7 : Int × AH → Option (Int × AH)) (x2 : Int) (x3 : Int) (h : AH) : Option (Int × AH) :=
  if 1000 ≤ w32 x3 then
    some (x3, h)
  else
    bnd (f9_agreeFirst 42 x2 h) fun r1 h2 =>
    if w32 r1 = 0 then
      some (x3, h2)
    else
      rec7 ((x3 + 1), h2)
set_option maxRecDepth 100000 in
theorem t7_makeCalm_7 (l : Launch) (G : Geo) (d : Nat) (hd : 6 ≤ d) (x2 : Int) (x3 : Int) (rec7 : Int × AH → Option (Int × AH)) (H7 : ∀ (x3 : Int) (h : AH), Den l G m7_makeCalm rvI d 7 [some (vA G 41), none, some (vI x2), some (vI x3)] [] h (rec7 (x3, h))) (h : AH) : Den l G m7_makeCalm rvI d 7 [some (vA G 41), none, some (vI x2), some (vI x3)] [] h (b7_makeCalm_7 rec7 x2 x3 h) := by
  unfold b7_makeCalm_7
  refine den_iload_n (pc := 7) d7_makeCalm_7 rfl rfl ?_
  refine den_sipush (pc := 8) d7_makeCalm_8 (by decide) ?_
  refine den_icmp_ge (pc := 11) (tgt := 31) d7_makeCalm_11 (by decide) rfl (by decide) (fun _ => ?_) (fun _ => ?_)
  · refine den_iload_n (pc := 31) d7_makeCalm_31 rfl rfl ?_
    exact den_iret (pc := 32) rfl d7_makeCalm_32
  · refine den_aload_n (pc := 14) d7_makeCalm_14 rfl rfl ?_
    refine den_getR (pc := 15) (b := 42) fa_7_12 (ok_41 _) rfl d7_makeCalm_15 ?_
    refine den_iload_n (pc := 18) d7_makeCalm_18 rfl rfl ?_
    refine den_callVI (pc := 19) (As := [vI x2]) fv_7_169 rfl rfl (ok_42 _) (Nat.le_of_ble_eq_true rfl) (Nat.le_trans (by decide) hd) d7_makeCalm_19 (c9_agreeFirst l G 42 x2 h (ok_42 _)) (fun r1 h2 m3 o4 => ?_)
    refine den_if_eq (pc := 22) (tgt := 31) d7_makeCalm_22 (by decide) rfl (fun _ => ?_) (fun _ => ?_)
    · refine den_iload_n (pc := 31) d7_makeCalm_31 rfl rfl ?_
      exact den_iret (pc := 32) rfl d7_makeCalm_32
    · refine den_iinc (pc := 25) (L2 := [some (vA G 41), none, some (vI x2), some (vI (x3 + 1))]) d7_makeCalm_25 (by decide) rfl rfl ?_
      refine den_goto (pc := 28) (tgt := 7) d7_makeCalm_28 (by decide) ?_
      exact H7 (x3 + 1) h2
def l7_makeCalm_7 (x2 : Int) (x3 : Int) (h : AH) : Option (Int × AH) := fx (fun rec z => b7_makeCalm_7 rec x2 z.1 z.2) FU (x3, h)
set_option maxRecDepth 100000 in
theorem tl7_makeCalm_7 (l : Launch) (G : Geo) (d : Nat) (hd : 6 ≤ d) (x2 : Int) : ∀ (n : Nat) (z : Int × AH), True → Den l G m7_makeCalm rvI d 7 [some (vA G 41), none, some (vI x2), some (vI z.1)] [] z.2 (fx (fun rec z => b7_makeCalm_7 rec x2 z.1 z.2) n z) :=
  den_fx (F := fun rec z => b7_makeCalm_7 rec x2 z.1 z.2) (P := fun z => True) (fL := fun z => [some (vA G 41), none, some (vI x2), some (vI z.1)]) (fs := fun z => []) (fh := fun z => z.2) (fun rec hrec z hz => t7_makeCalm_7 l G d hd x2 z.1 rec (fun x3 h => hrec (x3, h) trivial) z.2 )
def f7_makeCalm (x1 : Nat) (x2 : Int) (h : AH) : Option (Int × AH) :=
  bnd (f7_begin x1 h) fun r5 h6 =>
  l7_makeCalm_7 x2 0 h6
set_option maxRecDepth 100000 in
theorem c7_makeCalm (l : Launch) (G : Geo) (x1 : Nat) (x2 : Int) (h : AH) (kx1 : ok h.1 x1 9) : Con l G m7_makeCalm rvI 6 [vA G 41, vA G x1, vI x2] h (f7_makeCalm x1 x2 h) := by
  have hd : 6 ≤ 6 := Nat.le_refl _
  refine con_I rfl (by decide) rfl rfl (Nat.le_of_ble_eq_true rfl) (L := [some (vA G 41), some (vA G x1), some (vI x2), none]) ?_
  unfold f7_makeCalm
  refine den_aload_n (pc := 0) d7_makeCalm_0 rfl rfl ?_
  refine den_aload_n (pc := 1) d7_makeCalm_1 rfl rfl ?_
  refine den_callVV (pc := 2) (As := [vA G x1]) fv_7_57 rfl rfl (ok_41 _) (Nat.le_of_ble_eq_true rfl) (Nat.le_trans (by decide) hd) d7_makeCalm_2 (c7_begin l G x1 h kx1) (fun r5 h6 m7 o8 => ?_)
  have q9 := ok.mono kx1 m7
  refine den_iconst (pc := 5) d7_makeCalm_5 ?_
  refine den_istore_n (pc := 6) (L2 := [some (vA G 41), some (vA G x1), some (vI x2), some (vI 0)]) d7_makeCalm_6 rfl (by decide) rfl ?_
  refine den_wk [true, false, true, true] rfl ?_
  exact tl7_makeCalm_7 l G _ hd x2 FU (0, h6) trivial
theorem d8_copy_0 : decode m8_copy.2.1 0 = .ok (.aload_n 1, 1) := by decide +kernel
theorem d8_copy_1 : decode m8_copy.2.1 1 = .ok (.getfield 9, 3) := by decide +kernel
theorem d8_copy_4 : decode m8_copy.2.1 4 = .ok (.iconst 0, 1) := by decide +kernel
theorem d8_copy_5 : decode m8_copy.2.1 5 = .ok (.aload_n 0, 1) := by decide +kernel
theorem d8_copy_6 : decode m8_copy.2.1 6 = .ok (.getfield 9, 3) := by decide +kernel
theorem d8_copy_9 : decode m8_copy.2.1 9 = .ok (.iconst 0, 1) := by decide +kernel
theorem d8_copy_10 : decode m8_copy.2.1 10 = .ok (.sipush 600, 3) := by decide +kernel
theorem d8_copy_13 : decode m8_copy.2.1 13 = .ok (.invokestatic 42, 3) := by decide +kernel
theorem d8_copy_16 : decode m8_copy.2.1 16 = .ok (.aload_n 0, 1) := by decide +kernel
theorem d8_copy_17 : decode m8_copy.2.1 17 = .ok (.aload_n 1, 1) := by decide +kernel
theorem d8_copy_18 : decode m8_copy.2.1 18 = .ok (.getfield 48, 3) := by decide +kernel
theorem d8_copy_21 : decode m8_copy.2.1 21 = .ok (.putfield 48, 3) := by decide +kernel
theorem d8_copy_24 : decode m8_copy.2.1 24 = .ok (.aload_n 0, 1) := by decide +kernel
theorem d8_copy_25 : decode m8_copy.2.1 25 = .ok (.aload_n 1, 1) := by decide +kernel
theorem d8_copy_26 : decode m8_copy.2.1 26 = .ok (.getfield 51, 3) := by decide +kernel
theorem d8_copy_29 : decode m8_copy.2.1 29 = .ok (.putfield 51, 3) := by decide +kernel
theorem d8_copy_32 : decode m8_copy.2.1 32 = .ok (.aload_n 0, 1) := by decide +kernel
theorem d8_copy_33 : decode m8_copy.2.1 33 = .ok (.aload_n 1, 1) := by decide +kernel
theorem d8_copy_34 : decode m8_copy.2.1 34 = .ok (.getfield 15, 3) := by decide +kernel
theorem d8_copy_37 : decode m8_copy.2.1 37 = .ok (.putfield 15, 3) := by decide +kernel
theorem d8_copy_40 : decode m8_copy.2.1 40 = .ok (.aload_n 1, 1) := by decide +kernel
theorem d8_copy_41 : decode m8_copy.2.1 41 = .ok (.getfield 19, 3) := by decide +kernel
theorem d8_copy_44 : decode m8_copy.2.1 44 = .ok (.iconst 0, 1) := by decide +kernel
theorem d8_copy_45 : decode m8_copy.2.1 45 = .ok (.aload_n 0, 1) := by decide +kernel
theorem d8_copy_46 : decode m8_copy.2.1 46 = .ok (.getfield 19, 3) := by decide +kernel
theorem d8_copy_49 : decode m8_copy.2.1 49 = .ok (.iconst 0, 1) := by decide +kernel
theorem d8_copy_50 : decode m8_copy.2.1 50 = .ok (.iconst 3, 1) := by decide +kernel
theorem d8_copy_51 : decode m8_copy.2.1 51 = .ok (.invokestatic 42, 3) := by decide +kernel
theorem d8_copy_54 : decode m8_copy.2.1 54 = .ok (.iconst 0, 1) := by decide +kernel
theorem d8_copy_55 : decode m8_copy.2.1 55 = .ok (.istore_n 2, 1) := by decide +kernel
theorem d8_copy_56 : decode m8_copy.2.1 56 = .ok (.iload_n 2, 1) := by decide +kernel
theorem d8_copy_57 : decode m8_copy.2.1 57 = .ok (.iconst 2, 1) := by decide +kernel
theorem d8_copy_58 : decode m8_copy.2.1 58 = .ok (.if_icmp .ge 54, 3) := by decide +kernel
theorem d8_copy_61 : decode m8_copy.2.1 61 = .ok (.aload_n 0, 1) := by decide +kernel
theorem d8_copy_62 : decode m8_copy.2.1 62 = .ok (.getfield 25, 3) := by decide +kernel
theorem d8_copy_65 : decode m8_copy.2.1 65 = .ok (.iload_n 2, 1) := by decide +kernel
theorem d8_copy_66 : decode m8_copy.2.1 66 = .ok (.aaload, 1) := by decide +kernel
theorem d8_copy_67 : decode m8_copy.2.1 67 = .ok (.aload_n 1, 1) := by decide +kernel
theorem d8_copy_68 : decode m8_copy.2.1 68 = .ok (.getfield 25, 3) := by decide +kernel
theorem d8_copy_71 : decode m8_copy.2.1 71 = .ok (.iload_n 2, 1) := by decide +kernel
theorem d8_copy_72 : decode m8_copy.2.1 72 = .ok (.aaload, 1) := by decide +kernel
theorem d8_copy_73 : decode m8_copy.2.1 73 = .ok (.invokevirtual 54, 3) := by decide +kernel
theorem d8_copy_76 : decode m8_copy.2.1 76 = .ok (.aload_n 0, 1) := by decide +kernel
theorem d8_copy_77 : decode m8_copy.2.1 77 = .ok (.getfield 31, 3) := by decide +kernel
theorem d8_copy_80 : decode m8_copy.2.1 80 = .ok (.iload_n 2, 1) := by decide +kernel
theorem d8_copy_81 : decode m8_copy.2.1 81 = .ok (.aaload, 1) := by decide +kernel
theorem d8_copy_82 : decode m8_copy.2.1 82 = .ok (.aload_n 1, 1) := by decide +kernel
theorem d8_copy_83 : decode m8_copy.2.1 83 = .ok (.getfield 31, 3) := by decide +kernel
theorem d8_copy_86 : decode m8_copy.2.1 86 = .ok (.iload_n 2, 1) := by decide +kernel
theorem d8_copy_87 : decode m8_copy.2.1 87 = .ok (.aaload, 1) := by decide +kernel
theorem d8_copy_88 : decode m8_copy.2.1 88 = .ok (.invokevirtual 58, 3) := by decide +kernel
theorem d8_copy_91 : decode m8_copy.2.1 91 = .ok (.aload_n 0, 1) := by decide +kernel
theorem d8_copy_92 : decode m8_copy.2.1 92 = .ok (.getfield 35, 3) := by decide +kernel
theorem d8_copy_95 : decode m8_copy.2.1 95 = .ok (.iload_n 2, 1) := by decide +kernel
theorem d8_copy_96 : decode m8_copy.2.1 96 = .ok (.aaload, 1) := by decide +kernel
theorem d8_copy_97 : decode m8_copy.2.1 97 = .ok (.aload_n 1, 1) := by decide +kernel
theorem d8_copy_98 : decode m8_copy.2.1 98 = .ok (.getfield 35, 3) := by decide +kernel
theorem d8_copy_101 : decode m8_copy.2.1 101 = .ok (.iload_n 2, 1) := by decide +kernel
theorem d8_copy_102 : decode m8_copy.2.1 102 = .ok (.aaload, 1) := by decide +kernel
theorem d8_copy_103 : decode m8_copy.2.1 103 = .ok (.invokevirtual 58, 3) := by decide +kernel
theorem d8_copy_106 : decode m8_copy.2.1 106 = .ok (.iinc 2 1, 3) := by decide +kernel
theorem d8_copy_109 : decode m8_copy.2.1 109 = .ok (.goto (-53), 3) := by decide +kernel
theorem d8_copy_112 : decode m8_copy.2.1 112 = .ok (.return_, 1) := by decide +kernel
def b8_copy_56 (rec56 : Int × AH → Option (Int × AH)) (x0 : Nat) (x1 : Nat) (x2 : Int) (h : AH) : Option (Int × AH) :=
  if 2 ≤ w32 x2 then
    some (0, h)
  else
    asrt (0 ≤ w32 x2 ∧ w32 x2 < 2) <|
    asrt (0 ≤ w32 x2 ∧ w32 x2 < 2) <|
    bnd (f9_copy ((x0 + 3) + 3 + 10 * (w32 x2).toNat) ((x1 + 3) + 3 + 10 * (w32 x2).toNat) h) fun r5 h6 =>
    asrt (0 ≤ w32 x2 ∧ w32 x2 < 2) <|
    asrt (0 ≤ w32 x2 ∧ w32 x2 < 2) <|
    bnd (f6_copy ((x0 + 4) + 8 + 10 * (w32 x2).toNat) ((x1 + 4) + 8 + 10 * (w32 x2).toNat) h6) fun r15 h16 =>
    asrt (0 ≤ w32 x2 ∧ w32 x2 < 2) <|
    asrt (0 ≤ w32 x2 ∧ w32 x2 < 2) <|
    bnd (f6_copy ((x0 + 5) + 9 + 10 * (w32 x2).toNat) ((x1 + 5) + 9 + 10 * (w32 x2).toNat) h16) fun r25 h26 =>
    rec56 ((x2 + 1), h26)
set_option maxRecDepth 100000 in
theorem t8_copy_56 (l : Launch) (G : Geo) (d : Nat) (hd : 4 ≤ d) (x0 : Nat) (x1 : Nat) (x2 : Int) (rec56 : Int × AH → Option (Int × AH)) (H56 : ∀ (x2 : Int) (h : AH), ok h.1 x0 8 → ok h.1 x1 8 → Den l G m8_copy rvV d 56 [some (vA G x0), some (vA G x1), some (vI x2)] [] h (rec56 (x2, h))) (h : AH) (kx0 : ok h.1 x0 8) (kx1 : ok h.1 x1 8) : Den l G m8_copy rvV d 56 [some (vA G x0), some (vA G x1), some (vI x2)] [] h (b8_copy_56 rec56 x0 x1 x2 h) := by
  unfold b8_copy_56
  refine den_iload_n (pc := 56) d8_copy_56 rfl rfl ?_
  refine den_iconst (pc := 57) d8_copy_57 ?_
  refine den_icmp_ge (pc := 58) (tgt := 112) d8_copy_58 (by decide) rfl (by decide) (fun _ => ?_) (fun _ => ?_)
  · exact den_vret (pc := 112) rfl d8_copy_112
  · refine den_aload_n (pc := 61) d8_copy_61 rfl rfl ?_
    refine den_getR (pc := 62) (b := x0 + 3) fa_8_25 kx0 rfl d8_copy_62 ?_
    refine den_iload_n (pc := 65) d8_copy_65 rfl rfl ?_
    refine den_asrt (fun a1 => ?_)
    refine den_aaload4 (pc := 66) (tol_s3 kx0) (tol_l3 kx0) rfl a1 d8_copy_66 ?_
    have q2 := ok_e4 (tol_s3 kx0) (tol_l3 kx0) a1
    refine den_aload_n (pc := 67) d8_copy_67 rfl rfl ?_
    refine den_getR (pc := 68) (b := x1 + 3) fa_8_25 kx1 rfl d8_copy_68 ?_
    refine den_iload_n (pc := 71) d8_copy_71 rfl rfl ?_
    refine den_asrt (fun a3 => ?_)
    refine den_aaload4 (pc := 72) (tol_s3 kx1) (tol_l3 kx1) rfl a3 d8_copy_72 ?_
    have q4 := ok_e4 (tol_s3 kx1) (tol_l3 kx1) a3
    refine den_callVV (pc := 73) (As := [vA G ((x1 + 3) + 3 + 10 * (w32 x2).toNat)]) fv_8_54 rfl rfl q2 (Nat.le_of_ble_eq_true rfl) (Nat.le_trans (by decide) hd) d8_copy_73 (c9_copy l G ((x0 + 3) + 3 + 10 * (w32 x2).toNat) ((x1 + 3) + 3 + 10 * (w32 x2).toNat) h q2 q4) (fun r5 h6 m7 o8 => ?_)
    have q9 := ok.mono kx0 m7
    have q10 := ok.mono kx1 m7
    refine den_aload_n (pc := 76) d8_copy_76 rfl rfl ?_
    refine den_getR (pc := 77) (b := x0 + 4) fa_8_31 q9 rfl d8_copy_77 ?_
    refine den_iload_n (pc := 80) d8_copy_80 rfl rfl ?_
    refine den_asrt (fun a11 => ?_)
    refine den_aaload5 (pc := 81) (tol_s4 q9) (tol_l4 q9) rfl a11 d8_copy_81 ?_
    have q12 := ok_e5 (tol_s4 q9) (tol_l4 q9) a11
    refine den_aload_n (pc := 82) d8_copy_82 rfl rfl ?_
    refine den_getR (pc := 83) (b := x1 + 4) fa_8_31 q10 rfl d8_copy_83 ?_
    refine den_iload_n (pc := 86) d8_copy_86 rfl rfl ?_
    refine den_asrt (fun a13 => ?_)
    refine den_aaload5 (pc := 87) (tol_s4 q10) (tol_l4 q10) rfl a13 d8_copy_87 ?_
    have q14 := ok_e5 (tol_s4 q10) (tol_l4 q10) a13
    refine den_callVV (pc := 88) (As := [vA G ((x1 + 4) + 8 + 10 * (w32 x2).toNat)]) fv_8_58 rfl rfl q12 (Nat.le_of_ble_eq_true rfl) (Nat.le_trans (by decide) hd) d8_copy_88 (c6_copy l G ((x0 + 4) + 8 + 10 * (w32 x2).toNat) ((x1 + 4) + 8 + 10 * (w32 x2).toNat) h6 q12 q14) (fun r15 h16 m17 o18 => ?_)
    have q19 := ok.mono q9 m17
    have q20 := ok.mono q10 m17
    refine den_aload_n (pc := 91) d8_copy_91 rfl rfl ?_
    refine den_getR (pc := 92) (b := x0 + 5) fa_8_35 q19 rfl d8_copy_92 ?_
    refine den_iload_n (pc := 95) d8_copy_95 rfl rfl ?_
    refine den_asrt (fun a21 => ?_)
    refine den_aaload6 (pc := 96) (tol_s5 q19) (tol_l5 q19) rfl a21 d8_copy_96 ?_
    have q22 := ok_e6 (tol_s5 q19) (tol_l5 q19) a21
    refine den_aload_n (pc := 97) d8_copy_97 rfl rfl ?_
    refine den_getR (pc := 98) (b := x1 + 5) fa_8_35 q20 rfl d8_copy_98 ?_
    refine den_iload_n (pc := 101) d8_copy_101 rfl rfl ?_
    refine den_asrt (fun a23 => ?_)
    refine den_aaload6 (pc := 102) (tol_s5 q20) (tol_l5 q20) rfl a23 d8_copy_102 ?_
    have q24 := ok_e6 (tol_s5 q20) (tol_l5 q20) a23
    refine den_callVV (pc := 103) (As := [vA G ((x1 + 5) + 9 + 10 * (w32 x2).toNat)]) fv_8_58 rfl rfl q22 (Nat.le_of_ble_eq_true rfl) (Nat.le_trans (by decide) hd) d8_copy_103 (c6_copy l G ((x0 + 5) + 9 + 10 * (w32 x2).toNat) ((x1 + 5) + 9 + 10 * (w32 x2).toNat) h16 q22 q24) (fun r25 h26 m27 o28 => ?_)
    have q29 := ok.mono q19 m27
    have q30 := ok.mono q20 m27
    refine den_iinc (pc := 106) (L2 := [some (vA G x0), some (vA G x1), some (vI (x2 + 1))]) d8_copy_106 (by decide) rfl rfl ?_
    refine den_goto (pc := 109) (tgt := 56) d8_copy_109 (by decide) ?_
    exact H56 (x2 + 1) h26 q29 q30
def l8_copy_56 (x0 : Nat) (x1 : Nat) (x2 : Int) (h : AH) : Option (Int × AH) := fx (fun rec z => b8_copy_56 rec x0 x1 z.1 z.2) FU (x2, h)
set_option maxRecDepth 100000 in
theorem tl8_copy_56 (l : Launch) (G : Geo) (d : Nat) (hd : 4 ≤ d) (x0 : Nat) (x1 : Nat) : ∀ (n : Nat) (z : Int × AH), ok z.2.1 x0 8 ∧ ok z.2.1 x1 8 → Den l G m8_copy rvV d 56 [some (vA G x0), some (vA G x1), some (vI z.1)] [] z.2 (fx (fun rec z => b8_copy_56 rec x0 x1 z.1 z.2) n z) :=
  den_fx (F := fun rec z => b8_copy_56 rec x0 x1 z.1 z.2) (P := fun z => ok z.2.1 x0 8 ∧ ok z.2.1 x1 8) (fL := fun z => [some (vA G x0), some (vA G x1), some (vI z.1)]) (fs := fun z => []) (fh := fun z => z.2) (fun rec hrec z hz => t8_copy_56 l G d hd x0 x1 z.1 rec (fun x2 h w0 w1 => hrec (x2, h) ⟨w0, w1⟩) z.2 hz.1 hz.2)
def f8_copy (x0 : Nat) (x1 : Nat) (h : AH) : Option (Int × AH) :=
  asrt ((0 ≤ w32 0 ∧ 0 ≤ w32 0 ∧ 0 ≤ w32 600 ∧ w32 0 + w32 600 ≤ 600 ∧ w32 0 + w32 600 ≤ 600) ∧ ∀ i, i < (w32 600).toNat → -128 ≤ w32 (h.2 (x1 + 1) ((w32 0).toNat + i)) ∧ w32 (h.2 (x1 + 1) ((w32 0).toNat + i)) ≤ 127) <|
  lt (cpy h (x1 + 1) (x0 + 1) (w32 0).toNat (w32 0).toNat (w32 600).toNat) fun h32 =>
  lt (wr h32 x0 1 (h32.2 x1 1)) fun h36 =>
  lt (wr h36 x0 2 (h36.2 x1 2)) fun h40 =>
  lt (wr h40 x0 3 (h40.2 x1 3)) fun h44 =>
  asrt (0 ≤ w32 0 ∧ 0 ≤ w32 0 ∧ 0 ≤ w32 3 ∧ w32 0 + w32 3 ≤ 3 ∧ w32 0 + w32 3 ≤ 3) <|
  lt (cpy h44 (x1 + 2) (x0 + 2) (w32 0).toNat (w32 0).toNat (w32 3).toNat) fun h49 =>
  l8_copy_56 x0 x1 0 h49
set_option maxRecDepth 100000 in
theorem c8_copy (l : Launch) (G : Geo) (x0 : Nat) (x1 : Nat) (h : AH) (kx0 : ok h.1 x0 8) (kx1 : ok h.1 x1 8) : Con l G m8_copy rvV 4 [vA G x0, vA G x1] h (f8_copy x0 x1 h) := by
  have hd : 4 ≤ 4 := Nat.le_refl _
  refine con_V rfl (by decide) rfl rfl (Nat.le_of_ble_eq_true rfl) (L := [some (vA G x0), some (vA G x1), none]) ?_
  unfold f8_copy
  refine den_aload_n (pc := 0) d8_copy_0 rfl rfl ?_
  refine den_getR (pc := 1) (b := x1 + 1) fa_8_9 kx1 rfl d8_copy_1 ?_
  refine den_iconst (pc := 4) d8_copy_4 ?_
  refine den_aload_n (pc := 5) d8_copy_5 rfl rfl ?_
  refine den_getR (pc := 6) (b := x0 + 1) fa_8_9 kx0 rfl d8_copy_6 ?_
  refine den_iconst (pc := 9) d8_copy_9 ?_
  refine den_sipush (pc := 10) d8_copy_10 (by decide) ?_
  refine den_asrt (fun a31 => ?_)
  refine den_copyB (pc := 13) fc_8_42 (tol_s1 kx1) (tol_l1 kx1) (tol_s1 kx0) (tol_l1 kx0) rfl rfl (Nat.le_trans (by decide) hd) a31 (Nat.le_of_ble_eq_true rfl) d8_copy_13 ?_
  refine den_ltH (fun h32 m33 => ?_)
  have q34 := ok.mono kx0 m33
  have q35 := ok.mono kx1 m33
  refine den_aload_n (pc := 16) d8_copy_16 rfl rfl ?_
  refine den_aload_n (pc := 17) d8_copy_17 rfl rfl ?_
  refine den_getI (pc := 18) fa_8_48 q35 d8_copy_18 ?_
  refine den_putI (pc := 21) fp_8_48 q34 d8_copy_21 ?_
  refine den_ltH (fun h36 m37 => ?_)
  have q38 := ok.mono q34 m37
  have q39 := ok.mono q35 m37
  refine den_aload_n (pc := 24) d8_copy_24 rfl rfl ?_
  refine den_aload_n (pc := 25) d8_copy_25 rfl rfl ?_
  refine den_getI (pc := 26) fa_8_51 q39 d8_copy_26 ?_
  refine den_putI (pc := 29) fp_8_51 q38 d8_copy_29 ?_
  refine den_ltH (fun h40 m41 => ?_)
  have q42 := ok.mono q38 m41
  have q43 := ok.mono q39 m41
  refine den_aload_n (pc := 32) d8_copy_32 rfl rfl ?_
  refine den_aload_n (pc := 33) d8_copy_33 rfl rfl ?_
  refine den_getI (pc := 34) fa_8_15 q43 d8_copy_34 ?_
  refine den_putI (pc := 37) fp_8_15 q42 d8_copy_37 ?_
  refine den_ltH (fun h44 m45 => ?_)
  have q46 := ok.mono q42 m45
  have q47 := ok.mono q43 m45
  refine den_aload_n (pc := 40) d8_copy_40 rfl rfl ?_
  refine den_getR (pc := 41) (b := x1 + 2) fa_8_19 q47 rfl d8_copy_41 ?_
  refine den_iconst (pc := 44) d8_copy_44 ?_
  refine den_aload_n (pc := 45) d8_copy_45 rfl rfl ?_
  refine den_getR (pc := 46) (b := x0 + 2) fa_8_19 q46 rfl d8_copy_46 ?_
  refine den_iconst (pc := 49) d8_copy_49 ?_
  refine den_iconst (pc := 50) d8_copy_50 ?_
  refine den_asrt (fun a48 => ?_)
  refine den_copyI (pc := 51) fc_8_42 (tol_s2 q47) (tol_l2 q47) (tol_s2 q46) (tol_l2 q46) rfl rfl (Nat.le_trans (by decide) hd) a48 (Nat.le_of_ble_eq_true rfl) d8_copy_51 ?_
  refine den_ltH (fun h49 m50 => ?_)
  have q51 := ok.mono q46 m50
  have q52 := ok.mono q47 m50
  refine den_iconst (pc := 54) d8_copy_54 ?_
  refine den_istore_n (pc := 55) (L2 := [some (vA G x0), some (vA G x1), some (vI 0)]) d8_copy_55 rfl (by decide) rfl ?_
  exact tl8_copy_56 l G _ hd x0 x1 FU (0, h49) ⟨q51, q52⟩
theorem d8_addBytes_0 : decode m8_addBytes.2.1 0 = .ok (.bipush 24, 2) := by decide +kernel
theorem d8_addBytes_2 : decode m8_addBytes.2.1 2 = .ok (.istore_n 2, 1) := by decide +kernel
theorem d8_addBytes_3 : decode m8_addBytes.2.1 3 = .ok (.iload_n 2, 1) := by decide +kernel
theorem d8_addBytes_4 : decode m8_addBytes.2.1 4 = .ok (.ifCond .lt 42, 3) := by decide +kernel
theorem d8_addBytes_7 : decode m8_addBytes.2.1 7 = .ok (.aload_n 0, 1) := by decide +kernel
theorem d8_addBytes_8 : decode m8_addBytes.2.1 8 = .ok (.getfield 48, 3) := by decide +kernel
theorem d8_addBytes_11 : decode m8_addBytes.2.1 11 = .ok (.sipush 600, 3) := by decide +kernel
theorem d8_addBytes_14 : decode m8_addBytes.2.1 14 = .ok (.if_icmp .ge 32, 3) := by decide +kernel
theorem d8_addBytes_17 : decode m8_addBytes.2.1 17 = .ok (.aload_n 0, 1) := by decide +kernel
theorem d8_addBytes_18 : decode m8_addBytes.2.1 18 = .ok (.getfield 9, 3) := by decide +kernel
theorem d8_addBytes_21 : decode m8_addBytes.2.1 21 = .ok (.aload_n 0, 1) := by decide +kernel
theorem d8_addBytes_22 : decode m8_addBytes.2.1 22 = .ok (.getfield 48, 3) := by decide +kernel
theorem d8_addBytes_25 : decode m8_addBytes.2.1 25 = .ok (.iload_n 1, 1) := by decide +kernel
theorem d8_addBytes_26 : decode m8_addBytes.2.1 26 = .ok (.iload_n 2, 1) := by decide +kernel
theorem d8_addBytes_27 : decode m8_addBytes.2.1 27 = .ok (.iushr, 1) := by decide +kernel
theorem d8_addBytes_28 : decode m8_addBytes.2.1 28 = .ok (.i2b, 1) := by decide +kernel
theorem d8_addBytes_29 : decode m8_addBytes.2.1 29 = .ok (.bastore, 1) := by decide +kernel
theorem d8_addBytes_30 : decode m8_addBytes.2.1 30 = .ok (.aload_n 0, 1) := by decide +kernel
theorem d8_addBytes_31 : decode m8_addBytes.2.1 31 = .ok (.dup, 1) := by decide +kernel
theorem d8_addBytes_32 : decode m8_addBytes.2.1 32 = .ok (.getfield 48, 3) := by decide +kernel
theorem d8_addBytes_35 : decode m8_addBytes.2.1 35 = .ok (.iconst 1, 1) := by decide +kernel
theorem d8_addBytes_36 : decode m8_addBytes.2.1 36 = .ok (.iadd, 1) := by decide +kernel
theorem d8_addBytes_37 : decode m8_addBytes.2.1 37 = .ok (.putfield 48, 3) := by decide +kernel
theorem d8_addBytes_40 : decode m8_addBytes.2.1 40 = .ok (.iinc 2 (-8), 3) := by decide +kernel
theorem d8_addBytes_43 : decode m8_addBytes.2.1 43 = .ok (.goto (-40), 3) := by decide +kernel
theorem d8_addBytes_46 : decode m8_addBytes.2.1 46 = .ok (.return_, 1) := by decide +kernel
def b8_addBytes_3 (rec3 : Int × AH → Option (Int × AH)) (x0 : Nat) (x1 : Int) (x2 : Int) (h : AH) : Option (Int × AH) :=
  if w32 x2 < 0 then
    some (0, h)
  else
    if 600 ≤ w32 (h.2 x0 1) then
      some (0, h)
    else
      asrt (0 ≤ w32 (h.2 x0 1) ∧ w32 (h.2 x0 1) < 600) <|
      lt (wr h (x0 + 1) (w32 (h.2 x0 1)).toNat (i2b (i2b (ush32 x1 x2)))) fun h2 =>
      lt (wr h2 x0 1 ((h2.2 x0 1) + 1)) fun h5 =>
      rec3 ((x2 + (-8)), h5)
set_option maxRecDepth 100000 in
theorem t8_addBytes_3 (l : Launch) (G : Geo) (d : Nat) (hd : 2 ≤ d) (x0 : Nat) (x1 : Int) (x2 : Int) (rec3 : Int × AH → Option (Int × AH)) (H3 : ∀ (x2 : Int) (h : AH), ok h.1 x0 8 → Den l G m8_addBytes rvV d 3 [some (vA G x0), some (vI x1), some (vI x2)] [] h (rec3 (x2, h))) (h : AH) (kx0 : ok h.1 x0 8) : Den l G m8_addBytes rvV d 3 [some (vA G x0), some (vI x1), some (vI x2)] [] h (b8_addBytes_3 rec3 x0 x1 x2 h) := by
  unfold b8_addBytes_3
  refine den_iload_n (pc := 3) d8_addBytes_3 rfl rfl ?_
  refine den_if_lt (pc := 4) (tgt := 46) d8_addBytes_4 (by decide) rfl (fun _ => ?_) (fun _ => ?_)
  · exact den_vret (pc := 46) rfl d8_addBytes_46
  · refine den_aload_n (pc := 7) d8_addBytes_7 rfl rfl ?_
    refine den_getI (pc := 8) fa_8_48 kx0 d8_addBytes_8 ?_
    refine den_sipush (pc := 11) d8_addBytes_11 (by decide) ?_
    refine den_icmp_ge (pc := 14) (tgt := 46) d8_addBytes_14 (by decide) rfl (by decide) (fun _ => ?_) (fun _ => ?_)
    · exact den_vret (pc := 46) rfl d8_addBytes_46
    · refine den_aload_n (pc := 17) d8_addBytes_17 rfl rfl ?_
      refine den_getR (pc := 18) (b := x0 + 1) fa_8_9 kx0 rfl d8_addBytes_18 ?_
      refine den_aload_n (pc := 21) d8_addBytes_21 rfl rfl ?_
      refine den_getI (pc := 22) fa_8_48 kx0 d8_addBytes_22 ?_
      refine den_iload_n (pc := 25) d8_addBytes_25 rfl rfl ?_
      refine den_iload_n (pc := 26) d8_addBytes_26 rfl rfl ?_
      refine den_iushr (pc := 27) d8_addBytes_27 ?_
      refine den_i2b (pc := 28) d8_addBytes_28 ?_
      refine den_asrt (fun a1 => ?_)
      refine den_bastore (pc := 29) (tol_s1 kx0) (tol_l1 kx0) rfl a1 d8_addBytes_29 ?_
      refine den_ltH (fun h2 m3 => ?_)
      have q4 := ok.mono kx0 m3
      refine den_aload_n (pc := 30) d8_addBytes_30 rfl rfl ?_
      refine den_dup (pc := 31) d8_addBytes_31 rfl ?_
      refine den_getI (pc := 32) fa_8_48 q4 d8_addBytes_32 ?_
      refine den_iconst (pc := 35) d8_addBytes_35 ?_
      refine den_iadd (pc := 36) d8_addBytes_36 ?_
      refine den_putI (pc := 37) fp_8_48 q4 d8_addBytes_37 ?_
      refine den_ltH (fun h5 m6 => ?_)
      have q7 := ok.mono q4 m6
      refine den_iinc (pc := 40) (L2 := [some (vA G x0), some (vI x1), some (vI (x2 + (-8)))]) d8_addBytes_40 (by decide) rfl rfl ?_
      refine den_goto (pc := 43) (tgt := 3) d8_addBytes_43 (by decide) ?_
      exact H3 (x2 + (-8)) h5 q7
def l8_addBytes_3 (x0 : Nat) (x1 : Int) (x2 : Int) (h : AH) : Option (Int × AH) := fx (fun rec z => b8_addBytes_3 rec x0 x1 z.1 z.2) FU (x2, h)
set_option maxRecDepth 100000 in
theorem tl8_addBytes_3 (l : Launch) (G : Geo) (d : Nat) (hd : 2 ≤ d) (x0 : Nat) (x1 : Int) : ∀ (n : Nat) (z : Int × AH), ok z.2.1 x0 8 → Den l G m8_addBytes rvV d 3 [some (vA G x0), some (vI x1), some (vI z.1)] [] z.2 (fx (fun rec z => b8_addBytes_3 rec x0 x1 z.1 z.2) n z) :=
  den_fx (F := fun rec z => b8_addBytes_3 rec x0 x1 z.1 z.2) (P := fun z => ok z.2.1 x0 8) (fL := fun z => [some (vA G x0), some (vI x1), some (vI z.1)]) (fs := fun z => []) (fh := fun z => z.2) (fun rec hrec z hz => t8_addBytes_3 l G d hd x0 x1 z.1 rec (fun x2 h w0 => hrec (x2, h) w0) z.2 hz)
def f8_addBytes (x0 : Nat) (x1 : Int) (h : AH) : Option (Int × AH) :=
  l8_addBytes_3 x0 x1 24 h
set_option maxRecDepth 100000 in
theorem c8_addBytes (l : Launch) (G : Geo) (x0 : Nat) (x1 : Int) (h : AH) (kx0 : ok h.1 x0 8) : Con l G m8_addBytes rvV 2 [vA G x0, vI x1] h (f8_addBytes x0 x1 h) := by
  have hd : 2 ≤ 2 := Nat.le_refl _
  refine con_V rfl (by decide) rfl rfl (Nat.le_of_ble_eq_true rfl) (L := [some (vA G x0), some (vI x1), none]) ?_
  unfold f8_addBytes
  refine den_bipush (pc := 0) d8_addBytes_0 (by decide) ?_
  refine den_istore_n (pc := 2) (L2 := [some (vA G x0), some (vI x1), some (vI 24)]) d8_addBytes_2 rfl (by decide) rfl ?_
  exact tl8_addBytes_3 l G _ hd x0 x1 FU (24, h) kx0
theorem d8_isThere_0 : decode m8_isThere.2.1 0 = .ok (.iload_n 2, 1) := by decide +kernel
theorem d8_isThere_1 : decode m8_isThere.2.1 1 = .ok (.ifCond .lt 22, 3) := by decide +kernel
theorem d8_isThere_4 : decode m8_isThere.2.1 4 = .ok (.iload_n 2, 1) := by decide +kernel
theorem d8_isThere_5 : decode m8_isThere.2.1 5 = .ok (.aload_n 0, 1) := by decide +kernel
theorem d8_isThere_6 : decode m8_isThere.2.1 6 = .ok (.getfield 19, 3) := by decide +kernel
theorem d8_isThere_9 : decode m8_isThere.2.1 9 = .ok (.iload_n 1, 1) := by decide +kernel
theorem d8_isThere_10 : decode m8_isThere.2.1 10 = .ok (.iaload, 1) := by decide +kernel
theorem d8_isThere_11 : decode m8_isThere.2.1 11 = .ok (.if_icmp .ge 12, 3) := by decide +kernel
theorem d8_isThere_14 : decode m8_isThere.2.1 14 = .ok (.iload_n 2, 1) := by decide +kernel
theorem d8_isThere_15 : decode m8_isThere.2.1 15 = .ok (.iconst 2, 1) := by decide +kernel
theorem d8_isThere_16 : decode m8_isThere.2.1 16 = .ok (.if_icmp .ge 7, 3) := by decide +kernel
theorem d8_isThere_19 : decode m8_isThere.2.1 19 = .ok (.iconst 1, 1) := by decide +kernel
theorem d8_isThere_20 : decode m8_isThere.2.1 20 = .ok (.goto 4, 3) := by decide +kernel
theorem d8_isThere_23 : decode m8_isThere.2.1 23 = .ok (.iconst 0, 1) := by decide +kernel
theorem d8_isThere_24 : decode m8_isThere.2.1 24 = .ok (.ireturn, 1) := by decide +kernel
def f8_isThere (x0 : Nat) (x1 : Int) (x2 : Int) (h : AH) : Option (Int × AH) :=
  if w32 x2 < 0 then
    some (0, h)
  else
    asrt (0 ≤ w32 x1 ∧ w32 x1 < 3) <|
    if w32 (h.2 (x0 + 2) (w32 x1).toNat) ≤ w32 x2 then
      some (0, h)
    else
      if 2 ≤ w32 x2 then
        some (0, h)
      else
        some (1, h)
set_option maxRecDepth 100000 in
theorem c8_isThere (l : Launch) (G : Geo) (x0 : Nat) (x1 : Int) (x2 : Int) (h : AH) (kx0 : ok h.1 x0 8) : Con l G m8_isThere rvI 2 [vA G x0, vI x1, vI x2] h (f8_isThere x0 x1 x2 h) := by
  have hd : 2 ≤ 2 := Nat.le_refl _
  refine con_Z rfl (by decide) rfl rfl (Nat.le_of_ble_eq_true rfl) (L := [some (vA G x0), some (vI x1), some (vI x2)]) ?_
  unfold f8_isThere
  refine den_iload_n (pc := 0) d8_isThere_0 rfl rfl ?_
  refine den_if_lt (pc := 1) (tgt := 23) d8_isThere_1 (by decide) rfl (fun _ => ?_) (fun _ => ?_)
  · refine den_iconst (pc := 23) d8_isThere_23 ?_
    exact den_zret (pc := 24) rfl (by decide) d8_isThere_24
  · refine den_iload_n (pc := 4) d8_isThere_4 rfl rfl ?_
    refine den_aload_n (pc := 5) d8_isThere_5 rfl rfl ?_
    refine den_getR (pc := 6) (b := x0 + 2) fa_8_19 kx0 rfl d8_isThere_6 ?_
    refine den_iload_n (pc := 9) d8_isThere_9 rfl rfl ?_
    refine den_asrt (fun a1 => ?_)
    refine den_iaload (pc := 10) (tol_s2 kx0) (tol_l2 kx0) rfl a1 d8_isThere_10 ?_
    refine den_icmp_ge (pc := 11) (tgt := 23) d8_isThere_11 (by decide) rfl rfl (fun _ => ?_) (fun _ => ?_)
    · refine den_iconst (pc := 23) d8_isThere_23 ?_
      exact den_zret (pc := 24) rfl (by decide) d8_isThere_24
    · refine den_iload_n (pc := 14) d8_isThere_14 rfl rfl ?_
      refine den_iconst (pc := 15) d8_isThere_15 ?_
      refine den_icmp_ge (pc := 16) (tgt := 23) d8_isThere_16 (by decide) rfl (by decide) (fun _ => ?_) (fun _ => ?_)
      · refine den_iconst (pc := 23) d8_isThere_23 ?_
        exact den_zret (pc := 24) rfl (by decide) d8_isThere_24
      · refine den_iconst (pc := 19) d8_isThere_19 ?_
        refine den_goto (pc := 20) (tgt := 24) d8_isThere_20 (by decide) ?_
        exact den_zret (pc := 24) rfl (by decide) d8_isThere_24
theorem d8_villageAt_0 : decode m8_villageAt.2.1 0 = .ok (.aload_n 0, 1) := by decide +kernel
theorem d8_villageAt_1 : decode m8_villageAt.2.1 1 = .ok (.iconst 0, 1) := by decide +kernel
theorem d8_villageAt_2 : decode m8_villageAt.2.1 2 = .ok (.iload_n 1, 1) := by decide +kernel
theorem d8_villageAt_3 : decode m8_villageAt.2.1 3 = .ok (.invokevirtual 61, 3) := by decide +kernel
theorem d8_villageAt_6 : decode m8_villageAt.2.1 6 = .ok (.ifCond .eq 12, 3) := by decide +kernel
theorem d8_villageAt_9 : decode m8_villageAt.2.1 9 = .ok (.aload_n 0, 1) := by decide +kernel
theorem d8_villageAt_10 : decode m8_villageAt.2.1 10 = .ok (.getfield 25, 3) := by decide +kernel
theorem d8_villageAt_13 : decode m8_villageAt.2.1 13 = .ok (.iload_n 1, 1) := by decide +kernel
theorem d8_villageAt_14 : decode m8_villageAt.2.1 14 = .ok (.aaload, 1) := by decide +kernel
theorem d8_villageAt_15 : decode m8_villageAt.2.1 15 = .ok (.goto 4, 3) := by decide +kernel
theorem d8_villageAt_18 : decode m8_villageAt.2.1 18 = .ok (.aconst_null, 1) := by decide +kernel
theorem d8_villageAt_19 : decode m8_villageAt.2.1 19 = .ok (.areturn, 1) := by decide +kernel
def f8_villageAt (x0 : Nat) (x1 : Int) (h : AH) : Option (Int × AH) :=
  bnd (f8_isThere x0 0 x1 h) fun r1 h2 =>
  if w32 r1 = 0 then
    some ((-1), h2)
  else
    asrt (0 ≤ w32 x1 ∧ w32 x1 < 2) <|
    some ((((x0 + 3) + 3 + 10 * (w32 x1).toNat : Nat) : Int), h2)
set_option maxRecDepth 100000 in
theorem c8_villageAt (l : Launch) (G : Geo) (x0 : Nat) (x1 : Int) (h : AH) (kx0 : ok h.1 x0 8) : Con l G m8_villageAt (rvR G) 3 [vA G x0, vI x1] h (f8_villageAt x0 x1 h) := by
  have hd : 3 ≤ 3 := Nat.le_refl _
  refine con_R rfl (by decide) rfl rfl (Nat.le_of_ble_eq_true rfl) (L := [some (vA G x0), some (vI x1)]) ?_
  unfold f8_villageAt
  refine den_aload_n (pc := 0) d8_villageAt_0 rfl rfl ?_
  refine den_iconst (pc := 1) d8_villageAt_1 ?_
  refine den_iload_n (pc := 2) d8_villageAt_2 rfl rfl ?_
  refine den_callVI (pc := 3) (As := [vI 0, vI x1]) fv_8_61 rfl rfl kx0 (Nat.le_of_ble_eq_true rfl) (Nat.le_trans (by decide) hd) d8_villageAt_3 (c8_isThere l G x0 0 x1 h kx0) (fun r1 h2 m3 o4 => ?_)
  have q5 := ok.mono kx0 m3
  refine den_if_eq (pc := 6) (tgt := 18) d8_villageAt_6 (by decide) rfl (fun _ => ?_) (fun _ => ?_)
  · refine den_null (pc := 18) d8_villageAt_18 ?_
    exact den_aret (pc := 19) rfl (Or.inl (by decide)) d8_villageAt_19
  · refine den_aload_n (pc := 9) d8_villageAt_9 rfl rfl ?_
    refine den_getR (pc := 10) (b := x0 + 3) fa_8_25 q5 rfl d8_villageAt_10 ?_
    refine den_iload_n (pc := 13) d8_villageAt_13 rfl rfl ?_
    refine den_asrt (fun a6 => ?_)
    refine den_aaload4 (pc := 14) (tol_s3 q5) (tol_l3 q5) rfl a6 d8_villageAt_14 ?_
    have q7 := ok_e4 (tol_s3 q5) (tol_l3 q5) a6
    refine den_goto (pc := 15) (tgt := 19) d8_villageAt_15 (by decide) ?_
    exact den_aretAV (pc := 19) rfl q7 d8_villageAt_19
theorem d8_dayAt_0 : decode m8_dayAt.2.1 0 = .ok (.aload_n 0, 1) := by decide +kernel
theorem d8_dayAt_1 : decode m8_dayAt.2.1 1 = .ok (.iconst 1, 1) := by decide +kernel
theorem d8_dayAt_2 : decode m8_dayAt.2.1 2 = .ok (.iload_n 1, 1) := by decide +kernel
theorem d8_dayAt_3 : decode m8_dayAt.2.1 3 = .ok (.invokevirtual 61, 3) := by decide +kernel
theorem d8_dayAt_6 : decode m8_dayAt.2.1 6 = .ok (.ifCond .eq 12, 3) := by decide +kernel
theorem d8_dayAt_9 : decode m8_dayAt.2.1 9 = .ok (.aload_n 0, 1) := by decide +kernel
theorem d8_dayAt_10 : decode m8_dayAt.2.1 10 = .ok (.getfield 31, 3) := by decide +kernel
theorem d8_dayAt_13 : decode m8_dayAt.2.1 13 = .ok (.iload_n 1, 1) := by decide +kernel
theorem d8_dayAt_14 : decode m8_dayAt.2.1 14 = .ok (.aaload, 1) := by decide +kernel
theorem d8_dayAt_15 : decode m8_dayAt.2.1 15 = .ok (.goto 4, 3) := by decide +kernel
theorem d8_dayAt_18 : decode m8_dayAt.2.1 18 = .ok (.aconst_null, 1) := by decide +kernel
theorem d8_dayAt_19 : decode m8_dayAt.2.1 19 = .ok (.areturn, 1) := by decide +kernel
def f8_dayAt (x0 : Nat) (x1 : Int) (h : AH) : Option (Int × AH) :=
  bnd (f8_isThere x0 1 x1 h) fun r1 h2 =>
  if w32 r1 = 0 then
    some ((-1), h2)
  else
    asrt (0 ≤ w32 x1 ∧ w32 x1 < 2) <|
    some ((((x0 + 4) + 8 + 10 * (w32 x1).toNat : Nat) : Int), h2)
set_option maxRecDepth 100000 in
theorem c8_dayAt (l : Launch) (G : Geo) (x0 : Nat) (x1 : Int) (h : AH) (kx0 : ok h.1 x0 8) : Con l G m8_dayAt (rvR G) 3 [vA G x0, vI x1] h (f8_dayAt x0 x1 h) := by
  have hd : 3 ≤ 3 := Nat.le_refl _
  refine con_R rfl (by decide) rfl rfl (Nat.le_of_ble_eq_true rfl) (L := [some (vA G x0), some (vI x1)]) ?_
  unfold f8_dayAt
  refine den_aload_n (pc := 0) d8_dayAt_0 rfl rfl ?_
  refine den_iconst (pc := 1) d8_dayAt_1 ?_
  refine den_iload_n (pc := 2) d8_dayAt_2 rfl rfl ?_
  refine den_callVI (pc := 3) (As := [vI 1, vI x1]) fv_8_61 rfl rfl kx0 (Nat.le_of_ble_eq_true rfl) (Nat.le_trans (by decide) hd) d8_dayAt_3 (c8_isThere l G x0 1 x1 h kx0) (fun r1 h2 m3 o4 => ?_)
  have q5 := ok.mono kx0 m3
  refine den_if_eq (pc := 6) (tgt := 18) d8_dayAt_6 (by decide) rfl (fun _ => ?_) (fun _ => ?_)
  · refine den_null (pc := 18) d8_dayAt_18 ?_
    exact den_aret (pc := 19) rfl (Or.inl (by decide)) d8_dayAt_19
  · refine den_aload_n (pc := 9) d8_dayAt_9 rfl rfl ?_
    refine den_getR (pc := 10) (b := x0 + 4) fa_8_31 q5 rfl d8_dayAt_10 ?_
    refine den_iload_n (pc := 13) d8_dayAt_13 rfl rfl ?_
    refine den_asrt (fun a6 => ?_)
    refine den_aaload5 (pc := 14) (tol_s4 q5) (tol_l4 q5) rfl a6 d8_dayAt_14 ?_
    have q7 := ok_e5 (tol_s4 q5) (tol_l4 q5) a6
    refine den_goto (pc := 15) (tgt := 19) d8_dayAt_15 (by decide) ?_
    exact den_aretAW (pc := 19) rfl q7 d8_dayAt_19
theorem d8_logAt_0 : decode m8_logAt.2.1 0 = .ok (.aload_n 0, 1) := by decide +kernel
theorem d8_logAt_1 : decode m8_logAt.2.1 1 = .ok (.iconst 2, 1) := by decide +kernel
theorem d8_logAt_2 : decode m8_logAt.2.1 2 = .ok (.iload_n 1, 1) := by decide +kernel
theorem d8_logAt_3 : decode m8_logAt.2.1 3 = .ok (.invokevirtual 61, 3) := by decide +kernel
theorem d8_logAt_6 : decode m8_logAt.2.1 6 = .ok (.ifCond .eq 12, 3) := by decide +kernel
theorem d8_logAt_9 : decode m8_logAt.2.1 9 = .ok (.aload_n 0, 1) := by decide +kernel
theorem d8_logAt_10 : decode m8_logAt.2.1 10 = .ok (.getfield 35, 3) := by decide +kernel
theorem d8_logAt_13 : decode m8_logAt.2.1 13 = .ok (.iload_n 1, 1) := by decide +kernel
theorem d8_logAt_14 : decode m8_logAt.2.1 14 = .ok (.aaload, 1) := by decide +kernel
theorem d8_logAt_15 : decode m8_logAt.2.1 15 = .ok (.goto 4, 3) := by decide +kernel
theorem d8_logAt_18 : decode m8_logAt.2.1 18 = .ok (.aconst_null, 1) := by decide +kernel
theorem d8_logAt_19 : decode m8_logAt.2.1 19 = .ok (.areturn, 1) := by decide +kernel
def f8_logAt (x0 : Nat) (x1 : Int) (h : AH) : Option (Int × AH) :=
  bnd (f8_isThere x0 2 x1 h) fun r1 h2 =>
  if w32 r1 = 0 then
    some ((-1), h2)
  else
    asrt (0 ≤ w32 x1 ∧ w32 x1 < 2) <|
    some ((((x0 + 5) + 9 + 10 * (w32 x1).toNat : Nat) : Int), h2)
set_option maxRecDepth 100000 in
theorem c8_logAt (l : Launch) (G : Geo) (x0 : Nat) (x1 : Int) (h : AH) (kx0 : ok h.1 x0 8) : Con l G m8_logAt (rvR G) 3 [vA G x0, vI x1] h (f8_logAt x0 x1 h) := by
  have hd : 3 ≤ 3 := Nat.le_refl _
  refine con_R rfl (by decide) rfl rfl (Nat.le_of_ble_eq_true rfl) (L := [some (vA G x0), some (vI x1)]) ?_
  unfold f8_logAt
  refine den_aload_n (pc := 0) d8_logAt_0 rfl rfl ?_
  refine den_iconst (pc := 1) d8_logAt_1 ?_
  refine den_iload_n (pc := 2) d8_logAt_2 rfl rfl ?_
  refine den_callVI (pc := 3) (As := [vI 2, vI x1]) fv_8_61 rfl rfl kx0 (Nat.le_of_ble_eq_true rfl) (Nat.le_trans (by decide) hd) d8_logAt_3 (c8_isThere l G x0 2 x1 h kx0) (fun r1 h2 m3 o4 => ?_)
  have q5 := ok.mono kx0 m3
  refine den_if_eq (pc := 6) (tgt := 18) d8_logAt_6 (by decide) rfl (fun _ => ?_) (fun _ => ?_)
  · refine den_null (pc := 18) d8_logAt_18 ?_
    exact den_aret (pc := 19) rfl (Or.inl (by decide)) d8_logAt_19
  · refine den_aload_n (pc := 9) d8_logAt_9 rfl rfl ?_
    refine den_getR (pc := 10) (b := x0 + 5) fa_8_35 q5 rfl d8_logAt_10 ?_
    refine den_iload_n (pc := 13) d8_logAt_13 rfl rfl ?_
    refine den_asrt (fun a6 => ?_)
    refine den_aaload6 (pc := 14) (tol_s5 q5) (tol_l5 q5) rfl a6 d8_logAt_14 ?_
    have q7 := ok_e6 (tol_s5 q5) (tol_l5 q5) a6
    refine den_goto (pc := 15) (tgt := 19) d8_logAt_15 (by decide) ?_
    exact den_aretAW (pc := 19) rfl q7 d8_logAt_19
theorem d8_placeFor_0 : decode m8_placeFor.2.1 0 = .ok (.iload_n 1, 1) := by decide +kernel
theorem d8_placeFor_1 : decode m8_placeFor.2.1 1 = .ok (.ifCond .lt 8, 3) := by decide +kernel
theorem d8_placeFor_4 : decode m8_placeFor.2.1 4 = .ok (.iload_n 1, 1) := by decide +kernel
theorem d8_placeFor_5 : decode m8_placeFor.2.1 5 = .ok (.iconst 3, 1) := by decide +kernel
theorem d8_placeFor_6 : decode m8_placeFor.2.1 6 = .ok (.if_icmp .lt 5, 3) := by decide +kernel
theorem d8_placeFor_9 : decode m8_placeFor.2.1 9 = .ok (.iconst (-1), 1) := by decide +kernel
theorem d8_placeFor_10 : decode m8_placeFor.2.1 10 = .ok (.ireturn, 1) := by decide +kernel
theorem d8_placeFor_11 : decode m8_placeFor.2.1 11 = .ok (.iload_n 2, 1) := by decide +kernel
theorem d8_placeFor_12 : decode m8_placeFor.2.1 12 = .ok (.iconst (-1), 1) := by decide +kernel
theorem d8_placeFor_13 : decode m8_placeFor.2.1 13 = .ok (.if_icmp .ne 24, 3) := by decide +kernel
theorem d8_placeFor_16 : decode m8_placeFor.2.1 16 = .ok (.aload_n 0, 1) := by decide +kernel
theorem d8_placeFor_17 : decode m8_placeFor.2.1 17 = .ok (.getfield 19, 3) := by decide +kernel
theorem d8_placeFor_20 : decode m8_placeFor.2.1 20 = .ok (.iload_n 1, 1) := by decide +kernel
theorem d8_placeFor_21 : decode m8_placeFor.2.1 21 = .ok (.iaload, 1) := by decide +kernel
theorem d8_placeFor_22 : decode m8_placeFor.2.1 22 = .ok (.iconst 2, 1) := by decide +kernel
theorem d8_placeFor_23 : decode m8_placeFor.2.1 23 = .ok (.if_icmp .ge 12, 3) := by decide +kernel
theorem d8_placeFor_26 : decode m8_placeFor.2.1 26 = .ok (.aload_n 0, 1) := by decide +kernel
theorem d8_placeFor_27 : decode m8_placeFor.2.1 27 = .ok (.getfield 19, 3) := by decide +kernel
theorem d8_placeFor_30 : decode m8_placeFor.2.1 30 = .ok (.iload_n 1, 1) := by decide +kernel
theorem d8_placeFor_31 : decode m8_placeFor.2.1 31 = .ok (.iaload, 1) := by decide +kernel
theorem d8_placeFor_32 : decode m8_placeFor.2.1 32 = .ok (.goto 4, 3) := by decide +kernel
theorem d8_placeFor_35 : decode m8_placeFor.2.1 35 = .ok (.iconst (-1), 1) := by decide +kernel
theorem d8_placeFor_36 : decode m8_placeFor.2.1 36 = .ok (.ireturn, 1) := by decide +kernel
theorem d8_placeFor_37 : decode m8_placeFor.2.1 37 = .ok (.aload_n 0, 1) := by decide +kernel
theorem d8_placeFor_38 : decode m8_placeFor.2.1 38 = .ok (.iload_n 1, 1) := by decide +kernel
theorem d8_placeFor_39 : decode m8_placeFor.2.1 39 = .ok (.iload_n 2, 1) := by decide +kernel
theorem d8_placeFor_40 : decode m8_placeFor.2.1 40 = .ok (.invokevirtual 61, 3) := by decide +kernel
theorem d8_placeFor_43 : decode m8_placeFor.2.1 43 = .ok (.ifCond .eq 7, 3) := by decide +kernel
theorem d8_placeFor_46 : decode m8_placeFor.2.1 46 = .ok (.iload_n 2, 1) := by decide +kernel
theorem d8_placeFor_47 : decode m8_placeFor.2.1 47 = .ok (.goto 4, 3) := by decide +kernel
theorem d8_placeFor_50 : decode m8_placeFor.2.1 50 = .ok (.iconst (-1), 1) := by decide +kernel
theorem d8_placeFor_51 : decode m8_placeFor.2.1 51 = .ok (.ireturn, 1) := by decide +kernel
def f8_placeFor (x0 : Nat) (x1 : Int) (x2 : Int) (h : AH) : Option (Int × AH) :=
  if w32 x1 < 0 then
    some ((-1), h)
  else
    if w32 x1 < 3 then
      if ¬ w32 x2 = (-1) then
        bnd (f8_isThere x0 x1 x2 h) fun r1 h2 =>
        if w32 r1 = 0 then
          some ((-1), h2)
        else
          some (x2, h2)
      else
        asrt (0 ≤ w32 x1 ∧ w32 x1 < 3) <|
        if 2 ≤ w32 (h.2 (x0 + 2) (w32 x1).toNat) then
          some ((-1), h)
        else
          asrt (0 ≤ w32 x1 ∧ w32 x1 < 3) <|
          some (h.2 (x0 + 2) (w32 x1).toNat, h)
    else
      some ((-1), h)
set_option maxRecDepth 100000 in
theorem c8_placeFor (l : Launch) (G : Geo) (x0 : Nat) (x1 : Int) (x2 : Int) (h : AH) (kx0 : ok h.1 x0 8) : Con l G m8_placeFor rvI 3 [vA G x0, vI x1, vI x2] h (f8_placeFor x0 x1 x2 h) := by
  have hd : 3 ≤ 3 := Nat.le_refl _
  refine con_I rfl (by decide) rfl rfl (Nat.le_of_ble_eq_true rfl) (L := [some (vA G x0), some (vI x1), some (vI x2)]) ?_
  unfold f8_placeFor
  refine den_iload_n (pc := 0) d8_placeFor_0 rfl rfl ?_
  refine den_if_lt (pc := 1) (tgt := 9) d8_placeFor_1 (by decide) rfl (fun _ => ?_) (fun _ => ?_)
  · refine den_iconst (pc := 9) d8_placeFor_9 ?_
    exact den_iret (pc := 10) rfl d8_placeFor_10
  · refine den_iload_n (pc := 4) d8_placeFor_4 rfl rfl ?_
    refine den_iconst (pc := 5) d8_placeFor_5 ?_
    refine den_icmp_lt (pc := 6) (tgt := 11) d8_placeFor_6 (by decide) rfl (by decide) (fun _ => ?_) (fun _ => ?_)
    · refine den_iload_n (pc := 11) d8_placeFor_11 rfl rfl ?_
      refine den_iconst (pc := 12) d8_placeFor_12 ?_
      refine den_icmp_ne (pc := 13) (tgt := 37) d8_placeFor_13 (by decide) rfl (by decide) (fun _ => ?_) (fun _ => ?_)
      · refine den_aload_n (pc := 37) d8_placeFor_37 rfl rfl ?_
        refine den_iload_n (pc := 38) d8_placeFor_38 rfl rfl ?_
        refine den_iload_n (pc := 39) d8_placeFor_39 rfl rfl ?_
        refine den_callVI (pc := 40) (As := [vI x1, vI x2]) fv_8_61 rfl rfl kx0 (Nat.le_of_ble_eq_true rfl) (Nat.le_trans (by decide) hd) d8_placeFor_40 (c8_isThere l G x0 x1 x2 h kx0) (fun r1 h2 m3 o4 => ?_)
        have q5 := ok.mono kx0 m3
        refine den_if_eq (pc := 43) (tgt := 50) d8_placeFor_43 (by decide) rfl (fun _ => ?_) (fun _ => ?_)
        · refine den_iconst (pc := 50) d8_placeFor_50 ?_
          exact den_iret (pc := 51) rfl d8_placeFor_51
        · refine den_iload_n (pc := 46) d8_placeFor_46 rfl rfl ?_
          refine den_goto (pc := 47) (tgt := 51) d8_placeFor_47 (by decide) ?_
          exact den_iret (pc := 51) rfl d8_placeFor_51
      · refine den_aload_n (pc := 16) d8_placeFor_16 rfl rfl ?_
        refine den_getR (pc := 17) (b := x0 + 2) fa_8_19 kx0 rfl d8_placeFor_17 ?_
        refine den_iload_n (pc := 20) d8_placeFor_20 rfl rfl ?_
        refine den_asrt (fun a6 => ?_)
        refine den_iaload (pc := 21) (tol_s2 kx0) (tol_l2 kx0) rfl a6 d8_placeFor_21 ?_
        refine den_iconst (pc := 22) d8_placeFor_22 ?_
        refine den_icmp_ge (pc := 23) (tgt := 35) d8_placeFor_23 (by decide) rfl (by decide) (fun _ => ?_) (fun _ => ?_)
        · refine den_iconst (pc := 35) d8_placeFor_35 ?_
          exact den_iret (pc := 36) rfl d8_placeFor_36
        · refine den_aload_n (pc := 26) d8_placeFor_26 rfl rfl ?_
          refine den_getR (pc := 27) (b := x0 + 2) fa_8_19 kx0 rfl d8_placeFor_27 ?_
          refine den_iload_n (pc := 30) d8_placeFor_30 rfl rfl ?_
          refine den_asrt (fun a7 => ?_)
          refine den_iaload (pc := 31) (tol_s2 kx0) (tol_l2 kx0) rfl a7 d8_placeFor_31 ?_
          refine den_goto (pc := 32) (tgt := 36) d8_placeFor_32 (by decide) ?_
          exact den_iret (pc := 36) rfl d8_placeFor_36
    · refine den_iconst (pc := 9) d8_placeFor_9 ?_
      exact den_iret (pc := 10) rfl d8_placeFor_10
