/-! 10_end 10_text 10_fault 10_village 10_apart 10_deed 10_stop 10_state 10_keenest 10_lasts 10_together 10_plan 10_married 10_lowest 10_hopes 10_fact 10_fits -/
theorem d10_end_0 : decode m10_end.2.1 0 = .ok (.iload_n 1, 1) := by decide +kernel
theorem d10_end_1 : decode m10_end.2.1 1 = .ok (.ifCond .lt 14, 3) := by decide +kernel
theorem d10_end_4 : decode m10_end.2.1 4 = .ok (.iload_n 1, 1) := by decide +kernel
theorem d10_end_5 : decode m10_end.2.1 5 = .ok (.aload_n 0, 1) := by decide +kernel
theorem d10_end_6 : decode m10_end.2.1 6 = .ok (.getfield 10, 3) := by decide +kernel
theorem d10_end_9 : decode m10_end.2.1 9 = .ok (.getfield 69, 3) := by decide +kernel
theorem d10_end_12 : decode m10_end.2.1 12 = .ok (.if_icmp .le 5, 3) := by decide +kernel
theorem d10_end_15 : decode m10_end.2.1 15 = .ok (.iconst (-1), 1) := by decide +kernel
theorem d10_end_16 : decode m10_end.2.1 16 = .ok (.ireturn, 1) := by decide +kernel
theorem d10_end_17 : decode m10_end.2.1 17 = .ok (.aload_n 0, 1) := by decide +kernel
theorem d10_end_18 : decode m10_end.2.1 18 = .ok (.getfield 10, 3) := by decide +kernel
theorem d10_end_21 : decode m10_end.2.1 21 = .ok (.iload_n 1, 1) := by decide +kernel
theorem d10_end_22 : decode m10_end.2.1 22 = .ok (.putfield 69, 3) := by decide +kernel
theorem d10_end_25 : decode m10_end.2.1 25 = .ok (.iload_n 1, 1) := by decide +kernel
theorem d10_end_26 : decode m10_end.2.1 26 = .ok (.ireturn, 1) := by decide +kernel
def f10_end (x1 : Int) (h : AH) : Option (Int × AH) :=
  if w32 x1 < 0 then
    some ((-1), h)
  else
    if w32 x1 ≤ w32 (h.2 1 1) then
      lt (wr h 1 1 x1) fun h1 =>
      some (x1, h1)
    else
      some ((-1), h)
set_option maxRecDepth 100000 in
theorem c10_end (l : Launch) (G : Geo) (x1 : Int) (h : AH) : Con l G m10_end rvI 2 [vA G 0, vI x1] h (f10_end x1 h) := by
  have hd : 2 ≤ 2 := Nat.le_refl _
  refine con_I rfl (by decide) rfl rfl (Nat.le_of_ble_eq_true rfl) (L := [some (vA G 0), some (vI x1)]) ?_
  unfold f10_end
  refine den_iload_n (pc := 0) d10_end_0 rfl rfl ?_
  refine den_if_lt (pc := 1) (tgt := 15) d10_end_1 (by decide) rfl (fun _ => ?_) (fun _ => ?_)
  · refine den_iconst (pc := 15) d10_end_15 ?_
    exact den_iret (pc := 16) rfl d10_end_16
  · refine den_iload_n (pc := 4) d10_end_4 rfl rfl ?_
    refine den_aload_n (pc := 5) d10_end_5 rfl rfl ?_
    refine den_getR (pc := 6) (b := 1) fa_10_10 (ok_0 _) rfl d10_end_6 ?_
    refine den_getI (pc := 9) fa_10_69 (ok_1 _) d10_end_9 ?_
    refine den_icmp_le (pc := 12) (tgt := 17) d10_end_12 (by decide) rfl rfl (fun _ => ?_) (fun _ => ?_)
    · refine den_aload_n (pc := 17) d10_end_17 rfl rfl ?_
      refine den_getR (pc := 18) (b := 1) fa_10_10 (ok_0 _) rfl d10_end_18 ?_
      refine den_iload_n (pc := 21) d10_end_21 rfl rfl ?_
      refine den_putI (pc := 22) fp_10_69 (ok_1 _) d10_end_22 ?_
      refine den_ltH (fun h1 m2 => ?_)
      refine den_iload_n (pc := 25) d10_end_25 rfl rfl ?_
      exact den_iret (pc := 26) rfl d10_end_26
    · refine den_iconst (pc := 15) d10_end_15 ?_
      exact den_iret (pc := 16) rfl d10_end_16
theorem d10_text_0 : decode m10_text.2.1 0 = .ok (.aload_n 0, 1) := by decide +kernel
theorem d10_text_1 : decode m10_text.2.1 1 = .ok (.getfield 10, 3) := by decide +kernel
theorem d10_text_4 : decode m10_text.2.1 4 = .ok (.getfield 69, 3) := by decide +kernel
theorem d10_text_7 : decode m10_text.2.1 7 = .ok (.istore_n 3, 1) := by decide +kernel
theorem d10_text_8 : decode m10_text.2.1 8 = .ok (.aload_n 0, 1) := by decide +kernel
theorem d10_text_9 : decode m10_text.2.1 9 = .ok (.getfield 10, 3) := by decide +kernel
theorem d10_text_12 : decode m10_text.2.1 12 = .ok (.iconst 0, 1) := by decide +kernel
theorem d10_text_13 : decode m10_text.2.1 13 = .ok (.putfield 69, 3) := by decide +kernel
theorem d10_text_16 : decode m10_text.2.1 16 = .ok (.aload_n 0, 1) := by decide +kernel
theorem d10_text_17 : decode m10_text.2.1 17 = .ok (.getfield 10, 3) := by decide +kernel
theorem d10_text_20 : decode m10_text.2.1 20 = .ok (.iconst 0, 1) := by decide +kernel
theorem d10_text_21 : decode m10_text.2.1 21 = .ok (.putfield 77, 3) := by decide +kernel
theorem d10_text_24 : decode m10_text.2.1 24 = .ok (.aload_n 0, 1) := by decide +kernel
theorem d10_text_25 : decode m10_text.2.1 25 = .ok (.getfield 10, 3) := by decide +kernel
theorem d10_text_28 : decode m10_text.2.1 28 = .ok (.iconst (-1), 1) := by decide +kernel
theorem d10_text_29 : decode m10_text.2.1 29 = .ok (.putfield 80, 3) := by decide +kernel
theorem d10_text_32 : decode m10_text.2.1 32 = .ok (.aload_n 0, 1) := by decide +kernel
theorem d10_text_33 : decode m10_text.2.1 33 = .ok (.getfield 10, 3) := by decide +kernel
theorem d10_text_36 : decode m10_text.2.1 36 = .ok (.iload_n 1, 1) := by decide +kernel
theorem d10_text_37 : decode m10_text.2.1 37 = .ok (.iload_n 2, 1) := by decide +kernel
theorem d10_text_38 : decode m10_text.2.1 38 = .ok (.invokevirtual 83, 3) := by decide +kernel
theorem d10_text_41 : decode m10_text.2.1 41 = .ok (.istore 4, 2) := by decide +kernel
theorem d10_text_43 : decode m10_text.2.1 43 = .ok (.iload 4, 2) := by decide +kernel
theorem d10_text_45 : decode m10_text.2.1 45 = .ok (.iconst (-1), 1) := by decide +kernel
theorem d10_text_46 : decode m10_text.2.1 46 = .ok (.if_icmp .ne 6, 3) := by decide +kernel
theorem d10_text_49 : decode m10_text.2.1 49 = .ok (.bipush (-2), 2) := by decide +kernel
theorem d10_text_51 : decode m10_text.2.1 51 = .ok (.ireturn, 1) := by decide +kernel
theorem d10_text_52 : decode m10_text.2.1 52 = .ok (.aload_n 0, 1) := by decide +kernel
theorem d10_text_53 : decode m10_text.2.1 53 = .ok (.getfield 23, 3) := by decide +kernel
theorem d10_text_56 : decode m10_text.2.1 56 = .ok (.iload_n 1, 1) := by decide +kernel
theorem d10_text_57 : decode m10_text.2.1 57 = .ok (.aload_n 0, 1) := by decide +kernel
theorem d10_text_58 : decode m10_text.2.1 58 = .ok (.getfield 10, 3) := by decide +kernel
theorem d10_text_61 : decode m10_text.2.1 61 = .ok (.getfield 87, 3) := by decide +kernel
theorem d10_text_64 : decode m10_text.2.1 64 = .ok (.iload_n 3, 1) := by decide +kernel
theorem d10_text_65 : decode m10_text.2.1 65 = .ok (.invokevirtual 91, 3) := by decide +kernel
theorem d10_text_68 : decode m10_text.2.1 68 = .ok (.aload_n 0, 1) := by decide +kernel
theorem d10_text_69 : decode m10_text.2.1 69 = .ok (.getfield 23, 3) := by decide +kernel
theorem d10_text_72 : decode m10_text.2.1 72 = .ok (.getfield 95, 3) := by decide +kernel
theorem d10_text_75 : decode m10_text.2.1 75 = .ok (.ifCond .eq 33, 3) := by decide +kernel
theorem d10_text_78 : decode m10_text.2.1 78 = .ok (.aload_n 0, 1) := by decide +kernel
theorem d10_text_79 : decode m10_text.2.1 79 = .ok (.getfield 10, 3) := by decide +kernel
theorem d10_text_82 : decode m10_text.2.1 82 = .ok (.aload_n 0, 1) := by decide +kernel
theorem d10_text_83 : decode m10_text.2.1 83 = .ok (.getfield 23, 3) := by decide +kernel
theorem d10_text_86 : decode m10_text.2.1 86 = .ok (.getfield 95, 3) := by decide +kernel
theorem d10_text_89 : decode m10_text.2.1 89 = .ok (.putfield 77, 3) := by decide +kernel
theorem d10_text_92 : decode m10_text.2.1 92 = .ok (.aload_n 0, 1) := by decide +kernel
theorem d10_text_93 : decode m10_text.2.1 93 = .ok (.getfield 10, 3) := by decide +kernel
theorem d10_text_96 : decode m10_text.2.1 96 = .ok (.aload_n 0, 1) := by decide +kernel
theorem d10_text_97 : decode m10_text.2.1 97 = .ok (.getfield 23, 3) := by decide +kernel
theorem d10_text_100 : decode m10_text.2.1 100 = .ok (.getfield 96, 3) := by decide +kernel
theorem d10_text_103 : decode m10_text.2.1 103 = .ok (.putfield 80, 3) := by decide +kernel
theorem d10_text_106 : decode m10_text.2.1 106 = .ok (.iconst (-1), 1) := by decide +kernel
theorem d10_text_107 : decode m10_text.2.1 107 = .ok (.ireturn, 1) := by decide +kernel
theorem d10_text_108 : decode m10_text.2.1 108 = .ok (.aload_n 0, 1) := by decide +kernel
theorem d10_text_109 : decode m10_text.2.1 109 = .ok (.getfield 10, 3) := by decide +kernel
theorem d10_text_112 : decode m10_text.2.1 112 = .ok (.iload_n 1, 1) := by decide +kernel
theorem d10_text_113 : decode m10_text.2.1 113 = .ok (.iload 4, 2) := by decide +kernel
theorem d10_text_115 : decode m10_text.2.1 115 = .ok (.aload_n 0, 1) := by decide +kernel
theorem d10_text_116 : decode m10_text.2.1 116 = .ok (.getfield 23, 3) := by decide +kernel
theorem d10_text_119 : decode m10_text.2.1 119 = .ok (.invokevirtual 97, 3) := by decide +kernel
theorem d10_text_122 : decode m10_text.2.1 122 = .ok (.iload 4, 2) := by decide +kernel
theorem d10_text_124 : decode m10_text.2.1 124 = .ok (.ireturn, 1) := by decide +kernel
def f10_text (x1 : Int) (x2 : Int) (h : AH) : Option (Int × AH) :=
  lt (h.2 1 1) fun u1 =>
  lt (wr h 1 1 0) fun h2 =>
  lt (wr h2 1 2 0) fun h4 =>
  lt (wr h4 1 3 (-1)) fun h6 =>
  bnd (f8_placeFor 1 x1 x2 h6) fun r8 h9 =>
  if ¬ w32 r8 = (-1) then
    bnd (f5_readText x1 2 u1 h9) fun r12 h13 =>
    if w32 (h13.2 28 3) = 0 then
      bnd (f8_put 1 x1 r8 h13) fun r16 h17 =>
      some (r8, h17)
    else
      lt (wr h13 1 2 (h13.2 28 3)) fun h20 =>
      lt (wr h20 1 3 (h20.2 28 4)) fun h22 =>
      some ((-1), h22)
  else
    some ((-2), h9)
set_option maxRecDepth 100000 in
theorem c10_text (l : Launch) (G : Geo) (x1 : Int) (x2 : Int) (h : AH) : Con l G m10_text rvI 14 [vA G 0, vI x1, vI x2] h (f10_text x1 x2 h) := by
  have hd : 14 ≤ 14 := Nat.le_refl _
  refine con_I rfl (by decide) rfl rfl (Nat.le_of_ble_eq_true rfl) (L := [some (vA G 0), some (vI x1), some (vI x2), none, none]) ?_
  unfold f10_text
  refine den_aload_n (pc := 0) d10_text_0 rfl rfl ?_
  refine den_getR (pc := 1) (b := 1) fa_10_10 (ok_0 _) rfl d10_text_1 ?_
  refine den_getI (pc := 4) fa_10_69 (ok_1 _) d10_text_4 ?_
  refine den_istore_nL (pc := 7) (L2 := fun y => [some (vA G 0), some (vI x1), some (vI x2), some (vI y), none]) d10_text_7 rfl (by decide) (fun _ => rfl) (fun u1 => ?_)
  refine den_aload_n (pc := 8) d10_text_8 rfl rfl ?_
  refine den_getR (pc := 9) (b := 1) fa_10_10 (ok_0 _) rfl d10_text_9 ?_
  refine den_iconst (pc := 12) d10_text_12 ?_
  refine den_putI (pc := 13) fp_10_69 (ok_1 _) d10_text_13 ?_
  refine den_ltH (fun h2 m3 => ?_)
  refine den_aload_n (pc := 16) d10_text_16 rfl rfl ?_
  refine den_getR (pc := 17) (b := 1) fa_10_10 (ok_0 _) rfl d10_text_17 ?_
  refine den_iconst (pc := 20) d10_text_20 ?_
  refine den_putI (pc := 21) fp_10_77 (ok_1 _) d10_text_21 ?_
  refine den_ltH (fun h4 m5 => ?_)
  refine den_aload_n (pc := 24) d10_text_24 rfl rfl ?_
  refine den_getR (pc := 25) (b := 1) fa_10_10 (ok_0 _) rfl d10_text_25 ?_
  refine den_iconst (pc := 28) d10_text_28 ?_
  refine den_putI (pc := 29) fp_10_80 (ok_1 _) d10_text_29 ?_
  refine den_ltH (fun h6 m7 => ?_)
  refine den_aload_n (pc := 32) d10_text_32 rfl rfl ?_
  refine den_getR (pc := 33) (b := 1) fa_10_10 (ok_0 _) rfl d10_text_33 ?_
  refine den_iload_n (pc := 36) d10_text_36 rfl rfl ?_
  refine den_iload_n (pc := 37) d10_text_37 rfl rfl ?_
  refine den_callVI (pc := 38) (As := [vI x1, vI x2]) fv_10_83 rfl rfl (ok_1 _) (Nat.le_of_ble_eq_true rfl) (Nat.le_trans (by decide) hd) d10_text_38 (c8_placeFor l G 1 x1 x2 h6 (ok_1 _)) (fun r8 h9 m10 o11 => ?_)
  refine den_istore (pc := 41) (L2 := [some (vA G 0), some (vI x1), some (vI x2), some (vI u1), some (vI r8)]) d10_text_41 (by decide) rfl ?_
  refine den_iload (pc := 43) d10_text_43 rfl ?_
  refine den_iconst (pc := 45) d10_text_45 ?_
  refine den_icmp_ne (pc := 46) (tgt := 52) d10_text_46 (by decide) rfl (by decide) (fun _ => ?_) (fun _ => ?_)
  · refine den_aload_n (pc := 52) d10_text_52 rfl rfl ?_
    refine den_getR (pc := 53) (b := 28) fa_10_23 (ok_0 _) rfl d10_text_53 ?_
    refine den_iload_n (pc := 56) d10_text_56 rfl rfl ?_
    refine den_aload_n (pc := 57) d10_text_57 rfl rfl ?_
    refine den_getR (pc := 58) (b := 1) fa_10_10 (ok_0 _) rfl d10_text_58 ?_
    refine den_getR (pc := 61) (b := 2) fa_10_87 (ok_1 _) rfl d10_text_61 ?_
    refine den_iload_n (pc := 64) d10_text_64 rfl rfl ?_
    refine den_callVV (pc := 65) (As := [vI x1, vA G 2, vI u1]) fv_10_91 rfl rfl (ok_28 _) (Nat.le_of_ble_eq_true rfl) (Nat.le_trans (by decide) hd) d10_text_65 (c5_readText l G x1 2 u1 h9 ⟨sz_lt (by decide), by decide⟩) (fun r12 h13 m14 o15 => ?_)
    refine den_aload_n (pc := 68) d10_text_68 rfl rfl ?_
    refine den_getR (pc := 69) (b := 28) fa_10_23 (ok_0 _) rfl d10_text_69 ?_
    refine den_getI (pc := 72) fa_10_95 (ok_28 _) d10_text_72 ?_
    refine den_if_eq (pc := 75) (tgt := 108) d10_text_75 (by decide) rfl (fun _ => ?_) (fun _ => ?_)
    · refine den_aload_n (pc := 108) d10_text_108 rfl rfl ?_
      refine den_getR (pc := 109) (b := 1) fa_10_10 (ok_0 _) rfl d10_text_109 ?_
      refine den_iload_n (pc := 112) d10_text_112 rfl rfl ?_
      refine den_iload (pc := 113) d10_text_113 rfl ?_
      refine den_aload_n (pc := 115) d10_text_115 rfl rfl ?_
      refine den_getR (pc := 116) (b := 28) fa_10_23 (ok_0 _) rfl d10_text_116 ?_
      refine den_callVV (pc := 119) (As := [vI x1, vI r8, vA G 28]) fv_10_97 rfl rfl (ok_1 _) (Nat.le_of_ble_eq_true rfl) (Nat.le_trans (by decide) hd) d10_text_119 (c8_put l G 1 x1 r8 h13 (ok_1 _)) (fun r16 h17 m18 o19 => ?_)
      refine den_iload (pc := 122) d10_text_122 rfl ?_
      exact den_iret (pc := 124) rfl d10_text_124
    · refine den_aload_n (pc := 78) d10_text_78 rfl rfl ?_
      refine den_getR (pc := 79) (b := 1) fa_10_10 (ok_0 _) rfl d10_text_79 ?_
      refine den_aload_n (pc := 82) d10_text_82 rfl rfl ?_
      refine den_getR (pc := 83) (b := 28) fa_10_23 (ok_0 _) rfl d10_text_83 ?_
      refine den_getI (pc := 86) fa_10_95 (ok_28 _) d10_text_86 ?_
      refine den_putI (pc := 89) fp_10_77 (ok_1 _) d10_text_89 ?_
      refine den_ltH (fun h20 m21 => ?_)
      refine den_aload_n (pc := 92) d10_text_92 rfl rfl ?_
      refine den_getR (pc := 93) (b := 1) fa_10_10 (ok_0 _) rfl d10_text_93 ?_
      refine den_aload_n (pc := 96) d10_text_96 rfl rfl ?_
      refine den_getR (pc := 97) (b := 28) fa_10_23 (ok_0 _) rfl d10_text_97 ?_
      refine den_getI (pc := 100) fa_10_96 (ok_28 _) d10_text_100 ?_
      refine den_putI (pc := 103) fp_10_80 (ok_1 _) d10_text_103 ?_
      refine den_ltH (fun h22 m23 => ?_)
      refine den_iconst (pc := 106) d10_text_106 ?_
      exact den_iret (pc := 107) rfl d10_text_107
  · refine den_bipush (pc := 49) d10_text_49 (by decide) ?_
    exact den_iret (pc := 51) rfl d10_text_51
theorem d10_fault_0 : decode m10_fault.2.1 0 = .ok (.iload_n 1, 1) := by decide +kernel
theorem d10_fault_1 : decode m10_fault.2.1 1 = .ok (.ifCond .ne 11, 3) := by decide +kernel
theorem d10_fault_4 : decode m10_fault.2.1 4 = .ok (.aload_n 0, 1) := by decide +kernel
theorem d10_fault_5 : decode m10_fault.2.1 5 = .ok (.getfield 10, 3) := by decide +kernel
theorem d10_fault_8 : decode m10_fault.2.1 8 = .ok (.getfield 77, 3) := by decide +kernel
theorem d10_fault_11 : decode m10_fault.2.1 11 = .ok (.ireturn, 1) := by decide +kernel
theorem d10_fault_12 : decode m10_fault.2.1 12 = .ok (.iload_n 1, 1) := by decide +kernel
theorem d10_fault_13 : decode m10_fault.2.1 13 = .ok (.iconst 1, 1) := by decide +kernel
theorem d10_fault_14 : decode m10_fault.2.1 14 = .ok (.if_icmp .ne 13, 3) := by decide +kernel
theorem d10_fault_17 : decode m10_fault.2.1 17 = .ok (.aload_n 0, 1) := by decide +kernel
theorem d10_fault_18 : decode m10_fault.2.1 18 = .ok (.getfield 10, 3) := by decide +kernel
theorem d10_fault_21 : decode m10_fault.2.1 21 = .ok (.getfield 80, 3) := by decide +kernel
theorem d10_fault_24 : decode m10_fault.2.1 24 = .ok (.goto 4, 3) := by decide +kernel
theorem d10_fault_27 : decode m10_fault.2.1 27 = .ok (.iconst (-1), 1) := by decide +kernel
theorem d10_fault_28 : decode m10_fault.2.1 28 = .ok (.ireturn, 1) := by decide +kernel
def f10_fault (x1 : Int) (h : AH) : Option (Int × AH) :=
  if ¬ w32 x1 = 0 then
    if ¬ w32 x1 = 1 then
      some ((-1), h)
    else
      some (h.2 1 3, h)
  else
    some (h.2 1 2, h)
set_option maxRecDepth 100000 in
theorem c10_fault (l : Launch) (G : Geo) (x1 : Int) (h : AH) : Con l G m10_fault rvI 2 [vA G 0, vI x1] h (f10_fault x1 h) := by
  have hd : 2 ≤ 2 := Nat.le_refl _
  refine con_I rfl (by decide) rfl rfl (Nat.le_of_ble_eq_true rfl) (L := [some (vA G 0), some (vI x1)]) ?_
  unfold f10_fault
  refine den_iload_n (pc := 0) d10_fault_0 rfl rfl ?_
  refine den_if_ne (pc := 1) (tgt := 12) d10_fault_1 (by decide) rfl (fun _ => ?_) (fun _ => ?_)
  · refine den_iload_n (pc := 12) d10_fault_12 rfl rfl ?_
    refine den_iconst (pc := 13) d10_fault_13 ?_
    refine den_icmp_ne (pc := 14) (tgt := 27) d10_fault_14 (by decide) rfl (by decide) (fun _ => ?_) (fun _ => ?_)
    · refine den_iconst (pc := 27) d10_fault_27 ?_
      exact den_iret (pc := 28) rfl d10_fault_28
    · refine den_aload_n (pc := 17) d10_fault_17 rfl rfl ?_
      refine den_getR (pc := 18) (b := 1) fa_10_10 (ok_0 _) rfl d10_fault_18 ?_
      refine den_getI (pc := 21) fa_10_80 (ok_1 _) d10_fault_21 ?_
      refine den_goto (pc := 24) (tgt := 28) d10_fault_24 (by decide) ?_
      exact den_iret (pc := 28) rfl d10_fault_28
  · refine den_aload_n (pc := 4) d10_fault_4 rfl rfl ?_
    refine den_getR (pc := 5) (b := 1) fa_10_10 (ok_0 _) rfl d10_fault_5 ?_
    refine den_getI (pc := 8) fa_10_77 (ok_1 _) d10_fault_8 ?_
    exact den_iret (pc := 11) rfl d10_fault_11
theorem d10_village_0 : decode m10_village.2.1 0 = .ok (.aload_n 0, 1) := by decide +kernel
theorem d10_village_1 : decode m10_village.2.1 1 = .ok (.getfield 10, 3) := by decide +kernel
theorem d10_village_4 : decode m10_village.2.1 4 = .ok (.iload_n 1, 1) := by decide +kernel
theorem d10_village_5 : decode m10_village.2.1 5 = .ok (.invokevirtual 101, 3) := by decide +kernel
theorem d10_village_8 : decode m10_village.2.1 8 = .ok (.astore_n 3, 1) := by decide +kernel
theorem d10_village_9 : decode m10_village.2.1 9 = .ok (.aload_n 3, 1) := by decide +kernel
theorem d10_village_10 : decode m10_village.2.1 10 = .ok (.ifnonnull 8, 3) := by decide +kernel
theorem d10_village_13 : decode m10_village.2.1 13 = .ok (.bipush (-2), 2) := by decide +kernel
theorem d10_village_15 : decode m10_village.2.1 15 = .ok (.goto 8, 3) := by decide +kernel
theorem d10_village_18 : decode m10_village.2.1 18 = .ok (.aload_n 3, 1) := by decide +kernel
theorem d10_village_19 : decode m10_village.2.1 19 = .ok (.iload_n 2, 1) := by decide +kernel
theorem d10_village_20 : decode m10_village.2.1 20 = .ok (.invokevirtual 105, 3) := by decide +kernel
theorem d10_village_23 : decode m10_village.2.1 23 = .ok (.ireturn, 1) := by decide +kernel
def f10_village (x1 : Int) (x2 : Int) (h : AH) : Option (Int × AH) :=
  bnd (f8_villageAt 1 x1 h) fun r1 h2 =>
  if r1 < 0 then
    some ((-2), h2)
  else
    bnd (f9_answer r1.toNat x2 h2) fun r8 h9 =>
    some (r8, h9)
set_option maxRecDepth 100000 in
theorem c10_village (l : Launch) (G : Geo) (x1 : Int) (x2 : Int) (h : AH) : Con l G m10_village rvI 5 [vA G 0, vI x1, vI x2] h (f10_village x1 x2 h) := by
  have hd : 5 ≤ 5 := Nat.le_refl _
  refine con_I rfl (by decide) rfl rfl (Nat.le_of_ble_eq_true rfl) (L := [some (vA G 0), some (vI x1), some (vI x2), none]) ?_
  unfold f10_village
  refine den_aload_n (pc := 0) d10_village_0 rfl rfl ?_
  refine den_getR (pc := 1) (b := 1) fa_10_10 (ok_0 _) rfl d10_village_1 ?_
  refine den_iload_n (pc := 4) d10_village_4 rfl rfl ?_
  refine den_callVR (pc := 5) (As := [vI x1]) fv_10_101 rfl rfl (ok_1 _) (Nat.le_of_ble_eq_true rfl) (Nat.le_trans (by decide) hd) d10_village_5 (c8_villageAt l G 1 x1 h (ok_1 _)) (fun r1 h2 m3 o4 => ?_)
  have q5 := RO.v o4
  refine den_astoreR_n (pc := 8) (L2 := [some (vA G 0), some (vI x1), some (vI x2), some (vR G r1)]) d10_village_8 rfl (by decide) rfl ?_
  refine den_aloadR_n (pc := 9) d10_village_9 rfl rfl ?_
  refine den_ifnonnull (pc := 10) (tgt := 18) d10_village_10 (by decide) (fun _ => ?_) (fun n6 => ?_)
  · refine den_bipush (pc := 13) d10_village_13 (by decide) ?_
    refine den_goto (pc := 15) (tgt := 23) d10_village_15 (by decide) ?_
    exact den_iret (pc := 23) rfl d10_village_23
  · rw [vR_pos G n6]
    have q7 := Or.resolve_left q5 n6
    refine den_aload_n (pc := 18) d10_village_18 rfl rfl ?_
    refine den_iload_n (pc := 19) d10_village_19 rfl rfl ?_
    refine den_callVI (pc := 20) (As := [vI x2]) fv_10_105 rfl rfl q7 (Nat.le_of_ble_eq_true rfl) (Nat.le_trans (by decide) hd) d10_village_20 (c9_answer l G r1.toNat x2 h2 q7) (fun r8 h9 m10 o11 => ?_)
    have q12 := ok.mono q7 m10
    exact den_iret (pc := 23) rfl d10_village_23
theorem d10_apart_0 : decode m10_apart.2.1 0 = .ok (.aload_n 0, 1) := by decide +kernel
theorem d10_apart_1 : decode m10_apart.2.1 1 = .ok (.getfield 10, 3) := by decide +kernel
theorem d10_apart_4 : decode m10_apart.2.1 4 = .ok (.iload_n 1, 1) := by decide +kernel
theorem d10_apart_5 : decode m10_apart.2.1 5 = .ok (.invokevirtual 101, 3) := by decide +kernel
theorem d10_apart_8 : decode m10_apart.2.1 8 = .ok (.astore 6, 2) := by decide +kernel
theorem d10_apart_10 : decode m10_apart.2.1 10 = .ok (.aload 6, 2) := by decide +kernel
theorem d10_apart_12 : decode m10_apart.2.1 12 = .ok (.ifnonnull 5, 3) := by decide +kernel
theorem d10_apart_15 : decode m10_apart.2.1 15 = .ok (.iconst (-1), 1) := by decide +kernel
theorem d10_apart_16 : decode m10_apart.2.1 16 = .ok (.ireturn, 1) := by decide +kernel
theorem d10_apart_17 : decode m10_apart.2.1 17 = .ok (.aload 6, 2) := by decide +kernel
theorem d10_apart_19 : decode m10_apart.2.1 19 = .ok (.iload_n 2, 1) := by decide +kernel
theorem d10_apart_20 : decode m10_apart.2.1 20 = .ok (.iload_n 3, 1) := by decide +kernel
theorem d10_apart_21 : decode m10_apart.2.1 21 = .ok (.iload 4, 2) := by decide +kernel
theorem d10_apart_23 : decode m10_apart.2.1 23 = .ok (.invokevirtual 111, 3) := by decide +kernel
theorem d10_apart_26 : decode m10_apart.2.1 26 = .ok (.istore 7, 2) := by decide +kernel
theorem d10_apart_28 : decode m10_apart.2.1 28 = .ok (.iload 7, 2) := by decide +kernel
theorem d10_apart_30 : decode m10_apart.2.1 30 = .ok (.iconst (-1), 1) := by decide +kernel
theorem d10_apart_31 : decode m10_apart.2.1 31 = .ok (.if_icmp .eq 8, 3) := by decide +kernel
theorem d10_apart_34 : decode m10_apart.2.1 34 = .ok (.iload 5, 2) := by decide +kernel
theorem d10_apart_36 : decode m10_apart.2.1 36 = .ok (.ifCond .ne 8, 3) := by decide +kernel
theorem d10_apart_39 : decode m10_apart.2.1 39 = .ok (.iload 7, 2) := by decide +kernel
theorem d10_apart_41 : decode m10_apart.2.1 41 = .ok (.goto 12, 3) := by decide +kernel
theorem d10_apart_44 : decode m10_apart.2.1 44 = .ok (.aload 6, 2) := by decide +kernel
theorem d10_apart_46 : decode m10_apart.2.1 46 = .ok (.iload_n 2, 1) := by decide +kernel
theorem d10_apart_47 : decode m10_apart.2.1 47 = .ok (.iload_n 3, 1) := by decide +kernel
theorem d10_apart_48 : decode m10_apart.2.1 48 = .ok (.iload 4, 2) := by decide +kernel
theorem d10_apart_50 : decode m10_apart.2.1 50 = .ok (.invokevirtual 115, 3) := by decide +kernel
theorem d10_apart_53 : decode m10_apart.2.1 53 = .ok (.ireturn, 1) := by decide +kernel
def f10_apart (x1 : Int) (x2 : Int) (x3 : Int) (x4 : Int) (x5 : Int) (h : AH) : Option (Int × AH) :=
  bnd (f8_villageAt 1 x1 h) fun r1 h2 =>
  if r1 < 0 then
    some ((-1), h2)
  else
    bnd (f9_gap r1.toNat x2 x3 x4 h2) fun r8 h9 =>
    if w32 r8 = (-1) then
      some (r8, h9)
    else
      if ¬ w32 x5 = 0 then
        bnd (f9_burning r1.toNat x2 x3 x4 h9) fun r13 h14 =>
        some (r13, h14)
      else
        some (r8, h9)
set_option maxRecDepth 100000 in
theorem c10_apart (l : Launch) (G : Geo) (x1 : Int) (x2 : Int) (x3 : Int) (x4 : Int) (x5 : Int) (h : AH) : Con l G m10_apart rvI 5 [vA G 0, vI x1, vI x2, vI x3, vI x4, vI x5] h (f10_apart x1 x2 x3 x4 x5 h) := by
  have hd : 5 ≤ 5 := Nat.le_refl _
  refine con_I rfl (by decide) rfl rfl (Nat.le_of_ble_eq_true rfl) (L := [some (vA G 0), some (vI x1), some (vI x2), some (vI x3), some (vI x4), some (vI x5), none, none]) ?_
  unfold f10_apart
  refine den_aload_n (pc := 0) d10_apart_0 rfl rfl ?_
  refine den_getR (pc := 1) (b := 1) fa_10_10 (ok_0 _) rfl d10_apart_1 ?_
  refine den_iload_n (pc := 4) d10_apart_4 rfl rfl ?_
  refine den_callVR (pc := 5) (As := [vI x1]) fv_10_101 rfl rfl (ok_1 _) (Nat.le_of_ble_eq_true rfl) (Nat.le_trans (by decide) hd) d10_apart_5 (c8_villageAt l G 1 x1 h (ok_1 _)) (fun r1 h2 m3 o4 => ?_)
  have q5 := RO.v o4
  refine den_astoreR (pc := 8) (L2 := [some (vA G 0), some (vI x1), some (vI x2), some (vI x3), some (vI x4), some (vI x5), some (vR G r1), none]) d10_apart_8 (by decide) rfl ?_
  refine den_aloadR (pc := 10) d10_apart_10 rfl ?_
  refine den_ifnonnull (pc := 12) (tgt := 17) d10_apart_12 (by decide) (fun _ => ?_) (fun n6 => ?_)
  · refine den_iconst (pc := 15) d10_apart_15 ?_
    exact den_iret (pc := 16) rfl d10_apart_16
  · rw [vR_pos G n6]
    have q7 := Or.resolve_left q5 n6
    refine den_aload (pc := 17) d10_apart_17 rfl ?_
    refine den_iload_n (pc := 19) d10_apart_19 rfl rfl ?_
    refine den_iload_n (pc := 20) d10_apart_20 rfl rfl ?_
    refine den_iload (pc := 21) d10_apart_21 rfl ?_
    refine den_callVI (pc := 23) (As := [vI x2, vI x3, vI x4]) fv_10_111 rfl rfl q7 (Nat.le_of_ble_eq_true rfl) (Nat.le_trans (by decide) hd) d10_apart_23 (c9_gap l G r1.toNat x2 x3 x4 h2 q7) (fun r8 h9 m10 o11 => ?_)
    have q12 := ok.mono q7 m10
    refine den_istore (pc := 26) (L2 := [some (vA G 0), some (vI x1), some (vI x2), some (vI x3), some (vI x4), some (vI x5), some (vA G r1.toNat), some (vI r8)]) d10_apart_26 (by decide) rfl ?_
    refine den_iload (pc := 28) d10_apart_28 rfl ?_
    refine den_iconst (pc := 30) d10_apart_30 ?_
    refine den_icmp_eq (pc := 31) (tgt := 39) d10_apart_31 (by decide) rfl (by decide) (fun _ => ?_) (fun _ => ?_)
    · refine den_iload (pc := 39) d10_apart_39 rfl ?_
      refine den_goto (pc := 41) (tgt := 53) d10_apart_41 (by decide) ?_
      exact den_iret (pc := 53) rfl d10_apart_53
    · refine den_iload (pc := 34) d10_apart_34 rfl ?_
      refine den_if_ne (pc := 36) (tgt := 44) d10_apart_36 (by decide) rfl (fun _ => ?_) (fun _ => ?_)
      · refine den_aload (pc := 44) d10_apart_44 rfl ?_
        refine den_iload_n (pc := 46) d10_apart_46 rfl rfl ?_
        refine den_iload_n (pc := 47) d10_apart_47 rfl rfl ?_
        refine den_iload (pc := 48) d10_apart_48 rfl ?_
        refine den_callVI (pc := 50) (As := [vI x2, vI x3, vI x4]) fv_10_115 rfl rfl q12 (Nat.le_of_ble_eq_true rfl) (Nat.le_trans (by decide) hd) d10_apart_50 (c9_burning l G r1.toNat x2 x3 x4 h9 q12) (fun r13 h14 m15 o16 => ?_)
        have q17 := ok.mono q12 m15
        exact den_iret (pc := 53) rfl d10_apart_53
      · refine den_iload (pc := 39) d10_apart_39 rfl ?_
        refine den_goto (pc := 41) (tgt := 53) d10_apart_41 (by decide) ?_
        exact den_iret (pc := 53) rfl d10_apart_53
theorem d10_deed_0 : decode m10_deed.2.1 0 = .ok (.aload_n 0, 1) := by decide +kernel
theorem d10_deed_1 : decode m10_deed.2.1 1 = .ok (.getfield 10, 3) := by decide +kernel
theorem d10_deed_4 : decode m10_deed.2.1 4 = .ok (.iload_n 1, 1) := by decide +kernel
theorem d10_deed_5 : decode m10_deed.2.1 5 = .ok (.invokevirtual 118, 3) := by decide +kernel
theorem d10_deed_8 : decode m10_deed.2.1 8 = .ok (.astore 4, 2) := by decide +kernel
theorem d10_deed_10 : decode m10_deed.2.1 10 = .ok (.aload 4, 2) := by decide +kernel
theorem d10_deed_12 : decode m10_deed.2.1 12 = .ok (.ifnonnull 8, 3) := by decide +kernel
theorem d10_deed_15 : decode m10_deed.2.1 15 = .ok (.bipush (-2), 2) := by decide +kernel
theorem d10_deed_17 : decode m10_deed.2.1 17 = .ok (.goto 10, 3) := by decide +kernel
theorem d10_deed_20 : decode m10_deed.2.1 20 = .ok (.aload 4, 2) := by decide +kernel
theorem d10_deed_22 : decode m10_deed.2.1 22 = .ok (.iload_n 2, 1) := by decide +kernel
theorem d10_deed_23 : decode m10_deed.2.1 23 = .ok (.iload_n 3, 1) := by decide +kernel
theorem d10_deed_24 : decode m10_deed.2.1 24 = .ok (.invokevirtual 122, 3) := by decide +kernel
theorem d10_deed_27 : decode m10_deed.2.1 27 = .ok (.ireturn, 1) := by decide +kernel
def f10_deed (x1 : Int) (x2 : Int) (x3 : Int) (h : AH) : Option (Int × AH) :=
  bnd (f8_dayAt 1 x1 h) fun r1 h2 =>
  if r1 < 0 then
    some ((-2), h2)
  else
    bnd (f6_answer r1.toNat x2 x3 h2) fun r8 h9 =>
    some (r8, h9)
set_option maxRecDepth 100000 in
theorem c10_deed (l : Launch) (G : Geo) (x1 : Int) (x2 : Int) (x3 : Int) (h : AH) : Con l G m10_deed rvI 4 [vA G 0, vI x1, vI x2, vI x3] h (f10_deed x1 x2 x3 h) := by
  have hd : 4 ≤ 4 := Nat.le_refl _
  refine con_I rfl (by decide) rfl rfl (Nat.le_of_ble_eq_true rfl) (L := [some (vA G 0), some (vI x1), some (vI x2), some (vI x3), none]) ?_
  unfold f10_deed
  refine den_aload_n (pc := 0) d10_deed_0 rfl rfl ?_
  refine den_getR (pc := 1) (b := 1) fa_10_10 (ok_0 _) rfl d10_deed_1 ?_
  refine den_iload_n (pc := 4) d10_deed_4 rfl rfl ?_
  refine den_callVR (pc := 5) (As := [vI x1]) fv_10_118 rfl rfl (ok_1 _) (Nat.le_of_ble_eq_true rfl) (Nat.le_trans (by decide) hd) d10_deed_5 (c8_dayAt l G 1 x1 h (ok_1 _)) (fun r1 h2 m3 o4 => ?_)
  have q5 := RO.r o4
  refine den_astoreR (pc := 8) (L2 := [some (vA G 0), some (vI x1), some (vI x2), some (vI x3), some (vR G r1)]) d10_deed_8 (by decide) rfl ?_
  refine den_aloadR (pc := 10) d10_deed_10 rfl ?_
  refine den_ifnonnull (pc := 12) (tgt := 20) d10_deed_12 (by decide) (fun _ => ?_) (fun n6 => ?_)
  · refine den_bipush (pc := 15) d10_deed_15 (by decide) ?_
    refine den_goto (pc := 17) (tgt := 27) d10_deed_17 (by decide) ?_
    exact den_iret (pc := 27) rfl d10_deed_27
  · rw [vR_pos G n6]
    have q7 := Or.resolve_left q5 n6
    refine den_aload (pc := 20) d10_deed_20 rfl ?_
    refine den_iload_n (pc := 22) d10_deed_22 rfl rfl ?_
    refine den_iload_n (pc := 23) d10_deed_23 rfl rfl ?_
    refine den_callVI (pc := 24) (As := [vI x2, vI x3]) fv_10_122 rfl rfl q7 (Nat.le_of_ble_eq_true rfl) (Nat.le_trans (by decide) hd) d10_deed_24 (c6_answer l G r1.toNat x2 x3 h2 q7) (fun r8 h9 m10 o11 => ?_)
    have q12 := ok.mono q7 m10
    exact den_iret (pc := 27) rfl d10_deed_27
theorem d10_stop_0 : decode m10_stop.2.1 0 = .ok (.aload_n 0, 1) := by decide +kernel
theorem d10_stop_1 : decode m10_stop.2.1 1 = .ok (.getfield 10, 3) := by decide +kernel
theorem d10_stop_4 : decode m10_stop.2.1 4 = .ok (.iload_n 1, 1) := by decide +kernel
theorem d10_stop_5 : decode m10_stop.2.1 5 = .ok (.invokevirtual 101, 3) := by decide +kernel
theorem d10_stop_8 : decode m10_stop.2.1 8 = .ok (.astore_n 3, 1) := by decide +kernel
theorem d10_stop_9 : decode m10_stop.2.1 9 = .ok (.aload_n 0, 1) := by decide +kernel
theorem d10_stop_10 : decode m10_stop.2.1 10 = .ok (.getfield 10, 3) := by decide +kernel
theorem d10_stop_13 : decode m10_stop.2.1 13 = .ok (.iload_n 2, 1) := by decide +kernel
theorem d10_stop_14 : decode m10_stop.2.1 14 = .ok (.invokevirtual 118, 3) := by decide +kernel
theorem d10_stop_17 : decode m10_stop.2.1 17 = .ok (.astore 4, 2) := by decide +kernel
theorem d10_stop_19 : decode m10_stop.2.1 19 = .ok (.aload_n 3, 1) := by decide +kernel
theorem d10_stop_20 : decode m10_stop.2.1 20 = .ok (.ifnull 8, 3) := by decide +kernel
theorem d10_stop_23 : decode m10_stop.2.1 23 = .ok (.aload 4, 2) := by decide +kernel
theorem d10_stop_25 : decode m10_stop.2.1 25 = .ok (.ifnonnull 7, 3) := by decide +kernel
theorem d10_stop_28 : decode m10_stop.2.1 28 = .ok (.iconst (-1), 1) := by decide +kernel
theorem d10_stop_29 : decode m10_stop.2.1 29 = .ok (.goto 15, 3) := by decide +kernel
theorem d10_stop_32 : decode m10_stop.2.1 32 = .ok (.aload_n 0, 1) := by decide +kernel
theorem d10_stop_33 : decode m10_stop.2.1 33 = .ok (.getfield 30, 3) := by decide +kernel
theorem d10_stop_36 : decode m10_stop.2.1 36 = .ok (.aload_n 3, 1) := by decide +kernel
theorem d10_stop_37 : decode m10_stop.2.1 37 = .ok (.aload 4, 2) := by decide +kernel
theorem d10_stop_39 : decode m10_stop.2.1 39 = .ok (.bipush 40, 2) := by decide +kernel
theorem d10_stop_41 : decode m10_stop.2.1 41 = .ok (.invokevirtual 126, 3) := by decide +kernel
theorem d10_stop_44 : decode m10_stop.2.1 44 = .ok (.ireturn, 1) := by decide +kernel
def f10_stop (x1 : Int) (x2 : Int) (h : AH) : Option (Int × AH) :=
  bnd (f8_villageAt 1 x1 h) fun r1 h2 =>
  bnd (f8_dayAt 1 x2 h2) fun r6 h7 =>
  if r1 < 0 then
    some ((-1), h7)
  else
    if r6 < 0 then
      some ((-1), h7)
    else
      bnd (f7_play r1.toNat r6.toNat 40 h7) fun r16 h17 =>
      some (r16, h17)
set_option maxRecDepth 100000 in
theorem c10_stop (l : Launch) (G : Geo) (x1 : Int) (x2 : Int) (h : AH) : Con l G m10_stop rvI 8 [vA G 0, vI x1, vI x2] h (f10_stop x1 x2 h) := by
  have hd : 8 ≤ 8 := Nat.le_refl _
  refine con_I rfl (by decide) rfl rfl (Nat.le_of_ble_eq_true rfl) (L := [some (vA G 0), some (vI x1), some (vI x2), none, none]) ?_
  unfold f10_stop
  refine den_aload_n (pc := 0) d10_stop_0 rfl rfl ?_
  refine den_getR (pc := 1) (b := 1) fa_10_10 (ok_0 _) rfl d10_stop_1 ?_
  refine den_iload_n (pc := 4) d10_stop_4 rfl rfl ?_
  refine den_callVR (pc := 5) (As := [vI x1]) fv_10_101 rfl rfl (ok_1 _) (Nat.le_of_ble_eq_true rfl) (Nat.le_trans (by decide) hd) d10_stop_5 (c8_villageAt l G 1 x1 h (ok_1 _)) (fun r1 h2 m3 o4 => ?_)
  have q5 := RO.v o4
  refine den_astoreR_n (pc := 8) (L2 := [some (vA G 0), some (vI x1), some (vI x2), some (vR G r1), none]) d10_stop_8 rfl (by decide) rfl ?_
  refine den_aload_n (pc := 9) d10_stop_9 rfl rfl ?_
  refine den_getR (pc := 10) (b := 1) fa_10_10 (ok_0 _) rfl d10_stop_10 ?_
  refine den_iload_n (pc := 13) d10_stop_13 rfl rfl ?_
  refine den_callVR (pc := 14) (As := [vI x2]) fv_10_118 rfl rfl (ok_1 _) (Nat.le_of_ble_eq_true rfl) (Nat.le_trans (by decide) hd) d10_stop_14 (c8_dayAt l G 1 x2 h2 (ok_1 _)) (fun r6 h7 m8 o9 => ?_)
  have q10 := Or.imp id (fun z => ok.mono z m8) q5
  have q11 := RO.r o9
  refine den_astoreR (pc := 17) (L2 := [some (vA G 0), some (vI x1), some (vI x2), some (vR G r1), some (vR G r6)]) d10_stop_17 (by decide) (by simp [st1, kl_vR]) ?_
  refine den_aloadR_n (pc := 19) d10_stop_19 rfl rfl ?_
  refine den_ifnull (pc := 20) (tgt := 28) d10_stop_20 (by decide) (fun _ => ?_) (fun n12 => ?_)
  · refine den_iconst (pc := 28) d10_stop_28 ?_
    refine den_goto (pc := 29) (tgt := 44) d10_stop_29 (by decide) ?_
    exact den_iret (pc := 44) rfl d10_stop_44
  · rw [vR_pos G n12]
    have q13 := Or.resolve_left q10 n12
    refine den_aloadR (pc := 23) d10_stop_23 rfl ?_
    refine den_ifnonnull (pc := 25) (tgt := 32) d10_stop_25 (by decide) (fun _ => ?_) (fun n14 => ?_)
    · refine den_iconst (pc := 28) d10_stop_28 ?_
      refine den_goto (pc := 29) (tgt := 44) d10_stop_29 (by decide) ?_
      exact den_iret (pc := 44) rfl d10_stop_44
    · rw [vR_pos G n14]
      have q15 := Or.resolve_left q11 n14
      refine den_aload_n (pc := 32) d10_stop_32 rfl rfl ?_
      refine den_getR (pc := 33) (b := 41) fa_10_30 (ok_0 _) rfl d10_stop_33 ?_
      refine den_aload_n (pc := 36) d10_stop_36 rfl rfl ?_
      refine den_aload (pc := 37) d10_stop_37 rfl ?_
      refine den_bipush (pc := 39) d10_stop_39 (by decide) ?_
      refine den_callVI (pc := 41) (As := [vA G r1.toNat, vA G r6.toNat, vI 40]) fv_10_126 rfl rfl (ok_41 _) (Nat.le_of_ble_eq_true rfl) (Nat.le_trans (by decide) hd) d10_stop_41 (c7_play l G r1.toNat r6.toNat 40 h7 q13 q15) (fun r16 h17 m18 o19 => ?_)
      have q20 := ok.mono q13 m18
      have q21 := ok.mono q15 m18
      exact den_iret (pc := 44) rfl d10_stop_44
theorem d10_state_0 : decode m10_state.2.1 0 = .ok (.aload_n 0, 1) := by decide +kernel
theorem d10_state_1 : decode m10_state.2.1 1 = .ok (.getfield 10, 3) := by decide +kernel
theorem d10_state_4 : decode m10_state.2.1 4 = .ok (.iload_n 1, 1) := by decide +kernel
theorem d10_state_5 : decode m10_state.2.1 5 = .ok (.invokevirtual 101, 3) := by decide +kernel
theorem d10_state_8 : decode m10_state.2.1 8 = .ok (.astore 5, 2) := by decide +kernel
theorem d10_state_10 : decode m10_state.2.1 10 = .ok (.aload_n 0, 1) := by decide +kernel
theorem d10_state_11 : decode m10_state.2.1 11 = .ok (.getfield 10, 3) := by decide +kernel
theorem d10_state_14 : decode m10_state.2.1 14 = .ok (.iload_n 2, 1) := by decide +kernel
theorem d10_state_15 : decode m10_state.2.1 15 = .ok (.invokevirtual 118, 3) := by decide +kernel
theorem d10_state_18 : decode m10_state.2.1 18 = .ok (.astore 6, 2) := by decide +kernel
theorem d10_state_20 : decode m10_state.2.1 20 = .ok (.aload 5, 2) := by decide +kernel
theorem d10_state_22 : decode m10_state.2.1 22 = .ok (.ifnull 21, 3) := by decide +kernel
theorem d10_state_25 : decode m10_state.2.1 25 = .ok (.aload 6, 2) := by decide +kernel
theorem d10_state_27 : decode m10_state.2.1 27 = .ok (.ifnull 16, 3) := by decide +kernel
theorem d10_state_30 : decode m10_state.2.1 30 = .ok (.iload_n 3, 1) := by decide +kernel
theorem d10_state_31 : decode m10_state.2.1 31 = .ok (.ifCond .lt 12, 3) := by decide +kernel
theorem d10_state_34 : decode m10_state.2.1 34 = .ok (.iload_n 3, 1) := by decide +kernel
theorem d10_state_35 : decode m10_state.2.1 35 = .ok (.aload 6, 2) := by decide +kernel
theorem d10_state_37 : decode m10_state.2.1 37 = .ok (.getfield 130, 3) := by decide +kernel
theorem d10_state_40 : decode m10_state.2.1 40 = .ok (.if_icmp .le 6, 3) := by decide +kernel
theorem d10_state_43 : decode m10_state.2.1 43 = .ok (.bipush (-2), 2) := by decide +kernel
theorem d10_state_45 : decode m10_state.2.1 45 = .ok (.ireturn, 1) := by decide +kernel
theorem d10_state_46 : decode m10_state.2.1 46 = .ok (.aload_n 0, 1) := by decide +kernel
theorem d10_state_47 : decode m10_state.2.1 47 = .ok (.getfield 30, 3) := by decide +kernel
theorem d10_state_50 : decode m10_state.2.1 50 = .ok (.aload 5, 2) := by decide +kernel
theorem d10_state_52 : decode m10_state.2.1 52 = .ok (.aload 6, 2) := by decide +kernel
theorem d10_state_54 : decode m10_state.2.1 54 = .ok (.iload_n 3, 1) := by decide +kernel
theorem d10_state_55 : decode m10_state.2.1 55 = .ok (.invokevirtual 126, 3) := by decide +kernel
theorem d10_state_58 : decode m10_state.2.1 58 = .ok (.iload_n 3, 1) := by decide +kernel
theorem d10_state_59 : decode m10_state.2.1 59 = .ok (.if_icmp .ne 15, 3) := by decide +kernel
theorem d10_state_62 : decode m10_state.2.1 62 = .ok (.aload_n 0, 1) := by decide +kernel
theorem d10_state_63 : decode m10_state.2.1 63 = .ok (.getfield 30, 3) := by decide +kernel
theorem d10_state_66 : decode m10_state.2.1 66 = .ok (.iload 4, 2) := by decide +kernel
theorem d10_state_68 : decode m10_state.2.1 68 = .ok (.invokevirtual 133, 3) := by decide +kernel
theorem d10_state_71 : decode m10_state.2.1 71 = .ok (.goto 5, 3) := by decide +kernel
theorem d10_state_74 : decode m10_state.2.1 74 = .ok (.bipush (-2), 2) := by decide +kernel
theorem d10_state_76 : decode m10_state.2.1 76 = .ok (.ireturn, 1) := by decide +kernel
def f10_state (x1 : Int) (x2 : Int) (x3 : Int) (x4 : Int) (h : AH) : Option (Int × AH) :=
  bnd (f8_villageAt 1 x1 h) fun r1 h2 =>
  bnd (f8_dayAt 1 x2 h2) fun r6 h7 =>
  if r1 < 0 then
    some ((-2), h7)
  else
    if r6 < 0 then
      some ((-2), h7)
    else
      if w32 x3 < 0 then
        some ((-2), h7)
      else
        if w32 x3 ≤ w32 (h7.2 r6.toNat 3) then
          bnd (f7_play r1.toNat r6.toNat x3 h7) fun r16 h17 =>
          if ¬ w32 r16 = w32 x3 then
            some ((-2), h17)
          else
            bnd (f7_answer x4 h17) fun r22 h23 =>
            some (r22, h23)
        else
          some ((-2), h7)
set_option maxRecDepth 100000 in
theorem c10_state (l : Launch) (G : Geo) (x1 : Int) (x2 : Int) (x3 : Int) (x4 : Int) (h : AH) : Con l G m10_state rvI 8 [vA G 0, vI x1, vI x2, vI x3, vI x4] h (f10_state x1 x2 x3 x4 h) := by
  have hd : 8 ≤ 8 := Nat.le_refl _
  refine con_I rfl (by decide) rfl rfl (Nat.le_of_ble_eq_true rfl) (L := [some (vA G 0), some (vI x1), some (vI x2), some (vI x3), some (vI x4), none, none]) ?_
  unfold f10_state
  refine den_aload_n (pc := 0) d10_state_0 rfl rfl ?_
  refine den_getR (pc := 1) (b := 1) fa_10_10 (ok_0 _) rfl d10_state_1 ?_
  refine den_iload_n (pc := 4) d10_state_4 rfl rfl ?_
  refine den_callVR (pc := 5) (As := [vI x1]) fv_10_101 rfl rfl (ok_1 _) (Nat.le_of_ble_eq_true rfl) (Nat.le_trans (by decide) hd) d10_state_5 (c8_villageAt l G 1 x1 h (ok_1 _)) (fun r1 h2 m3 o4 => ?_)
  have q5 := RO.v o4
  refine den_astoreR (pc := 8) (L2 := [some (vA G 0), some (vI x1), some (vI x2), some (vI x3), some (vI x4), some (vR G r1), none]) d10_state_8 (by decide) rfl ?_
  refine den_aload_n (pc := 10) d10_state_10 rfl rfl ?_
  refine den_getR (pc := 11) (b := 1) fa_10_10 (ok_0 _) rfl d10_state_11 ?_
  refine den_iload_n (pc := 14) d10_state_14 rfl rfl ?_
  refine den_callVR (pc := 15) (As := [vI x2]) fv_10_118 rfl rfl (ok_1 _) (Nat.le_of_ble_eq_true rfl) (Nat.le_trans (by decide) hd) d10_state_15 (c8_dayAt l G 1 x2 h2 (ok_1 _)) (fun r6 h7 m8 o9 => ?_)
  have q10 := Or.imp id (fun z => ok.mono z m8) q5
  have q11 := RO.r o9
  refine den_astoreR (pc := 18) (L2 := [some (vA G 0), some (vI x1), some (vI x2), some (vI x3), some (vI x4), some (vR G r1), some (vR G r6)]) d10_state_18 (by decide) (by simp [st1, kl_vR]) ?_
  refine den_aloadR (pc := 20) d10_state_20 rfl ?_
  refine den_ifnull (pc := 22) (tgt := 43) d10_state_22 (by decide) (fun _ => ?_) (fun n12 => ?_)
  · refine den_bipush (pc := 43) d10_state_43 (by decide) ?_
    exact den_iret (pc := 45) rfl d10_state_45
  · rw [vR_pos G n12]
    have q13 := Or.resolve_left q10 n12
    refine den_aloadR (pc := 25) d10_state_25 rfl ?_
    refine den_ifnull (pc := 27) (tgt := 43) d10_state_27 (by decide) (fun _ => ?_) (fun n14 => ?_)
    · refine den_bipush (pc := 43) d10_state_43 (by decide) ?_
      exact den_iret (pc := 45) rfl d10_state_45
    · rw [vR_pos G n14]
      have q15 := Or.resolve_left q11 n14
      refine den_iload_n (pc := 30) d10_state_30 rfl rfl ?_
      refine den_if_lt (pc := 31) (tgt := 43) d10_state_31 (by decide) rfl (fun _ => ?_) (fun _ => ?_)
      · refine den_bipush (pc := 43) d10_state_43 (by decide) ?_
        exact den_iret (pc := 45) rfl d10_state_45
      · refine den_iload_n (pc := 34) d10_state_34 rfl rfl ?_
        refine den_aload (pc := 35) d10_state_35 rfl ?_
        refine den_getI (pc := 37) fa_10_130 q15 d10_state_37 ?_
        refine den_icmp_le (pc := 40) (tgt := 46) d10_state_40 (by decide) rfl rfl (fun _ => ?_) (fun _ => ?_)
        · refine den_aload_n (pc := 46) d10_state_46 rfl rfl ?_
          refine den_getR (pc := 47) (b := 41) fa_10_30 (ok_0 _) rfl d10_state_47 ?_
          refine den_aload (pc := 50) d10_state_50 rfl ?_
          refine den_aload (pc := 52) d10_state_52 rfl ?_
          refine den_iload_n (pc := 54) d10_state_54 rfl rfl ?_
          refine den_callVI (pc := 55) (As := [vA G r1.toNat, vA G r6.toNat, vI x3]) fv_10_126 rfl rfl (ok_41 _) (Nat.le_of_ble_eq_true rfl) (Nat.le_trans (by decide) hd) d10_state_55 (c7_play l G r1.toNat r6.toNat x3 h7 q13 q15) (fun r16 h17 m18 o19 => ?_)
          have q20 := ok.mono q13 m18
          have q21 := ok.mono q15 m18
          refine den_iload_n (pc := 58) d10_state_58 rfl rfl ?_
          refine den_icmp_ne (pc := 59) (tgt := 74) d10_state_59 (by decide) rfl rfl (fun _ => ?_) (fun _ => ?_)
          · refine den_bipush (pc := 74) d10_state_74 (by decide) ?_
            exact den_iret (pc := 76) rfl d10_state_76
          · refine den_aload_n (pc := 62) d10_state_62 rfl rfl ?_
            refine den_getR (pc := 63) (b := 41) fa_10_30 (ok_0 _) rfl d10_state_63 ?_
            refine den_iload (pc := 66) d10_state_66 rfl ?_
            refine den_callVI (pc := 68) (As := [vI x4]) fv_10_133 rfl rfl (ok_41 _) (Nat.le_of_ble_eq_true rfl) (Nat.le_trans (by decide) hd) d10_state_68 (c7_answer l G x4 h17) (fun r22 h23 m24 o25 => ?_)
            have q26 := ok.mono q20 m24
            have q27 := ok.mono q21 m24
            refine den_goto (pc := 71) (tgt := 76) d10_state_71 (by decide) ?_
            exact den_iret (pc := 76) rfl d10_state_76
        · refine den_bipush (pc := 43) d10_state_43 (by decide) ?_
          exact den_iret (pc := 45) rfl d10_state_45
theorem d10_keenest_0 : decode m10_keenest.2.1 0 = .ok (.aload_n 0, 1) := by decide +kernel
theorem d10_keenest_1 : decode m10_keenest.2.1 1 = .ok (.getfield 10, 3) := by decide +kernel
theorem d10_keenest_4 : decode m10_keenest.2.1 4 = .ok (.iload_n 1, 1) := by decide +kernel
theorem d10_keenest_5 : decode m10_keenest.2.1 5 = .ok (.invokevirtual 101, 3) := by decide +kernel
theorem d10_keenest_8 : decode m10_keenest.2.1 8 = .ok (.astore 5, 2) := by decide +kernel
theorem d10_keenest_10 : decode m10_keenest.2.1 10 = .ok (.aload 5, 2) := by decide +kernel
theorem d10_keenest_12 : decode m10_keenest.2.1 12 = .ok (.ifnonnull 5, 3) := by decide +kernel
theorem d10_keenest_15 : decode m10_keenest.2.1 15 = .ok (.iconst (-1), 1) := by decide +kernel
theorem d10_keenest_16 : decode m10_keenest.2.1 16 = .ok (.ireturn, 1) := by decide +kernel
theorem d10_keenest_17 : decode m10_keenest.2.1 17 = .ok (.aload 5, 2) := by decide +kernel
theorem d10_keenest_19 : decode m10_keenest.2.1 19 = .ok (.iload_n 2, 1) := by decide +kernel
theorem d10_keenest_20 : decode m10_keenest.2.1 20 = .ok (.iload_n 3, 1) := by decide +kernel
theorem d10_keenest_21 : decode m10_keenest.2.1 21 = .ok (.invokevirtual 134, 3) := by decide +kernel
theorem d10_keenest_24 : decode m10_keenest.2.1 24 = .ok (.istore 6, 2) := by decide +kernel
theorem d10_keenest_26 : decode m10_keenest.2.1 26 = .ok (.iload 6, 2) := by decide +kernel
theorem d10_keenest_28 : decode m10_keenest.2.1 28 = .ok (.iconst (-1), 1) := by decide +kernel
theorem d10_keenest_29 : decode m10_keenest.2.1 29 = .ok (.if_icmp .eq 8, 3) := by decide +kernel
theorem d10_keenest_32 : decode m10_keenest.2.1 32 = .ok (.iload 4, 2) := by decide +kernel
theorem d10_keenest_34 : decode m10_keenest.2.1 34 = .ok (.ifCond .ne 8, 3) := by decide +kernel
theorem d10_keenest_37 : decode m10_keenest.2.1 37 = .ok (.iload 6, 2) := by decide +kernel
theorem d10_keenest_39 : decode m10_keenest.2.1 39 = .ok (.goto 12, 3) := by decide +kernel
theorem d10_keenest_42 : decode m10_keenest.2.1 42 = .ok (.aload 5, 2) := by decide +kernel
theorem d10_keenest_44 : decode m10_keenest.2.1 44 = .ok (.iload_n 2, 1) := by decide +kernel
theorem d10_keenest_45 : decode m10_keenest.2.1 45 = .ok (.iload_n 3, 1) := by decide +kernel
theorem d10_keenest_46 : decode m10_keenest.2.1 46 = .ok (.iload 6, 2) := by decide +kernel
theorem d10_keenest_48 : decode m10_keenest.2.1 48 = .ok (.invokevirtual 115, 3) := by decide +kernel
theorem d10_keenest_51 : decode m10_keenest.2.1 51 = .ok (.ireturn, 1) := by decide +kernel
def f10_keenest (x1 : Int) (x2 : Int) (x3 : Int) (x4 : Int) (h : AH) : Option (Int × AH) :=
  bnd (f8_villageAt 1 x1 h) fun r1 h2 =>
  if r1 < 0 then
    some ((-1), h2)
  else
    bnd (f9_hottestBetween r1.toNat x2 x3 h2) fun r8 h9 =>
    if w32 r8 = (-1) then
      some (r8, h9)
    else
      if ¬ w32 x4 = 0 then
        bnd (f9_burning r1.toNat x2 x3 r8 h9) fun r13 h14 =>
        some (r13, h14)
      else
        some (r8, h9)
set_option maxRecDepth 100000 in
theorem c10_keenest (l : Launch) (G : Geo) (x1 : Int) (x2 : Int) (x3 : Int) (x4 : Int) (h : AH) : Con l G m10_keenest rvI 6 [vA G 0, vI x1, vI x2, vI x3, vI x4] h (f10_keenest x1 x2 x3 x4 h) := by
  have hd : 6 ≤ 6 := Nat.le_refl _
  refine con_I rfl (by decide) rfl rfl (Nat.le_of_ble_eq_true rfl) (L := [some (vA G 0), some (vI x1), some (vI x2), some (vI x3), some (vI x4), none, none]) ?_
  unfold f10_keenest
  refine den_aload_n (pc := 0) d10_keenest_0 rfl rfl ?_
  refine den_getR (pc := 1) (b := 1) fa_10_10 (ok_0 _) rfl d10_keenest_1 ?_
  refine den_iload_n (pc := 4) d10_keenest_4 rfl rfl ?_
  refine den_callVR (pc := 5) (As := [vI x1]) fv_10_101 rfl rfl (ok_1 _) (Nat.le_of_ble_eq_true rfl) (Nat.le_trans (by decide) hd) d10_keenest_5 (c8_villageAt l G 1 x1 h (ok_1 _)) (fun r1 h2 m3 o4 => ?_)
  have q5 := RO.v o4
  refine den_astoreR (pc := 8) (L2 := [some (vA G 0), some (vI x1), some (vI x2), some (vI x3), some (vI x4), some (vR G r1), none]) d10_keenest_8 (by decide) rfl ?_
  refine den_aloadR (pc := 10) d10_keenest_10 rfl ?_
  refine den_ifnonnull (pc := 12) (tgt := 17) d10_keenest_12 (by decide) (fun _ => ?_) (fun n6 => ?_)
  · refine den_iconst (pc := 15) d10_keenest_15 ?_
    exact den_iret (pc := 16) rfl d10_keenest_16
  · rw [vR_pos G n6]
    have q7 := Or.resolve_left q5 n6
    refine den_aload (pc := 17) d10_keenest_17 rfl ?_
    refine den_iload_n (pc := 19) d10_keenest_19 rfl rfl ?_
    refine den_iload_n (pc := 20) d10_keenest_20 rfl rfl ?_
    refine den_callVI (pc := 21) (As := [vI x2, vI x3]) fv_10_134 rfl rfl q7 (Nat.le_of_ble_eq_true rfl) (Nat.le_trans (by decide) hd) d10_keenest_21 (c9_hottestBetween l G r1.toNat x2 x3 h2 q7) (fun r8 h9 m10 o11 => ?_)
    have q12 := ok.mono q7 m10
    refine den_istore (pc := 24) (L2 := [some (vA G 0), some (vI x1), some (vI x2), some (vI x3), some (vI x4), some (vA G r1.toNat), some (vI r8)]) d10_keenest_24 (by decide) rfl ?_
    refine den_iload (pc := 26) d10_keenest_26 rfl ?_
    refine den_iconst (pc := 28) d10_keenest_28 ?_
    refine den_icmp_eq (pc := 29) (tgt := 37) d10_keenest_29 (by decide) rfl (by decide) (fun _ => ?_) (fun _ => ?_)
    · refine den_iload (pc := 37) d10_keenest_37 rfl ?_
      refine den_goto (pc := 39) (tgt := 51) d10_keenest_39 (by decide) ?_
      exact den_iret (pc := 51) rfl d10_keenest_51
    · refine den_iload (pc := 32) d10_keenest_32 rfl ?_
      refine den_if_ne (pc := 34) (tgt := 42) d10_keenest_34 (by decide) rfl (fun _ => ?_) (fun _ => ?_)
      · refine den_aload (pc := 42) d10_keenest_42 rfl ?_
        refine den_iload_n (pc := 44) d10_keenest_44 rfl rfl ?_
        refine den_iload_n (pc := 45) d10_keenest_45 rfl rfl ?_
        refine den_iload (pc := 46) d10_keenest_46 rfl ?_
        refine den_callVI (pc := 48) (As := [vI x2, vI x3, vI r8]) fv_10_115 rfl rfl q12 (Nat.le_of_ble_eq_true rfl) (Nat.le_trans (by decide) hd) d10_keenest_48 (c9_burning l G r1.toNat x2 x3 r8 h9 q12) (fun r13 h14 m15 o16 => ?_)
        have q17 := ok.mono q12 m15
        exact den_iret (pc := 51) rfl d10_keenest_51
      · refine den_iload (pc := 37) d10_keenest_37 rfl ?_
        refine den_goto (pc := 39) (tgt := 51) d10_keenest_39 (by decide) ?_
        exact den_iret (pc := 51) rfl d10_keenest_51
theorem d10_lasts_0 : decode m10_lasts.2.1 0 = .ok (.aload_n 0, 1) := by decide +kernel
theorem d10_lasts_1 : decode m10_lasts.2.1 1 = .ok (.getfield 10, 3) := by decide +kernel
theorem d10_lasts_4 : decode m10_lasts.2.1 4 = .ok (.iload_n 1, 1) := by decide +kernel
theorem d10_lasts_5 : decode m10_lasts.2.1 5 = .ok (.invokevirtual 101, 3) := by decide +kernel
theorem d10_lasts_8 : decode m10_lasts.2.1 8 = .ok (.astore 6, 2) := by decide +kernel
theorem d10_lasts_10 : decode m10_lasts.2.1 10 = .ok (.aload 6, 2) := by decide +kernel
theorem d10_lasts_12 : decode m10_lasts.2.1 12 = .ok (.ifnull 16, 3) := by decide +kernel
theorem d10_lasts_15 : decode m10_lasts.2.1 15 = .ok (.aload 6, 2) := by decide +kernel
theorem d10_lasts_17 : decode m10_lasts.2.1 17 = .ok (.iload_n 2, 1) := by decide +kernel
theorem d10_lasts_18 : decode m10_lasts.2.1 18 = .ok (.iload_n 3, 1) := by decide +kernel
theorem d10_lasts_19 : decode m10_lasts.2.1 19 = .ok (.iload 4, 2) := by decide +kernel
theorem d10_lasts_21 : decode m10_lasts.2.1 21 = .ok (.invokevirtual 111, 3) := by decide +kernel
theorem d10_lasts_24 : decode m10_lasts.2.1 24 = .ok (.iconst (-1), 1) := by decide +kernel
theorem d10_lasts_25 : decode m10_lasts.2.1 25 = .ok (.if_icmp .ne 5, 3) := by decide +kernel
theorem d10_lasts_28 : decode m10_lasts.2.1 28 = .ok (.iconst (-1), 1) := by decide +kernel
theorem d10_lasts_29 : decode m10_lasts.2.1 29 = .ok (.ireturn, 1) := by decide +kernel
theorem d10_lasts_30 : decode m10_lasts.2.1 30 = .ok (.iload 5, 2) := by decide +kernel
theorem d10_lasts_32 : decode m10_lasts.2.1 32 = .ok (.ifCond .eq 15, 3) := by decide +kernel
theorem d10_lasts_35 : decode m10_lasts.2.1 35 = .ok (.aload 6, 2) := by decide +kernel
theorem d10_lasts_37 : decode m10_lasts.2.1 37 = .ok (.iload_n 2, 1) := by decide +kernel
theorem d10_lasts_38 : decode m10_lasts.2.1 38 = .ok (.iload_n 3, 1) := by decide +kernel
theorem d10_lasts_39 : decode m10_lasts.2.1 39 = .ok (.iload 4, 2) := by decide +kernel
theorem d10_lasts_41 : decode m10_lasts.2.1 41 = .ok (.invokevirtual 137, 3) := by decide +kernel
theorem d10_lasts_44 : decode m10_lasts.2.1 44 = .ok (.goto 12, 3) := by decide +kernel
theorem d10_lasts_47 : decode m10_lasts.2.1 47 = .ok (.aload 6, 2) := by decide +kernel
theorem d10_lasts_49 : decode m10_lasts.2.1 49 = .ok (.iload_n 2, 1) := by decide +kernel
theorem d10_lasts_50 : decode m10_lasts.2.1 50 = .ok (.iload_n 3, 1) := by decide +kernel
theorem d10_lasts_51 : decode m10_lasts.2.1 51 = .ok (.iload 4, 2) := by decide +kernel
theorem d10_lasts_53 : decode m10_lasts.2.1 53 = .ok (.invokevirtual 140, 3) := by decide +kernel
theorem d10_lasts_56 : decode m10_lasts.2.1 56 = .ok (.ireturn, 1) := by decide +kernel
def f10_lasts (x1 : Int) (x2 : Int) (x3 : Int) (x4 : Int) (x5 : Int) (h : AH) : Option (Int × AH) :=
  bnd (f8_villageAt 1 x1 h) fun r1 h2 =>
  if r1 < 0 then
    some ((-1), h2)
  else
    bnd (f9_gap r1.toNat x2 x3 x4 h2) fun r8 h9 =>
    if ¬ w32 r8 = (-1) then
      if w32 x5 = 0 then
        bnd (f9_quarrelsInAll r1.toNat x2 x3 x4 h9) fun r13 h14 =>
        some (r13, h14)
      else
        bnd (f9_burningInAll r1.toNat x2 x3 x4 h9) fun r18 h19 =>
        some (r18, h19)
    else
      some ((-1), h9)
set_option maxRecDepth 100000 in
theorem c10_lasts (l : Launch) (G : Geo) (x1 : Int) (x2 : Int) (x3 : Int) (x4 : Int) (x5 : Int) (h : AH) : Con l G m10_lasts rvI 5 [vA G 0, vI x1, vI x2, vI x3, vI x4, vI x5] h (f10_lasts x1 x2 x3 x4 x5 h) := by
  have hd : 5 ≤ 5 := Nat.le_refl _
  refine con_I rfl (by decide) rfl rfl (Nat.le_of_ble_eq_true rfl) (L := [some (vA G 0), some (vI x1), some (vI x2), some (vI x3), some (vI x4), some (vI x5), none]) ?_
  unfold f10_lasts
  refine den_aload_n (pc := 0) d10_lasts_0 rfl rfl ?_
  refine den_getR (pc := 1) (b := 1) fa_10_10 (ok_0 _) rfl d10_lasts_1 ?_
  refine den_iload_n (pc := 4) d10_lasts_4 rfl rfl ?_
  refine den_callVR (pc := 5) (As := [vI x1]) fv_10_101 rfl rfl (ok_1 _) (Nat.le_of_ble_eq_true rfl) (Nat.le_trans (by decide) hd) d10_lasts_5 (c8_villageAt l G 1 x1 h (ok_1 _)) (fun r1 h2 m3 o4 => ?_)
  have q5 := RO.v o4
  refine den_astoreR (pc := 8) (L2 := [some (vA G 0), some (vI x1), some (vI x2), some (vI x3), some (vI x4), some (vI x5), some (vR G r1)]) d10_lasts_8 (by decide) rfl ?_
  refine den_aloadR (pc := 10) d10_lasts_10 rfl ?_
  refine den_ifnull (pc := 12) (tgt := 28) d10_lasts_12 (by decide) (fun _ => ?_) (fun n6 => ?_)
  · refine den_iconst (pc := 28) d10_lasts_28 ?_
    exact den_iret (pc := 29) rfl d10_lasts_29
  · rw [vR_pos G n6]
    have q7 := Or.resolve_left q5 n6
    refine den_aload (pc := 15) d10_lasts_15 rfl ?_
    refine den_iload_n (pc := 17) d10_lasts_17 rfl rfl ?_
    refine den_iload_n (pc := 18) d10_lasts_18 rfl rfl ?_
    refine den_iload (pc := 19) d10_lasts_19 rfl ?_
    refine den_callVI (pc := 21) (As := [vI x2, vI x3, vI x4]) fv_10_111 rfl rfl q7 (Nat.le_of_ble_eq_true rfl) (Nat.le_trans (by decide) hd) d10_lasts_21 (c9_gap l G r1.toNat x2 x3 x4 h2 q7) (fun r8 h9 m10 o11 => ?_)
    have q12 := ok.mono q7 m10
    refine den_iconst (pc := 24) d10_lasts_24 ?_
    refine den_icmp_ne (pc := 25) (tgt := 30) d10_lasts_25 (by decide) rfl (by decide) (fun _ => ?_) (fun _ => ?_)
    · refine den_iload (pc := 30) d10_lasts_30 rfl ?_
      refine den_if_eq (pc := 32) (tgt := 47) d10_lasts_32 (by decide) rfl (fun _ => ?_) (fun _ => ?_)
      · refine den_aload (pc := 47) d10_lasts_47 rfl ?_
        refine den_iload_n (pc := 49) d10_lasts_49 rfl rfl ?_
        refine den_iload_n (pc := 50) d10_lasts_50 rfl rfl ?_
        refine den_iload (pc := 51) d10_lasts_51 rfl ?_
        refine den_callVI (pc := 53) (As := [vI x2, vI x3, vI x4]) fv_10_140 rfl rfl q12 (Nat.le_of_ble_eq_true rfl) (Nat.le_trans (by decide) hd) d10_lasts_53 (c9_quarrelsInAll l G r1.toNat x2 x3 x4 h9 q12) (fun r13 h14 m15 o16 => ?_)
        have q17 := ok.mono q12 m15
        exact den_iret (pc := 56) rfl d10_lasts_56
      · refine den_aload (pc := 35) d10_lasts_35 rfl ?_
        refine den_iload_n (pc := 37) d10_lasts_37 rfl rfl ?_
        refine den_iload_n (pc := 38) d10_lasts_38 rfl rfl ?_
        refine den_iload (pc := 39) d10_lasts_39 rfl ?_
        refine den_callVI (pc := 41) (As := [vI x2, vI x3, vI x4]) fv_10_137 rfl rfl q12 (Nat.le_of_ble_eq_true rfl) (Nat.le_trans (by decide) hd) d10_lasts_41 (c9_burningInAll l G r1.toNat x2 x3 x4 h9 q12) (fun r18 h19 m20 o21 => ?_)
        have q22 := ok.mono q12 m20
        refine den_goto (pc := 44) (tgt := 56) d10_lasts_44 (by decide) ?_
        exact den_iret (pc := 56) rfl d10_lasts_56
    · refine den_iconst (pc := 28) d10_lasts_28 ?_
      exact den_iret (pc := 29) rfl d10_lasts_29
theorem d10_together_0 : decode m10_together.2.1 0 = .ok (.aload_n 0, 1) := by decide +kernel
theorem d10_together_1 : decode m10_together.2.1 1 = .ok (.getfield 10, 3) := by decide +kernel
theorem d10_together_4 : decode m10_together.2.1 4 = .ok (.iload_n 1, 1) := by decide +kernel
theorem d10_together_5 : decode m10_together.2.1 5 = .ok (.invokevirtual 101, 3) := by decide +kernel
theorem d10_together_8 : decode m10_together.2.1 8 = .ok (.astore 4, 2) := by decide +kernel
theorem d10_together_10 : decode m10_together.2.1 10 = .ok (.aload 4, 2) := by decide +kernel
theorem d10_together_12 : decode m10_together.2.1 12 = .ok (.ifnull 13, 3) := by decide +kernel
theorem d10_together_15 : decode m10_together.2.1 15 = .ok (.aload 4, 2) := by decide +kernel
theorem d10_together_17 : decode m10_together.2.1 17 = .ok (.iload_n 2, 1) := by decide +kernel
theorem d10_together_18 : decode m10_together.2.1 18 = .ok (.iload_n 3, 1) := by decide +kernel
theorem d10_together_19 : decode m10_together.2.1 19 = .ok (.invokevirtual 143, 3) := by decide +kernel
theorem d10_together_22 : decode m10_together.2.1 22 = .ok (.ifCond .ne 7, 3) := by decide +kernel
theorem d10_together_25 : decode m10_together.2.1 25 = .ok (.iconst (-1), 1) := by decide +kernel
theorem d10_together_26 : decode m10_together.2.1 26 = .ok (.goto 10, 3) := by decide +kernel
theorem d10_together_29 : decode m10_together.2.1 29 = .ok (.aload 4, 2) := by decide +kernel
theorem d10_together_31 : decode m10_together.2.1 31 = .ok (.iload_n 2, 1) := by decide +kernel
theorem d10_together_32 : decode m10_together.2.1 32 = .ok (.iload_n 3, 1) := by decide +kernel
theorem d10_together_33 : decode m10_together.2.1 33 = .ok (.invokevirtual 147, 3) := by decide +kernel
theorem d10_together_36 : decode m10_together.2.1 36 = .ok (.ireturn, 1) := by decide +kernel
def f10_together (x1 : Int) (x2 : Int) (x3 : Int) (h : AH) : Option (Int × AH) :=
  bnd (f8_villageAt 1 x1 h) fun r1 h2 =>
  if r1 < 0 then
    some ((-1), h2)
  else
    bnd (f9_hasCouple r1.toNat x2 x3 h2) fun r8 h9 =>
    if ¬ w32 r8 = 0 then
      bnd (f9_burningOnAll r1.toNat x2 x3 h9) fun r13 h14 =>
      some (r13, h14)
    else
      some ((-1), h9)
set_option maxRecDepth 100000 in
theorem c10_together (l : Launch) (G : Geo) (x1 : Int) (x2 : Int) (x3 : Int) (h : AH) : Con l G m10_together rvI 6 [vA G 0, vI x1, vI x2, vI x3] h (f10_together x1 x2 x3 h) := by
  have hd : 6 ≤ 6 := Nat.le_refl _
  refine con_I rfl (by decide) rfl rfl (Nat.le_of_ble_eq_true rfl) (L := [some (vA G 0), some (vI x1), some (vI x2), some (vI x3), none]) ?_
  unfold f10_together
  refine den_aload_n (pc := 0) d10_together_0 rfl rfl ?_
  refine den_getR (pc := 1) (b := 1) fa_10_10 (ok_0 _) rfl d10_together_1 ?_
  refine den_iload_n (pc := 4) d10_together_4 rfl rfl ?_
  refine den_callVR (pc := 5) (As := [vI x1]) fv_10_101 rfl rfl (ok_1 _) (Nat.le_of_ble_eq_true rfl) (Nat.le_trans (by decide) hd) d10_together_5 (c8_villageAt l G 1 x1 h (ok_1 _)) (fun r1 h2 m3 o4 => ?_)
  have q5 := RO.v o4
  refine den_astoreR (pc := 8) (L2 := [some (vA G 0), some (vI x1), some (vI x2), some (vI x3), some (vR G r1)]) d10_together_8 (by decide) rfl ?_
  refine den_aloadR (pc := 10) d10_together_10 rfl ?_
  refine den_ifnull (pc := 12) (tgt := 25) d10_together_12 (by decide) (fun _ => ?_) (fun n6 => ?_)
  · refine den_iconst (pc := 25) d10_together_25 ?_
    refine den_goto (pc := 26) (tgt := 36) d10_together_26 (by decide) ?_
    exact den_iret (pc := 36) rfl d10_together_36
  · rw [vR_pos G n6]
    have q7 := Or.resolve_left q5 n6
    refine den_aload (pc := 15) d10_together_15 rfl ?_
    refine den_iload_n (pc := 17) d10_together_17 rfl rfl ?_
    refine den_iload_n (pc := 18) d10_together_18 rfl rfl ?_
    refine den_callVI (pc := 19) (As := [vI x2, vI x3]) fv_10_143 rfl rfl q7 (Nat.le_of_ble_eq_true rfl) (Nat.le_trans (by decide) hd) d10_together_19 (c9_hasCouple l G r1.toNat x2 x3 h2 q7) (fun r8 h9 m10 o11 => ?_)
    have q12 := ok.mono q7 m10
    refine den_if_ne (pc := 22) (tgt := 29) d10_together_22 (by decide) rfl (fun _ => ?_) (fun _ => ?_)
    · refine den_aload (pc := 29) d10_together_29 rfl ?_
      refine den_iload_n (pc := 31) d10_together_31 rfl rfl ?_
      refine den_iload_n (pc := 32) d10_together_32 rfl rfl ?_
      refine den_callVI (pc := 33) (As := [vI x2, vI x3]) fv_10_147 rfl rfl q12 (Nat.le_of_ble_eq_true rfl) (Nat.le_trans (by decide) hd) d10_together_33 (c9_burningOnAll l G r1.toNat x2 x3 h9 q12) (fun r13 h14 m15 o16 => ?_)
      have q17 := ok.mono q12 m15
      exact den_iret (pc := 36) rfl d10_together_36
    · refine den_iconst (pc := 25) d10_together_25 ?_
      refine den_goto (pc := 26) (tgt := 36) d10_together_26 (by decide) ?_
      exact den_iret (pc := 36) rfl d10_together_36
theorem d10_plan_0 : decode m10_plan.2.1 0 = .ok (.aload_n 0, 1) := by decide +kernel
theorem d10_plan_1 : decode m10_plan.2.1 1 = .ok (.getfield 10, 3) := by decide +kernel
theorem d10_plan_4 : decode m10_plan.2.1 4 = .ok (.iload_n 1, 1) := by decide +kernel
theorem d10_plan_5 : decode m10_plan.2.1 5 = .ok (.invokevirtual 101, 3) := by decide +kernel
theorem d10_plan_8 : decode m10_plan.2.1 8 = .ok (.astore_n 3, 1) := by decide +kernel
theorem d10_plan_9 : decode m10_plan.2.1 9 = .ok (.aload_n 3, 1) := by decide +kernel
theorem d10_plan_10 : decode m10_plan.2.1 10 = .ok (.ifnull 27, 3) := by decide +kernel
theorem d10_plan_13 : decode m10_plan.2.1 13 = .ok (.iload_n 2, 1) := by decide +kernel
theorem d10_plan_14 : decode m10_plan.2.1 14 = .ok (.iconst (-1), 1) := by decide +kernel
theorem d10_plan_15 : decode m10_plan.2.1 15 = .ok (.if_icmp .eq 11, 3) := by decide +kernel
theorem d10_plan_18 : decode m10_plan.2.1 18 = .ok (.aload_n 3, 1) := by decide +kernel
theorem d10_plan_19 : decode m10_plan.2.1 19 = .ok (.iload_n 2, 1) := by decide +kernel
theorem d10_plan_20 : decode m10_plan.2.1 20 = .ok (.invokevirtual 150, 3) := by decide +kernel
theorem d10_plan_23 : decode m10_plan.2.1 23 = .ok (.ifCond .eq 14, 3) := by decide +kernel
theorem d10_plan_26 : decode m10_plan.2.1 26 = .ok (.aload_n 0, 1) := by decide +kernel
theorem d10_plan_27 : decode m10_plan.2.1 27 = .ok (.getfield 44, 3) := by decide +kernel
theorem d10_plan_30 : decode m10_plan.2.1 30 = .ok (.aload_n 3, 1) := by decide +kernel
theorem d10_plan_31 : decode m10_plan.2.1 31 = .ok (.invokevirtual 154, 3) := by decide +kernel
theorem d10_plan_34 : decode m10_plan.2.1 34 = .ok (.ifCond .ne 5, 3) := by decide +kernel
theorem d10_plan_37 : decode m10_plan.2.1 37 = .ok (.iconst (-1), 1) := by decide +kernel
theorem d10_plan_38 : decode m10_plan.2.1 38 = .ok (.ireturn, 1) := by decide +kernel
theorem d10_plan_39 : decode m10_plan.2.1 39 = .ok (.iload_n 2, 1) := by decide +kernel
theorem d10_plan_40 : decode m10_plan.2.1 40 = .ok (.iconst (-1), 1) := by decide +kernel
theorem d10_plan_41 : decode m10_plan.2.1 41 = .ok (.if_icmp .ne 13, 3) := by decide +kernel
theorem d10_plan_44 : decode m10_plan.2.1 44 = .ok (.aload_n 0, 1) := by decide +kernel
theorem d10_plan_45 : decode m10_plan.2.1 45 = .ok (.getfield 44, 3) := by decide +kernel
theorem d10_plan_48 : decode m10_plan.2.1 48 = .ok (.getfield 158, 3) := by decide +kernel
theorem d10_plan_51 : decode m10_plan.2.1 51 = .ok (.goto 12, 3) := by decide +kernel
theorem d10_plan_54 : decode m10_plan.2.1 54 = .ok (.aload_n 0, 1) := by decide +kernel
theorem d10_plan_55 : decode m10_plan.2.1 55 = .ok (.getfield 44, 3) := by decide +kernel
theorem d10_plan_58 : decode m10_plan.2.1 58 = .ok (.getfield 161, 3) := by decide +kernel
theorem d10_plan_61 : decode m10_plan.2.1 61 = .ok (.iload_n 2, 1) := by decide +kernel
theorem d10_plan_62 : decode m10_plan.2.1 62 = .ok (.iaload, 1) := by decide +kernel
theorem d10_plan_63 : decode m10_plan.2.1 63 = .ok (.ireturn, 1) := by decide +kernel
def b10_plan_26 (x2 : Int) (x3 : Nat) (h : AH) : Option (Int × AH) :=
  bnd (f4_arrange x3 h) fun r1 h2 =>
  if ¬ w32 r1 = 0 then
    if ¬ w32 x2 = (-1) then
      asrt (0 ≤ w32 x2 ∧ w32 x2 < 4) <|
      some (h2.2 54 (w32 x2).toNat, h2)
    else
      some (h2.2 53 2, h2)
  else
    some ((-1), h2)
set_option maxRecDepth 100000 in
theorem t10_plan_26 (l : Launch) (G : Geo) (d : Nat) (hd : 12 ≤ d) (x2 : Int) (x3 : Nat) (h : AH) (kx3 : ok h.1 x3 9) : Den l G m10_plan rvI d 26 [some (vA G 0), none, some (vI x2), some (vA G x3)] [] h (b10_plan_26 x2 x3 h) := by
  unfold b10_plan_26
  refine den_aload_n (pc := 26) d10_plan_26 rfl rfl ?_
  refine den_getR (pc := 27) (b := 53) fa_10_44 (ok_0 _) rfl d10_plan_27 ?_
  refine den_aload_n (pc := 30) d10_plan_30 rfl rfl ?_
  refine den_callVI (pc := 31) (As := [vA G x3]) fv_10_154 rfl rfl (ok_53 _) (Nat.le_of_ble_eq_true rfl) (Nat.le_trans (by decide) hd) d10_plan_31 (c4_arrange l G x3 h kx3) (fun r1 h2 m3 o4 => ?_)
  have q5 := ok.mono kx3 m3
  refine den_if_ne (pc := 34) (tgt := 39) d10_plan_34 (by decide) rfl (fun _ => ?_) (fun _ => ?_)
  · refine den_iload_n (pc := 39) d10_plan_39 rfl rfl ?_
    refine den_iconst (pc := 40) d10_plan_40 ?_
    refine den_icmp_ne (pc := 41) (tgt := 54) d10_plan_41 (by decide) rfl (by decide) (fun _ => ?_) (fun _ => ?_)
    · refine den_aload_n (pc := 54) d10_plan_54 rfl rfl ?_
      refine den_getR (pc := 55) (b := 53) fa_10_44 (ok_0 _) rfl d10_plan_55 ?_
      refine den_getR (pc := 58) (b := 54) fa_10_161 (ok_53 _) rfl d10_plan_58 ?_
      refine den_iload_n (pc := 61) d10_plan_61 rfl rfl ?_
      refine den_asrt (fun a6 => ?_)
      refine den_iaload (pc := 62) sh_54 (sz_lt (by decide)) rfl a6 d10_plan_62 ?_
      exact den_iret (pc := 63) rfl d10_plan_63
    · refine den_aload_n (pc := 44) d10_plan_44 rfl rfl ?_
      refine den_getR (pc := 45) (b := 53) fa_10_44 (ok_0 _) rfl d10_plan_45 ?_
      refine den_getI (pc := 48) fa_10_158 (ok_53 _) d10_plan_48 ?_
      refine den_goto (pc := 51) (tgt := 63) d10_plan_51 (by decide) ?_
      exact den_iret (pc := 63) rfl d10_plan_63
  · refine den_iconst (pc := 37) d10_plan_37 ?_
    exact den_iret (pc := 38) rfl d10_plan_38
def f10_plan (x1 : Int) (x2 : Int) (h : AH) : Option (Int × AH) :=
  bnd (f8_villageAt 1 x1 h) fun r7 h8 =>
  if r7 < 0 then
    some ((-1), h8)
  else
    if w32 x2 = (-1) then
      b10_plan_26 x2 r7.toNat h8
    else
      bnd (f9_hasHearth r7.toNat x2 h8) fun r14 h15 =>
      if w32 r14 = 0 then
        some ((-1), h15)
      else
        b10_plan_26 x2 r7.toNat h15
set_option maxRecDepth 100000 in
theorem c10_plan (l : Launch) (G : Geo) (x1 : Int) (x2 : Int) (h : AH) : Con l G m10_plan rvI 12 [vA G 0, vI x1, vI x2] h (f10_plan x1 x2 h) := by
  have hd : 12 ≤ 12 := Nat.le_refl _
  refine con_I rfl (by decide) rfl rfl (Nat.le_of_ble_eq_true rfl) (L := [some (vA G 0), some (vI x1), some (vI x2), none]) ?_
  unfold f10_plan
  refine den_aload_n (pc := 0) d10_plan_0 rfl rfl ?_
  refine den_getR (pc := 1) (b := 1) fa_10_10 (ok_0 _) rfl d10_plan_1 ?_
  refine den_iload_n (pc := 4) d10_plan_4 rfl rfl ?_
  refine den_callVR (pc := 5) (As := [vI x1]) fv_10_101 rfl rfl (ok_1 _) (Nat.le_of_ble_eq_true rfl) (Nat.le_trans (by decide) hd) d10_plan_5 (c8_villageAt l G 1 x1 h (ok_1 _)) (fun r7 h8 m9 o10 => ?_)
  have q11 := RO.v o10
  refine den_astoreR_n (pc := 8) (L2 := [some (vA G 0), some (vI x1), some (vI x2), some (vR G r7)]) d10_plan_8 rfl (by decide) rfl ?_
  refine den_aloadR_n (pc := 9) d10_plan_9 rfl rfl ?_
  refine den_ifnull (pc := 10) (tgt := 37) d10_plan_10 (by decide) (fun _ => ?_) (fun n12 => ?_)
  · refine den_iconst (pc := 37) d10_plan_37 ?_
    exact den_iret (pc := 38) rfl d10_plan_38
  · rw [vR_pos G n12]
    have q13 := Or.resolve_left q11 n12
    refine den_iload_n (pc := 13) d10_plan_13 rfl rfl ?_
    refine den_iconst (pc := 14) d10_plan_14 ?_
    refine den_icmp_eq (pc := 15) (tgt := 26) d10_plan_15 (by decide) rfl (by decide) (fun _ => ?_) (fun _ => ?_)
    · refine den_wk [true, false, true, true] rfl ?_
      exact t10_plan_26 l G _ hd x2 r7.toNat h8 q13
    · refine den_aload_n (pc := 18) d10_plan_18 rfl rfl ?_
      refine den_iload_n (pc := 19) d10_plan_19 rfl rfl ?_
      refine den_callVI (pc := 20) (As := [vI x2]) fv_10_150 rfl rfl q13 (Nat.le_of_ble_eq_true rfl) (Nat.le_trans (by decide) hd) d10_plan_20 (c9_hasHearth l G r7.toNat x2 h8 q13) (fun r14 h15 m16 o17 => ?_)
      have q18 := ok.mono q13 m16
      refine den_if_eq (pc := 23) (tgt := 37) d10_plan_23 (by decide) rfl (fun _ => ?_) (fun _ => ?_)
      · refine den_iconst (pc := 37) d10_plan_37 ?_
        exact den_iret (pc := 38) rfl d10_plan_38
      · refine den_wk [true, false, true, true] rfl ?_
        exact t10_plan_26 l G _ hd x2 r7.toNat h15 q18
theorem d10_married_0 : decode m10_married.2.1 0 = .ok (.aload_n 0, 1) := by decide +kernel
theorem d10_married_1 : decode m10_married.2.1 1 = .ok (.getfield 10, 3) := by decide +kernel
theorem d10_married_4 : decode m10_married.2.1 4 = .ok (.iload_n 1, 1) := by decide +kernel
theorem d10_married_5 : decode m10_married.2.1 5 = .ok (.invokevirtual 101, 3) := by decide +kernel
theorem d10_married_8 : decode m10_married.2.1 8 = .ok (.astore_n 3, 1) := by decide +kernel
theorem d10_married_9 : decode m10_married.2.1 9 = .ok (.aload_n 3, 1) := by decide +kernel
theorem d10_married_10 : decode m10_married.2.1 10 = .ok (.ifnull 16, 3) := by decide +kernel
theorem d10_married_13 : decode m10_married.2.1 13 = .ok (.iload_n 2, 1) := by decide +kernel
theorem d10_married_14 : decode m10_married.2.1 14 = .ok (.iconst (-1), 1) := by decide +kernel
theorem d10_married_15 : decode m10_married.2.1 15 = .ok (.if_icmp .eq 14, 3) := by decide +kernel
theorem d10_married_18 : decode m10_married.2.1 18 = .ok (.aload_n 3, 1) := by decide +kernel
theorem d10_married_19 : decode m10_married.2.1 19 = .ok (.iload_n 2, 1) := by decide +kernel
theorem d10_married_20 : decode m10_married.2.1 20 = .ok (.invokevirtual 165, 3) := by decide +kernel
theorem d10_married_23 : decode m10_married.2.1 23 = .ok (.ifCond .ne 6, 3) := by decide +kernel
theorem d10_married_26 : decode m10_married.2.1 26 = .ok (.bipush (-2), 2) := by decide +kernel
theorem d10_married_28 : decode m10_married.2.1 28 = .ok (.ireturn, 1) := by decide +kernel
theorem d10_married_29 : decode m10_married.2.1 29 = .ok (.aload_n 0, 1) := by decide +kernel
theorem d10_married_30 : decode m10_married.2.1 30 = .ok (.getfield 37, 3) := by decide +kernel
theorem d10_married_33 : decode m10_married.2.1 33 = .ok (.aload_n 3, 1) := by decide +kernel
theorem d10_married_34 : decode m10_married.2.1 34 = .ok (.invokevirtual 168, 3) := by decide +kernel
theorem d10_married_37 : decode m10_married.2.1 37 = .ok (.iload_n 2, 1) := by decide +kernel
theorem d10_married_38 : decode m10_married.2.1 38 = .ok (.iconst (-1), 1) := by decide +kernel
theorem d10_married_39 : decode m10_married.2.1 39 = .ok (.if_icmp .ne 11, 3) := by decide +kernel
theorem d10_married_42 : decode m10_married.2.1 42 = .ok (.aload_n 0, 1) := by decide +kernel
theorem d10_married_43 : decode m10_married.2.1 43 = .ok (.getfield 37, 3) := by decide +kernel
theorem d10_married_46 : decode m10_married.2.1 46 = .ok (.invokevirtual 172, 3) := by decide +kernel
theorem d10_married_49 : decode m10_married.2.1 49 = .ok (.ireturn, 1) := by decide +kernel
theorem d10_married_50 : decode m10_married.2.1 50 = .ok (.aload_n 0, 1) := by decide +kernel
theorem d10_married_51 : decode m10_married.2.1 51 = .ok (.getfield 37, 3) := by decide +kernel
theorem d10_married_54 : decode m10_married.2.1 54 = .ok (.invokevirtual 176, 3) := by decide +kernel
theorem d10_married_57 : decode m10_married.2.1 57 = .ok (.aload_n 0, 1) := by decide +kernel
theorem d10_married_58 : decode m10_married.2.1 58 = .ok (.getfield 37, 3) := by decide +kernel
theorem d10_married_61 : decode m10_married.2.1 61 = .ok (.getfield 179, 3) := by decide +kernel
theorem d10_married_64 : decode m10_married.2.1 64 = .ok (.iload_n 2, 1) := by decide +kernel
theorem d10_married_65 : decode m10_married.2.1 65 = .ok (.iaload, 1) := by decide +kernel
theorem d10_married_66 : decode m10_married.2.1 66 = .ok (.ireturn, 1) := by decide +kernel
def b10_married_29 (x2 : Int) (x3 : Nat) (h : AH) : Option (Int × AH) :=
  bnd (f1_gatherTogether x3 h) fun r1 h2 =>
  if ¬ w32 x2 = (-1) then
    bnd (f1_marry h2) fun r6 h7 =>
    asrt (0 ≤ w32 x2 ∧ w32 x2 < 8) <|
    some (h7.2 51 (w32 x2).toNat, h7)
  else
    bnd (f1_mostInAll h2) fun r12 h13 =>
    some (r12, h13)
set_option maxRecDepth 100000 in
theorem t10_married_29 (l : Launch) (G : Geo) (d : Nat) (hd : 15 ≤ d) (x2 : Int) (x3 : Nat) (h : AH) (kx3 : ok h.1 x3 9) : Den l G m10_married rvI d 29 [some (vA G 0), none, some (vI x2), some (vA G x3)] [] h (b10_married_29 x2 x3 h) := by
  unfold b10_married_29
  refine den_aload_n (pc := 29) d10_married_29 rfl rfl ?_
  refine den_getR (pc := 30) (b := 50) fa_10_37 (ok_0 _) rfl d10_married_30 ?_
  refine den_aload_n (pc := 33) d10_married_33 rfl rfl ?_
  refine den_callVV (pc := 34) (As := [vA G x3]) fv_10_168 rfl rfl (ok_50 _) (Nat.le_of_ble_eq_true rfl) (Nat.le_trans (by decide) hd) d10_married_34 (c1_gatherTogether l G x3 h kx3) (fun r1 h2 m3 o4 => ?_)
  have q5 := ok.mono kx3 m3
  refine den_iload_n (pc := 37) d10_married_37 rfl rfl ?_
  refine den_iconst (pc := 38) d10_married_38 ?_
  refine den_icmp_ne (pc := 39) (tgt := 50) d10_married_39 (by decide) rfl (by decide) (fun _ => ?_) (fun _ => ?_)
  · refine den_aload_n (pc := 50) d10_married_50 rfl rfl ?_
    refine den_getR (pc := 51) (b := 50) fa_10_37 (ok_0 _) rfl d10_married_51 ?_
    refine den_callVV (pc := 54) (As := []) fv_10_176 rfl rfl (ok_50 _) (Nat.le_of_ble_eq_true rfl) (Nat.le_trans (by decide) hd) d10_married_54 (c1_marry l G h2) (fun r6 h7 m8 o9 => ?_)
    have q10 := ok.mono q5 m8
    refine den_aload_n (pc := 57) d10_married_57 rfl rfl ?_
    refine den_getR (pc := 58) (b := 50) fa_10_37 (ok_0 _) rfl d10_married_58 ?_
    refine den_getR (pc := 61) (b := 51) fa_10_179 (ok_50 _) rfl d10_married_61 ?_
    refine den_iload_n (pc := 64) d10_married_64 rfl rfl ?_
    refine den_asrt (fun a11 => ?_)
    refine den_iaload (pc := 65) sh_51 (sz_lt (by decide)) rfl a11 d10_married_65 ?_
    exact den_iret (pc := 66) rfl d10_married_66
  · refine den_aload_n (pc := 42) d10_married_42 rfl rfl ?_
    refine den_getR (pc := 43) (b := 50) fa_10_37 (ok_0 _) rfl d10_married_43 ?_
    refine den_callVI (pc := 46) (As := []) fv_10_172 rfl rfl (ok_50 _) (Nat.le_of_ble_eq_true rfl) (Nat.le_trans (by decide) hd) d10_married_46 (c1_mostInAll l G h2) (fun r12 h13 m14 o15 => ?_)
    have q16 := ok.mono q5 m14
    exact den_iret (pc := 49) rfl d10_married_49
def f10_married (x1 : Int) (x2 : Int) (h : AH) : Option (Int × AH) :=
  bnd (f8_villageAt 1 x1 h) fun r17 h18 =>
  if r17 < 0 then
    some ((-2), h18)
  else
    if w32 x2 = (-1) then
      b10_married_29 x2 r17.toNat h18
    else
      bnd (f9_hasPerson r17.toNat x2 h18) fun r24 h25 =>
      if ¬ w32 r24 = 0 then
        b10_married_29 x2 r17.toNat h25
      else
        some ((-2), h25)
set_option maxRecDepth 100000 in
theorem c10_married (l : Launch) (G : Geo) (x1 : Int) (x2 : Int) (h : AH) : Con l G m10_married rvI 15 [vA G 0, vI x1, vI x2] h (f10_married x1 x2 h) := by
  have hd : 15 ≤ 15 := Nat.le_refl _
  refine con_I rfl (by decide) rfl rfl (Nat.le_of_ble_eq_true rfl) (L := [some (vA G 0), some (vI x1), some (vI x2), none]) ?_
  unfold f10_married
  refine den_aload_n (pc := 0) d10_married_0 rfl rfl ?_
  refine den_getR (pc := 1) (b := 1) fa_10_10 (ok_0 _) rfl d10_married_1 ?_
  refine den_iload_n (pc := 4) d10_married_4 rfl rfl ?_
  refine den_callVR (pc := 5) (As := [vI x1]) fv_10_101 rfl rfl (ok_1 _) (Nat.le_of_ble_eq_true rfl) (Nat.le_trans (by decide) hd) d10_married_5 (c8_villageAt l G 1 x1 h (ok_1 _)) (fun r17 h18 m19 o20 => ?_)
  have q21 := RO.v o20
  refine den_astoreR_n (pc := 8) (L2 := [some (vA G 0), some (vI x1), some (vI x2), some (vR G r17)]) d10_married_8 rfl (by decide) rfl ?_
  refine den_aloadR_n (pc := 9) d10_married_9 rfl rfl ?_
  refine den_ifnull (pc := 10) (tgt := 26) d10_married_10 (by decide) (fun _ => ?_) (fun n22 => ?_)
  · refine den_bipush (pc := 26) d10_married_26 (by decide) ?_
    exact den_iret (pc := 28) rfl d10_married_28
  · rw [vR_pos G n22]
    have q23 := Or.resolve_left q21 n22
    refine den_iload_n (pc := 13) d10_married_13 rfl rfl ?_
    refine den_iconst (pc := 14) d10_married_14 ?_
    refine den_icmp_eq (pc := 15) (tgt := 29) d10_married_15 (by decide) rfl (by decide) (fun _ => ?_) (fun _ => ?_)
    · refine den_wk [true, false, true, true] rfl ?_
      exact t10_married_29 l G _ hd x2 r17.toNat h18 q23
    · refine den_aload_n (pc := 18) d10_married_18 rfl rfl ?_
      refine den_iload_n (pc := 19) d10_married_19 rfl rfl ?_
      refine den_callVI (pc := 20) (As := [vI x2]) fv_10_165 rfl rfl q23 (Nat.le_of_ble_eq_true rfl) (Nat.le_trans (by decide) hd) d10_married_20 (c9_hasPerson l G r17.toNat x2 h18 q23) (fun r24 h25 m26 o27 => ?_)
      have q28 := ok.mono q23 m26
      refine den_if_ne (pc := 23) (tgt := 29) d10_married_23 (by decide) rfl (fun _ => ?_) (fun _ => ?_)
      · refine den_wk [true, false, true, true] rfl ?_
        exact t10_married_29 l G _ hd x2 r17.toNat h25 q28
      · refine den_bipush (pc := 26) d10_married_26 (by decide) ?_
        exact den_iret (pc := 28) rfl d10_married_28
theorem d10_lowest_0 : decode m10_lowest.2.1 0 = .ok (.lload_n 0, 1) := by decide +kernel
theorem d10_lowest_1 : decode m10_lowest.2.1 1 = .ok (.lstore 5, 2) := by decide +kernel
theorem d10_lowest_3 : decode m10_lowest.2.1 3 = .ok (.lload_n 2, 1) := by decide +kernel
theorem d10_lowest_4 : decode m10_lowest.2.1 4 = .ok (.lstore 7, 2) := by decide +kernel
theorem d10_lowest_6 : decode m10_lowest.2.1 6 = .ok (.iconst 0, 1) := by decide +kernel
theorem d10_lowest_7 : decode m10_lowest.2.1 7 = .ok (.istore 9, 2) := by decide +kernel
theorem d10_lowest_9 : decode m10_lowest.2.1 9 = .ok (.iload 9, 2) := by decide +kernel
theorem d10_lowest_11 : decode m10_lowest.2.1 11 = .ok (.sipush 200, 3) := by decide +kernel
theorem d10_lowest_14 : decode m10_lowest.2.1 14 = .ok (.if_icmp .ge 31, 3) := by decide +kernel
theorem d10_lowest_17 : decode m10_lowest.2.1 17 = .ok (.lload 7, 2) := by decide +kernel
theorem d10_lowest_19 : decode m10_lowest.2.1 19 = .ok (.lconst 0, 1) := by decide +kernel
theorem d10_lowest_20 : decode m10_lowest.2.1 20 = .ok (.lcmp, 1) := by decide +kernel
theorem d10_lowest_21 : decode m10_lowest.2.1 21 = .ok (.ifCond .eq 24, 3) := by decide +kernel
theorem d10_lowest_24 : decode m10_lowest.2.1 24 = .ok (.lload 5, 2) := by decide +kernel
theorem d10_lowest_26 : decode m10_lowest.2.1 26 = .ok (.lload 7, 2) := by decide +kernel
theorem d10_lowest_28 : decode m10_lowest.2.1 28 = .ok (.lrem, 1) := by decide +kernel
theorem d10_lowest_29 : decode m10_lowest.2.1 29 = .ok (.lstore 10, 2) := by decide +kernel
theorem d10_lowest_31 : decode m10_lowest.2.1 31 = .ok (.lload 7, 2) := by decide +kernel
theorem d10_lowest_33 : decode m10_lowest.2.1 33 = .ok (.lstore 5, 2) := by decide +kernel
theorem d10_lowest_35 : decode m10_lowest.2.1 35 = .ok (.lload 10, 2) := by decide +kernel
theorem d10_lowest_37 : decode m10_lowest.2.1 37 = .ok (.lstore 7, 2) := by decide +kernel
theorem d10_lowest_39 : decode m10_lowest.2.1 39 = .ok (.iinc 9 1, 3) := by decide +kernel
theorem d10_lowest_42 : decode m10_lowest.2.1 42 = .ok (.goto (-33), 3) := by decide +kernel
theorem d10_lowest_45 : decode m10_lowest.2.1 45 = .ok (.lload 5, 2) := by decide +kernel
theorem d10_lowest_47 : decode m10_lowest.2.1 47 = .ok (.lconst 1, 1) := by decide +kernel
theorem d10_lowest_48 : decode m10_lowest.2.1 48 = .ok (.lcmp, 1) := by decide +kernel
theorem d10_lowest_49 : decode m10_lowest.2.1 49 = .ok (.ifCond .ge 7, 3) := by decide +kernel
theorem d10_lowest_52 : decode m10_lowest.2.1 52 = .ok (.ldc2_w 182, 3) := by decide +kernel
theorem d10_lowest_55 : decode m10_lowest.2.1 55 = .ok (.lreturn, 1) := by decide +kernel
theorem d10_lowest_56 : decode m10_lowest.2.1 56 = .ok (.iload 4, 2) := by decide +kernel
theorem d10_lowest_58 : decode m10_lowest.2.1 58 = .ok (.ifCond .eq 10, 3) := by decide +kernel
theorem d10_lowest_61 : decode m10_lowest.2.1 61 = .ok (.lload_n 2, 1) := by decide +kernel
theorem d10_lowest_62 : decode m10_lowest.2.1 62 = .ok (.lload 5, 2) := by decide +kernel
theorem d10_lowest_64 : decode m10_lowest.2.1 64 = .ok (.ldiv, 1) := by decide +kernel
theorem d10_lowest_65 : decode m10_lowest.2.1 65 = .ok (.goto 7, 3) := by decide +kernel
theorem d10_lowest_68 : decode m10_lowest.2.1 68 = .ok (.lload_n 0, 1) := by decide +kernel
theorem d10_lowest_69 : decode m10_lowest.2.1 69 = .ok (.lload 5, 2) := by decide +kernel
theorem d10_lowest_71 : decode m10_lowest.2.1 71 = .ok (.ldiv, 1) := by decide +kernel
theorem d10_lowest_72 : decode m10_lowest.2.1 72 = .ok (.lreturn, 1) := by decide +kernel
def b10_lowest_45 (x0 : Int) (x2 : Int) (x4 : Int) (x5 : Int) (h : AH) : Option (Int × AH) :=
  if 0 ≤ w32 (cmp64 x5 1) then
    if w32 x4 = 0 then
      asrt (¬ w64 x5 = 0) <|
      some (dv64 x0 x5, h)
    else
      asrt (¬ w64 x5 = 0) <|
      some (dv64 x2 x5, h)
  else
    some ((-1), h)
set_option maxRecDepth 100000 in
theorem t10_lowest_45 (l : Launch) (G : Geo) (d : Nat) (hd : 2 ≤ d) (x0 : Int) (x2 : Int) (x4 : Int) (x5 : Int) (h : AH) : Den l G m10_lowest rvJ d 45 [some (vJ x0), none, some (vJ x2), none, some (vI x4), some (vJ x5), none, none, none, none, none, none] [] h (b10_lowest_45 x0 x2 x4 x5 h) := by
  unfold b10_lowest_45
  refine den_lload (pc := 45) d10_lowest_45 rfl ?_
  refine den_lconst (pc := 47) (x := 1) d10_lowest_47 (by decide) ?_
  refine den_lcmp (pc := 48) d10_lowest_48 ?_
  refine den_if_ge (pc := 49) (tgt := 56) d10_lowest_49 (by decide) rfl (fun _ => ?_) (fun _ => ?_)
  · refine den_iload (pc := 56) d10_lowest_56 rfl ?_
    refine den_if_eq (pc := 58) (tgt := 68) d10_lowest_58 (by decide) rfl (fun _ => ?_) (fun _ => ?_)
    · refine den_lload_n (pc := 68) d10_lowest_68 rfl rfl ?_
      refine den_lload (pc := 69) d10_lowest_69 rfl ?_
      refine den_asrt (fun a1 => ?_)
      refine den_ldiv (pc := 71) d10_lowest_71 a1 ?_
      exact den_lret (pc := 72) rfl d10_lowest_72
    · refine den_lload_n (pc := 61) d10_lowest_61 rfl rfl ?_
      refine den_lload (pc := 62) d10_lowest_62 rfl ?_
      refine den_asrt (fun a2 => ?_)
      refine den_ldiv (pc := 64) d10_lowest_64 a2 ?_
      refine den_goto (pc := 65) (tgt := 72) d10_lowest_65 (by decide) ?_
      exact den_lret (pc := 72) rfl d10_lowest_72
  · refine den_ldc2 (pc := 52) kl_10_182 d10_lowest_52 ?_
    exact den_lret (pc := 55) rfl d10_lowest_55
def b10_lowest_9 (rec9 : Int × Int × Int × AH → Option (Int × AH)) (x0 : Int) (x2 : Int) (x4 : Int) (x5 : Int) (x7 : Int) (x9 : Int) (h : AH) : Option (Int × AH) :=
  if 200 ≤ w32 x9 then
    b10_lowest_45 x0 x2 x4 x5 h
  else
    if w32 (cmp64 x7 0) = 0 then
      b10_lowest_45 x0 x2 x4 x5 h
    else
      asrt (¬ w64 x7 = 0) <|
      lt (rm64 x5 x7) fun u4 =>
      rec9 (x7, u4, (x9 + 1), h)
set_option maxRecDepth 100000 in
theorem t10_lowest_9 (l : Launch) (G : Geo) (d : Nat) (hd : 2 ≤ d) (x0 : Int) (x2 : Int) (x4 : Int) (x5 : Int) (x7 : Int) (x9 : Int) (rec9 : Int × Int × Int × AH → Option (Int × AH)) (H9 : ∀ (x5 : Int) (x7 : Int) (x9 : Int) (h : AH), Den l G m10_lowest rvJ d 9 [some (vJ x0), none, some (vJ x2), none, some (vI x4), some (vJ x5), none, some (vJ x7), none, some (vI x9), none, none] [] h (rec9 (x5, x7, x9, h))) (h : AH) : Den l G m10_lowest rvJ d 9 [some (vJ x0), none, some (vJ x2), none, some (vI x4), some (vJ x5), none, some (vJ x7), none, some (vI x9), none, none] [] h (b10_lowest_9 rec9 x0 x2 x4 x5 x7 x9 h) := by
  unfold b10_lowest_9
  refine den_iload (pc := 9) d10_lowest_9 rfl ?_
  refine den_sipush (pc := 11) d10_lowest_11 (by decide) ?_
  refine den_icmp_ge (pc := 14) (tgt := 45) d10_lowest_14 (by decide) rfl (by decide) (fun _ => ?_) (fun _ => ?_)
  · refine den_wk [true, true, true, true, true, true, true, false, true, false, true, true] rfl ?_
    exact t10_lowest_45 l G _ hd x0 x2 x4 x5 h
  · refine den_lload (pc := 17) d10_lowest_17 rfl ?_
    refine den_lconst (pc := 19) (x := 0) d10_lowest_19 (by decide) ?_
    refine den_lcmp (pc := 20) d10_lowest_20 ?_
    refine den_if_eq (pc := 21) (tgt := 45) d10_lowest_21 (by decide) rfl (fun _ => ?_) (fun _ => ?_)
    · refine den_wk [true, true, true, true, true, true, true, false, true, false, true, true] rfl ?_
      exact t10_lowest_45 l G _ hd x0 x2 x4 x5 h
    · refine den_lload (pc := 24) d10_lowest_24 rfl ?_
      refine den_lload (pc := 26) d10_lowest_26 rfl ?_
      refine den_asrt (fun a3 => ?_)
      refine den_lrem (pc := 28) d10_lowest_28 a3 ?_
      refine den_lstoreL (pc := 29) (L2 := fun y => [some (vJ x0), none, some (vJ x2), none, some (vI x4), some (vJ x5), none, some (vJ x7), none, some (vI x9), some (vJ y), none]) d10_lowest_29 (by decide) (fun _ => rfl) (fun u4 => ?_)
      refine den_lload (pc := 31) d10_lowest_31 rfl ?_
      refine den_lstore (pc := 33) (L2 := [some (vJ x0), none, some (vJ x2), none, some (vI x4), some (vJ x7), none, some (vJ x7), none, some (vI x9), some (vJ u4), none]) d10_lowest_33 (by decide) rfl ?_
      refine den_lload (pc := 35) d10_lowest_35 rfl ?_
      refine den_lstore (pc := 37) (L2 := [some (vJ x0), none, some (vJ x2), none, some (vI x4), some (vJ x7), none, some (vJ u4), none, some (vI x9), some (vJ u4), none]) d10_lowest_37 (by decide) rfl ?_
      refine den_iinc (pc := 39) (L2 := [some (vJ x0), none, some (vJ x2), none, some (vI x4), some (vJ x7), none, some (vJ u4), none, some (vI (x9 + 1)), some (vJ u4), none]) d10_lowest_39 (by decide) rfl rfl ?_
      refine den_goto (pc := 42) (tgt := 9) d10_lowest_42 (by decide) ?_
      refine den_wk [true, true, true, true, true, true, true, true, true, true, false, true] rfl ?_
      exact H9 x7 u4 (x9 + 1) h
def l10_lowest_9 (x0 : Int) (x2 : Int) (x4 : Int) (x5 : Int) (x7 : Int) (x9 : Int) (h : AH) : Option (Int × AH) := fx (fun rec z => b10_lowest_9 rec x0 x2 x4 z.1 z.2.1 z.2.2.1 z.2.2.2) FU (x5, x7, x9, h)
set_option maxRecDepth 100000 in
theorem tl10_lowest_9 (l : Launch) (G : Geo) (d : Nat) (hd : 2 ≤ d) (x0 : Int) (x2 : Int) (x4 : Int) : ∀ (n : Nat) (z : Int × Int × Int × AH), True → Den l G m10_lowest rvJ d 9 [some (vJ x0), none, some (vJ x2), none, some (vI x4), some (vJ z.1), none, some (vJ z.2.1), none, some (vI z.2.2.1), none, none] [] z.2.2.2 (fx (fun rec z => b10_lowest_9 rec x0 x2 x4 z.1 z.2.1 z.2.2.1 z.2.2.2) n z) :=
  den_fx (F := fun rec z => b10_lowest_9 rec x0 x2 x4 z.1 z.2.1 z.2.2.1 z.2.2.2) (P := fun z => True) (fL := fun z => [some (vJ x0), none, some (vJ x2), none, some (vI x4), some (vJ z.1), none, some (vJ z.2.1), none, some (vI z.2.2.1), none, none]) (fs := fun z => []) (fh := fun z => z.2.2.2) (fun rec hrec z hz => t10_lowest_9 l G d hd x0 x2 x4 z.1 z.2.1 z.2.2.1 rec (fun x5 x7 x9 h => hrec (x5, x7, x9, h) trivial) z.2.2.2 )
def f10_lowest (x0 : Int) (x2 : Int) (x4 : Int) (h : AH) : Option (Int × AH) :=
  l10_lowest_9 x0 x2 x4 x0 x2 0 h
set_option maxRecDepth 100000 in
theorem c10_lowest (l : Launch) (G : Geo) (x0 : Int) (x2 : Int) (x4 : Int) (h : AH) : Con l G m10_lowest rvJ 2 [vJ x0, vJ x2, vI x4] h (f10_lowest x0 x2 x4 h) := by
  have hd : 2 ≤ 2 := Nat.le_refl _
  refine con_J rfl (by decide) rfl rfl (Nat.le_of_ble_eq_true rfl) (L := [some (vJ x0), none, some (vJ x2), none, some (vI x4), none, none, none, none, none, none, none]) ?_
  unfold f10_lowest
  refine den_lload_n (pc := 0) d10_lowest_0 rfl rfl ?_
  refine den_lstore (pc := 1) (L2 := [some (vJ x0), none, some (vJ x2), none, some (vI x4), some (vJ x0), none, none, none, none, none, none]) d10_lowest_1 (by decide) rfl ?_
  refine den_lload_n (pc := 3) d10_lowest_3 rfl rfl ?_
  refine den_lstore (pc := 4) (L2 := [some (vJ x0), none, some (vJ x2), none, some (vI x4), some (vJ x0), none, some (vJ x2), none, none, none, none]) d10_lowest_4 (by decide) rfl ?_
  refine den_iconst (pc := 6) d10_lowest_6 ?_
  refine den_istore (pc := 7) (L2 := [some (vJ x0), none, some (vJ x2), none, some (vI x4), some (vJ x0), none, some (vJ x2), none, some (vI 0), none, none]) d10_lowest_7 (by decide) rfl ?_
  exact tl10_lowest_9 l G _ hd x0 x2 x4 FU (x0, x2, 0, h) trivial
theorem d10_hopes_0 : decode m10_hopes.2.1 0 = .ok (.aload_n 0, 1) := by decide +kernel
theorem d10_hopes_1 : decode m10_hopes.2.1 1 = .ok (.getfield 10, 3) := by decide +kernel
theorem d10_hopes_4 : decode m10_hopes.2.1 4 = .ok (.iload_n 1, 1) := by decide +kernel
theorem d10_hopes_5 : decode m10_hopes.2.1 5 = .ok (.invokevirtual 101, 3) := by decide +kernel
theorem d10_hopes_8 : decode m10_hopes.2.1 8 = .ok (.astore 7, 2) := by decide +kernel
theorem d10_hopes_10 : decode m10_hopes.2.1 10 = .ok (.aload 7, 2) := by decide +kernel
theorem d10_hopes_12 : decode m10_hopes.2.1 12 = .ok (.ifnull 28, 3) := by decide +kernel
theorem d10_hopes_15 : decode m10_hopes.2.1 15 = .ok (.iload 5, 2) := by decide +kernel
theorem d10_hopes_17 : decode m10_hopes.2.1 17 = .ok (.ifCond .lt 23, 3) := by decide +kernel
theorem d10_hopes_20 : decode m10_hopes.2.1 20 = .ok (.iload 5, 2) := by decide +kernel
theorem d10_hopes_22 : decode m10_hopes.2.1 22 = .ok (.bipush 10, 2) := by decide +kernel
theorem d10_hopes_24 : decode m10_hopes.2.1 24 = .ok (.if_icmp .gt 16, 3) := by decide +kernel
theorem d10_hopes_27 : decode m10_hopes.2.1 27 = .ok (.aload 7, 2) := by decide +kernel
theorem d10_hopes_29 : decode m10_hopes.2.1 29 = .ok (.iload_n 2, 1) := by decide +kernel
theorem d10_hopes_30 : decode m10_hopes.2.1 30 = .ok (.iload_n 3, 1) := by decide +kernel
theorem d10_hopes_31 : decode m10_hopes.2.1 31 = .ok (.iload 4, 2) := by decide +kernel
theorem d10_hopes_33 : decode m10_hopes.2.1 33 = .ok (.invokevirtual 111, 3) := by decide +kernel
theorem d10_hopes_36 : decode m10_hopes.2.1 36 = .ok (.iconst (-1), 1) := by decide +kernel
theorem d10_hopes_37 : decode m10_hopes.2.1 37 = .ok (.if_icmp .ne 7, 3) := by decide +kernel
theorem d10_hopes_40 : decode m10_hopes.2.1 40 = .ok (.ldc2_w 182, 3) := by decide +kernel
theorem d10_hopes_43 : decode m10_hopes.2.1 43 = .ok (.lreturn, 1) := by decide +kernel
theorem d10_hopes_44 : decode m10_hopes.2.1 44 = .ok (.lconst 0, 1) := by decide +kernel
theorem d10_hopes_45 : decode m10_hopes.2.1 45 = .ok (.lstore 8, 2) := by decide +kernel
theorem d10_hopes_47 : decode m10_hopes.2.1 47 = .ok (.lconst 1, 1) := by decide +kernel
theorem d10_hopes_48 : decode m10_hopes.2.1 48 = .ok (.lstore 10, 2) := by decide +kernel
theorem d10_hopes_50 : decode m10_hopes.2.1 50 = .ok (.bipush 8, 2) := by decide +kernel
theorem d10_hopes_52 : decode m10_hopes.2.1 52 = .ok (.istore 12, 2) := by decide +kernel
theorem d10_hopes_54 : decode m10_hopes.2.1 54 = .ok (.iload 12, 2) := by decide +kernel
theorem d10_hopes_56 : decode m10_hopes.2.1 56 = .ok (.ifCond .lt 61, 3) := by decide +kernel
theorem d10_hopes_59 : decode m10_hopes.2.1 59 = .ok (.aload 7, 2) := by decide +kernel
theorem d10_hopes_61 : decode m10_hopes.2.1 61 = .ok (.iload_n 2, 1) := by decide +kernel
theorem d10_hopes_62 : decode m10_hopes.2.1 62 = .ok (.iload_n 3, 1) := by decide +kernel
theorem d10_hopes_63 : decode m10_hopes.2.1 63 = .ok (.iload 4, 2) := by decide +kernel
theorem d10_hopes_65 : decode m10_hopes.2.1 65 = .ok (.invokevirtual 111, 3) := by decide +kernel
theorem d10_hopes_68 : decode m10_hopes.2.1 68 = .ok (.i2l, 1) := by decide +kernel
theorem d10_hopes_69 : decode m10_hopes.2.1 69 = .ok (.aload 7, 2) := by decide +kernel
theorem d10_hopes_71 : decode m10_hopes.2.1 71 = .ok (.iload 4, 2) := by decide +kernel
theorem d10_hopes_73 : decode m10_hopes.2.1 73 = .ok (.iload 12, 2) := by decide +kernel
theorem d10_hopes_75 : decode m10_hopes.2.1 75 = .ok (.invokevirtual 184, 3) := by decide +kernel
theorem d10_hopes_78 : decode m10_hopes.2.1 78 = .ok (.i2l, 1) := by decide +kernel
theorem d10_hopes_79 : decode m10_hopes.2.1 79 = .ok (.lmul, 1) := by decide +kernel
theorem d10_hopes_80 : decode m10_hopes.2.1 80 = .ok (.lstore 13, 2) := by decide +kernel
theorem d10_hopes_82 : decode m10_hopes.2.1 82 = .ok (.lload 13, 2) := by decide +kernel
theorem d10_hopes_84 : decode m10_hopes.2.1 84 = .ok (.ldc2_w 187, 3) := by decide +kernel
theorem d10_hopes_87 : decode m10_hopes.2.1 87 = .ok (.lmul, 1) := by decide +kernel
theorem d10_hopes_88 : decode m10_hopes.2.1 88 = .ok (.lload 10, 2) := by decide +kernel
theorem d10_hopes_90 : decode m10_hopes.2.1 90 = .ok (.lmul, 1) := by decide +kernel
theorem d10_hopes_91 : decode m10_hopes.2.1 91 = .ok (.bipush 10, 2) := by decide +kernel
theorem d10_hopes_93 : decode m10_hopes.2.1 93 = .ok (.iload 5, 2) := by decide +kernel
theorem d10_hopes_95 : decode m10_hopes.2.1 95 = .ok (.isub, 1) := by decide +kernel
theorem d10_hopes_96 : decode m10_hopes.2.1 96 = .ok (.i2l, 1) := by decide +kernel
theorem d10_hopes_97 : decode m10_hopes.2.1 97 = .ok (.lload 8, 2) := by decide +kernel
theorem d10_hopes_99 : decode m10_hopes.2.1 99 = .ok (.lmul, 1) := by decide +kernel
theorem d10_hopes_100 : decode m10_hopes.2.1 100 = .ok (.ladd, 1) := by decide +kernel
theorem d10_hopes_101 : decode m10_hopes.2.1 101 = .ok (.lstore 8, 2) := by decide +kernel
theorem d10_hopes_103 : decode m10_hopes.2.1 103 = .ok (.ldc2_w 187, 3) := by decide +kernel
theorem d10_hopes_106 : decode m10_hopes.2.1 106 = .ok (.lload 10, 2) := by decide +kernel
theorem d10_hopes_108 : decode m10_hopes.2.1 108 = .ok (.lmul, 1) := by decide +kernel
theorem d10_hopes_109 : decode m10_hopes.2.1 109 = .ok (.lstore 10, 2) := by decide +kernel
theorem d10_hopes_111 : decode m10_hopes.2.1 111 = .ok (.iinc 12 (-1), 3) := by decide +kernel
theorem d10_hopes_114 : decode m10_hopes.2.1 114 = .ok (.goto (-60), 3) := by decide +kernel
theorem d10_hopes_117 : decode m10_hopes.2.1 117 = .ok (.lload 8, 2) := by decide +kernel
theorem d10_hopes_119 : decode m10_hopes.2.1 119 = .ok (.lload 10, 2) := by decide +kernel
theorem d10_hopes_121 : decode m10_hopes.2.1 121 = .ok (.iload 6, 2) := by decide +kernel
theorem d10_hopes_123 : decode m10_hopes.2.1 123 = .ok (.invokestatic 189, 3) := by decide +kernel
theorem d10_hopes_126 : decode m10_hopes.2.1 126 = .ok (.lreturn, 1) := by decide +kernel
def b10_hopes_54 (rec54 : Int × Int × Int × AH → Option (Int × AH)) (x2 : Int) (x3 : Int) (x4 : Int) (x5 : Int) (x6 : Int) (x7 : Nat) (x8 : Int) (x10 : Int) (x12 : Int) (h : AH) : Option (Int × AH) :=
  if w32 x12 < 0 then
    bnd (f10_lowest x8 x10 x6 h) fun r1 h2 =>
    some (r1, h2)
  else
    bnd (f9_gap x7 x2 x3 x4 h) fun r6 h7 =>
    bnd (f9_heatAfter x7 x4 x12 h7) fun r11 h12 =>
    lt ((w32 r6) * (w32 r11)) fun u16 =>
    lt (((u16 * 10) * x10) + ((w32 (10 - x5)) * x8)) fun u17 =>
    lt (10 * x10) fun u18 =>
    rec54 (u17, u18, (x12 + (-1)), h12)
set_option maxRecDepth 100000 in
theorem t10_hopes_54 (l : Launch) (G : Geo) (d : Nat) (hd : 4 ≤ d) (x2 : Int) (x3 : Int) (x4 : Int) (x5 : Int) (x6 : Int) (x7 : Nat) (x8 : Int) (x10 : Int) (x12 : Int) (rec54 : Int × Int × Int × AH → Option (Int × AH)) (H54 : ∀ (x8 : Int) (x10 : Int) (x12 : Int) (h : AH), ok h.1 x7 9 → Den l G m10_hopes rvJ d 54 [none, none, some (vI x2), some (vI x3), some (vI x4), some (vI x5), some (vI x6), some (vA G x7), some (vJ x8), none, some (vJ x10), none, some (vI x12), none, none] [] h (rec54 (x8, x10, x12, h))) (h : AH) (kx7 : ok h.1 x7 9) : Den l G m10_hopes rvJ d 54 [none, none, some (vI x2), some (vI x3), some (vI x4), some (vI x5), some (vI x6), some (vA G x7), some (vJ x8), none, some (vJ x10), none, some (vI x12), none, none] [] h (b10_hopes_54 rec54 x2 x3 x4 x5 x6 x7 x8 x10 x12 h) := by
  unfold b10_hopes_54
  refine den_iload (pc := 54) d10_hopes_54 rfl ?_
  refine den_if_lt (pc := 56) (tgt := 117) d10_hopes_56 (by decide) rfl (fun _ => ?_) (fun _ => ?_)
  · refine den_lload (pc := 117) d10_hopes_117 rfl ?_
    refine den_lload (pc := 119) d10_hopes_119 rfl ?_
    refine den_iload (pc := 121) d10_hopes_121 rfl ?_
    refine den_callSJ (pc := 123) (As := [vJ x8, vJ x10, vI x6]) fs_10_189 rfl rfl (Nat.le_of_ble_eq_true rfl) (Nat.le_trans (by decide) hd) d10_hopes_123 (c10_lowest l G x8 x10 x6 h) (fun r1 h2 m3 o4 => ?_)
    have q5 := ok.mono kx7 m3
    exact den_lret (pc := 126) rfl d10_hopes_126
  · refine den_aload (pc := 59) d10_hopes_59 rfl ?_
    refine den_iload_n (pc := 61) d10_hopes_61 rfl rfl ?_
    refine den_iload_n (pc := 62) d10_hopes_62 rfl rfl ?_
    refine den_iload (pc := 63) d10_hopes_63 rfl ?_
    refine den_callVI (pc := 65) (As := [vI x2, vI x3, vI x4]) fv_10_111 rfl rfl kx7 (Nat.le_of_ble_eq_true rfl) (Nat.le_trans (by decide) hd) d10_hopes_65 (c9_gap l G x7 x2 x3 x4 h kx7) (fun r6 h7 m8 o9 => ?_)
    have q10 := ok.mono kx7 m8
    refine den_i2l (pc := 68) d10_hopes_68 ?_
    refine den_aload (pc := 69) d10_hopes_69 rfl ?_
    refine den_iload (pc := 71) d10_hopes_71 rfl ?_
    refine den_iload (pc := 73) d10_hopes_73 rfl ?_
    refine den_callVI (pc := 75) (As := [vI x4, vI x12]) fv_10_184 rfl rfl q10 (Nat.le_of_ble_eq_true rfl) (Nat.le_trans (by decide) hd) d10_hopes_75 (c9_heatAfter l G x7 x4 x12 h7 q10) (fun r11 h12 m13 o14 => ?_)
    have q15 := ok.mono q10 m13
    refine den_i2l (pc := 78) d10_hopes_78 ?_
    refine den_lmul (pc := 79) d10_hopes_79 ?_
    refine den_lstoreL (pc := 80) (L2 := fun y => [none, none, some (vI x2), some (vI x3), some (vI x4), some (vI x5), some (vI x6), some (vA G x7), some (vJ x8), none, some (vJ x10), none, some (vI x12), some (vJ y), none]) d10_hopes_80 (by decide) (fun _ => rfl) (fun u16 => ?_)
    refine den_lload (pc := 82) d10_hopes_82 rfl ?_
    refine den_ldc2 (pc := 84) kl_10_187 d10_hopes_84 ?_
    refine den_lmul (pc := 87) d10_hopes_87 ?_
    refine den_lload (pc := 88) d10_hopes_88 rfl ?_
    refine den_lmul (pc := 90) d10_hopes_90 ?_
    refine den_bipush (pc := 91) d10_hopes_91 (by decide) ?_
    refine den_iload (pc := 93) d10_hopes_93 rfl ?_
    refine den_isub (pc := 95) d10_hopes_95 ?_
    refine den_i2l (pc := 96) d10_hopes_96 ?_
    refine den_lload (pc := 97) d10_hopes_97 rfl ?_
    refine den_lmul (pc := 99) d10_hopes_99 ?_
    refine den_ladd (pc := 100) d10_hopes_100 ?_
    refine den_lstoreL (pc := 101) (L2 := fun y => [none, none, some (vI x2), some (vI x3), some (vI x4), some (vI x5), some (vI x6), some (vA G x7), some (vJ y), none, some (vJ x10), none, some (vI x12), some (vJ u16), none]) d10_hopes_101 (by decide) (fun _ => rfl) (fun u17 => ?_)
    refine den_ldc2 (pc := 103) kl_10_187 d10_hopes_103 ?_
    refine den_lload (pc := 106) d10_hopes_106 rfl ?_
    refine den_lmul (pc := 108) d10_hopes_108 ?_
    refine den_lstoreL (pc := 109) (L2 := fun y => [none, none, some (vI x2), some (vI x3), some (vI x4), some (vI x5), some (vI x6), some (vA G x7), some (vJ u17), none, some (vJ y), none, some (vI x12), some (vJ u16), none]) d10_hopes_109 (by decide) (fun _ => rfl) (fun u18 => ?_)
    refine den_iinc (pc := 111) (L2 := [none, none, some (vI x2), some (vI x3), some (vI x4), some (vI x5), some (vI x6), some (vA G x7), some (vJ u17), none, some (vJ u18), none, some (vI (x12 + (-1))), some (vJ u16), none]) d10_hopes_111 (by decide) rfl rfl ?_
    refine den_goto (pc := 114) (tgt := 54) d10_hopes_114 (by decide) ?_
    refine den_wk [true, true, true, true, true, true, true, true, true, true, true, true, true, false, true] rfl ?_
    exact H54 u17 u18 (x12 + (-1)) h12 q15
def l10_hopes_54 (x2 : Int) (x3 : Int) (x4 : Int) (x5 : Int) (x6 : Int) (x7 : Nat) (x8 : Int) (x10 : Int) (x12 : Int) (h : AH) : Option (Int × AH) := fx (fun rec z => b10_hopes_54 rec x2 x3 x4 x5 x6 x7 z.1 z.2.1 z.2.2.1 z.2.2.2) FU (x8, x10, x12, h)
set_option maxRecDepth 100000 in
theorem tl10_hopes_54 (l : Launch) (G : Geo) (d : Nat) (hd : 4 ≤ d) (x2 : Int) (x3 : Int) (x4 : Int) (x5 : Int) (x6 : Int) (x7 : Nat) : ∀ (n : Nat) (z : Int × Int × Int × AH), ok z.2.2.2.1 x7 9 → Den l G m10_hopes rvJ d 54 [none, none, some (vI x2), some (vI x3), some (vI x4), some (vI x5), some (vI x6), some (vA G x7), some (vJ z.1), none, some (vJ z.2.1), none, some (vI z.2.2.1), none, none] [] z.2.2.2 (fx (fun rec z => b10_hopes_54 rec x2 x3 x4 x5 x6 x7 z.1 z.2.1 z.2.2.1 z.2.2.2) n z) :=
  den_fx (F := fun rec z => b10_hopes_54 rec x2 x3 x4 x5 x6 x7 z.1 z.2.1 z.2.2.1 z.2.2.2) (P := fun z => ok z.2.2.2.1 x7 9) (fL := fun z => [none, none, some (vI x2), some (vI x3), some (vI x4), some (vI x5), some (vI x6), some (vA G x7), some (vJ z.1), none, some (vJ z.2.1), none, some (vI z.2.2.1), none, none]) (fs := fun z => []) (fh := fun z => z.2.2.2) (fun rec hrec z hz => t10_hopes_54 l G d hd x2 x3 x4 x5 x6 x7 z.1 z.2.1 z.2.2.1 rec (fun x8 x10 x12 h w0 => hrec (x8, x10, x12, h) w0) z.2.2.2 hz)
def f10_hopes (x1 : Int) (x2 : Int) (x3 : Int) (x4 : Int) (x5 : Int) (x6 : Int) (h : AH) : Option (Int × AH) :=
  bnd (f8_villageAt 1 x1 h) fun r19 h20 =>
  if r19 < 0 then
    some ((-1), h20)
  else
    if w32 x5 < 0 then
      some ((-1), h20)
    else
      if 10 < w32 x5 then
        some ((-1), h20)
      else
        bnd (f9_gap r19.toNat x2 x3 x4 h20) fun r26 h27 =>
        if ¬ w32 r26 = (-1) then
          l10_hopes_54 x2 x3 x4 x5 x6 r19.toNat 0 1 8 h27
        else
          some ((-1), h27)
set_option maxRecDepth 100000 in
theorem c10_hopes (l : Launch) (G : Geo) (x1 : Int) (x2 : Int) (x3 : Int) (x4 : Int) (x5 : Int) (x6 : Int) (h : AH) : Con l G m10_hopes rvJ 4 [vA G 0, vI x1, vI x2, vI x3, vI x4, vI x5, vI x6] h (f10_hopes x1 x2 x3 x4 x5 x6 h) := by
  have hd : 4 ≤ 4 := Nat.le_refl _
  refine con_J rfl (by decide) rfl rfl (Nat.le_of_ble_eq_true rfl) (L := [some (vA G 0), some (vI x1), some (vI x2), some (vI x3), some (vI x4), some (vI x5), some (vI x6), none, none, none, none, none, none, none, none]) ?_
  unfold f10_hopes
  refine den_aload_n (pc := 0) d10_hopes_0 rfl rfl ?_
  refine den_getR (pc := 1) (b := 1) fa_10_10 (ok_0 _) rfl d10_hopes_1 ?_
  refine den_iload_n (pc := 4) d10_hopes_4 rfl rfl ?_
  refine den_callVR (pc := 5) (As := [vI x1]) fv_10_101 rfl rfl (ok_1 _) (Nat.le_of_ble_eq_true rfl) (Nat.le_trans (by decide) hd) d10_hopes_5 (c8_villageAt l G 1 x1 h (ok_1 _)) (fun r19 h20 m21 o22 => ?_)
  have q23 := RO.v o22
  refine den_astoreR (pc := 8) (L2 := [some (vA G 0), some (vI x1), some (vI x2), some (vI x3), some (vI x4), some (vI x5), some (vI x6), some (vR G r19), none, none, none, none, none, none, none]) d10_hopes_8 (by decide) rfl ?_
  refine den_aloadR (pc := 10) d10_hopes_10 rfl ?_
  refine den_ifnull (pc := 12) (tgt := 40) d10_hopes_12 (by decide) (fun _ => ?_) (fun n24 => ?_)
  · refine den_ldc2 (pc := 40) kl_10_182 d10_hopes_40 ?_
    exact den_lret (pc := 43) rfl d10_hopes_43
  · rw [vR_pos G n24]
    have q25 := Or.resolve_left q23 n24
    refine den_iload (pc := 15) d10_hopes_15 rfl ?_
    refine den_if_lt (pc := 17) (tgt := 40) d10_hopes_17 (by decide) rfl (fun _ => ?_) (fun _ => ?_)
    · refine den_ldc2 (pc := 40) kl_10_182 d10_hopes_40 ?_
      exact den_lret (pc := 43) rfl d10_hopes_43
    · refine den_iload (pc := 20) d10_hopes_20 rfl ?_
      refine den_bipush (pc := 22) d10_hopes_22 (by decide) ?_
      refine den_icmp_gt (pc := 24) (tgt := 40) d10_hopes_24 (by decide) rfl (by decide) (fun _ => ?_) (fun _ => ?_)
      · refine den_ldc2 (pc := 40) kl_10_182 d10_hopes_40 ?_
        exact den_lret (pc := 43) rfl d10_hopes_43
      · refine den_aload (pc := 27) d10_hopes_27 rfl ?_
        refine den_iload_n (pc := 29) d10_hopes_29 rfl rfl ?_
        refine den_iload_n (pc := 30) d10_hopes_30 rfl rfl ?_
        refine den_iload (pc := 31) d10_hopes_31 rfl ?_
        refine den_callVI (pc := 33) (As := [vI x2, vI x3, vI x4]) fv_10_111 rfl rfl q25 (Nat.le_of_ble_eq_true rfl) (Nat.le_trans (by decide) hd) d10_hopes_33 (c9_gap l G r19.toNat x2 x3 x4 h20 q25) (fun r26 h27 m28 o29 => ?_)
        have q30 := ok.mono q25 m28
        refine den_iconst (pc := 36) d10_hopes_36 ?_
        refine den_icmp_ne (pc := 37) (tgt := 44) d10_hopes_37 (by decide) rfl (by decide) (fun _ => ?_) (fun _ => ?_)
        · refine den_lconst (pc := 44) (x := 0) d10_hopes_44 (by decide) ?_
          refine den_lstore (pc := 45) (L2 := [some (vA G 0), some (vI x1), some (vI x2), some (vI x3), some (vI x4), some (vI x5), some (vI x6), some (vA G r19.toNat), some (vJ 0), none, none, none, none, none, none]) d10_hopes_45 (by decide) rfl ?_
          refine den_lconst (pc := 47) (x := 1) d10_hopes_47 (by decide) ?_
          refine den_lstore (pc := 48) (L2 := [some (vA G 0), some (vI x1), some (vI x2), some (vI x3), some (vI x4), some (vI x5), some (vI x6), some (vA G r19.toNat), some (vJ 0), none, some (vJ 1), none, none, none, none]) d10_hopes_48 (by decide) rfl ?_
          refine den_bipush (pc := 50) d10_hopes_50 (by decide) ?_
          refine den_istore (pc := 52) (L2 := [some (vA G 0), some (vI x1), some (vI x2), some (vI x3), some (vI x4), some (vI x5), some (vI x6), some (vA G r19.toNat), some (vJ 0), none, some (vJ 1), none, some (vI 8), none, none]) d10_hopes_52 (by decide) rfl ?_
          refine den_wk [false, false, true, true, true, true, true, true, true, true, true, true, true, true, true] rfl ?_
          exact tl10_hopes_54 l G _ hd x2 x3 x4 x5 x6 r19.toNat FU (0, 1, 8, h27) q30
        · refine den_ldc2 (pc := 40) kl_10_182 d10_hopes_40 ?_
          exact den_lret (pc := 43) rfl d10_hopes_43
theorem d10_fact_0 : decode m10_fact.2.1 0 = .ok (.aload_n 0, 1) := by decide +kernel
theorem d10_fact_1 : decode m10_fact.2.1 1 = .ok (.getfield 10, 3) := by decide +kernel
theorem d10_fact_4 : decode m10_fact.2.1 4 = .ok (.iload_n 1, 1) := by decide +kernel
theorem d10_fact_5 : decode m10_fact.2.1 5 = .ok (.invokevirtual 193, 3) := by decide +kernel
theorem d10_fact_8 : decode m10_fact.2.1 8 = .ok (.astore 4, 2) := by decide +kernel
theorem d10_fact_10 : decode m10_fact.2.1 10 = .ok (.aload 4, 2) := by decide +kernel
theorem d10_fact_12 : decode m10_fact.2.1 12 = .ok (.ifnonnull 8, 3) := by decide +kernel
theorem d10_fact_15 : decode m10_fact.2.1 15 = .ok (.bipush (-2), 2) := by decide +kernel
theorem d10_fact_17 : decode m10_fact.2.1 17 = .ok (.goto 10, 3) := by decide +kernel
theorem d10_fact_20 : decode m10_fact.2.1 20 = .ok (.aload 4, 2) := by decide +kernel
theorem d10_fact_22 : decode m10_fact.2.1 22 = .ok (.iload_n 2, 1) := by decide +kernel
theorem d10_fact_23 : decode m10_fact.2.1 23 = .ok (.iload_n 3, 1) := by decide +kernel
theorem d10_fact_24 : decode m10_fact.2.1 24 = .ok (.invokevirtual 122, 3) := by decide +kernel
theorem d10_fact_27 : decode m10_fact.2.1 27 = .ok (.ireturn, 1) := by decide +kernel
def f10_fact (x1 : Int) (x2 : Int) (x3 : Int) (h : AH) : Option (Int × AH) :=
  bnd (f8_logAt 1 x1 h) fun r1 h2 =>
  if r1 < 0 then
    some ((-2), h2)
  else
    bnd (f6_answer r1.toNat x2 x3 h2) fun r8 h9 =>
    some (r8, h9)
set_option maxRecDepth 100000 in
theorem c10_fact (l : Launch) (G : Geo) (x1 : Int) (x2 : Int) (x3 : Int) (h : AH) : Con l G m10_fact rvI 4 [vA G 0, vI x1, vI x2, vI x3] h (f10_fact x1 x2 x3 h) := by
  have hd : 4 ≤ 4 := Nat.le_refl _
  refine con_I rfl (by decide) rfl rfl (Nat.le_of_ble_eq_true rfl) (L := [some (vA G 0), some (vI x1), some (vI x2), some (vI x3), none]) ?_
  unfold f10_fact
  refine den_aload_n (pc := 0) d10_fact_0 rfl rfl ?_
  refine den_getR (pc := 1) (b := 1) fa_10_10 (ok_0 _) rfl d10_fact_1 ?_
  refine den_iload_n (pc := 4) d10_fact_4 rfl rfl ?_
  refine den_callVR (pc := 5) (As := [vI x1]) fv_10_193 rfl rfl (ok_1 _) (Nat.le_of_ble_eq_true rfl) (Nat.le_trans (by decide) hd) d10_fact_5 (c8_logAt l G 1 x1 h (ok_1 _)) (fun r1 h2 m3 o4 => ?_)
  have q5 := RO.r o4
  refine den_astoreR (pc := 8) (L2 := [some (vA G 0), some (vI x1), some (vI x2), some (vI x3), some (vR G r1)]) d10_fact_8 (by decide) rfl ?_
  refine den_aloadR (pc := 10) d10_fact_10 rfl ?_
  refine den_ifnonnull (pc := 12) (tgt := 20) d10_fact_12 (by decide) (fun _ => ?_) (fun n6 => ?_)
  · refine den_bipush (pc := 15) d10_fact_15 (by decide) ?_
    refine den_goto (pc := 17) (tgt := 27) d10_fact_17 (by decide) ?_
    exact den_iret (pc := 27) rfl d10_fact_27
  · rw [vR_pos G n6]
    have q7 := Or.resolve_left q5 n6
    refine den_aload (pc := 20) d10_fact_20 rfl ?_
    refine den_iload_n (pc := 22) d10_fact_22 rfl rfl ?_
    refine den_iload_n (pc := 23) d10_fact_23 rfl rfl ?_
    refine den_callVI (pc := 24) (As := [vI x2, vI x3]) fv_10_122 rfl rfl q7 (Nat.le_of_ble_eq_true rfl) (Nat.le_trans (by decide) hd) d10_fact_24 (c6_answer l G r1.toNat x2 x3 h2 q7) (fun r8 h9 m10 o11 => ?_)
    have q12 := ok.mono q7 m10
    exact den_iret (pc := 27) rfl d10_fact_27
theorem d10_fits_0 : decode m10_fits.2.1 0 = .ok (.aload_n 0, 1) := by decide +kernel
theorem d10_fits_1 : decode m10_fits.2.1 1 = .ok (.getfield 10, 3) := by decide +kernel
theorem d10_fits_4 : decode m10_fits.2.1 4 = .ok (.iload_n 1, 1) := by decide +kernel
theorem d10_fits_5 : decode m10_fits.2.1 5 = .ok (.invokevirtual 101, 3) := by decide +kernel
theorem d10_fits_8 : decode m10_fits.2.1 8 = .ok (.astore 4, 2) := by decide +kernel
theorem d10_fits_10 : decode m10_fits.2.1 10 = .ok (.aload_n 0, 1) := by decide +kernel
theorem d10_fits_11 : decode m10_fits.2.1 11 = .ok (.getfield 10, 3) := by decide +kernel
theorem d10_fits_14 : decode m10_fits.2.1 14 = .ok (.iload_n 2, 1) := by decide +kernel
theorem d10_fits_15 : decode m10_fits.2.1 15 = .ok (.invokevirtual 193, 3) := by decide +kernel
theorem d10_fits_18 : decode m10_fits.2.1 18 = .ok (.astore 5, 2) := by decide +kernel
theorem d10_fits_20 : decode m10_fits.2.1 20 = .ok (.aload 4, 2) := by decide +kernel
theorem d10_fits_22 : decode m10_fits.2.1 22 = .ok (.ifnull 22, 3) := by decide +kernel
theorem d10_fits_25 : decode m10_fits.2.1 25 = .ok (.aload 5, 2) := by decide +kernel
theorem d10_fits_27 : decode m10_fits.2.1 27 = .ok (.ifnull 17, 3) := by decide +kernel
theorem d10_fits_30 : decode m10_fits.2.1 30 = .ok (.aload_n 0, 1) := by decide +kernel
theorem d10_fits_31 : decode m10_fits.2.1 31 = .ok (.getfield 65, 3) := by decide +kernel
theorem d10_fits_34 : decode m10_fits.2.1 34 = .ok (.aload 4, 2) := by decide +kernel
theorem d10_fits_36 : decode m10_fits.2.1 36 = .ok (.aload 5, 2) := by decide +kernel
theorem d10_fits_38 : decode m10_fits.2.1 38 = .ok (.invokevirtual 196, 3) := by decide +kernel
theorem d10_fits_41 : decode m10_fits.2.1 41 = .ok (.ifCond .ne 8, 3) := by decide +kernel
theorem d10_fits_44 : decode m10_fits.2.1 44 = .ok (.bipush (-2), 2) := by decide +kernel
theorem d10_fits_46 : decode m10_fits.2.1 46 = .ok (.goto 13, 3) := by decide +kernel
theorem d10_fits_49 : decode m10_fits.2.1 49 = .ok (.aload_n 0, 1) := by decide +kernel
theorem d10_fits_50 : decode m10_fits.2.1 50 = .ok (.getfield 65, 3) := by decide +kernel
theorem d10_fits_53 : decode m10_fits.2.1 53 = .ok (.aload 4, 2) := by decide +kernel
theorem d10_fits_55 : decode m10_fits.2.1 55 = .ok (.iload_n 3, 1) := by decide +kernel
theorem d10_fits_56 : decode m10_fits.2.1 56 = .ok (.invokevirtual 200, 3) := by decide +kernel
theorem d10_fits_59 : decode m10_fits.2.1 59 = .ok (.ireturn, 1) := by decide +kernel
def f10_fits (x1 : Int) (x2 : Int) (x3 : Int) (h : AH) : Option (Int × AH) :=
  bnd (f8_villageAt 1 x1 h) fun r1 h2 =>
  bnd (f8_logAt 1 x2 h2) fun r6 h7 =>
  if r1 < 0 then
    some ((-2), h7)
  else
    if r6 < 0 then
      some ((-2), h7)
    else
      bnd (f2_gather r1.toNat r6.toNat h7) fun r16 h17 =>
      if ¬ w32 r16 = 0 then
        bnd (f2_answer r1.toNat x3 h17) fun r22 h23 =>
        some (r22, h23)
      else
        some ((-2), h17)
set_option maxRecDepth 100000 in
theorem c10_fits (l : Launch) (G : Geo) (x1 : Int) (x2 : Int) (x3 : Int) (h : AH) : Con l G m10_fits rvI 8 [vA G 0, vI x1, vI x2, vI x3] h (f10_fits x1 x2 x3 h) := by
  have hd : 8 ≤ 8 := Nat.le_refl _
  refine con_I rfl (by decide) rfl rfl (Nat.le_of_ble_eq_true rfl) (L := [some (vA G 0), some (vI x1), some (vI x2), some (vI x3), none, none]) ?_
  unfold f10_fits
  refine den_aload_n (pc := 0) d10_fits_0 rfl rfl ?_
  refine den_getR (pc := 1) (b := 1) fa_10_10 (ok_0 _) rfl d10_fits_1 ?_
  refine den_iload_n (pc := 4) d10_fits_4 rfl rfl ?_
  refine den_callVR (pc := 5) (As := [vI x1]) fv_10_101 rfl rfl (ok_1 _) (Nat.le_of_ble_eq_true rfl) (Nat.le_trans (by decide) hd) d10_fits_5 (c8_villageAt l G 1 x1 h (ok_1 _)) (fun r1 h2 m3 o4 => ?_)
  have q5 := RO.v o4
  refine den_astoreR (pc := 8) (L2 := [some (vA G 0), some (vI x1), some (vI x2), some (vI x3), some (vR G r1), none]) d10_fits_8 (by decide) rfl ?_
  refine den_aload_n (pc := 10) d10_fits_10 rfl rfl ?_
  refine den_getR (pc := 11) (b := 1) fa_10_10 (ok_0 _) rfl d10_fits_11 ?_
  refine den_iload_n (pc := 14) d10_fits_14 rfl rfl ?_
  refine den_callVR (pc := 15) (As := [vI x2]) fv_10_193 rfl rfl (ok_1 _) (Nat.le_of_ble_eq_true rfl) (Nat.le_trans (by decide) hd) d10_fits_15 (c8_logAt l G 1 x2 h2 (ok_1 _)) (fun r6 h7 m8 o9 => ?_)
  have q10 := Or.imp id (fun z => ok.mono z m8) q5
  have q11 := RO.r o9
  refine den_astoreR (pc := 18) (L2 := [some (vA G 0), some (vI x1), some (vI x2), some (vI x3), some (vR G r1), some (vR G r6)]) d10_fits_18 (by decide) (by simp [st1, kl_vR]) ?_
  refine den_aloadR (pc := 20) d10_fits_20 rfl ?_
  refine den_ifnull (pc := 22) (tgt := 44) d10_fits_22 (by decide) (fun _ => ?_) (fun n12 => ?_)
  · refine den_bipush (pc := 44) d10_fits_44 (by decide) ?_
    refine den_goto (pc := 46) (tgt := 59) d10_fits_46 (by decide) ?_
    exact den_iret (pc := 59) rfl d10_fits_59
  · rw [vR_pos G n12]
    have q13 := Or.resolve_left q10 n12
    refine den_aloadR (pc := 25) d10_fits_25 rfl ?_
    refine den_ifnull (pc := 27) (tgt := 44) d10_fits_27 (by decide) (fun _ => ?_) (fun n14 => ?_)
    · refine den_bipush (pc := 44) d10_fits_44 (by decide) ?_
      refine den_goto (pc := 46) (tgt := 59) d10_fits_46 (by decide) ?_
      exact den_iret (pc := 59) rfl d10_fits_59
    · rw [vR_pos G n14]
      have q15 := Or.resolve_left q11 n14
      refine den_aload_n (pc := 30) d10_fits_30 rfl rfl ?_
      refine den_getR (pc := 31) (b := 66) fa_10_65 (ok_0 _) rfl d10_fits_31 ?_
      refine den_aload (pc := 34) d10_fits_34 rfl ?_
      refine den_aload (pc := 36) d10_fits_36 rfl ?_
      refine den_callVI (pc := 38) (As := [vA G r1.toNat, vA G r6.toNat]) fv_10_196 rfl rfl (ok_66 _) (Nat.le_of_ble_eq_true rfl) (Nat.le_trans (by decide) hd) d10_fits_38 (c2_gather l G r1.toNat r6.toNat h7 q13 q15) (fun r16 h17 m18 o19 => ?_)
      have q20 := ok.mono q13 m18
      have q21 := ok.mono q15 m18
      refine den_if_ne (pc := 41) (tgt := 49) d10_fits_41 (by decide) rfl (fun _ => ?_) (fun _ => ?_)
      · refine den_aload_n (pc := 49) d10_fits_49 rfl rfl ?_
        refine den_getR (pc := 50) (b := 66) fa_10_65 (ok_0 _) rfl d10_fits_50 ?_
        refine den_aload (pc := 53) d10_fits_53 rfl ?_
        refine den_iload_n (pc := 55) d10_fits_55 rfl rfl ?_
        refine den_callVI (pc := 56) (As := [vA G r1.toNat, vI x3]) fv_10_200 rfl rfl (ok_66 _) (Nat.le_of_ble_eq_true rfl) (Nat.le_trans (by decide) hd) d10_fits_56 (c2_answer l G r1.toNat x3 h17 q20) (fun r22 h23 m24 o25 => ?_)
        have q26 := ok.mono q20 m24
        have q27 := ok.mono q21 m24
        exact den_iret (pc := 59) rfl d10_fits_59
      · refine den_bipush (pc := 44) d10_fits_44 (by decide) ?_
        refine den_goto (pc := 46) (tgt := 59) d10_fits_46 (by decide) ?_
        exact den_iret (pc := 59) rfl d10_fits_59
