/-! 8_put 9_answerNumbers 9_answer 9_quarrelsInAll 9_burningByHire 9_firstHeld 9_differing 9_middle 9_holdersOf 9_leavingForOath 9_sameKin 9_kinFrom 9_kins 9_largestKin 10_feed -/
theorem d8_put_0 : decode m8_put.2.1 0 = .ok (.iload_n 1, 1) := by decide +kernel
theorem d8_put_1 : decode m8_put.2.1 1 = .ok (.ifCond .lt 17, 3) := by decide +kernel
theorem d8_put_4 : decode m8_put.2.1 4 = .ok (.iload_n 1, 1) := by decide +kernel
theorem d8_put_5 : decode m8_put.2.1 5 = .ok (.iconst 3, 1) := by decide +kernel
theorem d8_put_6 : decode m8_put.2.1 6 = .ok (.if_icmp .ge 12, 3) := by decide +kernel
theorem d8_put_9 : decode m8_put.2.1 9 = .ok (.iload_n 2, 1) := by decide +kernel
theorem d8_put_10 : decode m8_put.2.1 10 = .ok (.ifCond .lt 8, 3) := by decide +kernel
theorem d8_put_13 : decode m8_put.2.1 13 = .ok (.iload_n 2, 1) := by decide +kernel
theorem d8_put_14 : decode m8_put.2.1 14 = .ok (.iconst 2, 1) := by decide +kernel
theorem d8_put_15 : decode m8_put.2.1 15 = .ok (.if_icmp .lt 4, 3) := by decide +kernel
theorem d8_put_18 : decode m8_put.2.1 18 = .ok (.return_, 1) := by decide +kernel
theorem d8_put_19 : decode m8_put.2.1 19 = .ok (.iload_n 1, 1) := by decide +kernel
theorem d8_put_20 : decode m8_put.2.1 20 = .ok (.ifCond .ne 19, 3) := by decide +kernel
theorem d8_put_23 : decode m8_put.2.1 23 = .ok (.aload_n 0, 1) := by decide +kernel
theorem d8_put_24 : decode m8_put.2.1 24 = .ok (.getfield 25, 3) := by decide +kernel
theorem d8_put_27 : decode m8_put.2.1 27 = .ok (.iload_n 2, 1) := by decide +kernel
theorem d8_put_28 : decode m8_put.2.1 28 = .ok (.aaload, 1) := by decide +kernel
theorem d8_put_29 : decode m8_put.2.1 29 = .ok (.aload_n 3, 1) := by decide +kernel
theorem d8_put_30 : decode m8_put.2.1 30 = .ok (.getfield 65, 3) := by decide +kernel
theorem d8_put_33 : decode m8_put.2.1 33 = .ok (.invokevirtual 54, 3) := by decide +kernel
theorem d8_put_36 : decode m8_put.2.1 36 = .ok (.goto 37, 3) := by decide +kernel
theorem d8_put_39 : decode m8_put.2.1 39 = .ok (.iload_n 1, 1) := by decide +kernel
theorem d8_put_40 : decode m8_put.2.1 40 = .ok (.iconst 1, 1) := by decide +kernel
theorem d8_put_41 : decode m8_put.2.1 41 = .ok (.if_icmp .ne 19, 3) := by decide +kernel
theorem d8_put_44 : decode m8_put.2.1 44 = .ok (.aload_n 0, 1) := by decide +kernel
theorem d8_put_45 : decode m8_put.2.1 45 = .ok (.getfield 31, 3) := by decide +kernel
theorem d8_put_48 : decode m8_put.2.1 48 = .ok (.iload_n 2, 1) := by decide +kernel
theorem d8_put_49 : decode m8_put.2.1 49 = .ok (.aaload, 1) := by decide +kernel
theorem d8_put_50 : decode m8_put.2.1 50 = .ok (.aload_n 3, 1) := by decide +kernel
theorem d8_put_51 : decode m8_put.2.1 51 = .ok (.getfield 71, 3) := by decide +kernel
theorem d8_put_54 : decode m8_put.2.1 54 = .ok (.invokevirtual 58, 3) := by decide +kernel
theorem d8_put_57 : decode m8_put.2.1 57 = .ok (.goto 16, 3) := by decide +kernel
theorem d8_put_60 : decode m8_put.2.1 60 = .ok (.aload_n 0, 1) := by decide +kernel
theorem d8_put_61 : decode m8_put.2.1 61 = .ok (.getfield 35, 3) := by decide +kernel
theorem d8_put_64 : decode m8_put.2.1 64 = .ok (.iload_n 2, 1) := by decide +kernel
theorem d8_put_65 : decode m8_put.2.1 65 = .ok (.aaload, 1) := by decide +kernel
theorem d8_put_66 : decode m8_put.2.1 66 = .ok (.aload_n 3, 1) := by decide +kernel
theorem d8_put_67 : decode m8_put.2.1 67 = .ok (.getfield 75, 3) := by decide +kernel
theorem d8_put_70 : decode m8_put.2.1 70 = .ok (.invokevirtual 58, 3) := by decide +kernel
theorem d8_put_73 : decode m8_put.2.1 73 = .ok (.aload_n 0, 1) := by decide +kernel
theorem d8_put_74 : decode m8_put.2.1 74 = .ok (.getfield 19, 3) := by decide +kernel
theorem d8_put_77 : decode m8_put.2.1 77 = .ok (.iload_n 1, 1) := by decide +kernel
theorem d8_put_78 : decode m8_put.2.1 78 = .ok (.aload_n 0, 1) := by decide +kernel
theorem d8_put_79 : decode m8_put.2.1 79 = .ok (.getfield 19, 3) := by decide +kernel
theorem d8_put_82 : decode m8_put.2.1 82 = .ok (.iload_n 1, 1) := by decide +kernel
theorem d8_put_83 : decode m8_put.2.1 83 = .ok (.iaload, 1) := by decide +kernel
theorem d8_put_84 : decode m8_put.2.1 84 = .ok (.iload_n 2, 1) := by decide +kernel
theorem d8_put_85 : decode m8_put.2.1 85 = .ok (.iconst 1, 1) := by decide +kernel
theorem d8_put_86 : decode m8_put.2.1 86 = .ok (.iadd, 1) := by decide +kernel
theorem d8_put_87 : decode m8_put.2.1 87 = .ok (.invokestatic 78, 3) := by decide +kernel
theorem d8_put_90 : decode m8_put.2.1 90 = .ok (.iastore, 1) := by decide +kernel
theorem d8_put_91 : decode m8_put.2.1 91 = .ok (.return_, 1) := by decide +kernel
def b8_put_73 (x0 : Nat) (x1 : Int) (x2 : Int) (h : AH) : Option (Int × AH) :=
  asrt (0 ≤ w32 x1 ∧ w32 x1 < 3) <|
  asrt (0 ≤ w32 x1 ∧ w32 x1 < 3) <|
  lt (wr h (x0 + 2) (w32 x1).toNat (max32 (h.2 (x0 + 2) (w32 x1).toNat) (x2 + 1))) fun h3 =>
  some (0, h3)
set_option maxRecDepth 100000 in
theorem t8_put_73 (l : Launch) (G : Geo) (d : Nat) (hd : 4 ≤ d) (x0 : Nat) (x1 : Int) (x2 : Int) (h : AH) (kx0 : ok h.1 x0 8) : Den l G m8_put rvV d 73 [some (vA G x0), some (vI x1), some (vI x2), none] [] h (b8_put_73 x0 x1 x2 h) := by
  unfold b8_put_73
  refine den_aload_n (pc := 73) d8_put_73 rfl rfl ?_
  refine den_getR (pc := 74) (b := x0 + 2) fa_8_19 kx0 rfl d8_put_74 ?_
  refine den_iload_n (pc := 77) d8_put_77 rfl rfl ?_
  refine den_aload_n (pc := 78) d8_put_78 rfl rfl ?_
  refine den_getR (pc := 79) (b := x0 + 2) fa_8_19 kx0 rfl d8_put_79 ?_
  refine den_iload_n (pc := 82) d8_put_82 rfl rfl ?_
  refine den_asrt (fun a1 => ?_)
  refine den_iaload (pc := 83) (tol_s2 kx0) (tol_l2 kx0) rfl a1 d8_put_83 ?_
  refine den_iload_n (pc := 84) d8_put_84 rfl rfl ?_
  refine den_iconst (pc := 85) d8_put_85 ?_
  refine den_iadd (pc := 86) d8_put_86 ?_
  refine den_max (pc := 87) fm_8_78 (Nat.le_of_ble_eq_true rfl) (Nat.le_trans (by decide) hd) d8_put_87 ?_
  refine den_asrt (fun a2 => ?_)
  refine den_iastore (pc := 90) (tol_s2 kx0) (tol_l2 kx0) rfl a2 d8_put_90 ?_
  refine den_ltH (fun h3 m4 => ?_)
  have q5 := ok.mono kx0 m4
  exact den_vret (pc := 91) rfl d8_put_91
def f8_put (x0 : Nat) (x1 : Int) (x2 : Int) (h : AH) : Option (Int × AH) :=
  if w32 x1 < 0 then
    some (0, h)
  else
    if 3 ≤ w32 x1 then
      some (0, h)
    else
      if w32 x2 < 0 then
        some (0, h)
      else
        if w32 x2 < 2 then
          if ¬ w32 x1 = 0 then
            if ¬ w32 x1 = 1 then
              asrt (0 ≤ w32 x2 ∧ w32 x2 < 2) <|
              bnd (f6_copy ((x0 + 5) + 9 + 10 * (w32 x2).toNat) 37 h) fun r8 h9 =>
              b8_put_73 x0 x1 x2 h9
            else
              asrt (0 ≤ w32 x2 ∧ w32 x2 < 2) <|
              bnd (f6_copy ((x0 + 4) + 8 + 10 * (w32 x2).toNat) 35 h) fun r15 h16 =>
              b8_put_73 x0 x1 x2 h16
          else
            asrt (0 ≤ w32 x2 ∧ w32 x2 < 2) <|
            bnd (f9_copy ((x0 + 3) + 3 + 10 * (w32 x2).toNat) 29 h) fun r22 h23 =>
            b8_put_73 x0 x1 x2 h23
        else
          some (0, h)
set_option maxRecDepth 100000 in
theorem c8_put (l : Launch) (G : Geo) (x0 : Nat) (x1 : Int) (x2 : Int) (h : AH) (kx0 : ok h.1 x0 8) : Con l G m8_put rvV 4 [vA G x0, vI x1, vI x2, vA G 28] h (f8_put x0 x1 x2 h) := by
  have hd : 4 ≤ 4 := Nat.le_refl _
  refine con_V rfl (by decide) rfl rfl (Nat.le_of_ble_eq_true rfl) (L := [some (vA G x0), some (vI x1), some (vI x2), some (vA G 28)]) ?_
  unfold f8_put
  refine den_iload_n (pc := 0) d8_put_0 rfl rfl ?_
  refine den_if_lt (pc := 1) (tgt := 18) d8_put_1 (by decide) rfl (fun _ => ?_) (fun _ => ?_)
  · exact den_vret (pc := 18) rfl d8_put_18
  · refine den_iload_n (pc := 4) d8_put_4 rfl rfl ?_
    refine den_iconst (pc := 5) d8_put_5 ?_
    refine den_icmp_ge (pc := 6) (tgt := 18) d8_put_6 (by decide) rfl (by decide) (fun _ => ?_) (fun _ => ?_)
    · exact den_vret (pc := 18) rfl d8_put_18
    · refine den_iload_n (pc := 9) d8_put_9 rfl rfl ?_
      refine den_if_lt (pc := 10) (tgt := 18) d8_put_10 (by decide) rfl (fun _ => ?_) (fun _ => ?_)
      · exact den_vret (pc := 18) rfl d8_put_18
      · refine den_iload_n (pc := 13) d8_put_13 rfl rfl ?_
        refine den_iconst (pc := 14) d8_put_14 ?_
        refine den_icmp_lt (pc := 15) (tgt := 19) d8_put_15 (by decide) rfl (by decide) (fun _ => ?_) (fun _ => ?_)
        · refine den_iload_n (pc := 19) d8_put_19 rfl rfl ?_
          refine den_if_ne (pc := 20) (tgt := 39) d8_put_20 (by decide) rfl (fun _ => ?_) (fun _ => ?_)
          · refine den_iload_n (pc := 39) d8_put_39 rfl rfl ?_
            refine den_iconst (pc := 40) d8_put_40 ?_
            refine den_icmp_ne (pc := 41) (tgt := 60) d8_put_41 (by decide) rfl (by decide) (fun _ => ?_) (fun _ => ?_)
            · refine den_aload_n (pc := 60) d8_put_60 rfl rfl ?_
              refine den_getR (pc := 61) (b := x0 + 5) fa_8_35 kx0 rfl d8_put_61 ?_
              refine den_iload_n (pc := 64) d8_put_64 rfl rfl ?_
              refine den_asrt (fun a6 => ?_)
              refine den_aaload6 (pc := 65) (tol_s5 kx0) (tol_l5 kx0) rfl a6 d8_put_65 ?_
              have q7 := ok_e6 (tol_s5 kx0) (tol_l5 kx0) a6
              refine den_aload_n (pc := 66) d8_put_66 rfl rfl ?_
              refine den_getR (pc := 67) (b := 37) fa_8_75 (ok_28 _) rfl d8_put_67 ?_
              refine den_callVV (pc := 70) (As := [vA G 37]) fv_8_58 rfl rfl q7 (Nat.le_of_ble_eq_true rfl) (Nat.le_trans (by decide) hd) d8_put_70 (c6_copy l G ((x0 + 5) + 9 + 10 * (w32 x2).toNat) 37 h q7 (ok_37 _)) (fun r8 h9 m10 o11 => ?_)
              have q12 := ok.mono kx0 m10
              refine den_wk [true, true, true, false] rfl ?_
              exact t8_put_73 l G _ hd x0 x1 x2 h9 q12
            · refine den_aload_n (pc := 44) d8_put_44 rfl rfl ?_
              refine den_getR (pc := 45) (b := x0 + 4) fa_8_31 kx0 rfl d8_put_45 ?_
              refine den_iload_n (pc := 48) d8_put_48 rfl rfl ?_
              refine den_asrt (fun a13 => ?_)
              refine den_aaload5 (pc := 49) (tol_s4 kx0) (tol_l4 kx0) rfl a13 d8_put_49 ?_
              have q14 := ok_e5 (tol_s4 kx0) (tol_l4 kx0) a13
              refine den_aload_n (pc := 50) d8_put_50 rfl rfl ?_
              refine den_getR (pc := 51) (b := 35) fa_8_71 (ok_28 _) rfl d8_put_51 ?_
              refine den_callVV (pc := 54) (As := [vA G 35]) fv_8_58 rfl rfl q14 (Nat.le_of_ble_eq_true rfl) (Nat.le_trans (by decide) hd) d8_put_54 (c6_copy l G ((x0 + 4) + 8 + 10 * (w32 x2).toNat) 35 h q14 (ok_35 _)) (fun r15 h16 m17 o18 => ?_)
              have q19 := ok.mono kx0 m17
              refine den_goto (pc := 57) (tgt := 73) d8_put_57 (by decide) ?_
              refine den_wk [true, true, true, false] rfl ?_
              exact t8_put_73 l G _ hd x0 x1 x2 h16 q19
          · refine den_aload_n (pc := 23) d8_put_23 rfl rfl ?_
            refine den_getR (pc := 24) (b := x0 + 3) fa_8_25 kx0 rfl d8_put_24 ?_
            refine den_iload_n (pc := 27) d8_put_27 rfl rfl ?_
            refine den_asrt (fun a20 => ?_)
            refine den_aaload4 (pc := 28) (tol_s3 kx0) (tol_l3 kx0) rfl a20 d8_put_28 ?_
            have q21 := ok_e4 (tol_s3 kx0) (tol_l3 kx0) a20
            refine den_aload_n (pc := 29) d8_put_29 rfl rfl ?_
            refine den_getR (pc := 30) (b := 29) fa_8_65 (ok_28 _) rfl d8_put_30 ?_
            refine den_callVV (pc := 33) (As := [vA G 29]) fv_8_54 rfl rfl q21 (Nat.le_of_ble_eq_true rfl) (Nat.le_trans (by decide) hd) d8_put_33 (c9_copy l G ((x0 + 3) + 3 + 10 * (w32 x2).toNat) 29 h q21 (ok_29 _)) (fun r22 h23 m24 o25 => ?_)
            have q26 := ok.mono kx0 m24
            refine den_goto (pc := 36) (tgt := 73) d8_put_36 (by decide) ?_
            refine den_wk [true, true, true, false] rfl ?_
            exact t8_put_73 l G _ hd x0 x1 x2 h23 q26
        · exact den_vret (pc := 18) rfl d8_put_18
theorem d9_answerNumbers_0 : decode m9_answerNumbers.2.1 0 = .ok (.iload_n 1, 1) := by decide +kernel
theorem d9_answerNumbers_1 : decode m9_answerNumbers.2.1 1 = .ok (.bipush 10, 2) := by decide +kernel
theorem d9_answerNumbers_3 : decode m9_answerNumbers.2.1 3 = .ok (.if_icmp .lt 24, 3) := by decide +kernel
theorem d9_answerNumbers_6 : decode m9_answerNumbers.2.1 6 = .ok (.aload_n 0, 1) := by decide +kernel
theorem d9_answerNumbers_7 : decode m9_answerNumbers.2.1 7 = .ok (.iload_n 1, 1) := by decide +kernel
theorem d9_answerNumbers_8 : decode m9_answerNumbers.2.1 8 = .ok (.bipush 10, 2) := by decide +kernel
theorem d9_answerNumbers_10 : decode m9_answerNumbers.2.1 10 = .ok (.isub, 1) := by decide +kernel
theorem d9_answerNumbers_11 : decode m9_answerNumbers.2.1 11 = .ok (.invokevirtual 56, 3) := by decide +kernel
theorem d9_answerNumbers_14 : decode m9_answerNumbers.2.1 14 = .ok (.ifCond .eq 13, 3) := by decide +kernel
theorem d9_answerNumbers_17 : decode m9_answerNumbers.2.1 17 = .ok (.aload_n 0, 1) := by decide +kernel
theorem d9_answerNumbers_18 : decode m9_answerNumbers.2.1 18 = .ok (.getfield 15, 3) := by decide +kernel
theorem d9_answerNumbers_21 : decode m9_answerNumbers.2.1 21 = .ok (.iload_n 1, 1) := by decide +kernel
theorem d9_answerNumbers_22 : decode m9_answerNumbers.2.1 22 = .ok (.bipush 10, 2) := by decide +kernel
theorem d9_answerNumbers_24 : decode m9_answerNumbers.2.1 24 = .ok (.isub, 1) := by decide +kernel
theorem d9_answerNumbers_25 : decode m9_answerNumbers.2.1 25 = .ok (.iaload, 1) := by decide +kernel
theorem d9_answerNumbers_26 : decode m9_answerNumbers.2.1 26 = .ok (.ireturn, 1) := by decide +kernel
theorem d9_answerNumbers_27 : decode m9_answerNumbers.2.1 27 = .ok (.iload_n 1, 1) := by decide +kernel
theorem d9_answerNumbers_28 : decode m9_answerNumbers.2.1 28 = .ok (.bipush 20, 2) := by decide +kernel
theorem d9_answerNumbers_30 : decode m9_answerNumbers.2.1 30 = .ok (.if_icmp .lt 24, 3) := by decide +kernel
theorem d9_answerNumbers_33 : decode m9_answerNumbers.2.1 33 = .ok (.aload_n 0, 1) := by decide +kernel
theorem d9_answerNumbers_34 : decode m9_answerNumbers.2.1 34 = .ok (.iload_n 1, 1) := by decide +kernel
theorem d9_answerNumbers_35 : decode m9_answerNumbers.2.1 35 = .ok (.bipush 20, 2) := by decide +kernel
theorem d9_answerNumbers_37 : decode m9_answerNumbers.2.1 37 = .ok (.isub, 1) := by decide +kernel
theorem d9_answerNumbers_38 : decode m9_answerNumbers.2.1 38 = .ok (.invokevirtual 56, 3) := by decide +kernel
theorem d9_answerNumbers_41 : decode m9_answerNumbers.2.1 41 = .ok (.ifCond .eq 13, 3) := by decide +kernel
theorem d9_answerNumbers_44 : decode m9_answerNumbers.2.1 44 = .ok (.aload_n 0, 1) := by decide +kernel
theorem d9_answerNumbers_45 : decode m9_answerNumbers.2.1 45 = .ok (.getfield 19, 3) := by decide +kernel
theorem d9_answerNumbers_48 : decode m9_answerNumbers.2.1 48 = .ok (.iload_n 1, 1) := by decide +kernel
theorem d9_answerNumbers_49 : decode m9_answerNumbers.2.1 49 = .ok (.bipush 20, 2) := by decide +kernel
theorem d9_answerNumbers_51 : decode m9_answerNumbers.2.1 51 = .ok (.isub, 1) := by decide +kernel
theorem d9_answerNumbers_52 : decode m9_answerNumbers.2.1 52 = .ok (.iaload, 1) := by decide +kernel
theorem d9_answerNumbers_53 : decode m9_answerNumbers.2.1 53 = .ok (.ireturn, 1) := by decide +kernel
theorem d9_answerNumbers_54 : decode m9_answerNumbers.2.1 54 = .ok (.iload_n 1, 1) := by decide +kernel
theorem d9_answerNumbers_55 : decode m9_answerNumbers.2.1 55 = .ok (.bipush 30, 2) := by decide +kernel
theorem d9_answerNumbers_57 : decode m9_answerNumbers.2.1 57 = .ok (.if_icmp .lt 24, 3) := by decide +kernel
theorem d9_answerNumbers_60 : decode m9_answerNumbers.2.1 60 = .ok (.aload_n 0, 1) := by decide +kernel
theorem d9_answerNumbers_61 : decode m9_answerNumbers.2.1 61 = .ok (.iload_n 1, 1) := by decide +kernel
theorem d9_answerNumbers_62 : decode m9_answerNumbers.2.1 62 = .ok (.bipush 30, 2) := by decide +kernel
theorem d9_answerNumbers_64 : decode m9_answerNumbers.2.1 64 = .ok (.isub, 1) := by decide +kernel
theorem d9_answerNumbers_65 : decode m9_answerNumbers.2.1 65 = .ok (.invokevirtual 66, 3) := by decide +kernel
theorem d9_answerNumbers_68 : decode m9_answerNumbers.2.1 68 = .ok (.ifCond .eq 13, 3) := by decide +kernel
theorem d9_answerNumbers_71 : decode m9_answerNumbers.2.1 71 = .ok (.aload_n 0, 1) := by decide +kernel
theorem d9_answerNumbers_72 : decode m9_answerNumbers.2.1 72 = .ok (.getfield 22, 3) := by decide +kernel
theorem d9_answerNumbers_75 : decode m9_answerNumbers.2.1 75 = .ok (.iload_n 1, 1) := by decide +kernel
theorem d9_answerNumbers_76 : decode m9_answerNumbers.2.1 76 = .ok (.bipush 30, 2) := by decide +kernel
theorem d9_answerNumbers_78 : decode m9_answerNumbers.2.1 78 = .ok (.isub, 1) := by decide +kernel
theorem d9_answerNumbers_79 : decode m9_answerNumbers.2.1 79 = .ok (.iaload, 1) := by decide +kernel
theorem d9_answerNumbers_80 : decode m9_answerNumbers.2.1 80 = .ok (.ireturn, 1) := by decide +kernel
theorem d9_answerNumbers_81 : decode m9_answerNumbers.2.1 81 = .ok (.iload_n 1, 1) := by decide +kernel
theorem d9_answerNumbers_82 : decode m9_answerNumbers.2.1 82 = .ok (.bipush 40, 2) := by decide +kernel
theorem d9_answerNumbers_84 : decode m9_answerNumbers.2.1 84 = .ok (.if_icmp .lt 24, 3) := by decide +kernel
theorem d9_answerNumbers_87 : decode m9_answerNumbers.2.1 87 = .ok (.aload_n 0, 1) := by decide +kernel
theorem d9_answerNumbers_88 : decode m9_answerNumbers.2.1 88 = .ok (.iload_n 1, 1) := by decide +kernel
theorem d9_answerNumbers_89 : decode m9_answerNumbers.2.1 89 = .ok (.bipush 40, 2) := by decide +kernel
theorem d9_answerNumbers_91 : decode m9_answerNumbers.2.1 91 = .ok (.isub, 1) := by decide +kernel
theorem d9_answerNumbers_92 : decode m9_answerNumbers.2.1 92 = .ok (.invokevirtual 66, 3) := by decide +kernel
theorem d9_answerNumbers_95 : decode m9_answerNumbers.2.1 95 = .ok (.ifCond .eq 13, 3) := by decide +kernel
theorem d9_answerNumbers_98 : decode m9_answerNumbers.2.1 98 = .ok (.aload_n 0, 1) := by decide +kernel
theorem d9_answerNumbers_99 : decode m9_answerNumbers.2.1 99 = .ok (.getfield 25, 3) := by decide +kernel
theorem d9_answerNumbers_102 : decode m9_answerNumbers.2.1 102 = .ok (.iload_n 1, 1) := by decide +kernel
theorem d9_answerNumbers_103 : decode m9_answerNumbers.2.1 103 = .ok (.bipush 40, 2) := by decide +kernel
theorem d9_answerNumbers_105 : decode m9_answerNumbers.2.1 105 = .ok (.isub, 1) := by decide +kernel
theorem d9_answerNumbers_106 : decode m9_answerNumbers.2.1 106 = .ok (.iaload, 1) := by decide +kernel
theorem d9_answerNumbers_107 : decode m9_answerNumbers.2.1 107 = .ok (.ireturn, 1) := by decide +kernel
theorem d9_answerNumbers_108 : decode m9_answerNumbers.2.1 108 = .ok (.bipush (-2), 2) := by decide +kernel
theorem d9_answerNumbers_110 : decode m9_answerNumbers.2.1 110 = .ok (.ireturn, 1) := by decide +kernel
def b9_answerNumbers_81 (x0 : Nat) (x1 : Int) (h : AH) : Option (Int × AH) :=
  if w32 x1 < 40 then
    some ((-2), h)
  else
    bnd (f9_hasHearth x0 (x1 - 40) h) fun r1 h2 =>
    if w32 r1 = 0 then
      some ((-2), h2)
    else
      asrt (0 ≤ w32 (x1 - 40) ∧ w32 (x1 - 40) < 4) <|
      some (h2.2 (x0 + 4) (w32 (x1 - 40)).toNat, h2)
set_option maxRecDepth 100000 in
theorem t9_answerNumbers_81 (l : Launch) (G : Geo) (d : Nat) (hd : 3 ≤ d) (x0 : Nat) (x1 : Int) (h : AH) (kx0 : ok h.1 x0 9) : Den l G m9_answerNumbers rvI d 81 [some (vA G x0), some (vI x1)] [] h (b9_answerNumbers_81 x0 x1 h) := by
  unfold b9_answerNumbers_81
  refine den_iload_n (pc := 81) d9_answerNumbers_81 rfl rfl ?_
  refine den_bipush (pc := 82) d9_answerNumbers_82 (by decide) ?_
  refine den_icmp_lt (pc := 84) (tgt := 108) d9_answerNumbers_84 (by decide) rfl (by decide) (fun _ => ?_) (fun _ => ?_)
  · refine den_bipush (pc := 108) d9_answerNumbers_108 (by decide) ?_
    exact den_iret (pc := 110) rfl d9_answerNumbers_110
  · refine den_aload_n (pc := 87) d9_answerNumbers_87 rfl rfl ?_
    refine den_iload_n (pc := 88) d9_answerNumbers_88 rfl rfl ?_
    refine den_bipush (pc := 89) d9_answerNumbers_89 (by decide) ?_
    refine den_isub (pc := 91) d9_answerNumbers_91 ?_
    refine den_callVI (pc := 92) (As := [vI (x1 - 40)]) fv_9_66 rfl rfl kx0 (Nat.le_of_ble_eq_true rfl) (Nat.le_trans (by decide) hd) d9_answerNumbers_92 (c9_hasHearth l G x0 (x1 - 40) h kx0) (fun r1 h2 m3 o4 => ?_)
    have q5 := ok.mono kx0 m3
    refine den_if_eq (pc := 95) (tgt := 108) d9_answerNumbers_95 (by decide) rfl (fun _ => ?_) (fun _ => ?_)
    · refine den_bipush (pc := 108) d9_answerNumbers_108 (by decide) ?_
      exact den_iret (pc := 110) rfl d9_answerNumbers_110
    · refine den_aload_n (pc := 98) d9_answerNumbers_98 rfl rfl ?_
      refine den_getR (pc := 99) (b := x0 + 4) fa_9_25 q5 rfl d9_answerNumbers_99 ?_
      refine den_iload_n (pc := 102) d9_answerNumbers_102 rfl rfl ?_
      refine den_bipush (pc := 103) d9_answerNumbers_103 (by decide) ?_
      refine den_isub (pc := 105) d9_answerNumbers_105 ?_
      refine den_asrt (fun a6 => ?_)
      refine den_iaload (pc := 106) (vil_s4 q5) (vil_l4 q5) rfl a6 d9_answerNumbers_106 ?_
      exact den_iret (pc := 107) rfl d9_answerNumbers_107
def b9_answerNumbers_54 (x0 : Nat) (x1 : Int) (h : AH) : Option (Int × AH) :=
  if w32 x1 < 30 then
    b9_answerNumbers_81 x0 x1 h
  else
    bnd (f9_hasHearth x0 (x1 - 30) h) fun r7 h8 =>
    if w32 r7 = 0 then
      b9_answerNumbers_81 x0 x1 h8
    else
      asrt (0 ≤ w32 (x1 - 30) ∧ w32 (x1 - 30) < 4) <|
      some (h8.2 (x0 + 3) (w32 (x1 - 30)).toNat, h8)
set_option maxRecDepth 100000 in
theorem t9_answerNumbers_54 (l : Launch) (G : Geo) (d : Nat) (hd : 3 ≤ d) (x0 : Nat) (x1 : Int) (h : AH) (kx0 : ok h.1 x0 9) : Den l G m9_answerNumbers rvI d 54 [some (vA G x0), some (vI x1)] [] h (b9_answerNumbers_54 x0 x1 h) := by
  unfold b9_answerNumbers_54
  refine den_iload_n (pc := 54) d9_answerNumbers_54 rfl rfl ?_
  refine den_bipush (pc := 55) d9_answerNumbers_55 (by decide) ?_
  refine den_icmp_lt (pc := 57) (tgt := 81) d9_answerNumbers_57 (by decide) rfl (by decide) (fun _ => ?_) (fun _ => ?_)
  · exact t9_answerNumbers_81 l G _ hd x0 x1 h kx0
  · refine den_aload_n (pc := 60) d9_answerNumbers_60 rfl rfl ?_
    refine den_iload_n (pc := 61) d9_answerNumbers_61 rfl rfl ?_
    refine den_bipush (pc := 62) d9_answerNumbers_62 (by decide) ?_
    refine den_isub (pc := 64) d9_answerNumbers_64 ?_
    refine den_callVI (pc := 65) (As := [vI (x1 - 30)]) fv_9_66 rfl rfl kx0 (Nat.le_of_ble_eq_true rfl) (Nat.le_trans (by decide) hd) d9_answerNumbers_65 (c9_hasHearth l G x0 (x1 - 30) h kx0) (fun r7 h8 m9 o10 => ?_)
    have q11 := ok.mono kx0 m9
    refine den_if_eq (pc := 68) (tgt := 81) d9_answerNumbers_68 (by decide) rfl (fun _ => ?_) (fun _ => ?_)
    · exact t9_answerNumbers_81 l G _ hd x0 x1 h8 q11
    · refine den_aload_n (pc := 71) d9_answerNumbers_71 rfl rfl ?_
      refine den_getR (pc := 72) (b := x0 + 3) fa_9_22 q11 rfl d9_answerNumbers_72 ?_
      refine den_iload_n (pc := 75) d9_answerNumbers_75 rfl rfl ?_
      refine den_bipush (pc := 76) d9_answerNumbers_76 (by decide) ?_
      refine den_isub (pc := 78) d9_answerNumbers_78 ?_
      refine den_asrt (fun a12 => ?_)
      refine den_iaload (pc := 79) (vil_s3 q11) (vil_l3 q11) rfl a12 d9_answerNumbers_79 ?_
      exact den_iret (pc := 80) rfl d9_answerNumbers_80
def b9_answerNumbers_27 (x0 : Nat) (x1 : Int) (h : AH) : Option (Int × AH) :=
  if w32 x1 < 20 then
    b9_answerNumbers_54 x0 x1 h
  else
    bnd (f9_hasSubject x0 (x1 - 20) h) fun r13 h14 =>
    if w32 r13 = 0 then
      b9_answerNumbers_54 x0 x1 h14
    else
      asrt (0 ≤ w32 (x1 - 20) ∧ w32 (x1 - 20) < 6) <|
      some (h14.2 (x0 + 2) (w32 (x1 - 20)).toNat, h14)
set_option maxRecDepth 100000 in
theorem t9_answerNumbers_27 (l : Launch) (G : Geo) (d : Nat) (hd : 3 ≤ d) (x0 : Nat) (x1 : Int) (h : AH) (kx0 : ok h.1 x0 9) : Den l G m9_answerNumbers rvI d 27 [some (vA G x0), some (vI x1)] [] h (b9_answerNumbers_27 x0 x1 h) := by
  unfold b9_answerNumbers_27
  refine den_iload_n (pc := 27) d9_answerNumbers_27 rfl rfl ?_
  refine den_bipush (pc := 28) d9_answerNumbers_28 (by decide) ?_
  refine den_icmp_lt (pc := 30) (tgt := 54) d9_answerNumbers_30 (by decide) rfl (by decide) (fun _ => ?_) (fun _ => ?_)
  · exact t9_answerNumbers_54 l G _ hd x0 x1 h kx0
  · refine den_aload_n (pc := 33) d9_answerNumbers_33 rfl rfl ?_
    refine den_iload_n (pc := 34) d9_answerNumbers_34 rfl rfl ?_
    refine den_bipush (pc := 35) d9_answerNumbers_35 (by decide) ?_
    refine den_isub (pc := 37) d9_answerNumbers_37 ?_
    refine den_callVI (pc := 38) (As := [vI (x1 - 20)]) fv_9_56 rfl rfl kx0 (Nat.le_of_ble_eq_true rfl) (Nat.le_trans (by decide) hd) d9_answerNumbers_38 (c9_hasSubject l G x0 (x1 - 20) h kx0) (fun r13 h14 m15 o16 => ?_)
    have q17 := ok.mono kx0 m15
    refine den_if_eq (pc := 41) (tgt := 54) d9_answerNumbers_41 (by decide) rfl (fun _ => ?_) (fun _ => ?_)
    · exact t9_answerNumbers_54 l G _ hd x0 x1 h14 q17
    · refine den_aload_n (pc := 44) d9_answerNumbers_44 rfl rfl ?_
      refine den_getR (pc := 45) (b := x0 + 2) fa_9_19 q17 rfl d9_answerNumbers_45 ?_
      refine den_iload_n (pc := 48) d9_answerNumbers_48 rfl rfl ?_
      refine den_bipush (pc := 49) d9_answerNumbers_49 (by decide) ?_
      refine den_isub (pc := 51) d9_answerNumbers_51 ?_
      refine den_asrt (fun a18 => ?_)
      refine den_iaload (pc := 52) (vil_s2 q17) (vil_l2 q17) rfl a18 d9_answerNumbers_52 ?_
      exact den_iret (pc := 53) rfl d9_answerNumbers_53
def f9_answerNumbers (x0 : Nat) (x1 : Int) (h : AH) : Option (Int × AH) :=
  if w32 x1 < 10 then
    b9_answerNumbers_27 x0 x1 h
  else
    bnd (f9_hasSubject x0 (x1 - 10) h) fun r19 h20 =>
    if w32 r19 = 0 then
      b9_answerNumbers_27 x0 x1 h20
    else
      asrt (0 ≤ w32 (x1 - 10) ∧ w32 (x1 - 10) < 6) <|
      some (h20.2 (x0 + 1) (w32 (x1 - 10)).toNat, h20)
set_option maxRecDepth 100000 in
theorem c9_answerNumbers (l : Launch) (G : Geo) (x0 : Nat) (x1 : Int) (h : AH) (kx0 : ok h.1 x0 9) : Con l G m9_answerNumbers rvI 3 [vA G x0, vI x1] h (f9_answerNumbers x0 x1 h) := by
  have hd : 3 ≤ 3 := Nat.le_refl _
  refine con_I rfl (by decide) rfl rfl (Nat.le_of_ble_eq_true rfl) (L := [some (vA G x0), some (vI x1)]) ?_
  unfold f9_answerNumbers
  refine den_iload_n (pc := 0) d9_answerNumbers_0 rfl rfl ?_
  refine den_bipush (pc := 1) d9_answerNumbers_1 (by decide) ?_
  refine den_icmp_lt (pc := 3) (tgt := 27) d9_answerNumbers_3 (by decide) rfl (by decide) (fun _ => ?_) (fun _ => ?_)
  · exact t9_answerNumbers_27 l G _ hd x0 x1 h kx0
  · refine den_aload_n (pc := 6) d9_answerNumbers_6 rfl rfl ?_
    refine den_iload_n (pc := 7) d9_answerNumbers_7 rfl rfl ?_
    refine den_bipush (pc := 8) d9_answerNumbers_8 (by decide) ?_
    refine den_isub (pc := 10) d9_answerNumbers_10 ?_
    refine den_callVI (pc := 11) (As := [vI (x1 - 10)]) fv_9_56 rfl rfl kx0 (Nat.le_of_ble_eq_true rfl) (Nat.le_trans (by decide) hd) d9_answerNumbers_11 (c9_hasSubject l G x0 (x1 - 10) h kx0) (fun r19 h20 m21 o22 => ?_)
    have q23 := ok.mono kx0 m21
    refine den_if_eq (pc := 14) (tgt := 27) d9_answerNumbers_14 (by decide) rfl (fun _ => ?_) (fun _ => ?_)
    · exact t9_answerNumbers_27 l G _ hd x0 x1 h20 q23
    · refine den_aload_n (pc := 17) d9_answerNumbers_17 rfl rfl ?_
      refine den_getR (pc := 18) (b := x0 + 1) fa_9_15 q23 rfl d9_answerNumbers_18 ?_
      refine den_iload_n (pc := 21) d9_answerNumbers_21 rfl rfl ?_
      refine den_bipush (pc := 22) d9_answerNumbers_22 (by decide) ?_
      refine den_isub (pc := 24) d9_answerNumbers_24 ?_
      refine den_asrt (fun a24 => ?_)
      refine den_iaload (pc := 25) (vil_s1 q23) (vil_l1 q23) rfl a24 d9_answerNumbers_25 ?_
      exact den_iret (pc := 26) rfl d9_answerNumbers_26
theorem d9_answer_0 : decode m9_answer.2.1 0 = .ok (.iload_n 1, 1) := by decide +kernel
theorem d9_answer_1 : decode m9_answer.2.1 1 = .ok (.tableswitch 51 0 3 #[31, 36, 41, 46], 31) := by decide +kernel
theorem d9_answer_32 : decode m9_answer.2.1 32 = .ok (.aload_n 0, 1) := by decide +kernel
theorem d9_answer_33 : decode m9_answer.2.1 33 = .ok (.getfield 31, 3) := by decide +kernel
theorem d9_answer_36 : decode m9_answer.2.1 36 = .ok (.ireturn, 1) := by decide +kernel
theorem d9_answer_37 : decode m9_answer.2.1 37 = .ok (.aload_n 0, 1) := by decide +kernel
theorem d9_answer_38 : decode m9_answer.2.1 38 = .ok (.getfield 34, 3) := by decide +kernel
theorem d9_answer_41 : decode m9_answer.2.1 41 = .ok (.ireturn, 1) := by decide +kernel
theorem d9_answer_42 : decode m9_answer.2.1 42 = .ok (.aload_n 0, 1) := by decide +kernel
theorem d9_answer_43 : decode m9_answer.2.1 43 = .ok (.getfield 37, 3) := by decide +kernel
theorem d9_answer_46 : decode m9_answer.2.1 46 = .ok (.ireturn, 1) := by decide +kernel
theorem d9_answer_47 : decode m9_answer.2.1 47 = .ok (.aload_n 0, 1) := by decide +kernel
theorem d9_answer_48 : decode m9_answer.2.1 48 = .ok (.getfield 9, 3) := by decide +kernel
theorem d9_answer_51 : decode m9_answer.2.1 51 = .ok (.ireturn, 1) := by decide +kernel
theorem d9_answer_52 : decode m9_answer.2.1 52 = .ok (.iload_n 1, 1) := by decide +kernel
theorem d9_answer_53 : decode m9_answer.2.1 53 = .ok (.bipush 100, 2) := by decide +kernel
theorem d9_answer_55 : decode m9_answer.2.1 55 = .ok (.if_icmp .lt 11, 3) := by decide +kernel
theorem d9_answer_58 : decode m9_answer.2.1 58 = .ok (.aload_n 0, 1) := by decide +kernel
theorem d9_answer_59 : decode m9_answer.2.1 59 = .ok (.iload_n 1, 1) := by decide +kernel
theorem d9_answer_60 : decode m9_answer.2.1 60 = .ok (.invokevirtual 59, 3) := by decide +kernel
theorem d9_answer_63 : decode m9_answer.2.1 63 = .ok (.goto 8, 3) := by decide +kernel
theorem d9_answer_66 : decode m9_answer.2.1 66 = .ok (.aload_n 0, 1) := by decide +kernel
theorem d9_answer_67 : decode m9_answer.2.1 67 = .ok (.iload_n 1, 1) := by decide +kernel
theorem d9_answer_68 : decode m9_answer.2.1 68 = .ok (.invokevirtual 63, 3) := by decide +kernel
theorem d9_answer_71 : decode m9_answer.2.1 71 = .ok (.ireturn, 1) := by decide +kernel
def f9_answer (x0 : Nat) (x1 : Int) (h : AH) : Option (Int × AH) :=
  if w32 x1 = 0 then
    some (h.2 x0 0, h)
  else
  if w32 x1 = 1 then
    some (h.2 x0 1, h)
  else
  if w32 x1 = 2 then
    some (h.2 x0 2, h)
  else
  if w32 x1 = 3 then
    some (h.2 x0 3, h)
  else
  if w32 x1 < 100 then
    bnd (f9_answerNumbers x0 x1 h) fun r5 h6 =>
    some (r5, h6)
  else
    bnd (f9_answerHeld x0 x1 h) fun r10 h11 =>
    some (r10, h11)
set_option maxRecDepth 100000 in
theorem c9_answer (l : Launch) (G : Geo) (x0 : Nat) (x1 : Int) (h : AH) (kx0 : ok h.1 x0 9) : Con l G m9_answer rvI 4 [vA G x0, vI x1] h (f9_answer x0 x1 h) := by
  have hd : 4 ≤ 4 := Nat.le_refl _
  refine con_I rfl (by decide) rfl rfl (Nat.le_of_ble_eq_true rfl) (L := [some (vA G x0), some (vI x1)]) ?_
  unfold f9_answer
  refine den_iload_n (pc := 0) d9_answer_0 rfl rfl ?_
  refine den_ite (fun c1 => ?_) (fun c1 => ?_)
  · refine den_tableIn (pc := 1) (tgt := 32) d9_answer_1 (by omega) (by omega) (by rw [c1]; rfl) (by decide) ?_
    refine den_aload_n (pc := 32) d9_answer_32 rfl rfl ?_
    refine den_getI (pc := 33) fa_9_31 kx0 d9_answer_33 ?_
    exact den_iret (pc := 36) rfl d9_answer_36
  refine den_ite (fun c2 => ?_) (fun c2 => ?_)
  · refine den_tableIn (pc := 1) (tgt := 37) d9_answer_1 (by omega) (by omega) (by rw [c2]; rfl) (by decide) ?_
    refine den_aload_n (pc := 37) d9_answer_37 rfl rfl ?_
    refine den_getI (pc := 38) fa_9_34 kx0 d9_answer_38 ?_
    exact den_iret (pc := 41) rfl d9_answer_41
  refine den_ite (fun c3 => ?_) (fun c3 => ?_)
  · refine den_tableIn (pc := 1) (tgt := 42) d9_answer_1 (by omega) (by omega) (by rw [c3]; rfl) (by decide) ?_
    refine den_aload_n (pc := 42) d9_answer_42 rfl rfl ?_
    refine den_getI (pc := 43) fa_9_37 kx0 d9_answer_43 ?_
    exact den_iret (pc := 46) rfl d9_answer_46
  refine den_ite (fun c4 => ?_) (fun c4 => ?_)
  · refine den_tableIn (pc := 1) (tgt := 47) d9_answer_1 (by omega) (by omega) (by rw [c4]; rfl) (by decide) ?_
    refine den_aload_n (pc := 47) d9_answer_47 rfl rfl ?_
    refine den_getI (pc := 48) fa_9_9 kx0 d9_answer_48 ?_
    exact den_iret (pc := 51) rfl d9_answer_51
  refine den_tableOut (pc := 1) (tgt := 52) d9_answer_1 (by omega) (by decide) ?_
  refine den_iload_n (pc := 52) d9_answer_52 rfl rfl ?_
  refine den_bipush (pc := 53) d9_answer_53 (by decide) ?_
  refine den_icmp_lt (pc := 55) (tgt := 66) d9_answer_55 (by decide) rfl (by decide) (fun _ => ?_) (fun _ => ?_)
  · refine den_aload_n (pc := 66) d9_answer_66 rfl rfl ?_
    refine den_iload_n (pc := 67) d9_answer_67 rfl rfl ?_
    refine den_callVI (pc := 68) (As := [vI x1]) fv_9_63 rfl rfl kx0 (Nat.le_of_ble_eq_true rfl) (Nat.le_trans (by decide) hd) d9_answer_68 (c9_answerNumbers l G x0 x1 h kx0) (fun r5 h6 m7 o8 => ?_)
    have q9 := ok.mono kx0 m7
    exact den_iret (pc := 71) rfl d9_answer_71
  · refine den_aload_n (pc := 58) d9_answer_58 rfl rfl ?_
    refine den_iload_n (pc := 59) d9_answer_59 rfl rfl ?_
    refine den_callVI (pc := 60) (As := [vI x1]) fv_9_59 rfl rfl kx0 (Nat.le_of_ble_eq_true rfl) (Nat.le_trans (by decide) hd) d9_answer_60 (c9_answerHeld l G x0 x1 h kx0) (fun r10 h11 m12 o13 => ?_)
    have q14 := ok.mono kx0 m12
    refine den_goto (pc := 63) (tgt := 71) d9_answer_63 (by decide) ?_
    exact den_iret (pc := 71) rfl d9_answer_71
theorem d9_quarrelsInAll_0 : decode m9_quarrelsInAll.2.1 0 = .ok (.iconst 0, 1) := by decide +kernel
theorem d9_quarrelsInAll_1 : decode m9_quarrelsInAll.2.1 1 = .ok (.istore 4, 2) := by decide +kernel
theorem d9_quarrelsInAll_3 : decode m9_quarrelsInAll.2.1 3 = .ok (.aload_n 0, 1) := by decide +kernel
theorem d9_quarrelsInAll_4 : decode m9_quarrelsInAll.2.1 4 = .ok (.iload_n 1, 1) := by decide +kernel
theorem d9_quarrelsInAll_5 : decode m9_quarrelsInAll.2.1 5 = .ok (.iload_n 2, 1) := by decide +kernel
theorem d9_quarrelsInAll_6 : decode m9_quarrelsInAll.2.1 6 = .ok (.iload_n 3, 1) := by decide +kernel
theorem d9_quarrelsInAll_7 : decode m9_quarrelsInAll.2.1 7 = .ok (.invokevirtual 78, 3) := by decide +kernel
theorem d9_quarrelsInAll_10 : decode m9_quarrelsInAll.2.1 10 = .ok (.ifCond .le 39, 3) := by decide +kernel
theorem d9_quarrelsInAll_13 : decode m9_quarrelsInAll.2.1 13 = .ok (.iconst 0, 1) := by decide +kernel
theorem d9_quarrelsInAll_14 : decode m9_quarrelsInAll.2.1 14 = .ok (.istore 5, 2) := by decide +kernel
theorem d9_quarrelsInAll_16 : decode m9_quarrelsInAll.2.1 16 = .ok (.iload 5, 2) := by decide +kernel
theorem d9_quarrelsInAll_18 : decode m9_quarrelsInAll.2.1 18 = .ok (.bipush 9, 2) := by decide +kernel
theorem d9_quarrelsInAll_20 : decode m9_quarrelsInAll.2.1 20 = .ok (.if_icmp .ge 29, 3) := by decide +kernel
theorem d9_quarrelsInAll_23 : decode m9_quarrelsInAll.2.1 23 = .ok (.iload 4, 2) := by decide +kernel
theorem d9_quarrelsInAll_25 : decode m9_quarrelsInAll.2.1 25 = .ok (.aload_n 0, 1) := by decide +kernel
theorem d9_quarrelsInAll_26 : decode m9_quarrelsInAll.2.1 26 = .ok (.iload_n 3, 1) := by decide +kernel
theorem d9_quarrelsInAll_27 : decode m9_quarrelsInAll.2.1 27 = .ok (.iload 5, 2) := by decide +kernel
theorem d9_quarrelsInAll_29 : decode m9_quarrelsInAll.2.1 29 = .ok (.invokevirtual 88, 3) := by decide +kernel
theorem d9_quarrelsInAll_32 : decode m9_quarrelsInAll.2.1 32 = .ok (.ifCond .le 7, 3) := by decide +kernel
theorem d9_quarrelsInAll_35 : decode m9_quarrelsInAll.2.1 35 = .ok (.iconst 1, 1) := by decide +kernel
theorem d9_quarrelsInAll_36 : decode m9_quarrelsInAll.2.1 36 = .ok (.goto 4, 3) := by decide +kernel
theorem d9_quarrelsInAll_39 : decode m9_quarrelsInAll.2.1 39 = .ok (.iconst 0, 1) := by decide +kernel
theorem d9_quarrelsInAll_40 : decode m9_quarrelsInAll.2.1 40 = .ok (.iadd, 1) := by decide +kernel
theorem d9_quarrelsInAll_41 : decode m9_quarrelsInAll.2.1 41 = .ok (.istore 4, 2) := by decide +kernel
theorem d9_quarrelsInAll_43 : decode m9_quarrelsInAll.2.1 43 = .ok (.iinc 5 1, 3) := by decide +kernel
theorem d9_quarrelsInAll_46 : decode m9_quarrelsInAll.2.1 46 = .ok (.goto (-30), 3) := by decide +kernel
theorem d9_quarrelsInAll_49 : decode m9_quarrelsInAll.2.1 49 = .ok (.iload 4, 2) := by decide +kernel
theorem d9_quarrelsInAll_51 : decode m9_quarrelsInAll.2.1 51 = .ok (.ireturn, 1) := by decide +kernel
def b9_quarrelsInAll_40 (rec16 : Int × Int × AH → Option (Int × AH)) (x0 : Nat) (x3 : Int) (x5 : Int) (s0 : Int) (s1 : Int) (h : AH) : Option (Int × AH) :=
  lt (s1 + s0) fun u1 =>
  rec16 (u1, (x5 + 1), h)
set_option maxRecDepth 100000 in
theorem t9_quarrelsInAll_40 (l : Launch) (G : Geo) (d : Nat) (hd : 4 ≤ d) (x0 : Nat) (x3 : Int) (x5 : Int) (s0 : Int) (s1 : Int) (rec16 : Int × Int × AH → Option (Int × AH)) (H16 : ∀ (x4 : Int) (x5 : Int) (h : AH), ok h.1 x0 9 → Den l G m9_quarrelsInAll rvI d 16 [some (vA G x0), none, none, some (vI x3), some (vI x4), some (vI x5)] [] h (rec16 (x4, x5, h))) (h : AH) (kx0 : ok h.1 x0 9) : Den l G m9_quarrelsInAll rvI d 40 [some (vA G x0), none, none, some (vI x3), none, some (vI x5)] [vI s0, vI s1] h (b9_quarrelsInAll_40 rec16 x0 x3 x5 s0 s1 h) := by
  unfold b9_quarrelsInAll_40
  refine den_iadd (pc := 40) d9_quarrelsInAll_40 ?_
  refine den_istoreL (pc := 41) (L2 := fun y => [some (vA G x0), none, none, some (vI x3), some (vI y), some (vI x5)]) d9_quarrelsInAll_41 (by decide) (fun _ => rfl) (fun u1 => ?_)
  refine den_iinc (pc := 43) (L2 := [some (vA G x0), none, none, some (vI x3), some (vI u1), some (vI (x5 + 1))]) d9_quarrelsInAll_43 (by decide) rfl rfl ?_
  refine den_goto (pc := 46) (tgt := 16) d9_quarrelsInAll_46 (by decide) ?_
  exact H16 u1 (x5 + 1) h kx0
def b9_quarrelsInAll_16 (rec16 : Int × Int × AH → Option (Int × AH)) (x0 : Nat) (x3 : Int) (x4 : Int) (x5 : Int) (h : AH) : Option (Int × AH) :=
  if 9 ≤ w32 x5 then
    some (x4, h)
  else
    bnd (f9_heatAfter x0 x3 x5 h) fun r2 h3 =>
    if w32 r2 ≤ 0 then
      b9_quarrelsInAll_40 rec16 x0 x3 x5 0 x4 h3
    else
      b9_quarrelsInAll_40 rec16 x0 x3 x5 1 x4 h3
set_option maxRecDepth 100000 in
theorem t9_quarrelsInAll_16 (l : Launch) (G : Geo) (d : Nat) (hd : 4 ≤ d) (x0 : Nat) (x3 : Int) (x4 : Int) (x5 : Int) (rec16 : Int × Int × AH → Option (Int × AH)) (H16 : ∀ (x4 : Int) (x5 : Int) (h : AH), ok h.1 x0 9 → Den l G m9_quarrelsInAll rvI d 16 [some (vA G x0), none, none, some (vI x3), some (vI x4), some (vI x5)] [] h (rec16 (x4, x5, h))) (h : AH) (kx0 : ok h.1 x0 9) : Den l G m9_quarrelsInAll rvI d 16 [some (vA G x0), none, none, some (vI x3), some (vI x4), some (vI x5)] [] h (b9_quarrelsInAll_16 rec16 x0 x3 x4 x5 h) := by
  unfold b9_quarrelsInAll_16
  refine den_iload (pc := 16) d9_quarrelsInAll_16 rfl ?_
  refine den_bipush (pc := 18) d9_quarrelsInAll_18 (by decide) ?_
  refine den_icmp_ge (pc := 20) (tgt := 49) d9_quarrelsInAll_20 (by decide) rfl (by decide) (fun _ => ?_) (fun _ => ?_)
  · refine den_iload (pc := 49) d9_quarrelsInAll_49 rfl ?_
    exact den_iret (pc := 51) rfl d9_quarrelsInAll_51
  · refine den_iload (pc := 23) d9_quarrelsInAll_23 rfl ?_
    refine den_aload_n (pc := 25) d9_quarrelsInAll_25 rfl rfl ?_
    refine den_iload_n (pc := 26) d9_quarrelsInAll_26 rfl rfl ?_
    refine den_iload (pc := 27) d9_quarrelsInAll_27 rfl ?_
    refine den_callVI (pc := 29) (As := [vI x3, vI x5]) fv_9_88 rfl rfl kx0 (Nat.le_of_ble_eq_true rfl) (Nat.le_trans (by decide) hd) d9_quarrelsInAll_29 (c9_heatAfter l G x0 x3 x5 h kx0) (fun r2 h3 m4 o5 => ?_)
    have q6 := ok.mono kx0 m4
    refine den_if_le (pc := 32) (tgt := 39) d9_quarrelsInAll_32 (by decide) rfl (fun _ => ?_) (fun _ => ?_)
    · refine den_iconst (pc := 39) d9_quarrelsInAll_39 ?_
      refine den_wk [true, true, true, true, false, true] rfl ?_
      exact t9_quarrelsInAll_40 l G _ hd x0 x3 x5 0 x4 rec16 H16 h3 q6
    · refine den_iconst (pc := 35) d9_quarrelsInAll_35 ?_
      refine den_goto (pc := 36) (tgt := 40) d9_quarrelsInAll_36 (by decide) ?_
      refine den_wk [true, true, true, true, false, true] rfl ?_
      exact t9_quarrelsInAll_40 l G _ hd x0 x3 x5 1 x4 rec16 H16 h3 q6
def l9_quarrelsInAll_16 (x0 : Nat) (x3 : Int) (x4 : Int) (x5 : Int) (h : AH) : Option (Int × AH) := fx (fun rec z => b9_quarrelsInAll_16 rec x0 x3 z.1 z.2.1 z.2.2) FU (x4, x5, h)
set_option maxRecDepth 100000 in
theorem tl9_quarrelsInAll_16 (l : Launch) (G : Geo) (d : Nat) (hd : 4 ≤ d) (x0 : Nat) (x3 : Int) : ∀ (n : Nat) (z : Int × Int × AH), ok z.2.2.1 x0 9 → Den l G m9_quarrelsInAll rvI d 16 [some (vA G x0), none, none, some (vI x3), some (vI z.1), some (vI z.2.1)] [] z.2.2 (fx (fun rec z => b9_quarrelsInAll_16 rec x0 x3 z.1 z.2.1 z.2.2) n z) :=
  den_fx (F := fun rec z => b9_quarrelsInAll_16 rec x0 x3 z.1 z.2.1 z.2.2) (P := fun z => ok z.2.2.1 x0 9) (fL := fun z => [some (vA G x0), none, none, some (vI x3), some (vI z.1), some (vI z.2.1)]) (fs := fun z => []) (fh := fun z => z.2.2) (fun rec hrec z hz => t9_quarrelsInAll_16 l G d hd x0 x3 z.1 z.2.1 rec (fun x4 x5 h w0 => hrec (x4, x5, h) w0) z.2.2 hz)
def f9_quarrelsInAll (x0 : Nat) (x1 : Int) (x2 : Int) (x3 : Int) (h : AH) : Option (Int × AH) :=
  bnd (f9_gap x0 x1 x2 x3 h) fun r7 h8 =>
  if w32 r7 ≤ 0 then
    some (0, h8)
  else
    l9_quarrelsInAll_16 x0 x3 0 0 h8
set_option maxRecDepth 100000 in
theorem c9_quarrelsInAll (l : Launch) (G : Geo) (x0 : Nat) (x1 : Int) (x2 : Int) (x3 : Int) (h : AH) (kx0 : ok h.1 x0 9) : Con l G m9_quarrelsInAll rvI 4 [vA G x0, vI x1, vI x2, vI x3] h (f9_quarrelsInAll x0 x1 x2 x3 h) := by
  have hd : 4 ≤ 4 := Nat.le_refl _
  refine con_I rfl (by decide) rfl rfl (Nat.le_of_ble_eq_true rfl) (L := [some (vA G x0), some (vI x1), some (vI x2), some (vI x3), none, none]) ?_
  unfold f9_quarrelsInAll
  refine den_iconst (pc := 0) d9_quarrelsInAll_0 ?_
  refine den_istore (pc := 1) (L2 := [some (vA G x0), some (vI x1), some (vI x2), some (vI x3), some (vI 0), none]) d9_quarrelsInAll_1 (by decide) rfl ?_
  refine den_aload_n (pc := 3) d9_quarrelsInAll_3 rfl rfl ?_
  refine den_iload_n (pc := 4) d9_quarrelsInAll_4 rfl rfl ?_
  refine den_iload_n (pc := 5) d9_quarrelsInAll_5 rfl rfl ?_
  refine den_iload_n (pc := 6) d9_quarrelsInAll_6 rfl rfl ?_
  refine den_callVI (pc := 7) (As := [vI x1, vI x2, vI x3]) fv_9_78 rfl rfl kx0 (Nat.le_of_ble_eq_true rfl) (Nat.le_trans (by decide) hd) d9_quarrelsInAll_7 (c9_gap l G x0 x1 x2 x3 h kx0) (fun r7 h8 m9 o10 => ?_)
  have q11 := ok.mono kx0 m9
  refine den_if_le (pc := 10) (tgt := 49) d9_quarrelsInAll_10 (by decide) rfl (fun _ => ?_) (fun _ => ?_)
  · refine den_iload (pc := 49) d9_quarrelsInAll_49 rfl ?_
    exact den_iret (pc := 51) rfl d9_quarrelsInAll_51
  · refine den_iconst (pc := 13) d9_quarrelsInAll_13 ?_
    refine den_istore (pc := 14) (L2 := [some (vA G x0), some (vI x1), some (vI x2), some (vI x3), some (vI 0), some (vI 0)]) d9_quarrelsInAll_14 (by decide) rfl ?_
    refine den_wk [true, false, false, true, true, true] rfl ?_
    exact tl9_quarrelsInAll_16 l G _ hd x0 x3 FU (0, 0, h8) q11
theorem d9_burningByHire_0 : decode m9_burningByHire.2.1 0 = .ok (.aload_n 0, 1) := by decide +kernel
theorem d9_burningByHire_1 : decode m9_burningByHire.2.1 1 = .ok (.iload_n 1, 1) := by decide +kernel
theorem d9_burningByHire_2 : decode m9_burningByHire.2.1 2 = .ok (.iload_n 2, 1) := by decide +kernel
theorem d9_burningByHire_3 : decode m9_burningByHire.2.1 3 = .ok (.invokevirtual 69, 3) := by decide +kernel
theorem d9_burningByHire_6 : decode m9_burningByHire.2.1 6 = .ok (.istore_n 3, 1) := by decide +kernel
theorem d9_burningByHire_7 : decode m9_burningByHire.2.1 7 = .ok (.iload_n 3, 1) := by decide +kernel
theorem d9_burningByHire_8 : decode m9_burningByHire.2.1 8 = .ok (.iconst (-1), 1) := by decide +kernel
theorem d9_burningByHire_9 : decode m9_burningByHire.2.1 9 = .ok (.if_icmp .ne 7, 3) := by decide +kernel
theorem d9_burningByHire_12 : decode m9_burningByHire.2.1 12 = .ok (.iconst 0, 1) := by decide +kernel
theorem d9_burningByHire_13 : decode m9_burningByHire.2.1 13 = .ok (.goto 18, 3) := by decide +kernel
theorem d9_burningByHire_16 : decode m9_burningByHire.2.1 16 = .ok (.bipush 9, 2) := by decide +kernel
theorem d9_burningByHire_18 : decode m9_burningByHire.2.1 18 = .ok (.iload_n 3, 1) := by decide +kernel
theorem d9_burningByHire_19 : decode m9_burningByHire.2.1 19 = .ok (.isub, 1) := by decide +kernel
theorem d9_burningByHire_20 : decode m9_burningByHire.2.1 20 = .ok (.iload_n 3, 1) := by decide +kernel
theorem d9_burningByHire_21 : decode m9_burningByHire.2.1 21 = .ok (.isub, 1) := by decide +kernel
theorem d9_burningByHire_22 : decode m9_burningByHire.2.1 22 = .ok (.invokestatic 73, 3) := by decide +kernel
theorem d9_burningByHire_25 : decode m9_burningByHire.2.1 25 = .ok (.aload_n 0, 1) := by decide +kernel
theorem d9_burningByHire_26 : decode m9_burningByHire.2.1 26 = .ok (.iload_n 2, 1) := by decide +kernel
theorem d9_burningByHire_27 : decode m9_burningByHire.2.1 27 = .ok (.invokevirtual 85, 3) := by decide +kernel
theorem d9_burningByHire_30 : decode m9_burningByHire.2.1 30 = .ok (.imul, 1) := by decide +kernel
theorem d9_burningByHire_31 : decode m9_burningByHire.2.1 31 = .ok (.ireturn, 1) := by decide +kernel
def f9_burningByHire (x0 : Nat) (x1 : Int) (x2 : Int) (h : AH) : Option (Int × AH) :=
  bnd (f9_held x0 x1 x2 h) fun r1 h2 =>
  if ¬ w32 r1 = (-1) then
    bnd (f9_heat x0 x2 h2) fun r6 h7 =>
    some ((abs32 ((9 - r1) - r1)) * r6, h7)
  else
    some (0, h2)
set_option maxRecDepth 100000 in
theorem c9_burningByHire (l : Launch) (G : Geo) (x0 : Nat) (x1 : Int) (x2 : Int) (h : AH) (kx0 : ok h.1 x0 9) : Con l G m9_burningByHire rvI 4 [vA G x0, vI x1, vI x2] h (f9_burningByHire x0 x1 x2 h) := by
  have hd : 4 ≤ 4 := Nat.le_refl _
  refine con_I rfl (by decide) rfl rfl (Nat.le_of_ble_eq_true rfl) (L := [some (vA G x0), some (vI x1), some (vI x2), none]) ?_
  unfold f9_burningByHire
  refine den_aload_n (pc := 0) d9_burningByHire_0 rfl rfl ?_
  refine den_iload_n (pc := 1) d9_burningByHire_1 rfl rfl ?_
  refine den_iload_n (pc := 2) d9_burningByHire_2 rfl rfl ?_
  refine den_callVI (pc := 3) (As := [vI x1, vI x2]) fv_9_69 rfl rfl kx0 (Nat.le_of_ble_eq_true rfl) (Nat.le_trans (by decide) hd) d9_burningByHire_3 (c9_held l G x0 x1 x2 h kx0) (fun r1 h2 m3 o4 => ?_)
  have q5 := ok.mono kx0 m3
  refine den_istore_n (pc := 6) (L2 := [some (vA G x0), some (vI x1), some (vI x2), some (vI r1)]) d9_burningByHire_6 rfl (by decide) rfl ?_
  refine den_iload_n (pc := 7) d9_burningByHire_7 rfl rfl ?_
  refine den_iconst (pc := 8) d9_burningByHire_8 ?_
  refine den_icmp_ne (pc := 9) (tgt := 16) d9_burningByHire_9 (by decide) rfl (by decide) (fun _ => ?_) (fun _ => ?_)
  · refine den_bipush (pc := 16) d9_burningByHire_16 (by decide) ?_
    refine den_iload_n (pc := 18) d9_burningByHire_18 rfl rfl ?_
    refine den_isub (pc := 19) d9_burningByHire_19 ?_
    refine den_iload_n (pc := 20) d9_burningByHire_20 rfl rfl ?_
    refine den_isub (pc := 21) d9_burningByHire_21 ?_
    refine den_abs (pc := 22) fm_9_73 (Nat.le_of_ble_eq_true rfl) (Nat.le_trans (by decide) hd) d9_burningByHire_22 ?_
    refine den_aload_n (pc := 25) d9_burningByHire_25 rfl rfl ?_
    refine den_iload_n (pc := 26) d9_burningByHire_26 rfl rfl ?_
    refine den_callVI (pc := 27) (As := [vI x2]) fv_9_85 rfl rfl q5 (Nat.le_of_ble_eq_true rfl) (Nat.le_trans (by decide) hd) d9_burningByHire_27 (c9_heat l G x0 x2 h2 q5) (fun r6 h7 m8 o9 => ?_)
    have q10 := ok.mono q5 m8
    refine den_imul (pc := 30) d9_burningByHire_30 ?_
    exact den_iret (pc := 31) rfl d9_burningByHire_31
  · refine den_iconst (pc := 12) d9_burningByHire_12 ?_
    refine den_goto (pc := 13) (tgt := 31) d9_burningByHire_13 (by decide) ?_
    exact den_iret (pc := 31) rfl d9_burningByHire_31
theorem d9_firstHeld_0 : decode m9_firstHeld.2.1 0 = .ok (.iconst 0, 1) := by decide +kernel
theorem d9_firstHeld_1 : decode m9_firstHeld.2.1 1 = .ok (.istore_n 2, 1) := by decide +kernel
theorem d9_firstHeld_2 : decode m9_firstHeld.2.1 2 = .ok (.iload_n 2, 1) := by decide +kernel
theorem d9_firstHeld_3 : decode m9_firstHeld.2.1 3 = .ok (.aload_n 0, 1) := by decide +kernel
theorem d9_firstHeld_4 : decode m9_firstHeld.2.1 4 = .ok (.getfield 31, 3) := by decide +kernel
theorem d9_firstHeld_7 : decode m9_firstHeld.2.1 7 = .ok (.if_icmp .ge 26, 3) := by decide +kernel
theorem d9_firstHeld_10 : decode m9_firstHeld.2.1 10 = .ok (.aload_n 0, 1) := by decide +kernel
theorem d9_firstHeld_11 : decode m9_firstHeld.2.1 11 = .ok (.iload_n 2, 1) := by decide +kernel
theorem d9_firstHeld_12 : decode m9_firstHeld.2.1 12 = .ok (.iload_n 1, 1) := by decide +kernel
theorem d9_firstHeld_13 : decode m9_firstHeld.2.1 13 = .ok (.invokevirtual 69, 3) := by decide +kernel
theorem d9_firstHeld_16 : decode m9_firstHeld.2.1 16 = .ok (.iconst (-1), 1) := by decide +kernel
theorem d9_firstHeld_17 : decode m9_firstHeld.2.1 17 = .ok (.if_icmp .eq 10, 3) := by decide +kernel
theorem d9_firstHeld_20 : decode m9_firstHeld.2.1 20 = .ok (.aload_n 0, 1) := by decide +kernel
theorem d9_firstHeld_21 : decode m9_firstHeld.2.1 21 = .ok (.iload_n 2, 1) := by decide +kernel
theorem d9_firstHeld_22 : decode m9_firstHeld.2.1 22 = .ok (.iload_n 1, 1) := by decide +kernel
theorem d9_firstHeld_23 : decode m9_firstHeld.2.1 23 = .ok (.invokevirtual 69, 3) := by decide +kernel
theorem d9_firstHeld_26 : decode m9_firstHeld.2.1 26 = .ok (.ireturn, 1) := by decide +kernel
theorem d9_firstHeld_27 : decode m9_firstHeld.2.1 27 = .ok (.iinc 2 1, 3) := by decide +kernel
theorem d9_firstHeld_30 : decode m9_firstHeld.2.1 30 = .ok (.goto (-28), 3) := by decide +kernel
theorem d9_firstHeld_33 : decode m9_firstHeld.2.1 33 = .ok (.iconst (-1), 1) := by decide +kernel
theorem d9_firstHeld_34 : decode m9_firstHeld.2.1 34 = .ok (.ireturn, 1) := by decide +kernel
def b9_firstHeld_2 (rec2 : Int × AH → Option (Int × AH)) (x0 : Nat) (x1 : Int) (x2 : Int) (h : AH) : Option (Int × AH) :=
  if w32 (h.2 x0 0) ≤ w32 x2 then
    some ((-1), h)
  else
    bnd (f9_held x0 x2 x1 h) fun r1 h2 =>
    if w32 r1 = (-1) then
      rec2 ((x2 + 1), h2)
    else
      bnd (f9_held x0 x2 x1 h2) fun r6 h7 =>
      some (r6, h7)
set_option maxRecDepth 100000 in
theorem t9_firstHeld_2 (l : Launch) (G : Geo) (d : Nat) (hd : 3 ≤ d) (x0 : Nat) (x1 : Int) (x2 : Int) (rec2 : Int × AH → Option (Int × AH)) (H2 : ∀ (x2 : Int) (h : AH), ok h.1 x0 9 → Den l G m9_firstHeld rvI d 2 [some (vA G x0), some (vI x1), some (vI x2)] [] h (rec2 (x2, h))) (h : AH) (kx0 : ok h.1 x0 9) : Den l G m9_firstHeld rvI d 2 [some (vA G x0), some (vI x1), some (vI x2)] [] h (b9_firstHeld_2 rec2 x0 x1 x2 h) := by
  unfold b9_firstHeld_2
  refine den_iload_n (pc := 2) d9_firstHeld_2 rfl rfl ?_
  refine den_aload_n (pc := 3) d9_firstHeld_3 rfl rfl ?_
  refine den_getI (pc := 4) fa_9_31 kx0 d9_firstHeld_4 ?_
  refine den_icmp_ge (pc := 7) (tgt := 33) d9_firstHeld_7 (by decide) rfl rfl (fun _ => ?_) (fun _ => ?_)
  · refine den_iconst (pc := 33) d9_firstHeld_33 ?_
    exact den_iret (pc := 34) rfl d9_firstHeld_34
  · refine den_aload_n (pc := 10) d9_firstHeld_10 rfl rfl ?_
    refine den_iload_n (pc := 11) d9_firstHeld_11 rfl rfl ?_
    refine den_iload_n (pc := 12) d9_firstHeld_12 rfl rfl ?_
    refine den_callVI (pc := 13) (As := [vI x2, vI x1]) fv_9_69 rfl rfl kx0 (Nat.le_of_ble_eq_true rfl) (Nat.le_trans (by decide) hd) d9_firstHeld_13 (c9_held l G x0 x2 x1 h kx0) (fun r1 h2 m3 o4 => ?_)
    have q5 := ok.mono kx0 m3
    refine den_iconst (pc := 16) d9_firstHeld_16 ?_
    refine den_icmp_eq (pc := 17) (tgt := 27) d9_firstHeld_17 (by decide) rfl (by decide) (fun _ => ?_) (fun _ => ?_)
    · refine den_iinc (pc := 27) (L2 := [some (vA G x0), some (vI x1), some (vI (x2 + 1))]) d9_firstHeld_27 (by decide) rfl rfl ?_
      refine den_goto (pc := 30) (tgt := 2) d9_firstHeld_30 (by decide) ?_
      exact H2 (x2 + 1) h2 q5
    · refine den_aload_n (pc := 20) d9_firstHeld_20 rfl rfl ?_
      refine den_iload_n (pc := 21) d9_firstHeld_21 rfl rfl ?_
      refine den_iload_n (pc := 22) d9_firstHeld_22 rfl rfl ?_
      refine den_callVI (pc := 23) (As := [vI x2, vI x1]) fv_9_69 rfl rfl q5 (Nat.le_of_ble_eq_true rfl) (Nat.le_trans (by decide) hd) d9_firstHeld_23 (c9_held l G x0 x2 x1 h2 q5) (fun r6 h7 m8 o9 => ?_)
      have q10 := ok.mono q5 m8
      exact den_iret (pc := 26) rfl d9_firstHeld_26
def l9_firstHeld_2 (x0 : Nat) (x1 : Int) (x2 : Int) (h : AH) : Option (Int × AH) := fx (fun rec z => b9_firstHeld_2 rec x0 x1 z.1 z.2) FU (x2, h)
set_option maxRecDepth 100000 in
theorem tl9_firstHeld_2 (l : Launch) (G : Geo) (d : Nat) (hd : 3 ≤ d) (x0 : Nat) (x1 : Int) : ∀ (n : Nat) (z : Int × AH), ok z.2.1 x0 9 → Den l G m9_firstHeld rvI d 2 [some (vA G x0), some (vI x1), some (vI z.1)] [] z.2 (fx (fun rec z => b9_firstHeld_2 rec x0 x1 z.1 z.2) n z) :=
  den_fx (F := fun rec z => b9_firstHeld_2 rec x0 x1 z.1 z.2) (P := fun z => ok z.2.1 x0 9) (fL := fun z => [some (vA G x0), some (vI x1), some (vI z.1)]) (fs := fun z => []) (fh := fun z => z.2) (fun rec hrec z hz => t9_firstHeld_2 l G d hd x0 x1 z.1 rec (fun x2 h w0 => hrec (x2, h) w0) z.2 hz)
def f9_firstHeld (x0 : Nat) (x1 : Int) (h : AH) : Option (Int × AH) :=
  l9_firstHeld_2 x0 x1 0 h
set_option maxRecDepth 100000 in
theorem c9_firstHeld (l : Launch) (G : Geo) (x0 : Nat) (x1 : Int) (h : AH) (kx0 : ok h.1 x0 9) : Con l G m9_firstHeld rvI 3 [vA G x0, vI x1] h (f9_firstHeld x0 x1 h) := by
  have hd : 3 ≤ 3 := Nat.le_refl _
  refine con_I rfl (by decide) rfl rfl (Nat.le_of_ble_eq_true rfl) (L := [some (vA G x0), some (vI x1), none]) ?_
  unfold f9_firstHeld
  refine den_iconst (pc := 0) d9_firstHeld_0 ?_
  refine den_istore_n (pc := 1) (L2 := [some (vA G x0), some (vI x1), some (vI 0)]) d9_firstHeld_1 rfl (by decide) rfl ?_
  exact tl9_firstHeld_2 l G _ hd x0 x1 FU (0, h) kx0
theorem d9_differing_0 : decode m9_differing.2.1 0 = .ok (.iconst 0, 1) := by decide +kernel
theorem d9_differing_1 : decode m9_differing.2.1 1 = .ok (.istore_n 3, 1) := by decide +kernel
theorem d9_differing_2 : decode m9_differing.2.1 2 = .ok (.iconst 0, 1) := by decide +kernel
theorem d9_differing_3 : decode m9_differing.2.1 3 = .ok (.istore 4, 2) := by decide +kernel
theorem d9_differing_5 : decode m9_differing.2.1 5 = .ok (.iload 4, 2) := by decide +kernel
theorem d9_differing_7 : decode m9_differing.2.1 7 = .ok (.aload_n 0, 1) := by decide +kernel
theorem d9_differing_8 : decode m9_differing.2.1 8 = .ok (.getfield 31, 3) := by decide +kernel
theorem d9_differing_11 : decode m9_differing.2.1 11 = .ok (.if_icmp .ge 39, 3) := by decide +kernel
theorem d9_differing_14 : decode m9_differing.2.1 14 = .ok (.iload_n 3, 1) := by decide +kernel
theorem d9_differing_15 : decode m9_differing.2.1 15 = .ok (.aload_n 0, 1) := by decide +kernel
theorem d9_differing_16 : decode m9_differing.2.1 16 = .ok (.iload 4, 2) := by decide +kernel
theorem d9_differing_18 : decode m9_differing.2.1 18 = .ok (.iload_n 1, 1) := by decide +kernel
theorem d9_differing_19 : decode m9_differing.2.1 19 = .ok (.invokevirtual 69, 3) := by decide +kernel
theorem d9_differing_22 : decode m9_differing.2.1 22 = .ok (.iconst (-1), 1) := by decide +kernel
theorem d9_differing_23 : decode m9_differing.2.1 23 = .ok (.if_icmp .ne 7, 3) := by decide +kernel
theorem d9_differing_26 : decode m9_differing.2.1 26 = .ok (.iconst 0, 1) := by decide +kernel
theorem d9_differing_27 : decode m9_differing.2.1 27 = .ok (.goto 15, 3) := by decide +kernel
theorem d9_differing_30 : decode m9_differing.2.1 30 = .ok (.aload_n 0, 1) := by decide +kernel
theorem d9_differing_31 : decode m9_differing.2.1 31 = .ok (.iload 4, 2) := by decide +kernel
theorem d9_differing_33 : decode m9_differing.2.1 33 = .ok (.iload_n 1, 1) := by decide +kernel
theorem d9_differing_34 : decode m9_differing.2.1 34 = .ok (.invokevirtual 69, 3) := by decide +kernel
theorem d9_differing_37 : decode m9_differing.2.1 37 = .ok (.iload_n 2, 1) := by decide +kernel
theorem d9_differing_38 : decode m9_differing.2.1 38 = .ok (.isub, 1) := by decide +kernel
theorem d9_differing_39 : decode m9_differing.2.1 39 = .ok (.invokestatic 73, 3) := by decide +kernel
theorem d9_differing_42 : decode m9_differing.2.1 42 = .ok (.iadd, 1) := by decide +kernel
theorem d9_differing_43 : decode m9_differing.2.1 43 = .ok (.istore_n 3, 1) := by decide +kernel
theorem d9_differing_44 : decode m9_differing.2.1 44 = .ok (.iinc 4 1, 3) := by decide +kernel
theorem d9_differing_47 : decode m9_differing.2.1 47 = .ok (.goto (-42), 3) := by decide +kernel
theorem d9_differing_50 : decode m9_differing.2.1 50 = .ok (.iload_n 3, 1) := by decide +kernel
theorem d9_differing_51 : decode m9_differing.2.1 51 = .ok (.ireturn, 1) := by decide +kernel
def b9_differing_42 (rec5 : Int × Int × AH → Option (Int × AH)) (x0 : Nat) (x1 : Int) (x2 : Int) (x4 : Int) (s0 : Int) (s1 : Int) (h : AH) : Option (Int × AH) :=
  lt (s1 + s0) fun u1 =>
  rec5 (u1, (x4 + 1), h)
set_option maxRecDepth 100000 in
theorem t9_differing_42 (l : Launch) (G : Geo) (d : Nat) (hd : 3 ≤ d) (x0 : Nat) (x1 : Int) (x2 : Int) (x4 : Int) (s0 : Int) (s1 : Int) (rec5 : Int × Int × AH → Option (Int × AH)) (H5 : ∀ (x3 : Int) (x4 : Int) (h : AH), ok h.1 x0 9 → Den l G m9_differing rvI d 5 [some (vA G x0), some (vI x1), some (vI x2), some (vI x3), some (vI x4)] [] h (rec5 (x3, x4, h))) (h : AH) (kx0 : ok h.1 x0 9) : Den l G m9_differing rvI d 42 [some (vA G x0), some (vI x1), some (vI x2), none, some (vI x4)] [vI s0, vI s1] h (b9_differing_42 rec5 x0 x1 x2 x4 s0 s1 h) := by
  unfold b9_differing_42
  refine den_iadd (pc := 42) d9_differing_42 ?_
  refine den_istore_nL (pc := 43) (L2 := fun y => [some (vA G x0), some (vI x1), some (vI x2), some (vI y), some (vI x4)]) d9_differing_43 rfl (by decide) (fun _ => rfl) (fun u1 => ?_)
  refine den_iinc (pc := 44) (L2 := [some (vA G x0), some (vI x1), some (vI x2), some (vI u1), some (vI (x4 + 1))]) d9_differing_44 (by decide) rfl rfl ?_
  refine den_goto (pc := 47) (tgt := 5) d9_differing_47 (by decide) ?_
  exact H5 u1 (x4 + 1) h kx0
def b9_differing_5 (rec5 : Int × Int × AH → Option (Int × AH)) (x0 : Nat) (x1 : Int) (x2 : Int) (x3 : Int) (x4 : Int) (h : AH) : Option (Int × AH) :=
  if w32 (h.2 x0 0) ≤ w32 x4 then
    some (x3, h)
  else
    bnd (f9_held x0 x4 x1 h) fun r2 h3 =>
    if ¬ w32 r2 = (-1) then
      bnd (f9_held x0 x4 x1 h3) fun r7 h8 =>
      b9_differing_42 rec5 x0 x1 x2 x4 (abs32 (r7 - x2)) x3 h8
    else
      b9_differing_42 rec5 x0 x1 x2 x4 0 x3 h3
set_option maxRecDepth 100000 in
theorem t9_differing_5 (l : Launch) (G : Geo) (d : Nat) (hd : 3 ≤ d) (x0 : Nat) (x1 : Int) (x2 : Int) (x3 : Int) (x4 : Int) (rec5 : Int × Int × AH → Option (Int × AH)) (H5 : ∀ (x3 : Int) (x4 : Int) (h : AH), ok h.1 x0 9 → Den l G m9_differing rvI d 5 [some (vA G x0), some (vI x1), some (vI x2), some (vI x3), some (vI x4)] [] h (rec5 (x3, x4, h))) (h : AH) (kx0 : ok h.1 x0 9) : Den l G m9_differing rvI d 5 [some (vA G x0), some (vI x1), some (vI x2), some (vI x3), some (vI x4)] [] h (b9_differing_5 rec5 x0 x1 x2 x3 x4 h) := by
  unfold b9_differing_5
  refine den_iload (pc := 5) d9_differing_5 rfl ?_
  refine den_aload_n (pc := 7) d9_differing_7 rfl rfl ?_
  refine den_getI (pc := 8) fa_9_31 kx0 d9_differing_8 ?_
  refine den_icmp_ge (pc := 11) (tgt := 50) d9_differing_11 (by decide) rfl rfl (fun _ => ?_) (fun _ => ?_)
  · refine den_iload_n (pc := 50) d9_differing_50 rfl rfl ?_
    exact den_iret (pc := 51) rfl d9_differing_51
  · refine den_iload_n (pc := 14) d9_differing_14 rfl rfl ?_
    refine den_aload_n (pc := 15) d9_differing_15 rfl rfl ?_
    refine den_iload (pc := 16) d9_differing_16 rfl ?_
    refine den_iload_n (pc := 18) d9_differing_18 rfl rfl ?_
    refine den_callVI (pc := 19) (As := [vI x4, vI x1]) fv_9_69 rfl rfl kx0 (Nat.le_of_ble_eq_true rfl) (Nat.le_trans (by decide) hd) d9_differing_19 (c9_held l G x0 x4 x1 h kx0) (fun r2 h3 m4 o5 => ?_)
    have q6 := ok.mono kx0 m4
    refine den_iconst (pc := 22) d9_differing_22 ?_
    refine den_icmp_ne (pc := 23) (tgt := 30) d9_differing_23 (by decide) rfl (by decide) (fun _ => ?_) (fun _ => ?_)
    · refine den_aload_n (pc := 30) d9_differing_30 rfl rfl ?_
      refine den_iload (pc := 31) d9_differing_31 rfl ?_
      refine den_iload_n (pc := 33) d9_differing_33 rfl rfl ?_
      refine den_callVI (pc := 34) (As := [vI x4, vI x1]) fv_9_69 rfl rfl q6 (Nat.le_of_ble_eq_true rfl) (Nat.le_trans (by decide) hd) d9_differing_34 (c9_held l G x0 x4 x1 h3 q6) (fun r7 h8 m9 o10 => ?_)
      have q11 := ok.mono q6 m9
      refine den_iload_n (pc := 37) d9_differing_37 rfl rfl ?_
      refine den_isub (pc := 38) d9_differing_38 ?_
      refine den_abs (pc := 39) fm_9_73 (Nat.le_of_ble_eq_true rfl) (Nat.le_trans (by decide) hd) d9_differing_39 ?_
      refine den_wk [true, true, true, false, true] rfl ?_
      exact t9_differing_42 l G _ hd x0 x1 x2 x4 (abs32 (r7 - x2)) x3 rec5 H5 h8 q11
    · refine den_iconst (pc := 26) d9_differing_26 ?_
      refine den_goto (pc := 27) (tgt := 42) d9_differing_27 (by decide) ?_
      refine den_wk [true, true, true, false, true] rfl ?_
      exact t9_differing_42 l G _ hd x0 x1 x2 x4 0 x3 rec5 H5 h3 q6
def l9_differing_5 (x0 : Nat) (x1 : Int) (x2 : Int) (x3 : Int) (x4 : Int) (h : AH) : Option (Int × AH) := fx (fun rec z => b9_differing_5 rec x0 x1 x2 z.1 z.2.1 z.2.2) FU (x3, x4, h)
set_option maxRecDepth 100000 in
theorem tl9_differing_5 (l : Launch) (G : Geo) (d : Nat) (hd : 3 ≤ d) (x0 : Nat) (x1 : Int) (x2 : Int) : ∀ (n : Nat) (z : Int × Int × AH), ok z.2.2.1 x0 9 → Den l G m9_differing rvI d 5 [some (vA G x0), some (vI x1), some (vI x2), some (vI z.1), some (vI z.2.1)] [] z.2.2 (fx (fun rec z => b9_differing_5 rec x0 x1 x2 z.1 z.2.1 z.2.2) n z) :=
  den_fx (F := fun rec z => b9_differing_5 rec x0 x1 x2 z.1 z.2.1 z.2.2) (P := fun z => ok z.2.2.1 x0 9) (fL := fun z => [some (vA G x0), some (vI x1), some (vI x2), some (vI z.1), some (vI z.2.1)]) (fs := fun z => []) (fh := fun z => z.2.2) (fun rec hrec z hz => t9_differing_5 l G d hd x0 x1 x2 z.1 z.2.1 rec (fun x3 x4 h w0 => hrec (x3, x4, h) w0) z.2.2 hz)
def f9_differing (x0 : Nat) (x1 : Int) (x2 : Int) (h : AH) : Option (Int × AH) :=
  l9_differing_5 x0 x1 x2 0 0 h
set_option maxRecDepth 100000 in
theorem c9_differing (l : Launch) (G : Geo) (x0 : Nat) (x1 : Int) (x2 : Int) (h : AH) (kx0 : ok h.1 x0 9) : Con l G m9_differing rvI 3 [vA G x0, vI x1, vI x2] h (f9_differing x0 x1 x2 h) := by
  have hd : 3 ≤ 3 := Nat.le_refl _
  refine con_I rfl (by decide) rfl rfl (Nat.le_of_ble_eq_true rfl) (L := [some (vA G x0), some (vI x1), some (vI x2), none, none]) ?_
  unfold f9_differing
  refine den_iconst (pc := 0) d9_differing_0 ?_
  refine den_istore_n (pc := 1) (L2 := [some (vA G x0), some (vI x1), some (vI x2), some (vI 0), none]) d9_differing_1 rfl (by decide) rfl ?_
  refine den_iconst (pc := 2) d9_differing_2 ?_
  refine den_istore (pc := 3) (L2 := [some (vA G x0), some (vI x1), some (vI x2), some (vI 0), some (vI 0)]) d9_differing_3 (by decide) rfl ?_
  exact tl9_differing_5 l G _ hd x0 x1 x2 FU (0, 0, h) kx0
theorem d9_middle_0 : decode m9_middle.2.1 0 = .ok (.iconst 0, 1) := by decide +kernel
theorem d9_middle_1 : decode m9_middle.2.1 1 = .ok (.istore_n 2, 1) := by decide +kernel
theorem d9_middle_2 : decode m9_middle.2.1 2 = .ok (.iconst 1, 1) := by decide +kernel
theorem d9_middle_3 : decode m9_middle.2.1 3 = .ok (.istore_n 3, 1) := by decide +kernel
theorem d9_middle_4 : decode m9_middle.2.1 4 = .ok (.iload_n 3, 1) := by decide +kernel
theorem d9_middle_5 : decode m9_middle.2.1 5 = .ok (.bipush 9, 2) := by decide +kernel
theorem d9_middle_7 : decode m9_middle.2.1 7 = .ok (.if_icmp .gt 26, 3) := by decide +kernel
theorem d9_middle_10 : decode m9_middle.2.1 10 = .ok (.aload_n 0, 1) := by decide +kernel
theorem d9_middle_11 : decode m9_middle.2.1 11 = .ok (.iload_n 1, 1) := by decide +kernel
theorem d9_middle_12 : decode m9_middle.2.1 12 = .ok (.iload_n 3, 1) := by decide +kernel
theorem d9_middle_13 : decode m9_middle.2.1 13 = .ok (.invokevirtual 105, 3) := by decide +kernel
theorem d9_middle_16 : decode m9_middle.2.1 16 = .ok (.aload_n 0, 1) := by decide +kernel
theorem d9_middle_17 : decode m9_middle.2.1 17 = .ok (.iload_n 1, 1) := by decide +kernel
theorem d9_middle_18 : decode m9_middle.2.1 18 = .ok (.iload_n 2, 1) := by decide +kernel
theorem d9_middle_19 : decode m9_middle.2.1 19 = .ok (.invokevirtual 105, 3) := by decide +kernel
theorem d9_middle_22 : decode m9_middle.2.1 22 = .ok (.if_icmp .ge 5, 3) := by decide +kernel
theorem d9_middle_25 : decode m9_middle.2.1 25 = .ok (.iload_n 3, 1) := by decide +kernel
theorem d9_middle_26 : decode m9_middle.2.1 26 = .ok (.istore_n 2, 1) := by decide +kernel
theorem d9_middle_27 : decode m9_middle.2.1 27 = .ok (.iinc 3 1, 3) := by decide +kernel
theorem d9_middle_30 : decode m9_middle.2.1 30 = .ok (.goto (-26), 3) := by decide +kernel
theorem d9_middle_33 : decode m9_middle.2.1 33 = .ok (.iload_n 2, 1) := by decide +kernel
theorem d9_middle_34 : decode m9_middle.2.1 34 = .ok (.ireturn, 1) := by decide +kernel
def b9_middle_27 (rec4 : Int × Int × AH → Option (Int × AH)) (x0 : Nat) (x1 : Int) (x2 : Int) (x3 : Int) (h : AH) : Option (Int × AH) :=
  rec4 (x2, (x3 + 1), h)
set_option maxRecDepth 100000 in
theorem t9_middle_27 (l : Launch) (G : Geo) (d : Nat) (hd : 4 ≤ d) (x0 : Nat) (x1 : Int) (x2 : Int) (x3 : Int) (rec4 : Int × Int × AH → Option (Int × AH)) (H4 : ∀ (x2 : Int) (x3 : Int) (h : AH), ok h.1 x0 9 → Den l G m9_middle rvI d 4 [some (vA G x0), some (vI x1), some (vI x2), some (vI x3)] [] h (rec4 (x2, x3, h))) (h : AH) (kx0 : ok h.1 x0 9) : Den l G m9_middle rvI d 27 [some (vA G x0), some (vI x1), some (vI x2), some (vI x3)] [] h (b9_middle_27 rec4 x0 x1 x2 x3 h) := by
  unfold b9_middle_27
  refine den_iinc (pc := 27) (L2 := [some (vA G x0), some (vI x1), some (vI x2), some (vI (x3 + 1))]) d9_middle_27 (by decide) rfl rfl ?_
  refine den_goto (pc := 30) (tgt := 4) d9_middle_30 (by decide) ?_
  exact H4 x2 (x3 + 1) h kx0
def b9_middle_4 (rec4 : Int × Int × AH → Option (Int × AH)) (x0 : Nat) (x1 : Int) (x2 : Int) (x3 : Int) (h : AH) : Option (Int × AH) :=
  if 9 < w32 x3 then
    some (x2, h)
  else
    bnd (f9_differing x0 x1 x3 h) fun r1 h2 =>
    bnd (f9_differing x0 x1 x2 h2) fun r6 h7 =>
    if w32 r6 ≤ w32 r1 then
      b9_middle_27 rec4 x0 x1 x2 x3 h7
    else
      b9_middle_27 rec4 x0 x1 x3 x3 h7
set_option maxRecDepth 100000 in
theorem t9_middle_4 (l : Launch) (G : Geo) (d : Nat) (hd : 4 ≤ d) (x0 : Nat) (x1 : Int) (x2 : Int) (x3 : Int) (rec4 : Int × Int × AH → Option (Int × AH)) (H4 : ∀ (x2 : Int) (x3 : Int) (h : AH), ok h.1 x0 9 → Den l G m9_middle rvI d 4 [some (vA G x0), some (vI x1), some (vI x2), some (vI x3)] [] h (rec4 (x2, x3, h))) (h : AH) (kx0 : ok h.1 x0 9) : Den l G m9_middle rvI d 4 [some (vA G x0), some (vI x1), some (vI x2), some (vI x3)] [] h (b9_middle_4 rec4 x0 x1 x2 x3 h) := by
  unfold b9_middle_4
  refine den_iload_n (pc := 4) d9_middle_4 rfl rfl ?_
  refine den_bipush (pc := 5) d9_middle_5 (by decide) ?_
  refine den_icmp_gt (pc := 7) (tgt := 33) d9_middle_7 (by decide) rfl (by decide) (fun _ => ?_) (fun _ => ?_)
  · refine den_iload_n (pc := 33) d9_middle_33 rfl rfl ?_
    exact den_iret (pc := 34) rfl d9_middle_34
  · refine den_aload_n (pc := 10) d9_middle_10 rfl rfl ?_
    refine den_iload_n (pc := 11) d9_middle_11 rfl rfl ?_
    refine den_iload_n (pc := 12) d9_middle_12 rfl rfl ?_
    refine den_callVI (pc := 13) (As := [vI x1, vI x3]) fv_9_105 rfl rfl kx0 (Nat.le_of_ble_eq_true rfl) (Nat.le_trans (by decide) hd) d9_middle_13 (c9_differing l G x0 x1 x3 h kx0) (fun r1 h2 m3 o4 => ?_)
    have q5 := ok.mono kx0 m3
    refine den_aload_n (pc := 16) d9_middle_16 rfl rfl ?_
    refine den_iload_n (pc := 17) d9_middle_17 rfl rfl ?_
    refine den_iload_n (pc := 18) d9_middle_18 rfl rfl ?_
    refine den_callVI (pc := 19) (As := [vI x1, vI x2]) fv_9_105 rfl rfl q5 (Nat.le_of_ble_eq_true rfl) (Nat.le_trans (by decide) hd) d9_middle_19 (c9_differing l G x0 x1 x2 h2 q5) (fun r6 h7 m8 o9 => ?_)
    have q10 := ok.mono q5 m8
    refine den_icmp_ge (pc := 22) (tgt := 27) d9_middle_22 (by decide) rfl rfl (fun _ => ?_) (fun _ => ?_)
    · exact t9_middle_27 l G _ hd x0 x1 x2 x3 rec4 H4 h7 q10
    · refine den_iload_n (pc := 25) d9_middle_25 rfl rfl ?_
      refine den_istore_n (pc := 26) (L2 := [some (vA G x0), some (vI x1), some (vI x3), some (vI x3)]) d9_middle_26 rfl (by decide) rfl ?_
      exact t9_middle_27 l G _ hd x0 x1 x3 x3 rec4 H4 h7 q10
def l9_middle_4 (x0 : Nat) (x1 : Int) (x2 : Int) (x3 : Int) (h : AH) : Option (Int × AH) := fx (fun rec z => b9_middle_4 rec x0 x1 z.1 z.2.1 z.2.2) FU (x2, x3, h)
set_option maxRecDepth 100000 in
theorem tl9_middle_4 (l : Launch) (G : Geo) (d : Nat) (hd : 4 ≤ d) (x0 : Nat) (x1 : Int) : ∀ (n : Nat) (z : Int × Int × AH), ok z.2.2.1 x0 9 → Den l G m9_middle rvI d 4 [some (vA G x0), some (vI x1), some (vI z.1), some (vI z.2.1)] [] z.2.2 (fx (fun rec z => b9_middle_4 rec x0 x1 z.1 z.2.1 z.2.2) n z) :=
  den_fx (F := fun rec z => b9_middle_4 rec x0 x1 z.1 z.2.1 z.2.2) (P := fun z => ok z.2.2.1 x0 9) (fL := fun z => [some (vA G x0), some (vI x1), some (vI z.1), some (vI z.2.1)]) (fs := fun z => []) (fh := fun z => z.2.2) (fun rec hrec z hz => t9_middle_4 l G d hd x0 x1 z.1 z.2.1 rec (fun x2 x3 h w0 => hrec (x2, x3, h) w0) z.2.2 hz)
def f9_middle (x0 : Nat) (x1 : Int) (h : AH) : Option (Int × AH) :=
  l9_middle_4 x0 x1 0 1 h
set_option maxRecDepth 100000 in
theorem c9_middle (l : Launch) (G : Geo) (x0 : Nat) (x1 : Int) (h : AH) (kx0 : ok h.1 x0 9) : Con l G m9_middle rvI 4 [vA G x0, vI x1] h (f9_middle x0 x1 h) := by
  have hd : 4 ≤ 4 := Nat.le_refl _
  refine con_I rfl (by decide) rfl rfl (Nat.le_of_ble_eq_true rfl) (L := [some (vA G x0), some (vI x1), none, none]) ?_
  unfold f9_middle
  refine den_iconst (pc := 0) d9_middle_0 ?_
  refine den_istore_n (pc := 1) (L2 := [some (vA G x0), some (vI x1), some (vI 0), none]) d9_middle_1 rfl (by decide) rfl ?_
  refine den_iconst (pc := 2) d9_middle_2 ?_
  refine den_istore_n (pc := 3) (L2 := [some (vA G x0), some (vI x1), some (vI 0), some (vI 1)]) d9_middle_3 rfl (by decide) rfl ?_
  exact tl9_middle_4 l G _ hd x0 x1 FU (0, 1, h) kx0
theorem d9_holdersOf_0 : decode m9_holdersOf.2.1 0 = .ok (.iconst 0, 1) := by decide +kernel
theorem d9_holdersOf_1 : decode m9_holdersOf.2.1 1 = .ok (.istore_n 3, 1) := by decide +kernel
theorem d9_holdersOf_2 : decode m9_holdersOf.2.1 2 = .ok (.iconst 0, 1) := by decide +kernel
theorem d9_holdersOf_3 : decode m9_holdersOf.2.1 3 = .ok (.istore 4, 2) := by decide +kernel
theorem d9_holdersOf_5 : decode m9_holdersOf.2.1 5 = .ok (.iload 4, 2) := by decide +kernel
theorem d9_holdersOf_7 : decode m9_holdersOf.2.1 7 = .ok (.aload_n 0, 1) := by decide +kernel
theorem d9_holdersOf_8 : decode m9_holdersOf.2.1 8 = .ok (.getfield 31, 3) := by decide +kernel
theorem d9_holdersOf_11 : decode m9_holdersOf.2.1 11 = .ok (.if_icmp .ge 28, 3) := by decide +kernel
theorem d9_holdersOf_14 : decode m9_holdersOf.2.1 14 = .ok (.iload_n 3, 1) := by decide +kernel
theorem d9_holdersOf_15 : decode m9_holdersOf.2.1 15 = .ok (.aload_n 0, 1) := by decide +kernel
theorem d9_holdersOf_16 : decode m9_holdersOf.2.1 16 = .ok (.iload 4, 2) := by decide +kernel
theorem d9_holdersOf_18 : decode m9_holdersOf.2.1 18 = .ok (.iload_n 1, 1) := by decide +kernel
theorem d9_holdersOf_19 : decode m9_holdersOf.2.1 19 = .ok (.invokevirtual 69, 3) := by decide +kernel
theorem d9_holdersOf_22 : decode m9_holdersOf.2.1 22 = .ok (.iload_n 2, 1) := by decide +kernel
theorem d9_holdersOf_23 : decode m9_holdersOf.2.1 23 = .ok (.if_icmp .ne 7, 3) := by decide +kernel
theorem d9_holdersOf_26 : decode m9_holdersOf.2.1 26 = .ok (.iconst 1, 1) := by decide +kernel
theorem d9_holdersOf_27 : decode m9_holdersOf.2.1 27 = .ok (.goto 4, 3) := by decide +kernel
theorem d9_holdersOf_30 : decode m9_holdersOf.2.1 30 = .ok (.iconst 0, 1) := by decide +kernel
theorem d9_holdersOf_31 : decode m9_holdersOf.2.1 31 = .ok (.iadd, 1) := by decide +kernel
theorem d9_holdersOf_32 : decode m9_holdersOf.2.1 32 = .ok (.istore_n 3, 1) := by decide +kernel
theorem d9_holdersOf_33 : decode m9_holdersOf.2.1 33 = .ok (.iinc 4 1, 3) := by decide +kernel
theorem d9_holdersOf_36 : decode m9_holdersOf.2.1 36 = .ok (.goto (-31), 3) := by decide +kernel
theorem d9_holdersOf_39 : decode m9_holdersOf.2.1 39 = .ok (.iload_n 3, 1) := by decide +kernel
theorem d9_holdersOf_40 : decode m9_holdersOf.2.1 40 = .ok (.ireturn, 1) := by decide +kernel
def b9_holdersOf_31 (rec5 : Int × Int × AH → Option (Int × AH)) (x0 : Nat) (x1 : Int) (x2 : Int) (x4 : Int) (s0 : Int) (s1 : Int) (h : AH) : Option (Int × AH) :=
  lt (s1 + s0) fun u1 =>
  rec5 (u1, (x4 + 1), h)
set_option maxRecDepth 100000 in
theorem t9_holdersOf_31 (l : Launch) (G : Geo) (d : Nat) (hd : 3 ≤ d) (x0 : Nat) (x1 : Int) (x2 : Int) (x4 : Int) (s0 : Int) (s1 : Int) (rec5 : Int × Int × AH → Option (Int × AH)) (H5 : ∀ (x3 : Int) (x4 : Int) (h : AH), ok h.1 x0 9 → Den l G m9_holdersOf rvI d 5 [some (vA G x0), some (vI x1), some (vI x2), some (vI x3), some (vI x4)] [] h (rec5 (x3, x4, h))) (h : AH) (kx0 : ok h.1 x0 9) : Den l G m9_holdersOf rvI d 31 [some (vA G x0), some (vI x1), some (vI x2), none, some (vI x4)] [vI s0, vI s1] h (b9_holdersOf_31 rec5 x0 x1 x2 x4 s0 s1 h) := by
  unfold b9_holdersOf_31
  refine den_iadd (pc := 31) d9_holdersOf_31 ?_
  refine den_istore_nL (pc := 32) (L2 := fun y => [some (vA G x0), some (vI x1), some (vI x2), some (vI y), some (vI x4)]) d9_holdersOf_32 rfl (by decide) (fun _ => rfl) (fun u1 => ?_)
  refine den_iinc (pc := 33) (L2 := [some (vA G x0), some (vI x1), some (vI x2), some (vI u1), some (vI (x4 + 1))]) d9_holdersOf_33 (by decide) rfl rfl ?_
  refine den_goto (pc := 36) (tgt := 5) d9_holdersOf_36 (by decide) ?_
  exact H5 u1 (x4 + 1) h kx0
def b9_holdersOf_5 (rec5 : Int × Int × AH → Option (Int × AH)) (x0 : Nat) (x1 : Int) (x2 : Int) (x3 : Int) (x4 : Int) (h : AH) : Option (Int × AH) :=
  if w32 (h.2 x0 0) ≤ w32 x4 then
    some (x3, h)
  else
    bnd (f9_held x0 x4 x1 h) fun r2 h3 =>
    if ¬ w32 r2 = w32 x2 then
      b9_holdersOf_31 rec5 x0 x1 x2 x4 0 x3 h3
    else
      b9_holdersOf_31 rec5 x0 x1 x2 x4 1 x3 h3
set_option maxRecDepth 100000 in
theorem t9_holdersOf_5 (l : Launch) (G : Geo) (d : Nat) (hd : 3 ≤ d) (x0 : Nat) (x1 : Int) (x2 : Int) (x3 : Int) (x4 : Int) (rec5 : Int × Int × AH → Option (Int × AH)) (H5 : ∀ (x3 : Int) (x4 : Int) (h : AH), ok h.1 x0 9 → Den l G m9_holdersOf rvI d 5 [some (vA G x0), some (vI x1), some (vI x2), some (vI x3), some (vI x4)] [] h (rec5 (x3, x4, h))) (h : AH) (kx0 : ok h.1 x0 9) : Den l G m9_holdersOf rvI d 5 [some (vA G x0), some (vI x1), some (vI x2), some (vI x3), some (vI x4)] [] h (b9_holdersOf_5 rec5 x0 x1 x2 x3 x4 h) := by
  unfold b9_holdersOf_5
  refine den_iload (pc := 5) d9_holdersOf_5 rfl ?_
  refine den_aload_n (pc := 7) d9_holdersOf_7 rfl rfl ?_
  refine den_getI (pc := 8) fa_9_31 kx0 d9_holdersOf_8 ?_
  refine den_icmp_ge (pc := 11) (tgt := 39) d9_holdersOf_11 (by decide) rfl rfl (fun _ => ?_) (fun _ => ?_)
  · refine den_iload_n (pc := 39) d9_holdersOf_39 rfl rfl ?_
    exact den_iret (pc := 40) rfl d9_holdersOf_40
  · refine den_iload_n (pc := 14) d9_holdersOf_14 rfl rfl ?_
    refine den_aload_n (pc := 15) d9_holdersOf_15 rfl rfl ?_
    refine den_iload (pc := 16) d9_holdersOf_16 rfl ?_
    refine den_iload_n (pc := 18) d9_holdersOf_18 rfl rfl ?_
    refine den_callVI (pc := 19) (As := [vI x4, vI x1]) fv_9_69 rfl rfl kx0 (Nat.le_of_ble_eq_true rfl) (Nat.le_trans (by decide) hd) d9_holdersOf_19 (c9_held l G x0 x4 x1 h kx0) (fun r2 h3 m4 o5 => ?_)
    have q6 := ok.mono kx0 m4
    refine den_iload_n (pc := 22) d9_holdersOf_22 rfl rfl ?_
    refine den_icmp_ne (pc := 23) (tgt := 30) d9_holdersOf_23 (by decide) rfl rfl (fun _ => ?_) (fun _ => ?_)
    · refine den_iconst (pc := 30) d9_holdersOf_30 ?_
      refine den_wk [true, true, true, false, true] rfl ?_
      exact t9_holdersOf_31 l G _ hd x0 x1 x2 x4 0 x3 rec5 H5 h3 q6
    · refine den_iconst (pc := 26) d9_holdersOf_26 ?_
      refine den_goto (pc := 27) (tgt := 31) d9_holdersOf_27 (by decide) ?_
      refine den_wk [true, true, true, false, true] rfl ?_
      exact t9_holdersOf_31 l G _ hd x0 x1 x2 x4 1 x3 rec5 H5 h3 q6
def l9_holdersOf_5 (x0 : Nat) (x1 : Int) (x2 : Int) (x3 : Int) (x4 : Int) (h : AH) : Option (Int × AH) := fx (fun rec z => b9_holdersOf_5 rec x0 x1 x2 z.1 z.2.1 z.2.2) FU (x3, x4, h)
set_option maxRecDepth 100000 in
theorem tl9_holdersOf_5 (l : Launch) (G : Geo) (d : Nat) (hd : 3 ≤ d) (x0 : Nat) (x1 : Int) (x2 : Int) : ∀ (n : Nat) (z : Int × Int × AH), ok z.2.2.1 x0 9 → Den l G m9_holdersOf rvI d 5 [some (vA G x0), some (vI x1), some (vI x2), some (vI z.1), some (vI z.2.1)] [] z.2.2 (fx (fun rec z => b9_holdersOf_5 rec x0 x1 x2 z.1 z.2.1 z.2.2) n z) :=
  den_fx (F := fun rec z => b9_holdersOf_5 rec x0 x1 x2 z.1 z.2.1 z.2.2) (P := fun z => ok z.2.2.1 x0 9) (fL := fun z => [some (vA G x0), some (vI x1), some (vI x2), some (vI z.1), some (vI z.2.1)]) (fs := fun z => []) (fh := fun z => z.2.2) (fun rec hrec z hz => t9_holdersOf_5 l G d hd x0 x1 x2 z.1 z.2.1 rec (fun x3 x4 h w0 => hrec (x3, x4, h) w0) z.2.2 hz)
def f9_holdersOf (x0 : Nat) (x1 : Int) (x2 : Int) (h : AH) : Option (Int × AH) :=
  l9_holdersOf_5 x0 x1 x2 0 0 h
set_option maxRecDepth 100000 in
theorem c9_holdersOf (l : Launch) (G : Geo) (x0 : Nat) (x1 : Int) (x2 : Int) (h : AH) (kx0 : ok h.1 x0 9) : Con l G m9_holdersOf rvI 3 [vA G x0, vI x1, vI x2] h (f9_holdersOf x0 x1 x2 h) := by
  have hd : 3 ≤ 3 := Nat.le_refl _
  refine con_I rfl (by decide) rfl rfl (Nat.le_of_ble_eq_true rfl) (L := [some (vA G x0), some (vI x1), some (vI x2), none, none]) ?_
  unfold f9_holdersOf
  refine den_iconst (pc := 0) d9_holdersOf_0 ?_
  refine den_istore_n (pc := 1) (L2 := [some (vA G x0), some (vI x1), some (vI x2), some (vI 0), none]) d9_holdersOf_1 rfl (by decide) rfl ?_
  refine den_iconst (pc := 2) d9_holdersOf_2 ?_
  refine den_istore (pc := 3) (L2 := [some (vA G x0), some (vI x1), some (vI x2), some (vI 0), some (vI 0)]) d9_holdersOf_3 (by decide) rfl ?_
  exact tl9_holdersOf_5 l G _ hd x0 x1 x2 FU (0, 0, h) kx0
theorem d9_leavingForOath_0 : decode m9_leavingForOath.2.1 0 = .ok (.iconst 0, 1) := by decide +kernel
theorem d9_leavingForOath_1 : decode m9_leavingForOath.2.1 1 = .ok (.istore_n 2, 1) := by decide +kernel
theorem d9_leavingForOath_2 : decode m9_leavingForOath.2.1 2 = .ok (.iconst 0, 1) := by decide +kernel
theorem d9_leavingForOath_3 : decode m9_leavingForOath.2.1 3 = .ok (.istore_n 3, 1) := by decide +kernel
theorem d9_leavingForOath_4 : decode m9_leavingForOath.2.1 4 = .ok (.iconst 0, 1) := by decide +kernel
theorem d9_leavingForOath_5 : decode m9_leavingForOath.2.1 5 = .ok (.istore 4, 2) := by decide +kernel
theorem d9_leavingForOath_7 : decode m9_leavingForOath.2.1 7 = .ok (.iload 4, 2) := by decide +kernel
theorem d9_leavingForOath_9 : decode m9_leavingForOath.2.1 9 = .ok (.bipush 9, 2) := by decide +kernel
theorem d9_leavingForOath_11 : decode m9_leavingForOath.2.1 11 = .ok (.if_icmp .gt 30, 3) := by decide +kernel
theorem d9_leavingForOath_14 : decode m9_leavingForOath.2.1 14 = .ok (.aload_n 0, 1) := by decide +kernel
theorem d9_leavingForOath_15 : decode m9_leavingForOath.2.1 15 = .ok (.iload_n 1, 1) := by decide +kernel
theorem d9_leavingForOath_16 : decode m9_leavingForOath.2.1 16 = .ok (.iload 4, 2) := by decide +kernel
theorem d9_leavingForOath_18 : decode m9_leavingForOath.2.1 18 = .ok (.invokevirtual 108, 3) := by decide +kernel
theorem d9_leavingForOath_21 : decode m9_leavingForOath.2.1 21 = .ok (.istore 5, 2) := by decide +kernel
theorem d9_leavingForOath_23 : decode m9_leavingForOath.2.1 23 = .ok (.iload_n 2, 1) := by decide +kernel
theorem d9_leavingForOath_24 : decode m9_leavingForOath.2.1 24 = .ok (.iload 5, 2) := by decide +kernel
theorem d9_leavingForOath_26 : decode m9_leavingForOath.2.1 26 = .ok (.iadd, 1) := by decide +kernel
theorem d9_leavingForOath_27 : decode m9_leavingForOath.2.1 27 = .ok (.istore_n 2, 1) := by decide +kernel
theorem d9_leavingForOath_28 : decode m9_leavingForOath.2.1 28 = .ok (.iload_n 3, 1) := by decide +kernel
theorem d9_leavingForOath_29 : decode m9_leavingForOath.2.1 29 = .ok (.iload 5, 2) := by decide +kernel
theorem d9_leavingForOath_31 : decode m9_leavingForOath.2.1 31 = .ok (.invokestatic 82, 3) := by decide +kernel
theorem d9_leavingForOath_34 : decode m9_leavingForOath.2.1 34 = .ok (.istore_n 3, 1) := by decide +kernel
theorem d9_leavingForOath_35 : decode m9_leavingForOath.2.1 35 = .ok (.iinc 4 1, 3) := by decide +kernel
theorem d9_leavingForOath_38 : decode m9_leavingForOath.2.1 38 = .ok (.goto (-31), 3) := by decide +kernel
theorem d9_leavingForOath_41 : decode m9_leavingForOath.2.1 41 = .ok (.iload_n 2, 1) := by decide +kernel
theorem d9_leavingForOath_42 : decode m9_leavingForOath.2.1 42 = .ok (.iload_n 3, 1) := by decide +kernel
theorem d9_leavingForOath_43 : decode m9_leavingForOath.2.1 43 = .ok (.isub, 1) := by decide +kernel
theorem d9_leavingForOath_44 : decode m9_leavingForOath.2.1 44 = .ok (.ireturn, 1) := by decide +kernel
def b9_leavingForOath_7 (rec7 : Int × Int × Int × AH → Option (Int × AH)) (x0 : Nat) (x1 : Int) (x2 : Int) (x3 : Int) (x4 : Int) (h : AH) : Option (Int × AH) :=
  if 9 < w32 x4 then
    some (x2 - x3, h)
  else
    bnd (f9_holdersOf x0 x1 x4 h) fun r1 h2 =>
    lt (x2 + r1) fun u6 =>
    lt (max32 x3 r1) fun u7 =>
    rec7 (u6, u7, (x4 + 1), h2)
set_option maxRecDepth 100000 in
theorem t9_leavingForOath_7 (l : Launch) (G : Geo) (d : Nat) (hd : 4 ≤ d) (x0 : Nat) (x1 : Int) (x2 : Int) (x3 : Int) (x4 : Int) (rec7 : Int × Int × Int × AH → Option (Int × AH)) (H7 : ∀ (x2 : Int) (x3 : Int) (x4 : Int) (h : AH), ok h.1 x0 9 → Den l G m9_leavingForOath rvI d 7 [some (vA G x0), some (vI x1), some (vI x2), some (vI x3), some (vI x4), none] [] h (rec7 (x2, x3, x4, h))) (h : AH) (kx0 : ok h.1 x0 9) : Den l G m9_leavingForOath rvI d 7 [some (vA G x0), some (vI x1), some (vI x2), some (vI x3), some (vI x4), none] [] h (b9_leavingForOath_7 rec7 x0 x1 x2 x3 x4 h) := by
  unfold b9_leavingForOath_7
  refine den_iload (pc := 7) d9_leavingForOath_7 rfl ?_
  refine den_bipush (pc := 9) d9_leavingForOath_9 (by decide) ?_
  refine den_icmp_gt (pc := 11) (tgt := 41) d9_leavingForOath_11 (by decide) rfl (by decide) (fun _ => ?_) (fun _ => ?_)
  · refine den_iload_n (pc := 41) d9_leavingForOath_41 rfl rfl ?_
    refine den_iload_n (pc := 42) d9_leavingForOath_42 rfl rfl ?_
    refine den_isub (pc := 43) d9_leavingForOath_43 ?_
    exact den_iret (pc := 44) rfl d9_leavingForOath_44
  · refine den_aload_n (pc := 14) d9_leavingForOath_14 rfl rfl ?_
    refine den_iload_n (pc := 15) d9_leavingForOath_15 rfl rfl ?_
    refine den_iload (pc := 16) d9_leavingForOath_16 rfl ?_
    refine den_callVI (pc := 18) (As := [vI x1, vI x4]) fv_9_108 rfl rfl kx0 (Nat.le_of_ble_eq_true rfl) (Nat.le_trans (by decide) hd) d9_leavingForOath_18 (c9_holdersOf l G x0 x1 x4 h kx0) (fun r1 h2 m3 o4 => ?_)
    have q5 := ok.mono kx0 m3
    refine den_istore (pc := 21) (L2 := [some (vA G x0), some (vI x1), some (vI x2), some (vI x3), some (vI x4), some (vI r1)]) d9_leavingForOath_21 (by decide) rfl ?_
    refine den_iload_n (pc := 23) d9_leavingForOath_23 rfl rfl ?_
    refine den_iload (pc := 24) d9_leavingForOath_24 rfl ?_
    refine den_iadd (pc := 26) d9_leavingForOath_26 ?_
    refine den_istore_nL (pc := 27) (L2 := fun y => [some (vA G x0), some (vI x1), some (vI y), some (vI x3), some (vI x4), some (vI r1)]) d9_leavingForOath_27 rfl (by decide) (fun _ => rfl) (fun u6 => ?_)
    refine den_iload_n (pc := 28) d9_leavingForOath_28 rfl rfl ?_
    refine den_iload (pc := 29) d9_leavingForOath_29 rfl ?_
    refine den_max (pc := 31) fm_9_82 (Nat.le_of_ble_eq_true rfl) (Nat.le_trans (by decide) hd) d9_leavingForOath_31 ?_
    refine den_istore_nL (pc := 34) (L2 := fun y => [some (vA G x0), some (vI x1), some (vI u6), some (vI y), some (vI x4), some (vI r1)]) d9_leavingForOath_34 rfl (by decide) (fun _ => rfl) (fun u7 => ?_)
    refine den_iinc (pc := 35) (L2 := [some (vA G x0), some (vI x1), some (vI u6), some (vI u7), some (vI (x4 + 1)), some (vI r1)]) d9_leavingForOath_35 (by decide) rfl rfl ?_
    refine den_goto (pc := 38) (tgt := 7) d9_leavingForOath_38 (by decide) ?_
    refine den_wk [true, true, true, true, true, false] rfl ?_
    exact H7 u6 u7 (x4 + 1) h2 q5
def l9_leavingForOath_7 (x0 : Nat) (x1 : Int) (x2 : Int) (x3 : Int) (x4 : Int) (h : AH) : Option (Int × AH) := fx (fun rec z => b9_leavingForOath_7 rec x0 x1 z.1 z.2.1 z.2.2.1 z.2.2.2) FU (x2, x3, x4, h)
set_option maxRecDepth 100000 in
theorem tl9_leavingForOath_7 (l : Launch) (G : Geo) (d : Nat) (hd : 4 ≤ d) (x0 : Nat) (x1 : Int) : ∀ (n : Nat) (z : Int × Int × Int × AH), ok z.2.2.2.1 x0 9 → Den l G m9_leavingForOath rvI d 7 [some (vA G x0), some (vI x1), some (vI z.1), some (vI z.2.1), some (vI z.2.2.1), none] [] z.2.2.2 (fx (fun rec z => b9_leavingForOath_7 rec x0 x1 z.1 z.2.1 z.2.2.1 z.2.2.2) n z) :=
  den_fx (F := fun rec z => b9_leavingForOath_7 rec x0 x1 z.1 z.2.1 z.2.2.1 z.2.2.2) (P := fun z => ok z.2.2.2.1 x0 9) (fL := fun z => [some (vA G x0), some (vI x1), some (vI z.1), some (vI z.2.1), some (vI z.2.2.1), none]) (fs := fun z => []) (fh := fun z => z.2.2.2) (fun rec hrec z hz => t9_leavingForOath_7 l G d hd x0 x1 z.1 z.2.1 z.2.2.1 rec (fun x2 x3 x4 h w0 => hrec (x2, x3, x4, h) w0) z.2.2.2 hz)
def f9_leavingForOath (x0 : Nat) (x1 : Int) (h : AH) : Option (Int × AH) :=
  l9_leavingForOath_7 x0 x1 0 0 0 h
set_option maxRecDepth 100000 in
theorem c9_leavingForOath (l : Launch) (G : Geo) (x0 : Nat) (x1 : Int) (h : AH) (kx0 : ok h.1 x0 9) : Con l G m9_leavingForOath rvI 4 [vA G x0, vI x1] h (f9_leavingForOath x0 x1 h) := by
  have hd : 4 ≤ 4 := Nat.le_refl _
  refine con_I rfl (by decide) rfl rfl (Nat.le_of_ble_eq_true rfl) (L := [some (vA G x0), some (vI x1), none, none, none, none]) ?_
  unfold f9_leavingForOath
  refine den_iconst (pc := 0) d9_leavingForOath_0 ?_
  refine den_istore_n (pc := 1) (L2 := [some (vA G x0), some (vI x1), some (vI 0), none, none, none]) d9_leavingForOath_1 rfl (by decide) rfl ?_
  refine den_iconst (pc := 2) d9_leavingForOath_2 ?_
  refine den_istore_n (pc := 3) (L2 := [some (vA G x0), some (vI x1), some (vI 0), some (vI 0), none, none]) d9_leavingForOath_3 rfl (by decide) rfl ?_
  refine den_iconst (pc := 4) d9_leavingForOath_4 ?_
  refine den_istore (pc := 5) (L2 := [some (vA G x0), some (vI x1), some (vI 0), some (vI 0), some (vI 0), none]) d9_leavingForOath_5 (by decide) rfl ?_
  exact tl9_leavingForOath_7 l G _ hd x0 x1 FU (0, 0, 0, h) kx0
theorem d9_sameKin_0 : decode m9_sameKin.2.1 0 = .ok (.iconst 0, 1) := by decide +kernel
theorem d9_sameKin_1 : decode m9_sameKin.2.1 1 = .ok (.istore_n 3, 1) := by decide +kernel
theorem d9_sameKin_2 : decode m9_sameKin.2.1 2 = .ok (.iload_n 3, 1) := by decide +kernel
theorem d9_sameKin_3 : decode m9_sameKin.2.1 3 = .ok (.aload_n 0, 1) := by decide +kernel
theorem d9_sameKin_4 : decode m9_sameKin.2.1 4 = .ok (.getfield 34, 3) := by decide +kernel
theorem d9_sameKin_7 : decode m9_sameKin.2.1 7 = .ok (.if_icmp .ge 26, 3) := by decide +kernel
theorem d9_sameKin_10 : decode m9_sameKin.2.1 10 = .ok (.aload_n 0, 1) := by decide +kernel
theorem d9_sameKin_11 : decode m9_sameKin.2.1 11 = .ok (.iload_n 1, 1) := by decide +kernel
theorem d9_sameKin_12 : decode m9_sameKin.2.1 12 = .ok (.iload_n 3, 1) := by decide +kernel
theorem d9_sameKin_13 : decode m9_sameKin.2.1 13 = .ok (.invokevirtual 69, 3) := by decide +kernel
theorem d9_sameKin_16 : decode m9_sameKin.2.1 16 = .ok (.aload_n 0, 1) := by decide +kernel
theorem d9_sameKin_17 : decode m9_sameKin.2.1 17 = .ok (.iload_n 2, 1) := by decide +kernel
theorem d9_sameKin_18 : decode m9_sameKin.2.1 18 = .ok (.iload_n 3, 1) := by decide +kernel
theorem d9_sameKin_19 : decode m9_sameKin.2.1 19 = .ok (.invokevirtual 69, 3) := by decide +kernel
theorem d9_sameKin_22 : decode m9_sameKin.2.1 22 = .ok (.if_icmp .eq 5, 3) := by decide +kernel
theorem d9_sameKin_25 : decode m9_sameKin.2.1 25 = .ok (.iconst 0, 1) := by decide +kernel
theorem d9_sameKin_26 : decode m9_sameKin.2.1 26 = .ok (.ireturn, 1) := by decide +kernel
theorem d9_sameKin_27 : decode m9_sameKin.2.1 27 = .ok (.iinc 3 1, 3) := by decide +kernel
theorem d9_sameKin_30 : decode m9_sameKin.2.1 30 = .ok (.goto (-28), 3) := by decide +kernel
theorem d9_sameKin_33 : decode m9_sameKin.2.1 33 = .ok (.iconst 1, 1) := by decide +kernel
theorem d9_sameKin_34 : decode m9_sameKin.2.1 34 = .ok (.ireturn, 1) := by decide +kernel
def b9_sameKin_2 (rec2 : Int × AH → Option (Int × AH)) (x0 : Nat) (x1 : Int) (x2 : Int) (x3 : Int) (h : AH) : Option (Int × AH) :=
  if w32 (h.2 x0 1) ≤ w32 x3 then
    some (1, h)
  else
    bnd (f9_held x0 x1 x3 h) fun r1 h2 =>
    bnd (f9_held x0 x2 x3 h2) fun r6 h7 =>
    if w32 r1 = w32 r6 then
      rec2 ((x3 + 1), h7)
    else
      some (0, h7)
set_option maxRecDepth 100000 in
theorem t9_sameKin_2 (l : Launch) (G : Geo) (d : Nat) (hd : 3 ≤ d) (x0 : Nat) (x1 : Int) (x2 : Int) (x3 : Int) (rec2 : Int × AH → Option (Int × AH)) (H2 : ∀ (x3 : Int) (h : AH), ok h.1 x0 9 → Den l G m9_sameKin rvI d 2 [some (vA G x0), some (vI x1), some (vI x2), some (vI x3)] [] h (rec2 (x3, h))) (h : AH) (kx0 : ok h.1 x0 9) : Den l G m9_sameKin rvI d 2 [some (vA G x0), some (vI x1), some (vI x2), some (vI x3)] [] h (b9_sameKin_2 rec2 x0 x1 x2 x3 h) := by
  unfold b9_sameKin_2
  refine den_iload_n (pc := 2) d9_sameKin_2 rfl rfl ?_
  refine den_aload_n (pc := 3) d9_sameKin_3 rfl rfl ?_
  refine den_getI (pc := 4) fa_9_34 kx0 d9_sameKin_4 ?_
  refine den_icmp_ge (pc := 7) (tgt := 33) d9_sameKin_7 (by decide) rfl rfl (fun _ => ?_) (fun _ => ?_)
  · refine den_iconst (pc := 33) d9_sameKin_33 ?_
    exact den_zret (pc := 34) rfl (by decide) d9_sameKin_34
  · refine den_aload_n (pc := 10) d9_sameKin_10 rfl rfl ?_
    refine den_iload_n (pc := 11) d9_sameKin_11 rfl rfl ?_
    refine den_iload_n (pc := 12) d9_sameKin_12 rfl rfl ?_
    refine den_callVI (pc := 13) (As := [vI x1, vI x3]) fv_9_69 rfl rfl kx0 (Nat.le_of_ble_eq_true rfl) (Nat.le_trans (by decide) hd) d9_sameKin_13 (c9_held l G x0 x1 x3 h kx0) (fun r1 h2 m3 o4 => ?_)
    have q5 := ok.mono kx0 m3
    refine den_aload_n (pc := 16) d9_sameKin_16 rfl rfl ?_
    refine den_iload_n (pc := 17) d9_sameKin_17 rfl rfl ?_
    refine den_iload_n (pc := 18) d9_sameKin_18 rfl rfl ?_
    refine den_callVI (pc := 19) (As := [vI x2, vI x3]) fv_9_69 rfl rfl q5 (Nat.le_of_ble_eq_true rfl) (Nat.le_trans (by decide) hd) d9_sameKin_19 (c9_held l G x0 x2 x3 h2 q5) (fun r6 h7 m8 o9 => ?_)
    have q10 := ok.mono q5 m8
    refine den_icmp_eq (pc := 22) (tgt := 27) d9_sameKin_22 (by decide) rfl rfl (fun _ => ?_) (fun _ => ?_)
    · refine den_iinc (pc := 27) (L2 := [some (vA G x0), some (vI x1), some (vI x2), some (vI (x3 + 1))]) d9_sameKin_27 (by decide) rfl rfl ?_
      refine den_goto (pc := 30) (tgt := 2) d9_sameKin_30 (by decide) ?_
      exact H2 (x3 + 1) h7 q10
    · refine den_iconst (pc := 25) d9_sameKin_25 ?_
      exact den_zret (pc := 26) rfl (by decide) d9_sameKin_26
def l9_sameKin_2 (x0 : Nat) (x1 : Int) (x2 : Int) (x3 : Int) (h : AH) : Option (Int × AH) := fx (fun rec z => b9_sameKin_2 rec x0 x1 x2 z.1 z.2) FU (x3, h)
set_option maxRecDepth 100000 in
theorem tl9_sameKin_2 (l : Launch) (G : Geo) (d : Nat) (hd : 3 ≤ d) (x0 : Nat) (x1 : Int) (x2 : Int) : ∀ (n : Nat) (z : Int × AH), ok z.2.1 x0 9 → Den l G m9_sameKin rvI d 2 [some (vA G x0), some (vI x1), some (vI x2), some (vI z.1)] [] z.2 (fx (fun rec z => b9_sameKin_2 rec x0 x1 x2 z.1 z.2) n z) :=
  den_fx (F := fun rec z => b9_sameKin_2 rec x0 x1 x2 z.1 z.2) (P := fun z => ok z.2.1 x0 9) (fL := fun z => [some (vA G x0), some (vI x1), some (vI x2), some (vI z.1)]) (fs := fun z => []) (fh := fun z => z.2) (fun rec hrec z hz => t9_sameKin_2 l G d hd x0 x1 x2 z.1 rec (fun x3 h w0 => hrec (x3, h) w0) z.2 hz)
def f9_sameKin (x0 : Nat) (x1 : Int) (x2 : Int) (h : AH) : Option (Int × AH) :=
  l9_sameKin_2 x0 x1 x2 0 h
set_option maxRecDepth 100000 in
theorem c9_sameKin (l : Launch) (G : Geo) (x0 : Nat) (x1 : Int) (x2 : Int) (h : AH) (kx0 : ok h.1 x0 9) : Con l G m9_sameKin rvI 3 [vA G x0, vI x1, vI x2] h (f9_sameKin x0 x1 x2 h) := by
  have hd : 3 ≤ 3 := Nat.le_refl _
  refine con_Z rfl (by decide) rfl rfl (Nat.le_of_ble_eq_true rfl) (L := [some (vA G x0), some (vI x1), some (vI x2), none]) ?_
  unfold f9_sameKin
  refine den_iconst (pc := 0) d9_sameKin_0 ?_
  refine den_istore_n (pc := 1) (L2 := [some (vA G x0), some (vI x1), some (vI x2), some (vI 0)]) d9_sameKin_1 rfl (by decide) rfl ?_
  exact tl9_sameKin_2 l G _ hd x0 x1 x2 FU (0, h) kx0
theorem d9_kinFrom_0 : decode m9_kinFrom.2.1 0 = .ok (.iconst 0, 1) := by decide +kernel
theorem d9_kinFrom_1 : decode m9_kinFrom.2.1 1 = .ok (.istore 4, 2) := by decide +kernel
theorem d9_kinFrom_3 : decode m9_kinFrom.2.1 3 = .ok (.iload_n 1, 1) := by decide +kernel
theorem d9_kinFrom_4 : decode m9_kinFrom.2.1 4 = .ok (.istore 5, 2) := by decide +kernel
theorem d9_kinFrom_6 : decode m9_kinFrom.2.1 6 = .ok (.iload 5, 2) := by decide +kernel
theorem d9_kinFrom_8 : decode m9_kinFrom.2.1 8 = .ok (.iload_n 2, 1) := by decide +kernel
theorem d9_kinFrom_9 : decode m9_kinFrom.2.1 9 = .ok (.if_icmp .ge 29, 3) := by decide +kernel
theorem d9_kinFrom_12 : decode m9_kinFrom.2.1 12 = .ok (.iload 4, 2) := by decide +kernel
theorem d9_kinFrom_14 : decode m9_kinFrom.2.1 14 = .ok (.aload_n 0, 1) := by decide +kernel
theorem d9_kinFrom_15 : decode m9_kinFrom.2.1 15 = .ok (.iload_n 3, 1) := by decide +kernel
theorem d9_kinFrom_16 : decode m9_kinFrom.2.1 16 = .ok (.iload 5, 2) := by decide +kernel
theorem d9_kinFrom_18 : decode m9_kinFrom.2.1 18 = .ok (.invokevirtual 114, 3) := by decide +kernel
theorem d9_kinFrom_21 : decode m9_kinFrom.2.1 21 = .ok (.ifCond .eq 7, 3) := by decide +kernel
theorem d9_kinFrom_24 : decode m9_kinFrom.2.1 24 = .ok (.iconst 1, 1) := by decide +kernel
theorem d9_kinFrom_25 : decode m9_kinFrom.2.1 25 = .ok (.goto 4, 3) := by decide +kernel
theorem d9_kinFrom_28 : decode m9_kinFrom.2.1 28 = .ok (.iconst 0, 1) := by decide +kernel
theorem d9_kinFrom_29 : decode m9_kinFrom.2.1 29 = .ok (.iadd, 1) := by decide +kernel
theorem d9_kinFrom_30 : decode m9_kinFrom.2.1 30 = .ok (.istore 4, 2) := by decide +kernel
theorem d9_kinFrom_32 : decode m9_kinFrom.2.1 32 = .ok (.iinc 5 1, 3) := by decide +kernel
theorem d9_kinFrom_35 : decode m9_kinFrom.2.1 35 = .ok (.goto (-29), 3) := by decide +kernel
theorem d9_kinFrom_38 : decode m9_kinFrom.2.1 38 = .ok (.iload 4, 2) := by decide +kernel
theorem d9_kinFrom_40 : decode m9_kinFrom.2.1 40 = .ok (.ireturn, 1) := by decide +kernel
def b9_kinFrom_29 (rec6 : Int × Int × AH → Option (Int × AH)) (x0 : Nat) (x2 : Int) (x3 : Int) (x5 : Int) (s0 : Int) (s1 : Int) (h : AH) : Option (Int × AH) :=
  lt (s1 + s0) fun u1 =>
  rec6 (u1, (x5 + 1), h)
set_option maxRecDepth 100000 in
theorem t9_kinFrom_29 (l : Launch) (G : Geo) (d : Nat) (hd : 4 ≤ d) (x0 : Nat) (x2 : Int) (x3 : Int) (x5 : Int) (s0 : Int) (s1 : Int) (rec6 : Int × Int × AH → Option (Int × AH)) (H6 : ∀ (x4 : Int) (x5 : Int) (h : AH), ok h.1 x0 9 → Den l G m9_kinFrom rvI d 6 [some (vA G x0), none, some (vI x2), some (vI x3), some (vI x4), some (vI x5)] [] h (rec6 (x4, x5, h))) (h : AH) (kx0 : ok h.1 x0 9) : Den l G m9_kinFrom rvI d 29 [some (vA G x0), none, some (vI x2), some (vI x3), none, some (vI x5)] [vI s0, vI s1] h (b9_kinFrom_29 rec6 x0 x2 x3 x5 s0 s1 h) := by
  unfold b9_kinFrom_29
  refine den_iadd (pc := 29) d9_kinFrom_29 ?_
  refine den_istoreL (pc := 30) (L2 := fun y => [some (vA G x0), none, some (vI x2), some (vI x3), some (vI y), some (vI x5)]) d9_kinFrom_30 (by decide) (fun _ => rfl) (fun u1 => ?_)
  refine den_iinc (pc := 32) (L2 := [some (vA G x0), none, some (vI x2), some (vI x3), some (vI u1), some (vI (x5 + 1))]) d9_kinFrom_32 (by decide) rfl rfl ?_
  refine den_goto (pc := 35) (tgt := 6) d9_kinFrom_35 (by decide) ?_
  exact H6 u1 (x5 + 1) h kx0
def b9_kinFrom_6 (rec6 : Int × Int × AH → Option (Int × AH)) (x0 : Nat) (x2 : Int) (x3 : Int) (x4 : Int) (x5 : Int) (h : AH) : Option (Int × AH) :=
  if w32 x2 ≤ w32 x5 then
    some (x4, h)
  else
    bnd (f9_sameKin x0 x3 x5 h) fun r2 h3 =>
    if w32 r2 = 0 then
      b9_kinFrom_29 rec6 x0 x2 x3 x5 0 x4 h3
    else
      b9_kinFrom_29 rec6 x0 x2 x3 x5 1 x4 h3
set_option maxRecDepth 100000 in
theorem t9_kinFrom_6 (l : Launch) (G : Geo) (d : Nat) (hd : 4 ≤ d) (x0 : Nat) (x2 : Int) (x3 : Int) (x4 : Int) (x5 : Int) (rec6 : Int × Int × AH → Option (Int × AH)) (H6 : ∀ (x4 : Int) (x5 : Int) (h : AH), ok h.1 x0 9 → Den l G m9_kinFrom rvI d 6 [some (vA G x0), none, some (vI x2), some (vI x3), some (vI x4), some (vI x5)] [] h (rec6 (x4, x5, h))) (h : AH) (kx0 : ok h.1 x0 9) : Den l G m9_kinFrom rvI d 6 [some (vA G x0), none, some (vI x2), some (vI x3), some (vI x4), some (vI x5)] [] h (b9_kinFrom_6 rec6 x0 x2 x3 x4 x5 h) := by
  unfold b9_kinFrom_6
  refine den_iload (pc := 6) d9_kinFrom_6 rfl ?_
  refine den_iload_n (pc := 8) d9_kinFrom_8 rfl rfl ?_
  refine den_icmp_ge (pc := 9) (tgt := 38) d9_kinFrom_9 (by decide) rfl rfl (fun _ => ?_) (fun _ => ?_)
  · refine den_iload (pc := 38) d9_kinFrom_38 rfl ?_
    exact den_iret (pc := 40) rfl d9_kinFrom_40
  · refine den_iload (pc := 12) d9_kinFrom_12 rfl ?_
    refine den_aload_n (pc := 14) d9_kinFrom_14 rfl rfl ?_
    refine den_iload_n (pc := 15) d9_kinFrom_15 rfl rfl ?_
    refine den_iload (pc := 16) d9_kinFrom_16 rfl ?_
    refine den_callVI (pc := 18) (As := [vI x3, vI x5]) fv_9_114 rfl rfl kx0 (Nat.le_of_ble_eq_true rfl) (Nat.le_trans (by decide) hd) d9_kinFrom_18 (c9_sameKin l G x0 x3 x5 h kx0) (fun r2 h3 m4 o5 => ?_)
    have q6 := ok.mono kx0 m4
    refine den_if_eq (pc := 21) (tgt := 28) d9_kinFrom_21 (by decide) rfl (fun _ => ?_) (fun _ => ?_)
    · refine den_iconst (pc := 28) d9_kinFrom_28 ?_
      refine den_wk [true, true, true, true, false, true] rfl ?_
      exact t9_kinFrom_29 l G _ hd x0 x2 x3 x5 0 x4 rec6 H6 h3 q6
    · refine den_iconst (pc := 24) d9_kinFrom_24 ?_
      refine den_goto (pc := 25) (tgt := 29) d9_kinFrom_25 (by decide) ?_
      refine den_wk [true, true, true, true, false, true] rfl ?_
      exact t9_kinFrom_29 l G _ hd x0 x2 x3 x5 1 x4 rec6 H6 h3 q6
def l9_kinFrom_6 (x0 : Nat) (x2 : Int) (x3 : Int) (x4 : Int) (x5 : Int) (h : AH) : Option (Int × AH) := fx (fun rec z => b9_kinFrom_6 rec x0 x2 x3 z.1 z.2.1 z.2.2) FU (x4, x5, h)
set_option maxRecDepth 100000 in
theorem tl9_kinFrom_6 (l : Launch) (G : Geo) (d : Nat) (hd : 4 ≤ d) (x0 : Nat) (x2 : Int) (x3 : Int) : ∀ (n : Nat) (z : Int × Int × AH), ok z.2.2.1 x0 9 → Den l G m9_kinFrom rvI d 6 [some (vA G x0), none, some (vI x2), some (vI x3), some (vI z.1), some (vI z.2.1)] [] z.2.2 (fx (fun rec z => b9_kinFrom_6 rec x0 x2 x3 z.1 z.2.1 z.2.2) n z) :=
  den_fx (F := fun rec z => b9_kinFrom_6 rec x0 x2 x3 z.1 z.2.1 z.2.2) (P := fun z => ok z.2.2.1 x0 9) (fL := fun z => [some (vA G x0), none, some (vI x2), some (vI x3), some (vI z.1), some (vI z.2.1)]) (fs := fun z => []) (fh := fun z => z.2.2) (fun rec hrec z hz => t9_kinFrom_6 l G d hd x0 x2 x3 z.1 z.2.1 rec (fun x4 x5 h w0 => hrec (x4, x5, h) w0) z.2.2 hz)
def f9_kinFrom (x0 : Nat) (x1 : Int) (x2 : Int) (x3 : Int) (h : AH) : Option (Int × AH) :=
  l9_kinFrom_6 x0 x2 x3 0 x1 h
set_option maxRecDepth 100000 in
theorem c9_kinFrom (l : Launch) (G : Geo) (x0 : Nat) (x1 : Int) (x2 : Int) (x3 : Int) (h : AH) (kx0 : ok h.1 x0 9) : Con l G m9_kinFrom rvI 4 [vA G x0, vI x1, vI x2, vI x3] h (f9_kinFrom x0 x1 x2 x3 h) := by
  have hd : 4 ≤ 4 := Nat.le_refl _
  refine con_I rfl (by decide) rfl rfl (Nat.le_of_ble_eq_true rfl) (L := [some (vA G x0), some (vI x1), some (vI x2), some (vI x3), none, none]) ?_
  unfold f9_kinFrom
  refine den_iconst (pc := 0) d9_kinFrom_0 ?_
  refine den_istore (pc := 1) (L2 := [some (vA G x0), some (vI x1), some (vI x2), some (vI x3), some (vI 0), none]) d9_kinFrom_1 (by decide) rfl ?_
  refine den_iload_n (pc := 3) d9_kinFrom_3 rfl rfl ?_
  refine den_istore (pc := 4) (L2 := [some (vA G x0), some (vI x1), some (vI x2), some (vI x3), some (vI 0), some (vI x1)]) d9_kinFrom_4 (by decide) rfl ?_
  refine den_wk [true, false, true, true, true, true] rfl ?_
  exact tl9_kinFrom_6 l G _ hd x0 x2 x3 FU (0, x1, h) kx0
theorem d9_kins_0 : decode m9_kins.2.1 0 = .ok (.iconst 0, 1) := by decide +kernel
theorem d9_kins_1 : decode m9_kins.2.1 1 = .ok (.istore_n 1, 1) := by decide +kernel
theorem d9_kins_2 : decode m9_kins.2.1 2 = .ok (.iconst 0, 1) := by decide +kernel
theorem d9_kins_3 : decode m9_kins.2.1 3 = .ok (.istore_n 2, 1) := by decide +kernel
theorem d9_kins_4 : decode m9_kins.2.1 4 = .ok (.iload_n 2, 1) := by decide +kernel
theorem d9_kins_5 : decode m9_kins.2.1 5 = .ok (.aload_n 0, 1) := by decide +kernel
theorem d9_kins_6 : decode m9_kins.2.1 6 = .ok (.getfield 31, 3) := by decide +kernel
theorem d9_kins_9 : decode m9_kins.2.1 9 = .ok (.if_icmp .ge 27, 3) := by decide +kernel
theorem d9_kins_12 : decode m9_kins.2.1 12 = .ok (.iload_n 1, 1) := by decide +kernel
theorem d9_kins_13 : decode m9_kins.2.1 13 = .ok (.aload_n 0, 1) := by decide +kernel
theorem d9_kins_14 : decode m9_kins.2.1 14 = .ok (.iconst 0, 1) := by decide +kernel
theorem d9_kins_15 : decode m9_kins.2.1 15 = .ok (.iload_n 2, 1) := by decide +kernel
theorem d9_kins_16 : decode m9_kins.2.1 16 = .ok (.iload_n 2, 1) := by decide +kernel
theorem d9_kins_17 : decode m9_kins.2.1 17 = .ok (.invokevirtual 111, 3) := by decide +kernel
theorem d9_kins_20 : decode m9_kins.2.1 20 = .ok (.ifCond .ne 7, 3) := by decide +kernel
theorem d9_kins_23 : decode m9_kins.2.1 23 = .ok (.iconst 1, 1) := by decide +kernel
theorem d9_kins_24 : decode m9_kins.2.1 24 = .ok (.goto 4, 3) := by decide +kernel
theorem d9_kins_27 : decode m9_kins.2.1 27 = .ok (.iconst 0, 1) := by decide +kernel
theorem d9_kins_28 : decode m9_kins.2.1 28 = .ok (.iadd, 1) := by decide +kernel
theorem d9_kins_29 : decode m9_kins.2.1 29 = .ok (.istore_n 1, 1) := by decide +kernel
theorem d9_kins_30 : decode m9_kins.2.1 30 = .ok (.iinc 2 1, 3) := by decide +kernel
theorem d9_kins_33 : decode m9_kins.2.1 33 = .ok (.goto (-29), 3) := by decide +kernel
theorem d9_kins_36 : decode m9_kins.2.1 36 = .ok (.iload_n 1, 1) := by decide +kernel
theorem d9_kins_37 : decode m9_kins.2.1 37 = .ok (.ireturn, 1) := by decide +kernel
def b9_kins_28 (rec4 : Int × Int × AH → Option (Int × AH)) (x0 : Nat) (x2 : Int) (s0 : Int) (s1 : Int) (h : AH) : Option (Int × AH) :=
  lt (s1 + s0) fun u1 =>
  rec4 (u1, (x2 + 1), h)
set_option maxRecDepth 100000 in
theorem t9_kins_28 (l : Launch) (G : Geo) (d : Nat) (hd : 5 ≤ d) (x0 : Nat) (x2 : Int) (s0 : Int) (s1 : Int) (rec4 : Int × Int × AH → Option (Int × AH)) (H4 : ∀ (x1 : Int) (x2 : Int) (h : AH), ok h.1 x0 9 → Den l G m9_kins rvI d 4 [some (vA G x0), some (vI x1), some (vI x2)] [] h (rec4 (x1, x2, h))) (h : AH) (kx0 : ok h.1 x0 9) : Den l G m9_kins rvI d 28 [some (vA G x0), none, some (vI x2)] [vI s0, vI s1] h (b9_kins_28 rec4 x0 x2 s0 s1 h) := by
  unfold b9_kins_28
  refine den_iadd (pc := 28) d9_kins_28 ?_
  refine den_istore_nL (pc := 29) (L2 := fun y => [some (vA G x0), some (vI y), some (vI x2)]) d9_kins_29 rfl (by decide) (fun _ => rfl) (fun u1 => ?_)
  refine den_iinc (pc := 30) (L2 := [some (vA G x0), some (vI u1), some (vI (x2 + 1))]) d9_kins_30 (by decide) rfl rfl ?_
  refine den_goto (pc := 33) (tgt := 4) d9_kins_33 (by decide) ?_
  exact H4 u1 (x2 + 1) h kx0
def b9_kins_4 (rec4 : Int × Int × AH → Option (Int × AH)) (x0 : Nat) (x1 : Int) (x2 : Int) (h : AH) : Option (Int × AH) :=
  if w32 (h.2 x0 0) ≤ w32 x2 then
    some (x1, h)
  else
    bnd (f9_kinFrom x0 0 x2 x2 h) fun r2 h3 =>
    if ¬ w32 r2 = 0 then
      b9_kins_28 rec4 x0 x2 0 x1 h3
    else
      b9_kins_28 rec4 x0 x2 1 x1 h3
set_option maxRecDepth 100000 in
theorem t9_kins_4 (l : Launch) (G : Geo) (d : Nat) (hd : 5 ≤ d) (x0 : Nat) (x1 : Int) (x2 : Int) (rec4 : Int × Int × AH → Option (Int × AH)) (H4 : ∀ (x1 : Int) (x2 : Int) (h : AH), ok h.1 x0 9 → Den l G m9_kins rvI d 4 [some (vA G x0), some (vI x1), some (vI x2)] [] h (rec4 (x1, x2, h))) (h : AH) (kx0 : ok h.1 x0 9) : Den l G m9_kins rvI d 4 [some (vA G x0), some (vI x1), some (vI x2)] [] h (b9_kins_4 rec4 x0 x1 x2 h) := by
  unfold b9_kins_4
  refine den_iload_n (pc := 4) d9_kins_4 rfl rfl ?_
  refine den_aload_n (pc := 5) d9_kins_5 rfl rfl ?_
  refine den_getI (pc := 6) fa_9_31 kx0 d9_kins_6 ?_
  refine den_icmp_ge (pc := 9) (tgt := 36) d9_kins_9 (by decide) rfl rfl (fun _ => ?_) (fun _ => ?_)
  · refine den_iload_n (pc := 36) d9_kins_36 rfl rfl ?_
    exact den_iret (pc := 37) rfl d9_kins_37
  · refine den_iload_n (pc := 12) d9_kins_12 rfl rfl ?_
    refine den_aload_n (pc := 13) d9_kins_13 rfl rfl ?_
    refine den_iconst (pc := 14) d9_kins_14 ?_
    refine den_iload_n (pc := 15) d9_kins_15 rfl rfl ?_
    refine den_iload_n (pc := 16) d9_kins_16 rfl rfl ?_
    refine den_callVI (pc := 17) (As := [vI 0, vI x2, vI x2]) fv_9_111 rfl rfl kx0 (Nat.le_of_ble_eq_true rfl) (Nat.le_trans (by decide) hd) d9_kins_17 (c9_kinFrom l G x0 0 x2 x2 h kx0) (fun r2 h3 m4 o5 => ?_)
    have q6 := ok.mono kx0 m4
    refine den_if_ne (pc := 20) (tgt := 27) d9_kins_20 (by decide) rfl (fun _ => ?_) (fun _ => ?_)
    · refine den_iconst (pc := 27) d9_kins_27 ?_
      refine den_wk [true, false, true] rfl ?_
      exact t9_kins_28 l G _ hd x0 x2 0 x1 rec4 H4 h3 q6
    · refine den_iconst (pc := 23) d9_kins_23 ?_
      refine den_goto (pc := 24) (tgt := 28) d9_kins_24 (by decide) ?_
      refine den_wk [true, false, true] rfl ?_
      exact t9_kins_28 l G _ hd x0 x2 1 x1 rec4 H4 h3 q6
def l9_kins_4 (x0 : Nat) (x1 : Int) (x2 : Int) (h : AH) : Option (Int × AH) := fx (fun rec z => b9_kins_4 rec x0 z.1 z.2.1 z.2.2) FU (x1, x2, h)
set_option maxRecDepth 100000 in
theorem tl9_kins_4 (l : Launch) (G : Geo) (d : Nat) (hd : 5 ≤ d) (x0 : Nat) : ∀ (n : Nat) (z : Int × Int × AH), ok z.2.2.1 x0 9 → Den l G m9_kins rvI d 4 [some (vA G x0), some (vI z.1), some (vI z.2.1)] [] z.2.2 (fx (fun rec z => b9_kins_4 rec x0 z.1 z.2.1 z.2.2) n z) :=
  den_fx (F := fun rec z => b9_kins_4 rec x0 z.1 z.2.1 z.2.2) (P := fun z => ok z.2.2.1 x0 9) (fL := fun z => [some (vA G x0), some (vI z.1), some (vI z.2.1)]) (fs := fun z => []) (fh := fun z => z.2.2) (fun rec hrec z hz => t9_kins_4 l G d hd x0 z.1 z.2.1 rec (fun x1 x2 h w0 => hrec (x1, x2, h) w0) z.2.2 hz)
def f9_kins (x0 : Nat) (h : AH) : Option (Int × AH) :=
  l9_kins_4 x0 0 0 h
set_option maxRecDepth 100000 in
theorem c9_kins (l : Launch) (G : Geo) (x0 : Nat) (h : AH) (kx0 : ok h.1 x0 9) : Con l G m9_kins rvI 5 [vA G x0] h (f9_kins x0 h) := by
  have hd : 5 ≤ 5 := Nat.le_refl _
  refine con_I rfl (by decide) rfl rfl (Nat.le_of_ble_eq_true rfl) (L := [some (vA G x0), none, none]) ?_
  unfold f9_kins
  refine den_iconst (pc := 0) d9_kins_0 ?_
  refine den_istore_n (pc := 1) (L2 := [some (vA G x0), some (vI 0), none]) d9_kins_1 rfl (by decide) rfl ?_
  refine den_iconst (pc := 2) d9_kins_2 ?_
  refine den_istore_n (pc := 3) (L2 := [some (vA G x0), some (vI 0), some (vI 0)]) d9_kins_3 rfl (by decide) rfl ?_
  exact tl9_kins_4 l G _ hd x0 FU (0, 0, h) kx0
theorem d9_largestKin_0 : decode m9_largestKin.2.1 0 = .ok (.iconst 0, 1) := by decide +kernel
theorem d9_largestKin_1 : decode m9_largestKin.2.1 1 = .ok (.istore_n 1, 1) := by decide +kernel
theorem d9_largestKin_2 : decode m9_largestKin.2.1 2 = .ok (.iconst 0, 1) := by decide +kernel
theorem d9_largestKin_3 : decode m9_largestKin.2.1 3 = .ok (.istore_n 2, 1) := by decide +kernel
theorem d9_largestKin_4 : decode m9_largestKin.2.1 4 = .ok (.iload_n 2, 1) := by decide +kernel
theorem d9_largestKin_5 : decode m9_largestKin.2.1 5 = .ok (.aload_n 0, 1) := by decide +kernel
theorem d9_largestKin_6 : decode m9_largestKin.2.1 6 = .ok (.getfield 31, 3) := by decide +kernel
theorem d9_largestKin_9 : decode m9_largestKin.2.1 9 = .ok (.if_icmp .ge 24, 3) := by decide +kernel
theorem d9_largestKin_12 : decode m9_largestKin.2.1 12 = .ok (.iload_n 1, 1) := by decide +kernel
theorem d9_largestKin_13 : decode m9_largestKin.2.1 13 = .ok (.aload_n 0, 1) := by decide +kernel
theorem d9_largestKin_14 : decode m9_largestKin.2.1 14 = .ok (.iconst 0, 1) := by decide +kernel
theorem d9_largestKin_15 : decode m9_largestKin.2.1 15 = .ok (.aload_n 0, 1) := by decide +kernel
theorem d9_largestKin_16 : decode m9_largestKin.2.1 16 = .ok (.getfield 31, 3) := by decide +kernel
theorem d9_largestKin_19 : decode m9_largestKin.2.1 19 = .ok (.iload_n 2, 1) := by decide +kernel
theorem d9_largestKin_20 : decode m9_largestKin.2.1 20 = .ok (.invokevirtual 111, 3) := by decide +kernel
theorem d9_largestKin_23 : decode m9_largestKin.2.1 23 = .ok (.invokestatic 82, 3) := by decide +kernel
theorem d9_largestKin_26 : decode m9_largestKin.2.1 26 = .ok (.istore_n 1, 1) := by decide +kernel
theorem d9_largestKin_27 : decode m9_largestKin.2.1 27 = .ok (.iinc 2 1, 3) := by decide +kernel
theorem d9_largestKin_30 : decode m9_largestKin.2.1 30 = .ok (.goto (-26), 3) := by decide +kernel
theorem d9_largestKin_33 : decode m9_largestKin.2.1 33 = .ok (.iload_n 1, 1) := by decide +kernel
theorem d9_largestKin_34 : decode m9_largestKin.2.1 34 = .ok (.ireturn, 1) := by decide +kernel
def b9_largestKin_4 (rec4 : Int × Int × AH → Option (Int × AH)) (x0 : Nat) (x1 : Int) (x2 : Int) (h : AH) : Option (Int × AH) :=
  if w32 (h.2 x0 0) ≤ w32 x2 then
    some (x1, h)
  else
    bnd (f9_kinFrom x0 0 (h.2 x0 0) x2 h) fun r1 h2 =>
    lt (max32 x1 r1) fun u6 =>
    rec4 (u6, (x2 + 1), h2)
set_option maxRecDepth 100000 in
theorem t9_largestKin_4 (l : Launch) (G : Geo) (d : Nat) (hd : 5 ≤ d) (x0 : Nat) (x1 : Int) (x2 : Int) (rec4 : Int × Int × AH → Option (Int × AH)) (H4 : ∀ (x1 : Int) (x2 : Int) (h : AH), ok h.1 x0 9 → Den l G m9_largestKin rvI d 4 [some (vA G x0), some (vI x1), some (vI x2)] [] h (rec4 (x1, x2, h))) (h : AH) (kx0 : ok h.1 x0 9) : Den l G m9_largestKin rvI d 4 [some (vA G x0), some (vI x1), some (vI x2)] [] h (b9_largestKin_4 rec4 x0 x1 x2 h) := by
  unfold b9_largestKin_4
  refine den_iload_n (pc := 4) d9_largestKin_4 rfl rfl ?_
  refine den_aload_n (pc := 5) d9_largestKin_5 rfl rfl ?_
  refine den_getI (pc := 6) fa_9_31 kx0 d9_largestKin_6 ?_
  refine den_icmp_ge (pc := 9) (tgt := 33) d9_largestKin_9 (by decide) rfl rfl (fun _ => ?_) (fun _ => ?_)
  · refine den_iload_n (pc := 33) d9_largestKin_33 rfl rfl ?_
    exact den_iret (pc := 34) rfl d9_largestKin_34
  · refine den_iload_n (pc := 12) d9_largestKin_12 rfl rfl ?_
    refine den_aload_n (pc := 13) d9_largestKin_13 rfl rfl ?_
    refine den_iconst (pc := 14) d9_largestKin_14 ?_
    refine den_aload_n (pc := 15) d9_largestKin_15 rfl rfl ?_
    refine den_getI (pc := 16) fa_9_31 kx0 d9_largestKin_16 ?_
    refine den_iload_n (pc := 19) d9_largestKin_19 rfl rfl ?_
    refine den_callVI (pc := 20) (As := [vI 0, vI (h.2 x0 0), vI x2]) fv_9_111 rfl rfl kx0 (Nat.le_of_ble_eq_true rfl) (Nat.le_trans (by decide) hd) d9_largestKin_20 (c9_kinFrom l G x0 0 (h.2 x0 0) x2 h kx0) (fun r1 h2 m3 o4 => ?_)
    have q5 := ok.mono kx0 m3
    refine den_max (pc := 23) fm_9_82 (Nat.le_of_ble_eq_true rfl) (Nat.le_trans (by decide) hd) d9_largestKin_23 ?_
    refine den_istore_nL (pc := 26) (L2 := fun y => [some (vA G x0), some (vI y), some (vI x2)]) d9_largestKin_26 rfl (by decide) (fun _ => rfl) (fun u6 => ?_)
    refine den_iinc (pc := 27) (L2 := [some (vA G x0), some (vI u6), some (vI (x2 + 1))]) d9_largestKin_27 (by decide) rfl rfl ?_
    refine den_goto (pc := 30) (tgt := 4) d9_largestKin_30 (by decide) ?_
    exact H4 u6 (x2 + 1) h2 q5
def l9_largestKin_4 (x0 : Nat) (x1 : Int) (x2 : Int) (h : AH) : Option (Int × AH) := fx (fun rec z => b9_largestKin_4 rec x0 z.1 z.2.1 z.2.2) FU (x1, x2, h)
set_option maxRecDepth 100000 in
theorem tl9_largestKin_4 (l : Launch) (G : Geo) (d : Nat) (hd : 5 ≤ d) (x0 : Nat) : ∀ (n : Nat) (z : Int × Int × AH), ok z.2.2.1 x0 9 → Den l G m9_largestKin rvI d 4 [some (vA G x0), some (vI z.1), some (vI z.2.1)] [] z.2.2 (fx (fun rec z => b9_largestKin_4 rec x0 z.1 z.2.1 z.2.2) n z) :=
  den_fx (F := fun rec z => b9_largestKin_4 rec x0 z.1 z.2.1 z.2.2) (P := fun z => ok z.2.2.1 x0 9) (fL := fun z => [some (vA G x0), some (vI z.1), some (vI z.2.1)]) (fs := fun z => []) (fh := fun z => z.2.2) (fun rec hrec z hz => t9_largestKin_4 l G d hd x0 z.1 z.2.1 rec (fun x1 x2 h w0 => hrec (x1, x2, h) w0) z.2.2 hz)
def f9_largestKin (x0 : Nat) (h : AH) : Option (Int × AH) :=
  l9_largestKin_4 x0 0 0 h
set_option maxRecDepth 100000 in
theorem c9_largestKin (l : Launch) (G : Geo) (x0 : Nat) (h : AH) (kx0 : ok h.1 x0 9) : Con l G m9_largestKin rvI 5 [vA G x0] h (f9_largestKin x0 h) := by
  have hd : 5 ≤ 5 := Nat.le_refl _
  refine con_I rfl (by decide) rfl rfl (Nat.le_of_ble_eq_true rfl) (L := [some (vA G x0), none, none]) ?_
  unfold f9_largestKin
  refine den_iconst (pc := 0) d9_largestKin_0 ?_
  refine den_istore_n (pc := 1) (L2 := [some (vA G x0), some (vI 0), none]) d9_largestKin_1 rfl (by decide) rfl ?_
  refine den_iconst (pc := 2) d9_largestKin_2 ?_
  refine den_istore_n (pc := 3) (L2 := [some (vA G x0), some (vI 0), some (vI 0)]) d9_largestKin_3 rfl (by decide) rfl ?_
  exact tl9_largestKin_4 l G _ hd x0 FU (0, 0, h) kx0
theorem d10_feed_0 : decode m10_feed.2.1 0 = .ok (.aload_n 0, 1) := by decide +kernel
theorem d10_feed_1 : decode m10_feed.2.1 1 = .ok (.getfield 10, 3) := by decide +kernel
theorem d10_feed_4 : decode m10_feed.2.1 4 = .ok (.getfield 69, 3) := by decide +kernel
theorem d10_feed_7 : decode m10_feed.2.1 7 = .ok (.bipush 20, 2) := by decide +kernel
theorem d10_feed_9 : decode m10_feed.2.1 9 = .ok (.iadd, 1) := by decide +kernel
theorem d10_feed_10 : decode m10_feed.2.1 10 = .ok (.sipush 600, 3) := by decide +kernel
theorem d10_feed_13 : decode m10_feed.2.1 13 = .ok (.if_icmp .le 5, 3) := by decide +kernel
theorem d10_feed_16 : decode m10_feed.2.1 16 = .ok (.iconst (-1), 1) := by decide +kernel
theorem d10_feed_17 : decode m10_feed.2.1 17 = .ok (.ireturn, 1) := by decide +kernel
theorem d10_feed_18 : decode m10_feed.2.1 18 = .ok (.aload_n 0, 1) := by decide +kernel
theorem d10_feed_19 : decode m10_feed.2.1 19 = .ok (.getfield 10, 3) := by decide +kernel
theorem d10_feed_22 : decode m10_feed.2.1 22 = .ok (.iload_n 1, 1) := by decide +kernel
theorem d10_feed_23 : decode m10_feed.2.1 23 = .ok (.invokevirtual 73, 3) := by decide +kernel
theorem d10_feed_26 : decode m10_feed.2.1 26 = .ok (.aload_n 0, 1) := by decide +kernel
theorem d10_feed_27 : decode m10_feed.2.1 27 = .ok (.getfield 10, 3) := by decide +kernel
theorem d10_feed_30 : decode m10_feed.2.1 30 = .ok (.iload_n 2, 1) := by decide +kernel
theorem d10_feed_31 : decode m10_feed.2.1 31 = .ok (.invokevirtual 73, 3) := by decide +kernel
theorem d10_feed_34 : decode m10_feed.2.1 34 = .ok (.aload_n 0, 1) := by decide +kernel
theorem d10_feed_35 : decode m10_feed.2.1 35 = .ok (.getfield 10, 3) := by decide +kernel
theorem d10_feed_38 : decode m10_feed.2.1 38 = .ok (.iload_n 3, 1) := by decide +kernel
theorem d10_feed_39 : decode m10_feed.2.1 39 = .ok (.invokevirtual 73, 3) := by decide +kernel
theorem d10_feed_42 : decode m10_feed.2.1 42 = .ok (.aload_n 0, 1) := by decide +kernel
theorem d10_feed_43 : decode m10_feed.2.1 43 = .ok (.getfield 10, 3) := by decide +kernel
theorem d10_feed_46 : decode m10_feed.2.1 46 = .ok (.iload 4, 2) := by decide +kernel
theorem d10_feed_48 : decode m10_feed.2.1 48 = .ok (.invokevirtual 73, 3) := by decide +kernel
theorem d10_feed_51 : decode m10_feed.2.1 51 = .ok (.aload_n 0, 1) := by decide +kernel
theorem d10_feed_52 : decode m10_feed.2.1 52 = .ok (.getfield 10, 3) := by decide +kernel
theorem d10_feed_55 : decode m10_feed.2.1 55 = .ok (.iload 5, 2) := by decide +kernel
theorem d10_feed_57 : decode m10_feed.2.1 57 = .ok (.invokevirtual 73, 3) := by decide +kernel
theorem d10_feed_60 : decode m10_feed.2.1 60 = .ok (.aload_n 0, 1) := by decide +kernel
theorem d10_feed_61 : decode m10_feed.2.1 61 = .ok (.getfield 10, 3) := by decide +kernel
theorem d10_feed_64 : decode m10_feed.2.1 64 = .ok (.getfield 69, 3) := by decide +kernel
theorem d10_feed_67 : decode m10_feed.2.1 67 = .ok (.ireturn, 1) := by decide +kernel
def f10_feed (x1 : Int) (x2 : Int) (x3 : Int) (x4 : Int) (x5 : Int) (h : AH) : Option (Int × AH) :=
  if w32 ((h.2 1 1) + 20) ≤ 600 then
    bnd (f8_addBytes 1 x1 h) fun r1 h2 =>
    bnd (f8_addBytes 1 x2 h2) fun r5 h6 =>
    bnd (f8_addBytes 1 x3 h6) fun r9 h10 =>
    bnd (f8_addBytes 1 x4 h10) fun r13 h14 =>
    bnd (f8_addBytes 1 x5 h14) fun r17 h18 =>
    some (h18.2 1 1, h18)
  else
    some ((-1), h)
set_option maxRecDepth 100000 in
theorem c10_feed (l : Launch) (G : Geo) (x1 : Int) (x2 : Int) (x3 : Int) (x4 : Int) (x5 : Int) (h : AH) : Con l G m10_feed rvI 3 [vA G 0, vI x1, vI x2, vI x3, vI x4, vI x5] h (f10_feed x1 x2 x3 x4 x5 h) := by
  have hd : 3 ≤ 3 := Nat.le_refl _
  refine con_I rfl (by decide) rfl rfl (Nat.le_of_ble_eq_true rfl) (L := [some (vA G 0), some (vI x1), some (vI x2), some (vI x3), some (vI x4), some (vI x5)]) ?_
  unfold f10_feed
  refine den_aload_n (pc := 0) d10_feed_0 rfl rfl ?_
  refine den_getR (pc := 1) (b := 1) fa_10_10 (ok_0 _) rfl d10_feed_1 ?_
  refine den_getI (pc := 4) fa_10_69 (ok_1 _) d10_feed_4 ?_
  refine den_bipush (pc := 7) d10_feed_7 (by decide) ?_
  refine den_iadd (pc := 9) d10_feed_9 ?_
  refine den_sipush (pc := 10) d10_feed_10 (by decide) ?_
  refine den_icmp_le (pc := 13) (tgt := 18) d10_feed_13 (by decide) rfl (by decide) (fun _ => ?_) (fun _ => ?_)
  · refine den_aload_n (pc := 18) d10_feed_18 rfl rfl ?_
    refine den_getR (pc := 19) (b := 1) fa_10_10 (ok_0 _) rfl d10_feed_19 ?_
    refine den_iload_n (pc := 22) d10_feed_22 rfl rfl ?_
    refine den_callVV (pc := 23) (As := [vI x1]) fv_10_73 rfl rfl (ok_1 _) (Nat.le_of_ble_eq_true rfl) (Nat.le_trans (by decide) hd) d10_feed_23 (c8_addBytes l G 1 x1 h (ok_1 _)) (fun r1 h2 m3 o4 => ?_)
    refine den_aload_n (pc := 26) d10_feed_26 rfl rfl ?_
    refine den_getR (pc := 27) (b := 1) fa_10_10 (ok_0 _) rfl d10_feed_27 ?_
    refine den_iload_n (pc := 30) d10_feed_30 rfl rfl ?_
    refine den_callVV (pc := 31) (As := [vI x2]) fv_10_73 rfl rfl (ok_1 _) (Nat.le_of_ble_eq_true rfl) (Nat.le_trans (by decide) hd) d10_feed_31 (c8_addBytes l G 1 x2 h2 (ok_1 _)) (fun r5 h6 m7 o8 => ?_)
    refine den_aload_n (pc := 34) d10_feed_34 rfl rfl ?_
    refine den_getR (pc := 35) (b := 1) fa_10_10 (ok_0 _) rfl d10_feed_35 ?_
    refine den_iload_n (pc := 38) d10_feed_38 rfl rfl ?_
    refine den_callVV (pc := 39) (As := [vI x3]) fv_10_73 rfl rfl (ok_1 _) (Nat.le_of_ble_eq_true rfl) (Nat.le_trans (by decide) hd) d10_feed_39 (c8_addBytes l G 1 x3 h6 (ok_1 _)) (fun r9 h10 m11 o12 => ?_)
    refine den_aload_n (pc := 42) d10_feed_42 rfl rfl ?_
    refine den_getR (pc := 43) (b := 1) fa_10_10 (ok_0 _) rfl d10_feed_43 ?_
    refine den_iload (pc := 46) d10_feed_46 rfl ?_
    refine den_callVV (pc := 48) (As := [vI x4]) fv_10_73 rfl rfl (ok_1 _) (Nat.le_of_ble_eq_true rfl) (Nat.le_trans (by decide) hd) d10_feed_48 (c8_addBytes l G 1 x4 h10 (ok_1 _)) (fun r13 h14 m15 o16 => ?_)
    refine den_aload_n (pc := 51) d10_feed_51 rfl rfl ?_
    refine den_getR (pc := 52) (b := 1) fa_10_10 (ok_0 _) rfl d10_feed_52 ?_
    refine den_iload (pc := 55) d10_feed_55 rfl ?_
    refine den_callVV (pc := 57) (As := [vI x5]) fv_10_73 rfl rfl (ok_1 _) (Nat.le_of_ble_eq_true rfl) (Nat.le_trans (by decide) hd) d10_feed_57 (c8_addBytes l G 1 x5 h14 (ok_1 _)) (fun r17 h18 m19 o20 => ?_)
    refine den_aload_n (pc := 60) d10_feed_60 rfl rfl ?_
    refine den_getR (pc := 61) (b := 1) fa_10_10 (ok_0 _) rfl d10_feed_61 ?_
    refine den_getI (pc := 64) fa_10_69 (ok_1 _) d10_feed_64 ?_
    exact den_iret (pc := 67) rfl d10_feed_67
  · refine den_iconst (pc := 16) d10_feed_16 ?_
    exact den_iret (pc := 17) rfl d10_feed_17
