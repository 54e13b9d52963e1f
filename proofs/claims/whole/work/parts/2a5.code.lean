/-! 6_setLast 5_takeDeed 5_takeFact 5_takeHearth 5_takeSubject 9_hold 5_take 5_readLine 9_clear 5_readText 6_copy 6_answer 9_copy -/
theorem d6_setLast_0 : decode m6_setLast.2.1 0 = .ok (.aload_n 0, 1) := by decide +kernel
theorem d6_setLast_1 : decode m6_setLast.2.1 1 = .ok (.getfield 22, 3) := by decide +kernel
theorem d6_setLast_4 : decode m6_setLast.2.1 4 = .ok (.ifCond .le 34, 3) := by decide +kernel
theorem d6_setLast_7 : decode m6_setLast.2.1 7 = .ok (.iload_n 1, 1) := by decide +kernel
theorem d6_setLast_8 : decode m6_setLast.2.1 8 = .ok (.ifCond .lt 30, 3) := by decide +kernel
theorem d6_setLast_11 : decode m6_setLast.2.1 11 = .ok (.iload_n 1, 1) := by decide +kernel
theorem d6_setLast_12 : decode m6_setLast.2.1 12 = .ok (.aload_n 0, 1) := by decide +kernel
theorem d6_setLast_13 : decode m6_setLast.2.1 13 = .ok (.getfield 9, 3) := by decide +kernel
theorem d6_setLast_16 : decode m6_setLast.2.1 16 = .ok (.if_icmp .ge 22, 3) := by decide +kernel
theorem d6_setLast_19 : decode m6_setLast.2.1 19 = .ok (.aload_n 0, 1) := by decide +kernel
theorem d6_setLast_20 : decode m6_setLast.2.1 20 = .ok (.getfield 18, 3) := by decide +kernel
theorem d6_setLast_23 : decode m6_setLast.2.1 23 = .ok (.aload_n 0, 1) := by decide +kernel
theorem d6_setLast_24 : decode m6_setLast.2.1 24 = .ok (.getfield 22, 3) := by decide +kernel
theorem d6_setLast_27 : decode m6_setLast.2.1 27 = .ok (.iconst 1, 1) := by decide +kernel
theorem d6_setLast_28 : decode m6_setLast.2.1 28 = .ok (.isub, 1) := by decide +kernel
theorem d6_setLast_29 : decode m6_setLast.2.1 29 = .ok (.aload_n 0, 1) := by decide +kernel
theorem d6_setLast_30 : decode m6_setLast.2.1 30 = .ok (.getfield 9, 3) := by decide +kernel
theorem d6_setLast_33 : decode m6_setLast.2.1 33 = .ok (.imul, 1) := by decide +kernel
theorem d6_setLast_34 : decode m6_setLast.2.1 34 = .ok (.iload_n 1, 1) := by decide +kernel
theorem d6_setLast_35 : decode m6_setLast.2.1 35 = .ok (.iadd, 1) := by decide +kernel
theorem d6_setLast_36 : decode m6_setLast.2.1 36 = .ok (.iload_n 2, 1) := by decide +kernel
theorem d6_setLast_37 : decode m6_setLast.2.1 37 = .ok (.iastore, 1) := by decide +kernel
theorem d6_setLast_38 : decode m6_setLast.2.1 38 = .ok (.return_, 1) := by decide +kernel
def f6_setLast (x0 : Nat) (x1 : Int) (x2 : Int) (h : AH) : Option (Int × AH) :=
  if w32 (h.2 x0 3) ≤ 0 then
    some (0, h)
  else
    if w32 x1 < 0 then
      some (0, h)
    else
      if w32 (h.2 x0 0) ≤ w32 x1 then
        some (0, h)
      else
        asrt (0 ≤ w32 ((((h.2 x0 3) - 1) * (h.2 x0 0)) + x1) ∧ w32 ((((h.2 x0 3) - 1) * (h.2 x0 0)) + x1) < ((shp (x0 + 1)).2 : Int)) <|
        lt (wr h (x0 + 1) (w32 ((((h.2 x0 3) - 1) * (h.2 x0 0)) + x1)).toNat x2) fun h2 =>
        some (0, h2)
set_option maxRecDepth 100000 in
theorem c6_setLast (l : Launch) (G : Geo) (x0 : Nat) (x1 : Int) (x2 : Int) (h : AH) (kx0 : ok h.1 x0 6) : Con l G m6_setLast rvV 2 [vA G x0, vI x1, vI x2] h (f6_setLast x0 x1 x2 h) := by
  have hd : 2 ≤ 2 := Nat.le_refl _
  refine con_V rfl (by decide) rfl rfl (Nat.le_of_ble_eq_true rfl) (L := [some (vA G x0), some (vI x1), some (vI x2)]) ?_
  unfold f6_setLast
  refine den_aload_n (pc := 0) d6_setLast_0 rfl rfl ?_
  refine den_getI (pc := 1) fa_6_22 kx0 d6_setLast_1 ?_
  refine den_if_le (pc := 4) (tgt := 38) d6_setLast_4 (by decide) rfl (fun _ => ?_) (fun _ => ?_)
  · exact den_vret (pc := 38) rfl d6_setLast_38
  · refine den_iload_n (pc := 7) d6_setLast_7 rfl rfl ?_
    refine den_if_lt (pc := 8) (tgt := 38) d6_setLast_8 (by decide) rfl (fun _ => ?_) (fun _ => ?_)
    · exact den_vret (pc := 38) rfl d6_setLast_38
    · refine den_iload_n (pc := 11) d6_setLast_11 rfl rfl ?_
      refine den_aload_n (pc := 12) d6_setLast_12 rfl rfl ?_
      refine den_getI (pc := 13) fa_6_9 kx0 d6_setLast_13 ?_
      refine den_icmp_ge (pc := 16) (tgt := 38) d6_setLast_16 (by decide) rfl rfl (fun _ => ?_) (fun _ => ?_)
      · exact den_vret (pc := 38) rfl d6_setLast_38
      · refine den_aload_n (pc := 19) d6_setLast_19 rfl rfl ?_
        refine den_getR (pc := 20) (b := x0 + 1) fa_6_18 kx0 rfl d6_setLast_20 ?_
        refine den_aload_n (pc := 23) d6_setLast_23 rfl rfl ?_
        refine den_getI (pc := 24) fa_6_22 kx0 d6_setLast_24 ?_
        refine den_iconst (pc := 27) d6_setLast_27 ?_
        refine den_isub (pc := 28) d6_setLast_28 ?_
        refine den_aload_n (pc := 29) d6_setLast_29 rfl rfl ?_
        refine den_getI (pc := 30) fa_6_9 kx0 d6_setLast_30 ?_
        refine den_imul (pc := 33) d6_setLast_33 ?_
        refine den_iload_n (pc := 34) d6_setLast_34 rfl rfl ?_
        refine den_iadd (pc := 35) d6_setLast_35 ?_
        refine den_iload_n (pc := 36) d6_setLast_36 rfl rfl ?_
        refine den_asrt (fun a1 => ?_)
        refine den_iastore (pc := 37) (row_s1 kx0) (row_l1 kx0) rfl a1 d6_setLast_37 ?_
        refine den_ltH (fun h2 m3 => ?_)
        have q4 := ok.mono kx0 m3
        exact den_vret (pc := 38) rfl d6_setLast_38
theorem d5_takeDeed_0 : decode m5_takeDeed.2.1 0 = .ok (.aload_n 0, 1) := by decide +kernel
theorem d5_takeDeed_1 : decode m5_takeDeed.2.1 1 = .ok (.getfield 23, 3) := by decide +kernel
theorem d5_takeDeed_4 : decode m5_takeDeed.2.1 4 = .ok (.invokevirtual 199, 3) := by decide +kernel
theorem d5_takeDeed_7 : decode m5_takeDeed.2.1 7 = .ok (.aload_n 0, 1) := by decide +kernel
theorem d5_takeDeed_8 : decode m5_takeDeed.2.1 8 = .ok (.getfield 23, 3) := by decide +kernel
theorem d5_takeDeed_11 : decode m5_takeDeed.2.1 11 = .ok (.iconst 0, 1) := by decide +kernel
theorem d5_takeDeed_12 : decode m5_takeDeed.2.1 12 = .ok (.iload_n 1, 1) := by decide +kernel
theorem d5_takeDeed_13 : decode m5_takeDeed.2.1 13 = .ok (.iconst 5, 1) := by decide +kernel
theorem d5_takeDeed_14 : decode m5_takeDeed.2.1 14 = .ok (.isub, 1) := by decide +kernel
theorem d5_takeDeed_15 : decode m5_takeDeed.2.1 15 = .ok (.invokevirtual 202, 3) := by decide +kernel
theorem d5_takeDeed_18 : decode m5_takeDeed.2.1 18 = .ok (.iconst 0, 1) := by decide +kernel
theorem d5_takeDeed_19 : decode m5_takeDeed.2.1 19 = .ok (.istore_n 2, 1) := by decide +kernel
theorem d5_takeDeed_20 : decode m5_takeDeed.2.1 20 = .ok (.iload_n 2, 1) := by decide +kernel
theorem d5_takeDeed_21 : decode m5_takeDeed.2.1 21 = .ok (.iconst 4, 1) := by decide +kernel
theorem d5_takeDeed_22 : decode m5_takeDeed.2.1 22 = .ok (.if_icmp .ge 38, 3) := by decide +kernel
theorem d5_takeDeed_25 : decode m5_takeDeed.2.1 25 = .ok (.aload_n 0, 1) := by decide +kernel
theorem d5_takeDeed_26 : decode m5_takeDeed.2.1 26 = .ok (.getfield 23, 3) := by decide +kernel
theorem d5_takeDeed_29 : decode m5_takeDeed.2.1 29 = .ok (.iload_n 2, 1) := by decide +kernel
theorem d5_takeDeed_30 : decode m5_takeDeed.2.1 30 = .ok (.iconst 1, 1) := by decide +kernel
theorem d5_takeDeed_31 : decode m5_takeDeed.2.1 31 = .ok (.iadd, 1) := by decide +kernel
theorem d5_takeDeed_32 : decode m5_takeDeed.2.1 32 = .ok (.iload_n 2, 1) := by decide +kernel
theorem d5_takeDeed_33 : decode m5_takeDeed.2.1 33 = .ok (.getstatic 111, 3) := by decide +kernel
theorem d5_takeDeed_36 : decode m5_takeDeed.2.1 36 = .ok (.iload_n 1, 1) := by decide +kernel
theorem d5_takeDeed_37 : decode m5_takeDeed.2.1 37 = .ok (.iaload, 1) := by decide +kernel
theorem d5_takeDeed_38 : decode m5_takeDeed.2.1 38 = .ok (.if_icmp .ge 12, 3) := by decide +kernel
theorem d5_takeDeed_41 : decode m5_takeDeed.2.1 41 = .ok (.aload_n 0, 1) := by decide +kernel
theorem d5_takeDeed_42 : decode m5_takeDeed.2.1 42 = .ok (.getfield 34, 3) := by decide +kernel
theorem d5_takeDeed_45 : decode m5_takeDeed.2.1 45 = .ok (.iload_n 2, 1) := by decide +kernel
theorem d5_takeDeed_46 : decode m5_takeDeed.2.1 46 = .ok (.iaload, 1) := by decide +kernel
theorem d5_takeDeed_47 : decode m5_takeDeed.2.1 47 = .ok (.goto 4, 3) := by decide +kernel
theorem d5_takeDeed_50 : decode m5_takeDeed.2.1 50 = .ok (.iconst (-1), 1) := by decide +kernel
theorem d5_takeDeed_51 : decode m5_takeDeed.2.1 51 = .ok (.invokevirtual 202, 3) := by decide +kernel
theorem d5_takeDeed_54 : decode m5_takeDeed.2.1 54 = .ok (.iinc 2 1, 3) := by decide +kernel
theorem d5_takeDeed_57 : decode m5_takeDeed.2.1 57 = .ok (.goto (-37), 3) := by decide +kernel
theorem d5_takeDeed_60 : decode m5_takeDeed.2.1 60 = .ok (.return_, 1) := by decide +kernel
def b5_takeDeed_51 (rec20 : Int × AH → Option (Int × AH)) (x1 : Int) (x2 : Int) (s0 : Int) (s1 : Int) (h : AH) : Option (Int × AH) :=
  bnd (f6_setLast 35 s1 s0 h) fun r1 h2 =>
  rec20 ((x2 + 1), h2)
set_option maxRecDepth 100000 in
theorem t5_takeDeed_51 (l : Launch) (G : Geo) (d : Nat) (hd : 4 ≤ d) (x1 : Int) (x2 : Int) (s0 : Int) (s1 : Int) (rec20 : Int × AH → Option (Int × AH)) (H20 : ∀ (x2 : Int) (h : AH), Den l G m5_takeDeed rvV d 20 [some (vA G 28), some (vI x1), some (vI x2)] [] h (rec20 (x2, h))) (h : AH) : Den l G m5_takeDeed rvV d 51 [some (vA G 28), some (vI x1), some (vI x2)] [vI s0, vI s1, vA G 35] h (b5_takeDeed_51 rec20 x1 x2 s0 s1 h) := by
  unfold b5_takeDeed_51
  refine den_callVV (pc := 51) (As := [vI s1, vI s0]) fv_5_202 rfl rfl (ok_35 _) (Nat.le_of_ble_eq_true rfl) (Nat.le_trans (by decide) hd) d5_takeDeed_51 (c6_setLast l G 35 s1 s0 h (ok_35 _)) (fun r1 h2 m3 o4 => ?_)
  refine den_iinc (pc := 54) (L2 := [some (vA G 28), some (vI x1), some (vI (x2 + 1))]) d5_takeDeed_54 (by decide) rfl rfl ?_
  refine den_goto (pc := 57) (tgt := 20) d5_takeDeed_57 (by decide) ?_
  exact H20 (x2 + 1) h2
def b5_takeDeed_20 (rec20 : Int × AH → Option (Int × AH)) (x1 : Int) (x2 : Int) (h : AH) : Option (Int × AH) :=
  if 4 ≤ w32 x2 then
    some (0, h)
  else
    asrt (0 ≤ w32 x1 ∧ w32 x1 < 11) <|
    if w32 ((stV 0).getD (w32 x1).toNat 0) ≤ w32 x2 then
      b5_takeDeed_51 rec20 x1 x2 (-1) (x2 + 1) h
    else
      asrt (0 ≤ w32 x2 ∧ w32 x2 < 4) <|
      b5_takeDeed_51 rec20 x1 x2 (h.2 40 (w32 x2).toNat) (x2 + 1) h
set_option maxRecDepth 100000 in
theorem t5_takeDeed_20 (l : Launch) (G : Geo) (d : Nat) (hd : 4 ≤ d) (x1 : Int) (x2 : Int) (rec20 : Int × AH → Option (Int × AH)) (H20 : ∀ (x2 : Int) (h : AH), Den l G m5_takeDeed rvV d 20 [some (vA G 28), some (vI x1), some (vI x2)] [] h (rec20 (x2, h))) (h : AH) : Den l G m5_takeDeed rvV d 20 [some (vA G 28), some (vI x1), some (vI x2)] [] h (b5_takeDeed_20 rec20 x1 x2 h) := by
  unfold b5_takeDeed_20
  refine den_iload_n (pc := 20) d5_takeDeed_20 rfl rfl ?_
  refine den_iconst (pc := 21) d5_takeDeed_21 ?_
  refine den_icmp_ge (pc := 22) (tgt := 60) d5_takeDeed_22 (by decide) rfl (by decide) (fun _ => ?_) (fun _ => ?_)
  · exact den_vret (pc := 60) rfl d5_takeDeed_60
  · refine den_aload_n (pc := 25) d5_takeDeed_25 rfl rfl ?_
    refine den_getR (pc := 26) (b := 35) fa_5_23 (ok_28 _) rfl d5_takeDeed_26 ?_
    refine den_iload_n (pc := 29) d5_takeDeed_29 rfl rfl ?_
    refine den_iconst (pc := 30) d5_takeDeed_30 ?_
    refine den_iadd (pc := 31) d5_takeDeed_31 ?_
    refine den_iload_n (pc := 32) d5_takeDeed_32 rfl rfl ?_
    refine den_gets (pc := 33) (k := 0) (by decide) ks_5_111 d5_takeDeed_33 ?_
    refine den_iload_n (pc := 36) d5_takeDeed_36 rfl rfl ?_
    refine den_asrt (fun a5 => ?_)
    refine den_saload (pc := 37) (by decide) (by decide) a5 d5_takeDeed_37 ?_
    refine den_icmp_ge (pc := 38) (tgt := 50) d5_takeDeed_38 (by decide) rfl rfl (fun _ => ?_) (fun _ => ?_)
    · refine den_iconst (pc := 50) d5_takeDeed_50 ?_
      exact t5_takeDeed_51 l G _ hd x1 x2 (-1) (x2 + 1) rec20 H20 h
    · refine den_aload_n (pc := 41) d5_takeDeed_41 rfl rfl ?_
      refine den_getR (pc := 42) (b := 40) fa_5_34 (ok_28 _) rfl d5_takeDeed_42 ?_
      refine den_iload_n (pc := 45) d5_takeDeed_45 rfl rfl ?_
      refine den_asrt (fun a6 => ?_)
      refine den_iaload (pc := 46) sh_40 (sz_lt (by decide)) rfl a6 d5_takeDeed_46 ?_
      refine den_goto (pc := 47) (tgt := 51) d5_takeDeed_47 (by decide) ?_
      exact t5_takeDeed_51 l G _ hd x1 x2 (h.2 40 (w32 x2).toNat) (x2 + 1) rec20 H20 h
def l5_takeDeed_20 (x1 : Int) (x2 : Int) (h : AH) : Option (Int × AH) := fx (fun rec z => b5_takeDeed_20 rec x1 z.1 z.2) FU (x2, h)
set_option maxRecDepth 100000 in
theorem tl5_takeDeed_20 (l : Launch) (G : Geo) (d : Nat) (hd : 4 ≤ d) (x1 : Int) : ∀ (n : Nat) (z : Int × AH), True → Den l G m5_takeDeed rvV d 20 [some (vA G 28), some (vI x1), some (vI z.1)] [] z.2 (fx (fun rec z => b5_takeDeed_20 rec x1 z.1 z.2) n z) :=
  den_fx (F := fun rec z => b5_takeDeed_20 rec x1 z.1 z.2) (P := fun z => True) (fL := fun z => [some (vA G 28), some (vI x1), some (vI z.1)]) (fs := fun z => []) (fh := fun z => z.2) (fun rec hrec z hz => t5_takeDeed_20 l G d hd x1 z.1 rec (fun x2 h => hrec (x2, h) trivial) z.2 )
def f5_takeDeed (x1 : Int) (h : AH) : Option (Int × AH) :=
  bnd (f6_addRow 35 h) fun r7 h8 =>
  bnd (f6_setLast 35 0 (x1 - 5) h8) fun r11 h12 =>
  l5_takeDeed_20 x1 0 h12
set_option maxRecDepth 100000 in
theorem c5_takeDeed (l : Launch) (G : Geo) (x1 : Int) (h : AH) : Con l G m5_takeDeed rvV 4 [vA G 28, vI x1] h (f5_takeDeed x1 h) := by
  have hd : 4 ≤ 4 := Nat.le_refl _
  refine con_V rfl (by decide) rfl rfl (Nat.le_of_ble_eq_true rfl) (L := [some (vA G 28), some (vI x1), none]) ?_
  unfold f5_takeDeed
  refine den_aload_n (pc := 0) d5_takeDeed_0 rfl rfl ?_
  refine den_getR (pc := 1) (b := 35) fa_5_23 (ok_28 _) rfl d5_takeDeed_1 ?_
  refine den_callVV (pc := 4) (As := []) fv_5_199 rfl rfl (ok_35 _) (Nat.le_of_ble_eq_true rfl) (Nat.le_trans (by decide) hd) d5_takeDeed_4 (c6_addRow l G 35 h (ok_35 _)) (fun r7 h8 m9 o10 => ?_)
  refine den_aload_n (pc := 7) d5_takeDeed_7 rfl rfl ?_
  refine den_getR (pc := 8) (b := 35) fa_5_23 (ok_28 _) rfl d5_takeDeed_8 ?_
  refine den_iconst (pc := 11) d5_takeDeed_11 ?_
  refine den_iload_n (pc := 12) d5_takeDeed_12 rfl rfl ?_
  refine den_iconst (pc := 13) d5_takeDeed_13 ?_
  refine den_isub (pc := 14) d5_takeDeed_14 ?_
  refine den_callVV (pc := 15) (As := [vI 0, vI (x1 - 5)]) fv_5_202 rfl rfl (ok_35 _) (Nat.le_of_ble_eq_true rfl) (Nat.le_trans (by decide) hd) d5_takeDeed_15 (c6_setLast l G 35 0 (x1 - 5) h8 (ok_35 _)) (fun r11 h12 m13 o14 => ?_)
  refine den_iconst (pc := 18) d5_takeDeed_18 ?_
  refine den_istore_n (pc := 19) (L2 := [some (vA G 28), some (vI x1), some (vI 0)]) d5_takeDeed_19 rfl (by decide) rfl ?_
  exact tl5_takeDeed_20 l G _ hd x1 FU (0, h12) trivial
theorem d5_takeFact_0 : decode m5_takeFact.2.1 0 = .ok (.aload_n 0, 1) := by decide +kernel
theorem d5_takeFact_1 : decode m5_takeFact.2.1 1 = .ok (.getfield 27, 3) := by decide +kernel
theorem d5_takeFact_4 : decode m5_takeFact.2.1 4 = .ok (.invokevirtual 199, 3) := by decide +kernel
theorem d5_takeFact_7 : decode m5_takeFact.2.1 7 = .ok (.iconst 0, 1) := by decide +kernel
theorem d5_takeFact_8 : decode m5_takeFact.2.1 8 = .ok (.istore_n 1, 1) := by decide +kernel
theorem d5_takeFact_9 : decode m5_takeFact.2.1 9 = .ok (.iload_n 1, 1) := by decide +kernel
theorem d5_takeFact_10 : decode m5_takeFact.2.1 10 = .ok (.iconst 3, 1) := by decide +kernel
theorem d5_takeFact_11 : decode m5_takeFact.2.1 11 = .ok (.if_icmp .ge 23, 3) := by decide +kernel
theorem d5_takeFact_14 : decode m5_takeFact.2.1 14 = .ok (.aload_n 0, 1) := by decide +kernel
theorem d5_takeFact_15 : decode m5_takeFact.2.1 15 = .ok (.getfield 27, 3) := by decide +kernel
theorem d5_takeFact_18 : decode m5_takeFact.2.1 18 = .ok (.iload_n 1, 1) := by decide +kernel
theorem d5_takeFact_19 : decode m5_takeFact.2.1 19 = .ok (.aload_n 0, 1) := by decide +kernel
theorem d5_takeFact_20 : decode m5_takeFact.2.1 20 = .ok (.getfield 34, 3) := by decide +kernel
theorem d5_takeFact_23 : decode m5_takeFact.2.1 23 = .ok (.iload_n 1, 1) := by decide +kernel
theorem d5_takeFact_24 : decode m5_takeFact.2.1 24 = .ok (.iaload, 1) := by decide +kernel
theorem d5_takeFact_25 : decode m5_takeFact.2.1 25 = .ok (.invokevirtual 202, 3) := by decide +kernel
theorem d5_takeFact_28 : decode m5_takeFact.2.1 28 = .ok (.iinc 1 1, 3) := by decide +kernel
theorem d5_takeFact_31 : decode m5_takeFact.2.1 31 = .ok (.goto (-22), 3) := by decide +kernel
theorem d5_takeFact_34 : decode m5_takeFact.2.1 34 = .ok (.return_, 1) := by decide +kernel
def b5_takeFact_9 (rec9 : Int × AH → Option (Int × AH)) (x1 : Int) (h : AH) : Option (Int × AH) :=
  if 3 ≤ w32 x1 then
    some (0, h)
  else
    asrt (0 ≤ w32 x1 ∧ w32 x1 < 4) <|
    bnd (f6_setLast 37 x1 (h.2 40 (w32 x1).toNat) h) fun r2 h3 =>
    rec9 ((x1 + 1), h3)
set_option maxRecDepth 100000 in
theorem t5_takeFact_9 (l : Launch) (G : Geo) (d : Nat) (hd : 4 ≤ d) (x1 : Int) (rec9 : Int × AH → Option (Int × AH)) (H9 : ∀ (x1 : Int) (h : AH), Den l G m5_takeFact rvV d 9 [some (vA G 28), some (vI x1)] [] h (rec9 (x1, h))) (h : AH) : Den l G m5_takeFact rvV d 9 [some (vA G 28), some (vI x1)] [] h (b5_takeFact_9 rec9 x1 h) := by
  unfold b5_takeFact_9
  refine den_iload_n (pc := 9) d5_takeFact_9 rfl rfl ?_
  refine den_iconst (pc := 10) d5_takeFact_10 ?_
  refine den_icmp_ge (pc := 11) (tgt := 34) d5_takeFact_11 (by decide) rfl (by decide) (fun _ => ?_) (fun _ => ?_)
  · exact den_vret (pc := 34) rfl d5_takeFact_34
  · refine den_aload_n (pc := 14) d5_takeFact_14 rfl rfl ?_
    refine den_getR (pc := 15) (b := 37) fa_5_27 (ok_28 _) rfl d5_takeFact_15 ?_
    refine den_iload_n (pc := 18) d5_takeFact_18 rfl rfl ?_
    refine den_aload_n (pc := 19) d5_takeFact_19 rfl rfl ?_
    refine den_getR (pc := 20) (b := 40) fa_5_34 (ok_28 _) rfl d5_takeFact_20 ?_
    refine den_iload_n (pc := 23) d5_takeFact_23 rfl rfl ?_
    refine den_asrt (fun a1 => ?_)
    refine den_iaload (pc := 24) sh_40 (sz_lt (by decide)) rfl a1 d5_takeFact_24 ?_
    refine den_callVV (pc := 25) (As := [vI x1, vI (h.2 40 (w32 x1).toNat)]) fv_5_202 rfl rfl (ok_37 _) (Nat.le_of_ble_eq_true rfl) (Nat.le_trans (by decide) hd) d5_takeFact_25 (c6_setLast l G 37 x1 (h.2 40 (w32 x1).toNat) h (ok_37 _)) (fun r2 h3 m4 o5 => ?_)
    refine den_iinc (pc := 28) (L2 := [some (vA G 28), some (vI (x1 + 1))]) d5_takeFact_28 (by decide) rfl rfl ?_
    refine den_goto (pc := 31) (tgt := 9) d5_takeFact_31 (by decide) ?_
    exact H9 (x1 + 1) h3
def l5_takeFact_9 (x1 : Int) (h : AH) : Option (Int × AH) := fx (fun rec z => b5_takeFact_9 rec z.1 z.2) FU (x1, h)
set_option maxRecDepth 100000 in
theorem tl5_takeFact_9 (l : Launch) (G : Geo) (d : Nat) (hd : 4 ≤ d) : ∀ (n : Nat) (z : Int × AH), True → Den l G m5_takeFact rvV d 9 [some (vA G 28), some (vI z.1)] [] z.2 (fx (fun rec z => b5_takeFact_9 rec z.1 z.2) n z) :=
  den_fx (F := fun rec z => b5_takeFact_9 rec z.1 z.2) (P := fun z => True) (fL := fun z => [some (vA G 28), some (vI z.1)]) (fs := fun z => []) (fh := fun z => z.2) (fun rec hrec z hz => t5_takeFact_9 l G d hd z.1 rec (fun x1 h => hrec (x1, h) trivial) z.2 )
def f5_takeFact (h : AH) : Option (Int × AH) :=
  bnd (f6_addRow 37 h) fun r6 h7 =>
  l5_takeFact_9 0 h7
set_option maxRecDepth 100000 in
theorem c5_takeFact (l : Launch) (G : Geo) (h : AH) : Con l G m5_takeFact rvV 4 [vA G 28] h (f5_takeFact  h) := by
  have hd : 4 ≤ 4 := Nat.le_refl _
  refine con_V rfl (by decide) rfl rfl (Nat.le_of_ble_eq_true rfl) (L := [some (vA G 28), none]) ?_
  unfold f5_takeFact
  refine den_aload_n (pc := 0) d5_takeFact_0 rfl rfl ?_
  refine den_getR (pc := 1) (b := 37) fa_5_27 (ok_28 _) rfl d5_takeFact_1 ?_
  refine den_callVV (pc := 4) (As := []) fv_5_199 rfl rfl (ok_37 _) (Nat.le_of_ble_eq_true rfl) (Nat.le_trans (by decide) hd) d5_takeFact_4 (c6_addRow l G 37 h (ok_37 _)) (fun r6 h7 m8 o9 => ?_)
  refine den_iconst (pc := 7) d5_takeFact_7 ?_
  refine den_istore_n (pc := 8) (L2 := [some (vA G 28), some (vI 0)]) d5_takeFact_8 rfl (by decide) rfl ?_
  exact tl5_takeFact_9 l G _ hd FU (0, h7) trivial
theorem d5_takeHearth_0 : decode m5_takeHearth.2.1 0 = .ok (.aload_n 0, 1) := by decide +kernel
theorem d5_takeHearth_1 : decode m5_takeHearth.2.1 1 = .ok (.getfield 12, 3) := by decide +kernel
theorem d5_takeHearth_4 : decode m5_takeHearth.2.1 4 = .ok (.getfield 156, 3) := by decide +kernel
theorem d5_takeHearth_7 : decode m5_takeHearth.2.1 7 = .ok (.iconst 4, 1) := by decide +kernel
theorem d5_takeHearth_8 : decode m5_takeHearth.2.1 8 = .ok (.if_icmp .ge 58, 3) := by decide +kernel
theorem d5_takeHearth_11 : decode m5_takeHearth.2.1 11 = .ok (.aload_n 0, 1) := by decide +kernel
theorem d5_takeHearth_12 : decode m5_takeHearth.2.1 12 = .ok (.getfield 12, 3) := by decide +kernel
theorem d5_takeHearth_15 : decode m5_takeHearth.2.1 15 = .ok (.getfield 193, 3) := by decide +kernel
theorem d5_takeHearth_18 : decode m5_takeHearth.2.1 18 = .ok (.aload_n 0, 1) := by decide +kernel
theorem d5_takeHearth_19 : decode m5_takeHearth.2.1 19 = .ok (.getfield 12, 3) := by decide +kernel
theorem d5_takeHearth_22 : decode m5_takeHearth.2.1 22 = .ok (.getfield 156, 3) := by decide +kernel
theorem d5_takeHearth_25 : decode m5_takeHearth.2.1 25 = .ok (.aload_n 0, 1) := by decide +kernel
theorem d5_takeHearth_26 : decode m5_takeHearth.2.1 26 = .ok (.getfield 34, 3) := by decide +kernel
theorem d5_takeHearth_29 : decode m5_takeHearth.2.1 29 = .ok (.iconst 0, 1) := by decide +kernel
theorem d5_takeHearth_30 : decode m5_takeHearth.2.1 30 = .ok (.iaload, 1) := by decide +kernel
theorem d5_takeHearth_31 : decode m5_takeHearth.2.1 31 = .ok (.iastore, 1) := by decide +kernel
theorem d5_takeHearth_32 : decode m5_takeHearth.2.1 32 = .ok (.aload_n 0, 1) := by decide +kernel
theorem d5_takeHearth_33 : decode m5_takeHearth.2.1 33 = .ok (.getfield 12, 3) := by decide +kernel
theorem d5_takeHearth_36 : decode m5_takeHearth.2.1 36 = .ok (.getfield 196, 3) := by decide +kernel
theorem d5_takeHearth_39 : decode m5_takeHearth.2.1 39 = .ok (.aload_n 0, 1) := by decide +kernel
theorem d5_takeHearth_40 : decode m5_takeHearth.2.1 40 = .ok (.getfield 12, 3) := by decide +kernel
theorem d5_takeHearth_43 : decode m5_takeHearth.2.1 43 = .ok (.getfield 156, 3) := by decide +kernel
theorem d5_takeHearth_46 : decode m5_takeHearth.2.1 46 = .ok (.aload_n 0, 1) := by decide +kernel
theorem d5_takeHearth_47 : decode m5_takeHearth.2.1 47 = .ok (.getfield 34, 3) := by decide +kernel
theorem d5_takeHearth_50 : decode m5_takeHearth.2.1 50 = .ok (.iconst 1, 1) := by decide +kernel
theorem d5_takeHearth_51 : decode m5_takeHearth.2.1 51 = .ok (.iaload, 1) := by decide +kernel
theorem d5_takeHearth_52 : decode m5_takeHearth.2.1 52 = .ok (.iastore, 1) := by decide +kernel
theorem d5_takeHearth_53 : decode m5_takeHearth.2.1 53 = .ok (.aload_n 0, 1) := by decide +kernel
theorem d5_takeHearth_54 : decode m5_takeHearth.2.1 54 = .ok (.getfield 12, 3) := by decide +kernel
theorem d5_takeHearth_57 : decode m5_takeHearth.2.1 57 = .ok (.dup, 1) := by decide +kernel
theorem d5_takeHearth_58 : decode m5_takeHearth.2.1 58 = .ok (.getfield 156, 3) := by decide +kernel
theorem d5_takeHearth_61 : decode m5_takeHearth.2.1 61 = .ok (.iconst 1, 1) := by decide +kernel
theorem d5_takeHearth_62 : decode m5_takeHearth.2.1 62 = .ok (.iadd, 1) := by decide +kernel
theorem d5_takeHearth_63 : decode m5_takeHearth.2.1 63 = .ok (.putfield 156, 3) := by decide +kernel
theorem d5_takeHearth_66 : decode m5_takeHearth.2.1 66 = .ok (.return_, 1) := by decide +kernel
def f5_takeHearth (h : AH) : Option (Int × AH) :=
  if 4 ≤ w32 (h.2 29 2) then
    some (0, h)
  else
    asrt (0 ≤ w32 0 ∧ w32 0 < 4) <|
    asrt (0 ≤ w32 (h.2 29 2) ∧ w32 (h.2 29 2) < 4) <|
    lt (wr h 32 (w32 (h.2 29 2)).toNat (h.2 40 (w32 0).toNat)) fun h3 =>
    asrt (0 ≤ w32 1 ∧ w32 1 < 4) <|
    asrt (0 ≤ w32 (h3.2 29 2) ∧ w32 (h3.2 29 2) < 4) <|
    lt (wr h3 33 (w32 (h3.2 29 2)).toNat (h3.2 40 (w32 1).toNat)) fun h7 =>
    lt (wr h7 29 2 ((h7.2 29 2) + 1)) fun h9 =>
    some (0, h9)
set_option maxRecDepth 100000 in
theorem c5_takeHearth (l : Launch) (G : Geo) (h : AH) : Con l G m5_takeHearth rvV 2 [vA G 28] h (f5_takeHearth  h) := by
  have hd : 2 ≤ 2 := Nat.le_refl _
  refine con_V rfl (by decide) rfl rfl (Nat.le_of_ble_eq_true rfl) (L := [some (vA G 28)]) ?_
  unfold f5_takeHearth
  refine den_aload_n (pc := 0) d5_takeHearth_0 rfl rfl ?_
  refine den_getR (pc := 1) (b := 29) fa_5_12 (ok_28 _) rfl d5_takeHearth_1 ?_
  refine den_getI (pc := 4) fa_5_156 (ok_29 _) d5_takeHearth_4 ?_
  refine den_iconst (pc := 7) d5_takeHearth_7 ?_
  refine den_icmp_ge (pc := 8) (tgt := 66) d5_takeHearth_8 (by decide) rfl (by decide) (fun _ => ?_) (fun _ => ?_)
  · exact den_vret (pc := 66) rfl d5_takeHearth_66
  · refine den_aload_n (pc := 11) d5_takeHearth_11 rfl rfl ?_
    refine den_getR (pc := 12) (b := 29) fa_5_12 (ok_28 _) rfl d5_takeHearth_12 ?_
    refine den_getR (pc := 15) (b := 32) fa_5_193 (ok_29 _) rfl d5_takeHearth_15 ?_
    refine den_aload_n (pc := 18) d5_takeHearth_18 rfl rfl ?_
    refine den_getR (pc := 19) (b := 29) fa_5_12 (ok_28 _) rfl d5_takeHearth_19 ?_
    refine den_getI (pc := 22) fa_5_156 (ok_29 _) d5_takeHearth_22 ?_
    refine den_aload_n (pc := 25) d5_takeHearth_25 rfl rfl ?_
    refine den_getR (pc := 26) (b := 40) fa_5_34 (ok_28 _) rfl d5_takeHearth_26 ?_
    refine den_iconst (pc := 29) d5_takeHearth_29 ?_
    refine den_asrt (fun a1 => ?_)
    refine den_iaload (pc := 30) sh_40 (sz_lt (by decide)) rfl a1 d5_takeHearth_30 ?_
    refine den_asrt (fun a2 => ?_)
    refine den_iastore (pc := 31) sh_32 (sz_lt (by decide)) rfl a2 d5_takeHearth_31 ?_
    refine den_ltH (fun h3 m4 => ?_)
    refine den_aload_n (pc := 32) d5_takeHearth_32 rfl rfl ?_
    refine den_getR (pc := 33) (b := 29) fa_5_12 (ok_28 _) rfl d5_takeHearth_33 ?_
    refine den_getR (pc := 36) (b := 33) fa_5_196 (ok_29 _) rfl d5_takeHearth_36 ?_
    refine den_aload_n (pc := 39) d5_takeHearth_39 rfl rfl ?_
    refine den_getR (pc := 40) (b := 29) fa_5_12 (ok_28 _) rfl d5_takeHearth_40 ?_
    refine den_getI (pc := 43) fa_5_156 (ok_29 _) d5_takeHearth_43 ?_
    refine den_aload_n (pc := 46) d5_takeHearth_46 rfl rfl ?_
    refine den_getR (pc := 47) (b := 40) fa_5_34 (ok_28 _) rfl d5_takeHearth_47 ?_
    refine den_iconst (pc := 50) d5_takeHearth_50 ?_
    refine den_asrt (fun a5 => ?_)
    refine den_iaload (pc := 51) sh_40 (sz_lt (by decide)) rfl a5 d5_takeHearth_51 ?_
    refine den_asrt (fun a6 => ?_)
    refine den_iastore (pc := 52) sh_33 (sz_lt (by decide)) rfl a6 d5_takeHearth_52 ?_
    refine den_ltH (fun h7 m8 => ?_)
    refine den_aload_n (pc := 53) d5_takeHearth_53 rfl rfl ?_
    refine den_getR (pc := 54) (b := 29) fa_5_12 (ok_28 _) rfl d5_takeHearth_54 ?_
    refine den_dup (pc := 57) d5_takeHearth_57 rfl ?_
    refine den_getI (pc := 58) fa_5_156 (ok_29 _) d5_takeHearth_58 ?_
    refine den_iconst (pc := 61) d5_takeHearth_61 ?_
    refine den_iadd (pc := 62) d5_takeHearth_62 ?_
    refine den_putI (pc := 63) fp_5_156 (ok_29 _) d5_takeHearth_63 ?_
    refine den_ltH (fun h9 m10 => ?_)
    exact den_vret (pc := 66) rfl d5_takeHearth_66
theorem d5_takeSubject_0 : decode m5_takeSubject.2.1 0 = .ok (.aload_n 0, 1) := by decide +kernel
theorem d5_takeSubject_1 : decode m5_takeSubject.2.1 1 = .ok (.getfield 12, 3) := by decide +kernel
theorem d5_takeSubject_4 : decode m5_takeSubject.2.1 4 = .ok (.getfield 91, 3) := by decide +kernel
theorem d5_takeSubject_7 : decode m5_takeSubject.2.1 7 = .ok (.bipush 6, 2) := by decide +kernel
theorem d5_takeSubject_9 : decode m5_takeSubject.2.1 9 = .ok (.if_icmp .ge 58, 3) := by decide +kernel
theorem d5_takeSubject_12 : decode m5_takeSubject.2.1 12 = .ok (.aload_n 0, 1) := by decide +kernel
theorem d5_takeSubject_13 : decode m5_takeSubject.2.1 13 = .ok (.getfield 12, 3) := by decide +kernel
theorem d5_takeSubject_16 : decode m5_takeSubject.2.1 16 = .ok (.getfield 187, 3) := by decide +kernel
theorem d5_takeSubject_19 : decode m5_takeSubject.2.1 19 = .ok (.aload_n 0, 1) := by decide +kernel
theorem d5_takeSubject_20 : decode m5_takeSubject.2.1 20 = .ok (.getfield 12, 3) := by decide +kernel
theorem d5_takeSubject_23 : decode m5_takeSubject.2.1 23 = .ok (.getfield 91, 3) := by decide +kernel
theorem d5_takeSubject_26 : decode m5_takeSubject.2.1 26 = .ok (.aload_n 0, 1) := by decide +kernel
theorem d5_takeSubject_27 : decode m5_takeSubject.2.1 27 = .ok (.getfield 34, 3) := by decide +kernel
theorem d5_takeSubject_30 : decode m5_takeSubject.2.1 30 = .ok (.iconst 0, 1) := by decide +kernel
theorem d5_takeSubject_31 : decode m5_takeSubject.2.1 31 = .ok (.iaload, 1) := by decide +kernel
theorem d5_takeSubject_32 : decode m5_takeSubject.2.1 32 = .ok (.iastore, 1) := by decide +kernel
theorem d5_takeSubject_33 : decode m5_takeSubject.2.1 33 = .ok (.aload_n 0, 1) := by decide +kernel
theorem d5_takeSubject_34 : decode m5_takeSubject.2.1 34 = .ok (.getfield 12, 3) := by decide +kernel
theorem d5_takeSubject_37 : decode m5_takeSubject.2.1 37 = .ok (.getfield 190, 3) := by decide +kernel
theorem d5_takeSubject_40 : decode m5_takeSubject.2.1 40 = .ok (.aload_n 0, 1) := by decide +kernel
theorem d5_takeSubject_41 : decode m5_takeSubject.2.1 41 = .ok (.getfield 12, 3) := by decide +kernel
theorem d5_takeSubject_44 : decode m5_takeSubject.2.1 44 = .ok (.getfield 91, 3) := by decide +kernel
theorem d5_takeSubject_47 : decode m5_takeSubject.2.1 47 = .ok (.aload_n 0, 1) := by decide +kernel
theorem d5_takeSubject_48 : decode m5_takeSubject.2.1 48 = .ok (.getfield 34, 3) := by decide +kernel
theorem d5_takeSubject_51 : decode m5_takeSubject.2.1 51 = .ok (.iconst 1, 1) := by decide +kernel
theorem d5_takeSubject_52 : decode m5_takeSubject.2.1 52 = .ok (.iaload, 1) := by decide +kernel
theorem d5_takeSubject_53 : decode m5_takeSubject.2.1 53 = .ok (.iastore, 1) := by decide +kernel
theorem d5_takeSubject_54 : decode m5_takeSubject.2.1 54 = .ok (.aload_n 0, 1) := by decide +kernel
theorem d5_takeSubject_55 : decode m5_takeSubject.2.1 55 = .ok (.getfield 12, 3) := by decide +kernel
theorem d5_takeSubject_58 : decode m5_takeSubject.2.1 58 = .ok (.dup, 1) := by decide +kernel
theorem d5_takeSubject_59 : decode m5_takeSubject.2.1 59 = .ok (.getfield 91, 3) := by decide +kernel
theorem d5_takeSubject_62 : decode m5_takeSubject.2.1 62 = .ok (.iconst 1, 1) := by decide +kernel
theorem d5_takeSubject_63 : decode m5_takeSubject.2.1 63 = .ok (.iadd, 1) := by decide +kernel
theorem d5_takeSubject_64 : decode m5_takeSubject.2.1 64 = .ok (.putfield 91, 3) := by decide +kernel
theorem d5_takeSubject_67 : decode m5_takeSubject.2.1 67 = .ok (.return_, 1) := by decide +kernel
def f5_takeSubject (h : AH) : Option (Int × AH) :=
  if 6 ≤ w32 (h.2 29 1) then
    some (0, h)
  else
    asrt (0 ≤ w32 0 ∧ w32 0 < 4) <|
    asrt (0 ≤ w32 (h.2 29 1) ∧ w32 (h.2 29 1) < 6) <|
    lt (wr h 30 (w32 (h.2 29 1)).toNat (h.2 40 (w32 0).toNat)) fun h3 =>
    asrt (0 ≤ w32 1 ∧ w32 1 < 4) <|
    asrt (0 ≤ w32 (h3.2 29 1) ∧ w32 (h3.2 29 1) < 6) <|
    lt (wr h3 31 (w32 (h3.2 29 1)).toNat (h3.2 40 (w32 1).toNat)) fun h7 =>
    lt (wr h7 29 1 ((h7.2 29 1) + 1)) fun h9 =>
    some (0, h9)
set_option maxRecDepth 100000 in
theorem c5_takeSubject (l : Launch) (G : Geo) (h : AH) : Con l G m5_takeSubject rvV 2 [vA G 28] h (f5_takeSubject  h) := by
  have hd : 2 ≤ 2 := Nat.le_refl _
  refine con_V rfl (by decide) rfl rfl (Nat.le_of_ble_eq_true rfl) (L := [some (vA G 28)]) ?_
  unfold f5_takeSubject
  refine den_aload_n (pc := 0) d5_takeSubject_0 rfl rfl ?_
  refine den_getR (pc := 1) (b := 29) fa_5_12 (ok_28 _) rfl d5_takeSubject_1 ?_
  refine den_getI (pc := 4) fa_5_91 (ok_29 _) d5_takeSubject_4 ?_
  refine den_bipush (pc := 7) d5_takeSubject_7 (by decide) ?_
  refine den_icmp_ge (pc := 9) (tgt := 67) d5_takeSubject_9 (by decide) rfl (by decide) (fun _ => ?_) (fun _ => ?_)
  · exact den_vret (pc := 67) rfl d5_takeSubject_67
  · refine den_aload_n (pc := 12) d5_takeSubject_12 rfl rfl ?_
    refine den_getR (pc := 13) (b := 29) fa_5_12 (ok_28 _) rfl d5_takeSubject_13 ?_
    refine den_getR (pc := 16) (b := 30) fa_5_187 (ok_29 _) rfl d5_takeSubject_16 ?_
    refine den_aload_n (pc := 19) d5_takeSubject_19 rfl rfl ?_
    refine den_getR (pc := 20) (b := 29) fa_5_12 (ok_28 _) rfl d5_takeSubject_20 ?_
    refine den_getI (pc := 23) fa_5_91 (ok_29 _) d5_takeSubject_23 ?_
    refine den_aload_n (pc := 26) d5_takeSubject_26 rfl rfl ?_
    refine den_getR (pc := 27) (b := 40) fa_5_34 (ok_28 _) rfl d5_takeSubject_27 ?_
    refine den_iconst (pc := 30) d5_takeSubject_30 ?_
    refine den_asrt (fun a1 => ?_)
    refine den_iaload (pc := 31) sh_40 (sz_lt (by decide)) rfl a1 d5_takeSubject_31 ?_
    refine den_asrt (fun a2 => ?_)
    refine den_iastore (pc := 32) sh_30 (sz_lt (by decide)) rfl a2 d5_takeSubject_32 ?_
    refine den_ltH (fun h3 m4 => ?_)
    refine den_aload_n (pc := 33) d5_takeSubject_33 rfl rfl ?_
    refine den_getR (pc := 34) (b := 29) fa_5_12 (ok_28 _) rfl d5_takeSubject_34 ?_
    refine den_getR (pc := 37) (b := 31) fa_5_190 (ok_29 _) rfl d5_takeSubject_37 ?_
    refine den_aload_n (pc := 40) d5_takeSubject_40 rfl rfl ?_
    refine den_getR (pc := 41) (b := 29) fa_5_12 (ok_28 _) rfl d5_takeSubject_41 ?_
    refine den_getI (pc := 44) fa_5_91 (ok_29 _) d5_takeSubject_44 ?_
    refine den_aload_n (pc := 47) d5_takeSubject_47 rfl rfl ?_
    refine den_getR (pc := 48) (b := 40) fa_5_34 (ok_28 _) rfl d5_takeSubject_48 ?_
    refine den_iconst (pc := 51) d5_takeSubject_51 ?_
    refine den_asrt (fun a5 => ?_)
    refine den_iaload (pc := 52) sh_40 (sz_lt (by decide)) rfl a5 d5_takeSubject_52 ?_
    refine den_asrt (fun a6 => ?_)
    refine den_iastore (pc := 53) sh_31 (sz_lt (by decide)) rfl a6 d5_takeSubject_53 ?_
    refine den_ltH (fun h7 m8 => ?_)
    refine den_aload_n (pc := 54) d5_takeSubject_54 rfl rfl ?_
    refine den_getR (pc := 55) (b := 29) fa_5_12 (ok_28 _) rfl d5_takeSubject_55 ?_
    refine den_dup (pc := 58) d5_takeSubject_58 rfl ?_
    refine den_getI (pc := 59) fa_5_91 (ok_29 _) d5_takeSubject_59 ?_
    refine den_iconst (pc := 62) d5_takeSubject_62 ?_
    refine den_iadd (pc := 63) d5_takeSubject_63 ?_
    refine den_putI (pc := 64) fp_5_91 (ok_29 _) d5_takeSubject_64 ?_
    refine den_ltH (fun h9 m10 => ?_)
    exact den_vret (pc := 67) rfl d5_takeSubject_67
theorem d9_hold_0 : decode m9_hold.2.1 0 = .ok (.iload_n 1, 1) := by decide +kernel
theorem d9_hold_1 : decode m9_hold.2.1 1 = .ok (.ifCond .lt 31, 3) := by decide +kernel
theorem d9_hold_4 : decode m9_hold.2.1 4 = .ok (.iload_n 1, 1) := by decide +kernel
theorem d9_hold_5 : decode m9_hold.2.1 5 = .ok (.bipush 8, 2) := by decide +kernel
theorem d9_hold_7 : decode m9_hold.2.1 7 = .ok (.if_icmp .ge 25, 3) := by decide +kernel
theorem d9_hold_10 : decode m9_hold.2.1 10 = .ok (.iload_n 2, 1) := by decide +kernel
theorem d9_hold_11 : decode m9_hold.2.1 11 = .ok (.ifCond .lt 21, 3) := by decide +kernel
theorem d9_hold_14 : decode m9_hold.2.1 14 = .ok (.iload_n 2, 1) := by decide +kernel
theorem d9_hold_15 : decode m9_hold.2.1 15 = .ok (.bipush 6, 2) := by decide +kernel
theorem d9_hold_17 : decode m9_hold.2.1 17 = .ok (.if_icmp .ge 15, 3) := by decide +kernel
theorem d9_hold_20 : decode m9_hold.2.1 20 = .ok (.aload_n 0, 1) := by decide +kernel
theorem d9_hold_21 : decode m9_hold.2.1 21 = .ok (.getfield 28, 3) := by decide +kernel
theorem d9_hold_24 : decode m9_hold.2.1 24 = .ok (.iload_n 1, 1) := by decide +kernel
theorem d9_hold_25 : decode m9_hold.2.1 25 = .ok (.bipush 6, 2) := by decide +kernel
theorem d9_hold_27 : decode m9_hold.2.1 27 = .ok (.imul, 1) := by decide +kernel
theorem d9_hold_28 : decode m9_hold.2.1 28 = .ok (.iload_n 2, 1) := by decide +kernel
theorem d9_hold_29 : decode m9_hold.2.1 29 = .ok (.iadd, 1) := by decide +kernel
theorem d9_hold_30 : decode m9_hold.2.1 30 = .ok (.iload_n 3, 1) := by decide +kernel
theorem d9_hold_31 : decode m9_hold.2.1 31 = .ok (.iastore, 1) := by decide +kernel
theorem d9_hold_32 : decode m9_hold.2.1 32 = .ok (.return_, 1) := by decide +kernel
def f9_hold (x0 : Nat) (x1 : Int) (x2 : Int) (x3 : Int) (h : AH) : Option (Int × AH) :=
  if w32 x1 < 0 then
    some (0, h)
  else
    if 8 ≤ w32 x1 then
      some (0, h)
    else
      if w32 x2 < 0 then
        some (0, h)
      else
        if 6 ≤ w32 x2 then
          some (0, h)
        else
          asrt (0 ≤ w32 ((x1 * 6) + x2) ∧ w32 ((x1 * 6) + x2) < 48) <|
          lt (wr h (x0 + 5) (w32 ((x1 * 6) + x2)).toNat x3) fun h2 =>
          some (0, h2)
set_option maxRecDepth 100000 in
theorem c9_hold (l : Launch) (G : Geo) (x0 : Nat) (x1 : Int) (x2 : Int) (x3 : Int) (h : AH) (kx0 : ok h.1 x0 9) : Con l G m9_hold rvV 2 [vA G x0, vI x1, vI x2, vI x3] h (f9_hold x0 x1 x2 x3 h) := by
  have hd : 2 ≤ 2 := Nat.le_refl _
  refine con_V rfl (by decide) rfl rfl (Nat.le_of_ble_eq_true rfl) (L := [some (vA G x0), some (vI x1), some (vI x2), some (vI x3)]) ?_
  unfold f9_hold
  refine den_iload_n (pc := 0) d9_hold_0 rfl rfl ?_
  refine den_if_lt (pc := 1) (tgt := 32) d9_hold_1 (by decide) rfl (fun _ => ?_) (fun _ => ?_)
  · exact den_vret (pc := 32) rfl d9_hold_32
  · refine den_iload_n (pc := 4) d9_hold_4 rfl rfl ?_
    refine den_bipush (pc := 5) d9_hold_5 (by decide) ?_
    refine den_icmp_ge (pc := 7) (tgt := 32) d9_hold_7 (by decide) rfl (by decide) (fun _ => ?_) (fun _ => ?_)
    · exact den_vret (pc := 32) rfl d9_hold_32
    · refine den_iload_n (pc := 10) d9_hold_10 rfl rfl ?_
      refine den_if_lt (pc := 11) (tgt := 32) d9_hold_11 (by decide) rfl (fun _ => ?_) (fun _ => ?_)
      · exact den_vret (pc := 32) rfl d9_hold_32
      · refine den_iload_n (pc := 14) d9_hold_14 rfl rfl ?_
        refine den_bipush (pc := 15) d9_hold_15 (by decide) ?_
        refine den_icmp_ge (pc := 17) (tgt := 32) d9_hold_17 (by decide) rfl (by decide) (fun _ => ?_) (fun _ => ?_)
        · exact den_vret (pc := 32) rfl d9_hold_32
        · refine den_aload_n (pc := 20) d9_hold_20 rfl rfl ?_
          refine den_getR (pc := 21) (b := x0 + 5) fa_9_28 kx0 rfl d9_hold_21 ?_
          refine den_iload_n (pc := 24) d9_hold_24 rfl rfl ?_
          refine den_bipush (pc := 25) d9_hold_25 (by decide) ?_
          refine den_imul (pc := 27) d9_hold_27 ?_
          refine den_iload_n (pc := 28) d9_hold_28 rfl rfl ?_
          refine den_iadd (pc := 29) d9_hold_29 ?_
          refine den_iload_n (pc := 30) d9_hold_30 rfl rfl ?_
          refine den_asrt (fun a1 => ?_)
          refine den_iastore (pc := 31) (vil_s5 kx0) (vil_l5 kx0) rfl a1 d9_hold_31 ?_
          refine den_ltH (fun h2 m3 => ?_)
          have q4 := ok.mono kx0 m3
          exact den_vret (pc := 32) rfl d9_hold_32
theorem d5_take_0 : decode m5_take.2.1 0 = .ok (.iload_n 1, 1) := by decide +kernel
theorem d5_take_1 : decode m5_take.2.1 1 = .ok (.tableswitch 178 0 10 #[59, 75, 91, 98, 105, 178, 178, 178, 178, 178, 171], 59) := by decide +kernel
theorem d5_take_60 : decode m5_take.2.1 60 = .ok (.aload_n 0, 1) := by decide +kernel
theorem d5_take_61 : decode m5_take.2.1 61 = .ok (.getfield 12, 3) := by decide +kernel
theorem d5_take_64 : decode m5_take.2.1 64 = .ok (.aload_n 0, 1) := by decide +kernel
theorem d5_take_65 : decode m5_take.2.1 65 = .ok (.getfield 34, 3) := by decide +kernel
theorem d5_take_68 : decode m5_take.2.1 68 = .ok (.iconst 0, 1) := by decide +kernel
theorem d5_take_69 : decode m5_take.2.1 69 = .ok (.iaload, 1) := by decide +kernel
theorem d5_take_70 : decode m5_take.2.1 70 = .ok (.putfield 88, 3) := by decide +kernel
theorem d5_take_73 : decode m5_take.2.1 73 = .ok (.goto 111, 3) := by decide +kernel
theorem d5_take_76 : decode m5_take.2.1 76 = .ok (.aload_n 0, 1) := by decide +kernel
theorem d5_take_77 : decode m5_take.2.1 77 = .ok (.getfield 12, 3) := by decide +kernel
theorem d5_take_80 : decode m5_take.2.1 80 = .ok (.aload_n 0, 1) := by decide +kernel
theorem d5_take_81 : decode m5_take.2.1 81 = .ok (.getfield 34, 3) := by decide +kernel
theorem d5_take_84 : decode m5_take.2.1 84 = .ok (.iconst 0, 1) := by decide +kernel
theorem d5_take_85 : decode m5_take.2.1 85 = .ok (.iaload, 1) := by decide +kernel
theorem d5_take_86 : decode m5_take.2.1 86 = .ok (.putfield 169, 3) := by decide +kernel
theorem d5_take_89 : decode m5_take.2.1 89 = .ok (.goto 95, 3) := by decide +kernel
theorem d5_take_92 : decode m5_take.2.1 92 = .ok (.aload_n 0, 1) := by decide +kernel
theorem d5_take_93 : decode m5_take.2.1 93 = .ok (.invokevirtual 171, 3) := by decide +kernel
theorem d5_take_96 : decode m5_take.2.1 96 = .ok (.goto 88, 3) := by decide +kernel
theorem d5_take_99 : decode m5_take.2.1 99 = .ok (.aload_n 0, 1) := by decide +kernel
theorem d5_take_100 : decode m5_take.2.1 100 = .ok (.invokevirtual 174, 3) := by decide +kernel
theorem d5_take_103 : decode m5_take.2.1 103 = .ok (.goto 81, 3) := by decide +kernel
theorem d5_take_106 : decode m5_take.2.1 106 = .ok (.aload_n 0, 1) := by decide +kernel
theorem d5_take_107 : decode m5_take.2.1 107 = .ok (.getfield 12, 3) := by decide +kernel
theorem d5_take_110 : decode m5_take.2.1 110 = .ok (.aload_n 0, 1) := by decide +kernel
theorem d5_take_111 : decode m5_take.2.1 111 = .ok (.getfield 34, 3) := by decide +kernel
theorem d5_take_114 : decode m5_take.2.1 114 = .ok (.iconst 0, 1) := by decide +kernel
theorem d5_take_115 : decode m5_take.2.1 115 = .ok (.iaload, 1) := by decide +kernel
theorem d5_take_116 : decode m5_take.2.1 116 = .ok (.aload_n 0, 1) := by decide +kernel
theorem d5_take_117 : decode m5_take.2.1 117 = .ok (.getfield 34, 3) := by decide +kernel
theorem d5_take_120 : decode m5_take.2.1 120 = .ok (.iconst 1, 1) := by decide +kernel
theorem d5_take_121 : decode m5_take.2.1 121 = .ok (.iaload, 1) := by decide +kernel
theorem d5_take_122 : decode m5_take.2.1 122 = .ok (.aload_n 0, 1) := by decide +kernel
theorem d5_take_123 : decode m5_take.2.1 123 = .ok (.getfield 34, 3) := by decide +kernel
theorem d5_take_126 : decode m5_take.2.1 126 = .ok (.iconst 2, 1) := by decide +kernel
theorem d5_take_127 : decode m5_take.2.1 127 = .ok (.iaload, 1) := by decide +kernel
theorem d5_take_128 : decode m5_take.2.1 128 = .ok (.invokevirtual 177, 3) := by decide +kernel
theorem d5_take_131 : decode m5_take.2.1 131 = .ok (.aload_n 0, 1) := by decide +kernel
theorem d5_take_132 : decode m5_take.2.1 132 = .ok (.aload_n 0, 1) := by decide +kernel
theorem d5_take_133 : decode m5_take.2.1 133 = .ok (.getfield 66, 3) := by decide +kernel
theorem d5_take_136 : decode m5_take.2.1 136 = .ok (.aload_n 0, 1) := by decide +kernel
theorem d5_take_137 : decode m5_take.2.1 137 = .ok (.getfield 34, 3) := by decide +kernel
theorem d5_take_140 : decode m5_take.2.1 140 = .ok (.iconst 0, 1) := by decide +kernel
theorem d5_take_141 : decode m5_take.2.1 141 = .ok (.iaload, 1) := by decide +kernel
theorem d5_take_142 : decode m5_take.2.1 142 = .ok (.iconst 1, 1) := by decide +kernel
theorem d5_take_143 : decode m5_take.2.1 143 = .ok (.iadd, 1) := by decide +kernel
theorem d5_take_144 : decode m5_take.2.1 144 = .ok (.invokestatic 44, 3) := by decide +kernel
theorem d5_take_147 : decode m5_take.2.1 147 = .ok (.putfield 66, 3) := by decide +kernel
theorem d5_take_150 : decode m5_take.2.1 150 = .ok (.aload_n 0, 1) := by decide +kernel
theorem d5_take_151 : decode m5_take.2.1 151 = .ok (.aload_n 0, 1) := by decide +kernel
theorem d5_take_152 : decode m5_take.2.1 152 = .ok (.getfield 69, 3) := by decide +kernel
theorem d5_take_155 : decode m5_take.2.1 155 = .ok (.aload_n 0, 1) := by decide +kernel
theorem d5_take_156 : decode m5_take.2.1 156 = .ok (.getfield 34, 3) := by decide +kernel
theorem d5_take_159 : decode m5_take.2.1 159 = .ok (.iconst 1, 1) := by decide +kernel
theorem d5_take_160 : decode m5_take.2.1 160 = .ok (.iaload, 1) := by decide +kernel
theorem d5_take_161 : decode m5_take.2.1 161 = .ok (.iconst 1, 1) := by decide +kernel
theorem d5_take_162 : decode m5_take.2.1 162 = .ok (.iadd, 1) := by decide +kernel
theorem d5_take_163 : decode m5_take.2.1 163 = .ok (.invokestatic 44, 3) := by decide +kernel
theorem d5_take_166 : decode m5_take.2.1 166 = .ok (.putfield 69, 3) := by decide +kernel
theorem d5_take_169 : decode m5_take.2.1 169 = .ok (.goto 15, 3) := by decide +kernel
theorem d5_take_172 : decode m5_take.2.1 172 = .ok (.aload_n 0, 1) := by decide +kernel
theorem d5_take_173 : decode m5_take.2.1 173 = .ok (.invokevirtual 181, 3) := by decide +kernel
theorem d5_take_176 : decode m5_take.2.1 176 = .ok (.goto 8, 3) := by decide +kernel
theorem d5_take_179 : decode m5_take.2.1 179 = .ok (.aload_n 0, 1) := by decide +kernel
theorem d5_take_180 : decode m5_take.2.1 180 = .ok (.iload_n 1, 1) := by decide +kernel
theorem d5_take_181 : decode m5_take.2.1 181 = .ok (.invokevirtual 184, 3) := by decide +kernel
theorem d5_take_184 : decode m5_take.2.1 184 = .ok (.return_, 1) := by decide +kernel
def f5_take (x1 : Int) (h : AH) : Option (Int × AH) :=
  if w32 x1 = 0 then
    asrt (0 ≤ w32 0 ∧ w32 0 < 4) <|
    lt (wr h 29 0 (h.2 40 (w32 0).toNat)) fun h3 =>
    some (0, h3)
  else
  if w32 x1 = 1 then
    asrt (0 ≤ w32 0 ∧ w32 0 < 4) <|
    lt (wr h 29 3 (h.2 40 (w32 0).toNat)) fun h7 =>
    some (0, h7)
  else
  if w32 x1 = 2 then
    bnd (f5_takeSubject h) fun r10 h11 =>
    some (0, h11)
  else
  if w32 x1 = 3 then
    bnd (f5_takeHearth h) fun r15 h16 =>
    some (0, h16)
  else
  if w32 x1 = 4 then
    asrt (0 ≤ w32 0 ∧ w32 0 < 4) <|
    asrt (0 ≤ w32 1 ∧ w32 1 < 4) <|
    asrt (0 ≤ w32 2 ∧ w32 2 < 4) <|
    bnd (f9_hold 29 (h.2 40 (w32 0).toNat) (h.2 40 (w32 1).toNat) (h.2 40 (w32 2).toNat) h) fun r23 h24 =>
    asrt (0 ≤ w32 0 ∧ w32 0 < 4) <|
    lt (wr h24 28 11 (max32 (h24.2 28 11) ((h24.2 40 (w32 0).toNat) + 1))) fun h28 =>
    asrt (0 ≤ w32 1 ∧ w32 1 < 4) <|
    lt (wr h28 28 12 (max32 (h28.2 28 12) ((h28.2 40 (w32 1).toNat) + 1))) fun h31 =>
    some (0, h31)
  else
  if w32 x1 = 10 then
    bnd (f5_takeFact h) fun r34 h35 =>
    some (0, h35)
  else
  bnd (f5_takeDeed x1 h) fun r63 h64 =>
  some (0, h64)
set_option maxRecDepth 100000 in
theorem c5_take (l : Launch) (G : Geo) (x1 : Int) (h : AH) : Con l G m5_take rvV 5 [vA G 28, vI x1] h (f5_take x1 h) := by
  have hd : 5 ≤ 5 := Nat.le_refl _
  refine con_V rfl (by decide) rfl rfl (Nat.le_of_ble_eq_true rfl) (L := [some (vA G 28), some (vI x1)]) ?_
  unfold f5_take
  refine den_iload_n (pc := 0) d5_take_0 rfl rfl ?_
  refine den_ite (fun c1 => ?_) (fun c1 => ?_)
  · refine den_tableIn (pc := 1) (tgt := 60) d5_take_1 (by omega) (by omega) (by rw [c1]; rfl) (by decide) ?_
    refine den_aload_n (pc := 60) d5_take_60 rfl rfl ?_
    refine den_getR (pc := 61) (b := 29) fa_5_12 (ok_28 _) rfl d5_take_61 ?_
    refine den_aload_n (pc := 64) d5_take_64 rfl rfl ?_
    refine den_getR (pc := 65) (b := 40) fa_5_34 (ok_28 _) rfl d5_take_65 ?_
    refine den_iconst (pc := 68) d5_take_68 ?_
    refine den_asrt (fun a2 => ?_)
    refine den_iaload (pc := 69) sh_40 (sz_lt (by decide)) rfl a2 d5_take_69 ?_
    refine den_putI (pc := 70) fp_5_88 (ok_29 _) d5_take_70 ?_
    refine den_ltH (fun h3 m4 => ?_)
    refine den_goto (pc := 73) (tgt := 184) d5_take_73 (by decide) ?_
    exact den_vret (pc := 184) rfl d5_take_184
  refine den_ite (fun c5 => ?_) (fun c5 => ?_)
  · refine den_tableIn (pc := 1) (tgt := 76) d5_take_1 (by omega) (by omega) (by rw [c5]; rfl) (by decide) ?_
    refine den_aload_n (pc := 76) d5_take_76 rfl rfl ?_
    refine den_getR (pc := 77) (b := 29) fa_5_12 (ok_28 _) rfl d5_take_77 ?_
    refine den_aload_n (pc := 80) d5_take_80 rfl rfl ?_
    refine den_getR (pc := 81) (b := 40) fa_5_34 (ok_28 _) rfl d5_take_81 ?_
    refine den_iconst (pc := 84) d5_take_84 ?_
    refine den_asrt (fun a6 => ?_)
    refine den_iaload (pc := 85) sh_40 (sz_lt (by decide)) rfl a6 d5_take_85 ?_
    refine den_putI (pc := 86) fp_5_169 (ok_29 _) d5_take_86 ?_
    refine den_ltH (fun h7 m8 => ?_)
    refine den_goto (pc := 89) (tgt := 184) d5_take_89 (by decide) ?_
    exact den_vret (pc := 184) rfl d5_take_184
  refine den_ite (fun c9 => ?_) (fun c9 => ?_)
  · refine den_tableIn (pc := 1) (tgt := 92) d5_take_1 (by omega) (by omega) (by rw [c9]; rfl) (by decide) ?_
    refine den_aload_n (pc := 92) d5_take_92 rfl rfl ?_
    refine den_callVV (pc := 93) (As := []) fv_5_171 rfl rfl (ok_28 _) (Nat.le_of_ble_eq_true rfl) (Nat.le_trans (by decide) hd) d5_take_93 (c5_takeSubject l G h) (fun r10 h11 m12 o13 => ?_)
    refine den_goto (pc := 96) (tgt := 184) d5_take_96 (by decide) ?_
    exact den_vret (pc := 184) rfl d5_take_184
  refine den_ite (fun c14 => ?_) (fun c14 => ?_)
  · refine den_tableIn (pc := 1) (tgt := 99) d5_take_1 (by omega) (by omega) (by rw [c14]; rfl) (by decide) ?_
    refine den_aload_n (pc := 99) d5_take_99 rfl rfl ?_
    refine den_callVV (pc := 100) (As := []) fv_5_174 rfl rfl (ok_28 _) (Nat.le_of_ble_eq_true rfl) (Nat.le_trans (by decide) hd) d5_take_100 (c5_takeHearth l G h) (fun r15 h16 m17 o18 => ?_)
    refine den_goto (pc := 103) (tgt := 184) d5_take_103 (by decide) ?_
    exact den_vret (pc := 184) rfl d5_take_184
  refine den_ite (fun c19 => ?_) (fun c19 => ?_)
  · refine den_tableIn (pc := 1) (tgt := 106) d5_take_1 (by omega) (by omega) (by rw [c19]; rfl) (by decide) ?_
    refine den_aload_n (pc := 106) d5_take_106 rfl rfl ?_
    refine den_getR (pc := 107) (b := 29) fa_5_12 (ok_28 _) rfl d5_take_107 ?_
    refine den_aload_n (pc := 110) d5_take_110 rfl rfl ?_
    refine den_getR (pc := 111) (b := 40) fa_5_34 (ok_28 _) rfl d5_take_111 ?_
    refine den_iconst (pc := 114) d5_take_114 ?_
    refine den_asrt (fun a20 => ?_)
    refine den_iaload (pc := 115) sh_40 (sz_lt (by decide)) rfl a20 d5_take_115 ?_
    refine den_aload_n (pc := 116) d5_take_116 rfl rfl ?_
    refine den_getR (pc := 117) (b := 40) fa_5_34 (ok_28 _) rfl d5_take_117 ?_
    refine den_iconst (pc := 120) d5_take_120 ?_
    refine den_asrt (fun a21 => ?_)
    refine den_iaload (pc := 121) sh_40 (sz_lt (by decide)) rfl a21 d5_take_121 ?_
    refine den_aload_n (pc := 122) d5_take_122 rfl rfl ?_
    refine den_getR (pc := 123) (b := 40) fa_5_34 (ok_28 _) rfl d5_take_123 ?_
    refine den_iconst (pc := 126) d5_take_126 ?_
    refine den_asrt (fun a22 => ?_)
    refine den_iaload (pc := 127) sh_40 (sz_lt (by decide)) rfl a22 d5_take_127 ?_
    refine den_callVV (pc := 128) (As := [vI (h.2 40 (w32 0).toNat), vI (h.2 40 (w32 1).toNat), vI (h.2 40 (w32 2).toNat)]) fv_5_177 rfl rfl (ok_29 _) (Nat.le_of_ble_eq_true rfl) (Nat.le_trans (by decide) hd) d5_take_128 (c9_hold l G 29 (h.2 40 (w32 0).toNat) (h.2 40 (w32 1).toNat) (h.2 40 (w32 2).toNat) h (ok_29 _)) (fun r23 h24 m25 o26 => ?_)
    refine den_aload_n (pc := 131) d5_take_131 rfl rfl ?_
    refine den_aload_n (pc := 132) d5_take_132 rfl rfl ?_
    refine den_getI (pc := 133) fa_5_66 (ok_28 _) d5_take_133 ?_
    refine den_aload_n (pc := 136) d5_take_136 rfl rfl ?_
    refine den_getR (pc := 137) (b := 40) fa_5_34 (ok_28 _) rfl d5_take_137 ?_
    refine den_iconst (pc := 140) d5_take_140 ?_
    refine den_asrt (fun a27 => ?_)
    refine den_iaload (pc := 141) sh_40 (sz_lt (by decide)) rfl a27 d5_take_141 ?_
    refine den_iconst (pc := 142) d5_take_142 ?_
    refine den_iadd (pc := 143) d5_take_143 ?_
    refine den_max (pc := 144) fm_5_44 (Nat.le_of_ble_eq_true rfl) (Nat.le_trans (by decide) hd) d5_take_144 ?_
    refine den_putI (pc := 147) fp_5_66 (ok_28 _) d5_take_147 ?_
    refine den_ltH (fun h28 m29 => ?_)
    refine den_aload_n (pc := 150) d5_take_150 rfl rfl ?_
    refine den_aload_n (pc := 151) d5_take_151 rfl rfl ?_
    refine den_getI (pc := 152) fa_5_69 (ok_28 _) d5_take_152 ?_
    refine den_aload_n (pc := 155) d5_take_155 rfl rfl ?_
    refine den_getR (pc := 156) (b := 40) fa_5_34 (ok_28 _) rfl d5_take_156 ?_
    refine den_iconst (pc := 159) d5_take_159 ?_
    refine den_asrt (fun a30 => ?_)
    refine den_iaload (pc := 160) sh_40 (sz_lt (by decide)) rfl a30 d5_take_160 ?_
    refine den_iconst (pc := 161) d5_take_161 ?_
    refine den_iadd (pc := 162) d5_take_162 ?_
    refine den_max (pc := 163) fm_5_44 (Nat.le_of_ble_eq_true rfl) (Nat.le_trans (by decide) hd) d5_take_163 ?_
    refine den_putI (pc := 166) fp_5_69 (ok_28 _) d5_take_166 ?_
    refine den_ltH (fun h31 m32 => ?_)
    refine den_goto (pc := 169) (tgt := 184) d5_take_169 (by decide) ?_
    exact den_vret (pc := 184) rfl d5_take_184
  refine den_ite (fun c33 => ?_) (fun c33 => ?_)
  · refine den_tableIn (pc := 1) (tgt := 172) d5_take_1 (by omega) (by omega) (by rw [c33]; rfl) (by decide) ?_
    refine den_aload_n (pc := 172) d5_take_172 rfl rfl ?_
    refine den_callVV (pc := 173) (As := []) fv_5_181 rfl rfl (ok_28 _) (Nat.le_of_ble_eq_true rfl) (Nat.le_trans (by decide) hd) d5_take_173 (c5_takeFact l G h) (fun r34 h35 m36 o37 => ?_)
    refine den_goto (pc := 176) (tgt := 184) d5_take_176 (by decide) ?_
    exact den_vret (pc := 184) rfl d5_take_184
  by_cases c38 : w32 x1 = 5
  · refine den_tableIn (pc := 1) (tgt := 179) d5_take_1 (by omega) (by omega) (by rw [c38]; rfl) (by decide) ?_
    refine den_aload_n (pc := 179) d5_take_179 rfl rfl ?_
    refine den_iload_n (pc := 180) d5_take_180 rfl rfl ?_
    refine den_callVV (pc := 181) (As := [vI x1]) fv_5_184 rfl rfl (ok_28 _) (Nat.le_of_ble_eq_true rfl) (Nat.le_trans (by decide) hd) d5_take_181 (c5_takeDeed l G x1 h) (fun r39 h40 m41 o42 => ?_)
    exact den_vret (pc := 184) rfl d5_take_184
  by_cases c43 : w32 x1 = 6
  · refine den_tableIn (pc := 1) (tgt := 179) d5_take_1 (by omega) (by omega) (by rw [c43]; rfl) (by decide) ?_
    refine den_aload_n (pc := 179) d5_take_179 rfl rfl ?_
    refine den_iload_n (pc := 180) d5_take_180 rfl rfl ?_
    refine den_callVV (pc := 181) (As := [vI x1]) fv_5_184 rfl rfl (ok_28 _) (Nat.le_of_ble_eq_true rfl) (Nat.le_trans (by decide) hd) d5_take_181 (c5_takeDeed l G x1 h) (fun r44 h45 m46 o47 => ?_)
    exact den_vret (pc := 184) rfl d5_take_184
  by_cases c48 : w32 x1 = 7
  · refine den_tableIn (pc := 1) (tgt := 179) d5_take_1 (by omega) (by omega) (by rw [c48]; rfl) (by decide) ?_
    refine den_aload_n (pc := 179) d5_take_179 rfl rfl ?_
    refine den_iload_n (pc := 180) d5_take_180 rfl rfl ?_
    refine den_callVV (pc := 181) (As := [vI x1]) fv_5_184 rfl rfl (ok_28 _) (Nat.le_of_ble_eq_true rfl) (Nat.le_trans (by decide) hd) d5_take_181 (c5_takeDeed l G x1 h) (fun r49 h50 m51 o52 => ?_)
    exact den_vret (pc := 184) rfl d5_take_184
  by_cases c53 : w32 x1 = 8
  · refine den_tableIn (pc := 1) (tgt := 179) d5_take_1 (by omega) (by omega) (by rw [c53]; rfl) (by decide) ?_
    refine den_aload_n (pc := 179) d5_take_179 rfl rfl ?_
    refine den_iload_n (pc := 180) d5_take_180 rfl rfl ?_
    refine den_callVV (pc := 181) (As := [vI x1]) fv_5_184 rfl rfl (ok_28 _) (Nat.le_of_ble_eq_true rfl) (Nat.le_trans (by decide) hd) d5_take_181 (c5_takeDeed l G x1 h) (fun r54 h55 m56 o57 => ?_)
    exact den_vret (pc := 184) rfl d5_take_184
  by_cases c58 : w32 x1 = 9
  · refine den_tableIn (pc := 1) (tgt := 179) d5_take_1 (by omega) (by omega) (by rw [c58]; rfl) (by decide) ?_
    refine den_aload_n (pc := 179) d5_take_179 rfl rfl ?_
    refine den_iload_n (pc := 180) d5_take_180 rfl rfl ?_
    refine den_callVV (pc := 181) (As := [vI x1]) fv_5_184 rfl rfl (ok_28 _) (Nat.le_of_ble_eq_true rfl) (Nat.le_trans (by decide) hd) d5_take_181 (c5_takeDeed l G x1 h) (fun r59 h60 m61 o62 => ?_)
    exact den_vret (pc := 184) rfl d5_take_184
  refine den_tableOut (pc := 1) (tgt := 179) d5_take_1 (by omega) (by decide) ?_
  refine den_aload_n (pc := 179) d5_take_179 rfl rfl ?_
  refine den_iload_n (pc := 180) d5_take_180 rfl rfl ?_
  refine den_callVV (pc := 181) (As := [vI x1]) fv_5_184 rfl rfl (ok_28 _) (Nat.le_of_ble_eq_true rfl) (Nat.le_trans (by decide) hd) d5_take_181 (c5_takeDeed l G x1 h) (fun r63 h64 m65 o66 => ?_)
  exact den_vret (pc := 184) rfl d5_take_184
theorem d5_readLine_0 : decode m5_readLine.2.1 0 = .ok (.aload_n 0, 1) := by decide +kernel
theorem d5_readLine_1 : decode m5_readLine.2.1 1 = .ok (.getfield 81, 3) := by decide +kernel
theorem d5_readLine_4 : decode m5_readLine.2.1 4 = .ok (.iconst 1, 1) := by decide +kernel
theorem d5_readLine_5 : decode m5_readLine.2.1 5 = .ok (.if_icmp .ne 11, 3) := by decide +kernel
theorem d5_readLine_8 : decode m5_readLine.2.1 8 = .ok (.aload_n 0, 1) := by decide +kernel
theorem d5_readLine_9 : decode m5_readLine.2.1 9 = .ok (.iload_n 1, 1) := by decide +kernel
theorem d5_readLine_10 : decode m5_readLine.2.1 10 = .ok (.invokevirtual 97, 3) := by decide +kernel
theorem d5_readLine_13 : decode m5_readLine.2.1 13 = .ok (.goto 4, 3) := by decide +kernel
theorem d5_readLine_16 : decode m5_readLine.2.1 16 = .ok (.iconst (-1), 1) := by decide +kernel
theorem d5_readLine_17 : decode m5_readLine.2.1 17 = .ok (.istore_n 2, 1) := by decide +kernel
theorem d5_readLine_18 : decode m5_readLine.2.1 18 = .ok (.iload_n 2, 1) := by decide +kernel
theorem d5_readLine_19 : decode m5_readLine.2.1 19 = .ok (.iconst (-1), 1) := by decide +kernel
theorem d5_readLine_20 : decode m5_readLine.2.1 20 = .ok (.if_icmp .ne 8, 3) := by decide +kernel
theorem d5_readLine_23 : decode m5_readLine.2.1 23 = .ok (.aload_n 0, 1) := by decide +kernel
theorem d5_readLine_24 : decode m5_readLine.2.1 24 = .ok (.invokevirtual 101, 3) := by decide +kernel
theorem d5_readLine_27 : decode m5_readLine.2.1 27 = .ok (.return_, 1) := by decide +kernel
theorem d5_readLine_28 : decode m5_readLine.2.1 28 = .ok (.aload_n 0, 1) := by decide +kernel
theorem d5_readLine_29 : decode m5_readLine.2.1 29 = .ok (.iload_n 2, 1) := by decide +kernel
theorem d5_readLine_30 : decode m5_readLine.2.1 30 = .ok (.invokevirtual 104, 3) := by decide +kernel
theorem d5_readLine_33 : decode m5_readLine.2.1 33 = .ok (.ifCond .eq 12, 3) := by decide +kernel
theorem d5_readLine_36 : decode m5_readLine.2.1 36 = .ok (.aload_n 0, 1) := by decide +kernel
theorem d5_readLine_37 : decode m5_readLine.2.1 37 = .ok (.iconst 3, 1) := by decide +kernel
theorem d5_readLine_38 : decode m5_readLine.2.1 38 = .ok (.aload_n 0, 1) := by decide +kernel
theorem d5_readLine_39 : decode m5_readLine.2.1 39 = .ok (.getfield 108, 3) := by decide +kernel
theorem d5_readLine_42 : decode m5_readLine.2.1 42 = .ok (.invokevirtual 94, 3) := by decide +kernel
theorem d5_readLine_45 : decode m5_readLine.2.1 45 = .ok (.aload_n 0, 1) := by decide +kernel
theorem d5_readLine_46 : decode m5_readLine.2.1 46 = .ok (.invokevirtual 78, 3) := by decide +kernel
theorem d5_readLine_49 : decode m5_readLine.2.1 49 = .ok (.iconst 0, 1) := by decide +kernel
theorem d5_readLine_50 : decode m5_readLine.2.1 50 = .ok (.istore_n 3, 1) := by decide +kernel
theorem d5_readLine_51 : decode m5_readLine.2.1 51 = .ok (.iload_n 3, 1) := by decide +kernel
theorem d5_readLine_52 : decode m5_readLine.2.1 52 = .ok (.getstatic 111, 3) := by decide +kernel
theorem d5_readLine_55 : decode m5_readLine.2.1 55 = .ok (.iload_n 2, 1) := by decide +kernel
theorem d5_readLine_56 : decode m5_readLine.2.1 56 = .ok (.iaload, 1) := by decide +kernel
theorem d5_readLine_57 : decode m5_readLine.2.1 57 = .ok (.if_icmp .ge 59, 3) := by decide +kernel
theorem d5_readLine_60 : decode m5_readLine.2.1 60 = .ok (.iload_n 3, 1) := by decide +kernel
theorem d5_readLine_61 : decode m5_readLine.2.1 61 = .ok (.iconst 4, 1) := by decide +kernel
theorem d5_readLine_62 : decode m5_readLine.2.1 62 = .ok (.if_icmp .ge 54, 3) := by decide +kernel
theorem d5_readLine_65 : decode m5_readLine.2.1 65 = .ok (.aload_n 0, 1) := by decide +kernel
theorem d5_readLine_66 : decode m5_readLine.2.1 66 = .ok (.getfield 81, 3) := by decide +kernel
theorem d5_readLine_69 : decode m5_readLine.2.1 69 = .ok (.iconst 2, 1) := by decide +kernel
theorem d5_readLine_70 : decode m5_readLine.2.1 70 = .ok (.if_icmp .eq 8, 3) := by decide +kernel
theorem d5_readLine_73 : decode m5_readLine.2.1 73 = .ok (.aload_n 0, 1) := by decide +kernel
theorem d5_readLine_74 : decode m5_readLine.2.1 74 = .ok (.invokevirtual 101, 3) := by decide +kernel
theorem d5_readLine_77 : decode m5_readLine.2.1 77 = .ok (.return_, 1) := by decide +kernel
theorem d5_readLine_78 : decode m5_readLine.2.1 78 = .ok (.aload_n 0, 1) := by decide +kernel
theorem d5_readLine_79 : decode m5_readLine.2.1 79 = .ok (.getfield 34, 3) := by decide +kernel
theorem d5_readLine_82 : decode m5_readLine.2.1 82 = .ok (.iload_n 3, 1) := by decide +kernel
theorem d5_readLine_83 : decode m5_readLine.2.1 83 = .ok (.aload_n 0, 1) := by decide +kernel
theorem d5_readLine_84 : decode m5_readLine.2.1 84 = .ok (.invokevirtual 114, 3) := by decide +kernel
theorem d5_readLine_87 : decode m5_readLine.2.1 87 = .ok (.iastore, 1) := by decide +kernel
theorem d5_readLine_88 : decode m5_readLine.2.1 88 = .ok (.aload_n 0, 1) := by decide +kernel
theorem d5_readLine_89 : decode m5_readLine.2.1 89 = .ok (.iload_n 2, 1) := by decide +kernel
theorem d5_readLine_90 : decode m5_readLine.2.1 90 = .ok (.iload_n 3, 1) := by decide +kernel
theorem d5_readLine_91 : decode m5_readLine.2.1 91 = .ok (.invokevirtual 118, 3) := by decide +kernel
theorem d5_readLine_94 : decode m5_readLine.2.1 94 = .ok (.ifCond .ne 12, 3) := by decide +kernel
theorem d5_readLine_97 : decode m5_readLine.2.1 97 = .ok (.aload_n 0, 1) := by decide +kernel
theorem d5_readLine_98 : decode m5_readLine.2.1 98 = .ok (.iconst 2, 1) := by decide +kernel
theorem d5_readLine_99 : decode m5_readLine.2.1 99 = .ok (.aload_n 0, 1) := by decide +kernel
theorem d5_readLine_100 : decode m5_readLine.2.1 100 = .ok (.getfield 108, 3) := by decide +kernel
theorem d5_readLine_103 : decode m5_readLine.2.1 103 = .ok (.invokevirtual 94, 3) := by decide +kernel
theorem d5_readLine_106 : decode m5_readLine.2.1 106 = .ok (.aload_n 0, 1) := by decide +kernel
theorem d5_readLine_107 : decode m5_readLine.2.1 107 = .ok (.invokevirtual 78, 3) := by decide +kernel
theorem d5_readLine_110 : decode m5_readLine.2.1 110 = .ok (.iinc 3 1, 3) := by decide +kernel
theorem d5_readLine_113 : decode m5_readLine.2.1 113 = .ok (.goto (-62), 3) := by decide +kernel
theorem d5_readLine_116 : decode m5_readLine.2.1 116 = .ok (.aload_n 0, 1) := by decide +kernel
theorem d5_readLine_117 : decode m5_readLine.2.1 117 = .ok (.getfield 81, 3) := by decide +kernel
theorem d5_readLine_120 : decode m5_readLine.2.1 120 = .ok (.iconst 3, 1) := by decide +kernel
theorem d5_readLine_121 : decode m5_readLine.2.1 121 = .ok (.if_icmp .eq 8, 3) := by decide +kernel
theorem d5_readLine_124 : decode m5_readLine.2.1 124 = .ok (.aload_n 0, 1) := by decide +kernel
theorem d5_readLine_125 : decode m5_readLine.2.1 125 = .ok (.invokevirtual 101, 3) := by decide +kernel
theorem d5_readLine_128 : decode m5_readLine.2.1 128 = .ok (.return_, 1) := by decide +kernel
theorem d5_readLine_129 : decode m5_readLine.2.1 129 = .ok (.aload_n 0, 1) := by decide +kernel
theorem d5_readLine_130 : decode m5_readLine.2.1 130 = .ok (.getfield 60, 3) := by decide +kernel
theorem d5_readLine_133 : decode m5_readLine.2.1 133 = .ok (.ifCond .ne 8, 3) := by decide +kernel
theorem d5_readLine_136 : decode m5_readLine.2.1 136 = .ok (.aload_n 0, 1) := by decide +kernel
theorem d5_readLine_137 : decode m5_readLine.2.1 137 = .ok (.iload_n 2, 1) := by decide +kernel
theorem d5_readLine_138 : decode m5_readLine.2.1 138 = .ok (.invokevirtual 122, 3) := by decide +kernel
theorem d5_readLine_141 : decode m5_readLine.2.1 141 = .ok (.aload_n 0, 1) := by decide +kernel
theorem d5_readLine_142 : decode m5_readLine.2.1 142 = .ok (.invokevirtual 78, 3) := by decide +kernel
theorem d5_readLine_145 : decode m5_readLine.2.1 145 = .ok (.return_, 1) := by decide +kernel
def b5_readLine_106 (rec51 : Int × AH → Option (Int × AH)) (x2 : Int) (x3 : Int) (h : AH) : Option (Int × AH) :=
  bnd (f5_step h) fun r1 h2 =>
  rec51 ((x3 + 1), h2)
set_option maxRecDepth 100000 in
theorem t5_readLine_106 (l : Launch) (G : Geo) (d : Nat) (hd : 12 ≤ d) (x2 : Int) (x3 : Int) (rec51 : Int × AH → Option (Int × AH)) (H51 : ∀ (x3 : Int) (h : AH), Den l G m5_readLine rvV d 51 [some (vA G 28), none, some (vI x2), some (vI x3)] [] h (rec51 (x3, h))) (h : AH) : Den l G m5_readLine rvV d 106 [some (vA G 28), none, some (vI x2), some (vI x3)] [] h (b5_readLine_106 rec51 x2 x3 h) := by
  unfold b5_readLine_106
  refine den_aload_n (pc := 106) d5_readLine_106 rfl rfl ?_
  refine den_callVV (pc := 107) (As := []) fv_5_78 rfl rfl (ok_28 _) (Nat.le_of_ble_eq_true rfl) (Nat.le_trans (by decide) hd) d5_readLine_107 (c5_step l G h) (fun r1 h2 m3 o4 => ?_)
  refine den_iinc (pc := 110) (L2 := [some (vA G 28), none, some (vI x2), some (vI (x3 + 1))]) d5_readLine_110 (by decide) rfl rfl ?_
  refine den_goto (pc := 113) (tgt := 51) d5_readLine_113 (by decide) ?_
  exact H51 (x3 + 1) h2
def b5_readLine_116 (x2 : Int) (h : AH) : Option (Int × AH) :=
  if w32 (h.2 28 8) = 3 then
    if ¬ w32 (h.2 28 3) = 0 then
      bnd (f5_step h) fun r5 h6 =>
      some (0, h6)
    else
      bnd (f5_take x2 h) fun r9 h10 =>
      bnd (f5_step h10) fun r13 h14 =>
      some (0, h14)
  else
    bnd (f5_breakOff h) fun r17 h18 =>
    some (0, h18)
set_option maxRecDepth 100000 in
theorem t5_readLine_116 (l : Launch) (G : Geo) (d : Nat) (hd : 12 ≤ d) (x2 : Int) (h : AH) : Den l G m5_readLine rvV d 116 [some (vA G 28), none, some (vI x2), none] [] h (b5_readLine_116 x2 h) := by
  unfold b5_readLine_116
  refine den_aload_n (pc := 116) d5_readLine_116 rfl rfl ?_
  refine den_getI (pc := 117) fa_5_81 (ok_28 _) d5_readLine_117 ?_
  refine den_iconst (pc := 120) d5_readLine_120 ?_
  refine den_icmp_eq (pc := 121) (tgt := 129) d5_readLine_121 (by decide) rfl (by decide) (fun _ => ?_) (fun _ => ?_)
  · refine den_aload_n (pc := 129) d5_readLine_129 rfl rfl ?_
    refine den_getI (pc := 130) fa_5_60 (ok_28 _) d5_readLine_130 ?_
    refine den_if_ne (pc := 133) (tgt := 141) d5_readLine_133 (by decide) rfl (fun _ => ?_) (fun _ => ?_)
    · refine den_aload_n (pc := 141) d5_readLine_141 rfl rfl ?_
      refine den_callVV (pc := 142) (As := []) fv_5_78 rfl rfl (ok_28 _) (Nat.le_of_ble_eq_true rfl) (Nat.le_trans (by decide) hd) d5_readLine_142 (c5_step l G h) (fun r5 h6 m7 o8 => ?_)
      exact den_vret (pc := 145) rfl d5_readLine_145
    · refine den_aload_n (pc := 136) d5_readLine_136 rfl rfl ?_
      refine den_iload_n (pc := 137) d5_readLine_137 rfl rfl ?_
      refine den_callVV (pc := 138) (As := [vI x2]) fv_5_122 rfl rfl (ok_28 _) (Nat.le_of_ble_eq_true rfl) (Nat.le_trans (by decide) hd) d5_readLine_138 (c5_take l G x2 h) (fun r9 h10 m11 o12 => ?_)
      refine den_aload_n (pc := 141) d5_readLine_141 rfl rfl ?_
      refine den_callVV (pc := 142) (As := []) fv_5_78 rfl rfl (ok_28 _) (Nat.le_of_ble_eq_true rfl) (Nat.le_trans (by decide) hd) d5_readLine_142 (c5_step l G h10) (fun r13 h14 m15 o16 => ?_)
      exact den_vret (pc := 145) rfl d5_readLine_145
  · refine den_aload_n (pc := 124) d5_readLine_124 rfl rfl ?_
    refine den_callVV (pc := 125) (As := []) fv_5_101 rfl rfl (ok_28 _) (Nat.le_of_ble_eq_true rfl) (Nat.le_trans (by decide) hd) d5_readLine_125 (c5_breakOff l G h) (fun r17 h18 m19 o20 => ?_)
    exact den_vret (pc := 128) rfl d5_readLine_128
def b5_readLine_51 (rec51 : Int × AH → Option (Int × AH)) (x2 : Int) (x3 : Int) (h : AH) : Option (Int × AH) :=
  asrt (0 ≤ w32 x2 ∧ w32 x2 < 11) <|
  if w32 ((stV 0).getD (w32 x2).toNat 0) ≤ w32 x3 then
    b5_readLine_116 x2 h
  else
    if 4 ≤ w32 x3 then
      b5_readLine_116 x2 h
    else
      if w32 (h.2 28 8) = 2 then
        bnd (f5_numberHere h) fun r22 h23 =>
        asrt (0 ≤ w32 x3 ∧ w32 x3 < 4) <|
        lt (wr h23 40 (w32 x3).toNat r22) fun h27 =>
        bnd (f5_mayBe x2 x3 h27) fun r29 h30 =>
        if ¬ w32 r29 = 0 then
          b5_readLine_106 rec51 x2 x3 h30
        else
          bnd (f5_note 2 (h30.2 28 9) h30) fun r33 h34 =>
          b5_readLine_106 rec51 x2 x3 h34
      else
        bnd (f5_breakOff h) fun r37 h38 =>
        some (0, h38)
set_option maxRecDepth 100000 in
theorem t5_readLine_51 (l : Launch) (G : Geo) (d : Nat) (hd : 12 ≤ d) (x2 : Int) (x3 : Int) (rec51 : Int × AH → Option (Int × AH)) (H51 : ∀ (x3 : Int) (h : AH), Den l G m5_readLine rvV d 51 [some (vA G 28), none, some (vI x2), some (vI x3)] [] h (rec51 (x3, h))) (h : AH) : Den l G m5_readLine rvV d 51 [some (vA G 28), none, some (vI x2), some (vI x3)] [] h (b5_readLine_51 rec51 x2 x3 h) := by
  unfold b5_readLine_51
  refine den_iload_n (pc := 51) d5_readLine_51 rfl rfl ?_
  refine den_gets (pc := 52) (k := 0) (by decide) ks_5_111 d5_readLine_52 ?_
  refine den_iload_n (pc := 55) d5_readLine_55 rfl rfl ?_
  refine den_asrt (fun a21 => ?_)
  refine den_saload (pc := 56) (by decide) (by decide) a21 d5_readLine_56 ?_
  refine den_icmp_ge (pc := 57) (tgt := 116) d5_readLine_57 (by decide) rfl rfl (fun _ => ?_) (fun _ => ?_)
  · refine den_wk [true, true, true, false] rfl ?_
    exact t5_readLine_116 l G _ hd x2 h
  · refine den_iload_n (pc := 60) d5_readLine_60 rfl rfl ?_
    refine den_iconst (pc := 61) d5_readLine_61 ?_
    refine den_icmp_ge (pc := 62) (tgt := 116) d5_readLine_62 (by decide) rfl (by decide) (fun _ => ?_) (fun _ => ?_)
    · refine den_wk [true, true, true, false] rfl ?_
      exact t5_readLine_116 l G _ hd x2 h
    · refine den_aload_n (pc := 65) d5_readLine_65 rfl rfl ?_
      refine den_getI (pc := 66) fa_5_81 (ok_28 _) d5_readLine_66 ?_
      refine den_iconst (pc := 69) d5_readLine_69 ?_
      refine den_icmp_eq (pc := 70) (tgt := 78) d5_readLine_70 (by decide) rfl (by decide) (fun _ => ?_) (fun _ => ?_)
      · refine den_aload_n (pc := 78) d5_readLine_78 rfl rfl ?_
        refine den_getR (pc := 79) (b := 40) fa_5_34 (ok_28 _) rfl d5_readLine_79 ?_
        refine den_iload_n (pc := 82) d5_readLine_82 rfl rfl ?_
        refine den_aload_n (pc := 83) d5_readLine_83 rfl rfl ?_
        refine den_callVI (pc := 84) (As := []) fv_5_114 rfl rfl (ok_28 _) (Nat.le_of_ble_eq_true rfl) (Nat.le_trans (by decide) hd) d5_readLine_84 (c5_numberHere l G h) (fun r22 h23 m24 o25 => ?_)
        refine den_asrt (fun a26 => ?_)
        refine den_iastore (pc := 87) sh_40 (sz_lt (by decide)) rfl a26 d5_readLine_87 ?_
        refine den_ltH (fun h27 m28 => ?_)
        refine den_aload_n (pc := 88) d5_readLine_88 rfl rfl ?_
        refine den_iload_n (pc := 89) d5_readLine_89 rfl rfl ?_
        refine den_iload_n (pc := 90) d5_readLine_90 rfl rfl ?_
        refine den_callVI (pc := 91) (As := [vI x2, vI x3]) fv_5_118 rfl rfl (ok_28 _) (Nat.le_of_ble_eq_true rfl) (Nat.le_trans (by decide) hd) d5_readLine_91 (c5_mayBe l G x2 x3 h27) (fun r29 h30 m31 o32 => ?_)
        refine den_if_ne (pc := 94) (tgt := 106) d5_readLine_94 (by decide) rfl (fun _ => ?_) (fun _ => ?_)
        · exact t5_readLine_106 l G _ hd x2 x3 rec51 H51 h30
        · refine den_aload_n (pc := 97) d5_readLine_97 rfl rfl ?_
          refine den_iconst (pc := 98) d5_readLine_98 ?_
          refine den_aload_n (pc := 99) d5_readLine_99 rfl rfl ?_
          refine den_getI (pc := 100) fa_5_108 (ok_28 _) d5_readLine_100 ?_
          refine den_callVV (pc := 103) (As := [vI 2, vI (h30.2 28 9)]) fv_5_94 rfl rfl (ok_28 _) (Nat.le_of_ble_eq_true rfl) (Nat.le_trans (by decide) hd) d5_readLine_103 (c5_note l G 2 (h30.2 28 9) h30) (fun r33 h34 m35 o36 => ?_)
          exact t5_readLine_106 l G _ hd x2 x3 rec51 H51 h34
      · refine den_aload_n (pc := 73) d5_readLine_73 rfl rfl ?_
        refine den_callVV (pc := 74) (As := []) fv_5_101 rfl rfl (ok_28 _) (Nat.le_of_ble_eq_true rfl) (Nat.le_trans (by decide) hd) d5_readLine_74 (c5_breakOff l G h) (fun r37 h38 m39 o40 => ?_)
        exact den_vret (pc := 77) rfl d5_readLine_77
def l5_readLine_51 (x2 : Int) (x3 : Int) (h : AH) : Option (Int × AH) := fx (fun rec z => b5_readLine_51 rec x2 z.1 z.2) FU (x3, h)
set_option maxRecDepth 100000 in
theorem tl5_readLine_51 (l : Launch) (G : Geo) (d : Nat) (hd : 12 ≤ d) (x2 : Int) : ∀ (n : Nat) (z : Int × AH), True → Den l G m5_readLine rvV d 51 [some (vA G 28), none, some (vI x2), some (vI z.1)] [] z.2 (fx (fun rec z => b5_readLine_51 rec x2 z.1 z.2) n z) :=
  den_fx (F := fun rec z => b5_readLine_51 rec x2 z.1 z.2) (P := fun z => True) (fL := fun z => [some (vA G 28), none, some (vI x2), some (vI z.1)]) (fs := fun z => []) (fh := fun z => z.2) (fun rec hrec z hz => t5_readLine_51 l G d hd x2 z.1 rec (fun x3 h => hrec (x3, h) trivial) z.2 )
def b5_readLine_45 (x2 : Int) (h : AH) : Option (Int × AH) :=
  bnd (f5_step h) fun r41 h42 =>
  l5_readLine_51 x2 0 h42
set_option maxRecDepth 100000 in
theorem t5_readLine_45 (l : Launch) (G : Geo) (d : Nat) (hd : 12 ≤ d) (x2 : Int) (h : AH) : Den l G m5_readLine rvV d 45 [some (vA G 28), none, some (vI x2), none] [] h (b5_readLine_45 x2 h) := by
  unfold b5_readLine_45
  refine den_aload_n (pc := 45) d5_readLine_45 rfl rfl ?_
  refine den_callVV (pc := 46) (As := []) fv_5_78 rfl rfl (ok_28 _) (Nat.le_of_ble_eq_true rfl) (Nat.le_trans (by decide) hd) d5_readLine_46 (c5_step l G h) (fun r41 h42 m43 o44 => ?_)
  refine den_iconst (pc := 49) d5_readLine_49 ?_
  refine den_istore_n (pc := 50) (L2 := [some (vA G 28), none, some (vI x2), some (vI 0)]) d5_readLine_50 rfl (by decide) rfl ?_
  exact tl5_readLine_51 l G _ hd x2 FU (0, h42) trivial
def b5_readLine_17 (s0 : Int) (h : AH) : Option (Int × AH) :=
  if ¬ w32 s0 = (-1) then
    bnd (f5_isOneTooMany s0 h) fun r45 h46 =>
    if w32 r45 = 0 then
      b5_readLine_45 s0 h46
    else
      bnd (f5_note 3 (h46.2 28 9) h46) fun r49 h50 =>
      b5_readLine_45 s0 h50
  else
    bnd (f5_breakOff h) fun r53 h54 =>
    some (0, h54)
set_option maxRecDepth 100000 in
theorem t5_readLine_17 (l : Launch) (G : Geo) (d : Nat) (hd : 12 ≤ d) (s0 : Int) (h : AH) : Den l G m5_readLine rvV d 17 [some (vA G 28), none, none, none] [vI s0] h (b5_readLine_17 s0 h) := by
  unfold b5_readLine_17
  refine den_istore_n (pc := 17) (L2 := [some (vA G 28), none, some (vI s0), none]) d5_readLine_17 rfl (by decide) rfl ?_
  refine den_iload_n (pc := 18) d5_readLine_18 rfl rfl ?_
  refine den_iconst (pc := 19) d5_readLine_19 ?_
  refine den_icmp_ne (pc := 20) (tgt := 28) d5_readLine_20 (by decide) rfl (by decide) (fun _ => ?_) (fun _ => ?_)
  · refine den_aload_n (pc := 28) d5_readLine_28 rfl rfl ?_
    refine den_iload_n (pc := 29) d5_readLine_29 rfl rfl ?_
    refine den_callVI (pc := 30) (As := [vI s0]) fv_5_104 rfl rfl (ok_28 _) (Nat.le_of_ble_eq_true rfl) (Nat.le_trans (by decide) hd) d5_readLine_30 (c5_isOneTooMany l G s0 h) (fun r45 h46 m47 o48 => ?_)
    refine den_if_eq (pc := 33) (tgt := 45) d5_readLine_33 (by decide) rfl (fun _ => ?_) (fun _ => ?_)
    · exact t5_readLine_45 l G _ hd s0 h46
    · refine den_aload_n (pc := 36) d5_readLine_36 rfl rfl ?_
      refine den_iconst (pc := 37) d5_readLine_37 ?_
      refine den_aload_n (pc := 38) d5_readLine_38 rfl rfl ?_
      refine den_getI (pc := 39) fa_5_108 (ok_28 _) d5_readLine_39 ?_
      refine den_callVV (pc := 42) (As := [vI 3, vI (h46.2 28 9)]) fv_5_94 rfl rfl (ok_28 _) (Nat.le_of_ble_eq_true rfl) (Nat.le_trans (by decide) hd) d5_readLine_42 (c5_note l G 3 (h46.2 28 9) h46) (fun r49 h50 m51 o52 => ?_)
      exact t5_readLine_45 l G _ hd s0 h50
  · refine den_aload_n (pc := 23) d5_readLine_23 rfl rfl ?_
    refine den_callVV (pc := 24) (As := []) fv_5_101 rfl rfl (ok_28 _) (Nat.le_of_ble_eq_true rfl) (Nat.le_trans (by decide) hd) d5_readLine_24 (c5_breakOff l G h) (fun r53 h54 m55 o56 => ?_)
    exact den_vret (pc := 27) rfl d5_readLine_27
def f5_readLine (x1 : Int) (h : AH) : Option (Int × AH) :=
  if ¬ w32 (h.2 28 8) = 1 then
    b5_readLine_17 (-1) h
  else
    bnd (f5_lineOf x1 h) fun r57 h58 =>
    b5_readLine_17 r57 h58
set_option maxRecDepth 100000 in
theorem c5_readLine (l : Launch) (G : Geo) (x1 : Int) (h : AH) : Con l G m5_readLine rvV 12 [vA G 28, vI x1] h (f5_readLine x1 h) := by
  have hd : 12 ≤ 12 := Nat.le_refl _
  refine con_V rfl (by decide) rfl rfl (Nat.le_of_ble_eq_true rfl) (L := [some (vA G 28), some (vI x1), none, none]) ?_
  unfold f5_readLine
  refine den_aload_n (pc := 0) d5_readLine_0 rfl rfl ?_
  refine den_getI (pc := 1) fa_5_81 (ok_28 _) d5_readLine_1 ?_
  refine den_iconst (pc := 4) d5_readLine_4 ?_
  refine den_icmp_ne (pc := 5) (tgt := 16) d5_readLine_5 (by decide) rfl (by decide) (fun _ => ?_) (fun _ => ?_)
  · refine den_iconst (pc := 16) d5_readLine_16 ?_
    refine den_wk [true, false, true, true] rfl ?_
    exact t5_readLine_17 l G _ hd (-1) h
  · refine den_aload_n (pc := 8) d5_readLine_8 rfl rfl ?_
    refine den_iload_n (pc := 9) d5_readLine_9 rfl rfl ?_
    refine den_callVI (pc := 10) (As := [vI x1]) fv_5_97 rfl rfl (ok_28 _) (Nat.le_of_ble_eq_true rfl) (Nat.le_trans (by decide) hd) d5_readLine_10 (c5_lineOf l G x1 h) (fun r57 h58 m59 o60 => ?_)
    refine den_goto (pc := 13) (tgt := 17) d5_readLine_13 (by decide) ?_
    refine den_wk [true, false, true, true] rfl ?_
    exact t5_readLine_17 l G _ hd r57 h58
theorem d9_clear_0 : decode m9_clear.2.1 0 = .ok (.aload_n 0, 1) := by decide +kernel
theorem d9_clear_1 : decode m9_clear.2.1 1 = .ok (.iconst 0, 1) := by decide +kernel
theorem d9_clear_2 : decode m9_clear.2.1 2 = .ok (.putfield 31, 3) := by decide +kernel
theorem d9_clear_5 : decode m9_clear.2.1 5 = .ok (.aload_n 0, 1) := by decide +kernel
theorem d9_clear_6 : decode m9_clear.2.1 6 = .ok (.iconst 0, 1) := by decide +kernel
theorem d9_clear_7 : decode m9_clear.2.1 7 = .ok (.putfield 34, 3) := by decide +kernel
theorem d9_clear_10 : decode m9_clear.2.1 10 = .ok (.aload_n 0, 1) := by decide +kernel
theorem d9_clear_11 : decode m9_clear.2.1 11 = .ok (.iconst 0, 1) := by decide +kernel
theorem d9_clear_12 : decode m9_clear.2.1 12 = .ok (.putfield 37, 3) := by decide +kernel
theorem d9_clear_15 : decode m9_clear.2.1 15 = .ok (.aload_n 0, 1) := by decide +kernel
theorem d9_clear_16 : decode m9_clear.2.1 16 = .ok (.iconst 2, 1) := by decide +kernel
theorem d9_clear_17 : decode m9_clear.2.1 17 = .ok (.putfield 9, 3) := by decide +kernel
theorem d9_clear_20 : decode m9_clear.2.1 20 = .ok (.aload_n 0, 1) := by decide +kernel
theorem d9_clear_21 : decode m9_clear.2.1 21 = .ok (.getfield 28, 3) := by decide +kernel
theorem d9_clear_24 : decode m9_clear.2.1 24 = .ok (.iconst (-1), 1) := by decide +kernel
theorem d9_clear_25 : decode m9_clear.2.1 25 = .ok (.invokestatic 40, 3) := by decide +kernel
theorem d9_clear_28 : decode m9_clear.2.1 28 = .ok (.return_, 1) := by decide +kernel
def f9_clear (x0 : Nat) (h : AH) : Option (Int × AH) :=
  lt (wr h x0 0 0) fun h1 =>
  lt (wr h1 x0 1 0) fun h4 =>
  lt (wr h4 x0 2 0) fun h7 =>
  lt (wr h7 x0 3 2) fun h10 =>
  bnd (f12_fill (x0 + 5) (-1) h10) fun r13 h14 =>
  some (0, h14)
set_option maxRecDepth 100000 in
theorem c9_clear (l : Launch) (G : Geo) (x0 : Nat) (h : AH) (kx0 : ok h.1 x0 9) : Con l G m9_clear rvV 3 [vA G x0] h (f9_clear x0 h) := by
  have hd : 3 ≤ 3 := Nat.le_refl _
  refine con_V rfl (by decide) rfl rfl (Nat.le_of_ble_eq_true rfl) (L := [some (vA G x0)]) ?_
  unfold f9_clear
  refine den_aload_n (pc := 0) d9_clear_0 rfl rfl ?_
  refine den_iconst (pc := 1) d9_clear_1 ?_
  refine den_putI (pc := 2) fp_9_31 kx0 d9_clear_2 ?_
  refine den_ltH (fun h1 m2 => ?_)
  have q3 := ok.mono kx0 m2
  refine den_aload_n (pc := 5) d9_clear_5 rfl rfl ?_
  refine den_iconst (pc := 6) d9_clear_6 ?_
  refine den_putI (pc := 7) fp_9_34 q3 d9_clear_7 ?_
  refine den_ltH (fun h4 m5 => ?_)
  have q6 := ok.mono q3 m5
  refine den_aload_n (pc := 10) d9_clear_10 rfl rfl ?_
  refine den_iconst (pc := 11) d9_clear_11 ?_
  refine den_putI (pc := 12) fp_9_37 q6 d9_clear_12 ?_
  refine den_ltH (fun h7 m8 => ?_)
  have q9 := ok.mono q6 m8
  refine den_aload_n (pc := 15) d9_clear_15 rfl rfl ?_
  refine den_iconst (pc := 16) d9_clear_16 ?_
  refine den_putI (pc := 17) fp_9_9 q9 d9_clear_17 ?_
  refine den_ltH (fun h10 m11 => ?_)
  have q12 := ok.mono q9 m11
  refine den_aload_n (pc := 20) d9_clear_20 rfl rfl ?_
  refine den_getR (pc := 21) (b := x0 + 5) fa_9_28 q12 rfl d9_clear_21 ?_
  refine den_iconst (pc := 24) d9_clear_24 ?_
  refine den_callSV (pc := 25) (As := [vA G (x0 + 5), vI (-1)]) fs_9_40 rfl rfl (Nat.le_of_ble_eq_true rfl) (Nat.le_trans (by decide) hd) d9_clear_25 (c12_fill l G (x0 + 5) (-1) h10 ⟨(vil_l5 q12), by rw [(vil_s5 q12)]⟩) (fun r13 h14 m15 o16 => ?_)
  have q17 := ok.mono q12 m15
  exact den_vret (pc := 28) rfl d9_clear_28
theorem d5_readText_0 : decode m5_readText.2.1 0 = .ok (.aload_n 0, 1) := by decide +kernel
theorem d5_readText_1 : decode m5_readText.2.1 1 = .ok (.iconst 0, 1) := by decide +kernel
theorem d5_readText_2 : decode m5_readText.2.1 2 = .ok (.iload_n 3, 1) := by decide +kernel
theorem d5_readText_3 : decode m5_readText.2.1 3 = .ok (.aload_n 2, 1) := by decide +kernel
theorem d5_readText_4 : decode m5_readText.2.1 4 = .ok (.arraylength, 1) := by decide +kernel
theorem d5_readText_5 : decode m5_readText.2.1 5 = .ok (.sipush 600, 3) := by decide +kernel
theorem d5_readText_8 : decode m5_readText.2.1 8 = .ok (.invokestatic 38, 3) := by decide +kernel
theorem d5_readText_11 : decode m5_readText.2.1 11 = .ok (.invokestatic 38, 3) := by decide +kernel
theorem d5_readText_14 : decode m5_readText.2.1 14 = .ok (.invokestatic 44, 3) := by decide +kernel
theorem d5_readText_17 : decode m5_readText.2.1 17 = .ok (.putfield 47, 3) := by decide +kernel
theorem d5_readText_20 : decode m5_readText.2.1 20 = .ok (.aload_n 2, 1) := by decide +kernel
theorem d5_readText_21 : decode m5_readText.2.1 21 = .ok (.iconst 0, 1) := by decide +kernel
theorem d5_readText_22 : decode m5_readText.2.1 22 = .ok (.aload_n 0, 1) := by decide +kernel
theorem d5_readText_23 : decode m5_readText.2.1 23 = .ok (.getfield 30, 3) := by decide +kernel
theorem d5_readText_26 : decode m5_readText.2.1 26 = .ok (.iconst 0, 1) := by decide +kernel
theorem d5_readText_27 : decode m5_readText.2.1 27 = .ok (.aload_n 0, 1) := by decide +kernel
theorem d5_readText_28 : decode m5_readText.2.1 28 = .ok (.getfield 47, 3) := by decide +kernel
theorem d5_readText_31 : decode m5_readText.2.1 31 = .ok (.invokestatic 51, 3) := by decide +kernel
theorem d5_readText_34 : decode m5_readText.2.1 34 = .ok (.aload_n 0, 1) := by decide +kernel
theorem d5_readText_35 : decode m5_readText.2.1 35 = .ok (.iconst 0, 1) := by decide +kernel
theorem d5_readText_36 : decode m5_readText.2.1 36 = .ok (.putfield 57, 3) := by decide +kernel
theorem d5_readText_39 : decode m5_readText.2.1 39 = .ok (.aload_n 0, 1) := by decide +kernel
theorem d5_readText_40 : decode m5_readText.2.1 40 = .ok (.iconst 0, 1) := by decide +kernel
theorem d5_readText_41 : decode m5_readText.2.1 41 = .ok (.putfield 60, 3) := by decide +kernel
theorem d5_readText_44 : decode m5_readText.2.1 44 = .ok (.aload_n 0, 1) := by decide +kernel
theorem d5_readText_45 : decode m5_readText.2.1 45 = .ok (.iconst (-1), 1) := by decide +kernel
theorem d5_readText_46 : decode m5_readText.2.1 46 = .ok (.putfield 63, 3) := by decide +kernel
theorem d5_readText_49 : decode m5_readText.2.1 49 = .ok (.aload_n 0, 1) := by decide +kernel
theorem d5_readText_50 : decode m5_readText.2.1 50 = .ok (.iconst 0, 1) := by decide +kernel
theorem d5_readText_51 : decode m5_readText.2.1 51 = .ok (.putfield 66, 3) := by decide +kernel
theorem d5_readText_54 : decode m5_readText.2.1 54 = .ok (.aload_n 0, 1) := by decide +kernel
theorem d5_readText_55 : decode m5_readText.2.1 55 = .ok (.iconst 0, 1) := by decide +kernel
theorem d5_readText_56 : decode m5_readText.2.1 56 = .ok (.putfield 69, 3) := by decide +kernel
theorem d5_readText_59 : decode m5_readText.2.1 59 = .ok (.aload_n 0, 1) := by decide +kernel
theorem d5_readText_60 : decode m5_readText.2.1 60 = .ok (.getfield 12, 3) := by decide +kernel
theorem d5_readText_63 : decode m5_readText.2.1 63 = .ok (.invokevirtual 72, 3) := by decide +kernel
theorem d5_readText_66 : decode m5_readText.2.1 66 = .ok (.aload_n 0, 1) := by decide +kernel
theorem d5_readText_67 : decode m5_readText.2.1 67 = .ok (.getfield 23, 3) := by decide +kernel
theorem d5_readText_70 : decode m5_readText.2.1 70 = .ok (.iconst 0, 1) := by decide +kernel
theorem d5_readText_71 : decode m5_readText.2.1 71 = .ok (.putfield 75, 3) := by decide +kernel
theorem d5_readText_74 : decode m5_readText.2.1 74 = .ok (.aload_n 0, 1) := by decide +kernel
theorem d5_readText_75 : decode m5_readText.2.1 75 = .ok (.getfield 27, 3) := by decide +kernel
theorem d5_readText_78 : decode m5_readText.2.1 78 = .ok (.iconst 0, 1) := by decide +kernel
theorem d5_readText_79 : decode m5_readText.2.1 79 = .ok (.putfield 75, 3) := by decide +kernel
theorem d5_readText_82 : decode m5_readText.2.1 82 = .ok (.aload_n 0, 1) := by decide +kernel
theorem d5_readText_83 : decode m5_readText.2.1 83 = .ok (.invokevirtual 78, 3) := by decide +kernel
theorem d5_readText_86 : decode m5_readText.2.1 86 = .ok (.iconst 0, 1) := by decide +kernel
theorem d5_readText_87 : decode m5_readText.2.1 87 = .ok (.istore 4, 2) := by decide +kernel
theorem d5_readText_89 : decode m5_readText.2.1 89 = .ok (.iload 4, 2) := by decide +kernel
theorem d5_readText_91 : decode m5_readText.2.1 91 = .ok (.sipush 600, 3) := by decide +kernel
theorem d5_readText_94 : decode m5_readText.2.1 94 = .ok (.if_icmp .ge 29, 3) := by decide +kernel
theorem d5_readText_97 : decode m5_readText.2.1 97 = .ok (.aload_n 0, 1) := by decide +kernel
theorem d5_readText_98 : decode m5_readText.2.1 98 = .ok (.getfield 81, 3) := by decide +kernel
theorem d5_readText_101 : decode m5_readText.2.1 101 = .ok (.ifCond .eq 22, 3) := by decide +kernel
theorem d5_readText_104 : decode m5_readText.2.1 104 = .ok (.aload_n 0, 1) := by decide +kernel
theorem d5_readText_105 : decode m5_readText.2.1 105 = .ok (.getfield 60, 3) := by decide +kernel
theorem d5_readText_108 : decode m5_readText.2.1 108 = .ok (.iconst 1, 1) := by decide +kernel
theorem d5_readText_109 : decode m5_readText.2.1 109 = .ok (.if_icmp .eq 14, 3) := by decide +kernel
theorem d5_readText_112 : decode m5_readText.2.1 112 = .ok (.aload_n 0, 1) := by decide +kernel
theorem d5_readText_113 : decode m5_readText.2.1 113 = .ok (.iload_n 1, 1) := by decide +kernel
theorem d5_readText_114 : decode m5_readText.2.1 114 = .ok (.invokevirtual 84, 3) := by decide +kernel
theorem d5_readText_117 : decode m5_readText.2.1 117 = .ok (.iinc 4 1, 3) := by decide +kernel
theorem d5_readText_120 : decode m5_readText.2.1 120 = .ok (.goto (-31), 3) := by decide +kernel
theorem d5_readText_123 : decode m5_readText.2.1 123 = .ok (.aload_n 0, 1) := by decide +kernel
theorem d5_readText_124 : decode m5_readText.2.1 124 = .ok (.getfield 60, 3) := by decide +kernel
theorem d5_readText_127 : decode m5_readText.2.1 127 = .ok (.ifCond .ne 40, 3) := by decide +kernel
theorem d5_readText_130 : decode m5_readText.2.1 130 = .ok (.aload_n 0, 1) := by decide +kernel
theorem d5_readText_131 : decode m5_readText.2.1 131 = .ok (.getfield 66, 3) := by decide +kernel
theorem d5_readText_134 : decode m5_readText.2.1 134 = .ok (.aload_n 0, 1) := by decide +kernel
theorem d5_readText_135 : decode m5_readText.2.1 135 = .ok (.getfield 12, 3) := by decide +kernel
theorem d5_readText_138 : decode m5_readText.2.1 138 = .ok (.getfield 88, 3) := by decide +kernel
theorem d5_readText_141 : decode m5_readText.2.1 141 = .ok (.if_icmp .gt 17, 3) := by decide +kernel
theorem d5_readText_144 : decode m5_readText.2.1 144 = .ok (.aload_n 0, 1) := by decide +kernel
theorem d5_readText_145 : decode m5_readText.2.1 145 = .ok (.getfield 69, 3) := by decide +kernel
theorem d5_readText_148 : decode m5_readText.2.1 148 = .ok (.aload_n 0, 1) := by decide +kernel
theorem d5_readText_149 : decode m5_readText.2.1 149 = .ok (.getfield 12, 3) := by decide +kernel
theorem d5_readText_152 : decode m5_readText.2.1 152 = .ok (.getfield 91, 3) := by decide +kernel
theorem d5_readText_155 : decode m5_readText.2.1 155 = .ok (.if_icmp .le 12, 3) := by decide +kernel
theorem d5_readText_158 : decode m5_readText.2.1 158 = .ok (.aload_n 0, 1) := by decide +kernel
theorem d5_readText_159 : decode m5_readText.2.1 159 = .ok (.iconst 4, 1) := by decide +kernel
theorem d5_readText_160 : decode m5_readText.2.1 160 = .ok (.aload_n 0, 1) := by decide +kernel
theorem d5_readText_161 : decode m5_readText.2.1 161 = .ok (.getfield 47, 3) := by decide +kernel
theorem d5_readText_164 : decode m5_readText.2.1 164 = .ok (.invokevirtual 94, 3) := by decide +kernel
theorem d5_readText_167 : decode m5_readText.2.1 167 = .ok (.return_, 1) := by decide +kernel
def b5_readText_158 (h : AH) : Option (Int × AH) :=
  bnd (f5_note 4 (h.2 28 7) h) fun r1 h2 =>
  some (0, h2)
set_option maxRecDepth 100000 in
theorem t5_readText_158 (l : Launch) (G : Geo) (d : Nat) (hd : 13 ≤ d) (h : AH) : Den l G m5_readText rvV d 158 [some (vA G 28), none, none, none, none] [] h (b5_readText_158 h) := by
  unfold b5_readText_158
  refine den_aload_n (pc := 158) d5_readText_158 rfl rfl ?_
  refine den_iconst (pc := 159) d5_readText_159 ?_
  refine den_aload_n (pc := 160) d5_readText_160 rfl rfl ?_
  refine den_getI (pc := 161) fa_5_47 (ok_28 _) d5_readText_161 ?_
  refine den_callVV (pc := 164) (As := [vI 4, vI (h.2 28 7)]) fv_5_94 rfl rfl (ok_28 _) (Nat.le_of_ble_eq_true rfl) (Nat.le_trans (by decide) hd) d5_readText_164 (c5_note l G 4 (h.2 28 7) h) (fun r1 h2 m3 o4 => ?_)
  exact den_vret (pc := 167) rfl d5_readText_167
def b5_readText_123 (h : AH) : Option (Int × AH) :=
  if ¬ w32 (h.2 28 3) = 0 then
    some (0, h)
  else
    if w32 (h.2 29 0) < w32 (h.2 28 11) then
      b5_readText_158 h
    else
      if w32 (h.2 28 12) ≤ w32 (h.2 29 1) then
        some (0, h)
      else
        b5_readText_158 h
set_option maxRecDepth 100000 in
theorem t5_readText_123 (l : Launch) (G : Geo) (d : Nat) (hd : 13 ≤ d) (h : AH) : Den l G m5_readText rvV d 123 [some (vA G 28), none, none, none, none] [] h (b5_readText_123 h) := by
  unfold b5_readText_123
  refine den_aload_n (pc := 123) d5_readText_123 rfl rfl ?_
  refine den_getI (pc := 124) fa_5_60 (ok_28 _) d5_readText_124 ?_
  refine den_if_ne (pc := 127) (tgt := 167) d5_readText_127 (by decide) rfl (fun _ => ?_) (fun _ => ?_)
  · exact den_vret (pc := 167) rfl d5_readText_167
  · refine den_aload_n (pc := 130) d5_readText_130 rfl rfl ?_
    refine den_getI (pc := 131) fa_5_66 (ok_28 _) d5_readText_131 ?_
    refine den_aload_n (pc := 134) d5_readText_134 rfl rfl ?_
    refine den_getR (pc := 135) (b := 29) fa_5_12 (ok_28 _) rfl d5_readText_135 ?_
    refine den_getI (pc := 138) fa_5_88 (ok_29 _) d5_readText_138 ?_
    refine den_icmp_gt (pc := 141) (tgt := 158) d5_readText_141 (by decide) rfl rfl (fun _ => ?_) (fun _ => ?_)
    · exact t5_readText_158 l G _ hd h
    · refine den_aload_n (pc := 144) d5_readText_144 rfl rfl ?_
      refine den_getI (pc := 145) fa_5_69 (ok_28 _) d5_readText_145 ?_
      refine den_aload_n (pc := 148) d5_readText_148 rfl rfl ?_
      refine den_getR (pc := 149) (b := 29) fa_5_12 (ok_28 _) rfl d5_readText_149 ?_
      refine den_getI (pc := 152) fa_5_91 (ok_29 _) d5_readText_152 ?_
      refine den_icmp_le (pc := 155) (tgt := 167) d5_readText_155 (by decide) rfl rfl (fun _ => ?_) (fun _ => ?_)
      · exact den_vret (pc := 167) rfl d5_readText_167
      · exact t5_readText_158 l G _ hd h
def b5_readText_89 (rec89 : Int × AH → Option (Int × AH)) (x1 : Int) (x4 : Int) (h : AH) : Option (Int × AH) :=
  if 600 ≤ w32 x4 then
    b5_readText_123 h
  else
    if w32 (h.2 28 8) = 0 then
      b5_readText_123 h
    else
      if w32 (h.2 28 3) = 1 then
        b5_readText_123 h
      else
        bnd (f5_readLine x1 h) fun r5 h6 =>
        rec89 ((x4 + 1), h6)
set_option maxRecDepth 100000 in
theorem t5_readText_89 (l : Launch) (G : Geo) (d : Nat) (hd : 13 ≤ d) (x1 : Int) (x4 : Int) (rec89 : Int × AH → Option (Int × AH)) (H89 : ∀ (x4 : Int) (h : AH), Den l G m5_readText rvV d 89 [some (vA G 28), some (vI x1), none, none, some (vI x4)] [] h (rec89 (x4, h))) (h : AH) : Den l G m5_readText rvV d 89 [some (vA G 28), some (vI x1), none, none, some (vI x4)] [] h (b5_readText_89 rec89 x1 x4 h) := by
  unfold b5_readText_89
  refine den_iload (pc := 89) d5_readText_89 rfl ?_
  refine den_sipush (pc := 91) d5_readText_91 (by decide) ?_
  refine den_icmp_ge (pc := 94) (tgt := 123) d5_readText_94 (by decide) rfl (by decide) (fun _ => ?_) (fun _ => ?_)
  · refine den_wk [true, false, true, true, false] rfl ?_
    exact t5_readText_123 l G _ hd h
  · refine den_aload_n (pc := 97) d5_readText_97 rfl rfl ?_
    refine den_getI (pc := 98) fa_5_81 (ok_28 _) d5_readText_98 ?_
    refine den_if_eq (pc := 101) (tgt := 123) d5_readText_101 (by decide) rfl (fun _ => ?_) (fun _ => ?_)
    · refine den_wk [true, false, true, true, false] rfl ?_
      exact t5_readText_123 l G _ hd h
    · refine den_aload_n (pc := 104) d5_readText_104 rfl rfl ?_
      refine den_getI (pc := 105) fa_5_60 (ok_28 _) d5_readText_105 ?_
      refine den_iconst (pc := 108) d5_readText_108 ?_
      refine den_icmp_eq (pc := 109) (tgt := 123) d5_readText_109 (by decide) rfl (by decide) (fun _ => ?_) (fun _ => ?_)
      · refine den_wk [true, false, true, true, false] rfl ?_
        exact t5_readText_123 l G _ hd h
      · refine den_aload_n (pc := 112) d5_readText_112 rfl rfl ?_
        refine den_iload_n (pc := 113) d5_readText_113 rfl rfl ?_
        refine den_callVV (pc := 114) (As := [vI x1]) fv_5_84 rfl rfl (ok_28 _) (Nat.le_of_ble_eq_true rfl) (Nat.le_trans (by decide) hd) d5_readText_114 (c5_readLine l G x1 h) (fun r5 h6 m7 o8 => ?_)
        refine den_iinc (pc := 117) (L2 := [some (vA G 28), some (vI x1), none, none, some (vI (x4 + 1))]) d5_readText_117 (by decide) rfl rfl ?_
        refine den_goto (pc := 120) (tgt := 89) d5_readText_120 (by decide) ?_
        exact H89 (x4 + 1) h6
def l5_readText_89 (x1 : Int) (x4 : Int) (h : AH) : Option (Int × AH) := fx (fun rec z => b5_readText_89 rec x1 z.1 z.2) FU (x4, h)
set_option maxRecDepth 100000 in
theorem tl5_readText_89 (l : Launch) (G : Geo) (d : Nat) (hd : 13 ≤ d) (x1 : Int) : ∀ (n : Nat) (z : Int × AH), True → Den l G m5_readText rvV d 89 [some (vA G 28), some (vI x1), none, none, some (vI z.1)] [] z.2 (fx (fun rec z => b5_readText_89 rec x1 z.1 z.2) n z) :=
  den_fx (F := fun rec z => b5_readText_89 rec x1 z.1 z.2) (P := fun z => True) (fL := fun z => [some (vA G 28), some (vI x1), none, none, some (vI z.1)]) (fs := fun z => []) (fh := fun z => z.2) (fun rec hrec z hz => t5_readText_89 l G d hd x1 z.1 rec (fun x4 h => hrec (x4, h) trivial) z.2 )
def f5_readText (x1 : Int) (x2 : Nat) (x3 : Int) (h : AH) : Option (Int × AH) :=
  lt (wr h 28 7 (max32 0 (min32 x3 (min32 ((shp x2).2 : Int) 600)))) fun h9 =>
  asrt ((0 ≤ w32 0 ∧ 0 ≤ w32 0 ∧ 0 ≤ w32 (h9.2 28 7) ∧ w32 0 + w32 (h9.2 28 7) ≤ ((shp x2).2 : Int) ∧ w32 0 + w32 (h9.2 28 7) ≤ 600) ∧ ∀ i, i < (w32 (h9.2 28 7)).toNat → -128 ≤ w32 (h9.2 x2 ((w32 0).toNat + i)) ∧ w32 (h9.2 x2 ((w32 0).toNat + i)) ≤ 127) <|
  lt (cpy h9 x2 39 (w32 0).toNat (w32 0).toNat (w32 (h9.2 28 7)).toNat) fun h13 =>
  lt (wr h13 28 10 0) fun h16 =>
  lt (wr h16 28 3 0) fun h19 =>
  lt (wr h19 28 4 (-1)) fun h22 =>
  lt (wr h22 28 11 0) fun h25 =>
  lt (wr h25 28 12 0) fun h28 =>
  bnd (f9_clear 29 h28) fun r31 h32 =>
  lt (wr h32 35 3 0) fun h36 =>
  lt (wr h36 37 3 0) fun h39 =>
  bnd (f5_step h39) fun r42 h43 =>
  l5_readText_89 x1 0 h43
set_option maxRecDepth 100000 in
theorem c5_readText (l : Launch) (G : Geo) (x1 : Int) (x2 : Nat) (x3 : Int) (h : AH) (kx2 : x2 < sz h.1 ∧ shp x2 = (1, (shp x2).2)) : Con l G m5_readText rvV 13 [vA G 28, vI x1, vA G x2, vI x3] h (f5_readText x1 x2 x3 h) := by
  have hd : 13 ≤ 13 := Nat.le_refl _
  refine con_V rfl (by decide) rfl rfl (Nat.le_of_ble_eq_true rfl) (L := [some (vA G 28), some (vI x1), some (vA G x2), some (vI x3), none]) ?_
  unfold f5_readText
  refine den_aload_n (pc := 0) d5_readText_0 rfl rfl ?_
  refine den_iconst (pc := 1) d5_readText_1 ?_
  refine den_iload_n (pc := 2) d5_readText_2 rfl rfl ?_
  refine den_aload_n (pc := 3) d5_readText_3 rfl rfl ?_
  refine den_alen1 (pc := 4) kx2.2 kx2.1 rfl d5_readText_4 ?_
  refine den_sipush (pc := 5) d5_readText_5 (by decide) ?_
  refine den_min (pc := 8) fm_5_38 (Nat.le_of_ble_eq_true rfl) (Nat.le_trans (by decide) hd) d5_readText_8 ?_
  refine den_min (pc := 11) fm_5_38 (Nat.le_of_ble_eq_true rfl) (Nat.le_trans (by decide) hd) d5_readText_11 ?_
  refine den_max (pc := 14) fm_5_44 (Nat.le_of_ble_eq_true rfl) (Nat.le_trans (by decide) hd) d5_readText_14 ?_
  refine den_putI (pc := 17) fp_5_47 (ok_28 _) d5_readText_17 ?_
  refine den_ltH (fun h9 m10 => ?_)
  have q11 := lt_mono kx2.1 m10
  refine den_aload_n (pc := 20) d5_readText_20 rfl rfl ?_
  refine den_iconst (pc := 21) d5_readText_21 ?_
  refine den_aload_n (pc := 22) d5_readText_22 rfl rfl ?_
  refine den_getR (pc := 23) (b := 39) fa_5_30 (ok_28 _) rfl d5_readText_23 ?_
  refine den_iconst (pc := 26) d5_readText_26 ?_
  refine den_aload_n (pc := 27) d5_readText_27 rfl rfl ?_
  refine den_getI (pc := 28) fa_5_47 (ok_28 _) d5_readText_28 ?_
  refine den_asrt (fun a12 => ?_)
  refine den_copyB (pc := 31) fc_5_51 kx2.2 q11 sh_39 (sz_lt (by decide)) rfl rfl (Nat.le_trans (by decide) hd) a12 (Nat.le_of_ble_eq_true rfl) d5_readText_31 ?_
  refine den_ltH (fun h13 m14 => ?_)
  have q15 := lt_mono q11 m14
  refine den_aload_n (pc := 34) d5_readText_34 rfl rfl ?_
  refine den_iconst (pc := 35) d5_readText_35 ?_
  refine den_putI (pc := 36) fp_5_57 (ok_28 _) d5_readText_36 ?_
  refine den_ltH (fun h16 m17 => ?_)
  have q18 := lt_mono q15 m17
  refine den_aload_n (pc := 39) d5_readText_39 rfl rfl ?_
  refine den_iconst (pc := 40) d5_readText_40 ?_
  refine den_putI (pc := 41) fp_5_60 (ok_28 _) d5_readText_41 ?_
  refine den_ltH (fun h19 m20 => ?_)
  have q21 := lt_mono q18 m20
  refine den_aload_n (pc := 44) d5_readText_44 rfl rfl ?_
  refine den_iconst (pc := 45) d5_readText_45 ?_
  refine den_putI (pc := 46) fp_5_63 (ok_28 _) d5_readText_46 ?_
  refine den_ltH (fun h22 m23 => ?_)
  have q24 := lt_mono q21 m23
  refine den_aload_n (pc := 49) d5_readText_49 rfl rfl ?_
  refine den_iconst (pc := 50) d5_readText_50 ?_
  refine den_putI (pc := 51) fp_5_66 (ok_28 _) d5_readText_51 ?_
  refine den_ltH (fun h25 m26 => ?_)
  have q27 := lt_mono q24 m26
  refine den_aload_n (pc := 54) d5_readText_54 rfl rfl ?_
  refine den_iconst (pc := 55) d5_readText_55 ?_
  refine den_putI (pc := 56) fp_5_69 (ok_28 _) d5_readText_56 ?_
  refine den_ltH (fun h28 m29 => ?_)
  have q30 := lt_mono q27 m29
  refine den_aload_n (pc := 59) d5_readText_59 rfl rfl ?_
  refine den_getR (pc := 60) (b := 29) fa_5_12 (ok_28 _) rfl d5_readText_60 ?_
  refine den_callVV (pc := 63) (As := []) fv_5_72 rfl rfl (ok_29 _) (Nat.le_of_ble_eq_true rfl) (Nat.le_trans (by decide) hd) d5_readText_63 (c9_clear l G 29 h28 (ok_29 _)) (fun r31 h32 m33 o34 => ?_)
  have q35 := lt_mono q30 m33
  refine den_aload_n (pc := 66) d5_readText_66 rfl rfl ?_
  refine den_getR (pc := 67) (b := 35) fa_5_23 (ok_28 _) rfl d5_readText_67 ?_
  refine den_iconst (pc := 70) d5_readText_70 ?_
  refine den_putI (pc := 71) fp_5_75 (ok_35 _) d5_readText_71 ?_
  refine den_ltH (fun h36 m37 => ?_)
  have q38 := lt_mono q35 m37
  refine den_aload_n (pc := 74) d5_readText_74 rfl rfl ?_
  refine den_getR (pc := 75) (b := 37) fa_5_27 (ok_28 _) rfl d5_readText_75 ?_
  refine den_iconst (pc := 78) d5_readText_78 ?_
  refine den_putI (pc := 79) fp_5_75 (ok_37 _) d5_readText_79 ?_
  refine den_ltH (fun h39 m40 => ?_)
  have q41 := lt_mono q38 m40
  refine den_aload_n (pc := 82) d5_readText_82 rfl rfl ?_
  refine den_callVV (pc := 83) (As := []) fv_5_78 rfl rfl (ok_28 _) (Nat.le_of_ble_eq_true rfl) (Nat.le_trans (by decide) hd) d5_readText_83 (c5_step l G h39) (fun r42 h43 m44 o45 => ?_)
  have q46 := lt_mono q41 m44
  refine den_iconst (pc := 86) d5_readText_86 ?_
  refine den_istore (pc := 87) (L2 := [some (vA G 28), some (vI x1), some (vA G x2), some (vI x3), some (vI 0)]) d5_readText_87 (by decide) rfl ?_
  refine den_wk [true, true, false, false, true] rfl ?_
  exact tl5_readText_89 l G _ hd x1 FU (0, h43) trivial
theorem d6_copy_0 : decode m6_copy.2.1 0 = .ok (.aload_n 1, 1) := by decide +kernel
theorem d6_copy_1 : decode m6_copy.2.1 1 = .ok (.getfield 9, 3) := by decide +kernel
theorem d6_copy_4 : decode m6_copy.2.1 4 = .ok (.aload_n 0, 1) := by decide +kernel
theorem d6_copy_5 : decode m6_copy.2.1 5 = .ok (.getfield 9, 3) := by decide +kernel
theorem d6_copy_8 : decode m6_copy.2.1 8 = .ok (.if_icmp .ne 44, 3) := by decide +kernel
theorem d6_copy_11 : decode m6_copy.2.1 11 = .ok (.aload_n 1, 1) := by decide +kernel
theorem d6_copy_12 : decode m6_copy.2.1 12 = .ok (.getfield 15, 3) := by decide +kernel
theorem d6_copy_15 : decode m6_copy.2.1 15 = .ok (.aload_n 0, 1) := by decide +kernel
theorem d6_copy_16 : decode m6_copy.2.1 16 = .ok (.getfield 15, 3) := by decide +kernel
theorem d6_copy_19 : decode m6_copy.2.1 19 = .ok (.if_icmp .ne 33, 3) := by decide +kernel
theorem d6_copy_22 : decode m6_copy.2.1 22 = .ok (.aload_n 0, 1) := by decide +kernel
theorem d6_copy_23 : decode m6_copy.2.1 23 = .ok (.aload_n 1, 1) := by decide +kernel
theorem d6_copy_24 : decode m6_copy.2.1 24 = .ok (.getfield 22, 3) := by decide +kernel
theorem d6_copy_27 : decode m6_copy.2.1 27 = .ok (.putfield 22, 3) := by decide +kernel
theorem d6_copy_30 : decode m6_copy.2.1 30 = .ok (.aload_n 1, 1) := by decide +kernel
theorem d6_copy_31 : decode m6_copy.2.1 31 = .ok (.getfield 18, 3) := by decide +kernel
theorem d6_copy_34 : decode m6_copy.2.1 34 = .ok (.iconst 0, 1) := by decide +kernel
theorem d6_copy_35 : decode m6_copy.2.1 35 = .ok (.aload_n 0, 1) := by decide +kernel
theorem d6_copy_36 : decode m6_copy.2.1 36 = .ok (.getfield 18, 3) := by decide +kernel
theorem d6_copy_39 : decode m6_copy.2.1 39 = .ok (.iconst 0, 1) := by decide +kernel
theorem d6_copy_40 : decode m6_copy.2.1 40 = .ok (.aload_n 0, 1) := by decide +kernel
theorem d6_copy_41 : decode m6_copy.2.1 41 = .ok (.getfield 9, 3) := by decide +kernel
theorem d6_copy_44 : decode m6_copy.2.1 44 = .ok (.aload_n 0, 1) := by decide +kernel
theorem d6_copy_45 : decode m6_copy.2.1 45 = .ok (.getfield 15, 3) := by decide +kernel
theorem d6_copy_48 : decode m6_copy.2.1 48 = .ok (.imul, 1) := by decide +kernel
theorem d6_copy_49 : decode m6_copy.2.1 49 = .ok (.invokestatic 25, 3) := by decide +kernel
theorem d6_copy_52 : decode m6_copy.2.1 52 = .ok (.return_, 1) := by decide +kernel
def f6_copy (x0 : Nat) (x1 : Nat) (h : AH) : Option (Int × AH) :=
  if ¬ w32 (h.2 x1 0) = w32 (h.2 x0 0) then
    some (0, h)
  else
    if ¬ w32 (h.2 x1 1) = w32 (h.2 x0 1) then
      some (0, h)
    else
      lt (wr h x0 3 (h.2 x1 3)) fun h1 =>
      asrt (0 ≤ w32 0 ∧ 0 ≤ w32 0 ∧ 0 ≤ w32 ((h1.2 x0 0) * (h1.2 x0 1)) ∧ w32 0 + w32 ((h1.2 x0 0) * (h1.2 x0 1)) ≤ ((shp (x1 + 1)).2 : Int) ∧ w32 0 + w32 ((h1.2 x0 0) * (h1.2 x0 1)) ≤ ((shp (x0 + 1)).2 : Int)) <|
      lt (cpy h1 (x1 + 1) (x0 + 1) (w32 0).toNat (w32 0).toNat (w32 ((h1.2 x0 0) * (h1.2 x0 1))).toNat) fun h6 =>
      some (0, h6)
set_option maxRecDepth 100000 in
theorem c6_copy (l : Launch) (G : Geo) (x0 : Nat) (x1 : Nat) (h : AH) (kx0 : ok h.1 x0 6) (kx1 : ok h.1 x1 6) : Con l G m6_copy rvV 3 [vA G x0, vA G x1] h (f6_copy x0 x1 h) := by
  have hd : 3 ≤ 3 := Nat.le_refl _
  refine con_V rfl (by decide) rfl rfl (Nat.le_of_ble_eq_true rfl) (L := [some (vA G x0), some (vA G x1)]) ?_
  unfold f6_copy
  refine den_aload_n (pc := 0) d6_copy_0 rfl rfl ?_
  refine den_getI (pc := 1) fa_6_9 kx1 d6_copy_1 ?_
  refine den_aload_n (pc := 4) d6_copy_4 rfl rfl ?_
  refine den_getI (pc := 5) fa_6_9 kx0 d6_copy_5 ?_
  refine den_icmp_ne (pc := 8) (tgt := 52) d6_copy_8 (by decide) rfl rfl (fun _ => ?_) (fun _ => ?_)
  · exact den_vret (pc := 52) rfl d6_copy_52
  · refine den_aload_n (pc := 11) d6_copy_11 rfl rfl ?_
    refine den_getI (pc := 12) fa_6_15 kx1 d6_copy_12 ?_
    refine den_aload_n (pc := 15) d6_copy_15 rfl rfl ?_
    refine den_getI (pc := 16) fa_6_15 kx0 d6_copy_16 ?_
    refine den_icmp_ne (pc := 19) (tgt := 52) d6_copy_19 (by decide) rfl rfl (fun _ => ?_) (fun _ => ?_)
    · exact den_vret (pc := 52) rfl d6_copy_52
    · refine den_aload_n (pc := 22) d6_copy_22 rfl rfl ?_
      refine den_aload_n (pc := 23) d6_copy_23 rfl rfl ?_
      refine den_getI (pc := 24) fa_6_22 kx1 d6_copy_24 ?_
      refine den_putI (pc := 27) fp_6_22 kx0 d6_copy_27 ?_
      refine den_ltH (fun h1 m2 => ?_)
      have q3 := ok.mono kx0 m2
      have q4 := ok.mono kx1 m2
      refine den_aload_n (pc := 30) d6_copy_30 rfl rfl ?_
      refine den_getR (pc := 31) (b := x1 + 1) fa_6_18 q4 rfl d6_copy_31 ?_
      refine den_iconst (pc := 34) d6_copy_34 ?_
      refine den_aload_n (pc := 35) d6_copy_35 rfl rfl ?_
      refine den_getR (pc := 36) (b := x0 + 1) fa_6_18 q3 rfl d6_copy_36 ?_
      refine den_iconst (pc := 39) d6_copy_39 ?_
      refine den_aload_n (pc := 40) d6_copy_40 rfl rfl ?_
      refine den_getI (pc := 41) fa_6_9 q3 d6_copy_41 ?_
      refine den_aload_n (pc := 44) d6_copy_44 rfl rfl ?_
      refine den_getI (pc := 45) fa_6_15 q3 d6_copy_45 ?_
      refine den_imul (pc := 48) d6_copy_48 ?_
      refine den_asrt (fun a5 => ?_)
      refine den_copyI (pc := 49) fc_6_25 (row_s1 q4) (row_l1 q4) (row_s1 q3) (row_l1 q3) rfl rfl (Nat.le_trans (by decide) hd) a5 (Nat.le_of_ble_eq_true rfl) d6_copy_49 ?_
      refine den_ltH (fun h6 m7 => ?_)
      have q8 := ok.mono q3 m7
      have q9 := ok.mono q4 m7
      exact den_vret (pc := 52) rfl d6_copy_52
theorem d6_answer_0 : decode m6_answer.2.1 0 = .ok (.iload_n 1, 1) := by decide +kernel
theorem d6_answer_1 : decode m6_answer.2.1 1 = .ok (.iconst (-1), 1) := by decide +kernel
theorem d6_answer_2 : decode m6_answer.2.1 2 = .ok (.if_icmp .ne 17, 3) := by decide +kernel
theorem d6_answer_5 : decode m6_answer.2.1 5 = .ok (.iload_n 2, 1) := by decide +kernel
theorem d6_answer_6 : decode m6_answer.2.1 6 = .ok (.ifCond .ne 10, 3) := by decide +kernel
theorem d6_answer_9 : decode m6_answer.2.1 9 = .ok (.aload_n 0, 1) := by decide +kernel
theorem d6_answer_10 : decode m6_answer.2.1 10 = .ok (.getfield 22, 3) := by decide +kernel
theorem d6_answer_13 : decode m6_answer.2.1 13 = .ok (.goto 5, 3) := by decide +kernel
theorem d6_answer_16 : decode m6_answer.2.1 16 = .ok (.bipush (-2), 2) := by decide +kernel
theorem d6_answer_18 : decode m6_answer.2.1 18 = .ok (.ireturn, 1) := by decide +kernel
theorem d6_answer_19 : decode m6_answer.2.1 19 = .ok (.aload_n 0, 1) := by decide +kernel
theorem d6_answer_20 : decode m6_answer.2.1 20 = .ok (.iload_n 1, 1) := by decide +kernel
theorem d6_answer_21 : decode m6_answer.2.1 21 = .ok (.iload_n 2, 1) := by decide +kernel
theorem d6_answer_22 : decode m6_answer.2.1 22 = .ok (.invokevirtual 31, 3) := by decide +kernel
theorem d6_answer_25 : decode m6_answer.2.1 25 = .ok (.ireturn, 1) := by decide +kernel
def f6_answer (x0 : Nat) (x1 : Int) (x2 : Int) (h : AH) : Option (Int × AH) :=
  if ¬ w32 x1 = (-1) then
    bnd (f6_cell x0 x1 x2 h) fun r1 h2 =>
    some (r1, h2)
  else
    if ¬ w32 x2 = 0 then
      some ((-2), h)
    else
      some (h.2 x0 3, h)
set_option maxRecDepth 100000 in
theorem c6_answer (l : Launch) (G : Geo) (x0 : Nat) (x1 : Int) (x2 : Int) (h : AH) (kx0 : ok h.1 x0 6) : Con l G m6_answer rvI 3 [vA G x0, vI x1, vI x2] h (f6_answer x0 x1 x2 h) := by
  have hd : 3 ≤ 3 := Nat.le_refl _
  refine con_I rfl (by decide) rfl rfl (Nat.le_of_ble_eq_true rfl) (L := [some (vA G x0), some (vI x1), some (vI x2)]) ?_
  unfold f6_answer
  refine den_iload_n (pc := 0) d6_answer_0 rfl rfl ?_
  refine den_iconst (pc := 1) d6_answer_1 ?_
  refine den_icmp_ne (pc := 2) (tgt := 19) d6_answer_2 (by decide) rfl (by decide) (fun _ => ?_) (fun _ => ?_)
  · refine den_aload_n (pc := 19) d6_answer_19 rfl rfl ?_
    refine den_iload_n (pc := 20) d6_answer_20 rfl rfl ?_
    refine den_iload_n (pc := 21) d6_answer_21 rfl rfl ?_
    refine den_callVI (pc := 22) (As := [vI x1, vI x2]) fv_6_31 rfl rfl kx0 (Nat.le_of_ble_eq_true rfl) (Nat.le_trans (by decide) hd) d6_answer_22 (c6_cell l G x0 x1 x2 h kx0) (fun r1 h2 m3 o4 => ?_)
    have q5 := ok.mono kx0 m3
    exact den_iret (pc := 25) rfl d6_answer_25
  · refine den_iload_n (pc := 5) d6_answer_5 rfl rfl ?_
    refine den_if_ne (pc := 6) (tgt := 16) d6_answer_6 (by decide) rfl (fun _ => ?_) (fun _ => ?_)
    · refine den_bipush (pc := 16) d6_answer_16 (by decide) ?_
      exact den_iret (pc := 18) rfl d6_answer_18
    · refine den_aload_n (pc := 9) d6_answer_9 rfl rfl ?_
      refine den_getI (pc := 10) fa_6_22 kx0 d6_answer_10 ?_
      refine den_goto (pc := 13) (tgt := 18) d6_answer_13 (by decide) ?_
      exact den_iret (pc := 18) rfl d6_answer_18
theorem d9_copy_0 : decode m9_copy.2.1 0 = .ok (.aload_n 0, 1) := by decide +kernel
theorem d9_copy_1 : decode m9_copy.2.1 1 = .ok (.aload_n 1, 1) := by decide +kernel
theorem d9_copy_2 : decode m9_copy.2.1 2 = .ok (.getfield 31, 3) := by decide +kernel
theorem d9_copy_5 : decode m9_copy.2.1 5 = .ok (.putfield 31, 3) := by decide +kernel
theorem d9_copy_8 : decode m9_copy.2.1 8 = .ok (.aload_n 0, 1) := by decide +kernel
theorem d9_copy_9 : decode m9_copy.2.1 9 = .ok (.aload_n 1, 1) := by decide +kernel
theorem d9_copy_10 : decode m9_copy.2.1 10 = .ok (.getfield 34, 3) := by decide +kernel
theorem d9_copy_13 : decode m9_copy.2.1 13 = .ok (.putfield 34, 3) := by decide +kernel
theorem d9_copy_16 : decode m9_copy.2.1 16 = .ok (.aload_n 0, 1) := by decide +kernel
theorem d9_copy_17 : decode m9_copy.2.1 17 = .ok (.aload_n 1, 1) := by decide +kernel
theorem d9_copy_18 : decode m9_copy.2.1 18 = .ok (.getfield 37, 3) := by decide +kernel
theorem d9_copy_21 : decode m9_copy.2.1 21 = .ok (.putfield 37, 3) := by decide +kernel
theorem d9_copy_24 : decode m9_copy.2.1 24 = .ok (.aload_n 0, 1) := by decide +kernel
theorem d9_copy_25 : decode m9_copy.2.1 25 = .ok (.aload_n 1, 1) := by decide +kernel
theorem d9_copy_26 : decode m9_copy.2.1 26 = .ok (.getfield 9, 3) := by decide +kernel
theorem d9_copy_29 : decode m9_copy.2.1 29 = .ok (.putfield 9, 3) := by decide +kernel
theorem d9_copy_32 : decode m9_copy.2.1 32 = .ok (.aload_n 1, 1) := by decide +kernel
theorem d9_copy_33 : decode m9_copy.2.1 33 = .ok (.getfield 15, 3) := by decide +kernel
theorem d9_copy_36 : decode m9_copy.2.1 36 = .ok (.iconst 0, 1) := by decide +kernel
theorem d9_copy_37 : decode m9_copy.2.1 37 = .ok (.aload_n 0, 1) := by decide +kernel
theorem d9_copy_38 : decode m9_copy.2.1 38 = .ok (.getfield 15, 3) := by decide +kernel
theorem d9_copy_41 : decode m9_copy.2.1 41 = .ok (.iconst 0, 1) := by decide +kernel
theorem d9_copy_42 : decode m9_copy.2.1 42 = .ok (.bipush 6, 2) := by decide +kernel
theorem d9_copy_44 : decode m9_copy.2.1 44 = .ok (.invokestatic 46, 3) := by decide +kernel
theorem d9_copy_47 : decode m9_copy.2.1 47 = .ok (.aload_n 1, 1) := by decide +kernel
theorem d9_copy_48 : decode m9_copy.2.1 48 = .ok (.getfield 19, 3) := by decide +kernel
theorem d9_copy_51 : decode m9_copy.2.1 51 = .ok (.iconst 0, 1) := by decide +kernel
theorem d9_copy_52 : decode m9_copy.2.1 52 = .ok (.aload_n 0, 1) := by decide +kernel
theorem d9_copy_53 : decode m9_copy.2.1 53 = .ok (.getfield 19, 3) := by decide +kernel
theorem d9_copy_56 : decode m9_copy.2.1 56 = .ok (.iconst 0, 1) := by decide +kernel
theorem d9_copy_57 : decode m9_copy.2.1 57 = .ok (.bipush 6, 2) := by decide +kernel
theorem d9_copy_59 : decode m9_copy.2.1 59 = .ok (.invokestatic 46, 3) := by decide +kernel
theorem d9_copy_62 : decode m9_copy.2.1 62 = .ok (.aload_n 1, 1) := by decide +kernel
theorem d9_copy_63 : decode m9_copy.2.1 63 = .ok (.getfield 22, 3) := by decide +kernel
theorem d9_copy_66 : decode m9_copy.2.1 66 = .ok (.iconst 0, 1) := by decide +kernel
theorem d9_copy_67 : decode m9_copy.2.1 67 = .ok (.aload_n 0, 1) := by decide +kernel
theorem d9_copy_68 : decode m9_copy.2.1 68 = .ok (.getfield 22, 3) := by decide +kernel
theorem d9_copy_71 : decode m9_copy.2.1 71 = .ok (.iconst 0, 1) := by decide +kernel
theorem d9_copy_72 : decode m9_copy.2.1 72 = .ok (.iconst 4, 1) := by decide +kernel
theorem d9_copy_73 : decode m9_copy.2.1 73 = .ok (.invokestatic 46, 3) := by decide +kernel
theorem d9_copy_76 : decode m9_copy.2.1 76 = .ok (.aload_n 1, 1) := by decide +kernel
theorem d9_copy_77 : decode m9_copy.2.1 77 = .ok (.getfield 25, 3) := by decide +kernel
theorem d9_copy_80 : decode m9_copy.2.1 80 = .ok (.iconst 0, 1) := by decide +kernel
theorem d9_copy_81 : decode m9_copy.2.1 81 = .ok (.aload_n 0, 1) := by decide +kernel
theorem d9_copy_82 : decode m9_copy.2.1 82 = .ok (.getfield 25, 3) := by decide +kernel
theorem d9_copy_85 : decode m9_copy.2.1 85 = .ok (.iconst 0, 1) := by decide +kernel
theorem d9_copy_86 : decode m9_copy.2.1 86 = .ok (.iconst 4, 1) := by decide +kernel
theorem d9_copy_87 : decode m9_copy.2.1 87 = .ok (.invokestatic 46, 3) := by decide +kernel
theorem d9_copy_90 : decode m9_copy.2.1 90 = .ok (.aload_n 1, 1) := by decide +kernel
theorem d9_copy_91 : decode m9_copy.2.1 91 = .ok (.getfield 28, 3) := by decide +kernel
theorem d9_copy_94 : decode m9_copy.2.1 94 = .ok (.iconst 0, 1) := by decide +kernel
theorem d9_copy_95 : decode m9_copy.2.1 95 = .ok (.aload_n 0, 1) := by decide +kernel
theorem d9_copy_96 : decode m9_copy.2.1 96 = .ok (.getfield 28, 3) := by decide +kernel
theorem d9_copy_99 : decode m9_copy.2.1 99 = .ok (.iconst 0, 1) := by decide +kernel
theorem d9_copy_100 : decode m9_copy.2.1 100 = .ok (.bipush 48, 2) := by decide +kernel
theorem d9_copy_102 : decode m9_copy.2.1 102 = .ok (.invokestatic 46, 3) := by decide +kernel
theorem d9_copy_105 : decode m9_copy.2.1 105 = .ok (.return_, 1) := by decide +kernel
def f9_copy (x0 : Nat) (x1 : Nat) (h : AH) : Option (Int × AH) :=
  lt (wr h x0 0 (h.2 x1 0)) fun h1 =>
  lt (wr h1 x0 1 (h1.2 x1 1)) fun h5 =>
  lt (wr h5 x0 2 (h5.2 x1 2)) fun h9 =>
  lt (wr h9 x0 3 (h9.2 x1 3)) fun h13 =>
  asrt (0 ≤ w32 0 ∧ 0 ≤ w32 0 ∧ 0 ≤ w32 6 ∧ w32 0 + w32 6 ≤ 6 ∧ w32 0 + w32 6 ≤ 6) <|
  lt (cpy h13 (x1 + 1) (x0 + 1) (w32 0).toNat (w32 0).toNat (w32 6).toNat) fun h18 =>
  asrt (0 ≤ w32 0 ∧ 0 ≤ w32 0 ∧ 0 ≤ w32 6 ∧ w32 0 + w32 6 ≤ 6 ∧ w32 0 + w32 6 ≤ 6) <|
  lt (cpy h18 (x1 + 2) (x0 + 2) (w32 0).toNat (w32 0).toNat (w32 6).toNat) fun h23 =>
  asrt (0 ≤ w32 0 ∧ 0 ≤ w32 0 ∧ 0 ≤ w32 4 ∧ w32 0 + w32 4 ≤ 4 ∧ w32 0 + w32 4 ≤ 4) <|
  lt (cpy h23 (x1 + 3) (x0 + 3) (w32 0).toNat (w32 0).toNat (w32 4).toNat) fun h28 =>
  asrt (0 ≤ w32 0 ∧ 0 ≤ w32 0 ∧ 0 ≤ w32 4 ∧ w32 0 + w32 4 ≤ 4 ∧ w32 0 + w32 4 ≤ 4) <|
  lt (cpy h28 (x1 + 4) (x0 + 4) (w32 0).toNat (w32 0).toNat (w32 4).toNat) fun h33 =>
  asrt (0 ≤ w32 0 ∧ 0 ≤ w32 0 ∧ 0 ≤ w32 48 ∧ w32 0 + w32 48 ≤ 48 ∧ w32 0 + w32 48 ≤ 48) <|
  lt (cpy h33 (x1 + 5) (x0 + 5) (w32 0).toNat (w32 0).toNat (w32 48).toNat) fun h38 =>
  some (0, h38)
set_option maxRecDepth 100000 in
theorem c9_copy (l : Launch) (G : Geo) (x0 : Nat) (x1 : Nat) (h : AH) (kx0 : ok h.1 x0 9) (kx1 : ok h.1 x1 9) : Con l G m9_copy rvV 3 [vA G x0, vA G x1] h (f9_copy x0 x1 h) := by
  have hd : 3 ≤ 3 := Nat.le_refl _
  refine con_V rfl (by decide) rfl rfl (Nat.le_of_ble_eq_true rfl) (L := [some (vA G x0), some (vA G x1)]) ?_
  unfold f9_copy
  refine den_aload_n (pc := 0) d9_copy_0 rfl rfl ?_
  refine den_aload_n (pc := 1) d9_copy_1 rfl rfl ?_
  refine den_getI (pc := 2) fa_9_31 kx1 d9_copy_2 ?_
  refine den_putI (pc := 5) fp_9_31 kx0 d9_copy_5 ?_
  refine den_ltH (fun h1 m2 => ?_)
  have q3 := ok.mono kx0 m2
  have q4 := ok.mono kx1 m2
  refine den_aload_n (pc := 8) d9_copy_8 rfl rfl ?_
  refine den_aload_n (pc := 9) d9_copy_9 rfl rfl ?_
  refine den_getI (pc := 10) fa_9_34 q4 d9_copy_10 ?_
  refine den_putI (pc := 13) fp_9_34 q3 d9_copy_13 ?_
  refine den_ltH (fun h5 m6 => ?_)
  have q7 := ok.mono q3 m6
  have q8 := ok.mono q4 m6
  refine den_aload_n (pc := 16) d9_copy_16 rfl rfl ?_
  refine den_aload_n (pc := 17) d9_copy_17 rfl rfl ?_
  refine den_getI (pc := 18) fa_9_37 q8 d9_copy_18 ?_
  refine den_putI (pc := 21) fp_9_37 q7 d9_copy_21 ?_
  refine den_ltH (fun h9 m10 => ?_)
  have q11 := ok.mono q7 m10
  have q12 := ok.mono q8 m10
  refine den_aload_n (pc := 24) d9_copy_24 rfl rfl ?_
  refine den_aload_n (pc := 25) d9_copy_25 rfl rfl ?_
  refine den_getI (pc := 26) fa_9_9 q12 d9_copy_26 ?_
  refine den_putI (pc := 29) fp_9_9 q11 d9_copy_29 ?_
  refine den_ltH (fun h13 m14 => ?_)
  have q15 := ok.mono q11 m14
  have q16 := ok.mono q12 m14
  refine den_aload_n (pc := 32) d9_copy_32 rfl rfl ?_
  refine den_getR (pc := 33) (b := x1 + 1) fa_9_15 q16 rfl d9_copy_33 ?_
  refine den_iconst (pc := 36) d9_copy_36 ?_
  refine den_aload_n (pc := 37) d9_copy_37 rfl rfl ?_
  refine den_getR (pc := 38) (b := x0 + 1) fa_9_15 q15 rfl d9_copy_38 ?_
  refine den_iconst (pc := 41) d9_copy_41 ?_
  refine den_bipush (pc := 42) d9_copy_42 (by decide) ?_
  refine den_asrt (fun a17 => ?_)
  refine den_copyI (pc := 44) fc_9_46 (vil_s1 q16) (vil_l1 q16) (vil_s1 q15) (vil_l1 q15) rfl rfl (Nat.le_trans (by decide) hd) a17 (Nat.le_of_ble_eq_true rfl) d9_copy_44 ?_
  refine den_ltH (fun h18 m19 => ?_)
  have q20 := ok.mono q15 m19
  have q21 := ok.mono q16 m19
  refine den_aload_n (pc := 47) d9_copy_47 rfl rfl ?_
  refine den_getR (pc := 48) (b := x1 + 2) fa_9_19 q21 rfl d9_copy_48 ?_
  refine den_iconst (pc := 51) d9_copy_51 ?_
  refine den_aload_n (pc := 52) d9_copy_52 rfl rfl ?_
  refine den_getR (pc := 53) (b := x0 + 2) fa_9_19 q20 rfl d9_copy_53 ?_
  refine den_iconst (pc := 56) d9_copy_56 ?_
  refine den_bipush (pc := 57) d9_copy_57 (by decide) ?_
  refine den_asrt (fun a22 => ?_)
  refine den_copyI (pc := 59) fc_9_46 (vil_s2 q21) (vil_l2 q21) (vil_s2 q20) (vil_l2 q20) rfl rfl (Nat.le_trans (by decide) hd) a22 (Nat.le_of_ble_eq_true rfl) d9_copy_59 ?_
  refine den_ltH (fun h23 m24 => ?_)
  have q25 := ok.mono q20 m24
  have q26 := ok.mono q21 m24
  refine den_aload_n (pc := 62) d9_copy_62 rfl rfl ?_
  refine den_getR (pc := 63) (b := x1 + 3) fa_9_22 q26 rfl d9_copy_63 ?_
  refine den_iconst (pc := 66) d9_copy_66 ?_
  refine den_aload_n (pc := 67) d9_copy_67 rfl rfl ?_
  refine den_getR (pc := 68) (b := x0 + 3) fa_9_22 q25 rfl d9_copy_68 ?_
  refine den_iconst (pc := 71) d9_copy_71 ?_
  refine den_iconst (pc := 72) d9_copy_72 ?_
  refine den_asrt (fun a27 => ?_)
  refine den_copyI (pc := 73) fc_9_46 (vil_s3 q26) (vil_l3 q26) (vil_s3 q25) (vil_l3 q25) rfl rfl (Nat.le_trans (by decide) hd) a27 (Nat.le_of_ble_eq_true rfl) d9_copy_73 ?_
  refine den_ltH (fun h28 m29 => ?_)
  have q30 := ok.mono q25 m29
  have q31 := ok.mono q26 m29
  refine den_aload_n (pc := 76) d9_copy_76 rfl rfl ?_
  refine den_getR (pc := 77) (b := x1 + 4) fa_9_25 q31 rfl d9_copy_77 ?_
  refine den_iconst (pc := 80) d9_copy_80 ?_
  refine den_aload_n (pc := 81) d9_copy_81 rfl rfl ?_
  refine den_getR (pc := 82) (b := x0 + 4) fa_9_25 q30 rfl d9_copy_82 ?_
  refine den_iconst (pc := 85) d9_copy_85 ?_
  refine den_iconst (pc := 86) d9_copy_86 ?_
  refine den_asrt (fun a32 => ?_)
  refine den_copyI (pc := 87) fc_9_46 (vil_s4 q31) (vil_l4 q31) (vil_s4 q30) (vil_l4 q30) rfl rfl (Nat.le_trans (by decide) hd) a32 (Nat.le_of_ble_eq_true rfl) d9_copy_87 ?_
  refine den_ltH (fun h33 m34 => ?_)
  have q35 := ok.mono q30 m34
  have q36 := ok.mono q31 m34
  refine den_aload_n (pc := 90) d9_copy_90 rfl rfl ?_
  refine den_getR (pc := 91) (b := x1 + 5) fa_9_28 q36 rfl d9_copy_91 ?_
  refine den_iconst (pc := 94) d9_copy_94 ?_
  refine den_aload_n (pc := 95) d9_copy_95 rfl rfl ?_
  refine den_getR (pc := 96) (b := x0 + 5) fa_9_28 q35 rfl d9_copy_96 ?_
  refine den_iconst (pc := 99) d9_copy_99 ?_
  refine den_bipush (pc := 100) d9_copy_100 (by decide) ?_
  refine den_asrt (fun a37 => ?_)
  refine den_copyI (pc := 102) fc_9_46 (vil_s5 q36) (vil_l5 q36) (vil_s5 q35) (vil_l5 q35) rfl rfl (Nat.le_trans (by decide) hd) a37 (Nat.le_of_ble_eq_true rfl) d9_copy_102 ?_
  refine den_ltH (fun h38 m39 => ?_)
  have q40 := ok.mono q35 m39
  have q41 := ok.mono q36 m39
  exact den_vret (pc := 105) rfl d9_copy_105
