/-! 9_hottestBetween 1_gatherKeenest 1_marryKeenest 12_fill 1_marry 1_mostFrom 1_mostInAll 1_withAll 1_aheadOf 1_ranked 1_acrossCamps 1_bestCamp -/
theorem d9_hottestBetween_0 : decode m9_hottestBetween.2.1 0 = .ok (.iconst (-1), 1) := by decide +kernel
theorem d9_hottestBetween_1 : decode m9_hottestBetween.2.1 1 = .ok (.istore_n 3, 1) := by decide +kernel
theorem d9_hottestBetween_2 : decode m9_hottestBetween.2.1 2 = .ok (.iconst 0, 1) := by decide +kernel
theorem d9_hottestBetween_3 : decode m9_hottestBetween.2.1 3 = .ok (.istore 4, 2) := by decide +kernel
theorem d9_hottestBetween_5 : decode m9_hottestBetween.2.1 5 = .ok (.iconst 0, 1) := by decide +kernel
theorem d9_hottestBetween_6 : decode m9_hottestBetween.2.1 6 = .ok (.istore 5, 2) := by decide +kernel
theorem d9_hottestBetween_8 : decode m9_hottestBetween.2.1 8 = .ok (.iload 5, 2) := by decide +kernel
theorem d9_hottestBetween_10 : decode m9_hottestBetween.2.1 10 = .ok (.aload_n 0, 1) := by decide +kernel
theorem d9_hottestBetween_11 : decode m9_hottestBetween.2.1 11 = .ok (.getfield 34, 3) := by decide +kernel
theorem d9_hottestBetween_14 : decode m9_hottestBetween.2.1 14 = .ok (.if_icmp .ge 33, 3) := by decide +kernel
theorem d9_hottestBetween_17 : decode m9_hottestBetween.2.1 17 = .ok (.aload_n 0, 1) := by decide +kernel
theorem d9_hottestBetween_18 : decode m9_hottestBetween.2.1 18 = .ok (.iload_n 1, 1) := by decide +kernel
theorem d9_hottestBetween_19 : decode m9_hottestBetween.2.1 19 = .ok (.iload_n 2, 1) := by decide +kernel
theorem d9_hottestBetween_20 : decode m9_hottestBetween.2.1 20 = .ok (.iload 5, 2) := by decide +kernel
theorem d9_hottestBetween_22 : decode m9_hottestBetween.2.1 22 = .ok (.invokevirtual 91, 3) := by decide +kernel
theorem d9_hottestBetween_25 : decode m9_hottestBetween.2.1 25 = .ok (.istore 6, 2) := by decide +kernel
theorem d9_hottestBetween_27 : decode m9_hottestBetween.2.1 27 = .ok (.iload 6, 2) := by decide +kernel
theorem d9_hottestBetween_29 : decode m9_hottestBetween.2.1 29 = .ok (.iload 4, 2) := by decide +kernel
theorem d9_hottestBetween_31 : decode m9_hottestBetween.2.1 31 = .ok (.if_icmp .le 10, 3) := by decide +kernel
theorem d9_hottestBetween_34 : decode m9_hottestBetween.2.1 34 = .ok (.iload 5, 2) := by decide +kernel
theorem d9_hottestBetween_36 : decode m9_hottestBetween.2.1 36 = .ok (.istore_n 3, 1) := by decide +kernel
theorem d9_hottestBetween_37 : decode m9_hottestBetween.2.1 37 = .ok (.iload 6, 2) := by decide +kernel
theorem d9_hottestBetween_39 : decode m9_hottestBetween.2.1 39 = .ok (.istore 4, 2) := by decide +kernel
theorem d9_hottestBetween_41 : decode m9_hottestBetween.2.1 41 = .ok (.iinc 5 1, 3) := by decide +kernel
theorem d9_hottestBetween_44 : decode m9_hottestBetween.2.1 44 = .ok (.goto (-36), 3) := by decide +kernel
theorem d9_hottestBetween_47 : decode m9_hottestBetween.2.1 47 = .ok (.iload_n 3, 1) := by decide +kernel
theorem d9_hottestBetween_48 : decode m9_hottestBetween.2.1 48 = .ok (.ireturn, 1) := by decide +kernel
def b9_hottestBetween_41 (rec8 : Int × Int × Int × AH → Option (Int × AH)) (x0 : Nat) (x1 : Int) (x2 : Int) (x3 : Int) (x4 : Int) (x5 : Int) (h : AH) : Option (Int × AH) :=
  rec8 (x3, x4, (x5 + 1), h)
set_option maxRecDepth 100000 in
theorem t9_hottestBetween_41 (l : Launch) (G : Geo) (d : Nat) (hd : 5 ≤ d) (x0 : Nat) (x1 : Int) (x2 : Int) (x3 : Int) (x4 : Int) (x5 : Int) (rec8 : Int × Int × Int × AH → Option (Int × AH)) (H8 : ∀ (x3 : Int) (x4 : Int) (x5 : Int) (h : AH), ok h.1 x0 9 → Den l G m9_hottestBetween rvI d 8 [some (vA G x0), some (vI x1), some (vI x2), some (vI x3), some (vI x4), some (vI x5), none] [] h (rec8 (x3, x4, x5, h))) (h : AH) (kx0 : ok h.1 x0 9) : Den l G m9_hottestBetween rvI d 41 [some (vA G x0), some (vI x1), some (vI x2), some (vI x3), some (vI x4), some (vI x5), none] [] h (b9_hottestBetween_41 rec8 x0 x1 x2 x3 x4 x5 h) := by
  unfold b9_hottestBetween_41
  refine den_iinc (pc := 41) (L2 := [some (vA G x0), some (vI x1), some (vI x2), some (vI x3), some (vI x4), some (vI (x5 + 1)), none]) d9_hottestBetween_41 (by decide) rfl rfl ?_
  refine den_goto (pc := 44) (tgt := 8) d9_hottestBetween_44 (by decide) ?_
  exact H8 x3 x4 (x5 + 1) h kx0
def b9_hottestBetween_8 (rec8 : Int × Int × Int × AH → Option (Int × AH)) (x0 : Nat) (x1 : Int) (x2 : Int) (x3 : Int) (x4 : Int) (x5 : Int) (h : AH) : Option (Int × AH) :=
  if w32 (h.2 x0 1) ≤ w32 x5 then
    some (x3, h)
  else
    bnd (f9_burning x0 x1 x2 x5 h) fun r1 h2 =>
    if w32 r1 ≤ w32 x4 then
      b9_hottestBetween_41 rec8 x0 x1 x2 x3 x4 x5 h2
    else
      b9_hottestBetween_41 rec8 x0 x1 x2 x5 r1 x5 h2
set_option maxRecDepth 100000 in
theorem t9_hottestBetween_8 (l : Launch) (G : Geo) (d : Nat) (hd : 5 ≤ d) (x0 : Nat) (x1 : Int) (x2 : Int) (x3 : Int) (x4 : Int) (x5 : Int) (rec8 : Int × Int × Int × AH → Option (Int × AH)) (H8 : ∀ (x3 : Int) (x4 : Int) (x5 : Int) (h : AH), ok h.1 x0 9 → Den l G m9_hottestBetween rvI d 8 [some (vA G x0), some (vI x1), some (vI x2), some (vI x3), some (vI x4), some (vI x5), none] [] h (rec8 (x3, x4, x5, h))) (h : AH) (kx0 : ok h.1 x0 9) : Den l G m9_hottestBetween rvI d 8 [some (vA G x0), some (vI x1), some (vI x2), some (vI x3), some (vI x4), some (vI x5), none] [] h (b9_hottestBetween_8 rec8 x0 x1 x2 x3 x4 x5 h) := by
  unfold b9_hottestBetween_8
  refine den_iload (pc := 8) d9_hottestBetween_8 rfl ?_
  refine den_aload_n (pc := 10) d9_hottestBetween_10 rfl rfl ?_
  refine den_getI (pc := 11) fa_9_34 kx0 d9_hottestBetween_11 ?_
  refine den_icmp_ge (pc := 14) (tgt := 47) d9_hottestBetween_14 (by decide) rfl rfl (fun _ => ?_) (fun _ => ?_)
  · refine den_iload_n (pc := 47) d9_hottestBetween_47 rfl rfl ?_
    exact den_iret (pc := 48) rfl d9_hottestBetween_48
  · refine den_aload_n (pc := 17) d9_hottestBetween_17 rfl rfl ?_
    refine den_iload_n (pc := 18) d9_hottestBetween_18 rfl rfl ?_
    refine den_iload_n (pc := 19) d9_hottestBetween_19 rfl rfl ?_
    refine den_iload (pc := 20) d9_hottestBetween_20 rfl ?_
    refine den_callVI (pc := 22) (As := [vI x1, vI x2, vI x5]) fv_9_91 rfl rfl kx0 (Nat.le_of_ble_eq_true rfl) (Nat.le_trans (by decide) hd) d9_hottestBetween_22 (c9_burning l G x0 x1 x2 x5 h kx0) (fun r1 h2 m3 o4 => ?_)
    have q5 := ok.mono kx0 m3
    refine den_istore (pc := 25) (L2 := [some (vA G x0), some (vI x1), some (vI x2), some (vI x3), some (vI x4), some (vI x5), some (vI r1)]) d9_hottestBetween_25 (by decide) rfl ?_
    refine den_iload (pc := 27) d9_hottestBetween_27 rfl ?_
    refine den_iload (pc := 29) d9_hottestBetween_29 rfl ?_
    refine den_icmp_le (pc := 31) (tgt := 41) d9_hottestBetween_31 (by decide) rfl rfl (fun _ => ?_) (fun _ => ?_)
    · refine den_wk [true, true, true, true, true, true, false] rfl ?_
      exact t9_hottestBetween_41 l G _ hd x0 x1 x2 x3 x4 x5 rec8 H8 h2 q5
    · refine den_iload (pc := 34) d9_hottestBetween_34 rfl ?_
      refine den_istore_n (pc := 36) (L2 := [some (vA G x0), some (vI x1), some (vI x2), some (vI x5), some (vI x4), some (vI x5), some (vI r1)]) d9_hottestBetween_36 rfl (by decide) rfl ?_
      refine den_iload (pc := 37) d9_hottestBetween_37 rfl ?_
      refine den_istore (pc := 39) (L2 := [some (vA G x0), some (vI x1), some (vI x2), some (vI x5), some (vI r1), some (vI x5), some (vI r1)]) d9_hottestBetween_39 (by decide) rfl ?_
      refine den_wk [true, true, true, true, true, true, false] rfl ?_
      exact t9_hottestBetween_41 l G _ hd x0 x1 x2 x5 r1 x5 rec8 H8 h2 q5
def l9_hottestBetween_8 (x0 : Nat) (x1 : Int) (x2 : Int) (x3 : Int) (x4 : Int) (x5 : Int) (h : AH) : Option (Int × AH) := fx (fun rec z => b9_hottestBetween_8 rec x0 x1 x2 z.1 z.2.1 z.2.2.1 z.2.2.2) FU (x3, x4, x5, h)
set_option maxRecDepth 100000 in
theorem tl9_hottestBetween_8 (l : Launch) (G : Geo) (d : Nat) (hd : 5 ≤ d) (x0 : Nat) (x1 : Int) (x2 : Int) : ∀ (n : Nat) (z : Int × Int × Int × AH), ok z.2.2.2.1 x0 9 → Den l G m9_hottestBetween rvI d 8 [some (vA G x0), some (vI x1), some (vI x2), some (vI z.1), some (vI z.2.1), some (vI z.2.2.1), none] [] z.2.2.2 (fx (fun rec z => b9_hottestBetween_8 rec x0 x1 x2 z.1 z.2.1 z.2.2.1 z.2.2.2) n z) :=
  den_fx (F := fun rec z => b9_hottestBetween_8 rec x0 x1 x2 z.1 z.2.1 z.2.2.1 z.2.2.2) (P := fun z => ok z.2.2.2.1 x0 9) (fL := fun z => [some (vA G x0), some (vI x1), some (vI x2), some (vI z.1), some (vI z.2.1), some (vI z.2.2.1), none]) (fs := fun z => []) (fh := fun z => z.2.2.2) (fun rec hrec z hz => t9_hottestBetween_8 l G d hd x0 x1 x2 z.1 z.2.1 z.2.2.1 rec (fun x3 x4 x5 h w0 => hrec (x3, x4, x5, h) w0) z.2.2.2 hz)
def f9_hottestBetween (x0 : Nat) (x1 : Int) (x2 : Int) (h : AH) : Option (Int × AH) :=
  l9_hottestBetween_8 x0 x1 x2 (-1) 0 0 h
set_option maxRecDepth 100000 in
theorem c9_hottestBetween (l : Launch) (G : Geo) (x0 : Nat) (x1 : Int) (x2 : Int) (h : AH) (kx0 : ok h.1 x0 9) : Con l G m9_hottestBetween rvI 5 [vA G x0, vI x1, vI x2] h (f9_hottestBetween x0 x1 x2 h) := by
  have hd : 5 ≤ 5 := Nat.le_refl _
  refine con_I rfl (by decide) rfl rfl (Nat.le_of_ble_eq_true rfl) (L := [some (vA G x0), some (vI x1), some (vI x2), none, none, none, none]) ?_
  unfold f9_hottestBetween
  refine den_iconst (pc := 0) d9_hottestBetween_0 ?_
  refine den_istore_n (pc := 1) (L2 := [some (vA G x0), some (vI x1), some (vI x2), some (vI (-1)), none, none, none]) d9_hottestBetween_1 rfl (by decide) rfl ?_
  refine den_iconst (pc := 2) d9_hottestBetween_2 ?_
  refine den_istore (pc := 3) (L2 := [some (vA G x0), some (vI x1), some (vI x2), some (vI (-1)), some (vI 0), none, none]) d9_hottestBetween_3 (by decide) rfl ?_
  refine den_iconst (pc := 5) d9_hottestBetween_5 ?_
  refine den_istore (pc := 6) (L2 := [some (vA G x0), some (vI x1), some (vI x2), some (vI (-1)), some (vI 0), some (vI 0), none]) d9_hottestBetween_6 (by decide) rfl ?_
  exact tl9_hottestBetween_8 l G _ hd x0 x1 x2 FU ((-1), 0, 0, h) kx0
theorem d1_gatherKeenest_0 : decode m1_gatherKeenest.2.1 0 = .ok (.aload_n 0, 1) := by decide +kernel
theorem d1_gatherKeenest_1 : decode m1_gatherKeenest.2.1 1 = .ok (.aload_n 1, 1) := by decide +kernel
theorem d1_gatherKeenest_2 : decode m1_gatherKeenest.2.1 2 = .ok (.getfield 18, 3) := by decide +kernel
theorem d1_gatherKeenest_5 : decode m1_gatherKeenest.2.1 5 = .ok (.putfield 24, 3) := by decide +kernel
theorem d1_gatherKeenest_8 : decode m1_gatherKeenest.2.1 8 = .ok (.iconst 0, 1) := by decide +kernel
theorem d1_gatherKeenest_9 : decode m1_gatherKeenest.2.1 9 = .ok (.istore_n 2, 1) := by decide +kernel
theorem d1_gatherKeenest_10 : decode m1_gatherKeenest.2.1 10 = .ok (.iload_n 2, 1) := by decide +kernel
theorem d1_gatherKeenest_11 : decode m1_gatherKeenest.2.1 11 = .ok (.aload_n 0, 1) := by decide +kernel
theorem d1_gatherKeenest_12 : decode m1_gatherKeenest.2.1 12 = .ok (.getfield 24, 3) := by decide +kernel
theorem d1_gatherKeenest_15 : decode m1_gatherKeenest.2.1 15 = .ok (.if_icmp .ge 45, 3) := by decide +kernel
theorem d1_gatherKeenest_18 : decode m1_gatherKeenest.2.1 18 = .ok (.iload_n 2, 1) := by decide +kernel
theorem d1_gatherKeenest_19 : decode m1_gatherKeenest.2.1 19 = .ok (.iconst 1, 1) := by decide +kernel
theorem d1_gatherKeenest_20 : decode m1_gatherKeenest.2.1 20 = .ok (.iadd, 1) := by decide +kernel
theorem d1_gatherKeenest_21 : decode m1_gatherKeenest.2.1 21 = .ok (.istore_n 3, 1) := by decide +kernel
theorem d1_gatherKeenest_22 : decode m1_gatherKeenest.2.1 22 = .ok (.iload_n 3, 1) := by decide +kernel
theorem d1_gatherKeenest_23 : decode m1_gatherKeenest.2.1 23 = .ok (.aload_n 0, 1) := by decide +kernel
theorem d1_gatherKeenest_24 : decode m1_gatherKeenest.2.1 24 = .ok (.getfield 24, 3) := by decide +kernel
theorem d1_gatherKeenest_27 : decode m1_gatherKeenest.2.1 27 = .ok (.if_icmp .ge 27, 3) := by decide +kernel
theorem d1_gatherKeenest_30 : decode m1_gatherKeenest.2.1 30 = .ok (.aload_n 0, 1) := by decide +kernel
theorem d1_gatherKeenest_31 : decode m1_gatherKeenest.2.1 31 = .ok (.iload_n 2, 1) := by decide +kernel
theorem d1_gatherKeenest_32 : decode m1_gatherKeenest.2.1 32 = .ok (.iload_n 3, 1) := by decide +kernel
theorem d1_gatherKeenest_33 : decode m1_gatherKeenest.2.1 33 = .ok (.aload_n 1, 1) := by decide +kernel
theorem d1_gatherKeenest_34 : decode m1_gatherKeenest.2.1 34 = .ok (.iload_n 2, 1) := by decide +kernel
theorem d1_gatherKeenest_35 : decode m1_gatherKeenest.2.1 35 = .ok (.iload_n 3, 1) := by decide +kernel
theorem d1_gatherKeenest_36 : decode m1_gatherKeenest.2.1 36 = .ok (.aload_n 1, 1) := by decide +kernel
theorem d1_gatherKeenest_37 : decode m1_gatherKeenest.2.1 37 = .ok (.iload_n 2, 1) := by decide +kernel
theorem d1_gatherKeenest_38 : decode m1_gatherKeenest.2.1 38 = .ok (.iload_n 3, 1) := by decide +kernel
theorem d1_gatherKeenest_39 : decode m1_gatherKeenest.2.1 39 = .ok (.invokevirtual 33, 3) := by decide +kernel
theorem d1_gatherKeenest_42 : decode m1_gatherKeenest.2.1 42 = .ok (.invokevirtual 36, 3) := by decide +kernel
theorem d1_gatherKeenest_45 : decode m1_gatherKeenest.2.1 45 = .ok (.invokevirtual 29, 3) := by decide +kernel
theorem d1_gatherKeenest_48 : decode m1_gatherKeenest.2.1 48 = .ok (.iinc 3 1, 3) := by decide +kernel
theorem d1_gatherKeenest_51 : decode m1_gatherKeenest.2.1 51 = .ok (.goto (-29), 3) := by decide +kernel
theorem d1_gatherKeenest_54 : decode m1_gatherKeenest.2.1 54 = .ok (.iinc 2 1, 3) := by decide +kernel
theorem d1_gatherKeenest_57 : decode m1_gatherKeenest.2.1 57 = .ok (.goto (-47), 3) := by decide +kernel
theorem d1_gatherKeenest_60 : decode m1_gatherKeenest.2.1 60 = .ok (.return_, 1) := by decide +kernel
def b1_gatherKeenest_22 (rec22 : Int × AH → Option (Int × AH)) (rec10 : Int × AH → Option (Int × AH)) (x1 : Nat) (x2 : Int) (x3 : Int) (h : AH) : Option (Int × AH) :=
  if w32 (h.2 50 2) ≤ w32 x3 then
    rec10 ((x2 + 1), h)
  else
    bnd (f9_hottestBetween x1 x2 x3 h) fun r1 h2 =>
    bnd (f9_burning x1 x2 x3 r1 h2) fun r6 h7 =>
    bnd (f1_setBetween x2 x3 r6 h7) fun r11 h12 =>
    rec22 ((x3 + 1), h12)
set_option maxRecDepth 100000 in
theorem t1_gatherKeenest_22 (l : Launch) (G : Geo) (d : Nat) (hd : 6 ≤ d) (x1 : Nat) (x2 : Int) (x3 : Int) (rec22 : Int × AH → Option (Int × AH)) (H22 : ∀ (x3 : Int) (h : AH), ok h.1 x1 9 → Den l G m1_gatherKeenest rvV d 22 [some (vA G 50), some (vA G x1), some (vI x2), some (vI x3)] [] h (rec22 (x3, h))) (rec10 : Int × AH → Option (Int × AH)) (H10 : ∀ (x2 : Int) (h : AH), ok h.1 x1 9 → Den l G m1_gatherKeenest rvV d 10 [some (vA G 50), some (vA G x1), some (vI x2), none] [] h (rec10 (x2, h))) (h : AH) (kx1 : ok h.1 x1 9) : Den l G m1_gatherKeenest rvV d 22 [some (vA G 50), some (vA G x1), some (vI x2), some (vI x3)] [] h (b1_gatherKeenest_22 rec22 rec10 x1 x2 x3 h) := by
  unfold b1_gatherKeenest_22
  refine den_iload_n (pc := 22) d1_gatherKeenest_22 rfl rfl ?_
  refine den_aload_n (pc := 23) d1_gatherKeenest_23 rfl rfl ?_
  refine den_getI (pc := 24) fa_1_24 (ok_50 _) d1_gatherKeenest_24 ?_
  refine den_icmp_ge (pc := 27) (tgt := 54) d1_gatherKeenest_27 (by decide) rfl rfl (fun _ => ?_) (fun _ => ?_)
  · refine den_iinc (pc := 54) (L2 := [some (vA G 50), some (vA G x1), some (vI (x2 + 1)), some (vI x3)]) d1_gatherKeenest_54 (by decide) rfl rfl ?_
    refine den_goto (pc := 57) (tgt := 10) d1_gatherKeenest_57 (by decide) ?_
    refine den_wk [true, true, true, false] rfl ?_
    exact H10 (x2 + 1) h kx1
  · refine den_aload_n (pc := 30) d1_gatherKeenest_30 rfl rfl ?_
    refine den_iload_n (pc := 31) d1_gatherKeenest_31 rfl rfl ?_
    refine den_iload_n (pc := 32) d1_gatherKeenest_32 rfl rfl ?_
    refine den_aload_n (pc := 33) d1_gatherKeenest_33 rfl rfl ?_
    refine den_iload_n (pc := 34) d1_gatherKeenest_34 rfl rfl ?_
    refine den_iload_n (pc := 35) d1_gatherKeenest_35 rfl rfl ?_
    refine den_aload_n (pc := 36) d1_gatherKeenest_36 rfl rfl ?_
    refine den_iload_n (pc := 37) d1_gatherKeenest_37 rfl rfl ?_
    refine den_iload_n (pc := 38) d1_gatherKeenest_38 rfl rfl ?_
    refine den_callVI (pc := 39) (As := [vI x2, vI x3]) fv_1_33 rfl rfl kx1 (Nat.le_of_ble_eq_true rfl) (Nat.le_trans (by decide) hd) d1_gatherKeenest_39 (c9_hottestBetween l G x1 x2 x3 h kx1) (fun r1 h2 m3 o4 => ?_)
    have q5 := ok.mono kx1 m3
    refine den_callVI (pc := 42) (As := [vI x2, vI x3, vI r1]) fv_1_36 rfl rfl q5 (Nat.le_of_ble_eq_true rfl) (Nat.le_trans (by decide) hd) d1_gatherKeenest_42 (c9_burning l G x1 x2 x3 r1 h2 q5) (fun r6 h7 m8 o9 => ?_)
    have q10 := ok.mono q5 m8
    refine den_callVV (pc := 45) (As := [vI x2, vI x3, vI r6]) fv_1_29 rfl rfl (ok_50 _) (Nat.le_of_ble_eq_true rfl) (Nat.le_trans (by decide) hd) d1_gatherKeenest_45 (c1_setBetween l G x2 x3 r6 h7) (fun r11 h12 m13 o14 => ?_)
    have q15 := ok.mono q10 m13
    refine den_iinc (pc := 48) (L2 := [some (vA G 50), some (vA G x1), some (vI x2), some (vI (x3 + 1))]) d1_gatherKeenest_48 (by decide) rfl rfl ?_
    refine den_goto (pc := 51) (tgt := 22) d1_gatherKeenest_51 (by decide) ?_
    exact H22 (x3 + 1) h12 q15
def l1_gatherKeenest_22 (rec10 : Int × AH → Option (Int × AH)) (x1 : Nat) (x2 : Int) (x3 : Int) (h : AH) : Option (Int × AH) := fx (fun rec z => b1_gatherKeenest_22 rec rec10 x1 x2 z.1 z.2) FU (x3, h)
set_option maxRecDepth 100000 in
theorem tl1_gatherKeenest_22 (l : Launch) (G : Geo) (d : Nat) (hd : 6 ≤ d) (x1 : Nat) (x2 : Int) (rec10 : Int × AH → Option (Int × AH)) (H10 : ∀ (x2 : Int) (h : AH), ok h.1 x1 9 → Den l G m1_gatherKeenest rvV d 10 [some (vA G 50), some (vA G x1), some (vI x2), none] [] h (rec10 (x2, h))) : ∀ (n : Nat) (z : Int × AH), ok z.2.1 x1 9 → Den l G m1_gatherKeenest rvV d 22 [some (vA G 50), some (vA G x1), some (vI x2), some (vI z.1)] [] z.2 (fx (fun rec z => b1_gatherKeenest_22 rec rec10 x1 x2 z.1 z.2) n z) :=
  den_fx (F := fun rec z => b1_gatherKeenest_22 rec rec10 x1 x2 z.1 z.2) (P := fun z => ok z.2.1 x1 9) (fL := fun z => [some (vA G 50), some (vA G x1), some (vI x2), some (vI z.1)]) (fs := fun z => []) (fh := fun z => z.2) (fun rec hrec z hz => t1_gatherKeenest_22 l G d hd x1 x2 z.1 rec (fun x3 h w0 => hrec (x3, h) w0) rec10 H10 z.2 hz)
def b1_gatherKeenest_10 (rec10 : Int × AH → Option (Int × AH)) (x1 : Nat) (x2 : Int) (h : AH) : Option (Int × AH) :=
  if w32 (h.2 50 2) ≤ w32 x2 then
    some (0, h)
  else
    lt (x2 + 1) fun u16 =>
    l1_gatherKeenest_22 rec10 x1 x2 u16 h
set_option maxRecDepth 100000 in
theorem t1_gatherKeenest_10 (l : Launch) (G : Geo) (d : Nat) (hd : 6 ≤ d) (x1 : Nat) (x2 : Int) (rec10 : Int × AH → Option (Int × AH)) (H10 : ∀ (x2 : Int) (h : AH), ok h.1 x1 9 → Den l G m1_gatherKeenest rvV d 10 [some (vA G 50), some (vA G x1), some (vI x2), none] [] h (rec10 (x2, h))) (h : AH) (kx1 : ok h.1 x1 9) : Den l G m1_gatherKeenest rvV d 10 [some (vA G 50), some (vA G x1), some (vI x2), none] [] h (b1_gatherKeenest_10 rec10 x1 x2 h) := by
  unfold b1_gatherKeenest_10
  refine den_iload_n (pc := 10) d1_gatherKeenest_10 rfl rfl ?_
  refine den_aload_n (pc := 11) d1_gatherKeenest_11 rfl rfl ?_
  refine den_getI (pc := 12) fa_1_24 (ok_50 _) d1_gatherKeenest_12 ?_
  refine den_icmp_ge (pc := 15) (tgt := 60) d1_gatherKeenest_15 (by decide) rfl rfl (fun _ => ?_) (fun _ => ?_)
  · exact den_vret (pc := 60) rfl d1_gatherKeenest_60
  · refine den_iload_n (pc := 18) d1_gatherKeenest_18 rfl rfl ?_
    refine den_iconst (pc := 19) d1_gatherKeenest_19 ?_
    refine den_iadd (pc := 20) d1_gatherKeenest_20 ?_
    refine den_istore_nL (pc := 21) (L2 := fun y => [some (vA G 50), some (vA G x1), some (vI x2), some (vI y)]) d1_gatherKeenest_21 rfl (by decide) (fun _ => rfl) (fun u16 => ?_)
    exact tl1_gatherKeenest_22 l G _ hd x1 x2 rec10 H10 FU (u16, h) kx1
def l1_gatherKeenest_10 (x1 : Nat) (x2 : Int) (h : AH) : Option (Int × AH) := fx (fun rec z => b1_gatherKeenest_10 rec x1 z.1 z.2) FU (x2, h)
set_option maxRecDepth 100000 in
theorem tl1_gatherKeenest_10 (l : Launch) (G : Geo) (d : Nat) (hd : 6 ≤ d) (x1 : Nat) : ∀ (n : Nat) (z : Int × AH), ok z.2.1 x1 9 → Den l G m1_gatherKeenest rvV d 10 [some (vA G 50), some (vA G x1), some (vI z.1), none] [] z.2 (fx (fun rec z => b1_gatherKeenest_10 rec x1 z.1 z.2) n z) :=
  den_fx (F := fun rec z => b1_gatherKeenest_10 rec x1 z.1 z.2) (P := fun z => ok z.2.1 x1 9) (fL := fun z => [some (vA G 50), some (vA G x1), some (vI z.1), none]) (fs := fun z => []) (fh := fun z => z.2) (fun rec hrec z hz => t1_gatherKeenest_10 l G d hd x1 z.1 rec (fun x2 h w0 => hrec (x2, h) w0) z.2 hz)
def f1_gatherKeenest (x1 : Nat) (h : AH) : Option (Int × AH) :=
  lt (wr h 50 2 (h.2 x1 0)) fun h17 =>
  l1_gatherKeenest_10 x1 0 h17
set_option maxRecDepth 100000 in
theorem c1_gatherKeenest (l : Launch) (G : Geo) (x1 : Nat) (h : AH) (kx1 : ok h.1 x1 9) : Con l G m1_gatherKeenest rvV 6 [vA G 50, vA G x1] h (f1_gatherKeenest x1 h) := by
  have hd : 6 ≤ 6 := Nat.le_refl _
  refine con_V rfl (by decide) rfl rfl (Nat.le_of_ble_eq_true rfl) (L := [some (vA G 50), some (vA G x1), none, none]) ?_
  unfold f1_gatherKeenest
  refine den_aload_n (pc := 0) d1_gatherKeenest_0 rfl rfl ?_
  refine den_aload_n (pc := 1) d1_gatherKeenest_1 rfl rfl ?_
  refine den_getI (pc := 2) fa_1_18 kx1 d1_gatherKeenest_2 ?_
  refine den_putI (pc := 5) fp_1_24 (ok_50 _) d1_gatherKeenest_5 ?_
  refine den_ltH (fun h17 m18 => ?_)
  have q19 := ok.mono kx1 m18
  refine den_iconst (pc := 8) d1_gatherKeenest_8 ?_
  refine den_istore_n (pc := 9) (L2 := [some (vA G 50), some (vA G x1), some (vI 0), none]) d1_gatherKeenest_9 rfl (by decide) rfl ?_
  exact tl1_gatherKeenest_10 l G _ hd x1 FU (0, h17) q19
theorem d1_marryKeenest_0 : decode m1_marryKeenest.2.1 0 = .ok (.iconst (-1), 1) := by decide +kernel
theorem d1_marryKeenest_1 : decode m1_marryKeenest.2.1 1 = .ok (.istore_n 1, 1) := by decide +kernel
theorem d1_marryKeenest_2 : decode m1_marryKeenest.2.1 2 = .ok (.iconst (-1), 1) := by decide +kernel
theorem d1_marryKeenest_3 : decode m1_marryKeenest.2.1 3 = .ok (.istore_n 2, 1) := by decide +kernel
theorem d1_marryKeenest_4 : decode m1_marryKeenest.2.1 4 = .ok (.iconst 0, 1) := by decide +kernel
theorem d1_marryKeenest_5 : decode m1_marryKeenest.2.1 5 = .ok (.istore_n 3, 1) := by decide +kernel
theorem d1_marryKeenest_6 : decode m1_marryKeenest.2.1 6 = .ok (.iconst 0, 1) := by decide +kernel
theorem d1_marryKeenest_7 : decode m1_marryKeenest.2.1 7 = .ok (.istore 4, 2) := by decide +kernel
theorem d1_marryKeenest_9 : decode m1_marryKeenest.2.1 9 = .ok (.iload 4, 2) := by decide +kernel
theorem d1_marryKeenest_11 : decode m1_marryKeenest.2.1 11 = .ok (.aload_n 0, 1) := by decide +kernel
theorem d1_marryKeenest_12 : decode m1_marryKeenest.2.1 12 = .ok (.getfield 24, 3) := by decide +kernel
theorem d1_marryKeenest_15 : decode m1_marryKeenest.2.1 15 = .ok (.if_icmp .ge 82, 3) := by decide +kernel
theorem d1_marryKeenest_18 : decode m1_marryKeenest.2.1 18 = .ok (.iload 4, 2) := by decide +kernel
theorem d1_marryKeenest_20 : decode m1_marryKeenest.2.1 20 = .ok (.iconst 1, 1) := by decide +kernel
theorem d1_marryKeenest_21 : decode m1_marryKeenest.2.1 21 = .ok (.iadd, 1) := by decide +kernel
theorem d1_marryKeenest_22 : decode m1_marryKeenest.2.1 22 = .ok (.istore 5, 2) := by decide +kernel
theorem d1_marryKeenest_24 : decode m1_marryKeenest.2.1 24 = .ok (.iload 5, 2) := by decide +kernel
theorem d1_marryKeenest_26 : decode m1_marryKeenest.2.1 26 = .ok (.aload_n 0, 1) := by decide +kernel
theorem d1_marryKeenest_27 : decode m1_marryKeenest.2.1 27 = .ok (.getfield 24, 3) := by decide +kernel
theorem d1_marryKeenest_30 : decode m1_marryKeenest.2.1 30 = .ok (.if_icmp .ge 61, 3) := by decide +kernel
theorem d1_marryKeenest_33 : decode m1_marryKeenest.2.1 33 = .ok (.aload_n 0, 1) := by decide +kernel
theorem d1_marryKeenest_34 : decode m1_marryKeenest.2.1 34 = .ok (.getfield 15, 3) := by decide +kernel
theorem d1_marryKeenest_37 : decode m1_marryKeenest.2.1 37 = .ok (.iload 4, 2) := by decide +kernel
theorem d1_marryKeenest_39 : decode m1_marryKeenest.2.1 39 = .ok (.bipush 8, 2) := by decide +kernel
theorem d1_marryKeenest_41 : decode m1_marryKeenest.2.1 41 = .ok (.imul, 1) := by decide +kernel
theorem d1_marryKeenest_42 : decode m1_marryKeenest.2.1 42 = .ok (.iload 5, 2) := by decide +kernel
theorem d1_marryKeenest_44 : decode m1_marryKeenest.2.1 44 = .ok (.iadd, 1) := by decide +kernel
theorem d1_marryKeenest_45 : decode m1_marryKeenest.2.1 45 = .ok (.iaload, 1) := by decide +kernel
theorem d1_marryKeenest_46 : decode m1_marryKeenest.2.1 46 = .ok (.istore 6, 2) := by decide +kernel
theorem d1_marryKeenest_48 : decode m1_marryKeenest.2.1 48 = .ok (.aload_n 0, 1) := by decide +kernel
theorem d1_marryKeenest_49 : decode m1_marryKeenest.2.1 49 = .ok (.getfield 9, 3) := by decide +kernel
theorem d1_marryKeenest_52 : decode m1_marryKeenest.2.1 52 = .ok (.iload 4, 2) := by decide +kernel
theorem d1_marryKeenest_54 : decode m1_marryKeenest.2.1 54 = .ok (.iaload, 1) := by decide +kernel
theorem d1_marryKeenest_55 : decode m1_marryKeenest.2.1 55 = .ok (.iconst (-1), 1) := by decide +kernel
theorem d1_marryKeenest_56 : decode m1_marryKeenest.2.1 56 = .ok (.if_icmp .ne 29, 3) := by decide +kernel
theorem d1_marryKeenest_59 : decode m1_marryKeenest.2.1 59 = .ok (.aload_n 0, 1) := by decide +kernel
theorem d1_marryKeenest_60 : decode m1_marryKeenest.2.1 60 = .ok (.getfield 9, 3) := by decide +kernel
theorem d1_marryKeenest_63 : decode m1_marryKeenest.2.1 63 = .ok (.iload 5, 2) := by decide +kernel
theorem d1_marryKeenest_65 : decode m1_marryKeenest.2.1 65 = .ok (.iaload, 1) := by decide +kernel
theorem d1_marryKeenest_66 : decode m1_marryKeenest.2.1 66 = .ok (.iconst (-1), 1) := by decide +kernel
theorem d1_marryKeenest_67 : decode m1_marryKeenest.2.1 67 = .ok (.if_icmp .ne 18, 3) := by decide +kernel
theorem d1_marryKeenest_70 : decode m1_marryKeenest.2.1 70 = .ok (.iload 6, 2) := by decide +kernel
theorem d1_marryKeenest_72 : decode m1_marryKeenest.2.1 72 = .ok (.iload_n 3, 1) := by decide +kernel
theorem d1_marryKeenest_73 : decode m1_marryKeenest.2.1 73 = .ok (.if_icmp .le 12, 3) := by decide +kernel
theorem d1_marryKeenest_76 : decode m1_marryKeenest.2.1 76 = .ok (.iload 4, 2) := by decide +kernel
theorem d1_marryKeenest_78 : decode m1_marryKeenest.2.1 78 = .ok (.istore_n 1, 1) := by decide +kernel
theorem d1_marryKeenest_79 : decode m1_marryKeenest.2.1 79 = .ok (.iload 5, 2) := by decide +kernel
theorem d1_marryKeenest_81 : decode m1_marryKeenest.2.1 81 = .ok (.istore_n 2, 1) := by decide +kernel
theorem d1_marryKeenest_82 : decode m1_marryKeenest.2.1 82 = .ok (.iload 6, 2) := by decide +kernel
theorem d1_marryKeenest_84 : decode m1_marryKeenest.2.1 84 = .ok (.istore_n 3, 1) := by decide +kernel
theorem d1_marryKeenest_85 : decode m1_marryKeenest.2.1 85 = .ok (.iinc 5 1, 3) := by decide +kernel
theorem d1_marryKeenest_88 : decode m1_marryKeenest.2.1 88 = .ok (.goto (-64), 3) := by decide +kernel
theorem d1_marryKeenest_91 : decode m1_marryKeenest.2.1 91 = .ok (.iinc 4 1, 3) := by decide +kernel
theorem d1_marryKeenest_94 : decode m1_marryKeenest.2.1 94 = .ok (.goto (-85), 3) := by decide +kernel
theorem d1_marryKeenest_97 : decode m1_marryKeenest.2.1 97 = .ok (.iload_n 1, 1) := by decide +kernel
theorem d1_marryKeenest_98 : decode m1_marryKeenest.2.1 98 = .ok (.iconst (-1), 1) := by decide +kernel
theorem d1_marryKeenest_99 : decode m1_marryKeenest.2.1 99 = .ok (.if_icmp .eq 8, 3) := by decide +kernel
theorem d1_marryKeenest_102 : decode m1_marryKeenest.2.1 102 = .ok (.iload_n 2, 1) := by decide +kernel
theorem d1_marryKeenest_103 : decode m1_marryKeenest.2.1 103 = .ok (.iconst (-1), 1) := by decide +kernel
theorem d1_marryKeenest_104 : decode m1_marryKeenest.2.1 104 = .ok (.if_icmp .ne 5, 3) := by decide +kernel
theorem d1_marryKeenest_107 : decode m1_marryKeenest.2.1 107 = .ok (.iconst 0, 1) := by decide +kernel
theorem d1_marryKeenest_108 : decode m1_marryKeenest.2.1 108 = .ok (.ireturn, 1) := by decide +kernel
theorem d1_marryKeenest_109 : decode m1_marryKeenest.2.1 109 = .ok (.aload_n 0, 1) := by decide +kernel
theorem d1_marryKeenest_110 : decode m1_marryKeenest.2.1 110 = .ok (.getfield 9, 3) := by decide +kernel
theorem d1_marryKeenest_113 : decode m1_marryKeenest.2.1 113 = .ok (.iload_n 1, 1) := by decide +kernel
theorem d1_marryKeenest_114 : decode m1_marryKeenest.2.1 114 = .ok (.iload_n 2, 1) := by decide +kernel
theorem d1_marryKeenest_115 : decode m1_marryKeenest.2.1 115 = .ok (.iastore, 1) := by decide +kernel
theorem d1_marryKeenest_116 : decode m1_marryKeenest.2.1 116 = .ok (.aload_n 0, 1) := by decide +kernel
theorem d1_marryKeenest_117 : decode m1_marryKeenest.2.1 117 = .ok (.getfield 9, 3) := by decide +kernel
theorem d1_marryKeenest_120 : decode m1_marryKeenest.2.1 120 = .ok (.iload_n 2, 1) := by decide +kernel
theorem d1_marryKeenest_121 : decode m1_marryKeenest.2.1 121 = .ok (.iload_n 1, 1) := by decide +kernel
theorem d1_marryKeenest_122 : decode m1_marryKeenest.2.1 122 = .ok (.iastore, 1) := by decide +kernel
theorem d1_marryKeenest_123 : decode m1_marryKeenest.2.1 123 = .ok (.iconst 1, 1) := by decide +kernel
theorem d1_marryKeenest_124 : decode m1_marryKeenest.2.1 124 = .ok (.ireturn, 1) := by decide +kernel
def b1_marryKeenest_85 (rec9 : Int × Int × Int × Int × AH → Option (Int × AH)) (rec24 : Int × Int × Int × Int × AH → Option (Int × AH)) (x1 : Int) (x2 : Int) (x3 : Int) (x4 : Int) (x5 : Int) (h : AH) : Option (Int × AH) :=
  rec24 (x1, x2, x3, (x5 + 1), h)
set_option maxRecDepth 100000 in
theorem t1_marryKeenest_85 (l : Launch) (G : Geo) (d : Nat) (hd : 2 ≤ d) (x1 : Int) (x2 : Int) (x3 : Int) (x4 : Int) (x5 : Int) (rec9 : Int × Int × Int × Int × AH → Option (Int × AH)) (H9 : ∀ (x1 : Int) (x2 : Int) (x3 : Int) (x4 : Int) (h : AH), Den l G m1_marryKeenest rvI d 9 [some (vA G 50), some (vI x1), some (vI x2), some (vI x3), some (vI x4), none, none] [] h (rec9 (x1, x2, x3, x4, h))) (rec24 : Int × Int × Int × Int × AH → Option (Int × AH)) (H24 : ∀ (x1 : Int) (x2 : Int) (x3 : Int) (x5 : Int) (h : AH), Den l G m1_marryKeenest rvI d 24 [some (vA G 50), some (vI x1), some (vI x2), some (vI x3), some (vI x4), some (vI x5), none] [] h (rec24 (x1, x2, x3, x5, h))) (h : AH) : Den l G m1_marryKeenest rvI d 85 [some (vA G 50), some (vI x1), some (vI x2), some (vI x3), some (vI x4), some (vI x5), none] [] h (b1_marryKeenest_85 rec9 rec24 x1 x2 x3 x4 x5 h) := by
  unfold b1_marryKeenest_85
  refine den_iinc (pc := 85) (L2 := [some (vA G 50), some (vI x1), some (vI x2), some (vI x3), some (vI x4), some (vI (x5 + 1)), none]) d1_marryKeenest_85 (by decide) rfl rfl ?_
  refine den_goto (pc := 88) (tgt := 24) d1_marryKeenest_88 (by decide) ?_
  exact H24 x1 x2 x3 (x5 + 1) h
def b1_marryKeenest_24 (rec24 : Int × Int × Int × Int × AH → Option (Int × AH)) (rec9 : Int × Int × Int × Int × AH → Option (Int × AH)) (x4 : Int) (x1 : Int) (x2 : Int) (x3 : Int) (x5 : Int) (h : AH) : Option (Int × AH) :=
  if w32 (h.2 50 2) ≤ w32 x5 then
    rec9 (x1, x2, x3, (x4 + 1), h)
  else
    asrt (0 ≤ w32 ((x4 * 8) + x5) ∧ w32 ((x4 * 8) + x5) < 64) <|
    lt (h.2 52 (w32 ((x4 * 8) + x5)).toNat) fun u2 =>
    asrt (0 ≤ w32 x4 ∧ w32 x4 < 8) <|
    if ¬ w32 (h.2 51 (w32 x4).toNat) = (-1) then
      b1_marryKeenest_85 rec9 rec24 x1 x2 x3 x4 x5 h
    else
      asrt (0 ≤ w32 x5 ∧ w32 x5 < 8) <|
      if ¬ w32 (h.2 51 (w32 x5).toNat) = (-1) then
        b1_marryKeenest_85 rec9 rec24 x1 x2 x3 x4 x5 h
      else
        if w32 u2 ≤ w32 x3 then
          b1_marryKeenest_85 rec9 rec24 x1 x2 x3 x4 x5 h
        else
          b1_marryKeenest_85 rec9 rec24 x4 x5 u2 x4 x5 h
set_option maxRecDepth 100000 in
theorem t1_marryKeenest_24 (l : Launch) (G : Geo) (d : Nat) (hd : 2 ≤ d) (x4 : Int) (x1 : Int) (x2 : Int) (x3 : Int) (x5 : Int) (rec24 : Int × Int × Int × Int × AH → Option (Int × AH)) (H24 : ∀ (x1 : Int) (x2 : Int) (x3 : Int) (x5 : Int) (h : AH), Den l G m1_marryKeenest rvI d 24 [some (vA G 50), some (vI x1), some (vI x2), some (vI x3), some (vI x4), some (vI x5), none] [] h (rec24 (x1, x2, x3, x5, h))) (rec9 : Int × Int × Int × Int × AH → Option (Int × AH)) (H9 : ∀ (x1 : Int) (x2 : Int) (x3 : Int) (x4 : Int) (h : AH), Den l G m1_marryKeenest rvI d 9 [some (vA G 50), some (vI x1), some (vI x2), some (vI x3), some (vI x4), none, none] [] h (rec9 (x1, x2, x3, x4, h))) (h : AH) : Den l G m1_marryKeenest rvI d 24 [some (vA G 50), some (vI x1), some (vI x2), some (vI x3), some (vI x4), some (vI x5), none] [] h (b1_marryKeenest_24 rec24 rec9 x4 x1 x2 x3 x5 h) := by
  unfold b1_marryKeenest_24
  refine den_iload (pc := 24) d1_marryKeenest_24 rfl ?_
  refine den_aload_n (pc := 26) d1_marryKeenest_26 rfl rfl ?_
  refine den_getI (pc := 27) fa_1_24 (ok_50 _) d1_marryKeenest_27 ?_
  refine den_icmp_ge (pc := 30) (tgt := 91) d1_marryKeenest_30 (by decide) rfl rfl (fun _ => ?_) (fun _ => ?_)
  · refine den_iinc (pc := 91) (L2 := [some (vA G 50), some (vI x1), some (vI x2), some (vI x3), some (vI (x4 + 1)), some (vI x5), none]) d1_marryKeenest_91 (by decide) rfl rfl ?_
    refine den_goto (pc := 94) (tgt := 9) d1_marryKeenest_94 (by decide) ?_
    refine den_wk [true, true, true, true, true, false, true] rfl ?_
    exact H9 x1 x2 x3 (x4 + 1) h
  · refine den_aload_n (pc := 33) d1_marryKeenest_33 rfl rfl ?_
    refine den_getR (pc := 34) (b := 52) fa_1_15 (ok_50 _) rfl d1_marryKeenest_34 ?_
    refine den_iload (pc := 37) d1_marryKeenest_37 rfl ?_
    refine den_bipush (pc := 39) d1_marryKeenest_39 (by decide) ?_
    refine den_imul (pc := 41) d1_marryKeenest_41 ?_
    refine den_iload (pc := 42) d1_marryKeenest_42 rfl ?_
    refine den_iadd (pc := 44) d1_marryKeenest_44 ?_
    refine den_asrt (fun a1 => ?_)
    refine den_iaload (pc := 45) sh_52 (sz_lt (by decide)) rfl a1 d1_marryKeenest_45 ?_
    refine den_istoreL (pc := 46) (L2 := fun y => [some (vA G 50), some (vI x1), some (vI x2), some (vI x3), some (vI x4), some (vI x5), some (vI y)]) d1_marryKeenest_46 (by decide) (fun _ => rfl) (fun u2 => ?_)
    refine den_aload_n (pc := 48) d1_marryKeenest_48 rfl rfl ?_
    refine den_getR (pc := 49) (b := 51) fa_1_9 (ok_50 _) rfl d1_marryKeenest_49 ?_
    refine den_iload (pc := 52) d1_marryKeenest_52 rfl ?_
    refine den_asrt (fun a3 => ?_)
    refine den_iaload (pc := 54) sh_51 (sz_lt (by decide)) rfl a3 d1_marryKeenest_54 ?_
    refine den_iconst (pc := 55) d1_marryKeenest_55 ?_
    refine den_icmp_ne (pc := 56) (tgt := 85) d1_marryKeenest_56 (by decide) rfl (by decide) (fun _ => ?_) (fun _ => ?_)
    · refine den_wk [true, true, true, true, true, true, false] rfl ?_
      exact t1_marryKeenest_85 l G _ hd x1 x2 x3 x4 x5 rec9 H9 rec24 H24 h
    · refine den_aload_n (pc := 59) d1_marryKeenest_59 rfl rfl ?_
      refine den_getR (pc := 60) (b := 51) fa_1_9 (ok_50 _) rfl d1_marryKeenest_60 ?_
      refine den_iload (pc := 63) d1_marryKeenest_63 rfl ?_
      refine den_asrt (fun a4 => ?_)
      refine den_iaload (pc := 65) sh_51 (sz_lt (by decide)) rfl a4 d1_marryKeenest_65 ?_
      refine den_iconst (pc := 66) d1_marryKeenest_66 ?_
      refine den_icmp_ne (pc := 67) (tgt := 85) d1_marryKeenest_67 (by decide) rfl (by decide) (fun _ => ?_) (fun _ => ?_)
      · refine den_wk [true, true, true, true, true, true, false] rfl ?_
        exact t1_marryKeenest_85 l G _ hd x1 x2 x3 x4 x5 rec9 H9 rec24 H24 h
      · refine den_iload (pc := 70) d1_marryKeenest_70 rfl ?_
        refine den_iload_n (pc := 72) d1_marryKeenest_72 rfl rfl ?_
        refine den_icmp_le (pc := 73) (tgt := 85) d1_marryKeenest_73 (by decide) rfl rfl (fun _ => ?_) (fun _ => ?_)
        · refine den_wk [true, true, true, true, true, true, false] rfl ?_
          exact t1_marryKeenest_85 l G _ hd x1 x2 x3 x4 x5 rec9 H9 rec24 H24 h
        · refine den_iload (pc := 76) d1_marryKeenest_76 rfl ?_
          refine den_istore_n (pc := 78) (L2 := [some (vA G 50), some (vI x4), some (vI x2), some (vI x3), some (vI x4), some (vI x5), some (vI u2)]) d1_marryKeenest_78 rfl (by decide) rfl ?_
          refine den_iload (pc := 79) d1_marryKeenest_79 rfl ?_
          refine den_istore_n (pc := 81) (L2 := [some (vA G 50), some (vI x4), some (vI x5), some (vI x3), some (vI x4), some (vI x5), some (vI u2)]) d1_marryKeenest_81 rfl (by decide) rfl ?_
          refine den_iload (pc := 82) d1_marryKeenest_82 rfl ?_
          refine den_istore_n (pc := 84) (L2 := [some (vA G 50), some (vI x4), some (vI x5), some (vI u2), some (vI x4), some (vI x5), some (vI u2)]) d1_marryKeenest_84 rfl (by decide) rfl ?_
          refine den_wk [true, true, true, true, true, true, false] rfl ?_
          exact t1_marryKeenest_85 l G _ hd x4 x5 u2 x4 x5 rec9 H9 rec24 H24 h
def l1_marryKeenest_24 (rec9 : Int × Int × Int × Int × AH → Option (Int × AH)) (x4 : Int) (x1 : Int) (x2 : Int) (x3 : Int) (x5 : Int) (h : AH) : Option (Int × AH) := fx (fun rec z => b1_marryKeenest_24 rec rec9 x4 z.1 z.2.1 z.2.2.1 z.2.2.2.1 z.2.2.2.2) FU (x1, x2, x3, x5, h)
set_option maxRecDepth 100000 in
theorem tl1_marryKeenest_24 (l : Launch) (G : Geo) (d : Nat) (hd : 2 ≤ d) (x4 : Int) (rec9 : Int × Int × Int × Int × AH → Option (Int × AH)) (H9 : ∀ (x1 : Int) (x2 : Int) (x3 : Int) (x4 : Int) (h : AH), Den l G m1_marryKeenest rvI d 9 [some (vA G 50), some (vI x1), some (vI x2), some (vI x3), some (vI x4), none, none] [] h (rec9 (x1, x2, x3, x4, h))) : ∀ (n : Nat) (z : Int × Int × Int × Int × AH), True → Den l G m1_marryKeenest rvI d 24 [some (vA G 50), some (vI z.1), some (vI z.2.1), some (vI z.2.2.1), some (vI x4), some (vI z.2.2.2.1), none] [] z.2.2.2.2 (fx (fun rec z => b1_marryKeenest_24 rec rec9 x4 z.1 z.2.1 z.2.2.1 z.2.2.2.1 z.2.2.2.2) n z) :=
  den_fx (F := fun rec z => b1_marryKeenest_24 rec rec9 x4 z.1 z.2.1 z.2.2.1 z.2.2.2.1 z.2.2.2.2) (P := fun z => True) (fL := fun z => [some (vA G 50), some (vI z.1), some (vI z.2.1), some (vI z.2.2.1), some (vI x4), some (vI z.2.2.2.1), none]) (fs := fun z => []) (fh := fun z => z.2.2.2.2) (fun rec hrec z hz => t1_marryKeenest_24 l G d hd x4 z.1 z.2.1 z.2.2.1 z.2.2.2.1 rec (fun x1 x2 x3 x5 h => hrec (x1, x2, x3, x5, h) trivial) rec9 H9 z.2.2.2.2 )
def b1_marryKeenest_9 (rec9 : Int × Int × Int × Int × AH → Option (Int × AH)) (x1 : Int) (x2 : Int) (x3 : Int) (x4 : Int) (h : AH) : Option (Int × AH) :=
  if w32 (h.2 50 2) ≤ w32 x4 then
    if w32 x1 = (-1) then
      some (0, h)
    else
      if ¬ w32 x2 = (-1) then
        asrt (0 ≤ w32 x1 ∧ w32 x1 < 8) <|
        lt (wr h 51 (w32 x1).toNat x2) fun h6 =>
        asrt (0 ≤ w32 x2 ∧ w32 x2 < 8) <|
        lt (wr h6 51 (w32 x2).toNat x1) fun h9 =>
        some (1, h9)
      else
        some (0, h)
  else
    lt (x4 + 1) fun u11 =>
    l1_marryKeenest_24 rec9 x4 x1 x2 x3 u11 h
set_option maxRecDepth 100000 in
theorem t1_marryKeenest_9 (l : Launch) (G : Geo) (d : Nat) (hd : 2 ≤ d) (x1 : Int) (x2 : Int) (x3 : Int) (x4 : Int) (rec9 : Int × Int × Int × Int × AH → Option (Int × AH)) (H9 : ∀ (x1 : Int) (x2 : Int) (x3 : Int) (x4 : Int) (h : AH), Den l G m1_marryKeenest rvI d 9 [some (vA G 50), some (vI x1), some (vI x2), some (vI x3), some (vI x4), none, none] [] h (rec9 (x1, x2, x3, x4, h))) (h : AH) : Den l G m1_marryKeenest rvI d 9 [some (vA G 50), some (vI x1), some (vI x2), some (vI x3), some (vI x4), none, none] [] h (b1_marryKeenest_9 rec9 x1 x2 x3 x4 h) := by
  unfold b1_marryKeenest_9
  refine den_iload (pc := 9) d1_marryKeenest_9 rfl ?_
  refine den_aload_n (pc := 11) d1_marryKeenest_11 rfl rfl ?_
  refine den_getI (pc := 12) fa_1_24 (ok_50 _) d1_marryKeenest_12 ?_
  refine den_icmp_ge (pc := 15) (tgt := 97) d1_marryKeenest_15 (by decide) rfl rfl (fun _ => ?_) (fun _ => ?_)
  · refine den_iload_n (pc := 97) d1_marryKeenest_97 rfl rfl ?_
    refine den_iconst (pc := 98) d1_marryKeenest_98 ?_
    refine den_icmp_eq (pc := 99) (tgt := 107) d1_marryKeenest_99 (by decide) rfl (by decide) (fun _ => ?_) (fun _ => ?_)
    · refine den_iconst (pc := 107) d1_marryKeenest_107 ?_
      exact den_zret (pc := 108) rfl (by decide) d1_marryKeenest_108
    · refine den_iload_n (pc := 102) d1_marryKeenest_102 rfl rfl ?_
      refine den_iconst (pc := 103) d1_marryKeenest_103 ?_
      refine den_icmp_ne (pc := 104) (tgt := 109) d1_marryKeenest_104 (by decide) rfl (by decide) (fun _ => ?_) (fun _ => ?_)
      · refine den_aload_n (pc := 109) d1_marryKeenest_109 rfl rfl ?_
        refine den_getR (pc := 110) (b := 51) fa_1_9 (ok_50 _) rfl d1_marryKeenest_110 ?_
        refine den_iload_n (pc := 113) d1_marryKeenest_113 rfl rfl ?_
        refine den_iload_n (pc := 114) d1_marryKeenest_114 rfl rfl ?_
        refine den_asrt (fun a5 => ?_)
        refine den_iastore (pc := 115) sh_51 (sz_lt (by decide)) rfl a5 d1_marryKeenest_115 ?_
        refine den_ltH (fun h6 m7 => ?_)
        refine den_aload_n (pc := 116) d1_marryKeenest_116 rfl rfl ?_
        refine den_getR (pc := 117) (b := 51) fa_1_9 (ok_50 _) rfl d1_marryKeenest_117 ?_
        refine den_iload_n (pc := 120) d1_marryKeenest_120 rfl rfl ?_
        refine den_iload_n (pc := 121) d1_marryKeenest_121 rfl rfl ?_
        refine den_asrt (fun a8 => ?_)
        refine den_iastore (pc := 122) sh_51 (sz_lt (by decide)) rfl a8 d1_marryKeenest_122 ?_
        refine den_ltH (fun h9 m10 => ?_)
        refine den_iconst (pc := 123) d1_marryKeenest_123 ?_
        exact den_zret (pc := 124) rfl (by decide) d1_marryKeenest_124
      · refine den_iconst (pc := 107) d1_marryKeenest_107 ?_
        exact den_zret (pc := 108) rfl (by decide) d1_marryKeenest_108
  · refine den_iload (pc := 18) d1_marryKeenest_18 rfl ?_
    refine den_iconst (pc := 20) d1_marryKeenest_20 ?_
    refine den_iadd (pc := 21) d1_marryKeenest_21 ?_
    refine den_istoreL (pc := 22) (L2 := fun y => [some (vA G 50), some (vI x1), some (vI x2), some (vI x3), some (vI x4), some (vI y), none]) d1_marryKeenest_22 (by decide) (fun _ => rfl) (fun u11 => ?_)
    exact tl1_marryKeenest_24 l G _ hd x4 rec9 H9 FU (x1, x2, x3, u11, h) trivial
def l1_marryKeenest_9 (x1 : Int) (x2 : Int) (x3 : Int) (x4 : Int) (h : AH) : Option (Int × AH) := fx (fun rec z => b1_marryKeenest_9 rec z.1 z.2.1 z.2.2.1 z.2.2.2.1 z.2.2.2.2) FU (x1, x2, x3, x4, h)
set_option maxRecDepth 100000 in
theorem tl1_marryKeenest_9 (l : Launch) (G : Geo) (d : Nat) (hd : 2 ≤ d) : ∀ (n : Nat) (z : Int × Int × Int × Int × AH), True → Den l G m1_marryKeenest rvI d 9 [some (vA G 50), some (vI z.1), some (vI z.2.1), some (vI z.2.2.1), some (vI z.2.2.2.1), none, none] [] z.2.2.2.2 (fx (fun rec z => b1_marryKeenest_9 rec z.1 z.2.1 z.2.2.1 z.2.2.2.1 z.2.2.2.2) n z) :=
  den_fx (F := fun rec z => b1_marryKeenest_9 rec z.1 z.2.1 z.2.2.1 z.2.2.2.1 z.2.2.2.2) (P := fun z => True) (fL := fun z => [some (vA G 50), some (vI z.1), some (vI z.2.1), some (vI z.2.2.1), some (vI z.2.2.2.1), none, none]) (fs := fun z => []) (fh := fun z => z.2.2.2.2) (fun rec hrec z hz => t1_marryKeenest_9 l G d hd z.1 z.2.1 z.2.2.1 z.2.2.2.1 rec (fun x1 x2 x3 x4 h => hrec (x1, x2, x3, x4, h) trivial) z.2.2.2.2 )
def f1_marryKeenest (h : AH) : Option (Int × AH) :=
  l1_marryKeenest_9 (-1) (-1) 0 0 h
set_option maxRecDepth 100000 in
theorem c1_marryKeenest (l : Launch) (G : Geo) (h : AH) : Con l G m1_marryKeenest rvI 2 [vA G 50] h (f1_marryKeenest  h) := by
  have hd : 2 ≤ 2 := Nat.le_refl _
  refine con_Z rfl (by decide) rfl rfl (Nat.le_of_ble_eq_true rfl) (L := [some (vA G 50), none, none, none, none, none, none]) ?_
  unfold f1_marryKeenest
  refine den_iconst (pc := 0) d1_marryKeenest_0 ?_
  refine den_istore_n (pc := 1) (L2 := [some (vA G 50), some (vI (-1)), none, none, none, none, none]) d1_marryKeenest_1 rfl (by decide) rfl ?_
  refine den_iconst (pc := 2) d1_marryKeenest_2 ?_
  refine den_istore_n (pc := 3) (L2 := [some (vA G 50), some (vI (-1)), some (vI (-1)), none, none, none, none]) d1_marryKeenest_3 rfl (by decide) rfl ?_
  refine den_iconst (pc := 4) d1_marryKeenest_4 ?_
  refine den_istore_n (pc := 5) (L2 := [some (vA G 50), some (vI (-1)), some (vI (-1)), some (vI 0), none, none, none]) d1_marryKeenest_5 rfl (by decide) rfl ?_
  refine den_iconst (pc := 6) d1_marryKeenest_6 ?_
  refine den_istore (pc := 7) (L2 := [some (vA G 50), some (vI (-1)), some (vI (-1)), some (vI 0), some (vI 0), none, none]) d1_marryKeenest_7 (by decide) rfl ?_
  exact tl1_marryKeenest_9 l G _ hd FU ((-1), (-1), 0, 0, h) trivial
theorem d12_fill_0 : decode m12_fill.2.1 0 = .ok (.iconst 0, 1) := by decide +kernel
theorem d12_fill_1 : decode m12_fill.2.1 1 = .ok (.istore_n 2, 1) := by decide +kernel
theorem d12_fill_2 : decode m12_fill.2.1 2 = .ok (.aload_n 0, 1) := by decide +kernel
theorem d12_fill_3 : decode m12_fill.2.1 3 = .ok (.arraylength, 1) := by decide +kernel
theorem d12_fill_4 : decode m12_fill.2.1 4 = .ok (.istore_n 3, 1) := by decide +kernel
theorem d12_fill_5 : decode m12_fill.2.1 5 = .ok (.iload_n 2, 1) := by decide +kernel
theorem d12_fill_6 : decode m12_fill.2.1 6 = .ok (.iload_n 3, 1) := by decide +kernel
theorem d12_fill_7 : decode m12_fill.2.1 7 = .ok (.if_icmp .ge 13, 3) := by decide +kernel
theorem d12_fill_10 : decode m12_fill.2.1 10 = .ok (.aload_n 0, 1) := by decide +kernel
theorem d12_fill_11 : decode m12_fill.2.1 11 = .ok (.iload_n 2, 1) := by decide +kernel
theorem d12_fill_12 : decode m12_fill.2.1 12 = .ok (.iload_n 1, 1) := by decide +kernel
theorem d12_fill_13 : decode m12_fill.2.1 13 = .ok (.iastore, 1) := by decide +kernel
theorem d12_fill_14 : decode m12_fill.2.1 14 = .ok (.iinc 2 1, 3) := by decide +kernel
theorem d12_fill_17 : decode m12_fill.2.1 17 = .ok (.goto (-12), 3) := by decide +kernel
theorem d12_fill_20 : decode m12_fill.2.1 20 = .ok (.return_, 1) := by decide +kernel
def b12_fill_5 (rec5 : Int × AH → Option (Int × AH)) (x0 : Nat) (x1 : Int) (x3 : Int) (x2 : Int) (h : AH) : Option (Int × AH) :=
  if w32 x3 ≤ w32 x2 then
    some (0, h)
  else
    asrt (0 ≤ w32 x2 ∧ w32 x2 < ((shp x0).2 : Int)) <|
    lt (wr h x0 (w32 x2).toNat x1) fun h2 =>
    rec5 ((x2 + 1), h2)
set_option maxRecDepth 100000 in
theorem t12_fill_5 (l : Launch) (G : Geo) (d : Nat) (hd : 2 ≤ d) (x0 : Nat) (x1 : Int) (x3 : Int) (x2 : Int) (rec5 : Int × AH → Option (Int × AH)) (H5 : ∀ (x2 : Int) (h : AH), x0 < sz h.1 ∧ shp x0 = (0, (shp x0).2) → Den l G m12_fill rvV d 5 [some (vA G x0), some (vI x1), some (vI x2), some (vI x3)] [] h (rec5 (x2, h))) (h : AH) (kx0 : x0 < sz h.1 ∧ shp x0 = (0, (shp x0).2)) : Den l G m12_fill rvV d 5 [some (vA G x0), some (vI x1), some (vI x2), some (vI x3)] [] h (b12_fill_5 rec5 x0 x1 x3 x2 h) := by
  unfold b12_fill_5
  refine den_iload_n (pc := 5) d12_fill_5 rfl rfl ?_
  refine den_iload_n (pc := 6) d12_fill_6 rfl rfl ?_
  refine den_icmp_ge (pc := 7) (tgt := 20) d12_fill_7 (by decide) rfl rfl (fun _ => ?_) (fun _ => ?_)
  · exact den_vret (pc := 20) rfl d12_fill_20
  · refine den_aload_n (pc := 10) d12_fill_10 rfl rfl ?_
    refine den_iload_n (pc := 11) d12_fill_11 rfl rfl ?_
    refine den_iload_n (pc := 12) d12_fill_12 rfl rfl ?_
    refine den_asrt (fun a1 => ?_)
    refine den_iastore (pc := 13) kx0.2 kx0.1 rfl a1 d12_fill_13 ?_
    refine den_ltH (fun h2 m3 => ?_)
    have q4 := lt_mono kx0.1 m3
    refine den_iinc (pc := 14) (L2 := [some (vA G x0), some (vI x1), some (vI (x2 + 1)), some (vI x3)]) d12_fill_14 (by decide) rfl rfl ?_
    refine den_goto (pc := 17) (tgt := 5) d12_fill_17 (by decide) ?_
    exact H5 (x2 + 1) h2 ⟨q4, kx0.2⟩
def l12_fill_5 (x0 : Nat) (x1 : Int) (x3 : Int) (x2 : Int) (h : AH) : Option (Int × AH) := fx (fun rec z => b12_fill_5 rec x0 x1 x3 z.1 z.2) FU (x2, h)
set_option maxRecDepth 100000 in
theorem tl12_fill_5 (l : Launch) (G : Geo) (d : Nat) (hd : 2 ≤ d) (x0 : Nat) (x1 : Int) (x3 : Int) : ∀ (n : Nat) (z : Int × AH), x0 < sz z.2.1 ∧ shp x0 = (0, (shp x0).2) → Den l G m12_fill rvV d 5 [some (vA G x0), some (vI x1), some (vI z.1), some (vI x3)] [] z.2 (fx (fun rec z => b12_fill_5 rec x0 x1 x3 z.1 z.2) n z) :=
  den_fx (F := fun rec z => b12_fill_5 rec x0 x1 x3 z.1 z.2) (P := fun z => x0 < sz z.2.1 ∧ shp x0 = (0, (shp x0).2)) (fL := fun z => [some (vA G x0), some (vI x1), some (vI z.1), some (vI x3)]) (fs := fun z => []) (fh := fun z => z.2) (fun rec hrec z hz => t12_fill_5 l G d hd x0 x1 x3 z.1 rec (fun x2 h w0 => hrec (x2, h) w0) z.2 hz)
def f12_fill (x0 : Nat) (x1 : Int) (h : AH) : Option (Int × AH) :=
  l12_fill_5 x0 x1 ((shp x0).2 : Int) 0 h
set_option maxRecDepth 100000 in
theorem c12_fill (l : Launch) (G : Geo) (x0 : Nat) (x1 : Int) (h : AH) (kx0 : x0 < sz h.1 ∧ shp x0 = (0, (shp x0).2)) : Con l G m12_fill rvV 2 [vA G x0, vI x1] h (f12_fill x0 x1 h) := by
  have hd : 2 ≤ 2 := Nat.le_refl _
  refine con_V rfl (by decide) rfl rfl (Nat.le_of_ble_eq_true rfl) (L := [some (vA G x0), some (vI x1), none, none]) ?_
  unfold f12_fill
  refine den_iconst (pc := 0) d12_fill_0 ?_
  refine den_istore_n (pc := 1) (L2 := [some (vA G x0), some (vI x1), some (vI 0), none]) d12_fill_1 rfl (by decide) rfl ?_
  refine den_aload_n (pc := 2) d12_fill_2 rfl rfl ?_
  refine den_alen0 (pc := 3) kx0.2 kx0.1 rfl d12_fill_3 ?_
  refine den_istore_n (pc := 4) (L2 := [some (vA G x0), some (vI x1), some (vI 0), some (vI ((shp x0).2 : Int))]) d12_fill_4 rfl (by decide) rfl ?_
  exact tl12_fill_5 l G _ hd x0 x1 ((shp x0).2 : Int) FU (0, h) ⟨kx0.1, kx0.2⟩
theorem d1_marry_0 : decode m1_marry.2.1 0 = .ok (.aload_n 0, 1) := by decide +kernel
theorem d1_marry_1 : decode m1_marry.2.1 1 = .ok (.getfield 9, 3) := by decide +kernel
theorem d1_marry_4 : decode m1_marry.2.1 4 = .ok (.iconst (-1), 1) := by decide +kernel
theorem d1_marry_5 : decode m1_marry.2.1 5 = .ok (.invokestatic 40, 3) := by decide +kernel
theorem d1_marry_8 : decode m1_marry.2.1 8 = .ok (.iconst 1, 1) := by decide +kernel
theorem d1_marry_9 : decode m1_marry.2.1 9 = .ok (.istore_n 1, 1) := by decide +kernel
theorem d1_marry_10 : decode m1_marry.2.1 10 = .ok (.iconst 0, 1) := by decide +kernel
theorem d1_marry_11 : decode m1_marry.2.1 11 = .ok (.istore_n 2, 1) := by decide +kernel
theorem d1_marry_12 : decode m1_marry.2.1 12 = .ok (.iload_n 2, 1) := by decide +kernel
theorem d1_marry_13 : decode m1_marry.2.1 13 = .ok (.bipush 8, 2) := by decide +kernel
theorem d1_marry_15 : decode m1_marry.2.1 15 = .ok (.if_icmp .ge 18, 3) := by decide +kernel
theorem d1_marry_18 : decode m1_marry.2.1 18 = .ok (.iload_n 1, 1) := by decide +kernel
theorem d1_marry_19 : decode m1_marry.2.1 19 = .ok (.ifCond .eq 14, 3) := by decide +kernel
theorem d1_marry_22 : decode m1_marry.2.1 22 = .ok (.aload_n 0, 1) := by decide +kernel
theorem d1_marry_23 : decode m1_marry.2.1 23 = .ok (.invokevirtual 46, 3) := by decide +kernel
theorem d1_marry_26 : decode m1_marry.2.1 26 = .ok (.istore_n 1, 1) := by decide +kernel
theorem d1_marry_27 : decode m1_marry.2.1 27 = .ok (.iinc 2 1, 3) := by decide +kernel
theorem d1_marry_30 : decode m1_marry.2.1 30 = .ok (.goto (-18), 3) := by decide +kernel
theorem d1_marry_33 : decode m1_marry.2.1 33 = .ok (.return_, 1) := by decide +kernel
def b1_marry_12 (rec12 : Int × Int × AH → Option (Int × AH)) (x1 : Int) (x2 : Int) (h : AH) : Option (Int × AH) :=
  if 8 ≤ w32 x2 then
    some (0, h)
  else
    if w32 x1 = 0 then
      some (0, h)
    else
      bnd (f1_marryKeenest h) fun r1 h2 =>
      rec12 (r1, (x2 + 1), h2)
set_option maxRecDepth 100000 in
theorem t1_marry_12 (l : Launch) (G : Geo) (d : Nat) (hd : 3 ≤ d) (x1 : Int) (x2 : Int) (rec12 : Int × Int × AH → Option (Int × AH)) (H12 : ∀ (x1 : Int) (x2 : Int) (h : AH), Den l G m1_marry rvV d 12 [some (vA G 50), some (vI x1), some (vI x2)] [] h (rec12 (x1, x2, h))) (h : AH) : Den l G m1_marry rvV d 12 [some (vA G 50), some (vI x1), some (vI x2)] [] h (b1_marry_12 rec12 x1 x2 h) := by
  unfold b1_marry_12
  refine den_iload_n (pc := 12) d1_marry_12 rfl rfl ?_
  refine den_bipush (pc := 13) d1_marry_13 (by decide) ?_
  refine den_icmp_ge (pc := 15) (tgt := 33) d1_marry_15 (by decide) rfl (by decide) (fun _ => ?_) (fun _ => ?_)
  · exact den_vret (pc := 33) rfl d1_marry_33
  · refine den_iload_n (pc := 18) d1_marry_18 rfl rfl ?_
    refine den_if_eq (pc := 19) (tgt := 33) d1_marry_19 (by decide) rfl (fun _ => ?_) (fun _ => ?_)
    · exact den_vret (pc := 33) rfl d1_marry_33
    · refine den_aload_n (pc := 22) d1_marry_22 rfl rfl ?_
      refine den_callVI (pc := 23) (As := []) fv_1_46 rfl rfl (ok_50 _) (Nat.le_of_ble_eq_true rfl) (Nat.le_trans (by decide) hd) d1_marry_23 (c1_marryKeenest l G h) (fun r1 h2 m3 o4 => ?_)
      refine den_istore_n (pc := 26) (L2 := [some (vA G 50), some (vI r1), some (vI x2)]) d1_marry_26 rfl (by decide) rfl ?_
      refine den_iinc (pc := 27) (L2 := [some (vA G 50), some (vI r1), some (vI (x2 + 1))]) d1_marry_27 (by decide) rfl rfl ?_
      refine den_goto (pc := 30) (tgt := 12) d1_marry_30 (by decide) ?_
      exact H12 r1 (x2 + 1) h2
def l1_marry_12 (x1 : Int) (x2 : Int) (h : AH) : Option (Int × AH) := fx (fun rec z => b1_marry_12 rec z.1 z.2.1 z.2.2) FU (x1, x2, h)
set_option maxRecDepth 100000 in
theorem tl1_marry_12 (l : Launch) (G : Geo) (d : Nat) (hd : 3 ≤ d) : ∀ (n : Nat) (z : Int × Int × AH), True → Den l G m1_marry rvV d 12 [some (vA G 50), some (vI z.1), some (vI z.2.1)] [] z.2.2 (fx (fun rec z => b1_marry_12 rec z.1 z.2.1 z.2.2) n z) :=
  den_fx (F := fun rec z => b1_marry_12 rec z.1 z.2.1 z.2.2) (P := fun z => True) (fL := fun z => [some (vA G 50), some (vI z.1), some (vI z.2.1)]) (fs := fun z => []) (fh := fun z => z.2.2) (fun rec hrec z hz => t1_marry_12 l G d hd z.1 z.2.1 rec (fun x1 x2 h => hrec (x1, x2, h) trivial) z.2.2 )
def f1_marry (h : AH) : Option (Int × AH) :=
  bnd (f12_fill 51 (-1) h) fun r5 h6 =>
  l1_marry_12 1 0 h6
set_option maxRecDepth 100000 in
theorem c1_marry (l : Launch) (G : Geo) (h : AH) : Con l G m1_marry rvV 3 [vA G 50] h (f1_marry  h) := by
  have hd : 3 ≤ 3 := Nat.le_refl _
  refine con_V rfl (by decide) rfl rfl (Nat.le_of_ble_eq_true rfl) (L := [some (vA G 50), none, none]) ?_
  unfold f1_marry
  refine den_aload_n (pc := 0) d1_marry_0 rfl rfl ?_
  refine den_getR (pc := 1) (b := 51) fa_1_9 (ok_50 _) rfl d1_marry_1 ?_
  refine den_iconst (pc := 4) d1_marry_4 ?_
  refine den_callSV (pc := 5) (As := [vA G 51, vI (-1)]) fs_1_40 rfl rfl (Nat.le_of_ble_eq_true rfl) (Nat.le_trans (by decide) hd) d1_marry_5 (c12_fill l G 51 (-1) h ⟨sz_lt (by decide), by decide⟩) (fun r5 h6 m7 o8 => ?_)
  refine den_iconst (pc := 8) d1_marry_8 ?_
  refine den_istore_n (pc := 9) (L2 := [some (vA G 50), some (vI 1), none]) d1_marry_9 rfl (by decide) rfl ?_
  refine den_iconst (pc := 10) d1_marry_10 ?_
  refine den_istore_n (pc := 11) (L2 := [some (vA G 50), some (vI 1), some (vI 0)]) d1_marry_11 rfl (by decide) rfl ?_
  exact tl1_marry_12 l G _ hd FU (1, 0, h6) trivial
theorem d1_mostFrom_0 : decode m1_mostFrom.2.1 0 = .ok (.iload_n 1, 1) := by decide +kernel
theorem d1_mostFrom_1 : decode m1_mostFrom.2.1 1 = .ok (.aload_n 0, 1) := by decide +kernel
theorem d1_mostFrom_2 : decode m1_mostFrom.2.1 2 = .ok (.getfield 24, 3) := by decide +kernel
theorem d1_mostFrom_5 : decode m1_mostFrom.2.1 5 = .ok (.if_icmp .lt 5, 3) := by decide +kernel
theorem d1_mostFrom_8 : decode m1_mostFrom.2.1 8 = .ok (.iconst 0, 1) := by decide +kernel
theorem d1_mostFrom_9 : decode m1_mostFrom.2.1 9 = .ok (.ireturn, 1) := by decide +kernel
theorem d1_mostFrom_10 : decode m1_mostFrom.2.1 10 = .ok (.aload_n 0, 1) := by decide +kernel
theorem d1_mostFrom_11 : decode m1_mostFrom.2.1 11 = .ok (.iload_n 1, 1) := by decide +kernel
theorem d1_mostFrom_12 : decode m1_mostFrom.2.1 12 = .ok (.iconst 1, 1) := by decide +kernel
theorem d1_mostFrom_13 : decode m1_mostFrom.2.1 13 = .ok (.iadd, 1) := by decide +kernel
theorem d1_mostFrom_14 : decode m1_mostFrom.2.1 14 = .ok (.iload_n 2, 1) := by decide +kernel
theorem d1_mostFrom_15 : decode m1_mostFrom.2.1 15 = .ok (.invokevirtual 50, 3) := by decide +kernel
theorem d1_mostFrom_18 : decode m1_mostFrom.2.1 18 = .ok (.istore_n 3, 1) := by decide +kernel
theorem d1_mostFrom_19 : decode m1_mostFrom.2.1 19 = .ok (.iload_n 2, 1) := by decide +kernel
theorem d1_mostFrom_20 : decode m1_mostFrom.2.1 20 = .ok (.iconst 1, 1) := by decide +kernel
theorem d1_mostFrom_21 : decode m1_mostFrom.2.1 21 = .ok (.iload_n 1, 1) := by decide +kernel
theorem d1_mostFrom_22 : decode m1_mostFrom.2.1 22 = .ok (.ishl, 1) := by decide +kernel
theorem d1_mostFrom_23 : decode m1_mostFrom.2.1 23 = .ok (.iand, 1) := by decide +kernel
theorem d1_mostFrom_24 : decode m1_mostFrom.2.1 24 = .ok (.ifCond .eq 5, 3) := by decide +kernel
theorem d1_mostFrom_27 : decode m1_mostFrom.2.1 27 = .ok (.iload_n 3, 1) := by decide +kernel
theorem d1_mostFrom_28 : decode m1_mostFrom.2.1 28 = .ok (.ireturn, 1) := by decide +kernel
theorem d1_mostFrom_29 : decode m1_mostFrom.2.1 29 = .ok (.iload_n 1, 1) := by decide +kernel
theorem d1_mostFrom_30 : decode m1_mostFrom.2.1 30 = .ok (.iconst 1, 1) := by decide +kernel
theorem d1_mostFrom_31 : decode m1_mostFrom.2.1 31 = .ok (.iadd, 1) := by decide +kernel
theorem d1_mostFrom_32 : decode m1_mostFrom.2.1 32 = .ok (.istore 4, 2) := by decide +kernel
theorem d1_mostFrom_34 : decode m1_mostFrom.2.1 34 = .ok (.iload 4, 2) := by decide +kernel
theorem d1_mostFrom_36 : decode m1_mostFrom.2.1 36 = .ok (.aload_n 0, 1) := by decide +kernel
theorem d1_mostFrom_37 : decode m1_mostFrom.2.1 37 = .ok (.getfield 24, 3) := by decide +kernel
theorem d1_mostFrom_40 : decode m1_mostFrom.2.1 40 = .ok (.if_icmp .ge 53, 3) := by decide +kernel
theorem d1_mostFrom_43 : decode m1_mostFrom.2.1 43 = .ok (.iload_n 2, 1) := by decide +kernel
theorem d1_mostFrom_44 : decode m1_mostFrom.2.1 44 = .ok (.iconst 1, 1) := by decide +kernel
theorem d1_mostFrom_45 : decode m1_mostFrom.2.1 45 = .ok (.iload 4, 2) := by decide +kernel
theorem d1_mostFrom_47 : decode m1_mostFrom.2.1 47 = .ok (.ishl, 1) := by decide +kernel
theorem d1_mostFrom_48 : decode m1_mostFrom.2.1 48 = .ok (.iand, 1) := by decide +kernel
theorem d1_mostFrom_49 : decode m1_mostFrom.2.1 49 = .ok (.ifCond .ne 38, 3) := by decide +kernel
theorem d1_mostFrom_52 : decode m1_mostFrom.2.1 52 = .ok (.aload_n 0, 1) := by decide +kernel
theorem d1_mostFrom_53 : decode m1_mostFrom.2.1 53 = .ok (.getfield 15, 3) := by decide +kernel
theorem d1_mostFrom_56 : decode m1_mostFrom.2.1 56 = .ok (.iload_n 1, 1) := by decide +kernel
theorem d1_mostFrom_57 : decode m1_mostFrom.2.1 57 = .ok (.bipush 8, 2) := by decide +kernel
theorem d1_mostFrom_59 : decode m1_mostFrom.2.1 59 = .ok (.imul, 1) := by decide +kernel
theorem d1_mostFrom_60 : decode m1_mostFrom.2.1 60 = .ok (.iload 4, 2) := by decide +kernel
theorem d1_mostFrom_62 : decode m1_mostFrom.2.1 62 = .ok (.iadd, 1) := by decide +kernel
theorem d1_mostFrom_63 : decode m1_mostFrom.2.1 63 = .ok (.iaload, 1) := by decide +kernel
theorem d1_mostFrom_64 : decode m1_mostFrom.2.1 64 = .ok (.aload_n 0, 1) := by decide +kernel
theorem d1_mostFrom_65 : decode m1_mostFrom.2.1 65 = .ok (.iload_n 1, 1) := by decide +kernel
theorem d1_mostFrom_66 : decode m1_mostFrom.2.1 66 = .ok (.iconst 1, 1) := by decide +kernel
theorem d1_mostFrom_67 : decode m1_mostFrom.2.1 67 = .ok (.iadd, 1) := by decide +kernel
theorem d1_mostFrom_68 : decode m1_mostFrom.2.1 68 = .ok (.iload_n 2, 1) := by decide +kernel
theorem d1_mostFrom_69 : decode m1_mostFrom.2.1 69 = .ok (.iconst 1, 1) := by decide +kernel
theorem d1_mostFrom_70 : decode m1_mostFrom.2.1 70 = .ok (.iload 4, 2) := by decide +kernel
theorem d1_mostFrom_72 : decode m1_mostFrom.2.1 72 = .ok (.ishl, 1) := by decide +kernel
theorem d1_mostFrom_73 : decode m1_mostFrom.2.1 73 = .ok (.ior, 1) := by decide +kernel
theorem d1_mostFrom_74 : decode m1_mostFrom.2.1 74 = .ok (.invokevirtual 50, 3) := by decide +kernel
theorem d1_mostFrom_77 : decode m1_mostFrom.2.1 77 = .ok (.iadd, 1) := by decide +kernel
theorem d1_mostFrom_78 : decode m1_mostFrom.2.1 78 = .ok (.istore 5, 2) := by decide +kernel
theorem d1_mostFrom_80 : decode m1_mostFrom.2.1 80 = .ok (.iload_n 3, 1) := by decide +kernel
theorem d1_mostFrom_81 : decode m1_mostFrom.2.1 81 = .ok (.iload 5, 2) := by decide +kernel
theorem d1_mostFrom_83 : decode m1_mostFrom.2.1 83 = .ok (.invokestatic 53, 3) := by decide +kernel
theorem d1_mostFrom_86 : decode m1_mostFrom.2.1 86 = .ok (.istore_n 3, 1) := by decide +kernel
theorem d1_mostFrom_87 : decode m1_mostFrom.2.1 87 = .ok (.iinc 4 1, 3) := by decide +kernel
theorem d1_mostFrom_90 : decode m1_mostFrom.2.1 90 = .ok (.goto (-56), 3) := by decide +kernel
theorem d1_mostFrom_93 : decode m1_mostFrom.2.1 93 = .ok (.iload_n 3, 1) := by decide +kernel
theorem d1_mostFrom_94 : decode m1_mostFrom.2.1 94 = .ok (.ireturn, 1) := by decide +kernel
def b1_mostFrom_87 (self : Int → Int → AH → Option (Int × AH)) (rec34 : Int × Int × AH → Option (Int × AH)) (x1 : Int) (x2 : Int) (x3 : Int) (x4 : Int) (h : AH) : Option (Int × AH) :=
  rec34 (x3, (x4 + 1), h)
set_option maxRecDepth 100000 in
theorem t1_mostFrom_87 (l : Launch) (G : Geo) (d : Nat) (hd : 3 ≤ d) (self : Int → Int → AH → Option (Int × AH)) (d2 : Nat) (hd2 : d2 + 1 ≤ d) (hself : ∀ (x1 : Int) (x2 : Int) (h : AH), Con l G m1_mostFrom rvI d2 [vA G 50, vI x1, vI x2] h (self x1 x2 h)) (x1 : Int) (x2 : Int) (x3 : Int) (x4 : Int) (rec34 : Int × Int × AH → Option (Int × AH)) (H34 : ∀ (x3 : Int) (x4 : Int) (h : AH), Den l G m1_mostFrom rvI d 34 [some (vA G 50), some (vI x1), some (vI x2), some (vI x3), some (vI x4), none] [] h (rec34 (x3, x4, h))) (h : AH) : Den l G m1_mostFrom rvI d 87 [some (vA G 50), some (vI x1), some (vI x2), some (vI x3), some (vI x4), none] [] h (b1_mostFrom_87 self rec34 x1 x2 x3 x4 h) := by
  unfold b1_mostFrom_87
  refine den_iinc (pc := 87) (L2 := [some (vA G 50), some (vI x1), some (vI x2), some (vI x3), some (vI (x4 + 1)), none]) d1_mostFrom_87 (by decide) rfl rfl ?_
  refine den_goto (pc := 90) (tgt := 34) d1_mostFrom_90 (by decide) ?_
  exact H34 x3 (x4 + 1) h
def b1_mostFrom_34 (self : Int → Int → AH → Option (Int × AH)) (rec34 : Int × Int × AH → Option (Int × AH)) (x1 : Int) (x2 : Int) (x3 : Int) (x4 : Int) (h : AH) : Option (Int × AH) :=
  if w32 (h.2 50 2) ≤ w32 x4 then
    some (x3, h)
  else
    if ¬ w32 (and32 x2 (shl32 1 x4)) = 0 then
      b1_mostFrom_87 self rec34 x1 x2 x3 x4 h
    else
      asrt (0 ≤ w32 ((x1 * 8) + x4) ∧ w32 ((x1 * 8) + x4) < 64) <|
      bnd (self (x1 + 1) (or32 x2 (shl32 1 x4)) h) fun r2 h3 =>
      lt ((h.2 52 (w32 ((x1 * 8) + x4)).toNat) + r2) fun u6 =>
      lt (max32 x3 u6) fun u7 =>
      b1_mostFrom_87 self rec34 x1 x2 u7 x4 h3
set_option maxRecDepth 100000 in
theorem t1_mostFrom_34 (l : Launch) (G : Geo) (d : Nat) (hd : 3 ≤ d) (self : Int → Int → AH → Option (Int × AH)) (d2 : Nat) (hd2 : d2 + 1 ≤ d) (hself : ∀ (x1 : Int) (x2 : Int) (h : AH), Con l G m1_mostFrom rvI d2 [vA G 50, vI x1, vI x2] h (self x1 x2 h)) (x1 : Int) (x2 : Int) (x3 : Int) (x4 : Int) (rec34 : Int × Int × AH → Option (Int × AH)) (H34 : ∀ (x3 : Int) (x4 : Int) (h : AH), Den l G m1_mostFrom rvI d 34 [some (vA G 50), some (vI x1), some (vI x2), some (vI x3), some (vI x4), none] [] h (rec34 (x3, x4, h))) (h : AH) : Den l G m1_mostFrom rvI d 34 [some (vA G 50), some (vI x1), some (vI x2), some (vI x3), some (vI x4), none] [] h (b1_mostFrom_34 self rec34 x1 x2 x3 x4 h) := by
  unfold b1_mostFrom_34
  refine den_iload (pc := 34) d1_mostFrom_34 rfl ?_
  refine den_aload_n (pc := 36) d1_mostFrom_36 rfl rfl ?_
  refine den_getI (pc := 37) fa_1_24 (ok_50 _) d1_mostFrom_37 ?_
  refine den_icmp_ge (pc := 40) (tgt := 93) d1_mostFrom_40 (by decide) rfl rfl (fun _ => ?_) (fun _ => ?_)
  · refine den_iload_n (pc := 93) d1_mostFrom_93 rfl rfl ?_
    exact den_iret (pc := 94) rfl d1_mostFrom_94
  · refine den_iload_n (pc := 43) d1_mostFrom_43 rfl rfl ?_
    refine den_iconst (pc := 44) d1_mostFrom_44 ?_
    refine den_iload (pc := 45) d1_mostFrom_45 rfl ?_
    refine den_ishl (pc := 47) d1_mostFrom_47 ?_
    refine den_iand (pc := 48) d1_mostFrom_48 ?_
    refine den_if_ne (pc := 49) (tgt := 87) d1_mostFrom_49 (by decide) rfl (fun _ => ?_) (fun _ => ?_)
    · exact t1_mostFrom_87 l G _ hd self d2 hd2 hself x1 x2 x3 x4 rec34 H34 h
    · refine den_aload_n (pc := 52) d1_mostFrom_52 rfl rfl ?_
      refine den_getR (pc := 53) (b := 52) fa_1_15 (ok_50 _) rfl d1_mostFrom_53 ?_
      refine den_iload_n (pc := 56) d1_mostFrom_56 rfl rfl ?_
      refine den_bipush (pc := 57) d1_mostFrom_57 (by decide) ?_
      refine den_imul (pc := 59) d1_mostFrom_59 ?_
      refine den_iload (pc := 60) d1_mostFrom_60 rfl ?_
      refine den_iadd (pc := 62) d1_mostFrom_62 ?_
      refine den_asrt (fun a1 => ?_)
      refine den_iaload (pc := 63) sh_52 (sz_lt (by decide)) rfl a1 d1_mostFrom_63 ?_
      refine den_aload_n (pc := 64) d1_mostFrom_64 rfl rfl ?_
      refine den_iload_n (pc := 65) d1_mostFrom_65 rfl rfl ?_
      refine den_iconst (pc := 66) d1_mostFrom_66 ?_
      refine den_iadd (pc := 67) d1_mostFrom_67 ?_
      refine den_iload_n (pc := 68) d1_mostFrom_68 rfl rfl ?_
      refine den_iconst (pc := 69) d1_mostFrom_69 ?_
      refine den_iload (pc := 70) d1_mostFrom_70 rfl ?_
      refine den_ishl (pc := 72) d1_mostFrom_72 ?_
      refine den_ior (pc := 73) d1_mostFrom_73 ?_
      refine den_callVI (pc := 74) (As := [vI (x1 + 1), vI (or32 x2 (shl32 1 x4))]) fv_1_50 rfl rfl (ok_50 _) (Nat.le_of_ble_eq_true rfl) hd2 d1_mostFrom_74 (hself (x1 + 1) (or32 x2 (shl32 1 x4)) h) (fun r2 h3 m4 o5 => ?_)
      refine den_iadd (pc := 77) d1_mostFrom_77 ?_
      refine den_istoreL (pc := 78) (L2 := fun y => [some (vA G 50), some (vI x1), some (vI x2), some (vI x3), some (vI x4), some (vI y)]) d1_mostFrom_78 (by decide) (fun _ => rfl) (fun u6 => ?_)
      refine den_iload_n (pc := 80) d1_mostFrom_80 rfl rfl ?_
      refine den_iload (pc := 81) d1_mostFrom_81 rfl ?_
      refine den_max (pc := 83) fm_1_53 (Nat.le_of_ble_eq_true rfl) (Nat.le_trans (by decide) hd) d1_mostFrom_83 ?_
      refine den_istore_nL (pc := 86) (L2 := fun y => [some (vA G 50), some (vI x1), some (vI x2), some (vI y), some (vI x4), some (vI u6)]) d1_mostFrom_86 rfl (by decide) (fun _ => rfl) (fun u7 => ?_)
      refine den_wk [true, true, true, true, true, false] rfl ?_
      exact t1_mostFrom_87 l G _ hd self d2 hd2 hself x1 x2 u7 x4 rec34 H34 h3
def l1_mostFrom_34 (self : Int → Int → AH → Option (Int × AH)) (x1 : Int) (x2 : Int) (x3 : Int) (x4 : Int) (h : AH) : Option (Int × AH) := fx (fun rec z => b1_mostFrom_34 self rec x1 x2 z.1 z.2.1 z.2.2) FU (x3, x4, h)
set_option maxRecDepth 100000 in
theorem tl1_mostFrom_34 (l : Launch) (G : Geo) (d : Nat) (hd : 3 ≤ d) (self : Int → Int → AH → Option (Int × AH)) (d2 : Nat) (hd2 : d2 + 1 ≤ d) (hself : ∀ (x1 : Int) (x2 : Int) (h : AH), Con l G m1_mostFrom rvI d2 [vA G 50, vI x1, vI x2] h (self x1 x2 h)) (x1 : Int) (x2 : Int) : ∀ (n : Nat) (z : Int × Int × AH), True → Den l G m1_mostFrom rvI d 34 [some (vA G 50), some (vI x1), some (vI x2), some (vI z.1), some (vI z.2.1), none] [] z.2.2 (fx (fun rec z => b1_mostFrom_34 self rec x1 x2 z.1 z.2.1 z.2.2) n z) :=
  den_fx (F := fun rec z => b1_mostFrom_34 self rec x1 x2 z.1 z.2.1 z.2.2) (P := fun z => True) (fL := fun z => [some (vA G 50), some (vI x1), some (vI x2), some (vI z.1), some (vI z.2.1), none]) (fs := fun z => []) (fh := fun z => z.2.2) (fun rec hrec z hz => t1_mostFrom_34 l G d hd self d2 hd2 hself x1 x2 z.1 z.2.1 rec (fun x3 x4 h => hrec (x3, x4, h) trivial) z.2.2 )
def e1_mostFrom (self : Int → Int → AH → Option (Int × AH)) (x1 : Int) (x2 : Int) (h : AH) : Option (Int × AH) :=
  if w32 x1 < w32 (h.2 50 2) then
    bnd (self (x1 + 1) x2 h) fun r8 h9 =>
    if w32 (and32 x2 (shl32 1 x1)) = 0 then
      lt (x1 + 1) fun u12 =>
      l1_mostFrom_34 self x1 x2 r8 u12 h9
    else
      some (r8, h9)
  else
    some (0, h)
def f1_mostFrom : Nat → Int → Int → AH → Option (Int × AH)
  | 0 => fun _ _ _ => none
  | n + 1 => fun x1 x2 h => e1_mostFrom (f1_mostFrom n) x1 x2 h
set_option maxRecDepth 100000 in
theorem t1_mostFrom_e (l : Launch) (G : Geo) (d : Nat) (hd : 3 ≤ d) (self : Int → Int → AH → Option (Int × AH)) (d2 : Nat) (hd2 : d2 + 1 ≤ d) (hself : ∀ (x1 : Int) (x2 : Int) (h : AH), Con l G m1_mostFrom rvI d2 [vA G 50, vI x1, vI x2] h (self x1 x2 h)) (x1 : Int) (x2 : Int) (h : AH) : Den l G m1_mostFrom rvI d 0 [some (vA G 50), some (vI x1), some (vI x2), none, none, none] [] h (e1_mostFrom self x1 x2 h) := by
  unfold e1_mostFrom
  refine den_iload_n (pc := 0) d1_mostFrom_0 rfl rfl ?_
  refine den_aload_n (pc := 1) d1_mostFrom_1 rfl rfl ?_
  refine den_getI (pc := 2) fa_1_24 (ok_50 _) d1_mostFrom_2 ?_
  refine den_icmp_lt (pc := 5) (tgt := 10) d1_mostFrom_5 (by decide) rfl rfl (fun _ => ?_) (fun _ => ?_)
  · refine den_aload_n (pc := 10) d1_mostFrom_10 rfl rfl ?_
    refine den_iload_n (pc := 11) d1_mostFrom_11 rfl rfl ?_
    refine den_iconst (pc := 12) d1_mostFrom_12 ?_
    refine den_iadd (pc := 13) d1_mostFrom_13 ?_
    refine den_iload_n (pc := 14) d1_mostFrom_14 rfl rfl ?_
    refine den_callVI (pc := 15) (As := [vI (x1 + 1), vI x2]) fv_1_50 rfl rfl (ok_50 _) (Nat.le_of_ble_eq_true rfl) hd2 d1_mostFrom_15 (hself (x1 + 1) x2 h) (fun r8 h9 m10 o11 => ?_)
    refine den_istore_n (pc := 18) (L2 := [some (vA G 50), some (vI x1), some (vI x2), some (vI r8), none, none]) d1_mostFrom_18 rfl (by decide) rfl ?_
    refine den_iload_n (pc := 19) d1_mostFrom_19 rfl rfl ?_
    refine den_iconst (pc := 20) d1_mostFrom_20 ?_
    refine den_iload_n (pc := 21) d1_mostFrom_21 rfl rfl ?_
    refine den_ishl (pc := 22) d1_mostFrom_22 ?_
    refine den_iand (pc := 23) d1_mostFrom_23 ?_
    refine den_if_eq (pc := 24) (tgt := 29) d1_mostFrom_24 (by decide) rfl (fun _ => ?_) (fun _ => ?_)
    · refine den_iload_n (pc := 29) d1_mostFrom_29 rfl rfl ?_
      refine den_iconst (pc := 30) d1_mostFrom_30 ?_
      refine den_iadd (pc := 31) d1_mostFrom_31 ?_
      refine den_istoreL (pc := 32) (L2 := fun y => [some (vA G 50), some (vI x1), some (vI x2), some (vI r8), some (vI y), none]) d1_mostFrom_32 (by decide) (fun _ => rfl) (fun u12 => ?_)
      exact tl1_mostFrom_34 l G _ hd self d2 hd2 hself x1 x2 FU (r8, u12, h9) trivial
    · refine den_iload_n (pc := 27) d1_mostFrom_27 rfl rfl ?_
      exact den_iret (pc := 28) rfl d1_mostFrom_28
  · refine den_iconst (pc := 8) d1_mostFrom_8 ?_
    exact den_iret (pc := 9) rfl d1_mostFrom_9
theorem c1_mostFrom (l : Launch) (G : Geo) : ∀ (n : Nat) (x1 : Int) (x2 : Int) (h : AH) , Con l G m1_mostFrom rvI (3 + n) [vA G 50, vI x1, vI x2] h (f1_mostFrom n x1 x2 h) := by
  intro n
  induction n with
  | zero =>
    intro x1 x2 h  r h2 q
    cases q
  | succ n ih =>
    intro x1 x2 h 
    exact con_I rfl (by decide) rfl rfl (Nat.le_of_ble_eq_true rfl) (t1_mostFrom_e l G _ (Nat.le_add_right _ _) (f1_mostFrom n) (3 + n) (Nat.le_refl _) ih x1 x2 h )
theorem d1_mostInAll_0 : decode m1_mostInAll.2.1 0 = .ok (.aload_n 0, 1) := by decide +kernel
theorem d1_mostInAll_1 : decode m1_mostInAll.2.1 1 = .ok (.iconst 0, 1) := by decide +kernel
theorem d1_mostInAll_2 : decode m1_mostInAll.2.1 2 = .ok (.iconst 0, 1) := by decide +kernel
theorem d1_mostInAll_3 : decode m1_mostInAll.2.1 3 = .ok (.invokevirtual 50, 3) := by decide +kernel
theorem d1_mostInAll_6 : decode m1_mostInAll.2.1 6 = .ok (.ireturn, 1) := by decide +kernel
def f1_mostInAll (h : AH) : Option (Int × AH) :=
  bnd (f1_mostFrom 10 0 0 h) fun r1 h2 =>
  some (r1, h2)
set_option maxRecDepth 100000 in
theorem c1_mostInAll (l : Launch) (G : Geo) (h : AH) : Con l G m1_mostInAll rvI 14 [vA G 50] h (f1_mostInAll  h) := by
  have hd : 14 ≤ 14 := Nat.le_refl _
  refine con_I rfl (by decide) rfl rfl (Nat.le_of_ble_eq_true rfl) (L := [some (vA G 50)]) ?_
  unfold f1_mostInAll
  refine den_aload_n (pc := 0) d1_mostInAll_0 rfl rfl ?_
  refine den_iconst (pc := 1) d1_mostInAll_1 ?_
  refine den_iconst (pc := 2) d1_mostInAll_2 ?_
  refine den_callVI (pc := 3) (As := [vI 0, vI 0]) fv_1_50 rfl rfl (ok_50 _) (Nat.le_of_ble_eq_true rfl) (Nat.le_trans (by decide) hd) d1_mostInAll_3 (c1_mostFrom l G 10 0 0 h) (fun r1 h2 m3 o4 => ?_)
  exact den_iret (pc := 6) rfl d1_mostInAll_6
theorem d1_withAll_0 : decode m1_withAll.2.1 0 = .ok (.iconst 0, 1) := by decide +kernel
theorem d1_withAll_1 : decode m1_withAll.2.1 1 = .ok (.istore_n 2, 1) := by decide +kernel
theorem d1_withAll_2 : decode m1_withAll.2.1 2 = .ok (.iconst 0, 1) := by decide +kernel
theorem d1_withAll_3 : decode m1_withAll.2.1 3 = .ok (.istore_n 3, 1) := by decide +kernel
theorem d1_withAll_4 : decode m1_withAll.2.1 4 = .ok (.iload_n 3, 1) := by decide +kernel
theorem d1_withAll_5 : decode m1_withAll.2.1 5 = .ok (.aload_n 0, 1) := by decide +kernel
theorem d1_withAll_6 : decode m1_withAll.2.1 6 = .ok (.getfield 24, 3) := by decide +kernel
theorem d1_withAll_9 : decode m1_withAll.2.1 9 = .ok (.if_icmp .ge 32, 3) := by decide +kernel
theorem d1_withAll_12 : decode m1_withAll.2.1 12 = .ok (.iload_n 2, 1) := by decide +kernel
theorem d1_withAll_13 : decode m1_withAll.2.1 13 = .ok (.iload_n 3, 1) := by decide +kernel
theorem d1_withAll_14 : decode m1_withAll.2.1 14 = .ok (.iload_n 1, 1) := by decide +kernel
theorem d1_withAll_15 : decode m1_withAll.2.1 15 = .ok (.if_icmp .ne 7, 3) := by decide +kernel
theorem d1_withAll_18 : decode m1_withAll.2.1 18 = .ok (.iconst 0, 1) := by decide +kernel
theorem d1_withAll_19 : decode m1_withAll.2.1 19 = .ok (.goto 14, 3) := by decide +kernel
theorem d1_withAll_22 : decode m1_withAll.2.1 22 = .ok (.aload_n 0, 1) := by decide +kernel
theorem d1_withAll_23 : decode m1_withAll.2.1 23 = .ok (.getfield 15, 3) := by decide +kernel
theorem d1_withAll_26 : decode m1_withAll.2.1 26 = .ok (.iload_n 1, 1) := by decide +kernel
theorem d1_withAll_27 : decode m1_withAll.2.1 27 = .ok (.bipush 8, 2) := by decide +kernel
theorem d1_withAll_29 : decode m1_withAll.2.1 29 = .ok (.imul, 1) := by decide +kernel
theorem d1_withAll_30 : decode m1_withAll.2.1 30 = .ok (.iload_n 3, 1) := by decide +kernel
theorem d1_withAll_31 : decode m1_withAll.2.1 31 = .ok (.iadd, 1) := by decide +kernel
theorem d1_withAll_32 : decode m1_withAll.2.1 32 = .ok (.iaload, 1) := by decide +kernel
theorem d1_withAll_33 : decode m1_withAll.2.1 33 = .ok (.iadd, 1) := by decide +kernel
theorem d1_withAll_34 : decode m1_withAll.2.1 34 = .ok (.istore_n 2, 1) := by decide +kernel
theorem d1_withAll_35 : decode m1_withAll.2.1 35 = .ok (.iinc 3 1, 3) := by decide +kernel
theorem d1_withAll_38 : decode m1_withAll.2.1 38 = .ok (.goto (-34), 3) := by decide +kernel
theorem d1_withAll_41 : decode m1_withAll.2.1 41 = .ok (.iload_n 2, 1) := by decide +kernel
theorem d1_withAll_42 : decode m1_withAll.2.1 42 = .ok (.ireturn, 1) := by decide +kernel
def b1_withAll_33 (rec4 : Int × Int × AH → Option (Int × AH)) (x1 : Int) (x3 : Int) (s0 : Int) (s1 : Int) (h : AH) : Option (Int × AH) :=
  lt (s1 + s0) fun u1 =>
  rec4 (u1, (x3 + 1), h)
set_option maxRecDepth 100000 in
theorem t1_withAll_33 (l : Launch) (G : Geo) (d : Nat) (hd : 2 ≤ d) (x1 : Int) (x3 : Int) (s0 : Int) (s1 : Int) (rec4 : Int × Int × AH → Option (Int × AH)) (H4 : ∀ (x2 : Int) (x3 : Int) (h : AH), Den l G m1_withAll rvI d 4 [some (vA G 50), some (vI x1), some (vI x2), some (vI x3)] [] h (rec4 (x2, x3, h))) (h : AH) : Den l G m1_withAll rvI d 33 [some (vA G 50), some (vI x1), none, some (vI x3)] [vI s0, vI s1] h (b1_withAll_33 rec4 x1 x3 s0 s1 h) := by
  unfold b1_withAll_33
  refine den_iadd (pc := 33) d1_withAll_33 ?_
  refine den_istore_nL (pc := 34) (L2 := fun y => [some (vA G 50), some (vI x1), some (vI y), some (vI x3)]) d1_withAll_34 rfl (by decide) (fun _ => rfl) (fun u1 => ?_)
  refine den_iinc (pc := 35) (L2 := [some (vA G 50), some (vI x1), some (vI u1), some (vI (x3 + 1))]) d1_withAll_35 (by decide) rfl rfl ?_
  refine den_goto (pc := 38) (tgt := 4) d1_withAll_38 (by decide) ?_
  exact H4 u1 (x3 + 1) h
def b1_withAll_4 (rec4 : Int × Int × AH → Option (Int × AH)) (x1 : Int) (x2 : Int) (x3 : Int) (h : AH) : Option (Int × AH) :=
  if w32 (h.2 50 2) ≤ w32 x3 then
    some (x2, h)
  else
    if ¬ w32 x3 = w32 x1 then
      asrt (0 ≤ w32 ((x1 * 8) + x3) ∧ w32 ((x1 * 8) + x3) < 64) <|
      b1_withAll_33 rec4 x1 x3 (h.2 52 (w32 ((x1 * 8) + x3)).toNat) x2 h
    else
      b1_withAll_33 rec4 x1 x3 0 x2 h
set_option maxRecDepth 100000 in
theorem t1_withAll_4 (l : Launch) (G : Geo) (d : Nat) (hd : 2 ≤ d) (x1 : Int) (x2 : Int) (x3 : Int) (rec4 : Int × Int × AH → Option (Int × AH)) (H4 : ∀ (x2 : Int) (x3 : Int) (h : AH), Den l G m1_withAll rvI d 4 [some (vA G 50), some (vI x1), some (vI x2), some (vI x3)] [] h (rec4 (x2, x3, h))) (h : AH) : Den l G m1_withAll rvI d 4 [some (vA G 50), some (vI x1), some (vI x2), some (vI x3)] [] h (b1_withAll_4 rec4 x1 x2 x3 h) := by
  unfold b1_withAll_4
  refine den_iload_n (pc := 4) d1_withAll_4 rfl rfl ?_
  refine den_aload_n (pc := 5) d1_withAll_5 rfl rfl ?_
  refine den_getI (pc := 6) fa_1_24 (ok_50 _) d1_withAll_6 ?_
  refine den_icmp_ge (pc := 9) (tgt := 41) d1_withAll_9 (by decide) rfl rfl (fun _ => ?_) (fun _ => ?_)
  · refine den_iload_n (pc := 41) d1_withAll_41 rfl rfl ?_
    exact den_iret (pc := 42) rfl d1_withAll_42
  · refine den_iload_n (pc := 12) d1_withAll_12 rfl rfl ?_
    refine den_iload_n (pc := 13) d1_withAll_13 rfl rfl ?_
    refine den_iload_n (pc := 14) d1_withAll_14 rfl rfl ?_
    refine den_icmp_ne (pc := 15) (tgt := 22) d1_withAll_15 (by decide) rfl rfl (fun _ => ?_) (fun _ => ?_)
    · refine den_aload_n (pc := 22) d1_withAll_22 rfl rfl ?_
      refine den_getR (pc := 23) (b := 52) fa_1_15 (ok_50 _) rfl d1_withAll_23 ?_
      refine den_iload_n (pc := 26) d1_withAll_26 rfl rfl ?_
      refine den_bipush (pc := 27) d1_withAll_27 (by decide) ?_
      refine den_imul (pc := 29) d1_withAll_29 ?_
      refine den_iload_n (pc := 30) d1_withAll_30 rfl rfl ?_
      refine den_iadd (pc := 31) d1_withAll_31 ?_
      refine den_asrt (fun a2 => ?_)
      refine den_iaload (pc := 32) sh_52 (sz_lt (by decide)) rfl a2 d1_withAll_32 ?_
      refine den_wk [true, true, false, true] rfl ?_
      exact t1_withAll_33 l G _ hd x1 x3 (h.2 52 (w32 ((x1 * 8) + x3)).toNat) x2 rec4 H4 h
    · refine den_iconst (pc := 18) d1_withAll_18 ?_
      refine den_goto (pc := 19) (tgt := 33) d1_withAll_19 (by decide) ?_
      refine den_wk [true, true, false, true] rfl ?_
      exact t1_withAll_33 l G _ hd x1 x3 0 x2 rec4 H4 h
def l1_withAll_4 (x1 : Int) (x2 : Int) (x3 : Int) (h : AH) : Option (Int × AH) := fx (fun rec z => b1_withAll_4 rec x1 z.1 z.2.1 z.2.2) FU (x2, x3, h)
set_option maxRecDepth 100000 in
theorem tl1_withAll_4 (l : Launch) (G : Geo) (d : Nat) (hd : 2 ≤ d) (x1 : Int) : ∀ (n : Nat) (z : Int × Int × AH), True → Den l G m1_withAll rvI d 4 [some (vA G 50), some (vI x1), some (vI z.1), some (vI z.2.1)] [] z.2.2 (fx (fun rec z => b1_withAll_4 rec x1 z.1 z.2.1 z.2.2) n z) :=
  den_fx (F := fun rec z => b1_withAll_4 rec x1 z.1 z.2.1 z.2.2) (P := fun z => True) (fL := fun z => [some (vA G 50), some (vI x1), some (vI z.1), some (vI z.2.1)]) (fs := fun z => []) (fh := fun z => z.2.2) (fun rec hrec z hz => t1_withAll_4 l G d hd x1 z.1 z.2.1 rec (fun x2 x3 h => hrec (x2, x3, h) trivial) z.2.2 )
def f1_withAll (x1 : Int) (h : AH) : Option (Int × AH) :=
  l1_withAll_4 x1 0 0 h
set_option maxRecDepth 100000 in
theorem c1_withAll (l : Launch) (G : Geo) (x1 : Int) (h : AH) : Con l G m1_withAll rvI 2 [vA G 50, vI x1] h (f1_withAll x1 h) := by
  have hd : 2 ≤ 2 := Nat.le_refl _
  refine con_I rfl (by decide) rfl rfl (Nat.le_of_ble_eq_true rfl) (L := [some (vA G 50), some (vI x1), none, none]) ?_
  unfold f1_withAll
  refine den_iconst (pc := 0) d1_withAll_0 ?_
  refine den_istore_n (pc := 1) (L2 := [some (vA G 50), some (vI x1), some (vI 0), none]) d1_withAll_1 rfl (by decide) rfl ?_
  refine den_iconst (pc := 2) d1_withAll_2 ?_
  refine den_istore_n (pc := 3) (L2 := [some (vA G 50), some (vI x1), some (vI 0), some (vI 0)]) d1_withAll_3 rfl (by decide) rfl ?_
  exact tl1_withAll_4 l G _ hd x1 FU (0, 0, h) trivial
theorem d1_aheadOf_0 : decode m1_aheadOf.2.1 0 = .ok (.iconst 0, 1) := by decide +kernel
theorem d1_aheadOf_1 : decode m1_aheadOf.2.1 1 = .ok (.istore_n 2, 1) := by decide +kernel
theorem d1_aheadOf_2 : decode m1_aheadOf.2.1 2 = .ok (.iconst 0, 1) := by decide +kernel
theorem d1_aheadOf_3 : decode m1_aheadOf.2.1 3 = .ok (.istore_n 3, 1) := by decide +kernel
theorem d1_aheadOf_4 : decode m1_aheadOf.2.1 4 = .ok (.iload_n 3, 1) := by decide +kernel
theorem d1_aheadOf_5 : decode m1_aheadOf.2.1 5 = .ok (.aload_n 0, 1) := by decide +kernel
theorem d1_aheadOf_6 : decode m1_aheadOf.2.1 6 = .ok (.getfield 24, 3) := by decide +kernel
theorem d1_aheadOf_9 : decode m1_aheadOf.2.1 9 = .ok (.if_icmp .ge 45, 3) := by decide +kernel
theorem d1_aheadOf_12 : decode m1_aheadOf.2.1 12 = .ok (.aload_n 0, 1) := by decide +kernel
theorem d1_aheadOf_13 : decode m1_aheadOf.2.1 13 = .ok (.iload_n 3, 1) := by decide +kernel
theorem d1_aheadOf_14 : decode m1_aheadOf.2.1 14 = .ok (.invokevirtual 62, 3) := by decide +kernel
theorem d1_aheadOf_17 : decode m1_aheadOf.2.1 17 = .ok (.aload_n 0, 1) := by decide +kernel
theorem d1_aheadOf_18 : decode m1_aheadOf.2.1 18 = .ok (.iload_n 1, 1) := by decide +kernel
theorem d1_aheadOf_19 : decode m1_aheadOf.2.1 19 = .ok (.invokevirtual 62, 3) := by decide +kernel
theorem d1_aheadOf_22 : decode m1_aheadOf.2.1 22 = .ok (.isub, 1) := by decide +kernel
theorem d1_aheadOf_23 : decode m1_aheadOf.2.1 23 = .ok (.istore 4, 2) := by decide +kernel
theorem d1_aheadOf_25 : decode m1_aheadOf.2.1 25 = .ok (.iload_n 2, 1) := by decide +kernel
theorem d1_aheadOf_26 : decode m1_aheadOf.2.1 26 = .ok (.iload 4, 2) := by decide +kernel
theorem d1_aheadOf_28 : decode m1_aheadOf.2.1 28 = .ok (.ifCond .gt 13, 3) := by decide +kernel
theorem d1_aheadOf_31 : decode m1_aheadOf.2.1 31 = .ok (.iload 4, 2) := by decide +kernel
theorem d1_aheadOf_33 : decode m1_aheadOf.2.1 33 = .ok (.ifCond .ne 12, 3) := by decide +kernel
theorem d1_aheadOf_36 : decode m1_aheadOf.2.1 36 = .ok (.iload_n 3, 1) := by decide +kernel
theorem d1_aheadOf_37 : decode m1_aheadOf.2.1 37 = .ok (.iload_n 1, 1) := by decide +kernel
theorem d1_aheadOf_38 : decode m1_aheadOf.2.1 38 = .ok (.if_icmp .ge 7, 3) := by decide +kernel
theorem d1_aheadOf_41 : decode m1_aheadOf.2.1 41 = .ok (.iconst 1, 1) := by decide +kernel
theorem d1_aheadOf_42 : decode m1_aheadOf.2.1 42 = .ok (.goto 4, 3) := by decide +kernel
theorem d1_aheadOf_45 : decode m1_aheadOf.2.1 45 = .ok (.iconst 0, 1) := by decide +kernel
theorem d1_aheadOf_46 : decode m1_aheadOf.2.1 46 = .ok (.iadd, 1) := by decide +kernel
theorem d1_aheadOf_47 : decode m1_aheadOf.2.1 47 = .ok (.istore_n 2, 1) := by decide +kernel
theorem d1_aheadOf_48 : decode m1_aheadOf.2.1 48 = .ok (.iinc 3 1, 3) := by decide +kernel
theorem d1_aheadOf_51 : decode m1_aheadOf.2.1 51 = .ok (.goto (-47), 3) := by decide +kernel
theorem d1_aheadOf_54 : decode m1_aheadOf.2.1 54 = .ok (.iload_n 2, 1) := by decide +kernel
theorem d1_aheadOf_55 : decode m1_aheadOf.2.1 55 = .ok (.ireturn, 1) := by decide +kernel
def b1_aheadOf_46 (rec4 : Int × Int × AH → Option (Int × AH)) (x1 : Int) (x3 : Int) (s0 : Int) (s1 : Int) (h : AH) : Option (Int × AH) :=
  lt (s1 + s0) fun u1 =>
  rec4 (u1, (x3 + 1), h)
set_option maxRecDepth 100000 in
theorem t1_aheadOf_46 (l : Launch) (G : Geo) (d : Nat) (hd : 3 ≤ d) (x1 : Int) (x3 : Int) (s0 : Int) (s1 : Int) (rec4 : Int × Int × AH → Option (Int × AH)) (H4 : ∀ (x2 : Int) (x3 : Int) (h : AH), Den l G m1_aheadOf rvI d 4 [some (vA G 50), some (vI x1), some (vI x2), some (vI x3), none] [] h (rec4 (x2, x3, h))) (h : AH) : Den l G m1_aheadOf rvI d 46 [some (vA G 50), some (vI x1), none, some (vI x3), none] [vI s0, vI s1] h (b1_aheadOf_46 rec4 x1 x3 s0 s1 h) := by
  unfold b1_aheadOf_46
  refine den_iadd (pc := 46) d1_aheadOf_46 ?_
  refine den_istore_nL (pc := 47) (L2 := fun y => [some (vA G 50), some (vI x1), some (vI y), some (vI x3), none]) d1_aheadOf_47 rfl (by decide) (fun _ => rfl) (fun u1 => ?_)
  refine den_iinc (pc := 48) (L2 := [some (vA G 50), some (vI x1), some (vI u1), some (vI (x3 + 1)), none]) d1_aheadOf_48 (by decide) rfl rfl ?_
  refine den_goto (pc := 51) (tgt := 4) d1_aheadOf_51 (by decide) ?_
  exact H4 u1 (x3 + 1) h
def b1_aheadOf_41 (rec4 : Int × Int × AH → Option (Int × AH)) (x1 : Int) (x3 : Int) (s0 : Int) (h : AH) : Option (Int × AH) :=
  b1_aheadOf_46 rec4 x1 x3 1 s0 h
set_option maxRecDepth 100000 in
theorem t1_aheadOf_41 (l : Launch) (G : Geo) (d : Nat) (hd : 3 ≤ d) (x1 : Int) (x3 : Int) (s0 : Int) (rec4 : Int × Int × AH → Option (Int × AH)) (H4 : ∀ (x2 : Int) (x3 : Int) (h : AH), Den l G m1_aheadOf rvI d 4 [some (vA G 50), some (vI x1), some (vI x2), some (vI x3), none] [] h (rec4 (x2, x3, h))) (h : AH) : Den l G m1_aheadOf rvI d 41 [some (vA G 50), some (vI x1), none, some (vI x3), none] [vI s0] h (b1_aheadOf_41 rec4 x1 x3 s0 h) := by
  unfold b1_aheadOf_41
  refine den_iconst (pc := 41) d1_aheadOf_41 ?_
  refine den_goto (pc := 42) (tgt := 46) d1_aheadOf_42 (by decide) ?_
  exact t1_aheadOf_46 l G _ hd x1 x3 1 s0 rec4 H4 h
def b1_aheadOf_45 (rec4 : Int × Int × AH → Option (Int × AH)) (x1 : Int) (x3 : Int) (s0 : Int) (h : AH) : Option (Int × AH) :=
  b1_aheadOf_46 rec4 x1 x3 0 s0 h
set_option maxRecDepth 100000 in
theorem t1_aheadOf_45 (l : Launch) (G : Geo) (d : Nat) (hd : 3 ≤ d) (x1 : Int) (x3 : Int) (s0 : Int) (rec4 : Int × Int × AH → Option (Int × AH)) (H4 : ∀ (x2 : Int) (x3 : Int) (h : AH), Den l G m1_aheadOf rvI d 4 [some (vA G 50), some (vI x1), some (vI x2), some (vI x3), none] [] h (rec4 (x2, x3, h))) (h : AH) : Den l G m1_aheadOf rvI d 45 [some (vA G 50), some (vI x1), none, some (vI x3), none] [vI s0] h (b1_aheadOf_45 rec4 x1 x3 s0 h) := by
  unfold b1_aheadOf_45
  refine den_iconst (pc := 45) d1_aheadOf_45 ?_
  exact t1_aheadOf_46 l G _ hd x1 x3 0 s0 rec4 H4 h
def b1_aheadOf_4 (rec4 : Int × Int × AH → Option (Int × AH)) (x1 : Int) (x2 : Int) (x3 : Int) (h : AH) : Option (Int × AH) :=
  if w32 (h.2 50 2) ≤ w32 x3 then
    some (x2, h)
  else
    bnd (f1_withAll x3 h) fun r2 h3 =>
    bnd (f1_withAll x1 h3) fun r6 h7 =>
    lt (r2 - r6) fun u10 =>
    if 0 < w32 u10 then
      b1_aheadOf_41 rec4 x1 x3 x2 h7
    else
      if ¬ w32 u10 = 0 then
        b1_aheadOf_45 rec4 x1 x3 x2 h7
      else
        if w32 x1 ≤ w32 x3 then
          b1_aheadOf_45 rec4 x1 x3 x2 h7
        else
          b1_aheadOf_41 rec4 x1 x3 x2 h7
set_option maxRecDepth 100000 in
theorem t1_aheadOf_4 (l : Launch) (G : Geo) (d : Nat) (hd : 3 ≤ d) (x1 : Int) (x2 : Int) (x3 : Int) (rec4 : Int × Int × AH → Option (Int × AH)) (H4 : ∀ (x2 : Int) (x3 : Int) (h : AH), Den l G m1_aheadOf rvI d 4 [some (vA G 50), some (vI x1), some (vI x2), some (vI x3), none] [] h (rec4 (x2, x3, h))) (h : AH) : Den l G m1_aheadOf rvI d 4 [some (vA G 50), some (vI x1), some (vI x2), some (vI x3), none] [] h (b1_aheadOf_4 rec4 x1 x2 x3 h) := by
  unfold b1_aheadOf_4
  refine den_iload_n (pc := 4) d1_aheadOf_4 rfl rfl ?_
  refine den_aload_n (pc := 5) d1_aheadOf_5 rfl rfl ?_
  refine den_getI (pc := 6) fa_1_24 (ok_50 _) d1_aheadOf_6 ?_
  refine den_icmp_ge (pc := 9) (tgt := 54) d1_aheadOf_9 (by decide) rfl rfl (fun _ => ?_) (fun _ => ?_)
  · refine den_iload_n (pc := 54) d1_aheadOf_54 rfl rfl ?_
    exact den_iret (pc := 55) rfl d1_aheadOf_55
  · refine den_aload_n (pc := 12) d1_aheadOf_12 rfl rfl ?_
    refine den_iload_n (pc := 13) d1_aheadOf_13 rfl rfl ?_
    refine den_callVI (pc := 14) (As := [vI x3]) fv_1_62 rfl rfl (ok_50 _) (Nat.le_of_ble_eq_true rfl) (Nat.le_trans (by decide) hd) d1_aheadOf_14 (c1_withAll l G x3 h) (fun r2 h3 m4 o5 => ?_)
    refine den_aload_n (pc := 17) d1_aheadOf_17 rfl rfl ?_
    refine den_iload_n (pc := 18) d1_aheadOf_18 rfl rfl ?_
    refine den_callVI (pc := 19) (As := [vI x1]) fv_1_62 rfl rfl (ok_50 _) (Nat.le_of_ble_eq_true rfl) (Nat.le_trans (by decide) hd) d1_aheadOf_19 (c1_withAll l G x1 h3) (fun r6 h7 m8 o9 => ?_)
    refine den_isub (pc := 22) d1_aheadOf_22 ?_
    refine den_istoreL (pc := 23) (L2 := fun y => [some (vA G 50), some (vI x1), some (vI x2), some (vI x3), some (vI y)]) d1_aheadOf_23 (by decide) (fun _ => rfl) (fun u10 => ?_)
    refine den_iload_n (pc := 25) d1_aheadOf_25 rfl rfl ?_
    refine den_iload (pc := 26) d1_aheadOf_26 rfl ?_
    refine den_if_gt (pc := 28) (tgt := 41) d1_aheadOf_28 (by decide) rfl (fun _ => ?_) (fun _ => ?_)
    · refine den_wk [true, true, false, true, false] rfl ?_
      exact t1_aheadOf_41 l G _ hd x1 x3 x2 rec4 H4 h7
    · refine den_iload (pc := 31) d1_aheadOf_31 rfl ?_
      refine den_if_ne (pc := 33) (tgt := 45) d1_aheadOf_33 (by decide) rfl (fun _ => ?_) (fun _ => ?_)
      · refine den_wk [true, true, false, true, false] rfl ?_
        exact t1_aheadOf_45 l G _ hd x1 x3 x2 rec4 H4 h7
      · refine den_iload_n (pc := 36) d1_aheadOf_36 rfl rfl ?_
        refine den_iload_n (pc := 37) d1_aheadOf_37 rfl rfl ?_
        refine den_icmp_ge (pc := 38) (tgt := 45) d1_aheadOf_38 (by decide) rfl rfl (fun _ => ?_) (fun _ => ?_)
        · refine den_wk [true, true, false, true, false] rfl ?_
          exact t1_aheadOf_45 l G _ hd x1 x3 x2 rec4 H4 h7
        · refine den_wk [true, true, false, true, false] rfl ?_
          exact t1_aheadOf_41 l G _ hd x1 x3 x2 rec4 H4 h7
def l1_aheadOf_4 (x1 : Int) (x2 : Int) (x3 : Int) (h : AH) : Option (Int × AH) := fx (fun rec z => b1_aheadOf_4 rec x1 z.1 z.2.1 z.2.2) FU (x2, x3, h)
set_option maxRecDepth 100000 in
theorem tl1_aheadOf_4 (l : Launch) (G : Geo) (d : Nat) (hd : 3 ≤ d) (x1 : Int) : ∀ (n : Nat) (z : Int × Int × AH), True → Den l G m1_aheadOf rvI d 4 [some (vA G 50), some (vI x1), some (vI z.1), some (vI z.2.1), none] [] z.2.2 (fx (fun rec z => b1_aheadOf_4 rec x1 z.1 z.2.1 z.2.2) n z) :=
  den_fx (F := fun rec z => b1_aheadOf_4 rec x1 z.1 z.2.1 z.2.2) (P := fun z => True) (fL := fun z => [some (vA G 50), some (vI x1), some (vI z.1), some (vI z.2.1), none]) (fs := fun z => []) (fh := fun z => z.2.2) (fun rec hrec z hz => t1_aheadOf_4 l G d hd x1 z.1 z.2.1 rec (fun x2 x3 h => hrec (x2, x3, h) trivial) z.2.2 )
def f1_aheadOf (x1 : Int) (h : AH) : Option (Int × AH) :=
  l1_aheadOf_4 x1 0 0 h
set_option maxRecDepth 100000 in
theorem c1_aheadOf (l : Launch) (G : Geo) (x1 : Int) (h : AH) : Con l G m1_aheadOf rvI 3 [vA G 50, vI x1] h (f1_aheadOf x1 h) := by
  have hd : 3 ≤ 3 := Nat.le_refl _
  refine con_I rfl (by decide) rfl rfl (Nat.le_of_ble_eq_true rfl) (L := [some (vA G 50), some (vI x1), none, none, none]) ?_
  unfold f1_aheadOf
  refine den_iconst (pc := 0) d1_aheadOf_0 ?_
  refine den_istore_n (pc := 1) (L2 := [some (vA G 50), some (vI x1), some (vI 0), none, none]) d1_aheadOf_1 rfl (by decide) rfl ?_
  refine den_iconst (pc := 2) d1_aheadOf_2 ?_
  refine den_istore_n (pc := 3) (L2 := [some (vA G 50), some (vI x1), some (vI 0), some (vI 0), none]) d1_aheadOf_3 rfl (by decide) rfl ?_
  exact tl1_aheadOf_4 l G _ hd x1 FU (0, 0, h) trivial
theorem d1_ranked_0 : decode m1_ranked.2.1 0 = .ok (.iconst 0, 1) := by decide +kernel
theorem d1_ranked_1 : decode m1_ranked.2.1 1 = .ok (.istore_n 2, 1) := by decide +kernel
theorem d1_ranked_2 : decode m1_ranked.2.1 2 = .ok (.iload_n 2, 1) := by decide +kernel
theorem d1_ranked_3 : decode m1_ranked.2.1 3 = .ok (.aload_n 0, 1) := by decide +kernel
theorem d1_ranked_4 : decode m1_ranked.2.1 4 = .ok (.getfield 24, 3) := by decide +kernel
theorem d1_ranked_7 : decode m1_ranked.2.1 7 = .ok (.if_icmp .ge 20, 3) := by decide +kernel
theorem d1_ranked_10 : decode m1_ranked.2.1 10 = .ok (.aload_n 0, 1) := by decide +kernel
theorem d1_ranked_11 : decode m1_ranked.2.1 11 = .ok (.iload_n 2, 1) := by decide +kernel
theorem d1_ranked_12 : decode m1_ranked.2.1 12 = .ok (.invokevirtual 58, 3) := by decide +kernel
theorem d1_ranked_15 : decode m1_ranked.2.1 15 = .ok (.iload_n 1, 1) := by decide +kernel
theorem d1_ranked_16 : decode m1_ranked.2.1 16 = .ok (.if_icmp .ne 5, 3) := by decide +kernel
theorem d1_ranked_19 : decode m1_ranked.2.1 19 = .ok (.iload_n 2, 1) := by decide +kernel
theorem d1_ranked_20 : decode m1_ranked.2.1 20 = .ok (.ireturn, 1) := by decide +kernel
theorem d1_ranked_21 : decode m1_ranked.2.1 21 = .ok (.iinc 2 1, 3) := by decide +kernel
theorem d1_ranked_24 : decode m1_ranked.2.1 24 = .ok (.goto (-22), 3) := by decide +kernel
theorem d1_ranked_27 : decode m1_ranked.2.1 27 = .ok (.iconst (-1), 1) := by decide +kernel
theorem d1_ranked_28 : decode m1_ranked.2.1 28 = .ok (.ireturn, 1) := by decide +kernel
def b1_ranked_2 (rec2 : Int × AH → Option (Int × AH)) (x1 : Int) (x2 : Int) (h : AH) : Option (Int × AH) :=
  if w32 (h.2 50 2) ≤ w32 x2 then
    some ((-1), h)
  else
    bnd (f1_aheadOf x2 h) fun r1 h2 =>
    if ¬ w32 r1 = w32 x1 then
      rec2 ((x2 + 1), h2)
    else
      some (x2, h2)
set_option maxRecDepth 100000 in
theorem t1_ranked_2 (l : Launch) (G : Geo) (d : Nat) (hd : 4 ≤ d) (x1 : Int) (x2 : Int) (rec2 : Int × AH → Option (Int × AH)) (H2 : ∀ (x2 : Int) (h : AH), Den l G m1_ranked rvI d 2 [some (vA G 50), some (vI x1), some (vI x2)] [] h (rec2 (x2, h))) (h : AH) : Den l G m1_ranked rvI d 2 [some (vA G 50), some (vI x1), some (vI x2)] [] h (b1_ranked_2 rec2 x1 x2 h) := by
  unfold b1_ranked_2
  refine den_iload_n (pc := 2) d1_ranked_2 rfl rfl ?_
  refine den_aload_n (pc := 3) d1_ranked_3 rfl rfl ?_
  refine den_getI (pc := 4) fa_1_24 (ok_50 _) d1_ranked_4 ?_
  refine den_icmp_ge (pc := 7) (tgt := 27) d1_ranked_7 (by decide) rfl rfl (fun _ => ?_) (fun _ => ?_)
  · refine den_iconst (pc := 27) d1_ranked_27 ?_
    exact den_iret (pc := 28) rfl d1_ranked_28
  · refine den_aload_n (pc := 10) d1_ranked_10 rfl rfl ?_
    refine den_iload_n (pc := 11) d1_ranked_11 rfl rfl ?_
    refine den_callVI (pc := 12) (As := [vI x2]) fv_1_58 rfl rfl (ok_50 _) (Nat.le_of_ble_eq_true rfl) (Nat.le_trans (by decide) hd) d1_ranked_12 (c1_aheadOf l G x2 h) (fun r1 h2 m3 o4 => ?_)
    refine den_iload_n (pc := 15) d1_ranked_15 rfl rfl ?_
    refine den_icmp_ne (pc := 16) (tgt := 21) d1_ranked_16 (by decide) rfl rfl (fun _ => ?_) (fun _ => ?_)
    · refine den_iinc (pc := 21) (L2 := [some (vA G 50), some (vI x1), some (vI (x2 + 1))]) d1_ranked_21 (by decide) rfl rfl ?_
      refine den_goto (pc := 24) (tgt := 2) d1_ranked_24 (by decide) ?_
      exact H2 (x2 + 1) h2
    · refine den_iload_n (pc := 19) d1_ranked_19 rfl rfl ?_
      exact den_iret (pc := 20) rfl d1_ranked_20
def l1_ranked_2 (x1 : Int) (x2 : Int) (h : AH) : Option (Int × AH) := fx (fun rec z => b1_ranked_2 rec x1 z.1 z.2) FU (x2, h)
set_option maxRecDepth 100000 in
theorem tl1_ranked_2 (l : Launch) (G : Geo) (d : Nat) (hd : 4 ≤ d) (x1 : Int) : ∀ (n : Nat) (z : Int × AH), True → Den l G m1_ranked rvI d 2 [some (vA G 50), some (vI x1), some (vI z.1)] [] z.2 (fx (fun rec z => b1_ranked_2 rec x1 z.1 z.2) n z) :=
  den_fx (F := fun rec z => b1_ranked_2 rec x1 z.1 z.2) (P := fun z => True) (fL := fun z => [some (vA G 50), some (vI x1), some (vI z.1)]) (fs := fun z => []) (fh := fun z => z.2) (fun rec hrec z hz => t1_ranked_2 l G d hd x1 z.1 rec (fun x2 h => hrec (x2, h) trivial) z.2 )
def f1_ranked (x1 : Int) (h : AH) : Option (Int × AH) :=
  l1_ranked_2 x1 0 h
set_option maxRecDepth 100000 in
theorem c1_ranked (l : Launch) (G : Geo) (x1 : Int) (h : AH) : Con l G m1_ranked rvI 4 [vA G 50, vI x1] h (f1_ranked x1 h) := by
  have hd : 4 ≤ 4 := Nat.le_refl _
  refine con_I rfl (by decide) rfl rfl (Nat.le_of_ble_eq_true rfl) (L := [some (vA G 50), some (vI x1), none]) ?_
  unfold f1_ranked
  refine den_iconst (pc := 0) d1_ranked_0 ?_
  refine den_istore_n (pc := 1) (L2 := [some (vA G 50), some (vI x1), some (vI 0)]) d1_ranked_1 rfl (by decide) rfl ?_
  exact tl1_ranked_2 l G _ hd x1 FU (0, h) trivial
theorem d1_acrossCamps_0 : decode m1_acrossCamps.2.1 0 = .ok (.iconst 0, 1) := by decide +kernel
theorem d1_acrossCamps_1 : decode m1_acrossCamps.2.1 1 = .ok (.istore_n 2, 1) := by decide +kernel
theorem d1_acrossCamps_2 : decode m1_acrossCamps.2.1 2 = .ok (.iconst 0, 1) := by decide +kernel
theorem d1_acrossCamps_3 : decode m1_acrossCamps.2.1 3 = .ok (.istore_n 3, 1) := by decide +kernel
theorem d1_acrossCamps_4 : decode m1_acrossCamps.2.1 4 = .ok (.iload_n 3, 1) := by decide +kernel
theorem d1_acrossCamps_5 : decode m1_acrossCamps.2.1 5 = .ok (.aload_n 0, 1) := by decide +kernel
theorem d1_acrossCamps_6 : decode m1_acrossCamps.2.1 6 = .ok (.getfield 24, 3) := by decide +kernel
theorem d1_acrossCamps_9 : decode m1_acrossCamps.2.1 9 = .ok (.if_icmp .ge 74, 3) := by decide +kernel
theorem d1_acrossCamps_12 : decode m1_acrossCamps.2.1 12 = .ok (.iload_n 3, 1) := by decide +kernel
theorem d1_acrossCamps_13 : decode m1_acrossCamps.2.1 13 = .ok (.iconst 1, 1) := by decide +kernel
theorem d1_acrossCamps_14 : decode m1_acrossCamps.2.1 14 = .ok (.iadd, 1) := by decide +kernel
theorem d1_acrossCamps_15 : decode m1_acrossCamps.2.1 15 = .ok (.istore 4, 2) := by decide +kernel
theorem d1_acrossCamps_17 : decode m1_acrossCamps.2.1 17 = .ok (.iload 4, 2) := by decide +kernel
theorem d1_acrossCamps_19 : decode m1_acrossCamps.2.1 19 = .ok (.aload_n 0, 1) := by decide +kernel
theorem d1_acrossCamps_20 : decode m1_acrossCamps.2.1 20 = .ok (.getfield 24, 3) := by decide +kernel
theorem d1_acrossCamps_23 : decode m1_acrossCamps.2.1 23 = .ok (.if_icmp .ge 54, 3) := by decide +kernel
theorem d1_acrossCamps_26 : decode m1_acrossCamps.2.1 26 = .ok (.iload_n 1, 1) := by decide +kernel
theorem d1_acrossCamps_27 : decode m1_acrossCamps.2.1 27 = .ok (.iload_n 3, 1) := by decide +kernel
theorem d1_acrossCamps_28 : decode m1_acrossCamps.2.1 28 = .ok (.iushr, 1) := by decide +kernel
theorem d1_acrossCamps_29 : decode m1_acrossCamps.2.1 29 = .ok (.iconst 1, 1) := by decide +kernel
theorem d1_acrossCamps_30 : decode m1_acrossCamps.2.1 30 = .ok (.iand, 1) := by decide +kernel
theorem d1_acrossCamps_31 : decode m1_acrossCamps.2.1 31 = .ok (.iload_n 1, 1) := by decide +kernel
theorem d1_acrossCamps_32 : decode m1_acrossCamps.2.1 32 = .ok (.iload 4, 2) := by decide +kernel
theorem d1_acrossCamps_34 : decode m1_acrossCamps.2.1 34 = .ok (.iushr, 1) := by decide +kernel
theorem d1_acrossCamps_35 : decode m1_acrossCamps.2.1 35 = .ok (.iconst 1, 1) := by decide +kernel
theorem d1_acrossCamps_36 : decode m1_acrossCamps.2.1 36 = .ok (.iand, 1) := by decide +kernel
theorem d1_acrossCamps_37 : decode m1_acrossCamps.2.1 37 = .ok (.if_icmp .eq 7, 3) := by decide +kernel
theorem d1_acrossCamps_40 : decode m1_acrossCamps.2.1 40 = .ok (.iconst 1, 1) := by decide +kernel
theorem d1_acrossCamps_41 : decode m1_acrossCamps.2.1 41 = .ok (.goto 4, 3) := by decide +kernel
theorem d1_acrossCamps_44 : decode m1_acrossCamps.2.1 44 = .ok (.iconst 0, 1) := by decide +kernel
theorem d1_acrossCamps_45 : decode m1_acrossCamps.2.1 45 = .ok (.istore 5, 2) := by decide +kernel
theorem d1_acrossCamps_47 : decode m1_acrossCamps.2.1 47 = .ok (.iload_n 2, 1) := by decide +kernel
theorem d1_acrossCamps_48 : decode m1_acrossCamps.2.1 48 = .ok (.iload 5, 2) := by decide +kernel
theorem d1_acrossCamps_50 : decode m1_acrossCamps.2.1 50 = .ok (.ifCond .eq 18, 3) := by decide +kernel
theorem d1_acrossCamps_53 : decode m1_acrossCamps.2.1 53 = .ok (.aload_n 0, 1) := by decide +kernel
theorem d1_acrossCamps_54 : decode m1_acrossCamps.2.1 54 = .ok (.getfield 15, 3) := by decide +kernel
theorem d1_acrossCamps_57 : decode m1_acrossCamps.2.1 57 = .ok (.iload_n 3, 1) := by decide +kernel
theorem d1_acrossCamps_58 : decode m1_acrossCamps.2.1 58 = .ok (.bipush 8, 2) := by decide +kernel
theorem d1_acrossCamps_60 : decode m1_acrossCamps.2.1 60 = .ok (.imul, 1) := by decide +kernel
theorem d1_acrossCamps_61 : decode m1_acrossCamps.2.1 61 = .ok (.iload 4, 2) := by decide +kernel
theorem d1_acrossCamps_63 : decode m1_acrossCamps.2.1 63 = .ok (.iadd, 1) := by decide +kernel
theorem d1_acrossCamps_64 : decode m1_acrossCamps.2.1 64 = .ok (.iaload, 1) := by decide +kernel
theorem d1_acrossCamps_65 : decode m1_acrossCamps.2.1 65 = .ok (.goto 4, 3) := by decide +kernel
theorem d1_acrossCamps_68 : decode m1_acrossCamps.2.1 68 = .ok (.iconst 0, 1) := by decide +kernel
theorem d1_acrossCamps_69 : decode m1_acrossCamps.2.1 69 = .ok (.iadd, 1) := by decide +kernel
theorem d1_acrossCamps_70 : decode m1_acrossCamps.2.1 70 = .ok (.istore_n 2, 1) := by decide +kernel
theorem d1_acrossCamps_71 : decode m1_acrossCamps.2.1 71 = .ok (.iinc 4 1, 3) := by decide +kernel
theorem d1_acrossCamps_74 : decode m1_acrossCamps.2.1 74 = .ok (.goto (-57), 3) := by decide +kernel
theorem d1_acrossCamps_77 : decode m1_acrossCamps.2.1 77 = .ok (.iinc 3 1, 3) := by decide +kernel
theorem d1_acrossCamps_80 : decode m1_acrossCamps.2.1 80 = .ok (.goto (-76), 3) := by decide +kernel
theorem d1_acrossCamps_83 : decode m1_acrossCamps.2.1 83 = .ok (.iload_n 2, 1) := by decide +kernel
theorem d1_acrossCamps_84 : decode m1_acrossCamps.2.1 84 = .ok (.ireturn, 1) := by decide +kernel
def b1_acrossCamps_69 (rec4 : Int × Int × AH → Option (Int × AH)) (rec17 : Int × Int × AH → Option (Int × AH)) (x1 : Int) (x3 : Int) (x4 : Int) (s0 : Int) (s1 : Int) (h : AH) : Option (Int × AH) :=
  lt (s1 + s0) fun u1 =>
  rec17 (u1, (x4 + 1), h)
set_option maxRecDepth 100000 in
theorem t1_acrossCamps_69 (l : Launch) (G : Geo) (d : Nat) (hd : 2 ≤ d) (x1 : Int) (x3 : Int) (x4 : Int) (s0 : Int) (s1 : Int) (rec4 : Int × Int × AH → Option (Int × AH)) (H4 : ∀ (x2 : Int) (x3 : Int) (h : AH), Den l G m1_acrossCamps rvI d 4 [some (vA G 50), some (vI x1), some (vI x2), some (vI x3), none, none] [] h (rec4 (x2, x3, h))) (rec17 : Int × Int × AH → Option (Int × AH)) (H17 : ∀ (x2 : Int) (x4 : Int) (h : AH), Den l G m1_acrossCamps rvI d 17 [some (vA G 50), some (vI x1), some (vI x2), some (vI x3), some (vI x4), none] [] h (rec17 (x2, x4, h))) (h : AH) : Den l G m1_acrossCamps rvI d 69 [some (vA G 50), some (vI x1), none, some (vI x3), some (vI x4), none] [vI s0, vI s1] h (b1_acrossCamps_69 rec4 rec17 x1 x3 x4 s0 s1 h) := by
  unfold b1_acrossCamps_69
  refine den_iadd (pc := 69) d1_acrossCamps_69 ?_
  refine den_istore_nL (pc := 70) (L2 := fun y => [some (vA G 50), some (vI x1), some (vI y), some (vI x3), some (vI x4), none]) d1_acrossCamps_70 rfl (by decide) (fun _ => rfl) (fun u1 => ?_)
  refine den_iinc (pc := 71) (L2 := [some (vA G 50), some (vI x1), some (vI u1), some (vI x3), some (vI (x4 + 1)), none]) d1_acrossCamps_71 (by decide) rfl rfl ?_
  refine den_goto (pc := 74) (tgt := 17) d1_acrossCamps_74 (by decide) ?_
  exact H17 u1 (x4 + 1) h
def b1_acrossCamps_45 (rec4 : Int × Int × AH → Option (Int × AH)) (rec17 : Int × Int × AH → Option (Int × AH)) (x1 : Int) (x2 : Int) (x3 : Int) (x4 : Int) (s0 : Int) (h : AH) : Option (Int × AH) :=
  if w32 s0 = 0 then
    b1_acrossCamps_69 rec4 rec17 x1 x3 x4 0 x2 h
  else
    asrt (0 ≤ w32 ((x3 * 8) + x4) ∧ w32 ((x3 * 8) + x4) < 64) <|
    b1_acrossCamps_69 rec4 rec17 x1 x3 x4 (h.2 52 (w32 ((x3 * 8) + x4)).toNat) x2 h
set_option maxRecDepth 100000 in
theorem t1_acrossCamps_45 (l : Launch) (G : Geo) (d : Nat) (hd : 2 ≤ d) (x1 : Int) (x2 : Int) (x3 : Int) (x4 : Int) (s0 : Int) (rec4 : Int × Int × AH → Option (Int × AH)) (H4 : ∀ (x2 : Int) (x3 : Int) (h : AH), Den l G m1_acrossCamps rvI d 4 [some (vA G 50), some (vI x1), some (vI x2), some (vI x3), none, none] [] h (rec4 (x2, x3, h))) (rec17 : Int × Int × AH → Option (Int × AH)) (H17 : ∀ (x2 : Int) (x4 : Int) (h : AH), Den l G m1_acrossCamps rvI d 17 [some (vA G 50), some (vI x1), some (vI x2), some (vI x3), some (vI x4), none] [] h (rec17 (x2, x4, h))) (h : AH) : Den l G m1_acrossCamps rvI d 45 [some (vA G 50), some (vI x1), some (vI x2), some (vI x3), some (vI x4), none] [vI s0] h (b1_acrossCamps_45 rec4 rec17 x1 x2 x3 x4 s0 h) := by
  unfold b1_acrossCamps_45
  refine den_istore (pc := 45) (L2 := [some (vA G 50), some (vI x1), some (vI x2), some (vI x3), some (vI x4), some (vI s0)]) d1_acrossCamps_45 (by decide) rfl ?_
  refine den_iload_n (pc := 47) d1_acrossCamps_47 rfl rfl ?_
  refine den_iload (pc := 48) d1_acrossCamps_48 rfl ?_
  refine den_if_eq (pc := 50) (tgt := 68) d1_acrossCamps_50 (by decide) rfl (fun _ => ?_) (fun _ => ?_)
  · refine den_iconst (pc := 68) d1_acrossCamps_68 ?_
    refine den_wk [true, true, false, true, true, false] rfl ?_
    exact t1_acrossCamps_69 l G _ hd x1 x3 x4 0 x2 rec4 H4 rec17 H17 h
  · refine den_aload_n (pc := 53) d1_acrossCamps_53 rfl rfl ?_
    refine den_getR (pc := 54) (b := 52) fa_1_15 (ok_50 _) rfl d1_acrossCamps_54 ?_
    refine den_iload_n (pc := 57) d1_acrossCamps_57 rfl rfl ?_
    refine den_bipush (pc := 58) d1_acrossCamps_58 (by decide) ?_
    refine den_imul (pc := 60) d1_acrossCamps_60 ?_
    refine den_iload (pc := 61) d1_acrossCamps_61 rfl ?_
    refine den_iadd (pc := 63) d1_acrossCamps_63 ?_
    refine den_asrt (fun a2 => ?_)
    refine den_iaload (pc := 64) sh_52 (sz_lt (by decide)) rfl a2 d1_acrossCamps_64 ?_
    refine den_goto (pc := 65) (tgt := 69) d1_acrossCamps_65 (by decide) ?_
    refine den_wk [true, true, false, true, true, false] rfl ?_
    exact t1_acrossCamps_69 l G _ hd x1 x3 x4 (h.2 52 (w32 ((x3 * 8) + x4)).toNat) x2 rec4 H4 rec17 H17 h
def b1_acrossCamps_17 (rec17 : Int × Int × AH → Option (Int × AH)) (rec4 : Int × Int × AH → Option (Int × AH)) (x1 : Int) (x3 : Int) (x2 : Int) (x4 : Int) (h : AH) : Option (Int × AH) :=
  if w32 (h.2 50 2) ≤ w32 x4 then
    rec4 (x2, (x3 + 1), h)
  else
    if w32 (and32 (ush32 x1 x3) 1) = w32 (and32 (ush32 x1 x4) 1) then
      b1_acrossCamps_45 rec4 rec17 x1 x2 x3 x4 0 h
    else
      b1_acrossCamps_45 rec4 rec17 x1 x2 x3 x4 1 h
set_option maxRecDepth 100000 in
theorem t1_acrossCamps_17 (l : Launch) (G : Geo) (d : Nat) (hd : 2 ≤ d) (x1 : Int) (x3 : Int) (x2 : Int) (x4 : Int) (rec17 : Int × Int × AH → Option (Int × AH)) (H17 : ∀ (x2 : Int) (x4 : Int) (h : AH), Den l G m1_acrossCamps rvI d 17 [some (vA G 50), some (vI x1), some (vI x2), some (vI x3), some (vI x4), none] [] h (rec17 (x2, x4, h))) (rec4 : Int × Int × AH → Option (Int × AH)) (H4 : ∀ (x2 : Int) (x3 : Int) (h : AH), Den l G m1_acrossCamps rvI d 4 [some (vA G 50), some (vI x1), some (vI x2), some (vI x3), none, none] [] h (rec4 (x2, x3, h))) (h : AH) : Den l G m1_acrossCamps rvI d 17 [some (vA G 50), some (vI x1), some (vI x2), some (vI x3), some (vI x4), none] [] h (b1_acrossCamps_17 rec17 rec4 x1 x3 x2 x4 h) := by
  unfold b1_acrossCamps_17
  refine den_iload (pc := 17) d1_acrossCamps_17 rfl ?_
  refine den_aload_n (pc := 19) d1_acrossCamps_19 rfl rfl ?_
  refine den_getI (pc := 20) fa_1_24 (ok_50 _) d1_acrossCamps_20 ?_
  refine den_icmp_ge (pc := 23) (tgt := 77) d1_acrossCamps_23 (by decide) rfl rfl (fun _ => ?_) (fun _ => ?_)
  · refine den_iinc (pc := 77) (L2 := [some (vA G 50), some (vI x1), some (vI x2), some (vI (x3 + 1)), some (vI x4), none]) d1_acrossCamps_77 (by decide) rfl rfl ?_
    refine den_goto (pc := 80) (tgt := 4) d1_acrossCamps_80 (by decide) ?_
    refine den_wk [true, true, true, true, false, true] rfl ?_
    exact H4 x2 (x3 + 1) h
  · refine den_iload_n (pc := 26) d1_acrossCamps_26 rfl rfl ?_
    refine den_iload_n (pc := 27) d1_acrossCamps_27 rfl rfl ?_
    refine den_iushr (pc := 28) d1_acrossCamps_28 ?_
    refine den_iconst (pc := 29) d1_acrossCamps_29 ?_
    refine den_iand (pc := 30) d1_acrossCamps_30 ?_
    refine den_iload_n (pc := 31) d1_acrossCamps_31 rfl rfl ?_
    refine den_iload (pc := 32) d1_acrossCamps_32 rfl ?_
    refine den_iushr (pc := 34) d1_acrossCamps_34 ?_
    refine den_iconst (pc := 35) d1_acrossCamps_35 ?_
    refine den_iand (pc := 36) d1_acrossCamps_36 ?_
    refine den_icmp_eq (pc := 37) (tgt := 44) d1_acrossCamps_37 (by decide) rfl rfl (fun _ => ?_) (fun _ => ?_)
    · refine den_iconst (pc := 44) d1_acrossCamps_44 ?_
      exact t1_acrossCamps_45 l G _ hd x1 x2 x3 x4 0 rec4 H4 rec17 H17 h
    · refine den_iconst (pc := 40) d1_acrossCamps_40 ?_
      refine den_goto (pc := 41) (tgt := 45) d1_acrossCamps_41 (by decide) ?_
      exact t1_acrossCamps_45 l G _ hd x1 x2 x3 x4 1 rec4 H4 rec17 H17 h
def l1_acrossCamps_17 (rec4 : Int × Int × AH → Option (Int × AH)) (x1 : Int) (x3 : Int) (x2 : Int) (x4 : Int) (h : AH) : Option (Int × AH) := fx (fun rec z => b1_acrossCamps_17 rec rec4 x1 x3 z.1 z.2.1 z.2.2) FU (x2, x4, h)
set_option maxRecDepth 100000 in
theorem tl1_acrossCamps_17 (l : Launch) (G : Geo) (d : Nat) (hd : 2 ≤ d) (x1 : Int) (x3 : Int) (rec4 : Int × Int × AH → Option (Int × AH)) (H4 : ∀ (x2 : Int) (x3 : Int) (h : AH), Den l G m1_acrossCamps rvI d 4 [some (vA G 50), some (vI x1), some (vI x2), some (vI x3), none, none] [] h (rec4 (x2, x3, h))) : ∀ (n : Nat) (z : Int × Int × AH), True → Den l G m1_acrossCamps rvI d 17 [some (vA G 50), some (vI x1), some (vI z.1), some (vI x3), some (vI z.2.1), none] [] z.2.2 (fx (fun rec z => b1_acrossCamps_17 rec rec4 x1 x3 z.1 z.2.1 z.2.2) n z) :=
  den_fx (F := fun rec z => b1_acrossCamps_17 rec rec4 x1 x3 z.1 z.2.1 z.2.2) (P := fun z => True) (fL := fun z => [some (vA G 50), some (vI x1), some (vI z.1), some (vI x3), some (vI z.2.1), none]) (fs := fun z => []) (fh := fun z => z.2.2) (fun rec hrec z hz => t1_acrossCamps_17 l G d hd x1 x3 z.1 z.2.1 rec (fun x2 x4 h => hrec (x2, x4, h) trivial) rec4 H4 z.2.2 )
def b1_acrossCamps_4 (rec4 : Int × Int × AH → Option (Int × AH)) (x1 : Int) (x2 : Int) (x3 : Int) (h : AH) : Option (Int × AH) :=
  if w32 (h.2 50 2) ≤ w32 x3 then
    some (x2, h)
  else
    lt (x3 + 1) fun u3 =>
    l1_acrossCamps_17 rec4 x1 x3 x2 u3 h
set_option maxRecDepth 100000 in
theorem t1_acrossCamps_4 (l : Launch) (G : Geo) (d : Nat) (hd : 2 ≤ d) (x1 : Int) (x2 : Int) (x3 : Int) (rec4 : Int × Int × AH → Option (Int × AH)) (H4 : ∀ (x2 : Int) (x3 : Int) (h : AH), Den l G m1_acrossCamps rvI d 4 [some (vA G 50), some (vI x1), some (vI x2), some (vI x3), none, none] [] h (rec4 (x2, x3, h))) (h : AH) : Den l G m1_acrossCamps rvI d 4 [some (vA G 50), some (vI x1), some (vI x2), some (vI x3), none, none] [] h (b1_acrossCamps_4 rec4 x1 x2 x3 h) := by
  unfold b1_acrossCamps_4
  refine den_iload_n (pc := 4) d1_acrossCamps_4 rfl rfl ?_
  refine den_aload_n (pc := 5) d1_acrossCamps_5 rfl rfl ?_
  refine den_getI (pc := 6) fa_1_24 (ok_50 _) d1_acrossCamps_6 ?_
  refine den_icmp_ge (pc := 9) (tgt := 83) d1_acrossCamps_9 (by decide) rfl rfl (fun _ => ?_) (fun _ => ?_)
  · refine den_iload_n (pc := 83) d1_acrossCamps_83 rfl rfl ?_
    exact den_iret (pc := 84) rfl d1_acrossCamps_84
  · refine den_iload_n (pc := 12) d1_acrossCamps_12 rfl rfl ?_
    refine den_iconst (pc := 13) d1_acrossCamps_13 ?_
    refine den_iadd (pc := 14) d1_acrossCamps_14 ?_
    refine den_istoreL (pc := 15) (L2 := fun y => [some (vA G 50), some (vI x1), some (vI x2), some (vI x3), some (vI y), none]) d1_acrossCamps_15 (by decide) (fun _ => rfl) (fun u3 => ?_)
    exact tl1_acrossCamps_17 l G _ hd x1 x3 rec4 H4 FU (x2, u3, h) trivial
def l1_acrossCamps_4 (x1 : Int) (x2 : Int) (x3 : Int) (h : AH) : Option (Int × AH) := fx (fun rec z => b1_acrossCamps_4 rec x1 z.1 z.2.1 z.2.2) FU (x2, x3, h)
set_option maxRecDepth 100000 in
theorem tl1_acrossCamps_4 (l : Launch) (G : Geo) (d : Nat) (hd : 2 ≤ d) (x1 : Int) : ∀ (n : Nat) (z : Int × Int × AH), True → Den l G m1_acrossCamps rvI d 4 [some (vA G 50), some (vI x1), some (vI z.1), some (vI z.2.1), none, none] [] z.2.2 (fx (fun rec z => b1_acrossCamps_4 rec x1 z.1 z.2.1 z.2.2) n z) :=
  den_fx (F := fun rec z => b1_acrossCamps_4 rec x1 z.1 z.2.1 z.2.2) (P := fun z => True) (fL := fun z => [some (vA G 50), some (vI x1), some (vI z.1), some (vI z.2.1), none, none]) (fs := fun z => []) (fh := fun z => z.2.2) (fun rec hrec z hz => t1_acrossCamps_4 l G d hd x1 z.1 z.2.1 rec (fun x2 x3 h => hrec (x2, x3, h) trivial) z.2.2 )
def f1_acrossCamps (x1 : Int) (h : AH) : Option (Int × AH) :=
  l1_acrossCamps_4 x1 0 0 h
set_option maxRecDepth 100000 in
theorem c1_acrossCamps (l : Launch) (G : Geo) (x1 : Int) (h : AH) : Con l G m1_acrossCamps rvI 2 [vA G 50, vI x1] h (f1_acrossCamps x1 h) := by
  have hd : 2 ≤ 2 := Nat.le_refl _
  refine con_I rfl (by decide) rfl rfl (Nat.le_of_ble_eq_true rfl) (L := [some (vA G 50), some (vI x1), none, none, none, none]) ?_
  unfold f1_acrossCamps
  refine den_iconst (pc := 0) d1_acrossCamps_0 ?_
  refine den_istore_n (pc := 1) (L2 := [some (vA G 50), some (vI x1), some (vI 0), none, none, none]) d1_acrossCamps_1 rfl (by decide) rfl ?_
  refine den_iconst (pc := 2) d1_acrossCamps_2 ?_
  refine den_istore_n (pc := 3) (L2 := [some (vA G 50), some (vI x1), some (vI 0), some (vI 0), none, none]) d1_acrossCamps_3 rfl (by decide) rfl ?_
  exact tl1_acrossCamps_4 l G _ hd x1 FU (0, 0, h) trivial
theorem d1_bestCamp_0 : decode m1_bestCamp.2.1 0 = .ok (.iconst 1, 1) := by decide +kernel
theorem d1_bestCamp_1 : decode m1_bestCamp.2.1 1 = .ok (.istore_n 1, 1) := by decide +kernel
theorem d1_bestCamp_2 : decode m1_bestCamp.2.1 2 = .ok (.aload_n 0, 1) := by decide +kernel
theorem d1_bestCamp_3 : decode m1_bestCamp.2.1 3 = .ok (.iconst 1, 1) := by decide +kernel
theorem d1_bestCamp_4 : decode m1_bestCamp.2.1 4 = .ok (.invokevirtual 65, 3) := by decide +kernel
theorem d1_bestCamp_7 : decode m1_bestCamp.2.1 7 = .ok (.istore_n 2, 1) := by decide +kernel
theorem d1_bestCamp_8 : decode m1_bestCamp.2.1 8 = .ok (.iconst 3, 1) := by decide +kernel
theorem d1_bestCamp_9 : decode m1_bestCamp.2.1 9 = .ok (.istore_n 3, 1) := by decide +kernel
theorem d1_bestCamp_10 : decode m1_bestCamp.2.1 10 = .ok (.iload_n 3, 1) := by decide +kernel
theorem d1_bestCamp_11 : decode m1_bestCamp.2.1 11 = .ok (.iconst 1, 1) := by decide +kernel
theorem d1_bestCamp_12 : decode m1_bestCamp.2.1 12 = .ok (.aload_n 0, 1) := by decide +kernel
theorem d1_bestCamp_13 : decode m1_bestCamp.2.1 13 = .ok (.getfield 24, 3) := by decide +kernel
theorem d1_bestCamp_16 : decode m1_bestCamp.2.1 16 = .ok (.ishl, 1) := by decide +kernel
theorem d1_bestCamp_17 : decode m1_bestCamp.2.1 17 = .ok (.if_icmp .ge 27, 3) := by decide +kernel
theorem d1_bestCamp_20 : decode m1_bestCamp.2.1 20 = .ok (.aload_n 0, 1) := by decide +kernel
theorem d1_bestCamp_21 : decode m1_bestCamp.2.1 21 = .ok (.iload_n 3, 1) := by decide +kernel
theorem d1_bestCamp_22 : decode m1_bestCamp.2.1 22 = .ok (.invokevirtual 65, 3) := by decide +kernel
theorem d1_bestCamp_25 : decode m1_bestCamp.2.1 25 = .ok (.istore 4, 2) := by decide +kernel
theorem d1_bestCamp_27 : decode m1_bestCamp.2.1 27 = .ok (.iload 4, 2) := by decide +kernel
theorem d1_bestCamp_29 : decode m1_bestCamp.2.1 29 = .ok (.iload_n 2, 1) := by decide +kernel
theorem d1_bestCamp_30 : decode m1_bestCamp.2.1 30 = .ok (.if_icmp .le 8, 3) := by decide +kernel
theorem d1_bestCamp_33 : decode m1_bestCamp.2.1 33 = .ok (.iload_n 3, 1) := by decide +kernel
theorem d1_bestCamp_34 : decode m1_bestCamp.2.1 34 = .ok (.istore_n 1, 1) := by decide +kernel
theorem d1_bestCamp_35 : decode m1_bestCamp.2.1 35 = .ok (.iload 4, 2) := by decide +kernel
theorem d1_bestCamp_37 : decode m1_bestCamp.2.1 37 = .ok (.istore_n 2, 1) := by decide +kernel
theorem d1_bestCamp_38 : decode m1_bestCamp.2.1 38 = .ok (.iinc 3 2, 3) := by decide +kernel
theorem d1_bestCamp_41 : decode m1_bestCamp.2.1 41 = .ok (.goto (-31), 3) := by decide +kernel
theorem d1_bestCamp_44 : decode m1_bestCamp.2.1 44 = .ok (.iload_n 1, 1) := by decide +kernel
theorem d1_bestCamp_45 : decode m1_bestCamp.2.1 45 = .ok (.ireturn, 1) := by decide +kernel
def b1_bestCamp_38 (rec10 : Int × Int × Int × AH → Option (Int × AH)) (x1 : Int) (x2 : Int) (x3 : Int) (h : AH) : Option (Int × AH) :=
  rec10 (x1, x2, (x3 + 2), h)
set_option maxRecDepth 100000 in
theorem t1_bestCamp_38 (l : Launch) (G : Geo) (d : Nat) (hd : 3 ≤ d) (x1 : Int) (x2 : Int) (x3 : Int) (rec10 : Int × Int × Int × AH → Option (Int × AH)) (H10 : ∀ (x1 : Int) (x2 : Int) (x3 : Int) (h : AH), Den l G m1_bestCamp rvI d 10 [some (vA G 50), some (vI x1), some (vI x2), some (vI x3), none] [] h (rec10 (x1, x2, x3, h))) (h : AH) : Den l G m1_bestCamp rvI d 38 [some (vA G 50), some (vI x1), some (vI x2), some (vI x3), none] [] h (b1_bestCamp_38 rec10 x1 x2 x3 h) := by
  unfold b1_bestCamp_38
  refine den_iinc (pc := 38) (L2 := [some (vA G 50), some (vI x1), some (vI x2), some (vI (x3 + 2)), none]) d1_bestCamp_38 (by decide) rfl rfl ?_
  refine den_goto (pc := 41) (tgt := 10) d1_bestCamp_41 (by decide) ?_
  exact H10 x1 x2 (x3 + 2) h
def b1_bestCamp_10 (rec10 : Int × Int × Int × AH → Option (Int × AH)) (x1 : Int) (x2 : Int) (x3 : Int) (h : AH) : Option (Int × AH) :=
  if w32 (shl32 1 (h.2 50 2)) ≤ w32 x3 then
    some (x1, h)
  else
    bnd (f1_acrossCamps x3 h) fun r1 h2 =>
    if w32 r1 ≤ w32 x2 then
      b1_bestCamp_38 rec10 x1 x2 x3 h2
    else
      b1_bestCamp_38 rec10 x3 r1 x3 h2
set_option maxRecDepth 100000 in
theorem t1_bestCamp_10 (l : Launch) (G : Geo) (d : Nat) (hd : 3 ≤ d) (x1 : Int) (x2 : Int) (x3 : Int) (rec10 : Int × Int × Int × AH → Option (Int × AH)) (H10 : ∀ (x1 : Int) (x2 : Int) (x3 : Int) (h : AH), Den l G m1_bestCamp rvI d 10 [some (vA G 50), some (vI x1), some (vI x2), some (vI x3), none] [] h (rec10 (x1, x2, x3, h))) (h : AH) : Den l G m1_bestCamp rvI d 10 [some (vA G 50), some (vI x1), some (vI x2), some (vI x3), none] [] h (b1_bestCamp_10 rec10 x1 x2 x3 h) := by
  unfold b1_bestCamp_10
  refine den_iload_n (pc := 10) d1_bestCamp_10 rfl rfl ?_
  refine den_iconst (pc := 11) d1_bestCamp_11 ?_
  refine den_aload_n (pc := 12) d1_bestCamp_12 rfl rfl ?_
  refine den_getI (pc := 13) fa_1_24 (ok_50 _) d1_bestCamp_13 ?_
  refine den_ishl (pc := 16) d1_bestCamp_16 ?_
  refine den_icmp_ge (pc := 17) (tgt := 44) d1_bestCamp_17 (by decide) rfl rfl (fun _ => ?_) (fun _ => ?_)
  · refine den_iload_n (pc := 44) d1_bestCamp_44 rfl rfl ?_
    exact den_iret (pc := 45) rfl d1_bestCamp_45
  · refine den_aload_n (pc := 20) d1_bestCamp_20 rfl rfl ?_
    refine den_iload_n (pc := 21) d1_bestCamp_21 rfl rfl ?_
    refine den_callVI (pc := 22) (As := [vI x3]) fv_1_65 rfl rfl (ok_50 _) (Nat.le_of_ble_eq_true rfl) (Nat.le_trans (by decide) hd) d1_bestCamp_22 (c1_acrossCamps l G x3 h) (fun r1 h2 m3 o4 => ?_)
    refine den_istore (pc := 25) (L2 := [some (vA G 50), some (vI x1), some (vI x2), some (vI x3), some (vI r1)]) d1_bestCamp_25 (by decide) rfl ?_
    refine den_iload (pc := 27) d1_bestCamp_27 rfl ?_
    refine den_iload_n (pc := 29) d1_bestCamp_29 rfl rfl ?_
    refine den_icmp_le (pc := 30) (tgt := 38) d1_bestCamp_30 (by decide) rfl rfl (fun _ => ?_) (fun _ => ?_)
    · refine den_wk [true, true, true, true, false] rfl ?_
      exact t1_bestCamp_38 l G _ hd x1 x2 x3 rec10 H10 h2
    · refine den_iload_n (pc := 33) d1_bestCamp_33 rfl rfl ?_
      refine den_istore_n (pc := 34) (L2 := [some (vA G 50), some (vI x3), some (vI x2), some (vI x3), some (vI r1)]) d1_bestCamp_34 rfl (by decide) rfl ?_
      refine den_iload (pc := 35) d1_bestCamp_35 rfl ?_
      refine den_istore_n (pc := 37) (L2 := [some (vA G 50), some (vI x3), some (vI r1), some (vI x3), some (vI r1)]) d1_bestCamp_37 rfl (by decide) rfl ?_
      refine den_wk [true, true, true, true, false] rfl ?_
      exact t1_bestCamp_38 l G _ hd x3 r1 x3 rec10 H10 h2
def l1_bestCamp_10 (x1 : Int) (x2 : Int) (x3 : Int) (h : AH) : Option (Int × AH) := fx (fun rec z => b1_bestCamp_10 rec z.1 z.2.1 z.2.2.1 z.2.2.2) FU (x1, x2, x3, h)
set_option maxRecDepth 100000 in
theorem tl1_bestCamp_10 (l : Launch) (G : Geo) (d : Nat) (hd : 3 ≤ d) : ∀ (n : Nat) (z : Int × Int × Int × AH), True → Den l G m1_bestCamp rvI d 10 [some (vA G 50), some (vI z.1), some (vI z.2.1), some (vI z.2.2.1), none] [] z.2.2.2 (fx (fun rec z => b1_bestCamp_10 rec z.1 z.2.1 z.2.2.1 z.2.2.2) n z) :=
  den_fx (F := fun rec z => b1_bestCamp_10 rec z.1 z.2.1 z.2.2.1 z.2.2.2) (P := fun z => True) (fL := fun z => [some (vA G 50), some (vI z.1), some (vI z.2.1), some (vI z.2.2.1), none]) (fs := fun z => []) (fh := fun z => z.2.2.2) (fun rec hrec z hz => t1_bestCamp_10 l G d hd z.1 z.2.1 z.2.2.1 rec (fun x1 x2 x3 h => hrec (x1, x2, x3, h) trivial) z.2.2.2 )
def f1_bestCamp (h : AH) : Option (Int × AH) :=
  bnd (f1_acrossCamps 1 h) fun r5 h6 =>
  l1_bestCamp_10 1 r5 3 h6
set_option maxRecDepth 100000 in
theorem c1_bestCamp (l : Launch) (G : Geo) (h : AH) : Con l G m1_bestCamp rvI 3 [vA G 50] h (f1_bestCamp  h) := by
  have hd : 3 ≤ 3 := Nat.le_refl _
  refine con_I rfl (by decide) rfl rfl (Nat.le_of_ble_eq_true rfl) (L := [some (vA G 50), none, none, none, none]) ?_
  unfold f1_bestCamp
  refine den_iconst (pc := 0) d1_bestCamp_0 ?_
  refine den_istore_n (pc := 1) (L2 := [some (vA G 50), some (vI 1), none, none, none]) d1_bestCamp_1 rfl (by decide) rfl ?_
  refine den_aload_n (pc := 2) d1_bestCamp_2 rfl rfl ?_
  refine den_iconst (pc := 3) d1_bestCamp_3 ?_
  refine den_callVI (pc := 4) (As := [vI 1]) fv_1_65 rfl rfl (ok_50 _) (Nat.le_of_ble_eq_true rfl) (Nat.le_trans (by decide) hd) d1_bestCamp_4 (c1_acrossCamps l G 1 h) (fun r5 h6 m7 o8 => ?_)
  refine den_istore_n (pc := 7) (L2 := [some (vA G 50), some (vI 1), some (vI r5), none, none]) d1_bestCamp_7 rfl (by decide) rfl ?_
  refine den_iconst (pc := 8) d1_bestCamp_8 ?_
  refine den_istore_n (pc := 9) (L2 := [some (vA G 50), some (vI 1), some (vI r5), some (vI 3), none]) d1_bestCamp_9 rfl (by decide) rfl ?_
  exact tl1_bestCamp_10 l G _ hd FU (1, r5, 3, h6) trivial
