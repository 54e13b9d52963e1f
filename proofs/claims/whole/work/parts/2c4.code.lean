/-! 11_areThere 11_next 11_fits 11_below 11_draws 11_drawn 11_count 11_image 11_again -/
theorem d11_areThere_0 : decode m11_areThere.2.1 0 = .ok (.iconst 1, 1) := by decide +kernel
theorem d11_areThere_1 : decode m11_areThere.2.1 1 = .ok (.istore_n 1, 1) := by decide +kernel
theorem d11_areThere_2 : decode m11_areThere.2.1 2 = .ok (.iconst 0, 1) := by decide +kernel
theorem d11_areThere_3 : decode m11_areThere.2.1 3 = .ok (.istore_n 2, 1) := by decide +kernel
theorem d11_areThere_4 : decode m11_areThere.2.1 4 = .ok (.iload_n 2, 1) := by decide +kernel
theorem d11_areThere_5 : decode m11_areThere.2.1 5 = .ok (.aload_n 0, 1) := by decide +kernel
theorem d11_areThere_6 : decode m11_areThere.2.1 6 = .ok (.getfield 7, 3) := by decide +kernel
theorem d11_areThere_9 : decode m11_areThere.2.1 9 = .ok (.aload_n 0, 1) := by decide +kernel
theorem d11_areThere_10 : decode m11_areThere.2.1 10 = .ok (.getfield 380, 3) := by decide +kernel
theorem d11_areThere_13 : decode m11_areThere.2.1 13 = .ok (.iaload, 1) := by decide +kernel
theorem d11_areThere_14 : decode m11_areThere.2.1 14 = .ok (.if_icmp .ge 63, 3) := by decide +kernel
theorem d11_areThere_17 : decode m11_areThere.2.1 17 = .ok (.iload_n 1, 1) := by decide +kernel
theorem d11_areThere_18 : decode m11_areThere.2.1 18 = .ok (.ifCond .eq 51, 3) := by decide +kernel
theorem d11_areThere_21 : decode m11_areThere.2.1 21 = .ok (.aload_n 0, 1) := by decide +kernel
theorem d11_areThere_22 : decode m11_areThere.2.1 22 = .ok (.getfield 7, 3) := by decide +kernel
theorem d11_areThere_25 : decode m11_areThere.2.1 25 = .ok (.aload_n 0, 1) := by decide +kernel
theorem d11_areThere_26 : decode m11_areThere.2.1 26 = .ok (.getfield 380, 3) := by decide +kernel
theorem d11_areThere_29 : decode m11_areThere.2.1 29 = .ok (.iconst 1, 1) := by decide +kernel
theorem d11_areThere_30 : decode m11_areThere.2.1 30 = .ok (.iadd, 1) := by decide +kernel
theorem d11_areThere_31 : decode m11_areThere.2.1 31 = .ok (.iconst 3, 1) := by decide +kernel
theorem d11_areThere_32 : decode m11_areThere.2.1 32 = .ok (.iload_n 2, 1) := by decide +kernel
theorem d11_areThere_33 : decode m11_areThere.2.1 33 = .ok (.imul, 1) := by decide +kernel
theorem d11_areThere_34 : decode m11_areThere.2.1 34 = .ok (.iadd, 1) := by decide +kernel
theorem d11_areThere_35 : decode m11_areThere.2.1 35 = .ok (.iaload, 1) := by decide +kernel
theorem d11_areThere_36 : decode m11_areThere.2.1 36 = .ok (.aload_n 0, 1) := by decide +kernel
theorem d11_areThere_37 : decode m11_areThere.2.1 37 = .ok (.getfield 192, 3) := by decide +kernel
theorem d11_areThere_40 : decode m11_areThere.2.1 40 = .ok (.if_icmp .ge 29, 3) := by decide +kernel
theorem d11_areThere_43 : decode m11_areThere.2.1 43 = .ok (.aload_n 0, 1) := by decide +kernel
theorem d11_areThere_44 : decode m11_areThere.2.1 44 = .ok (.getfield 7, 3) := by decide +kernel
theorem d11_areThere_47 : decode m11_areThere.2.1 47 = .ok (.aload_n 0, 1) := by decide +kernel
theorem d11_areThere_48 : decode m11_areThere.2.1 48 = .ok (.getfield 380, 3) := by decide +kernel
theorem d11_areThere_51 : decode m11_areThere.2.1 51 = .ok (.iconst 2, 1) := by decide +kernel
theorem d11_areThere_52 : decode m11_areThere.2.1 52 = .ok (.iadd, 1) := by decide +kernel
theorem d11_areThere_53 : decode m11_areThere.2.1 53 = .ok (.iconst 3, 1) := by decide +kernel
theorem d11_areThere_54 : decode m11_areThere.2.1 54 = .ok (.iload_n 2, 1) := by decide +kernel
theorem d11_areThere_55 : decode m11_areThere.2.1 55 = .ok (.imul, 1) := by decide +kernel
theorem d11_areThere_56 : decode m11_areThere.2.1 56 = .ok (.iadd, 1) := by decide +kernel
theorem d11_areThere_57 : decode m11_areThere.2.1 57 = .ok (.iaload, 1) := by decide +kernel
theorem d11_areThere_58 : decode m11_areThere.2.1 58 = .ok (.aload_n 0, 1) := by decide +kernel
theorem d11_areThere_59 : decode m11_areThere.2.1 59 = .ok (.getfield 192, 3) := by decide +kernel
theorem d11_areThere_62 : decode m11_areThere.2.1 62 = .ok (.if_icmp .ge 7, 3) := by decide +kernel
theorem d11_areThere_65 : decode m11_areThere.2.1 65 = .ok (.iconst 1, 1) := by decide +kernel
theorem d11_areThere_66 : decode m11_areThere.2.1 66 = .ok (.goto 4, 3) := by decide +kernel
theorem d11_areThere_69 : decode m11_areThere.2.1 69 = .ok (.iconst 0, 1) := by decide +kernel
theorem d11_areThere_70 : decode m11_areThere.2.1 70 = .ok (.istore_n 1, 1) := by decide +kernel
theorem d11_areThere_71 : decode m11_areThere.2.1 71 = .ok (.iinc 2 1, 3) := by decide +kernel
theorem d11_areThere_74 : decode m11_areThere.2.1 74 = .ok (.goto (-70), 3) := by decide +kernel
theorem d11_areThere_77 : decode m11_areThere.2.1 77 = .ok (.iload_n 1, 1) := by decide +kernel
theorem d11_areThere_78 : decode m11_areThere.2.1 78 = .ok (.ireturn, 1) := by decide +kernel
def b11_areThere_70 (rec4 : Int × Int × AH → Option (Int × AH)) (x2 : Int) (s0 : Int) (h : AH) : Option (Int × AH) :=
  rec4 (s0, (x2 + 1), h)
set_option maxRecDepth 100000 in
theorem t11_areThere_70 (l : Launch) (G : Geo) (d : Nat) (hd : 2 ≤ d) (x2 : Int) (s0 : Int) (rec4 : Int × Int × AH → Option (Int × AH)) (H4 : ∀ (x1 : Int) (x2 : Int) (h : AH), Den l G m11_areThere rvI d 4 [some (vA G 69), some (vI x1), some (vI x2)] [] h (rec4 (x1, x2, h))) (h : AH) : Den l G m11_areThere rvI d 70 [some (vA G 69), none, some (vI x2)] [vI s0] h (b11_areThere_70 rec4 x2 s0 h) := by
  unfold b11_areThere_70
  refine den_istore_n (pc := 70) (L2 := [some (vA G 69), some (vI s0), some (vI x2)]) d11_areThere_70 rfl (by decide) rfl ?_
  refine den_iinc (pc := 71) (L2 := [some (vA G 69), some (vI s0), some (vI (x2 + 1))]) d11_areThere_71 (by decide) rfl rfl ?_
  refine den_goto (pc := 74) (tgt := 4) d11_areThere_74 (by decide) ?_
  exact H4 s0 (x2 + 1) h
def b11_areThere_69 (rec4 : Int × Int × AH → Option (Int × AH)) (x2 : Int) (h : AH) : Option (Int × AH) :=
  b11_areThere_70 rec4 x2 0 h
set_option maxRecDepth 100000 in
theorem t11_areThere_69 (l : Launch) (G : Geo) (d : Nat) (hd : 2 ≤ d) (x2 : Int) (rec4 : Int × Int × AH → Option (Int × AH)) (H4 : ∀ (x1 : Int) (x2 : Int) (h : AH), Den l G m11_areThere rvI d 4 [some (vA G 69), some (vI x1), some (vI x2)] [] h (rec4 (x1, x2, h))) (h : AH) : Den l G m11_areThere rvI d 69 [some (vA G 69), none, some (vI x2)] [] h (b11_areThere_69 rec4 x2 h) := by
  unfold b11_areThere_69
  refine den_iconst (pc := 69) d11_areThere_69 ?_
  exact t11_areThere_70 l G _ hd x2 0 rec4 H4 h
def b11_areThere_4 (rec4 : Int × Int × AH → Option (Int × AH)) (x1 : Int) (x2 : Int) (h : AH) : Option (Int × AH) :=
  asrt (0 ≤ w32 (h.2 69 41) ∧ w32 (h.2 69 41) < 4824) <|
  if w32 (h.2 70 (w32 (h.2 69 41)).toNat) ≤ w32 x2 then
    asrt (w32 x1 = 0 ∨ w32 x1 = 1) <|
    some (x1, h)
  else
    if w32 x1 = 0 then
      b11_areThere_69 rec4 x2 h
    else
      asrt (0 ≤ w32 (((h.2 69 41) + 1) + (3 * x2)) ∧ w32 (((h.2 69 41) + 1) + (3 * x2)) < 4824) <|
      if w32 (h.2 69 13) ≤ w32 (h.2 70 (w32 (((h.2 69 41) + 1) + (3 * x2))).toNat) then
        b11_areThere_69 rec4 x2 h
      else
        asrt (0 ≤ w32 (((h.2 69 41) + 2) + (3 * x2)) ∧ w32 (((h.2 69 41) + 2) + (3 * x2)) < 4824) <|
        if w32 (h.2 69 13) ≤ w32 (h.2 70 (w32 (((h.2 69 41) + 2) + (3 * x2))).toNat) then
          b11_areThere_69 rec4 x2 h
        else
          b11_areThere_70 rec4 x2 1 h
set_option maxRecDepth 100000 in
theorem t11_areThere_4 (l : Launch) (G : Geo) (d : Nat) (hd : 2 ≤ d) (x1 : Int) (x2 : Int) (rec4 : Int × Int × AH → Option (Int × AH)) (H4 : ∀ (x1 : Int) (x2 : Int) (h : AH), Den l G m11_areThere rvI d 4 [some (vA G 69), some (vI x1), some (vI x2)] [] h (rec4 (x1, x2, h))) (h : AH) : Den l G m11_areThere rvI d 4 [some (vA G 69), some (vI x1), some (vI x2)] [] h (b11_areThere_4 rec4 x1 x2 h) := by
  unfold b11_areThere_4
  refine den_iload_n (pc := 4) d11_areThere_4 rfl rfl ?_
  refine den_aload_n (pc := 5) d11_areThere_5 rfl rfl ?_
  refine den_getR (pc := 6) (b := 70) fa_11_7 (ok_69 _) rfl d11_areThere_6 ?_
  refine den_aload_n (pc := 9) d11_areThere_9 rfl rfl ?_
  refine den_getI (pc := 10) fa_11_380 (ok_69 _) d11_areThere_10 ?_
  refine den_asrt (fun a1 => ?_)
  refine den_iaload (pc := 13) sh_70 (sz_lt (by decide)) rfl a1 d11_areThere_13 ?_
  refine den_icmp_ge (pc := 14) (tgt := 77) d11_areThere_14 (by decide) rfl rfl (fun _ => ?_) (fun _ => ?_)
  · refine den_iload_n (pc := 77) d11_areThere_77 rfl rfl ?_
    refine den_asrt (fun a2 => ?_)
    exact den_zret (pc := 78) rfl a2 d11_areThere_78
  · refine den_iload_n (pc := 17) d11_areThere_17 rfl rfl ?_
    refine den_if_eq (pc := 18) (tgt := 69) d11_areThere_18 (by decide) rfl (fun _ => ?_) (fun _ => ?_)
    · refine den_wk [true, false, true] rfl ?_
      exact t11_areThere_69 l G _ hd x2 rec4 H4 h
    · refine den_aload_n (pc := 21) d11_areThere_21 rfl rfl ?_
      refine den_getR (pc := 22) (b := 70) fa_11_7 (ok_69 _) rfl d11_areThere_22 ?_
      refine den_aload_n (pc := 25) d11_areThere_25 rfl rfl ?_
      refine den_getI (pc := 26) fa_11_380 (ok_69 _) d11_areThere_26 ?_
      refine den_iconst (pc := 29) d11_areThere_29 ?_
      refine den_iadd (pc := 30) d11_areThere_30 ?_
      refine den_iconst (pc := 31) d11_areThere_31 ?_
      refine den_iload_n (pc := 32) d11_areThere_32 rfl rfl ?_
      refine den_imul (pc := 33) d11_areThere_33 ?_
      refine den_iadd (pc := 34) d11_areThere_34 ?_
      refine den_asrt (fun a3 => ?_)
      refine den_iaload (pc := 35) sh_70 (sz_lt (by decide)) rfl a3 d11_areThere_35 ?_
      refine den_aload_n (pc := 36) d11_areThere_36 rfl rfl ?_
      refine den_getI (pc := 37) fa_11_192 (ok_69 _) d11_areThere_37 ?_
      refine den_icmp_ge (pc := 40) (tgt := 69) d11_areThere_40 (by decide) rfl rfl (fun _ => ?_) (fun _ => ?_)
      · refine den_wk [true, false, true] rfl ?_
        exact t11_areThere_69 l G _ hd x2 rec4 H4 h
      · refine den_aload_n (pc := 43) d11_areThere_43 rfl rfl ?_
        refine den_getR (pc := 44) (b := 70) fa_11_7 (ok_69 _) rfl d11_areThere_44 ?_
        refine den_aload_n (pc := 47) d11_areThere_47 rfl rfl ?_
        refine den_getI (pc := 48) fa_11_380 (ok_69 _) d11_areThere_48 ?_
        refine den_iconst (pc := 51) d11_areThere_51 ?_
        refine den_iadd (pc := 52) d11_areThere_52 ?_
        refine den_iconst (pc := 53) d11_areThere_53 ?_
        refine den_iload_n (pc := 54) d11_areThere_54 rfl rfl ?_
        refine den_imul (pc := 55) d11_areThere_55 ?_
        refine den_iadd (pc := 56) d11_areThere_56 ?_
        refine den_asrt (fun a4 => ?_)
        refine den_iaload (pc := 57) sh_70 (sz_lt (by decide)) rfl a4 d11_areThere_57 ?_
        refine den_aload_n (pc := 58) d11_areThere_58 rfl rfl ?_
        refine den_getI (pc := 59) fa_11_192 (ok_69 _) d11_areThere_59 ?_
        refine den_icmp_ge (pc := 62) (tgt := 69) d11_areThere_62 (by decide) rfl rfl (fun _ => ?_) (fun _ => ?_)
        · refine den_wk [true, false, true] rfl ?_
          exact t11_areThere_69 l G _ hd x2 rec4 H4 h
        · refine den_iconst (pc := 65) d11_areThere_65 ?_
          refine den_goto (pc := 66) (tgt := 70) d11_areThere_66 (by decide) ?_
          refine den_wk [true, false, true] rfl ?_
          exact t11_areThere_70 l G _ hd x2 1 rec4 H4 h
def l11_areThere_4 (x1 : Int) (x2 : Int) (h : AH) : Option (Int × AH) := fx (fun rec z => b11_areThere_4 rec z.1 z.2.1 z.2.2) FU (x1, x2, h)
set_option maxRecDepth 100000 in
theorem tl11_areThere_4 (l : Launch) (G : Geo) (d : Nat) (hd : 2 ≤ d) : ∀ (n : Nat) (z : Int × Int × AH), True → Den l G m11_areThere rvI d 4 [some (vA G 69), some (vI z.1), some (vI z.2.1)] [] z.2.2 (fx (fun rec z => b11_areThere_4 rec z.1 z.2.1 z.2.2) n z) :=
  den_fx (F := fun rec z => b11_areThere_4 rec z.1 z.2.1 z.2.2) (P := fun z => True) (fL := fun z => [some (vA G 69), some (vI z.1), some (vI z.2.1)]) (fs := fun z => []) (fh := fun z => z.2.2) (fun rec hrec z hz => t11_areThere_4 l G d hd z.1 z.2.1 rec (fun x1 x2 h => hrec (x1, x2, h) trivial) z.2.2 )
def f11_areThere (h : AH) : Option (Int × AH) :=
  l11_areThere_4 1 0 h
set_option maxRecDepth 100000 in
theorem c11_areThere (l : Launch) (G : Geo) (h : AH) : Con l G m11_areThere rvI 2 [vA G 69] h (f11_areThere  h) := by
  have hd : 2 ≤ 2 := Nat.le_refl _
  refine con_Z rfl (by decide) rfl rfl (Nat.le_of_ble_eq_true rfl) (L := [some (vA G 69), none, none]) ?_
  unfold f11_areThere
  refine den_iconst (pc := 0) d11_areThere_0 ?_
  refine den_istore_n (pc := 1) (L2 := [some (vA G 69), some (vI 1), none]) d11_areThere_1 rfl (by decide) rfl ?_
  refine den_iconst (pc := 2) d11_areThere_2 ?_
  refine den_istore_n (pc := 3) (L2 := [some (vA G 69), some (vI 1), some (vI 0)]) d11_areThere_3 rfl (by decide) rfl ?_
  exact tl11_areThere_4 l G _ hd FU (1, 0, h) trivial
theorem d11_next_0 : decode m11_next.2.1 0 = .ok (.aload_n 0, 1) := by decide +kernel
theorem d11_next_1 : decode m11_next.2.1 1 = .ok (.iload_n 1, 1) := by decide +kernel
theorem d11_next_2 : decode m11_next.2.1 2 = .ok (.invokevirtual 201, 3) := by decide +kernel
theorem d11_next_5 : decode m11_next.2.1 5 = .ok (.ifCond .eq 28, 3) := by decide +kernel
theorem d11_next_8 : decode m11_next.2.1 8 = .ok (.aload_n 0, 1) := by decide +kernel
theorem d11_next_9 : decode m11_next.2.1 9 = .ok (.iload_n 2, 1) := by decide +kernel
theorem d11_next_10 : decode m11_next.2.1 10 = .ok (.invokevirtual 383, 3) := by decide +kernel
theorem d11_next_13 : decode m11_next.2.1 13 = .ok (.ifCond .eq 20, 3) := by decide +kernel
theorem d11_next_16 : decode m11_next.2.1 16 = .ok (.aload_n 0, 1) := by decide +kernel
theorem d11_next_17 : decode m11_next.2.1 17 = .ok (.invokevirtual 392, 3) := by decide +kernel
theorem d11_next_20 : decode m11_next.2.1 20 = .ok (.ifCond .eq 13, 3) := by decide +kernel
theorem d11_next_23 : decode m11_next.2.1 23 = .ok (.aload_n 0, 1) := by decide +kernel
theorem d11_next_24 : decode m11_next.2.1 24 = .ok (.iload_n 3, 1) := by decide +kernel
theorem d11_next_25 : decode m11_next.2.1 25 = .ok (.iload 4, 2) := by decide +kernel
theorem d11_next_27 : decode m11_next.2.1 27 = .ok (.invokevirtual 228, 3) := by decide +kernel
theorem d11_next_30 : decode m11_next.2.1 30 = .ok (.ifCond .ne 5, 3) := by decide +kernel
theorem d11_next_33 : decode m11_next.2.1 33 = .ok (.iconst (-1), 1) := by decide +kernel
theorem d11_next_34 : decode m11_next.2.1 34 = .ok (.ireturn, 1) := by decide +kernel
theorem d11_next_35 : decode m11_next.2.1 35 = .ok (.iconst (-1), 1) := by decide +kernel
theorem d11_next_36 : decode m11_next.2.1 36 = .ok (.istore 6, 2) := by decide +kernel
theorem d11_next_38 : decode m11_next.2.1 38 = .ok (.iconst 0, 1) := by decide +kernel
theorem d11_next_39 : decode m11_next.2.1 39 = .ok (.istore 7, 2) := by decide +kernel
theorem d11_next_41 : decode m11_next.2.1 41 = .ok (.iload 7, 2) := by decide +kernel
theorem d11_next_43 : decode m11_next.2.1 43 = .ok (.bipush 10, 2) := by decide +kernel
theorem d11_next_45 : decode m11_next.2.1 45 = .ok (.aload_n 0, 1) := by decide +kernel
theorem d11_next_46 : decode m11_next.2.1 46 = .ok (.getfield 195, 3) := by decide +kernel
theorem d11_next_49 : decode m11_next.2.1 49 = .ok (.imul, 1) := by decide +kernel
theorem d11_next_50 : decode m11_next.2.1 50 = .ok (.if_icmp .ge 87, 3) := by decide +kernel
theorem d11_next_53 : decode m11_next.2.1 53 = .ok (.aload_n 0, 1) := by decide +kernel
theorem d11_next_54 : decode m11_next.2.1 54 = .ok (.iload 7, 2) := by decide +kernel
theorem d11_next_56 : decode m11_next.2.1 56 = .ok (.invokevirtual 386, 3) := by decide +kernel
theorem d11_next_59 : decode m11_next.2.1 59 = .ok (.ifCond .ne 6, 3) := by decide +kernel
theorem d11_next_62 : decode m11_next.2.1 62 = .ok (.goto 69, 3) := by decide +kernel
theorem d11_next_65 : decode m11_next.2.1 65 = .ok (.aload_n 0, 1) := by decide +kernel
theorem d11_next_66 : decode m11_next.2.1 66 = .ok (.iload_n 3, 1) := by decide +kernel
theorem d11_next_67 : decode m11_next.2.1 67 = .ok (.iload 4, 2) := by decide +kernel
theorem d11_next_69 : decode m11_next.2.1 69 = .ok (.iload 7, 2) := by decide +kernel
theorem d11_next_71 : decode m11_next.2.1 71 = .ok (.bipush 10, 2) := by decide +kernel
theorem d11_next_73 : decode m11_next.2.1 73 = .ok (.idiv, 1) := by decide +kernel
theorem d11_next_74 : decode m11_next.2.1 74 = .ok (.iload 7, 2) := by decide +kernel
theorem d11_next_76 : decode m11_next.2.1 76 = .ok (.bipush 10, 2) := by decide +kernel
theorem d11_next_78 : decode m11_next.2.1 78 = .ok (.irem, 1) := by decide +kernel
theorem d11_next_79 : decode m11_next.2.1 79 = .ok (.aload_n 0, 1) := by decide +kernel
theorem d11_next_80 : decode m11_next.2.1 80 = .ok (.getfield 7, 3) := by decide +kernel
theorem d11_next_83 : decode m11_next.2.1 83 = .ok (.aload_n 0, 1) := by decide +kernel
theorem d11_next_84 : decode m11_next.2.1 84 = .ok (.getfield 380, 3) := by decide +kernel
theorem d11_next_87 : decode m11_next.2.1 87 = .ok (.iaload, 1) := by decide +kernel
theorem d11_next_88 : decode m11_next.2.1 88 = .ok (.iadd, 1) := by decide +kernel
theorem d11_next_89 : decode m11_next.2.1 89 = .ok (.invokevirtual 272, 3) := by decide +kernel
theorem d11_next_92 : decode m11_next.2.1 92 = .ok (.istore 8, 2) := by decide +kernel
theorem d11_next_94 : decode m11_next.2.1 94 = .ok (.iload 6, 2) := by decide +kernel
theorem d11_next_96 : decode m11_next.2.1 96 = .ok (.iconst (-1), 1) := by decide +kernel
theorem d11_next_97 : decode m11_next.2.1 97 = .ok (.if_icmp .eq 25, 3) := by decide +kernel
theorem d11_next_100 : decode m11_next.2.1 100 = .ok (.iload 5, 2) := by decide +kernel
theorem d11_next_102 : decode m11_next.2.1 102 = .ok (.ifCond .eq 13, 3) := by decide +kernel
theorem d11_next_105 : decode m11_next.2.1 105 = .ok (.iload 8, 2) := by decide +kernel
theorem d11_next_107 : decode m11_next.2.1 107 = .ok (.iload 6, 2) := by decide +kernel
theorem d11_next_109 : decode m11_next.2.1 109 = .ok (.if_icmp .le 18, 3) := by decide +kernel
theorem d11_next_112 : decode m11_next.2.1 112 = .ok (.goto 10, 3) := by decide +kernel
theorem d11_next_115 : decode m11_next.2.1 115 = .ok (.iload 8, 2) := by decide +kernel
theorem d11_next_117 : decode m11_next.2.1 117 = .ok (.iload 6, 2) := by decide +kernel
theorem d11_next_119 : decode m11_next.2.1 119 = .ok (.if_icmp .ge 8, 3) := by decide +kernel
theorem d11_next_122 : decode m11_next.2.1 122 = .ok (.iload 8, 2) := by decide +kernel
theorem d11_next_124 : decode m11_next.2.1 124 = .ok (.goto 5, 3) := by decide +kernel
theorem d11_next_127 : decode m11_next.2.1 127 = .ok (.iload 6, 2) := by decide +kernel
theorem d11_next_129 : decode m11_next.2.1 129 = .ok (.istore 6, 2) := by decide +kernel
theorem d11_next_131 : decode m11_next.2.1 131 = .ok (.iinc 7 1, 3) := by decide +kernel
theorem d11_next_134 : decode m11_next.2.1 134 = .ok (.goto (-93), 3) := by decide +kernel
theorem d11_next_137 : decode m11_next.2.1 137 = .ok (.iload 6, 2) := by decide +kernel
theorem d11_next_139 : decode m11_next.2.1 139 = .ok (.ireturn, 1) := by decide +kernel
def b11_next_131 (rec41 : Int × Int × AH → Option (Int × AH)) (x3 : Int) (x4 : Int) (x5 : Int) (x6 : Int) (x7 : Int) (h : AH) : Option (Int × AH) :=
  rec41 (x6, (x7 + 1), h)
set_option maxRecDepth 100000 in
theorem t11_next_131 (l : Launch) (G : Geo) (d : Nat) (hd : 6 ≤ d) (x3 : Int) (x4 : Int) (x5 : Int) (x6 : Int) (x7 : Int) (rec41 : Int × Int × AH → Option (Int × AH)) (H41 : ∀ (x6 : Int) (x7 : Int) (h : AH), Den l G m11_next rvI d 41 [some (vA G 69), none, none, some (vI x3), some (vI x4), some (vI x5), some (vI x6), some (vI x7), none] [] h (rec41 (x6, x7, h))) (h : AH) : Den l G m11_next rvI d 131 [some (vA G 69), none, none, some (vI x3), some (vI x4), some (vI x5), some (vI x6), some (vI x7), none] [] h (b11_next_131 rec41 x3 x4 x5 x6 x7 h) := by
  unfold b11_next_131
  refine den_iinc (pc := 131) (L2 := [some (vA G 69), none, none, some (vI x3), some (vI x4), some (vI x5), some (vI x6), some (vI (x7 + 1)), none]) d11_next_131 (by decide) rfl rfl ?_
  refine den_goto (pc := 134) (tgt := 41) d11_next_134 (by decide) ?_
  exact H41 x6 (x7 + 1) h
def b11_next_129 (rec41 : Int × Int × AH → Option (Int × AH)) (x3 : Int) (x4 : Int) (x5 : Int) (x7 : Int) (s0 : Int) (h : AH) : Option (Int × AH) :=
  b11_next_131 rec41 x3 x4 x5 s0 x7 h
set_option maxRecDepth 100000 in
theorem t11_next_129 (l : Launch) (G : Geo) (d : Nat) (hd : 6 ≤ d) (x3 : Int) (x4 : Int) (x5 : Int) (x7 : Int) (s0 : Int) (rec41 : Int × Int × AH → Option (Int × AH)) (H41 : ∀ (x6 : Int) (x7 : Int) (h : AH), Den l G m11_next rvI d 41 [some (vA G 69), none, none, some (vI x3), some (vI x4), some (vI x5), some (vI x6), some (vI x7), none] [] h (rec41 (x6, x7, h))) (h : AH) : Den l G m11_next rvI d 129 [some (vA G 69), none, none, some (vI x3), some (vI x4), some (vI x5), none, some (vI x7), none] [vI s0] h (b11_next_129 rec41 x3 x4 x5 x7 s0 h) := by
  unfold b11_next_129
  refine den_istore (pc := 129) (L2 := [some (vA G 69), none, none, some (vI x3), some (vI x4), some (vI x5), some (vI s0), some (vI x7), none]) d11_next_129 (by decide) rfl ?_
  exact t11_next_131 l G _ hd x3 x4 x5 s0 x7 rec41 H41 h
def b11_next_122 (rec41 : Int × Int × AH → Option (Int × AH)) (x3 : Int) (x4 : Int) (x5 : Int) (x7 : Int) (x8 : Int) (h : AH) : Option (Int × AH) :=
  b11_next_129 rec41 x3 x4 x5 x7 x8 h
set_option maxRecDepth 100000 in
theorem t11_next_122 (l : Launch) (G : Geo) (d : Nat) (hd : 6 ≤ d) (x3 : Int) (x4 : Int) (x5 : Int) (x7 : Int) (x8 : Int) (rec41 : Int × Int × AH → Option (Int × AH)) (H41 : ∀ (x6 : Int) (x7 : Int) (h : AH), Den l G m11_next rvI d 41 [some (vA G 69), none, none, some (vI x3), some (vI x4), some (vI x5), some (vI x6), some (vI x7), none] [] h (rec41 (x6, x7, h))) (h : AH) : Den l G m11_next rvI d 122 [some (vA G 69), none, none, some (vI x3), some (vI x4), some (vI x5), none, some (vI x7), some (vI x8)] [] h (b11_next_122 rec41 x3 x4 x5 x7 x8 h) := by
  unfold b11_next_122
  refine den_iload (pc := 122) d11_next_122 rfl ?_
  refine den_goto (pc := 124) (tgt := 129) d11_next_124 (by decide) ?_
  refine den_wk [true, true, true, true, true, true, true, true, false] rfl ?_
  exact t11_next_129 l G _ hd x3 x4 x5 x7 x8 rec41 H41 h
def b11_next_127 (rec41 : Int × Int × AH → Option (Int × AH)) (x3 : Int) (x4 : Int) (x5 : Int) (x6 : Int) (x7 : Int) (h : AH) : Option (Int × AH) :=
  b11_next_129 rec41 x3 x4 x5 x7 x6 h
set_option maxRecDepth 100000 in
theorem t11_next_127 (l : Launch) (G : Geo) (d : Nat) (hd : 6 ≤ d) (x3 : Int) (x4 : Int) (x5 : Int) (x6 : Int) (x7 : Int) (rec41 : Int × Int × AH → Option (Int × AH)) (H41 : ∀ (x6 : Int) (x7 : Int) (h : AH), Den l G m11_next rvI d 41 [some (vA G 69), none, none, some (vI x3), some (vI x4), some (vI x5), some (vI x6), some (vI x7), none] [] h (rec41 (x6, x7, h))) (h : AH) : Den l G m11_next rvI d 127 [some (vA G 69), none, none, some (vI x3), some (vI x4), some (vI x5), some (vI x6), some (vI x7), none] [] h (b11_next_127 rec41 x3 x4 x5 x6 x7 h) := by
  unfold b11_next_127
  refine den_iload (pc := 127) d11_next_127 rfl ?_
  refine den_wk [true, true, true, true, true, true, false, true, true] rfl ?_
  exact t11_next_129 l G _ hd x3 x4 x5 x7 x6 rec41 H41 h
def b11_next_41 (rec41 : Int × Int × AH → Option (Int × AH)) (x3 : Int) (x4 : Int) (x5 : Int) (x6 : Int) (x7 : Int) (h : AH) : Option (Int × AH) :=
  if w32 (10 * (h.2 69 14)) ≤ w32 x7 then
    some (x6, h)
  else
    bnd (f11_isSo x7 h) fun r1 h2 =>
    if ¬ w32 r1 = 0 then
      asrt (0 ≤ w32 (h2.2 69 41) ∧ w32 (h2.2 69 41) < 4824) <|
      bnd (f11_burnsBehind x3 x4 (dv32 x7 10) ((rm32 x7 10) + (h2.2 70 (w32 (h2.2 69 41)).toNat)) h2) fun r6 h7 =>
      if w32 x6 = (-1) then
        b11_next_122 rec41 x3 x4 x5 x7 r6 h7
      else
        if w32 x5 = 0 then
          if w32 x6 ≤ w32 r6 then
            b11_next_127 rec41 x3 x4 x5 x6 x7 h7
          else
            b11_next_122 rec41 x3 x4 x5 x7 r6 h7
        else
          if w32 r6 ≤ w32 x6 then
            b11_next_127 rec41 x3 x4 x5 x6 x7 h7
          else
            b11_next_122 rec41 x3 x4 x5 x7 r6 h7
    else
      b11_next_131 rec41 x3 x4 x5 x6 x7 h2
set_option maxRecDepth 100000 in
theorem t11_next_41 (l : Launch) (G : Geo) (d : Nat) (hd : 6 ≤ d) (x3 : Int) (x4 : Int) (x5 : Int) (x6 : Int) (x7 : Int) (rec41 : Int × Int × AH → Option (Int × AH)) (H41 : ∀ (x6 : Int) (x7 : Int) (h : AH), Den l G m11_next rvI d 41 [some (vA G 69), none, none, some (vI x3), some (vI x4), some (vI x5), some (vI x6), some (vI x7), none] [] h (rec41 (x6, x7, h))) (h : AH) : Den l G m11_next rvI d 41 [some (vA G 69), none, none, some (vI x3), some (vI x4), some (vI x5), some (vI x6), some (vI x7), none] [] h (b11_next_41 rec41 x3 x4 x5 x6 x7 h) := by
  unfold b11_next_41
  refine den_iload (pc := 41) d11_next_41 rfl ?_
  refine den_bipush (pc := 43) d11_next_43 (by decide) ?_
  refine den_aload_n (pc := 45) d11_next_45 rfl rfl ?_
  refine den_getI (pc := 46) fa_11_195 (ok_69 _) d11_next_46 ?_
  refine den_imul (pc := 49) d11_next_49 ?_
  refine den_icmp_ge (pc := 50) (tgt := 137) d11_next_50 (by decide) rfl rfl (fun _ => ?_) (fun _ => ?_)
  · refine den_iload (pc := 137) d11_next_137 rfl ?_
    exact den_iret (pc := 139) rfl d11_next_139
  · refine den_aload_n (pc := 53) d11_next_53 rfl rfl ?_
    refine den_iload (pc := 54) d11_next_54 rfl ?_
    refine den_callVI (pc := 56) (As := [vI x7]) fv_11_386 rfl rfl (ok_69 _) (Nat.le_of_ble_eq_true rfl) (Nat.le_trans (by decide) hd) d11_next_56 (c11_isSo l G x7 h) (fun r1 h2 m3 o4 => ?_)
    refine den_if_ne (pc := 59) (tgt := 65) d11_next_59 (by decide) rfl (fun _ => ?_) (fun _ => ?_)
    · refine den_aload_n (pc := 65) d11_next_65 rfl rfl ?_
      refine den_iload_n (pc := 66) d11_next_66 rfl rfl ?_
      refine den_iload (pc := 67) d11_next_67 rfl ?_
      refine den_iload (pc := 69) d11_next_69 rfl ?_
      refine den_bipush (pc := 71) d11_next_71 (by decide) ?_
      refine den_idiv (pc := 73) d11_next_73 (by decide) ?_
      refine den_iload (pc := 74) d11_next_74 rfl ?_
      refine den_bipush (pc := 76) d11_next_76 (by decide) ?_
      refine den_irem (pc := 78) d11_next_78 (by decide) ?_
      refine den_aload_n (pc := 79) d11_next_79 rfl rfl ?_
      refine den_getR (pc := 80) (b := 70) fa_11_7 (ok_69 _) rfl d11_next_80 ?_
      refine den_aload_n (pc := 83) d11_next_83 rfl rfl ?_
      refine den_getI (pc := 84) fa_11_380 (ok_69 _) d11_next_84 ?_
      refine den_asrt (fun a5 => ?_)
      refine den_iaload (pc := 87) sh_70 (sz_lt (by decide)) rfl a5 d11_next_87 ?_
      refine den_iadd (pc := 88) d11_next_88 ?_
      refine den_callVI (pc := 89) (As := [vI x3, vI x4, vI (dv32 x7 10), vI ((rm32 x7 10) + (h2.2 70 (w32 (h2.2 69 41)).toNat))]) fv_11_272 rfl rfl (ok_69 _) (Nat.le_of_ble_eq_true rfl) (Nat.le_trans (by decide) hd) d11_next_89 (c11_burnsBehind l G x3 x4 (dv32 x7 10) ((rm32 x7 10) + (h2.2 70 (w32 (h2.2 69 41)).toNat)) h2) (fun r6 h7 m8 o9 => ?_)
      refine den_istore (pc := 92) (L2 := [some (vA G 69), none, none, some (vI x3), some (vI x4), some (vI x5), some (vI x6), some (vI x7), some (vI r6)]) d11_next_92 (by decide) rfl ?_
      refine den_iload (pc := 94) d11_next_94 rfl ?_
      refine den_iconst (pc := 96) d11_next_96 ?_
      refine den_icmp_eq (pc := 97) (tgt := 122) d11_next_97 (by decide) rfl (by decide) (fun _ => ?_) (fun _ => ?_)
      · refine den_wk [true, true, true, true, true, true, false, true, true] rfl ?_
        exact t11_next_122 l G _ hd x3 x4 x5 x7 r6 rec41 H41 h7
      · refine den_iload (pc := 100) d11_next_100 rfl ?_
        refine den_if_eq (pc := 102) (tgt := 115) d11_next_102 (by decide) rfl (fun _ => ?_) (fun _ => ?_)
        · refine den_iload (pc := 115) d11_next_115 rfl ?_
          refine den_iload (pc := 117) d11_next_117 rfl ?_
          refine den_icmp_ge (pc := 119) (tgt := 127) d11_next_119 (by decide) rfl rfl (fun _ => ?_) (fun _ => ?_)
          · refine den_wk [true, true, true, true, true, true, true, true, false] rfl ?_
            exact t11_next_127 l G _ hd x3 x4 x5 x6 x7 rec41 H41 h7
          · refine den_wk [true, true, true, true, true, true, false, true, true] rfl ?_
            exact t11_next_122 l G _ hd x3 x4 x5 x7 r6 rec41 H41 h7
        · refine den_iload (pc := 105) d11_next_105 rfl ?_
          refine den_iload (pc := 107) d11_next_107 rfl ?_
          refine den_icmp_le (pc := 109) (tgt := 127) d11_next_109 (by decide) rfl rfl (fun _ => ?_) (fun _ => ?_)
          · refine den_wk [true, true, true, true, true, true, true, true, false] rfl ?_
            exact t11_next_127 l G _ hd x3 x4 x5 x6 x7 rec41 H41 h7
          · refine den_goto (pc := 112) (tgt := 122) d11_next_112 (by decide) ?_
            refine den_wk [true, true, true, true, true, true, false, true, true] rfl ?_
            exact t11_next_122 l G _ hd x3 x4 x5 x7 r6 rec41 H41 h7
    · refine den_goto (pc := 62) (tgt := 131) d11_next_62 (by decide) ?_
      exact t11_next_131 l G _ hd x3 x4 x5 x6 x7 rec41 H41 h2
def l11_next_41 (x3 : Int) (x4 : Int) (x5 : Int) (x6 : Int) (x7 : Int) (h : AH) : Option (Int × AH) := fx (fun rec z => b11_next_41 rec x3 x4 x5 z.1 z.2.1 z.2.2) FU (x6, x7, h)
set_option maxRecDepth 100000 in
theorem tl11_next_41 (l : Launch) (G : Geo) (d : Nat) (hd : 6 ≤ d) (x3 : Int) (x4 : Int) (x5 : Int) : ∀ (n : Nat) (z : Int × Int × AH), True → Den l G m11_next rvI d 41 [some (vA G 69), none, none, some (vI x3), some (vI x4), some (vI x5), some (vI z.1), some (vI z.2.1), none] [] z.2.2 (fx (fun rec z => b11_next_41 rec x3 x4 x5 z.1 z.2.1 z.2.2) n z) :=
  den_fx (F := fun rec z => b11_next_41 rec x3 x4 x5 z.1 z.2.1 z.2.2) (P := fun z => True) (fL := fun z => [some (vA G 69), none, none, some (vI x3), some (vI x4), some (vI x5), some (vI z.1), some (vI z.2.1), none]) (fs := fun z => []) (fh := fun z => z.2.2) (fun rec hrec z hz => t11_next_41 l G d hd x3 x4 x5 z.1 z.2.1 rec (fun x6 x7 h => hrec (x6, x7, h) trivial) z.2.2 )
def f11_next (x1 : Int) (x2 : Int) (x3 : Int) (x4 : Int) (x5 : Int) (h : AH) : Option (Int × AH) :=
  bnd (f11_isVillage x1 h) fun r10 h11 =>
  if w32 r10 = 0 then
    some ((-1), h11)
  else
    bnd (f11_isLog x2 h11) fun r14 h15 =>
    if w32 r14 = 0 then
      some ((-1), h15)
    else
      bnd (f11_areThere h15) fun r18 h19 =>
      if w32 r18 = 0 then
        some ((-1), h19)
      else
        bnd (f11_isTwo x3 x4 h19) fun r22 h23 =>
        if ¬ w32 r22 = 0 then
          l11_next_41 x3 x4 x5 (-1) 0 h23
        else
          some ((-1), h23)
set_option maxRecDepth 100000 in
theorem c11_next (l : Launch) (G : Geo) (x1 : Int) (x2 : Int) (x3 : Int) (x4 : Int) (x5 : Int) (h : AH) : Con l G m11_next rvI 6 [vA G 69, vI x1, vI x2, vI x3, vI x4, vI x5] h (f11_next x1 x2 x3 x4 x5 h) := by
  have hd : 6 ≤ 6 := Nat.le_refl _
  refine con_I rfl (by decide) rfl rfl (Nat.le_of_ble_eq_true rfl) (L := [some (vA G 69), some (vI x1), some (vI x2), some (vI x3), some (vI x4), some (vI x5), none, none, none]) ?_
  unfold f11_next
  refine den_aload_n (pc := 0) d11_next_0 rfl rfl ?_
  refine den_iload_n (pc := 1) d11_next_1 rfl rfl ?_
  refine den_callVI (pc := 2) (As := [vI x1]) fv_11_201 rfl rfl (ok_69 _) (Nat.le_of_ble_eq_true rfl) (Nat.le_trans (by decide) hd) d11_next_2 (c11_isVillage l G x1 h) (fun r10 h11 m12 o13 => ?_)
  refine den_if_eq (pc := 5) (tgt := 33) d11_next_5 (by decide) rfl (fun _ => ?_) (fun _ => ?_)
  · refine den_iconst (pc := 33) d11_next_33 ?_
    exact den_iret (pc := 34) rfl d11_next_34
  · refine den_aload_n (pc := 8) d11_next_8 rfl rfl ?_
    refine den_iload_n (pc := 9) d11_next_9 rfl rfl ?_
    refine den_callVI (pc := 10) (As := [vI x2]) fv_11_383 rfl rfl (ok_69 _) (Nat.le_of_ble_eq_true rfl) (Nat.le_trans (by decide) hd) d11_next_10 (c11_isLog l G x2 h11) (fun r14 h15 m16 o17 => ?_)
    refine den_if_eq (pc := 13) (tgt := 33) d11_next_13 (by decide) rfl (fun _ => ?_) (fun _ => ?_)
    · refine den_iconst (pc := 33) d11_next_33 ?_
      exact den_iret (pc := 34) rfl d11_next_34
    · refine den_aload_n (pc := 16) d11_next_16 rfl rfl ?_
      refine den_callVI (pc := 17) (As := []) fv_11_392 rfl rfl (ok_69 _) (Nat.le_of_ble_eq_true rfl) (Nat.le_trans (by decide) hd) d11_next_17 (c11_areThere l G h15) (fun r18 h19 m20 o21 => ?_)
      refine den_if_eq (pc := 20) (tgt := 33) d11_next_20 (by decide) rfl (fun _ => ?_) (fun _ => ?_)
      · refine den_iconst (pc := 33) d11_next_33 ?_
        exact den_iret (pc := 34) rfl d11_next_34
      · refine den_aload_n (pc := 23) d11_next_23 rfl rfl ?_
        refine den_iload_n (pc := 24) d11_next_24 rfl rfl ?_
        refine den_iload (pc := 25) d11_next_25 rfl ?_
        refine den_callVI (pc := 27) (As := [vI x3, vI x4]) fv_11_228 rfl rfl (ok_69 _) (Nat.le_of_ble_eq_true rfl) (Nat.le_trans (by decide) hd) d11_next_27 (c11_isTwo l G x3 x4 h19) (fun r22 h23 m24 o25 => ?_)
        refine den_if_ne (pc := 30) (tgt := 35) d11_next_30 (by decide) rfl (fun _ => ?_) (fun _ => ?_)
        · refine den_iconst (pc := 35) d11_next_35 ?_
          refine den_istore (pc := 36) (L2 := [some (vA G 69), some (vI x1), some (vI x2), some (vI x3), some (vI x4), some (vI x5), some (vI (-1)), none, none]) d11_next_36 (by decide) rfl ?_
          refine den_iconst (pc := 38) d11_next_38 ?_
          refine den_istore (pc := 39) (L2 := [some (vA G 69), some (vI x1), some (vI x2), some (vI x3), some (vI x4), some (vI x5), some (vI (-1)), some (vI 0), none]) d11_next_39 (by decide) rfl ?_
          refine den_wk [true, false, false, true, true, true, true, true, true] rfl ?_
          exact tl11_next_41 l G _ hd x3 x4 x5 FU ((-1), 0, h23) trivial
        · refine den_iconst (pc := 33) d11_next_33 ?_
          exact den_iret (pc := 34) rfl d11_next_34
theorem d11_fits_0 : decode m11_fits.2.1 0 = .ok (.aload_n 0, 1) := by decide +kernel
theorem d11_fits_1 : decode m11_fits.2.1 1 = .ok (.iload_n 1, 1) := by decide +kernel
theorem d11_fits_2 : decode m11_fits.2.1 2 = .ok (.invokevirtual 201, 3) := by decide +kernel
theorem d11_fits_5 : decode m11_fits.2.1 5 = .ok (.ifCond .eq 32, 3) := by decide +kernel
theorem d11_fits_8 : decode m11_fits.2.1 8 = .ok (.aload_n 0, 1) := by decide +kernel
theorem d11_fits_9 : decode m11_fits.2.1 9 = .ok (.iload_n 2, 1) := by decide +kernel
theorem d11_fits_10 : decode m11_fits.2.1 10 = .ok (.invokevirtual 383, 3) := by decide +kernel
theorem d11_fits_13 : decode m11_fits.2.1 13 = .ok (.ifCond .eq 24, 3) := by decide +kernel
theorem d11_fits_16 : decode m11_fits.2.1 16 = .ok (.aload_n 0, 1) := by decide +kernel
theorem d11_fits_17 : decode m11_fits.2.1 17 = .ok (.invokevirtual 392, 3) := by decide +kernel
theorem d11_fits_20 : decode m11_fits.2.1 20 = .ok (.ifCond .eq 17, 3) := by decide +kernel
theorem d11_fits_23 : decode m11_fits.2.1 23 = .ok (.iload_n 3, 1) := by decide +kernel
theorem d11_fits_24 : decode m11_fits.2.1 24 = .ok (.ifCond .lt 13, 3) := by decide +kernel
theorem d11_fits_27 : decode m11_fits.2.1 27 = .ok (.iload_n 3, 1) := by decide +kernel
theorem d11_fits_28 : decode m11_fits.2.1 28 = .ok (.iconst 3, 1) := by decide +kernel
theorem d11_fits_29 : decode m11_fits.2.1 29 = .ok (.bipush 9, 2) := by decide +kernel
theorem d11_fits_31 : decode m11_fits.2.1 31 = .ok (.invokestatic 135, 3) := by decide +kernel
theorem d11_fits_34 : decode m11_fits.2.1 34 = .ok (.ifCond .eq 6, 3) := by decide +kernel
theorem d11_fits_37 : decode m11_fits.2.1 37 = .ok (.bipush (-2), 2) := by decide +kernel
theorem d11_fits_39 : decode m11_fits.2.1 39 = .ok (.ireturn, 1) := by decide +kernel
theorem d11_fits_40 : decode m11_fits.2.1 40 = .ok (.iconst 0, 1) := by decide +kernel
theorem d11_fits_41 : decode m11_fits.2.1 41 = .ok (.istore 4, 2) := by decide +kernel
theorem d11_fits_43 : decode m11_fits.2.1 43 = .ok (.iconst (-1), 1) := by decide +kernel
theorem d11_fits_44 : decode m11_fits.2.1 44 = .ok (.istore 5, 2) := by decide +kernel
theorem d11_fits_46 : decode m11_fits.2.1 46 = .ok (.iconst 0, 1) := by decide +kernel
theorem d11_fits_47 : decode m11_fits.2.1 47 = .ok (.istore 6, 2) := by decide +kernel
theorem d11_fits_49 : decode m11_fits.2.1 49 = .ok (.iload 6, 2) := by decide +kernel
theorem d11_fits_51 : decode m11_fits.2.1 51 = .ok (.bipush 10, 2) := by decide +kernel
theorem d11_fits_53 : decode m11_fits.2.1 53 = .ok (.aload_n 0, 1) := by decide +kernel
theorem d11_fits_54 : decode m11_fits.2.1 54 = .ok (.getfield 195, 3) := by decide +kernel
theorem d11_fits_57 : decode m11_fits.2.1 57 = .ok (.imul, 1) := by decide +kernel
theorem d11_fits_58 : decode m11_fits.2.1 58 = .ok (.if_icmp .ge 69, 3) := by decide +kernel
theorem d11_fits_61 : decode m11_fits.2.1 61 = .ok (.aload_n 0, 1) := by decide +kernel
theorem d11_fits_62 : decode m11_fits.2.1 62 = .ok (.iload 6, 2) := by decide +kernel
theorem d11_fits_64 : decode m11_fits.2.1 64 = .ok (.invokevirtual 386, 3) := by decide +kernel
theorem d11_fits_67 : decode m11_fits.2.1 67 = .ok (.ifCond .ne 6, 3) := by decide +kernel
theorem d11_fits_70 : decode m11_fits.2.1 70 = .ok (.goto 51, 3) := by decide +kernel
theorem d11_fits_73 : decode m11_fits.2.1 73 = .ok (.iload_n 3, 1) := by decide +kernel
theorem d11_fits_74 : decode m11_fits.2.1 74 = .ok (.bipush 10, 2) := by decide +kernel
theorem d11_fits_76 : decode m11_fits.2.1 76 = .ok (.if_icmp .lt 15, 3) := by decide +kernel
theorem d11_fits_79 : decode m11_fits.2.1 79 = .ok (.iload 4, 2) := by decide +kernel
theorem d11_fits_81 : decode m11_fits.2.1 81 = .ok (.iload_n 3, 1) := by decide +kernel
theorem d11_fits_82 : decode m11_fits.2.1 82 = .ok (.bipush 10, 2) := by decide +kernel
theorem d11_fits_84 : decode m11_fits.2.1 84 = .ok (.isub, 1) := by decide +kernel
theorem d11_fits_85 : decode m11_fits.2.1 85 = .ok (.if_icmp .ne 6, 3) := by decide +kernel
theorem d11_fits_88 : decode m11_fits.2.1 88 = .ok (.iload 6, 2) := by decide +kernel
theorem d11_fits_90 : decode m11_fits.2.1 90 = .ok (.ireturn, 1) := by decide +kernel
theorem d11_fits_91 : decode m11_fits.2.1 91 = .ok (.iload 4, 2) := by decide +kernel
theorem d11_fits_93 : decode m11_fits.2.1 93 = .ok (.ifCond .eq 13, 3) := by decide +kernel
theorem d11_fits_96 : decode m11_fits.2.1 96 = .ok (.iload 5, 2) := by decide +kernel
theorem d11_fits_98 : decode m11_fits.2.1 98 = .ok (.iload 6, 2) := by decide +kernel
theorem d11_fits_100 : decode m11_fits.2.1 100 = .ok (.bipush 10, 2) := by decide +kernel
theorem d11_fits_102 : decode m11_fits.2.1 102 = .ok (.idiv, 1) := by decide +kernel
theorem d11_fits_103 : decode m11_fits.2.1 103 = .ok (.if_icmp .ne 11, 3) := by decide +kernel
theorem d11_fits_106 : decode m11_fits.2.1 106 = .ok (.iload 6, 2) := by decide +kernel
theorem d11_fits_108 : decode m11_fits.2.1 108 = .ok (.bipush 10, 2) := by decide +kernel
theorem d11_fits_110 : decode m11_fits.2.1 110 = .ok (.idiv, 1) := by decide +kernel
theorem d11_fits_111 : decode m11_fits.2.1 111 = .ok (.goto 5, 3) := by decide +kernel
theorem d11_fits_114 : decode m11_fits.2.1 114 = .ok (.bipush (-2), 2) := by decide +kernel
theorem d11_fits_116 : decode m11_fits.2.1 116 = .ok (.istore 5, 2) := by decide +kernel
theorem d11_fits_118 : decode m11_fits.2.1 118 = .ok (.iinc 4 1, 3) := by decide +kernel
theorem d11_fits_121 : decode m11_fits.2.1 121 = .ok (.iinc 6 1, 3) := by decide +kernel
theorem d11_fits_124 : decode m11_fits.2.1 124 = .ok (.goto (-75), 3) := by decide +kernel
theorem d11_fits_127 : decode m11_fits.2.1 127 = .ok (.iload_n 3, 1) := by decide +kernel
theorem d11_fits_128 : decode m11_fits.2.1 128 = .ok (.tableswitch 57 0 2 #[28, 31, 43], 28) := by decide +kernel
theorem d11_fits_156 : decode m11_fits.2.1 156 = .ok (.iload 4, 2) := by decide +kernel
theorem d11_fits_158 : decode m11_fits.2.1 158 = .ok (.ireturn, 1) := by decide +kernel
theorem d11_fits_159 : decode m11_fits.2.1 159 = .ok (.iload 5, 2) := by decide +kernel
theorem d11_fits_161 : decode m11_fits.2.1 161 = .ok (.ifCond .ge 7, 3) := by decide +kernel
theorem d11_fits_164 : decode m11_fits.2.1 164 = .ok (.iconst (-1), 1) := by decide +kernel
theorem d11_fits_165 : decode m11_fits.2.1 165 = .ok (.goto 5, 3) := by decide +kernel
theorem d11_fits_168 : decode m11_fits.2.1 168 = .ok (.iload 5, 2) := by decide +kernel
theorem d11_fits_170 : decode m11_fits.2.1 170 = .ok (.ireturn, 1) := by decide +kernel
theorem d11_fits_171 : decode m11_fits.2.1 171 = .ok (.iload 4, 2) := by decide +kernel
theorem d11_fits_173 : decode m11_fits.2.1 173 = .ok (.ifCond .ne 7, 3) := by decide +kernel
theorem d11_fits_176 : decode m11_fits.2.1 176 = .ok (.iconst (-1), 1) := by decide +kernel
theorem d11_fits_177 : decode m11_fits.2.1 177 = .ok (.goto 7, 3) := by decide +kernel
theorem d11_fits_180 : decode m11_fits.2.1 180 = .ok (.aload_n 0, 1) := by decide +kernel
theorem d11_fits_181 : decode m11_fits.2.1 181 = .ok (.invokevirtual 395, 3) := by decide +kernel
theorem d11_fits_184 : decode m11_fits.2.1 184 = .ok (.ireturn, 1) := by decide +kernel
theorem d11_fits_185 : decode m11_fits.2.1 185 = .ok (.bipush (-2), 2) := by decide +kernel
theorem d11_fits_187 : decode m11_fits.2.1 187 = .ok (.ireturn, 1) := by decide +kernel
def b11_fits_121 (rec49 : Int × Int × Int × AH → Option (Int × AH)) (x3 : Int) (x4 : Int) (x5 : Int) (x6 : Int) (h : AH) : Option (Int × AH) :=
  rec49 (x4, x5, (x6 + 1), h)
set_option maxRecDepth 100000 in
theorem t11_fits_121 (l : Launch) (G : Geo) (d : Nat) (hd : 8 ≤ d) (x3 : Int) (x4 : Int) (x5 : Int) (x6 : Int) (rec49 : Int × Int × Int × AH → Option (Int × AH)) (H49 : ∀ (x4 : Int) (x5 : Int) (x6 : Int) (h : AH), Den l G m11_fits rvI d 49 [some (vA G 69), none, none, some (vI x3), some (vI x4), some (vI x5), some (vI x6)] [] h (rec49 (x4, x5, x6, h))) (h : AH) : Den l G m11_fits rvI d 121 [some (vA G 69), none, none, some (vI x3), some (vI x4), some (vI x5), some (vI x6)] [] h (b11_fits_121 rec49 x3 x4 x5 x6 h) := by
  unfold b11_fits_121
  refine den_iinc (pc := 121) (L2 := [some (vA G 69), none, none, some (vI x3), some (vI x4), some (vI x5), some (vI (x6 + 1))]) d11_fits_121 (by decide) rfl rfl ?_
  refine den_goto (pc := 124) (tgt := 49) d11_fits_124 (by decide) ?_
  exact H49 x4 x5 (x6 + 1) h
def b11_fits_116 (rec49 : Int × Int × Int × AH → Option (Int × AH)) (x3 : Int) (x4 : Int) (x6 : Int) (s0 : Int) (h : AH) : Option (Int × AH) :=
  b11_fits_121 rec49 x3 (x4 + 1) s0 x6 h
set_option maxRecDepth 100000 in
theorem t11_fits_116 (l : Launch) (G : Geo) (d : Nat) (hd : 8 ≤ d) (x3 : Int) (x4 : Int) (x6 : Int) (s0 : Int) (rec49 : Int × Int × Int × AH → Option (Int × AH)) (H49 : ∀ (x4 : Int) (x5 : Int) (x6 : Int) (h : AH), Den l G m11_fits rvI d 49 [some (vA G 69), none, none, some (vI x3), some (vI x4), some (vI x5), some (vI x6)] [] h (rec49 (x4, x5, x6, h))) (h : AH) : Den l G m11_fits rvI d 116 [some (vA G 69), none, none, some (vI x3), some (vI x4), none, some (vI x6)] [vI s0] h (b11_fits_116 rec49 x3 x4 x6 s0 h) := by
  unfold b11_fits_116
  refine den_istore (pc := 116) (L2 := [some (vA G 69), none, none, some (vI x3), some (vI x4), some (vI s0), some (vI x6)]) d11_fits_116 (by decide) rfl ?_
  refine den_iinc (pc := 118) (L2 := [some (vA G 69), none, none, some (vI x3), some (vI (x4 + 1)), some (vI s0), some (vI x6)]) d11_fits_118 (by decide) rfl rfl ?_
  exact t11_fits_121 l G _ hd x3 (x4 + 1) s0 x6 rec49 H49 h
def b11_fits_106 (rec49 : Int × Int × Int × AH → Option (Int × AH)) (x3 : Int) (x4 : Int) (x6 : Int) (h : AH) : Option (Int × AH) :=
  b11_fits_116 rec49 x3 x4 x6 (dv32 x6 10) h
set_option maxRecDepth 100000 in
theorem t11_fits_106 (l : Launch) (G : Geo) (d : Nat) (hd : 8 ≤ d) (x3 : Int) (x4 : Int) (x6 : Int) (rec49 : Int × Int × Int × AH → Option (Int × AH)) (H49 : ∀ (x4 : Int) (x5 : Int) (x6 : Int) (h : AH), Den l G m11_fits rvI d 49 [some (vA G 69), none, none, some (vI x3), some (vI x4), some (vI x5), some (vI x6)] [] h (rec49 (x4, x5, x6, h))) (h : AH) : Den l G m11_fits rvI d 106 [some (vA G 69), none, none, some (vI x3), some (vI x4), none, some (vI x6)] [] h (b11_fits_106 rec49 x3 x4 x6 h) := by
  unfold b11_fits_106
  refine den_iload (pc := 106) d11_fits_106 rfl ?_
  refine den_bipush (pc := 108) d11_fits_108 (by decide) ?_
  refine den_idiv (pc := 110) d11_fits_110 (by decide) ?_
  refine den_goto (pc := 111) (tgt := 116) d11_fits_111 (by decide) ?_
  exact t11_fits_116 l G _ hd x3 x4 x6 (dv32 x6 10) rec49 H49 h
def b11_fits_91 (rec49 : Int × Int × Int × AH → Option (Int × AH)) (x3 : Int) (x4 : Int) (x5 : Int) (x6 : Int) (h : AH) : Option (Int × AH) :=
  if w32 x4 = 0 then
    b11_fits_106 rec49 x3 x4 x6 h
  else
    if ¬ w32 x5 = w32 (dv32 x6 10) then
      b11_fits_116 rec49 x3 x4 x6 (-2) h
    else
      b11_fits_106 rec49 x3 x4 x6 h
set_option maxRecDepth 100000 in
theorem t11_fits_91 (l : Launch) (G : Geo) (d : Nat) (hd : 8 ≤ d) (x3 : Int) (x4 : Int) (x5 : Int) (x6 : Int) (rec49 : Int × Int × Int × AH → Option (Int × AH)) (H49 : ∀ (x4 : Int) (x5 : Int) (x6 : Int) (h : AH), Den l G m11_fits rvI d 49 [some (vA G 69), none, none, some (vI x3), some (vI x4), some (vI x5), some (vI x6)] [] h (rec49 (x4, x5, x6, h))) (h : AH) : Den l G m11_fits rvI d 91 [some (vA G 69), none, none, some (vI x3), some (vI x4), some (vI x5), some (vI x6)] [] h (b11_fits_91 rec49 x3 x4 x5 x6 h) := by
  unfold b11_fits_91
  refine den_iload (pc := 91) d11_fits_91 rfl ?_
  refine den_if_eq (pc := 93) (tgt := 106) d11_fits_93 (by decide) rfl (fun _ => ?_) (fun _ => ?_)
  · refine den_wk [true, true, true, true, true, false, true] rfl ?_
    exact t11_fits_106 l G _ hd x3 x4 x6 rec49 H49 h
  · refine den_iload (pc := 96) d11_fits_96 rfl ?_
    refine den_iload (pc := 98) d11_fits_98 rfl ?_
    refine den_bipush (pc := 100) d11_fits_100 (by decide) ?_
    refine den_idiv (pc := 102) d11_fits_102 (by decide) ?_
    refine den_icmp_ne (pc := 103) (tgt := 114) d11_fits_103 (by decide) rfl rfl (fun _ => ?_) (fun _ => ?_)
    · refine den_bipush (pc := 114) d11_fits_114 (by decide) ?_
      refine den_wk [true, true, true, true, true, false, true] rfl ?_
      exact t11_fits_116 l G _ hd x3 x4 x6 (-2) rec49 H49 h
    · refine den_wk [true, true, true, true, true, false, true] rfl ?_
      exact t11_fits_106 l G _ hd x3 x4 x6 rec49 H49 h
def b11_fits_49 (rec49 : Int × Int × Int × AH → Option (Int × AH)) (x3 : Int) (x4 : Int) (x5 : Int) (x6 : Int) (h : AH) : Option (Int × AH) :=
  if w32 (10 * (h.2 69 14)) ≤ w32 x6 then
    if w32 x3 = 0 then
      some (x4, h)
    else
    if w32 x3 = 1 then
      if 0 ≤ w32 x5 then
        some (x5, h)
      else
        some ((-1), h)
    else
    if w32 x3 = 2 then
      if ¬ w32 x4 = 0 then
        bnd (f11_askOf h) fun r4 h5 =>
        some (r4, h5)
      else
        some ((-1), h)
    else
    some ((-2), h)
  else
    bnd (f11_isSo x6 h) fun r8 h9 =>
    if ¬ w32 r8 = 0 then
      if w32 x3 < 10 then
        b11_fits_91 rec49 x3 x4 x5 x6 h9
      else
        if ¬ w32 x4 = w32 (x3 - 10) then
          b11_fits_91 rec49 x3 x4 x5 x6 h9
        else
          some (x6, h9)
    else
      b11_fits_121 rec49 x3 x4 x5 x6 h9
set_option maxRecDepth 100000 in
theorem t11_fits_49 (l : Launch) (G : Geo) (d : Nat) (hd : 8 ≤ d) (x3 : Int) (x4 : Int) (x5 : Int) (x6 : Int) (rec49 : Int × Int × Int × AH → Option (Int × AH)) (H49 : ∀ (x4 : Int) (x5 : Int) (x6 : Int) (h : AH), Den l G m11_fits rvI d 49 [some (vA G 69), none, none, some (vI x3), some (vI x4), some (vI x5), some (vI x6)] [] h (rec49 (x4, x5, x6, h))) (h : AH) : Den l G m11_fits rvI d 49 [some (vA G 69), none, none, some (vI x3), some (vI x4), some (vI x5), some (vI x6)] [] h (b11_fits_49 rec49 x3 x4 x5 x6 h) := by
  unfold b11_fits_49
  refine den_iload (pc := 49) d11_fits_49 rfl ?_
  refine den_bipush (pc := 51) d11_fits_51 (by decide) ?_
  refine den_aload_n (pc := 53) d11_fits_53 rfl rfl ?_
  refine den_getI (pc := 54) fa_11_195 (ok_69 _) d11_fits_54 ?_
  refine den_imul (pc := 57) d11_fits_57 ?_
  refine den_icmp_ge (pc := 58) (tgt := 127) d11_fits_58 (by decide) rfl rfl (fun _ => ?_) (fun _ => ?_)
  · refine den_iload_n (pc := 127) d11_fits_127 rfl rfl ?_
    refine den_ite (fun c1 => ?_) (fun c1 => ?_)
    · refine den_tableIn (pc := 128) (tgt := 156) d11_fits_128 (by omega) (by omega) (by rw [c1]; rfl) (by decide) ?_
      refine den_iload (pc := 156) d11_fits_156 rfl ?_
      exact den_iret (pc := 158) rfl d11_fits_158
    refine den_ite (fun c2 => ?_) (fun c2 => ?_)
    · refine den_tableIn (pc := 128) (tgt := 159) d11_fits_128 (by omega) (by omega) (by rw [c2]; rfl) (by decide) ?_
      refine den_iload (pc := 159) d11_fits_159 rfl ?_
      refine den_if_ge (pc := 161) (tgt := 168) d11_fits_161 (by decide) rfl (fun _ => ?_) (fun _ => ?_)
      · refine den_iload (pc := 168) d11_fits_168 rfl ?_
        exact den_iret (pc := 170) rfl d11_fits_170
      · refine den_iconst (pc := 164) d11_fits_164 ?_
        refine den_goto (pc := 165) (tgt := 170) d11_fits_165 (by decide) ?_
        exact den_iret (pc := 170) rfl d11_fits_170
    refine den_ite (fun c3 => ?_) (fun c3 => ?_)
    · refine den_tableIn (pc := 128) (tgt := 171) d11_fits_128 (by omega) (by omega) (by rw [c3]; rfl) (by decide) ?_
      refine den_iload (pc := 171) d11_fits_171 rfl ?_
      refine den_if_ne (pc := 173) (tgt := 180) d11_fits_173 (by decide) rfl (fun _ => ?_) (fun _ => ?_)
      · refine den_aload_n (pc := 180) d11_fits_180 rfl rfl ?_
        refine den_callVI (pc := 181) (As := []) fv_11_395 rfl rfl (ok_69 _) (Nat.le_of_ble_eq_true rfl) (Nat.le_trans (by decide) hd) d11_fits_181 (c11_askOf l G h) (fun r4 h5 m6 o7 => ?_)
        exact den_iret (pc := 184) rfl d11_fits_184
      · refine den_iconst (pc := 176) d11_fits_176 ?_
        refine den_goto (pc := 177) (tgt := 184) d11_fits_177 (by decide) ?_
        exact den_iret (pc := 184) rfl d11_fits_184
    refine den_tableOut (pc := 128) (tgt := 185) d11_fits_128 (by omega) (by decide) ?_
    refine den_bipush (pc := 185) d11_fits_185 (by decide) ?_
    exact den_iret (pc := 187) rfl d11_fits_187
  · refine den_aload_n (pc := 61) d11_fits_61 rfl rfl ?_
    refine den_iload (pc := 62) d11_fits_62 rfl ?_
    refine den_callVI (pc := 64) (As := [vI x6]) fv_11_386 rfl rfl (ok_69 _) (Nat.le_of_ble_eq_true rfl) (Nat.le_trans (by decide) hd) d11_fits_64 (c11_isSo l G x6 h) (fun r8 h9 m10 o11 => ?_)
    refine den_if_ne (pc := 67) (tgt := 73) d11_fits_67 (by decide) rfl (fun _ => ?_) (fun _ => ?_)
    · refine den_iload_n (pc := 73) d11_fits_73 rfl rfl ?_
      refine den_bipush (pc := 74) d11_fits_74 (by decide) ?_
      refine den_icmp_lt (pc := 76) (tgt := 91) d11_fits_76 (by decide) rfl (by decide) (fun _ => ?_) (fun _ => ?_)
      · exact t11_fits_91 l G _ hd x3 x4 x5 x6 rec49 H49 h9
      · refine den_iload (pc := 79) d11_fits_79 rfl ?_
        refine den_iload_n (pc := 81) d11_fits_81 rfl rfl ?_
        refine den_bipush (pc := 82) d11_fits_82 (by decide) ?_
        refine den_isub (pc := 84) d11_fits_84 ?_
        refine den_icmp_ne (pc := 85) (tgt := 91) d11_fits_85 (by decide) rfl rfl (fun _ => ?_) (fun _ => ?_)
        · exact t11_fits_91 l G _ hd x3 x4 x5 x6 rec49 H49 h9
        · refine den_iload (pc := 88) d11_fits_88 rfl ?_
          exact den_iret (pc := 90) rfl d11_fits_90
    · refine den_goto (pc := 70) (tgt := 121) d11_fits_70 (by decide) ?_
      exact t11_fits_121 l G _ hd x3 x4 x5 x6 rec49 H49 h9
def l11_fits_49 (x3 : Int) (x4 : Int) (x5 : Int) (x6 : Int) (h : AH) : Option (Int × AH) := fx (fun rec z => b11_fits_49 rec x3 z.1 z.2.1 z.2.2.1 z.2.2.2) FU (x4, x5, x6, h)
set_option maxRecDepth 100000 in
theorem tl11_fits_49 (l : Launch) (G : Geo) (d : Nat) (hd : 8 ≤ d) (x3 : Int) : ∀ (n : Nat) (z : Int × Int × Int × AH), True → Den l G m11_fits rvI d 49 [some (vA G 69), none, none, some (vI x3), some (vI z.1), some (vI z.2.1), some (vI z.2.2.1)] [] z.2.2.2 (fx (fun rec z => b11_fits_49 rec x3 z.1 z.2.1 z.2.2.1 z.2.2.2) n z) :=
  den_fx (F := fun rec z => b11_fits_49 rec x3 z.1 z.2.1 z.2.2.1 z.2.2.2) (P := fun z => True) (fL := fun z => [some (vA G 69), none, none, some (vI x3), some (vI z.1), some (vI z.2.1), some (vI z.2.2.1)]) (fs := fun z => []) (fh := fun z => z.2.2.2) (fun rec hrec z hz => t11_fits_49 l G d hd x3 z.1 z.2.1 z.2.2.1 rec (fun x4 x5 x6 h => hrec (x4, x5, x6, h) trivial) z.2.2.2 )
def f11_fits (x1 : Int) (x2 : Int) (x3 : Int) (h : AH) : Option (Int × AH) :=
  bnd (f11_isVillage x1 h) fun r12 h13 =>
  if w32 r12 = 0 then
    some ((-2), h13)
  else
    bnd (f11_isLog x2 h13) fun r16 h17 =>
    if w32 r16 = 0 then
      some ((-2), h17)
    else
      bnd (f11_areThere h17) fun r20 h21 =>
      if w32 r20 = 0 then
        some ((-2), h21)
      else
        if w32 x3 < 0 then
          some ((-2), h21)
        else
          bnd (f11_isIn x3 3 9 h21) fun r24 h25 =>
          if w32 r24 = 0 then
            l11_fits_49 x3 0 (-1) 0 h25
          else
            some ((-2), h25)
set_option maxRecDepth 100000 in
theorem c11_fits (l : Launch) (G : Geo) (x1 : Int) (x2 : Int) (x3 : Int) (h : AH) : Con l G m11_fits rvI 8 [vA G 69, vI x1, vI x2, vI x3] h (f11_fits x1 x2 x3 h) := by
  have hd : 8 ≤ 8 := Nat.le_refl _
  refine con_I rfl (by decide) rfl rfl (Nat.le_of_ble_eq_true rfl) (L := [some (vA G 69), some (vI x1), some (vI x2), some (vI x3), none, none, none]) ?_
  unfold f11_fits
  refine den_aload_n (pc := 0) d11_fits_0 rfl rfl ?_
  refine den_iload_n (pc := 1) d11_fits_1 rfl rfl ?_
  refine den_callVI (pc := 2) (As := [vI x1]) fv_11_201 rfl rfl (ok_69 _) (Nat.le_of_ble_eq_true rfl) (Nat.le_trans (by decide) hd) d11_fits_2 (c11_isVillage l G x1 h) (fun r12 h13 m14 o15 => ?_)
  refine den_if_eq (pc := 5) (tgt := 37) d11_fits_5 (by decide) rfl (fun _ => ?_) (fun _ => ?_)
  · refine den_bipush (pc := 37) d11_fits_37 (by decide) ?_
    exact den_iret (pc := 39) rfl d11_fits_39
  · refine den_aload_n (pc := 8) d11_fits_8 rfl rfl ?_
    refine den_iload_n (pc := 9) d11_fits_9 rfl rfl ?_
    refine den_callVI (pc := 10) (As := [vI x2]) fv_11_383 rfl rfl (ok_69 _) (Nat.le_of_ble_eq_true rfl) (Nat.le_trans (by decide) hd) d11_fits_10 (c11_isLog l G x2 h13) (fun r16 h17 m18 o19 => ?_)
    refine den_if_eq (pc := 13) (tgt := 37) d11_fits_13 (by decide) rfl (fun _ => ?_) (fun _ => ?_)
    · refine den_bipush (pc := 37) d11_fits_37 (by decide) ?_
      exact den_iret (pc := 39) rfl d11_fits_39
    · refine den_aload_n (pc := 16) d11_fits_16 rfl rfl ?_
      refine den_callVI (pc := 17) (As := []) fv_11_392 rfl rfl (ok_69 _) (Nat.le_of_ble_eq_true rfl) (Nat.le_trans (by decide) hd) d11_fits_17 (c11_areThere l G h17) (fun r20 h21 m22 o23 => ?_)
      refine den_if_eq (pc := 20) (tgt := 37) d11_fits_20 (by decide) rfl (fun _ => ?_) (fun _ => ?_)
      · refine den_bipush (pc := 37) d11_fits_37 (by decide) ?_
        exact den_iret (pc := 39) rfl d11_fits_39
      · refine den_iload_n (pc := 23) d11_fits_23 rfl rfl ?_
        refine den_if_lt (pc := 24) (tgt := 37) d11_fits_24 (by decide) rfl (fun _ => ?_) (fun _ => ?_)
        · refine den_bipush (pc := 37) d11_fits_37 (by decide) ?_
          exact den_iret (pc := 39) rfl d11_fits_39
        · refine den_iload_n (pc := 27) d11_fits_27 rfl rfl ?_
          refine den_iconst (pc := 28) d11_fits_28 ?_
          refine den_bipush (pc := 29) d11_fits_29 (by decide) ?_
          refine den_callSI (pc := 31) (As := [vI x3, vI 3, vI 9]) fs_11_135 rfl rfl (Nat.le_of_ble_eq_true rfl) (Nat.le_trans (by decide) hd) d11_fits_31 (c11_isIn l G x3 3 9 h21) (fun r24 h25 m26 o27 => ?_)
          refine den_if_eq (pc := 34) (tgt := 40) d11_fits_34 (by decide) rfl (fun _ => ?_) (fun _ => ?_)
          · refine den_iconst (pc := 40) d11_fits_40 ?_
            refine den_istore (pc := 41) (L2 := [some (vA G 69), some (vI x1), some (vI x2), some (vI x3), some (vI 0), none, none]) d11_fits_41 (by decide) rfl ?_
            refine den_iconst (pc := 43) d11_fits_43 ?_
            refine den_istore (pc := 44) (L2 := [some (vA G 69), some (vI x1), some (vI x2), some (vI x3), some (vI 0), some (vI (-1)), none]) d11_fits_44 (by decide) rfl ?_
            refine den_iconst (pc := 46) d11_fits_46 ?_
            refine den_istore (pc := 47) (L2 := [some (vA G 69), some (vI x1), some (vI x2), some (vI x3), some (vI 0), some (vI (-1)), some (vI 0)]) d11_fits_47 (by decide) rfl ?_
            refine den_wk [true, false, false, true, true, true, true] rfl ?_
            exact tl11_fits_49 l G _ hd x3 FU (0, (-1), 0, h25) trivial
          · refine den_bipush (pc := 37) d11_fits_37 (by decide) ?_
            exact den_iret (pc := 39) rfl d11_fits_39
theorem d11_below_0 : decode m11_below.2.1 0 = .ok (.aload_n 0, 1) := by decide +kernel
theorem d11_below_1 : decode m11_below.2.1 1 = .ok (.aload_n 0, 1) := by decide +kernel
theorem d11_below_2 : decode m11_below.2.1 2 = .ok (.getfield 398, 3) := by decide +kernel
theorem d11_below_5 : decode m11_below.2.1 5 = .ok (.ldc_w 401, 3) := by decide +kernel
theorem d11_below_8 : decode m11_below.2.1 8 = .ok (.imul, 1) := by decide +kernel
theorem d11_below_9 : decode m11_below.2.1 9 = .ok (.sipush 12345, 3) := by decide +kernel
theorem d11_below_12 : decode m11_below.2.1 12 = .ok (.iadd, 1) := by decide +kernel
theorem d11_below_13 : decode m11_below.2.1 13 = .ok (.putfield 398, 3) := by decide +kernel
theorem d11_below_16 : decode m11_below.2.1 16 = .ok (.aload_n 0, 1) := by decide +kernel
theorem d11_below_17 : decode m11_below.2.1 17 = .ok (.getfield 398, 3) := by decide +kernel
theorem d11_below_20 : decode m11_below.2.1 20 = .ok (.bipush 16, 2) := by decide +kernel
theorem d11_below_22 : decode m11_below.2.1 22 = .ok (.iushr, 1) := by decide +kernel
theorem d11_below_23 : decode m11_below.2.1 23 = .ok (.iload_n 1, 1) := by decide +kernel
theorem d11_below_24 : decode m11_below.2.1 24 = .ok (.irem, 1) := by decide +kernel
theorem d11_below_25 : decode m11_below.2.1 25 = .ok (.ireturn, 1) := by decide +kernel
def f11_below (x1 : Int) (h : AH) : Option (Int × AH) :=
  lt (wr h 69 43 (((h.2 69 43) * 1103515245) + 12345)) fun h1 =>
  asrt (¬ w32 x1 = 0) <|
  some (rm32 (ush32 (h1.2 69 43) 16) x1, h1)
set_option maxRecDepth 100000 in
theorem c11_below (l : Launch) (G : Geo) (x1 : Int) (h : AH) : Con l G m11_below rvI 2 [vA G 69, vI x1] h (f11_below x1 h) := by
  have hd : 2 ≤ 2 := Nat.le_refl _
  refine con_I rfl (by decide) rfl rfl (Nat.le_of_ble_eq_true rfl) (L := [some (vA G 69), some (vI x1)]) ?_
  unfold f11_below
  refine den_aload_n (pc := 0) d11_below_0 rfl rfl ?_
  refine den_aload_n (pc := 1) d11_below_1 rfl rfl ?_
  refine den_getI (pc := 2) fa_11_398 (ok_69 _) d11_below_2 ?_
  refine den_ldc_w (pc := 5) kc_11_401 d11_below_5 ?_
  refine den_imul (pc := 8) d11_below_8 ?_
  refine den_sipush (pc := 9) d11_below_9 (by decide) ?_
  refine den_iadd (pc := 12) d11_below_12 ?_
  refine den_putI (pc := 13) fp_11_398 (ok_69 _) d11_below_13 ?_
  refine den_ltH (fun h1 m2 => ?_)
  refine den_aload_n (pc := 16) d11_below_16 rfl rfl ?_
  refine den_getI (pc := 17) fa_11_398 (ok_69 _) d11_below_17 ?_
  refine den_bipush (pc := 20) d11_below_20 (by decide) ?_
  refine den_iushr (pc := 22) d11_below_22 ?_
  refine den_iload_n (pc := 23) d11_below_23 rfl rfl ?_
  refine den_asrt (fun a3 => ?_)
  refine den_irem (pc := 24) d11_below_24 a3 ?_
  exact den_iret (pc := 25) rfl d11_below_25
theorem d11_draws_0 : decode m11_draws.2.1 0 = .ok (.aload_n 0, 1) := by decide +kernel
theorem d11_draws_1 : decode m11_draws.2.1 1 = .ok (.bipush 8, 2) := by decide +kernel
theorem d11_draws_3 : decode m11_draws.2.1 3 = .ok (.invokevirtual 402, 3) := by decide +kernel
theorem d11_draws_6 : decode m11_draws.2.1 6 = .ok (.istore_n 1, 1) := by decide +kernel
theorem d11_draws_7 : decode m11_draws.2.1 7 = .ok (.iload_n 1, 1) := by decide +kernel
theorem d11_draws_8 : decode m11_draws.2.1 8 = .ok (.bipush 7, 2) := by decide +kernel
theorem d11_draws_10 : decode m11_draws.2.1 10 = .ok (.if_icmp .ne 9, 3) := by decide +kernel
theorem d11_draws_13 : decode m11_draws.2.1 13 = .ok (.aload_n 0, 1) := by decide +kernel
theorem d11_draws_14 : decode m11_draws.2.1 14 = .ok (.invokevirtual 346, 3) := by decide +kernel
theorem d11_draws_17 : decode m11_draws.2.1 17 = .ok (.pop, 1) := by decide +kernel
theorem d11_draws_18 : decode m11_draws.2.1 18 = .ok (.return_, 1) := by decide +kernel
theorem d11_draws_19 : decode m11_draws.2.1 19 = .ok (.aload_n 0, 1) := by decide +kernel
theorem d11_draws_20 : decode m11_draws.2.1 20 = .ok (.getfield 195, 3) := by decide +kernel
theorem d11_draws_23 : decode m11_draws.2.1 23 = .ok (.ifCond .eq 29, 3) := by decide +kernel
theorem d11_draws_26 : decode m11_draws.2.1 26 = .ok (.iload_n 1, 1) := by decide +kernel
theorem d11_draws_27 : decode m11_draws.2.1 27 = .ok (.bipush 6, 2) := by decide +kernel
theorem d11_draws_29 : decode m11_draws.2.1 29 = .ok (.if_icmp .ge 11, 3) := by decide +kernel
theorem d11_draws_32 : decode m11_draws.2.1 32 = .ok (.aload_n 0, 1) := by decide +kernel
theorem d11_draws_33 : decode m11_draws.2.1 33 = .ok (.getfield 192, 3) := by decide +kernel
theorem d11_draws_36 : decode m11_draws.2.1 36 = .ok (.iconst 2, 1) := by decide +kernel
theorem d11_draws_37 : decode m11_draws.2.1 37 = .ok (.if_icmp .lt 15, 3) := by decide +kernel
theorem d11_draws_40 : decode m11_draws.2.1 40 = .ok (.iload_n 1, 1) := by decide +kernel
theorem d11_draws_41 : decode m11_draws.2.1 41 = .ok (.iconst 4, 1) := by decide +kernel
theorem d11_draws_42 : decode m11_draws.2.1 42 = .ok (.if_icmp .ge 11, 3) := by decide +kernel
theorem d11_draws_45 : decode m11_draws.2.1 45 = .ok (.aload_n 0, 1) := by decide +kernel
theorem d11_draws_46 : decode m11_draws.2.1 46 = .ok (.getfield 198, 3) := by decide +kernel
theorem d11_draws_49 : decode m11_draws.2.1 49 = .ok (.ifCond .ne 4, 3) := by decide +kernel
theorem d11_draws_52 : decode m11_draws.2.1 52 = .ok (.return_, 1) := by decide +kernel
theorem d11_draws_53 : decode m11_draws.2.1 53 = .ok (.iload_n 1, 1) := by decide +kernel
theorem d11_draws_54 : decode m11_draws.2.1 54 = .ok (.bipush 6, 2) := by decide +kernel
theorem d11_draws_56 : decode m11_draws.2.1 56 = .ok (.if_icmp .ne 25, 3) := by decide +kernel
theorem d11_draws_59 : decode m11_draws.2.1 59 = .ok (.aload_n 0, 1) := by decide +kernel
theorem d11_draws_60 : decode m11_draws.2.1 60 = .ok (.aload_n 0, 1) := by decide +kernel
theorem d11_draws_61 : decode m11_draws.2.1 61 = .ok (.getfield 195, 3) := by decide +kernel
theorem d11_draws_64 : decode m11_draws.2.1 64 = .ok (.invokevirtual 402, 3) := by decide +kernel
theorem d11_draws_67 : decode m11_draws.2.1 67 = .ok (.istore_n 2, 1) := by decide +kernel
theorem d11_draws_68 : decode m11_draws.2.1 68 = .ok (.aload_n 0, 1) := by decide +kernel
theorem d11_draws_69 : decode m11_draws.2.1 69 = .ok (.iload_n 2, 1) := by decide +kernel
theorem d11_draws_70 : decode m11_draws.2.1 70 = .ok (.aload_n 0, 1) := by decide +kernel
theorem d11_draws_71 : decode m11_draws.2.1 71 = .ok (.bipush 10, 2) := by decide +kernel
theorem d11_draws_73 : decode m11_draws.2.1 73 = .ok (.invokevirtual 402, 3) := by decide +kernel
theorem d11_draws_76 : decode m11_draws.2.1 76 = .ok (.invokevirtual 349, 3) := by decide +kernel
theorem d11_draws_79 : decode m11_draws.2.1 79 = .ok (.pop, 1) := by decide +kernel
theorem d11_draws_80 : decode m11_draws.2.1 80 = .ok (.return_, 1) := by decide +kernel
theorem d11_draws_81 : decode m11_draws.2.1 81 = .ok (.aload_n 0, 1) := by decide +kernel
theorem d11_draws_82 : decode m11_draws.2.1 82 = .ok (.aload_n 0, 1) := by decide +kernel
theorem d11_draws_83 : decode m11_draws.2.1 83 = .ok (.getfield 192, 3) := by decide +kernel
theorem d11_draws_86 : decode m11_draws.2.1 86 = .ok (.invokevirtual 402, 3) := by decide +kernel
theorem d11_draws_89 : decode m11_draws.2.1 89 = .ok (.istore_n 2, 1) := by decide +kernel
theorem d11_draws_90 : decode m11_draws.2.1 90 = .ok (.aload_n 0, 1) := by decide +kernel
theorem d11_draws_91 : decode m11_draws.2.1 91 = .ok (.aload_n 0, 1) := by decide +kernel
theorem d11_draws_92 : decode m11_draws.2.1 92 = .ok (.getfield 192, 3) := by decide +kernel
theorem d11_draws_95 : decode m11_draws.2.1 95 = .ok (.iconst 1, 1) := by decide +kernel
theorem d11_draws_96 : decode m11_draws.2.1 96 = .ok (.isub, 1) := by decide +kernel
theorem d11_draws_97 : decode m11_draws.2.1 97 = .ok (.invokevirtual 402, 3) := by decide +kernel
theorem d11_draws_100 : decode m11_draws.2.1 100 = .ok (.iconst 1, 1) := by decide +kernel
theorem d11_draws_101 : decode m11_draws.2.1 101 = .ok (.iadd, 1) := by decide +kernel
theorem d11_draws_102 : decode m11_draws.2.1 102 = .ok (.iload_n 2, 1) := by decide +kernel
theorem d11_draws_103 : decode m11_draws.2.1 103 = .ok (.iadd, 1) := by decide +kernel
theorem d11_draws_104 : decode m11_draws.2.1 104 = .ok (.aload_n 0, 1) := by decide +kernel
theorem d11_draws_105 : decode m11_draws.2.1 105 = .ok (.getfield 192, 3) := by decide +kernel
theorem d11_draws_108 : decode m11_draws.2.1 108 = .ok (.irem, 1) := by decide +kernel
theorem d11_draws_109 : decode m11_draws.2.1 109 = .ok (.istore_n 3, 1) := by decide +kernel
theorem d11_draws_110 : decode m11_draws.2.1 110 = .ok (.aload_n 0, 1) := by decide +kernel
theorem d11_draws_111 : decode m11_draws.2.1 111 = .ok (.aload_n 0, 1) := by decide +kernel
theorem d11_draws_112 : decode m11_draws.2.1 112 = .ok (.getfield 195, 3) := by decide +kernel
theorem d11_draws_115 : decode m11_draws.2.1 115 = .ok (.invokevirtual 402, 3) := by decide +kernel
theorem d11_draws_118 : decode m11_draws.2.1 118 = .ok (.istore 4, 2) := by decide +kernel
theorem d11_draws_120 : decode m11_draws.2.1 120 = .ok (.aload_n 0, 1) := by decide +kernel
theorem d11_draws_121 : decode m11_draws.2.1 121 = .ok (.iload_n 1, 1) := by decide +kernel
theorem d11_draws_122 : decode m11_draws.2.1 122 = .ok (.iconst 4, 1) := by decide +kernel
theorem d11_draws_123 : decode m11_draws.2.1 123 = .ok (.if_icmp .ge 7, 3) := by decide +kernel
theorem d11_draws_126 : decode m11_draws.2.1 126 = .ok (.iconst 0, 1) := by decide +kernel
theorem d11_draws_127 : decode m11_draws.2.1 127 = .ok (.goto 6, 3) := by decide +kernel
theorem d11_draws_130 : decode m11_draws.2.1 130 = .ok (.iload_n 1, 1) := by decide +kernel
theorem d11_draws_131 : decode m11_draws.2.1 131 = .ok (.iconst 3, 1) := by decide +kernel
theorem d11_draws_132 : decode m11_draws.2.1 132 = .ok (.isub, 1) := by decide +kernel
theorem d11_draws_133 : decode m11_draws.2.1 133 = .ok (.iload_n 2, 1) := by decide +kernel
theorem d11_draws_134 : decode m11_draws.2.1 134 = .ok (.iload_n 3, 1) := by decide +kernel
theorem d11_draws_135 : decode m11_draws.2.1 135 = .ok (.iload 4, 2) := by decide +kernel
theorem d11_draws_137 : decode m11_draws.2.1 137 = .ok (.iload_n 1, 1) := by decide +kernel
theorem d11_draws_138 : decode m11_draws.2.1 138 = .ok (.iconst 4, 1) := by decide +kernel
theorem d11_draws_139 : decode m11_draws.2.1 139 = .ok (.if_icmp .ge 14, 3) := by decide +kernel
theorem d11_draws_142 : decode m11_draws.2.1 142 = .ok (.aload_n 0, 1) := by decide +kernel
theorem d11_draws_143 : decode m11_draws.2.1 143 = .ok (.aload_n 0, 1) := by decide +kernel
theorem d11_draws_144 : decode m11_draws.2.1 144 = .ok (.getfield 198, 3) := by decide +kernel
theorem d11_draws_147 : decode m11_draws.2.1 147 = .ok (.invokevirtual 402, 3) := by decide +kernel
theorem d11_draws_150 : decode m11_draws.2.1 150 = .ok (.goto 4, 3) := by decide +kernel
theorem d11_draws_153 : decode m11_draws.2.1 153 = .ok (.iconst (-1), 1) := by decide +kernel
theorem d11_draws_154 : decode m11_draws.2.1 154 = .ok (.invokevirtual 361, 3) := by decide +kernel
theorem d11_draws_157 : decode m11_draws.2.1 157 = .ok (.pop, 1) := by decide +kernel
theorem d11_draws_158 : decode m11_draws.2.1 158 = .ok (.return_, 1) := by decide +kernel
def b11_draws_133 (x1 : Int) (x2 : Int) (x3 : Int) (x4 : Int) (s0 : Int) (h : AH) : Option (Int × AH) :=
  if 4 ≤ w32 x1 then
    bnd (f11_does s0 x2 x3 x4 (-1) h) fun r1 h2 =>
    some (0, h2)
  else
    bnd (f11_below (h.2 69 15) h) fun r5 h6 =>
    bnd (f11_does s0 x2 x3 x4 r5 h6) fun r9 h10 =>
    some (0, h10)
set_option maxRecDepth 100000 in
theorem t11_draws_133 (l : Launch) (G : Geo) (d : Nat) (hd : 6 ≤ d) (x1 : Int) (x2 : Int) (x3 : Int) (x4 : Int) (s0 : Int) (h : AH) : Den l G m11_draws rvV d 133 [some (vA G 69), some (vI x1), some (vI x2), some (vI x3), some (vI x4)] [vI s0, vA G 69] h (b11_draws_133 x1 x2 x3 x4 s0 h) := by
  unfold b11_draws_133
  refine den_iload_n (pc := 133) d11_draws_133 rfl rfl ?_
  refine den_iload_n (pc := 134) d11_draws_134 rfl rfl ?_
  refine den_iload (pc := 135) d11_draws_135 rfl ?_
  refine den_iload_n (pc := 137) d11_draws_137 rfl rfl ?_
  refine den_iconst (pc := 138) d11_draws_138 ?_
  refine den_icmp_ge (pc := 139) (tgt := 153) d11_draws_139 (by decide) rfl (by decide) (fun _ => ?_) (fun _ => ?_)
  · refine den_iconst (pc := 153) d11_draws_153 ?_
    refine den_callVI (pc := 154) (As := [vI s0, vI x2, vI x3, vI x4, vI (-1)]) fv_11_361 rfl rfl (ok_69 _) (Nat.le_of_ble_eq_true rfl) (Nat.le_trans (by decide) hd) d11_draws_154 (c11_does l G s0 x2 x3 x4 (-1) h) (fun r1 h2 m3 o4 => ?_)
    refine den_pop (pc := 157) d11_draws_157 rfl ?_
    exact den_vret (pc := 158) rfl d11_draws_158
  · refine den_aload_n (pc := 142) d11_draws_142 rfl rfl ?_
    refine den_aload_n (pc := 143) d11_draws_143 rfl rfl ?_
    refine den_getI (pc := 144) fa_11_198 (ok_69 _) d11_draws_144 ?_
    refine den_callVI (pc := 147) (As := [vI (h.2 69 15)]) fv_11_402 rfl rfl (ok_69 _) (Nat.le_of_ble_eq_true rfl) (Nat.le_trans (by decide) hd) d11_draws_147 (c11_below l G (h.2 69 15) h) (fun r5 h6 m7 o8 => ?_)
    refine den_goto (pc := 150) (tgt := 154) d11_draws_150 (by decide) ?_
    refine den_callVI (pc := 154) (As := [vI s0, vI x2, vI x3, vI x4, vI r5]) fv_11_361 rfl rfl (ok_69 _) (Nat.le_of_ble_eq_true rfl) (Nat.le_trans (by decide) hd) d11_draws_154 (c11_does l G s0 x2 x3 x4 r5 h6) (fun r9 h10 m11 o12 => ?_)
    refine den_pop (pc := 157) d11_draws_157 rfl ?_
    exact den_vret (pc := 158) rfl d11_draws_158
def b11_draws_53 (x1 : Int) (h : AH) : Option (Int × AH) :=
  if ¬ w32 x1 = 6 then
    bnd (f11_below (h.2 69 13) h) fun r13 h14 =>
    bnd (f11_below ((h14.2 69 13) - 1) h14) fun r17 h18 =>
    asrt (¬ w32 (h18.2 69 13) = 0) <|
    lt (rm32 ((r17 + 1) + r13) (h18.2 69 13)) fun u22 =>
    bnd (f11_below (h18.2 69 14) h18) fun r23 h24 =>
    if 4 ≤ w32 x1 then
      b11_draws_133 x1 r13 u22 r23 (x1 - 3) h24
    else
      b11_draws_133 x1 r13 u22 r23 0 h24
  else
    bnd (f11_below (h.2 69 14) h) fun r27 h28 =>
    bnd (f11_below 10 h28) fun r31 h32 =>
    bnd (f11_tells r27 r31 h32) fun r35 h36 =>
    some (0, h36)
set_option maxRecDepth 100000 in
theorem t11_draws_53 (l : Launch) (G : Geo) (d : Nat) (hd : 6 ≤ d) (x1 : Int) (h : AH) : Den l G m11_draws rvV d 53 [some (vA G 69), some (vI x1), none, none, none] [] h (b11_draws_53 x1 h) := by
  unfold b11_draws_53
  refine den_iload_n (pc := 53) d11_draws_53 rfl rfl ?_
  refine den_bipush (pc := 54) d11_draws_54 (by decide) ?_
  refine den_icmp_ne (pc := 56) (tgt := 81) d11_draws_56 (by decide) rfl (by decide) (fun _ => ?_) (fun _ => ?_)
  · refine den_aload_n (pc := 81) d11_draws_81 rfl rfl ?_
    refine den_aload_n (pc := 82) d11_draws_82 rfl rfl ?_
    refine den_getI (pc := 83) fa_11_192 (ok_69 _) d11_draws_83 ?_
    refine den_callVI (pc := 86) (As := [vI (h.2 69 13)]) fv_11_402 rfl rfl (ok_69 _) (Nat.le_of_ble_eq_true rfl) (Nat.le_trans (by decide) hd) d11_draws_86 (c11_below l G (h.2 69 13) h) (fun r13 h14 m15 o16 => ?_)
    refine den_istore_n (pc := 89) (L2 := [some (vA G 69), some (vI x1), some (vI r13), none, none]) d11_draws_89 rfl (by decide) rfl ?_
    refine den_aload_n (pc := 90) d11_draws_90 rfl rfl ?_
    refine den_aload_n (pc := 91) d11_draws_91 rfl rfl ?_
    refine den_getI (pc := 92) fa_11_192 (ok_69 _) d11_draws_92 ?_
    refine den_iconst (pc := 95) d11_draws_95 ?_
    refine den_isub (pc := 96) d11_draws_96 ?_
    refine den_callVI (pc := 97) (As := [vI ((h14.2 69 13) - 1)]) fv_11_402 rfl rfl (ok_69 _) (Nat.le_of_ble_eq_true rfl) (Nat.le_trans (by decide) hd) d11_draws_97 (c11_below l G ((h14.2 69 13) - 1) h14) (fun r17 h18 m19 o20 => ?_)
    refine den_iconst (pc := 100) d11_draws_100 ?_
    refine den_iadd (pc := 101) d11_draws_101 ?_
    refine den_iload_n (pc := 102) d11_draws_102 rfl rfl ?_
    refine den_iadd (pc := 103) d11_draws_103 ?_
    refine den_aload_n (pc := 104) d11_draws_104 rfl rfl ?_
    refine den_getI (pc := 105) fa_11_192 (ok_69 _) d11_draws_105 ?_
    refine den_asrt (fun a21 => ?_)
    refine den_irem (pc := 108) d11_draws_108 a21 ?_
    refine den_istore_nL (pc := 109) (L2 := fun y => [some (vA G 69), some (vI x1), some (vI r13), some (vI y), none]) d11_draws_109 rfl (by decide) (fun _ => rfl) (fun u22 => ?_)
    refine den_aload_n (pc := 110) d11_draws_110 rfl rfl ?_
    refine den_aload_n (pc := 111) d11_draws_111 rfl rfl ?_
    refine den_getI (pc := 112) fa_11_195 (ok_69 _) d11_draws_112 ?_
    refine den_callVI (pc := 115) (As := [vI (h18.2 69 14)]) fv_11_402 rfl rfl (ok_69 _) (Nat.le_of_ble_eq_true rfl) (Nat.le_trans (by decide) hd) d11_draws_115 (c11_below l G (h18.2 69 14) h18) (fun r23 h24 m25 o26 => ?_)
    refine den_istore (pc := 118) (L2 := [some (vA G 69), some (vI x1), some (vI r13), some (vI u22), some (vI r23)]) d11_draws_118 (by decide) rfl ?_
    refine den_aload_n (pc := 120) d11_draws_120 rfl rfl ?_
    refine den_iload_n (pc := 121) d11_draws_121 rfl rfl ?_
    refine den_iconst (pc := 122) d11_draws_122 ?_
    refine den_icmp_ge (pc := 123) (tgt := 130) d11_draws_123 (by decide) rfl (by decide) (fun _ => ?_) (fun _ => ?_)
    · refine den_iload_n (pc := 130) d11_draws_130 rfl rfl ?_
      refine den_iconst (pc := 131) d11_draws_131 ?_
      refine den_isub (pc := 132) d11_draws_132 ?_
      exact t11_draws_133 l G _ hd x1 r13 u22 r23 (x1 - 3) h24
    · refine den_iconst (pc := 126) d11_draws_126 ?_
      refine den_goto (pc := 127) (tgt := 133) d11_draws_127 (by decide) ?_
      exact t11_draws_133 l G _ hd x1 r13 u22 r23 0 h24
  · refine den_aload_n (pc := 59) d11_draws_59 rfl rfl ?_
    refine den_aload_n (pc := 60) d11_draws_60 rfl rfl ?_
    refine den_getI (pc := 61) fa_11_195 (ok_69 _) d11_draws_61 ?_
    refine den_callVI (pc := 64) (As := [vI (h.2 69 14)]) fv_11_402 rfl rfl (ok_69 _) (Nat.le_of_ble_eq_true rfl) (Nat.le_trans (by decide) hd) d11_draws_64 (c11_below l G (h.2 69 14) h) (fun r27 h28 m29 o30 => ?_)
    refine den_istore_n (pc := 67) (L2 := [some (vA G 69), some (vI x1), some (vI r27), none, none]) d11_draws_67 rfl (by decide) rfl ?_
    refine den_aload_n (pc := 68) d11_draws_68 rfl rfl ?_
    refine den_iload_n (pc := 69) d11_draws_69 rfl rfl ?_
    refine den_aload_n (pc := 70) d11_draws_70 rfl rfl ?_
    refine den_bipush (pc := 71) d11_draws_71 (by decide) ?_
    refine den_callVI (pc := 73) (As := [vI 10]) fv_11_402 rfl rfl (ok_69 _) (Nat.le_of_ble_eq_true rfl) (Nat.le_trans (by decide) hd) d11_draws_73 (c11_below l G 10 h28) (fun r31 h32 m33 o34 => ?_)
    refine den_callVI (pc := 76) (As := [vI r27, vI r31]) fv_11_349 rfl rfl (ok_69 _) (Nat.le_of_ble_eq_true rfl) (Nat.le_trans (by decide) hd) d11_draws_76 (c11_tells l G r27 r31 h32) (fun r35 h36 m37 o38 => ?_)
    refine den_pop (pc := 79) d11_draws_79 rfl ?_
    exact den_vret (pc := 80) rfl d11_draws_80
def b11_draws_40 (x1 : Int) (h : AH) : Option (Int × AH) :=
  if 4 ≤ w32 x1 then
    b11_draws_53 x1 h
  else
    if ¬ w32 (h.2 69 15) = 0 then
      b11_draws_53 x1 h
    else
      some (0, h)
set_option maxRecDepth 100000 in
theorem t11_draws_40 (l : Launch) (G : Geo) (d : Nat) (hd : 6 ≤ d) (x1 : Int) (h : AH) : Den l G m11_draws rvV d 40 [some (vA G 69), some (vI x1), none, none, none] [] h (b11_draws_40 x1 h) := by
  unfold b11_draws_40
  refine den_iload_n (pc := 40) d11_draws_40 rfl rfl ?_
  refine den_iconst (pc := 41) d11_draws_41 ?_
  refine den_icmp_ge (pc := 42) (tgt := 53) d11_draws_42 (by decide) rfl (by decide) (fun _ => ?_) (fun _ => ?_)
  · exact t11_draws_53 l G _ hd x1 h
  · refine den_aload_n (pc := 45) d11_draws_45 rfl rfl ?_
    refine den_getI (pc := 46) fa_11_198 (ok_69 _) d11_draws_46 ?_
    refine den_if_ne (pc := 49) (tgt := 53) d11_draws_49 (by decide) rfl (fun _ => ?_) (fun _ => ?_)
    · exact t11_draws_53 l G _ hd x1 h
    · exact den_vret (pc := 52) rfl d11_draws_52
def f11_draws (h : AH) : Option (Int × AH) :=
  bnd (f11_below 8 h) fun r39 h40 =>
  if ¬ w32 r39 = 7 then
    if w32 (h40.2 69 14) = 0 then
      some (0, h40)
    else
      if 6 ≤ w32 r39 then
        b11_draws_40 r39 h40
      else
        if w32 (h40.2 69 13) < 2 then
          some (0, h40)
        else
          b11_draws_40 r39 h40
  else
    bnd (f11_cools h40) fun r43 h44 =>
    some (0, h44)
set_option maxRecDepth 100000 in
theorem c11_draws (l : Launch) (G : Geo) (h : AH) : Con l G m11_draws rvV 6 [vA G 69] h (f11_draws  h) := by
  have hd : 6 ≤ 6 := Nat.le_refl _
  refine con_V rfl (by decide) rfl rfl (Nat.le_of_ble_eq_true rfl) (L := [some (vA G 69), none, none, none, none]) ?_
  unfold f11_draws
  refine den_aload_n (pc := 0) d11_draws_0 rfl rfl ?_
  refine den_bipush (pc := 1) d11_draws_1 (by decide) ?_
  refine den_callVI (pc := 3) (As := [vI 8]) fv_11_402 rfl rfl (ok_69 _) (Nat.le_of_ble_eq_true rfl) (Nat.le_trans (by decide) hd) d11_draws_3 (c11_below l G 8 h) (fun r39 h40 m41 o42 => ?_)
  refine den_istore_n (pc := 6) (L2 := [some (vA G 69), some (vI r39), none, none, none]) d11_draws_6 rfl (by decide) rfl ?_
  refine den_iload_n (pc := 7) d11_draws_7 rfl rfl ?_
  refine den_bipush (pc := 8) d11_draws_8 (by decide) ?_
  refine den_icmp_ne (pc := 10) (tgt := 19) d11_draws_10 (by decide) rfl (by decide) (fun _ => ?_) (fun _ => ?_)
  · refine den_aload_n (pc := 19) d11_draws_19 rfl rfl ?_
    refine den_getI (pc := 20) fa_11_195 (ok_69 _) d11_draws_20 ?_
    refine den_if_eq (pc := 23) (tgt := 52) d11_draws_23 (by decide) rfl (fun _ => ?_) (fun _ => ?_)
    · exact den_vret (pc := 52) rfl d11_draws_52
    · refine den_iload_n (pc := 26) d11_draws_26 rfl rfl ?_
      refine den_bipush (pc := 27) d11_draws_27 (by decide) ?_
      refine den_icmp_ge (pc := 29) (tgt := 40) d11_draws_29 (by decide) rfl (by decide) (fun _ => ?_) (fun _ => ?_)
      · exact t11_draws_40 l G _ hd r39 h40
      · refine den_aload_n (pc := 32) d11_draws_32 rfl rfl ?_
        refine den_getI (pc := 33) fa_11_192 (ok_69 _) d11_draws_33 ?_
        refine den_iconst (pc := 36) d11_draws_36 ?_
        refine den_icmp_lt (pc := 37) (tgt := 52) d11_draws_37 (by decide) rfl (by decide) (fun _ => ?_) (fun _ => ?_)
        · exact den_vret (pc := 52) rfl d11_draws_52
        · exact t11_draws_40 l G _ hd r39 h40
  · refine den_aload_n (pc := 13) d11_draws_13 rfl rfl ?_
    refine den_callVI (pc := 14) (As := []) fv_11_346 rfl rfl (ok_69 _) (Nat.le_of_ble_eq_true rfl) (Nat.le_trans (by decide) hd) d11_draws_14 (c11_cools l G h40) (fun r43 h44 m45 o46 => ?_)
    refine den_pop (pc := 17) d11_draws_17 rfl ?_
    exact den_vret (pc := 18) rfl d11_draws_18
theorem d11_drawn_0 : decode m11_drawn.2.1 0 = .ok (.aload_n 0, 1) := by decide +kernel
theorem d11_drawn_1 : decode m11_drawn.2.1 1 = .ok (.iload_n 1, 1) := by decide +kernel
theorem d11_drawn_2 : decode m11_drawn.2.1 2 = .ok (.invokevirtual 201, 3) := by decide +kernel
theorem d11_drawn_5 : decode m11_drawn.2.1 5 = .ok (.ifCond .eq 18, 3) := by decide +kernel
theorem d11_drawn_8 : decode m11_drawn.2.1 8 = .ok (.iload_n 3, 1) := by decide +kernel
theorem d11_drawn_9 : decode m11_drawn.2.1 9 = .ok (.iconst 0, 1) := by decide +kernel
theorem d11_drawn_10 : decode m11_drawn.2.1 10 = .ok (.bipush 60, 2) := by decide +kernel
theorem d11_drawn_12 : decode m11_drawn.2.1 12 = .ok (.invokestatic 135, 3) := by decide +kernel
theorem d11_drawn_15 : decode m11_drawn.2.1 15 = .ok (.ifCond .eq 8, 3) := by decide +kernel
theorem d11_drawn_18 : decode m11_drawn.2.1 18 = .ok (.iload 4, 2) := by decide +kernel
theorem d11_drawn_20 : decode m11_drawn.2.1 20 = .ok (.ifCond .ge 6, 3) := by decide +kernel
theorem d11_drawn_23 : decode m11_drawn.2.1 23 = .ok (.bipush (-2), 2) := by decide +kernel
theorem d11_drawn_25 : decode m11_drawn.2.1 25 = .ok (.ireturn, 1) := by decide +kernel
theorem d11_drawn_26 : decode m11_drawn.2.1 26 = .ok (.aload_n 0, 1) := by decide +kernel
theorem d11_drawn_27 : decode m11_drawn.2.1 27 = .ok (.iload_n 2, 1) := by decide +kernel
theorem d11_drawn_28 : decode m11_drawn.2.1 28 = .ok (.putfield 398, 3) := by decide +kernel
theorem d11_drawn_31 : decode m11_drawn.2.1 31 = .ok (.aload_n 0, 1) := by decide +kernel
theorem d11_drawn_32 : decode m11_drawn.2.1 32 = .ok (.invokevirtual 365, 3) := by decide +kernel
theorem d11_drawn_35 : decode m11_drawn.2.1 35 = .ok (.iconst 0, 1) := by decide +kernel
theorem d11_drawn_36 : decode m11_drawn.2.1 36 = .ok (.istore 5, 2) := by decide +kernel
theorem d11_drawn_38 : decode m11_drawn.2.1 38 = .ok (.iload 5, 2) := by decide +kernel
theorem d11_drawn_40 : decode m11_drawn.2.1 40 = .ok (.iload_n 3, 1) := by decide +kernel
theorem d11_drawn_41 : decode m11_drawn.2.1 41 = .ok (.if_icmp .ge 13, 3) := by decide +kernel
theorem d11_drawn_44 : decode m11_drawn.2.1 44 = .ok (.aload_n 0, 1) := by decide +kernel
theorem d11_drawn_45 : decode m11_drawn.2.1 45 = .ok (.invokevirtual 405, 3) := by decide +kernel
theorem d11_drawn_48 : decode m11_drawn.2.1 48 = .ok (.iinc 5 1, 3) := by decide +kernel
theorem d11_drawn_51 : decode m11_drawn.2.1 51 = .ok (.goto (-13), 3) := by decide +kernel
theorem d11_drawn_54 : decode m11_drawn.2.1 54 = .ok (.aload_n 0, 1) := by decide +kernel
theorem d11_drawn_55 : decode m11_drawn.2.1 55 = .ok (.iload 4, 2) := by decide +kernel
theorem d11_drawn_57 : decode m11_drawn.2.1 57 = .ok (.invokevirtual 377, 3) := by decide +kernel
theorem d11_drawn_60 : decode m11_drawn.2.1 60 = .ok (.ireturn, 1) := by decide +kernel
def b11_drawn_38 (rec38 : Int × AH → Option (Int × AH)) (x3 : Int) (x4 : Int) (x5 : Int) (h : AH) : Option (Int × AH) :=
  if w32 x3 ≤ w32 x5 then
    bnd (f11_nowOf x4 h) fun r1 h2 =>
    some (r1, h2)
  else
    bnd (f11_draws h) fun r5 h6 =>
    rec38 ((x5 + 1), h6)
set_option maxRecDepth 100000 in
theorem t11_drawn_38 (l : Launch) (G : Geo) (d : Nat) (hd : 7 ≤ d) (x3 : Int) (x4 : Int) (x5 : Int) (rec38 : Int × AH → Option (Int × AH)) (H38 : ∀ (x5 : Int) (h : AH), Den l G m11_drawn rvI d 38 [some (vA G 69), none, none, some (vI x3), some (vI x4), some (vI x5)] [] h (rec38 (x5, h))) (h : AH) : Den l G m11_drawn rvI d 38 [some (vA G 69), none, none, some (vI x3), some (vI x4), some (vI x5)] [] h (b11_drawn_38 rec38 x3 x4 x5 h) := by
  unfold b11_drawn_38
  refine den_iload (pc := 38) d11_drawn_38 rfl ?_
  refine den_iload_n (pc := 40) d11_drawn_40 rfl rfl ?_
  refine den_icmp_ge (pc := 41) (tgt := 54) d11_drawn_41 (by decide) rfl rfl (fun _ => ?_) (fun _ => ?_)
  · refine den_aload_n (pc := 54) d11_drawn_54 rfl rfl ?_
    refine den_iload (pc := 55) d11_drawn_55 rfl ?_
    refine den_callVI (pc := 57) (As := [vI x4]) fv_11_377 rfl rfl (ok_69 _) (Nat.le_of_ble_eq_true rfl) (Nat.le_trans (by decide) hd) d11_drawn_57 (c11_nowOf l G x4 h) (fun r1 h2 m3 o4 => ?_)
    exact den_iret (pc := 60) rfl d11_drawn_60
  · refine den_aload_n (pc := 44) d11_drawn_44 rfl rfl ?_
    refine den_callVV (pc := 45) (As := []) fv_11_405 rfl rfl (ok_69 _) (Nat.le_of_ble_eq_true rfl) (Nat.le_trans (by decide) hd) d11_drawn_45 (c11_draws l G h) (fun r5 h6 m7 o8 => ?_)
    refine den_iinc (pc := 48) (L2 := [some (vA G 69), none, none, some (vI x3), some (vI x4), some (vI (x5 + 1))]) d11_drawn_48 (by decide) rfl rfl ?_
    refine den_goto (pc := 51) (tgt := 38) d11_drawn_51 (by decide) ?_
    exact H38 (x5 + 1) h6
def l11_drawn_38 (x3 : Int) (x4 : Int) (x5 : Int) (h : AH) : Option (Int × AH) := fx (fun rec z => b11_drawn_38 rec x3 x4 z.1 z.2) FU (x5, h)
set_option maxRecDepth 100000 in
theorem tl11_drawn_38 (l : Launch) (G : Geo) (d : Nat) (hd : 7 ≤ d) (x3 : Int) (x4 : Int) : ∀ (n : Nat) (z : Int × AH), True → Den l G m11_drawn rvI d 38 [some (vA G 69), none, none, some (vI x3), some (vI x4), some (vI z.1)] [] z.2 (fx (fun rec z => b11_drawn_38 rec x3 x4 z.1 z.2) n z) :=
  den_fx (F := fun rec z => b11_drawn_38 rec x3 x4 z.1 z.2) (P := fun z => True) (fL := fun z => [some (vA G 69), none, none, some (vI x3), some (vI x4), some (vI z.1)]) (fs := fun z => []) (fh := fun z => z.2) (fun rec hrec z hz => t11_drawn_38 l G d hd x3 x4 z.1 rec (fun x5 h => hrec (x5, h) trivial) z.2 )
def f11_drawn (x1 : Int) (x2 : Int) (x3 : Int) (x4 : Int) (h : AH) : Option (Int × AH) :=
  bnd (f11_isVillage x1 h) fun r9 h10 =>
  if w32 r9 = 0 then
    some ((-2), h10)
  else
    bnd (f11_isIn x3 0 60 h10) fun r13 h14 =>
    if w32 r13 = 0 then
      some ((-2), h14)
    else
      if 0 ≤ w32 x4 then
        lt (wr h14 69 43 x2) fun h17 =>
        bnd (f11_begins h17) fun r19 h20 =>
        l11_drawn_38 x3 x4 0 h20
      else
        some ((-2), h14)
set_option maxRecDepth 100000 in
theorem c11_drawn (l : Launch) (G : Geo) (x1 : Int) (x2 : Int) (x3 : Int) (x4 : Int) (h : AH) : Con l G m11_drawn rvI 7 [vA G 69, vI x1, vI x2, vI x3, vI x4] h (f11_drawn x1 x2 x3 x4 h) := by
  have hd : 7 ≤ 7 := Nat.le_refl _
  refine con_I rfl (by decide) rfl rfl (Nat.le_of_ble_eq_true rfl) (L := [some (vA G 69), some (vI x1), some (vI x2), some (vI x3), some (vI x4), none]) ?_
  unfold f11_drawn
  refine den_aload_n (pc := 0) d11_drawn_0 rfl rfl ?_
  refine den_iload_n (pc := 1) d11_drawn_1 rfl rfl ?_
  refine den_callVI (pc := 2) (As := [vI x1]) fv_11_201 rfl rfl (ok_69 _) (Nat.le_of_ble_eq_true rfl) (Nat.le_trans (by decide) hd) d11_drawn_2 (c11_isVillage l G x1 h) (fun r9 h10 m11 o12 => ?_)
  refine den_if_eq (pc := 5) (tgt := 23) d11_drawn_5 (by decide) rfl (fun _ => ?_) (fun _ => ?_)
  · refine den_bipush (pc := 23) d11_drawn_23 (by decide) ?_
    exact den_iret (pc := 25) rfl d11_drawn_25
  · refine den_iload_n (pc := 8) d11_drawn_8 rfl rfl ?_
    refine den_iconst (pc := 9) d11_drawn_9 ?_
    refine den_bipush (pc := 10) d11_drawn_10 (by decide) ?_
    refine den_callSI (pc := 12) (As := [vI x3, vI 0, vI 60]) fs_11_135 rfl rfl (Nat.le_of_ble_eq_true rfl) (Nat.le_trans (by decide) hd) d11_drawn_12 (c11_isIn l G x3 0 60 h10) (fun r13 h14 m15 o16 => ?_)
    refine den_if_eq (pc := 15) (tgt := 23) d11_drawn_15 (by decide) rfl (fun _ => ?_) (fun _ => ?_)
    · refine den_bipush (pc := 23) d11_drawn_23 (by decide) ?_
      exact den_iret (pc := 25) rfl d11_drawn_25
    · refine den_iload (pc := 18) d11_drawn_18 rfl ?_
      refine den_if_ge (pc := 20) (tgt := 26) d11_drawn_20 (by decide) rfl (fun _ => ?_) (fun _ => ?_)
      · refine den_aload_n (pc := 26) d11_drawn_26 rfl rfl ?_
        refine den_iload_n (pc := 27) d11_drawn_27 rfl rfl ?_
        refine den_putI (pc := 28) fp_11_398 (ok_69 _) d11_drawn_28 ?_
        refine den_ltH (fun h17 m18 => ?_)
        refine den_aload_n (pc := 31) d11_drawn_31 rfl rfl ?_
        refine den_callVV (pc := 32) (As := []) fv_11_365 rfl rfl (ok_69 _) (Nat.le_of_ble_eq_true rfl) (Nat.le_trans (by decide) hd) d11_drawn_32 (c11_begins l G h17) (fun r19 h20 m21 o22 => ?_)
        refine den_iconst (pc := 35) d11_drawn_35 ?_
        refine den_istore (pc := 36) (L2 := [some (vA G 69), some (vI x1), some (vI x2), some (vI x3), some (vI x4), some (vI 0)]) d11_drawn_36 (by decide) rfl ?_
        refine den_wk [true, false, false, true, true, true] rfl ?_
        exact tl11_drawn_38 l G _ hd x3 x4 FU (0, h20) trivial
      · refine den_bipush (pc := 23) d11_drawn_23 (by decide) ?_
        exact den_iret (pc := 25) rfl d11_drawn_25
theorem d11_count_0 : decode m11_count.2.1 0 = .ok (.iload_n 1, 1) := by decide +kernel
theorem d11_count_1 : decode m11_count.2.1 1 = .ok (.iconst 0, 1) := by decide +kernel
theorem d11_count_2 : decode m11_count.2.1 2 = .ok (.iconst 2, 1) := by decide +kernel
theorem d11_count_3 : decode m11_count.2.1 3 = .ok (.invokestatic 135, 3) := by decide +kernel
theorem d11_count_6 : decode m11_count.2.1 6 = .ok (.ifCond .eq 12, 3) := by decide +kernel
theorem d11_count_9 : decode m11_count.2.1 9 = .ok (.aload_n 0, 1) := by decide +kernel
theorem d11_count_10 : decode m11_count.2.1 10 = .ok (.getfield 7, 3) := by decide +kernel
theorem d11_count_13 : decode m11_count.2.1 13 = .ok (.iload_n 1, 1) := by decide +kernel
theorem d11_count_14 : decode m11_count.2.1 14 = .ok (.iaload, 1) := by decide +kernel
theorem d11_count_15 : decode m11_count.2.1 15 = .ok (.goto 5, 3) := by decide +kernel
theorem d11_count_18 : decode m11_count.2.1 18 = .ok (.bipush (-2), 2) := by decide +kernel
theorem d11_count_20 : decode m11_count.2.1 20 = .ok (.ireturn, 1) := by decide +kernel
def f11_count (x1 : Int) (h : AH) : Option (Int × AH) :=
  bnd (f11_isIn x1 0 2 h) fun r1 h2 =>
  if w32 r1 = 0 then
    some ((-2), h2)
  else
    asrt (0 ≤ w32 x1 ∧ w32 x1 < 4824) <|
    some (h2.2 70 (w32 x1).toNat, h2)
set_option maxRecDepth 100000 in
theorem c11_count (l : Launch) (G : Geo) (x1 : Int) (h : AH) : Con l G m11_count rvI 3 [vA G 69, vI x1] h (f11_count x1 h) := by
  have hd : 3 ≤ 3 := Nat.le_refl _
  refine con_I rfl (by decide) rfl rfl (Nat.le_of_ble_eq_true rfl) (L := [some (vA G 69), some (vI x1)]) ?_
  unfold f11_count
  refine den_iload_n (pc := 0) d11_count_0 rfl rfl ?_
  refine den_iconst (pc := 1) d11_count_1 ?_
  refine den_iconst (pc := 2) d11_count_2 ?_
  refine den_callSI (pc := 3) (As := [vI x1, vI 0, vI 2]) fs_11_135 rfl rfl (Nat.le_of_ble_eq_true rfl) (Nat.le_trans (by decide) hd) d11_count_3 (c11_isIn l G x1 0 2 h) (fun r1 h2 m3 o4 => ?_)
  refine den_if_eq (pc := 6) (tgt := 18) d11_count_6 (by decide) rfl (fun _ => ?_) (fun _ => ?_)
  · refine den_bipush (pc := 18) d11_count_18 (by decide) ?_
    exact den_iret (pc := 20) rfl d11_count_20
  · refine den_aload_n (pc := 9) d11_count_9 rfl rfl ?_
    refine den_getR (pc := 10) (b := 70) fa_11_7 (ok_69 _) rfl d11_count_10 ?_
    refine den_iload_n (pc := 13) d11_count_13 rfl rfl ?_
    refine den_asrt (fun a5 => ?_)
    refine den_iaload (pc := 14) sh_70 (sz_lt (by decide)) rfl a5 d11_count_14 ?_
    refine den_goto (pc := 15) (tgt := 20) d11_count_15 (by decide) ?_
    exact den_iret (pc := 20) rfl d11_count_20
theorem d11_image_0 : decode m11_image.2.1 0 = .ok (.iload_n 1, 1) := by decide +kernel
theorem d11_image_1 : decode m11_image.2.1 1 = .ok (.iconst 0, 1) := by decide +kernel
theorem d11_image_2 : decode m11_image.2.1 2 = .ok (.iconst 2, 1) := by decide +kernel
theorem d11_image_3 : decode m11_image.2.1 3 = .ok (.invokestatic 135, 3) := by decide +kernel
theorem d11_image_6 : decode m11_image.2.1 6 = .ok (.ifCond .ne 5, 3) := by decide +kernel
theorem d11_image_9 : decode m11_image.2.1 9 = .ok (.iconst 0, 1) := by decide +kernel
theorem d11_image_10 : decode m11_image.2.1 10 = .ok (.ireturn, 1) := by decide +kernel
theorem d11_image_11 : decode m11_image.2.1 11 = .ok (.aload_n 0, 1) := by decide +kernel
theorem d11_image_12 : decode m11_image.2.1 12 = .ok (.getfield 13, 3) := by decide +kernel
theorem d11_image_15 : decode m11_image.2.1 15 = .ok (.iload_n 1, 1) := by decide +kernel
theorem d11_image_16 : decode m11_image.2.1 16 = .ok (.iconst 1, 1) := by decide +kernel
theorem d11_image_17 : decode m11_image.2.1 17 = .ok (.bastore, 1) := by decide +kernel
theorem d11_image_18 : decode m11_image.2.1 18 = .ok (.iconst 0, 1) := by decide +kernel
theorem d11_image_19 : decode m11_image.2.1 19 = .ok (.istore_n 2, 1) := by decide +kernel
theorem d11_image_20 : decode m11_image.2.1 20 = .ok (.iload_n 2, 1) := by decide +kernel
theorem d11_image_21 : decode m11_image.2.1 21 = .ok (.sipush 1206, 3) := by decide +kernel
theorem d11_image_24 : decode m11_image.2.1 24 = .ok (.if_icmp .ge 29, 3) := by decide +kernel
theorem d11_image_27 : decode m11_image.2.1 27 = .ok (.aload_n 0, 1) := by decide +kernel
theorem d11_image_28 : decode m11_image.2.1 28 = .ok (.getfield 7, 3) := by decide +kernel
theorem d11_image_31 : decode m11_image.2.1 31 = .ok (.sipush 1206, 3) := by decide +kernel
theorem d11_image_34 : decode m11_image.2.1 34 = .ok (.iload_n 1, 1) := by decide +kernel
theorem d11_image_35 : decode m11_image.2.1 35 = .ok (.iconst 1, 1) := by decide +kernel
theorem d11_image_36 : decode m11_image.2.1 36 = .ok (.iadd, 1) := by decide +kernel
theorem d11_image_37 : decode m11_image.2.1 37 = .ok (.imul, 1) := by decide +kernel
theorem d11_image_38 : decode m11_image.2.1 38 = .ok (.iload_n 2, 1) := by decide +kernel
theorem d11_image_39 : decode m11_image.2.1 39 = .ok (.iadd, 1) := by decide +kernel
theorem d11_image_40 : decode m11_image.2.1 40 = .ok (.aload_n 0, 1) := by decide +kernel
theorem d11_image_41 : decode m11_image.2.1 41 = .ok (.getfield 7, 3) := by decide +kernel
theorem d11_image_44 : decode m11_image.2.1 44 = .ok (.iload_n 2, 1) := by decide +kernel
theorem d11_image_45 : decode m11_image.2.1 45 = .ok (.iaload, 1) := by decide +kernel
theorem d11_image_46 : decode m11_image.2.1 46 = .ok (.iastore, 1) := by decide +kernel
theorem d11_image_47 : decode m11_image.2.1 47 = .ok (.iinc 2 1, 3) := by decide +kernel
theorem d11_image_50 : decode m11_image.2.1 50 = .ok (.goto (-30), 3) := by decide +kernel
theorem d11_image_53 : decode m11_image.2.1 53 = .ok (.iconst 1, 1) := by decide +kernel
theorem d11_image_54 : decode m11_image.2.1 54 = .ok (.ireturn, 1) := by decide +kernel
def b11_image_20 (rec20 : Int × AH → Option (Int × AH)) (x1 : Int) (x2 : Int) (h : AH) : Option (Int × AH) :=
  if 1206 ≤ w32 x2 then
    some (1, h)
  else
    asrt (0 ≤ w32 x2 ∧ w32 x2 < 4824) <|
    asrt (0 ≤ w32 ((1206 * (x1 + 1)) + x2) ∧ w32 ((1206 * (x1 + 1)) + x2) < 4824) <|
    lt (wr h 70 (w32 ((1206 * (x1 + 1)) + x2)).toNat (h.2 70 (w32 x2).toNat)) fun h3 =>
    rec20 ((x2 + 1), h3)
set_option maxRecDepth 100000 in
theorem t11_image_20 (l : Launch) (G : Geo) (d : Nat) (hd : 3 ≤ d) (x1 : Int) (x2 : Int) (rec20 : Int × AH → Option (Int × AH)) (H20 : ∀ (x2 : Int) (h : AH), Den l G m11_image rvI d 20 [some (vA G 69), some (vI x1), some (vI x2)] [] h (rec20 (x2, h))) (h : AH) : Den l G m11_image rvI d 20 [some (vA G 69), some (vI x1), some (vI x2)] [] h (b11_image_20 rec20 x1 x2 h) := by
  unfold b11_image_20
  refine den_iload_n (pc := 20) d11_image_20 rfl rfl ?_
  refine den_sipush (pc := 21) d11_image_21 (by decide) ?_
  refine den_icmp_ge (pc := 24) (tgt := 53) d11_image_24 (by decide) rfl (by decide) (fun _ => ?_) (fun _ => ?_)
  · refine den_iconst (pc := 53) d11_image_53 ?_
    exact den_zret (pc := 54) rfl (by decide) d11_image_54
  · refine den_aload_n (pc := 27) d11_image_27 rfl rfl ?_
    refine den_getR (pc := 28) (b := 70) fa_11_7 (ok_69 _) rfl d11_image_28 ?_
    refine den_sipush (pc := 31) d11_image_31 (by decide) ?_
    refine den_iload_n (pc := 34) d11_image_34 rfl rfl ?_
    refine den_iconst (pc := 35) d11_image_35 ?_
    refine den_iadd (pc := 36) d11_image_36 ?_
    refine den_imul (pc := 37) d11_image_37 ?_
    refine den_iload_n (pc := 38) d11_image_38 rfl rfl ?_
    refine den_iadd (pc := 39) d11_image_39 ?_
    refine den_aload_n (pc := 40) d11_image_40 rfl rfl ?_
    refine den_getR (pc := 41) (b := 70) fa_11_7 (ok_69 _) rfl d11_image_41 ?_
    refine den_iload_n (pc := 44) d11_image_44 rfl rfl ?_
    refine den_asrt (fun a1 => ?_)
    refine den_iaload (pc := 45) sh_70 (sz_lt (by decide)) rfl a1 d11_image_45 ?_
    refine den_asrt (fun a2 => ?_)
    refine den_iastore (pc := 46) sh_70 (sz_lt (by decide)) rfl a2 d11_image_46 ?_
    refine den_ltH (fun h3 m4 => ?_)
    refine den_iinc (pc := 47) (L2 := [some (vA G 69), some (vI x1), some (vI (x2 + 1))]) d11_image_47 (by decide) rfl rfl ?_
    refine den_goto (pc := 50) (tgt := 20) d11_image_50 (by decide) ?_
    exact H20 (x2 + 1) h3
def l11_image_20 (x1 : Int) (x2 : Int) (h : AH) : Option (Int × AH) := fx (fun rec z => b11_image_20 rec x1 z.1 z.2) FU (x2, h)
set_option maxRecDepth 100000 in
theorem tl11_image_20 (l : Launch) (G : Geo) (d : Nat) (hd : 3 ≤ d) (x1 : Int) : ∀ (n : Nat) (z : Int × AH), True → Den l G m11_image rvI d 20 [some (vA G 69), some (vI x1), some (vI z.1)] [] z.2 (fx (fun rec z => b11_image_20 rec x1 z.1 z.2) n z) :=
  den_fx (F := fun rec z => b11_image_20 rec x1 z.1 z.2) (P := fun z => True) (fL := fun z => [some (vA G 69), some (vI x1), some (vI z.1)]) (fs := fun z => []) (fh := fun z => z.2) (fun rec hrec z hz => t11_image_20 l G d hd x1 z.1 rec (fun x2 h => hrec (x2, h) trivial) z.2 )
def f11_image (x1 : Int) (h : AH) : Option (Int × AH) :=
  bnd (f11_isIn x1 0 2 h) fun r5 h6 =>
  if ¬ w32 r5 = 0 then
    asrt (0 ≤ w32 x1 ∧ w32 x1 < 3) <|
    lt (wr h6 71 (w32 x1).toNat (nz 1)) fun h10 =>
    l11_image_20 x1 0 h10
  else
    some (0, h6)
set_option maxRecDepth 100000 in
theorem c11_image (l : Launch) (G : Geo) (x1 : Int) (h : AH) : Con l G m11_image rvI 3 [vA G 69, vI x1] h (f11_image x1 h) := by
  have hd : 3 ≤ 3 := Nat.le_refl _
  refine con_Z rfl (by decide) rfl rfl (Nat.le_of_ble_eq_true rfl) (L := [some (vA G 69), some (vI x1), none]) ?_
  unfold f11_image
  refine den_iload_n (pc := 0) d11_image_0 rfl rfl ?_
  refine den_iconst (pc := 1) d11_image_1 ?_
  refine den_iconst (pc := 2) d11_image_2 ?_
  refine den_callSI (pc := 3) (As := [vI x1, vI 0, vI 2]) fs_11_135 rfl rfl (Nat.le_of_ble_eq_true rfl) (Nat.le_trans (by decide) hd) d11_image_3 (c11_isIn l G x1 0 2 h) (fun r5 h6 m7 o8 => ?_)
  refine den_if_ne (pc := 6) (tgt := 11) d11_image_6 (by decide) rfl (fun _ => ?_) (fun _ => ?_)
  · refine den_aload_n (pc := 11) d11_image_11 rfl rfl ?_
    refine den_getR (pc := 12) (b := 71) fa_11_13 (ok_69 _) rfl d11_image_12 ?_
    refine den_iload_n (pc := 15) d11_image_15 rfl rfl ?_
    refine den_iconst (pc := 16) d11_image_16 ?_
    refine den_asrt (fun a9 => ?_)
    refine den_zastore (pc := 17) sh_71 (sz_lt (by decide)) rfl a9 d11_image_17 ?_
    refine den_ltH (fun h10 m11 => ?_)
    refine den_iconst (pc := 18) d11_image_18 ?_
    refine den_istore_n (pc := 19) (L2 := [some (vA G 69), some (vI x1), some (vI 0)]) d11_image_19 rfl (by decide) rfl ?_
    exact tl11_image_20 l G _ hd x1 FU (0, h10) trivial
  · refine den_iconst (pc := 9) d11_image_9 ?_
    exact den_zret (pc := 10) rfl (by decide) d11_image_10
theorem d11_again_0 : decode m11_again.2.1 0 = .ok (.iload_n 1, 1) := by decide +kernel
theorem d11_again_1 : decode m11_again.2.1 1 = .ok (.iconst 0, 1) := by decide +kernel
theorem d11_again_2 : decode m11_again.2.1 2 = .ok (.iconst 2, 1) := by decide +kernel
theorem d11_again_3 : decode m11_again.2.1 3 = .ok (.invokestatic 135, 3) := by decide +kernel
theorem d11_again_6 : decode m11_again.2.1 6 = .ok (.ifCond .eq 12, 3) := by decide +kernel
theorem d11_again_9 : decode m11_again.2.1 9 = .ok (.aload_n 0, 1) := by decide +kernel
theorem d11_again_10 : decode m11_again.2.1 10 = .ok (.getfield 13, 3) := by decide +kernel
theorem d11_again_13 : decode m11_again.2.1 13 = .ok (.iload_n 1, 1) := by decide +kernel
theorem d11_again_14 : decode m11_again.2.1 14 = .ok (.baload, 1) := by decide +kernel
theorem d11_again_15 : decode m11_again.2.1 15 = .ok (.ifCond .ne 5, 3) := by decide +kernel
theorem d11_again_18 : decode m11_again.2.1 18 = .ok (.iconst 0, 1) := by decide +kernel
theorem d11_again_19 : decode m11_again.2.1 19 = .ok (.ireturn, 1) := by decide +kernel
theorem d11_again_20 : decode m11_again.2.1 20 = .ok (.iconst 0, 1) := by decide +kernel
theorem d11_again_21 : decode m11_again.2.1 21 = .ok (.istore_n 2, 1) := by decide +kernel
theorem d11_again_22 : decode m11_again.2.1 22 = .ok (.iload_n 2, 1) := by decide +kernel
theorem d11_again_23 : decode m11_again.2.1 23 = .ok (.sipush 1206, 3) := by decide +kernel
theorem d11_again_26 : decode m11_again.2.1 26 = .ok (.if_icmp .ge 29, 3) := by decide +kernel
theorem d11_again_29 : decode m11_again.2.1 29 = .ok (.aload_n 0, 1) := by decide +kernel
theorem d11_again_30 : decode m11_again.2.1 30 = .ok (.getfield 7, 3) := by decide +kernel
theorem d11_again_33 : decode m11_again.2.1 33 = .ok (.iload_n 2, 1) := by decide +kernel
theorem d11_again_34 : decode m11_again.2.1 34 = .ok (.aload_n 0, 1) := by decide +kernel
theorem d11_again_35 : decode m11_again.2.1 35 = .ok (.getfield 7, 3) := by decide +kernel
theorem d11_again_38 : decode m11_again.2.1 38 = .ok (.sipush 1206, 3) := by decide +kernel
theorem d11_again_41 : decode m11_again.2.1 41 = .ok (.iload_n 1, 1) := by decide +kernel
theorem d11_again_42 : decode m11_again.2.1 42 = .ok (.iconst 1, 1) := by decide +kernel
theorem d11_again_43 : decode m11_again.2.1 43 = .ok (.iadd, 1) := by decide +kernel
theorem d11_again_44 : decode m11_again.2.1 44 = .ok (.imul, 1) := by decide +kernel
theorem d11_again_45 : decode m11_again.2.1 45 = .ok (.iload_n 2, 1) := by decide +kernel
theorem d11_again_46 : decode m11_again.2.1 46 = .ok (.iadd, 1) := by decide +kernel
theorem d11_again_47 : decode m11_again.2.1 47 = .ok (.iaload, 1) := by decide +kernel
theorem d11_again_48 : decode m11_again.2.1 48 = .ok (.iastore, 1) := by decide +kernel
theorem d11_again_49 : decode m11_again.2.1 49 = .ok (.iinc 2 1, 3) := by decide +kernel
theorem d11_again_52 : decode m11_again.2.1 52 = .ok (.goto (-30), 3) := by decide +kernel
theorem d11_again_55 : decode m11_again.2.1 55 = .ok (.iconst 1, 1) := by decide +kernel
theorem d11_again_56 : decode m11_again.2.1 56 = .ok (.ireturn, 1) := by decide +kernel
def b11_again_22 (rec22 : Int × AH → Option (Int × AH)) (x1 : Int) (x2 : Int) (h : AH) : Option (Int × AH) :=
  if 1206 ≤ w32 x2 then
    some (1, h)
  else
    asrt (0 ≤ w32 ((1206 * (x1 + 1)) + x2) ∧ w32 ((1206 * (x1 + 1)) + x2) < 4824) <|
    asrt (0 ≤ w32 x2 ∧ w32 x2 < 4824) <|
    lt (wr h 70 (w32 x2).toNat (h.2 70 (w32 ((1206 * (x1 + 1)) + x2)).toNat)) fun h3 =>
    rec22 ((x2 + 1), h3)
set_option maxRecDepth 100000 in
theorem t11_again_22 (l : Launch) (G : Geo) (d : Nat) (hd : 3 ≤ d) (x1 : Int) (x2 : Int) (rec22 : Int × AH → Option (Int × AH)) (H22 : ∀ (x2 : Int) (h : AH), Den l G m11_again rvI d 22 [some (vA G 69), some (vI x1), some (vI x2)] [] h (rec22 (x2, h))) (h : AH) : Den l G m11_again rvI d 22 [some (vA G 69), some (vI x1), some (vI x2)] [] h (b11_again_22 rec22 x1 x2 h) := by
  unfold b11_again_22
  refine den_iload_n (pc := 22) d11_again_22 rfl rfl ?_
  refine den_sipush (pc := 23) d11_again_23 (by decide) ?_
  refine den_icmp_ge (pc := 26) (tgt := 55) d11_again_26 (by decide) rfl (by decide) (fun _ => ?_) (fun _ => ?_)
  · refine den_iconst (pc := 55) d11_again_55 ?_
    exact den_zret (pc := 56) rfl (by decide) d11_again_56
  · refine den_aload_n (pc := 29) d11_again_29 rfl rfl ?_
    refine den_getR (pc := 30) (b := 70) fa_11_7 (ok_69 _) rfl d11_again_30 ?_
    refine den_iload_n (pc := 33) d11_again_33 rfl rfl ?_
    refine den_aload_n (pc := 34) d11_again_34 rfl rfl ?_
    refine den_getR (pc := 35) (b := 70) fa_11_7 (ok_69 _) rfl d11_again_35 ?_
    refine den_sipush (pc := 38) d11_again_38 (by decide) ?_
    refine den_iload_n (pc := 41) d11_again_41 rfl rfl ?_
    refine den_iconst (pc := 42) d11_again_42 ?_
    refine den_iadd (pc := 43) d11_again_43 ?_
    refine den_imul (pc := 44) d11_again_44 ?_
    refine den_iload_n (pc := 45) d11_again_45 rfl rfl ?_
    refine den_iadd (pc := 46) d11_again_46 ?_
    refine den_asrt (fun a1 => ?_)
    refine den_iaload (pc := 47) sh_70 (sz_lt (by decide)) rfl a1 d11_again_47 ?_
    refine den_asrt (fun a2 => ?_)
    refine den_iastore (pc := 48) sh_70 (sz_lt (by decide)) rfl a2 d11_again_48 ?_
    refine den_ltH (fun h3 m4 => ?_)
    refine den_iinc (pc := 49) (L2 := [some (vA G 69), some (vI x1), some (vI (x2 + 1))]) d11_again_49 (by decide) rfl rfl ?_
    refine den_goto (pc := 52) (tgt := 22) d11_again_52 (by decide) ?_
    exact H22 (x2 + 1) h3
def l11_again_22 (x1 : Int) (x2 : Int) (h : AH) : Option (Int × AH) := fx (fun rec z => b11_again_22 rec x1 z.1 z.2) FU (x2, h)
set_option maxRecDepth 100000 in
theorem tl11_again_22 (l : Launch) (G : Geo) (d : Nat) (hd : 3 ≤ d) (x1 : Int) : ∀ (n : Nat) (z : Int × AH), True → Den l G m11_again rvI d 22 [some (vA G 69), some (vI x1), some (vI z.1)] [] z.2 (fx (fun rec z => b11_again_22 rec x1 z.1 z.2) n z) :=
  den_fx (F := fun rec z => b11_again_22 rec x1 z.1 z.2) (P := fun z => True) (fL := fun z => [some (vA G 69), some (vI x1), some (vI z.1)]) (fs := fun z => []) (fh := fun z => z.2) (fun rec hrec z hz => t11_again_22 l G d hd x1 z.1 rec (fun x2 h => hrec (x2, h) trivial) z.2 )
def f11_again (x1 : Int) (h : AH) : Option (Int × AH) :=
  bnd (f11_isIn x1 0 2 h) fun r5 h6 =>
  if w32 r5 = 0 then
    some (0, h6)
  else
    asrt (0 ≤ w32 x1 ∧ w32 x1 < 3) <|
    if ¬ w32 (h6.2 71 (w32 x1).toNat) = 0 then
      l11_again_22 x1 0 h6
    else
      some (0, h6)
set_option maxRecDepth 100000 in
theorem c11_again (l : Launch) (G : Geo) (x1 : Int) (h : AH) : Con l G m11_again rvI 3 [vA G 69, vI x1] h (f11_again x1 h) := by
  have hd : 3 ≤ 3 := Nat.le_refl _
  refine con_Z rfl (by decide) rfl rfl (Nat.le_of_ble_eq_true rfl) (L := [some (vA G 69), some (vI x1), none]) ?_
  unfold f11_again
  refine den_iload_n (pc := 0) d11_again_0 rfl rfl ?_
  refine den_iconst (pc := 1) d11_again_1 ?_
  refine den_iconst (pc := 2) d11_again_2 ?_
  refine den_callSI (pc := 3) (As := [vI x1, vI 0, vI 2]) fs_11_135 rfl rfl (Nat.le_of_ble_eq_true rfl) (Nat.le_trans (by decide) hd) d11_again_3 (c11_isIn l G x1 0 2 h) (fun r5 h6 m7 o8 => ?_)
  refine den_if_eq (pc := 6) (tgt := 18) d11_again_6 (by decide) rfl (fun _ => ?_) (fun _ => ?_)
  · refine den_iconst (pc := 18) d11_again_18 ?_
    exact den_zret (pc := 19) rfl (by decide) d11_again_19
  · refine den_aload_n (pc := 9) d11_again_9 rfl rfl ?_
    refine den_getR (pc := 10) (b := 71) fa_11_13 (ok_69 _) rfl d11_again_10 ?_
    refine den_iload_n (pc := 13) d11_again_13 rfl rfl ?_
    refine den_asrt (fun a9 => ?_)
    refine den_zaload (pc := 14) sh_71 (sz_lt (by decide)) rfl a9 d11_again_14 ?_
    refine den_if_ne (pc := 15) (tgt := 20) d11_again_15 (by decide) rfl (fun _ => ?_) (fun _ => ?_)
    · refine den_iconst (pc := 20) d11_again_20 ?_
      refine den_istore_n (pc := 21) (L2 := [some (vA G 69), some (vI x1), some (vI 0)]) d11_again_21 rfl (by decide) rfl ?_
      exact tl11_again_22 l G _ hd x1 FU (0, h6) trivial
    · refine den_iconst (pc := 18) d11_again_18 ?_
      exact den_zret (pc := 19) rfl (by decide) d11_again_19
