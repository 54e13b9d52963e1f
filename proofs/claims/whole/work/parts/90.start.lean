/-! whole_start out of what the law's plain function answers -/
theorem law_ok (G : Geo) (hL : G.2.1 26 ≤ 3584) (hs : ∀ j, -2147483648 ≤ scr G j ∧ scr G j < 2147483648) : ∃ h' : AH, h'.1 ≤ 3 ∧ l14_law_18 G 0 (0, c0) = some (1, h') := law_end G hL hs
def spF (st : Nat → Nat) (adK adV : Nat → Nat) (b L : Nat) (xs : Nat → Int32) (k : Nat) : Nat := if k < 3 then st k else if k < 14 then adK (k - 3) else if k < 25 then adV (k - 14) else if k = 25 then b else if k = 26 then L else ((xs (k - 100)).toInt + 2147483648).toNat
theorem arr_known {args : Array Value} {s : State} {ty : FieldType} (h : (Cond.arrayClass ty).before args s = true) (ho : ∀ c, ty ≠ .object c) : ∃ cA : ClassId, ArrOfT s cA ty ∧ va_RA s cA ty := by
  obtain ⟨cA, kA, comp, h1, h2, h3⟩ := Cond.arrayClass_spec h
  refine ⟨cA, fun n z => ⟨fun k h => (by cases h), kA, h2, comp, h3⟩, ?_⟩
  cases ty <;> first | exact h1 | exact absurd rfl (ho _)
theorem arr_knownO {args : Array Value} {s : State} {C : String} (h : (Cond.arrayOver (.object C)).before args s = true) : ∃ cA : ClassId, ArrOfT s cA (.object C) ∧ va_RA s cA (.object C) := by
  obtain ⟨comp, c, k, h1, h2, h3, h4, h5⟩ := Cond.arrayOver_spec h
  exact ⟨c, fun n z => ⟨fun q h => (by cases h), k, h3, comp, h4⟩, k, comp, h3, h4, h1, h5⟩
theorem tsl_10 (G : Geo) : tsl (cE10 G 0) = 11433 := by simp [tsl, cE10, cE8, cE9, cE6, cE5, cE7, cE1, cE4, cE3, cE0, cE2, eSl]
theorem tsl_11 (G : Geo) : tsl (cE11 G 69) = 9656 := by simp [tsl, cE11, eSl]
theorem len_10 (G : Geo) : (cE10 G 0).length = 69 := rfl
theorem len_11 (G : Geo) : (cE11 G 69).length = 24 := rfl
set_option maxHeartbeats 4000000 in
set_option maxRecDepth 100000 in
theorem law_from {p : Program} {e : Env} {s : State} {m : MethodId} {below : List Frame} {meth : Method} {c : Code} (l : Launch) {b : Nat} (G : Geo) (hG : G.1 = s.heap.size) (C : Cx m14_law p s m #[Value.ref b] meth c) (hlocks : meth.locks = false) (hr : meth.sig.returnType = ret) (hK : va_K G.2.2.1 CC (tyl G) s) (hSp : Sp G s s.heap) (hb : G.2.1 25 = b) (hL : G.2.1 26 ≤ 3584) (hsc : ∀ j, -2147483648 ≤ scr G j ∧ scr G j < 2147483648) : W p l e room_1 s m #[Value.ref b] below meth c s.heap [] 0 0 (lw_Z below #[Value.ref b] s) (entryFrame m ([Value.ref b] : List Value).toArray 4) := by
  have hl := lv_entry ([Value.ref b]) (n := 4) (Nat.le_of_ble_eq_true rfl)
  rw [lg_entry_eq]
  generalize (lg_sl ([Value.ref b]) ++ List.replicate (4 - (lg_sl ([Value.ref b])).length) Slot.unset).toArray = ls at hl ⊢
  have hl : Lv ls 4 [some (Value.ref b), none, none, none] := hl
  have hr0 : Rd G [] s s.heap [] := by
    refine ⟨fun k q hq => ?_, hK, va_S.rf, hG.symm, Nat.le_of_eq hG, hSp.2.2.2.2.2.1⟩
    rw [show rW G [] = [] from rfl] at hq
    cases hq
  refine w_new (pc := 0) C hr0 fn_14_7 (by decide) (by decide) d14_law_0 (fun H1 hr1 => ?_)
  refine lv_dup (pc := 3) C.1 C.2.1 d14_law_3 rfl ?_
  have t1 : tsl (([] : List va_E) ++ cE10 G ([] : List va_E).length) - tsl (([] : List va_E) ++ [.inr (10, [.null, .null, .null, .null, .null, .null, .null, .null, .null])]) = 11424 := by
    show tsl (cE10 G 0) - 9 = _
    rw [tsl_10]
  have t1b : (([] : List va_E) ++ cE10 G ([] : List va_E).length).length - (([] : List va_E) ++ ([.inr (10, [.null, .null, .null, .null, .null, .null, .null, .null, .null])] : List va_E)).length = 68 := rfl
  refine w_callI (As := []) (st := [vA G 0]) (pc := 4) (d2 := 4) C hr1 hl.size fi_14_9 rfl rfl (Nat.le_of_ble_eq_true rfl) (by decide) (by decide) d14_law_4 (cR10 l G []) ?_ (fun H2 locs2 hr2 => ?_)
  · rw [t1, t1b]
    exact ⟨by decide, by decide⟩
  rw [t1, t1b]
  have hr2 : Rd G (cE10 G 0) s H2 locs2 := hr2
  refine lv_astore_n (pc := 7) (i := 1) C.1 C.2.1 d14_law_7 rfl hl (by decide) rfl (fun ls h1 => ?_)
  have hl : Lv ls 4 [some (Value.ref b), some (vA G 0), none, none] := Lv_st1 h1 rfl
  refine w_new (pc := 8) C hr2 fn_14_10 (by decide) (by decide) d14_law_8 (fun H3 hr3 => ?_)
  refine lv_dup (pc := 11) C.1 C.2.1 d14_law_11 rfl ?_
  have t2 : tsl (cE10 G 0 ++ cE11 G (cE10 G 0).length) - tsl (cE10 G 0 ++ ([.inr (11, [.null, .null, vI 0, vI 0, vI 0, vI 0, vI 0, vI 0, vI 0, vI 0, vI 0, .null, vI 0, vI 0, vI 0, vI 0, .null, .null, .null, .null, .null, .null, .null, .null, .null, .null, .null, .null, .null, .null, .null, vI 0, vI 0, vI 0, vI 0, vI 0, vI 0, .null, .null, .null, .null, vI 0, .null, vI 0])] : List va_E)) = 9612 := by
    rw [tsl_app, tsl_app]
    show tsl (cE10 G 0) + tsl (cE11 G 69) - (tsl (cE10 G 0) + 44) = _
    rw [tsl_11, tsl_10]
  have t3 : (cE10 G 0 ++ cE11 G (cE10 G 0).length).length - (cE10 G 0 ++ ([.inr (11, [.null, .null, vI 0, vI 0, vI 0, vI 0, vI 0, vI 0, vI 0, vI 0, vI 0, .null, vI 0, vI 0, vI 0, vI 0, .null, .null, .null, .null, .null, .null, .null, .null, .null, .null, .null, .null, .null, .null, .null, vI 0, vI 0, vI 0, vI 0, vI 0, vI 0, .null, .null, .null, .null, vI 0, .null, vI 0])] : List va_E)).length = 23 := by
    rw [List.length_append, List.length_append]
    rfl
  refine w_callI (As := []) (st := [vA G 69]) (pc := 12) (d2 := 2) C hr3 hl.size fi_14_12 rfl rfl (Nat.le_of_ble_eq_true rfl) (by decide) (by decide) d14_law_12 (cR11 l G (cE10 G 0)) ?_ (fun H4 locs4 hr4 => ?_)
  · rw [t2, t3]
    exact ⟨by decide, by decide⟩
  rw [t2, t3]
  have hr4 : Rd G (cE10 G 0 ++ cE11 G 69) s H4 locs4 := hr4
  refine lv_astore_n (pc := 15) (i := 2) C.1 C.2.1 d14_law_15 rfl hl (by decide) rfl (fun ls h1 => ?_)
  have hl : Lv ls 4 [some (Value.ref b), some (vA G 0), some (vA G 69), none] := Lv_st1 h1 rfl
  refine lv_iconst (pc := 16) C.1 C.2.1 (v := Int32.ofInt 0) d14_law_16 rfl ?_
  refine lv_istore_n (pc := 17) (i := 3) C.1 C.2.1 d14_law_17 rfl hl (by decide) rfl (fun ls h1 => ?_)
  have hl : Lv ls 4 [some (Value.ref b), some (vA G 0), some (vA G 69), some (vI 0)] := Lv_st1 h1 rfl
  have hw : Wd G (0, c0) s H4 locs4 := toWd hr4 (by rw [List.length_append]; rfl) (fun a ha => init_sim G a ha) hSp
  obtain ⟨h', hn, hlaw⟩ := law_ok G hL hsc
  have hD := tl14_law_18 l G 30 (by decide) FU (0, (0, c0)) trivial
  obtain ⟨-, hD⟩ := hD 1 h' hlaw
  have key := hD p e s m #[Value.ref b] below meth c room_1 (lw_Z below #[Value.ref b] s) (0, 0) H4 locs4 ls C ⟨by decide, by decide, by show sz h'.1 - 0 ≤ 600000; unfold sz; omega, by show sl h'.1 - 0 ≤ 7302250; unfold sl; omega⟩ ⟨Nat.zero_le _, Nat.zero_le _⟩ hw (by rw [← hb] at hl; exact hl) (fun H5 locs5 pc5 ls5 hw5 hd5 _ => ?_)
  · exact key
  · refine va_forget (fun q hq => by rw [← hG]; exact hw5.2.2.1.2.2 q hq) ?_
    refine W.widen (k := 600000) (n := 7302250) (by show sz h'.1 - 0 ≤ 600000; unfold sz; omega) (by show sl h'.1 - 0 ≤ 7302250; unfold sl; omega) ?_
    exact lw_ret C.1 C.2.1 hr hlocks hd5
set_option maxHeartbeats 4000000 in
set_option maxRecDepth 100000 in
theorem whole_start {p : Program} {e : Env} {s : State} {m : MethodId} {below : List Frame} {meth : Method} {c : Code} (l : Launch) (hflags : l.flags = flags0) {b L : Nat} {xs : Nat → Int32} (hL : L ≤ 3584) (C0 : lw_At p s m meth c b L xs) : W p l e room_1 s m #[Value.ref b] below meth c s.heap [] 0 0 (lw_Z below #[Value.ref b] s) (entryFrame m ([Value.ref b] : List Value).toArray 4) := by
  obtain ⟨hx, hb, hr, hml, hown, hts, hX, hbl, hlocks, hgv⟩ := C0
  have hs := flat_of_before _ hgv
  have htw : ∀ w ∈ tW, w.before #[Value.ref b] s = true := fun w h => hts w (List.mem_filter.mp h).1
  have hA : ∀ a : Nat, a < s.heap.size → ¬ (s.heap.size ≤ a) := fun a h => Nat.not_le.mpr h
  obtain ⟨k0, i0, K0⟩ := u_known (C := RC0) (T := TC0) (N := 5) (n := 5) htw iC0 (htw _ wi_0)
  obtain ⟨k1, i1, K1⟩ := u_known (C := RC1) (T := TC1) (N := 3) (n := 3) htw iC1 (htw _ wi_1)
  obtain ⟨k2, i2, K2⟩ := u_known (C := RC2) (T := TC2) (N := 4) (n := 4) htw iC2 (htw _ wi_2)
  obtain ⟨k3, i3, K3⟩ := u_known (C := RC3) (T := TC3) (N := 2) (n := 2) htw iC3 (htw _ wi_3)
  obtain ⟨k4, i4, K4⟩ := u_known (C := RC4) (T := TC4) (N := 8) (n := 8) htw iC4 (htw _ wi_4)
  obtain ⟨k5, i5, K5⟩ := u_known (C := RC5) (T := TC5) (N := 13) (n := 13) htw iC5 (htw _ wi_5)
  obtain ⟨k6, i6, K6⟩ := u_known (C := RC6) (T := TC6) (N := 4) (n := 4) htw iC6 (htw _ wi_6)
  obtain ⟨k7, i7, K7⟩ := u_known (C := RC7) (T := TC7) (N := 11) (n := 11) htw iC7 (htw _ wi_7)
  obtain ⟨k8, i8, K8⟩ := u_known (C := RC8) (T := TC8) (N := 8) (n := 8) htw iC8 (htw _ wi_8)
  obtain ⟨k9, i9, K9⟩ := u_known (C := RC9) (T := TC9) (N := 9) (n := 9) htw iC9 (htw _ wi_9)
  obtain ⟨k10, i10, K10⟩ := u_known (C := RC10) (T := TC10) (N := 9) (n := 9) htw iC10 (htw _ wi_10)
  obtain ⟨k11, i11, K11⟩ := u_known (C := RC11) (T := TC11) (N := 44) (n := 44) htw iC11 (htw _ wi_11)
  obtain ⟨a0, A0, B0⟩ := arr_known (ty := .int) (htw _ wA_int) (fun _ h => by cases h)
  obtain ⟨a1, A1, B1⟩ := arr_known (ty := .byte) (htw _ wA_byte) (fun _ h => by cases h)
  obtain ⟨a2, A2, B2⟩ := arr_known (ty := .boolean) (htw _ wA_bool) (fun _ h => by cases h)
  have o3 : (Cond.arrayOver (.object "QuarrelOvens$Told")).before #[Value.ref b] s = true := hts _ (lw_c1 (j := 156) rfl)
  obtain ⟨a3, A3, B3⟩ := arr_knownO o3
  have o4 : (Cond.arrayOver (.object "QuarrelOvens$Village")).before #[Value.ref b] s = true := hts _ (lw_c1 (j := 36) rfl)
  obtain ⟨a4, A4, B4⟩ := arr_knownO o4
  have o5 : (Cond.arrayOver (.object "QuarrelOvens$Rows")).before #[Value.ref b] s = true := hts _ (lw_c1 (j := 38) rfl)
  obtain ⟨a5, A5, B5⟩ := arr_knownO o5
  obtain ⟨adK, adV, hS, hS2⟩ := vk_Sof (A := fun q => s.heap.size ≤ q) (N := 11) (tm := tmS) (len := strLn) (byt := strBt) (by decide) (s_ex hs) (s_co hs) (s_ar hs) (s_le hs) (s_el hs) (s_ne hs) hA
  obtain ⟨t0, Z0, T0⟩ := t_ok0 hs (A := fun q => s.heap.size ≤ q) (hts _ (lw_c3 (j := 63) rfl)) (hts _ (lw_c1 (j := 5) rfl)) hA
  obtain ⟨t1, Z1, T1⟩ := t_ok1 hs (A := fun q => s.heap.size ≤ q) (hts _ (lw_c3 (j := 73) rfl)) (hts _ (lw_c1 (j := 5) rfl)) hA
  obtain ⟨t2, Z2, T2⟩ := t_ok2 hs (A := fun q => s.heap.size ≤ q) (hts _ (lw_c3 (j := 75) rfl)) (hts _ (lw_c1 (j := 5) rfl)) hA
  have hcs := va_Zof (A := fun q => s.heap.size ≤ q) (hts _ (lw_c2 (j := 233) rfl)) (hts _ (lw_c1 (j := 16) rfl)) (va_eqi (z := 1) (hs _ (by decide +kernel))) hA
  have hfm := va_Zqof (A := fun q => s.heap.size ≤ q) (hts _ (lw_c3 (j := 9) rfl)) (hts _ (lw_c1 (j := 18) rfl)) (hs _ (by decide +kernel)) hA
  have hscr : ∀ j, ((((xs j).toInt + 2147483648).toNat : Nat) : Int) - 2147483648 = (xs j).toInt := fun j => by
    have := Int32.le_toInt (xs j)
    omega
  obtain ⟨G, hGe⟩ : ∃ G : Geo, G = (s.heap.size, spF (fun k => [t0, t1, t2].getD k 0) adK adV b L xs, (fun i => [k0, k1, k2, k3, k4, k5, k6, k7, k8, k9, k10, k11].getD i 0, fun i => [i0, i1, i2, i3, i4, i5, i6, i7, i8, i9, i10, i11].getD i (fun _ => 0)), fun t => [a0, a1, a2, a3, a4, a5].getD t 0) := ⟨_, rfl⟩
  have hG1 : G.1 = s.heap.size := by rw [hGe]
  have hgA : gA G = fun q => s.heap.size ≤ q := by unfold gA; rw [hG1]
  have hsc : ∀ j, scr G j = (xs j).toInt := fun j => by
    unfold scr
    have e : G.2.1 (100 + j) = ((xs j).toInt + 2147483648).toNat := by
      rw [hGe]
      dsimp only
      unfold spF
      rw [if_neg (by omega), if_neg (by omega), if_neg (by omega), if_neg (by omega), if_neg (by omega), Nat.add_sub_cancel_left]
    rw [e]
    exact hscr j
  have e25 : G.2.1 25 = b := by rw [hGe]; rfl
  have e26 : G.2.1 26 = L := by rw [hGe]; rfl
  have eK : ∀ i, i < 11 → G.2.1 (3 + i) = adK i := fun i hi => by
    rw [hGe]
    dsimp only
    unfold spF
    rw [if_neg (by omega), if_pos (by omega), Nat.add_sub_cancel_left]
  have eV : ∀ i, i < 11 → G.2.1 (14 + i) = adV i := fun i hi => by
    rw [hGe]
    dsimp only
    unfold spF
    rw [if_neg (by omega), if_neg (by omega), if_pos (by omega), Nat.add_sub_cancel_left]
  have hSp : Sp G s s.heap := by
    unfold Sp
    rw [hgA]
    refine ⟨fun k hk => ?_, ⟨fun i hi => ?_, fun i j hi hj e => ?_⟩, fun i hi => ?_, hcs, hfm, ?_, ?_⟩
    · match k, hk with
      | 0, _ => rw [show G.2.1 0 = t0 by rw [hGe]; rfl]; exact ⟨Z0, T0⟩
      | 1, _ => rw [show G.2.1 1 = t1 by rw [hGe]; rfl]; exact ⟨Z1, T1⟩
      | 2, _ => rw [show G.2.1 2 = t2 by rw [hGe]; rfl]; exact ⟨Z2, T2⟩
      | k + 3, hk => exact absurd hk (by omega)
    · dsimp only
      rw [eK i hi, eV i hi]
      exact hS.1 i hi
    · dsimp only at e
      rw [eK i hi, eK j hj] at e
      exact hS.2 i j hi hj e
    · rw [eK i hi]
      refine vk_R.of (A := #[Value.ref b]) ?_ (hS2 i hi)
      match i, hi with
      | 0, _ => exact hts _ (lw_c2 (j := 219) rfl)
      | 1, _ => exact hts _ (lw_c3 (j := 32) rfl)
      | 2, _ => exact hts _ (lw_c3 (j := 33) rfl)
      | 3, _ => exact hts _ (lw_c3 (j := 34) rfl)
      | 4, _ => exact hts _ (lw_c3 (j := 35) rfl)
      | 5, _ => exact hts _ (lw_c3 (j := 40) rfl)
      | 6, _ => exact hts _ (lw_c3 (j := 41) rfl)
      | 7, _ => exact hts _ (lw_c3 (j := 42) rfl)
      | 8, _ => exact hts _ (lw_c3 (j := 43) rfl)
      | 9, _ => exact hts _ (lw_c3 (j := 44) rfl)
      | 10, _ => exact hts _ (lw_c3 (j := 45) rfl)
      | i + 11, hi => exact absurd hi (by omega)
    · refine ⟨⟨va_AO.of o3, va_AO.of o4, va_AO.of o5⟩, fun q hq => ?_⟩
      simp only [nestL, List.mem_cons, List.not_mem_nil, or_false] at hq
      rcases hq with rfl | rfl | rfl | rfl | rfl | rfl | rfl | rfl | rfl | rfl
      · exact va_Nw.of rfl (hts _ (lw_c1 (j := 40) rfl))
      · exact va_Nw.of rfl (hts _ (lw_c1 (j := 159) rfl))
      · exact va_Nw.of rfl (hts _ (lw_c1 (j := 164) rfl))
      · exact va_Nw.of rfl (hts _ (lw_c1 (j := 214) rfl))
      · exact va_Nw.of rfl (hts _ (lw_c1 (j := 219) rfl))
      · exact va_Nw.of rfl (hts _ (lw_c2 (j := 20) rfl))
      · exact va_Nw.of rfl (hts _ (lw_c2 (j := 37) rfl))
      · exact va_Nw.of rfl (hts _ (lw_c2 (j := 71) rfl))
      · exact va_Nw.of rfl (hts _ (lw_c2 (j := 84) rfl))
      · exact va_Nw.of rfl (hts _ (lw_c2 (j := 108) rfl))
    · rw [e25, e26]
      obtain ⟨scr0, x1, x2, x3, x4, x5⟩ := hX
      refine ⟨scr0, x1, x2, x3, Nat.le_of_eq x4.symm, by rw [x4], fun j hj => ?_, Nat.not_le.mpr hbl⟩
      rw [x5 j hj]
      dsimp only
      rw [hsc, Int32.ofInt_toInt]
  have hK : va_K G.2.2.1 CC (tyl G) s := by
    rw [hGe]
    refine ⟨fun i q hq => ?_, fun t q hq => ?_⟩
    · match i, hq with
      | 0, hq => cases hq; exact K0
      | 1, hq => cases hq; exact K1
      | 2, hq => cases hq; exact K2
      | 3, hq => cases hq; exact K3
      | 4, hq => cases hq; exact K4
      | 5, hq => cases hq; exact K5
      | 6, hq => cases hq; exact K6
      | 7, hq => cases hq; exact K7
      | 8, hq => cases hq; exact K8
      | 9, hq => cases hq; exact K9
      | 10, hq => cases hq; exact K10
      | 11, hq => cases hq; exact K11
      | i + 12, hq => cases hq
    · match t, hq with
      | 0, hq => cases hq; exact ⟨A0, B0⟩
      | 1, hq => cases hq; exact ⟨A1, B1⟩
      | 2, hq => cases hq; exact ⟨A2, B2⟩
      | 3, hq => cases hq; exact ⟨A3, B3⟩
      | 4, hq => cases hq; exact ⟨A4, B4⟩
      | 5, hq => cases hq; exact ⟨A5, B5⟩
      | t + 6, hq => cases hq
  exact law_from l G hG1 ⟨hx, hb, hml, hr, hlocks, hown, htw⟩ hlocks hr hK hSp e25 (by rw [e26]; exact hL) (fun j => by rw [hsc]; exact ⟨Int32.le_toInt _, Int32.toInt_lt _⟩)
set_option maxHeartbeats 4000000 in
theorem lw_walk (l : Launch) (hflags : l.flags = flags0) (b : Addr) (xs : List Int32) : MetFree l x (headSpec (Jvm.Cond.code x code maxLocals ret :: tables_1) room_1) (lw_P b xs) (fun _ _ _ _ _ => True) lw_Q := by
  refine MetFree.of_bodyS (code := code) (maxLocals := maxLocals) (ret := ret) (by decide) ?_ ?_
  · intro args s m h hn
    obtain ⟨meth, c, h1, h2, h3, h4, h5, h6, -, -⟩ := Cond.code_spec hn (atoms_spec (ws := Jvm.Cond.code x code maxLocals ret :: tables_1) h _ List.mem_cons_self)
    exact ⟨meth, c, h1, h2, h3, h4, h5, h6⟩
  · intro p e s m args below meth c s₁ B hml0 hP _
    obtain ⟨rfl, hx, hbd, hgv⟩ := hP
    obtain ⟨scr, harrAt, hlist, hof, hsmall⟩ := hx
    obtain ⟨hcb, hkn, -, -⟩ := State.arrayAt?_spec harrAt
    have hown : s.vm.findClass R_law = some m.cls := findClass_of_methodNamed B.named
    have hts0 : ∀ c ∈ (Jvm.Cond.code x code maxLocals ret :: tables_1), c.before #[Value.ref b] s = true := atoms_spec (ws := Jvm.Cond.code x code maxLocals ret :: tables_1) B.pre
    have hts : ∀ w ∈ lw_tbl, w.before #[Value.ref b] s = true := k2_hts_sels lw_privs (fun w hw => hts0 w (List.mem_cons_of_mem _ hw)) lw_privs_ok
    have hml : c.maxLocals = 4 := B.maxLocals_eq (hts0 _ List.mem_cons_self)
    have X₀ : Stand p l e room_1 s m #[Value.ref b] below meth c s₁ [] 0 0 := Stand.of_body B
    have hh0 : s₁.heap = s.heap := by rw [B.state]; rfl
    have hsz : scr.slots.size = xs.length := by rw [← Array.length_toList, hlist, List.length_map]
    have hval : ∀ j : Nat, j < xs.length → scr.slots[j]? = some (.int (xs.getD j 0)) := fun j hj => by
      rw [← Array.getElem?_toList, hlist]
      simp [hj]
    have hbl : b < s.heap.size := (Array.getElem?_eq_some_iff.mp hcb).1
    have hX : va_X b xs.length (fun j => xs.getD j 0) s s.heap := ⟨scr, hcb, hof, hkn, hsz, hval⟩
    have K : W p l e room_1 s m #[Value.ref b] below meth c s₁.heap [] 0 0 (lw_Z below #[Value.ref b] s) (entryFrame m ([Value.ref b] : List Value).toArray 4) := by
      rw [hh0]
      exact whole_start l hflags hbd ⟨B.exec, B.bytes, B.returns, hml, hown, hts, hX, hbl, B.notSynchronized, hgv⟩
    obtain ⟨t, a1, o, b1, b2, b3⟩ := K s₁ rfl X₀
    exact ⟨t, o, a1, b1, b2, b3⟩
theorem lw_pre_spec {args : Array Value} {s : State} (h : (Jvm.Cond.and given_1 narrow_1).before args s = true) (hr : rest_1_c.before args s = true) : ∃ (b : Addr) (xs : List Int32), lw_P b xs args s := by
  have hs := flat_of_before _ h
  have hq := flat_of_before _ hr
  have hc : (Cond.count 1).before args s = true := hs _ (by decide +kernel)
  have harr : (Cond.arrayOf (.arg 0) .int).before args s = true := hs _ (by decide +kernel)
  have hle : (Cond.le (.length (.arg 0)) (.int 3584)).before args s = true := hs _ (by decide +kernel)
  have hlen : (Cond.isInt (.length (.arg 0))).before args s = true := hq _ (by decide +kernel)
  have hall : (Cond.all (.arg 0) (.isInt (.elem (.arg 0) (.index 0)))).before args s = true := hq _ (by decide +kernel)
  obtain ⟨b, xs, hb, hx⟩ := State.ints_of_pre rfl harr hlen hall
  have hsm : xs.length < 2 ^ 31 := hx.choose_spec.2.2.2
  have hev : (Term.length (.arg 0)).eval args s none [] s = some (.int xs.length.toInt32) := hx.length_eval hb
  have hv := Cond.le_ints hev (show (Term.int 3584).eval args s none [] s = some (.int 3584) from rfl)
  have hd : xs.length.toInt32 ≤ 3584 := by
    simpa [Cond.before, Cond.holds, hv] using hle
  have hN : xs.length ≤ 3584 := (Int32.ofNat_le_ofNat hsm (by decide)).mp (show Int32.ofNat xs.length ≤ Int32.ofNat 3584 from hd)
  exact ⟨b, xs, Cond.one_arg hc (show args[0]? = some (.ref b) from hb), hx, hN, h⟩
theorem lw_comes (l : Launch) (hflags : l.flags = flags0) : Comes l x (Jvm.Cond.code x code maxLocals ret :: tables_1) room_1 (fun tb e args s => Calls_1 tb e args s ∧ rest_1 tb e args s ∧ Pre_1 tb e args s)
    (fun _ _ args s o t => lw_Q args s o t) := by
  intro p e ha hc hk s m args below hf hfit hheap happ hpre
  obtain ⟨b, xs, hP⟩ := lw_pre_spec hpre.2.2 hpre.2.1
  obtain ⟨k, o, h1, h2, h3, hQ⟩ := lw_walk l hflags b xs p e ha hc hk s m args below hf ((Spec.applies_iff_loose hf).mp happ).1 hP trivial
  exact ⟨k, o, h1, h2, h3, hQ⟩
theorem lw_frame {s t : State} {o : Outcome} {args : Array Value} (h : Framed s o t [] 600000 7302250) :
    Framed s o t (fieldLocs frame_1_writes args s ++ arrayLocs frame_1_arrays args s ++ staticLocs frame_1_statics s) 600000 7302250 := h
theorem lw_limb (L : Cond) (hL : ∀ (args : Array Value) (s t : State), L.after args s (.returned (some (.int 1))) t = true) :
    ArmFor flags0 classFile x code maxLocals ret World_1 tables_1 room_1 Calls_1 rest_1 Pre_1
      (fun tb e a s o t => postC L tb e a s o t ∧ Framed s o t (fieldLocs frame_1_writes a s ++ arrayLocs frame_1_arrays a s ++ staticLocs frame_1_statics s) 600000 7302250) := by
  intro l hflags _ _ p e ha hc hk s m args below hf hfit hheap happ hpre
  obtain ⟨k, o, h1, h2, h3, rfl, hF⟩ := lw_comes l hflags p e ha hc hk s m args below hf hfit hheap happ hpre
  exact ⟨k, _, h1, h2, h3, hL args s _, lw_frame hF⟩
theorem i_vc : Claimed_1_1 ∧ Claimed_1_2 := ⟨lw_limb limb_1_1 (fun args s t => by simp [limb_1_1, Cond.after, Cond.holds, Cond.value]), lw_limb limb_1_2 (fun args s t => Cond.after_iff.mpr (by
  first | (rw [show limb_1_2 = Cond.eq .result (.int 1) from rfl, Cond.eq_ints (x := 1) (y := 1) rfl rfl]; simp; done) | (simp [limb_1_2, Cond.value, Term.eval]; done)))⟩
