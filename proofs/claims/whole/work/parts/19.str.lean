/-! the words: String.length, String.charAt -/
def strLen (k : Nat) : Int := ((strLn.getD (k - 3) 0 : Nat) : Int)
def strAt (k j : Nat) : Int := ((strBt.getD (k - 3) []).getD j 0).toInt
def i2c (x : Int) : Int := ((Int32.ofInt x).toUInt32 % 65536).toInt32.toInt
abbrev mS_coder : Mu := (⟨"java/lang/String", "coder", "()B"⟩, prog_16_method_152_code, 1, some .byte, "java/lang/String")
abbrev mS_isLatin1 : Mu := (⟨"java/lang/String", "isLatin1", "()Z"⟩, prog_16_method_154_code, 1, some .boolean, "java/lang/String")
abbrev mS_length : Mu := (⟨"java/lang/String", "length", "()I"⟩, prog_16_method_54_code, 1, some .int, "java/lang/String")
abbrev mS_charAt : Mu := (⟨"java/lang/String", "charAt", "(I)C"⟩, prog_16_method_56_code, 2, some .char, "java/lang/String")
abbrev mL_charAt : Mu := (⟨"java/lang/StringLatin1", "charAt", "([BI)C"⟩, prog_17_method_2_code, 2, some .char, "java/lang/StringLatin1")
abbrev mS_check : Mu := (⟨"java/lang/String", "checkIndex", "(II)V"⟩, prog_16_method_155_code, 2, none, "java/lang/String")
abbrev mP_check : Mu := (⟨"jdk/internal/util/Preconditions", "checkIndex", "(IILjava/util/function/BiFunction;)I"⟩, prog_21_method_11_code, 3, some .int, "jdk/internal/util/Preconditions")
theorem fk_coder : FK "java/lang/String" 335 mS_coder 0 := ⟨⟨tW_c2 (j := 228) rfl rfl, tW_c2 (j := 229) rfl rfl, tW_c2 (j := 230) rfl rfl, tW_c1 (j := 16) rfl rfl, tW_c2 (j := 231) rfl rfl⟩, ⟨by decide, by decide, by decide +kernel⟩, by decide⟩
theorem fk_isLatin1 : FK "java/lang/String" 492 mS_isLatin1 0 := ⟨⟨tW_c2 (j := 238) rfl rfl, tW_c2 (j := 239) rfl rfl, tW_c3 (j := 0) rfl rfl, tW_c1 (j := 16) rfl rfl, tW_c3 (j := 1) rfl rfl⟩, ⟨by decide, by decide, by decide +kernel⟩, by decide⟩
theorem fs_Lcharat : FS "java/lang/String" 495 mL_charAt 2 := ⟨⟨tW_c3 (j := 2) rfl rfl, tW_c3 (j := 3) rfl rfl, tW_c1 (j := 17) rfl rfl, tW_c3 (j := 4) rfl rfl⟩, ⟨by decide, by decide, by decide +kernel⟩, by decide⟩
theorem fs_check : FS "java/lang/StringLatin1" 9 mS_check 2 := ⟨⟨tW_c3 (j := 5) rfl rfl, tW_c3 (j := 6) rfl rfl, tW_c1 (j := 16) rfl rfl, tW_c3 (j := 7) rfl rfl⟩, ⟨by decide, by decide, by decide +kernel⟩, by decide⟩
theorem fs_pcheck : FS "java/lang/String" 1059 mP_check 3 := ⟨⟨tW_c3 (j := 10) rfl rfl, tW_c3 (j := 11) rfl rfl, tW_c1 (j := 18) rfl rfl, tW_c3 (j := 12) rfl rfl⟩, ⟨by decide, by decide, by decide +kernel⟩, by decide⟩
theorem fk_len {own : String} {idx : Nat} (f : Cond.methodLink own idx ⟨"java/lang/String", "length", "()I"⟩ ∈ tW) : FK own idx mS_length 0 := ⟨⟨f, tW_c2 (j := 225) rfl rfl, tW_c2 (j := 226) rfl rfl, tW_c1 (j := 16) rfl rfl, tW_c2 (j := 227) rfl rfl⟩, ⟨by decide, by decide, by decide +kernel⟩, by decide⟩
theorem fk_cha {own : String} {idx : Nat} (f : Cond.methodLink own idx ⟨"java/lang/String", "charAt", "(I)C"⟩ ∈ tW) : FK own idx mS_charAt 1 := ⟨⟨f, tW_c2 (j := 235) rfl rfl, tW_c2 (j := 236) rfl rfl, tW_c1 (j := 16) rfl rfl, tW_c2 (j := 237) rfl rfl⟩, ⟨by decide, by decide, by decide +kernel⟩, by decide⟩
theorem fl_value : Cond.fieldLink "java/lang/String" 9 "java/lang/String" "value" "[B" ∈ tW := tW_c8 (j := 52) rfl rfl
theorem fl_coder : Cond.fieldLink "java/lang/String" 15 "java/lang/String" "coder" "B" ∈ tW := tW_c8 (j := 53) rfl rfl
theorem fl_comp : Cond.fieldLink "java/lang/String" 38 "java/lang/String" "COMPACT_STRINGS" "Z" ∈ tW := tW_c2 (j := 232) rfl rfl
theorem fl_fmt : Cond.fieldLink "java/lang/String" 1053 "jdk/internal/util/Preconditions" "SIOOBE_FORMATTER" "Ljava/util/function/BiFunction;" ∈ tW := tW_c3 (j := 8) rfl rfl
theorem dmS_coder_0 : decode mS_coder.2.1 0 = .ok (.getstatic 38, 3) := by decide +kernel
theorem dmS_coder_3 : decode mS_coder.2.1 3 = .ok (.ifCond .eq 10, 3) := by decide +kernel
theorem dmS_coder_6 : decode mS_coder.2.1 6 = .ok (.aload_n 0, 1) := by decide +kernel
theorem dmS_coder_7 : decode mS_coder.2.1 7 = .ok (.getfield 15, 3) := by decide +kernel
theorem dmS_coder_10 : decode mS_coder.2.1 10 = .ok (.goto 4, 3) := by decide +kernel
theorem dmS_coder_14 : decode mS_coder.2.1 14 = .ok (.ireturn, 1) := by decide +kernel
theorem dmS_isLatin1_0 : decode mS_isLatin1.2.1 0 = .ok (.getstatic 38, 3) := by decide +kernel
theorem dmS_isLatin1_3 : decode mS_isLatin1.2.1 3 = .ok (.ifCond .eq 14, 3) := by decide +kernel
theorem dmS_isLatin1_6 : decode mS_isLatin1.2.1 6 = .ok (.aload_n 0, 1) := by decide +kernel
theorem dmS_isLatin1_7 : decode mS_isLatin1.2.1 7 = .ok (.getfield 15, 3) := by decide +kernel
theorem dmS_isLatin1_10 : decode mS_isLatin1.2.1 10 = .ok (.ifCond .ne 7, 3) := by decide +kernel
theorem dmS_isLatin1_13 : decode mS_isLatin1.2.1 13 = .ok (.iconst 1, 1) := by decide +kernel
theorem dmS_isLatin1_14 : decode mS_isLatin1.2.1 14 = .ok (.goto 4, 3) := by decide +kernel
theorem dmS_isLatin1_18 : decode mS_isLatin1.2.1 18 = .ok (.ireturn, 1) := by decide +kernel
theorem dmS_length_0 : decode mS_length.2.1 0 = .ok (.aload_n 0, 1) := by decide +kernel
theorem dmS_length_1 : decode mS_length.2.1 1 = .ok (.getfield 9, 3) := by decide +kernel
theorem dmS_length_4 : decode mS_length.2.1 4 = .ok (.arraylength, 1) := by decide +kernel
theorem dmS_length_5 : decode mS_length.2.1 5 = .ok (.aload_n 0, 1) := by decide +kernel
theorem dmS_length_6 : decode mS_length.2.1 6 = .ok (.invokevirtual 335, 3) := by decide +kernel
theorem dmS_length_9 : decode mS_length.2.1 9 = .ok (.ishr, 1) := by decide +kernel
theorem dmS_length_10 : decode mS_length.2.1 10 = .ok (.ireturn, 1) := by decide +kernel
theorem dmS_charAt_0 : decode mS_charAt.2.1 0 = .ok (.aload_n 0, 1) := by decide +kernel
theorem dmS_charAt_1 : decode mS_charAt.2.1 1 = .ok (.invokevirtual 492, 3) := by decide +kernel
theorem dmS_charAt_4 : decode mS_charAt.2.1 4 = .ok (.ifCond .eq 12, 3) := by decide +kernel
theorem dmS_charAt_7 : decode mS_charAt.2.1 7 = .ok (.aload_n 0, 1) := by decide +kernel
theorem dmS_charAt_8 : decode mS_charAt.2.1 8 = .ok (.getfield 9, 3) := by decide +kernel
theorem dmS_charAt_11 : decode mS_charAt.2.1 11 = .ok (.iload_n 1, 1) := by decide +kernel
theorem dmS_charAt_12 : decode mS_charAt.2.1 12 = .ok (.invokestatic 495, 3) := by decide +kernel
theorem dmS_charAt_15 : decode mS_charAt.2.1 15 = .ok (.ireturn, 1) := by decide +kernel
theorem dmL_charAt_0 : decode mL_charAt.2.1 0 = .ok (.iload_n 1, 1) := by decide +kernel
theorem dmL_charAt_1 : decode mL_charAt.2.1 1 = .ok (.aload_n 0, 1) := by decide +kernel
theorem dmL_charAt_2 : decode mL_charAt.2.1 2 = .ok (.arraylength, 1) := by decide +kernel
theorem dmL_charAt_3 : decode mL_charAt.2.1 3 = .ok (.invokestatic 9, 3) := by decide +kernel
theorem dmL_charAt_6 : decode mL_charAt.2.1 6 = .ok (.aload_n 0, 1) := by decide +kernel
theorem dmL_charAt_7 : decode mL_charAt.2.1 7 = .ok (.iload_n 1, 1) := by decide +kernel
theorem dmL_charAt_8 : decode mL_charAt.2.1 8 = .ok (.baload, 1) := by decide +kernel
theorem dmL_charAt_9 : decode mL_charAt.2.1 9 = .ok (.sipush 255, 3) := by decide +kernel
theorem dmL_charAt_12 : decode mL_charAt.2.1 12 = .ok (.iand, 1) := by decide +kernel
theorem dmL_charAt_13 : decode mL_charAt.2.1 13 = .ok (.i2c, 1) := by decide +kernel
theorem dmL_charAt_14 : decode mL_charAt.2.1 14 = .ok (.ireturn, 1) := by decide +kernel
theorem dmS_check_0 : decode mS_check.2.1 0 = .ok (.iload_n 0, 1) := by decide +kernel
theorem dmS_check_1 : decode mS_check.2.1 1 = .ok (.iload_n 1, 1) := by decide +kernel
theorem dmS_check_2 : decode mS_check.2.1 2 = .ok (.getstatic 1053, 3) := by decide +kernel
theorem dmS_check_5 : decode mS_check.2.1 5 = .ok (.invokestatic 1059, 3) := by decide +kernel
theorem dmS_check_8 : decode mS_check.2.1 8 = .ok (.pop, 1) := by decide +kernel
theorem dmS_check_9 : decode mS_check.2.1 9 = .ok (.return_, 1) := by decide +kernel
theorem dmP_check_0 : decode mP_check.2.1 0 = .ok (.iload_n 0, 1) := by decide +kernel
theorem dmP_check_1 : decode mP_check.2.1 1 = .ok (.ifCond .lt 8, 3) := by decide +kernel
theorem dmP_check_4 : decode mP_check.2.1 4 = .ok (.iload_n 0, 1) := by decide +kernel
theorem dmP_check_5 : decode mP_check.2.1 5 = .ok (.iload_n 1, 1) := by decide +kernel
theorem dmP_check_6 : decode mP_check.2.1 6 = .ok (.if_icmp .lt 10, 3) := by decide +kernel
theorem dmP_check_16 : decode mP_check.2.1 16 = .ok (.iload_n 0, 1) := by decide +kernel
theorem dmP_check_17 : decode mP_check.2.1 17 = .ok (.ireturn, 1) := by decide +kernel
section Str
variable {l : Launch} {G : Geo} {μ : Mu} {rv : Int → Option Value} {d pc : Nat} {L : List (Option Value)} {st : List Value} {h : AH} {res : Option (Int × AH)}
theorem den_i2c {x : Int} (hd : decode μ.2.1 pc = .ok (.i2c, 1)) (k : Den l G μ rv d (pc + 1) L (vI (i2c x) :: st) h res) : Den l G μ rv d pc L (vI x :: st) h res := den_go (fun _ C _ _ k => lv_i2c C.1 C.2.1 hd (by unfold i2c; rw [Int32.ofInt_toInt]) k) k
theorem den_eqF {x off : Int} {tgt : Nat} (hd : decode μ.2.1 pc = .ok (.ifCond .eq off, 3)) (ht : (pc : Int) + off = (tgt : Int)) (hx : ¬ w32 x = 0) (k : Den l G μ rv d (pc + 3) L st h res) : Den l G μ rv d pc L (vI x :: st) h res := by
  have := den_if_eq (x := x) (rt := none) (rf := res) hd ht rfl (fun _ => den_none) (fun _ => k)
  rwa [if_neg hx] at this
theorem den_neF {x off : Int} {tgt : Nat} (hd : decode μ.2.1 pc = .ok (.ifCond .ne off, 3)) (ht : (pc : Int) + off = (tgt : Int)) (hx : w32 x = 0) (k : Den l G μ rv d (pc + 3) L st h res) : Den l G μ rv d pc L (vI x :: st) h res := by
  have := den_if_ne (x := x) (rt := none) (rf := res) hd ht rfl (fun _ => den_none) (fun _ => k)
  rwa [if_neg (fun q => q hx)] at this
theorem den_ltF {x off : Int} {tgt : Nat} (hd : decode μ.2.1 pc = .ok (.ifCond .lt off, 3)) (ht : (pc : Int) + off = (tgt : Int)) (hx : ¬ w32 x < 0) (k : Den l G μ rv d (pc + 3) L st h res) : Den l G μ rv d pc L (vI x :: st) h res := by
  have := den_if_lt (x := x) (rt := none) (rf := res) hd ht rfl (fun _ => den_none) (fun _ => k)
  rwa [if_neg hx] at this
theorem den_icltT {x y off : Int} {tgt : Nat} (hd : decode μ.2.1 pc = .ok (.if_icmp .lt off, 3)) (ht : (pc : Int) + off = (tgt : Int)) (hx : w32 x < w32 y) (k : Den l G μ rv d tgt L st h res) : Den l G μ rv d pc L (vI y :: vI x :: st) h res := by
  have := den_icmp_lt (x := x) (y := y) (rt := res) (rf := none) hd ht rfl rfl (fun _ => k) (fun _ => den_none)
  rwa [if_pos hx] at this
theorem den_sVal {i : Nat} (hi : i < 11) (ho : μ.2.2.2.2 = "java/lang/String") (hd : decode μ.2.1 pc = .ok (.getfield 9, 3)) (k : Den l G μ rv d (pc + 3) L (vS G (14 + i) :: st) h res) : Den l G μ rv d pc L (vS G (3 + i) :: st) h res := den_go (fun _ C hw _ k => vk_getf C.1 C.2.1 (hw.2.2.2.2.2.2.1.1 i hi).2.2.1 hw.2.2.1 C.2.2.2.2.2.1 (by rw [ho]; exact C.2.2.2.2.2.2 _ fl_value) (fun _ q => q) hd k) k
theorem den_sCod {i : Nat} (hi : i < 11) (ho : μ.2.2.2.2 = "java/lang/String") (hd : decode μ.2.1 pc = .ok (.getfield 15, 3)) (k : Den l G μ rv d (pc + 3) L (vI 0 :: st) h res) : Den l G μ rv d pc L (vS G (3 + i) :: st) h res := den_go (fun _ C hw _ k => vk_getf C.1 C.2.1 (hw.2.2.2.2.2.2.1.1 i hi).2.1 hw.2.2.1 C.2.2.2.2.2.1 (by rw [ho]; exact C.2.2.2.2.2.2 _ fl_coder) (fun _ q => q) hd k) k
theorem den_sCmp (ho : μ.2.2.2.2 = "java/lang/String") (hd : decode μ.2.1 pc = .ok (.getstatic 38, 3)) (k : Den l G μ rv d (pc + 3) L (vI 1 :: st) h res) : Den l G μ rv d pc L st h res := den_go (fun _ C hw _ k => va_gets C.1 C.2.1 hw.2.2.2.2.2.2.2.2.1 hw.2.2.1 C.2.2.2.2.2.1 (by rw [ho]; exact C.2.2.2.2.2.2 _ fl_comp) (fun _ q => q) hd k) k
theorem den_sFmt (ho : μ.2.2.2.2 = "java/lang/String") (hd : decode μ.2.1 pc = .ok (.getstatic 1053, 3)) (k : ∀ v : Value, (v = .null ∨ ∃ t : Nat, v = .ref t) → Den l G μ rv d (pc + 3) L (v :: st) h res) : Den l G μ rv d pc L st h res := fun r h' hr => by
  refine ⟨(k .null (Or.inl rfl) r h' hr).1, fun p e s m args below meth c R Q n0 H locs ls C hR hn hw hl ht => ?_⟩
  rcases hw.2.2.2.2.2.2.2.2.2.1 with q | ⟨t, q⟩
  · exact va_gets C.1 C.2.1 q hw.2.2.1 C.2.2.2.2.2.1 (by rw [ho]; exact C.2.2.2.2.2.2 _ fl_fmt) (fun _ q => q) hd ((k .null (Or.inl rfl) r h' hr).2 p e s m args below meth c R Q n0 H locs ls C hR hn hw hl ht)
  · exact va_gets C.1 C.2.1 q hw.2.2.1 C.2.2.2.2.2.1 (by rw [ho]; exact C.2.2.2.2.2.2 _ fl_fmt) (fun _ q => q) hd ((k (.ref t) (Or.inr ⟨t, rfl⟩) r h' hr).2 p e s m args below meth c R Q n0 H locs ls C hR hn hw hl ht)
theorem den_sLen {i : Nat} (hi : i < 11) (hd : decode μ.2.1 pc = .ok (.arraylength, 1)) (k : Den l G μ rv d (pc + 1) L (vI (strLn.getD i 0 : Nat) :: st) h res) : Den l G μ rv d pc L (vS G (14 + i) :: st) h res := den_go (fun _ C hw _ k => va_tlen C.1 C.2.1 (hw.2.2.2.2.2.2.1.1 i hi).2.2.2 hw.2.2.1 rfl hd k) k
theorem den_sAt {i : Nat} {j : Int} (hi : i < 11) (hj : 0 ≤ w32 j ∧ w32 j < (strLn.getD i 0 : Nat)) (hd : decode μ.2.1 pc = .ok (.baload, 1)) (k : Den l G μ rv d (pc + 1) L (vI ((strBt.getD i []).getD (w32 j).toNat 0).toInt :: st) h res) : Den l G μ rv d pc L (vI j :: vS G (14 + i) :: st) h res := den_go (fun _ C hw _ k => va_tb C.1 C.2.1 (hw.2.2.2.2.2.2.1.1 i hi).2.2.2 hw.2.2.1 (vp_in_w hj) (v := vI ((strBt.getD i []).getD (w32 j).toNat 0).toInt) (by rw [clamp_w]; exact congrArg Value.int (Int32.ofInt_toInt _).symm) hd k) k
theorem den_loadV {k : Fin 4} {i : Nat} {v : Value} (hv : v = .null ∨ ∃ t : Nat, v = .ref t) (hd : decode μ.2.1 pc = .ok (.aload_n k, 1)) (hi : (k : Nat) = i) (hl : L[i]? = some (some v)) (k2 : Den l G μ rv d (pc + 1) L (v :: st) h res) : Den l G μ rv d pc L st h res := by
  rcases hv with rfl | ⟨t, rfl⟩
  · exact den_go (fun _ C _ hL kk => lv_aload_nN C.1 C.2.1 hd hi (hL.at hl) kk) k2
  · exact den_go (fun _ C _ hL kk => lv_aload_n C.1 C.2.1 hd hi (hL.at hl) kk) k2
theorem str_rec {i : Nat} (hi : i < 11) {s : State} {H : Heap} {locs : List Loc} (hw : Wd G h s H locs) : ∃ cell : Cell, H[G.2.1 (3 + i)]? = some cell ∧ cell.vm.isStatics = false ∧ s.vm.findClass "java/lang/String" = some cell.cls := vk_recv (adK := fun i => G.2.1 (3 + i)) (i := i) hw.2.2.2.2.2.2.1 hi hw.2.2.1
theorem cS_coder (l : Launch) (G : Geo) {i : Nat} (hi : i < 11) (h : AH) : Con l G mS_coder rvI 2 [vS G (3 + i)] h (some (0, h)) := by
  refine con_T (ty := .byte) rfl rfl (fun r h' e => by cases e; rfl) (by decide) rfl rfl (Nat.le_of_ble_eq_true rfl) (L := [some (vS G (3 + i))]) ?_
  refine den_sCmp (pc := 0) rfl dmS_coder_0 ?_
  refine den_eqF (pc := 3) (tgt := 13) dmS_coder_3 (by decide) (by decide) ?_
  refine den_aloadS_n (pc := 6) dmS_coder_6 rfl rfl ?_
  refine den_sCod (pc := 7) hi rfl dmS_coder_7 ?_
  refine den_goto (pc := 10) (tgt := 14) dmS_coder_10 (by decide) ?_
  exact den_tret (pc := 14) rfl rfl (fun _ => trivial) trivial dmS_coder_14
theorem cS_isLatin1 (l : Launch) (G : Geo) {i : Nat} (hi : i < 11) (h : AH) : Con l G mS_isLatin1 rvI 2 [vS G (3 + i)] h (some (1, h)) := by
  refine con_Z rfl (by decide) rfl rfl (Nat.le_of_ble_eq_true rfl) (L := [some (vS G (3 + i))]) ?_
  refine den_sCmp (pc := 0) rfl dmS_isLatin1_0 ?_
  refine den_eqF (pc := 3) (tgt := 17) dmS_isLatin1_3 (by decide) (by decide) ?_
  refine den_aloadS_n (pc := 6) dmS_isLatin1_6 rfl rfl ?_
  refine den_sCod (pc := 7) hi rfl dmS_isLatin1_7 ?_
  refine den_neF (pc := 10) (tgt := 17) dmS_isLatin1_10 (by decide) (by decide) ?_
  refine den_iconst (pc := 13) dmS_isLatin1_13 ?_
  refine den_goto (pc := 14) (tgt := 18) dmS_isLatin1_14 (by decide) ?_
  exact den_zret (pc := 18) rfl (by decide) dmS_isLatin1_18
theorem str_shr : ∀ i, i < 11 → shr32 (strLn.getD i 0 : Nat) 0 = (strLn.getD i 0 : Nat) := by decide
theorem cS_length (l : Launch) (G : Geo) {i : Nat} (hi : i < 11) (h : AH) : Con l G mS_length rvI 4 [vS G (3 + i)] h (some (((strLn.getD i 0 : Nat) : Int), h)) := by
  refine con_I rfl (by decide) rfl rfl (Nat.le_of_ble_eq_true rfl) (L := [some (vS G (3 + i))]) ?_
  refine den_aloadS_n (pc := 0) dmS_length_0 rfl rfl ?_
  refine den_sVal (pc := 1) hi rfl dmS_length_1 ?_
  refine den_sLen (pc := 4) hi dmS_length_4 ?_
  refine den_aloadS_n (pc := 5) dmS_length_5 rfl rfl ?_
  refine den_callK (pc := 6) (As := []) (K := fun _ h1 => some (((strLn.getD i 0 : Nat) : Int), h1)) (f := some (0, h)) fk_coder rfl rfl (fun hw => str_rec hi hw) (Nat.le_of_ble_eq_true rfl) (d2 := 2) (by decide) dmS_length_6 (cS_coder l G hi h) (fun r h1 e _ _ => ?_)
  cases e
  refine den_ishr (pc := 9) dmS_length_9 ?_
  rw [str_shr i hi]
  exact den_iret (pc := 10) rfl dmS_length_10
theorem cP_check (l : Launch) (G : Geo) {i n : Int} {v : Value} (hv : v = .null ∨ ∃ t : Nat, v = .ref t) (hin : 0 ≤ w32 i ∧ w32 i < w32 n) (h : AH) : Con l G mP_check rvI 2 [vI i, vI n, v] h (some (i, h)) := by
  have key : ∀ L : List (Option Value), L = [some (vI i), some (vI n), some v] → Den l G mP_check rvI 2 0 L [] h (some (i, h)) := by
    intro L hL
    subst hL
    refine den_iload_n (pc := 0) dmP_check_0 rfl rfl ?_
    refine den_ltF (pc := 1) (tgt := 9) dmP_check_1 (by decide) (by omega) ?_
    refine den_iload_n (pc := 4) dmP_check_4 rfl rfl ?_
    refine den_iload_n (pc := 5) dmP_check_5 rfl rfl ?_
    refine den_icltT (pc := 6) (tgt := 16) dmP_check_6 (by decide) hin.2 ?_
    refine den_iload_n (pc := 16) dmP_check_16 rfl rfl ?_
    exact den_iret (pc := 17) rfl dmP_check_17
  rcases hv with rfl | ⟨t, rfl⟩
  · exact con_I rfl (by decide) rfl rfl (Nat.le_of_ble_eq_true rfl) (key _ rfl)
  · exact con_I rfl (by decide) rfl rfl (Nat.le_of_ble_eq_true rfl) (key _ rfl)
theorem cS_check (l : Launch) (G : Geo) {i n : Int} (hin : 0 ≤ w32 i ∧ w32 i < w32 n) (h : AH) : Con l G mS_check rvV 4 [vI i, vI n] h (some (0, h)) := by
  refine con_V rfl (by decide) rfl rfl (Nat.le_of_ble_eq_true rfl) (L := [some (vI i), some (vI n)]) ?_
  refine den_iload_n (pc := 0) dmS_check_0 rfl rfl ?_
  refine den_iload_n (pc := 1) dmS_check_1 rfl rfl ?_
  refine den_sFmt (pc := 2) rfl dmS_check_2 (fun v hv => ?_)
  refine den_callSK (pc := 5) (As := [vI i, vI n, v]) (K := fun _ h1 => some (0, h1)) (f := some (i, h)) fs_pcheck rfl rfl (Nat.le_of_ble_eq_true rfl) (d2 := 2) (by decide) dmS_check_5 (cP_check l G hv hin h) (fun r h1 e _ _ => ?_)
  cases e
  refine den_pop (pc := 8) dmS_check_8 rfl ?_
  exact den_vret (pc := 9) rfl dmS_check_9
theorem str_chr : ∀ i, i < 11 → ∀ j, j < strLn.getD i 0 → i2c (and32 ((strBt.getD i []).getD j 0).toInt 255) = ((strBt.getD i []).getD j 0).toInt ∧ narrow .char (vI ((strBt.getD i []).getD j 0).toInt) = vI ((strBt.getD i []).getD j 0).toInt := by decide +kernel
theorem str_w : ∀ i, i < 11 → w32 (strLn.getD i 0 : Nat) = (strLn.getD i 0 : Nat) := by decide
theorem cL_charAt (l : Launch) (G : Geo) {i : Nat} {j : Int} (hi : i < 11) (hj : 0 ≤ w32 j ∧ w32 j < (strLn.getD i 0 : Nat)) (h : AH) : Con l G mL_charAt rvI 6 [vS G (14 + i), vI j] h (some (((strBt.getD i []).getD (w32 j).toNat 0).toInt, h)) := by
  have hc := str_chr i hi (w32 j).toNat (by omega)
  refine con_T (ty := .char) rfl rfl (fun r h' e => by cases e; exact hc.2) (by decide) rfl rfl (Nat.le_of_ble_eq_true rfl) (L := [some (vS G (14 + i)), some (vI j)]) ?_
  refine den_iload_n (pc := 0) dmL_charAt_0 rfl rfl ?_
  refine den_aloadS_n (pc := 1) dmL_charAt_1 rfl rfl ?_
  refine den_sLen (pc := 2) hi dmL_charAt_2 ?_
  refine den_callSK (pc := 3) (As := [vI j, vI (strLn.getD i 0 : Nat)]) (K := fun _ h1 => some (((strBt.getD i []).getD (w32 j).toNat 0).toInt, h1)) (f := some (0, h)) fs_check rfl rfl (Nat.le_of_ble_eq_true rfl) (d2 := 4) (by decide) dmL_charAt_3 (cS_check l G ⟨hj.1, by rw [str_w i hi]; exact hj.2⟩ h) (fun r h1 e _ _ => ?_)
  cases e
  refine den_aloadS_n (pc := 6) dmL_charAt_6 rfl rfl ?_
  refine den_iload_n (pc := 7) dmL_charAt_7 rfl rfl ?_
  refine den_sAt (pc := 8) hi hj dmL_charAt_8 ?_
  refine den_sipush (pc := 9) dmL_charAt_9 (by decide) ?_
  refine den_iand (pc := 12) dmL_charAt_12 ?_
  refine den_i2c (pc := 13) dmL_charAt_13 ?_
  rw [hc.1]
  exact den_tret (pc := 14) rfl rfl (fun _ => trivial) trivial dmL_charAt_14
theorem cS_charAt (l : Launch) (G : Geo) {i : Nat} {j : Int} (hi : i < 11) (hj : 0 ≤ w32 j ∧ w32 j < (strLn.getD i 0 : Nat)) (h : AH) : Con l G mS_charAt rvI 7 [vS G (3 + i), vI j] h (some (((strBt.getD i []).getD (w32 j).toNat 0).toInt, h)) := by
  have hc := str_chr i hi (w32 j).toNat (by omega)
  refine con_T (ty := .char) rfl rfl (fun r h' e => by cases e; exact hc.2) (by decide) rfl rfl (Nat.le_of_ble_eq_true rfl) (L := [some (vS G (3 + i)), some (vI j)]) ?_
  refine den_aloadS_n (pc := 0) dmS_charAt_0 rfl rfl ?_
  refine den_callK (pc := 1) (As := []) (K := fun _ h1 => some (((strBt.getD i []).getD (w32 j).toNat 0).toInt, h1)) (f := some (1, h)) fk_isLatin1 rfl rfl (fun hw => str_rec hi hw) (Nat.le_of_ble_eq_true rfl) (d2 := 2) (by decide) dmS_charAt_1 (cS_isLatin1 l G hi h) (fun r h1 e _ _ => ?_)
  cases e
  refine den_eqF (pc := 4) (tgt := 16) dmS_charAt_4 (by decide) (by decide) ?_
  refine den_aloadS_n (pc := 7) dmS_charAt_7 rfl rfl ?_
  refine den_sVal (pc := 8) hi rfl dmS_charAt_8 ?_
  refine den_iload_n (pc := 11) dmS_charAt_11 rfl rfl ?_
  have e0 : some (((strBt.getD i []).getD (w32 j).toNat 0).toInt, h) = bnd (some (((strBt.getD i []).getD (w32 j).toNat 0).toInt, h)) (fun r h1 => some (r, h1)) := rfl
  rw [e0]
  refine den_callSK (pc := 12) (As := [vS G (14 + i), vI j]) fs_Lcharat rfl rfl (Nat.le_of_ble_eq_true rfl) (d2 := 6) (by decide) dmS_charAt_12 (cL_charAt l G hi hj h) (fun r h1 e _ _ => ?_)
  cases e
  exact den_tret (pc := 15) rfl rfl (fun _ => trivial) trivial dmS_charAt_15
end Str
theorem den_strlen {l : Launch} {G : Geo} {μ : Mu} {rv : Int → Option Value} {d pc : Nat} {L : List (Option Value)} {st : List Value} {h : AH} {res : Option (Int × AH)} {idx k : Nat} (f : Cond.methodLink μ.2.2.2.2 idx ⟨"java/lang/String", "length", "()I"⟩ ∈ tW) (hk : 3 ≤ k ∧ k < 14) (hst : (st.map fun v => v.category).sum ≤ 8) (hd6 : 6 ≤ d) (hd : decode μ.2.1 pc = .ok (.invokevirtual idx, 3)) (kk : Den l G μ rv d (pc + 3) L (vI (strLen k) :: st) h res) : Den l G μ rv d pc L (vS G k :: st) h res := by
  obtain ⟨i, rfl⟩ : ∃ i, k = 3 + i := ⟨k - 3, by omega⟩
  have hi : i < 11 := by omega
  have e1 : strLen (3 + i) = ((strLn.getD i 0 : Nat) : Int) := by unfold strLen; rw [Nat.add_sub_cancel_left]
  rw [e1] at kk
  have := den_callK (L := L) (rv := rv) (d := d) (pc := pc) (As := []) (K := fun _ _ => res) (f := some (((strLn.getD i 0 : Nat) : Int), h)) (fk_len f) rfl rfl (fun hw => str_rec hi hw) hst (d2 := 4) (by omega) hd (cS_length l G hi h) (fun r h1 e _ _ => by cases e; exact kk)
  exact this
theorem den_charAt {l : Launch} {G : Geo} {μ : Mu} {rv : Int → Option Value} {d pc : Nat} {L : List (Option Value)} {st : List Value} {h : AH} {res : Option (Int × AH)} {idx k : Nat} {i : Int} (f : Cond.methodLink μ.2.2.2.2 idx ⟨"java/lang/String", "charAt", "(I)C"⟩ ∈ tW) (hk : (3 ≤ k ∧ k < 14) ∧ 0 ≤ w32 i ∧ w32 i < strLen k) (hst : (st.map fun v => v.category).sum ≤ 8) (hd8 : 8 ≤ d) (hd : decode μ.2.1 pc = .ok (.invokevirtual idx, 3)) (kk : Den l G μ rv d (pc + 3) L (vI (strAt k (w32 i).toNat) :: st) h res) : Den l G μ rv d pc L (vI i :: vS G k :: st) h res := by
  obtain ⟨q, rfl⟩ : ∃ q, k = 3 + q := ⟨k - 3, by omega⟩
  have hi : q < 11 := by omega
  have e1 : strLen (3 + q) = ((strLn.getD q 0 : Nat) : Int) := by unfold strLen; rw [Nat.add_sub_cancel_left]
  have e2 : strAt (3 + q) (w32 i).toNat = ((strBt.getD q []).getD (w32 i).toNat 0).toInt := by unfold strAt; rw [Nat.add_sub_cancel_left]
  rw [e2] at kk
  rw [e1] at hk
  have := den_callK (L := L) (rv := rv) (d := d) (pc := pc) (As := [vI i]) (K := fun _ _ => res) (f := some (((strBt.getD q []).getD (w32 i).toNat 0).toInt, h)) (fk_cha f) rfl rfl (fun hw => str_rec hi hw) hst (d2 := 7) (by omega) hd (cS_charAt l G hi hk.2 h) (fun r h1 e _ _ => by cases e; exact kk)
  exact this
