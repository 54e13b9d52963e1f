/-! links of the methods to fields and methods -/
theorem fa_9_28 : FA RC9 28 9 8 (some 5) := ⟨RC9, TC9, 9, rfl, iC9, by decide, by decide, tW_c1 (j := 82) rfl rfl, by decide⟩
theorem fa_9_31 : FA RC9 31 9 0 none := ⟨RC9, TC9, 9, rfl, iC9, by decide, by decide, tW_c1 (j := 44) rfl rfl, by decide⟩
theorem fa_9_34 : FA RC9 34 9 1 none := ⟨RC9, TC9, 9, rfl, iC9, by decide, by decide, tW_c1 (j := 52) rfl rfl, by decide⟩
theorem fv_9_69 : FV RC9 69 m9_held 9 2 := ⟨⟨tW_c3 (j := 152) rfl rfl, tW_c3 (j := 153) rfl rfl, tW_c3 (j := 154) rfl rfl, tW_c1 (j := 3) rfl rfl, tW_c3 (j := 155) rfl rfl⟩, ⟨by decide, by decide, by decide +kernel⟩, by decide, rfl⟩
theorem fm_9_73 : FM RC9 73 Lib.Math.abs.name Lib.Math.abs.code 1 := ⟨tW_c3 (j := 172) rfl rfl, tW_c3 (j := 173) rfl rfl, tW_c1 (j := 13) rfl rfl, tW_c3 (j := 174) rfl rfl⟩
theorem fa_0_32 : FA RC0 32 9 1 none := ⟨RC9, TC9, 9, rfl, iC9, by decide, by decide, tW_c1 (j := 56) rfl rfl, by decide⟩
theorem fv_0_35 : FV RC0 35 m9_gap 9 3 := ⟨⟨tW_c5 (j := 89) rfl rfl, tW_c3 (j := 169) rfl rfl, tW_c3 (j := 170) rfl rfl, tW_c1 (j := 3) rfl rfl, tW_c3 (j := 171) rfl rfl⟩, ⟨by decide, by decide, by decide +kernel⟩, by decide, rfl⟩
theorem fa_0_27 : FA RC0 27 0 4 none := ⟨RC0, TC0, 5, rfl, iC0, by decide, by decide, tW_c2 (j := 94) rfl rfl, by decide⟩
theorem fa_0_18 : FA RC0 18 0 3 (some 3) := ⟨RC0, TC0, 5, rfl, iC0, by decide, by decide, tW_c2 (j := 93) rfl rfl, by decide⟩
theorem fs_0_28 : FS RC0 28 m0_apartOnAny 3 := ⟨⟨tW_c5 (j := 86) rfl rfl, tW_c5 (j := 87) rfl rfl, tW_c1 (j := 10) rfl rfl, tW_c5 (j := 88) rfl rfl⟩, ⟨by decide, by decide, by decide +kernel⟩, by decide⟩
theorem fa_0_21 : FA RC0 21 9 0 none := ⟨RC9, TC9, 9, rfl, iC9, by decide, by decide, tW_c1 (j := 46) rfl rfl, by decide⟩
theorem fp_0_27 : FP RC0 27 0 4 .int := ⟨RC0, TC0, 5, yC0, rfl, iC0, yC0_ok, nC0, by decide, by decide, tW_c2 (j := 94) rfl rfl, by decide, rfl, by decide +kernel⟩
theorem fa_0_39 : FA RC0 39 0 1 none := ⟨RC0, TC0, 5, rfl, iC0, by decide, by decide, tW_c2 (j := 90) rfl rfl, by decide⟩
theorem fa_0_15 : FA RC0 15 0 2 (some 2) := ⟨RC0, TC0, 5, rfl, iC0, by decide, by decide, tW_c2 (j := 92) rfl rfl, by decide⟩
theorem fv_0_42 : FV RC0 42 m0_grow 0 3 := ⟨⟨tW_c5 (j := 94) rfl rfl, tW_c5 (j := 96) rfl rfl, tW_at (i := 44) (by decide +kernel) rfl, tW_c1 (j := 10) rfl rfl, tW_c5 (j := 97) rfl rfl⟩, ⟨by decide, by decide, by decide +kernel⟩, by decide, rfl⟩
theorem fp_0_39 : FP RC0 39 0 1 .int := ⟨RC0, TC0, 5, yC0, rfl, iC0, yC0_ok, nC0, by decide, by decide, tW_c2 (j := 90) rfl rfl, by decide, rfl, by decide +kernel⟩
theorem fa_0_9 : FA RC0 9 0 0 (some 1) := ⟨RC0, TC0, 5, rfl, iC0, by decide, by decide, tW_c2 (j := 88) rfl rfl, by decide⟩
theorem fc_0_46 : FC RC0 46 := ⟨tW_c5 (j := 98) rfl rfl, tW_c2 (j := 189) rfl rfl, tW_c2 (j := 188) rfl rfl, tW_c1 (j := 14) rfl rfl⟩
theorem kc_13_265 : Cond.constant RC13 265 (Int32.ofInt 1431655765) ∈ tW := tW_c5 (j := 126) rfl rfl
theorem kc_13_266 : Cond.constant RC13 266 (Int32.ofInt 858993459) ∈ tW := tW_c5 (j := 127) rfl rfl
theorem kc_13_267 : Cond.constant RC13 267 (Int32.ofInt 252645135) ∈ tW := tW_c5 (j := 128) rfl rfl
theorem fs_0_52 : FS RC0 52 m13_bitCount 1 := ⟨⟨tW_c5 (j := 123) rfl rfl, tW_c5 (j := 124) rfl rfl, tW_c1 (j := 20) rfl rfl, tW_c5 (j := 125) rfl rfl⟩, ⟨by decide, by decide, by decide +kernel⟩, by decide⟩
theorem fa_1_15 : FA RC1 15 1 1 (some 2) := ⟨RC1, TC1, 3, rfl, iC1, by decide, by decide, tW_c2 (j := 26) rfl rfl, by decide⟩
theorem fv_9_56 : FV RC9 56 m9_hasSubject 9 1 := ⟨⟨tW_c3 (j := 148) rfl rfl, tW_c3 (j := 149) rfl rfl, tW_c3 (j := 150) rfl rfl, tW_c1 (j := 3) rfl rfl, tW_c3 (j := 151) rfl rfl⟩, ⟨by decide, by decide, by decide +kernel⟩, by decide, rfl⟩
theorem fa_9_15 : FA RC9 15 9 4 (some 1) := ⟨RC9, TC9, 9, rfl, iC9, by decide, by decide, tW_c1 (j := 67) rfl rfl, by decide⟩
theorem fa_9_19 : FA RC9 19 9 5 (some 2) := ⟨RC9, TC9, 9, rfl, iC9, by decide, by decide, tW_c1 (j := 70) rfl rfl, by decide⟩
theorem fm_9_82 : FM RC9 82 Lib.Math.max.name Lib.Math.max.code 2 := ⟨tW_c3 (j := 180) rfl rfl, tW_c2 (j := 185) rfl rfl, tW_c1 (j := 13) rfl rfl, tW_c2 (j := 186) rfl rfl⟩
theorem fv_9_78 : FV RC9 78 m9_gap 9 3 := ⟨⟨tW_c3 (j := 179) rfl rfl, tW_c3 (j := 169) rfl rfl, tW_c3 (j := 170) rfl rfl, tW_c1 (j := 3) rfl rfl, tW_c3 (j := 171) rfl rfl⟩, ⟨by decide, by decide, by decide +kernel⟩, by decide, rfl⟩
theorem fv_9_88 : FV RC9 88 m9_heatAfter 9 2 := ⟨⟨tW_c3 (j := 239) rfl rfl, tW_c4 (j := 0) rfl rfl, tW_c4 (j := 1) rfl rfl, tW_c1 (j := 3) rfl rfl, tW_c4 (j := 2) rfl rfl⟩, ⟨by decide, by decide, by decide +kernel⟩, by decide, rfl⟩
theorem fv_9_94 : FV RC9 94 m9_burningInAll 9 3 := ⟨⟨tW_c4 (j := 66) rfl rfl, tW_c4 (j := 50) rfl rfl, tW_c4 (j := 51) rfl rfl, tW_c1 (j := 3) rfl rfl, tW_c4 (j := 52) rfl rfl⟩, ⟨by decide, by decide, by decide +kernel⟩, by decide, rfl⟩
theorem fa_1_24 : FA RC1 24 1 2 none := ⟨RC1, TC1, 3, rfl, iC1, by decide, by decide, tW_c2 (j := 27) rfl rfl, by decide⟩
theorem fv_1_25 : FV RC1 25 m9_burningOnAll 9 2 := ⟨⟨tW_c4 (j := 112) rfl rfl, tW_c4 (j := 63) rfl rfl, tW_c4 (j := 64) rfl rfl, tW_c1 (j := 3) rfl rfl, tW_c4 (j := 65) rfl rfl⟩, ⟨by decide, by decide, by decide +kernel⟩, by decide, rfl⟩
theorem fv_1_29 : FV RC1 29 m1_setBetween 1 3 := ⟨⟨tW_c4 (j := 113) rfl rfl, tW_c4 (j := 115) rfl rfl, tW_at (i := 29) (by decide +kernel) rfl, tW_c1 (j := 7) rfl rfl, tW_c4 (j := 116) rfl rfl⟩, ⟨by decide, by decide, by decide +kernel⟩, by decide, rfl⟩
theorem fa_1_18 : FA RC1 18 9 0 none := ⟨RC9, TC9, 9, rfl, iC9, by decide, by decide, tW_c1 (j := 45) rfl rfl, by decide⟩
theorem fp_1_24 : FP RC1 24 1 2 .int := ⟨RC1, TC1, 3, yC1, rfl, iC1, yC1_ok, nC1, by decide, by decide, tW_c2 (j := 27) rfl rfl, by decide, rfl, by decide +kernel⟩
theorem fv_9_85 : FV RC9 85 m9_heat 9 1 := ⟨⟨tW_c3 (j := 181) rfl rfl, tW_c3 (j := 182) rfl rfl, tW_c3 (j := 183) rfl rfl, tW_c1 (j := 3) rfl rfl, tW_c3 (j := 184) rfl rfl⟩, ⟨by decide, by decide, by decide +kernel⟩, by decide, rfl⟩
theorem fv_9_91 : FV RC9 91 m9_burning 9 3 := ⟨⟨tW_c4 (j := 44) rfl rfl, tW_c3 (j := 176) rfl rfl, tW_c3 (j := 177) rfl rfl, tW_c1 (j := 3) rfl rfl, tW_c3 (j := 178) rfl rfl⟩, ⟨by decide, by decide, by decide +kernel⟩, by decide, rfl⟩
theorem fv_1_33 : FV RC1 33 m9_hottestBetween 9 2 := ⟨⟨tW_c5 (j := 67) rfl rfl, tW_c4 (j := 41) rfl rfl, tW_c4 (j := 42) rfl rfl, tW_c1 (j := 3) rfl rfl, tW_c4 (j := 43) rfl rfl⟩, ⟨by decide, by decide, by decide +kernel⟩, by decide, rfl⟩
theorem fv_1_36 : FV RC1 36 m9_burning 9 3 := ⟨⟨tW_c5 (j := 68) rfl rfl, tW_c3 (j := 176) rfl rfl, tW_c3 (j := 177) rfl rfl, tW_c1 (j := 3) rfl rfl, tW_c3 (j := 178) rfl rfl⟩, ⟨by decide, by decide, by decide +kernel⟩, by decide, rfl⟩
theorem fa_1_9 : FA RC1 9 1 0 (some 1) := ⟨RC1, TC1, 3, rfl, iC1, by decide, by decide, tW_c2 (j := 24) rfl rfl, by decide⟩
theorem fv_1_46 : FV RC1 46 m1_marryKeenest 1 0 := ⟨⟨tW_c4 (j := 131) rfl rfl, tW_c4 (j := 133) rfl rfl, tW_at (i := 31) (by decide +kernel) rfl, tW_c1 (j := 7) rfl rfl, tW_c4 (j := 134) rfl rfl⟩, ⟨by decide, by decide, by decide +kernel⟩, by decide, rfl⟩
theorem fs_1_40 : FS RC1 40 m12_fill 2 := ⟨⟨tW_c4 (j := 130) rfl rfl, tW_c2 (j := 195) rfl rfl, tW_c1 (j := 15) rfl rfl, tW_c2 (j := 196) rfl rfl⟩, ⟨by decide, by decide, by decide +kernel⟩, by decide⟩
theorem fv_1_50 : FV RC1 50 m1_mostFrom 1 2 := ⟨⟨tW_c4 (j := 121) rfl rfl, tW_c4 (j := 123) rfl rfl, tW_at (i := 30) (by decide +kernel) rfl, tW_c1 (j := 7) rfl rfl, tW_c4 (j := 124) rfl rfl⟩, ⟨by decide, by decide, by decide +kernel⟩, by decide, rfl⟩
theorem fm_1_53 : FM RC1 53 Lib.Math.max.name Lib.Math.max.code 2 := ⟨tW_c4 (j := 125) rfl rfl, tW_c2 (j := 185) rfl rfl, tW_c1 (j := 13) rfl rfl, tW_c2 (j := 186) rfl rfl⟩
theorem fv_1_62 : FV RC1 62 m1_withAll 1 1 := ⟨⟨tW_c5 (j := 137) rfl rfl, tW_c5 (j := 139) rfl rfl, tW_at (i := 48) (by decide +kernel) rfl, tW_c1 (j := 7) rfl rfl, tW_c5 (j := 140) rfl rfl⟩, ⟨by decide, by decide, by decide +kernel⟩, by decide, rfl⟩
theorem fv_1_58 : FV RC1 58 m1_aheadOf 1 1 := ⟨⟨tW_c5 (j := 133) rfl rfl, tW_c5 (j := 135) rfl rfl, tW_at (i := 47) (by decide +kernel) rfl, tW_c1 (j := 7) rfl rfl, tW_c5 (j := 136) rfl rfl⟩, ⟨by decide, by decide, by decide +kernel⟩, by decide, rfl⟩
theorem fv_1_65 : FV RC1 65 m1_acrossCamps 1 1 := ⟨⟨tW_c5 (j := 73) rfl rfl, tW_c5 (j := 74) rfl rfl, tW_c5 (j := 75) rfl rfl, tW_c1 (j := 7) rfl rfl, tW_c5 (j := 76) rfl rfl⟩, ⟨by decide, by decide, by decide +kernel⟩, by decide, rfl⟩
theorem fa_6_22 : FA RC6 22 6 3 none := ⟨RC6, TC6, 4, rfl, iC6, by decide, by decide, tW_c1 (j := 113) rfl rfl, by decide⟩
theorem fa_6_9 : FA RC6 9 6 0 none := ⟨RC6, TC6, 4, rfl, iC6, by decide, by decide, tW_c1 (j := 109) rfl rfl, by decide⟩
theorem fa_6_18 : FA RC6 18 6 2 (some 1) := ⟨RC6, TC6, 4, rfl, iC6, by decide, by decide, tW_c1 (j := 111) rfl rfl, by decide⟩
theorem fa_2_27 : FA RC2 27 2 3 none := ⟨RC2, TC2, 4, rfl, iC2, by decide, by decide, tW_c2 (j := 115) rfl rfl, by decide⟩
theorem fv_2_30 : FV RC2 30 m6_cell 6 2 := ⟨⟨tW_c4 (j := 161) rfl rfl, tW_c3 (j := 198) rfl rfl, tW_c3 (j := 199) rfl rfl, tW_c1 (j := 4) rfl rfl, tW_c3 (j := 200) rfl rfl⟩, ⟨by decide, by decide, by decide +kernel⟩, by decide, rfl⟩
theorem fv_2_47 : FV RC2 47 m9_gap 9 3 := ⟨⟨tW_c4 (j := 167) rfl rfl, tW_c3 (j := 169) rfl rfl, tW_c3 (j := 170) rfl rfl, tW_c1 (j := 3) rfl rfl, tW_c3 (j := 171) rfl rfl⟩, ⟨by decide, by decide, by decide +kernel⟩, by decide, rfl⟩
theorem fm_2_51 : FM RC2 51 Lib.Math.max.name Lib.Math.max.code 2 := ⟨tW_c4 (j := 168) rfl rfl, tW_c2 (j := 185) rfl rfl, tW_c1 (j := 13) rfl rfl, tW_c2 (j := 186) rfl rfl⟩
theorem fv_2_56 : FV RC2 56 m9_heatAfter 9 2 := ⟨⟨tW_c4 (j := 169) rfl rfl, tW_c4 (j := 0) rfl rfl, tW_c4 (j := 1) rfl rfl, tW_c1 (j := 3) rfl rfl, tW_c4 (j := 2) rfl rfl⟩, ⟨by decide, by decide, by decide +kernel⟩, by decide, rfl⟩
theorem fa_2_18 : FA RC2 18 2 2 none := ⟨RC2, TC2, 4, rfl, iC2, by decide, by decide, tW_c2 (j := 114) rfl rfl, by decide⟩
theorem fa_2_9 : FA RC2 9 2 0 (some 1) := ⟨RC2, TC2, 4, rfl, iC2, by decide, by decide, tW_c2 (j := 112) rfl rfl, by decide⟩
theorem fv_2_43 : FV RC2 43 m2_isAsLogged 2 4 := ⟨⟨tW_c4 (j := 163) rfl rfl, tW_c4 (j := 165) rfl rfl, tW_at (i := 32) (by decide +kernel) rfl, tW_c1 (j := 11) rfl rfl, tW_c4 (j := 166) rfl rfl⟩, ⟨by decide, by decide, by decide +kernel⟩, by decide, rfl⟩
theorem fp_2_18 : FP RC2 18 2 2 .int := ⟨RC2, TC2, 4, yC2, rfl, iC2, yC2_ok, nC2, by decide, by decide, tW_c2 (j := 114) rfl rfl, by decide, rfl, by decide +kernel⟩
theorem fa_2_40 : FA RC2 40 9 1 none := ⟨RC9, TC9, 9, rfl, iC9, by decide, by decide, tW_c1 (j := 54) rfl rfl, by decide⟩
theorem fv_2_34 : FV RC2 34 m9_hasPerson 9 1 := ⟨⟨tW_c4 (j := 162) rfl rfl, tW_c3 (j := 145) rfl rfl, tW_c3 (j := 146) rfl rfl, tW_c1 (j := 3) rfl rfl, tW_c3 (j := 147) rfl rfl⟩, ⟨by decide, by decide, by decide +kernel⟩, by decide, rfl⟩
theorem fa_2_22 : FA RC2 22 6 3 none := ⟨RC6, TC6, 4, rfl, iC6, by decide, by decide, tW_c1 (j := 112) rfl rfl, by decide⟩
theorem fp_2_27 : FP RC2 27 2 3 .int := ⟨RC2, TC2, 4, yC2, rfl, iC2, yC2_ok, nC2, by decide, by decide, tW_c2 (j := 115) rfl rfl, by decide, rfl, by decide +kernel⟩
theorem fv_2_80 : FV RC2 80 m2_burningNext 2 4 := ⟨⟨tW_c4 (j := 187) rfl rfl, tW_c4 (j := 189) rfl rfl, tW_at (i := 36) (by decide +kernel) rfl, tW_c1 (j := 11) rfl rfl, tW_c4 (j := 190) rfl rfl⟩, ⟨by decide, by decide, by decide +kernel⟩, by decide, rfl⟩
theorem fm_2_84 : FM RC2 84 Lib.Math.min.name Lib.Math.min.code 2 := ⟨tW_c4 (j := 191) rfl rfl, tW_c2 (j := 182) rfl rfl, tW_c1 (j := 13) rfl rfl, tW_c2 (j := 183) rfl rfl⟩
theorem fa_2_15 : FA RC2 15 2 1 (some 2) := ⟨RC2, TC2, 4, rfl, iC2, by decide, by decide, tW_c2 (j := 113) rfl rfl, by decide⟩
theorem fs_2_74 : FS RC2 74 m12_fill 2 := ⟨⟨tW_c4 (j := 186) rfl rfl, tW_c2 (j := 195) rfl rfl, tW_c1 (j := 15) rfl rfl, tW_c2 (j := 196) rfl rfl⟩, ⟨by decide, by decide, by decide +kernel⟩, by decide⟩
theorem fa_2_67 : FA RC2 67 9 0 none := ⟨RC9, TC9, 9, rfl, iC9, by decide, by decide, tW_c1 (j := 50) rfl rfl, by decide⟩
theorem fv_2_70 : FV RC2 70 m2_mostAlike 2 3 := ⟨⟨tW_c4 (j := 182) rfl rfl, tW_c4 (j := 184) rfl rfl, tW_at (i := 35) (by decide +kernel) rfl, tW_c1 (j := 11) rfl rfl, tW_c4 (j := 185) rfl rfl⟩, ⟨by decide, by decide, by decide +kernel⟩, by decide, rfl⟩
theorem fv_2_59 : FV RC2 59 m2_sure 2 0 := ⟨⟨tW_c4 (j := 174) rfl rfl, tW_c4 (j := 176) rfl rfl, tW_at (i := 33) (by decide +kernel) rfl, tW_c1 (j := 11) rfl rfl, tW_c4 (j := 177) rfl rfl⟩, ⟨by decide, by decide, by decide +kernel⟩, by decide, rfl⟩
theorem fv_2_63 : FV RC2 63 m2_ask 2 1 := ⟨⟨tW_c4 (j := 178) rfl rfl, tW_c4 (j := 180) rfl rfl, tW_at (i := 34) (by decide +kernel) rfl, tW_c1 (j := 11) rfl rfl, tW_c4 (j := 181) rfl rfl⟩, ⟨by decide, by decide, by decide +kernel⟩, by decide, rfl⟩
theorem fa_3_56 : FA RC3 56 9 6 (some 3) := ⟨RC9, TC9, 9, rfl, iC9, by decide, by decide, tW_c1 (j := 73) rfl rfl, by decide⟩
theorem fa_3_59 : FA RC3 59 9 7 (some 4) := ⟨RC9, TC9, 9, rfl, iC9, by decide, by decide, tW_c1 (j := 78) rfl rfl, by decide⟩
theorem fa_3_15 : FA RC3 15 3 1 (some 2) := ⟨RC3, TC3, 2, rfl, iC3, by decide, by decide, tW_c2 (j := 76) rfl rfl, by decide⟩
theorem fa_3_62 : FA RC3 62 9 3 none := ⟨RC9, TC9, 9, rfl, iC9, by decide, by decide, tW_c1 (j := 64) rfl rfl, by decide⟩
theorem fm_3_42 : FM RC3 42 Lib.Math.max.name Lib.Math.max.code 2 := ⟨tW_c4 (j := 237) rfl rfl, tW_c2 (j := 185) rfl rfl, tW_c1 (j := 13) rfl rfl, tW_c2 (j := 186) rfl rfl⟩
theorem fa_3_9 : FA RC3 9 3 0 (some 1) := ⟨RC3, TC3, 2, rfl, iC3, by decide, by decide, tW_c2 (j := 75) rfl rfl, by decide⟩
theorem fa_9_37 : FA RC9 37 9 2 none := ⟨RC9, TC9, 9, rfl, iC9, by decide, by decide, tW_c1 (j := 59) rfl rfl, by decide⟩
theorem fc_3_50 : FC RC3 50 := ⟨tW_c5 (j := 3) rfl rfl, tW_c2 (j := 189) rfl rfl, tW_c2 (j := 188) rfl rfl, tW_c1 (j := 14) rfl rfl⟩
theorem fv_3_34 : FV RC3 34 m3_byQuarrel 3 4 := ⟨⟨tW_c4 (j := 233) rfl rfl, tW_c4 (j := 235) rfl rfl, tW_at (i := 40) (by decide +kernel) rfl, tW_c1 (j := 9) rfl rfl, tW_c4 (j := 236) rfl rfl⟩, ⟨by decide, by decide, by decide +kernel⟩, by decide, rfl⟩
theorem fv_3_38 : FV RC3 38 m3_byRest 3 3 := ⟨⟨tW_c4 (j := 238) rfl rfl, tW_c5 (j := 0) rfl rfl, tW_at (i := 41) (by decide +kernel) rfl, tW_c1 (j := 9) rfl rfl, tW_c5 (j := 1) rfl rfl⟩, ⟨by decide, by decide, by decide +kernel⟩, by decide, rfl⟩
theorem fm_3_47 : FM RC3 47 Lib.Math.min.name Lib.Math.min.code 2 := ⟨tW_c5 (j := 2) rfl rfl, tW_c2 (j := 182) rfl rfl, tW_c1 (j := 13) rfl rfl, tW_c2 (j := 183) rfl rfl⟩
theorem fv_3_30 : FV RC3 30 m9_heatAfter 9 2 := ⟨⟨tW_c4 (j := 232) rfl rfl, tW_c4 (j := 0) rfl rfl, tW_c4 (j := 1) rfl rfl, tW_c1 (j := 3) rfl rfl, tW_c4 (j := 2) rfl rfl⟩, ⟨by decide, by decide, by decide +kernel⟩, by decide, rfl⟩
theorem fv_3_18 : FV RC3 18 m9_hasHearth 9 1 := ⟨⟨tW_c4 (j := 230) rfl rfl, tW_c3 (j := 161) rfl rfl, tW_c3 (j := 162) rfl rfl, tW_c1 (j := 3) rfl rfl, tW_c3 (j := 163) rfl rfl⟩, ⟨by decide, by decide, by decide +kernel⟩, by decide, rfl⟩
theorem fs_3_24 : FS RC3 24 m12_fill 2 := ⟨⟨tW_c4 (j := 231) rfl rfl, tW_c2 (j := 195) rfl rfl, tW_c1 (j := 15) rfl rfl, tW_c2 (j := 196) rfl rfl⟩, ⟨by decide, by decide, by decide +kernel⟩, by decide⟩
theorem fa_4_27 : FA RC4 27 4 7 none := ⟨RC4, TC4, 8, rfl, iC4, by decide, by decide, tW_c2 (j := 51) rfl rfl, by decide⟩
theorem fa_4_15 : FA RC4 15 4 3 (some 2) := ⟨RC4, TC4, 8, rfl, iC4, by decide, by decide, tW_c2 (j := 47) rfl rfl, by decide⟩
theorem fa_4_18 : FA RC4 18 4 4 (some 3) := ⟨RC4, TC4, 8, rfl, iC4, by decide, by decide, tW_c2 (j := 48) rfl rfl, by decide⟩
theorem fa_4_21 : FA RC4 21 4 5 (some 4) := ⟨RC4, TC4, 8, rfl, iC4, by decide, by decide, tW_c2 (j := 49) rfl rfl, by decide⟩
theorem fp_4_27 : FP RC4 27 4 7 .int := ⟨RC4, TC4, 8, yC4, rfl, iC4, yC4_ok, nC4, by decide, by decide, tW_c2 (j := 51) rfl rfl, by decide, rfl, by decide +kernel⟩
theorem fa_4_36 : FA RC4 36 9 0 none := ⟨RC9, TC9, 9, rfl, iC9, by decide, by decide, tW_c1 (j := 47) rfl rfl, by decide⟩
theorem fv_4_39 : FV RC4 39 m9_burning 9 3 := ⟨⟨tW_c4 (j := 80) rfl rfl, tW_c3 (j := 176) rfl rfl, tW_c3 (j := 177) rfl rfl, tW_c1 (j := 3) rfl rfl, tW_c3 (j := 178) rfl rfl⟩, ⟨by decide, by decide, by decide +kernel⟩, by decide, rfl⟩
theorem fv_4_43 : FV RC4 43 m4_add 4 3 := ⟨⟨tW_c4 (j := 81) rfl rfl, tW_c4 (j := 83) rfl rfl, tW_at (i := 25) (by decide +kernel) rfl, tW_c1 (j := 8) rfl rfl, tW_c4 (j := 84) rfl rfl⟩, ⟨by decide, by decide, by decide +kernel⟩, by decide, rfl⟩
theorem fa_4_31 : FA RC4 31 9 1 none := ⟨RC9, TC9, 9, rfl, iC9, by decide, by decide, tW_c1 (j := 53) rfl rfl, by decide⟩
theorem fa_4_88 : FA RC4 88 9 6 (some 3) := ⟨RC9, TC9, 9, rfl, iC9, by decide, by decide, tW_c1 (j := 75) rfl rfl, by decide⟩
theorem fa_4_91 : FA RC4 91 9 7 (some 4) := ⟨RC9, TC9, 9, rfl, iC9, by decide, by decide, tW_c1 (j := 79) rfl rfl, by decide⟩
theorem fa_4_24 : FA RC4 24 4 6 (some 5) := ⟨RC4, TC4, 8, rfl, iC4, by decide, by decide, tW_c2 (j := 50) rfl rfl, by decide⟩
theorem fv_4_78 : FV RC4 78 m4_suits 4 4 := ⟨⟨tW_c4 (j := 94) rfl rfl, tW_c4 (j := 96) rfl rfl, tW_at (i := 27) (by decide +kernel) rfl, tW_c1 (j := 8) rfl rfl, tW_c4 (j := 97) rfl rfl⟩, ⟨by decide, by decide, by decide +kernel⟩, by decide, rfl⟩
theorem fv_4_57 : FV RC4 57 m4_leastFrom 4 3 := ⟨⟨tW_c4 (j := 86) rfl rfl, tW_c4 (j := 88) rfl rfl, tW_at (i := 26) (by decide +kernel) rfl, tW_c1 (j := 8) rfl rfl, tW_c4 (j := 89) rfl rfl⟩, ⟨by decide, by decide, by decide +kernel⟩, by decide, rfl⟩
theorem fm_4_82 : FM RC4 82 Lib.Math.min.name Lib.Math.min.code 2 := ⟨tW_c4 (j := 98) rfl rfl, tW_c2 (j := 182) rfl rfl, tW_c1 (j := 13) rfl rfl, tW_c2 (j := 183) rfl rfl⟩
theorem fv_4_70 : FV RC4 70 m9_hasHearth 9 1 := ⟨⟨tW_c4 (j := 90) rfl rfl, tW_c3 (j := 161) rfl rfl, tW_c3 (j := 162) rfl rfl, tW_c1 (j := 3) rfl rfl, tW_c3 (j := 163) rfl rfl⟩, ⟨by decide, by decide, by decide +kernel⟩, by decide, rfl⟩
theorem fs_4_74 : FS RC4 74 m4_keyOf 1 := ⟨⟨tW_c4 (j := 91) rfl rfl, tW_c4 (j := 92) rfl rfl, tW_c1 (j := 8) rfl rfl, tW_c4 (j := 93) rfl rfl⟩, ⟨by decide, by decide, by decide +kernel⟩, by decide⟩
theorem fa_4_9 : FA RC4 9 4 0 (some 1) := ⟨RC4, TC4, 8, rfl, iC4, by decide, by decide, tW_c2 (j := 41) rfl rfl, by decide⟩
theorem fa_4_64 : FA RC4 64 9 2 none := ⟨RC9, TC9, 9, rfl, iC9, by decide, by decide, tW_c1 (j := 61) rfl rfl, by decide⟩
theorem fv_4_67 : FV RC4 67 m4_chooseFirst 4 3 := ⟨⟨tW_c4 (j := 99) rfl rfl, tW_c4 (j := 101) rfl rfl, tW_at (i := 28) (by decide +kernel) rfl, tW_c1 (j := 8) rfl rfl, tW_c4 (j := 102) rfl rfl⟩, ⟨by decide, by decide, by decide +kernel⟩, by decide, rfl⟩
theorem fv_4_47 : FV RC4 47 m4_gather 4 1 := ⟨⟨tW_c4 (j := 76) rfl rfl, tW_c4 (j := 78) rfl rfl, tW_at (i := 24) (by decide +kernel) rfl, tW_c1 (j := 8) rfl rfl, tW_c4 (j := 79) rfl rfl⟩, ⟨by decide, by decide, by decide +kernel⟩, by decide, rfl⟩
theorem fs_4_51 : FS RC4 51 m12_fill 2 := ⟨⟨tW_c4 (j := 85) rfl rfl, tW_c2 (j := 195) rfl rfl, tW_c1 (j := 15) rfl rfl, tW_c2 (j := 196) rfl rfl⟩, ⟨by decide, by decide, by decide +kernel⟩, by decide⟩
theorem fp_4_61 : FP RC4 61 4 2 .int := ⟨RC4, TC4, 8, yC4, rfl, iC4, yC4_ok, nC4, by decide, by decide, tW_c2 (j := 45) rfl rfl, by decide, rfl, by decide +kernel⟩
theorem fa_4_61 : FA RC4 61 4 2 none := ⟨RC4, TC4, 8, rfl, iC4, by decide, by decide, tW_c2 (j := 45) rfl rfl, by decide⟩
theorem fp_4_94 : FP RC4 94 4 1 .int := ⟨RC4, TC4, 8, yC4, rfl, iC4, yC4_ok, nC4, by decide, by decide, tW_c2 (j := 43) rfl rfl, by decide, rfl, by decide +kernel⟩
theorem fv_4_97 : FV RC4 97 m4_fillBehind 4 2 := ⟨⟨tW_c5 (j := 55) rfl rfl, tW_c5 (j := 57) rfl rfl, tW_at (i := 43) (by decide +kernel) rfl, tW_c1 (j := 8) rfl rfl, tW_c5 (j := 58) rfl rfl⟩, ⟨by decide, by decide, by decide +kernel⟩, by decide, rfl⟩
theorem fa_5_60 : FA RC5 60 5 3 none := ⟨RC5, TC5, 13, rfl, iC5, by decide, by decide, tW_c1 (j := 173) rfl rfl, by decide⟩
theorem fp_5_60 : FP RC5 60 5 3 .int := ⟨RC5, TC5, 13, yC5, rfl, iC5, yC5_ok, nC5, by decide, by decide, tW_c1 (j := 173) rfl rfl, by decide, rfl, by decide +kernel⟩
theorem fp_5_63 : FP RC5 63 5 4 .int := ⟨RC5, TC5, 13, yC5, rfl, iC5, yC5_ok, nC5, by decide, by decide, tW_c1 (j := 175) rfl rfl, by decide, rfl, by decide +kernel⟩
theorem fa_5_108 : FA RC5 108 5 9 none := ⟨RC5, TC5, 13, rfl, iC5, by decide, by decide, tW_c1 (j := 181) rfl rfl, by decide⟩
theorem fa_6_15 : FA RC6 15 6 1 none := ⟨RC6, TC6, 4, rfl, iC6, by decide, by decide, tW_c1 (j := 110) rfl rfl, by decide⟩
theorem fa_5_12 : FA RC5 12 5 0 (some 1) := ⟨RC5, TC5, 13, rfl, iC5, by decide, by decide, tW_c1 (j := 167) rfl rfl, by decide⟩
theorem fa_5_91 : FA RC5 91 9 1 none := ⟨RC9, TC9, 9, rfl, iC9, by decide, by decide, tW_c1 (j := 55) rfl rfl, by decide⟩
theorem fa_5_156 : FA RC5 156 9 2 none := ⟨RC9, TC9, 9, rfl, iC9, by decide, by decide, tW_c1 (j := 62) rfl rfl, by decide⟩
theorem fa_5_27 : FA RC5 27 5 2 (some 9) := ⟨RC5, TC5, 13, rfl, iC5, by decide, by decide, tW_c1 (j := 171) rfl rfl, by decide⟩
theorem fv_5_159 : FV RC5 159 m6_isFull 6 0 := ⟨⟨tW_c3 (j := 54) rfl rfl, tW_c3 (j := 55) rfl rfl, tW_c3 (j := 56) rfl rfl, tW_c1 (j := 4) rfl rfl, tW_c3 (j := 57) rfl rfl⟩, ⟨by decide, by decide, by decide +kernel⟩, by decide, rfl⟩
theorem fa_5_23 : FA RC5 23 5 1 (some 7) := ⟨RC5, TC5, 13, rfl, iC5, by decide, by decide, tW_c1 (j := 169) rfl rfl, by decide⟩
theorem fx_5_211 : Cond.methodLink RC5 211 ⟨"java/lang/String", "length", "()I"⟩ ∈ tW := tW_c2 (j := 224) rfl rfl
theorem fa_5_30 : FA RC5 30 5 5 (some 11) := ⟨RC5, TC5, 13, rfl, iC5, by decide, by decide, tW_c1 (j := 177) rfl rfl, by decide⟩
theorem fx_5_216 : Cond.methodLink RC5 216 ⟨"java/lang/String", "charAt", "(I)C"⟩ ∈ tW := tW_c2 (j := 234) rfl rfl
theorem fa_5_57 : FA RC5 57 5 10 none := ⟨RC5, TC5, 13, rfl, iC5, by decide, by decide, tW_c1 (j := 182) rfl rfl, by decide⟩
theorem fv_5_133 : FV RC5 133 m5_isWord 5 1 := ⟨⟨tW_c2 (j := 220) rfl rfl, tW_c2 (j := 222) rfl rfl, tW_at (i := 4) (by decide +kernel) rfl, tW_c1 (j := 5) rfl rfl, tW_c2 (j := 223) rfl rfl⟩, ⟨by decide, by decide, by decide +kernel⟩, by decide, rfl⟩
theorem fv_5_128 : FV RC5 128 m5_dayLine 5 0 := ⟨⟨tW_c3 (j := 36) rfl rfl, tW_c3 (j := 38) rfl rfl, tW_at (i := 5) (by decide +kernel) rfl, tW_c1 (j := 5) rfl rfl, tW_c3 (j := 39) rfl rfl⟩, ⟨by decide, by decide, by decide +kernel⟩, by decide, rfl⟩
theorem fv_5_125 : FV RC5 125 m5_villageLine 5 0 := ⟨⟨tW_c2 (j := 215) rfl rfl, tW_c2 (j := 217) rfl rfl, tW_at (i := 3) (by decide +kernel) rfl, tW_c1 (j := 5) rfl rfl, tW_c2 (j := 218) rfl rfl⟩, ⟨by decide, by decide, by decide +kernel⟩, by decide, rfl⟩
theorem fa_5_34 : FA RC5 34 5 6 (some 12) := ⟨RC5, TC5, 13, rfl, iC5, by decide, by decide, tW_c1 (j := 178) rfl rfl, by decide⟩
theorem ks_5_163 : Cond.fieldLink RC5 163 "QuarrelOvens$Reader" (stN 1) "[I" ∈ tW := tW_c3 (j := 72) rfl rfl
theorem ks_5_166 : Cond.fieldLink RC5 166 "QuarrelOvens$Reader" (stN 2) "[I" ∈ tW := tW_c3 (j := 74) rfl rfl
theorem fp_5_108 : FP RC5 108 5 9 .int := ⟨RC5, TC5, 13, yC5, rfl, iC5, yC5_ok, nC5, by decide, by decide, tW_c1 (j := 181) rfl rfl, by decide, rfl, by decide +kernel⟩
theorem fp_5_81 : FP RC5 81 5 8 .int := ⟨RC5, TC5, 13, yC5, rfl, iC5, yC5_ok, nC5, by decide, by decide, tW_c1 (j := 180) rfl rfl, by decide, rfl, by decide +kernel⟩
theorem fa_5_47 : FA RC5 47 5 7 none := ⟨RC5, TC5, 13, rfl, iC5, by decide, by decide, tW_c1 (j := 179) rfl rfl, by decide⟩
theorem fs_5_205 : FS RC5 205 m5_isLetter 1 := ⟨⟨tW_c2 (j := 201) rfl rfl, tW_c2 (j := 202) rfl rfl, tW_c1 (j := 5) rfl rfl, tW_c2 (j := 203) rfl rfl⟩, ⟨by decide, by decide, by decide +kernel⟩, by decide⟩
theorem fp_5_57 : FP RC5 57 5 10 .int := ⟨RC5, TC5, 13, yC5, rfl, iC5, yC5_ok, nC5, by decide, by decide, tW_c1 (j := 182) rfl rfl, by decide, rfl, by decide +kernel⟩
theorem fs_5_208 : FS RC5 208 m5_isDigit 1 := ⟨⟨tW_c2 (j := 204) rfl rfl, tW_c2 (j := 205) rfl rfl, tW_c1 (j := 5) rfl rfl, tW_c2 (j := 206) rfl rfl⟩, ⟨by decide, by decide, by decide +kernel⟩, by decide⟩
theorem fv_6_35 : FV RC6 35 m6_isFull 6 0 := ⟨⟨tW_c3 (j := 100) rfl rfl, tW_c3 (j := 55) rfl rfl, tW_c3 (j := 56) rfl rfl, tW_c1 (j := 4) rfl rfl, tW_c3 (j := 57) rfl rfl⟩, ⟨by decide, by decide, by decide +kernel⟩, by decide, rfl⟩
theorem fp_6_22 : FP RC6 22 6 3 .int := ⟨RC6, TC6, 4, yC6, rfl, iC6, yC6_ok, nC6, by decide, by decide, tW_c1 (j := 113) rfl rfl, by decide, rfl, by decide +kernel⟩
theorem fv_5_202 : FV RC5 202 m6_setLast 6 2 := ⟨⟨tW_c3 (j := 101) rfl rfl, tW_c3 (j := 102) rfl rfl, tW_c3 (j := 103) rfl rfl, tW_c1 (j := 4) rfl rfl, tW_c3 (j := 104) rfl rfl⟩, ⟨by decide, by decide, by decide +kernel⟩, by decide, rfl⟩
theorem ks_5_111 : Cond.fieldLink RC5 111 "QuarrelOvens$Reader" (stN 0) "[I" ∈ tW := tW_c3 (j := 62) rfl rfl
theorem fv_5_199 : FV RC5 199 m6_addRow 6 0 := ⟨⟨tW_c3 (j := 96) rfl rfl, tW_c3 (j := 97) rfl rfl, tW_c3 (j := 98) rfl rfl, tW_c1 (j := 4) rfl rfl, tW_c3 (j := 99) rfl rfl⟩, ⟨by decide, by decide, by decide +kernel⟩, by decide, rfl⟩
theorem fa_5_193 : FA RC5 193 9 6 (some 3) := ⟨RC9, TC9, 9, rfl, iC9, by decide, by decide, tW_c1 (j := 76) rfl rfl, by decide⟩
theorem fa_5_196 : FA RC5 196 9 7 (some 4) := ⟨RC9, TC9, 9, rfl, iC9, by decide, by decide, tW_c1 (j := 81) rfl rfl, by decide⟩
theorem fp_5_156 : FP RC5 156 9 2 .int := ⟨RC9, TC9, 9, yC9, rfl, iC9, yC9_ok, nC9, by decide, by decide, tW_c1 (j := 62) rfl rfl, by decide, rfl, by decide +kernel⟩
theorem fa_5_187 : FA RC5 187 9 4 (some 1) := ⟨RC9, TC9, 9, rfl, iC9, by decide, by decide, tW_c1 (j := 69) rfl rfl, by decide⟩
theorem fa_5_190 : FA RC5 190 9 5 (some 2) := ⟨RC9, TC9, 9, rfl, iC9, by decide, by decide, tW_c1 (j := 71) rfl rfl, by decide⟩
theorem fp_5_91 : FP RC5 91 9 1 .int := ⟨RC9, TC9, 9, yC9, rfl, iC9, yC9_ok, nC9, by decide, by decide, tW_c1 (j := 55) rfl rfl, by decide, rfl, by decide +kernel⟩
theorem fp_5_88 : FP RC5 88 9 0 .int := ⟨RC9, TC9, 9, yC9, rfl, iC9, yC9_ok, nC9, by decide, by decide, tW_c1 (j := 48) rfl rfl, by decide, rfl, by decide +kernel⟩
theorem fp_5_169 : FP RC5 169 9 3 .int := ⟨RC9, TC9, 9, yC9, rfl, iC9, yC9_ok, nC9, by decide, by decide, tW_c1 (j := 65) rfl rfl, by decide, rfl, by decide +kernel⟩
theorem fv_5_171 : FV RC5 171 m5_takeSubject 5 0 := ⟨⟨tW_c3 (j := 80) rfl rfl, tW_c3 (j := 82) rfl rfl, tW_at (i := 12) (by decide +kernel) rfl, tW_c1 (j := 5) rfl rfl, tW_c3 (j := 83) rfl rfl⟩, ⟨by decide, by decide, by decide +kernel⟩, by decide, rfl⟩
theorem fv_5_174 : FV RC5 174 m5_takeHearth 5 0 := ⟨⟨tW_c3 (j := 84) rfl rfl, tW_c3 (j := 86) rfl rfl, tW_at (i := 13) (by decide +kernel) rfl, tW_c1 (j := 5) rfl rfl, tW_c3 (j := 87) rfl rfl⟩, ⟨by decide, by decide, by decide +kernel⟩, by decide, rfl⟩
theorem fv_5_177 : FV RC5 177 m9_hold 9 3 := ⟨⟨tW_c3 (j := 88) rfl rfl, tW_c3 (j := 89) rfl rfl, tW_c3 (j := 90) rfl rfl, tW_c1 (j := 3) rfl rfl, tW_c3 (j := 91) rfl rfl⟩, ⟨by decide, by decide, by decide +kernel⟩, by decide, rfl⟩
theorem fa_5_66 : FA RC5 66 5 11 none := ⟨RC5, TC5, 13, rfl, iC5, by decide, by decide, tW_c1 (j := 183) rfl rfl, by decide⟩
theorem fm_5_44 : FM RC5 44 Lib.Math.max.name Lib.Math.max.code 2 := ⟨tW_c2 (j := 184) rfl rfl, tW_c2 (j := 185) rfl rfl, tW_c1 (j := 13) rfl rfl, tW_c2 (j := 186) rfl rfl⟩
theorem fp_5_66 : FP RC5 66 5 11 .int := ⟨RC5, TC5, 13, yC5, rfl, iC5, yC5_ok, nC5, by decide, by decide, tW_c1 (j := 183) rfl rfl, by decide, rfl, by decide +kernel⟩
theorem fa_5_69 : FA RC5 69 5 12 none := ⟨RC5, TC5, 13, rfl, iC5, by decide, by decide, tW_c1 (j := 184) rfl rfl, by decide⟩
theorem fp_5_69 : FP RC5 69 5 12 .int := ⟨RC5, TC5, 13, yC5, rfl, iC5, yC5_ok, nC5, by decide, by decide, tW_c1 (j := 184) rfl rfl, by decide, rfl, by decide +kernel⟩
theorem fv_5_181 : FV RC5 181 m5_takeFact 5 0 := ⟨⟨tW_c3 (j := 92) rfl rfl, tW_c3 (j := 94) rfl rfl, tW_at (i := 14) (by decide +kernel) rfl, tW_c1 (j := 5) rfl rfl, tW_c3 (j := 95) rfl rfl⟩, ⟨by decide, by decide, by decide +kernel⟩, by decide, rfl⟩
theorem fv_5_184 : FV RC5 184 m5_takeDeed 5 1 := ⟨⟨tW_c3 (j := 105) rfl rfl, tW_c3 (j := 107) rfl rfl, tW_at (i := 15) (by decide +kernel) rfl, tW_c1 (j := 5) rfl rfl, tW_c3 (j := 108) rfl rfl⟩, ⟨by decide, by decide, by decide +kernel⟩, by decide, rfl⟩
theorem fv_5_78 : FV RC5 78 m5_step 5 0 := ⟨⟨tW_c2 (j := 197) rfl rfl, tW_c2 (j := 199) rfl rfl, tW_at (i := 0) (by decide +kernel) rfl, tW_c1 (j := 5) rfl rfl, tW_c2 (j := 200) rfl rfl⟩, ⟨by decide, by decide, by decide +kernel⟩, by decide, rfl⟩
theorem fa_5_81 : FA RC5 81 5 8 none := ⟨RC5, TC5, 13, rfl, iC5, by decide, by decide, tW_c1 (j := 180) rfl rfl, by decide⟩
theorem fv_5_122 : FV RC5 122 m5_take 5 1 := ⟨⟨tW_c3 (j := 76) rfl rfl, tW_c3 (j := 78) rfl rfl, tW_at (i := 11) (by decide +kernel) rfl, tW_c1 (j := 5) rfl rfl, tW_c3 (j := 79) rfl rfl⟩, ⟨by decide, by decide, by decide +kernel⟩, by decide, rfl⟩
theorem fv_5_101 : FV RC5 101 m5_breakOff 5 0 := ⟨⟨tW_c3 (j := 46) rfl rfl, tW_c3 (j := 48) rfl rfl, tW_at (i := 6) (by decide +kernel) rfl, tW_c1 (j := 5) rfl rfl, tW_c3 (j := 49) rfl rfl⟩, ⟨by decide, by decide, by decide +kernel⟩, by decide, rfl⟩
theorem fv_5_114 : FV RC5 114 m5_numberHere 5 0 := ⟨⟨tW_c3 (j := 64) rfl rfl, tW_c3 (j := 66) rfl rfl, tW_at (i := 9) (by decide +kernel) rfl, tW_c1 (j := 5) rfl rfl, tW_c3 (j := 67) rfl rfl⟩, ⟨by decide, by decide, by decide +kernel⟩, by decide, rfl⟩
theorem fv_5_118 : FV RC5 118 m5_mayBe 5 2 := ⟨⟨tW_c3 (j := 68) rfl rfl, tW_c3 (j := 70) rfl rfl, tW_at (i := 10) (by decide +kernel) rfl, tW_c1 (j := 5) rfl rfl, tW_c3 (j := 71) rfl rfl⟩, ⟨by decide, by decide, by decide +kernel⟩, by decide, rfl⟩
theorem fv_5_94 : FV RC5 94 m5_note 5 2 := ⟨⟨tW_c3 (j := 58) rfl rfl, tW_c3 (j := 60) rfl rfl, tW_at (i := 8) (by decide +kernel) rfl, tW_c1 (j := 5) rfl rfl, tW_c3 (j := 61) rfl rfl⟩, ⟨by decide, by decide, by decide +kernel⟩, by decide, rfl⟩
theorem fv_5_104 : FV RC5 104 m5_isOneTooMany 5 1 := ⟨⟨tW_c3 (j := 50) rfl rfl, tW_c3 (j := 52) rfl rfl, tW_at (i := 7) (by decide +kernel) rfl, tW_c1 (j := 5) rfl rfl, tW_c3 (j := 53) rfl rfl⟩, ⟨by decide, by decide, by decide +kernel⟩, by decide, rfl⟩
theorem fv_5_97 : FV RC5 97 m5_lineOf 5 1 := ⟨⟨tW_c2 (j := 211) rfl rfl, tW_c2 (j := 213) rfl rfl, tW_at (i := 2) (by decide +kernel) rfl, tW_c1 (j := 5) rfl rfl, tW_c2 (j := 214) rfl rfl⟩, ⟨by decide, by decide, by decide +kernel⟩, by decide, rfl⟩
theorem fp_9_31 : FP RC9 31 9 0 .int := ⟨RC9, TC9, 9, yC9, rfl, iC9, yC9_ok, nC9, by decide, by decide, tW_c1 (j := 44) rfl rfl, by decide, rfl, by decide +kernel⟩
theorem fp_9_34 : FP RC9 34 9 1 .int := ⟨RC9, TC9, 9, yC9, rfl, iC9, yC9_ok, nC9, by decide, by decide, tW_c1 (j := 52) rfl rfl, by decide, rfl, by decide +kernel⟩
theorem fp_9_37 : FP RC9 37 9 2 .int := ⟨RC9, TC9, 9, yC9, rfl, iC9, yC9_ok, nC9, by decide, by decide, tW_c1 (j := 59) rfl rfl, by decide, rfl, by decide +kernel⟩
theorem fp_9_9 : FP RC9 9 9 3 .int := ⟨RC9, TC9, 9, yC9, rfl, iC9, yC9_ok, nC9, by decide, by decide, tW_c1 (j := 63) rfl rfl, by decide, rfl, by decide +kernel⟩
theorem fs_9_40 : FS RC9 40 m12_fill 2 := ⟨⟨tW_c2 (j := 194) rfl rfl, tW_c2 (j := 195) rfl rfl, tW_c1 (j := 15) rfl rfl, tW_c2 (j := 196) rfl rfl⟩, ⟨by decide, by decide, by decide +kernel⟩, by decide⟩
theorem fa_5_88 : FA RC5 88 9 0 none := ⟨RC9, TC9, 9, rfl, iC9, by decide, by decide, tW_c1 (j := 48) rfl rfl, by decide⟩
theorem fv_5_84 : FV RC5 84 m5_readLine 5 1 := ⟨⟨tW_c2 (j := 207) rfl rfl, tW_c2 (j := 209) rfl rfl, tW_at (i := 1) (by decide +kernel) rfl, tW_c1 (j := 5) rfl rfl, tW_c2 (j := 210) rfl rfl⟩, ⟨by decide, by decide, by decide +kernel⟩, by decide, rfl⟩
theorem fm_5_38 : FM RC5 38 Lib.Math.min.name Lib.Math.min.code 2 := ⟨tW_c2 (j := 181) rfl rfl, tW_c2 (j := 182) rfl rfl, tW_c1 (j := 13) rfl rfl, tW_c2 (j := 183) rfl rfl⟩
theorem fp_5_47 : FP RC5 47 5 7 .int := ⟨RC5, TC5, 13, yC5, rfl, iC5, yC5_ok, nC5, by decide, by decide, tW_c1 (j := 179) rfl rfl, by decide, rfl, by decide +kernel⟩
theorem fc_5_51 : FC RC5 51 := ⟨tW_c2 (j := 187) rfl rfl, tW_c2 (j := 189) rfl rfl, tW_c2 (j := 188) rfl rfl, tW_c1 (j := 14) rfl rfl⟩
theorem fv_5_72 : FV RC5 72 m9_clear 9 0 := ⟨⟨tW_c2 (j := 190) rfl rfl, tW_c2 (j := 191) rfl rfl, tW_c2 (j := 192) rfl rfl, tW_c1 (j := 3) rfl rfl, tW_c2 (j := 193) rfl rfl⟩, ⟨by decide, by decide, by decide +kernel⟩, by decide, rfl⟩
theorem fp_5_75 : FP RC5 75 6 3 .int := ⟨RC6, TC6, 4, yC6, rfl, iC6, yC6_ok, nC6, by decide, by decide, tW_c1 (j := 114) rfl rfl, by decide, rfl, by decide +kernel⟩
theorem fc_6_25 : FC RC6 25 := ⟨tW_c3 (j := 122) rfl rfl, tW_c2 (j := 189) rfl rfl, tW_c2 (j := 188) rfl rfl, tW_c1 (j := 14) rfl rfl⟩
theorem fv_6_31 : FV RC6 31 m6_cell 6 2 := ⟨⟨tW_c3 (j := 197) rfl rfl, tW_c3 (j := 198) rfl rfl, tW_c3 (j := 199) rfl rfl, tW_c1 (j := 4) rfl rfl, tW_c3 (j := 200) rfl rfl⟩, ⟨by decide, by decide, by decide +kernel⟩, by decide, rfl⟩
theorem fa_9_9 : FA RC9 9 9 3 none := ⟨RC9, TC9, 9, rfl, iC9, by decide, by decide, tW_c1 (j := 63) rfl rfl, by decide⟩
theorem fc_9_46 : FC RC9 46 := ⟨tW_c3 (j := 117) rfl rfl, tW_c2 (j := 189) rfl rfl, tW_c2 (j := 188) rfl rfl, tW_c1 (j := 14) rfl rfl⟩
theorem fa_9_22 : FA RC9 22 9 6 (some 3) := ⟨RC9, TC9, 9, rfl, iC9, by decide, by decide, tW_c1 (j := 72) rfl rfl, by decide⟩
theorem fa_9_25 : FA RC9 25 9 7 (some 4) := ⟨RC9, TC9, 9, rfl, iC9, by decide, by decide, tW_c1 (j := 77) rfl rfl, by decide⟩
theorem fa_7_12 : FA RC7 12 7 0 (some 1) := ⟨RC7, TC7, 11, rfl, iC7, by decide, by decide, tW_c1 (j := 220) rfl rfl, by decide⟩
theorem fv_7_25 : FV RC7 25 m9_copy 9 1 := ⟨⟨tW_c3 (j := 213) rfl rfl, tW_c3 (j := 114) rfl rfl, tW_c3 (j := 115) rfl rfl, tW_c1 (j := 3) rfl rfl, tW_c3 (j := 116) rfl rfl⟩, ⟨by decide, by decide, by decide +kernel⟩, by decide, rfl⟩
theorem fa_7_18 : FA RC7 18 7 1 (some 7) := ⟨RC7, TC7, 11, rfl, iC7, by decide, by decide, tW_c1 (j := 222) rfl rfl, by decide⟩
theorem fs_7_29 : FS RC7 29 m12_fill 2 := ⟨⟨tW_c3 (j := 214) rfl rfl, tW_c2 (j := 195) rfl rfl, tW_c1 (j := 15) rfl rfl, tW_c2 (j := 196) rfl rfl⟩, ⟨by decide, by decide, by decide +kernel⟩, by decide⟩
theorem fa_7_22 : FA RC7 22 7 2 (some 8) := ⟨RC7, TC7, 11, rfl, iC7, by decide, by decide, tW_c1 (j := 223) rfl rfl, by decide⟩
theorem fp_7_35 : FP RC7 35 7 3 .int := ⟨RC7, TC7, 11, yC7, rfl, iC7, yC7_ok, nC7, by decide, by decide, tW_c1 (j := 224) rfl rfl, by decide, rfl, by decide +kernel⟩
theorem fp_7_39 : FP RC7 39 7 4 .int := ⟨RC7, TC7, 11, yC7, rfl, iC7, yC7_ok, nC7, by decide, by decide, tW_c1 (j := 225) rfl rfl, by decide, rfl, by decide +kernel⟩
theorem fp_7_42 : FP RC7 42 7 5 .int := ⟨RC7, TC7, 11, yC7, rfl, iC7, yC7_ok, nC7, by decide, by decide, tW_c1 (j := 226) rfl rfl, by decide, rfl, by decide +kernel⟩
theorem fp_7_45 : FP RC7 45 7 6 .int := ⟨RC7, TC7, 11, yC7, rfl, iC7, yC7_ok, nC7, by decide, by decide, tW_c1 (j := 227) rfl rfl, by decide, rfl, by decide +kernel⟩
theorem fp_7_48 : FP RC7 48 7 7 .int := ⟨RC7, TC7, 11, yC7, rfl, iC7, yC7_ok, nC7, by decide, by decide, tW_c1 (j := 228) rfl rfl, by decide, rfl, by decide +kernel⟩
theorem fp_7_51 : FP RC7 51 7 8 .int := ⟨RC7, TC7, 11, yC7, rfl, iC7, yC7_ok, nC7, by decide, by decide, tW_c1 (j := 230) rfl rfl, by decide, rfl, by decide +kernel⟩
theorem fp_7_54 : FP RC7 54 7 9 .int := ⟨RC7, TC7, 11, yC7, rfl, iC7, yC7_ok, nC7, by decide, by decide, tW_c1 (j := 232) rfl rfl, by decide, rfl, by decide +kernel⟩
theorem fv_9_52 : FV RC9 52 m9_hasPerson 9 1 := ⟨⟨tW_c3 (j := 144) rfl rfl, tW_c3 (j := 145) rfl rfl, tW_c3 (j := 146) rfl rfl, tW_c1 (j := 3) rfl rfl, tW_c3 (j := 147) rfl rfl⟩, ⟨by decide, by decide, by decide +kernel⟩, by decide, rfl⟩
theorem fv_7_140 : FV RC7 140 m9_held 9 2 := ⟨⟨tW_c4 (j := 12) rfl rfl, tW_c3 (j := 153) rfl rfl, tW_c3 (j := 154) rfl rfl, tW_c1 (j := 3) rfl rfl, tW_c3 (j := 155) rfl rfl⟩, ⟨by decide, by decide, by decide +kernel⟩, by decide, rfl⟩
theorem fv_7_130 : FV RC7 130 m9_hasCouple 9 2 := ⟨⟨tW_c3 (j := 230) rfl rfl, tW_c3 (j := 231) rfl rfl, tW_c3 (j := 232) rfl rfl, tW_c1 (j := 3) rfl rfl, tW_c3 (j := 233) rfl rfl⟩, ⟨by decide, by decide, by decide +kernel⟩, by decide, rfl⟩
theorem fv_7_143 : FV RC7 143 m9_hold 9 3 := ⟨⟨tW_c4 (j := 13) rfl rfl, tW_c3 (j := 89) rfl rfl, tW_c3 (j := 90) rfl rfl, tW_c1 (j := 3) rfl rfl, tW_c3 (j := 91) rfl rfl⟩, ⟨by decide, by decide, by decide +kernel⟩, by decide, rfl⟩
theorem fa_7_35 : FA RC7 35 7 3 none := ⟨RC7, TC7, 11, rfl, iC7, by decide, by decide, tW_c1 (j := 224) rfl rfl, by decide⟩
theorem fa_7_147 : FA RC7 147 9 3 none := ⟨RC9, TC9, 9, rfl, iC9, by decide, by decide, tW_c1 (j := 66) rfl rfl, by decide⟩
theorem fm_7_79 : FM RC7 79 Lib.Math.max.name Lib.Math.max.code 2 := ⟨tW_c3 (j := 219) rfl rfl, tW_c2 (j := 185) rfl rfl, tW_c1 (j := 13) rfl rfl, tW_c2 (j := 186) rfl rfl⟩
theorem fv_7_136 : FV RC7 136 m9_fade 9 1 := ⟨⟨tW_c3 (j := 235) rfl rfl, tW_c3 (j := 236) rfl rfl, tW_c3 (j := 237) rfl rfl, tW_c1 (j := 3) rfl rfl, tW_c3 (j := 238) rfl rfl⟩, ⟨by decide, by decide, by decide +kernel⟩, by decide, rfl⟩
theorem fv_7_126 : FV RC7 126 m9_burning 9 3 := ⟨⟨tW_c3 (j := 229) rfl rfl, tW_c3 (j := 176) rfl rfl, tW_c3 (j := 177) rfl rfl, tW_c1 (j := 3) rfl rfl, tW_c3 (j := 178) rfl rfl⟩, ⟨by decide, by decide, by decide +kernel⟩, by decide, rfl⟩
theorem fv_7_97 : FV RC7 97 m9_hasHearth 9 1 := ⟨⟨tW_c3 (j := 234) rfl rfl, tW_c3 (j := 161) rfl rfl, tW_c3 (j := 162) rfl rfl, tW_c1 (j := 3) rfl rfl, tW_c3 (j := 163) rfl rfl⟩, ⟨by decide, by decide, by decide +kernel⟩, by decide, rfl⟩
theorem fa_7_42 : FA RC7 42 7 5 none := ⟨RC7, TC7, 11, rfl, iC7, by decide, by decide, tW_c1 (j := 226) rfl rfl, by decide⟩
theorem fa_7_39 : FA RC7 39 7 4 none := ⟨RC7, TC7, 11, rfl, iC7, by decide, by decide, tW_c1 (j := 225) rfl rfl, by decide⟩
theorem fa_7_45 : FA RC7 45 7 6 none := ⟨RC7, TC7, 11, rfl, iC7, by decide, by decide, tW_c1 (j := 227) rfl rfl, by decide⟩
theorem fa_7_133 : FA RC7 133 9 7 (some 4) := ⟨RC9, TC9, 9, rfl, iC9, by decide, by decide, tW_c1 (j := 80) rfl rfl, by decide⟩
theorem fa_7_87 : FA RC7 87 9 0 none := ⟨RC9, TC9, 9, rfl, iC9, by decide, by decide, tW_c1 (j := 49) rfl rfl, by decide⟩
theorem fa_7_104 : FA RC7 104 9 4 (some 1) := ⟨RC9, TC9, 9, rfl, iC9, by decide, by decide, tW_c1 (j := 68) rfl rfl, by decide⟩
theorem fv_7_101 : FV RC7 101 m9_hasSubject 9 1 := ⟨⟨tW_c4 (j := 18) rfl rfl, tW_c3 (j := 149) rfl rfl, tW_c3 (j := 150) rfl rfl, tW_c1 (j := 3) rfl rfl, tW_c3 (j := 151) rfl rfl⟩, ⟨by decide, by decide, by decide +kernel⟩, by decide, rfl⟩
theorem fv_9_97 : FV RC9 97 m9_hold 9 3 := ⟨⟨tW_c4 (j := 7) rfl rfl, tW_c3 (j := 89) rfl rfl, tW_c3 (j := 90) rfl rfl, tW_c1 (j := 3) rfl rfl, tW_c3 (j := 91) rfl rfl⟩, ⟨by decide, by decide, by decide +kernel⟩, by decide, rfl⟩
theorem fv_7_107 : FV RC7 107 m7_letQuarrel 7 4 := ⟨⟨tW_c3 (j := 225) rfl rfl, tW_c3 (j := 227) rfl rfl, tW_at (i := 19) (by decide +kernel) rfl, tW_c1 (j := 6) rfl rfl, tW_c3 (j := 228) rfl rfl⟩, ⟨by decide, by decide, by decide +kernel⟩, by decide, rfl⟩
theorem fv_7_111 : FV RC7 111 m9_agreeOn 9 3 := ⟨⟨tW_c4 (j := 3) rfl rfl, tW_c4 (j := 4) rfl rfl, tW_c4 (j := 5) rfl rfl, tW_c1 (j := 3) rfl rfl, tW_c4 (j := 6) rfl rfl⟩, ⟨by decide, by decide, by decide +kernel⟩, by decide, rfl⟩
theorem fv_7_115 : FV RC7 115 m7_letDeny 7 3 := ⟨⟨tW_c4 (j := 8) rfl rfl, tW_c4 (j := 10) rfl rfl, tW_at (i := 20) (by decide +kernel) rfl, tW_c1 (j := 6) rfl rfl, tW_c4 (j := 11) rfl rfl⟩, ⟨by decide, by decide, by decide +kernel⟩, by decide, rfl⟩
theorem fv_7_118 : FV RC7 118 m7_spread 7 2 := ⟨⟨tW_c4 (j := 14) rfl rfl, tW_c4 (j := 16) rfl rfl, tW_at (i := 21) (by decide +kernel) rfl, tW_c1 (j := 6) rfl rfl, tW_c4 (j := 17) rfl rfl⟩, ⟨by decide, by decide, by decide +kernel⟩, by decide, rfl⟩
theorem fv_7_122 : FV RC7 122 m7_letHourPass 7 0 := ⟨⟨tW_c4 (j := 19) rfl rfl, tW_c4 (j := 21) rfl rfl, tW_at (i := 22) (by decide +kernel) rfl, tW_c1 (j := 6) rfl rfl, tW_c4 (j := 22) rfl rfl⟩, ⟨by decide, by decide, by decide +kernel⟩, by decide, rfl⟩
theorem fa_7_76 : FA RC7 76 9 2 none := ⟨RC9, TC9, 9, rfl, iC9, by decide, by decide, tW_c1 (j := 60) rfl rfl, by decide⟩
theorem fa_7_54 : FA RC7 54 7 9 none := ⟨RC7, TC7, 11, rfl, iC7, by decide, by decide, tW_c1 (j := 232) rfl rfl, by decide⟩
theorem fa_7_48 : FA RC7 48 7 7 none := ⟨RC7, TC7, 11, rfl, iC7, by decide, by decide, tW_c1 (j := 228) rfl rfl, by decide⟩
theorem fa_7_84 : FA RC7 84 9 6 (some 3) := ⟨RC9, TC9, 9, rfl, iC9, by decide, by decide, tW_c1 (j := 74) rfl rfl, by decide⟩
theorem fv_7_60 : FV RC7 60 m7_look 7 0 := ⟨⟨tW_c3 (j := 215) rfl rfl, tW_c3 (j := 217) rfl rfl, tW_at (i := 17) (by decide +kernel) rfl, tW_c1 (j := 6) rfl rfl, tW_c3 (j := 218) rfl rfl⟩, ⟨by decide, by decide, by decide +kernel⟩, by decide, rfl⟩
theorem fa_7_63 : FA RC7 63 6 3 none := ⟨RC6, TC6, 4, rfl, iC6, by decide, by decide, tW_c1 (j := 115) rfl rfl, by decide⟩
theorem fv_7_68 : FV RC7 68 m6_cell 6 2 := ⟨⟨tW_c3 (j := 220) rfl rfl, tW_c3 (j := 198) rfl rfl, tW_c3 (j := 199) rfl rfl, tW_c1 (j := 4) rfl rfl, tW_c3 (j := 200) rfl rfl⟩, ⟨by decide, by decide, by decide +kernel⟩, by decide, rfl⟩
theorem fv_7_72 : FV RC7 72 m7_act 7 5 := ⟨⟨tW_c3 (j := 221) rfl rfl, tW_c3 (j := 223) rfl rfl, tW_at (i := 18) (by decide +kernel) rfl, tW_c1 (j := 6) rfl rfl, tW_c3 (j := 224) rfl rfl⟩, ⟨by decide, by decide, by decide +kernel⟩, by decide, rfl⟩
theorem fa_7_51 : FA RC7 51 7 8 none := ⟨RC7, TC7, 11, rfl, iC7, by decide, by decide, tW_c1 (j := 230) rfl rfl, by decide⟩
theorem fv_7_57 : FV RC7 57 m7_begin 7 1 := ⟨⟨tW_c3 (j := 209) rfl rfl, tW_c3 (j := 210) rfl rfl, tW_c3 (j := 211) rfl rfl, tW_c1 (j := 6) rfl rfl, tW_c3 (j := 212) rfl rfl⟩, ⟨by decide, by decide, by decide +kernel⟩, by decide, rfl⟩
theorem fv_7_94 : FV RC7 94 m7_answerHeat 7 1 := ⟨⟨tW_c4 (j := 32) rfl rfl, tW_c4 (j := 34) rfl rfl, tW_at (i := 23) (by decide +kernel) rfl, tW_c1 (j := 6) rfl rfl, tW_c4 (j := 35) rfl rfl⟩, ⟨by decide, by decide, by decide +kernel⟩, by decide, rfl⟩
theorem fv_7_90 : FV RC7 90 m9_answerHeld 9 1 := ⟨⟨tW_c4 (j := 31) rfl rfl, tW_c3 (j := 141) rfl rfl, tW_c3 (j := 142) rfl rfl, tW_c1 (j := 3) rfl rfl, tW_c3 (j := 143) rfl rfl⟩, ⟨by decide, by decide, by decide +kernel⟩, by decide, rfl⟩
theorem fa_7_150 : FA RC7 150 7 10 none := ⟨RC7, TC7, 11, rfl, iC7, by decide, by decide, tW_c1 (j := 234) rfl rfl, by decide⟩
theorem kc_7_165 : Cond.constant RC7 165 (Int32.ofInt 1103515245) ∈ tW := tW_c4 (j := 208) rfl rfl
theorem fp_7_150 : FP RC7 150 7 10 .int := ⟨RC7, TC7, 11, yC7, rfl, iC7, yC7_ok, nC7, by decide, by decide, tW_c1 (j := 234) rfl rfl, by decide, rfl, by decide +kernel⟩
theorem fa_7_162 : FA RC7 162 9 1 none := ⟨RC9, TC9, 9, rfl, iC9, by decide, by decide, tW_c1 (j := 57) rfl rfl, by decide⟩
theorem fv_7_156 : FV RC7 156 m7_below 7 1 := ⟨⟨tW_c4 (j := 204) rfl rfl, tW_c4 (j := 206) rfl rfl, tW_at (i := 38) (by decide +kernel) rfl, tW_c1 (j := 6) rfl rfl, tW_c4 (j := 207) rfl rfl⟩, ⟨by decide, by decide, by decide +kernel⟩, by decide, rfl⟩
theorem fv_7_159 : FV RC7 159 m7_mayDraw 7 1 := ⟨⟨tW_c4 (j := 209) rfl rfl, tW_c4 (j := 211) rfl rfl, tW_at (i := 39) (by decide +kernel) rfl, tW_c1 (j := 6) rfl rfl, tW_c4 (j := 212) rfl rfl⟩, ⟨by decide, by decide, by decide +kernel⟩, by decide, rfl⟩
theorem fv_7_153 : FV RC7 153 m7_drawDeed 7 0 := ⟨⟨tW_c4 (j := 200) rfl rfl, tW_c4 (j := 202) rfl rfl, tW_at (i := 37) (by decide +kernel) rfl, tW_c1 (j := 6) rfl rfl, tW_c4 (j := 203) rfl rfl⟩, ⟨by decide, by decide, by decide +kernel⟩, by decide, rfl⟩
theorem fv_7_166 : FV RC7 166 m9_hottestBetween 9 2 := ⟨⟨tW_c4 (j := 221) rfl rfl, tW_c4 (j := 41) rfl rfl, tW_c4 (j := 42) rfl rfl, tW_c1 (j := 3) rfl rfl, tW_c4 (j := 43) rfl rfl⟩, ⟨by decide, by decide, by decide +kernel⟩, by decide, rfl⟩
theorem fv_9_101 : FV RC9 101 m9_agreeOn 9 3 := ⟨⟨tW_c5 (j := 17) rfl rfl, tW_c4 (j := 4) rfl rfl, tW_c4 (j := 5) rfl rfl, tW_c1 (j := 3) rfl rfl, tW_c4 (j := 6) rfl rfl⟩, ⟨by decide, by decide, by decide +kernel⟩, by decide, rfl⟩
theorem fv_7_169 : FV RC7 169 m9_agreeFirst 9 1 := ⟨⟨tW_c5 (j := 13) rfl rfl, tW_c5 (j := 14) rfl rfl, tW_c5 (j := 15) rfl rfl, tW_c1 (j := 3) rfl rfl, tW_c5 (j := 16) rfl rfl⟩, ⟨by decide, by decide, by decide +kernel⟩, by decide, rfl⟩
theorem fa_8_25 : FA RC8 25 8 5 (some 3) := ⟨RC8, TC8, 8, rfl, iC8, by decide, by decide, tW_c1 (j := 136) rfl rfl, by decide⟩
theorem fv_8_54 : FV RC8 54 m9_copy 9 1 := ⟨⟨tW_c3 (j := 113) rfl rfl, tW_c3 (j := 114) rfl rfl, tW_c3 (j := 115) rfl rfl, tW_c1 (j := 3) rfl rfl, tW_c3 (j := 116) rfl rfl⟩, ⟨by decide, by decide, by decide +kernel⟩, by decide, rfl⟩
theorem fa_8_31 : FA RC8 31 8 6 (some 4) := ⟨RC8, TC8, 8, rfl, iC8, by decide, by decide, tW_c1 (j := 137) rfl rfl, by decide⟩
theorem fv_8_58 : FV RC8 58 m6_copy 6 1 := ⟨⟨tW_c3 (j := 118) rfl rfl, tW_c3 (j := 119) rfl rfl, tW_c3 (j := 120) rfl rfl, tW_c1 (j := 4) rfl rfl, tW_c3 (j := 121) rfl rfl⟩, ⟨by decide, by decide, by decide +kernel⟩, by decide, rfl⟩
theorem fa_8_35 : FA RC8 35 8 7 (some 5) := ⟨RC8, TC8, 8, rfl, iC8, by decide, by decide, tW_c1 (j := 138) rfl rfl, by decide⟩
theorem fa_8_9 : FA RC8 9 8 0 (some 1) := ⟨RC8, TC8, 8, rfl, iC8, by decide, by decide, tW_c1 (j := 126) rfl rfl, by decide⟩
theorem fc_8_42 : FC RC8 42 := ⟨tW_c5 (j := 185) rfl rfl, tW_c2 (j := 189) rfl rfl, tW_c2 (j := 188) rfl rfl, tW_c1 (j := 14) rfl rfl⟩
theorem fa_8_48 : FA RC8 48 8 1 none := ⟨RC8, TC8, 8, rfl, iC8, by decide, by decide, tW_c1 (j := 129) rfl rfl, by decide⟩
theorem fp_8_48 : FP RC8 48 8 1 .int := ⟨RC8, TC8, 8, yC8, rfl, iC8, yC8_ok, nC8, by decide, by decide, tW_c1 (j := 129) rfl rfl, by decide, rfl, by decide +kernel⟩
theorem fa_8_51 : FA RC8 51 8 2 none := ⟨RC8, TC8, 8, rfl, iC8, by decide, by decide, tW_c1 (j := 130) rfl rfl, by decide⟩
theorem fp_8_51 : FP RC8 51 8 2 .int := ⟨RC8, TC8, 8, yC8, rfl, iC8, yC8_ok, nC8, by decide, by decide, tW_c1 (j := 130) rfl rfl, by decide, rfl, by decide +kernel⟩
theorem fa_8_15 : FA RC8 15 8 3 none := ⟨RC8, TC8, 8, rfl, iC8, by decide, by decide, tW_c1 (j := 132) rfl rfl, by decide⟩
theorem fp_8_15 : FP RC8 15 8 3 .int := ⟨RC8, TC8, 8, yC8, rfl, iC8, yC8_ok, nC8, by decide, by decide, tW_c1 (j := 132) rfl rfl, by decide, rfl, by decide +kernel⟩
theorem fa_8_19 : FA RC8 19 8 4 (some 2) := ⟨RC8, TC8, 8, rfl, iC8, by decide, by decide, tW_c1 (j := 134) rfl rfl, by decide⟩
theorem fv_8_61 : FV RC8 61 m8_isThere 8 2 := ⟨⟨tW_c2 (j := 173) rfl rfl, tW_c2 (j := 174) rfl rfl, tW_c2 (j := 175) rfl rfl, tW_c1 (j := 2) rfl rfl, tW_c2 (j := 176) rfl rfl⟩, ⟨by decide, by decide, by decide +kernel⟩, by decide, rfl⟩
theorem fm_8_78 : FM RC8 78 Lib.Math.max.name Lib.Math.max.code 2 := ⟨tW_c3 (j := 123) rfl rfl, tW_c2 (j := 185) rfl rfl, tW_c1 (j := 13) rfl rfl, tW_c2 (j := 186) rfl rfl⟩
theorem fa_8_75 : FA RC8 75 5 2 (some 9) := ⟨RC5, TC5, 13, rfl, iC5, by decide, by decide, tW_c1 (j := 172) rfl rfl, by decide⟩
theorem fa_8_71 : FA RC8 71 5 1 (some 7) := ⟨RC5, TC5, 13, rfl, iC5, by decide, by decide, tW_c1 (j := 170) rfl rfl, by decide⟩
theorem fa_8_65 : FA RC8 65 5 0 (some 1) := ⟨RC5, TC5, 13, rfl, iC5, by decide, by decide, tW_c1 (j := 168) rfl rfl, by decide⟩
theorem fv_9_66 : FV RC9 66 m9_hasHearth 9 1 := ⟨⟨tW_c3 (j := 160) rfl rfl, tW_c3 (j := 161) rfl rfl, tW_c3 (j := 162) rfl rfl, tW_c1 (j := 3) rfl rfl, tW_c3 (j := 163) rfl rfl⟩, ⟨by decide, by decide, by decide +kernel⟩, by decide, rfl⟩
theorem fv_9_63 : FV RC9 63 m9_answerNumbers 9 1 := ⟨⟨tW_c3 (j := 156) rfl rfl, tW_c3 (j := 158) rfl rfl, tW_at (i := 16) (by decide +kernel) rfl, tW_c1 (j := 3) rfl rfl, tW_c3 (j := 159) rfl rfl⟩, ⟨by decide, by decide, by decide +kernel⟩, by decide, rfl⟩
theorem fv_9_59 : FV RC9 59 m9_answerHeld 9 1 := ⟨⟨tW_c3 (j := 140) rfl rfl, tW_c3 (j := 141) rfl rfl, tW_c3 (j := 142) rfl rfl, tW_c1 (j := 3) rfl rfl, tW_c3 (j := 143) rfl rfl⟩, ⟨by decide, by decide, by decide +kernel⟩, by decide, rfl⟩
theorem fv_9_105 : FV RC9 105 m9_differing 9 2 := ⟨⟨tW_c5 (j := 26) rfl rfl, tW_c5 (j := 27) rfl rfl, tW_c5 (j := 28) rfl rfl, tW_c1 (j := 3) rfl rfl, tW_c5 (j := 29) rfl rfl⟩, ⟨by decide, by decide, by decide +kernel⟩, by decide, rfl⟩
theorem fv_9_108 : FV RC9 108 m9_holdersOf 9 2 := ⟨⟨tW_c5 (j := 35) rfl rfl, tW_c5 (j := 37) rfl rfl, tW_at (i := 42) (by decide +kernel) rfl, tW_c1 (j := 3) rfl rfl, tW_c5 (j := 38) rfl rfl⟩, ⟨by decide, by decide, by decide +kernel⟩, by decide, rfl⟩
theorem fv_9_114 : FV RC9 114 m9_sameKin 9 2 := ⟨⟨tW_c5 (j := 111) rfl rfl, tW_c5 (j := 113) rfl rfl, tW_at (i := 46) (by decide +kernel) rfl, tW_c1 (j := 3) rfl rfl, tW_c5 (j := 114) rfl rfl⟩, ⟨by decide, by decide, by decide +kernel⟩, by decide, rfl⟩
theorem fv_9_111 : FV RC9 111 m9_kinFrom 9 3 := ⟨⟨tW_c5 (j := 107) rfl rfl, tW_c5 (j := 109) rfl rfl, tW_at (i := 45) (by decide +kernel) rfl, tW_c1 (j := 3) rfl rfl, tW_c5 (j := 110) rfl rfl⟩, ⟨by decide, by decide, by decide +kernel⟩, by decide, rfl⟩
theorem fa_10_10 : FA RC10 10 10 0 (some 1) := ⟨RC10, TC10, 9, rfl, iC10, by decide, by decide, tW_c2 (j := 125) rfl rfl, by decide⟩
theorem fa_10_69 : FA RC10 69 8 1 none := ⟨RC8, TC8, 8, rfl, iC8, by decide, by decide, tW_c1 (j := 128) rfl rfl, by decide⟩
theorem fv_10_73 : FV RC10 73 m8_addBytes 8 1 := ⟨⟨tW_c2 (j := 157) rfl rfl, tW_c2 (j := 158) rfl rfl, tW_c2 (j := 159) rfl rfl, tW_c1 (j := 2) rfl rfl, tW_c2 (j := 160) rfl rfl⟩, ⟨by decide, by decide, by decide +kernel⟩, by decide, rfl⟩
theorem fp_10_69 : FP RC10 69 8 1 .int := ⟨RC8, TC8, 8, yC8, rfl, iC8, yC8_ok, nC8, by decide, by decide, tW_c1 (j := 128) rfl rfl, by decide, rfl, by decide +kernel⟩
theorem fp_10_77 : FP RC10 77 8 2 .int := ⟨RC8, TC8, 8, yC8, rfl, iC8, yC8_ok, nC8, by decide, by decide, tW_c1 (j := 131) rfl rfl, by decide, rfl, by decide +kernel⟩
theorem fp_10_80 : FP RC10 80 8 3 .int := ⟨RC8, TC8, 8, yC8, rfl, iC8, yC8_ok, nC8, by decide, by decide, tW_c1 (j := 133) rfl rfl, by decide, rfl, by decide +kernel⟩
theorem fv_10_83 : FV RC10 83 m8_placeFor 8 2 := ⟨⟨tW_c2 (j := 169) rfl rfl, tW_c2 (j := 170) rfl rfl, tW_c2 (j := 171) rfl rfl, tW_c1 (j := 2) rfl rfl, tW_c2 (j := 172) rfl rfl⟩, ⟨by decide, by decide, by decide +kernel⟩, by decide, rfl⟩
theorem fa_10_23 : FA RC10 23 10 2 (some 28) := ⟨RC10, TC10, 9, rfl, iC10, by decide, by decide, tW_c2 (j := 127) rfl rfl, by decide⟩
theorem fa_10_87 : FA RC10 87 8 0 (some 1) := ⟨RC8, TC8, 8, rfl, iC8, by decide, by decide, tW_c1 (j := 127) rfl rfl, by decide⟩
theorem fv_10_91 : FV RC10 91 m5_readText 5 3 := ⟨⟨tW_c2 (j := 177) rfl rfl, tW_c2 (j := 178) rfl rfl, tW_c2 (j := 179) rfl rfl, tW_c1 (j := 5) rfl rfl, tW_c2 (j := 180) rfl rfl⟩, ⟨by decide, by decide, by decide +kernel⟩, by decide, rfl⟩
theorem fa_10_95 : FA RC10 95 5 3 none := ⟨RC5, TC5, 13, rfl, iC5, by decide, by decide, tW_c1 (j := 174) rfl rfl, by decide⟩
theorem fv_10_97 : FV RC10 97 m8_put 8 3 := ⟨⟨tW_c3 (j := 109) rfl rfl, tW_c3 (j := 110) rfl rfl, tW_c3 (j := 111) rfl rfl, tW_c1 (j := 2) rfl rfl, tW_c3 (j := 112) rfl rfl⟩, ⟨by decide, by decide, by decide +kernel⟩, by decide, rfl⟩
theorem fa_10_96 : FA RC10 96 5 4 none := ⟨RC5, TC5, 13, rfl, iC5, by decide, by decide, tW_c1 (j := 176) rfl rfl, by decide⟩
theorem fa_10_80 : FA RC10 80 8 3 none := ⟨RC8, TC8, 8, rfl, iC8, by decide, by decide, tW_c1 (j := 133) rfl rfl, by decide⟩
theorem fa_10_77 : FA RC10 77 8 2 none := ⟨RC8, TC8, 8, rfl, iC8, by decide, by decide, tW_c1 (j := 131) rfl rfl, by decide⟩
theorem fv_10_101 : FV RC10 101 m8_villageAt 8 1 := ⟨⟨tW_c3 (j := 132) rfl rfl, tW_c3 (j := 133) rfl rfl, tW_c3 (j := 134) rfl rfl, tW_c1 (j := 2) rfl rfl, tW_c3 (j := 135) rfl rfl⟩, ⟨by decide, by decide, by decide +kernel⟩, by decide, rfl⟩
theorem fv_10_105 : FV RC10 105 m9_answer 9 1 := ⟨⟨tW_c3 (j := 136) rfl rfl, tW_c3 (j := 137) rfl rfl, tW_c3 (j := 138) rfl rfl, tW_c1 (j := 3) rfl rfl, tW_c3 (j := 139) rfl rfl⟩, ⟨by decide, by decide, by decide +kernel⟩, by decide, rfl⟩
theorem fv_10_111 : FV RC10 111 m9_gap 9 3 := ⟨⟨tW_c3 (j := 168) rfl rfl, tW_c3 (j := 169) rfl rfl, tW_c3 (j := 170) rfl rfl, tW_c1 (j := 3) rfl rfl, tW_c3 (j := 171) rfl rfl⟩, ⟨by decide, by decide, by decide +kernel⟩, by decide, rfl⟩
theorem fv_10_115 : FV RC10 115 m9_burning 9 3 := ⟨⟨tW_c3 (j := 175) rfl rfl, tW_c3 (j := 176) rfl rfl, tW_c3 (j := 177) rfl rfl, tW_c1 (j := 3) rfl rfl, tW_c3 (j := 178) rfl rfl⟩, ⟨by decide, by decide, by decide +kernel⟩, by decide, rfl⟩
theorem fv_10_118 : FV RC10 118 m8_dayAt 8 1 := ⟨⟨tW_c3 (j := 189) rfl rfl, tW_c3 (j := 190) rfl rfl, tW_c3 (j := 191) rfl rfl, tW_c1 (j := 2) rfl rfl, tW_c3 (j := 192) rfl rfl⟩, ⟨by decide, by decide, by decide +kernel⟩, by decide, rfl⟩
theorem fv_10_122 : FV RC10 122 m6_answer 6 2 := ⟨⟨tW_c3 (j := 193) rfl rfl, tW_c3 (j := 194) rfl rfl, tW_c3 (j := 195) rfl rfl, tW_c1 (j := 4) rfl rfl, tW_c3 (j := 196) rfl rfl⟩, ⟨by decide, by decide, by decide +kernel⟩, by decide, rfl⟩
theorem fa_10_30 : FA RC10 30 10 3 (some 41) := ⟨RC10, TC10, 9, rfl, iC10, by decide, by decide, tW_c2 (j := 128) rfl rfl, by decide⟩
theorem fv_10_126 : FV RC10 126 m7_play 7 3 := ⟨⟨tW_c3 (j := 205) rfl rfl, tW_c3 (j := 206) rfl rfl, tW_c3 (j := 207) rfl rfl, tW_c1 (j := 6) rfl rfl, tW_c3 (j := 208) rfl rfl⟩, ⟨by decide, by decide, by decide +kernel⟩, by decide, rfl⟩
theorem fa_10_130 : FA RC10 130 6 3 none := ⟨RC6, TC6, 4, rfl, iC6, by decide, by decide, tW_c1 (j := 116) rfl rfl, by decide⟩
theorem fv_10_133 : FV RC10 133 m7_answer 7 1 := ⟨⟨tW_c4 (j := 27) rfl rfl, tW_c4 (j := 28) rfl rfl, tW_c4 (j := 29) rfl rfl, tW_c1 (j := 6) rfl rfl, tW_c4 (j := 30) rfl rfl⟩, ⟨by decide, by decide, by decide +kernel⟩, by decide, rfl⟩
theorem fv_10_134 : FV RC10 134 m9_hottestBetween 9 2 := ⟨⟨tW_c4 (j := 40) rfl rfl, tW_c4 (j := 41) rfl rfl, tW_c4 (j := 42) rfl rfl, tW_c1 (j := 3) rfl rfl, tW_c4 (j := 43) rfl rfl⟩, ⟨by decide, by decide, by decide +kernel⟩, by decide, rfl⟩
theorem fv_10_140 : FV RC10 140 m9_quarrelsInAll 9 3 := ⟨⟨tW_c4 (j := 53) rfl rfl, tW_c4 (j := 54) rfl rfl, tW_c4 (j := 55) rfl rfl, tW_c1 (j := 3) rfl rfl, tW_c4 (j := 56) rfl rfl⟩, ⟨by decide, by decide, by decide +kernel⟩, by decide, rfl⟩
theorem fv_10_137 : FV RC10 137 m9_burningInAll 9 3 := ⟨⟨tW_c4 (j := 49) rfl rfl, tW_c4 (j := 50) rfl rfl, tW_c4 (j := 51) rfl rfl, tW_c1 (j := 3) rfl rfl, tW_c4 (j := 52) rfl rfl⟩, ⟨by decide, by decide, by decide +kernel⟩, by decide, rfl⟩
theorem fv_10_143 : FV RC10 143 m9_hasCouple 9 2 := ⟨⟨tW_c4 (j := 61) rfl rfl, tW_c3 (j := 231) rfl rfl, tW_c3 (j := 232) rfl rfl, tW_c1 (j := 3) rfl rfl, tW_c3 (j := 233) rfl rfl⟩, ⟨by decide, by decide, by decide +kernel⟩, by decide, rfl⟩
theorem fv_10_147 : FV RC10 147 m9_burningOnAll 9 2 := ⟨⟨tW_c4 (j := 62) rfl rfl, tW_c4 (j := 63) rfl rfl, tW_c4 (j := 64) rfl rfl, tW_c1 (j := 3) rfl rfl, tW_c4 (j := 65) rfl rfl⟩, ⟨by decide, by decide, by decide +kernel⟩, by decide, rfl⟩
theorem fa_10_44 : FA RC10 44 10 5 (some 53) := ⟨RC10, TC10, 9, rfl, iC10, by decide, by decide, tW_c2 (j := 130) rfl rfl, by decide⟩
theorem fv_10_154 : FV RC10 154 m4_arrange 4 1 := ⟨⟨tW_c4 (j := 72) rfl rfl, tW_c4 (j := 73) rfl rfl, tW_c4 (j := 74) rfl rfl, tW_c1 (j := 8) rfl rfl, tW_c4 (j := 75) rfl rfl⟩, ⟨by decide, by decide, by decide +kernel⟩, by decide, rfl⟩
theorem fa_10_161 : FA RC10 161 4 0 (some 1) := ⟨RC4, TC4, 8, rfl, iC4, by decide, by decide, tW_c2 (j := 42) rfl rfl, by decide⟩
theorem fa_10_158 : FA RC10 158 4 2 none := ⟨RC4, TC4, 8, rfl, iC4, by decide, by decide, tW_c2 (j := 46) rfl rfl, by decide⟩
theorem fv_10_150 : FV RC10 150 m9_hasHearth 9 1 := ⟨⟨tW_c4 (j := 71) rfl rfl, tW_c3 (j := 161) rfl rfl, tW_c3 (j := 162) rfl rfl, tW_c1 (j := 3) rfl rfl, tW_c3 (j := 163) rfl rfl⟩, ⟨by decide, by decide, by decide +kernel⟩, by decide, rfl⟩
theorem fa_10_37 : FA RC10 37 10 4 (some 50) := ⟨RC10, TC10, 9, rfl, iC10, by decide, by decide, tW_c2 (j := 129) rfl rfl, by decide⟩
theorem fv_10_168 : FV RC10 168 m1_gatherTogether 1 1 := ⟨⟨tW_c4 (j := 108) rfl rfl, tW_c4 (j := 109) rfl rfl, tW_c4 (j := 110) rfl rfl, tW_c1 (j := 7) rfl rfl, tW_c4 (j := 111) rfl rfl⟩, ⟨by decide, by decide, by decide +kernel⟩, by decide, rfl⟩
theorem fv_10_176 : FV RC10 176 m1_marry 1 0 := ⟨⟨tW_c4 (j := 126) rfl rfl, tW_c4 (j := 127) rfl rfl, tW_c4 (j := 128) rfl rfl, tW_c1 (j := 7) rfl rfl, tW_c4 (j := 129) rfl rfl⟩, ⟨by decide, by decide, by decide +kernel⟩, by decide, rfl⟩
theorem fa_10_179 : FA RC10 179 1 0 (some 1) := ⟨RC1, TC1, 3, rfl, iC1, by decide, by decide, tW_c2 (j := 25) rfl rfl, by decide⟩
theorem fv_10_172 : FV RC10 172 m1_mostInAll 1 0 := ⟨⟨tW_c4 (j := 117) rfl rfl, tW_c4 (j := 118) rfl rfl, tW_c4 (j := 119) rfl rfl, tW_c1 (j := 7) rfl rfl, tW_c4 (j := 120) rfl rfl⟩, ⟨by decide, by decide, by decide +kernel⟩, by decide, rfl⟩
theorem fv_10_165 : FV RC10 165 m9_hasPerson 9 1 := ⟨⟨tW_c4 (j := 107) rfl rfl, tW_c3 (j := 145) rfl rfl, tW_c3 (j := 146) rfl rfl, tW_c1 (j := 3) rfl rfl, tW_c3 (j := 147) rfl rfl⟩, ⟨by decide, by decide, by decide +kernel⟩, by decide, rfl⟩
theorem kl_10_182 : Cond.constantLong RC10 182 (Int64.ofInt (-1)) ∈ tW := tW_c4 (j := 139) rfl rfl
theorem fs_10_189 : FS RC10 189 m10_lowest 3 := ⟨⟨tW_c4 (j := 142) rfl rfl, tW_c4 (j := 143) rfl rfl, tW_c1 (j := 1) rfl rfl, tW_c4 (j := 144) rfl rfl⟩, ⟨by decide, by decide, by decide +kernel⟩, by decide⟩
theorem fv_10_184 : FV RC10 184 m9_heatAfter 9 2 := ⟨⟨tW_c4 (j := 140) rfl rfl, tW_c4 (j := 0) rfl rfl, tW_c4 (j := 1) rfl rfl, tW_c1 (j := 3) rfl rfl, tW_c4 (j := 2) rfl rfl⟩, ⟨by decide, by decide, by decide +kernel⟩, by decide, rfl⟩
theorem kl_10_187 : Cond.constantLong RC10 187 (Int64.ofInt 10) ∈ tW := tW_c4 (j := 141) rfl rfl
theorem fv_10_193 : FV RC10 193 m8_logAt 8 1 := ⟨⟨tW_c4 (j := 149) rfl rfl, tW_c4 (j := 150) rfl rfl, tW_c4 (j := 151) rfl rfl, tW_c1 (j := 2) rfl rfl, tW_c4 (j := 152) rfl rfl⟩, ⟨by decide, by decide, by decide +kernel⟩, by decide, rfl⟩
theorem fa_10_65 : FA RC10 65 10 8 (some 66) := ⟨RC10, TC10, 9, rfl, iC10, by decide, by decide, tW_c2 (j := 133) rfl rfl, by decide⟩
theorem fv_10_196 : FV RC10 196 m2_gather 2 2 := ⟨⟨tW_c4 (j := 157) rfl rfl, tW_c4 (j := 158) rfl rfl, tW_c4 (j := 159) rfl rfl, tW_c1 (j := 11) rfl rfl, tW_c4 (j := 160) rfl rfl⟩, ⟨by decide, by decide, by decide +kernel⟩, by decide, rfl⟩
theorem fv_10_200 : FV RC10 200 m2_answer 2 2 := ⟨⟨tW_c4 (j := 170) rfl rfl, tW_c4 (j := 171) rfl rfl, tW_c4 (j := 172) rfl rfl, tW_c1 (j := 11) rfl rfl, tW_c4 (j := 173) rfl rfl⟩, ⟨by decide, by decide, by decide +kernel⟩, by decide, rfl⟩
theorem fv_10_203 : FV RC10 203 m7_playBySeed 7 3 := ⟨⟨tW_c4 (j := 196) rfl rfl, tW_c4 (j := 197) rfl rfl, tW_c4 (j := 198) rfl rfl, tW_c1 (j := 6) rfl rfl, tW_c4 (j := 199) rfl rfl⟩, ⟨by decide, by decide, by decide +kernel⟩, by decide, rfl⟩
theorem fv_10_207 : FV RC10 207 m7_spend 7 5 := ⟨⟨tW_c4 (j := 217) rfl rfl, tW_c4 (j := 218) rfl rfl, tW_c4 (j := 219) rfl rfl, tW_c1 (j := 6) rfl rfl, tW_c4 (j := 220) rfl rfl⟩, ⟨by decide, by decide, by decide +kernel⟩, by decide, rfl⟩
theorem fa_10_51 : FA RC10 51 10 6 (some 59) := ⟨RC10, TC10, 9, rfl, iC10, by decide, by decide, tW_c2 (j := 131) rfl rfl, by decide⟩
theorem fv_10_211 : FV RC10 211 m3_hours 3 4 := ⟨⟨tW_c4 (j := 226) rfl rfl, tW_c4 (j := 227) rfl rfl, tW_c4 (j := 228) rfl rfl, tW_c1 (j := 9) rfl rfl, tW_c4 (j := 229) rfl rfl⟩, ⟨by decide, by decide, by decide +kernel⟩, by decide, rfl⟩
theorem fv_10_215 : FV RC10 215 m9_hasSubject 9 1 := ⟨⟨tW_c5 (j := 8) rfl rfl, tW_c3 (j := 149) rfl rfl, tW_c3 (j := 150) rfl rfl, tW_c1 (j := 3) rfl rfl, tW_c3 (j := 151) rfl rfl⟩, ⟨by decide, by decide, by decide +kernel⟩, by decide, rfl⟩
theorem fv_10_218 : FV RC10 218 m7_makeCalm 7 2 := ⟨⟨tW_c5 (j := 9) rfl rfl, tW_c5 (j := 10) rfl rfl, tW_c5 (j := 11) rfl rfl, tW_c1 (j := 6) rfl rfl, tW_c5 (j := 12) rfl rfl⟩, ⟨by decide, by decide, by decide +kernel⟩, by decide, rfl⟩
theorem fa_10_221 : FA RC10 221 7 0 (some 1) := ⟨RC7, TC7, 11, rfl, iC7, by decide, by decide, tW_c1 (j := 221) rfl rfl, by decide⟩
theorem fv_10_225 : FV RC10 225 m9_firstHeld 9 1 := ⟨⟨tW_c5 (j := 18) rfl rfl, tW_c5 (j := 19) rfl rfl, tW_c5 (j := 20) rfl rfl, tW_c1 (j := 3) rfl rfl, tW_c5 (j := 21) rfl rfl⟩, ⟨by decide, by decide, by decide +kernel⟩, by decide, rfl⟩
theorem fv_10_228 : FV RC10 228 m9_middle 9 1 := ⟨⟨tW_c5 (j := 22) rfl rfl, tW_c5 (j := 23) rfl rfl, tW_c5 (j := 24) rfl rfl, tW_c1 (j := 3) rfl rfl, tW_c5 (j := 25) rfl rfl⟩, ⟨by decide, by decide, by decide +kernel⟩, by decide, rfl⟩
theorem fv_10_231 : FV RC10 231 m9_differing 9 2 := ⟨⟨tW_c5 (j := 30) rfl rfl, tW_c5 (j := 27) rfl rfl, tW_c5 (j := 28) rfl rfl, tW_c1 (j := 3) rfl rfl, tW_c5 (j := 29) rfl rfl⟩, ⟨by decide, by decide, by decide +kernel⟩, by decide, rfl⟩
theorem fv_10_234 : FV RC10 234 m9_leavingForOath 9 1 := ⟨⟨tW_c5 (j := 31) rfl rfl, tW_c5 (j := 32) rfl rfl, tW_c5 (j := 33) rfl rfl, tW_c1 (j := 3) rfl rfl, tW_c5 (j := 34) rfl rfl⟩, ⟨by decide, by decide, by decide +kernel⟩, by decide, rfl⟩
theorem fa_10_237 : FA RC10 237 9 1 none := ⟨RC9, TC9, 9, rfl, iC9, by decide, by decide, tW_c1 (j := 58) rfl rfl, by decide⟩
theorem fv_10_240 : FV RC10 240 m9_burningByHire 9 2 := ⟨⟨tW_c5 (j := 43) rfl rfl, tW_c5 (j := 44) rfl rfl, tW_c5 (j := 45) rfl rfl, tW_c1 (j := 3) rfl rfl, tW_c5 (j := 46) rfl rfl⟩, ⟨by decide, by decide, by decide +kernel⟩, by decide, rfl⟩
theorem fv_10_243 : FV RC10 243 m4_fill 4 2 := ⟨⟨tW_c5 (j := 51) rfl rfl, tW_c5 (j := 52) rfl rfl, tW_c5 (j := 53) rfl rfl, tW_c1 (j := 8) rfl rfl, tW_c5 (j := 54) rfl rfl⟩, ⟨by decide, by decide, by decide +kernel⟩, by decide, rfl⟩
theorem fa_10_247 : FA RC10 247 4 1 none := ⟨RC4, TC4, 8, rfl, iC4, by decide, by decide, tW_c2 (j := 44) rfl rfl, by decide⟩
theorem fa_10_250 : FA RC10 250 9 0 none := ⟨RC9, TC9, 9, rfl, iC9, by decide, by decide, tW_c1 (j := 51) rfl rfl, by decide⟩
theorem fv_10_253 : FV RC10 253 m1_gatherKeenest 1 1 := ⟨⟨tW_c5 (j := 63) rfl rfl, tW_c5 (j := 64) rfl rfl, tW_c5 (j := 65) rfl rfl, tW_c1 (j := 7) rfl rfl, tW_c5 (j := 66) rfl rfl⟩, ⟨by decide, by decide, by decide +kernel⟩, by decide, rfl⟩
theorem fv_10_256 : FV RC10 256 m1_bestCamp 1 0 := ⟨⟨tW_c5 (j := 69) rfl rfl, tW_c5 (j := 70) rfl rfl, tW_c5 (j := 71) rfl rfl, tW_c1 (j := 7) rfl rfl, tW_c5 (j := 72) rfl rfl⟩, ⟨by decide, by decide, by decide +kernel⟩, by decide, rfl⟩
theorem fv_10_259 : FV RC10 259 m1_acrossCamps 1 1 := ⟨⟨tW_c5 (j := 77) rfl rfl, tW_c5 (j := 74) rfl rfl, tW_c5 (j := 75) rfl rfl, tW_c1 (j := 7) rfl rfl, tW_c5 (j := 76) rfl rfl⟩, ⟨by decide, by decide, by decide +kernel⟩, by decide, rfl⟩
theorem fa_10_58 : FA RC10 58 10 7 (some 62) := ⟨RC10, TC10, 9, rfl, iC10, by decide, by decide, tW_c2 (j := 132) rfl rfl, by decide⟩
theorem fv_10_262 : FV RC10 262 m0_gather 0 1 := ⟨⟨tW_c5 (j := 82) rfl rfl, tW_c5 (j := 83) rfl rfl, tW_c5 (j := 84) rfl rfl, tW_c1 (j := 10) rfl rfl, tW_c5 (j := 85) rfl rfl⟩, ⟨by decide, by decide, by decide +kernel⟩, by decide, rfl⟩
theorem fv_10_264 : FV RC10 264 m0_findLongest 0 0 := ⟨⟨tW_c5 (j := 90) rfl rfl, tW_c5 (j := 91) rfl rfl, tW_c5 (j := 92) rfl rfl, tW_c1 (j := 10) rfl rfl, tW_c5 (j := 93) rfl rfl⟩, ⟨by decide, by decide, by decide +kernel⟩, by decide, rfl⟩
theorem fa_10_267 : FA RC10 267 0 1 none := ⟨RC0, TC0, 5, rfl, iC0, by decide, by decide, tW_c2 (j := 91) rfl rfl, by decide⟩
theorem fa_10_268 : FA RC10 268 0 0 (some 1) := ⟨RC0, TC0, 5, rfl, iC0, by decide, by decide, tW_c2 (j := 89) rfl rfl, by decide⟩
theorem fv_10_269 : FV RC10 269 m9_kins 9 0 := ⟨⟨tW_c5 (j := 103) rfl rfl, tW_c5 (j := 104) rfl rfl, tW_c5 (j := 105) rfl rfl, tW_c1 (j := 3) rfl rfl, tW_c5 (j := 106) rfl rfl⟩, ⟨by decide, by decide, by decide +kernel⟩, by decide, rfl⟩
theorem fv_10_272 : FV RC10 272 m9_largestKin 9 0 := ⟨⟨tW_c5 (j := 115) rfl rfl, tW_c5 (j := 116) rfl rfl, tW_c5 (j := 117) rfl rfl, tW_c1 (j := 3) rfl rfl, tW_c5 (j := 118) rfl rfl⟩, ⟨by decide, by decide, by decide +kernel⟩, by decide, rfl⟩
theorem fv_10_275 : FV RC10 275 m0_trios 0 0 := ⟨⟨tW_c5 (j := 119) rfl rfl, tW_c5 (j := 120) rfl rfl, tW_c5 (j := 121) rfl rfl, tW_c1 (j := 10) rfl rfl, tW_c5 (j := 122) rfl rfl⟩, ⟨by decide, by decide, by decide +kernel⟩, by decide, rfl⟩
theorem fv_10_278 : FV RC10 278 m1_ranked 1 1 := ⟨⟨tW_c5 (j := 129) rfl rfl, tW_c5 (j := 130) rfl rfl, tW_c5 (j := 131) rfl rfl, tW_c1 (j := 7) rfl rfl, tW_c5 (j := 132) rfl rfl⟩, ⟨by decide, by decide, by decide +kernel⟩, by decide, rfl⟩
theorem fa_10_281 : FA RC10 281 7 7 none := ⟨RC7, TC7, 11, rfl, iC7, by decide, by decide, tW_c1 (j := 229) rfl rfl, by decide⟩
theorem fv_10_284 : FV RC10 284 m7_loudest 7 0 := ⟨⟨tW_c5 (j := 149) rfl rfl, tW_c5 (j := 150) rfl rfl, tW_c5 (j := 151) rfl rfl, tW_c1 (j := 6) rfl rfl, tW_c5 (j := 152) rfl rfl⟩, ⟨by decide, by decide, by decide +kernel⟩, by decide, rfl⟩
theorem fa_10_287 : FA RC10 287 7 8 none := ⟨RC7, TC7, 11, rfl, iC7, by decide, by decide, tW_c1 (j := 231) rfl rfl, by decide⟩
theorem fa_10_290 : FA RC10 290 7 9 none := ⟨RC7, TC7, 11, rfl, iC7, by decide, by decide, tW_c1 (j := 233) rfl rfl, by decide⟩
theorem fv_10_293 : FV RC10 293 m2_extreme 2 4 := ⟨⟨tW_c5 (j := 157) rfl rfl, tW_c5 (j := 158) rfl rfl, tW_c5 (j := 159) rfl rfl, tW_c1 (j := 11) rfl rfl, tW_c5 (j := 160) rfl rfl⟩, ⟨by decide, by decide, by decide +kernel⟩, by decide, rfl⟩
theorem fv_10_297 : FV RC10 297 m0_alone 0 0 := ⟨⟨tW_c5 (j := 169) rfl rfl, tW_c5 (j := 170) rfl rfl, tW_c5 (j := 171) rfl rfl, tW_c1 (j := 10) rfl rfl, tW_c5 (j := 172) rfl rfl⟩, ⟨by decide, by decide, by decide +kernel⟩, by decide, rfl⟩
theorem fa_10_300 : FA RC10 300 8 4 (some 2) := ⟨RC8, TC8, 8, rfl, iC8, by decide, by decide, tW_c1 (j := 135) rfl rfl, by decide⟩
theorem fv_10_303 : FV RC10 303 m8_copy 8 1 := ⟨⟨tW_c5 (j := 181) rfl rfl, tW_c5 (j := 182) rfl rfl, tW_c5 (j := 183) rfl rfl, tW_c1 (j := 2) rfl rfl, tW_c5 (j := 184) rfl rfl⟩, ⟨by decide, by decide, by decide +kernel⟩, by decide, rfl⟩
theorem fa_10_16 : FA RC10 16 10 1 (some 27) := ⟨RC10, TC10, 9, rfl, iC10, by decide, by decide, tW_c2 (j := 126) rfl rfl, by decide⟩
theorem fa_11_7 : FA RC11 7 11 0 (some 1) := ⟨RC11, TC11, 44, rfl, iC11, by decide, by decide, tW_c5 (j := 196) rfl rfl, by decide⟩
theorem fa_11_80 : FA RC11 80 11 2 none := ⟨RC11, TC11, 44, rfl, iC11, by decide, by decide, tW_c5 (j := 198) rfl rfl, by decide⟩
theorem fs_11_84 : FS RC11 84 m11_four 4 := ⟨⟨tW_c6 (j := 132) rfl rfl, tW_c6 (j := 133) rfl rfl, tW_c1 (j := 12) rfl rfl, tW_c6 (j := 134) rfl rfl⟩, ⟨by decide, by decide, by decide +kernel⟩, by decide⟩
theorem kl_11_88 : Cond.constantLong RC11 88 (Int64.ofInt 1048576) ∈ tW := tW_c6 (j := 135) rfl rfl
theorem fs_11_90 : FS RC11 90 m11_eight 8 := ⟨⟨tW_c6 (j := 129) rfl rfl, tW_c6 (j := 130) rfl rfl, tW_c1 (j := 12) rfl rfl, tW_c6 (j := 131) rfl rfl⟩, ⟨by decide, by decide, by decide +kernel⟩, by decide⟩
theorem fa_11_94 : FA RC11 94 11 3 none := ⟨RC11, TC11, 44, rfl, iC11, by decide, by decide, tW_c5 (j := 199) rfl rfl, by decide⟩
theorem fp_11_94 : FP RC11 94 11 3 .int := ⟨RC11, TC11, 44, yC11, rfl, iC11, yC11_ok, nC11, by decide, by decide, tW_c5 (j := 199) rfl rfl, by decide, rfl, by decide +kernel⟩
theorem fp_11_119 : FP RC11 119 11 7 .int := ⟨RC11, TC11, 44, yC11, rfl, iC11, yC11_ok, nC11, by decide, by decide, tW_c5 (j := 203) rfl rfl, by decide, rfl, by decide +kernel⟩
theorem fa_11_119 : FA RC11 119 11 7 none := ⟨RC11, TC11, 44, rfl, iC11, by decide, by decide, tW_c5 (j := 203) rfl rfl, by decide⟩
theorem fp_11_104 : FP RC11 104 11 5 .int := ⟨RC11, TC11, 44, yC11, rfl, iC11, yC11_ok, nC11, by decide, by decide, tW_c5 (j := 201) rfl rfl, by decide, rfl, by decide +kernel⟩
theorem fv_11_97 : FV RC11 97 m11_byteAt 11 1 := ⟨⟨tW_c6 (j := 117) rfl rfl, tW_c6 (j := 119) rfl rfl, tW_at (i := 52) (by decide +kernel) rfl, tW_c1 (j := 12) rfl rfl, tW_c6 (j := 120) rfl rfl⟩, ⟨by decide, by decide, by decide +kernel⟩, by decide, rfl⟩
theorem fs_11_107 : FS RC11 107 m11_isLetter 1 := ⟨⟨tW_c6 (j := 121) rfl rfl, tW_c6 (j := 122) rfl rfl, tW_c1 (j := 12) rfl rfl, tW_c6 (j := 123) rfl rfl⟩, ⟨by decide, by decide, by decide +kernel⟩, by decide⟩
theorem fa_11_101 : FA RC11 101 11 4 none := ⟨RC11, TC11, 44, rfl, iC11, by decide, by decide, tW_c5 (j := 200) rfl rfl, by decide⟩
theorem fs_11_115 : FS RC11 115 m11_wordOf 1 := ⟨⟨tW_c6 (j := 126) rfl rfl, tW_c6 (j := 127) rfl rfl, tW_c1 (j := 12) rfl rfl, tW_c6 (j := 128) rfl rfl⟩, ⟨by decide, by decide, by decide +kernel⟩, by decide⟩
theorem kl_11_111 : Cond.constantLong RC11 111 (Int64.ofInt 32) ∈ tW := tW_c6 (j := 124) rfl rfl
theorem kl_11_113 : Cond.constantLong RC11 113 (Int64.ofInt 96) ∈ tW := tW_c6 (j := 125) rfl rfl
theorem fs_11_122 : FS RC11 122 m11_isDigit 1 := ⟨⟨tW_c6 (j := 136) rfl rfl, tW_c6 (j := 137) rfl rfl, tW_c1 (j := 12) rfl rfl, tW_c6 (j := 138) rfl rfl⟩, ⟨by decide, by decide, by decide +kernel⟩, by decide⟩
theorem fa_11_125 : FA RC11 125 11 6 none := ⟨RC11, TC11, 44, rfl, iC11, by decide, by decide, tW_c5 (j := 202) rfl rfl, by decide⟩
theorem fp_11_125 : FP RC11 125 11 6 .int := ⟨RC11, TC11, 44, yC11, rfl, iC11, yC11_ok, nC11, by decide, by decide, tW_c5 (j := 202) rfl rfl, by decide, rfl, by decide +kernel⟩
theorem fp_11_101 : FP RC11 101 11 4 .int := ⟨RC11, TC11, 44, yC11, rfl, iC11, yC11_ok, nC11, by decide, by decide, tW_c5 (j := 200) rfl rfl, by decide, rfl, by decide +kernel⟩
theorem fa_11_128 : FA RC11 128 11 8 none := ⟨RC11, TC11, 44, rfl, iC11, by decide, by decide, tW_c5 (j := 204) rfl rfl, by decide⟩
theorem fp_11_128 : FP RC11 128 11 8 .boolean := ⟨RC11, TC11, 44, yC11, rfl, iC11, yC11_ok, nC11, by decide, by decide, tW_c5 (j := 204) rfl rfl, by decide, rfl, by decide +kernel⟩
theorem fv_11_132 : FV RC11 132 m11_ends 11 0 := ⟨⟨tW_c6 (j := 147) rfl rfl, tW_c6 (j := 149) rfl rfl, tW_at (i := 55) (by decide +kernel) rfl, tW_c1 (j := 12) rfl rfl, tW_c6 (j := 150) rfl rfl⟩, ⟨by decide, by decide, by decide +kernel⟩, by decide, rfl⟩
theorem fv_11_143 : FV RC11 143 m11_advance 11 0 := ⟨⟨tW_c6 (j := 113) rfl rfl, tW_c6 (j := 115) rfl rfl, tW_at (i := 51) (by decide +kernel) rfl, tW_c1 (j := 12) rfl rfl, tW_c6 (j := 116) rfl rfl⟩, ⟨by decide, by decide, by decide +kernel⟩, by decide, rfl⟩
theorem fs_11_135 : FS RC11 135 m11_isIn 3 := ⟨⟨tW_c6 (j := 102) rfl rfl, tW_c6 (j := 103) rfl rfl, tW_c1 (j := 12) rfl rfl, tW_c6 (j := 104) rfl rfl⟩, ⟨by decide, by decide, by decide +kernel⟩, by decide⟩
theorem fa_11_104 : FA RC11 104 11 5 none := ⟨RC11, TC11, 44, rfl, iC11, by decide, by decide, tW_c5 (j := 201) rfl rfl, by decide⟩
theorem fv_11_139 : FV RC11 139 m11_also 11 2 := ⟨⟨tW_c6 (j := 155) rfl rfl, tW_c6 (j := 157) rfl rfl, tW_at (i := 57) (by decide +kernel) rfl, tW_c1 (j := 12) rfl rfl, tW_c6 (j := 158) rfl rfl⟩, ⟨by decide, by decide, by decide +kernel⟩, by decide, rfl⟩
theorem fv_11_146 : FV RC11 146 m11_numbered 11 2 := ⟨⟨tW_c6 (j := 151) rfl rfl, tW_c6 (j := 153) rfl rfl, tW_at (i := 56) (by decide +kernel) rfl, tW_c1 (j := 12) rfl rfl, tW_c6 (j := 154) rfl rfl⟩, ⟨by decide, by decide, by decide +kernel⟩, by decide, rfl⟩
theorem fa_11_17 : FA RC11 17 11 11 (some 3) := ⟨RC11, TC11, 44, rfl, iC11, by decide, by decide, tW_c5 (j := 207) rfl rfl, by decide⟩
theorem fv_11_159 : FV RC11 159 m11_endsLine 11 0 := ⟨⟨tW_c6 (j := 159) rfl rfl, tW_c6 (j := 161) rfl rfl, tW_at (i := 58) (by decide +kernel) rfl, tW_c1 (j := 12) rfl rfl, tW_c6 (j := 162) rfl rfl⟩, ⟨by decide, by decide, by decide +kernel⟩, by decide, rfl⟩
theorem fp_11_156 : FP RC11 156 11 10 .int := ⟨RC11, TC11, 44, yC11, rfl, iC11, yC11_ok, nC11, by decide, by decide, tW_c5 (j := 206) rfl rfl, by decide, rfl, by decide +kernel⟩
theorem fp_11_153 : FP RC11 153 11 9 .int := ⟨RC11, TC11, 44, yC11, rfl, iC11, yC11_ok, nC11, by decide, by decide, tW_c5 (j := 205) rfl rfl, by decide, rfl, by decide +kernel⟩
theorem fa_11_156 : FA RC11 156 11 10 none := ⟨RC11, TC11, 44, rfl, iC11, by decide, by decide, tW_c5 (j := 206) rfl rfl, by decide⟩
theorem fv_11_150 : FV RC11 150 m11_wordIn 11 2 := ⟨⟨tW_c6 (j := 143) rfl rfl, tW_c6 (j := 145) rfl rfl, tW_at (i := 54) (by decide +kernel) rfl, tW_c1 (j := 12) rfl rfl, tW_c6 (j := 146) rfl rfl⟩, ⟨by decide, by decide, by decide +kernel⟩, by decide, rfl⟩
theorem fa_11_153 : FA RC11 153 11 9 none := ⟨RC11, TC11, 44, rfl, iC11, by decide, by decide, tW_c5 (j := 205) rfl rfl, by decide⟩
theorem fv_11_162 : FV RC11 162 m11_unlike 11 3 := ⟨⟨tW_c6 (j := 167) rfl rfl, tW_c6 (j := 169) rfl rfl, tW_at (i := 60) (by decide +kernel) rfl, tW_c1 (j := 12) rfl rfl, tW_c6 (j := 170) rfl rfl⟩, ⟨by decide, by decide, by decide +kernel⟩, by decide, rfl⟩
theorem fs_11_183 : FS RC11 183 m11_sizeOf 1 := ⟨⟨tW_c6 (j := 175) rfl rfl, tW_c6 (j := 176) rfl rfl, tW_c1 (j := 12) rfl rfl, tW_c6 (j := 177) rfl rfl⟩, ⟨by decide, by decide, by decide +kernel⟩, by decide⟩
theorem fs_11_186 : FS RC11 186 m11_placeOf 2 := ⟨⟨tW_c6 (j := 178) rfl rfl, tW_c6 (j := 179) rfl rfl, tW_c1 (j := 12) rfl rfl, tW_c6 (j := 180) rfl rfl⟩, ⟨by decide, by decide, by decide +kernel⟩, by decide⟩
theorem fv_11_174 : FV RC11 174 m11_villageLine 11 0 := ⟨⟨tW_c6 (j := 139) rfl rfl, tW_c6 (j := 141) rfl rfl, tW_at (i := 53) (by decide +kernel) rfl, tW_c1 (j := 12) rfl rfl, tW_c6 (j := 142) rfl rfl⟩, ⟨by decide, by decide, by decide +kernel⟩, by decide, rfl⟩
theorem fv_11_177 : FV RC11 177 m11_dayLine 11 0 := ⟨⟨tW_c6 (j := 163) rfl rfl, tW_c6 (j := 165) rfl rfl, tW_at (i := 59) (by decide +kernel) rfl, tW_c1 (j := 12) rfl rfl, tW_c6 (j := 166) rfl rfl⟩, ⟨by decide, by decide, by decide +kernel⟩, by decide, rfl⟩
theorem fv_11_180 : FV RC11 180 m11_logLine 11 0 := ⟨⟨tW_c6 (j := 171) rfl rfl, tW_c6 (j := 173) rfl rfl, tW_at (i := 61) (by decide +kernel) rfl, tW_c1 (j := 12) rfl rfl, tW_c6 (j := 174) rfl rfl⟩, ⟨by decide, by decide, by decide +kernel⟩, by decide, rfl⟩
theorem fv_11_170 : FV RC11 170 m11_begins0 11 1 := ⟨⟨tW_c6 (j := 109) rfl rfl, tW_c6 (j := 111) rfl rfl, tW_at (i := 50) (by decide +kernel) rfl, tW_c1 (j := 12) rfl rfl, tW_c6 (j := 112) rfl rfl⟩, ⟨by decide, by decide, by decide +kernel⟩, by decide, rfl⟩
theorem fp_11_80 : FP RC11 80 11 2 .int := ⟨RC11, TC11, 44, yC11, rfl, iC11, yC11_ok, nC11, by decide, by decide, tW_c5 (j := 198) rfl rfl, by decide, rfl, by decide +kernel⟩
theorem fv_11_166 : FV RC11 166 m11_isOf 11 2 := ⟨⟨tW_c6 (j := 105) rfl rfl, tW_c6 (j := 107) rfl rfl, tW_at (i := 49) (by decide +kernel) rfl, tW_c1 (j := 12) rfl rfl, tW_c6 (j := 108) rfl rfl⟩, ⟨by decide, by decide, by decide +kernel⟩, by decide, rfl⟩
theorem fp_11_189 : FP RC11 189 11 12 .int := ⟨RC11, TC11, 44, yC11, rfl, iC11, yC11_ok, nC11, by decide, by decide, tW_c5 (j := 208) rfl rfl, by decide, rfl, by decide +kernel⟩
theorem fa_11_189 : FA RC11 189 11 12 none := ⟨RC11, TC11, 44, rfl, iC11, by decide, by decide, tW_c5 (j := 208) rfl rfl, by decide⟩
theorem fp_11_192 : FP RC11 192 11 13 .int := ⟨RC11, TC11, 44, yC11, rfl, iC11, yC11_ok, nC11, by decide, by decide, tW_c5 (j := 209) rfl rfl, by decide, rfl, by decide +kernel⟩
theorem fp_11_195 : FP RC11 195 11 14 .int := ⟨RC11, TC11, 44, yC11, rfl, iC11, yC11_ok, nC11, by decide, by decide, tW_c5 (j := 210) rfl rfl, by decide, rfl, by decide +kernel⟩
theorem fp_11_198 : FP RC11 198 11 15 .int := ⟨RC11, TC11, 44, yC11, rfl, iC11, yC11_ok, nC11, by decide, by decide, tW_c5 (j := 211) rfl rfl, by decide, rfl, by decide +kernel⟩
theorem fa_11_192 : FA RC11 192 11 13 none := ⟨RC11, TC11, 44, rfl, iC11, by decide, by decide, tW_c5 (j := 209) rfl rfl, by decide⟩
theorem fa_11_195 : FA RC11 195 11 14 none := ⟨RC11, TC11, 44, rfl, iC11, by decide, by decide, tW_c5 (j := 210) rfl rfl, by decide⟩
theorem fv_11_201 : FV RC11 201 m11_isVillage 11 1 := ⟨⟨tW_c6 (j := 189) rfl rfl, tW_c6 (j := 191) rfl rfl, tW_at (i := 62) (by decide +kernel) rfl, tW_c1 (j := 12) rfl rfl, tW_c6 (j := 192) rfl rfl⟩, ⟨by decide, by decide, by decide +kernel⟩, by decide, rfl⟩
theorem fa_11_198 : FA RC11 198 11 15 none := ⟨RC11, TC11, 44, rfl, iC11, by decide, by decide, tW_c5 (j := 211) rfl rfl, by decide⟩
theorem fv_11_222 : FV RC11 222 m11_cracksOf 11 1 := ⟨⟨tW_c6 (j := 217) rfl rfl, tW_c6 (j := 219) rfl rfl, tW_at (i := 69) (by decide +kernel) rfl, tW_c1 (j := 12) rfl rfl, tW_c6 (j := 220) rfl rfl⟩, ⟨by decide, by decide, by decide +kernel⟩, by decide, rfl⟩
theorem fv_11_219 : FV RC11 219 m11_wantsOf 11 1 := ⟨⟨tW_c6 (j := 213) rfl rfl, tW_c6 (j := 215) rfl rfl, tW_at (i := 68) (by decide +kernel) rfl, tW_c1 (j := 12) rfl rfl, tW_c6 (j := 216) rfl rfl⟩, ⟨by decide, by decide, by decide +kernel⟩, by decide, rfl⟩
theorem fv_11_207 : FV RC11 207 m11_isSubject 11 1 := ⟨⟨tW_c6 (j := 197) rfl rfl, tW_c6 (j := 199) rfl rfl, tW_at (i := 64) (by decide +kernel) rfl, tW_c1 (j := 12) rfl rfl, tW_c6 (j := 200) rfl rfl⟩, ⟨by decide, by decide, by decide +kernel⟩, by decide, rfl⟩
theorem fv_11_216 : FV RC11 216 m11_fadesOf 11 1 := ⟨⟨tW_c6 (j := 209) rfl rfl, tW_c6 (j := 211) rfl rfl, tW_at (i := 67) (by decide +kernel) rfl, tW_c1 (j := 12) rfl rfl, tW_c6 (j := 212) rfl rfl⟩, ⟨by decide, by decide, by decide +kernel⟩, by decide, rfl⟩
theorem fv_11_213 : FV RC11 213 m11_heatOf 11 1 := ⟨⟨tW_c6 (j := 205) rfl rfl, tW_c6 (j := 207) rfl rfl, tW_at (i := 66) (by decide +kernel) rfl, tW_c1 (j := 12) rfl rfl, tW_c6 (j := 208) rfl rfl⟩, ⟨by decide, by decide, by decide +kernel⟩, by decide, rfl⟩
theorem fv_11_204 : FV RC11 204 m11_isPerson 11 1 := ⟨⟨tW_c6 (j := 193) rfl rfl, tW_c6 (j := 195) rfl rfl, tW_at (i := 63) (by decide +kernel) rfl, tW_c1 (j := 12) rfl rfl, tW_c6 (j := 196) rfl rfl⟩, ⟨by decide, by decide, by decide +kernel⟩, by decide, rfl⟩
theorem fv_11_210 : FV RC11 210 m11_heldOf 11 2 := ⟨⟨tW_c6 (j := 201) rfl rfl, tW_c6 (j := 203) rfl rfl, tW_at (i := 65) (by decide +kernel) rfl, tW_c1 (j := 12) rfl rfl, tW_c6 (j := 204) rfl rfl⟩, ⟨by decide, by decide, by decide +kernel⟩, by decide, rfl⟩
theorem fs_11_225 : FS RC11 225 m11_off 2 := ⟨⟨tW_c6 (j := 233) rfl rfl, tW_c6 (j := 234) rfl rfl, tW_c1 (j := 12) rfl rfl, tW_c6 (j := 235) rfl rfl⟩, ⟨by decide, by decide, by decide +kernel⟩, by decide⟩
theorem fv_11_228 : FV RC11 228 m11_isTwo 11 2 := ⟨⟨tW_c6 (j := 225) rfl rfl, tW_c6 (j := 227) rfl rfl, tW_at (i := 70) (by decide +kernel) rfl, tW_c1 (j := 12) rfl rfl, tW_c6 (j := 228) rfl rfl⟩, ⟨by decide, by decide, by decide +kernel⟩, by decide, rfl⟩
theorem fv_11_231 : FV RC11 231 m11_apartOf 11 3 := ⟨⟨tW_c6 (j := 229) rfl rfl, tW_c6 (j := 231) rfl rfl, tW_at (i := 71) (by decide +kernel) rfl, tW_c1 (j := 12) rfl rfl, tW_c6 (j := 232) rfl rfl⟩, ⟨by decide, by decide, by decide +kernel⟩, by decide, rfl⟩
theorem fv_11_234 : FV RC11 234 m11_burnsOf 11 3 := ⟨⟨tW_c7 (j := 0) rfl rfl, tW_c7 (j := 2) rfl rfl, tW_at (i := 72) (by decide +kernel) rfl, tW_c1 (j := 12) rfl rfl, tW_c7 (j := 3) rfl rfl⟩, ⟨by decide, by decide, by decide +kernel⟩, by decide, rfl⟩
theorem fv_11_237 : FV RC11 237 m11_oftenOf 11 3 := ⟨⟨tW_c7 (j := 12) rfl rfl, tW_c7 (j := 14) rfl rfl, tW_at (i := 74) (by decide +kernel) rfl, tW_c1 (j := 12) rfl rfl, tW_c7 (j := 15) rfl rfl⟩, ⟨by decide, by decide, by decide +kernel⟩, by decide, rfl⟩
theorem fv_11_240 : FV RC11 240 m11_lastsOf 11 3 := ⟨⟨tW_c7 (j := 8) rfl rfl, tW_c7 (j := 10) rfl rfl, tW_at (i := 73) (by decide +kernel) rfl, tW_c1 (j := 12) rfl rfl, tW_c7 (j := 11) rfl rfl⟩, ⟨by decide, by decide, by decide +kernel⟩, by decide, rfl⟩
theorem fv_11_243 : FV RC11 243 m11_togetherOf 11 2 := ⟨⟨tW_c7 (j := 20) rfl rfl, tW_c7 (j := 22) rfl rfl, tW_at (i := 75) (by decide +kernel) rfl, tW_c1 (j := 12) rfl rfl, tW_c7 (j := 23) rfl rfl⟩, ⟨by decide, by decide, by decide +kernel⟩, by decide, rfl⟩
theorem fa_11_29 : FA RC11 29 11 19 (some 7) := ⟨RC11, TC11, 44, rfl, iC11, by decide, by decide, tW_c5 (j := 215) rfl rfl, by decide⟩
theorem fa_11_26 : FA RC11 26 11 18 (some 6) := ⟨RC11, TC11, 44, rfl, iC11, by decide, by decide, tW_c5 (j := 214) rfl rfl, by decide⟩
theorem fa_11_20 : FA RC11 20 11 16 (some 4) := ⟨RC11, TC11, 44, rfl, iC11, by decide, by decide, tW_c5 (j := 212) rfl rfl, by decide⟩
theorem fa_11_23 : FA RC11 23 11 17 (some 5) := ⟨RC11, TC11, 44, rfl, iC11, by decide, by decide, tW_c5 (j := 213) rfl rfl, by decide⟩
theorem fv_11_246 : FV RC11 246 m11_nextAt 11 2 := ⟨⟨tW_c7 (j := 32) rfl rfl, tW_c7 (j := 34) rfl rfl, tW_at (i := 77) (by decide +kernel) rfl, tW_c1 (j := 12) rfl rfl, tW_c7 (j := 35) rfl rfl⟩, ⟨by decide, by decide, by decide +kernel⟩, by decide, rfl⟩
theorem fa_11_32 : FA RC11 32 11 20 (some 8) := ⟨RC11, TC11, 44, rfl, iC11, by decide, by decide, tW_c5 (j := 216) rfl rfl, by decide⟩
theorem fv_11_249 : FV RC11 249 m11_plansOf 11 0 := ⟨⟨tW_c7 (j := 28) rfl rfl, tW_c7 (j := 30) rfl rfl, tW_at (i := 76) (by decide +kernel) rfl, tW_c1 (j := 12) rfl rfl, tW_c7 (j := 31) rfl rfl⟩, ⟨by decide, by decide, by decide +kernel⟩, by decide, rfl⟩
theorem fa_11_35 : FA RC11 35 11 21 (some 9) := ⟨RC11, TC11, 44, rfl, iC11, by decide, by decide, tW_c5 (j := 217) rfl rfl, by decide⟩
theorem fa_11_38 : FA RC11 38 11 22 (some 10) := ⟨RC11, TC11, 44, rfl, iC11, by decide, by decide, tW_c5 (j := 218) rfl rfl, by decide⟩
theorem fv_11_256 : FV RC11 256 m11_marries 11 0 := ⟨⟨tW_c7 (j := 44) rfl rfl, tW_c7 (j := 46) rfl rfl, tW_at (i := 79) (by decide +kernel) rfl, tW_c1 (j := 12) rfl rfl, tW_c7 (j := 47) rfl rfl⟩, ⟨by decide, by decide, by decide +kernel⟩, by decide, rfl⟩
theorem fv_11_253 : FV RC11 253 m11_mostTogether 11 0 := ⟨⟨tW_c7 (j := 40) rfl rfl, tW_c7 (j := 42) rfl rfl, tW_at (i := 78) (by decide +kernel) rfl, tW_c1 (j := 12) rfl rfl, tW_c7 (j := 43) rfl rfl⟩, ⟨by decide, by decide, by decide +kernel⟩, by decide, rfl⟩
theorem fs_11_268 : FS RC11 268 m11_common 2 := ⟨⟨tW_c7 (j := 57) rfl rfl, tW_c7 (j := 58) rfl rfl, tW_c1 (j := 12) rfl rfl, tW_c7 (j := 59) rfl rfl⟩, ⟨by decide, by decide, by decide +kernel⟩, by decide⟩
theorem kl_11_266 : Cond.constantLong RC11 266 (Int64.ofInt 10) ∈ tW := tW_c7 (j := 56) rfl rfl
theorem fs_11_262 : FS RC11 262 m11_power 2 := ⟨⟨tW_c7 (j := 53) rfl rfl, tW_c7 (j := 54) rfl rfl, tW_c1 (j := 12) rfl rfl, tW_c7 (j := 55) rfl rfl⟩, ⟨by decide, by decide, by decide +kernel⟩, by decide⟩
theorem kl_11_260 : Cond.constantLong RC11 260 (Int64.ofInt (-1)) ∈ tW := tW_c7 (j := 52) rfl rfl
theorem fa_11_44 : FA RC11 44 11 24 (some 12) := ⟨RC11, TC11, 44, rfl, iC11, by decide, by decide, tW_c5 (j := 220) rfl rfl, by decide⟩
theorem fa_11_41 : FA RC11 41 11 23 (some 11) := ⟨RC11, TC11, 44, rfl, iC11, by decide, by decide, tW_c5 (j := 219) rfl rfl, by decide⟩
theorem fa_11_50 : FA RC11 50 11 26 (some 14) := ⟨RC11, TC11, 44, rfl, iC11, by decide, by decide, tW_c5 (j := 222) rfl rfl, by decide⟩
theorem fa_11_47 : FA RC11 47 11 25 (some 13) := ⟨RC11, TC11, 44, rfl, iC11, by decide, by decide, tW_c5 (j := 221) rfl rfl, by decide⟩
theorem fv_11_272 : FV RC11 272 m11_burnsBehind 11 4 := ⟨⟨tW_c7 (j := 72) rfl rfl, tW_c7 (j := 74) rfl rfl, tW_at (i := 81) (by decide +kernel) rfl, tW_c1 (j := 12) rfl rfl, tW_c7 (j := 75) rfl rfl⟩, ⟨by decide, by decide, by decide +kernel⟩, by decide, rfl⟩
theorem fv_11_276 : FV RC11 276 m11_counts 11 4 := ⟨⟨tW_c7 (j := 68) rfl rfl, tW_c7 (j := 70) rfl rfl, tW_at (i := 80) (by decide +kernel) rfl, tW_c1 (j := 12) rfl rfl, tW_c7 (j := 71) rfl rfl⟩, ⟨by decide, by decide, by decide +kernel⟩, by decide, rfl⟩
theorem fa_11_53 : FA RC11 53 11 27 (some 15) := ⟨RC11, TC11, 44, rfl, iC11, by decide, by decide, tW_c5 (j := 223) rfl rfl, by decide⟩
theorem fv_11_283 : FV RC11 283 m11_holdersOf 11 3 := ⟨⟨tW_c7 (j := 88) rfl rfl, tW_c7 (j := 90) rfl rfl, tW_at (i := 83) (by decide +kernel) rfl, tW_c1 (j := 12) rfl rfl, tW_c7 (j := 91) rfl rfl⟩, ⟨by decide, by decide, by decide +kernel⟩, by decide, rfl⟩
theorem fv_11_280 : FV RC11 280 m11_awayOf 11 2 := ⟨⟨tW_c7 (j := 84) rfl rfl, tW_c7 (j := 86) rfl rfl, tW_at (i := 82) (by decide +kernel) rfl, tW_c1 (j := 12) rfl rfl, tW_c7 (j := 87) rfl rfl⟩, ⟨by decide, by decide, by decide +kernel⟩, by decide, rfl⟩
theorem fv_11_286 : FV RC11 286 m11_calms 11 0 := ⟨⟨tW_c7 (j := 92) rfl rfl, tW_c7 (j := 94) rfl rfl, tW_at (i := 84) (by decide +kernel) rfl, tW_c1 (j := 12) rfl rfl, tW_c7 (j := 95) rfl rfl⟩, ⟨by decide, by decide, by decide +kernel⟩, by decide, rfl⟩
theorem fv_11_289 : FV RC11 289 m11_burnsBy 11 1 := ⟨⟨tW_c7 (j := 112) rfl rfl, tW_c7 (j := 114) rfl rfl, tW_at (i := 86) (by decide +kernel) rfl, tW_c1 (j := 12) rfl rfl, tW_c7 (j := 115) rfl rfl⟩, ⟨by decide, by decide, by decide +kernel⟩, by decide, rfl⟩
theorem fs_11_292 : FS RC11 292 m11_areApart 2 := ⟨⟨tW_c7 (j := 116) rfl rfl, tW_c7 (j := 117) rfl rfl, tW_c1 (j := 12) rfl rfl, tW_c7 (j := 118) rfl rfl⟩, ⟨by decide, by decide, by decide +kernel⟩, by decide⟩
theorem fa_11_56 : FA RC11 56 11 28 (some 16) := ⟨RC11, TC11, 44, rfl, iC11, by decide, by decide, tW_c5 (j := 224) rfl rfl, by decide⟩
theorem fv_11_295 : FV RC11 295 m11_fillsOf 11 1 := ⟨⟨tW_c7 (j := 108) rfl rfl, tW_c7 (j := 110) rfl rfl, tW_at (i := 85) (by decide +kernel) rfl, tW_c1 (j := 12) rfl rfl, tW_c7 (j := 111) rfl rfl⟩, ⟨by decide, by decide, by decide +kernel⟩, by decide, rfl⟩
theorem fa_11_59 : FA RC11 59 11 29 (some 17) := ⟨RC11, TC11, 44, rfl, iC11, by decide, by decide, tW_c5 (j := 225) rfl rfl, by decide⟩
theorem fv_11_298 : FV RC11 298 m11_keenOf 11 2 := ⟨⟨tW_c7 (j := 123) rfl rfl, tW_c7 (j := 125) rfl rfl, tW_at (i := 87) (by decide +kernel) rfl, tW_c1 (j := 12) rfl rfl, tW_c7 (j := 126) rfl rfl⟩, ⟨by decide, by decide, by decide +kernel⟩, by decide, rfl⟩
theorem fa_11_62 : FA RC11 62 11 30 (some 18) := ⟨RC11, TC11, 44, rfl, iC11, by decide, by decide, tW_c5 (j := 226) rfl rfl, by decide⟩
theorem fv_11_301 : FV RC11 301 m11_isApart 11 2 := ⟨⟨tW_c7 (j := 135) rfl rfl, tW_c7 (j := 137) rfl rfl, tW_at (i := 89) (by decide +kernel) rfl, tW_c1 (j := 12) rfl rfl, tW_c7 (j := 138) rfl rfl⟩, ⟨by decide, by decide, by decide +kernel⟩, by decide, rfl⟩
theorem fv_11_304 : FV RC11 304 m11_longest 11 2 := ⟨⟨tW_c7 (j := 131) rfl rfl, tW_c7 (j := 133) rfl rfl, tW_at (i := 88) (by decide +kernel) rfl, tW_c1 (j := 12) rfl rfl, tW_c7 (j := 134) rfl rfl⟩, ⟨by decide, by decide, by decide +kernel⟩, by decide, rfl⟩
theorem fv_11_307 : FV RC11 307 m11_isKin 11 2 := ⟨⟨tW_c7 (j := 147) rfl rfl, tW_c7 (j := 149) rfl rfl, tW_at (i := 91) (by decide +kernel) rfl, tW_c1 (j := 12) rfl rfl, tW_c7 (j := 150) rfl rfl⟩, ⟨by decide, by decide, by decide +kernel⟩, by decide, rfl⟩
theorem fv_11_310 : FV RC11 310 m11_withAll 11 1 := ⟨⟨tW_c7 (j := 159) rfl rfl, tW_c7 (j := 161) rfl rfl, tW_at (i := 94) (by decide +kernel) rfl, tW_c1 (j := 12) rfl rfl, tW_c7 (j := 162) rfl rfl⟩, ⟨by decide, by decide, by decide +kernel⟩, by decide, rfl⟩
theorem fv_11_313 : FV RC11 313 m11_kinOf 11 2 := ⟨⟨tW_c7 (j := 143) rfl rfl, tW_c7 (j := 145) rfl rfl, tW_at (i := 90) (by decide +kernel) rfl, tW_c1 (j := 12) rfl rfl, tW_c7 (j := 146) rfl rfl⟩, ⟨by decide, by decide, by decide +kernel⟩, by decide, rfl⟩
theorem fv_11_319 : FV RC11 319 m11_rankOf 11 1 := ⟨⟨tW_c7 (j := 155) rfl rfl, tW_c7 (j := 157) rfl rfl, tW_at (i := 93) (by decide +kernel) rfl, tW_c1 (j := 12) rfl rfl, tW_c7 (j := 158) rfl rfl⟩, ⟨by decide, by decide, by decide +kernel⟩, by decide, rfl⟩
theorem fv_11_316 : FV RC11 316 m11_triosOf 11 0 := ⟨⟨tW_c7 (j := 151) rfl rfl, tW_c7 (j := 153) rfl rfl, tW_at (i := 92) (by decide +kernel) rfl, tW_c1 (j := 12) rfl rfl, tW_c7 (j := 154) rfl rfl⟩, ⟨by decide, by decide, by decide +kernel⟩, by decide, rfl⟩
theorem fp_11_322 : FP RC11 322 11 31 .int := ⟨RC11, TC11, 44, yC11, rfl, iC11, yC11_ok, nC11, by decide, by decide, tW_c5 (j := 227) rfl rfl, by decide, rfl, by decide +kernel⟩
theorem fv_11_325 : FV RC11 325 m11_isDay 11 1 := ⟨⟨tW_c7 (j := 171) rfl rfl, tW_c7 (j := 173) rfl rfl, tW_at (i := 95) (by decide +kernel) rfl, tW_c1 (j := 12) rfl rfl, tW_c7 (j := 174) rfl rfl⟩, ⟨by decide, by decide, by decide +kernel⟩, by decide, rfl⟩
theorem fa_11_322 : FA RC11 322 11 31 none := ⟨RC11, TC11, 44, rfl, iC11, by decide, by decide, tW_c5 (j := 227) rfl rfl, by decide⟩
theorem fa_11_71 : FA RC11 71 11 39 (some 21) := ⟨RC11, TC11, 44, rfl, iC11, by decide, by decide, tW_c5 (j := 235) rfl rfl, by decide⟩
theorem fa_11_68 : FA RC11 68 11 38 (some 20) := ⟨RC11, TC11, 44, rfl, iC11, by decide, by decide, tW_c5 (j := 234) rfl rfl, by decide⟩
theorem fa_11_65 : FA RC11 65 11 37 (some 19) := ⟨RC11, TC11, 44, rfl, iC11, by decide, by decide, tW_c5 (j := 233) rfl rfl, by decide⟩
theorem fp_11_328 : FP RC11 328 11 32 .int := ⟨RC11, TC11, 44, yC11, rfl, iC11, yC11_ok, nC11, by decide, by decide, tW_c5 (j := 228) rfl rfl, by decide, rfl, by decide +kernel⟩
theorem fp_11_331 : FP RC11 331 11 33 .int := ⟨RC11, TC11, 44, yC11, rfl, iC11, yC11_ok, nC11, by decide, by decide, tW_c5 (j := 229) rfl rfl, by decide, rfl, by decide +kernel⟩
theorem fp_11_334 : FP RC11 334 11 34 .int := ⟨RC11, TC11, 44, yC11, rfl, iC11, yC11_ok, nC11, by decide, by decide, tW_c5 (j := 230) rfl rfl, by decide, rfl, by decide +kernel⟩
theorem fp_11_337 : FP RC11 337 11 35 .int := ⟨RC11, TC11, 44, yC11, rfl, iC11, yC11_ok, nC11, by decide, by decide, tW_c5 (j := 231) rfl rfl, by decide, rfl, by decide +kernel⟩
theorem fp_11_340 : FP RC11 340 11 36 .int := ⟨RC11, TC11, 44, yC11, rfl, iC11, yC11_ok, nC11, by decide, by decide, tW_c5 (j := 232) rfl rfl, by decide, rfl, by decide +kernel⟩
theorem fa_11_334 : FA RC11 334 11 34 none := ⟨RC11, TC11, 44, rfl, iC11, by decide, by decide, tW_c5 (j := 230) rfl rfl, by decide⟩
theorem fa_11_331 : FA RC11 331 11 33 none := ⟨RC11, TC11, 44, rfl, iC11, by decide, by decide, tW_c5 (j := 229) rfl rfl, by decide⟩
theorem fv_11_343 : FV RC11 343 m11_offNow 11 3 := ⟨⟨tW_c7 (j := 207) rfl rfl, tW_c7 (j := 209) rfl rfl, tW_at (i := 103) (by decide +kernel) rfl, tW_c1 (j := 12) rfl rfl, tW_c7 (j := 210) rfl rfl⟩, ⟨by decide, by decide, by decide +kernel⟩, by decide, rfl⟩
theorem fa_11_337 : FA RC11 337 11 35 none := ⟨RC11, TC11, 44, rfl, iC11, by decide, by decide, tW_c5 (j := 231) rfl rfl, by decide⟩
theorem fa_11_328 : FA RC11 328 11 32 none := ⟨RC11, TC11, 44, rfl, iC11, by decide, by decide, tW_c5 (j := 228) rfl rfl, by decide⟩
theorem fv_11_358 : FV RC11 358 m11_denies 11 3 := ⟨⟨tW_c7 (j := 215) rfl rfl, tW_c7 (j := 217) rfl rfl, tW_at (i := 105) (by decide +kernel) rfl, tW_c1 (j := 12) rfl rfl, tW_c7 (j := 218) rfl rfl⟩, ⟨by decide, by decide, by decide +kernel⟩, by decide, rfl⟩
theorem fv_11_355 : FV RC11 355 m11_agrees 11 3 := ⟨⟨tW_c7 (j := 211) rfl rfl, tW_c7 (j := 213) rfl rfl, tW_at (i := 104) (by decide +kernel) rfl, tW_c1 (j := 12) rfl rfl, tW_c7 (j := 214) rfl rfl⟩, ⟨by decide, by decide, by decide +kernel⟩, by decide, rfl⟩
theorem fv_11_352 : FV RC11 352 m11_quarrels 11 4 := ⟨⟨tW_c7 (j := 203) rfl rfl, tW_c7 (j := 205) rfl rfl, tW_at (i := 102) (by decide +kernel) rfl, tW_c1 (j := 12) rfl rfl, tW_c7 (j := 206) rfl rfl⟩, ⟨by decide, by decide, by decide +kernel⟩, by decide, rfl⟩
theorem fv_11_349 : FV RC11 349 m11_tells 11 2 := ⟨⟨tW_c7 (j := 199) rfl rfl, tW_c7 (j := 201) rfl rfl, tW_at (i := 101) (by decide +kernel) rfl, tW_c1 (j := 12) rfl rfl, tW_c7 (j := 202) rfl rfl⟩, ⟨by decide, by decide, by decide +kernel⟩, by decide, rfl⟩
theorem fv_11_346 : FV RC11 346 m11_cools 11 0 := ⟨⟨tW_c7 (j := 195) rfl rfl, tW_c7 (j := 197) rfl rfl, tW_at (i := 100) (by decide +kernel) rfl, tW_c1 (j := 12) rfl rfl, tW_c7 (j := 198) rfl rfl⟩, ⟨by decide, by decide, by decide +kernel⟩, by decide, rfl⟩
theorem fv_11_361 : FV RC11 361 m11_does 11 5 := ⟨⟨tW_c7 (j := 191) rfl rfl, tW_c7 (j := 193) rfl rfl, tW_at (i := 99) (by decide +kernel) rfl, tW_c1 (j := 12) rfl rfl, tW_c7 (j := 194) rfl rfl⟩, ⟨by decide, by decide, by decide +kernel⟩, by decide, rfl⟩
theorem fa_11_340 : FA RC11 340 11 36 none := ⟨RC11, TC11, 44, rfl, iC11, by decide, by decide, tW_c5 (j := 232) rfl rfl, by decide⟩
theorem fv_11_368 : FV RC11 368 m11_doesTold 11 1 := ⟨⟨tW_c7 (j := 187) rfl rfl, tW_c7 (j := 189) rfl rfl, tW_at (i := 98) (by decide +kernel) rfl, tW_c1 (j := 12) rfl rfl, tW_c7 (j := 190) rfl rfl⟩, ⟨by decide, by decide, by decide +kernel⟩, by decide, rfl⟩
theorem fv_11_365 : FV RC11 365 m11_begins 11 0 := ⟨⟨tW_c7 (j := 183) rfl rfl, tW_c7 (j := 185) rfl rfl, tW_at (i := 97) (by decide +kernel) rfl, tW_c1 (j := 12) rfl rfl, tW_c7 (j := 186) rfl rfl⟩, ⟨by decide, by decide, by decide +kernel⟩, by decide, rfl⟩
theorem fv_11_371 : FV RC11 371 m11_runs 11 1 := ⟨⟨tW_c7 (j := 179) rfl rfl, tW_c7 (j := 181) rfl rfl, tW_at (i := 96) (by decide +kernel) rfl, tW_c1 (j := 12) rfl rfl, tW_c7 (j := 182) rfl rfl⟩, ⟨by decide, by decide, by decide +kernel⟩, by decide, rfl⟩
theorem fv_11_374 : FV RC11 374 m11_isCosy 11 0 := ⟨⟨tW_c7 (j := 223) rfl rfl, tW_c7 (j := 225) rfl rfl, tW_at (i := 106) (by decide +kernel) rfl, tW_c1 (j := 12) rfl rfl, tW_c7 (j := 226) rfl rfl⟩, ⟨by decide, by decide, by decide +kernel⟩, by decide, rfl⟩
theorem fa_11_74 : FA RC11 74 11 40 (some 22) := ⟨RC11, TC11, 44, rfl, iC11, by decide, by decide, tW_c5 (j := 236) rfl rfl, by decide⟩
theorem fv_11_377 : FV RC11 377 m11_nowOf 11 1 := ⟨⟨tW_c7 (j := 231) rfl rfl, tW_c7 (j := 233) rfl rfl, tW_at (i := 107) (by decide +kernel) rfl, tW_c1 (j := 12) rfl rfl, tW_c7 (j := 234) rfl rfl⟩, ⟨by decide, by decide, by decide +kernel⟩, by decide, rfl⟩
theorem fp_11_380 : FP RC11 380 11 41 .int := ⟨RC11, TC11, 44, yC11, rfl, iC11, yC11_ok, nC11, by decide, by decide, tW_c5 (j := 237) rfl rfl, by decide, rfl, by decide +kernel⟩
theorem fv_11_383 : FV RC11 383 m11_isLog 11 1 := ⟨⟨tW_c7 (j := 239) rfl rfl, tW_c8 (j := 1) rfl rfl, tW_at (i := 108) (by decide +kernel) rfl, tW_c1 (j := 12) rfl rfl, tW_c8 (j := 2) rfl rfl⟩, ⟨by decide, by decide, by decide +kernel⟩, by decide, rfl⟩
theorem fa_11_380 : FA RC11 380 11 41 none := ⟨RC11, TC11, 44, rfl, iC11, by decide, by decide, tW_c5 (j := 237) rfl rfl, by decide⟩
theorem fv_11_386 : FV RC11 386 m11_isSo 11 1 := ⟨⟨tW_c8 (j := 11) rfl rfl, tW_c8 (j := 13) rfl rfl, tW_at (i := 110) (by decide +kernel) rfl, tW_c1 (j := 12) rfl rfl, tW_c8 (j := 14) rfl rfl⟩, ⟨by decide, by decide, by decide +kernel⟩, by decide, rfl⟩
theorem fa_11_77 : FA RC11 77 11 42 (some 23) := ⟨RC11, TC11, 44, rfl, iC11, by decide, by decide, tW_c5 (j := 238) rfl rfl, by decide⟩
theorem fv_11_389 : FV RC11 389 m11_greatestBy 11 2 := ⟨⟨tW_c8 (j := 23) rfl rfl, tW_c8 (j := 25) rfl rfl, tW_at (i := 112) (by decide +kernel) rfl, tW_c1 (j := 12) rfl rfl, tW_c8 (j := 26) rfl rfl⟩, ⟨by decide, by decide, by decide +kernel⟩, by decide, rfl⟩
theorem fv_11_392 : FV RC11 392 m11_areThere 11 0 := ⟨⟨tW_c8 (j := 7) rfl rfl, tW_c8 (j := 9) rfl rfl, tW_at (i := 109) (by decide +kernel) rfl, tW_c1 (j := 12) rfl rfl, tW_c8 (j := 10) rfl rfl⟩, ⟨by decide, by decide, by decide +kernel⟩, by decide, rfl⟩
theorem fv_11_395 : FV RC11 395 m11_askOf 11 0 := ⟨⟨tW_c8 (j := 19) rfl rfl, tW_c8 (j := 21) rfl rfl, tW_at (i := 111) (by decide +kernel) rfl, tW_c1 (j := 12) rfl rfl, tW_c8 (j := 22) rfl rfl⟩, ⟨by decide, by decide, by decide +kernel⟩, by decide, rfl⟩
theorem fa_11_398 : FA RC11 398 11 43 none := ⟨RC11, TC11, 44, rfl, iC11, by decide, by decide, tW_c5 (j := 239) rfl rfl, by decide⟩
theorem kc_11_401 : Cond.constant RC11 401 (Int32.ofInt 1103515245) ∈ tW := tW_c8 (j := 39) rfl rfl
theorem fp_11_398 : FP RC11 398 11 43 .int := ⟨RC11, TC11, 44, yC11, rfl, iC11, yC11_ok, nC11, by decide, by decide, tW_c5 (j := 239) rfl rfl, by decide, rfl, by decide +kernel⟩
theorem fv_11_402 : FV RC11 402 m11_below 11 1 := ⟨⟨tW_c8 (j := 35) rfl rfl, tW_c8 (j := 37) rfl rfl, tW_at (i := 114) (by decide +kernel) rfl, tW_c1 (j := 12) rfl rfl, tW_c8 (j := 38) rfl rfl⟩, ⟨by decide, by decide, by decide +kernel⟩, by decide, rfl⟩
theorem fv_11_405 : FV RC11 405 m11_draws 11 0 := ⟨⟨tW_c8 (j := 31) rfl rfl, tW_c8 (j := 33) rfl rfl, tW_at (i := 113) (by decide +kernel) rfl, tW_c1 (j := 12) rfl rfl, tW_c8 (j := 34) rfl rfl⟩, ⟨by decide, by decide, by decide +kernel⟩, by decide, rfl⟩
theorem fa_11_13 : FA RC11 13 11 1 (some 2) := ⟨RC11, TC11, 44, rfl, iC11, by decide, by decide, tW_c5 (j := 197) rfl rfl, by decide⟩
theorem fv_14_13 : FV RC14 13 m10_feed 10 5 := ⟨⟨tW_c2 (j := 153) rfl rfl, tW_c2 (j := 154) rfl rfl, tW_c2 (j := 155) rfl rfl, tW_c1 (j := 1) rfl rfl, tW_c2 (j := 156) rfl rfl⟩, ⟨by decide, by decide, by decide +kernel⟩, by decide, rfl⟩
theorem fv_14_17 : FV RC14 17 m11_feed 11 5 := ⟨⟨tW_c6 (j := 90) rfl rfl, tW_c6 (j := 91) rfl rfl, tW_c6 (j := 92) rfl rfl, tW_c1 (j := 12) rfl rfl, tW_c6 (j := 93) rfl rfl⟩, ⟨by decide, by decide, by decide +kernel⟩, by decide, rfl⟩
theorem fv_14_18 : FV RC14 18 m10_end 10 1 := ⟨⟨tW_c2 (j := 161) rfl rfl, tW_c2 (j := 162) rfl rfl, tW_c2 (j := 163) rfl rfl, tW_c1 (j := 1) rfl rfl, tW_c2 (j := 164) rfl rfl⟩, ⟨by decide, by decide, by decide +kernel⟩, by decide, rfl⟩
theorem fv_14_22 : FV RC14 22 m11_end 11 1 := ⟨⟨tW_c6 (j := 94) rfl rfl, tW_c6 (j := 95) rfl rfl, tW_c6 (j := 96) rfl rfl, tW_c1 (j := 12) rfl rfl, tW_c6 (j := 97) rfl rfl⟩, ⟨by decide, by decide, by decide +kernel⟩, by decide, rfl⟩
theorem fv_14_23 : FV RC14 23 m10_text 10 2 := ⟨⟨tW_c2 (j := 165) rfl rfl, tW_c2 (j := 166) rfl rfl, tW_c2 (j := 167) rfl rfl, tW_c1 (j := 1) rfl rfl, tW_c2 (j := 168) rfl rfl⟩, ⟨by decide, by decide, by decide +kernel⟩, by decide, rfl⟩
theorem fv_14_27 : FV RC14 27 m11_text 11 2 := ⟨⟨tW_c6 (j := 98) rfl rfl, tW_c6 (j := 99) rfl rfl, tW_c6 (j := 100) rfl rfl, tW_c1 (j := 12) rfl rfl, tW_c6 (j := 101) rfl rfl⟩, ⟨by decide, by decide, by decide +kernel⟩, by decide, rfl⟩
theorem fv_14_28 : FV RC14 28 m10_fault 10 1 := ⟨⟨tW_c3 (j := 124) rfl rfl, tW_c3 (j := 125) rfl rfl, tW_c3 (j := 126) rfl rfl, tW_c1 (j := 1) rfl rfl, tW_c3 (j := 127) rfl rfl⟩, ⟨by decide, by decide, by decide +kernel⟩, by decide, rfl⟩
theorem fv_14_31 : FV RC14 31 m11_fault 11 1 := ⟨⟨tW_c6 (j := 181) rfl rfl, tW_c6 (j := 182) rfl rfl, tW_c6 (j := 183) rfl rfl, tW_c1 (j := 12) rfl rfl, tW_c6 (j := 184) rfl rfl⟩, ⟨by decide, by decide, by decide +kernel⟩, by decide, rfl⟩
theorem fv_14_32 : FV RC14 32 m10_village 10 2 := ⟨⟨tW_c3 (j := 128) rfl rfl, tW_c3 (j := 129) rfl rfl, tW_c3 (j := 130) rfl rfl, tW_c1 (j := 1) rfl rfl, tW_c3 (j := 131) rfl rfl⟩, ⟨by decide, by decide, by decide +kernel⟩, by decide, rfl⟩
theorem fv_14_35 : FV RC14 35 m11_village 11 2 := ⟨⟨tW_c6 (j := 185) rfl rfl, tW_c6 (j := 186) rfl rfl, tW_c6 (j := 187) rfl rfl, tW_c1 (j := 12) rfl rfl, tW_c6 (j := 188) rfl rfl⟩, ⟨by decide, by decide, by decide +kernel⟩, by decide, rfl⟩
theorem fv_14_40 : FV RC14 40 m11_apart 11 5 := ⟨⟨tW_c6 (j := 221) rfl rfl, tW_c6 (j := 222) rfl rfl, tW_c6 (j := 223) rfl rfl, tW_c1 (j := 12) rfl rfl, tW_c6 (j := 224) rfl rfl⟩, ⟨by decide, by decide, by decide +kernel⟩, by decide, rfl⟩
theorem fv_14_36 : FV RC14 36 m10_apart 10 5 := ⟨⟨tW_c3 (j := 164) rfl rfl, tW_c3 (j := 165) rfl rfl, tW_c3 (j := 166) rfl rfl, tW_c1 (j := 1) rfl rfl, tW_c3 (j := 167) rfl rfl⟩, ⟨by decide, by decide, by decide +kernel⟩, by decide, rfl⟩
theorem fv_14_41 : FV RC14 41 m10_deed 10 3 := ⟨⟨tW_c3 (j := 185) rfl rfl, tW_c3 (j := 186) rfl rfl, tW_c3 (j := 187) rfl rfl, tW_c1 (j := 1) rfl rfl, tW_c3 (j := 188) rfl rfl⟩, ⟨by decide, by decide, by decide +kernel⟩, by decide, rfl⟩
theorem fv_14_45 : FV RC14 45 m11_deed 11 3 := ⟨⟨tW_c7 (j := 167) rfl rfl, tW_c7 (j := 168) rfl rfl, tW_c7 (j := 169) rfl rfl, tW_c1 (j := 12) rfl rfl, tW_c7 (j := 170) rfl rfl⟩, ⟨by decide, by decide, by decide +kernel⟩, by decide, rfl⟩
theorem fv_14_46 : FV RC14 46 m10_stop 10 2 := ⟨⟨tW_c3 (j := 201) rfl rfl, tW_c3 (j := 202) rfl rfl, tW_c3 (j := 203) rfl rfl, tW_c1 (j := 1) rfl rfl, tW_c3 (j := 204) rfl rfl⟩, ⟨by decide, by decide, by decide +kernel⟩, by decide, rfl⟩
theorem fv_14_49 : FV RC14 49 m11_stop 11 2 := ⟨⟨tW_c7 (j := 175) rfl rfl, tW_c7 (j := 176) rfl rfl, tW_c7 (j := 177) rfl rfl, tW_c1 (j := 12) rfl rfl, tW_c7 (j := 178) rfl rfl⟩, ⟨by decide, by decide, by decide +kernel⟩, by decide, rfl⟩
theorem fv_14_50 : FV RC14 50 m10_state 10 4 := ⟨⟨tW_c4 (j := 23) rfl rfl, tW_c4 (j := 24) rfl rfl, tW_c4 (j := 25) rfl rfl, tW_c1 (j := 1) rfl rfl, tW_c4 (j := 26) rfl rfl⟩, ⟨by decide, by decide, by decide +kernel⟩, by decide, rfl⟩
theorem fv_14_54 : FV RC14 54 m11_state 11 4 := ⟨⟨tW_c7 (j := 227) rfl rfl, tW_c7 (j := 228) rfl rfl, tW_c7 (j := 229) rfl rfl, tW_c1 (j := 12) rfl rfl, tW_c7 (j := 230) rfl rfl⟩, ⟨by decide, by decide, by decide +kernel⟩, by decide, rfl⟩
theorem fv_14_59 : FV RC14 59 m11_keenest 11 4 := ⟨⟨tW_c6 (j := 236) rfl rfl, tW_c6 (j := 237) rfl rfl, tW_c6 (j := 238) rfl rfl, tW_c1 (j := 12) rfl rfl, tW_c6 (j := 239) rfl rfl⟩, ⟨by decide, by decide, by decide +kernel⟩, by decide, rfl⟩
theorem fv_14_55 : FV RC14 55 m10_keenest 10 4 := ⟨⟨tW_c4 (j := 36) rfl rfl, tW_c4 (j := 37) rfl rfl, tW_c4 (j := 38) rfl rfl, tW_c1 (j := 1) rfl rfl, tW_c4 (j := 39) rfl rfl⟩, ⟨by decide, by decide, by decide +kernel⟩, by decide, rfl⟩
theorem fv_14_63 : FV RC14 63 m11_lasts 11 5 := ⟨⟨tW_c7 (j := 4) rfl rfl, tW_c7 (j := 5) rfl rfl, tW_c7 (j := 6) rfl rfl, tW_c1 (j := 12) rfl rfl, tW_c7 (j := 7) rfl rfl⟩, ⟨by decide, by decide, by decide +kernel⟩, by decide, rfl⟩
theorem fv_14_60 : FV RC14 60 m10_lasts 10 5 := ⟨⟨tW_c4 (j := 45) rfl rfl, tW_c4 (j := 46) rfl rfl, tW_c4 (j := 47) rfl rfl, tW_c1 (j := 1) rfl rfl, tW_c4 (j := 48) rfl rfl⟩, ⟨by decide, by decide, by decide +kernel⟩, by decide, rfl⟩
theorem fv_14_64 : FV RC14 64 m10_together 10 3 := ⟨⟨tW_c4 (j := 57) rfl rfl, tW_c4 (j := 58) rfl rfl, tW_c4 (j := 59) rfl rfl, tW_c1 (j := 1) rfl rfl, tW_c4 (j := 60) rfl rfl⟩, ⟨by decide, by decide, by decide +kernel⟩, by decide, rfl⟩
theorem fv_14_67 : FV RC14 67 m11_together 11 3 := ⟨⟨tW_c7 (j := 16) rfl rfl, tW_c7 (j := 17) rfl rfl, tW_c7 (j := 18) rfl rfl, tW_c1 (j := 12) rfl rfl, tW_c7 (j := 19) rfl rfl⟩, ⟨by decide, by decide, by decide +kernel⟩, by decide, rfl⟩
theorem fv_14_68 : FV RC14 68 m10_plan 10 2 := ⟨⟨tW_c4 (j := 67) rfl rfl, tW_c4 (j := 68) rfl rfl, tW_c4 (j := 69) rfl rfl, tW_c1 (j := 1) rfl rfl, tW_c4 (j := 70) rfl rfl⟩, ⟨by decide, by decide, by decide +kernel⟩, by decide, rfl⟩
theorem fv_14_71 : FV RC14 71 m11_plan 11 2 := ⟨⟨tW_c7 (j := 24) rfl rfl, tW_c7 (j := 25) rfl rfl, tW_c7 (j := 26) rfl rfl, tW_c1 (j := 12) rfl rfl, tW_c7 (j := 27) rfl rfl⟩, ⟨by decide, by decide, by decide +kernel⟩, by decide, rfl⟩
theorem fv_14_72 : FV RC14 72 m10_married 10 2 := ⟨⟨tW_c4 (j := 103) rfl rfl, tW_c4 (j := 104) rfl rfl, tW_c4 (j := 105) rfl rfl, tW_c1 (j := 1) rfl rfl, tW_c4 (j := 106) rfl rfl⟩, ⟨by decide, by decide, by decide +kernel⟩, by decide, rfl⟩
theorem fv_14_75 : FV RC14 75 m11_married 11 2 := ⟨⟨tW_c7 (j := 36) rfl rfl, tW_c7 (j := 37) rfl rfl, tW_c7 (j := 38) rfl rfl, tW_c1 (j := 12) rfl rfl, tW_c7 (j := 39) rfl rfl⟩, ⟨by decide, by decide, by decide +kernel⟩, by decide, rfl⟩
theorem fv_14_80 : FV RC14 80 m11_hopes 11 6 := ⟨⟨tW_c7 (j := 48) rfl rfl, tW_c7 (j := 49) rfl rfl, tW_c7 (j := 50) rfl rfl, tW_c1 (j := 12) rfl rfl, tW_c7 (j := 51) rfl rfl⟩, ⟨by decide, by decide, by decide +kernel⟩, by decide, rfl⟩
theorem fv_14_76 : FV RC14 76 m10_hopes 10 6 := ⟨⟨tW_c4 (j := 135) rfl rfl, tW_c4 (j := 136) rfl rfl, tW_c4 (j := 137) rfl rfl, tW_c1 (j := 1) rfl rfl, tW_c4 (j := 138) rfl rfl⟩, ⟨by decide, by decide, by decide +kernel⟩, by decide, rfl⟩
theorem fv_14_81 : FV RC14 81 m10_fact 10 3 := ⟨⟨tW_c4 (j := 145) rfl rfl, tW_c4 (j := 146) rfl rfl, tW_c4 (j := 147) rfl rfl, tW_c1 (j := 1) rfl rfl, tW_c4 (j := 148) rfl rfl⟩, ⟨by decide, by decide, by decide +kernel⟩, by decide, rfl⟩
theorem fv_14_84 : FV RC14 84 m11_fact 11 3 := ⟨⟨tW_c7 (j := 235) rfl rfl, tW_c7 (j := 236) rfl rfl, tW_c7 (j := 237) rfl rfl, tW_c1 (j := 12) rfl rfl, tW_c7 (j := 238) rfl rfl⟩, ⟨by decide, by decide, by decide +kernel⟩, by decide, rfl⟩
theorem fv_14_85 : FV RC14 85 m10_fits 10 3 := ⟨⟨tW_c4 (j := 153) rfl rfl, tW_c4 (j := 154) rfl rfl, tW_c4 (j := 155) rfl rfl, tW_c1 (j := 1) rfl rfl, tW_c4 (j := 156) rfl rfl⟩, ⟨by decide, by decide, by decide +kernel⟩, by decide, rfl⟩
theorem fv_14_88 : FV RC14 88 m11_fits 11 3 := ⟨⟨tW_c8 (j := 15) rfl rfl, tW_c8 (j := 16) rfl rfl, tW_c8 (j := 17) rfl rfl, tW_c1 (j := 12) rfl rfl, tW_c8 (j := 18) rfl rfl⟩, ⟨by decide, by decide, by decide +kernel⟩, by decide, rfl⟩
theorem fv_14_89 : FV RC14 89 m10_drawn 10 4 := ⟨⟨tW_c4 (j := 192) rfl rfl, tW_c4 (j := 193) rfl rfl, tW_c4 (j := 194) rfl rfl, tW_c1 (j := 1) rfl rfl, tW_c4 (j := 195) rfl rfl⟩, ⟨by decide, by decide, by decide +kernel⟩, by decide, rfl⟩
theorem fv_14_92 : FV RC14 92 m11_drawn 11 4 := ⟨⟨tW_c8 (j := 27) rfl rfl, tW_c8 (j := 28) rfl rfl, tW_c8 (j := 29) rfl rfl, tW_c1 (j := 12) rfl rfl, tW_c8 (j := 30) rfl rfl⟩, ⟨by decide, by decide, by decide +kernel⟩, by decide, rfl⟩
theorem fv_14_93 : FV RC14 93 m10_spent 10 5 := ⟨⟨tW_c4 (j := 213) rfl rfl, tW_c4 (j := 214) rfl rfl, tW_c4 (j := 215) rfl rfl, tW_c1 (j := 1) rfl rfl, tW_c4 (j := 216) rfl rfl⟩, ⟨by decide, by decide, by decide +kernel⟩, by decide, rfl⟩
theorem fv_14_96 : FV RC14 96 m11_spent 11 5 := ⟨⟨tW_c7 (j := 60) rfl rfl, tW_c7 (j := 61) rfl rfl, tW_c7 (j := 62) rfl rfl, tW_c1 (j := 12) rfl rfl, tW_c7 (j := 63) rfl rfl⟩, ⟨by decide, by decide, by decide +kernel⟩, by decide, rfl⟩
theorem fv_14_97 : FV RC14 97 m10_kept 10 5 := ⟨⟨tW_c4 (j := 222) rfl rfl, tW_c4 (j := 223) rfl rfl, tW_c4 (j := 224) rfl rfl, tW_c1 (j := 1) rfl rfl, tW_c4 (j := 225) rfl rfl⟩, ⟨by decide, by decide, by decide +kernel⟩, by decide, rfl⟩
theorem fv_14_100 : FV RC14 100 m11_kept 11 5 := ⟨⟨tW_c7 (j := 64) rfl rfl, tW_c7 (j := 65) rfl rfl, tW_c7 (j := 66) rfl rfl, tW_c1 (j := 12) rfl rfl, tW_c7 (j := 67) rfl rfl⟩, ⟨by decide, by decide, by decide +kernel⟩, by decide, rfl⟩
theorem fv_14_101 : FV RC14 101 m10_calm 10 3 := ⟨⟨tW_c5 (j := 4) rfl rfl, tW_c5 (j := 5) rfl rfl, tW_c5 (j := 6) rfl rfl, tW_c1 (j := 1) rfl rfl, tW_c5 (j := 7) rfl rfl⟩, ⟨by decide, by decide, by decide +kernel⟩, by decide, rfl⟩
theorem fv_14_104 : FV RC14 104 m11_calm 11 3 := ⟨⟨tW_c7 (j := 80) rfl rfl, tW_c7 (j := 81) rfl rfl, tW_c7 (j := 82) rfl rfl, tW_c1 (j := 12) rfl rfl, tW_c7 (j := 83) rfl rfl⟩, ⟨by decide, by decide, by decide +kernel⟩, by decide, rfl⟩
theorem fv_14_108 : FV RC14 108 m11_hired 11 4 := ⟨⟨tW_c7 (j := 76) rfl rfl, tW_c7 (j := 77) rfl rfl, tW_c7 (j := 78) rfl rfl, tW_c1 (j := 12) rfl rfl, tW_c7 (j := 79) rfl rfl⟩, ⟨by decide, by decide, by decide +kernel⟩, by decide, rfl⟩
theorem fv_14_105 : FV RC14 105 m10_hired 10 4 := ⟨⟨tW_c5 (j := 39) rfl rfl, tW_c5 (j := 40) rfl rfl, tW_c5 (j := 41) rfl rfl, tW_c1 (j := 1) rfl rfl, tW_c5 (j := 42) rfl rfl⟩, ⟨by decide, by decide, by decide +kernel⟩, by decide, rfl⟩
theorem fv_14_109 : FV RC14 109 m10_filled 10 3 := ⟨⟨tW_c5 (j := 47) rfl rfl, tW_c5 (j := 48) rfl rfl, tW_c5 (j := 49) rfl rfl, tW_c1 (j := 1) rfl rfl, tW_c5 (j := 50) rfl rfl⟩, ⟨by decide, by decide, by decide +kernel⟩, by decide, rfl⟩
theorem fv_14_112 : FV RC14 112 m11_filled 11 3 := ⟨⟨tW_c7 (j := 104) rfl rfl, tW_c7 (j := 105) rfl rfl, tW_c7 (j := 106) rfl rfl, tW_c1 (j := 12) rfl rfl, tW_c7 (j := 107) rfl rfl⟩, ⟨by decide, by decide, by decide +kernel⟩, by decide, rfl⟩
theorem fv_14_117 : FV RC14 117 m11_halves 11 2 := ⟨⟨tW_c7 (j := 119) rfl rfl, tW_c7 (j := 120) rfl rfl, tW_c7 (j := 121) rfl rfl, tW_c1 (j := 12) rfl rfl, tW_c7 (j := 122) rfl rfl⟩, ⟨by decide, by decide, by decide +kernel⟩, by decide, rfl⟩
theorem fv_14_113 : FV RC14 113 m10_halves 10 2 := ⟨⟨tW_c5 (j := 59) rfl rfl, tW_c5 (j := 60) rfl rfl, tW_c5 (j := 61) rfl rfl, tW_c1 (j := 1) rfl rfl, tW_c5 (j := 62) rfl rfl⟩, ⟨by decide, by decide, by decide +kernel⟩, by decide, rfl⟩
theorem fv_14_118 : FV RC14 118 m10_circle 10 2 := ⟨⟨tW_c5 (j := 78) rfl rfl, tW_c5 (j := 79) rfl rfl, tW_c5 (j := 80) rfl rfl, tW_c1 (j := 1) rfl rfl, tW_c5 (j := 81) rfl rfl⟩, ⟨by decide, by decide, by decide +kernel⟩, by decide, rfl⟩
theorem fv_14_121 : FV RC14 121 m11_circle 11 2 := ⟨⟨tW_c7 (j := 127) rfl rfl, tW_c7 (j := 128) rfl rfl, tW_c7 (j := 129) rfl rfl, tW_c1 (j := 12) rfl rfl, tW_c7 (j := 130) rfl rfl⟩, ⟨by decide, by decide, by decide +kernel⟩, by decide, rfl⟩
theorem fv_14_122 : FV RC14 122 m10_kindred 10 2 := ⟨⟨tW_c5 (j := 99) rfl rfl, tW_c5 (j := 100) rfl rfl, tW_c5 (j := 101) rfl rfl, tW_c1 (j := 1) rfl rfl, tW_c5 (j := 102) rfl rfl⟩, ⟨by decide, by decide, by decide +kernel⟩, by decide, rfl⟩
theorem fv_14_125 : FV RC14 125 m11_kindred 11 2 := ⟨⟨tW_c7 (j := 139) rfl rfl, tW_c7 (j := 140) rfl rfl, tW_c7 (j := 141) rfl rfl, tW_c1 (j := 12) rfl rfl, tW_c7 (j := 142) rfl rfl⟩, ⟨by decide, by decide, by decide +kernel⟩, by decide, rfl⟩
theorem fv_14_130 : FV RC14 130 m11_mean 11 3 := ⟨⟨tW_c7 (j := 96) rfl rfl, tW_c7 (j := 97) rfl rfl, tW_c7 (j := 98) rfl rfl, tW_c1 (j := 12) rfl rfl, tW_c7 (j := 99) rfl rfl⟩, ⟨by decide, by decide, by decide +kernel⟩, by decide, rfl⟩
theorem fv_14_126 : FV RC14 126 m10_mean 10 3 := ⟨⟨tW_c5 (j := 141) rfl rfl, tW_c5 (j := 142) rfl rfl, tW_c5 (j := 143) rfl rfl, tW_c1 (j := 1) rfl rfl, tW_c5 (j := 144) rfl rfl⟩, ⟨by decide, by decide, by decide +kernel⟩, by decide, rfl⟩
theorem fv_14_131 : FV RC14 131 m10_after 10 3 := ⟨⟨tW_c5 (j := 145) rfl rfl, tW_c5 (j := 146) rfl rfl, tW_c5 (j := 147) rfl rfl, tW_c1 (j := 1) rfl rfl, tW_c5 (j := 148) rfl rfl⟩, ⟨by decide, by decide, by decide +kernel⟩, by decide, rfl⟩
theorem fv_14_134 : FV RC14 134 m11_after 11 3 := ⟨⟨tW_c7 (j := 219) rfl rfl, tW_c7 (j := 220) rfl rfl, tW_c7 (j := 221) rfl rfl, tW_c1 (j := 12) rfl rfl, tW_c7 (j := 222) rfl rfl⟩, ⟨by decide, by decide, by decide +kernel⟩, by decide, rfl⟩
theorem fv_14_138 : FV RC14 138 m11_next 11 5 := ⟨⟨tW_c8 (j := 3) rfl rfl, tW_c8 (j := 4) rfl rfl, tW_c8 (j := 5) rfl rfl, tW_c1 (j := 12) rfl rfl, tW_c8 (j := 6) rfl rfl⟩, ⟨by decide, by decide, by decide +kernel⟩, by decide, rfl⟩
theorem fv_14_135 : FV RC14 135 m10_next 10 5 := ⟨⟨tW_c5 (j := 153) rfl rfl, tW_c5 (j := 154) rfl rfl, tW_c5 (j := 155) rfl rfl, tW_c1 (j := 1) rfl rfl, tW_c5 (j := 156) rfl rfl⟩, ⟨by decide, by decide, by decide +kernel⟩, by decide, rfl⟩
theorem fv_14_143 : FV RC14 143 m11_farthest 11 3 := ⟨⟨tW_c7 (j := 100) rfl rfl, tW_c7 (j := 101) rfl rfl, tW_c7 (j := 102) rfl rfl, tW_c1 (j := 12) rfl rfl, tW_c7 (j := 103) rfl rfl⟩, ⟨by decide, by decide, by decide +kernel⟩, by decide, rfl⟩
theorem fv_14_139 : FV RC14 139 m10_farthest 10 3 := ⟨⟨tW_c5 (j := 161) rfl rfl, tW_c5 (j := 162) rfl rfl, tW_c5 (j := 163) rfl rfl, tW_c1 (j := 1) rfl rfl, tW_c5 (j := 164) rfl rfl⟩, ⟨by decide, by decide, by decide +kernel⟩, by decide, rfl⟩
theorem fv_14_144 : FV RC14 144 m10_quiet 10 1 := ⟨⟨tW_c5 (j := 165) rfl rfl, tW_c5 (j := 166) rfl rfl, tW_c5 (j := 167) rfl rfl, tW_c1 (j := 1) rfl rfl, tW_c5 (j := 168) rfl rfl⟩, ⟨by decide, by decide, by decide +kernel⟩, by decide, rfl⟩
theorem fv_14_147 : FV RC14 147 m11_quiet 11 1 := ⟨⟨tW_c7 (j := 163) rfl rfl, tW_c7 (j := 164) rfl rfl, tW_c7 (j := 165) rfl rfl, tW_c1 (j := 12) rfl rfl, tW_c7 (j := 166) rfl rfl⟩, ⟨by decide, by decide, by decide +kernel⟩, by decide, rfl⟩
theorem fv_14_148 : FV RC14 148 m10_count 10 1 := ⟨⟨tW_c5 (j := 173) rfl rfl, tW_c5 (j := 174) rfl rfl, tW_c5 (j := 175) rfl rfl, tW_c1 (j := 1) rfl rfl, tW_c5 (j := 176) rfl rfl⟩, ⟨by decide, by decide, by decide +kernel⟩, by decide, rfl⟩
theorem fv_14_151 : FV RC14 151 m11_count 11 1 := ⟨⟨tW_c8 (j := 40) rfl rfl, tW_c8 (j := 41) rfl rfl, tW_c8 (j := 42) rfl rfl, tW_c1 (j := 12) rfl rfl, tW_c8 (j := 43) rfl rfl⟩, ⟨by decide, by decide, by decide +kernel⟩, by decide, rfl⟩
theorem fv_14_152 : FV RC14 152 m10_image 10 1 := ⟨⟨tW_c5 (j := 177) rfl rfl, tW_c5 (j := 178) rfl rfl, tW_c5 (j := 179) rfl rfl, tW_c1 (j := 1) rfl rfl, tW_c5 (j := 180) rfl rfl⟩, ⟨by decide, by decide, by decide +kernel⟩, by decide, rfl⟩
theorem fv_14_156 : FV RC14 156 m11_image 11 1 := ⟨⟨tW_c8 (j := 44) rfl rfl, tW_c8 (j := 45) rfl rfl, tW_c8 (j := 46) rfl rfl, tW_c1 (j := 12) rfl rfl, tW_c8 (j := 47) rfl rfl⟩, ⟨by decide, by decide, by decide +kernel⟩, by decide, rfl⟩
theorem fv_14_157 : FV RC14 157 m10_again 10 1 := ⟨⟨tW_c5 (j := 186) rfl rfl, tW_c5 (j := 187) rfl rfl, tW_c5 (j := 188) rfl rfl, tW_c1 (j := 1) rfl rfl, tW_c5 (j := 189) rfl rfl⟩, ⟨by decide, by decide, by decide +kernel⟩, by decide, rfl⟩
theorem fv_14_160 : FV RC14 160 m11_again 11 1 := ⟨⟨tW_c8 (j := 48) rfl rfl, tW_c8 (j := 49) rfl rfl, tW_c8 (j := 50) rfl rfl, tW_c1 (j := 12) rfl rfl, tW_c8 (j := 51) rfl rfl⟩, ⟨by decide, by decide, by decide +kernel⟩, by decide, rfl⟩
