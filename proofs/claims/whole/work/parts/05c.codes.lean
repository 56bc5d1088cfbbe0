/-! THE WORDS of each method: its kind, its class; its code. -/
def wdOk (z : Nat) : Bool := (nmY z).cls == onN (oxY z) && clO z == (if Nat.blt (oxY z) 13 then oxY z else if oxY z == 13 then 40 else 99) && plainName (nmY z).cls && mb (wdT.getD z (0, 0, 0, 0)).2.1 (if isSt z then .static (nmY z) else .instanceMethod (nmY z)) && (isSt z || isIni z || mb (wdT.getD z (0, 0, 0, 0)).2.2.1 (.selects (onN (oxY z)) (nmY z) (nmY z))) && mb (wdT.getD z (0, 0, 0, 0)).2.2.2 (.initialized (onN (oxY z)))
def rtOk (z : Nat) : Bool := match rtY z with
  | none => rtK z == 0
  | some .int => rtK z == 1
  | some .boolean => rtK z == 2
  | some .long => rtK z == 3
  | some (.object _) => rtK z == 4
  | some (.array _) => rtK z == 4
  | some .byte => rtK z == 5
  | some .char => rtK z == 6
  | _ => false
set_option maxRecDepth 100000 in
theorem wd_0 : ((List.range 30).all fun k => wdOk (0 + k) && rtOk (0 + k)) = true := by decide +kernel
set_option maxRecDepth 100000 in
theorem wd_30 : ((List.range 30).all fun k => wdOk (30 + k) && rtOk (30 + k)) = true := by decide +kernel
set_option maxRecDepth 100000 in
theorem wd_60 : ((List.range 30).all fun k => wdOk (60 + k) && rtOk (60 + k)) = true := by decide +kernel
set_option maxRecDepth 100000 in
theorem wd_90 : ((List.range 30).all fun k => wdOk (90 + k) && rtOk (90 + k)) = true := by decide +kernel
set_option maxRecDepth 100000 in
theorem wd_120 : ((List.range 30).all fun k => wdOk (120 + k) && rtOk (120 + k)) = true := by decide +kernel
set_option maxRecDepth 100000 in
theorem wd_150 : ((List.range 30).all fun k => wdOk (150 + k) && rtOk (150 + k)) = true := by decide +kernel
set_option maxRecDepth 100000 in
theorem wd_180 : ((List.range 30).all fun k => wdOk (180 + k) && rtOk (180 + k)) = true := by decide +kernel
set_option maxRecDepth 100000 in
theorem wd_210 : ((List.range 30).all fun k => wdOk (210 + k) && rtOk (210 + k)) = true := by decide +kernel
set_option maxRecDepth 100000 in
theorem wd_240 : ((List.range 30).all fun k => wdOk (240 + k) && rtOk (240 + k)) = true := by decide +kernel
set_option maxRecDepth 100000 in
theorem wd_270 : ((List.range 28).all fun k => wdOk (270 + k) && rtOk (270 + k)) = true := by decide +kernel
set_option maxRecDepth 4000 in
theorem wc_0 : Cond.code (nmY 0) (bcY 0) (mxL 0) (rtY 0) ∈ tables_1_2 := List.mem_of_getElem? (i := 4) rfl
set_option maxRecDepth 4000 in
theorem wc_1 : Cond.code (nmY 1) (bcY 1) (mxL 1) (rtY 1) ∈ tables_1_3 := List.mem_of_getElem? (i := 206) rfl
set_option maxRecDepth 4000 in
theorem wc_2 : Cond.code (nmY 2) (bcY 2) (mxL 2) (rtY 2) ∈ tables_1_5 := List.mem_of_getElem? (i := 208) rfl
set_option maxRecDepth 4000 in
theorem wc_3 : Cond.code (nmY 3) (bcY 3) (mxL 3) (rtY 3) ∈ tables_1_5 := List.mem_of_getElem? (i := 212) rfl
set_option maxRecDepth 4000 in
theorem wc_4 : Cond.code (nmY 4) (bcY 4) (mxL 4) (rtY 4) ∈ tables_1_5 := List.mem_of_getElem? (i := 235) rfl
set_option maxRecDepth 4000 in
theorem wc_5 : Cond.code (nmY 5) (bcY 5) (mxL 5) (rtY 5) ∈ tables_1_6 := List.mem_of_getElem? (i := 3) rfl
set_option maxRecDepth 4000 in
theorem wc_6 : Cond.code (nmY 6) (bcY 6) (mxL 6) (rtY 6) ∈ tables_1_5 := List.mem_of_getElem? (i := 239) rfl
set_option maxRecDepth 4000 in
theorem wc_7 : Cond.code (nmY 7) (bcY 7) (mxL 7) (rtY 7) ∈ tables_1_6 := List.mem_of_getElem? (i := 7) rfl
set_option maxRecDepth 4000 in
theorem wc_8 : Cond.code (nmY 8) (bcY 8) (mxL 8) (rtY 8) ∈ tables_1_6 := List.mem_of_getElem? (i := 16) rfl
set_option maxRecDepth 4000 in
theorem wc_9 : Cond.code (nmY 9) (bcY 9) (mxL 9) (rtY 9) ∈ tables_1_6 := List.mem_of_getElem? (i := 11) rfl
set_option maxRecDepth 4000 in
theorem wc_10 : Cond.code (nmY 10) (bcY 10) (mxL 10) (rtY 10) ∈ tables_1_1 := List.mem_of_getElem? (i := 117) rfl
set_option maxRecDepth 4000 in
theorem wc_11 : Cond.code (nmY 11) (bcY 11) (mxL 11) (rtY 11) ∈ tables_1_4 := List.mem_of_getElem? (i := 46) rfl
set_option maxRecDepth 4000 in
theorem wc_12 : Cond.code (nmY 12) (bcY 12) (mxL 12) (rtY 12) ∈ tables_1_4 := List.mem_of_getElem? (i := 58) rfl
set_option maxRecDepth 4000 in
theorem wc_13 : Cond.code (nmY 13) (bcY 13) (mxL 13) (rtY 13) ∈ tables_1_4 := List.mem_of_getElem? (i := 66) rfl
set_option maxRecDepth 4000 in
theorem wc_14 : Cond.code (nmY 14) (bcY 14) (mxL 14) (rtY 14) ∈ tables_1_4 := List.mem_of_getElem? (i := 70) rfl
set_option maxRecDepth 4000 in
theorem wc_15 : Cond.code (nmY 15) (bcY 15) (mxL 15) (rtY 15) ∈ tables_1_4 := List.mem_of_getElem? (i := 62) rfl
set_option maxRecDepth 4000 in
theorem wc_16 : Cond.code (nmY 16) (bcY 16) (mxL 16) (rtY 16) ∈ tables_1_4 := List.mem_of_getElem? (i := 74) rfl
set_option maxRecDepth 4000 in
theorem wc_17 : Cond.code (nmY 17) (bcY 17) (mxL 17) (rtY 17) ∈ tables_1_4 := List.mem_of_getElem? (i := 140) rfl
set_option maxRecDepth 4000 in
theorem wc_18 : Cond.code (nmY 18) (bcY 18) (mxL 18) (rtY 18) ∈ tables_1_4 := List.mem_of_getElem? (i := 78) rfl
set_option maxRecDepth 4000 in
theorem wc_19 : Cond.code (nmY 19) (bcY 19) (mxL 19) (rtY 19) ∈ tables_1_4 := List.mem_of_getElem? (i := 136) rfl
set_option maxRecDepth 4000 in
theorem wc_20 : Cond.code (nmY 20) (bcY 20) (mxL 20) (rtY 20) ∈ tables_1_4 := List.mem_of_getElem? (i := 206) rfl
set_option maxRecDepth 4000 in
theorem wc_21 : Cond.code (nmY 21) (bcY 21) (mxL 21) (rtY 21) ∈ tables_1_4 := List.mem_of_getElem? (i := 197) rfl
set_option maxRecDepth 4000 in
theorem wc_22 : Cond.code (nmY 22) (bcY 22) (mxL 22) (rtY 22) ∈ tables_1_4 := List.mem_of_getElem? (i := 177) rfl
set_option maxRecDepth 4000 in
theorem wc_23 : Cond.code (nmY 23) (bcY 23) (mxL 23) (rtY 23) ∈ tables_1_5 := List.mem_of_getElem? (i := 93) rfl
set_option maxRecDepth 4000 in
theorem wc_24 : Cond.code (nmY 24) (bcY 24) (mxL 24) (rtY 24) ∈ tables_1_4 := List.mem_of_getElem? (i := 106) rfl
set_option maxRecDepth 4000 in
theorem wc_25 : Cond.code (nmY 25) (bcY 25) (mxL 25) (rtY 25) ∈ tables_1_4 := List.mem_of_getElem? (i := 110) rfl
set_option maxRecDepth 4000 in
theorem wc_26 : Cond.code (nmY 26) (bcY 26) (mxL 26) (rtY 26) ∈ tables_1_4 := List.mem_of_getElem? (i := 131) rfl
set_option maxRecDepth 4000 in
theorem wc_27 : Cond.code (nmY 27) (bcY 27) (mxL 27) (rtY 27) ∈ tables_1_4 := List.mem_of_getElem? (i := 93) rfl
set_option maxRecDepth 4000 in
theorem wc_28 : Cond.code (nmY 28) (bcY 28) (mxL 28) (rtY 28) ∈ tables_1_4 := List.mem_of_getElem? (i := 101) rfl
set_option maxRecDepth 4000 in
theorem wc_29 : Cond.code (nmY 29) (bcY 29) (mxL 29) (rtY 29) ∈ tables_1_5 := List.mem_of_getElem? (i := 171) rfl
set_option maxRecDepth 4000 in
theorem wc_30 : Cond.code (nmY 30) (bcY 30) (mxL 30) (rtY 30) ∈ tables_1_4 := List.mem_of_getElem? (i := 115) rfl
set_option maxRecDepth 4000 in
theorem wc_31 : Cond.code (nmY 31) (bcY 31) (mxL 31) (rtY 31) ∈ tables_1_4 := List.mem_of_getElem? (i := 223) rfl
set_option maxRecDepth 4000 in
theorem wc_32 : Cond.code (nmY 32) (bcY 32) (mxL 32) (rtY 32) ∈ tables_1_4 := List.mem_of_getElem? (i := 127) rfl
set_option maxRecDepth 4000 in
theorem wc_33 : Cond.code (nmY 33) (bcY 33) (mxL 33) (rtY 33) ∈ tables_1_4 := List.mem_of_getElem? (i := 123) rfl
set_option maxRecDepth 4000 in
theorem wc_34 : Cond.code (nmY 34) (bcY 34) (mxL 34) (rtY 34) ∈ tables_1_5 := List.mem_of_getElem? (i := 77) rfl
set_option maxRecDepth 4000 in
theorem wc_35 : Cond.code (nmY 35) (bcY 35) (mxL 35) (rtY 35) ∈ tables_1_4 := List.mem_of_getElem? (i := 89) rfl
set_option maxRecDepth 4000 in
theorem wc_36 : Cond.code (nmY 36) (bcY 36) (mxL 36) (rtY 36) ∈ tables_1_4 := List.mem_of_getElem? (i := 85) rfl
set_option maxRecDepth 4000 in
theorem wc_37 : Cond.code (nmY 37) (bcY 37) (mxL 37) (rtY 37) ∈ tables_1_4 := List.mem_of_getElem? (i := 202) rfl
set_option maxRecDepth 4000 in
theorem wc_38 : Cond.code (nmY 38) (bcY 38) (mxL 38) (rtY 38) ∈ tables_1_4 := List.mem_of_getElem? (i := 145) rfl
set_option maxRecDepth 4000 in
theorem wc_39 : Cond.code (nmY 39) (bcY 39) (mxL 39) (rtY 39) ∈ tables_1_2 := List.mem_of_getElem? (i := 29) rfl
set_option maxRecDepth 4000 in
theorem wc_40 : Cond.code (nmY 40) (bcY 40) (mxL 40) (rtY 40) ∈ tables_1_2 := List.mem_of_getElem? (i := 66) rfl
set_option maxRecDepth 4000 in
theorem wc_41 : Cond.code (nmY 41) (bcY 41) (mxL 41) (rtY 41) ∈ tables_1_4 := List.mem_of_getElem? (i := 97) rfl
set_option maxRecDepth 4000 in
theorem wc_42 : Cond.code (nmY 42) (bcY 42) (mxL 42) (rtY 42) ∈ tables_1_3 := List.mem_of_getElem? (i := 197) rfl
set_option maxRecDepth 4000 in
theorem wc_43 : Cond.code (nmY 43) (bcY 43) (mxL 43) (rtY 43) ∈ tables_1_3 := List.mem_of_getElem? (i := 147) rfl
set_option maxRecDepth 4000 in
theorem wc_44 : Cond.code (nmY 44) (bcY 44) (mxL 44) (rtY 44) ∈ tables_1_3 := List.mem_of_getElem? (i := 143) rfl
set_option maxRecDepth 4000 in
theorem wc_45 : Cond.code (nmY 45) (bcY 45) (mxL 45) (rtY 45) ∈ tables_1_3 := List.mem_of_getElem? (i := 163) rfl
set_option maxRecDepth 4000 in
theorem wc_46 : Cond.code (nmY 46) (bcY 46) (mxL 46) (rtY 46) ∈ tables_1_3 := List.mem_of_getElem? (i := 159) rfl
set_option maxRecDepth 4000 in
theorem wc_47 : Cond.code (nmY 47) (bcY 47) (mxL 47) (rtY 47) ∈ tables_1_4 := List.mem_of_getElem? (i := 52) rfl
set_option maxRecDepth 4000 in
theorem wc_48 : Cond.code (nmY 48) (bcY 48) (mxL 48) (rtY 48) ∈ tables_1_4 := List.mem_of_getElem? (i := 12) rfl
set_option maxRecDepth 4000 in
theorem wc_49 : Cond.code (nmY 49) (bcY 49) (mxL 49) (rtY 49) ∈ tables_1_4 := List.mem_of_getElem? (i := 24) rfl
set_option maxRecDepth 4000 in
theorem wc_50 : Cond.code (nmY 50) (bcY 50) (mxL 50) (rtY 50) ∈ tables_1_4 := List.mem_of_getElem? (i := 119) rfl
set_option maxRecDepth 4000 in
theorem wc_51 : Cond.code (nmY 51) (bcY 51) (mxL 51) (rtY 51) ∈ tables_1_6 := List.mem_of_getElem? (i := 24) rfl
set_option maxRecDepth 4000 in
theorem wc_52 : Cond.code (nmY 52) (bcY 52) (mxL 52) (rtY 52) ∈ tables_1_5 := List.mem_of_getElem? (i := 139) rfl
set_option maxRecDepth 4000 in
theorem wc_53 : Cond.code (nmY 53) (bcY 53) (mxL 53) (rtY 53) ∈ tables_1_5 := List.mem_of_getElem? (i := 134) rfl
set_option maxRecDepth 4000 in
theorem wc_54 : Cond.code (nmY 54) (bcY 54) (mxL 54) (rtY 54) ∈ tables_1_5 := List.mem_of_getElem? (i := 117) rfl
set_option maxRecDepth 4000 in
theorem wc_55 : Cond.code (nmY 55) (bcY 55) (mxL 55) (rtY 55) ∈ tables_1_5 := List.mem_of_getElem? (i := 143) rfl
set_option maxRecDepth 4000 in
theorem wc_56 : Cond.code (nmY 56) (bcY 56) (mxL 56) (rtY 56) ∈ tables_1_5 := List.mem_of_getElem? (i := 147) rfl
set_option maxRecDepth 4000 in
theorem wc_57 : Cond.code (nmY 57) (bcY 57) (mxL 57) (rtY 57) ∈ tables_1_1 := List.mem_of_getElem? (i := 226) rfl
set_option maxRecDepth 4000 in
theorem wc_58 : Cond.code (nmY 58) (bcY 58) (mxL 58) (rtY 58) ∈ tables_1_4 := List.mem_of_getElem? (i := 231) rfl
set_option maxRecDepth 4000 in
theorem wc_59 : Cond.code (nmY 59) (bcY 59) (mxL 59) (rtY 59) ∈ tables_1_5 := List.mem_of_getElem? (i := 8) rfl
set_option maxRecDepth 4000 in
theorem wc_60 : Cond.code (nmY 60) (bcY 60) (mxL 60) (rtY 60) ∈ tables_1_4 := List.mem_of_getElem? (i := 237) rfl
set_option maxRecDepth 4000 in
theorem wc_61 : Cond.code (nmY 61) (bcY 61) (mxL 61) (rtY 61) ∈ tables_1_5 := List.mem_of_getElem? (i := 12) rfl
set_option maxRecDepth 4000 in
theorem wc_62 : Cond.code (nmY 62) (bcY 62) (mxL 62) (rtY 62) ∈ tables_1_1 := List.mem_of_getElem? (i := 67) rfl
set_option maxRecDepth 4000 in
theorem wc_63 : Cond.code (nmY 63) (bcY 63) (mxL 63) (rtY 63) ∈ tables_1_2 := List.mem_of_getElem? (i := 210) rfl
set_option maxRecDepth 4000 in
theorem wc_64 : Cond.code (nmY 64) (bcY 64) (mxL 64) (rtY 64) ∈ tables_1_3 := List.mem_of_getElem? (i := 214) rfl
set_option maxRecDepth 4000 in
theorem wc_65 : Cond.code (nmY 65) (bcY 65) (mxL 65) (rtY 65) ∈ tables_1_3 := List.mem_of_getElem? (i := 5) rfl
set_option maxRecDepth 4000 in
theorem wc_66 : Cond.code (nmY 66) (bcY 66) (mxL 66) (rtY 66) ∈ tables_1_3 := List.mem_of_getElem? (i := 9) rfl
set_option maxRecDepth 4000 in
theorem wc_67 : Cond.code (nmY 67) (bcY 67) (mxL 67) (rtY 67) ∈ tables_1_3 := List.mem_of_getElem? (i := 84) rfl
set_option maxRecDepth 4000 in
theorem wc_68 : Cond.code (nmY 68) (bcY 68) (mxL 68) (rtY 68) ∈ tables_1_3 := List.mem_of_getElem? (i := 90) rfl
set_option maxRecDepth 4000 in
theorem wc_69 : Cond.code (nmY 69) (bcY 69) (mxL 69) (rtY 69) ∈ tables_1_3 := List.mem_of_getElem? (i := 179) rfl
set_option maxRecDepth 4000 in
theorem wc_70 : Cond.code (nmY 70) (bcY 70) (mxL 70) (rtY 70) ∈ tables_1_3 := List.mem_of_getElem? (i := 94) rfl
set_option maxRecDepth 4000 in
theorem wc_71 : Cond.code (nmY 71) (bcY 71) (mxL 71) (rtY 71) ∈ tables_1_3 := List.mem_of_getElem? (i := 116) rfl
set_option maxRecDepth 4000 in
theorem wc_72 : Cond.code (nmY 72) (bcY 72) (mxL 72) (rtY 72) ∈ tables_1_3 := List.mem_of_getElem? (i := 151) rfl
set_option maxRecDepth 4000 in
theorem wc_73 : Cond.code (nmY 73) (bcY 73) (mxL 73) (rtY 73) ∈ tables_1_3 := List.mem_of_getElem? (i := 183) rfl
set_option maxRecDepth 4000 in
theorem wc_74 : Cond.code (nmY 74) (bcY 74) (mxL 74) (rtY 74) ∈ tables_1_3 := List.mem_of_getElem? (i := 187) rfl
set_option maxRecDepth 4000 in
theorem wc_75 : Cond.code (nmY 75) (bcY 75) (mxL 75) (rtY 75) ∈ tables_1_3 := List.mem_of_getElem? (i := 120) rfl
set_option maxRecDepth 4000 in
theorem wc_76 : Cond.code (nmY 76) (bcY 76) (mxL 76) (rtY 76) ∈ tables_1_3 := List.mem_of_getElem? (i := 103) rfl
set_option maxRecDepth 4000 in
theorem wc_77 : Cond.code (nmY 77) (bcY 77) (mxL 77) (rtY 77) ∈ tables_1_3 := List.mem_of_getElem? (i := 201) rfl
set_option maxRecDepth 4000 in
theorem wc_78 : Cond.code (nmY 78) (bcY 78) (mxL 78) (rtY 78) ∈ tables_1_1 := List.mem_of_getElem? (i := 73) rfl
set_option maxRecDepth 4000 in
theorem wc_79 : Cond.code (nmY 79) (bcY 79) (mxL 79) (rtY 79) ∈ tables_1_3 := List.mem_of_getElem? (i := 124) rfl
set_option maxRecDepth 4000 in
theorem wc_80 : Cond.code (nmY 80) (bcY 80) (mxL 80) (rtY 80) ∈ tables_1_3 := List.mem_of_getElem? (i := 132) rfl
set_option maxRecDepth 4000 in
theorem wc_81 : Cond.code (nmY 81) (bcY 81) (mxL 81) (rtY 81) ∈ tables_1_3 := List.mem_of_getElem? (i := 175) rfl
set_option maxRecDepth 4000 in
theorem wc_82 : Cond.code (nmY 82) (bcY 82) (mxL 82) (rtY 82) ∈ tables_1_3 := List.mem_of_getElem? (i := 155) rfl
set_option maxRecDepth 4000 in
theorem wc_83 : Cond.code (nmY 83) (bcY 83) (mxL 83) (rtY 83) ∈ tables_1_3 := List.mem_of_getElem? (i := 136) rfl
set_option maxRecDepth 4000 in
theorem wc_84 : Cond.code (nmY 84) (bcY 84) (mxL 84) (rtY 84) ∈ tables_1_4 := List.mem_of_getElem? (i := 8) rfl
set_option maxRecDepth 4000 in
theorem wc_85 : Cond.code (nmY 85) (bcY 85) (mxL 85) (rtY 85) ∈ tables_1_4 := List.mem_of_getElem? (i := 15) rfl
set_option maxRecDepth 4000 in
theorem wc_86 : Cond.code (nmY 86) (bcY 86) (mxL 86) (rtY 86) ∈ tables_1_5 := List.mem_of_getElem? (i := 185) rfl
set_option maxRecDepth 4000 in
theorem wc_87 : Cond.code (nmY 87) (bcY 87) (mxL 87) (rtY 87) ∈ tables_1_2 := List.mem_of_getElem? (i := 35) rfl
set_option maxRecDepth 4000 in
theorem wc_88 : Cond.code (nmY 88) (bcY 88) (mxL 88) (rtY 88) ∈ tables_1_2 := List.mem_of_getElem? (i := 70) rfl
set_option maxRecDepth 4000 in
theorem wc_89 : Cond.code (nmY 89) (bcY 89) (mxL 89) (rtY 89) ∈ tables_1_3 := List.mem_of_getElem? (i := 112) rfl
set_option maxRecDepth 4000 in
theorem wc_90 : Cond.code (nmY 90) (bcY 90) (mxL 90) (rtY 90) ∈ tables_1_3 := List.mem_of_getElem? (i := 231) rfl
set_option maxRecDepth 4000 in
theorem wc_91 : Cond.code (nmY 91) (bcY 91) (mxL 91) (rtY 91) ∈ tables_1_3 := List.mem_of_getElem? (i := 99) rfl
set_option maxRecDepth 4000 in
theorem wc_92 : Cond.code (nmY 92) (bcY 92) (mxL 92) (rtY 92) ∈ tables_1_3 := List.mem_of_getElem? (i := 235) rfl
set_option maxRecDepth 4000 in
theorem wc_93 : Cond.code (nmY 93) (bcY 93) (mxL 93) (rtY 93) ∈ tables_1_4 := List.mem_of_getElem? (i := 0) rfl
set_option maxRecDepth 4000 in
theorem wc_94 : Cond.code (nmY 94) (bcY 94) (mxL 94) (rtY 94) ∈ tables_1_3 := List.mem_of_getElem? (i := 128) rfl
set_option maxRecDepth 4000 in
theorem wc_95 : Cond.code (nmY 95) (bcY 95) (mxL 95) (rtY 95) ∈ tables_1_5 := List.mem_of_getElem? (i := 121) rfl
set_option maxRecDepth 4000 in
theorem wc_96 : Cond.code (nmY 96) (bcY 96) (mxL 96) (rtY 96) ∈ tables_1_5 := List.mem_of_getElem? (i := 20) rfl
set_option maxRecDepth 4000 in
theorem wc_97 : Cond.code (nmY 97) (bcY 97) (mxL 97) (rtY 97) ∈ tables_1_5 := List.mem_of_getElem? (i := 26) rfl
set_option maxRecDepth 4000 in
theorem wc_98 : Cond.code (nmY 98) (bcY 98) (mxL 98) (rtY 98) ∈ tables_1_5 := List.mem_of_getElem? (i := 59) rfl
set_option maxRecDepth 4000 in
theorem wc_99 : Cond.code (nmY 99) (bcY 99) (mxL 99) (rtY 99) ∈ tables_1_4 := List.mem_of_getElem? (i := 28) rfl
set_option maxRecDepth 4000 in
theorem wc_100 : Cond.code (nmY 100) (bcY 100) (mxL 100) (rtY 100) ∈ tables_1_5 := List.mem_of_getElem? (i := 125) rfl
set_option maxRecDepth 4000 in
theorem wc_101 : Cond.code (nmY 101) (bcY 101) (mxL 101) (rtY 101) ∈ tables_1_5 := List.mem_of_getElem? (i := 129) rfl
set_option maxRecDepth 4000 in
theorem wc_102 : Cond.code (nmY 102) (bcY 102) (mxL 102) (rtY 102) ∈ tables_1_1 := List.mem_of_getElem? (i := 158) rfl
set_option maxRecDepth 4000 in
theorem wc_103 : Cond.code (nmY 103) (bcY 103) (mxL 103) (rtY 103) ∈ tables_1_3 := List.mem_of_getElem? (i := 219) rfl
set_option maxRecDepth 4000 in
theorem wc_104 : Cond.code (nmY 104) (bcY 104) (mxL 104) (rtY 104) ∈ tables_1_5 := List.mem_of_getElem? (i := 101) rfl
set_option maxRecDepth 4000 in
theorem wc_105 : Cond.code (nmY 105) (bcY 105) (mxL 105) (rtY 105) ∈ tables_1_4 := List.mem_of_getElem? (i := 164) rfl
set_option maxRecDepth 4000 in
theorem wc_106 : Cond.code (nmY 106) (bcY 106) (mxL 106) (rtY 106) ∈ tables_1_5 := List.mem_of_getElem? (i := 85) rfl
set_option maxRecDepth 4000 in
theorem wc_107 : Cond.code (nmY 107) (bcY 107) (mxL 107) (rtY 107) ∈ tables_1_4 := List.mem_of_getElem? (i := 160) rfl
set_option maxRecDepth 4000 in
theorem wc_108 : Cond.code (nmY 108) (bcY 108) (mxL 108) (rtY 108) ∈ tables_1_5 := List.mem_of_getElem? (i := 72) rfl
set_option maxRecDepth 4000 in
theorem wc_109 : Cond.code (nmY 109) (bcY 109) (mxL 109) (rtY 109) ∈ tables_1_5 := List.mem_of_getElem? (i := 81) rfl
set_option maxRecDepth 4000 in
theorem wc_110 : Cond.code (nmY 110) (bcY 110) (mxL 110) (rtY 110) ∈ tables_1_5 := List.mem_of_getElem? (i := 89) rfl
set_option maxRecDepth 4000 in
theorem wc_111 : Cond.code (nmY 111) (bcY 111) (mxL 111) (rtY 111) ∈ tables_1_5 := List.mem_of_getElem? (i := 105) rfl
set_option maxRecDepth 4000 in
theorem wc_112 : Cond.code (nmY 112) (bcY 112) (mxL 112) (rtY 112) ∈ tables_1_4 := List.mem_of_getElem? (i := 218) rfl
set_option maxRecDepth 4000 in
theorem wc_113 : Cond.code (nmY 113) (bcY 113) (mxL 113) (rtY 113) ∈ tables_1_1 := List.mem_of_getElem? (i := 199) rfl
set_option maxRecDepth 4000 in
theorem wc_114 : Cond.code (nmY 114) (bcY 114) (mxL 114) (rtY 114) ∈ tables_1_5 := List.mem_of_getElem? (i := 155) rfl
set_option maxRecDepth 4000 in
theorem wc_115 : Cond.code (nmY 115) (bcY 115) (mxL 115) (rtY 115) ∈ tables_1_5 := List.mem_of_getElem? (i := 162) rfl
set_option maxRecDepth 4000 in
theorem wc_116 : Cond.code (nmY 116) (bcY 116) (mxL 116) (rtY 116) ∈ tables_1_5 := List.mem_of_getElem? (i := 167) rfl
set_option maxRecDepth 4000 in
theorem wc_117 : Cond.code (nmY 117) (bcY 117) (mxL 117) (rtY 117) ∈ tables_1_5 := List.mem_of_getElem? (i := 176) rfl
set_option maxRecDepth 4000 in
theorem wc_118 : Cond.code (nmY 118) (bcY 118) (mxL 118) (rtY 118) ∈ tables_1_5 := List.mem_of_getElem? (i := 180) rfl
set_option maxRecDepth 4000 in
theorem wc_119 : Cond.code (nmY 119) (bcY 119) (mxL 119) (rtY 119) ∈ tables_1_5 := List.mem_of_getElem? (i := 194) rfl
set_option maxRecDepth 4000 in
theorem wc_120 : Cond.code (nmY 120) (bcY 120) (mxL 120) (rtY 120) ∈ tables_1_5 := List.mem_of_getElem? (i := 199) rfl
set_option maxRecDepth 4000 in
theorem wc_121 : Cond.code (nmY 121) (bcY 121) (mxL 121) (rtY 121) ∈ tables_1_1 := List.mem_of_getElem? (i := 32) rfl
set_option maxRecDepth 4000 in
theorem wc_122 : Cond.code (nmY 122) (bcY 122) (mxL 122) (rtY 122) ∈ tables_1_2 := List.mem_of_getElem? (i := 194) rfl
set_option maxRecDepth 4000 in
theorem wc_123 : Cond.code (nmY 123) (bcY 123) (mxL 123) (rtY 123) ∈ tables_1_2 := List.mem_of_getElem? (i := 198) rfl
set_option maxRecDepth 4000 in
theorem wc_124 : Cond.code (nmY 124) (bcY 124) (mxL 124) (rtY 124) ∈ tables_1_2 := List.mem_of_getElem? (i := 215) rfl
set_option maxRecDepth 4000 in
theorem wc_125 : Cond.code (nmY 125) (bcY 125) (mxL 125) (rtY 125) ∈ tables_1_3 := List.mem_of_getElem? (i := 80) rfl
set_option maxRecDepth 4000 in
theorem wc_126 : Cond.code (nmY 126) (bcY 126) (mxL 126) (rtY 126) ∈ tables_1_3 := List.mem_of_getElem? (i := 76) rfl
set_option maxRecDepth 4000 in
theorem wc_127 : Cond.code (nmY 127) (bcY 127) (mxL 127) (rtY 127) ∈ tables_1_3 := List.mem_of_getElem? (i := 1) rfl
set_option maxRecDepth 4000 in
theorem wc_128 : Cond.code (nmY 128) (bcY 128) (mxL 128) (rtY 128) ∈ tables_1_2 := List.mem_of_getElem? (i := 219) rfl
set_option maxRecDepth 4000 in
theorem wc_129 : Cond.code (nmY 129) (bcY 129) (mxL 129) (rtY 129) ∈ tables_1_2 := List.mem_of_getElem? (i := 223) rfl
set_option maxRecDepth 4000 in
theorem wc_130 : Cond.code (nmY 130) (bcY 130) (mxL 130) (rtY 130) ∈ tables_1_2 := List.mem_of_getElem? (i := 227) rfl
set_option maxRecDepth 4000 in
theorem wc_131 : Cond.code (nmY 131) (bcY 131) (mxL 131) (rtY 131) ∈ tables_1_3 := List.mem_of_getElem? (i := 107) rfl
set_option maxRecDepth 4000 in
theorem wc_132 : Cond.code (nmY 132) (bcY 132) (mxL 132) (rtY 132) ∈ tables_1_2 := List.mem_of_getElem? (i := 237) rfl
set_option maxRecDepth 4000 in
theorem wc_133 : Cond.code (nmY 133) (bcY 133) (mxL 133) (rtY 133) ∈ tables_1_3 := List.mem_of_getElem? (i := 14) rfl
set_option maxRecDepth 4000 in
theorem wc_134 : Cond.code (nmY 134) (bcY 134) (mxL 134) (rtY 134) ∈ tables_1_1 := List.mem_of_getElem? (i := 164) rfl
set_option maxRecDepth 4000 in
theorem wc_135 : Cond.code (nmY 135) (bcY 135) (mxL 135) (rtY 135) ∈ tables_1_2 := List.mem_of_getElem? (i := 74) rfl
set_option maxRecDepth 4000 in
theorem wc_136 : Cond.code (nmY 136) (bcY 136) (mxL 136) (rtY 136) ∈ tables_1_4 := List.mem_of_getElem? (i := 42) rfl
set_option maxRecDepth 4000 in
theorem wc_137 : Cond.code (nmY 137) (bcY 137) (mxL 137) (rtY 137) ∈ tables_1_3 := List.mem_of_getElem? (i := 167) rfl
set_option maxRecDepth 4000 in
theorem wc_138 : Cond.code (nmY 138) (bcY 138) (mxL 138) (rtY 138) ∈ tables_1_3 := List.mem_of_getElem? (i := 171) rfl
set_option maxRecDepth 4000 in
theorem wc_139 : Cond.code (nmY 139) (bcY 139) (mxL 139) (rtY 139) ∈ tables_1_5 := List.mem_of_getElem? (i := 221) rfl
set_option maxRecDepth 4000 in
theorem wc_140 : Cond.code (nmY 140) (bcY 140) (mxL 140) (rtY 140) ∈ tables_1_4 := List.mem_of_getElem? (i := 20) rfl
set_option maxRecDepth 4000 in
theorem wc_141 : Cond.code (nmY 141) (bcY 141) (mxL 141) (rtY 141) ∈ tables_1_5 := List.mem_of_getElem? (i := 44) rfl
set_option maxRecDepth 4000 in
theorem wc_142 : Cond.code (nmY 142) (bcY 142) (mxL 142) (rtY 142) ∈ tables_1_5 := List.mem_of_getElem? (i := 49) rfl
set_option maxRecDepth 4000 in
theorem wc_143 : Cond.code (nmY 143) (bcY 143) (mxL 143) (rtY 143) ∈ tables_1_1 := List.mem_of_getElem? (i := 24) rfl
set_option maxRecDepth 4000 in
theorem wc_144 : Cond.code (nmY 144) (bcY 144) (mxL 144) (rtY 144) ∈ tables_1_2 := List.mem_of_getElem? (i := 190) rfl
set_option maxRecDepth 4000 in
theorem wc_145 : Cond.code (nmY 145) (bcY 145) (mxL 145) (rtY 145) ∈ tables_1_2 := List.mem_of_getElem? (i := 202) rfl
set_option maxRecDepth 4000 in
theorem wc_146 : Cond.code (nmY 146) (bcY 146) (mxL 146) (rtY 146) ∈ tables_1_2 := List.mem_of_getElem? (i := 206) rfl
set_option maxRecDepth 4000 in
theorem wc_147 : Cond.code (nmY 147) (bcY 147) (mxL 147) (rtY 147) ∈ tables_1_3 := List.mem_of_getElem? (i := 210) rfl
set_option maxRecDepth 4000 in
theorem wc_148 : Cond.code (nmY 148) (bcY 148) (mxL 148) (rtY 148) ∈ tables_1_3 := List.mem_of_getElem? (i := 223) rfl
set_option maxRecDepth 4000 in
theorem wc_149 : Cond.code (nmY 149) (bcY 149) (mxL 149) (rtY 149) ∈ tables_1_3 := List.mem_of_getElem? (i := 227) rfl
set_option maxRecDepth 4000 in
theorem wc_150 : Cond.code (nmY 150) (bcY 150) (mxL 150) (rtY 150) ∈ tables_1_4 := List.mem_of_getElem? (i := 5) rfl
set_option maxRecDepth 4000 in
theorem wc_151 : Cond.code (nmY 151) (bcY 151) (mxL 151) (rtY 151) ∈ tables_1_4 := List.mem_of_getElem? (i := 34) rfl
set_option maxRecDepth 4000 in
theorem wc_152 : Cond.code (nmY 152) (bcY 152) (mxL 152) (rtY 152) ∈ tables_1_4 := List.mem_of_getElem? (i := 151) rfl
set_option maxRecDepth 4000 in
theorem wc_153 : Cond.code (nmY 153) (bcY 153) (mxL 153) (rtY 153) ∈ tables_1_4 := List.mem_of_getElem? (i := 156) rfl
set_option maxRecDepth 4000 in
theorem wc_154 : Cond.code (nmY 154) (bcY 154) (mxL 154) (rtY 154) ∈ tables_1_4 := List.mem_of_getElem? (i := 182) rfl
set_option maxRecDepth 4000 in
theorem wc_155 : Cond.code (nmY 155) (bcY 155) (mxL 155) (rtY 155) ∈ tables_1_4 := List.mem_of_getElem? (i := 193) rfl
set_option maxRecDepth 4000 in
theorem wc_156 : Cond.code (nmY 156) (bcY 156) (mxL 156) (rtY 156) ∈ tables_1_4 := List.mem_of_getElem? (i := 210) rfl
set_option maxRecDepth 4000 in
theorem wc_157 : Cond.code (nmY 157) (bcY 157) (mxL 157) (rtY 157) ∈ tables_1_4 := List.mem_of_getElem? (i := 214) rfl
set_option maxRecDepth 4000 in
theorem wc_158 : Cond.code (nmY 158) (bcY 158) (mxL 158) (rtY 158) ∈ tables_1_4 := List.mem_of_getElem? (i := 227) rfl
set_option maxRecDepth 4000 in
theorem wc_159 : Cond.code (nmY 159) (bcY 159) (mxL 159) (rtY 159) ∈ tables_1_5 := List.mem_of_getElem? (i := 16) rfl
set_option maxRecDepth 4000 in
theorem wc_160 : Cond.code (nmY 160) (bcY 160) (mxL 160) (rtY 160) ∈ tables_1_5 := List.mem_of_getElem? (i := 35) rfl
set_option maxRecDepth 4000 in
theorem wc_161 : Cond.code (nmY 161) (bcY 161) (mxL 161) (rtY 161) ∈ tables_1_5 := List.mem_of_getElem? (i := 39) rfl
set_option maxRecDepth 4000 in
theorem wc_162 : Cond.code (nmY 162) (bcY 162) (mxL 162) (rtY 162) ∈ tables_1_5 := List.mem_of_getElem? (i := 55) rfl
set_option maxRecDepth 4000 in
theorem wc_163 : Cond.code (nmY 163) (bcY 163) (mxL 163) (rtY 163) ∈ tables_1_5 := List.mem_of_getElem? (i := 63) rfl
set_option maxRecDepth 4000 in
theorem wc_164 : Cond.code (nmY 164) (bcY 164) (mxL 164) (rtY 164) ∈ tables_1_5 := List.mem_of_getElem? (i := 68) rfl
set_option maxRecDepth 4000 in
theorem wc_165 : Cond.code (nmY 165) (bcY 165) (mxL 165) (rtY 165) ∈ tables_1_5 := List.mem_of_getElem? (i := 97) rfl
set_option maxRecDepth 4000 in
theorem wc_166 : Cond.code (nmY 166) (bcY 166) (mxL 166) (rtY 166) ∈ tables_1_5 := List.mem_of_getElem? (i := 109) rfl
set_option maxRecDepth 4000 in
theorem wc_167 : Cond.code (nmY 167) (bcY 167) (mxL 167) (rtY 167) ∈ tables_1_5 := List.mem_of_getElem? (i := 113) rfl
set_option maxRecDepth 4000 in
theorem wc_168 : Cond.code (nmY 168) (bcY 168) (mxL 168) (rtY 168) ∈ tables_1_5 := List.mem_of_getElem? (i := 151) rfl
set_option maxRecDepth 4000 in
theorem wc_169 : Cond.code (nmY 169) (bcY 169) (mxL 169) (rtY 169) ∈ tables_1_5 := List.mem_of_getElem? (i := 190) rfl
set_option maxRecDepth 4000 in
theorem wc_170 : Cond.code (nmY 170) (bcY 170) (mxL 170) (rtY 170) ∈ tables_1_5 := List.mem_of_getElem? (i := 203) rfl
set_option maxRecDepth 4000 in
theorem wc_171 : Cond.code (nmY 171) (bcY 171) (mxL 171) (rtY 171) ∈ tables_1_5 := List.mem_of_getElem? (i := 217) rfl
set_option maxRecDepth 4000 in
theorem wc_172 : Cond.code (nmY 172) (bcY 172) (mxL 172) (rtY 172) ∈ tables_1_5 := List.mem_of_getElem? (i := 225) rfl
set_option maxRecDepth 4000 in
theorem wc_173 : Cond.code (nmY 173) (bcY 173) (mxL 173) (rtY 173) ∈ tables_1_5 := List.mem_of_getElem? (i := 231) rfl
set_option maxRecDepth 4000 in
theorem wc_174 : Cond.code (nmY 174) (bcY 174) (mxL 174) (rtY 174) ∈ tables_1_6 := List.mem_of_getElem? (i := 20) rfl
set_option maxRecDepth 4000 in
theorem wc_175 : Cond.code (nmY 175) (bcY 175) (mxL 175) (rtY 175) ∈ tables_1_4 := List.mem_of_getElem? (i := 38) rfl
set_option maxRecDepth 4000 in
theorem wc_176 : Cond.code (nmY 176) (bcY 176) (mxL 176) (rtY 176) ∈ tables_1_6 := List.mem_of_getElem? (i := 29) rfl
set_option maxRecDepth 4000 in
theorem wc_177 : Cond.code (nmY 177) (bcY 177) (mxL 177) (rtY 177) ∈ tables_1_7 := List.mem_of_getElem? (i := 82) rfl
set_option maxRecDepth 4000 in
theorem wc_178 : Cond.code (nmY 178) (bcY 178) (mxL 178) (rtY 178) ∈ tables_1_7 := List.mem_of_getElem? (i := 137) rfl
set_option maxRecDepth 4000 in
theorem wc_179 : Cond.code (nmY 179) (bcY 179) (mxL 179) (rtY 179) ∈ tables_1_8 := List.mem_of_getElem? (i := 149) rfl
set_option maxRecDepth 4000 in
theorem wc_180 : Cond.code (nmY 180) (bcY 180) (mxL 180) (rtY 180) ∈ tables_1_8 := List.mem_of_getElem? (i := 156) rfl
set_option maxRecDepth 4000 in
theorem wc_181 : Cond.code (nmY 181) (bcY 181) (mxL 181) (rtY 181) ∈ tables_1_7 := List.mem_of_getElem? (i := 71) rfl
set_option maxRecDepth 4000 in
theorem wc_182 : Cond.code (nmY 182) (bcY 182) (mxL 182) (rtY 182) ∈ tables_1_7 := List.mem_of_getElem? (i := 75) rfl
set_option maxRecDepth 4000 in
theorem wc_183 : Cond.code (nmY 183) (bcY 183) (mxL 183) (rtY 183) ∈ tables_1_7 := List.mem_of_getElem? (i := 79) rfl
set_option maxRecDepth 4000 in
theorem wc_184 : Cond.code (nmY 184) (bcY 184) (mxL 184) (rtY 184) ∈ tables_1_7 := List.mem_of_getElem? (i := 98) rfl
set_option maxRecDepth 4000 in
theorem wc_185 : Cond.code (nmY 185) (bcY 185) (mxL 185) (rtY 185) ∈ tables_1_7 := List.mem_of_getElem? (i := 101) rfl
set_option maxRecDepth 4000 in
theorem wc_186 : Cond.code (nmY 186) (bcY 186) (mxL 186) (rtY 186) ∈ tables_1_7 := List.mem_of_getElem? (i := 106) rfl
set_option maxRecDepth 4000 in
theorem wc_187 : Cond.code (nmY 187) (bcY 187) (mxL 187) (rtY 187) ∈ tables_1_7 := List.mem_of_getElem? (i := 94) rfl
set_option maxRecDepth 4000 in
theorem wc_188 : Cond.code (nmY 188) (bcY 188) (mxL 188) (rtY 188) ∈ tables_1_7 := List.mem_of_getElem? (i := 128) rfl
set_option maxRecDepth 4000 in
theorem wc_189 : Cond.code (nmY 189) (bcY 189) (mxL 189) (rtY 189) ∈ tables_1_7 := List.mem_of_getElem? (i := 110) rfl
set_option maxRecDepth 4000 in
theorem wc_190 : Cond.code (nmY 190) (bcY 190) (mxL 190) (rtY 190) ∈ tables_1_7 := List.mem_of_getElem? (i := 120) rfl
set_option maxRecDepth 4000 in
theorem wc_191 : Cond.code (nmY 191) (bcY 191) (mxL 191) (rtY 191) ∈ tables_1_7 := List.mem_of_getElem? (i := 223) rfl
set_option maxRecDepth 4000 in
theorem wc_192 : Cond.code (nmY 192) (bcY 192) (mxL 192) (rtY 192) ∈ tables_1_7 := List.mem_of_getElem? (i := 132) rfl
set_option maxRecDepth 4000 in
theorem wc_193 : Cond.code (nmY 193) (bcY 193) (mxL 193) (rtY 193) ∈ tables_1_6 := List.mem_of_getElem? (i := 34) rfl
set_option maxRecDepth 4000 in
theorem wc_194 : Cond.code (nmY 194) (bcY 194) (mxL 194) (rtY 194) ∈ tables_1_7 := List.mem_of_getElem? (i := 147) rfl
set_option maxRecDepth 4000 in
theorem wc_195 : Cond.code (nmY 195) (bcY 195) (mxL 195) (rtY 195) ∈ tables_1_7 := List.mem_of_getElem? (i := 124) rfl
set_option maxRecDepth 4000 in
theorem wc_196 : Cond.code (nmY 196) (bcY 196) (mxL 196) (rtY 196) ∈ tables_1_7 := List.mem_of_getElem? (i := 143) rfl
set_option maxRecDepth 4000 in
theorem wc_197 : Cond.code (nmY 197) (bcY 197) (mxL 197) (rtY 197) ∈ tables_1_7 := List.mem_of_getElem? (i := 155) rfl
set_option maxRecDepth 4000 in
theorem wc_198 : Cond.code (nmY 198) (bcY 198) (mxL 198) (rtY 198) ∈ tables_1_7 := List.mem_of_getElem? (i := 165) rfl
set_option maxRecDepth 4000 in
theorem wc_199 : Cond.code (nmY 199) (bcY 199) (mxL 199) (rtY 199) ∈ tables_1_7 := List.mem_of_getElem? (i := 177) rfl
set_option maxRecDepth 4000 in
theorem wc_200 : Cond.code (nmY 200) (bcY 200) (mxL 200) (rtY 200) ∈ tables_1_7 := List.mem_of_getElem? (i := 171) rfl
set_option maxRecDepth 4000 in
theorem wc_201 : Cond.code (nmY 201) (bcY 201) (mxL 201) (rtY 201) ∈ tables_1_7 := List.mem_of_getElem? (i := 195) rfl
set_option maxRecDepth 4000 in
theorem wc_202 : Cond.code (nmY 202) (bcY 202) (mxL 202) (rtY 202) ∈ tables_1_7 := List.mem_of_getElem? (i := 201) rfl
set_option maxRecDepth 4000 in
theorem wc_203 : Cond.code (nmY 203) (bcY 203) (mxL 203) (rtY 203) ∈ tables_1_7 := List.mem_of_getElem? (i := 207) rfl
set_option maxRecDepth 4000 in
theorem wc_204 : Cond.code (nmY 204) (bcY 204) (mxL 204) (rtY 204) ∈ tables_1_7 := List.mem_of_getElem? (i := 219) rfl
set_option maxRecDepth 4000 in
theorem wc_205 : Cond.code (nmY 205) (bcY 205) (mxL 205) (rtY 205) ∈ tables_1_7 := List.mem_of_getElem? (i := 161) rfl
set_option maxRecDepth 4000 in
theorem wc_206 : Cond.code (nmY 206) (bcY 206) (mxL 206) (rtY 206) ∈ tables_1_7 := List.mem_of_getElem? (i := 213) rfl
set_option maxRecDepth 4000 in
theorem wc_207 : Cond.code (nmY 207) (bcY 207) (mxL 207) (rtY 207) ∈ tables_1_7 := List.mem_of_getElem? (i := 114) rfl
set_option maxRecDepth 4000 in
theorem wc_208 : Cond.code (nmY 208) (bcY 208) (mxL 208) (rtY 208) ∈ tables_1_7 := List.mem_of_getElem? (i := 90) rfl
set_option maxRecDepth 4000 in
theorem wc_209 : Cond.code (nmY 209) (bcY 209) (mxL 209) (rtY 209) ∈ tables_1_7 := List.mem_of_getElem? (i := 86) rfl
set_option maxRecDepth 4000 in
theorem wc_210 : Cond.code (nmY 210) (bcY 210) (mxL 210) (rtY 210) ∈ tables_1_6 := List.mem_of_getElem? (i := 38) rfl
set_option maxRecDepth 4000 in
theorem wc_211 : Cond.code (nmY 211) (bcY 211) (mxL 211) (rtY 211) ∈ tables_1_7 := List.mem_of_getElem? (i := 227) rfl
set_option maxRecDepth 4000 in
theorem wc_212 : Cond.code (nmY 212) (bcY 212) (mxL 212) (rtY 212) ∈ tables_1_7 := List.mem_of_getElem? (i := 231) rfl
set_option maxRecDepth 4000 in
theorem wc_213 : Cond.code (nmY 213) (bcY 213) (mxL 213) (rtY 213) ∈ tables_1_8 := List.mem_of_getElem? (i := 3) rfl
set_option maxRecDepth 4000 in
theorem wc_214 : Cond.code (nmY 214) (bcY 214) (mxL 214) (rtY 214) ∈ tables_1_7 := List.mem_of_getElem? (i := 235) rfl
set_option maxRecDepth 4000 in
theorem wc_215 : Cond.code (nmY 215) (bcY 215) (mxL 215) (rtY 215) ∈ tables_1_7 := List.mem_of_getElem? (i := 239) rfl
set_option maxRecDepth 4000 in
theorem wc_216 : Cond.code (nmY 216) (bcY 216) (mxL 216) (rtY 216) ∈ tables_1_8 := List.mem_of_getElem? (i := 7) rfl
set_option maxRecDepth 4000 in
theorem wc_217 : Cond.code (nmY 217) (bcY 217) (mxL 217) (rtY 217) ∈ tables_1_8 := List.mem_of_getElem? (i := 11) rfl
set_option maxRecDepth 4000 in
theorem wc_218 : Cond.code (nmY 218) (bcY 218) (mxL 218) (rtY 218) ∈ tables_1_8 := List.mem_of_getElem? (i := 130) rfl
set_option maxRecDepth 4000 in
theorem wc_219 : Cond.code (nmY 219) (bcY 219) (mxL 219) (rtY 219) ∈ tables_1_8 := List.mem_of_getElem? (i := 21) rfl
set_option maxRecDepth 4000 in
theorem wc_220 : Cond.code (nmY 220) (bcY 220) (mxL 220) (rtY 220) ∈ tables_1_8 := List.mem_of_getElem? (i := 181) rfl
set_option maxRecDepth 4000 in
theorem wc_221 : Cond.code (nmY 221) (bcY 221) (mxL 221) (rtY 221) ∈ tables_1_8 := List.mem_of_getElem? (i := 26) rfl
set_option maxRecDepth 4000 in
theorem wc_222 : Cond.code (nmY 222) (bcY 222) (mxL 222) (rtY 222) ∈ tables_1_8 := List.mem_of_getElem? (i := 30) rfl
set_option maxRecDepth 4000 in
theorem wc_223 : Cond.code (nmY 223) (bcY 223) (mxL 223) (rtY 223) ∈ tables_1_8 := List.mem_of_getElem? (i := 17) rfl
set_option maxRecDepth 4000 in
theorem wc_224 : Cond.code (nmY 224) (bcY 224) (mxL 224) (rtY 224) ∈ tables_1_8 := List.mem_of_getElem? (i := 34) rfl
set_option maxRecDepth 4000 in
theorem wc_225 : Cond.code (nmY 225) (bcY 225) (mxL 225) (rtY 225) ∈ tables_1_8 := List.mem_of_getElem? (i := 42) rfl
set_option maxRecDepth 4000 in
theorem wc_226 : Cond.code (nmY 226) (bcY 226) (mxL 226) (rtY 226) ∈ tables_1_8 := List.mem_of_getElem? (i := 78) rfl
set_option maxRecDepth 4000 in
theorem wc_227 : Cond.code (nmY 227) (bcY 227) (mxL 227) (rtY 227) ∈ tables_1_8 := List.mem_of_getElem? (i := 70) rfl
set_option maxRecDepth 4000 in
theorem wc_228 : Cond.code (nmY 228) (bcY 228) (mxL 228) (rtY 228) ∈ tables_1_8 := List.mem_of_getElem? (i := 74) rfl
set_option maxRecDepth 4000 in
theorem wc_229 : Cond.code (nmY 229) (bcY 229) (mxL 229) (rtY 229) ∈ tables_1_8 := List.mem_of_getElem? (i := 90) rfl
set_option maxRecDepth 4000 in
theorem wc_230 : Cond.code (nmY 230) (bcY 230) (mxL 230) (rtY 230) ∈ tables_1_8 := List.mem_of_getElem? (i := 86) rfl
set_option maxRecDepth 4000 in
theorem wc_231 : Cond.code (nmY 231) (bcY 231) (mxL 231) (rtY 231) ∈ tables_1_8 := List.mem_of_getElem? (i := 62) rfl
set_option maxRecDepth 4000 in
theorem wc_232 : Cond.code (nmY 232) (bcY 232) (mxL 232) (rtY 232) ∈ tables_1_8 := List.mem_of_getElem? (i := 50) rfl
set_option maxRecDepth 4000 in
theorem wc_233 : Cond.code (nmY 233) (bcY 233) (mxL 233) (rtY 233) ∈ tables_1_8 := List.mem_of_getElem? (i := 58) rfl
set_option maxRecDepth 4000 in
theorem wc_234 : Cond.code (nmY 234) (bcY 234) (mxL 234) (rtY 234) ∈ tables_1_8 := List.mem_of_getElem? (i := 54) rfl
set_option maxRecDepth 4000 in
theorem wc_235 : Cond.code (nmY 235) (bcY 235) (mxL 235) (rtY 235) ∈ tables_1_8 := List.mem_of_getElem? (i := 46) rfl
set_option maxRecDepth 4000 in
theorem wc_236 : Cond.code (nmY 236) (bcY 236) (mxL 236) (rtY 236) ∈ tables_1_8 := List.mem_of_getElem? (i := 122) rfl
set_option maxRecDepth 4000 in
theorem wc_237 : Cond.code (nmY 237) (bcY 237) (mxL 237) (rtY 237) ∈ tables_1_8 := List.mem_of_getElem? (i := 38) rfl
set_option maxRecDepth 4000 in
theorem wc_238 : Cond.code (nmY 238) (bcY 238) (mxL 238) (rtY 238) ∈ tables_1_8 := List.mem_of_getElem? (i := 146) rfl
set_option maxRecDepth 4000 in
theorem wc_239 : Cond.code (nmY 239) (bcY 239) (mxL 239) (rtY 239) ∈ tables_1_8 := List.mem_of_getElem? (i := 114) rfl
set_option maxRecDepth 4000 in
theorem wc_240 : Cond.code (nmY 240) (bcY 240) (mxL 240) (rtY 240) ∈ tables_1_8 := List.mem_of_getElem? (i := 110) rfl
set_option maxRecDepth 4000 in
theorem wc_241 : Cond.code (nmY 241) (bcY 241) (mxL 241) (rtY 241) ∈ tables_1_8 := List.mem_of_getElem? (i := 118) rfl
set_option maxRecDepth 4000 in
theorem wc_242 : Cond.code (nmY 242) (bcY 242) (mxL 242) (rtY 242) ∈ tables_1_8 := List.mem_of_getElem? (i := 138) rfl
set_option maxRecDepth 4000 in
theorem wc_243 : Cond.code (nmY 243) (bcY 243) (mxL 243) (rtY 243) ∈ tables_1_8 := List.mem_of_getElem? (i := 134) rfl
set_option maxRecDepth 4000 in
theorem wc_244 : Cond.code (nmY 244) (bcY 244) (mxL 244) (rtY 244) ∈ tables_1_8 := List.mem_of_getElem? (i := 126) rfl
set_option maxRecDepth 4000 in
theorem wc_245 : Cond.code (nmY 245) (bcY 245) (mxL 245) (rtY 245) ∈ tables_1_8 := List.mem_of_getElem? (i := 106) rfl
set_option maxRecDepth 4000 in
theorem wc_246 : Cond.code (nmY 246) (bcY 246) (mxL 246) (rtY 246) ∈ tables_1_8 := List.mem_of_getElem? (i := 102) rfl
set_option maxRecDepth 4000 in
theorem wc_247 : Cond.code (nmY 247) (bcY 247) (mxL 247) (rtY 247) ∈ tables_1_8 := List.mem_of_getElem? (i := 98) rfl
set_option maxRecDepth 4000 in
theorem wc_248 : Cond.code (nmY 248) (bcY 248) (mxL 248) (rtY 248) ∈ tables_1_8 := List.mem_of_getElem? (i := 142) rfl
set_option maxRecDepth 4000 in
theorem wc_249 : Cond.code (nmY 249) (bcY 249) (mxL 249) (rtY 249) ∈ tables_1_8 := List.mem_of_getElem? (i := 82) rfl
set_option maxRecDepth 4000 in
theorem wc_250 : Cond.code (nmY 250) (bcY 250) (mxL 250) (rtY 250) ∈ tables_1_8 := List.mem_of_getElem? (i := 94) rfl
set_option maxRecDepth 4000 in
theorem wc_251 : Cond.code (nmY 251) (bcY 251) (mxL 251) (rtY 251) ∈ tables_1_8 := List.mem_of_getElem? (i := 168) rfl
set_option maxRecDepth 4000 in
theorem wc_252 : Cond.code (nmY 252) (bcY 252) (mxL 252) (rtY 252) ∈ tables_1_8 := List.mem_of_getElem? (i := 153) rfl
set_option maxRecDepth 4000 in
theorem wc_253 : Cond.code (nmY 253) (bcY 253) (mxL 253) (rtY 253) ∈ tables_1_8 := List.mem_of_getElem? (i := 66) rfl
set_option maxRecDepth 4000 in
theorem wc_254 : Cond.code (nmY 254) (bcY 254) (mxL 254) (rtY 254) ∈ tables_1_8 := List.mem_of_getElem? (i := 160) rfl
set_option maxRecDepth 4000 in
theorem wc_255 : Cond.code (nmY 255) (bcY 255) (mxL 255) (rtY 255) ∈ tables_1_8 := List.mem_of_getElem? (i := 164) rfl
set_option maxRecDepth 4000 in
theorem wc_256 : Cond.code (nmY 256) (bcY 256) (mxL 256) (rtY 256) ∈ tables_1_8 := List.mem_of_getElem? (i := 172) rfl
set_option maxRecDepth 4000 in
theorem wc_257 : Cond.code (nmY 257) (bcY 257) (mxL 257) (rtY 257) ∈ tables_1_8 := List.mem_of_getElem? (i := 185) rfl
set_option maxRecDepth 4000 in
theorem wc_258 : Cond.code (nmY 258) (bcY 258) (mxL 258) (rtY 258) ∈ tables_1_8 := List.mem_of_getElem? (i := 177) rfl
set_option maxRecDepth 4000 in
theorem wc_259 : Cond.code (nmY 259) (bcY 259) (mxL 259) (rtY 259) ∈ tables_1_8 := List.mem_of_getElem? (i := 194) rfl
set_option maxRecDepth 4000 in
theorem wc_260 : Cond.code (nmY 260) (bcY 260) (mxL 260) (rtY 260) ∈ tables_1_8 := List.mem_of_getElem? (i := 189) rfl
set_option maxRecDepth 4000 in
theorem wc_261 : Cond.code (nmY 261) (bcY 261) (mxL 261) (rtY 261) ∈ tables_1_8 := List.mem_of_getElem? (i := 198) rfl
set_option maxRecDepth 4000 in
theorem wc_262 : Cond.code (nmY 262) (bcY 262) (mxL 262) (rtY 262) ∈ tables_1_8 := List.mem_of_getElem? (i := 202) rfl
set_option maxRecDepth 4000 in
theorem wc_263 : Cond.code (nmY 263) (bcY 263) (mxL 263) (rtY 263) ∈ tables_1_8 := List.mem_of_getElem? (i := 217) rfl
set_option maxRecDepth 4000 in
theorem wc_264 : Cond.code (nmY 264) (bcY 264) (mxL 264) (rtY 264) ∈ tables_1_8 := List.mem_of_getElem? (i := 213) rfl
set_option maxRecDepth 4000 in
theorem wc_265 : Cond.code (nmY 265) (bcY 265) (mxL 265) (rtY 265) ∈ tables_1_8 := List.mem_of_getElem? (i := 210) rfl
set_option maxRecDepth 4000 in
theorem wc_266 : Cond.code (nmY 266) (bcY 266) (mxL 266) (rtY 266) ∈ tables_1_8 := List.mem_of_getElem? (i := 206) rfl
set_option maxRecDepth 4000 in
theorem wc_267 : Cond.code (nmY 267) (bcY 267) (mxL 267) (rtY 267) ∈ tables_1_8 := List.mem_of_getElem? (i := 229) rfl
set_option maxRecDepth 4000 in
theorem wc_268 : Cond.code (nmY 268) (bcY 268) (mxL 268) (rtY 268) ∈ tables_1_8 := List.mem_of_getElem? (i := 225) rfl
set_option maxRecDepth 4000 in
theorem wc_269 : Cond.code (nmY 269) (bcY 269) (mxL 269) (rtY 269) ∈ tables_1_8 := List.mem_of_getElem? (i := 221) rfl
set_option maxRecDepth 4000 in
theorem wc_270 : Cond.code (nmY 270) (bcY 270) (mxL 270) (rtY 270) ∈ tables_1_8 := List.mem_of_getElem? (i := 233) rfl
set_option maxRecDepth 4000 in
theorem wc_271 : Cond.code (nmY 271) (bcY 271) (mxL 271) (rtY 271) ∈ tables_1_9 := List.mem_of_getElem? (i := 5) rfl
set_option maxRecDepth 4000 in
theorem wc_272 : Cond.code (nmY 272) (bcY 272) (mxL 272) (rtY 272) ∈ tables_1_9 := List.mem_of_getElem? (i := 1) rfl
set_option maxRecDepth 4000 in
theorem wc_273 : Cond.code (nmY 273) (bcY 273) (mxL 273) (rtY 273) ∈ tables_1_8 := List.mem_of_getElem? (i := 237) rfl
set_option maxRecDepth 4000 in
theorem wc_274 : Cond.code (nmY 274) (bcY 274) (mxL 274) (rtY 274) ∈ tables_1_9 := List.mem_of_getElem? (i := 14) rfl
set_option maxRecDepth 4000 in
theorem wc_275 : Cond.code (nmY 275) (bcY 275) (mxL 275) (rtY 275) ∈ tables_1_9 := List.mem_of_getElem? (i := 18) rfl
set_option maxRecDepth 4000 in
theorem wc_276 : Cond.code (nmY 276) (bcY 276) (mxL 276) (rtY 276) ∈ tables_1_9 := List.mem_of_getElem? (i := 10) rfl
set_option maxRecDepth 4000 in
theorem wc_277 : Cond.code (nmY 277) (bcY 277) (mxL 277) (rtY 277) ∈ tables_1_9 := List.mem_of_getElem? (i := 22) rfl
set_option maxRecDepth 4000 in
theorem wc_278 : Cond.code (nmY 278) (bcY 278) (mxL 278) (rtY 278) ∈ tables_1_9 := List.mem_of_getElem? (i := 34) rfl
set_option maxRecDepth 4000 in
theorem wc_279 : Cond.code (nmY 279) (bcY 279) (mxL 279) (rtY 279) ∈ tables_1_9 := List.mem_of_getElem? (i := 38) rfl
set_option maxRecDepth 4000 in
theorem wc_280 : Cond.code (nmY 280) (bcY 280) (mxL 280) (rtY 280) ∈ tables_1_9 := List.mem_of_getElem? (i := 30) rfl
set_option maxRecDepth 4000 in
theorem wc_281 : Cond.code (nmY 281) (bcY 281) (mxL 281) (rtY 281) ∈ tables_1_9 := List.mem_of_getElem? (i := 26) rfl
set_option maxRecDepth 4000 in
theorem wc_282 : Cond.code (nmY 282) (bcY 282) (mxL 282) (rtY 282) ∈ tables_1_6 := List.mem_of_getElem? (i := 42) rfl
set_option maxRecDepth 4000 in
theorem wc_283 : Cond.code (nmY 283) (bcY 283) (mxL 283) (rtY 283) ∈ tables_1_9 := List.mem_of_getElem? (i := 50) rfl
set_option maxRecDepth 4000 in
theorem wc_284 : Cond.code (nmY 284) (bcY 284) (mxL 284) (rtY 284) ∈ tables_1_9 := List.mem_of_getElem? (i := 54) rfl
set_option maxRecDepth 4000 in
theorem wc_285 : Cond.code (nmY 285) (bcY 285) (mxL 285) (rtY 285) ∈ tables_1_9 := List.mem_of_getElem? (i := 46) rfl
set_option maxRecDepth 4000 in
theorem wc_286 : Cond.code (nmY 286) (bcY 286) (mxL 286) (rtY 286) ∈ tables_1_9 := List.mem_of_getElem? (i := 42) rfl
set_option maxRecDepth 4000 in
theorem wc_287 : Cond.code (nmY 287) (bcY 287) (mxL 287) (rtY 287) ∈ tables_1_9 := List.mem_of_getElem? (i := 62) rfl
set_option maxRecDepth 4000 in
theorem wc_288 : Cond.code (nmY 288) (bcY 288) (mxL 288) (rtY 288) ∈ tables_1_9 := List.mem_of_getElem? (i := 66) rfl
set_option maxRecDepth 4000 in
theorem wc_289 : Cond.code (nmY 289) (bcY 289) (mxL 289) (rtY 289) ∈ tables_1_9 := List.mem_of_getElem? (i := 58) rfl
set_option maxRecDepth 4000 in
theorem wc_290 : Cond.code (nmY 290) (bcY 290) (mxL 290) (rtY 290) ∈ tables_1_9 := List.mem_of_getElem? (i := 71) rfl
set_option maxRecDepth 4000 in
theorem wc_291 : Cond.code (nmY 291) (bcY 291) (mxL 291) (rtY 291) ∈ tables_1_3 := List.mem_of_getElem? (i := 18) rfl
set_option maxRecDepth 4000 in
theorem wc_292 : Cond.code (nmY 292) (bcY 292) (mxL 292) (rtY 292) ∈ tables_1_3 := List.mem_of_getElem? (i := 28) rfl
set_option maxRecDepth 4000 in
theorem wc_293 : Cond.code (nmY 293) (bcY 293) (mxL 293) (rtY 293) ∈ tables_1_3 := List.mem_of_getElem? (i := 22) rfl
set_option maxRecDepth 4000 in
theorem wc_294 : Cond.code (nmY 294) (bcY 294) (mxL 294) (rtY 294) ∈ tables_1_3 := List.mem_of_getElem? (i := 32) rfl
set_option maxRecDepth 4000 in
theorem wc_295 : Cond.code (nmY 295) (bcY 295) (mxL 295) (rtY 295) ∈ tables_1_3 := List.mem_of_getElem? (i := 38) rfl
set_option maxRecDepth 4000 in
theorem wc_296 : Cond.code (nmY 296) (bcY 296) (mxL 296) (rtY 296) ∈ tables_1_3 := List.mem_of_getElem? (i := 35) rfl
set_option maxRecDepth 4000 in
theorem wc_297 : Cond.code (nmY 297) (bcY 297) (mxL 297) (rtY 297) ∈ tables_1_3 := List.mem_of_getElem? (i := 43) rfl
theorem in_t1 {w : Cond} (h : w ∈ tables_1_1) : w ∈ lw_tbl := List.mem_append_right _ (List.mem_append_left _ h)
theorem in_t2 {w : Cond} (h : w ∈ tables_1_2) : w ∈ lw_tbl := List.mem_append_right _ (List.mem_append_right _ (List.mem_append_left _ h))
theorem in_t3 {w : Cond} (h : w ∈ tables_1_3) : w ∈ lw_tbl := List.mem_append_right _ (List.mem_append_right _ (List.mem_append_right _ (List.mem_append_left _ h)))
theorem in_t4 {w : Cond} (h : w ∈ tables_1_4) : w ∈ lw_tbl := List.mem_append_right _ (List.mem_append_right _ (List.mem_append_right _ (List.mem_append_right _ (List.mem_append_left _ h))))
theorem in_t5 {w : Cond} (h : w ∈ tables_1_5) : w ∈ lw_tbl := List.mem_append_right _ (List.mem_append_right _ (List.mem_append_right _ (List.mem_append_right _ (List.mem_append_right _ (List.mem_append_left _ h)))))
theorem in_t6 {w : Cond} (h : w ∈ tables_1_6) : w ∈ lw_tbl := List.mem_append_right _ (List.mem_append_right _ (List.mem_append_right _ (List.mem_append_right _ (List.mem_append_right _ (List.mem_append_right _ (List.mem_append_left _ h))))))
theorem in_t7 {w : Cond} (h : w ∈ tables_1_7) : w ∈ lw_tbl := List.mem_append_right _ (List.mem_append_right _ (List.mem_append_right _ (List.mem_append_right _ (List.mem_append_right _ (List.mem_append_right _ (List.mem_append_right _ (List.mem_append_left _ h)))))))
theorem in_t8 {w : Cond} (h : w ∈ tables_1_8) : w ∈ lw_tbl := List.mem_append_right _ (List.mem_append_right _ (List.mem_append_right _ (List.mem_append_right _ (List.mem_append_right _ (List.mem_append_right _ (List.mem_append_right _ (List.mem_append_right _ (List.mem_append_left _ h))))))))
theorem in_t9 {w : Cond} (h : w ∈ tables_1_9) : w ∈ lw_tbl := List.mem_append_right _ (List.mem_append_right _ (List.mem_append_right _ (List.mem_append_right _ (List.mem_append_right _ (List.mem_append_right _ (List.mem_append_right _ (List.mem_append_right _ (List.mem_append_right _ (h)))))))))
def CdIn (z : Nat) : Prop := Cond.code (nmY z) (bcY z) (mxL z) (rtY z) ∈ lw_tbl
theorem wcc_0 : ∀ k : Nat, k < 10 → CdIn (0 + k)
  | 0, _ => in_t2 wc_0
  | 1, _ => in_t3 wc_1
  | 2, _ => in_t5 wc_2
  | 3, _ => in_t5 wc_3
  | 4, _ => in_t5 wc_4
  | 5, _ => in_t6 wc_5
  | 6, _ => in_t5 wc_6
  | 7, _ => in_t6 wc_7
  | 8, _ => in_t6 wc_8
  | 9, _ => in_t6 wc_9
  | k + 10, h => absurd h (by omega)
theorem wcc_10 : ∀ k : Nat, k < 10 → CdIn (10 + k)
  | 0, _ => in_t1 wc_10
  | 1, _ => in_t4 wc_11
  | 2, _ => in_t4 wc_12
  | 3, _ => in_t4 wc_13
  | 4, _ => in_t4 wc_14
  | 5, _ => in_t4 wc_15
  | 6, _ => in_t4 wc_16
  | 7, _ => in_t4 wc_17
  | 8, _ => in_t4 wc_18
  | 9, _ => in_t4 wc_19
  | k + 10, h => absurd h (by omega)
theorem wcc_20 : ∀ k : Nat, k < 10 → CdIn (20 + k)
  | 0, _ => in_t4 wc_20
  | 1, _ => in_t4 wc_21
  | 2, _ => in_t4 wc_22
  | 3, _ => in_t5 wc_23
  | 4, _ => in_t4 wc_24
  | 5, _ => in_t4 wc_25
  | 6, _ => in_t4 wc_26
  | 7, _ => in_t4 wc_27
  | 8, _ => in_t4 wc_28
  | 9, _ => in_t5 wc_29
  | k + 10, h => absurd h (by omega)
theorem wcc_30 : ∀ k : Nat, k < 10 → CdIn (30 + k)
  | 0, _ => in_t4 wc_30
  | 1, _ => in_t4 wc_31
  | 2, _ => in_t4 wc_32
  | 3, _ => in_t4 wc_33
  | 4, _ => in_t5 wc_34
  | 5, _ => in_t4 wc_35
  | 6, _ => in_t4 wc_36
  | 7, _ => in_t4 wc_37
  | 8, _ => in_t4 wc_38
  | 9, _ => in_t2 wc_39
  | k + 10, h => absurd h (by omega)
theorem wcc_40 : ∀ k : Nat, k < 10 → CdIn (40 + k)
  | 0, _ => in_t2 wc_40
  | 1, _ => in_t4 wc_41
  | 2, _ => in_t3 wc_42
  | 3, _ => in_t3 wc_43
  | 4, _ => in_t3 wc_44
  | 5, _ => in_t3 wc_45
  | 6, _ => in_t3 wc_46
  | 7, _ => in_t4 wc_47
  | 8, _ => in_t4 wc_48
  | 9, _ => in_t4 wc_49
  | k + 10, h => absurd h (by omega)
theorem wcc_50 : ∀ k : Nat, k < 10 → CdIn (50 + k)
  | 0, _ => in_t4 wc_50
  | 1, _ => in_t6 wc_51
  | 2, _ => in_t5 wc_52
  | 3, _ => in_t5 wc_53
  | 4, _ => in_t5 wc_54
  | 5, _ => in_t5 wc_55
  | 6, _ => in_t5 wc_56
  | 7, _ => in_t1 wc_57
  | 8, _ => in_t4 wc_58
  | 9, _ => in_t5 wc_59
  | k + 10, h => absurd h (by omega)
theorem wcc_60 : ∀ k : Nat, k < 10 → CdIn (60 + k)
  | 0, _ => in_t4 wc_60
  | 1, _ => in_t5 wc_61
  | 2, _ => in_t1 wc_62
  | 3, _ => in_t2 wc_63
  | 4, _ => in_t3 wc_64
  | 5, _ => in_t3 wc_65
  | 6, _ => in_t3 wc_66
  | 7, _ => in_t3 wc_67
  | 8, _ => in_t3 wc_68
  | 9, _ => in_t3 wc_69
  | k + 10, h => absurd h (by omega)
theorem wcc_70 : ∀ k : Nat, k < 10 → CdIn (70 + k)
  | 0, _ => in_t3 wc_70
  | 1, _ => in_t3 wc_71
  | 2, _ => in_t3 wc_72
  | 3, _ => in_t3 wc_73
  | 4, _ => in_t3 wc_74
  | 5, _ => in_t3 wc_75
  | 6, _ => in_t3 wc_76
  | 7, _ => in_t3 wc_77
  | 8, _ => in_t1 wc_78
  | 9, _ => in_t3 wc_79
  | k + 10, h => absurd h (by omega)
theorem wcc_80 : ∀ k : Nat, k < 10 → CdIn (80 + k)
  | 0, _ => in_t3 wc_80
  | 1, _ => in_t3 wc_81
  | 2, _ => in_t3 wc_82
  | 3, _ => in_t3 wc_83
  | 4, _ => in_t4 wc_84
  | 5, _ => in_t4 wc_85
  | 6, _ => in_t5 wc_86
  | 7, _ => in_t2 wc_87
  | 8, _ => in_t2 wc_88
  | 9, _ => in_t3 wc_89
  | k + 10, h => absurd h (by omega)
theorem wcc_90 : ∀ k : Nat, k < 10 → CdIn (90 + k)
  | 0, _ => in_t3 wc_90
  | 1, _ => in_t3 wc_91
  | 2, _ => in_t3 wc_92
  | 3, _ => in_t4 wc_93
  | 4, _ => in_t3 wc_94
  | 5, _ => in_t5 wc_95
  | 6, _ => in_t5 wc_96
  | 7, _ => in_t5 wc_97
  | 8, _ => in_t5 wc_98
  | 9, _ => in_t4 wc_99
  | k + 10, h => absurd h (by omega)
theorem wcc_100 : ∀ k : Nat, k < 10 → CdIn (100 + k)
  | 0, _ => in_t5 wc_100
  | 1, _ => in_t5 wc_101
  | 2, _ => in_t1 wc_102
  | 3, _ => in_t3 wc_103
  | 4, _ => in_t5 wc_104
  | 5, _ => in_t4 wc_105
  | 6, _ => in_t5 wc_106
  | 7, _ => in_t4 wc_107
  | 8, _ => in_t5 wc_108
  | 9, _ => in_t5 wc_109
  | k + 10, h => absurd h (by omega)
theorem wcc_110 : ∀ k : Nat, k < 10 → CdIn (110 + k)
  | 0, _ => in_t5 wc_110
  | 1, _ => in_t5 wc_111
  | 2, _ => in_t4 wc_112
  | 3, _ => in_t1 wc_113
  | 4, _ => in_t5 wc_114
  | 5, _ => in_t5 wc_115
  | 6, _ => in_t5 wc_116
  | 7, _ => in_t5 wc_117
  | 8, _ => in_t5 wc_118
  | 9, _ => in_t5 wc_119
  | k + 10, h => absurd h (by omega)
theorem wcc_120 : ∀ k : Nat, k < 10 → CdIn (120 + k)
  | 0, _ => in_t5 wc_120
  | 1, _ => in_t1 wc_121
  | 2, _ => in_t2 wc_122
  | 3, _ => in_t2 wc_123
  | 4, _ => in_t2 wc_124
  | 5, _ => in_t3 wc_125
  | 6, _ => in_t3 wc_126
  | 7, _ => in_t3 wc_127
  | 8, _ => in_t2 wc_128
  | 9, _ => in_t2 wc_129
  | k + 10, h => absurd h (by omega)
theorem wcc_130 : ∀ k : Nat, k < 10 → CdIn (130 + k)
  | 0, _ => in_t2 wc_130
  | 1, _ => in_t3 wc_131
  | 2, _ => in_t2 wc_132
  | 3, _ => in_t3 wc_133
  | 4, _ => in_t1 wc_134
  | 5, _ => in_t2 wc_135
  | 6, _ => in_t4 wc_136
  | 7, _ => in_t3 wc_137
  | 8, _ => in_t3 wc_138
  | 9, _ => in_t5 wc_139
  | k + 10, h => absurd h (by omega)
theorem wcc_140 : ∀ k : Nat, k < 10 → CdIn (140 + k)
  | 0, _ => in_t4 wc_140
  | 1, _ => in_t5 wc_141
  | 2, _ => in_t5 wc_142
  | 3, _ => in_t1 wc_143
  | 4, _ => in_t2 wc_144
  | 5, _ => in_t2 wc_145
  | 6, _ => in_t2 wc_146
  | 7, _ => in_t3 wc_147
  | 8, _ => in_t3 wc_148
  | 9, _ => in_t3 wc_149
  | k + 10, h => absurd h (by omega)
theorem wcc_150 : ∀ k : Nat, k < 10 → CdIn (150 + k)
  | 0, _ => in_t4 wc_150
  | 1, _ => in_t4 wc_151
  | 2, _ => in_t4 wc_152
  | 3, _ => in_t4 wc_153
  | 4, _ => in_t4 wc_154
  | 5, _ => in_t4 wc_155
  | 6, _ => in_t4 wc_156
  | 7, _ => in_t4 wc_157
  | 8, _ => in_t4 wc_158
  | 9, _ => in_t5 wc_159
  | k + 10, h => absurd h (by omega)
theorem wcc_160 : ∀ k : Nat, k < 10 → CdIn (160 + k)
  | 0, _ => in_t5 wc_160
  | 1, _ => in_t5 wc_161
  | 2, _ => in_t5 wc_162
  | 3, _ => in_t5 wc_163
  | 4, _ => in_t5 wc_164
  | 5, _ => in_t5 wc_165
  | 6, _ => in_t5 wc_166
  | 7, _ => in_t5 wc_167
  | 8, _ => in_t5 wc_168
  | 9, _ => in_t5 wc_169
  | k + 10, h => absurd h (by omega)
theorem wcc_170 : ∀ k : Nat, k < 10 → CdIn (170 + k)
  | 0, _ => in_t5 wc_170
  | 1, _ => in_t5 wc_171
  | 2, _ => in_t5 wc_172
  | 3, _ => in_t5 wc_173
  | 4, _ => in_t6 wc_174
  | 5, _ => in_t4 wc_175
  | 6, _ => in_t6 wc_176
  | 7, _ => in_t7 wc_177
  | 8, _ => in_t7 wc_178
  | 9, _ => in_t8 wc_179
  | k + 10, h => absurd h (by omega)
theorem wcc_180 : ∀ k : Nat, k < 10 → CdIn (180 + k)
  | 0, _ => in_t8 wc_180
  | 1, _ => in_t7 wc_181
  | 2, _ => in_t7 wc_182
  | 3, _ => in_t7 wc_183
  | 4, _ => in_t7 wc_184
  | 5, _ => in_t7 wc_185
  | 6, _ => in_t7 wc_186
  | 7, _ => in_t7 wc_187
  | 8, _ => in_t7 wc_188
  | 9, _ => in_t7 wc_189
  | k + 10, h => absurd h (by omega)
theorem wcc_190 : ∀ k : Nat, k < 10 → CdIn (190 + k)
  | 0, _ => in_t7 wc_190
  | 1, _ => in_t7 wc_191
  | 2, _ => in_t7 wc_192
  | 3, _ => in_t6 wc_193
  | 4, _ => in_t7 wc_194
  | 5, _ => in_t7 wc_195
  | 6, _ => in_t7 wc_196
  | 7, _ => in_t7 wc_197
  | 8, _ => in_t7 wc_198
  | 9, _ => in_t7 wc_199
  | k + 10, h => absurd h (by omega)
theorem wcc_200 : ∀ k : Nat, k < 10 → CdIn (200 + k)
  | 0, _ => in_t7 wc_200
  | 1, _ => in_t7 wc_201
  | 2, _ => in_t7 wc_202
  | 3, _ => in_t7 wc_203
  | 4, _ => in_t7 wc_204
  | 5, _ => in_t7 wc_205
  | 6, _ => in_t7 wc_206
  | 7, _ => in_t7 wc_207
  | 8, _ => in_t7 wc_208
  | 9, _ => in_t7 wc_209
  | k + 10, h => absurd h (by omega)
theorem wcc_210 : ∀ k : Nat, k < 10 → CdIn (210 + k)
  | 0, _ => in_t6 wc_210
  | 1, _ => in_t7 wc_211
  | 2, _ => in_t7 wc_212
  | 3, _ => in_t8 wc_213
  | 4, _ => in_t7 wc_214
  | 5, _ => in_t7 wc_215
  | 6, _ => in_t8 wc_216
  | 7, _ => in_t8 wc_217
  | 8, _ => in_t8 wc_218
  | 9, _ => in_t8 wc_219
  | k + 10, h => absurd h (by omega)
theorem wcc_220 : ∀ k : Nat, k < 10 → CdIn (220 + k)
  | 0, _ => in_t8 wc_220
  | 1, _ => in_t8 wc_221
  | 2, _ => in_t8 wc_222
  | 3, _ => in_t8 wc_223
  | 4, _ => in_t8 wc_224
  | 5, _ => in_t8 wc_225
  | 6, _ => in_t8 wc_226
  | 7, _ => in_t8 wc_227
  | 8, _ => in_t8 wc_228
  | 9, _ => in_t8 wc_229
  | k + 10, h => absurd h (by omega)
theorem wcc_230 : ∀ k : Nat, k < 10 → CdIn (230 + k)
  | 0, _ => in_t8 wc_230
  | 1, _ => in_t8 wc_231
  | 2, _ => in_t8 wc_232
  | 3, _ => in_t8 wc_233
  | 4, _ => in_t8 wc_234
  | 5, _ => in_t8 wc_235
  | 6, _ => in_t8 wc_236
  | 7, _ => in_t8 wc_237
  | 8, _ => in_t8 wc_238
  | 9, _ => in_t8 wc_239
  | k + 10, h => absurd h (by omega)
theorem wcc_240 : ∀ k : Nat, k < 10 → CdIn (240 + k)
  | 0, _ => in_t8 wc_240
  | 1, _ => in_t8 wc_241
  | 2, _ => in_t8 wc_242
  | 3, _ => in_t8 wc_243
  | 4, _ => in_t8 wc_244
  | 5, _ => in_t8 wc_245
  | 6, _ => in_t8 wc_246
  | 7, _ => in_t8 wc_247
  | 8, _ => in_t8 wc_248
  | 9, _ => in_t8 wc_249
  | k + 10, h => absurd h (by omega)
theorem wcc_250 : ∀ k : Nat, k < 10 → CdIn (250 + k)
  | 0, _ => in_t8 wc_250
  | 1, _ => in_t8 wc_251
  | 2, _ => in_t8 wc_252
  | 3, _ => in_t8 wc_253
  | 4, _ => in_t8 wc_254
  | 5, _ => in_t8 wc_255
  | 6, _ => in_t8 wc_256
  | 7, _ => in_t8 wc_257
  | 8, _ => in_t8 wc_258
  | 9, _ => in_t8 wc_259
  | k + 10, h => absurd h (by omega)
theorem wcc_260 : ∀ k : Nat, k < 10 → CdIn (260 + k)
  | 0, _ => in_t8 wc_260
  | 1, _ => in_t8 wc_261
  | 2, _ => in_t8 wc_262
  | 3, _ => in_t8 wc_263
  | 4, _ => in_t8 wc_264
  | 5, _ => in_t8 wc_265
  | 6, _ => in_t8 wc_266
  | 7, _ => in_t8 wc_267
  | 8, _ => in_t8 wc_268
  | 9, _ => in_t8 wc_269
  | k + 10, h => absurd h (by omega)
theorem wcc_270 : ∀ k : Nat, k < 10 → CdIn (270 + k)
  | 0, _ => in_t8 wc_270
  | 1, _ => in_t9 wc_271
  | 2, _ => in_t9 wc_272
  | 3, _ => in_t8 wc_273
  | 4, _ => in_t9 wc_274
  | 5, _ => in_t9 wc_275
  | 6, _ => in_t9 wc_276
  | 7, _ => in_t9 wc_277
  | 8, _ => in_t9 wc_278
  | 9, _ => in_t9 wc_279
  | k + 10, h => absurd h (by omega)
theorem wcc_280 : ∀ k : Nat, k < 10 → CdIn (280 + k)
  | 0, _ => in_t9 wc_280
  | 1, _ => in_t9 wc_281
  | 2, _ => in_t6 wc_282
  | 3, _ => in_t9 wc_283
  | 4, _ => in_t9 wc_284
  | 5, _ => in_t9 wc_285
  | 6, _ => in_t9 wc_286
  | 7, _ => in_t9 wc_287
  | 8, _ => in_t9 wc_288
  | 9, _ => in_t9 wc_289
  | k + 10, h => absurd h (by omega)
theorem wcc_290 : ∀ k : Nat, k < 8 → CdIn (290 + k)
  | 0, _ => in_t9 wc_290
  | 1, _ => in_t3 wc_291
  | 2, _ => in_t3 wc_292
  | 3, _ => in_t3 wc_293
  | 4, _ => in_t3 wc_294
  | 5, _ => in_t3 wc_295
  | 6, _ => in_t3 wc_296
  | 7, _ => in_t3 wc_297
  | k + 8, h => absurd h (by omega)
theorem cd_in : ∀ z : Nat, z < 298 → CdIn z := by
  intro z hz
  rcases Nat.lt_or_ge z 10 with h | h
  · have := wcc_0 (z - 0) (by omega)
    rwa [show 0 + (z - 0) = z by omega] at this
  rcases Nat.lt_or_ge z 20 with h | h
  · have := wcc_10 (z - 10) (by omega)
    rwa [show 10 + (z - 10) = z by omega] at this
  rcases Nat.lt_or_ge z 30 with h | h
  · have := wcc_20 (z - 20) (by omega)
    rwa [show 20 + (z - 20) = z by omega] at this
  rcases Nat.lt_or_ge z 40 with h | h
  · have := wcc_30 (z - 30) (by omega)
    rwa [show 30 + (z - 30) = z by omega] at this
  rcases Nat.lt_or_ge z 50 with h | h
  · have := wcc_40 (z - 40) (by omega)
    rwa [show 40 + (z - 40) = z by omega] at this
  rcases Nat.lt_or_ge z 60 with h | h
  · have := wcc_50 (z - 50) (by omega)
    rwa [show 50 + (z - 50) = z by omega] at this
  rcases Nat.lt_or_ge z 70 with h | h
  · have := wcc_60 (z - 60) (by omega)
    rwa [show 60 + (z - 60) = z by omega] at this
  rcases Nat.lt_or_ge z 80 with h | h
  · have := wcc_70 (z - 70) (by omega)
    rwa [show 70 + (z - 70) = z by omega] at this
  rcases Nat.lt_or_ge z 90 with h | h
  · have := wcc_80 (z - 80) (by omega)
    rwa [show 80 + (z - 80) = z by omega] at this
  rcases Nat.lt_or_ge z 100 with h | h
  · have := wcc_90 (z - 90) (by omega)
    rwa [show 90 + (z - 90) = z by omega] at this
  rcases Nat.lt_or_ge z 110 with h | h
  · have := wcc_100 (z - 100) (by omega)
    rwa [show 100 + (z - 100) = z by omega] at this
  rcases Nat.lt_or_ge z 120 with h | h
  · have := wcc_110 (z - 110) (by omega)
    rwa [show 110 + (z - 110) = z by omega] at this
  rcases Nat.lt_or_ge z 130 with h | h
  · have := wcc_120 (z - 120) (by omega)
    rwa [show 120 + (z - 120) = z by omega] at this
  rcases Nat.lt_or_ge z 140 with h | h
  · have := wcc_130 (z - 130) (by omega)
    rwa [show 130 + (z - 130) = z by omega] at this
  rcases Nat.lt_or_ge z 150 with h | h
  · have := wcc_140 (z - 140) (by omega)
    rwa [show 140 + (z - 140) = z by omega] at this
  rcases Nat.lt_or_ge z 160 with h | h
  · have := wcc_150 (z - 150) (by omega)
    rwa [show 150 + (z - 150) = z by omega] at this
  rcases Nat.lt_or_ge z 170 with h | h
  · have := wcc_160 (z - 160) (by omega)
    rwa [show 160 + (z - 160) = z by omega] at this
  rcases Nat.lt_or_ge z 180 with h | h
  · have := wcc_170 (z - 170) (by omega)
    rwa [show 170 + (z - 170) = z by omega] at this
  rcases Nat.lt_or_ge z 190 with h | h
  · have := wcc_180 (z - 180) (by omega)
    rwa [show 180 + (z - 180) = z by omega] at this
  rcases Nat.lt_or_ge z 200 with h | h
  · have := wcc_190 (z - 190) (by omega)
    rwa [show 190 + (z - 190) = z by omega] at this
  rcases Nat.lt_or_ge z 210 with h | h
  · have := wcc_200 (z - 200) (by omega)
    rwa [show 200 + (z - 200) = z by omega] at this
  rcases Nat.lt_or_ge z 220 with h | h
  · have := wcc_210 (z - 210) (by omega)
    rwa [show 210 + (z - 210) = z by omega] at this
  rcases Nat.lt_or_ge z 230 with h | h
  · have := wcc_220 (z - 220) (by omega)
    rwa [show 220 + (z - 220) = z by omega] at this
  rcases Nat.lt_or_ge z 240 with h | h
  · have := wcc_230 (z - 230) (by omega)
    rwa [show 230 + (z - 230) = z by omega] at this
  rcases Nat.lt_or_ge z 250 with h | h
  · have := wcc_240 (z - 240) (by omega)
    rwa [show 240 + (z - 240) = z by omega] at this
  rcases Nat.lt_or_ge z 260 with h | h
  · have := wcc_250 (z - 250) (by omega)
    rwa [show 250 + (z - 250) = z by omega] at this
  rcases Nat.lt_or_ge z 270 with h | h
  · have := wcc_260 (z - 260) (by omega)
    rwa [show 260 + (z - 260) = z by omega] at this
  rcases Nat.lt_or_ge z 280 with h | h
  · have := wcc_270 (z - 270) (by omega)
    rwa [show 270 + (z - 270) = z by omega] at this
  rcases Nat.lt_or_ge z 290 with h | h
  · have := wcc_280 (z - 280) (by omega)
    rwa [show 280 + (z - 280) = z by omega] at this
  rcases Nat.lt_or_ge z 298 with h | h
  · have := wcc_290 (z - 290) (by omega)
    rwa [show 290 + (z - 290) = z by omega] at this
  omega
theorem wd_all : ∀ z : Nat, z < 298 → wdOk z = true ∧ rtOk z = true := by
  intro z hz
  rcases Nat.lt_or_ge z 30 with h | h
  · have := List.all_eq_true.mp wd_0 (z - 0) (List.mem_range.mpr (by omega))
    rw [show 0 + (z - 0) = z by omega, Bool.and_eq_true] at this
    exact this
  rcases Nat.lt_or_ge z 60 with h | h
  · have := List.all_eq_true.mp wd_30 (z - 30) (List.mem_range.mpr (by omega))
    rw [show 30 + (z - 30) = z by omega, Bool.and_eq_true] at this
    exact this
  rcases Nat.lt_or_ge z 90 with h | h
  · have := List.all_eq_true.mp wd_60 (z - 60) (List.mem_range.mpr (by omega))
    rw [show 60 + (z - 60) = z by omega, Bool.and_eq_true] at this
    exact this
  rcases Nat.lt_or_ge z 120 with h | h
  · have := List.all_eq_true.mp wd_90 (z - 90) (List.mem_range.mpr (by omega))
    rw [show 90 + (z - 90) = z by omega, Bool.and_eq_true] at this
    exact this
  rcases Nat.lt_or_ge z 150 with h | h
  · have := List.all_eq_true.mp wd_120 (z - 120) (List.mem_range.mpr (by omega))
    rw [show 120 + (z - 120) = z by omega, Bool.and_eq_true] at this
    exact this
  rcases Nat.lt_or_ge z 180 with h | h
  · have := List.all_eq_true.mp wd_150 (z - 150) (List.mem_range.mpr (by omega))
    rw [show 150 + (z - 150) = z by omega, Bool.and_eq_true] at this
    exact this
  rcases Nat.lt_or_ge z 210 with h | h
  · have := List.all_eq_true.mp wd_180 (z - 180) (List.mem_range.mpr (by omega))
    rw [show 180 + (z - 180) = z by omega, Bool.and_eq_true] at this
    exact this
  rcases Nat.lt_or_ge z 240 with h | h
  · have := List.all_eq_true.mp wd_210 (z - 210) (List.mem_range.mpr (by omega))
    rw [show 210 + (z - 210) = z by omega, Bool.and_eq_true] at this
    exact this
  rcases Nat.lt_or_ge z 270 with h | h
  · have := List.all_eq_true.mp wd_240 (z - 240) (List.mem_range.mpr (by omega))
    rw [show 240 + (z - 240) = z by omega, Bool.and_eq_true] at this
    exact this
  rcases Nat.lt_or_ge z 298 with h | h
  · have := List.all_eq_true.mp wd_270 (z - 270) (List.mem_range.mpr (by omega))
    rw [show 270 + (z - 270) = z by omega, Bool.and_eq_true] at this
    exact this
  omega
