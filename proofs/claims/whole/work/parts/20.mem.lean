theorem inX0 : ∀ w ∈ wsX00, w ∈ lw_tbl := by decide +kernel
theorem inX1 : ∀ w ∈ wsX10, w ∈ lw_tbl := by decide +kernel
theorem inX2 : ∀ w ∈ wsX20, w ∈ lw_tbl := by decide +kernel
theorem inX3 : ∀ w ∈ wsX30, w ∈ lw_tbl := by decide +kernel
theorem inX4 : ∀ w ∈ wsX40, w ∈ lw_tbl := by decide +kernel
theorem inX5 : ∀ w ∈ wsX50, w ∈ lw_tbl := by decide +kernel
theorem inX6 : ∀ w ∈ wsX60, w ∈ lw_tbl := by decide +kernel
theorem inX7 : ∀ w ∈ wsX70, w ∈ lw_tbl := by decide +kernel
theorem inX8 : ∀ w ∈ wsX80, w ∈ lw_tbl := by decide +kernel
theorem inX9 : ∀ w ∈ wsX90, w ∈ lw_tbl := by decide +kernel
theorem inX10 : ∀ w ∈ wsX100, w ∈ lw_tbl := by decide +kernel
theorem inX11 : ∀ w ∈ wsX110, w ∈ lw_tbl := by decide +kernel
theorem lm_0 : Cond.selects RX10 yX10_refused yX10_refused ∈ lw_tbl := List.mem_of_getElem? (i := 0) (by decide +kernel)
theorem lm_1 : Cond.selects RX7 yX7_letterAt yX7_letterAt ∈ lw_tbl := List.mem_of_getElem? (i := 1) (by decide +kernel)
theorem lm_2 : Cond.selects RX7 yX7_tellStatement yX7_tellStatement ∈ lw_tbl := List.mem_of_getElem? (i := 2) (by decide +kernel)
theorem lm_3 : Cond.selects RX7 yX7_digitAt yX7_digitAt ∈ lw_tbl := List.mem_of_getElem? (i := 3) (by decide +kernel)
theorem lm_4 : Cond.selects RX7 yX7_kindAt yX7_kindAt ∈ lw_tbl := List.mem_of_getElem? (i := 4) (by decide +kernel)
theorem lm_5 : Cond.selects RX10 yX10_bestThrow yX10_bestThrow ∈ lw_tbl := List.mem_of_getElem? (i := 5) (by decide +kernel)
theorem lm_6 : Cond.selects RX2 yX2_clearWays yX2_clearWays ∈ lw_tbl := List.mem_of_getElem? (i := 6) (by decide +kernel)
theorem lm_7 : Cond.selects RX2 yX2_addWays yX2_addWays ∈ lw_tbl := List.mem_of_getElem? (i := 7) (by decide +kernel)
theorem lm_8 : Cond.selects RX2 yX2_throwFrom yX2_throwFrom ∈ lw_tbl := List.mem_of_getElem? (i := 8) (by decide +kernel)
theorem lm_9 : Cond.selects RX10 yX10_catchOrDodge yX10_catchOrDodge ∈ lw_tbl := List.mem_of_getElem? (i := 9) (by decide +kernel)
theorem lm_10 : Cond.selects RX10 yX10_playRowInMind yX10_playRowInMind ∈ lw_tbl := List.mem_of_getElem? (i := 10) (by decide +kernel)
theorem lm_11 : Cond.selects RX10 yX10_throwInMind yX10_throwInMind ∈ lw_tbl := List.mem_of_getElem? (i := 11) (by decide +kernel)
theorem lm_12 : Cond.selects RX10 yX10_throwByLot yX10_throwByLot ∈ lw_tbl := List.mem_of_getElem? (i := 12) (by decide +kernel)
theorem lm_13 : Cond.selects RX10 yX10_draw yX10_draw ∈ lw_tbl := List.mem_of_getElem? (i := 13) (by decide +kernel)
theorem lm_14 : Cond.selects RX10 yX10_refusalCount yX10_refusalCount ∈ lw_tbl := List.mem_of_getElem? (i := 14) (by decide +kernel)
theorem lm_15 : Cond.selects RX11 yX11_no yX11_no ∈ lw_tbl := List.mem_of_getElem? (i := 15) (by decide +kernel)
theorem lm_16 : Cond.selects RX11 yX11_statement yX11_statement ∈ lw_tbl := List.mem_of_getElem? (i := 16) (by decide +kernel)
theorem lm_17 : Cond.selects RX11 yX11_next yX11_next ∈ lw_tbl := List.mem_of_getElem? (i := 17) (by decide +kernel)
theorem lm_18 : Cond.selects RX11 yX11_readsAll yX11_readsAll ∈ lw_tbl := List.mem_of_getElem? (i := 18) (by decide +kernel)
theorem lm_19 : Cond.selects RX11 yX11_readsDigit yX11_readsDigit ∈ lw_tbl := List.mem_of_getElem? (i := 19) (by decide +kernel)
theorem lm_20 : Cond.selects RX11 yX11_readsKind yX11_readsKind ∈ lw_tbl := List.mem_of_getElem? (i := 20) (by decide +kernel)
theorem lm_21 : Cond.selects RX11 yX11_passesAll yX11_passesAll ∈ lw_tbl := List.mem_of_getElem? (i := 21) (by decide +kernel)
theorem lm_22 : Cond.selects RX11 yX11_passes yX11_passes ∈ lw_tbl := List.mem_of_getElem? (i := 22) (by decide +kernel)
theorem lm_23 : Cond.selects RX11 yX11_passOne yX11_passOne ∈ lw_tbl := List.mem_of_getElem? (i := 23) (by decide +kernel)
theorem lm_24 : Cond.selects RX11 yX11_comes yX11_comes ∈ lw_tbl := List.mem_of_getElem? (i := 24) (by decide +kernel)
theorem lm_25 : Cond.selects RX11 yX11_comesPlayer yX11_comesPlayer ∈ lw_tbl := List.mem_of_getElem? (i := 25) (by decide +kernel)
theorem lm_26 : Cond.selects RX11 yX11_isHere yX11_isHere ∈ lw_tbl := List.mem_of_getElem? (i := 26) (by decide +kernel)
theorem lm_27 : Cond.selects RX11 yX11_isPlayer yX11_isPlayer ∈ lw_tbl := List.mem_of_getElem? (i := 27) (by decide +kernel)
theorem lm_28 : Cond.selects RX11 yX11_holds yX11_holds ∈ lw_tbl := List.mem_of_getElem? (i := 28) (by decide +kernel)
theorem lm_29 : Cond.selects RX11 yX11_isHeld yX11_isHeld ∈ lw_tbl := List.mem_of_getElem? (i := 29) (by decide +kernel)
theorem lm_30 : Cond.selects RX11 yX11_falls yX11_falls ∈ lw_tbl := List.mem_of_getElem? (i := 30) (by decide +kernel)
theorem lm_31 : Cond.selects RX11 yX11_goesOut yX11_goesOut ∈ lw_tbl := List.mem_of_getElem? (i := 31) (by decide +kernel)
theorem lm_32 : Cond.selects RX11 yX11_aimOf yX11_aimOf ∈ lw_tbl := List.mem_of_getElem? (i := 32) (by decide +kernel)
theorem lm_33 : Cond.selects RX11 yX11_dodgeOf yX11_dodgeOf ∈ lw_tbl := List.mem_of_getElem? (i := 33) (by decide +kernel)
theorem lm_34 : Cond.selects RX11 yX11_graspOf yX11_graspOf ∈ lw_tbl := List.mem_of_getElem? (i := 34) (by decide +kernel)
theorem lm_35 : Cond.selects RX11 yX11_hereOf yX11_hereOf ∈ lw_tbl := List.mem_of_getElem? (i := 35) (by decide +kernel)
theorem lm_36 : Cond.selects RX11 yX11_areAgainst yX11_areAgainst ∈ lw_tbl := List.mem_of_getElem? (i := 36) (by decide +kernel)
theorem lm_37 : Cond.selects RX11 yX11_hitOf yX11_hitOf ∈ lw_tbl := List.mem_of_getElem? (i := 37) (by decide +kernel)
theorem lm_38 : Cond.selects RX11 yX11_caughtOf yX11_caughtOf ∈ lw_tbl := List.mem_of_getElem? (i := 38) (by decide +kernel)
theorem lm_39 : Cond.selects RX11 yX11_canThrow yX11_canThrow ∈ lw_tbl := List.mem_of_getElem? (i := 39) (by decide +kernel)
theorem lm_40 : Cond.selects RX11 yX11_finishes yX11_finishes ∈ lw_tbl := List.mem_of_getElem? (i := 40) (by decide +kernel)
theorem lm_41 : Cond.selects RX11 yX11_longest yX11_longest ∈ lw_tbl := List.mem_of_getElem? (i := 41) (by decide +kernel)
theorem lm_42 : Cond.selects RX11 yX11_goesTenth yX11_goesTenth ∈ lw_tbl := List.mem_of_getElem? (i := 42) (by decide +kernel)
theorem lm_43 : Cond.selects RX11 yX11_lower yX11_lower ∈ lw_tbl := List.mem_of_getElem? (i := 43) (by decide +kernel)
theorem lm_44 : Cond.selects RX11 yX11_sumAt yX11_sumAt ∈ lw_tbl := List.mem_of_getElem? (i := 44) (by decide +kernel)
theorem lm_45 : Cond.selects RX11 yX11_lowest yX11_lowest ∈ lw_tbl := List.mem_of_getElem? (i := 45) (by decide +kernel)
theorem lm_46 : Cond.selects RX11 yX11_goesDuel yX11_goesDuel ∈ lw_tbl := List.mem_of_getElem? (i := 46) (by decide +kernel)
theorem lm_47 : Cond.selects RX11 yX11_isThrown yX11_isThrown ∈ lw_tbl := List.mem_of_getElem? (i := 47) (by decide +kernel)
theorem lm_48 : Cond.selects RX11 yX11_hereBits yX11_hereBits ∈ lw_tbl := List.mem_of_getElem? (i := 48) (by decide +kernel)
theorem lm_49 : Cond.selects RX11 yX11_goesLot yX11_goesLot ∈ lw_tbl := List.mem_of_getElem? (i := 49) (by decide +kernel)
theorem lm_50 : Cond.selects RX11 yX11_draw yX11_draw ∈ lw_tbl := List.mem_of_getElem? (i := 50) (by decide +kernel)
theorem lm_51 : Cond.selects RX11 yX11_lying yX11_lying ∈ lw_tbl := List.mem_of_getElem? (i := 51) (by decide +kernel)
theorem lm_53 : Cond.initialized RX10 ∈ lw_tbl := List.mem_of_getElem? (i := 53) (by decide +kernel)
theorem lm_54 : Cond.initialized RX7 ∈ lw_tbl := List.mem_of_getElem? (i := 54) (by decide +kernel)
theorem lm_55 : Cond.initialized RX1 ∈ lw_tbl := List.mem_of_getElem? (i := 55) (by decide +kernel)
theorem lm_56 : Cond.initialized RX6 ∈ lw_tbl := List.mem_of_getElem? (i := 56) (by decide +kernel)
theorem lm_57 : Cond.initialized RX4 ∈ lw_tbl := List.mem_of_getElem? (i := 57) (by decide +kernel)
theorem lm_58 : Cond.initialized RX2 ∈ lw_tbl := List.mem_of_getElem? (i := 58) (by decide +kernel)
theorem lm_59 : Cond.initialized RX11 ∈ lw_tbl := List.mem_of_getElem? (i := 59) (by decide +kernel)
theorem lm_60 : Cond.initialized RJ0 ∈ lw_tbl := List.mem_of_getElem? (i := 60) (by decide +kernel)
theorem lm_61 : Cond.initialized RJ1 ∈ lw_tbl := List.mem_of_getElem? (i := 61) (by decide +kernel)
theorem lm_62 : Cond.initialized RJ3 ∈ lw_tbl := List.mem_of_getElem? (i := 62) (by decide +kernel)
theorem lm_63 : Cond.initialized RJ2 ∈ lw_tbl := List.mem_of_getElem? (i := 63) (by decide +kernel)
theorem lm_64 : Cond.initialized "java/lang/Math" ∈ lw_tbl := List.mem_of_getElem? (i := 64) (by decide +kernel)
theorem lm_65 : Cond.initialized RJ11 ∈ lw_tbl := List.mem_of_getElem? (i := 65) (by decide +kernel)
theorem lm_66 : Cond.initialized "java/lang/System" ∈ lw_tbl := List.mem_of_getElem? (i := 66) (by decide +kernel)
theorem lm_67 : Cond.initialized RX5 ∈ lw_tbl := List.mem_of_getElem? (i := 67) (by decide +kernel)
theorem lm_68 : Cond.initialized RX0 ∈ lw_tbl := List.mem_of_getElem? (i := 68) (by decide +kernel)
theorem lm_69 : Cond.initialized RX8 ∈ lw_tbl := List.mem_of_getElem? (i := 69) (by decide +kernel)
theorem lm_70 : Cond.initialized RX9 ∈ lw_tbl := List.mem_of_getElem? (i := 70) (by decide +kernel)
theorem lm_71 : Cond.initialized RX3 ∈ lw_tbl := List.mem_of_getElem? (i := 71) (by decide +kernel)
theorem lm_72 : Cond.initialized RJ6 ∈ lw_tbl := List.mem_of_getElem? (i := 72) (by decide +kernel)
set_option maxRecDepth 100000 in
theorem lm_77 : Cond.code yX10_init cX10_init 1 none ∈ lw_tbl := List.mem_of_getElem? (i := 77) rfl
theorem lm_78 : Cond.methodLink RX10 1 objectInit ∈ lw_tbl := List.mem_of_getElem? (i := 78) (by decide +kernel)
theorem lm_79 : Cond.instanceMethod objectInit ∈ lw_tbl := List.mem_of_getElem? (i := 79) (by decide +kernel)
set_option maxRecDepth 100000 in
theorem lm_80 : Cond.code objectInit ⟨#[0xb1]⟩ 1 none ∈ lw_tbl := List.mem_of_getElem? (i := 80) rfl
theorem lm_81 : Cond.classLink RX10 7 RX7 ∈ lw_tbl := List.mem_of_getElem? (i := 81) (by decide +kernel)
theorem lm_82 : Cond.instantiable RX7 2 ∈ lw_tbl := List.mem_of_getElem? (i := 82) (by decide +kernel)
theorem lm_84 : Cond.instanceMethod yX7_init ∈ lw_tbl := List.mem_of_getElem? (i := 84) (by decide +kernel)
set_option maxRecDepth 100000 in
theorem lm_85 : Cond.code yX7_init cX7_init 1 none ∈ lw_tbl := List.mem_of_getElem? (i := 85) rfl
theorem lm_86 : Cond.methodLink RX7 3 objectInit ∈ lw_tbl := List.mem_of_getElem? (i := 86) (by decide +kernel)
theorem lm_87 : Cond.fieldLink RX7 9 "BallsAtDodger$Text" "letters" "[C" ∈ lw_tbl := List.mem_of_getElem? (i := 87) (by decide +kernel)
theorem lm_88 : Cond.fieldLink RX7 15 "BallsAtDodger$Text" "length" "I" ∈ lw_tbl := List.mem_of_getElem? (i := 88) (by decide +kernel)
theorem lm_95 : Cond.arrayClass .char ∈ lw_tbl := List.mem_of_getElem? (i := 95) (by decide +kernel)
theorem lm_96 : Cond.classLink RX10 16 RX1 ∈ lw_tbl := List.mem_of_getElem? (i := 96) (by decide +kernel)
theorem lm_97 : Cond.instantiable RX1 8 ∈ lw_tbl := List.mem_of_getElem? (i := 97) (by decide +kernel)
theorem lm_98 : Cond.methodLink RX10 18 yX1_init ∈ lw_tbl := List.mem_of_getElem? (i := 98) (by decide +kernel)
theorem lm_99 : Cond.instanceMethod yX1_init ∈ lw_tbl := List.mem_of_getElem? (i := 99) (by decide +kernel)
set_option maxRecDepth 100000 in
theorem lm_100 : Cond.code yX1_init cX1_init 3 none ∈ lw_tbl := List.mem_of_getElem? (i := 100) rfl
theorem lm_101 : Cond.methodLink RX1 3 objectInit ∈ lw_tbl := List.mem_of_getElem? (i := 101) (by decide +kernel)
theorem lm_102 : Cond.classLink RX1 9 RX4 ∈ lw_tbl := List.mem_of_getElem? (i := 102) (by decide +kernel)
theorem lm_104 : Cond.classLink RX1 17 RX6 ∈ lw_tbl := List.mem_of_getElem? (i := 104) (by decide +kernel)
theorem lm_105 : Cond.instantiable RX6 3 ∈ lw_tbl := List.mem_of_getElem? (i := 105) (by decide +kernel)
theorem lm_107 : Cond.instanceMethod yX6_init ∈ lw_tbl := List.mem_of_getElem? (i := 107) (by decide +kernel)
set_option maxRecDepth 100000 in
theorem lm_108 : Cond.code yX6_init cX6_init 1 none ∈ lw_tbl := List.mem_of_getElem? (i := 108) rfl
theorem lm_109 : Cond.methodLink RX6 3 objectInit ∈ lw_tbl := List.mem_of_getElem? (i := 109) (by decide +kernel)
theorem lm_110 : Cond.fieldLink RX6 15 "BallsAtDodger$Side" "in" "I" ∈ lw_tbl := List.mem_of_getElem? (i := 110) (by decide +kernel)
theorem lm_112 : Cond.fieldLink RX6 9 "BallsAtDodger$Side" "waiting" "[I" ∈ lw_tbl := List.mem_of_getElem? (i := 112) (by decide +kernel)
theorem lm_113 : Cond.fieldLink RX6 19 "BallsAtDodger$Side" "waitingCount" "I" ∈ lw_tbl := List.mem_of_getElem? (i := 113) (by decide +kernel)
theorem lm_121 : Cond.arrayClass .int ∈ lw_tbl := List.mem_of_getElem? (i := 121) (by decide +kernel)
theorem lm_122 : Cond.instantiable RX4 4 ∈ lw_tbl := List.mem_of_getElem? (i := 122) (by decide +kernel)
theorem lm_123 : Cond.methodLink RX1 37 yX4_init ∈ lw_tbl := List.mem_of_getElem? (i := 123) (by decide +kernel)
theorem lm_124 : Cond.instanceMethod yX4_init ∈ lw_tbl := List.mem_of_getElem? (i := 124) (by decide +kernel)
set_option maxRecDepth 100000 in
theorem lm_125 : Cond.code yX4_init cX4_init 5 none ∈ lw_tbl := List.mem_of_getElem? (i := 125) rfl
theorem lm_126 : Cond.methodLink RX4 1 objectInit ∈ lw_tbl := List.mem_of_getElem? (i := 126) (by decide +kernel)
theorem lm_127 : Cond.fieldLink RX4 7 "BallsAtDodger$Player" "kind" "I" ∈ lw_tbl := List.mem_of_getElem? (i := 127) (by decide +kernel)
theorem lm_129 : Cond.fieldLink RX4 13 "BallsAtDodger$Player" "side" "I" ∈ lw_tbl := List.mem_of_getElem? (i := 129) (by decide +kernel)
theorem lm_131 : Cond.fieldLink RX4 16 "BallsAtDodger$Player" "arm" "I" ∈ lw_tbl := List.mem_of_getElem? (i := 131) (by decide +kernel)
theorem lm_132 : Cond.fieldLink RX4 19 "BallsAtDodger$Player" "eye" "I" ∈ lw_tbl := List.mem_of_getElem? (i := 132) (by decide +kernel)
theorem lm_142 : Cond.methodLink RX1 40 yX1_layOn ∈ lw_tbl := List.mem_of_getElem? (i := 142) (by decide +kernel)
theorem lm_143 : Cond.instanceMethod yX1_layOn ∈ lw_tbl := List.mem_of_getElem? (i := 143) (by decide +kernel)
theorem lm_144 : Cond.selects RX1 yX1_layOn yX1_layOn ∈ lw_tbl := List.mem_of_getElem? (i := 144) (by decide +kernel)
set_option maxRecDepth 100000 in
theorem lm_145 : Cond.code yX1_layOn cX1_layOn 3 none ∈ lw_tbl := List.mem_of_getElem? (i := 145) rfl
theorem lm_147 : Cond.static yX10_isBall ∈ lw_tbl := List.mem_of_getElem? (i := 147) (by decide +kernel)
set_option maxRecDepth 100000 in
theorem lm_148 : Cond.code yX10_isBall cX10_isBall 1 (some .boolean) ∈ lw_tbl := List.mem_of_getElem? (i := 148) rfl
theorem lm_149 : Cond.fieldLink RX1 11 "BallsAtDodger$Court" "players" "[LBallsAtDodger$Player;" ∈ lw_tbl := List.mem_of_getElem? (i := 149) (by decide +kernel)
theorem lm_150 : Cond.fieldLink RX1 44 "BallsAtDodger$Court" "playerCount" "I" ∈ lw_tbl := List.mem_of_getElem? (i := 150) (by decide +kernel)
theorem lm_152 : Cond.fieldLink RX1 20 "BallsAtDodger$Court" "side0" "LBallsAtDodger$Side;" ∈ lw_tbl := List.mem_of_getElem? (i := 152) (by decide +kernel)
theorem lm_153 : Cond.fieldLink RX1 24 "BallsAtDodger$Court" "side1" "LBallsAtDodger$Side;" ∈ lw_tbl := List.mem_of_getElem? (i := 153) (by decide +kernel)
theorem lm_154 : Cond.fieldLink RX1 27 "BallsAtDodger$Court" "holder" "[I" ∈ lw_tbl := List.mem_of_getElem? (i := 154) (by decide +kernel)
theorem lm_155 : Cond.fieldLink RX1 31 "BallsAtDodger$Court" "floor" "[I" ∈ lw_tbl := List.mem_of_getElem? (i := 155) (by decide +kernel)
theorem lm_156 : Cond.fieldLink RX1 34 "BallsAtDodger$Court" "held" "[I" ∈ lw_tbl := List.mem_of_getElem? (i := 156) (by decide +kernel)
theorem lm_157 : Cond.fieldLink RX1 58 "BallsAtDodger$Court" "tenth" "I" ∈ lw_tbl := List.mem_of_getElem? (i := 157) (by decide +kernel)
theorem lm_176 : Cond.classLink RX10 29 RX2 ∈ lw_tbl := List.mem_of_getElem? (i := 176) (by decide +kernel)
theorem lm_177 : Cond.instantiable RX2 6 ∈ lw_tbl := List.mem_of_getElem? (i := 177) (by decide +kernel)
theorem lm_179 : Cond.instanceMethod yX2_init ∈ lw_tbl := List.mem_of_getElem? (i := 179) (by decide +kernel)
set_option maxRecDepth 100000 in
theorem lm_180 : Cond.code yX2_init cX2_init 1 none ∈ lw_tbl := List.mem_of_getElem? (i := 180) rfl
theorem lm_181 : Cond.methodLink RX2 3 objectInit ∈ lw_tbl := List.mem_of_getElem? (i := 181) (by decide +kernel)
theorem lm_182 : Cond.fieldLink RX2 11 "BallsAtDodger$Duel" "ways" "[J" ∈ lw_tbl := List.mem_of_getElem? (i := 182) (by decide +kernel)
theorem lm_183 : Cond.fieldLink RX2 15 "BallsAtDodger$Duel" "before" "[J" ∈ lw_tbl := List.mem_of_getElem? (i := 183) (by decide +kernel)
theorem lm_184 : Cond.fieldLink RX2 21 "BallsAtDodger$Duel" "hits" "I" ∈ lw_tbl := List.mem_of_getElem? (i := 184) (by decide +kernel)
theorem lm_185 : Cond.fieldLink RX2 25 "BallsAtDodger$Duel" "catches" "I" ∈ lw_tbl := List.mem_of_getElem? (i := 185) (by decide +kernel)
theorem lm_186 : Cond.fieldLink RX2 28 "BallsAtDodger$Duel" "thrower" "I" ∈ lw_tbl := List.mem_of_getElem? (i := 186) (by decide +kernel)
theorem lm_187 : Cond.fieldLink RX2 31 "BallsAtDodger$Duel" "all" "J" ∈ lw_tbl := List.mem_of_getElem? (i := 187) (by decide +kernel)
theorem lm_202 : Cond.arrayClass .long ∈ lw_tbl := List.mem_of_getElem? (i := 202) (by decide +kernel)
theorem lm_203 : Cond.fieldLink RX10 10 "BallsAtDodger" "text" "LBallsAtDodger$Text;" ∈ lw_tbl := List.mem_of_getElem? (i := 203) (by decide +kernel)
theorem lm_204 : Cond.fieldLink RX10 19 "BallsAtDodger" "now" "LBallsAtDodger$Court;" ∈ lw_tbl := List.mem_of_getElem? (i := 204) (by decide +kernel)
theorem lm_205 : Cond.fieldLink RX10 23 "BallsAtDodger" "mind" "LBallsAtDodger$Court;" ∈ lw_tbl := List.mem_of_getElem? (i := 205) (by decide +kernel)
theorem lm_206 : Cond.fieldLink RX10 26 "BallsAtDodger" "kept" "LBallsAtDodger$Court;" ∈ lw_tbl := List.mem_of_getElem? (i := 206) (by decide +kernel)
theorem lm_207 : Cond.fieldLink RX10 223 "BallsAtDodger" "isKept" "Z" ∈ lw_tbl := List.mem_of_getElem? (i := 207) (by decide +kernel)
theorem lm_208 : Cond.fieldLink RX10 32 "BallsAtDodger" "fight" "LBallsAtDodger$Duel;" ∈ lw_tbl := List.mem_of_getElem? (i := 208) (by decide +kernel)
theorem lm_209 : Cond.fieldLink RX10 36 "BallsAtDodger" "told" "[I" ∈ lw_tbl := List.mem_of_getElem? (i := 209) (by decide +kernel)
theorem lm_210 : Cond.fieldLink RX10 193 "BallsAtDodger" "toldCount" "I" ∈ lw_tbl := List.mem_of_getElem? (i := 210) (by decide +kernel)
theorem lm_211 : Cond.fieldLink RX10 40 "BallsAtDodger" "refusals" "[I" ∈ lw_tbl := List.mem_of_getElem? (i := 211) (by decide +kernel)
theorem lm_212 : Cond.fieldLink RX10 217 "BallsAtDodger" "seed" "I" ∈ lw_tbl := List.mem_of_getElem? (i := 212) (by decide +kernel)
theorem lm_234 : Cond.methodLink RL 13 yX10_letter ∈ lw_tbl := List.mem_of_getElem? (i := 234) (by decide +kernel)
theorem lm_235 : Cond.instanceMethod yX10_letter ∈ lw_tbl := List.mem_of_getElem? (i := 235) (by decide +kernel)
theorem lm_236 : Cond.selects RX10 yX10_letter yX10_letter ∈ lw_tbl := List.mem_of_getElem? (i := 236) (by decide +kernel)
set_option maxRecDepth 100000 in
theorem lm_237 : Cond.code yX10_letter cX10_letter 2 (some .int) ∈ lw_tbl := List.mem_of_getElem? (i := 237) rfl
theorem lm_238 : Cond.methodLink RX10 43 yX10_refused ∈ lw_tbl := List.mem_of_getElem? (i := 238) (by decide +kernel)
theorem lm_240 : Cond.instanceMethod yX10_refused ∈ lw_tbl := List.mem_of_getElem? (i := 240) (by decide +kernel)
set_option maxRecDepth 100000 in
theorem lm_241 : Cond.code yX10_refused cX10_refused 3 (some .int) ∈ lw_tbl := List.mem_of_getElem? (i := 241) rfl
theorem lm_242 : Cond.methodLink RX10 47 yX7_isFull ∈ lw_tbl := List.mem_of_getElem? (i := 242) (by decide +kernel)
theorem lm_243 : Cond.instanceMethod yX7_isFull ∈ lw_tbl := List.mem_of_getElem? (i := 243) (by decide +kernel)
theorem lm_244 : Cond.selects RX7 yX7_isFull yX7_isFull ∈ lw_tbl := List.mem_of_getElem? (i := 244) (by decide +kernel)
set_option maxRecDepth 100000 in
theorem lm_245 : Cond.code yX7_isFull cX7_isFull 1 (some .boolean) ∈ lw_tbl := List.mem_of_getElem? (i := 245) rfl
theorem lm_246 : Cond.methodLink RX10 51 yX7_append ∈ lw_tbl := List.mem_of_getElem? (i := 246) (by decide +kernel)
theorem lm_247 : Cond.instanceMethod yX7_append ∈ lw_tbl := List.mem_of_getElem? (i := 247) (by decide +kernel)
theorem lm_248 : Cond.selects RX7 yX7_append yX7_append ∈ lw_tbl := List.mem_of_getElem? (i := 248) (by decide +kernel)
set_option maxRecDepth 100000 in
theorem lm_249 : Cond.code yX7_append cX7_append 2 none ∈ lw_tbl := List.mem_of_getElem? (i := 249) rfl
theorem lm_250 : Cond.methodLink RX7 19 yX7_isFull ∈ lw_tbl := List.mem_of_getElem? (i := 250) (by decide +kernel)
theorem lm_251 : Cond.methodLink RL 18 yX10_hall ∈ lw_tbl := List.mem_of_getElem? (i := 251) (by decide +kernel)
theorem lm_252 : Cond.instanceMethod yX10_hall ∈ lw_tbl := List.mem_of_getElem? (i := 252) (by decide +kernel)
theorem lm_253 : Cond.selects RX10 yX10_hall yX10_hall ∈ lw_tbl := List.mem_of_getElem? (i := 253) (by decide +kernel)
set_option maxRecDepth 100000 in
theorem lm_254 : Cond.code yX10_hall cX10_hall 3 (some .int) ∈ lw_tbl := List.mem_of_getElem? (i := 254) rfl
theorem lm_255 : Cond.methodLink RX10 59 yX7_unfitLetter ∈ lw_tbl := List.mem_of_getElem? (i := 255) (by decide +kernel)
theorem lm_256 : Cond.instanceMethod yX7_unfitLetter ∈ lw_tbl := List.mem_of_getElem? (i := 256) (by decide +kernel)
theorem lm_257 : Cond.selects RX7 yX7_unfitLetter yX7_unfitLetter ∈ lw_tbl := List.mem_of_getElem? (i := 257) (by decide +kernel)
set_option maxRecDepth 100000 in
theorem lm_258 : Cond.code yX7_unfitLetter cX7_unfitLetter 4 (some .int) ∈ lw_tbl := List.mem_of_getElem? (i := 258) rfl
theorem lm_260 : Cond.methodLink RX7 25 yJ0_length_8abf5 ∈ lw_tbl := List.mem_of_getElem? (i := 260) (by decide +kernel)
theorem lm_261 : Cond.instanceMethod yJ0_length_8abf5 ∈ lw_tbl := List.mem_of_getElem? (i := 261) (by decide +kernel)
theorem lm_262 : Cond.selects RJ0 yJ0_length_8abf5 yJ0_length_8abf5 ∈ lw_tbl := List.mem_of_getElem? (i := 262) (by decide +kernel)
set_option maxRecDepth 100000 in
theorem lm_263 : Cond.code yJ0_length_8abf5 cJ0_length_8abf5 1 (some .int) ∈ lw_tbl := List.mem_of_getElem? (i := 263) rfl
theorem lm_264 : Cond.methodLink RJ0 335 yJ0_coder_7d493 ∈ lw_tbl := List.mem_of_getElem? (i := 264) (by decide +kernel)
theorem lm_265 : Cond.instanceMethod yJ0_coder_7d493 ∈ lw_tbl := List.mem_of_getElem? (i := 265) (by decide +kernel)
theorem lm_266 : Cond.selects RJ0 yJ0_coder_7d493 yJ0_coder_7d493 ∈ lw_tbl := List.mem_of_getElem? (i := 266) (by decide +kernel)
set_option maxRecDepth 100000 in
theorem lm_267 : Cond.code yJ0_coder_7d493 cJ0_coder_7d493 1 (some .byte) ∈ lw_tbl := List.mem_of_getElem? (i := 267) rfl
theorem lm_268 : Cond.fieldLink RJ0 38 "java/lang/String" "COMPACT_STRINGS" "Z" ∈ lw_tbl := List.mem_of_getElem? (i := 268) (by decide +kernel)
theorem lm_270 : Cond.methodLink RX7 30 yJ0_charAt_5068e ∈ lw_tbl := List.mem_of_getElem? (i := 270) (by decide +kernel)
theorem lm_271 : Cond.instanceMethod yJ0_charAt_5068e ∈ lw_tbl := List.mem_of_getElem? (i := 271) (by decide +kernel)
theorem lm_272 : Cond.selects RJ0 yJ0_charAt_5068e yJ0_charAt_5068e ∈ lw_tbl := List.mem_of_getElem? (i := 272) (by decide +kernel)
set_option maxRecDepth 100000 in
theorem lm_273 : Cond.code yJ0_charAt_5068e cJ0_charAt_5068e 2 (some .char) ∈ lw_tbl := List.mem_of_getElem? (i := 273) rfl
theorem lm_274 : Cond.methodLink RJ0 492 yJ0_isLatin1_aae02 ∈ lw_tbl := List.mem_of_getElem? (i := 274) (by decide +kernel)
theorem lm_275 : Cond.instanceMethod yJ0_isLatin1_aae02 ∈ lw_tbl := List.mem_of_getElem? (i := 275) (by decide +kernel)
theorem lm_276 : Cond.selects RJ0 yJ0_isLatin1_aae02 yJ0_isLatin1_aae02 ∈ lw_tbl := List.mem_of_getElem? (i := 276) (by decide +kernel)
set_option maxRecDepth 100000 in
theorem lm_277 : Cond.code yJ0_isLatin1_aae02 cJ0_isLatin1_aae02 1 (some .boolean) ∈ lw_tbl := List.mem_of_getElem? (i := 277) rfl
theorem lm_278 : Cond.methodLink RJ0 495 yJ1_charAt_3b067 ∈ lw_tbl := List.mem_of_getElem? (i := 278) (by decide +kernel)
theorem lm_279 : Cond.static yJ1_charAt_3b067 ∈ lw_tbl := List.mem_of_getElem? (i := 279) (by decide +kernel)
set_option maxRecDepth 100000 in
theorem lm_280 : Cond.code yJ1_charAt_3b067 cJ1_charAt_3b067 2 (some .char) ∈ lw_tbl := List.mem_of_getElem? (i := 280) rfl
theorem lm_281 : Cond.methodLink RJ1 9 yJ0_checkIndex_df160 ∈ lw_tbl := List.mem_of_getElem? (i := 281) (by decide +kernel)
theorem lm_282 : Cond.static yJ0_checkIndex_df160 ∈ lw_tbl := List.mem_of_getElem? (i := 282) (by decide +kernel)
set_option maxRecDepth 100000 in
theorem lm_283 : Cond.code yJ0_checkIndex_df160 cJ0_checkIndex_df160 2 none ∈ lw_tbl := List.mem_of_getElem? (i := 283) rfl
theorem lm_284 : Cond.fieldLink RJ0 1053 "jdk/internal/util/Preconditions" "SIOOBE_FORMATTER" "Ljava/util/function/BiFunction;" ∈ lw_tbl := List.mem_of_getElem? (i := 284) (by decide +kernel)
theorem lm_286 : Cond.methodLink RJ0 1059 yJ3_checkIndex_8e157 ∈ lw_tbl := List.mem_of_getElem? (i := 286) (by decide +kernel)
theorem lm_287 : Cond.static yJ3_checkIndex_8e157 ∈ lw_tbl := List.mem_of_getElem? (i := 287) (by decide +kernel)
set_option maxRecDepth 100000 in
theorem lm_288 : Cond.code yJ3_checkIndex_8e157 cJ3_checkIndex_8e157 3 (some .int) ∈ lw_tbl := List.mem_of_getElem? (i := 288) rfl
theorem lm_289 : Cond.methodLink RJ0 498 yJ2_charAt_3b067 ∈ lw_tbl := List.mem_of_getElem? (i := 289) (by decide +kernel)
theorem lm_290 : Cond.static yJ2_charAt_3b067 ∈ lw_tbl := List.mem_of_getElem? (i := 290) (by decide +kernel)
set_option maxRecDepth 100000 in
theorem lm_291 : Cond.code yJ2_charAt_3b067 cJ2_charAt_3b067 2 (some .char) ∈ lw_tbl := List.mem_of_getElem? (i := 291) rfl
theorem lm_292 : Cond.methodLink RJ2 67 yJ2_checkIndex_2214a ∈ lw_tbl := List.mem_of_getElem? (i := 292) (by decide +kernel)
theorem lm_293 : Cond.static yJ2_checkIndex_2214a ∈ lw_tbl := List.mem_of_getElem? (i := 293) (by decide +kernel)
set_option maxRecDepth 100000 in
theorem lm_294 : Cond.code yJ2_checkIndex_2214a cJ2_checkIndex_2214a 2 none ∈ lw_tbl := List.mem_of_getElem? (i := 294) rfl
theorem lm_295 : Cond.methodLink RJ2 48 yJ2_length_9d52b ∈ lw_tbl := List.mem_of_getElem? (i := 295) (by decide +kernel)
theorem lm_296 : Cond.static yJ2_length_9d52b ∈ lw_tbl := List.mem_of_getElem? (i := 296) (by decide +kernel)
set_option maxRecDepth 100000 in
theorem lm_297 : Cond.code yJ2_length_9d52b cJ2_length_9d52b 1 (some .int) ∈ lw_tbl := List.mem_of_getElem? (i := 297) rfl
theorem lm_298 : Cond.methodLink RJ2 414 yJ0_checkIndex_df160 ∈ lw_tbl := List.mem_of_getElem? (i := 298) (by decide +kernel)
theorem lm_299 : Cond.methodLink RJ2 71 yJ2_getChar_3b067 ∈ lw_tbl := List.mem_of_getElem? (i := 299) (by decide +kernel)
theorem lm_300 : Cond.static yJ2_getChar_3b067 ∈ lw_tbl := List.mem_of_getElem? (i := 300) (by decide +kernel)
set_option maxRecDepth 100000 in
theorem lm_301 : Cond.code yJ2_getChar_3b067 cJ2_getChar_3b067 2 (some .char) ∈ lw_tbl := List.mem_of_getElem? (i := 301) rfl
theorem lm_302 : Cond.fieldLink RJ2 44 "java/lang/StringUTF16" "$assertionsDisabled" "Z" ∈ lw_tbl := List.mem_of_getElem? (i := 302) (by decide +kernel)
theorem lm_304 : Cond.fieldLink RJ2 59 "java/lang/StringUTF16" "HI_BYTE_SHIFT" "I" ∈ lw_tbl := List.mem_of_getElem? (i := 304) (by decide +kernel)
theorem lm_306 : Cond.fieldLink RJ2 63 "java/lang/StringUTF16" "LO_BYTE_SHIFT" "I" ∈ lw_tbl := List.mem_of_getElem? (i := 306) (by decide +kernel)
theorem lm_308 : Cond.methodLink RX7 34 yX7_letterAt ∈ lw_tbl := List.mem_of_getElem? (i := 308) (by decide +kernel)
theorem lm_310 : Cond.instanceMethod yX7_letterAt ∈ lw_tbl := List.mem_of_getElem? (i := 310) (by decide +kernel)
set_option maxRecDepth 100000 in
theorem lm_311 : Cond.code yX7_letterAt cX7_letterAt 2 (some .char) ∈ lw_tbl := List.mem_of_getElem? (i := 311) rfl
theorem lm_312 : Cond.methodLink RX7 37 yX7_fits ∈ lw_tbl := List.mem_of_getElem? (i := 312) (by decide +kernel)
theorem lm_313 : Cond.static yX7_fits ∈ lw_tbl := List.mem_of_getElem? (i := 313) (by decide +kernel)
set_option maxRecDepth 100000 in
theorem lm_314 : Cond.code yX7_fits cX7_fits 2 (some .boolean) ∈ lw_tbl := List.mem_of_getElem? (i := 314) rfl
theorem lm_316 : Cond.methodLink RX7 82 yJ0_indexOf_0f7a4 ∈ lw_tbl := List.mem_of_getElem? (i := 316) (by decide +kernel)
theorem lm_317 : Cond.instanceMethod yJ0_indexOf_0f7a4 ∈ lw_tbl := List.mem_of_getElem? (i := 317) (by decide +kernel)
theorem lm_318 : Cond.selects RJ0 yJ0_indexOf_0f7a4 yJ0_indexOf_0f7a4 ∈ lw_tbl := List.mem_of_getElem? (i := 318) (by decide +kernel)
set_option maxRecDepth 100000 in
theorem lm_319 : Cond.code yJ0_indexOf_0f7a4 cJ0_indexOf_0f7a4 2 (some .int) ∈ lw_tbl := List.mem_of_getElem? (i := 319) rfl
theorem lm_320 : Cond.methodLink RJ0 633 yJ0_indexOf_7cf53 ∈ lw_tbl := List.mem_of_getElem? (i := 320) (by decide +kernel)
theorem lm_321 : Cond.instanceMethod yJ0_indexOf_7cf53 ∈ lw_tbl := List.mem_of_getElem? (i := 321) (by decide +kernel)
theorem lm_322 : Cond.selects RJ0 yJ0_indexOf_7cf53 yJ0_indexOf_7cf53 ∈ lw_tbl := List.mem_of_getElem? (i := 322) (by decide +kernel)
set_option maxRecDepth 100000 in
theorem lm_323 : Cond.code yJ0_indexOf_7cf53 cJ0_indexOf_7cf53 3 (some .int) ∈ lw_tbl := List.mem_of_getElem? (i := 323) rfl
theorem lm_324 : Cond.methodLink RJ0 505 yJ0_length_8abf5 ∈ lw_tbl := List.mem_of_getElem? (i := 324) (by decide +kernel)
theorem lm_325 : Cond.methodLink RJ0 637 yJ1_indexOf_4cfef ∈ lw_tbl := List.mem_of_getElem? (i := 325) (by decide +kernel)
theorem lm_326 : Cond.static yJ1_indexOf_4cfef ∈ lw_tbl := List.mem_of_getElem? (i := 326) (by decide +kernel)
set_option maxRecDepth 100000 in
theorem lm_327 : Cond.code yJ1_indexOf_4cfef cJ1_indexOf_4cfef 4 (some .int) ∈ lw_tbl := List.mem_of_getElem? (i := 327) rfl
theorem lm_328 : Cond.methodLink RJ1 88 yJ1_canEncode_9a6ad ∈ lw_tbl := List.mem_of_getElem? (i := 328) (by decide +kernel)
theorem lm_329 : Cond.static yJ1_canEncode_9a6ad ∈ lw_tbl := List.mem_of_getElem? (i := 329) (by decide +kernel)
set_option maxRecDepth 100000 in
theorem lm_330 : Cond.code yJ1_canEncode_9a6ad cJ1_canEncode_9a6ad 1 (some .boolean) ∈ lw_tbl := List.mem_of_getElem? (i := 330) rfl
theorem lm_331 : Cond.methodLink RJ1 92 Lib.Math.max.name ∈ lw_tbl := List.mem_of_getElem? (i := 331) (by decide +kernel)
theorem lm_332 : Cond.static Lib.Math.max.name ∈ lw_tbl := List.mem_of_getElem? (i := 332) (by decide +kernel)
set_option maxRecDepth 100000 in
theorem lm_333 : Cond.code Lib.Math.max.name Lib.Math.max.code 2 (some .int) ∈ lw_tbl := List.mem_of_getElem? (i := 333) rfl
theorem lm_334 : Cond.methodLink RJ1 38 Lib.Math.min.name ∈ lw_tbl := List.mem_of_getElem? (i := 334) (by decide +kernel)
theorem lm_335 : Cond.static Lib.Math.min.name ∈ lw_tbl := List.mem_of_getElem? (i := 335) (by decide +kernel)
set_option maxRecDepth 100000 in
theorem lm_336 : Cond.code Lib.Math.min.name Lib.Math.min.code 2 (some .int) ∈ lw_tbl := List.mem_of_getElem? (i := 336) rfl
theorem lm_337 : Cond.methodLink RJ1 95 yJ1_indexOfChar_4cfef ∈ lw_tbl := List.mem_of_getElem? (i := 337) (by decide +kernel)
theorem lm_338 : Cond.static yJ1_indexOfChar_4cfef ∈ lw_tbl := List.mem_of_getElem? (i := 338) (by decide +kernel)
set_option maxRecDepth 100000 in
theorem lm_339 : Cond.code yJ1_indexOfChar_4cfef cJ1_indexOfChar_4cfef 6 (some .int) ∈ lw_tbl := List.mem_of_getElem? (i := 339) rfl
theorem lm_340 : Cond.methodLink RJ0 640 yJ2_indexOf_4cfef ∈ lw_tbl := List.mem_of_getElem? (i := 340) (by decide +kernel)
theorem lm_341 : Cond.static yJ2_indexOf_4cfef ∈ lw_tbl := List.mem_of_getElem? (i := 341) (by decide +kernel)
set_option maxRecDepth 100000 in
theorem lm_342 : Cond.code yJ2_indexOf_4cfef cJ2_indexOf_4cfef 4 (some .int) ∈ lw_tbl := List.mem_of_getElem? (i := 342) rfl
theorem lm_343 : Cond.methodLink RJ2 224 Lib.Math.max.name ∈ lw_tbl := List.mem_of_getElem? (i := 343) (by decide +kernel)
theorem lm_344 : Cond.methodLink RJ2 183 Lib.Math.min.name ∈ lw_tbl := List.mem_of_getElem? (i := 344) (by decide +kernel)
theorem lm_345 : Cond.constant RJ2 227 (65536) ∈ lw_tbl := List.mem_of_getElem? (i := 345) (by decide +kernel)
theorem lm_346 : Cond.methodLink RJ2 228 yJ2_indexOfChar_4cfef ∈ lw_tbl := List.mem_of_getElem? (i := 346) (by decide +kernel)
theorem lm_347 : Cond.static yJ2_indexOfChar_4cfef ∈ lw_tbl := List.mem_of_getElem? (i := 347) (by decide +kernel)
set_option maxRecDepth 100000 in
theorem lm_348 : Cond.code yJ2_indexOfChar_4cfef cJ2_indexOfChar_4cfef 4 (some .int) ∈ lw_tbl := List.mem_of_getElem? (i := 348) rfl
theorem lm_349 : Cond.methodLink RJ2 96 yJ2_checkBoundsBeginEnd_d044e ∈ lw_tbl := List.mem_of_getElem? (i := 349) (by decide +kernel)
theorem lm_350 : Cond.static yJ2_checkBoundsBeginEnd_d044e ∈ lw_tbl := List.mem_of_getElem? (i := 350) (by decide +kernel)
set_option maxRecDepth 100000 in
theorem lm_351 : Cond.code yJ2_checkBoundsBeginEnd_d044e cJ2_checkBoundsBeginEnd_d044e 3 none ∈ lw_tbl := List.mem_of_getElem? (i := 351) rfl
theorem lm_352 : Cond.methodLink RJ2 241 yJ0_checkBoundsBeginEnd_23922 ∈ lw_tbl := List.mem_of_getElem? (i := 352) (by decide +kernel)
theorem lm_353 : Cond.static yJ0_checkBoundsBeginEnd_23922 ∈ lw_tbl := List.mem_of_getElem? (i := 353) (by decide +kernel)
set_option maxRecDepth 100000 in
theorem lm_354 : Cond.code yJ0_checkBoundsBeginEnd_23922 cJ0_checkBoundsBeginEnd_23922 3 none ∈ lw_tbl := List.mem_of_getElem? (i := 354) rfl
theorem lm_355 : Cond.methodLink RJ0 1062 yJ3_checkFromToIndex_8c36e ∈ lw_tbl := List.mem_of_getElem? (i := 355) (by decide +kernel)
theorem lm_356 : Cond.static yJ3_checkFromToIndex_8c36e ∈ lw_tbl := List.mem_of_getElem? (i := 356) (by decide +kernel)
set_option maxRecDepth 100000 in
theorem lm_357 : Cond.code yJ3_checkFromToIndex_8c36e cJ3_checkFromToIndex_8c36e 4 (some .int) ∈ lw_tbl := List.mem_of_getElem? (i := 357) rfl
theorem lm_358 : Cond.methodLink RJ2 244 yJ2_indexOfCharUnsafe_4cfef ∈ lw_tbl := List.mem_of_getElem? (i := 358) (by decide +kernel)
theorem lm_359 : Cond.static yJ2_indexOfCharUnsafe_4cfef ∈ lw_tbl := List.mem_of_getElem? (i := 359) (by decide +kernel)
set_option maxRecDepth 100000 in
theorem lm_360 : Cond.code yJ2_indexOfCharUnsafe_4cfef cJ2_indexOfCharUnsafe_4cfef 5 (some .int) ∈ lw_tbl := List.mem_of_getElem? (i := 360) rfl
theorem lm_361 : Cond.methodLink RJ2 232 yJ2_indexOfSupplementary_4cfef ∈ lw_tbl := List.mem_of_getElem? (i := 361) (by decide +kernel)
theorem lm_362 : Cond.static yJ2_indexOfSupplementary_4cfef ∈ lw_tbl := List.mem_of_getElem? (i := 362) (by decide +kernel)
set_option maxRecDepth 100000 in
theorem lm_363 : Cond.code yJ2_indexOfSupplementary_4cfef cJ2_indexOfSupplementary_4cfef 7 (some .int) ∈ lw_tbl := List.mem_of_getElem? (i := 363) rfl
theorem lm_364 : Cond.methodLink RJ2 164 yJ11_isValidCodePoint_9a6ad ∈ lw_tbl := List.mem_of_getElem? (i := 364) (by decide +kernel)
theorem lm_365 : Cond.static yJ11_isValidCodePoint_9a6ad ∈ lw_tbl := List.mem_of_getElem? (i := 365) (by decide +kernel)
set_option maxRecDepth 100000 in
theorem lm_366 : Cond.code yJ11_isValidCodePoint_9a6ad cJ11_isValidCodePoint_9a6ad 2 (some .boolean) ∈ lw_tbl := List.mem_of_getElem? (i := 366) rfl
theorem lm_367 : Cond.methodLink RJ2 157 yJ11_highSurrogate_5068e ∈ lw_tbl := List.mem_of_getElem? (i := 367) (by decide +kernel)
theorem lm_368 : Cond.static yJ11_highSurrogate_5068e ∈ lw_tbl := List.mem_of_getElem? (i := 368) (by decide +kernel)
set_option maxRecDepth 100000 in
theorem lm_369 : Cond.code yJ11_highSurrogate_5068e cJ11_highSurrogate_5068e 1 (some .char) ∈ lw_tbl := List.mem_of_getElem? (i := 369) rfl
theorem lm_370 : Cond.constant RJ11 110 (55232) ∈ lw_tbl := List.mem_of_getElem? (i := 370) (by decide +kernel)
theorem lm_371 : Cond.methodLink RJ2 161 yJ11_lowSurrogate_5068e ∈ lw_tbl := List.mem_of_getElem? (i := 371) (by decide +kernel)
theorem lm_372 : Cond.static yJ11_lowSurrogate_5068e ∈ lw_tbl := List.mem_of_getElem? (i := 372) (by decide +kernel)
set_option maxRecDepth 100000 in
theorem lm_373 : Cond.code yJ11_lowSurrogate_5068e cJ11_lowSurrogate_5068e 1 (some .char) ∈ lw_tbl := List.mem_of_getElem? (i := 373) rfl
theorem lm_374 : Cond.constant RJ11 76 (56320) ∈ lw_tbl := List.mem_of_getElem? (i := 374) (by decide +kernel)
theorem lm_375 : Cond.methodLink RX7 41 yX7_shapeBehind ∈ lw_tbl := List.mem_of_getElem? (i := 375) (by decide +kernel)
theorem lm_376 : Cond.static yX7_shapeBehind ∈ lw_tbl := List.mem_of_getElem? (i := 376) (by decide +kernel)
set_option maxRecDepth 100000 in
theorem lm_377 : Cond.code yX7_shapeBehind cX7_shapeBehind 1 (some (.object "java/lang/String")) ∈ lw_tbl := List.mem_of_getElem? (i := 377) rfl
theorem lm_381 : Cond.methodLink RX7 45 yJ0_isEmpty_aae02 ∈ lw_tbl := List.mem_of_getElem? (i := 381) (by decide +kernel)
theorem lm_382 : Cond.instanceMethod yJ0_isEmpty_aae02 ∈ lw_tbl := List.mem_of_getElem? (i := 382) (by decide +kernel)
theorem lm_383 : Cond.selects RJ0 yJ0_isEmpty_aae02 yJ0_isEmpty_aae02 ∈ lw_tbl := List.mem_of_getElem? (i := 383) (by decide +kernel)
set_option maxRecDepth 100000 in
theorem lm_384 : Cond.code yJ0_isEmpty_aae02 cJ0_isEmpty_aae02 1 (some .boolean) ∈ lw_tbl := List.mem_of_getElem? (i := 384) rfl
theorem lm_385 : Cond.methodLink RX10 63 yX1_becomeLike ∈ lw_tbl := List.mem_of_getElem? (i := 385) (by decide +kernel)
theorem lm_386 : Cond.instanceMethod yX1_becomeLike ∈ lw_tbl := List.mem_of_getElem? (i := 386) (by decide +kernel)
theorem lm_387 : Cond.selects RX1 yX1_becomeLike yX1_becomeLike ∈ lw_tbl := List.mem_of_getElem? (i := 387) (by decide +kernel)
set_option maxRecDepth 100000 in
theorem lm_388 : Cond.code yX1_becomeLike cX1_becomeLike 3 none ∈ lw_tbl := List.mem_of_getElem? (i := 388) rfl
theorem lm_389 : Cond.methodLink RX1 48 yX6_becomeLike ∈ lw_tbl := List.mem_of_getElem? (i := 389) (by decide +kernel)
theorem lm_390 : Cond.instanceMethod yX6_becomeLike ∈ lw_tbl := List.mem_of_getElem? (i := 390) (by decide +kernel)
theorem lm_391 : Cond.selects RX6 yX6_becomeLike yX6_becomeLike ∈ lw_tbl := List.mem_of_getElem? (i := 391) (by decide +kernel)
set_option maxRecDepth 100000 in
theorem lm_392 : Cond.code yX6_becomeLike cX6_becomeLike 2 none ∈ lw_tbl := List.mem_of_getElem? (i := 392) rfl
theorem lm_393 : Cond.methodLink RX6 32 arraycopyName ∈ lw_tbl := List.mem_of_getElem? (i := 393) (by decide +kernel)
theorem lm_394 : Cond.static arraycopyName ∈ lw_tbl := List.mem_of_getElem? (i := 394) (by decide +kernel)
theorem lm_395 : Cond.native arraycopyName ∈ lw_tbl := List.mem_of_getElem? (i := 395) (by decide +kernel)
theorem lm_396 : Cond.methodLink RX1 52 arraycopyName ∈ lw_tbl := List.mem_of_getElem? (i := 396) (by decide +kernel)
theorem lm_397 : Cond.methodLink RX10 67 yX7_tellTo ∈ lw_tbl := List.mem_of_getElem? (i := 397) (by decide +kernel)
theorem lm_398 : Cond.instanceMethod yX7_tellTo ∈ lw_tbl := List.mem_of_getElem? (i := 398) (by decide +kernel)
theorem lm_399 : Cond.selects RX7 yX7_tellTo yX7_tellTo ∈ lw_tbl := List.mem_of_getElem? (i := 399) (by decide +kernel)
set_option maxRecDepth 100000 in
theorem lm_400 : Cond.code yX7_tellTo cX7_tellTo 5 (some .int) ∈ lw_tbl := List.mem_of_getElem? (i := 400) rfl
theorem lm_401 : Cond.methodLink RX7 48 yX7_tellStatement ∈ lw_tbl := List.mem_of_getElem? (i := 401) (by decide +kernel)
theorem lm_403 : Cond.instanceMethod yX7_tellStatement ∈ lw_tbl := List.mem_of_getElem? (i := 403) (by decide +kernel)
set_option maxRecDepth 100000 in
theorem lm_404 : Cond.code yX7_tellStatement cX7_tellStatement 4 (some .boolean) ∈ lw_tbl := List.mem_of_getElem? (i := 404) rfl
theorem lm_405 : Cond.methodLink RX7 52 yX7_digitAt ∈ lw_tbl := List.mem_of_getElem? (i := 405) (by decide +kernel)
theorem lm_407 : Cond.instanceMethod yX7_digitAt ∈ lw_tbl := List.mem_of_getElem? (i := 407) (by decide +kernel)
set_option maxRecDepth 100000 in
theorem lm_408 : Cond.code yX7_digitAt cX7_digitAt 2 (some .int) ∈ lw_tbl := List.mem_of_getElem? (i := 408) rfl
theorem lm_409 : Cond.methodLink RX7 56 yX7_kindAt ∈ lw_tbl := List.mem_of_getElem? (i := 409) (by decide +kernel)
theorem lm_411 : Cond.instanceMethod yX7_kindAt ∈ lw_tbl := List.mem_of_getElem? (i := 411) (by decide +kernel)
set_option maxRecDepth 100000 in
theorem lm_412 : Cond.code yX7_kindAt cX7_kindAt 2 (some .int) ∈ lw_tbl := List.mem_of_getElem? (i := 412) rfl
theorem lm_414 : Cond.static yX10_newPlayer ∈ lw_tbl := List.mem_of_getElem? (i := 414) (by decide +kernel)
set_option maxRecDepth 100000 in
theorem lm_415 : Cond.code yX10_newPlayer cX10_newPlayer 4 (some (.object "BallsAtDodger$Player")) ∈ lw_tbl := List.mem_of_getElem? (i := 415) rfl
theorem lm_416 : Cond.classLink RX10 256 RX5 ∈ lw_tbl := List.mem_of_getElem? (i := 416) (by decide +kernel)
theorem lm_417 : Cond.instantiable RX5 4 ∈ lw_tbl := List.mem_of_getElem? (i := 417) (by decide +kernel)
theorem lm_418 : Cond.methodLink RX10 258 yX5_init ∈ lw_tbl := List.mem_of_getElem? (i := 418) (by decide +kernel)
theorem lm_419 : Cond.instanceMethod yX5_init ∈ lw_tbl := List.mem_of_getElem? (i := 419) (by decide +kernel)
set_option maxRecDepth 100000 in
theorem lm_420 : Cond.code yX5_init cX5_init 5 none ∈ lw_tbl := List.mem_of_getElem? (i := 420) rfl
theorem lm_421 : Cond.methodLink RX5 1 yX4_init ∈ lw_tbl := List.mem_of_getElem? (i := 421) (by decide +kernel)
theorem lm_426 : Cond.superclass RX5 RX4 ∈ lw_tbl := List.mem_of_getElem? (i := 426) (by decide +kernel)
theorem lm_428 : Cond.classLink RX10 260 RX0 ∈ lw_tbl := List.mem_of_getElem? (i := 428) (by decide +kernel)
theorem lm_429 : Cond.instantiable RX0 4 ∈ lw_tbl := List.mem_of_getElem? (i := 429) (by decide +kernel)
theorem lm_430 : Cond.methodLink RX10 262 yX0_init ∈ lw_tbl := List.mem_of_getElem? (i := 430) (by decide +kernel)
theorem lm_431 : Cond.instanceMethod yX0_init ∈ lw_tbl := List.mem_of_getElem? (i := 431) (by decide +kernel)
set_option maxRecDepth 100000 in
theorem lm_432 : Cond.code yX0_init cX0_init 5 none ∈ lw_tbl := List.mem_of_getElem? (i := 432) rfl
theorem lm_433 : Cond.methodLink RX0 1 yX4_init ∈ lw_tbl := List.mem_of_getElem? (i := 433) (by decide +kernel)
theorem lm_438 : Cond.superclass RX0 RX4 ∈ lw_tbl := List.mem_of_getElem? (i := 438) (by decide +kernel)
theorem lm_439 : Cond.classLink RX10 263 RX8 ∈ lw_tbl := List.mem_of_getElem? (i := 439) (by decide +kernel)
theorem lm_440 : Cond.instantiable RX8 4 ∈ lw_tbl := List.mem_of_getElem? (i := 440) (by decide +kernel)
theorem lm_441 : Cond.methodLink RX10 265 yX8_init ∈ lw_tbl := List.mem_of_getElem? (i := 441) (by decide +kernel)
theorem lm_442 : Cond.instanceMethod yX8_init ∈ lw_tbl := List.mem_of_getElem? (i := 442) (by decide +kernel)
set_option maxRecDepth 100000 in
theorem lm_443 : Cond.code yX8_init cX8_init 5 none ∈ lw_tbl := List.mem_of_getElem? (i := 443) rfl
theorem lm_444 : Cond.methodLink RX8 1 yX4_init ∈ lw_tbl := List.mem_of_getElem? (i := 444) (by decide +kernel)
theorem lm_449 : Cond.superclass RX8 RX4 ∈ lw_tbl := List.mem_of_getElem? (i := 449) (by decide +kernel)
theorem lm_450 : Cond.classLink RX10 266 RX9 ∈ lw_tbl := List.mem_of_getElem? (i := 450) (by decide +kernel)
theorem lm_451 : Cond.instantiable RX9 4 ∈ lw_tbl := List.mem_of_getElem? (i := 451) (by decide +kernel)
theorem lm_452 : Cond.methodLink RX10 268 yX9_init ∈ lw_tbl := List.mem_of_getElem? (i := 452) (by decide +kernel)
theorem lm_453 : Cond.instanceMethod yX9_init ∈ lw_tbl := List.mem_of_getElem? (i := 453) (by decide +kernel)
set_option maxRecDepth 100000 in
theorem lm_454 : Cond.code yX9_init cX9_init 5 none ∈ lw_tbl := List.mem_of_getElem? (i := 454) rfl
theorem lm_455 : Cond.methodLink RX9 1 yX5_init ∈ lw_tbl := List.mem_of_getElem? (i := 455) (by decide +kernel)
theorem lm_460 : Cond.superclass RX9 RX5 ∈ lw_tbl := List.mem_of_getElem? (i := 460) (by decide +kernel)
theorem lm_461 : Cond.classLink RX10 269 RX3 ∈ lw_tbl := List.mem_of_getElem? (i := 461) (by decide +kernel)
theorem lm_462 : Cond.instantiable RX3 4 ∈ lw_tbl := List.mem_of_getElem? (i := 462) (by decide +kernel)
theorem lm_463 : Cond.methodLink RX10 271 yX3_init ∈ lw_tbl := List.mem_of_getElem? (i := 463) (by decide +kernel)
theorem lm_464 : Cond.instanceMethod yX3_init ∈ lw_tbl := List.mem_of_getElem? (i := 464) (by decide +kernel)
set_option maxRecDepth 100000 in
theorem lm_465 : Cond.code yX3_init cX3_init 5 none ∈ lw_tbl := List.mem_of_getElem? (i := 465) rfl
theorem lm_466 : Cond.methodLink RX3 1 yX0_init ∈ lw_tbl := List.mem_of_getElem? (i := 466) (by decide +kernel)
theorem lm_471 : Cond.superclass RX3 RX0 ∈ lw_tbl := List.mem_of_getElem? (i := 471) (by decide +kernel)
theorem lm_472 : Cond.classLink RX10 272 RX4 ∈ lw_tbl := List.mem_of_getElem? (i := 472) (by decide +kernel)
theorem lm_473 : Cond.methodLink RX10 274 yX4_init ∈ lw_tbl := List.mem_of_getElem? (i := 473) (by decide +kernel)
theorem lm_474 : Cond.methodLink RX7 63 yX1_add ∈ lw_tbl := List.mem_of_getElem? (i := 474) (by decide +kernel)
theorem lm_475 : Cond.instanceMethod yX1_add ∈ lw_tbl := List.mem_of_getElem? (i := 475) (by decide +kernel)
theorem lm_476 : Cond.selects RX1 yX1_add yX1_add ∈ lw_tbl := List.mem_of_getElem? (i := 476) (by decide +kernel)
set_option maxRecDepth 100000 in
theorem lm_477 : Cond.code yX1_add cX1_add 2 (some .boolean) ∈ lw_tbl := List.mem_of_getElem? (i := 477) rfl
theorem lm_479 : Cond.static yX10_isSide ∈ lw_tbl := List.mem_of_getElem? (i := 479) (by decide +kernel)
set_option maxRecDepth 100000 in
theorem lm_480 : Cond.code yX10_isSide cX10_isSide 1 (some .boolean) ∈ lw_tbl := List.mem_of_getElem? (i := 480) rfl
theorem lm_481 : Cond.methodLink RX1 157 yX1_sideAt ∈ lw_tbl := List.mem_of_getElem? (i := 481) (by decide +kernel)
theorem lm_482 : Cond.instanceMethod yX1_sideAt ∈ lw_tbl := List.mem_of_getElem? (i := 482) (by decide +kernel)
theorem lm_483 : Cond.selects RX1 yX1_sideAt yX1_sideAt ∈ lw_tbl := List.mem_of_getElem? (i := 483) (by decide +kernel)
set_option maxRecDepth 100000 in
theorem lm_484 : Cond.code yX1_sideAt cX1_sideAt 2 (some (.object "BallsAtDodger$Side")) ∈ lw_tbl := List.mem_of_getElem? (i := 484) rfl
theorem lm_485 : Cond.methodLink RX1 161 yX6_letIn ∈ lw_tbl := List.mem_of_getElem? (i := 485) (by decide +kernel)
theorem lm_486 : Cond.instanceMethod yX6_letIn ∈ lw_tbl := List.mem_of_getElem? (i := 486) (by decide +kernel)
theorem lm_487 : Cond.selects RX6 yX6_letIn yX6_letIn ∈ lw_tbl := List.mem_of_getElem? (i := 487) (by decide +kernel)
set_option maxRecDepth 100000 in
theorem lm_488 : Cond.code yX6_letIn cX6_letIn 2 none ∈ lw_tbl := List.mem_of_getElem? (i := 488) rfl
theorem lm_489 : Cond.methodLink RX7 69 yX1_give ∈ lw_tbl := List.mem_of_getElem? (i := 489) (by decide +kernel)
theorem lm_490 : Cond.instanceMethod yX1_give ∈ lw_tbl := List.mem_of_getElem? (i := 490) (by decide +kernel)
theorem lm_491 : Cond.selects RX1 yX1_give yX1_give ∈ lw_tbl := List.mem_of_getElem? (i := 491) (by decide +kernel)
set_option maxRecDepth 100000 in
theorem lm_492 : Cond.code yX1_give cX1_give 3 (some .boolean) ∈ lw_tbl := List.mem_of_getElem? (i := 492) rfl
theorem lm_493 : Cond.methodLink RX1 98 yX1_isIn ∈ lw_tbl := List.mem_of_getElem? (i := 493) (by decide +kernel)
theorem lm_494 : Cond.instanceMethod yX1_isIn ∈ lw_tbl := List.mem_of_getElem? (i := 494) (by decide +kernel)
theorem lm_495 : Cond.selects RX1 yX1_isIn yX1_isIn ∈ lw_tbl := List.mem_of_getElem? (i := 495) (by decide +kernel)
set_option maxRecDepth 100000 in
theorem lm_496 : Cond.code yX1_isIn cX1_isIn 2 (some .boolean) ∈ lw_tbl := List.mem_of_getElem? (i := 496) rfl
theorem lm_497 : Cond.methodLink RX1 61 yX1_isPlayer ∈ lw_tbl := List.mem_of_getElem? (i := 497) (by decide +kernel)
theorem lm_498 : Cond.instanceMethod yX1_isPlayer ∈ lw_tbl := List.mem_of_getElem? (i := 498) (by decide +kernel)
theorem lm_499 : Cond.selects RX1 yX1_isPlayer yX1_isPlayer ∈ lw_tbl := List.mem_of_getElem? (i := 499) (by decide +kernel)
set_option maxRecDepth 100000 in
theorem lm_500 : Cond.code yX1_isPlayer cX1_isPlayer 2 (some .boolean) ∈ lw_tbl := List.mem_of_getElem? (i := 500) rfl
theorem lm_501 : Cond.methodLink RX1 65 yX1_inBits ∈ lw_tbl := List.mem_of_getElem? (i := 501) (by decide +kernel)
theorem lm_502 : Cond.instanceMethod yX1_inBits ∈ lw_tbl := List.mem_of_getElem? (i := 502) (by decide +kernel)
theorem lm_503 : Cond.selects RX1 yX1_inBits yX1_inBits ∈ lw_tbl := List.mem_of_getElem? (i := 503) (by decide +kernel)
set_option maxRecDepth 100000 in
theorem lm_504 : Cond.code yX1_inBits cX1_inBits 1 (some .int) ∈ lw_tbl := List.mem_of_getElem? (i := 504) rfl
theorem lm_505 : Cond.methodLink RX1 116 yX1_hasHandFree ∈ lw_tbl := List.mem_of_getElem? (i := 505) (by decide +kernel)
theorem lm_506 : Cond.instanceMethod yX1_hasHandFree ∈ lw_tbl := List.mem_of_getElem? (i := 506) (by decide +kernel)
theorem lm_507 : Cond.selects RX1 yX1_hasHandFree yX1_hasHandFree ∈ lw_tbl := List.mem_of_getElem? (i := 507) (by decide +kernel)
set_option maxRecDepth 100000 in
theorem lm_508 : Cond.code yX1_hasHandFree cX1_hasHandFree 2 (some .boolean) ∈ lw_tbl := List.mem_of_getElem? (i := 508) rfl
theorem lm_509 : Cond.methodLink RX1 82 yX1_ballsOf ∈ lw_tbl := List.mem_of_getElem? (i := 509) (by decide +kernel)
theorem lm_510 : Cond.instanceMethod yX1_ballsOf ∈ lw_tbl := List.mem_of_getElem? (i := 510) (by decide +kernel)
theorem lm_511 : Cond.selects RX1 yX1_ballsOf yX1_ballsOf ∈ lw_tbl := List.mem_of_getElem? (i := 511) (by decide +kernel)
set_option maxRecDepth 100000 in
theorem lm_512 : Cond.code yX1_ballsOf cX1_ballsOf 4 (some .int) ∈ lw_tbl := List.mem_of_getElem? (i := 512) rfl
theorem lm_513 : Cond.methodLink RX1 101 yJ6_bitCount_0f7a4 ∈ lw_tbl := List.mem_of_getElem? (i := 513) (by decide +kernel)
theorem lm_514 : Cond.static yJ6_bitCount_0f7a4 ∈ lw_tbl := List.mem_of_getElem? (i := 514) (by decide +kernel)
set_option maxRecDepth 100000 in
theorem lm_515 : Cond.code yJ6_bitCount_0f7a4 cJ6_bitCount_0f7a4 1 (some .int) ∈ lw_tbl := List.mem_of_getElem? (i := 515) rfl
theorem lm_516 : Cond.constant RJ6 265 (1431655765) ∈ lw_tbl := List.mem_of_getElem? (i := 516) (by decide +kernel)
theorem lm_517 : Cond.constant RJ6 266 (858993459) ∈ lw_tbl := List.mem_of_getElem? (i := 517) (by decide +kernel)
theorem lm_518 : Cond.constant RJ6 267 (252645135) ∈ lw_tbl := List.mem_of_getElem? (i := 518) (by decide +kernel)
theorem lm_519 : Cond.methodLink RX1 165 yX1_hold ∈ lw_tbl := List.mem_of_getElem? (i := 519) (by decide +kernel)
theorem lm_520 : Cond.instanceMethod yX1_hold ∈ lw_tbl := List.mem_of_getElem? (i := 520) (by decide +kernel)
theorem lm_521 : Cond.selects RX1 yX1_hold yX1_hold ∈ lw_tbl := List.mem_of_getElem? (i := 521) (by decide +kernel)
set_option maxRecDepth 100000 in
theorem lm_522 : Cond.code yX1_hold cX1_hold 3 none ∈ lw_tbl := List.mem_of_getElem? (i := 522) rfl
theorem lm_523 : Cond.methodLink RX7 73 yX1_lay ∈ lw_tbl := List.mem_of_getElem? (i := 523) (by decide +kernel)
theorem lm_524 : Cond.instanceMethod yX1_lay ∈ lw_tbl := List.mem_of_getElem? (i := 524) (by decide +kernel)
theorem lm_525 : Cond.selects RX1 yX1_lay yX1_lay ∈ lw_tbl := List.mem_of_getElem? (i := 525) (by decide +kernel)
set_option maxRecDepth 100000 in
theorem lm_526 : Cond.code yX1_lay cX1_lay 3 (some .boolean) ∈ lw_tbl := List.mem_of_getElem? (i := 526) rfl
theorem lm_527 : Cond.methodLink RX7 76 yX1_goOut ∈ lw_tbl := List.mem_of_getElem? (i := 527) (by decide +kernel)
theorem lm_528 : Cond.instanceMethod yX1_goOut ∈ lw_tbl := List.mem_of_getElem? (i := 528) (by decide +kernel)
theorem lm_529 : Cond.selects RX1 yX1_goOut yX1_goOut ∈ lw_tbl := List.mem_of_getElem? (i := 529) (by decide +kernel)
set_option maxRecDepth 100000 in
theorem lm_530 : Cond.code yX1_goOut cX1_goOut 4 (some .boolean) ∈ lw_tbl := List.mem_of_getElem? (i := 530) rfl
theorem lm_531 : Cond.methodLink RX1 106 yX1_sideOf ∈ lw_tbl := List.mem_of_getElem? (i := 531) (by decide +kernel)
theorem lm_532 : Cond.instanceMethod yX1_sideOf ∈ lw_tbl := List.mem_of_getElem? (i := 532) (by decide +kernel)
theorem lm_533 : Cond.selects RX1 yX1_sideOf yX1_sideOf ∈ lw_tbl := List.mem_of_getElem? (i := 533) (by decide +kernel)
set_option maxRecDepth 100000 in
theorem lm_534 : Cond.code yX1_sideOf cX1_sideOf 2 (some .int) ∈ lw_tbl := List.mem_of_getElem? (i := 534) rfl
theorem lm_535 : Cond.methodLink RX1 168 yX6_letOut ∈ lw_tbl := List.mem_of_getElem? (i := 535) (by decide +kernel)
theorem lm_536 : Cond.instanceMethod yX6_letOut ∈ lw_tbl := List.mem_of_getElem? (i := 536) (by decide +kernel)
theorem lm_537 : Cond.selects RX6 yX6_letOut yX6_letOut ∈ lw_tbl := List.mem_of_getElem? (i := 537) (by decide +kernel)
set_option maxRecDepth 100000 in
theorem lm_538 : Cond.code yX6_letOut cX6_letOut 2 none ∈ lw_tbl := List.mem_of_getElem? (i := 538) rfl
theorem lm_539 : Cond.methodLink RX10 71 yX7_forget ∈ lw_tbl := List.mem_of_getElem? (i := 539) (by decide +kernel)
theorem lm_540 : Cond.instanceMethod yX7_forget ∈ lw_tbl := List.mem_of_getElem? (i := 540) (by decide +kernel)
theorem lm_541 : Cond.selects RX7 yX7_forget yX7_forget ∈ lw_tbl := List.mem_of_getElem? (i := 541) (by decide +kernel)
set_option maxRecDepth 100000 in
theorem lm_542 : Cond.code yX7_forget cX7_forget 1 none ∈ lw_tbl := List.mem_of_getElem? (i := 542) rfl
theorem lm_543 : Cond.methodLink RL 23 yX10_player ∈ lw_tbl := List.mem_of_getElem? (i := 543) (by decide +kernel)
theorem lm_544 : Cond.instanceMethod yX10_player ∈ lw_tbl := List.mem_of_getElem? (i := 544) (by decide +kernel)
theorem lm_545 : Cond.selects RX10 yX10_player yX10_player ∈ lw_tbl := List.mem_of_getElem? (i := 545) (by decide +kernel)
set_option maxRecDepth 100000 in
theorem lm_546 : Cond.code yX10_player cX10_player 3 (some .int) ∈ lw_tbl := List.mem_of_getElem? (i := 546) rfl
theorem lm_547 : Cond.methodLink RX10 74 yX1_isPlayer ∈ lw_tbl := List.mem_of_getElem? (i := 547) (by decide +kernel)
theorem lm_548 : Cond.methodLink RX10 78 yX1_sideOf ∈ lw_tbl := List.mem_of_getElem? (i := 548) (by decide +kernel)
theorem lm_549 : Cond.methodLink RX10 81 yX1_kindOf ∈ lw_tbl := List.mem_of_getElem? (i := 549) (by decide +kernel)
theorem lm_550 : Cond.instanceMethod yX1_kindOf ∈ lw_tbl := List.mem_of_getElem? (i := 550) (by decide +kernel)
theorem lm_551 : Cond.selects RX1 yX1_kindOf yX1_kindOf ∈ lw_tbl := List.mem_of_getElem? (i := 551) (by decide +kernel)
set_option maxRecDepth 100000 in
theorem lm_552 : Cond.code yX1_kindOf cX1_kindOf 2 (some .int) ∈ lw_tbl := List.mem_of_getElem? (i := 552) rfl
theorem lm_553 : Cond.methodLink RX10 84 yX1_isIn ∈ lw_tbl := List.mem_of_getElem? (i := 553) (by decide +kernel)
theorem lm_554 : Cond.methodLink RX10 87 yX1_ballsOf ∈ lw_tbl := List.mem_of_getElem? (i := 554) (by decide +kernel)
theorem lm_555 : Cond.methodLink RX10 90 yX1_aimOf ∈ lw_tbl := List.mem_of_getElem? (i := 555) (by decide +kernel)
theorem lm_556 : Cond.instanceMethod yX1_aimOf ∈ lw_tbl := List.mem_of_getElem? (i := 556) (by decide +kernel)
theorem lm_557 : Cond.selects RX1 yX1_aimOf yX1_aimOf ∈ lw_tbl := List.mem_of_getElem? (i := 557) (by decide +kernel)
set_option maxRecDepth 100000 in
theorem lm_558 : Cond.code yX1_aimOf cX1_aimOf 2 (some .int) ∈ lw_tbl := List.mem_of_getElem? (i := 558) rfl
theorem lm_559 : Cond.methodLink RX1 78 ⟨"BallsAtDodger$Player", "aim", "(I)I"⟩ ∈ lw_tbl := List.mem_of_getElem? (i := 559) (by decide +kernel)
theorem lm_560 : Cond.instanceMethod yX4_aim ∈ lw_tbl := List.mem_of_getElem? (i := 560) (by decide +kernel)
theorem lm_561 : Cond.selects RX4 yX4_aim yX4_aim ∈ lw_tbl := List.mem_of_getElem? (i := 561) (by decide +kernel)
theorem lm_562 : Cond.sameMethod "BallsAtDodger$Player" "BallsAtDodger$Player" "aim" "(I)I" ∈ lw_tbl := List.mem_of_getElem? (i := 562) (by decide +kernel)
theorem lm_563 : Cond.selects RX0 ⟨"BallsAtDodger$Player", "aim", "(I)I"⟩ yX4_aim ∈ lw_tbl := List.mem_of_getElem? (i := 563) (by decide +kernel)
theorem lm_564 : Cond.selects RX3 ⟨"BallsAtDodger$Player", "aim", "(I)I"⟩ yX4_aim ∈ lw_tbl := List.mem_of_getElem? (i := 564) (by decide +kernel)
theorem lm_565 : Cond.selects RX5 ⟨"BallsAtDodger$Player", "aim", "(I)I"⟩ yX4_aim ∈ lw_tbl := List.mem_of_getElem? (i := 565) (by decide +kernel)
theorem lm_566 : Cond.selects RX8 ⟨"BallsAtDodger$Player", "aim", "(I)I"⟩ yX8_aim ∈ lw_tbl := List.mem_of_getElem? (i := 566) (by decide +kernel)
theorem lm_567 : Cond.instanceMethod yX8_aim ∈ lw_tbl := List.mem_of_getElem? (i := 567) (by decide +kernel)
set_option maxRecDepth 100000 in
theorem lm_568 : Cond.code yX8_aim cX8_aim 2 (some .int) ∈ lw_tbl := List.mem_of_getElem? (i := 568) rfl
theorem lm_569 : Cond.methodLink RX8 7 yX4_aim ∈ lw_tbl := List.mem_of_getElem? (i := 569) (by decide +kernel)
theorem lm_570 : Cond.methodLink RX8 11 Lib.Math.max.name ∈ lw_tbl := List.mem_of_getElem? (i := 570) (by decide +kernel)
theorem lm_571 : Cond.selects RX9 ⟨"BallsAtDodger$Player", "aim", "(I)I"⟩ yX4_aim ∈ lw_tbl := List.mem_of_getElem? (i := 571) (by decide +kernel)
set_option maxRecDepth 100000 in
theorem lm_572 : Cond.code yX4_aim cX4_aim 2 (some .int) ∈ lw_tbl := List.mem_of_getElem? (i := 572) rfl
theorem lm_573 : Cond.methodLink RX10 93 yX1_dodgeOf ∈ lw_tbl := List.mem_of_getElem? (i := 573) (by decide +kernel)
theorem lm_574 : Cond.instanceMethod yX1_dodgeOf ∈ lw_tbl := List.mem_of_getElem? (i := 574) (by decide +kernel)
theorem lm_575 : Cond.selects RX1 yX1_dodgeOf yX1_dodgeOf ∈ lw_tbl := List.mem_of_getElem? (i := 575) (by decide +kernel)
set_option maxRecDepth 100000 in
theorem lm_576 : Cond.code yX1_dodgeOf cX1_dodgeOf 2 (some .int) ∈ lw_tbl := List.mem_of_getElem? (i := 576) rfl
theorem lm_577 : Cond.methodLink RX1 85 ⟨"BallsAtDodger$Player", "dodge", "(Z)I"⟩ ∈ lw_tbl := List.mem_of_getElem? (i := 577) (by decide +kernel)
theorem lm_578 : Cond.instanceMethod ⟨"BallsAtDodger$Player", "dodge", "(Z)I"⟩ ∈ lw_tbl := List.mem_of_getElem? (i := 578) (by decide +kernel)
theorem lm_579 : Cond.selects RX4 yX4_dodge yX4_dodge ∈ lw_tbl := List.mem_of_getElem? (i := 579) (by decide +kernel)
theorem lm_580 : Cond.sameMethod "BallsAtDodger$Player" "BallsAtDodger$Player" "dodge" "(Z)I" ∈ lw_tbl := List.mem_of_getElem? (i := 580) (by decide +kernel)
theorem lm_581 : Cond.selects RX0 ⟨"BallsAtDodger$Player", "dodge", "(Z)I"⟩ yX4_dodge ∈ lw_tbl := List.mem_of_getElem? (i := 581) (by decide +kernel)
theorem lm_582 : Cond.selects RX3 ⟨"BallsAtDodger$Player", "dodge", "(Z)I"⟩ yX4_dodge ∈ lw_tbl := List.mem_of_getElem? (i := 582) (by decide +kernel)
theorem lm_583 : Cond.selects RX5 ⟨"BallsAtDodger$Player", "dodge", "(Z)I"⟩ yX5_dodge ∈ lw_tbl := List.mem_of_getElem? (i := 583) (by decide +kernel)
theorem lm_584 : Cond.instanceMethod yX5_dodge ∈ lw_tbl := List.mem_of_getElem? (i := 584) (by decide +kernel)
set_option maxRecDepth 100000 in
theorem lm_585 : Cond.code yX5_dodge cX5_dodge 2 (some .int) ∈ lw_tbl := List.mem_of_getElem? (i := 585) rfl
theorem lm_586 : Cond.methodLink RX5 7 yX4_dodge ∈ lw_tbl := List.mem_of_getElem? (i := 586) (by decide +kernel)
theorem lm_587 : Cond.selects RX8 ⟨"BallsAtDodger$Player", "dodge", "(Z)I"⟩ yX4_dodge ∈ lw_tbl := List.mem_of_getElem? (i := 587) (by decide +kernel)
theorem lm_588 : Cond.selects RX9 ⟨"BallsAtDodger$Player", "dodge", "(Z)I"⟩ yX9_dodge ∈ lw_tbl := List.mem_of_getElem? (i := 588) (by decide +kernel)
theorem lm_589 : Cond.instanceMethod yX9_dodge ∈ lw_tbl := List.mem_of_getElem? (i := 589) (by decide +kernel)
set_option maxRecDepth 100000 in
theorem lm_590 : Cond.code yX9_dodge cX9_dodge 2 (some .int) ∈ lw_tbl := List.mem_of_getElem? (i := 590) rfl
theorem lm_591 : Cond.methodLink RX9 7 yX5_dodge ∈ lw_tbl := List.mem_of_getElem? (i := 591) (by decide +kernel)
set_option maxRecDepth 100000 in
theorem lm_592 : Cond.code yX4_dodge cX4_dodge 2 (some .int) ∈ lw_tbl := List.mem_of_getElem? (i := 592) rfl
theorem lm_593 : Cond.methodLink RX10 96 yX1_graspOf ∈ lw_tbl := List.mem_of_getElem? (i := 593) (by decide +kernel)
theorem lm_594 : Cond.instanceMethod yX1_graspOf ∈ lw_tbl := List.mem_of_getElem? (i := 594) (by decide +kernel)
theorem lm_595 : Cond.selects RX1 yX1_graspOf yX1_graspOf ∈ lw_tbl := List.mem_of_getElem? (i := 595) (by decide +kernel)
set_option maxRecDepth 100000 in
theorem lm_596 : Cond.code yX1_graspOf cX1_graspOf 2 (some .int) ∈ lw_tbl := List.mem_of_getElem? (i := 596) rfl
theorem lm_597 : Cond.methodLink RX1 89 yX1_isAlone ∈ lw_tbl := List.mem_of_getElem? (i := 597) (by decide +kernel)
theorem lm_598 : Cond.instanceMethod yX1_isAlone ∈ lw_tbl := List.mem_of_getElem? (i := 598) (by decide +kernel)
theorem lm_599 : Cond.selects RX1 yX1_isAlone yX1_isAlone ∈ lw_tbl := List.mem_of_getElem? (i := 599) (by decide +kernel)
set_option maxRecDepth 100000 in
theorem lm_600 : Cond.code yX1_isAlone cX1_isAlone 2 (some .boolean) ∈ lw_tbl := List.mem_of_getElem? (i := 600) rfl
theorem lm_601 : Cond.methodLink RX1 92 ⟨"BallsAtDodger$Player", "grasp", "(Z)I"⟩ ∈ lw_tbl := List.mem_of_getElem? (i := 601) (by decide +kernel)
theorem lm_602 : Cond.instanceMethod yX4_grasp ∈ lw_tbl := List.mem_of_getElem? (i := 602) (by decide +kernel)
theorem lm_603 : Cond.selects RX4 yX4_grasp yX4_grasp ∈ lw_tbl := List.mem_of_getElem? (i := 603) (by decide +kernel)
theorem lm_604 : Cond.sameMethod "BallsAtDodger$Player" "BallsAtDodger$Player" "grasp" "(Z)I" ∈ lw_tbl := List.mem_of_getElem? (i := 604) (by decide +kernel)
theorem lm_605 : Cond.selects RX0 ⟨"BallsAtDodger$Player", "grasp", "(Z)I"⟩ yX0_grasp ∈ lw_tbl := List.mem_of_getElem? (i := 605) (by decide +kernel)
theorem lm_606 : Cond.instanceMethod yX0_grasp ∈ lw_tbl := List.mem_of_getElem? (i := 606) (by decide +kernel)
set_option maxRecDepth 100000 in
theorem lm_607 : Cond.code yX0_grasp cX0_grasp 2 (some .int) ∈ lw_tbl := List.mem_of_getElem? (i := 607) rfl
theorem lm_608 : Cond.methodLink RX0 7 yX4_grasp ∈ lw_tbl := List.mem_of_getElem? (i := 608) (by decide +kernel)
theorem lm_609 : Cond.selects RX3 ⟨"BallsAtDodger$Player", "grasp", "(Z)I"⟩ yX3_grasp ∈ lw_tbl := List.mem_of_getElem? (i := 609) (by decide +kernel)
theorem lm_610 : Cond.instanceMethod yX3_grasp ∈ lw_tbl := List.mem_of_getElem? (i := 610) (by decide +kernel)
set_option maxRecDepth 100000 in
theorem lm_611 : Cond.code yX3_grasp cX3_grasp 2 (some .int) ∈ lw_tbl := List.mem_of_getElem? (i := 611) rfl
theorem lm_612 : Cond.methodLink RX3 7 yX0_grasp ∈ lw_tbl := List.mem_of_getElem? (i := 612) (by decide +kernel)
theorem lm_613 : Cond.selects RX5 ⟨"BallsAtDodger$Player", "grasp", "(Z)I"⟩ yX4_grasp ∈ lw_tbl := List.mem_of_getElem? (i := 613) (by decide +kernel)
theorem lm_614 : Cond.selects RX8 ⟨"BallsAtDodger$Player", "grasp", "(Z)I"⟩ yX4_grasp ∈ lw_tbl := List.mem_of_getElem? (i := 614) (by decide +kernel)
theorem lm_615 : Cond.selects RX9 ⟨"BallsAtDodger$Player", "grasp", "(Z)I"⟩ yX4_grasp ∈ lw_tbl := List.mem_of_getElem? (i := 615) (by decide +kernel)
set_option maxRecDepth 100000 in
theorem lm_616 : Cond.code yX4_grasp cX4_grasp 2 (some .int) ∈ lw_tbl := List.mem_of_getElem? (i := 616) rfl
theorem lm_617 : Cond.methodLink RL 28 yX10_ball ∈ lw_tbl := List.mem_of_getElem? (i := 617) (by decide +kernel)
theorem lm_618 : Cond.instanceMethod yX10_ball ∈ lw_tbl := List.mem_of_getElem? (i := 618) (by decide +kernel)
theorem lm_619 : Cond.selects RX10 yX10_ball yX10_ball ∈ lw_tbl := List.mem_of_getElem? (i := 619) (by decide +kernel)
set_option maxRecDepth 100000 in
theorem lm_620 : Cond.code yX10_ball cX10_ball 3 (some .int) ∈ lw_tbl := List.mem_of_getElem? (i := 620) rfl
theorem lm_621 : Cond.methodLink RX10 99 yX10_isBall ∈ lw_tbl := List.mem_of_getElem? (i := 621) (by decide +kernel)
theorem lm_622 : Cond.methodLink RX10 102 yX1_holderOf ∈ lw_tbl := List.mem_of_getElem? (i := 622) (by decide +kernel)
theorem lm_623 : Cond.instanceMethod yX1_holderOf ∈ lw_tbl := List.mem_of_getElem? (i := 623) (by decide +kernel)
theorem lm_624 : Cond.selects RX1 yX1_holderOf yX1_holderOf ∈ lw_tbl := List.mem_of_getElem? (i := 624) (by decide +kernel)
set_option maxRecDepth 100000 in
theorem lm_625 : Cond.code yX1_holderOf cX1_holderOf 2 (some .int) ∈ lw_tbl := List.mem_of_getElem? (i := 625) rfl
theorem lm_626 : Cond.methodLink RX10 105 yX1_floorOf ∈ lw_tbl := List.mem_of_getElem? (i := 626) (by decide +kernel)
theorem lm_627 : Cond.instanceMethod yX1_floorOf ∈ lw_tbl := List.mem_of_getElem? (i := 627) (by decide +kernel)
theorem lm_628 : Cond.selects RX1 yX1_floorOf yX1_floorOf ∈ lw_tbl := List.mem_of_getElem? (i := 628) (by decide +kernel)
set_option maxRecDepth 100000 in
theorem lm_629 : Cond.code yX1_floorOf cX1_floorOf 2 (some .int) ∈ lw_tbl := List.mem_of_getElem? (i := 629) rfl
theorem lm_630 : Cond.methodLink RX10 108 yX1_heldOf ∈ lw_tbl := List.mem_of_getElem? (i := 630) (by decide +kernel)
theorem lm_631 : Cond.instanceMethod yX1_heldOf ∈ lw_tbl := List.mem_of_getElem? (i := 631) (by decide +kernel)
theorem lm_632 : Cond.selects RX1 yX1_heldOf yX1_heldOf ∈ lw_tbl := List.mem_of_getElem? (i := 632) (by decide +kernel)
set_option maxRecDepth 100000 in
theorem lm_633 : Cond.code yX1_heldOf cX1_heldOf 2 (some .int) ∈ lw_tbl := List.mem_of_getElem? (i := 633) rfl
theorem lm_634 : Cond.methodLink RL 32 yX10_odds ∈ lw_tbl := List.mem_of_getElem? (i := 634) (by decide +kernel)
theorem lm_635 : Cond.instanceMethod yX10_odds ∈ lw_tbl := List.mem_of_getElem? (i := 635) (by decide +kernel)
theorem lm_636 : Cond.selects RX10 yX10_odds yX10_odds ∈ lw_tbl := List.mem_of_getElem? (i := 636) (by decide +kernel)
set_option maxRecDepth 100000 in
theorem lm_637 : Cond.code yX10_odds cX10_odds 7 (some .int) ∈ lw_tbl := List.mem_of_getElem? (i := 637) rfl
theorem lm_638 : Cond.methodLink RX10 111 yX10_isHow ∈ lw_tbl := List.mem_of_getElem? (i := 638) (by decide +kernel)
theorem lm_639 : Cond.static yX10_isHow ∈ lw_tbl := List.mem_of_getElem? (i := 639) (by decide +kernel)
set_option maxRecDepth 100000 in
theorem lm_640 : Cond.code yX10_isHow cX10_isHow 1 (some .boolean) ∈ lw_tbl := List.mem_of_getElem? (i := 640) rfl
theorem lm_641 : Cond.methodLink RX10 114 yX10_isEnd ∈ lw_tbl := List.mem_of_getElem? (i := 641) (by decide +kernel)
theorem lm_642 : Cond.static yX10_isEnd ∈ lw_tbl := List.mem_of_getElem? (i := 642) (by decide +kernel)
set_option maxRecDepth 100000 in
theorem lm_643 : Cond.code yX10_isEnd cX10_isEnd 1 (some .boolean) ∈ lw_tbl := List.mem_of_getElem? (i := 643) rfl
theorem lm_644 : Cond.methodLink RX10 117 yX1_areOpposed ∈ lw_tbl := List.mem_of_getElem? (i := 644) (by decide +kernel)
theorem lm_645 : Cond.instanceMethod yX1_areOpposed ∈ lw_tbl := List.mem_of_getElem? (i := 645) (by decide +kernel)
theorem lm_646 : Cond.selects RX1 yX1_areOpposed yX1_areOpposed ∈ lw_tbl := List.mem_of_getElem? (i := 646) (by decide +kernel)
set_option maxRecDepth 100000 in
theorem lm_647 : Cond.code yX1_areOpposed cX1_areOpposed 3 (some .boolean) ∈ lw_tbl := List.mem_of_getElem? (i := 647) rfl
theorem lm_648 : Cond.methodLink RX10 121 yX1_hitOf ∈ lw_tbl := List.mem_of_getElem? (i := 648) (by decide +kernel)
theorem lm_649 : Cond.instanceMethod yX1_hitOf ∈ lw_tbl := List.mem_of_getElem? (i := 649) (by decide +kernel)
theorem lm_650 : Cond.selects RX1 yX1_hitOf yX1_hitOf ∈ lw_tbl := List.mem_of_getElem? (i := 650) (by decide +kernel)
set_option maxRecDepth 100000 in
theorem lm_651 : Cond.code yX1_hitOf cX1_hitOf 4 (some .int) ∈ lw_tbl := List.mem_of_getElem? (i := 651) rfl
theorem lm_652 : Cond.methodLink RX1 122 yX1_aimOf ∈ lw_tbl := List.mem_of_getElem? (i := 652) (by decide +kernel)
theorem lm_653 : Cond.methodLink RX1 125 yX1_dodgeOf ∈ lw_tbl := List.mem_of_getElem? (i := 653) (by decide +kernel)
theorem lm_658 : Cond.static yX10_withinOdds ∈ lw_tbl := List.mem_of_getElem? (i := 658) (by decide +kernel)
set_option maxRecDepth 100000 in
theorem lm_659 : Cond.code yX10_withinOdds cX10_withinOdds 1 (some .int) ∈ lw_tbl := List.mem_of_getElem? (i := 659) rfl
theorem lm_660 : Cond.methodLink RX10 236 Lib.Math.min.name ∈ lw_tbl := List.mem_of_getElem? (i := 660) (by decide +kernel)
theorem lm_661 : Cond.methodLink RX10 253 Lib.Math.max.name ∈ lw_tbl := List.mem_of_getElem? (i := 661) (by decide +kernel)
theorem lm_662 : Cond.methodLink RX10 125 yX1_caughtOf ∈ lw_tbl := List.mem_of_getElem? (i := 662) (by decide +kernel)
theorem lm_663 : Cond.instanceMethod yX1_caughtOf ∈ lw_tbl := List.mem_of_getElem? (i := 663) (by decide +kernel)
theorem lm_664 : Cond.selects RX1 yX1_caughtOf yX1_caughtOf ∈ lw_tbl := List.mem_of_getElem? (i := 664) (by decide +kernel)
set_option maxRecDepth 100000 in
theorem lm_665 : Cond.code yX1_caughtOf cX1_caughtOf 3 (some .int) ∈ lw_tbl := List.mem_of_getElem? (i := 665) rfl
theorem lm_666 : Cond.methodLink RX1 137 yX1_graspOf ∈ lw_tbl := List.mem_of_getElem? (i := 666) (by decide +kernel)
theorem lm_669 : Cond.methodLink RL 37 yX10_throwIt ∈ lw_tbl := List.mem_of_getElem? (i := 669) (by decide +kernel)
theorem lm_670 : Cond.instanceMethod yX10_throwIt ∈ lw_tbl := List.mem_of_getElem? (i := 670) (by decide +kernel)
theorem lm_671 : Cond.selects RX10 yX10_throwIt yX10_throwIt ∈ lw_tbl := List.mem_of_getElem? (i := 671) (by decide +kernel)
set_option maxRecDepth 100000 in
theorem lm_672 : Cond.code yX10_throwIt cX10_throwIt 5 (some .int) ∈ lw_tbl := List.mem_of_getElem? (i := 672) rfl
theorem lm_673 : Cond.methodLink RX10 129 yX1_canThrow ∈ lw_tbl := List.mem_of_getElem? (i := 673) (by decide +kernel)
theorem lm_674 : Cond.instanceMethod yX1_canThrow ∈ lw_tbl := List.mem_of_getElem? (i := 674) (by decide +kernel)
theorem lm_675 : Cond.selects RX1 yX1_canThrow yX1_canThrow ∈ lw_tbl := List.mem_of_getElem? (i := 675) (by decide +kernel)
set_option maxRecDepth 100000 in
theorem lm_676 : Cond.code yX1_canThrow cX1_canThrow 3 (some .boolean) ∈ lw_tbl := List.mem_of_getElem? (i := 676) rfl
theorem lm_677 : Cond.methodLink RX1 113 yX1_holderOf ∈ lw_tbl := List.mem_of_getElem? (i := 677) (by decide +kernel)
theorem lm_678 : Cond.methodLink RX1 109 yX1_areOpposed ∈ lw_tbl := List.mem_of_getElem? (i := 678) (by decide +kernel)
theorem lm_679 : Cond.methodLink RX10 135 yX1_endThrow ∈ lw_tbl := List.mem_of_getElem? (i := 679) (by decide +kernel)
theorem lm_680 : Cond.instanceMethod yX1_endThrow ∈ lw_tbl := List.mem_of_getElem? (i := 680) (by decide +kernel)
theorem lm_681 : Cond.selects RX1 yX1_endThrow yX1_endThrow ∈ lw_tbl := List.mem_of_getElem? (i := 681) (by decide +kernel)
set_option maxRecDepth 100000 in
theorem lm_682 : Cond.code yX1_endThrow cX1_endThrow 5 none ∈ lw_tbl := List.mem_of_getElem? (i := 682) rfl
theorem lm_683 : Cond.methodLink RX1 171 yX1_goOut ∈ lw_tbl := List.mem_of_getElem? (i := 683) (by decide +kernel)
theorem lm_684 : Cond.methodLink RX1 174 yX6_letFirstIn ∈ lw_tbl := List.mem_of_getElem? (i := 684) (by decide +kernel)
theorem lm_685 : Cond.instanceMethod yX6_letFirstIn ∈ lw_tbl := List.mem_of_getElem? (i := 685) (by decide +kernel)
theorem lm_686 : Cond.selects RX6 yX6_letFirstIn yX6_letFirstIn ∈ lw_tbl := List.mem_of_getElem? (i := 686) (by decide +kernel)
set_option maxRecDepth 100000 in
theorem lm_687 : Cond.code yX6_letFirstIn cX6_letFirstIn 2 none ∈ lw_tbl := List.mem_of_getElem? (i := 687) rfl
theorem lm_688 : Cond.methodLink RX6 22 yX6_letIn ∈ lw_tbl := List.mem_of_getElem? (i := 688) (by decide +kernel)
theorem lm_689 : Cond.methodLink RX1 177 yX1_letTenthGoBy ∈ lw_tbl := List.mem_of_getElem? (i := 689) (by decide +kernel)
theorem lm_690 : Cond.instanceMethod yX1_letTenthGoBy ∈ lw_tbl := List.mem_of_getElem? (i := 690) (by decide +kernel)
theorem lm_691 : Cond.selects RX1 yX1_letTenthGoBy yX1_letTenthGoBy ∈ lw_tbl := List.mem_of_getElem? (i := 691) (by decide +kernel)
set_option maxRecDepth 100000 in
theorem lm_692 : Cond.code yX1_letTenthGoBy cX1_letTenthGoBy 2 none ∈ lw_tbl := List.mem_of_getElem? (i := 692) rfl
theorem lm_693 : Cond.methodLink RL 41 yX10_take ∈ lw_tbl := List.mem_of_getElem? (i := 693) (by decide +kernel)
theorem lm_694 : Cond.instanceMethod yX10_take ∈ lw_tbl := List.mem_of_getElem? (i := 694) (by decide +kernel)
theorem lm_695 : Cond.selects RX10 yX10_take yX10_take ∈ lw_tbl := List.mem_of_getElem? (i := 695) (by decide +kernel)
set_option maxRecDepth 100000 in
theorem lm_696 : Cond.code yX10_take cX10_take 3 (some .int) ∈ lw_tbl := List.mem_of_getElem? (i := 696) rfl
theorem lm_697 : Cond.methodLink RX10 139 yX1_canTake ∈ lw_tbl := List.mem_of_getElem? (i := 697) (by decide +kernel)
theorem lm_698 : Cond.instanceMethod yX1_canTake ∈ lw_tbl := List.mem_of_getElem? (i := 698) (by decide +kernel)
theorem lm_699 : Cond.selects RX1 yX1_canTake yX1_canTake ∈ lw_tbl := List.mem_of_getElem? (i := 699) (by decide +kernel)
set_option maxRecDepth 100000 in
theorem lm_700 : Cond.code yX1_canTake cX1_canTake 3 (some .boolean) ∈ lw_tbl := List.mem_of_getElem? (i := 700) rfl
theorem lm_701 : Cond.methodLink RX1 119 yX1_floorOf ∈ lw_tbl := List.mem_of_getElem? (i := 701) (by decide +kernel)
theorem lm_702 : Cond.methodLink RX10 142 yX1_hold ∈ lw_tbl := List.mem_of_getElem? (i := 702) (by decide +kernel)
theorem lm_703 : Cond.methodLink RX10 146 yX1_letTenthGoBy ∈ lw_tbl := List.mem_of_getElem? (i := 703) (by decide +kernel)
theorem lm_704 : Cond.methodLink RL 45 yX10_pass ∈ lw_tbl := List.mem_of_getElem? (i := 704) (by decide +kernel)
theorem lm_705 : Cond.instanceMethod yX10_pass ∈ lw_tbl := List.mem_of_getElem? (i := 705) (by decide +kernel)
theorem lm_706 : Cond.selects RX10 yX10_pass yX10_pass ∈ lw_tbl := List.mem_of_getElem? (i := 706) (by decide +kernel)
set_option maxRecDepth 100000 in
theorem lm_707 : Cond.code yX10_pass cX10_pass 3 (some .int) ∈ lw_tbl := List.mem_of_getElem? (i := 707) rfl
theorem lm_708 : Cond.methodLink RL 49 yX10_best ∈ lw_tbl := List.mem_of_getElem? (i := 708) (by decide +kernel)
theorem lm_709 : Cond.instanceMethod yX10_best ∈ lw_tbl := List.mem_of_getElem? (i := 709) (by decide +kernel)
theorem lm_710 : Cond.selects RX10 yX10_best yX10_best ∈ lw_tbl := List.mem_of_getElem? (i := 710) (by decide +kernel)
set_option maxRecDepth 100000 in
theorem lm_711 : Cond.code yX10_best cX10_best 4 (some .int) ∈ lw_tbl := List.mem_of_getElem? (i := 711) rfl
theorem lm_712 : Cond.constant RX10 149 (1000000000) ∈ lw_tbl := List.mem_of_getElem? (i := 712) (by decide +kernel)
theorem lm_713 : Cond.methodLink RX10 150 yX10_bestThrow ∈ lw_tbl := List.mem_of_getElem? (i := 713) (by decide +kernel)
theorem lm_715 : Cond.instanceMethod yX10_bestThrow ∈ lw_tbl := List.mem_of_getElem? (i := 715) (by decide +kernel)
set_option maxRecDepth 100000 in
theorem lm_716 : Cond.code yX10_bestThrow cX10_bestThrow 7 (some .int) ∈ lw_tbl := List.mem_of_getElem? (i := 716) rfl
theorem lm_717 : Cond.methodLink RX10 153 yX1_gainOf ∈ lw_tbl := List.mem_of_getElem? (i := 717) (by decide +kernel)
theorem lm_718 : Cond.instanceMethod yX1_gainOf ∈ lw_tbl := List.mem_of_getElem? (i := 718) (by decide +kernel)
theorem lm_719 : Cond.selects RX1 yX1_gainOf yX1_gainOf ∈ lw_tbl := List.mem_of_getElem? (i := 719) (by decide +kernel)
set_option maxRecDepth 100000 in
theorem lm_720 : Cond.code yX1_gainOf cX1_gainOf 4 (some .int) ∈ lw_tbl := List.mem_of_getElem? (i := 720) rfl
theorem lm_721 : Cond.methodLink RX1 143 yX1_hitOf ∈ lw_tbl := List.mem_of_getElem? (i := 721) (by decide +kernel)
theorem lm_722 : Cond.methodLink RX1 147 yX1_caughtOf ∈ lw_tbl := List.mem_of_getElem? (i := 722) (by decide +kernel)
theorem lm_723 : Cond.methodLink RL 53 yX10_two ∈ lw_tbl := List.mem_of_getElem? (i := 723) (by decide +kernel)
theorem lm_724 : Cond.instanceMethod yX10_two ∈ lw_tbl := List.mem_of_getElem? (i := 724) (by decide +kernel)
theorem lm_725 : Cond.selects RX10 yX10_two yX10_two ∈ lw_tbl := List.mem_of_getElem? (i := 725) (by decide +kernel)
set_option maxRecDepth 100000 in
theorem lm_726 : Cond.code yX10_two cX10_two 6 (some .int) ∈ lw_tbl := List.mem_of_getElem? (i := 726) rfl
theorem lm_727 : Cond.methodLink RX10 156 yX10_isOneTwice ∈ lw_tbl := List.mem_of_getElem? (i := 727) (by decide +kernel)
theorem lm_728 : Cond.static yX10_isOneTwice ∈ lw_tbl := List.mem_of_getElem? (i := 728) (by decide +kernel)
set_option maxRecDepth 100000 in
theorem lm_729 : Cond.code yX10_isOneTwice cX10_isOneTwice 3 (some .boolean) ∈ lw_tbl := List.mem_of_getElem? (i := 729) rfl
theorem lm_730 : Cond.methodLink RX10 160 yX1_couldThrowAt ∈ lw_tbl := List.mem_of_getElem? (i := 730) (by decide +kernel)
theorem lm_731 : Cond.instanceMethod yX1_couldThrowAt ∈ lw_tbl := List.mem_of_getElem? (i := 731) (by decide +kernel)
theorem lm_732 : Cond.selects RX1 yX1_couldThrowAt yX1_couldThrowAt ∈ lw_tbl := List.mem_of_getElem? (i := 732) (by decide +kernel)
set_option maxRecDepth 100000 in
theorem lm_733 : Cond.code yX1_couldThrowAt cX1_couldThrowAt 3 (some .boolean) ∈ lw_tbl := List.mem_of_getElem? (i := 733) rfl
theorem lm_734 : Cond.methodLink RL 57 yX10_worth ∈ lw_tbl := List.mem_of_getElem? (i := 734) (by decide +kernel)
theorem lm_735 : Cond.instanceMethod yX10_worth ∈ lw_tbl := List.mem_of_getElem? (i := 735) (by decide +kernel)
theorem lm_736 : Cond.selects RX10 yX10_worth yX10_worth ∈ lw_tbl := List.mem_of_getElem? (i := 736) (by decide +kernel)
set_option maxRecDepth 100000 in
theorem lm_737 : Cond.code yX10_worth cX10_worth 3 (some .int) ∈ lw_tbl := List.mem_of_getElem? (i := 737) rfl
theorem lm_738 : Cond.methodLink RX10 163 yX1_goOut ∈ lw_tbl := List.mem_of_getElem? (i := 738) (by decide +kernel)
theorem lm_739 : Cond.methodLink RX10 166 yX1_gainAt ∈ lw_tbl := List.mem_of_getElem? (i := 739) (by decide +kernel)
theorem lm_740 : Cond.instanceMethod yX1_gainAt ∈ lw_tbl := List.mem_of_getElem? (i := 740) (by decide +kernel)
theorem lm_741 : Cond.selects RX1 yX1_gainAt yX1_gainAt ∈ lw_tbl := List.mem_of_getElem? (i := 741) (by decide +kernel)
set_option maxRecDepth 100000 in
theorem lm_742 : Cond.code yX1_gainAt cX1_gainAt 5 (some .int) ∈ lw_tbl := List.mem_of_getElem? (i := 742) rfl
theorem lm_743 : Cond.methodLink RX1 151 yX1_gainOf ∈ lw_tbl := List.mem_of_getElem? (i := 743) (by decide +kernel)
theorem lm_744 : Cond.methodLink RL 61 yX10_duel ∈ lw_tbl := List.mem_of_getElem? (i := 744) (by decide +kernel)
theorem lm_745 : Cond.instanceMethod yX10_duel ∈ lw_tbl := List.mem_of_getElem? (i := 745) (by decide +kernel)
theorem lm_746 : Cond.selects RX10 yX10_duel yX10_duel ∈ lw_tbl := List.mem_of_getElem? (i := 746) (by decide +kernel)
set_option maxRecDepth 100000 in
theorem lm_747 : Cond.code yX10_duel cX10_duel 13 (some .long) ∈ lw_tbl := List.mem_of_getElem? (i := 747) rfl
theorem lm_748 : Cond.constantLong RX10 169 (4000000000000000000) ∈ lw_tbl := List.mem_of_getElem? (i := 748) (by decide +kernel)
theorem lm_749 : Cond.methodLink RX10 171 yX2_begin ∈ lw_tbl := List.mem_of_getElem? (i := 749) (by decide +kernel)
theorem lm_750 : Cond.instanceMethod yX2_begin ∈ lw_tbl := List.mem_of_getElem? (i := 750) (by decide +kernel)
theorem lm_751 : Cond.selects RX2 yX2_begin yX2_begin ∈ lw_tbl := List.mem_of_getElem? (i := 751) (by decide +kernel)
set_option maxRecDepth 100000 in
theorem lm_752 : Cond.code yX2_begin cX2_begin 5 none ∈ lw_tbl := List.mem_of_getElem? (i := 752) rfl
theorem lm_753 : Cond.methodLink RX2 18 yX2_clearWays ∈ lw_tbl := List.mem_of_getElem? (i := 753) (by decide +kernel)
theorem lm_755 : Cond.instanceMethod yX2_clearWays ∈ lw_tbl := List.mem_of_getElem? (i := 755) (by decide +kernel)
set_option maxRecDepth 100000 in
theorem lm_756 : Cond.code yX2_clearWays cX2_clearWays 2 none ∈ lw_tbl := List.mem_of_getElem? (i := 756) rfl
theorem lm_757 : Cond.methodLink RX2 35 yX2_addWays ∈ lw_tbl := List.mem_of_getElem? (i := 757) (by decide +kernel)
theorem lm_759 : Cond.instanceMethod yX2_addWays ∈ lw_tbl := List.mem_of_getElem? (i := 759) (by decide +kernel)
set_option maxRecDepth 100000 in
theorem lm_760 : Cond.code yX2_addWays cX2_addWays 5 none ∈ lw_tbl := List.mem_of_getElem? (i := 760) rfl
theorem lm_761 : Cond.methodLink RX10 175 yX2_throwNext ∈ lw_tbl := List.mem_of_getElem? (i := 761) (by decide +kernel)
theorem lm_762 : Cond.instanceMethod yX2_throwNext ∈ lw_tbl := List.mem_of_getElem? (i := 762) (by decide +kernel)
theorem lm_763 : Cond.selects RX2 yX2_throwNext yX2_throwNext ∈ lw_tbl := List.mem_of_getElem? (i := 763) (by decide +kernel)
set_option maxRecDepth 100000 in
theorem lm_764 : Cond.code yX2_throwNext cX2_throwNext 3 none ∈ lw_tbl := List.mem_of_getElem? (i := 764) rfl
theorem lm_765 : Cond.methodLink RX2 39 arraycopyName ∈ lw_tbl := List.mem_of_getElem? (i := 765) (by decide +kernel)
theorem lm_766 : Cond.methodLink RX2 45 yX2_throwFrom ∈ lw_tbl := List.mem_of_getElem? (i := 766) (by decide +kernel)
theorem lm_768 : Cond.instanceMethod yX2_throwFrom ∈ lw_tbl := List.mem_of_getElem? (i := 768) (by decide +kernel)
set_option maxRecDepth 100000 in
theorem lm_769 : Cond.code yX2_throwFrom cX2_throwFrom 5 none ∈ lw_tbl := List.mem_of_getElem? (i := 769) rfl
theorem lm_770 : Cond.constantLong RX2 48 (40) ∈ lw_tbl := List.mem_of_getElem? (i := 770) (by decide +kernel)
theorem lm_771 : Cond.methodLink RX10 178 yX2_waysWonBy ∈ lw_tbl := List.mem_of_getElem? (i := 771) (by decide +kernel)
theorem lm_772 : Cond.instanceMethod yX2_waysWonBy ∈ lw_tbl := List.mem_of_getElem? (i := 772) (by decide +kernel)
theorem lm_773 : Cond.selects RX2 yX2_waysWonBy yX2_waysWonBy ∈ lw_tbl := List.mem_of_getElem? (i := 773) (by decide +kernel)
set_option maxRecDepth 100000 in
theorem lm_774 : Cond.code yX2_waysWonBy cX2_waysWonBy 5 (some .long) ∈ lw_tbl := List.mem_of_getElem? (i := 774) rfl
theorem lm_775 : Cond.methodLink RX10 186 yX10_commonDivisor ∈ lw_tbl := List.mem_of_getElem? (i := 775) (by decide +kernel)
theorem lm_776 : Cond.static yX10_commonDivisor ∈ lw_tbl := List.mem_of_getElem? (i := 776) (by decide +kernel)
set_option maxRecDepth 100000 in
theorem lm_777 : Cond.code yX10_commonDivisor cX10_commonDivisor 7 (some .long) ∈ lw_tbl := List.mem_of_getElem? (i := 777) rfl
theorem lm_778 : Cond.methodLink RL 66 yX10_game ∈ lw_tbl := List.mem_of_getElem? (i := 778) (by decide +kernel)
theorem lm_779 : Cond.instanceMethod yX10_game ∈ lw_tbl := List.mem_of_getElem? (i := 779) (by decide +kernel)
theorem lm_780 : Cond.selects RX10 yX10_game yX10_game ∈ lw_tbl := List.mem_of_getElem? (i := 780) (by decide +kernel)
set_option maxRecDepth 100000 in
theorem lm_781 : Cond.code yX10_game cX10_game 4 (some .long) ∈ lw_tbl := List.mem_of_getElem? (i := 781) rfl
theorem lm_782 : Cond.methodLink RX10 190 yX10_catchOrDodge ∈ lw_tbl := List.mem_of_getElem? (i := 782) (by decide +kernel)
theorem lm_784 : Cond.instanceMethod yX10_catchOrDodge ∈ lw_tbl := List.mem_of_getElem? (i := 784) (by decide +kernel)
set_option maxRecDepth 100000 in
theorem lm_785 : Cond.code yX10_catchOrDodge cX10_catchOrDodge 5 (some .int) ∈ lw_tbl := List.mem_of_getElem? (i := 785) rfl
theorem lm_786 : Cond.methodLink RL 71 yX10_row ∈ lw_tbl := List.mem_of_getElem? (i := 786) (by decide +kernel)
theorem lm_787 : Cond.instanceMethod yX10_row ∈ lw_tbl := List.mem_of_getElem? (i := 787) (by decide +kernel)
theorem lm_788 : Cond.selects RX10 yX10_row yX10_row ∈ lw_tbl := List.mem_of_getElem? (i := 788) (by decide +kernel)
set_option maxRecDepth 100000 in
theorem lm_789 : Cond.code yX10_row cX10_row 2 (some .int) ∈ lw_tbl := List.mem_of_getElem? (i := 789) rfl
theorem lm_790 : Cond.methodLink RL 75 yX10_judge ∈ lw_tbl := List.mem_of_getElem? (i := 790) (by decide +kernel)
theorem lm_791 : Cond.instanceMethod yX10_judge ∈ lw_tbl := List.mem_of_getElem? (i := 791) (by decide +kernel)
theorem lm_792 : Cond.selects RX10 yX10_judge yX10_judge ∈ lw_tbl := List.mem_of_getElem? (i := 792) (by decide +kernel)
set_option maxRecDepth 100000 in
theorem lm_793 : Cond.code yX10_judge cX10_judge 1 (some .int) ∈ lw_tbl := List.mem_of_getElem? (i := 793) rfl
theorem lm_794 : Cond.methodLink RX10 196 yX10_playRowInMind ∈ lw_tbl := List.mem_of_getElem? (i := 794) (by decide +kernel)
theorem lm_796 : Cond.instanceMethod yX10_playRowInMind ∈ lw_tbl := List.mem_of_getElem? (i := 796) (by decide +kernel)
set_option maxRecDepth 100000 in
theorem lm_797 : Cond.code yX10_playRowInMind cX10_playRowInMind 2 (some .int) ∈ lw_tbl := List.mem_of_getElem? (i := 797) rfl
theorem lm_798 : Cond.methodLink RX10 241 yX10_throwInMind ∈ lw_tbl := List.mem_of_getElem? (i := 798) (by decide +kernel)
theorem lm_800 : Cond.instanceMethod yX10_throwInMind ∈ lw_tbl := List.mem_of_getElem? (i := 800) (by decide +kernel)
set_option maxRecDepth 100000 in
theorem lm_801 : Cond.code yX10_throwInMind cX10_throwInMind 6 (some .boolean) ∈ lw_tbl := List.mem_of_getElem? (i := 801) rfl
theorem lm_802 : Cond.methodLink RX10 244 yX1_leastBallOf ∈ lw_tbl := List.mem_of_getElem? (i := 802) (by decide +kernel)
theorem lm_803 : Cond.instanceMethod yX1_leastBallOf ∈ lw_tbl := List.mem_of_getElem? (i := 803) (by decide +kernel)
theorem lm_804 : Cond.selects RX1 yX1_leastBallOf yX1_leastBallOf ∈ lw_tbl := List.mem_of_getElem? (i := 804) (by decide +kernel)
set_option maxRecDepth 100000 in
theorem lm_805 : Cond.code yX1_leastBallOf cX1_leastBallOf 3 (some .int) ∈ lw_tbl := List.mem_of_getElem? (i := 805) rfl
theorem lm_806 : Cond.methodLink RL 79 yX10_ends ∈ lw_tbl := List.mem_of_getElem? (i := 806) (by decide +kernel)
theorem lm_807 : Cond.instanceMethod yX10_ends ∈ lw_tbl := List.mem_of_getElem? (i := 807) (by decide +kernel)
theorem lm_808 : Cond.selects RX10 yX10_ends yX10_ends ∈ lw_tbl := List.mem_of_getElem? (i := 808) (by decide +kernel)
set_option maxRecDepth 100000 in
theorem lm_809 : Cond.code yX10_ends cX10_ends 1 (some .int) ∈ lw_tbl := List.mem_of_getElem? (i := 809) rfl
theorem lm_810 : Cond.methodLink RX10 199 yX1_inBits ∈ lw_tbl := List.mem_of_getElem? (i := 810) (by decide +kernel)
theorem lm_811 : Cond.methodLink RL 83 yX10_clear ∈ lw_tbl := List.mem_of_getElem? (i := 811) (by decide +kernel)
theorem lm_812 : Cond.instanceMethod yX10_clear ∈ lw_tbl := List.mem_of_getElem? (i := 812) (by decide +kernel)
theorem lm_813 : Cond.selects RX10 yX10_clear yX10_clear ∈ lw_tbl := List.mem_of_getElem? (i := 813) (by decide +kernel)
set_option maxRecDepth 100000 in
theorem lm_814 : Cond.code yX10_clear cX10_clear 2 (some .int) ∈ lw_tbl := List.mem_of_getElem? (i := 814) rfl
theorem lm_815 : Cond.methodLink RL 87 yX10_whose ∈ lw_tbl := List.mem_of_getElem? (i := 815) (by decide +kernel)
theorem lm_816 : Cond.instanceMethod yX10_whose ∈ lw_tbl := List.mem_of_getElem? (i := 816) (by decide +kernel)
theorem lm_817 : Cond.selects RX10 yX10_whose yX10_whose ∈ lw_tbl := List.mem_of_getElem? (i := 817) (by decide +kernel)
set_option maxRecDepth 100000 in
theorem lm_818 : Cond.code yX10_whose cX10_whose 4 (some .int) ∈ lw_tbl := List.mem_of_getElem? (i := 818) rfl
theorem lm_819 : Cond.methodLink RL 91 yX10_waits ∈ lw_tbl := List.mem_of_getElem? (i := 819) (by decide +kernel)
theorem lm_820 : Cond.instanceMethod yX10_waits ∈ lw_tbl := List.mem_of_getElem? (i := 820) (by decide +kernel)
theorem lm_821 : Cond.selects RX10 yX10_waits yX10_waits ∈ lw_tbl := List.mem_of_getElem? (i := 821) (by decide +kernel)
set_option maxRecDepth 100000 in
theorem lm_822 : Cond.code yX10_waits cX10_waits 3 (some .int) ∈ lw_tbl := List.mem_of_getElem? (i := 822) rfl
theorem lm_823 : Cond.methodLink RX10 205 yX10_isSide ∈ lw_tbl := List.mem_of_getElem? (i := 823) (by decide +kernel)
theorem lm_824 : Cond.methodLink RX10 208 yX1_sideAt ∈ lw_tbl := List.mem_of_getElem? (i := 824) (by decide +kernel)
theorem lm_825 : Cond.methodLink RX10 212 yX6_waitsAt ∈ lw_tbl := List.mem_of_getElem? (i := 825) (by decide +kernel)
theorem lm_826 : Cond.instanceMethod yX6_waitsAt ∈ lw_tbl := List.mem_of_getElem? (i := 826) (by decide +kernel)
theorem lm_827 : Cond.selects RX6 yX6_waitsAt yX6_waitsAt ∈ lw_tbl := List.mem_of_getElem? (i := 827) (by decide +kernel)
set_option maxRecDepth 100000 in
theorem lm_828 : Cond.code yX6_waitsAt cX6_waitsAt 2 (some .int) ∈ lw_tbl := List.mem_of_getElem? (i := 828) rfl
theorem lm_829 : Cond.methodLink RL 95 yX10_lots ∈ lw_tbl := List.mem_of_getElem? (i := 829) (by decide +kernel)
theorem lm_830 : Cond.instanceMethod yX10_lots ∈ lw_tbl := List.mem_of_getElem? (i := 830) (by decide +kernel)
theorem lm_831 : Cond.selects RX10 yX10_lots yX10_lots ∈ lw_tbl := List.mem_of_getElem? (i := 831) (by decide +kernel)
set_option maxRecDepth 100000 in
theorem lm_832 : Cond.code yX10_lots cX10_lots 4 (some .int) ∈ lw_tbl := List.mem_of_getElem? (i := 832) rfl
theorem lm_833 : Cond.methodLink RX10 220 yX10_throwByLot ∈ lw_tbl := List.mem_of_getElem? (i := 833) (by decide +kernel)
theorem lm_835 : Cond.instanceMethod yX10_throwByLot ∈ lw_tbl := List.mem_of_getElem? (i := 835) (by decide +kernel)
set_option maxRecDepth 100000 in
theorem lm_836 : Cond.code yX10_throwByLot cX10_throwByLot 8 none ∈ lw_tbl := List.mem_of_getElem? (i := 836) rfl
theorem lm_837 : Cond.methodLink RX10 247 yX10_draw ∈ lw_tbl := List.mem_of_getElem? (i := 837) (by decide +kernel)
theorem lm_839 : Cond.instanceMethod yX10_draw ∈ lw_tbl := List.mem_of_getElem? (i := 839) (by decide +kernel)
set_option maxRecDepth 100000 in
theorem lm_840 : Cond.code yX10_draw cX10_draw 2 (some .int) ∈ lw_tbl := List.mem_of_getElem? (i := 840) rfl
theorem lm_841 : Cond.constant RX10 250 (1664525) ∈ lw_tbl := List.mem_of_getElem? (i := 841) (by decide +kernel)
theorem lm_842 : Cond.constant RX10 251 (1013904223) ∈ lw_tbl := List.mem_of_getElem? (i := 842) (by decide +kernel)
theorem lm_843 : Cond.constant RX10 252 (2147483647) ∈ lw_tbl := List.mem_of_getElem? (i := 843) (by decide +kernel)
theorem lm_844 : Cond.methodLink RL 99 yX10_image ∈ lw_tbl := List.mem_of_getElem? (i := 844) (by decide +kernel)
theorem lm_845 : Cond.instanceMethod yX10_image ∈ lw_tbl := List.mem_of_getElem? (i := 845) (by decide +kernel)
theorem lm_846 : Cond.selects RX10 yX10_image yX10_image ∈ lw_tbl := List.mem_of_getElem? (i := 846) (by decide +kernel)
set_option maxRecDepth 100000 in
theorem lm_847 : Cond.code yX10_image cX10_image 1 (some .int) ∈ lw_tbl := List.mem_of_getElem? (i := 847) rfl
theorem lm_848 : Cond.methodLink RL 103 yX10_on ∈ lw_tbl := List.mem_of_getElem? (i := 848) (by decide +kernel)
theorem lm_849 : Cond.instanceMethod yX10_on ∈ lw_tbl := List.mem_of_getElem? (i := 849) (by decide +kernel)
theorem lm_850 : Cond.selects RX10 yX10_on yX10_on ∈ lw_tbl := List.mem_of_getElem? (i := 850) (by decide +kernel)
set_option maxRecDepth 100000 in
theorem lm_851 : Cond.code yX10_on cX10_on 1 (some .int) ∈ lw_tbl := List.mem_of_getElem? (i := 851) rfl
theorem lm_852 : Cond.methodLink RL 107 yX10_count ∈ lw_tbl := List.mem_of_getElem? (i := 852) (by decide +kernel)
theorem lm_853 : Cond.instanceMethod yX10_count ∈ lw_tbl := List.mem_of_getElem? (i := 853) (by decide +kernel)
theorem lm_854 : Cond.selects RX10 yX10_count yX10_count ∈ lw_tbl := List.mem_of_getElem? (i := 854) (by decide +kernel)
set_option maxRecDepth 100000 in
theorem lm_855 : Cond.code yX10_count cX10_count 2 (some .int) ∈ lw_tbl := List.mem_of_getElem? (i := 855) rfl
theorem lm_856 : Cond.methodLink RX10 227 yX6_inCount ∈ lw_tbl := List.mem_of_getElem? (i := 856) (by decide +kernel)
theorem lm_857 : Cond.instanceMethod yX6_inCount ∈ lw_tbl := List.mem_of_getElem? (i := 857) (by decide +kernel)
theorem lm_858 : Cond.selects RX6 yX6_inCount yX6_inCount ∈ lw_tbl := List.mem_of_getElem? (i := 858) (by decide +kernel)
set_option maxRecDepth 100000 in
theorem lm_859 : Cond.code yX6_inCount cX6_inCount 1 (some .int) ∈ lw_tbl := List.mem_of_getElem? (i := 859) rfl
theorem lm_860 : Cond.methodLink RX6 26 yJ6_bitCount_0f7a4 ∈ lw_tbl := List.mem_of_getElem? (i := 860) (by decide +kernel)
theorem lm_861 : Cond.methodLink RX10 230 yX1_lyingCount ∈ lw_tbl := List.mem_of_getElem? (i := 861) (by decide +kernel)
theorem lm_862 : Cond.instanceMethod yX1_lyingCount ∈ lw_tbl := List.mem_of_getElem? (i := 862) (by decide +kernel)
theorem lm_863 : Cond.selects RX1 yX1_lyingCount yX1_lyingCount ∈ lw_tbl := List.mem_of_getElem? (i := 863) (by decide +kernel)
set_option maxRecDepth 100000 in
theorem lm_864 : Cond.code yX1_lyingCount cX1_lyingCount 4 (some .int) ∈ lw_tbl := List.mem_of_getElem? (i := 864) rfl
theorem lm_865 : Cond.methodLink RX10 233 yX10_refusalCount ∈ lw_tbl := List.mem_of_getElem? (i := 865) (by decide +kernel)
theorem lm_867 : Cond.instanceMethod yX10_refusalCount ∈ lw_tbl := List.mem_of_getElem? (i := 867) (by decide +kernel)
set_option maxRecDepth 100000 in
theorem lm_868 : Cond.code yX10_refusalCount cX10_refusalCount 2 (some .int) ∈ lw_tbl := List.mem_of_getElem? (i := 868) rfl
set_option maxRecDepth 100000 in
theorem lm_873 : Cond.code yX11_init cX11_init 2 none ∈ lw_tbl := List.mem_of_getElem? (i := 873) rfl
theorem lm_874 : Cond.methodLink RX11 1 objectInit ∈ lw_tbl := List.mem_of_getElem? (i := 874) (by decide +kernel)
theorem lm_875 : Cond.fieldLink RX11 7 "BallsAtDodgerModel" "refused" "[I" ∈ lw_tbl := List.mem_of_getElem? (i := 875) (by decide +kernel)
theorem lm_876 : Cond.fieldLink RX11 13 "BallsAtDodgerModel" "side" "[I" ∈ lw_tbl := List.mem_of_getElem? (i := 876) (by decide +kernel)
theorem lm_877 : Cond.fieldLink RX11 16 "BallsAtDodgerModel" "kind" "[I" ∈ lw_tbl := List.mem_of_getElem? (i := 877) (by decide +kernel)
theorem lm_878 : Cond.fieldLink RX11 19 "BallsAtDodgerModel" "arm" "[I" ∈ lw_tbl := List.mem_of_getElem? (i := 878) (by decide +kernel)
theorem lm_879 : Cond.fieldLink RX11 22 "BallsAtDodgerModel" "eye" "[I" ∈ lw_tbl := List.mem_of_getElem? (i := 879) (by decide +kernel)
theorem lm_880 : Cond.fieldLink RX11 25 "BallsAtDodgerModel" "out" "[I" ∈ lw_tbl := List.mem_of_getElem? (i := 880) (by decide +kernel)
theorem lm_881 : Cond.fieldLink RX11 28 "BallsAtDodgerModel" "holder" "[I" ∈ lw_tbl := List.mem_of_getElem? (i := 881) (by decide +kernel)
theorem lm_882 : Cond.fieldLink RX11 31 "BallsAtDodgerModel" "lies" "[I" ∈ lw_tbl := List.mem_of_getElem? (i := 882) (by decide +kernel)
theorem lm_883 : Cond.fieldLink RX11 34 "BallsAtDodgerModel" "heldFor" "[I" ∈ lw_tbl := List.mem_of_getElem? (i := 883) (by decide +kernel)
theorem lm_884 : Cond.fieldLink RX11 65 "BallsAtDodgerModel" "players" "I" ∈ lw_tbl := List.mem_of_getElem? (i := 884) (by decide +kernel)
theorem lm_885 : Cond.fieldLink RX11 165 "BallsAtDodgerModel" "tenth" "I" ∈ lw_tbl := List.mem_of_getElem? (i := 885) (by decide +kernel)
theorem lm_886 : Cond.fieldLink RX11 111 "BallsAtDodgerModel" "goings" "I" ∈ lw_tbl := List.mem_of_getElem? (i := 886) (by decide +kernel)
theorem lm_887 : Cond.fieldLink RX11 37 "BallsAtDodgerModel" "tape" "[I" ∈ lw_tbl := List.mem_of_getElem? (i := 887) (by decide +kernel)
theorem lm_888 : Cond.fieldLink RX11 40 "BallsAtDodgerModel" "letter" "[I" ∈ lw_tbl := List.mem_of_getElem? (i := 888) (by decide +kernel)
theorem lm_889 : Cond.fieldLink RX11 43 "BallsAtDodgerModel" "letterAt" "[I" ∈ lw_tbl := List.mem_of_getElem? (i := 889) (by decide +kernel)
theorem lm_890 : Cond.fieldLink RX11 46 "BallsAtDodgerModel" "told" "[I" ∈ lw_tbl := List.mem_of_getElem? (i := 890) (by decide +kernel)
theorem lm_891 : Cond.fieldLink RX11 77 "BallsAtDodgerModel" "taped" "I" ∈ lw_tbl := List.mem_of_getElem? (i := 891) (by decide +kernel)
theorem lm_892 : Cond.fieldLink RX11 84 "BallsAtDodgerModel" "at" "I" ∈ lw_tbl := List.mem_of_getElem? (i := 892) (by decide +kernel)
theorem lm_893 : Cond.fieldLink RX11 104 "BallsAtDodgerModel" "statements" "I" ∈ lw_tbl := List.mem_of_getElem? (i := 893) (by decide +kernel)
theorem lm_894 : Cond.fieldLink RX11 49 "BallsAtDodgerModel" "kept" "[I" ∈ lw_tbl := List.mem_of_getElem? (i := 894) (by decide +kernel)
theorem lm_895 : Cond.fieldLink RX11 168 "BallsAtDodgerModel" "hasImage" "Z" ∈ lw_tbl := List.mem_of_getElem? (i := 895) (by decide +kernel)
theorem lm_896 : Cond.fieldLink RX11 151 "BallsAtDodgerModel" "isKeeping" "Z" ∈ lw_tbl := List.mem_of_getElem? (i := 896) (by decide +kernel)
theorem lm_897 : Cond.fieldLink RX11 155 "BallsAtDodgerModel" "cursor" "I" ∈ lw_tbl := List.mem_of_getElem? (i := 897) (by decide +kernel)
theorem lm_898 : Cond.fieldLink RX11 52 "BallsAtDodgerModel" "left" "[J" ∈ lw_tbl := List.mem_of_getElem? (i := 898) (by decide +kernel)
theorem lm_899 : Cond.fieldLink RX11 56 "BallsAtDodgerModel" "later" "[J" ∈ lw_tbl := List.mem_of_getElem? (i := 899) (by decide +kernel)
theorem lm_900 : Cond.fieldLink RX11 59 "BallsAtDodgerModel" "row" "[I" ∈ lw_tbl := List.mem_of_getElem? (i := 900) (by decide +kernel)
theorem lm_901 : Cond.fieldLink RX11 235 "BallsAtDodgerModel" "rowMany" "I" ∈ lw_tbl := List.mem_of_getElem? (i := 901) (by decide +kernel)
theorem lm_902 : Cond.fieldLink RX11 244 "BallsAtDodgerModel" "drawn" "I" ∈ lw_tbl := List.mem_of_getElem? (i := 902) (by decide +kernel)
theorem lm_960 : Cond.methodLink RL 17 yX11_letter ∈ lw_tbl := List.mem_of_getElem? (i := 960) (by decide +kernel)
theorem lm_961 : Cond.instanceMethod yX11_letter ∈ lw_tbl := List.mem_of_getElem? (i := 961) (by decide +kernel)
theorem lm_962 : Cond.selects RX11 yX11_letter yX11_letter ∈ lw_tbl := List.mem_of_getElem? (i := 962) (by decide +kernel)
set_option maxRecDepth 100000 in
theorem lm_963 : Cond.code yX11_letter cX11_letter 3 (some .int) ∈ lw_tbl := List.mem_of_getElem? (i := 963) rfl
theorem lm_964 : Cond.methodLink RX11 73 yX11_bound ∈ lw_tbl := List.mem_of_getElem? (i := 964) (by decide +kernel)
theorem lm_965 : Cond.static yX11_bound ∈ lw_tbl := List.mem_of_getElem? (i := 965) (by decide +kernel)
set_option maxRecDepth 100000 in
theorem lm_966 : Cond.code yX11_bound cX11_bound 3 (some .int) ∈ lw_tbl := List.mem_of_getElem? (i := 966) rfl
theorem lm_967 : Cond.methodLink RX11 80 yX11_no ∈ lw_tbl := List.mem_of_getElem? (i := 967) (by decide +kernel)
theorem lm_969 : Cond.instanceMethod yX11_no ∈ lw_tbl := List.mem_of_getElem? (i := 969) (by decide +kernel)
set_option maxRecDepth 100000 in
theorem lm_970 : Cond.code yX11_no cX11_no 2 (some .int) ∈ lw_tbl := List.mem_of_getElem? (i := 970) rfl
theorem lm_971 : Cond.methodLink RL 22 yX11_hall ∈ lw_tbl := List.mem_of_getElem? (i := 971) (by decide +kernel)
theorem lm_972 : Cond.instanceMethod yX11_hall ∈ lw_tbl := List.mem_of_getElem? (i := 972) (by decide +kernel)
theorem lm_973 : Cond.selects RX11 yX11_hall yX11_hall ∈ lw_tbl := List.mem_of_getElem? (i := 973) (by decide +kernel)
set_option maxRecDepth 100000 in
theorem lm_974 : Cond.code yX11_hall cX11_hall 3 (some .int) ∈ lw_tbl := List.mem_of_getElem? (i := 974) rfl
theorem lm_975 : Cond.methodLink RX11 140 yX11_statement ∈ lw_tbl := List.mem_of_getElem? (i := 975) (by decide +kernel)
theorem lm_977 : Cond.instanceMethod yX11_statement ∈ lw_tbl := List.mem_of_getElem? (i := 977) (by decide +kernel)
set_option maxRecDepth 100000 in
theorem lm_978 : Cond.code yX11_statement cX11_statement 2 (some .boolean) ∈ lw_tbl := List.mem_of_getElem? (i := 978) rfl
theorem lm_979 : Cond.methodLink RX11 87 yX11_next ∈ lw_tbl := List.mem_of_getElem? (i := 979) (by decide +kernel)
theorem lm_981 : Cond.instanceMethod yX11_next ∈ lw_tbl := List.mem_of_getElem? (i := 981) (by decide +kernel)
set_option maxRecDepth 100000 in
theorem lm_982 : Cond.code yX11_next cX11_next 1 (some .int) ∈ lw_tbl := List.mem_of_getElem? (i := 982) rfl
theorem lm_983 : Cond.methodLink RX11 107 yX11_readsAll ∈ lw_tbl := List.mem_of_getElem? (i := 983) (by decide +kernel)
theorem lm_985 : Cond.instanceMethod yX11_readsAll ∈ lw_tbl := List.mem_of_getElem? (i := 985) (by decide +kernel)
set_option maxRecDepth 100000 in
theorem lm_986 : Cond.code yX11_readsAll cX11_readsAll 3 (some .boolean) ∈ lw_tbl := List.mem_of_getElem? (i := 986) rfl
theorem lm_987 : Cond.methodLink RX11 98 yX11_readsDigit ∈ lw_tbl := List.mem_of_getElem? (i := 987) (by decide +kernel)
theorem lm_989 : Cond.instanceMethod yX11_readsDigit ∈ lw_tbl := List.mem_of_getElem? (i := 989) (by decide +kernel)
set_option maxRecDepth 100000 in
theorem lm_990 : Cond.code yX11_readsDigit cX11_readsDigit 2 (some .boolean) ∈ lw_tbl := List.mem_of_getElem? (i := 990) rfl
theorem lm_991 : Cond.methodLink RX11 91 yX11_isIn ∈ lw_tbl := List.mem_of_getElem? (i := 991) (by decide +kernel)
theorem lm_992 : Cond.static yX11_isIn ∈ lw_tbl := List.mem_of_getElem? (i := 992) (by decide +kernel)
set_option maxRecDepth 100000 in
theorem lm_993 : Cond.code yX11_isIn cX11_isIn 3 (some .boolean) ∈ lw_tbl := List.mem_of_getElem? (i := 993) rfl
theorem lm_994 : Cond.methodLink RX11 101 yX11_readsKind ∈ lw_tbl := List.mem_of_getElem? (i := 994) (by decide +kernel)
theorem lm_996 : Cond.instanceMethod yX11_readsKind ∈ lw_tbl := List.mem_of_getElem? (i := 996) (by decide +kernel)
set_option maxRecDepth 100000 in
theorem lm_997 : Cond.code yX11_readsKind cX11_readsKind 2 (some .boolean) ∈ lw_tbl := List.mem_of_getElem? (i := 997) rfl
theorem lm_998 : Cond.methodLink RX11 95 yX11_kindOf ∈ lw_tbl := List.mem_of_getElem? (i := 998) (by decide +kernel)
theorem lm_999 : Cond.static yX11_kindOf ∈ lw_tbl := List.mem_of_getElem? (i := 999) (by decide +kernel)
set_option maxRecDepth 100000 in
theorem lm_1000 : Cond.code yX11_kindOf cX11_kindOf 1 (some .int) ∈ lw_tbl := List.mem_of_getElem? (i := 1000) rfl
theorem lm_1001 : Cond.methodLink RX11 144 yX11_passesAll ∈ lw_tbl := List.mem_of_getElem? (i := 1001) (by decide +kernel)
theorem lm_1003 : Cond.instanceMethod yX11_passesAll ∈ lw_tbl := List.mem_of_getElem? (i := 1003) (by decide +kernel)
set_option maxRecDepth 100000 in
theorem lm_1004 : Cond.code yX11_passesAll cX11_passesAll 3 none ∈ lw_tbl := List.mem_of_getElem? (i := 1004) rfl
theorem lm_1005 : Cond.methodLink RX11 158 yX11_passes ∈ lw_tbl := List.mem_of_getElem? (i := 1005) (by decide +kernel)
theorem lm_1007 : Cond.instanceMethod yX11_passes ∈ lw_tbl := List.mem_of_getElem? (i := 1007) (by decide +kernel)
set_option maxRecDepth 100000 in
theorem lm_1008 : Cond.code yX11_passes cX11_passes 3 none ∈ lw_tbl := List.mem_of_getElem? (i := 1008) rfl
theorem lm_1009 : Cond.methodLink RX11 162 yX11_passOne ∈ lw_tbl := List.mem_of_getElem? (i := 1009) (by decide +kernel)
theorem lm_1011 : Cond.instanceMethod yX11_passOne ∈ lw_tbl := List.mem_of_getElem? (i := 1011) (by decide +kernel)
set_option maxRecDepth 100000 in
theorem lm_1012 : Cond.code yX11_passOne cX11_passOne 3 (some .int) ∈ lw_tbl := List.mem_of_getElem? (i := 1012) rfl
theorem lm_1013 : Cond.methodLink RX11 148 yX11_comes ∈ lw_tbl := List.mem_of_getElem? (i := 1013) (by decide +kernel)
theorem lm_1015 : Cond.instanceMethod yX11_comes ∈ lw_tbl := List.mem_of_getElem? (i := 1015) (by decide +kernel)
set_option maxRecDepth 100000 in
theorem lm_1016 : Cond.code yX11_comes cX11_comes 5 (some .boolean) ∈ lw_tbl := List.mem_of_getElem? (i := 1016) rfl
theorem lm_1017 : Cond.methodLink RX11 118 yX11_comesPlayer ∈ lw_tbl := List.mem_of_getElem? (i := 1017) (by decide +kernel)
theorem lm_1019 : Cond.instanceMethod yX11_comesPlayer ∈ lw_tbl := List.mem_of_getElem? (i := 1019) (by decide +kernel)
set_option maxRecDepth 100000 in
theorem lm_1020 : Cond.code yX11_comesPlayer cX11_comesPlayer 2 (some .boolean) ∈ lw_tbl := List.mem_of_getElem? (i := 1020) rfl
theorem lm_1021 : Cond.methodLink RX11 121 yX11_isBall ∈ lw_tbl := List.mem_of_getElem? (i := 1021) (by decide +kernel)
theorem lm_1022 : Cond.static yX11_isBall ∈ lw_tbl := List.mem_of_getElem? (i := 1022) (by decide +kernel)
set_option maxRecDepth 100000 in
theorem lm_1023 : Cond.code yX11_isBall cX11_isBall 1 (some .boolean) ∈ lw_tbl := List.mem_of_getElem? (i := 1023) rfl
theorem lm_1024 : Cond.methodLink RX11 124 yX11_isHere ∈ lw_tbl := List.mem_of_getElem? (i := 1024) (by decide +kernel)
theorem lm_1026 : Cond.instanceMethod yX11_isHere ∈ lw_tbl := List.mem_of_getElem? (i := 1026) (by decide +kernel)
set_option maxRecDepth 100000 in
theorem lm_1027 : Cond.code yX11_isHere cX11_isHere 2 (some .boolean) ∈ lw_tbl := List.mem_of_getElem? (i := 1027) rfl
theorem lm_1028 : Cond.methodLink RX11 69 yX11_isPlayer ∈ lw_tbl := List.mem_of_getElem? (i := 1028) (by decide +kernel)
theorem lm_1030 : Cond.instanceMethod yX11_isPlayer ∈ lw_tbl := List.mem_of_getElem? (i := 1030) (by decide +kernel)
set_option maxRecDepth 100000 in
theorem lm_1031 : Cond.code yX11_isPlayer cX11_isPlayer 2 (some .boolean) ∈ lw_tbl := List.mem_of_getElem? (i := 1031) rfl
theorem lm_1032 : Cond.methodLink RX11 127 yX11_holds ∈ lw_tbl := List.mem_of_getElem? (i := 1032) (by decide +kernel)
theorem lm_1034 : Cond.instanceMethod yX11_holds ∈ lw_tbl := List.mem_of_getElem? (i := 1034) (by decide +kernel)
set_option maxRecDepth 100000 in
theorem lm_1035 : Cond.code yX11_holds cX11_holds 4 (some .int) ∈ lw_tbl := List.mem_of_getElem? (i := 1035) rfl
theorem lm_1036 : Cond.methodLink RX11 130 yX11_bits ∈ lw_tbl := List.mem_of_getElem? (i := 1036) (by decide +kernel)
theorem lm_1037 : Cond.static yX11_bits ∈ lw_tbl := List.mem_of_getElem? (i := 1037) (by decide +kernel)
set_option maxRecDepth 100000 in
theorem lm_1038 : Cond.code yX11_bits cX11_bits 3 (some .int) ∈ lw_tbl := List.mem_of_getElem? (i := 1038) rfl
theorem lm_1039 : Cond.methodLink RX11 133 yX11_isHeld ∈ lw_tbl := List.mem_of_getElem? (i := 1039) (by decide +kernel)
theorem lm_1041 : Cond.instanceMethod yX11_isHeld ∈ lw_tbl := List.mem_of_getElem? (i := 1041) (by decide +kernel)
set_option maxRecDepth 100000 in
theorem lm_1042 : Cond.code yX11_isHeld cX11_isHeld 3 none ∈ lw_tbl := List.mem_of_getElem? (i := 1042) rfl
theorem lm_1043 : Cond.methodLink RX11 114 yX11_falls ∈ lw_tbl := List.mem_of_getElem? (i := 1043) (by decide +kernel)
theorem lm_1045 : Cond.instanceMethod yX11_falls ∈ lw_tbl := List.mem_of_getElem? (i := 1045) (by decide +kernel)
set_option maxRecDepth 100000 in
theorem lm_1046 : Cond.code yX11_falls cX11_falls 3 none ∈ lw_tbl := List.mem_of_getElem? (i := 1046) rfl
theorem lm_1047 : Cond.methodLink RX11 136 yX11_goesOut ∈ lw_tbl := List.mem_of_getElem? (i := 1047) (by decide +kernel)
theorem lm_1049 : Cond.instanceMethod yX11_goesOut ∈ lw_tbl := List.mem_of_getElem? (i := 1049) (by decide +kernel)
set_option maxRecDepth 100000 in
theorem lm_1050 : Cond.code yX11_goesOut cX11_goesOut 3 none ∈ lw_tbl := List.mem_of_getElem? (i := 1050) rfl
theorem lm_1051 : Cond.methodLink RL 102 yX11_image ∈ lw_tbl := List.mem_of_getElem? (i := 1051) (by decide +kernel)
theorem lm_1052 : Cond.instanceMethod yX11_image ∈ lw_tbl := List.mem_of_getElem? (i := 1052) (by decide +kernel)
theorem lm_1053 : Cond.selects RX11 yX11_image yX11_image ∈ lw_tbl := List.mem_of_getElem? (i := 1053) (by decide +kernel)
set_option maxRecDepth 100000 in
theorem lm_1054 : Cond.code yX11_image cX11_image 1 (some .int) ∈ lw_tbl := List.mem_of_getElem? (i := 1054) rfl
theorem lm_1055 : Cond.methodLink RL 106 yX11_on ∈ lw_tbl := List.mem_of_getElem? (i := 1055) (by decide +kernel)
theorem lm_1056 : Cond.instanceMethod yX11_on ∈ lw_tbl := List.mem_of_getElem? (i := 1056) (by decide +kernel)
theorem lm_1057 : Cond.selects RX11 yX11_on yX11_on ∈ lw_tbl := List.mem_of_getElem? (i := 1057) (by decide +kernel)
set_option maxRecDepth 100000 in
theorem lm_1058 : Cond.code yX11_on cX11_on 1 (some .int) ∈ lw_tbl := List.mem_of_getElem? (i := 1058) rfl
theorem lm_1059 : Cond.methodLink RL 27 yX11_player ∈ lw_tbl := List.mem_of_getElem? (i := 1059) (by decide +kernel)
theorem lm_1060 : Cond.instanceMethod yX11_player ∈ lw_tbl := List.mem_of_getElem? (i := 1060) (by decide +kernel)
theorem lm_1061 : Cond.selects RX11 yX11_player yX11_player ∈ lw_tbl := List.mem_of_getElem? (i := 1061) (by decide +kernel)
set_option maxRecDepth 100000 in
theorem lm_1062 : Cond.code yX11_player cX11_player 3 (some .int) ∈ lw_tbl := List.mem_of_getElem? (i := 1062) rfl
theorem lm_1063 : Cond.methodLink RX11 177 yX11_aimOf ∈ lw_tbl := List.mem_of_getElem? (i := 1063) (by decide +kernel)
theorem lm_1065 : Cond.instanceMethod yX11_aimOf ∈ lw_tbl := List.mem_of_getElem? (i := 1065) (by decide +kernel)
set_option maxRecDepth 100000 in
theorem lm_1066 : Cond.code yX11_aimOf cX11_aimOf 2 (some .int) ∈ lw_tbl := List.mem_of_getElem? (i := 1066) rfl
theorem lm_1067 : Cond.methodLink RX11 171 yX11_clamped ∈ lw_tbl := List.mem_of_getElem? (i := 1067) (by decide +kernel)
theorem lm_1068 : Cond.static yX11_clamped ∈ lw_tbl := List.mem_of_getElem? (i := 1068) (by decide +kernel)
set_option maxRecDepth 100000 in
theorem lm_1069 : Cond.code yX11_clamped cX11_clamped 3 (some .int) ∈ lw_tbl := List.mem_of_getElem? (i := 1069) rfl
theorem lm_1070 : Cond.methodLink RX11 180 yX11_dodgeOf ∈ lw_tbl := List.mem_of_getElem? (i := 1070) (by decide +kernel)
theorem lm_1072 : Cond.instanceMethod yX11_dodgeOf ∈ lw_tbl := List.mem_of_getElem? (i := 1072) (by decide +kernel)
set_option maxRecDepth 100000 in
theorem lm_1073 : Cond.code yX11_dodgeOf cX11_dodgeOf 3 (some .int) ∈ lw_tbl := List.mem_of_getElem? (i := 1073) rfl
theorem lm_1074 : Cond.methodLink RX11 183 yX11_graspOf ∈ lw_tbl := List.mem_of_getElem? (i := 1074) (by decide +kernel)
theorem lm_1076 : Cond.instanceMethod yX11_graspOf ∈ lw_tbl := List.mem_of_getElem? (i := 1076) (by decide +kernel)
set_option maxRecDepth 100000 in
theorem lm_1077 : Cond.code yX11_graspOf cX11_graspOf 3 (some .int) ∈ lw_tbl := List.mem_of_getElem? (i := 1077) rfl
theorem lm_1078 : Cond.methodLink RX11 174 yX11_hereOf ∈ lw_tbl := List.mem_of_getElem? (i := 1078) (by decide +kernel)
theorem lm_1080 : Cond.instanceMethod yX11_hereOf ∈ lw_tbl := List.mem_of_getElem? (i := 1080) (by decide +kernel)
set_option maxRecDepth 100000 in
theorem lm_1081 : Cond.code yX11_hereOf cX11_hereOf 4 (some .int) ∈ lw_tbl := List.mem_of_getElem? (i := 1081) rfl
theorem lm_1082 : Cond.methodLink RL 31 yX11_ball ∈ lw_tbl := List.mem_of_getElem? (i := 1082) (by decide +kernel)
theorem lm_1083 : Cond.instanceMethod yX11_ball ∈ lw_tbl := List.mem_of_getElem? (i := 1083) (by decide +kernel)
theorem lm_1084 : Cond.selects RX11 yX11_ball yX11_ball ∈ lw_tbl := List.mem_of_getElem? (i := 1084) (by decide +kernel)
set_option maxRecDepth 100000 in
theorem lm_1085 : Cond.code yX11_ball cX11_ball 3 (some .int) ∈ lw_tbl := List.mem_of_getElem? (i := 1085) rfl
theorem lm_1086 : Cond.methodLink RL 36 yX11_odds ∈ lw_tbl := List.mem_of_getElem? (i := 1086) (by decide +kernel)
theorem lm_1087 : Cond.instanceMethod yX11_odds ∈ lw_tbl := List.mem_of_getElem? (i := 1087) (by decide +kernel)
theorem lm_1088 : Cond.selects RX11 yX11_odds yX11_odds ∈ lw_tbl := List.mem_of_getElem? (i := 1088) (by decide +kernel)
set_option maxRecDepth 100000 in
theorem lm_1089 : Cond.code yX11_odds cX11_odds 8 (some .int) ∈ lw_tbl := List.mem_of_getElem? (i := 1089) rfl
theorem lm_1090 : Cond.methodLink RX11 186 yX11_areAgainst ∈ lw_tbl := List.mem_of_getElem? (i := 1090) (by decide +kernel)
theorem lm_1092 : Cond.instanceMethod yX11_areAgainst ∈ lw_tbl := List.mem_of_getElem? (i := 1092) (by decide +kernel)
set_option maxRecDepth 100000 in
theorem lm_1093 : Cond.code yX11_areAgainst cX11_areAgainst 3 (some .boolean) ∈ lw_tbl := List.mem_of_getElem? (i := 1093) rfl
theorem lm_1094 : Cond.methodLink RX11 189 yX11_hitOf ∈ lw_tbl := List.mem_of_getElem? (i := 1094) (by decide +kernel)
theorem lm_1096 : Cond.instanceMethod yX11_hitOf ∈ lw_tbl := List.mem_of_getElem? (i := 1096) (by decide +kernel)
set_option maxRecDepth 100000 in
theorem lm_1097 : Cond.code yX11_hitOf cX11_hitOf 4 (some .int) ∈ lw_tbl := List.mem_of_getElem? (i := 1097) rfl
theorem lm_1098 : Cond.methodLink RX11 192 yX11_caughtOf ∈ lw_tbl := List.mem_of_getElem? (i := 1098) (by decide +kernel)
theorem lm_1100 : Cond.instanceMethod yX11_caughtOf ∈ lw_tbl := List.mem_of_getElem? (i := 1100) (by decide +kernel)
set_option maxRecDepth 100000 in
theorem lm_1101 : Cond.code yX11_caughtOf cX11_caughtOf 3 (some .int) ∈ lw_tbl := List.mem_of_getElem? (i := 1101) rfl
theorem lm_1102 : Cond.methodLink RL 40 yX11_throwIt ∈ lw_tbl := List.mem_of_getElem? (i := 1102) (by decide +kernel)
theorem lm_1103 : Cond.instanceMethod yX11_throwIt ∈ lw_tbl := List.mem_of_getElem? (i := 1103) (by decide +kernel)
theorem lm_1104 : Cond.selects RX11 yX11_throwIt yX11_throwIt ∈ lw_tbl := List.mem_of_getElem? (i := 1104) (by decide +kernel)
set_option maxRecDepth 100000 in
theorem lm_1105 : Cond.code yX11_throwIt cX11_throwIt 6 (some .int) ∈ lw_tbl := List.mem_of_getElem? (i := 1105) rfl
theorem lm_1106 : Cond.methodLink RX11 202 yX11_canThrow ∈ lw_tbl := List.mem_of_getElem? (i := 1106) (by decide +kernel)
theorem lm_1108 : Cond.instanceMethod yX11_canThrow ∈ lw_tbl := List.mem_of_getElem? (i := 1108) (by decide +kernel)
set_option maxRecDepth 100000 in
theorem lm_1109 : Cond.code yX11_canThrow cX11_canThrow 3 (some .boolean) ∈ lw_tbl := List.mem_of_getElem? (i := 1109) rfl
theorem lm_1110 : Cond.methodLink RX11 205 yX11_finishes ∈ lw_tbl := List.mem_of_getElem? (i := 1110) (by decide +kernel)
theorem lm_1112 : Cond.instanceMethod yX11_finishes ∈ lw_tbl := List.mem_of_getElem? (i := 1112) (by decide +kernel)
set_option maxRecDepth 100000 in
theorem lm_1113 : Cond.code yX11_finishes cX11_finishes 6 none ∈ lw_tbl := List.mem_of_getElem? (i := 1113) rfl
theorem lm_1114 : Cond.methodLink RX11 196 yX11_longest ∈ lw_tbl := List.mem_of_getElem? (i := 1114) (by decide +kernel)
theorem lm_1116 : Cond.instanceMethod yX11_longest ∈ lw_tbl := List.mem_of_getElem? (i := 1116) (by decide +kernel)
set_option maxRecDepth 100000 in
theorem lm_1117 : Cond.code yX11_longest cX11_longest 4 (some .int) ∈ lw_tbl := List.mem_of_getElem? (i := 1117) rfl
theorem lm_1118 : Cond.methodLink RX11 199 yX11_goesTenth ∈ lw_tbl := List.mem_of_getElem? (i := 1118) (by decide +kernel)
theorem lm_1120 : Cond.instanceMethod yX11_goesTenth ∈ lw_tbl := List.mem_of_getElem? (i := 1120) (by decide +kernel)
set_option maxRecDepth 100000 in
theorem lm_1121 : Cond.code yX11_goesTenth cX11_goesTenth 2 none ∈ lw_tbl := List.mem_of_getElem? (i := 1121) rfl
theorem lm_1122 : Cond.methodLink RL 44 yX11_take ∈ lw_tbl := List.mem_of_getElem? (i := 1122) (by decide +kernel)
theorem lm_1123 : Cond.instanceMethod yX11_take ∈ lw_tbl := List.mem_of_getElem? (i := 1123) (by decide +kernel)
theorem lm_1124 : Cond.selects RX11 yX11_take yX11_take ∈ lw_tbl := List.mem_of_getElem? (i := 1124) (by decide +kernel)
set_option maxRecDepth 100000 in
theorem lm_1125 : Cond.code yX11_take cX11_take 4 (some .int) ∈ lw_tbl := List.mem_of_getElem? (i := 1125) rfl
theorem lm_1126 : Cond.methodLink RL 48 yX11_pass ∈ lw_tbl := List.mem_of_getElem? (i := 1126) (by decide +kernel)
theorem lm_1127 : Cond.instanceMethod yX11_pass ∈ lw_tbl := List.mem_of_getElem? (i := 1127) (by decide +kernel)
theorem lm_1128 : Cond.selects RX11 yX11_pass yX11_pass ∈ lw_tbl := List.mem_of_getElem? (i := 1128) (by decide +kernel)
set_option maxRecDepth 100000 in
theorem lm_1129 : Cond.code yX11_pass cX11_pass 4 (some .int) ∈ lw_tbl := List.mem_of_getElem? (i := 1129) rfl
theorem lm_1130 : Cond.methodLink RL 52 yX11_best ∈ lw_tbl := List.mem_of_getElem? (i := 1130) (by decide +kernel)
theorem lm_1131 : Cond.instanceMethod yX11_best ∈ lw_tbl := List.mem_of_getElem? (i := 1131) (by decide +kernel)
theorem lm_1132 : Cond.selects RX11 yX11_best yX11_best ∈ lw_tbl := List.mem_of_getElem? (i := 1132) (by decide +kernel)
set_option maxRecDepth 100000 in
theorem lm_1133 : Cond.code yX11_best cX11_best 8 (some .int) ∈ lw_tbl := List.mem_of_getElem? (i := 1133) rfl
theorem lm_1134 : Cond.methodLink RX11 209 yX11_lower ∈ lw_tbl := List.mem_of_getElem? (i := 1134) (by decide +kernel)
theorem lm_1136 : Cond.instanceMethod yX11_lower ∈ lw_tbl := List.mem_of_getElem? (i := 1136) (by decide +kernel)
set_option maxRecDepth 100000 in
theorem lm_1137 : Cond.code yX11_lower cX11_lower 2 (some .int) ∈ lw_tbl := List.mem_of_getElem? (i := 1137) rfl
theorem lm_1138 : Cond.constant RX11 62 (1000000000) ∈ lw_tbl := List.mem_of_getElem? (i := 1138) (by decide +kernel)
theorem lm_1139 : Cond.methodLink RL 56 yX11_two ∈ lw_tbl := List.mem_of_getElem? (i := 1139) (by decide +kernel)
theorem lm_1140 : Cond.instanceMethod yX11_two ∈ lw_tbl := List.mem_of_getElem? (i := 1140) (by decide +kernel)
theorem lm_1141 : Cond.selects RX11 yX11_two yX11_two ∈ lw_tbl := List.mem_of_getElem? (i := 1141) (by decide +kernel)
set_option maxRecDepth 100000 in
theorem lm_1142 : Cond.code yX11_two cX11_two 7 (some .int) ∈ lw_tbl := List.mem_of_getElem? (i := 1142) rfl
theorem lm_1143 : Cond.methodLink RL 60 yX11_worth ∈ lw_tbl := List.mem_of_getElem? (i := 1143) (by decide +kernel)
theorem lm_1144 : Cond.instanceMethod yX11_worth ∈ lw_tbl := List.mem_of_getElem? (i := 1144) (by decide +kernel)
theorem lm_1145 : Cond.selects RX11 yX11_worth yX11_worth ∈ lw_tbl := List.mem_of_getElem? (i := 1145) (by decide +kernel)
set_option maxRecDepth 100000 in
theorem lm_1146 : Cond.code yX11_worth cX11_worth 5 (some .int) ∈ lw_tbl := List.mem_of_getElem? (i := 1146) rfl
theorem lm_1147 : Cond.methodLink RX11 212 yX11_sumAt ∈ lw_tbl := List.mem_of_getElem? (i := 1147) (by decide +kernel)
theorem lm_1149 : Cond.instanceMethod yX11_sumAt ∈ lw_tbl := List.mem_of_getElem? (i := 1149) (by decide +kernel)
set_option maxRecDepth 100000 in
theorem lm_1150 : Cond.code yX11_sumAt cX11_sumAt 5 (some .int) ∈ lw_tbl := List.mem_of_getElem? (i := 1150) rfl
theorem lm_1151 : Cond.methodLink RL 65 yX11_duel ∈ lw_tbl := List.mem_of_getElem? (i := 1151) (by decide +kernel)
theorem lm_1152 : Cond.instanceMethod yX11_duel ∈ lw_tbl := List.mem_of_getElem? (i := 1152) (by decide +kernel)
theorem lm_1153 : Cond.selects RX11 yX11_duel yX11_duel ∈ lw_tbl := List.mem_of_getElem? (i := 1153) (by decide +kernel)
set_option maxRecDepth 100000 in
theorem lm_1154 : Cond.code yX11_duel cX11_duel 13 (some .long) ∈ lw_tbl := List.mem_of_getElem? (i := 1154) rfl
theorem lm_1155 : Cond.methodLink RX11 217 yX11_lowest ∈ lw_tbl := List.mem_of_getElem? (i := 1155) (by decide +kernel)
theorem lm_1157 : Cond.instanceMethod yX11_lowest ∈ lw_tbl := List.mem_of_getElem? (i := 1157) (by decide +kernel)
set_option maxRecDepth 100000 in
theorem lm_1158 : Cond.code yX11_lowest cX11_lowest 2 (some .long) ∈ lw_tbl := List.mem_of_getElem? (i := 1158) rfl
theorem lm_1159 : Cond.constantLong RX11 63 (4000000000000000000) ∈ lw_tbl := List.mem_of_getElem? (i := 1159) (by decide +kernel)
theorem lm_1160 : Cond.methodLink RX11 221 yX11_goesDuel ∈ lw_tbl := List.mem_of_getElem? (i := 1160) (by decide +kernel)
theorem lm_1162 : Cond.instanceMethod yX11_goesDuel ∈ lw_tbl := List.mem_of_getElem? (i := 1162) (by decide +kernel)
set_option maxRecDepth 100000 in
theorem lm_1163 : Cond.code yX11_goesDuel cX11_goesDuel 5 none ∈ lw_tbl := List.mem_of_getElem? (i := 1163) rfl
theorem lm_1164 : Cond.constantLong RX11 215 (40) ∈ lw_tbl := List.mem_of_getElem? (i := 1164) (by decide +kernel)
theorem lm_1165 : Cond.methodLink RX11 225 yX11_divisor ∈ lw_tbl := List.mem_of_getElem? (i := 1165) (by decide +kernel)
theorem lm_1166 : Cond.static yX11_divisor ∈ lw_tbl := List.mem_of_getElem? (i := 1166) (by decide +kernel)
set_option maxRecDepth 100000 in
theorem lm_1167 : Cond.code yX11_divisor cX11_divisor 10 (some .long) ∈ lw_tbl := List.mem_of_getElem? (i := 1167) rfl
theorem lm_1168 : Cond.methodLink RL 70 yX11_game ∈ lw_tbl := List.mem_of_getElem? (i := 1168) (by decide +kernel)
theorem lm_1169 : Cond.instanceMethod yX11_game ∈ lw_tbl := List.mem_of_getElem? (i := 1169) (by decide +kernel)
theorem lm_1170 : Cond.selects RX11 yX11_game yX11_game ∈ lw_tbl := List.mem_of_getElem? (i := 1170) (by decide +kernel)
set_option maxRecDepth 100000 in
theorem lm_1171 : Cond.code yX11_game cX11_game 15 (some .long) ∈ lw_tbl := List.mem_of_getElem? (i := 1171) rfl
theorem lm_1172 : Cond.methodLink RX11 229 yX11_least ∈ lw_tbl := List.mem_of_getElem? (i := 1172) (by decide +kernel)
theorem lm_1173 : Cond.static yX11_least ∈ lw_tbl := List.mem_of_getElem? (i := 1173) (by decide +kernel)
set_option maxRecDepth 100000 in
theorem lm_1174 : Cond.code yX11_least cX11_least 2 (some .int) ∈ lw_tbl := List.mem_of_getElem? (i := 1174) rfl
theorem lm_1175 : Cond.methodLink RX11 232 yX11_most ∈ lw_tbl := List.mem_of_getElem? (i := 1175) (by decide +kernel)
theorem lm_1176 : Cond.static yX11_most ∈ lw_tbl := List.mem_of_getElem? (i := 1176) (by decide +kernel)
set_option maxRecDepth 100000 in
theorem lm_1177 : Cond.code yX11_most cX11_most 2 (some .int) ∈ lw_tbl := List.mem_of_getElem? (i := 1177) rfl
theorem lm_1178 : Cond.methodLink RL 74 yX11_row ∈ lw_tbl := List.mem_of_getElem? (i := 1178) (by decide +kernel)
theorem lm_1179 : Cond.instanceMethod yX11_row ∈ lw_tbl := List.mem_of_getElem? (i := 1179) (by decide +kernel)
theorem lm_1180 : Cond.selects RX11 yX11_row yX11_row ∈ lw_tbl := List.mem_of_getElem? (i := 1180) (by decide +kernel)
set_option maxRecDepth 100000 in
theorem lm_1181 : Cond.code yX11_row cX11_row 3 (some .int) ∈ lw_tbl := List.mem_of_getElem? (i := 1181) rfl
theorem lm_1182 : Cond.methodLink RL 86 yX11_clear ∈ lw_tbl := List.mem_of_getElem? (i := 1182) (by decide +kernel)
theorem lm_1183 : Cond.instanceMethod yX11_clear ∈ lw_tbl := List.mem_of_getElem? (i := 1183) (by decide +kernel)
theorem lm_1184 : Cond.selects RX11 yX11_clear yX11_clear ∈ lw_tbl := List.mem_of_getElem? (i := 1184) (by decide +kernel)
set_option maxRecDepth 100000 in
theorem lm_1185 : Cond.code yX11_clear cX11_clear 2 (some .int) ∈ lw_tbl := List.mem_of_getElem? (i := 1185) rfl
theorem lm_1186 : Cond.methodLink RL 78 yX11_judge ∈ lw_tbl := List.mem_of_getElem? (i := 1186) (by decide +kernel)
theorem lm_1187 : Cond.instanceMethod yX11_judge ∈ lw_tbl := List.mem_of_getElem? (i := 1187) (by decide +kernel)
theorem lm_1188 : Cond.selects RX11 yX11_judge yX11_judge ∈ lw_tbl := List.mem_of_getElem? (i := 1188) (by decide +kernel)
set_option maxRecDepth 100000 in
theorem lm_1189 : Cond.code yX11_judge cX11_judge 3 (some .int) ∈ lw_tbl := List.mem_of_getElem? (i := 1189) rfl
theorem lm_1190 : Cond.methodLink RX11 238 yX11_isThrown ∈ lw_tbl := List.mem_of_getElem? (i := 1190) (by decide +kernel)
theorem lm_1192 : Cond.instanceMethod yX11_isThrown ∈ lw_tbl := List.mem_of_getElem? (i := 1192) (by decide +kernel)
set_option maxRecDepth 100000 in
theorem lm_1193 : Cond.code yX11_isThrown cX11_isThrown 5 (some .boolean) ∈ lw_tbl := List.mem_of_getElem? (i := 1193) rfl
theorem lm_1194 : Cond.methodLink RL 82 yX11_ends ∈ lw_tbl := List.mem_of_getElem? (i := 1194) (by decide +kernel)
theorem lm_1195 : Cond.instanceMethod yX11_ends ∈ lw_tbl := List.mem_of_getElem? (i := 1195) (by decide +kernel)
theorem lm_1196 : Cond.selects RX11 yX11_ends yX11_ends ∈ lw_tbl := List.mem_of_getElem? (i := 1196) (by decide +kernel)
set_option maxRecDepth 100000 in
theorem lm_1197 : Cond.code yX11_ends cX11_ends 3 (some .int) ∈ lw_tbl := List.mem_of_getElem? (i := 1197) rfl
theorem lm_1198 : Cond.methodLink RX11 241 yX11_hereBits ∈ lw_tbl := List.mem_of_getElem? (i := 1198) (by decide +kernel)
theorem lm_1200 : Cond.instanceMethod yX11_hereBits ∈ lw_tbl := List.mem_of_getElem? (i := 1200) (by decide +kernel)
set_option maxRecDepth 100000 in
theorem lm_1201 : Cond.code yX11_hereBits cX11_hereBits 3 (some .int) ∈ lw_tbl := List.mem_of_getElem? (i := 1201) rfl
theorem lm_1202 : Cond.methodLink RL 90 yX11_whose ∈ lw_tbl := List.mem_of_getElem? (i := 1202) (by decide +kernel)
theorem lm_1203 : Cond.instanceMethod yX11_whose ∈ lw_tbl := List.mem_of_getElem? (i := 1203) (by decide +kernel)
theorem lm_1204 : Cond.selects RX11 yX11_whose yX11_whose ∈ lw_tbl := List.mem_of_getElem? (i := 1204) (by decide +kernel)
set_option maxRecDepth 100000 in
theorem lm_1205 : Cond.code yX11_whose cX11_whose 5 (some .int) ∈ lw_tbl := List.mem_of_getElem? (i := 1205) rfl
theorem lm_1206 : Cond.methodLink RL 94 yX11_waits ∈ lw_tbl := List.mem_of_getElem? (i := 1206) (by decide +kernel)
theorem lm_1207 : Cond.instanceMethod yX11_waits ∈ lw_tbl := List.mem_of_getElem? (i := 1207) (by decide +kernel)
theorem lm_1208 : Cond.selects RX11 yX11_waits yX11_waits ∈ lw_tbl := List.mem_of_getElem? (i := 1208) (by decide +kernel)
set_option maxRecDepth 100000 in
theorem lm_1209 : Cond.code yX11_waits cX11_waits 7 (some .int) ∈ lw_tbl := List.mem_of_getElem? (i := 1209) rfl
theorem lm_1210 : Cond.methodLink RL 98 yX11_lots ∈ lw_tbl := List.mem_of_getElem? (i := 1210) (by decide +kernel)
theorem lm_1211 : Cond.instanceMethod yX11_lots ∈ lw_tbl := List.mem_of_getElem? (i := 1211) (by decide +kernel)
theorem lm_1212 : Cond.selects RX11 yX11_lots yX11_lots ∈ lw_tbl := List.mem_of_getElem? (i := 1212) (by decide +kernel)
set_option maxRecDepth 100000 in
theorem lm_1213 : Cond.code yX11_lots cX11_lots 5 (some .int) ∈ lw_tbl := List.mem_of_getElem? (i := 1213) rfl
theorem lm_1214 : Cond.methodLink RX11 253 yX11_goesLot ∈ lw_tbl := List.mem_of_getElem? (i := 1214) (by decide +kernel)
theorem lm_1216 : Cond.instanceMethod yX11_goesLot ∈ lw_tbl := List.mem_of_getElem? (i := 1216) (by decide +kernel)
set_option maxRecDepth 100000 in
theorem lm_1217 : Cond.code yX11_goesLot cX11_goesLot 7 none ∈ lw_tbl := List.mem_of_getElem? (i := 1217) rfl
theorem lm_1218 : Cond.methodLink RX11 250 yX11_draw ∈ lw_tbl := List.mem_of_getElem? (i := 1218) (by decide +kernel)
theorem lm_1220 : Cond.instanceMethod yX11_draw ∈ lw_tbl := List.mem_of_getElem? (i := 1220) (by decide +kernel)
set_option maxRecDepth 100000 in
theorem lm_1221 : Cond.code yX11_draw cX11_draw 2 (some .int) ∈ lw_tbl := List.mem_of_getElem? (i := 1221) rfl
theorem lm_1222 : Cond.constant RX11 247 (1664525) ∈ lw_tbl := List.mem_of_getElem? (i := 1222) (by decide +kernel)
theorem lm_1223 : Cond.constant RX11 248 (1013904223) ∈ lw_tbl := List.mem_of_getElem? (i := 1223) (by decide +kernel)
theorem lm_1224 : Cond.constant RX11 249 (2147483647) ∈ lw_tbl := List.mem_of_getElem? (i := 1224) (by decide +kernel)
theorem lm_1225 : Cond.methodLink RL 110 yX11_count ∈ lw_tbl := List.mem_of_getElem? (i := 1225) (by decide +kernel)
theorem lm_1226 : Cond.instanceMethod yX11_count ∈ lw_tbl := List.mem_of_getElem? (i := 1226) (by decide +kernel)
theorem lm_1227 : Cond.selects RX11 yX11_count yX11_count ∈ lw_tbl := List.mem_of_getElem? (i := 1227) (by decide +kernel)
set_option maxRecDepth 100000 in
theorem lm_1228 : Cond.code yX11_count cX11_count 2 (some .int) ∈ lw_tbl := List.mem_of_getElem? (i := 1228) rfl
theorem lm_1229 : Cond.methodLink RX11 256 yX11_lying ∈ lw_tbl := List.mem_of_getElem? (i := 1229) (by decide +kernel)
theorem lm_1231 : Cond.instanceMethod yX11_lying ∈ lw_tbl := List.mem_of_getElem? (i := 1231) (by decide +kernel)
set_option maxRecDepth 100000 in
theorem lm_1232 : Cond.code yX11_lying cX11_lying 4 (some .int) ∈ lw_tbl := List.mem_of_getElem? (i := 1232) rfl
theorem lm_1233 : Cond.sameMethod "BallsAtDodger$Quick" "BallsAtDodger$Quick" "dodge" "(Z)I" ∈ lw_tbl := List.mem_of_getElem? (i := 1233) (by decide +kernel)
theorem lm_1234 : Cond.sameMethod "BallsAtDodger$Catcher" "BallsAtDodger$Catcher" "grasp" "(Z)I" ∈ lw_tbl := List.mem_of_getElem? (i := 1234) (by decide +kernel)
theorem lm_1240 : Cond.fieldLink RJ0 9 "java/lang/String" "value" "[B" ∈ lw_tbl := List.mem_of_getElem? (i := 1240) (by decide +kernel)
theorem lm_1241 : Cond.fieldLink RJ0 15 "java/lang/String" "coder" "B" ∈ lw_tbl := List.mem_of_getElem? (i := 1241) (by decide +kernel)
