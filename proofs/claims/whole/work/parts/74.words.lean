/-! the words among the tables (written by wip/gen/words.py) -/
set_option maxRecDepth 20000 in
theorem wi_0 : Cond.code yX10_init cX10_init 1 none ∈ lw_tbl := List.mem_append_right _ (List.mem_append_left _ (List.mem_of_getElem? (i := 19) rfl))
set_option maxRecDepth 20000 in
theorem wi_1 : Cond.classLink RX10 44 RX4 ∈ lw_tbl := List.mem_append_right _ (List.mem_append_left _ (List.mem_of_getElem? (i := 158) rfl))
set_option maxRecDepth 20000 in
theorem wi_2 : Cond.fieldLink RX10 40 "StillText" "setting" "LStillText$Setting;" ∈ lw_tbl := List.mem_append_right _ (List.mem_append_right _ (List.mem_append_left _ (List.mem_of_getElem? (i := 12) rfl)))
set_option maxRecDepth 20000 in
theorem wi_3 : Cond.initialized RX5 ∈ lw_tbl := List.mem_append_right _ (List.mem_append_left _ (List.mem_of_getElem? (i := 6) rfl))
set_option maxRecDepth 20000 in
theorem wi_4 : Cond.instantiable RX5 6 ∈ lw_tbl := List.mem_append_right _ (List.mem_append_left _ (List.mem_of_getElem? (i := 106) rfl))
set_option maxRecDepth 20000 in
theorem wi_5 : Cond.classLink RX10 37 RX5 ∈ lw_tbl := List.mem_append_right _ (List.mem_append_left _ (List.mem_of_getElem? (i := 105) rfl))
set_option maxRecDepth 20000 in
theorem wi_6 : Cond.fieldLink RX10 33 "StillText" "measures" "LStillText$Measures;" ∈ lw_tbl := List.mem_append_right _ (List.mem_append_right _ (List.mem_append_left _ (List.mem_of_getElem? (i := 11) rfl)))
set_option maxRecDepth 20000 in
theorem wi_7 : Cond.initialized RX1 ∈ lw_tbl := List.mem_append_right _ (List.mem_append_left _ (List.mem_of_getElem? (i := 5) rfl))
set_option maxRecDepth 20000 in
theorem wi_8 : Cond.instantiable RX1 7 ∈ lw_tbl := List.mem_append_right _ (List.mem_append_left _ (List.mem_of_getElem? (i := 75) rfl))
set_option maxRecDepth 20000 in
theorem wi_9 : Cond.classLink RX10 30 RX1 ∈ lw_tbl := List.mem_append_right _ (List.mem_append_left _ (List.mem_of_getElem? (i := 74) rfl))
set_option maxRecDepth 20000 in
theorem wi_10 : Cond.fieldLink RX10 26 "StillText" "units" "LStillText$Units;" ∈ lw_tbl := List.mem_append_right _ (List.mem_append_right _ (List.mem_append_left _ (List.mem_of_getElem? (i := 10) rfl)))
set_option maxRecDepth 20000 in
theorem wi_11 : Cond.initialized RX9 ∈ lw_tbl := List.mem_append_right _ (List.mem_append_left _ (List.mem_of_getElem? (i := 4) rfl))
set_option maxRecDepth 20000 in
theorem wi_12 : Cond.instantiable RX9 4 ∈ lw_tbl := List.mem_append_right _ (List.mem_append_left _ (List.mem_of_getElem? (i := 44) rfl))
set_option maxRecDepth 20000 in
theorem wi_13 : Cond.classLink RX10 23 RX9 ∈ lw_tbl := List.mem_append_right _ (List.mem_append_left _ (List.mem_of_getElem? (i := 72) rfl))
set_option maxRecDepth 20000 in
theorem wi_14 : Cond.fieldLink RX10 19 "StillText" "reading" "LStillText$Reading;" ∈ lw_tbl := List.mem_append_right _ (List.mem_append_right _ (List.mem_append_left _ (List.mem_of_getElem? (i := 9) rfl)))
set_option maxRecDepth 20000 in
theorem wi_15 : Cond.initialized RX3 ∈ lw_tbl := List.mem_append_right _ (List.mem_append_left _ (List.mem_of_getElem? (i := 3) rfl))
set_option maxRecDepth 20000 in
theorem wi_16 : Cond.instantiable RX3 3 ∈ lw_tbl := List.mem_append_right _ (List.mem_append_left _ (List.mem_of_getElem? (i := 38) rfl))
set_option maxRecDepth 20000 in
theorem wi_17 : Cond.classLink RX10 16 RX3 ∈ lw_tbl := List.mem_append_right _ (List.mem_append_left _ (List.mem_of_getElem? (i := 37) rfl))
set_option maxRecDepth 20000 in
theorem wi_18 : Cond.fieldLink RX10 10 "StillText" "tape" "LStillText$Tape;" ∈ lw_tbl := List.mem_append_right _ (List.mem_append_right _ (List.mem_append_left _ (List.mem_of_getElem? (i := 8) rfl)))
set_option maxRecDepth 20000 in
theorem wi_19 : Cond.initialized RX7 ∈ lw_tbl := List.mem_append_right _ (List.mem_append_left _ (List.mem_of_getElem? (i := 2) rfl))
set_option maxRecDepth 20000 in
theorem wi_20 : Cond.instantiable RX7 2 ∈ lw_tbl := List.mem_append_right _ (List.mem_append_left _ (List.mem_of_getElem? (i := 24) rfl))
set_option maxRecDepth 20000 in
theorem wi_21 : Cond.classLink RX10 7 RX7 ∈ lw_tbl := List.mem_append_right _ (List.mem_append_left _ (List.mem_of_getElem? (i := 23) rfl))
set_option maxRecDepth 20000 in
theorem wi_22 : Cond.code objectInit ⟨#[0xb1]⟩ 1 none ∈ lw_tbl := List.mem_append_right _ (List.mem_append_left _ (List.mem_of_getElem? (i := 22) rfl))
set_option maxRecDepth 20000 in
theorem wi_23 : Cond.instanceMethod objectInit ∈ lw_tbl := List.mem_append_right _ (List.mem_append_left _ (List.mem_of_getElem? (i := 21) rfl))
set_option maxRecDepth 20000 in
theorem wi_24 : Cond.methodLink RX10 1 objectInit ∈ lw_tbl := List.mem_append_right _ (List.mem_append_left _ (List.mem_of_getElem? (i := 20) rfl))
set_option maxRecDepth 20000 in
theorem wi_25 : Cond.classLink RX3 9 RX9 ∈ lw_tbl := List.mem_append_right _ (List.mem_append_left _ (List.mem_of_getElem? (i := 43) rfl))
set_option maxRecDepth 20000 in
theorem wi_26 : Cond.methodLink RX3 3 objectInit ∈ lw_tbl := List.mem_append_right _ (List.mem_append_left _ (List.mem_of_getElem? (i := 42) rfl))
set_option maxRecDepth 20000 in
theorem wi_27 : Cond.code yX3_init cX3_init 1 none ∈ lw_tbl := List.mem_append_right _ (List.mem_append_left _ (List.mem_of_getElem? (i := 41) rfl))
set_option maxRecDepth 20000 in
theorem wi_28 : Cond.instanceMethod yX3_init ∈ lw_tbl := List.mem_append_right _ (List.mem_append_left _ (List.mem_of_getElem? (i := 40) rfl))
set_option maxRecDepth 20000 in
theorem wi_29 : Cond.fieldLink RX7 9 "StillText$Tape" "bytes" "[I" ∈ lw_tbl := List.mem_append_right _ (List.mem_append_left _ (List.mem_of_getElem? (i := 29) rfl))
set_option maxRecDepth 20000 in
theorem wi_30 : Cond.arrayClass .int ∈ lw_tbl := List.mem_append_right _ (List.mem_append_left _ (List.mem_of_getElem? (i := 36) rfl))
set_option maxRecDepth 20000 in
theorem wi_31 : Cond.methodLink RX7 3 objectInit ∈ lw_tbl := List.mem_append_right _ (List.mem_append_left _ (List.mem_of_getElem? (i := 28) rfl))
set_option maxRecDepth 20000 in
theorem wi_32 : Cond.code yX7_init cX7_init 1 none ∈ lw_tbl := List.mem_append_right _ (List.mem_append_left _ (List.mem_of_getElem? (i := 27) rfl))
set_option maxRecDepth 20000 in
theorem wi_33 : Cond.instanceMethod yX7_init ∈ lw_tbl := List.mem_append_right _ (List.mem_append_left _ (List.mem_of_getElem? (i := 26) rfl))
set_option maxRecDepth 20000 in
theorem wi_34 : Cond.fieldLink RX10 74 "StillText" "trials" "LStillText$Trials;" ∈ lw_tbl := List.mem_append_right _ (List.mem_append_right _ (List.mem_append_left _ (List.mem_of_getElem? (i := 16) rfl)))
set_option maxRecDepth 20000 in
theorem wi_35 : Cond.initialized RX8 ∈ lw_tbl := List.mem_append_right _ (List.mem_append_left _ (List.mem_of_getElem? (i := 11) rfl))
set_option maxRecDepth 20000 in
theorem wi_36 : Cond.instantiable RX8 9 ∈ lw_tbl := List.mem_append_right _ (List.mem_append_left _ (List.mem_of_getElem? (i := 214) rfl))
set_option maxRecDepth 20000 in
theorem wi_37 : Cond.classLink RX10 71 RX8 ∈ lw_tbl := List.mem_append_right _ (List.mem_append_left _ (List.mem_of_getElem? (i := 213) rfl))
set_option maxRecDepth 20000 in
theorem wi_38 : Cond.fieldLink RX10 67 "StillText" "marks" "LStillText$Marks;" ∈ lw_tbl := List.mem_append_right _ (List.mem_append_right _ (List.mem_append_left _ (List.mem_of_getElem? (i := 15) rfl)))
set_option maxRecDepth 20000 in
theorem wi_39 : Cond.initialized RX0 ∈ lw_tbl := List.mem_append_right _ (List.mem_append_left _ (List.mem_of_getElem? (i := 10) rfl))
set_option maxRecDepth 20000 in
theorem wi_40 : Cond.instantiable RX0 3 ∈ lw_tbl := List.mem_append_right _ (List.mem_append_left _ (List.mem_of_getElem? (i := 198) rfl))
set_option maxRecDepth 20000 in
theorem wi_41 : Cond.classLink RX10 64 RX0 ∈ lw_tbl := List.mem_append_right _ (List.mem_append_left _ (List.mem_of_getElem? (i := 197) rfl))
set_option maxRecDepth 20000 in
theorem wi_42 : Cond.fieldLink RX10 60 "StillText" "pages" "LStillText$Pages;" ∈ lw_tbl := List.mem_append_right _ (List.mem_append_right _ (List.mem_append_left _ (List.mem_of_getElem? (i := 14) rfl)))
set_option maxRecDepth 20000 in
theorem wi_43 : Cond.initialized RX2 ∈ lw_tbl := List.mem_append_right _ (List.mem_append_left _ (List.mem_of_getElem? (i := 9) rfl))
set_option maxRecDepth 20000 in
theorem wi_44 : Cond.instantiable RX2 2 ∈ lw_tbl := List.mem_append_right _ (List.mem_append_left _ (List.mem_of_getElem? (i := 185) rfl))
set_option maxRecDepth 20000 in
theorem wi_45 : Cond.classLink RX10 57 RX2 ∈ lw_tbl := List.mem_append_right _ (List.mem_append_left _ (List.mem_of_getElem? (i := 184) rfl))
set_option maxRecDepth 20000 in
theorem wi_46 : Cond.fieldLink RX10 53 "StillText" "setter" "LStillText$Setter;" ∈ lw_tbl := List.mem_append_right _ (List.mem_append_right _ (List.mem_append_left _ (List.mem_of_getElem? (i := 13) rfl)))
set_option maxRecDepth 20000 in
theorem wi_47 : Cond.initialized RX4 ∈ lw_tbl := List.mem_append_right _ (List.mem_append_left _ (List.mem_of_getElem? (i := 8) rfl))
set_option maxRecDepth 20000 in
theorem wi_48 : Cond.instantiable RX4 5 ∈ lw_tbl := List.mem_append_right _ (List.mem_append_left _ (List.mem_of_getElem? (i := 159) rfl))
set_option maxRecDepth 20000 in
theorem wi_49 : Cond.instanceMethod yX5_init ∈ lw_tbl := List.mem_append_right _ (List.mem_append_left _ (List.mem_of_getElem? (i := 108) rfl))
set_option maxRecDepth 20000 in
theorem wi_50 : Cond.code yX1_pair cX1_pair 2 (some .int) ∈ lw_tbl := List.mem_append_right _ (List.mem_append_left _ (List.mem_of_getElem? (i := 82) rfl))
set_option maxRecDepth 20000 in
theorem wi_51 : Cond.static yX1_pair ∈ lw_tbl := List.mem_append_right _ (List.mem_append_left _ (List.mem_of_getElem? (i := 81) rfl))
set_option maxRecDepth 20000 in
theorem wi_52 : Cond.methodLink RX1 34 yX1_pair ∈ lw_tbl := List.mem_append_right _ (List.mem_append_left _ (List.mem_of_getElem? (i := 80) rfl))
set_option maxRecDepth 20000 in
theorem wi_53 : Cond.fieldLink RX1 30 "StillText$Measures" "places" "[I" ∈ lw_tbl := List.mem_append_right _ (List.mem_append_left _ (List.mem_of_getElem? (i := 89) rfl))
set_option maxRecDepth 20000 in
theorem wi_54 : Cond.fieldLink RX1 27 "StillText$Measures" "cut" "I" ∈ lw_tbl := List.mem_append_right _ (List.mem_append_left _ (List.mem_of_getElem? (i := 88) rfl))
set_option maxRecDepth 20000 in
theorem wi_55 : Cond.fieldLink RX1 24 "StillText$Measures" "inner" "I" ∈ lw_tbl := List.mem_append_right _ (List.mem_append_left _ (List.mem_of_getElem? (i := 87) rfl))
set_option maxRecDepth 20000 in
theorem wi_56 : Cond.fieldLink RX1 21 "StillText$Measures" "phrase" "I" ∈ lw_tbl := List.mem_append_right _ (List.mem_append_left _ (List.mem_of_getElem? (i := 86) rfl))
set_option maxRecDepth 20000 in
theorem wi_57 : Cond.fieldLink RX1 18 "StillText$Measures" "shortest" "I" ∈ lw_tbl := List.mem_append_right _ (List.mem_append_left _ (List.mem_of_getElem? (i := 85) rfl))
set_option maxRecDepth 20000 in
theorem wi_58 : Cond.fieldLink RX1 15 "StillText$Measures" "spread" "I" ∈ lw_tbl := List.mem_append_right _ (List.mem_append_left _ (List.mem_of_getElem? (i := 84) rfl))
set_option maxRecDepth 20000 in
theorem wi_59 : Cond.fieldLink RX1 9 "StillText$Measures" "longest" "I" ∈ lw_tbl := List.mem_append_right _ (List.mem_append_left _ (List.mem_of_getElem? (i := 83) rfl))
set_option maxRecDepth 20000 in
theorem wi_60 : Cond.methodLink RX1 3 objectInit ∈ lw_tbl := List.mem_append_right _ (List.mem_append_left _ (List.mem_of_getElem? (i := 79) rfl))
set_option maxRecDepth 20000 in
theorem wi_61 : Cond.code yX1_init cX1_init 1 none ∈ lw_tbl := List.mem_append_right _ (List.mem_append_left _ (List.mem_of_getElem? (i := 78) rfl))
set_option maxRecDepth 20000 in
theorem wi_62 : Cond.instanceMethod yX1_init ∈ lw_tbl := List.mem_append_right _ (List.mem_append_left _ (List.mem_of_getElem? (i := 77) rfl))
set_option maxRecDepth 20000 in
theorem wi_63 : Cond.methodLink RX10 32 yX1_init ∈ lw_tbl := List.mem_append_right _ (List.mem_append_left _ (List.mem_of_getElem? (i := 76) rfl))
set_option maxRecDepth 20000 in
theorem wi_64 : Cond.fieldLink RX9 18 "StillText$Units" "behind" "[I" ∈ lw_tbl := List.mem_append_right _ (List.mem_append_left _ (List.mem_of_getElem? (i := 51) rfl))
set_option maxRecDepth 20000 in
theorem wi_65 : Cond.fieldLink RX9 15 "StillText$Units" "sizes" "[I" ∈ lw_tbl := List.mem_append_right _ (List.mem_append_left _ (List.mem_of_getElem? (i := 50) rfl))
set_option maxRecDepth 20000 in
theorem wi_66 : Cond.fieldLink RX9 9 "StillText$Units" "letters" "[I" ∈ lw_tbl := List.mem_append_right _ (List.mem_append_left _ (List.mem_of_getElem? (i := 49) rfl))
set_option maxRecDepth 20000 in
theorem wi_67 : Cond.methodLink RX9 3 objectInit ∈ lw_tbl := List.mem_append_right _ (List.mem_append_left _ (List.mem_of_getElem? (i := 48) rfl))
set_option maxRecDepth 20000 in
theorem wi_68 : Cond.code yX9_init cX9_init 1 none ∈ lw_tbl := List.mem_append_right _ (List.mem_append_left _ (List.mem_of_getElem? (i := 47) rfl))
set_option maxRecDepth 20000 in
theorem wi_69 : Cond.instanceMethod yX9_init ∈ lw_tbl := List.mem_append_right _ (List.mem_append_left _ (List.mem_of_getElem? (i := 46) rfl))
set_option maxRecDepth 20000 in
theorem wi_70 : Cond.fieldLink RX3 22 "StillText$Reading" "place" "I" ∈ lw_tbl := List.mem_append_right _ (List.mem_append_left _ (List.mem_of_getElem? (i := 64) rfl))
set_option maxRecDepth 20000 in
theorem wi_71 : Cond.fieldLink RX3 18 "StillText$Reading" "kind" "I" ∈ lw_tbl := List.mem_append_right _ (List.mem_append_left _ (List.mem_of_getElem? (i := 63) rfl))
set_option maxRecDepth 20000 in
theorem wi_72 : Cond.fieldLink RX3 12 "StillText$Reading" "units" "LStillText$Units;" ∈ lw_tbl := List.mem_append_right _ (List.mem_append_left _ (List.mem_of_getElem? (i := 62) rfl))
set_option maxRecDepth 20000 in
theorem wi_73 : Cond.methodLink RX4 3 objectInit ∈ lw_tbl := List.mem_append_right _ (List.mem_append_left _ (List.mem_of_getElem? (i := 167) rfl))
set_option maxRecDepth 20000 in
theorem wi_74 : Cond.code yX4_init cX4_init 3 none ∈ lw_tbl := List.mem_append_right _ (List.mem_append_left _ (List.mem_of_getElem? (i := 166) rfl))
set_option maxRecDepth 20000 in
theorem wi_75 : Cond.instanceMethod yX4_init ∈ lw_tbl := List.mem_append_right _ (List.mem_append_left _ (List.mem_of_getElem? (i := 165) rfl))
set_option maxRecDepth 20000 in
theorem wi_76 : Cond.methodLink RX10 50 yX4_init ∈ lw_tbl := List.mem_append_right _ (List.mem_append_left _ (List.mem_of_getElem? (i := 164) rfl))
set_option maxRecDepth 20000 in
theorem wi_77 : Cond.code yX5_strip cX5_strip 1 (some (.object "StillText$Strip")) ∈ lw_tbl := List.mem_append_right _ (List.mem_append_left _ (List.mem_of_getElem? (i := 163) rfl))
set_option maxRecDepth 20000 in
theorem wi_78 : Cond.selects RX5 yX5_strip yX5_strip ∈ lw_tbl := List.mem_append_right _ (List.mem_append_left _ (List.mem_of_getElem? (i := 162) rfl))
set_option maxRecDepth 20000 in
theorem wi_79 : Cond.instanceMethod yX5_strip ∈ lw_tbl := List.mem_append_right _ (List.mem_append_left _ (List.mem_of_getElem? (i := 161) rfl))
set_option maxRecDepth 20000 in
theorem wi_80 : Cond.methodLink RX10 46 yX5_strip ∈ lw_tbl := List.mem_append_right _ (List.mem_append_left _ (List.mem_of_getElem? (i := 160) rfl))
set_option maxRecDepth 20000 in
theorem wi_81 : Cond.fieldLink RX6 24 "StillText$Strip" "behind" "[I" ∈ lw_tbl := List.mem_append_right _ (List.mem_append_left _ (List.mem_of_getElem? (i := 121) rfl))
set_option maxRecDepth 20000 in
theorem wi_82 : Cond.fieldLink RX6 21 "StillText$Strip" "ends" "[I" ∈ lw_tbl := List.mem_append_right _ (List.mem_append_left _ (List.mem_of_getElem? (i := 120) rfl))
set_option maxRecDepth 20000 in
theorem wi_83 : Cond.fieldLink RX6 18 "StillText$Strip" "begins" "[I" ∈ lw_tbl := List.mem_append_right _ (List.mem_append_left _ (List.mem_of_getElem? (i := 119) rfl))
set_option maxRecDepth 20000 in
theorem wi_84 : Cond.fieldLink RX6 15 "StillText$Strip" "kinds" "[I" ∈ lw_tbl := List.mem_append_right _ (List.mem_append_left _ (List.mem_of_getElem? (i := 118) rfl))
set_option maxRecDepth 20000 in
theorem wi_85 : Cond.fieldLink RX6 11 "StillText$Strip" "signs" "[I" ∈ lw_tbl := List.mem_append_right _ (List.mem_append_left _ (List.mem_of_getElem? (i := 117) rfl))
set_option maxRecDepth 20000 in
theorem wi_86 : Cond.methodLink RX6 3 objectInit ∈ lw_tbl := List.mem_append_right _ (List.mem_append_left _ (List.mem_of_getElem? (i := 116) rfl))
set_option maxRecDepth 20000 in
theorem wi_87 : Cond.code yX6_init cX6_init 1 none ∈ lw_tbl := List.mem_append_right _ (List.mem_append_left _ (List.mem_of_getElem? (i := 115) rfl))
set_option maxRecDepth 20000 in
theorem wi_88 : Cond.instanceMethod yX6_init ∈ lw_tbl := List.mem_append_right _ (List.mem_append_left _ (List.mem_of_getElem? (i := 114) rfl))
set_option maxRecDepth 20000 in
theorem wi_89 : Cond.fieldLink RX5 22 "StillText$Setting" "manys" "[I" ∈ lw_tbl := List.mem_append_right _ (List.mem_append_left _ (List.mem_of_getElem? (i := 141) rfl))
set_option maxRecDepth 20000 in
theorem wi_90 : Cond.fieldLink RX5 18 "StillText$Setting" "firsts" "[I" ∈ lw_tbl := List.mem_append_right _ (List.mem_append_left _ (List.mem_of_getElem? (i := 140) rfl))
set_option maxRecDepth 20000 in
theorem wi_91 : Cond.fieldLink RX5 12 "StillText$Setting" "strip" "LStillText$Strip;" ∈ lw_tbl := List.mem_append_right _ (List.mem_append_left _ (List.mem_of_getElem? (i := 139) rfl))
set_option maxRecDepth 20000 in
theorem wi_92 : Cond.initialized RX6 ∈ lw_tbl := List.mem_append_right _ (List.mem_append_left _ (List.mem_of_getElem? (i := 7) rfl))
set_option maxRecDepth 20000 in
theorem wi_93 : Cond.instantiable RX6 7 ∈ lw_tbl := List.mem_append_right _ (List.mem_append_left _ (List.mem_of_getElem? (i := 112) rfl))
set_option maxRecDepth 20000 in
theorem wi_94 : Cond.classLink RX5 9 RX6 ∈ lw_tbl := List.mem_append_right _ (List.mem_append_left _ (List.mem_of_getElem? (i := 111) rfl))
set_option maxRecDepth 20000 in
theorem wi_95 : Cond.methodLink RX5 3 objectInit ∈ lw_tbl := List.mem_append_right _ (List.mem_append_left _ (List.mem_of_getElem? (i := 110) rfl))
set_option maxRecDepth 20000 in
theorem wi_96 : Cond.code yX5_init cX5_init 1 none ∈ lw_tbl := List.mem_append_right _ (List.mem_append_left _ (List.mem_of_getElem? (i := 109) rfl))
set_option maxRecDepth 20000 in
theorem wi_97 : Cond.fieldLink RX8 19 "StillText$Trials" "way" "I" ∈ lw_tbl := List.mem_append_right _ (List.mem_append_left _ (List.mem_of_getElem? (i := 224) rfl))
set_option maxRecDepth 20000 in
theorem wi_98 : Cond.fieldLink RX8 15 "StillText$Trials" "lead" "I" ∈ lw_tbl := List.mem_append_right _ (List.mem_append_left _ (List.mem_of_getElem? (i := 223) rfl))
set_option maxRecDepth 20000 in
theorem wi_99 : Cond.fieldLink RX8 11 "StillText$Trials" "beaten" "[Z" ∈ lw_tbl := List.mem_append_right _ (List.mem_append_left _ (List.mem_of_getElem? (i := 219) rfl))
set_option maxRecDepth 20000 in
theorem wi_100 : Cond.arrayClass .boolean ∈ lw_tbl := List.mem_append_right _ (List.mem_append_right _ (List.mem_append_left _ (List.mem_of_getElem? (i := 7) rfl)))
set_option maxRecDepth 20000 in
theorem wi_101 : Cond.methodLink RX8 3 objectInit ∈ lw_tbl := List.mem_append_right _ (List.mem_append_left _ (List.mem_of_getElem? (i := 218) rfl))
set_option maxRecDepth 20000 in
theorem wi_102 : Cond.code yX8_init cX8_init 1 none ∈ lw_tbl := List.mem_append_right _ (List.mem_append_left _ (List.mem_of_getElem? (i := 217) rfl))
set_option maxRecDepth 20000 in
theorem wi_103 : Cond.instanceMethod yX8_init ∈ lw_tbl := List.mem_append_right _ (List.mem_append_left _ (List.mem_of_getElem? (i := 216) rfl))
set_option maxRecDepth 20000 in
theorem wi_104 : Cond.fieldLink RX0 15 "StillText$Marks" "kept" "[I" ∈ lw_tbl := List.mem_append_right _ (List.mem_append_left _ (List.mem_of_getElem? (i := 204) rfl))
set_option maxRecDepth 20000 in
theorem wi_105 : Cond.fieldLink RX0 9 "StillText$Marks" "units" "[I" ∈ lw_tbl := List.mem_append_right _ (List.mem_append_left _ (List.mem_of_getElem? (i := 203) rfl))
set_option maxRecDepth 20000 in
theorem wi_106 : Cond.methodLink RX0 3 objectInit ∈ lw_tbl := List.mem_append_right _ (List.mem_append_left _ (List.mem_of_getElem? (i := 202) rfl))
set_option maxRecDepth 20000 in
theorem wi_107 : Cond.code yX0_init cX0_init 1 none ∈ lw_tbl := List.mem_append_right _ (List.mem_append_left _ (List.mem_of_getElem? (i := 201) rfl))
set_option maxRecDepth 20000 in
theorem wi_108 : Cond.instanceMethod yX0_init ∈ lw_tbl := List.mem_append_right _ (List.mem_append_left _ (List.mem_of_getElem? (i := 200) rfl))
set_option maxRecDepth 20000 in
theorem wi_109 : Cond.fieldLink RX2 13 "StillText$Pages" "tints" "I" ∈ lw_tbl := List.mem_append_right _ (List.mem_append_left _ (List.mem_of_getElem? (i := 191) rfl))
set_option maxRecDepth 20000 in
theorem wi_110 : Cond.fieldLink RX2 7 "StillText$Pages" "rows" "I" ∈ lw_tbl := List.mem_append_right _ (List.mem_append_left _ (List.mem_of_getElem? (i := 190) rfl))
set_option maxRecDepth 20000 in
theorem wi_111 : Cond.methodLink RX2 1 objectInit ∈ lw_tbl := List.mem_append_right _ (List.mem_append_left _ (List.mem_of_getElem? (i := 189) rfl))
set_option maxRecDepth 20000 in
theorem wi_112 : Cond.code yX2_init cX2_init 1 none ∈ lw_tbl := List.mem_append_right _ (List.mem_append_left _ (List.mem_of_getElem? (i := 188) rfl))
set_option maxRecDepth 20000 in
theorem wi_113 : Cond.instanceMethod yX2_init ∈ lw_tbl := List.mem_append_right _ (List.mem_append_left _ (List.mem_of_getElem? (i := 187) rfl))
set_option maxRecDepth 20000 in
theorem wi_114 : Cond.fieldLink RX4 22 "StillText$Setter" "measures" "LStillText$Measures;" ∈ lw_tbl := List.mem_append_right _ (List.mem_append_left _ (List.mem_of_getElem? (i := 169) rfl))
set_option maxRecDepth 20000 in
theorem wi_115 : Cond.fieldLink RX4 18 "StillText$Setter" "strip" "LStillText$Strip;" ∈ lw_tbl := List.mem_append_right _ (List.mem_append_left _ (List.mem_of_getElem? (i := 168) rfl))
set_option maxRecDepth 20000 in
theorem wi_116 : Cond.fieldLink RX4 15 "StillText$Setter" "least" "[I" ∈ lw_tbl := List.mem_append_right _ (List.mem_append_left _ (List.mem_of_getElem? (i := 171) rfl))
set_option maxRecDepth 20000 in
theorem wi_117 : Cond.fieldLink RX4 9 "StillText$Setter" "most" "[I" ∈ lw_tbl := List.mem_append_right _ (List.mem_append_left _ (List.mem_of_getElem? (i := 170) rfl))
set_option maxRecDepth 20000 in
theorem wi_118 : Cond.lays RX7 "StillText$Tape" "length" "I" ∈ lw_tbl := List.mem_append_right _ (List.mem_append_left _ (List.mem_of_getElem? (i := 33) rfl))
set_option maxRecDepth 20000 in
theorem wi_119 : Cond.laysFinal RX7 "StillText$Tape" "bytes" "[I" ∈ lw_tbl := List.mem_append_right _ (List.mem_append_left _ (List.mem_of_getElem? (i := 31) rfl))
set_option maxRecDepth 20000 in
theorem iX7 : ∀ w ∈ wsX70, w ∈ lw_tbl := List.forall_mem_cons.mpr ⟨wi_119, List.forall_mem_cons.mpr ⟨wi_118, fun _ h => absurd h List.not_mem_nil⟩⟩
set_option maxRecDepth 20000 in
theorem wi_121 : Cond.laysFinal RX10 "StillText" "trials" "LStillText$Trials;" ∈ lw_tbl := List.mem_append_right _ (List.mem_append_right _ (List.mem_append_left _ (List.mem_of_getElem? (i := 33) rfl)))
set_option maxRecDepth 20000 in
theorem wi_122 : Cond.laysFinal RX10 "StillText" "marks" "LStillText$Marks;" ∈ lw_tbl := List.mem_append_right _ (List.mem_append_right _ (List.mem_append_left _ (List.mem_of_getElem? (i := 31) rfl)))
set_option maxRecDepth 20000 in
theorem wi_123 : Cond.laysFinal RX10 "StillText" "pages" "LStillText$Pages;" ∈ lw_tbl := List.mem_append_right _ (List.mem_append_right _ (List.mem_append_left _ (List.mem_of_getElem? (i := 29) rfl)))
set_option maxRecDepth 20000 in
theorem wi_124 : Cond.laysFinal RX10 "StillText" "setter" "LStillText$Setter;" ∈ lw_tbl := List.mem_append_right _ (List.mem_append_right _ (List.mem_append_left _ (List.mem_of_getElem? (i := 27) rfl)))
set_option maxRecDepth 20000 in
theorem wi_125 : Cond.laysFinal RX10 "StillText" "setting" "LStillText$Setting;" ∈ lw_tbl := List.mem_append_right _ (List.mem_append_right _ (List.mem_append_left _ (List.mem_of_getElem? (i := 25) rfl)))
set_option maxRecDepth 20000 in
theorem wi_126 : Cond.laysFinal RX10 "StillText" "measures" "LStillText$Measures;" ∈ lw_tbl := List.mem_append_right _ (List.mem_append_right _ (List.mem_append_left _ (List.mem_of_getElem? (i := 23) rfl)))
set_option maxRecDepth 20000 in
theorem wi_127 : Cond.laysFinal RX10 "StillText" "units" "LStillText$Units;" ∈ lw_tbl := List.mem_append_right _ (List.mem_append_right _ (List.mem_append_left _ (List.mem_of_getElem? (i := 21) rfl)))
set_option maxRecDepth 20000 in
theorem wi_128 : Cond.laysFinal RX10 "StillText" "reading" "LStillText$Reading;" ∈ lw_tbl := List.mem_append_right _ (List.mem_append_right _ (List.mem_append_left _ (List.mem_of_getElem? (i := 19) rfl)))
set_option maxRecDepth 20000 in
theorem wi_129 : Cond.laysFinal RX10 "StillText" "tape" "LStillText$Tape;" ∈ lw_tbl := List.mem_append_right _ (List.mem_append_right _ (List.mem_append_left _ (List.mem_of_getElem? (i := 17) rfl)))
set_option maxRecDepth 20000 in
theorem iX10 : ∀ w ∈ wsX100, w ∈ lw_tbl := List.forall_mem_cons.mpr ⟨wi_129, List.forall_mem_cons.mpr ⟨wi_128, List.forall_mem_cons.mpr ⟨wi_127, List.forall_mem_cons.mpr ⟨wi_126, List.forall_mem_cons.mpr ⟨wi_125, List.forall_mem_cons.mpr ⟨wi_124, List.forall_mem_cons.mpr ⟨wi_123, List.forall_mem_cons.mpr ⟨wi_122, List.forall_mem_cons.mpr ⟨wi_121, fun _ h => absurd h List.not_mem_nil⟩⟩⟩⟩⟩⟩⟩⟩⟩
set_option maxRecDepth 20000 in
theorem wi_131 : Cond.lays RX3 "StillText$Reading" "place" "I" ∈ lw_tbl := List.mem_append_right _ (List.mem_append_left _ (List.mem_of_getElem? (i := 69) rfl))
set_option maxRecDepth 20000 in
theorem wi_132 : Cond.lays RX3 "StillText$Reading" "kind" "I" ∈ lw_tbl := List.mem_append_right _ (List.mem_append_left _ (List.mem_of_getElem? (i := 67) rfl))
set_option maxRecDepth 20000 in
theorem wi_133 : Cond.laysFinal RX3 "StillText$Reading" "units" "LStillText$Units;" ∈ lw_tbl := List.mem_append_right _ (List.mem_append_left _ (List.mem_of_getElem? (i := 65) rfl))
set_option maxRecDepth 20000 in
theorem iX3 : ∀ w ∈ wsX30, w ∈ lw_tbl := List.forall_mem_cons.mpr ⟨wi_133, List.forall_mem_cons.mpr ⟨wi_132, List.forall_mem_cons.mpr ⟨wi_131, fun _ h => absurd h List.not_mem_nil⟩⟩⟩
set_option maxRecDepth 20000 in
theorem wi_135 : Cond.lays RX9 "StillText$Units" "count" "I" ∈ lw_tbl := List.mem_append_right _ (List.mem_append_left _ (List.mem_of_getElem? (i := 59) rfl))
set_option maxRecDepth 20000 in
theorem wi_136 : Cond.laysFinal RX9 "StillText$Units" "behind" "[I" ∈ lw_tbl := List.mem_append_right _ (List.mem_append_left _ (List.mem_of_getElem? (i := 57) rfl))
set_option maxRecDepth 20000 in
theorem wi_137 : Cond.laysFinal RX9 "StillText$Units" "sizes" "[I" ∈ lw_tbl := List.mem_append_right _ (List.mem_append_left _ (List.mem_of_getElem? (i := 55) rfl))
set_option maxRecDepth 20000 in
theorem wi_138 : Cond.laysFinal RX9 "StillText$Units" "letters" "[I" ∈ lw_tbl := List.mem_append_right _ (List.mem_append_left _ (List.mem_of_getElem? (i := 53) rfl))
set_option maxRecDepth 20000 in
theorem iX9 : ∀ w ∈ wsX90, w ∈ lw_tbl := List.forall_mem_cons.mpr ⟨wi_138, List.forall_mem_cons.mpr ⟨wi_137, List.forall_mem_cons.mpr ⟨wi_136, List.forall_mem_cons.mpr ⟨wi_135, fun _ h => absurd h List.not_mem_nil⟩⟩⟩⟩
set_option maxRecDepth 20000 in
theorem wi_140 : Cond.laysFinal RX1 "StillText$Measures" "places" "[I" ∈ lw_tbl := List.mem_append_right _ (List.mem_append_left _ (List.mem_of_getElem? (i := 102) rfl))
set_option maxRecDepth 20000 in
theorem wi_141 : Cond.lays RX1 "StillText$Measures" "cut" "I" ∈ lw_tbl := List.mem_append_right _ (List.mem_append_left _ (List.mem_of_getElem? (i := 100) rfl))
set_option maxRecDepth 20000 in
theorem wi_142 : Cond.lays RX1 "StillText$Measures" "inner" "I" ∈ lw_tbl := List.mem_append_right _ (List.mem_append_left _ (List.mem_of_getElem? (i := 98) rfl))
set_option maxRecDepth 20000 in
theorem wi_143 : Cond.lays RX1 "StillText$Measures" "phrase" "I" ∈ lw_tbl := List.mem_append_right _ (List.mem_append_left _ (List.mem_of_getElem? (i := 96) rfl))
set_option maxRecDepth 20000 in
theorem wi_144 : Cond.lays RX1 "StillText$Measures" "shortest" "I" ∈ lw_tbl := List.mem_append_right _ (List.mem_append_left _ (List.mem_of_getElem? (i := 94) rfl))
set_option maxRecDepth 20000 in
theorem wi_145 : Cond.lays RX1 "StillText$Measures" "spread" "I" ∈ lw_tbl := List.mem_append_right _ (List.mem_append_left _ (List.mem_of_getElem? (i := 92) rfl))
set_option maxRecDepth 20000 in
theorem wi_146 : Cond.lays RX1 "StillText$Measures" "longest" "I" ∈ lw_tbl := List.mem_append_right _ (List.mem_append_left _ (List.mem_of_getElem? (i := 90) rfl))
set_option maxRecDepth 20000 in
theorem iX1 : ∀ w ∈ wsX10, w ∈ lw_tbl := List.forall_mem_cons.mpr ⟨wi_146, List.forall_mem_cons.mpr ⟨wi_145, List.forall_mem_cons.mpr ⟨wi_144, List.forall_mem_cons.mpr ⟨wi_143, List.forall_mem_cons.mpr ⟨wi_142, List.forall_mem_cons.mpr ⟨wi_141, List.forall_mem_cons.mpr ⟨wi_140, fun _ h => absurd h List.not_mem_nil⟩⟩⟩⟩⟩⟩⟩
set_option maxRecDepth 20000 in
theorem wi_148 : Cond.lays RX5 "StillText$Setting" "ofText" "Z" ∈ lw_tbl := List.mem_append_right _ (List.mem_append_left _ (List.mem_of_getElem? (i := 155) rfl))
set_option maxRecDepth 20000 in
theorem wi_149 : Cond.lays RX5 "StillText$Setting" "there" "Z" ∈ lw_tbl := List.mem_append_right _ (List.mem_append_left _ (List.mem_of_getElem? (i := 153) rfl))
set_option maxRecDepth 20000 in
theorem wi_150 : Cond.lays RX5 "StillText$Setting" "count" "I" ∈ lw_tbl := List.mem_append_right _ (List.mem_append_left _ (List.mem_of_getElem? (i := 151) rfl))
set_option maxRecDepth 20000 in
theorem wi_151 : Cond.laysFinal RX5 "StillText$Setting" "manys" "[I" ∈ lw_tbl := List.mem_append_right _ (List.mem_append_left _ (List.mem_of_getElem? (i := 149) rfl))
set_option maxRecDepth 20000 in
theorem wi_152 : Cond.laysFinal RX5 "StillText$Setting" "firsts" "[I" ∈ lw_tbl := List.mem_append_right _ (List.mem_append_left _ (List.mem_of_getElem? (i := 147) rfl))
set_option maxRecDepth 20000 in
theorem wi_153 : Cond.laysFinal RX5 "StillText$Setting" "strip" "LStillText$Strip;" ∈ lw_tbl := List.mem_append_right _ (List.mem_append_left _ (List.mem_of_getElem? (i := 145) rfl))
set_option maxRecDepth 20000 in
theorem iX5 : ∀ w ∈ wsX50, w ∈ lw_tbl := List.forall_mem_cons.mpr ⟨wi_153, List.forall_mem_cons.mpr ⟨wi_152, List.forall_mem_cons.mpr ⟨wi_151, List.forall_mem_cons.mpr ⟨wi_150, List.forall_mem_cons.mpr ⟨wi_149, List.forall_mem_cons.mpr ⟨wi_148, fun _ h => absurd h List.not_mem_nil⟩⟩⟩⟩⟩⟩
set_option maxRecDepth 20000 in
theorem wi_155 : Cond.lays RX4 "StillText$Setter" "chosen" "I" ∈ lw_tbl := List.mem_append_right _ (List.mem_append_left _ (List.mem_of_getElem? (i := 181) rfl))
set_option maxRecDepth 20000 in
theorem wi_156 : Cond.laysFinal RX4 "StillText$Setter" "least" "[I" ∈ lw_tbl := List.mem_append_right _ (List.mem_append_left _ (List.mem_of_getElem? (i := 179) rfl))
set_option maxRecDepth 20000 in
theorem wi_157 : Cond.laysFinal RX4 "StillText$Setter" "most" "[I" ∈ lw_tbl := List.mem_append_right _ (List.mem_append_left _ (List.mem_of_getElem? (i := 177) rfl))
set_option maxRecDepth 20000 in
theorem wi_158 : Cond.laysFinal RX4 "StillText$Setter" "measures" "LStillText$Measures;" ∈ lw_tbl := List.mem_append_right _ (List.mem_append_left _ (List.mem_of_getElem? (i := 175) rfl))
set_option maxRecDepth 20000 in
theorem wi_159 : Cond.laysFinal RX4 "StillText$Setter" "strip" "LStillText$Strip;" ∈ lw_tbl := List.mem_append_right _ (List.mem_append_left _ (List.mem_of_getElem? (i := 173) rfl))
set_option maxRecDepth 20000 in
theorem iX4 : ∀ w ∈ wsX40, w ∈ lw_tbl := List.forall_mem_cons.mpr ⟨wi_159, List.forall_mem_cons.mpr ⟨wi_158, List.forall_mem_cons.mpr ⟨wi_157, List.forall_mem_cons.mpr ⟨wi_156, List.forall_mem_cons.mpr ⟨wi_155, fun _ h => absurd h List.not_mem_nil⟩⟩⟩⟩⟩
set_option maxRecDepth 20000 in
theorem wi_161 : Cond.lays RX2 "StillText$Pages" "tints" "I" ∈ lw_tbl := List.mem_append_right _ (List.mem_append_left _ (List.mem_of_getElem? (i := 194) rfl))
set_option maxRecDepth 20000 in
theorem wi_162 : Cond.lays RX2 "StillText$Pages" "rows" "I" ∈ lw_tbl := List.mem_append_right _ (List.mem_append_left _ (List.mem_of_getElem? (i := 192) rfl))
set_option maxRecDepth 20000 in
theorem iX2 : ∀ w ∈ wsX20, w ∈ lw_tbl := List.forall_mem_cons.mpr ⟨wi_162, List.forall_mem_cons.mpr ⟨wi_161, fun _ h => absurd h List.not_mem_nil⟩⟩
set_option maxRecDepth 20000 in
theorem wi_164 : Cond.lays RX0 "StillText$Marks" "count" "I" ∈ lw_tbl := List.mem_append_right _ (List.mem_append_left _ (List.mem_of_getElem? (i := 210) rfl))
set_option maxRecDepth 20000 in
theorem wi_165 : Cond.laysFinal RX0 "StillText$Marks" "kept" "[I" ∈ lw_tbl := List.mem_append_right _ (List.mem_append_left _ (List.mem_of_getElem? (i := 208) rfl))
set_option maxRecDepth 20000 in
theorem wi_166 : Cond.laysFinal RX0 "StillText$Marks" "units" "[I" ∈ lw_tbl := List.mem_append_right _ (List.mem_append_left _ (List.mem_of_getElem? (i := 206) rfl))
set_option maxRecDepth 20000 in
theorem iX0 : ∀ w ∈ wsX00, w ∈ lw_tbl := List.forall_mem_cons.mpr ⟨wi_166, List.forall_mem_cons.mpr ⟨wi_165, List.forall_mem_cons.mpr ⟨wi_164, fun _ h => absurd h List.not_mem_nil⟩⟩⟩
set_option maxRecDepth 20000 in
theorem wi_168 : Cond.lays RX8 "StillText$Trials" "won" "I" ∈ lw_tbl := List.mem_append_right _ (List.mem_append_right _ (List.mem_append_left _ (List.mem_of_getElem? (i := 4) rfl)))
set_option maxRecDepth 20000 in
theorem wi_169 : Cond.lays RX8 "StillText$Trials" "answers" "I" ∈ lw_tbl := List.mem_append_right _ (List.mem_append_right _ (List.mem_append_left _ (List.mem_of_getElem? (i := 2) rfl)))
set_option maxRecDepth 20000 in
theorem wi_170 : Cond.lays RX8 "StillText$Trials" "ahead" "I" ∈ lw_tbl := List.mem_append_right _ (List.mem_append_right _ (List.mem_append_left _ (List.mem_of_getElem? (i := 0) rfl)))
set_option maxRecDepth 20000 in
theorem wi_171 : Cond.lays RX8 "StillText$Trials" "way" "I" ∈ lw_tbl := List.mem_append_right _ (List.mem_append_left _ (List.mem_of_getElem? (i := 238) rfl))
set_option maxRecDepth 20000 in
theorem wi_172 : Cond.lays RX8 "StillText$Trials" "lead" "I" ∈ lw_tbl := List.mem_append_right _ (List.mem_append_left _ (List.mem_of_getElem? (i := 236) rfl))
set_option maxRecDepth 20000 in
theorem wi_173 : Cond.lays RX8 "StillText$Trials" "bestSpread" "I" ∈ lw_tbl := List.mem_append_right _ (List.mem_append_left _ (List.mem_of_getElem? (i := 234) rfl))
set_option maxRecDepth 20000 in
theorem wi_174 : Cond.lays RX8 "StillText$Trials" "bestLong" "I" ∈ lw_tbl := List.mem_append_right _ (List.mem_append_left _ (List.mem_of_getElem? (i := 232) rfl))
set_option maxRecDepth 20000 in
theorem wi_175 : Cond.lays RX8 "StillText$Trials" "begun" "Z" ∈ lw_tbl := List.mem_append_right _ (List.mem_append_left _ (List.mem_of_getElem? (i := 230) rfl))
set_option maxRecDepth 20000 in
theorem wi_176 : Cond.laysFinal RX8 "StillText$Trials" "beaten" "[Z" ∈ lw_tbl := List.mem_append_right _ (List.mem_append_left _ (List.mem_of_getElem? (i := 228) rfl))
set_option maxRecDepth 20000 in
theorem iX8 : ∀ w ∈ wsX80, w ∈ lw_tbl := List.forall_mem_cons.mpr ⟨wi_176, List.forall_mem_cons.mpr ⟨wi_175, List.forall_mem_cons.mpr ⟨wi_174, List.forall_mem_cons.mpr ⟨wi_173, List.forall_mem_cons.mpr ⟨wi_172, List.forall_mem_cons.mpr ⟨wi_171, List.forall_mem_cons.mpr ⟨wi_170, List.forall_mem_cons.mpr ⟨wi_169, List.forall_mem_cons.mpr ⟨wi_168, fun _ h => absurd h List.not_mem_nil⟩⟩⟩⟩⟩⟩⟩⟩⟩
set_option maxRecDepth 20000 in
theorem wi_178 : Cond.lays RX6 "StillText$Strip" "length" "I" ∈ lw_tbl := List.mem_append_right _ (List.mem_append_left _ (List.mem_of_getElem? (i := 136) rfl))
set_option maxRecDepth 20000 in
theorem wi_179 : Cond.lays RX6 "StillText$Strip" "units" "I" ∈ lw_tbl := List.mem_append_right _ (List.mem_append_left _ (List.mem_of_getElem? (i := 134) rfl))
set_option maxRecDepth 20000 in
theorem wi_180 : Cond.laysFinal RX6 "StillText$Strip" "behind" "[I" ∈ lw_tbl := List.mem_append_right _ (List.mem_append_left _ (List.mem_of_getElem? (i := 132) rfl))
set_option maxRecDepth 20000 in
theorem wi_181 : Cond.laysFinal RX6 "StillText$Strip" "ends" "[I" ∈ lw_tbl := List.mem_append_right _ (List.mem_append_left _ (List.mem_of_getElem? (i := 130) rfl))
set_option maxRecDepth 20000 in
theorem wi_182 : Cond.laysFinal RX6 "StillText$Strip" "begins" "[I" ∈ lw_tbl := List.mem_append_right _ (List.mem_append_left _ (List.mem_of_getElem? (i := 128) rfl))
set_option maxRecDepth 20000 in
theorem wi_183 : Cond.laysFinal RX6 "StillText$Strip" "kinds" "[I" ∈ lw_tbl := List.mem_append_right _ (List.mem_append_left _ (List.mem_of_getElem? (i := 126) rfl))
set_option maxRecDepth 20000 in
theorem wi_184 : Cond.laysFinal RX6 "StillText$Strip" "signs" "[I" ∈ lw_tbl := List.mem_append_right _ (List.mem_append_left _ (List.mem_of_getElem? (i := 124) rfl))
set_option maxRecDepth 20000 in
theorem iX6 : ∀ w ∈ wsX60, w ∈ lw_tbl := List.forall_mem_cons.mpr ⟨wi_184, List.forall_mem_cons.mpr ⟨wi_183, List.forall_mem_cons.mpr ⟨wi_182, List.forall_mem_cons.mpr ⟨wi_181, List.forall_mem_cons.mpr ⟨wi_180, List.forall_mem_cons.mpr ⟨wi_179, List.forall_mem_cons.mpr ⟨wi_178, fun _ h => absurd h List.not_mem_nil⟩⟩⟩⟩⟩⟩⟩
set_option maxRecDepth 20000 in
theorem iw_X10_init : ∀ w ∈ wsX10_init, w ∈ lw_tbl := List.forall_mem_cons.mpr ⟨wi_0, List.forall_mem_append.mpr ⟨List.forall_mem_append.mpr ⟨List.forall_mem_append.mpr ⟨List.forall_mem_append.mpr ⟨List.forall_mem_append.mpr ⟨List.forall_mem_append.mpr ⟨List.forall_mem_append.mpr ⟨List.forall_mem_append.mpr ⟨List.forall_mem_append.mpr ⟨List.forall_mem_append.mpr ⟨List.forall_mem_append.mpr ⟨List.forall_mem_append.mpr ⟨List.forall_mem_cons.mpr ⟨wi_24, List.forall_mem_cons.mpr ⟨wi_23, List.forall_mem_cons.mpr ⟨wi_22, List.forall_mem_cons.mpr ⟨wi_21, List.forall_mem_cons.mpr ⟨wi_20, List.forall_mem_cons.mpr ⟨wi_19, List.forall_mem_cons.mpr ⟨wi_18, List.forall_mem_cons.mpr ⟨wi_17, List.forall_mem_cons.mpr ⟨wi_16, List.forall_mem_cons.mpr ⟨wi_15, List.forall_mem_cons.mpr ⟨wi_14, List.forall_mem_cons.mpr ⟨wi_13, List.forall_mem_cons.mpr ⟨wi_12, List.forall_mem_cons.mpr ⟨wi_11, List.forall_mem_cons.mpr ⟨wi_10, List.forall_mem_cons.mpr ⟨wi_9, List.forall_mem_cons.mpr ⟨wi_8, List.forall_mem_cons.mpr ⟨wi_7, List.forall_mem_cons.mpr ⟨wi_6, List.forall_mem_cons.mpr ⟨wi_5, List.forall_mem_cons.mpr ⟨wi_4, List.forall_mem_cons.mpr ⟨wi_3, List.forall_mem_cons.mpr ⟨wi_2, List.forall_mem_cons.mpr ⟨wi_1, fun _ h => absurd h List.not_mem_nil⟩⟩⟩⟩⟩⟩⟩⟩⟩⟩⟩⟩⟩⟩⟩⟩⟩⟩⟩⟩⟩⟩⟩⟩, List.forall_mem_append.mpr ⟨List.forall_mem_cons.mpr ⟨wi_48, List.forall_mem_cons.mpr ⟨wi_47, List.forall_mem_cons.mpr ⟨wi_46, List.forall_mem_cons.mpr ⟨wi_45, List.forall_mem_cons.mpr ⟨wi_44, List.forall_mem_cons.mpr ⟨wi_43, List.forall_mem_cons.mpr ⟨wi_42, List.forall_mem_cons.mpr ⟨wi_41, List.forall_mem_cons.mpr ⟨wi_40, List.forall_mem_cons.mpr ⟨wi_39, List.forall_mem_cons.mpr ⟨wi_38, List.forall_mem_cons.mpr ⟨wi_37, List.forall_mem_cons.mpr ⟨wi_36, List.forall_mem_cons.mpr ⟨wi_35, List.forall_mem_cons.mpr ⟨wi_34, List.forall_mem_cons.mpr ⟨wi_33, List.forall_mem_cons.mpr ⟨wi_32, List.forall_mem_cons.mpr ⟨wi_31, List.forall_mem_cons.mpr ⟨wi_30, List.forall_mem_cons.mpr ⟨wi_29, List.forall_mem_cons.mpr ⟨wi_28, List.forall_mem_cons.mpr ⟨wi_27, List.forall_mem_cons.mpr ⟨wi_26, List.forall_mem_cons.mpr ⟨wi_25, fun _ h => absurd h List.not_mem_nil⟩⟩⟩⟩⟩⟩⟩⟩⟩⟩⟩⟩⟩⟩⟩⟩⟩⟩⟩⟩⟩⟩⟩⟩, List.forall_mem_append.mpr ⟨List.forall_mem_cons.mpr ⟨wi_72, List.forall_mem_cons.mpr ⟨wi_71, List.forall_mem_cons.mpr ⟨wi_70, List.forall_mem_cons.mpr ⟨wi_69, List.forall_mem_cons.mpr ⟨wi_68, List.forall_mem_cons.mpr ⟨wi_67, List.forall_mem_cons.mpr ⟨wi_66, List.forall_mem_cons.mpr ⟨wi_65, List.forall_mem_cons.mpr ⟨wi_64, List.forall_mem_cons.mpr ⟨wi_63, List.forall_mem_cons.mpr ⟨wi_62, List.forall_mem_cons.mpr ⟨wi_61, List.forall_mem_cons.mpr ⟨wi_60, List.forall_mem_cons.mpr ⟨wi_59, List.forall_mem_cons.mpr ⟨wi_58, List.forall_mem_cons.mpr ⟨wi_57, List.forall_mem_cons.mpr ⟨wi_56, List.forall_mem_cons.mpr ⟨wi_55, List.forall_mem_cons.mpr ⟨wi_54, List.forall_mem_cons.mpr ⟨wi_53, List.forall_mem_cons.mpr ⟨wi_52, List.forall_mem_cons.mpr ⟨wi_51, List.forall_mem_cons.mpr ⟨wi_50, List.forall_mem_cons.mpr ⟨wi_49, fun _ h => absurd h List.not_mem_nil⟩⟩⟩⟩⟩⟩⟩⟩⟩⟩⟩⟩⟩⟩⟩⟩⟩⟩⟩⟩⟩⟩⟩⟩, List.forall_mem_append.mpr ⟨List.forall_mem_cons.mpr ⟨wi_96, List.forall_mem_cons.mpr ⟨wi_95, List.forall_mem_cons.mpr ⟨wi_94, List.forall_mem_cons.mpr ⟨wi_93, List.forall_mem_cons.mpr ⟨wi_92, List.forall_mem_cons.mpr ⟨wi_91, List.forall_mem_cons.mpr ⟨wi_90, List.forall_mem_cons.mpr ⟨wi_89, List.forall_mem_cons.mpr ⟨wi_88, List.forall_mem_cons.mpr ⟨wi_87, List.forall_mem_cons.mpr ⟨wi_86, List.forall_mem_cons.mpr ⟨wi_85, List.forall_mem_cons.mpr ⟨wi_84, List.forall_mem_cons.mpr ⟨wi_83, List.forall_mem_cons.mpr ⟨wi_82, List.forall_mem_cons.mpr ⟨wi_81, List.forall_mem_cons.mpr ⟨wi_80, List.forall_mem_cons.mpr ⟨wi_79, List.forall_mem_cons.mpr ⟨wi_78, List.forall_mem_cons.mpr ⟨wi_77, List.forall_mem_cons.mpr ⟨wi_76, List.forall_mem_cons.mpr ⟨wi_75, List.forall_mem_cons.mpr ⟨wi_74, List.forall_mem_cons.mpr ⟨wi_73, fun _ h => absurd h List.not_mem_nil⟩⟩⟩⟩⟩⟩⟩⟩⟩⟩⟩⟩⟩⟩⟩⟩⟩⟩⟩⟩⟩⟩⟩⟩, List.forall_mem_cons.mpr ⟨wi_117, List.forall_mem_cons.mpr ⟨wi_116, List.forall_mem_cons.mpr ⟨wi_115, List.forall_mem_cons.mpr ⟨wi_114, List.forall_mem_cons.mpr ⟨wi_113, List.forall_mem_cons.mpr ⟨wi_112, List.forall_mem_cons.mpr ⟨wi_111, List.forall_mem_cons.mpr ⟨wi_110, List.forall_mem_cons.mpr ⟨wi_109, List.forall_mem_cons.mpr ⟨wi_108, List.forall_mem_cons.mpr ⟨wi_107, List.forall_mem_cons.mpr ⟨wi_106, List.forall_mem_cons.mpr ⟨wi_105, List.forall_mem_cons.mpr ⟨wi_104, List.forall_mem_cons.mpr ⟨wi_103, List.forall_mem_cons.mpr ⟨wi_102, List.forall_mem_cons.mpr ⟨wi_101, List.forall_mem_cons.mpr ⟨wi_100, List.forall_mem_cons.mpr ⟨wi_99, List.forall_mem_cons.mpr ⟨wi_98, List.forall_mem_cons.mpr ⟨wi_97, fun _ h => absurd h List.not_mem_nil⟩⟩⟩⟩⟩⟩⟩⟩⟩⟩⟩⟩⟩⟩⟩⟩⟩⟩⟩⟩⟩⟩⟩⟩⟩, iX7⟩, iX10⟩, iX3⟩, iX9⟩, iX1⟩, iX5⟩, iX4⟩, iX2⟩, iX0⟩, iX8⟩, iX6⟩⟩
set_option maxRecDepth 20000 in
theorem gW_X10_init : GoodIn lw_tbl wsX10_init := goodIn_sub iw_X10_init (by decide +kernel)
set_option maxRecDepth 20000 in
theorem wi_186 : Cond.code yX11_init cX11_init 1 none ∈ lw_tbl := List.mem_append_right _ (List.mem_append_right _ (List.mem_append_right _ (List.mem_append_right _ (List.mem_append_left _ (List.mem_of_getElem? (i := 59) rfl)))))
set_option maxRecDepth 20000 in
theorem wi_187 : Cond.fieldLink RX11 68 "StillTextModel" "least" "[I" ∈ lw_tbl := List.mem_append_right _ (List.mem_append_right _ (List.mem_append_right _ (List.mem_append_right _ (List.mem_append_left _ (List.mem_of_getElem? (i := 84) rfl)))))
set_option maxRecDepth 20000 in
theorem wi_188 : Cond.fieldLink RX11 65 "StillTextModel" "lower" "[I" ∈ lw_tbl := List.mem_append_right _ (List.mem_append_right _ (List.mem_append_right _ (List.mem_append_right _ (List.mem_append_left _ (List.mem_of_getElem? (i := 83) rfl)))))
set_option maxRecDepth 20000 in
theorem wi_189 : Cond.fieldLink RX11 62 "StillTextModel" "upper" "[I" ∈ lw_tbl := List.mem_append_right _ (List.mem_append_right _ (List.mem_append_right _ (List.mem_append_right _ (List.mem_append_left _ (List.mem_of_getElem? (i := 82) rfl)))))
set_option maxRecDepth 20000 in
theorem wi_190 : Cond.fieldLink RX11 59 "StillTextModel" "likes" "[I" ∈ lw_tbl := List.mem_append_right _ (List.mem_append_right _ (List.mem_append_right _ (List.mem_append_right _ (List.mem_append_left _ (List.mem_of_getElem? (i := 81) rfl)))))
set_option maxRecDepth 20000 in
theorem wi_191 : Cond.fieldLink RX11 56 "StillTextModel" "river" "I" ∈ lw_tbl := List.mem_append_right _ (List.mem_append_right _ (List.mem_append_right _ (List.mem_append_right _ (List.mem_append_left _ (List.mem_of_getElem? (i := 80) rfl)))))
set_option maxRecDepth 20000 in
theorem wi_192 : Cond.fieldLink RX11 53 "StillTextModel" "cut" "I" ∈ lw_tbl := List.mem_append_right _ (List.mem_append_right _ (List.mem_append_right _ (List.mem_append_right _ (List.mem_append_left _ (List.mem_of_getElem? (i := 79) rfl)))))
set_option maxRecDepth 20000 in
theorem wi_193 : Cond.fieldLink RX11 50 "StillTextModel" "inner" "I" ∈ lw_tbl := List.mem_append_right _ (List.mem_append_right _ (List.mem_append_right _ (List.mem_append_right _ (List.mem_append_left _ (List.mem_of_getElem? (i := 78) rfl)))))
set_option maxRecDepth 20000 in
theorem wi_194 : Cond.fieldLink RX11 47 "StillTextModel" "phrase" "I" ∈ lw_tbl := List.mem_append_right _ (List.mem_append_right _ (List.mem_append_right _ (List.mem_append_right _ (List.mem_append_left _ (List.mem_of_getElem? (i := 77) rfl)))))
set_option maxRecDepth 20000 in
theorem wi_195 : Cond.fieldLink RX11 44 "StillTextModel" "shortest" "I" ∈ lw_tbl := List.mem_append_right _ (List.mem_append_right _ (List.mem_append_right _ (List.mem_append_right _ (List.mem_append_left _ (List.mem_of_getElem? (i := 76) rfl)))))
set_option maxRecDepth 20000 in
theorem wi_196 : Cond.fieldLink RX11 41 "StillTextModel" "spread" "I" ∈ lw_tbl := List.mem_append_right _ (List.mem_append_right _ (List.mem_append_right _ (List.mem_append_right _ (List.mem_append_left _ (List.mem_of_getElem? (i := 75) rfl)))))
set_option maxRecDepth 20000 in
theorem wi_197 : Cond.fieldLink RX11 38 "StillTextModel" "longest" "I" ∈ lw_tbl := List.mem_append_right _ (List.mem_append_right _ (List.mem_append_right _ (List.mem_append_right _ (List.mem_append_left _ (List.mem_of_getElem? (i := 74) rfl)))))
set_option maxRecDepth 20000 in
theorem wi_198 : Cond.fieldLink RX11 35 "StillTextModel" "readBehind" "[I" ∈ lw_tbl := List.mem_append_right _ (List.mem_append_right _ (List.mem_append_right _ (List.mem_append_right _ (List.mem_append_left _ (List.mem_of_getElem? (i := 73) rfl)))))
set_option maxRecDepth 20000 in
theorem wi_199 : Cond.fieldLink RX11 32 "StillTextModel" "readLetter" "[I" ∈ lw_tbl := List.mem_append_right _ (List.mem_append_right _ (List.mem_append_right _ (List.mem_append_right _ (List.mem_append_left _ (List.mem_of_getElem? (i := 72) rfl)))))
set_option maxRecDepth 20000 in
theorem wi_200 : Cond.fieldLink RX11 29 "StillTextModel" "readSize" "[I" ∈ lw_tbl := List.mem_append_right _ (List.mem_append_right _ (List.mem_append_right _ (List.mem_append_right _ (List.mem_append_left _ (List.mem_of_getElem? (i := 71) rfl)))))
set_option maxRecDepth 20000 in
theorem wi_201 : Cond.fieldLink RX11 25 "StillTextModel" "faultPlace" "I" ∈ lw_tbl := List.mem_append_right _ (List.mem_append_right _ (List.mem_append_right _ (List.mem_append_right _ (List.mem_append_left _ (List.mem_of_getElem? (i := 69) rfl)))))
set_option maxRecDepth 20000 in
theorem wi_202 : Cond.fieldLink RX11 22 "StillTextModel" "tape" "[I" ∈ lw_tbl := List.mem_append_right _ (List.mem_append_right _ (List.mem_append_right _ (List.mem_append_right _ (List.mem_append_left _ (List.mem_of_getElem? (i := 66) rfl)))))
set_option maxRecDepth 20000 in
theorem wi_203 : Cond.fieldLink RX11 19 "StillTextModel" "wordOf" "[I" ∈ lw_tbl := List.mem_append_right _ (List.mem_append_right _ (List.mem_append_right _ (List.mem_append_right _ (List.mem_append_left _ (List.mem_of_getElem? (i := 65) rfl)))))
set_option maxRecDepth 20000 in
theorem wi_204 : Cond.fieldLink RX11 16 "StillTextModel" "behind" "[I" ∈ lw_tbl := List.mem_append_right _ (List.mem_append_right _ (List.mem_append_right _ (List.mem_append_right _ (List.mem_append_left _ (List.mem_of_getElem? (i := 64) rfl)))))
set_option maxRecDepth 20000 in
theorem wi_205 : Cond.fieldLink RX11 13 "StillTextModel" "letter" "[I" ∈ lw_tbl := List.mem_append_right _ (List.mem_append_right _ (List.mem_append_right _ (List.mem_append_right _ (List.mem_append_left _ (List.mem_of_getElem? (i := 63) rfl)))))
set_option maxRecDepth 20000 in
theorem wi_206 : Cond.fieldLink RX11 7 "StillTextModel" "size" "[I" ∈ lw_tbl := List.mem_append_right _ (List.mem_append_right _ (List.mem_append_right _ (List.mem_append_right _ (List.mem_append_left _ (List.mem_of_getElem? (i := 62) rfl)))))
set_option maxRecDepth 20000 in
theorem wi_207 : Cond.methodLink RX11 1 objectInit ∈ lw_tbl := List.mem_append_right _ (List.mem_append_right _ (List.mem_append_right _ (List.mem_append_right _ (List.mem_append_left _ (List.mem_of_getElem? (i := 60) rfl)))))
set_option maxRecDepth 20000 in
theorem wi_208 : Cond.fieldLink RX11 92 "StillTextModel" "markPage" "[I" ∈ lw_tbl := List.mem_append_right _ (List.mem_append_right _ (List.mem_append_right _ (List.mem_append_right _ (List.mem_append_left _ (List.mem_of_getElem? (i := 96) rfl)))))
set_option maxRecDepth 20000 in
theorem wi_209 : Cond.fieldLink RX11 89 "StillTextModel" "markUnit" "[I" ∈ lw_tbl := List.mem_append_right _ (List.mem_append_right _ (List.mem_append_right _ (List.mem_append_right _ (List.mem_append_left _ (List.mem_of_getElem? (i := 95) rfl)))))
set_option maxRecDepth 20000 in
theorem wi_210 : Cond.fieldLink RX11 86 "StillTextModel" "tints" "I" ∈ lw_tbl := List.mem_append_right _ (List.mem_append_right _ (List.mem_append_right _ (List.mem_append_right _ (List.mem_append_left _ (List.mem_of_getElem? (i := 93) rfl)))))
set_option maxRecDepth 20000 in
theorem wi_211 : Cond.fieldLink RX11 83 "StillTextModel" "rows" "I" ∈ lw_tbl := List.mem_append_right _ (List.mem_append_right _ (List.mem_append_right _ (List.mem_append_right _ (List.mem_append_left _ (List.mem_of_getElem? (i := 92) rfl)))))
set_option maxRecDepth 20000 in
theorem wi_212 : Cond.fieldLink RX11 80 "StillTextModel" "signs" "[I" ∈ lw_tbl := List.mem_append_right _ (List.mem_append_right _ (List.mem_append_right _ (List.mem_append_right _ (List.mem_append_left _ (List.mem_of_getElem? (i := 91) rfl)))))
set_option maxRecDepth 20000 in
theorem wi_213 : Cond.fieldLink RX11 77 "StillTextModel" "lineSigns" "[I" ∈ lw_tbl := List.mem_append_right _ (List.mem_append_right _ (List.mem_append_right _ (List.mem_append_right _ (List.mem_append_left _ (List.mem_of_getElem? (i := 90) rfl)))))
set_option maxRecDepth 20000 in
theorem wi_214 : Cond.fieldLink RX11 74 "StillTextModel" "lineMany" "[I" ∈ lw_tbl := List.mem_append_right _ (List.mem_append_right _ (List.mem_append_right _ (List.mem_append_right _ (List.mem_append_left _ (List.mem_of_getElem? (i := 89) rfl)))))
set_option maxRecDepth 20000 in
theorem wi_215 : Cond.fieldLink RX11 71 "StillTextModel" "lineFrom" "[I" ∈ lw_tbl := List.mem_append_right _ (List.mem_append_right _ (List.mem_append_right _ (List.mem_append_right _ (List.mem_append_left _ (List.mem_of_getElem? (i := 88) rfl)))))
set_option maxRecDepth 20000 in
theorem wi_216 : Cond.lays RX11 "StillTextModel" "now" "I" ∈ lw_tbl := List.mem_append_right _ (List.mem_append_right _ (List.mem_append_right _ (List.mem_append_right _ (List.mem_append_left _ (List.mem_of_getElem? (i := 191) rfl)))))
set_option maxRecDepth 20000 in
theorem wi_217 : Cond.lays RX11 "StillTextModel" "won" "I" ∈ lw_tbl := List.mem_append_right _ (List.mem_append_right _ (List.mem_append_right _ (List.mem_append_right _ (List.mem_append_left _ (List.mem_of_getElem? (i := 189) rfl)))))
set_option maxRecDepth 20000 in
theorem wi_218 : Cond.lays RX11 "StillTextModel" "answers" "I" ∈ lw_tbl := List.mem_append_right _ (List.mem_append_right _ (List.mem_append_right _ (List.mem_append_right _ (List.mem_append_left _ (List.mem_of_getElem? (i := 187) rfl)))))
set_option maxRecDepth 20000 in
theorem wi_219 : Cond.lays RX11 "StillTextModel" "ahead" "I" ∈ lw_tbl := List.mem_append_right _ (List.mem_append_right _ (List.mem_append_right _ (List.mem_append_right _ (List.mem_append_left _ (List.mem_of_getElem? (i := 185) rfl)))))
set_option maxRecDepth 20000 in
theorem wi_220 : Cond.lays RX11 "StillTextModel" "lead" "I" ∈ lw_tbl := List.mem_append_right _ (List.mem_append_right _ (List.mem_append_right _ (List.mem_append_right _ (List.mem_append_left _ (List.mem_of_getElem? (i := 183) rfl)))))
set_option maxRecDepth 20000 in
theorem wi_221 : Cond.lays RX11 "StillTextModel" "bestSpread" "I" ∈ lw_tbl := List.mem_append_right _ (List.mem_append_right _ (List.mem_append_right _ (List.mem_append_right _ (List.mem_append_left _ (List.mem_of_getElem? (i := 181) rfl)))))
set_option maxRecDepth 20000 in
theorem wi_222 : Cond.lays RX11 "StillTextModel" "bestLong" "I" ∈ lw_tbl := List.mem_append_right _ (List.mem_append_right _ (List.mem_append_right _ (List.mem_append_right _ (List.mem_append_left _ (List.mem_of_getElem? (i := 179) rfl)))))
set_option maxRecDepth 20000 in
theorem wi_223 : Cond.lays RX11 "StillTextModel" "hasTests" "Z" ∈ lw_tbl := List.mem_append_right _ (List.mem_append_right _ (List.mem_append_right _ (List.mem_append_right _ (List.mem_append_left _ (List.mem_of_getElem? (i := 177) rfl)))))
set_option maxRecDepth 20000 in
theorem wi_224 : Cond.laysFinal RX11 "StillTextModel" "markPage" "[I" ∈ lw_tbl := List.mem_append_right _ (List.mem_append_right _ (List.mem_append_right _ (List.mem_append_right _ (List.mem_append_left _ (List.mem_of_getElem? (i := 175) rfl)))))
set_option maxRecDepth 20000 in
theorem wi_225 : Cond.laysFinal RX11 "StillTextModel" "markUnit" "[I" ∈ lw_tbl := List.mem_append_right _ (List.mem_append_right _ (List.mem_append_right _ (List.mem_append_right _ (List.mem_append_left _ (List.mem_of_getElem? (i := 173) rfl)))))
set_option maxRecDepth 20000 in
theorem wi_226 : Cond.lays RX11 "StillTextModel" "marks" "I" ∈ lw_tbl := List.mem_append_right _ (List.mem_append_right _ (List.mem_append_right _ (List.mem_append_right _ (List.mem_append_left _ (List.mem_of_getElem? (i := 171) rfl)))))
set_option maxRecDepth 20000 in
theorem wi_227 : Cond.lays RX11 "StillTextModel" "tints" "I" ∈ lw_tbl := List.mem_append_right _ (List.mem_append_right _ (List.mem_append_right _ (List.mem_append_right _ (List.mem_append_left _ (List.mem_of_getElem? (i := 169) rfl)))))
set_option maxRecDepth 20000 in
theorem wi_228 : Cond.lays RX11 "StillTextModel" "rows" "I" ∈ lw_tbl := List.mem_append_right _ (List.mem_append_right _ (List.mem_append_right _ (List.mem_append_right _ (List.mem_append_left _ (List.mem_of_getElem? (i := 167) rfl)))))
set_option maxRecDepth 20000 in
theorem wi_229 : Cond.laysFinal RX11 "StillTextModel" "signs" "[I" ∈ lw_tbl := List.mem_append_right _ (List.mem_append_right _ (List.mem_append_right _ (List.mem_append_right _ (List.mem_append_left _ (List.mem_of_getElem? (i := 165) rfl)))))
set_option maxRecDepth 20000 in
theorem wi_230 : Cond.laysFinal RX11 "StillTextModel" "lineSigns" "[I" ∈ lw_tbl := List.mem_append_right _ (List.mem_append_right _ (List.mem_append_right _ (List.mem_append_right _ (List.mem_append_left _ (List.mem_of_getElem? (i := 163) rfl)))))
set_option maxRecDepth 20000 in
theorem wi_231 : Cond.laysFinal RX11 "StillTextModel" "lineMany" "[I" ∈ lw_tbl := List.mem_append_right _ (List.mem_append_right _ (List.mem_append_right _ (List.mem_append_right _ (List.mem_append_left _ (List.mem_of_getElem? (i := 161) rfl)))))
set_option maxRecDepth 20000 in
theorem wi_232 : Cond.laysFinal RX11 "StillTextModel" "lineFrom" "[I" ∈ lw_tbl := List.mem_append_right _ (List.mem_append_right _ (List.mem_append_right _ (List.mem_append_right _ (List.mem_append_left _ (List.mem_of_getElem? (i := 159) rfl)))))
set_option maxRecDepth 20000 in
theorem wi_233 : Cond.lays RX11 "StillTextModel" "lines" "I" ∈ lw_tbl := List.mem_append_right _ (List.mem_append_right _ (List.mem_append_right _ (List.mem_append_right _ (List.mem_append_left _ (List.mem_of_getElem? (i := 157) rfl)))))
set_option maxRecDepth 20000 in
theorem wi_234 : Cond.lays RX11 "StillTextModel" "isFresh" "Z" ∈ lw_tbl := List.mem_append_right _ (List.mem_append_right _ (List.mem_append_right _ (List.mem_append_right _ (List.mem_append_left _ (List.mem_of_getElem? (i := 155) rfl)))))
set_option maxRecDepth 20000 in
theorem wi_235 : Cond.lays RX11 "StillTextModel" "isSet" "Z" ∈ lw_tbl := List.mem_append_right _ (List.mem_append_right _ (List.mem_append_right _ (List.mem_append_right _ (List.mem_append_left _ (List.mem_of_getElem? (i := 153) rfl)))))
set_option maxRecDepth 20000 in
theorem wi_236 : Cond.laysFinal RX11 "StillTextModel" "least" "[I" ∈ lw_tbl := List.mem_append_right _ (List.mem_append_right _ (List.mem_append_right _ (List.mem_append_right _ (List.mem_append_left _ (List.mem_of_getElem? (i := 151) rfl)))))
set_option maxRecDepth 20000 in
theorem wi_237 : Cond.laysFinal RX11 "StillTextModel" "lower" "[I" ∈ lw_tbl := List.mem_append_right _ (List.mem_append_right _ (List.mem_append_right _ (List.mem_append_right _ (List.mem_append_left _ (List.mem_of_getElem? (i := 149) rfl)))))
set_option maxRecDepth 20000 in
theorem wi_238 : Cond.laysFinal RX11 "StillTextModel" "upper" "[I" ∈ lw_tbl := List.mem_append_right _ (List.mem_append_right _ (List.mem_append_right _ (List.mem_append_right _ (List.mem_append_left _ (List.mem_of_getElem? (i := 147) rfl)))))
set_option maxRecDepth 20000 in
theorem wi_239 : Cond.laysFinal RX11 "StillTextModel" "likes" "[I" ∈ lw_tbl := List.mem_append_right _ (List.mem_append_right _ (List.mem_append_right _ (List.mem_append_right _ (List.mem_append_left _ (List.mem_of_getElem? (i := 145) rfl)))))
set_option maxRecDepth 20000 in
theorem wi_240 : Cond.lays RX11 "StillTextModel" "river" "I" ∈ lw_tbl := List.mem_append_right _ (List.mem_append_right _ (List.mem_append_right _ (List.mem_append_right _ (List.mem_append_left _ (List.mem_of_getElem? (i := 143) rfl)))))
set_option maxRecDepth 20000 in
theorem wi_241 : Cond.lays RX11 "StillTextModel" "cut" "I" ∈ lw_tbl := List.mem_append_right _ (List.mem_append_right _ (List.mem_append_right _ (List.mem_append_right _ (List.mem_append_left _ (List.mem_of_getElem? (i := 141) rfl)))))
set_option maxRecDepth 20000 in
theorem wi_242 : Cond.lays RX11 "StillTextModel" "inner" "I" ∈ lw_tbl := List.mem_append_right _ (List.mem_append_right _ (List.mem_append_right _ (List.mem_append_right _ (List.mem_append_left _ (List.mem_of_getElem? (i := 139) rfl)))))
set_option maxRecDepth 20000 in
theorem wi_243 : Cond.lays RX11 "StillTextModel" "phrase" "I" ∈ lw_tbl := List.mem_append_right _ (List.mem_append_right _ (List.mem_append_right _ (List.mem_append_right _ (List.mem_append_left _ (List.mem_of_getElem? (i := 137) rfl)))))
set_option maxRecDepth 20000 in
theorem wi_244 : Cond.lays RX11 "StillTextModel" "shortest" "I" ∈ lw_tbl := List.mem_append_right _ (List.mem_append_right _ (List.mem_append_right _ (List.mem_append_right _ (List.mem_append_left _ (List.mem_of_getElem? (i := 135) rfl)))))
set_option maxRecDepth 20000 in
theorem wi_245 : Cond.lays RX11 "StillTextModel" "spread" "I" ∈ lw_tbl := List.mem_append_right _ (List.mem_append_right _ (List.mem_append_right _ (List.mem_append_right _ (List.mem_append_left _ (List.mem_of_getElem? (i := 133) rfl)))))
set_option maxRecDepth 20000 in
theorem wi_246 : Cond.lays RX11 "StillTextModel" "longest" "I" ∈ lw_tbl := List.mem_append_right _ (List.mem_append_right _ (List.mem_append_right _ (List.mem_append_right _ (List.mem_append_left _ (List.mem_of_getElem? (i := 131) rfl)))))
set_option maxRecDepth 20000 in
theorem wi_247 : Cond.laysFinal RX11 "StillTextModel" "readBehind" "[I" ∈ lw_tbl := List.mem_append_right _ (List.mem_append_right _ (List.mem_append_right _ (List.mem_append_right _ (List.mem_append_left _ (List.mem_of_getElem? (i := 129) rfl)))))
set_option maxRecDepth 20000 in
theorem wi_248 : Cond.laysFinal RX11 "StillTextModel" "readLetter" "[I" ∈ lw_tbl := List.mem_append_right _ (List.mem_append_right _ (List.mem_append_right _ (List.mem_append_right _ (List.mem_append_left _ (List.mem_of_getElem? (i := 127) rfl)))))
set_option maxRecDepth 20000 in
theorem wi_249 : Cond.laysFinal RX11 "StillTextModel" "readSize" "[I" ∈ lw_tbl := List.mem_append_right _ (List.mem_append_right _ (List.mem_append_right _ (List.mem_append_right _ (List.mem_append_left _ (List.mem_of_getElem? (i := 125) rfl)))))
set_option maxRecDepth 20000 in
theorem wi_250 : Cond.lays RX11 "StillTextModel" "reads" "I" ∈ lw_tbl := List.mem_append_right _ (List.mem_append_right _ (List.mem_append_right _ (List.mem_append_right _ (List.mem_append_left _ (List.mem_of_getElem? (i := 123) rfl)))))
set_option maxRecDepth 20000 in
theorem wi_251 : Cond.lays RX11 "StillTextModel" "faultPlace" "I" ∈ lw_tbl := List.mem_append_right _ (List.mem_append_right _ (List.mem_append_right _ (List.mem_append_right _ (List.mem_append_left _ (List.mem_of_getElem? (i := 121) rfl)))))
set_option maxRecDepth 20000 in
theorem wi_252 : Cond.lays RX11 "StillTextModel" "fault" "I" ∈ lw_tbl := List.mem_append_right _ (List.mem_append_right _ (List.mem_append_right _ (List.mem_append_right _ (List.mem_append_left _ (List.mem_of_getElem? (i := 119) rfl)))))
set_option maxRecDepth 20000 in
theorem wi_253 : Cond.lays RX11 "StillTextModel" "taped" "I" ∈ lw_tbl := List.mem_append_right _ (List.mem_append_right _ (List.mem_append_right _ (List.mem_append_right _ (List.mem_append_left _ (List.mem_of_getElem? (i := 117) rfl)))))
set_option maxRecDepth 20000 in
theorem wi_254 : Cond.laysFinal RX11 "StillTextModel" "tape" "[I" ∈ lw_tbl := List.mem_append_right _ (List.mem_append_right _ (List.mem_append_right _ (List.mem_append_right _ (List.mem_append_left _ (List.mem_of_getElem? (i := 115) rfl)))))
set_option maxRecDepth 20000 in
theorem wi_255 : Cond.laysFinal RX11 "StillTextModel" "wordOf" "[I" ∈ lw_tbl := List.mem_append_right _ (List.mem_append_right _ (List.mem_append_right _ (List.mem_append_right _ (List.mem_append_left _ (List.mem_of_getElem? (i := 113) rfl)))))
set_option maxRecDepth 20000 in
theorem wi_256 : Cond.laysFinal RX11 "StillTextModel" "behind" "[I" ∈ lw_tbl := List.mem_append_right _ (List.mem_append_right _ (List.mem_append_right _ (List.mem_append_right _ (List.mem_append_left _ (List.mem_of_getElem? (i := 111) rfl)))))
set_option maxRecDepth 20000 in
theorem wi_257 : Cond.laysFinal RX11 "StillTextModel" "letter" "[I" ∈ lw_tbl := List.mem_append_right _ (List.mem_append_right _ (List.mem_append_right _ (List.mem_append_right _ (List.mem_append_left _ (List.mem_of_getElem? (i := 109) rfl)))))
set_option maxRecDepth 20000 in
theorem wi_258 : Cond.laysFinal RX11 "StillTextModel" "size" "[I" ∈ lw_tbl := List.mem_append_right _ (List.mem_append_right _ (List.mem_append_right _ (List.mem_append_right _ (List.mem_append_left _ (List.mem_of_getElem? (i := 107) rfl)))))
set_option maxRecDepth 20000 in
theorem wi_259 : Cond.lays RX11 "StillTextModel" "units" "I" ∈ lw_tbl := List.mem_append_right _ (List.mem_append_right _ (List.mem_append_right _ (List.mem_append_right _ (List.mem_append_left _ (List.mem_of_getElem? (i := 105) rfl)))))
set_option maxRecDepth 20000 in
theorem iX11 : ∀ w ∈ wsX110, w ∈ lw_tbl := List.forall_mem_cons.mpr ⟨wi_259, List.forall_mem_cons.mpr ⟨wi_258, List.forall_mem_cons.mpr ⟨wi_257, List.forall_mem_cons.mpr ⟨wi_256, List.forall_mem_cons.mpr ⟨wi_255, List.forall_mem_cons.mpr ⟨wi_254, List.forall_mem_cons.mpr ⟨wi_253, List.forall_mem_cons.mpr ⟨wi_252, List.forall_mem_cons.mpr ⟨wi_251, List.forall_mem_cons.mpr ⟨wi_250, List.forall_mem_cons.mpr ⟨wi_249, List.forall_mem_cons.mpr ⟨wi_248, List.forall_mem_cons.mpr ⟨wi_247, List.forall_mem_cons.mpr ⟨wi_246, List.forall_mem_cons.mpr ⟨wi_245, List.forall_mem_cons.mpr ⟨wi_244, List.forall_mem_cons.mpr ⟨wi_243, List.forall_mem_cons.mpr ⟨wi_242, List.forall_mem_cons.mpr ⟨wi_241, List.forall_mem_cons.mpr ⟨wi_240, List.forall_mem_cons.mpr ⟨wi_239, List.forall_mem_cons.mpr ⟨wi_238, List.forall_mem_cons.mpr ⟨wi_237, List.forall_mem_cons.mpr ⟨wi_236, List.forall_mem_cons.mpr ⟨wi_235, List.forall_mem_cons.mpr ⟨wi_234, List.forall_mem_cons.mpr ⟨wi_233, List.forall_mem_cons.mpr ⟨wi_232, List.forall_mem_cons.mpr ⟨wi_231, List.forall_mem_cons.mpr ⟨wi_230, List.forall_mem_cons.mpr ⟨wi_229, List.forall_mem_cons.mpr ⟨wi_228, List.forall_mem_cons.mpr ⟨wi_227, List.forall_mem_cons.mpr ⟨wi_226, List.forall_mem_cons.mpr ⟨wi_225, List.forall_mem_cons.mpr ⟨wi_224, List.forall_mem_cons.mpr ⟨wi_223, List.forall_mem_cons.mpr ⟨wi_222, List.forall_mem_cons.mpr ⟨wi_221, List.forall_mem_cons.mpr ⟨wi_220, List.forall_mem_cons.mpr ⟨wi_219, List.forall_mem_cons.mpr ⟨wi_218, List.forall_mem_cons.mpr ⟨wi_217, List.forall_mem_cons.mpr ⟨wi_216, fun _ h => absurd h List.not_mem_nil⟩⟩⟩⟩⟩⟩⟩⟩⟩⟩⟩⟩⟩⟩⟩⟩⟩⟩⟩⟩⟩⟩⟩⟩⟩⟩⟩⟩⟩⟩⟩⟩⟩⟩⟩⟩⟩⟩⟩⟩⟩⟩⟩⟩
set_option maxRecDepth 20000 in
theorem iw_X11_init : ∀ w ∈ wsX11_init, w ∈ lw_tbl := List.forall_mem_cons.mpr ⟨wi_186, List.forall_mem_append.mpr ⟨List.forall_mem_append.mpr ⟨List.forall_mem_cons.mpr ⟨wi_207, List.forall_mem_cons.mpr ⟨wi_23, List.forall_mem_cons.mpr ⟨wi_22, List.forall_mem_cons.mpr ⟨wi_30, List.forall_mem_cons.mpr ⟨wi_206, List.forall_mem_cons.mpr ⟨wi_205, List.forall_mem_cons.mpr ⟨wi_204, List.forall_mem_cons.mpr ⟨wi_203, List.forall_mem_cons.mpr ⟨wi_202, List.forall_mem_cons.mpr ⟨wi_201, List.forall_mem_cons.mpr ⟨wi_200, List.forall_mem_cons.mpr ⟨wi_199, List.forall_mem_cons.mpr ⟨wi_198, List.forall_mem_cons.mpr ⟨wi_197, List.forall_mem_cons.mpr ⟨wi_196, List.forall_mem_cons.mpr ⟨wi_195, List.forall_mem_cons.mpr ⟨wi_194, List.forall_mem_cons.mpr ⟨wi_193, List.forall_mem_cons.mpr ⟨wi_192, List.forall_mem_cons.mpr ⟨wi_191, List.forall_mem_cons.mpr ⟨wi_190, List.forall_mem_cons.mpr ⟨wi_189, List.forall_mem_cons.mpr ⟨wi_188, List.forall_mem_cons.mpr ⟨wi_187, fun _ h => absurd h List.not_mem_nil⟩⟩⟩⟩⟩⟩⟩⟩⟩⟩⟩⟩⟩⟩⟩⟩⟩⟩⟩⟩⟩⟩⟩⟩, List.forall_mem_cons.mpr ⟨wi_215, List.forall_mem_cons.mpr ⟨wi_214, List.forall_mem_cons.mpr ⟨wi_213, List.forall_mem_cons.mpr ⟨wi_212, List.forall_mem_cons.mpr ⟨wi_211, List.forall_mem_cons.mpr ⟨wi_210, List.forall_mem_cons.mpr ⟨wi_209, List.forall_mem_cons.mpr ⟨wi_208, fun _ h => absurd h List.not_mem_nil⟩⟩⟩⟩⟩⟩⟩⟩⟩, iX11⟩⟩
set_option maxRecDepth 20000 in
theorem gW_X11_init : GoodIn lw_tbl wsX11_init := goodIn_sub iw_X11_init (by decide +kernel)
set_option maxRecDepth 20000 in
theorem wi_261 : Cond.code yX10_feed cX10_feed 6 (some .int) ∈ lw_tbl := List.mem_append_right _ (List.mem_append_right _ (List.mem_append_left _ (List.mem_of_getElem? (i := 39) rfl)))
set_option maxRecDepth 20000 in
theorem wi_262 : Cond.code yX7_appendNumber cX7_appendNumber 3 none ∈ lw_tbl := List.mem_append_right _ (List.mem_append_right _ (List.mem_append_left _ (List.mem_of_getElem? (i := 47) rfl)))
set_option maxRecDepth 20000 in
theorem wi_263 : Cond.selects RX7 yX7_appendNumber yX7_appendNumber ∈ lw_tbl := List.mem_append_left _ (List.mem_of_getElem? (i := 0) rfl)
set_option maxRecDepth 20000 in
theorem wi_264 : Cond.instanceMethod yX7_appendNumber ∈ lw_tbl := List.mem_append_right _ (List.mem_append_right _ (List.mem_append_left _ (List.mem_of_getElem? (i := 46) rfl)))
set_option maxRecDepth 20000 in
theorem wi_265 : Cond.methodLink RX7 23 yX7_appendNumber ∈ lw_tbl := List.mem_append_right _ (List.mem_append_right _ (List.mem_append_left _ (List.mem_of_getElem? (i := 44) rfl)))
set_option maxRecDepth 20000 in
theorem wi_266 : Cond.fieldLink RX7 15 "StillText$Tape" "length" "I" ∈ lw_tbl := List.mem_append_right _ (List.mem_append_left _ (List.mem_of_getElem? (i := 30) rfl))
set_option maxRecDepth 20000 in
theorem wi_267 : Cond.code yX7_append cX7_append 6 (some .int) ∈ lw_tbl := List.mem_append_right _ (List.mem_append_right _ (List.mem_append_left _ (List.mem_of_getElem? (i := 43) rfl)))
set_option maxRecDepth 20000 in
theorem wi_268 : Cond.selects RX7 yX7_append yX7_append ∈ lw_tbl := List.mem_append_right _ (List.mem_append_right _ (List.mem_append_left _ (List.mem_of_getElem? (i := 42) rfl)))
set_option maxRecDepth 20000 in
theorem wi_269 : Cond.instanceMethod yX7_append ∈ lw_tbl := List.mem_append_right _ (List.mem_append_right _ (List.mem_append_left _ (List.mem_of_getElem? (i := 41) rfl)))
set_option maxRecDepth 20000 in
theorem wi_270 : Cond.methodLink RX10 78 yX7_append ∈ lw_tbl := List.mem_append_right _ (List.mem_append_right _ (List.mem_append_left _ (List.mem_of_getElem? (i := 40) rfl)))
set_option maxRecDepth 20000 in
theorem iw_X10_feed : ∀ w ∈ wsX10_feed, w ∈ lw_tbl := List.forall_mem_cons.mpr ⟨wi_261, List.forall_mem_append.mpr ⟨List.forall_mem_append.mpr ⟨List.forall_mem_cons.mpr ⟨wi_18, List.forall_mem_cons.mpr ⟨wi_270, List.forall_mem_cons.mpr ⟨wi_269, List.forall_mem_cons.mpr ⟨wi_268, List.forall_mem_cons.mpr ⟨wi_19, List.forall_mem_cons.mpr ⟨wi_267, List.forall_mem_cons.mpr ⟨wi_266, List.forall_mem_cons.mpr ⟨wi_265, List.forall_mem_cons.mpr ⟨wi_264, List.forall_mem_cons.mpr ⟨wi_263, List.forall_mem_cons.mpr ⟨wi_262, List.forall_mem_cons.mpr ⟨wi_29, fun _ h => absurd h List.not_mem_nil⟩⟩⟩⟩⟩⟩⟩⟩⟩⟩⟩⟩, iX10⟩, iX7⟩⟩
set_option maxRecDepth 20000 in
theorem wi_271 : Cond.initialized RX10 ∈ lw_tbl := List.mem_append_right _ (List.mem_append_left _ (List.mem_of_getElem? (i := 1) rfl))
set_option maxRecDepth 20000 in
theorem wi_272 : Cond.selects RX10 yX10_feed yX10_feed ∈ lw_tbl := List.mem_append_right _ (List.mem_append_right _ (List.mem_append_left _ (List.mem_of_getElem? (i := 38) rfl)))
set_option maxRecDepth 20000 in
theorem wi_273 : Cond.instanceMethod yX10_feed ∈ lw_tbl := List.mem_append_right _ (List.mem_append_right _ (List.mem_append_left _ (List.mem_of_getElem? (i := 37) rfl)))
set_option maxRecDepth 20000 in
theorem wi_274 : Cond.methodLink RL 13 yX10_feed ∈ lw_tbl := List.mem_append_right _ (List.mem_append_right _ (List.mem_append_left _ (List.mem_of_getElem? (i := 36) rfl)))
set_option maxRecDepth 20000 in
theorem gW_X10_feed : GoodIn lw_tbl (wsV RL 13 RX10 yX10_feed wsX10_feed) := goodIn_sub (List.forall_mem_append.mpr ⟨List.forall_mem_cons.mpr ⟨wi_274, List.forall_mem_cons.mpr ⟨wi_273, List.forall_mem_cons.mpr ⟨wi_272, List.forall_mem_cons.mpr ⟨wi_271, fun _ h => absurd h List.not_mem_nil⟩⟩⟩⟩, iw_X10_feed⟩) (by decide +kernel)
set_option maxRecDepth 20000 in
theorem wi_275 : Cond.code yX11_feed cX11_feed 8 (some .int) ∈ lw_tbl := List.mem_append_right _ (List.mem_append_right _ (List.mem_append_right _ (List.mem_append_right _ (List.mem_append_left _ (List.mem_of_getElem? (i := 197) rfl)))))
set_option maxRecDepth 20000 in
theorem wi_276 : Cond.fieldLink RX11 95 "StillTextModel" "taped" "I" ∈ lw_tbl := List.mem_append_right _ (List.mem_append_right _ (List.mem_append_right _ (List.mem_append_right _ (List.mem_append_left _ (List.mem_of_getElem? (i := 67) rfl)))))
set_option maxRecDepth 20000 in
theorem iw_X11_feed : ∀ w ∈ wsX11_feed, w ∈ lw_tbl := List.forall_mem_cons.mpr ⟨wi_275, List.forall_mem_append.mpr ⟨List.forall_mem_cons.mpr ⟨wi_276, List.forall_mem_cons.mpr ⟨wi_202, fun _ h => absurd h List.not_mem_nil⟩⟩, iX11⟩⟩
set_option maxRecDepth 20000 in
theorem wi_277 : Cond.initialized RX11 ∈ lw_tbl := List.mem_append_right _ (List.mem_append_left _ (List.mem_of_getElem? (i := 12) rfl))
set_option maxRecDepth 20000 in
theorem wi_278 : Cond.selects RX11 yX11_feed yX11_feed ∈ lw_tbl := List.mem_append_right _ (List.mem_append_right _ (List.mem_append_right _ (List.mem_append_right _ (List.mem_append_left _ (List.mem_of_getElem? (i := 196) rfl)))))
set_option maxRecDepth 20000 in
theorem wi_279 : Cond.instanceMethod yX11_feed ∈ lw_tbl := List.mem_append_right _ (List.mem_append_right _ (List.mem_append_right _ (List.mem_append_right _ (List.mem_append_left _ (List.mem_of_getElem? (i := 195) rfl)))))
set_option maxRecDepth 20000 in
theorem wi_280 : Cond.methodLink RL 17 yX11_feed ∈ lw_tbl := List.mem_append_right _ (List.mem_append_right _ (List.mem_append_right _ (List.mem_append_right _ (List.mem_append_left _ (List.mem_of_getElem? (i := 194) rfl)))))
set_option maxRecDepth 20000 in
theorem gW_X11_feed : GoodIn lw_tbl (wsV RL 17 RX11 yX11_feed wsX11_feed) := goodIn_sub (List.forall_mem_append.mpr ⟨List.forall_mem_cons.mpr ⟨wi_280, List.forall_mem_cons.mpr ⟨wi_279, List.forall_mem_cons.mpr ⟨wi_278, List.forall_mem_cons.mpr ⟨wi_277, fun _ h => absurd h List.not_mem_nil⟩⟩⟩⟩, iw_X11_feed⟩) (by decide +kernel)
set_option maxRecDepth 20000 in
theorem wi_281 : Cond.code yX10_end cX10_end 2 (some .boolean) ∈ lw_tbl := List.mem_append_right _ (List.mem_append_right _ (List.mem_append_left _ (List.mem_of_getElem? (i := 51) rfl)))
set_option maxRecDepth 20000 in
theorem wi_282 : Cond.code yX10_within cX10_within 3 (some .boolean) ∈ lw_tbl := List.mem_append_right _ (List.mem_append_right _ (List.mem_append_left _ (List.mem_of_getElem? (i := 58) rfl)))
set_option maxRecDepth 20000 in
theorem wi_283 : Cond.static yX10_within ∈ lw_tbl := List.mem_append_right _ (List.mem_append_right _ (List.mem_append_left _ (List.mem_of_getElem? (i := 57) rfl)))
set_option maxRecDepth 20000 in
theorem wi_284 : Cond.code yX7_keepFirst cX7_keepFirst 2 (some .boolean) ∈ lw_tbl := List.mem_append_right _ (List.mem_append_right _ (List.mem_append_left _ (List.mem_of_getElem? (i := 55) rfl)))
set_option maxRecDepth 20000 in
theorem wi_285 : Cond.selects RX7 yX7_keepFirst yX7_keepFirst ∈ lw_tbl := List.mem_append_right _ (List.mem_append_right _ (List.mem_append_left _ (List.mem_of_getElem? (i := 54) rfl)))
set_option maxRecDepth 20000 in
theorem wi_286 : Cond.instanceMethod yX7_keepFirst ∈ lw_tbl := List.mem_append_right _ (List.mem_append_right _ (List.mem_append_left _ (List.mem_of_getElem? (i := 53) rfl)))
set_option maxRecDepth 20000 in
theorem wi_287 : Cond.methodLink RX10 82 yX7_keepFirst ∈ lw_tbl := List.mem_append_right _ (List.mem_append_right _ (List.mem_append_left _ (List.mem_of_getElem? (i := 52) rfl)))
set_option maxRecDepth 20000 in
theorem iw_X10_end : ∀ w ∈ wsX10_end, w ∈ lw_tbl := List.forall_mem_cons.mpr ⟨wi_281, List.forall_mem_append.mpr ⟨List.forall_mem_append.mpr ⟨List.forall_mem_cons.mpr ⟨wi_18, List.forall_mem_cons.mpr ⟨wi_287, List.forall_mem_cons.mpr ⟨wi_286, List.forall_mem_cons.mpr ⟨wi_285, List.forall_mem_cons.mpr ⟨wi_19, List.forall_mem_cons.mpr ⟨wi_284, List.forall_mem_cons.mpr ⟨wi_266, List.forall_mem_cons.mpr ⟨wi_283, List.forall_mem_cons.mpr ⟨wi_271, List.forall_mem_cons.mpr ⟨wi_282, fun _ h => absurd h List.not_mem_nil⟩⟩⟩⟩⟩⟩⟩⟩⟩⟩, iX10⟩, iX7⟩⟩
set_option maxRecDepth 20000 in
theorem wi_288 : Cond.selects RX10 yX10_end yX10_end ∈ lw_tbl := List.mem_append_right _ (List.mem_append_right _ (List.mem_append_left _ (List.mem_of_getElem? (i := 50) rfl)))
set_option maxRecDepth 20000 in
theorem wi_289 : Cond.instanceMethod yX10_end ∈ lw_tbl := List.mem_append_right _ (List.mem_append_right _ (List.mem_append_left _ (List.mem_of_getElem? (i := 49) rfl)))
set_option maxRecDepth 20000 in
theorem wi_290 : Cond.methodLink RL 18 yX10_end ∈ lw_tbl := List.mem_append_right _ (List.mem_append_right _ (List.mem_append_left _ (List.mem_of_getElem? (i := 48) rfl)))
set_option maxRecDepth 20000 in
theorem gW_X10_end : GoodIn lw_tbl (wsV RL 18 RX10 yX10_end wsX10_end) := goodIn_sub (List.forall_mem_append.mpr ⟨List.forall_mem_cons.mpr ⟨wi_290, List.forall_mem_cons.mpr ⟨wi_289, List.forall_mem_cons.mpr ⟨wi_288, List.forall_mem_cons.mpr ⟨wi_271, fun _ h => absurd h List.not_mem_nil⟩⟩⟩⟩, iw_X10_end⟩) (by decide +kernel)
set_option maxRecDepth 20000 in
theorem wi_291 : Cond.code yX11_end cX11_end 2 (some .boolean) ∈ lw_tbl := List.mem_append_right _ (List.mem_append_right _ (List.mem_append_right _ (List.mem_append_right _ (List.mem_append_left _ (List.mem_of_getElem? (i := 201) rfl)))))
set_option maxRecDepth 20000 in
theorem iw_X11_end : ∀ w ∈ wsX11_end, w ∈ lw_tbl := List.forall_mem_cons.mpr ⟨wi_291, List.forall_mem_append.mpr ⟨List.forall_mem_cons.mpr ⟨wi_276, fun _ h => absurd h List.not_mem_nil⟩, iX11⟩⟩
set_option maxRecDepth 20000 in
theorem wi_292 : Cond.selects RX11 yX11_end yX11_end ∈ lw_tbl := List.mem_append_right _ (List.mem_append_right _ (List.mem_append_right _ (List.mem_append_right _ (List.mem_append_left _ (List.mem_of_getElem? (i := 200) rfl)))))
set_option maxRecDepth 20000 in
theorem wi_293 : Cond.instanceMethod yX11_end ∈ lw_tbl := List.mem_append_right _ (List.mem_append_right _ (List.mem_append_right _ (List.mem_append_right _ (List.mem_append_left _ (List.mem_of_getElem? (i := 199) rfl)))))
set_option maxRecDepth 20000 in
theorem wi_294 : Cond.methodLink RL 22 yX11_end ∈ lw_tbl := List.mem_append_right _ (List.mem_append_right _ (List.mem_append_right _ (List.mem_append_right _ (List.mem_append_left _ (List.mem_of_getElem? (i := 198) rfl)))))
set_option maxRecDepth 20000 in
theorem gW_X11_end : GoodIn lw_tbl (wsV RL 22 RX11 yX11_end wsX11_end) := goodIn_sub (List.forall_mem_append.mpr ⟨List.forall_mem_cons.mpr ⟨wi_294, List.forall_mem_cons.mpr ⟨wi_293, List.forall_mem_cons.mpr ⟨wi_292, List.forall_mem_cons.mpr ⟨wi_277, fun _ h => absurd h List.not_mem_nil⟩⟩⟩⟩, iw_X11_end⟩) (by decide +kernel)
set_option maxRecDepth 20000 in
theorem wi_295 : Cond.code yX10_text cX10_text 1 (some .int) ∈ lw_tbl := List.mem_append_right _ (List.mem_append_right _ (List.mem_append_left _ (List.mem_of_getElem? (i := 62) rfl)))
set_option maxRecDepth 20000 in
theorem wi_296 : Cond.fieldLink RX9 21 "StillText$Units" "count" "I" ∈ lw_tbl := List.mem_append_right _ (List.mem_append_left _ (List.mem_of_getElem? (i := 52) rfl))
set_option maxRecDepth 20000 in
theorem wi_297 : Cond.code yX9_clear cX9_clear 1 none ∈ lw_tbl := List.mem_append_right _ (List.mem_append_right _ (List.mem_append_left _ (List.mem_of_getElem? (i := 74) rfl)))
set_option maxRecDepth 20000 in
theorem wi_298 : Cond.selects RX9 yX9_clear yX9_clear ∈ lw_tbl := List.mem_append_right _ (List.mem_append_right _ (List.mem_append_left _ (List.mem_of_getElem? (i := 73) rfl)))
set_option maxRecDepth 20000 in
theorem wi_299 : Cond.instanceMethod yX9_clear ∈ lw_tbl := List.mem_append_right _ (List.mem_append_right _ (List.mem_append_left _ (List.mem_of_getElem? (i := 72) rfl)))
set_option maxRecDepth 20000 in
theorem wi_300 : Cond.methodLink RX3 25 yX9_clear ∈ lw_tbl := List.mem_append_right _ (List.mem_append_right _ (List.mem_append_left _ (List.mem_of_getElem? (i := 71) rfl)))
set_option maxRecDepth 20000 in
theorem wi_301 : Cond.code yX3_read cX3_read 4 none ∈ lw_tbl := List.mem_append_right _ (List.mem_append_right _ (List.mem_append_left _ (List.mem_of_getElem? (i := 70) rfl)))
set_option maxRecDepth 20000 in
theorem wi_302 : Cond.selects RX3 yX3_read yX3_read ∈ lw_tbl := List.mem_append_right _ (List.mem_append_right _ (List.mem_append_left _ (List.mem_of_getElem? (i := 69) rfl)))
set_option maxRecDepth 20000 in
theorem wi_303 : Cond.instanceMethod yX3_read ∈ lw_tbl := List.mem_append_right _ (List.mem_append_right _ (List.mem_append_left _ (List.mem_of_getElem? (i := 68) rfl)))
set_option maxRecDepth 20000 in
theorem wi_304 : Cond.methodLink RX10 242 yX3_read ∈ lw_tbl := List.mem_append_right _ (List.mem_append_right _ (List.mem_append_left _ (List.mem_of_getElem? (i := 67) rfl)))
set_option maxRecDepth 20000 in
theorem wi_305 : Cond.code yX10_readTape cX10_readTape 1 none ∈ lw_tbl := List.mem_append_right _ (List.mem_append_right _ (List.mem_append_left _ (List.mem_of_getElem? (i := 66) rfl)))
set_option maxRecDepth 20000 in
theorem wi_306 : Cond.selects RX10 yX10_readTape yX10_readTape ∈ lw_tbl := List.mem_append_left _ (List.mem_of_getElem? (i := 1) rfl)
set_option maxRecDepth 20000 in
theorem wi_307 : Cond.instanceMethod yX10_readTape ∈ lw_tbl := List.mem_append_right _ (List.mem_append_right _ (List.mem_append_left _ (List.mem_of_getElem? (i := 65) rfl)))
set_option maxRecDepth 20000 in
theorem wi_308 : Cond.methodLink RX10 86 yX10_readTape ∈ lw_tbl := List.mem_append_right _ (List.mem_append_right _ (List.mem_append_left _ (List.mem_of_getElem? (i := 63) rfl)))
set_option maxRecDepth 20000 in
theorem wi_309 : Cond.selects RX3 yX3_refuse yX3_refuse ∈ lw_tbl := List.mem_append_left _ (List.mem_of_getElem? (i := 4) rfl)
set_option maxRecDepth 20000 in
theorem wi_310 : Cond.instanceMethod yX3_refuse ∈ lw_tbl := List.mem_append_right _ (List.mem_append_right _ (List.mem_append_left _ (List.mem_of_getElem? (i := 96) rfl)))
set_option maxRecDepth 20000 in
theorem wi_311 : Cond.methodLink RX3 42 yX3_refuse ∈ lw_tbl := List.mem_append_right _ (List.mem_append_right _ (List.mem_append_left _ (List.mem_of_getElem? (i := 94) rfl)))
set_option maxRecDepth 20000 in
theorem wi_312 : Cond.code yX3_stateBehindLetter cX3_stateBehindLetter 4 (some .int) ∈ lw_tbl := List.mem_append_right _ (List.mem_append_right _ (List.mem_append_left _ (List.mem_of_getElem? (i := 93) rfl)))
set_option maxRecDepth 20000 in
theorem wi_313 : Cond.selects RX3 yX3_stateBehindLetter yX3_stateBehindLetter ∈ lw_tbl := List.mem_append_left _ (List.mem_of_getElem? (i := 3) rfl)
set_option maxRecDepth 20000 in
theorem wi_314 : Cond.instanceMethod yX3_stateBehindLetter ∈ lw_tbl := List.mem_append_right _ (List.mem_append_right _ (List.mem_append_left _ (List.mem_of_getElem? (i := 92) rfl)))
set_option maxRecDepth 20000 in
theorem wi_315 : Cond.methodLink RX3 50 yX3_stateBehindLetter ∈ lw_tbl := List.mem_append_right _ (List.mem_append_right _ (List.mem_append_left _ (List.mem_of_getElem? (i := 90) rfl)))
set_option maxRecDepth 20000 in
theorem wi_316 : Cond.code yX10_isLetter cX10_isLetter 1 (some .boolean) ∈ lw_tbl := List.mem_append_right _ (List.mem_append_right _ (List.mem_append_left _ (List.mem_of_getElem? (i := 89) rfl)))
set_option maxRecDepth 20000 in
theorem wi_317 : Cond.static yX10_isLetter ∈ lw_tbl := List.mem_append_right _ (List.mem_append_right _ (List.mem_append_left _ (List.mem_of_getElem? (i := 88) rfl)))
set_option maxRecDepth 20000 in
theorem wi_318 : Cond.code yX3_stateBehind cX3_stateBehind 6 (some .int) ∈ lw_tbl := List.mem_append_right _ (List.mem_append_right _ (List.mem_append_left _ (List.mem_of_getElem? (i := 86) rfl)))
set_option maxRecDepth 20000 in
theorem wi_319 : Cond.selects RX3 yX3_stateBehind yX3_stateBehind ∈ lw_tbl := List.mem_append_left _ (List.mem_of_getElem? (i := 2) rfl)
set_option maxRecDepth 20000 in
theorem wi_320 : Cond.instanceMethod yX3_stateBehind ∈ lw_tbl := List.mem_append_right _ (List.mem_append_right _ (List.mem_append_left _ (List.mem_of_getElem? (i := 85) rfl)))
set_option maxRecDepth 20000 in
theorem wi_321 : Cond.methodLink RX3 38 yX3_stateBehind ∈ lw_tbl := List.mem_append_right _ (List.mem_append_right _ (List.mem_append_left _ (List.mem_of_getElem? (i := 83) rfl)))
set_option maxRecDepth 20000 in
theorem wi_322 : Cond.code yX7_byteAt cX7_byteAt 2 (some .int) ∈ lw_tbl := List.mem_append_right _ (List.mem_append_right _ (List.mem_append_left _ (List.mem_of_getElem? (i := 82) rfl)))
set_option maxRecDepth 20000 in
theorem wi_323 : Cond.selects RX7 yX7_byteAt yX7_byteAt ∈ lw_tbl := List.mem_append_right _ (List.mem_append_right _ (List.mem_append_left _ (List.mem_of_getElem? (i := 81) rfl)))
set_option maxRecDepth 20000 in
theorem wi_324 : Cond.instanceMethod yX7_byteAt ∈ lw_tbl := List.mem_append_right _ (List.mem_append_right _ (List.mem_append_left _ (List.mem_of_getElem? (i := 80) rfl)))
set_option maxRecDepth 20000 in
theorem wi_325 : Cond.methodLink RX3 34 yX7_byteAt ∈ lw_tbl := List.mem_append_right _ (List.mem_append_right _ (List.mem_append_left _ (List.mem_of_getElem? (i := 79) rfl)))
set_option maxRecDepth 20000 in
theorem wi_326 : Cond.code yX7_length cX7_length 1 (some .int) ∈ lw_tbl := List.mem_append_right _ (List.mem_append_right _ (List.mem_append_left _ (List.mem_of_getElem? (i := 78) rfl)))
set_option maxRecDepth 20000 in
theorem wi_327 : Cond.selects RX7 yX7_length yX7_length ∈ lw_tbl := List.mem_append_right _ (List.mem_append_right _ (List.mem_append_left _ (List.mem_of_getElem? (i := 77) rfl)))
set_option maxRecDepth 20000 in
theorem wi_328 : Cond.instanceMethod yX7_length ∈ lw_tbl := List.mem_append_right _ (List.mem_append_right _ (List.mem_append_left _ (List.mem_of_getElem? (i := 76) rfl)))
set_option maxRecDepth 20000 in
theorem wi_329 : Cond.methodLink RX3 28 yX7_length ∈ lw_tbl := List.mem_append_right _ (List.mem_append_right _ (List.mem_append_left _ (List.mem_of_getElem? (i := 75) rfl)))
set_option maxRecDepth 20000 in
theorem wi_330 : Cond.code yX3_hasFault cX3_hasFault 1 (some .boolean) ∈ lw_tbl := List.mem_append_right _ (List.mem_append_right _ (List.mem_append_left _ (List.mem_of_getElem? (i := 117) rfl)))
set_option maxRecDepth 20000 in
theorem wi_331 : Cond.selects RX3 yX3_hasFault yX3_hasFault ∈ lw_tbl := List.mem_append_right _ (List.mem_append_right _ (List.mem_append_left _ (List.mem_of_getElem? (i := 116) rfl)))
set_option maxRecDepth 20000 in
theorem wi_332 : Cond.instanceMethod yX3_hasFault ∈ lw_tbl := List.mem_append_right _ (List.mem_append_right _ (List.mem_append_left _ (List.mem_of_getElem? (i := 115) rfl)))
set_option maxRecDepth 20000 in
theorem wi_333 : Cond.methodLink RX10 89 yX3_hasFault ∈ lw_tbl := List.mem_append_right _ (List.mem_append_right _ (List.mem_append_left _ (List.mem_of_getElem? (i := 114) rfl)))
set_option maxRecDepth 20000 in
theorem wi_334 : Cond.code yX7_clear cX7_clear 1 none ∈ lw_tbl := List.mem_append_right _ (List.mem_append_right _ (List.mem_append_left _ (List.mem_of_getElem? (i := 113) rfl)))
set_option maxRecDepth 20000 in
theorem wi_335 : Cond.selects RX7 yX7_clear yX7_clear ∈ lw_tbl := List.mem_append_right _ (List.mem_append_right _ (List.mem_append_left _ (List.mem_of_getElem? (i := 112) rfl)))
set_option maxRecDepth 20000 in
theorem wi_336 : Cond.instanceMethod yX7_clear ∈ lw_tbl := List.mem_append_right _ (List.mem_append_right _ (List.mem_append_left _ (List.mem_of_getElem? (i := 111) rfl)))
set_option maxRecDepth 20000 in
theorem wi_337 : Cond.methodLink RX10 117 yX7_clear ∈ lw_tbl := List.mem_append_right _ (List.mem_append_right _ (List.mem_append_left _ (List.mem_of_getElem? (i := 110) rfl)))
set_option maxRecDepth 20000 in
theorem wi_338 : Cond.code yX9_close cX9_close 2 none ∈ lw_tbl := List.mem_append_right _ (List.mem_append_right _ (List.mem_append_left _ (List.mem_of_getElem? (i := 109) rfl)))
set_option maxRecDepth 20000 in
theorem wi_339 : Cond.selects RX9 yX9_close yX9_close ∈ lw_tbl := List.mem_append_right _ (List.mem_append_right _ (List.mem_append_left _ (List.mem_of_getElem? (i := 108) rfl)))
set_option maxRecDepth 20000 in
theorem wi_340 : Cond.instanceMethod yX9_close ∈ lw_tbl := List.mem_append_right _ (List.mem_append_right _ (List.mem_append_left _ (List.mem_of_getElem? (i := 107) rfl)))
set_option maxRecDepth 20000 in
theorem wi_341 : Cond.methodLink RX3 53 yX9_close ∈ lw_tbl := List.mem_append_right _ (List.mem_append_right _ (List.mem_append_left _ (List.mem_of_getElem? (i := 106) rfl)))
set_option maxRecDepth 20000 in
theorem wi_342 : Cond.code yX9_addLetter cX9_addLetter 3 (some .boolean) ∈ lw_tbl := List.mem_append_right _ (List.mem_append_right _ (List.mem_append_left _ (List.mem_of_getElem? (i := 105) rfl)))
set_option maxRecDepth 20000 in
theorem wi_343 : Cond.selects RX9 yX9_addLetter yX9_addLetter ∈ lw_tbl := List.mem_append_right _ (List.mem_append_right _ (List.mem_append_left _ (List.mem_of_getElem? (i := 104) rfl)))
set_option maxRecDepth 20000 in
theorem wi_344 : Cond.instanceMethod yX9_addLetter ∈ lw_tbl := List.mem_append_right _ (List.mem_append_right _ (List.mem_append_left _ (List.mem_of_getElem? (i := 103) rfl)))
set_option maxRecDepth 20000 in
theorem wi_345 : Cond.methodLink RX3 61 yX9_addLetter ∈ lw_tbl := List.mem_append_right _ (List.mem_append_right _ (List.mem_append_left _ (List.mem_of_getElem? (i := 102) rfl)))
set_option maxRecDepth 20000 in
theorem wi_346 : Cond.code yX9_open cX9_open 1 (some .boolean) ∈ lw_tbl := List.mem_append_right _ (List.mem_append_right _ (List.mem_append_left _ (List.mem_of_getElem? (i := 101) rfl)))
set_option maxRecDepth 20000 in
theorem wi_347 : Cond.selects RX9 yX9_open yX9_open ∈ lw_tbl := List.mem_append_right _ (List.mem_append_right _ (List.mem_append_left _ (List.mem_of_getElem? (i := 100) rfl)))
set_option maxRecDepth 20000 in
theorem wi_348 : Cond.instanceMethod yX9_open ∈ lw_tbl := List.mem_append_right _ (List.mem_append_right _ (List.mem_append_left _ (List.mem_of_getElem? (i := 99) rfl)))
set_option maxRecDepth 20000 in
theorem wi_349 : Cond.methodLink RX3 57 yX9_open ∈ lw_tbl := List.mem_append_right _ (List.mem_append_right _ (List.mem_append_left _ (List.mem_of_getElem? (i := 98) rfl)))
set_option maxRecDepth 20000 in
theorem wi_350 : Cond.code yX3_refuse cX3_refuse 3 none ∈ lw_tbl := List.mem_append_right _ (List.mem_append_right _ (List.mem_append_left _ (List.mem_of_getElem? (i := 97) rfl)))
set_option maxRecDepth 20000 in
theorem wi_351 : Cond.instanceMethod yX0_drop ∈ lw_tbl := List.mem_append_right _ (List.mem_append_right _ (List.mem_append_left _ (List.mem_of_getElem? (i := 138) rfl)))
set_option maxRecDepth 20000 in
theorem wi_352 : Cond.methodLink RX10 103 yX0_drop ∈ lw_tbl := List.mem_append_right _ (List.mem_append_right _ (List.mem_append_left _ (List.mem_of_getElem? (i := 137) rfl)))
set_option maxRecDepth 20000 in
theorem wi_353 : Cond.fieldLink RX5 25 "StillText$Setting" "there" "Z" ∈ lw_tbl := List.mem_append_right _ (List.mem_append_left _ (List.mem_of_getElem? (i := 143) rfl))
set_option maxRecDepth 20000 in
theorem wi_354 : Cond.code yX5_drop cX5_drop 1 none ∈ lw_tbl := List.mem_append_right _ (List.mem_append_right _ (List.mem_append_left _ (List.mem_of_getElem? (i := 136) rfl)))
set_option maxRecDepth 20000 in
theorem wi_355 : Cond.selects RX5 yX5_drop yX5_drop ∈ lw_tbl := List.mem_append_right _ (List.mem_append_right _ (List.mem_append_left _ (List.mem_of_getElem? (i := 135) rfl)))
set_option maxRecDepth 20000 in
theorem wi_356 : Cond.instanceMethod yX5_drop ∈ lw_tbl := List.mem_append_right _ (List.mem_append_right _ (List.mem_append_left _ (List.mem_of_getElem? (i := 134) rfl)))
set_option maxRecDepth 20000 in
theorem wi_357 : Cond.methodLink RX10 100 yX5_drop ∈ lw_tbl := List.mem_append_right _ (List.mem_append_right _ (List.mem_append_left _ (List.mem_of_getElem? (i := 133) rfl)))
set_option maxRecDepth 20000 in
theorem wi_358 : Cond.initialized "java/lang/System" ∈ lw_tbl := List.mem_append_right _ (List.mem_append_left _ (List.mem_of_getElem? (i := 13) rfl))
set_option maxRecDepth 20000 in
theorem wi_359 : Cond.static arraycopyName ∈ lw_tbl := List.mem_append_right _ (List.mem_append_right _ (List.mem_append_left _ (List.mem_of_getElem? (i := 131) rfl)))
set_option maxRecDepth 20000 in
theorem wi_360 : Cond.native arraycopyName ∈ lw_tbl := List.mem_append_right _ (List.mem_append_right _ (List.mem_append_left _ (List.mem_of_getElem? (i := 132) rfl)))
set_option maxRecDepth 20000 in
theorem wi_361 : Cond.methodLink RX9 42 arraycopyName ∈ lw_tbl := List.mem_append_right _ (List.mem_append_right _ (List.mem_append_left _ (List.mem_of_getElem? (i := 130) rfl)))
set_option maxRecDepth 20000 in
theorem wi_362 : Cond.code yX9_copyUnit cX9_copyUnit 4 none ∈ lw_tbl := List.mem_append_right _ (List.mem_append_right _ (List.mem_append_left _ (List.mem_of_getElem? (i := 129) rfl)))
set_option maxRecDepth 20000 in
theorem wi_363 : Cond.selects RX9 yX9_copyUnit yX9_copyUnit ∈ lw_tbl := List.mem_append_left _ (List.mem_of_getElem? (i := 5) rfl)
set_option maxRecDepth 20000 in
theorem wi_364 : Cond.instanceMethod yX9_copyUnit ∈ lw_tbl := List.mem_append_right _ (List.mem_append_right _ (List.mem_append_left _ (List.mem_of_getElem? (i := 128) rfl)))
set_option maxRecDepth 20000 in
theorem wi_365 : Cond.methodLink RX9 38 yX9_copyUnit ∈ lw_tbl := List.mem_append_right _ (List.mem_append_right _ (List.mem_append_left _ (List.mem_of_getElem? (i := 126) rfl)))
set_option maxRecDepth 20000 in
theorem wi_366 : Cond.code yX9_takeAll cX9_takeAll 3 none ∈ lw_tbl := List.mem_append_right _ (List.mem_append_right _ (List.mem_append_left _ (List.mem_of_getElem? (i := 125) rfl)))
set_option maxRecDepth 20000 in
theorem wi_367 : Cond.selects RX9 yX9_takeAll yX9_takeAll ∈ lw_tbl := List.mem_append_right _ (List.mem_append_right _ (List.mem_append_left _ (List.mem_of_getElem? (i := 124) rfl)))
set_option maxRecDepth 20000 in
theorem wi_368 : Cond.instanceMethod yX9_takeAll ∈ lw_tbl := List.mem_append_right _ (List.mem_append_right _ (List.mem_append_left _ (List.mem_of_getElem? (i := 123) rfl)))
set_option maxRecDepth 20000 in
theorem wi_369 : Cond.methodLink RX10 96 yX9_takeAll ∈ lw_tbl := List.mem_append_right _ (List.mem_append_right _ (List.mem_append_left _ (List.mem_of_getElem? (i := 122) rfl)))
set_option maxRecDepth 20000 in
theorem wi_370 : Cond.code yX3_units cX3_units 1 (some (.object "StillText$Units")) ∈ lw_tbl := List.mem_append_right _ (List.mem_append_right _ (List.mem_append_left _ (List.mem_of_getElem? (i := 121) rfl)))
set_option maxRecDepth 20000 in
theorem wi_371 : Cond.selects RX3 yX3_units yX3_units ∈ lw_tbl := List.mem_append_right _ (List.mem_append_right _ (List.mem_append_left _ (List.mem_of_getElem? (i := 120) rfl)))
set_option maxRecDepth 20000 in
theorem wi_372 : Cond.instanceMethod yX3_units ∈ lw_tbl := List.mem_append_right _ (List.mem_append_right _ (List.mem_append_left _ (List.mem_of_getElem? (i := 119) rfl)))
set_option maxRecDepth 20000 in
theorem wi_373 : Cond.methodLink RX10 93 yX3_units ∈ lw_tbl := List.mem_append_right _ (List.mem_append_right _ (List.mem_append_left _ (List.mem_of_getElem? (i := 118) rfl)))
set_option maxRecDepth 20000 in
theorem wi_374 : Cond.code yX9_count cX9_count 1 (some .int) ∈ lw_tbl := List.mem_append_right _ (List.mem_append_right _ (List.mem_append_left _ (List.mem_of_getElem? (i := 144) rfl)))
set_option maxRecDepth 20000 in
theorem wi_375 : Cond.selects RX9 yX9_count yX9_count ∈ lw_tbl := List.mem_append_right _ (List.mem_append_right _ (List.mem_append_left _ (List.mem_of_getElem? (i := 143) rfl)))
set_option maxRecDepth 20000 in
theorem wi_376 : Cond.instanceMethod yX9_count ∈ lw_tbl := List.mem_append_right _ (List.mem_append_right _ (List.mem_append_left _ (List.mem_of_getElem? (i := 142) rfl)))
set_option maxRecDepth 20000 in
theorem wi_377 : Cond.methodLink RX10 104 yX9_count ∈ lw_tbl := List.mem_append_right _ (List.mem_append_right _ (List.mem_append_left _ (List.mem_of_getElem? (i := 141) rfl)))
set_option maxRecDepth 20000 in
theorem wi_378 : Cond.fieldLink RX0 18 "StillText$Marks" "count" "I" ∈ lw_tbl := List.mem_append_right _ (List.mem_append_left _ (List.mem_of_getElem? (i := 205) rfl))
set_option maxRecDepth 20000 in
theorem wi_379 : Cond.code yX0_drop cX0_drop 1 none ∈ lw_tbl := List.mem_append_right _ (List.mem_append_right _ (List.mem_append_left _ (List.mem_of_getElem? (i := 140) rfl)))
set_option maxRecDepth 20000 in
theorem wi_380 : Cond.selects RX0 yX0_drop yX0_drop ∈ lw_tbl := List.mem_append_right _ (List.mem_append_right _ (List.mem_append_left _ (List.mem_of_getElem? (i := 139) rfl)))
set_option maxRecDepth 20000 in
theorem iw_X10_text : ∀ w ∈ wsX10_text, w ∈ lw_tbl := List.forall_mem_cons.mpr ⟨wi_295, List.forall_mem_append.mpr ⟨List.forall_mem_append.mpr ⟨List.forall_mem_append.mpr ⟨List.forall_mem_append.mpr ⟨List.forall_mem_append.mpr ⟨List.forall_mem_append.mpr ⟨List.forall_mem_append.mpr ⟨List.forall_mem_cons.mpr ⟨wi_14, List.forall_mem_cons.mpr ⟨wi_10, List.forall_mem_cons.mpr ⟨wi_2, List.forall_mem_cons.mpr ⟨wi_38, List.forall_mem_cons.mpr ⟨wi_308, List.forall_mem_cons.mpr ⟨wi_307, List.forall_mem_cons.mpr ⟨wi_306, List.forall_mem_cons.mpr ⟨wi_271, List.forall_mem_cons.mpr ⟨wi_305, List.forall_mem_cons.mpr ⟨wi_18, List.forall_mem_cons.mpr ⟨wi_304, List.forall_mem_cons.mpr ⟨wi_303, List.forall_mem_cons.mpr ⟨wi_302, List.forall_mem_cons.mpr ⟨wi_15, List.forall_mem_cons.mpr ⟨wi_301, List.forall_mem_cons.mpr ⟨wi_72, List.forall_mem_cons.mpr ⟨wi_71, List.forall_mem_cons.mpr ⟨wi_70, List.forall_mem_cons.mpr ⟨wi_300, List.forall_mem_cons.mpr ⟨wi_299, List.forall_mem_cons.mpr ⟨wi_298, List.forall_mem_cons.mpr ⟨wi_11, List.forall_mem_cons.mpr ⟨wi_297, List.forall_mem_cons.mpr ⟨wi_296, fun _ h => absurd h List.not_mem_nil⟩⟩⟩⟩⟩⟩⟩⟩⟩⟩⟩⟩⟩⟩⟩⟩⟩⟩⟩⟩⟩⟩⟩⟩, List.forall_mem_append.mpr ⟨List.forall_mem_cons.mpr ⟨wi_329, List.forall_mem_cons.mpr ⟨wi_328, List.forall_mem_cons.mpr ⟨wi_327, List.forall_mem_cons.mpr ⟨wi_19, List.forall_mem_cons.mpr ⟨wi_326, List.forall_mem_cons.mpr ⟨wi_266, List.forall_mem_cons.mpr ⟨wi_325, List.forall_mem_cons.mpr ⟨wi_324, List.forall_mem_cons.mpr ⟨wi_323, List.forall_mem_cons.mpr ⟨wi_322, List.forall_mem_cons.mpr ⟨wi_29, List.forall_mem_cons.mpr ⟨wi_321, List.forall_mem_cons.mpr ⟨wi_320, List.forall_mem_cons.mpr ⟨wi_319, List.forall_mem_cons.mpr ⟨wi_318, List.forall_mem_cons.mpr ⟨wi_317, List.forall_mem_cons.mpr ⟨wi_316, List.forall_mem_cons.mpr ⟨wi_315, List.forall_mem_cons.mpr ⟨wi_314, List.forall_mem_cons.mpr ⟨wi_313, List.forall_mem_cons.mpr ⟨wi_312, List.forall_mem_cons.mpr ⟨wi_311, List.forall_mem_cons.mpr ⟨wi_310, List.forall_mem_cons.mpr ⟨wi_309, fun _ h => absurd h List.not_mem_nil⟩⟩⟩⟩⟩⟩⟩⟩⟩⟩⟩⟩⟩⟩⟩⟩⟩⟩⟩⟩⟩⟩⟩⟩, List.forall_mem_append.mpr ⟨List.forall_mem_cons.mpr ⟨wi_350, List.forall_mem_cons.mpr ⟨wi_349, List.forall_mem_cons.mpr ⟨wi_348, List.forall_mem_cons.mpr ⟨wi_347, List.forall_mem_cons.mpr ⟨wi_346, List.forall_mem_cons.mpr ⟨wi_65, List.forall_mem_cons.mpr ⟨wi_64, List.forall_mem_cons.mpr ⟨wi_345, List.forall_mem_cons.mpr ⟨wi_344, List.forall_mem_cons.mpr ⟨wi_343, List.forall_mem_cons.mpr ⟨wi_342, List.forall_mem_cons.mpr ⟨wi_66, List.forall_mem_cons.mpr ⟨wi_341, List.forall_mem_cons.mpr ⟨wi_340, List.forall_mem_cons.mpr ⟨wi_339, List.forall_mem_cons.mpr ⟨wi_338, List.forall_mem_cons.mpr ⟨wi_337, List.forall_mem_cons.mpr ⟨wi_336, List.forall_mem_cons.mpr ⟨wi_335, List.forall_mem_cons.mpr ⟨wi_334, List.forall_mem_cons.mpr ⟨wi_333, List.forall_mem_cons.mpr ⟨wi_332, List.forall_mem_cons.mpr ⟨wi_331, List.forall_mem_cons.mpr ⟨wi_330, fun _ h => absurd h List.not_mem_nil⟩⟩⟩⟩⟩⟩⟩⟩⟩⟩⟩⟩⟩⟩⟩⟩⟩⟩⟩⟩⟩⟩⟩⟩, List.forall_mem_append.mpr ⟨List.forall_mem_cons.mpr ⟨wi_373, List.forall_mem_cons.mpr ⟨wi_372, List.forall_mem_cons.mpr ⟨wi_371, List.forall_mem_cons.mpr ⟨wi_370, List.forall_mem_cons.mpr ⟨wi_369, List.forall_mem_cons.mpr ⟨wi_368, List.forall_mem_cons.mpr ⟨wi_367, List.forall_mem_cons.mpr ⟨wi_366, List.forall_mem_cons.mpr ⟨wi_365, List.forall_mem_cons.mpr ⟨wi_364, List.forall_mem_cons.mpr ⟨wi_363, List.forall_mem_cons.mpr ⟨wi_362, List.forall_mem_cons.mpr ⟨wi_361, List.forall_mem_cons.mpr ⟨wi_360, List.forall_mem_cons.mpr ⟨wi_359, List.forall_mem_cons.mpr ⟨wi_358, List.forall_mem_cons.mpr ⟨wi_357, List.forall_mem_cons.mpr ⟨wi_356, List.forall_mem_cons.mpr ⟨wi_355, List.forall_mem_cons.mpr ⟨wi_3, List.forall_mem_cons.mpr ⟨wi_354, List.forall_mem_cons.mpr ⟨wi_353, List.forall_mem_cons.mpr ⟨wi_352, List.forall_mem_cons.mpr ⟨wi_351, fun _ h => absurd h List.not_mem_nil⟩⟩⟩⟩⟩⟩⟩⟩⟩⟩⟩⟩⟩⟩⟩⟩⟩⟩⟩⟩⟩⟩⟩⟩, List.forall_mem_cons.mpr ⟨wi_380, List.forall_mem_cons.mpr ⟨wi_39, List.forall_mem_cons.mpr ⟨wi_379, List.forall_mem_cons.mpr ⟨wi_378, List.forall_mem_cons.mpr ⟨wi_377, List.forall_mem_cons.mpr ⟨wi_376, List.forall_mem_cons.mpr ⟨wi_375, List.forall_mem_cons.mpr ⟨wi_374, fun _ h => absurd h List.not_mem_nil⟩⟩⟩⟩⟩⟩⟩⟩⟩⟩⟩⟩, iX10⟩, iX3⟩, iX9⟩, iX7⟩, iX5⟩, iX0⟩⟩
set_option maxRecDepth 20000 in
theorem wi_381 : Cond.selects RX10 yX10_text yX10_text ∈ lw_tbl := List.mem_append_right _ (List.mem_append_right _ (List.mem_append_left _ (List.mem_of_getElem? (i := 61) rfl)))
set_option maxRecDepth 20000 in
theorem wi_382 : Cond.instanceMethod yX10_text ∈ lw_tbl := List.mem_append_right _ (List.mem_append_right _ (List.mem_append_left _ (List.mem_of_getElem? (i := 60) rfl)))
set_option maxRecDepth 20000 in
theorem wi_383 : Cond.methodLink RL 23 yX10_text ∈ lw_tbl := List.mem_append_right _ (List.mem_append_right _ (List.mem_append_left _ (List.mem_of_getElem? (i := 59) rfl)))
set_option maxRecDepth 20000 in
theorem gW_X10_text : GoodIn lw_tbl (wsV RL 23 RX10 yX10_text wsX10_text) := goodIn_sub (List.forall_mem_append.mpr ⟨List.forall_mem_cons.mpr ⟨wi_383, List.forall_mem_cons.mpr ⟨wi_382, List.forall_mem_cons.mpr ⟨wi_381, List.forall_mem_cons.mpr ⟨wi_271, fun _ h => absurd h List.not_mem_nil⟩⟩⟩⟩, iw_X10_text⟩) (by decide +kernel)
set_option maxRecDepth 20000 in
theorem wi_384 : Cond.code yX11_text cX11_text 2 (some .int) ∈ lw_tbl := List.mem_append_right _ (List.mem_append_right _ (List.mem_append_right _ (List.mem_append_right _ (List.mem_append_left _ (List.mem_of_getElem? (i := 205) rfl)))))
set_option maxRecDepth 20000 in
theorem wi_385 : Cond.fieldLink RX11 98 "StillTextModel" "fault" "I" ∈ lw_tbl := List.mem_append_right _ (List.mem_append_right _ (List.mem_append_right _ (List.mem_append_right _ (List.mem_append_left _ (List.mem_of_getElem? (i := 68) rfl)))))
set_option maxRecDepth 20000 in
theorem wi_386 : Cond.code yX11_fails cX11_fails 3 (some .boolean) ∈ lw_tbl := List.mem_append_right _ (List.mem_append_right _ (List.mem_append_right _ (List.mem_append_right _ (List.mem_append_left _ (List.mem_of_getElem? (i := 216) rfl)))))
set_option maxRecDepth 20000 in
theorem wi_387 : Cond.selects RX11 yX11_fails yX11_fails ∈ lw_tbl := List.mem_append_left _ (List.mem_of_getElem? (i := 21) rfl)
set_option maxRecDepth 20000 in
theorem wi_388 : Cond.instanceMethod yX11_fails ∈ lw_tbl := List.mem_append_right _ (List.mem_append_right _ (List.mem_append_right _ (List.mem_append_right _ (List.mem_append_left _ (List.mem_of_getElem? (i := 215) rfl)))))
set_option maxRecDepth 20000 in
theorem wi_389 : Cond.methodLink RX11 108 yX11_fails ∈ lw_tbl := List.mem_append_right _ (List.mem_append_right _ (List.mem_append_right _ (List.mem_append_right _ (List.mem_append_left _ (List.mem_of_getElem? (i := 213) rfl)))))
set_option maxRecDepth 20000 in
theorem wi_390 : Cond.code yX11_isLetter cX11_isLetter 1 (some .boolean) ∈ lw_tbl := List.mem_append_right _ (List.mem_append_right _ (List.mem_append_right _ (List.mem_append_right _ (List.mem_append_left _ (List.mem_of_getElem? (i := 212) rfl)))))
set_option maxRecDepth 20000 in
theorem wi_391 : Cond.static yX11_isLetter ∈ lw_tbl := List.mem_append_right _ (List.mem_append_right _ (List.mem_append_right _ (List.mem_append_right _ (List.mem_append_left _ (List.mem_of_getElem? (i := 211) rfl)))))
set_option maxRecDepth 20000 in
theorem wi_392 : Cond.methodLink RX11 104 yX11_isLetter ∈ lw_tbl := List.mem_append_right _ (List.mem_append_right _ (List.mem_append_right _ (List.mem_append_right _ (List.mem_append_left _ (List.mem_of_getElem? (i := 210) rfl)))))
set_option maxRecDepth 20000 in
theorem wi_393 : Cond.code yX11_isText cX11_isText 5 (some .boolean) ∈ lw_tbl := List.mem_append_right _ (List.mem_append_right _ (List.mem_append_right _ (List.mem_append_right _ (List.mem_append_left _ (List.mem_of_getElem? (i := 209) rfl)))))
set_option maxRecDepth 20000 in
theorem wi_394 : Cond.selects RX11 yX11_isText yX11_isText ∈ lw_tbl := List.mem_append_left _ (List.mem_of_getElem? (i := 20) rfl)
set_option maxRecDepth 20000 in
theorem wi_395 : Cond.instanceMethod yX11_isText ∈ lw_tbl := List.mem_append_right _ (List.mem_append_right _ (List.mem_append_right _ (List.mem_append_right _ (List.mem_append_left _ (List.mem_of_getElem? (i := 208) rfl)))))
set_option maxRecDepth 20000 in
theorem wi_396 : Cond.methodLink RX11 121 yX11_isText ∈ lw_tbl := List.mem_append_right _ (List.mem_append_right _ (List.mem_append_right _ (List.mem_append_right _ (List.mem_append_left _ (List.mem_of_getElem? (i := 206) rfl)))))
set_option maxRecDepth 20000 in
theorem wi_397 : Cond.fieldLink RX11 139 "StillTextModel" "marks" "I" ∈ lw_tbl := List.mem_append_right _ (List.mem_append_right _ (List.mem_append_right _ (List.mem_append_right _ (List.mem_append_left _ (List.mem_of_getElem? (i := 94) rfl)))))
set_option maxRecDepth 20000 in
theorem wi_398 : Cond.fieldLink RX11 136 "StillTextModel" "isFresh" "Z" ∈ lw_tbl := List.mem_append_right _ (List.mem_append_right _ (List.mem_append_right _ (List.mem_append_right _ (List.mem_append_left _ (List.mem_of_getElem? (i := 86) rfl)))))
set_option maxRecDepth 20000 in
theorem wi_399 : Cond.fieldLink RX11 132 "StillTextModel" "isSet" "Z" ∈ lw_tbl := List.mem_append_right _ (List.mem_append_right _ (List.mem_append_right _ (List.mem_append_right _ (List.mem_append_left _ (List.mem_of_getElem? (i := 85) rfl)))))
set_option maxRecDepth 20000 in
theorem wi_400 : Cond.fieldLink RX11 118 "StillTextModel" "units" "I" ∈ lw_tbl := List.mem_append_right _ (List.mem_append_right _ (List.mem_append_right _ (List.mem_append_right _ (List.mem_append_left _ (List.mem_of_getElem? (i := 61) rfl)))))
set_option maxRecDepth 20000 in
theorem wi_401 : Cond.fieldLink RX11 101 "StillTextModel" "reads" "I" ∈ lw_tbl := List.mem_append_right _ (List.mem_append_right _ (List.mem_append_right _ (List.mem_append_right _ (List.mem_append_left _ (List.mem_of_getElem? (i := 70) rfl)))))
set_option maxRecDepth 20000 in
theorem wi_402 : Cond.code yX11_words cX11_words 3 none ∈ lw_tbl := List.mem_append_right _ (List.mem_append_right _ (List.mem_append_right _ (List.mem_append_right _ (List.mem_append_left _ (List.mem_of_getElem? (i := 230) rfl)))))
set_option maxRecDepth 20000 in
theorem wi_403 : Cond.selects RX11 yX11_words yX11_words ∈ lw_tbl := List.mem_append_left _ (List.mem_of_getElem? (i := 23) rfl)
set_option maxRecDepth 20000 in
theorem wi_404 : Cond.instanceMethod yX11_words ∈ lw_tbl := List.mem_append_right _ (List.mem_append_right _ (List.mem_append_right _ (List.mem_append_right _ (List.mem_append_left _ (List.mem_of_getElem? (i := 229) rfl)))))
set_option maxRecDepth 20000 in
theorem wi_405 : Cond.methodLink RX11 129 yX11_words ∈ lw_tbl := List.mem_append_right _ (List.mem_append_right _ (List.mem_append_right _ (List.mem_append_right _ (List.mem_append_left _ (List.mem_of_getElem? (i := 227) rfl)))))
set_option maxRecDepth 20000 in
theorem wi_406 : Cond.code yX11_takes cX11_takes 4 none ∈ lw_tbl := List.mem_append_right _ (List.mem_append_right _ (List.mem_append_right _ (List.mem_append_right _ (List.mem_append_left _ (List.mem_of_getElem? (i := 226) rfl)))))
set_option maxRecDepth 20000 in
theorem wi_407 : Cond.selects RX11 yX11_takes yX11_takes ∈ lw_tbl := List.mem_append_left _ (List.mem_of_getElem? (i := 22) rfl)
set_option maxRecDepth 20000 in
theorem wi_408 : Cond.instanceMethod yX11_takes ∈ lw_tbl := List.mem_append_right _ (List.mem_append_right _ (List.mem_append_right _ (List.mem_append_right _ (List.mem_append_left _ (List.mem_of_getElem? (i := 225) rfl)))))
set_option maxRecDepth 20000 in
theorem wi_409 : Cond.methodLink RX11 125 yX11_takes ∈ lw_tbl := List.mem_append_right _ (List.mem_append_right _ (List.mem_append_right _ (List.mem_append_right _ (List.mem_append_left _ (List.mem_of_getElem? (i := 223) rfl)))))
set_option maxRecDepth 20000 in
theorem wi_410 : Cond.code yX11_isBlank cX11_isBlank 1 (some .boolean) ∈ lw_tbl := List.mem_append_right _ (List.mem_append_right _ (List.mem_append_right _ (List.mem_append_right _ (List.mem_append_left _ (List.mem_of_getElem? (i := 222) rfl)))))
set_option maxRecDepth 20000 in
theorem wi_411 : Cond.static yX11_isBlank ∈ lw_tbl := List.mem_append_right _ (List.mem_append_right _ (List.mem_append_right _ (List.mem_append_right _ (List.mem_append_left _ (List.mem_of_getElem? (i := 221) rfl)))))
set_option maxRecDepth 20000 in
theorem wi_412 : Cond.methodLink RX11 115 yX11_isBlank ∈ lw_tbl := List.mem_append_right _ (List.mem_append_right _ (List.mem_append_right _ (List.mem_append_right _ (List.mem_append_left _ (List.mem_of_getElem? (i := 220) rfl)))))
set_option maxRecDepth 20000 in
theorem wi_413 : Cond.code yX11_isEnd cX11_isEnd 1 (some .boolean) ∈ lw_tbl := List.mem_append_right _ (List.mem_append_right _ (List.mem_append_right _ (List.mem_append_right _ (List.mem_append_left _ (List.mem_of_getElem? (i := 219) rfl)))))
set_option maxRecDepth 20000 in
theorem wi_414 : Cond.static yX11_isEnd ∈ lw_tbl := List.mem_append_right _ (List.mem_append_right _ (List.mem_append_right _ (List.mem_append_right _ (List.mem_append_left _ (List.mem_of_getElem? (i := 218) rfl)))))
set_option maxRecDepth 20000 in
theorem wi_415 : Cond.methodLink RX11 112 yX11_isEnd ∈ lw_tbl := List.mem_append_right _ (List.mem_append_right _ (List.mem_append_right _ (List.mem_append_right _ (List.mem_append_left _ (List.mem_of_getElem? (i := 217) rfl)))))
set_option maxRecDepth 20000 in
theorem iw_X11_text : ∀ w ∈ wsX11_text, w ∈ lw_tbl := List.forall_mem_cons.mpr ⟨wi_384, List.forall_mem_append.mpr ⟨List.forall_mem_append.mpr ⟨List.forall_mem_cons.mpr ⟨wi_401, List.forall_mem_cons.mpr ⟨wi_400, List.forall_mem_cons.mpr ⟨wi_399, List.forall_mem_cons.mpr ⟨wi_398, List.forall_mem_cons.mpr ⟨wi_397, List.forall_mem_cons.mpr ⟨wi_396, List.forall_mem_cons.mpr ⟨wi_395, List.forall_mem_cons.mpr ⟨wi_394, List.forall_mem_cons.mpr ⟨wi_277, List.forall_mem_cons.mpr ⟨wi_393, List.forall_mem_cons.mpr ⟨wi_276, List.forall_mem_cons.mpr ⟨wi_202, List.forall_mem_cons.mpr ⟨wi_200, List.forall_mem_cons.mpr ⟨wi_198, List.forall_mem_cons.mpr ⟨wi_199, List.forall_mem_cons.mpr ⟨wi_392, List.forall_mem_cons.mpr ⟨wi_391, List.forall_mem_cons.mpr ⟨wi_390, List.forall_mem_cons.mpr ⟨wi_389, List.forall_mem_cons.mpr ⟨wi_388, List.forall_mem_cons.mpr ⟨wi_387, List.forall_mem_cons.mpr ⟨wi_386, List.forall_mem_cons.mpr ⟨wi_385, List.forall_mem_cons.mpr ⟨wi_201, fun _ h => absurd h List.not_mem_nil⟩⟩⟩⟩⟩⟩⟩⟩⟩⟩⟩⟩⟩⟩⟩⟩⟩⟩⟩⟩⟩⟩⟩⟩, List.forall_mem_cons.mpr ⟨wi_415, List.forall_mem_cons.mpr ⟨wi_414, List.forall_mem_cons.mpr ⟨wi_413, List.forall_mem_cons.mpr ⟨wi_412, List.forall_mem_cons.mpr ⟨wi_411, List.forall_mem_cons.mpr ⟨wi_410, List.forall_mem_cons.mpr ⟨wi_409, List.forall_mem_cons.mpr ⟨wi_408, List.forall_mem_cons.mpr ⟨wi_407, List.forall_mem_cons.mpr ⟨wi_406, List.forall_mem_cons.mpr ⟨wi_206, List.forall_mem_cons.mpr ⟨wi_204, List.forall_mem_cons.mpr ⟨wi_205, List.forall_mem_cons.mpr ⟨wi_405, List.forall_mem_cons.mpr ⟨wi_404, List.forall_mem_cons.mpr ⟨wi_403, List.forall_mem_cons.mpr ⟨wi_402, List.forall_mem_cons.mpr ⟨wi_203, fun _ h => absurd h List.not_mem_nil⟩⟩⟩⟩⟩⟩⟩⟩⟩⟩⟩⟩⟩⟩⟩⟩⟩⟩⟩, iX11⟩⟩
set_option maxRecDepth 20000 in
theorem wi_416 : Cond.selects RX11 yX11_text yX11_text ∈ lw_tbl := List.mem_append_right _ (List.mem_append_right _ (List.mem_append_right _ (List.mem_append_right _ (List.mem_append_left _ (List.mem_of_getElem? (i := 204) rfl)))))
set_option maxRecDepth 20000 in
theorem wi_417 : Cond.instanceMethod yX11_text ∈ lw_tbl := List.mem_append_right _ (List.mem_append_right _ (List.mem_append_right _ (List.mem_append_right _ (List.mem_append_left _ (List.mem_of_getElem? (i := 203) rfl)))))
set_option maxRecDepth 20000 in
theorem wi_418 : Cond.methodLink RL 27 yX11_text ∈ lw_tbl := List.mem_append_right _ (List.mem_append_right _ (List.mem_append_right _ (List.mem_append_right _ (List.mem_append_left _ (List.mem_of_getElem? (i := 202) rfl)))))
set_option maxRecDepth 20000 in
theorem gW_X11_text : GoodIn lw_tbl (wsV RL 27 RX11 yX11_text wsX11_text) := goodIn_sub (List.forall_mem_append.mpr ⟨List.forall_mem_cons.mpr ⟨wi_418, List.forall_mem_cons.mpr ⟨wi_417, List.forall_mem_cons.mpr ⟨wi_416, List.forall_mem_cons.mpr ⟨wi_277, fun _ h => absurd h List.not_mem_nil⟩⟩⟩⟩, iw_X11_text⟩) (by decide +kernel)
set_option maxRecDepth 20000 in
theorem wi_419 : Cond.code yX10_fault cX10_fault 2 (some .int) ∈ lw_tbl := List.mem_append_right _ (List.mem_append_right _ (List.mem_append_left _ (List.mem_of_getElem? (i := 148) rfl)))
set_option maxRecDepth 20000 in
theorem wi_420 : Cond.code yX3_place cX3_place 1 (some .int) ∈ lw_tbl := List.mem_append_right _ (List.mem_append_right _ (List.mem_append_left _ (List.mem_of_getElem? (i := 156) rfl)))
set_option maxRecDepth 20000 in
theorem wi_421 : Cond.selects RX3 yX3_place yX3_place ∈ lw_tbl := List.mem_append_right _ (List.mem_append_right _ (List.mem_append_left _ (List.mem_of_getElem? (i := 155) rfl)))
set_option maxRecDepth 20000 in
theorem wi_422 : Cond.instanceMethod yX3_place ∈ lw_tbl := List.mem_append_right _ (List.mem_append_right _ (List.mem_append_left _ (List.mem_of_getElem? (i := 154) rfl)))
set_option maxRecDepth 20000 in
theorem wi_423 : Cond.methodLink RX10 111 yX3_place ∈ lw_tbl := List.mem_append_right _ (List.mem_append_right _ (List.mem_append_left _ (List.mem_of_getElem? (i := 153) rfl)))
set_option maxRecDepth 20000 in
theorem wi_424 : Cond.code yX3_kind cX3_kind 1 (some .int) ∈ lw_tbl := List.mem_append_right _ (List.mem_append_right _ (List.mem_append_left _ (List.mem_of_getElem? (i := 152) rfl)))
set_option maxRecDepth 20000 in
theorem wi_425 : Cond.selects RX3 yX3_kind yX3_kind ∈ lw_tbl := List.mem_append_right _ (List.mem_append_right _ (List.mem_append_left _ (List.mem_of_getElem? (i := 151) rfl)))
set_option maxRecDepth 20000 in
theorem wi_426 : Cond.instanceMethod yX3_kind ∈ lw_tbl := List.mem_append_right _ (List.mem_append_right _ (List.mem_append_left _ (List.mem_of_getElem? (i := 150) rfl)))
set_option maxRecDepth 20000 in
theorem wi_427 : Cond.methodLink RX10 108 yX3_kind ∈ lw_tbl := List.mem_append_right _ (List.mem_append_right _ (List.mem_append_left _ (List.mem_of_getElem? (i := 149) rfl)))
set_option maxRecDepth 20000 in
theorem iw_X10_fault : ∀ w ∈ wsX10_fault, w ∈ lw_tbl := List.forall_mem_cons.mpr ⟨wi_419, List.forall_mem_append.mpr ⟨List.forall_mem_append.mpr ⟨List.forall_mem_cons.mpr ⟨wi_14, List.forall_mem_cons.mpr ⟨wi_427, List.forall_mem_cons.mpr ⟨wi_426, List.forall_mem_cons.mpr ⟨wi_425, List.forall_mem_cons.mpr ⟨wi_15, List.forall_mem_cons.mpr ⟨wi_424, List.forall_mem_cons.mpr ⟨wi_71, List.forall_mem_cons.mpr ⟨wi_423, List.forall_mem_cons.mpr ⟨wi_422, List.forall_mem_cons.mpr ⟨wi_421, List.forall_mem_cons.mpr ⟨wi_420, List.forall_mem_cons.mpr ⟨wi_70, fun _ h => absurd h List.not_mem_nil⟩⟩⟩⟩⟩⟩⟩⟩⟩⟩⟩⟩, iX10⟩, iX3⟩⟩
set_option maxRecDepth 20000 in
theorem wi_428 : Cond.selects RX10 yX10_fault yX10_fault ∈ lw_tbl := List.mem_append_right _ (List.mem_append_right _ (List.mem_append_left _ (List.mem_of_getElem? (i := 147) rfl)))
set_option maxRecDepth 20000 in
theorem wi_429 : Cond.instanceMethod yX10_fault ∈ lw_tbl := List.mem_append_right _ (List.mem_append_right _ (List.mem_append_left _ (List.mem_of_getElem? (i := 146) rfl)))
set_option maxRecDepth 20000 in
theorem wi_430 : Cond.methodLink RL 28 yX10_fault ∈ lw_tbl := List.mem_append_right _ (List.mem_append_right _ (List.mem_append_left _ (List.mem_of_getElem? (i := 145) rfl)))
set_option maxRecDepth 20000 in
theorem gW_X10_fault : GoodIn lw_tbl (wsV RL 28 RX10 yX10_fault wsX10_fault) := goodIn_sub (List.forall_mem_append.mpr ⟨List.forall_mem_cons.mpr ⟨wi_430, List.forall_mem_cons.mpr ⟨wi_429, List.forall_mem_cons.mpr ⟨wi_428, List.forall_mem_cons.mpr ⟨wi_271, fun _ h => absurd h List.not_mem_nil⟩⟩⟩⟩, iw_X10_fault⟩) (by decide +kernel)
set_option maxRecDepth 20000 in
theorem wi_431 : Cond.code yX11_fault cX11_fault 2 (some .int) ∈ lw_tbl := List.mem_append_right _ (List.mem_append_right _ (List.mem_append_right _ (List.mem_append_right _ (List.mem_append_left _ (List.mem_of_getElem? (i := 234) rfl)))))
set_option maxRecDepth 20000 in
theorem iw_X11_fault : ∀ w ∈ wsX11_fault, w ∈ lw_tbl := List.forall_mem_cons.mpr ⟨wi_431, List.forall_mem_append.mpr ⟨List.forall_mem_cons.mpr ⟨wi_385, List.forall_mem_cons.mpr ⟨wi_201, fun _ h => absurd h List.not_mem_nil⟩⟩, iX11⟩⟩
set_option maxRecDepth 20000 in
theorem wi_432 : Cond.selects RX11 yX11_fault yX11_fault ∈ lw_tbl := List.mem_append_right _ (List.mem_append_right _ (List.mem_append_right _ (List.mem_append_right _ (List.mem_append_left _ (List.mem_of_getElem? (i := 233) rfl)))))
set_option maxRecDepth 20000 in
theorem wi_433 : Cond.instanceMethod yX11_fault ∈ lw_tbl := List.mem_append_right _ (List.mem_append_right _ (List.mem_append_right _ (List.mem_append_right _ (List.mem_append_left _ (List.mem_of_getElem? (i := 232) rfl)))))
set_option maxRecDepth 20000 in
theorem wi_434 : Cond.methodLink RL 32 yX11_fault ∈ lw_tbl := List.mem_append_right _ (List.mem_append_right _ (List.mem_append_right _ (List.mem_append_right _ (List.mem_append_left _ (List.mem_of_getElem? (i := 231) rfl)))))
set_option maxRecDepth 20000 in
theorem gW_X11_fault : GoodIn lw_tbl (wsV RL 32 RX11 yX11_fault wsX11_fault) := goodIn_sub (List.forall_mem_append.mpr ⟨List.forall_mem_cons.mpr ⟨wi_434, List.forall_mem_cons.mpr ⟨wi_433, List.forall_mem_cons.mpr ⟨wi_432, List.forall_mem_cons.mpr ⟨wi_277, fun _ h => absurd h List.not_mem_nil⟩⟩⟩⟩, iw_X11_fault⟩) (by decide +kernel)
set_option maxRecDepth 20000 in
theorem wi_435 : Cond.code yX10_put cX10_put 3 (some .int) ∈ lw_tbl := List.mem_append_right _ (List.mem_append_right _ (List.mem_append_left _ (List.mem_of_getElem? (i := 160) rfl)))
set_option maxRecDepth 20000 in
theorem wi_436 : Cond.code yX9_behind cX9_behind 2 (some .int) ∈ lw_tbl := List.mem_append_right _ (List.mem_append_right _ (List.mem_append_left _ (List.mem_of_getElem? (i := 176) rfl)))
set_option maxRecDepth 20000 in
theorem wi_437 : Cond.selects RX9 yX9_behind yX9_behind ∈ lw_tbl := List.mem_append_right _ (List.mem_append_right _ (List.mem_append_left _ (List.mem_of_getElem? (i := 175) rfl)))
set_option maxRecDepth 20000 in
theorem wi_438 : Cond.instanceMethod yX9_behind ∈ lw_tbl := List.mem_append_right _ (List.mem_append_right _ (List.mem_append_left _ (List.mem_of_getElem? (i := 174) rfl)))
set_option maxRecDepth 20000 in
theorem wi_439 : Cond.methodLink RX9 29 yX9_behind ∈ lw_tbl := List.mem_append_right _ (List.mem_append_right _ (List.mem_append_left _ (List.mem_of_getElem? (i := 173) rfl)))
set_option maxRecDepth 20000 in
theorem wi_440 : Cond.code yX9_goesOn cX9_goesOn 2 (some .boolean) ∈ lw_tbl := List.mem_append_right _ (List.mem_append_right _ (List.mem_append_left _ (List.mem_of_getElem? (i := 172) rfl)))
set_option maxRecDepth 20000 in
theorem wi_441 : Cond.selects RX9 yX9_goesOn yX9_goesOn ∈ lw_tbl := List.mem_append_right _ (List.mem_append_right _ (List.mem_append_left _ (List.mem_of_getElem? (i := 171) rfl)))
set_option maxRecDepth 20000 in
theorem wi_442 : Cond.instanceMethod yX9_goesOn ∈ lw_tbl := List.mem_append_right _ (List.mem_append_right _ (List.mem_append_left _ (List.mem_of_getElem? (i := 170) rfl)))
set_option maxRecDepth 20000 in
theorem wi_443 : Cond.methodLink RX9 32 yX9_goesOn ∈ lw_tbl := List.mem_append_right _ (List.mem_append_right _ (List.mem_append_left _ (List.mem_of_getElem? (i := 169) rfl)))
set_option maxRecDepth 20000 in
theorem wi_444 : Cond.code yX9_has cX9_has 2 (some .boolean) ∈ lw_tbl := List.mem_append_right _ (List.mem_append_right _ (List.mem_append_left _ (List.mem_of_getElem? (i := 168) rfl)))
set_option maxRecDepth 20000 in
theorem wi_445 : Cond.selects RX9 yX9_has yX9_has ∈ lw_tbl := List.mem_append_right _ (List.mem_append_right _ (List.mem_append_left _ (List.mem_of_getElem? (i := 167) rfl)))
set_option maxRecDepth 20000 in
theorem wi_446 : Cond.instanceMethod yX9_has ∈ lw_tbl := List.mem_append_right _ (List.mem_append_right _ (List.mem_append_left _ (List.mem_of_getElem? (i := 166) rfl)))
set_option maxRecDepth 20000 in
theorem wi_447 : Cond.methodLink RX9 25 yX9_has ∈ lw_tbl := List.mem_append_right _ (List.mem_append_right _ (List.mem_append_left _ (List.mem_of_getElem? (i := 165) rfl)))
set_option maxRecDepth 20000 in
theorem wi_448 : Cond.code yX9_isWholeWord cX9_isWholeWord 2 (some .boolean) ∈ lw_tbl := List.mem_append_right _ (List.mem_append_right _ (List.mem_append_left _ (List.mem_of_getElem? (i := 164) rfl)))
set_option maxRecDepth 20000 in
theorem wi_449 : Cond.selects RX9 yX9_isWholeWord yX9_isWholeWord ∈ lw_tbl := List.mem_append_right _ (List.mem_append_right _ (List.mem_append_left _ (List.mem_of_getElem? (i := 163) rfl)))
set_option maxRecDepth 20000 in
theorem wi_450 : Cond.instanceMethod yX9_isWholeWord ∈ lw_tbl := List.mem_append_right _ (List.mem_append_right _ (List.mem_append_left _ (List.mem_of_getElem? (i := 162) rfl)))
set_option maxRecDepth 20000 in
theorem wi_451 : Cond.methodLink RX10 114 yX9_isWholeWord ∈ lw_tbl := List.mem_append_right _ (List.mem_append_right _ (List.mem_append_left _ (List.mem_of_getElem? (i := 161) rfl)))
set_option maxRecDepth 20000 in
theorem wi_452 : Cond.code yX5_outdate cX5_outdate 1 none ∈ lw_tbl := List.mem_append_right _ (List.mem_append_right _ (List.mem_append_left _ (List.mem_of_getElem? (i := 188) rfl)))
set_option maxRecDepth 20000 in
theorem wi_453 : Cond.selects RX5 yX5_outdate yX5_outdate ∈ lw_tbl := List.mem_append_right _ (List.mem_append_right _ (List.mem_append_left _ (List.mem_of_getElem? (i := 187) rfl)))
set_option maxRecDepth 20000 in
theorem wi_454 : Cond.instanceMethod yX5_outdate ∈ lw_tbl := List.mem_append_right _ (List.mem_append_right _ (List.mem_append_left _ (List.mem_of_getElem? (i := 186) rfl)))
set_option maxRecDepth 20000 in
theorem wi_455 : Cond.methodLink RX10 128 yX5_outdate ∈ lw_tbl := List.mem_append_right _ (List.mem_append_right _ (List.mem_append_left _ (List.mem_of_getElem? (i := 185) rfl)))
set_option maxRecDepth 20000 in
theorem wi_456 : Cond.code yX0_moveBehind cX0_moveBehind 4 none ∈ lw_tbl := List.mem_append_right _ (List.mem_append_right _ (List.mem_append_left _ (List.mem_of_getElem? (i := 184) rfl)))
set_option maxRecDepth 20000 in
theorem wi_457 : Cond.selects RX0 yX0_moveBehind yX0_moveBehind ∈ lw_tbl := List.mem_append_right _ (List.mem_append_right _ (List.mem_append_left _ (List.mem_of_getElem? (i := 183) rfl)))
set_option maxRecDepth 20000 in
theorem wi_458 : Cond.instanceMethod yX0_moveBehind ∈ lw_tbl := List.mem_append_right _ (List.mem_append_right _ (List.mem_append_left _ (List.mem_of_getElem? (i := 182) rfl)))
set_option maxRecDepth 20000 in
theorem wi_459 : Cond.methodLink RX10 124 yX0_moveBehind ∈ lw_tbl := List.mem_append_right _ (List.mem_append_right _ (List.mem_append_left _ (List.mem_of_getElem? (i := 181) rfl)))
set_option maxRecDepth 20000 in
theorem wi_460 : Cond.code yX9_replace cX9_replace 5 none ∈ lw_tbl := List.mem_append_right _ (List.mem_append_right _ (List.mem_append_left _ (List.mem_of_getElem? (i := 180) rfl)))
set_option maxRecDepth 20000 in
theorem wi_461 : Cond.selects RX9 yX9_replace yX9_replace ∈ lw_tbl := List.mem_append_right _ (List.mem_append_right _ (List.mem_append_left _ (List.mem_of_getElem? (i := 179) rfl)))
set_option maxRecDepth 20000 in
theorem wi_462 : Cond.instanceMethod yX9_replace ∈ lw_tbl := List.mem_append_right _ (List.mem_append_right _ (List.mem_append_left _ (List.mem_of_getElem? (i := 178) rfl)))
set_option maxRecDepth 20000 in
theorem wi_463 : Cond.methodLink RX10 120 yX9_replace ∈ lw_tbl := List.mem_append_right _ (List.mem_append_right _ (List.mem_append_left _ (List.mem_of_getElem? (i := 177) rfl)))
set_option maxRecDepth 20000 in
theorem wi_464 : Cond.fieldLink RX5 29 "StillText$Setting" "ofText" "Z" ∈ lw_tbl := List.mem_append_right _ (List.mem_append_left _ (List.mem_of_getElem? (i := 144) rfl))
set_option maxRecDepth 20000 in
theorem iw_X10_put : ∀ w ∈ wsX10_put, w ∈ lw_tbl := List.forall_mem_cons.mpr ⟨wi_435, List.forall_mem_append.mpr ⟨List.forall_mem_append.mpr ⟨List.forall_mem_append.mpr ⟨List.forall_mem_append.mpr ⟨List.forall_mem_append.mpr ⟨List.forall_mem_append.mpr ⟨List.forall_mem_append.mpr ⟨List.forall_mem_cons.mpr ⟨wi_10, List.forall_mem_cons.mpr ⟨wi_18, List.forall_mem_cons.mpr ⟨wi_14, List.forall_mem_cons.mpr ⟨wi_38, List.forall_mem_cons.mpr ⟨wi_2, List.forall_mem_cons.mpr ⟨wi_451, List.forall_mem_cons.mpr ⟨wi_450, List.forall_mem_cons.mpr ⟨wi_449, List.forall_mem_cons.mpr ⟨wi_11, List.forall_mem_cons.mpr ⟨wi_448, List.forall_mem_cons.mpr ⟨wi_447, List.forall_mem_cons.mpr ⟨wi_446, List.forall_mem_cons.mpr ⟨wi_445, List.forall_mem_cons.mpr ⟨wi_444, List.forall_mem_cons.mpr ⟨wi_296, List.forall_mem_cons.mpr ⟨wi_443, List.forall_mem_cons.mpr ⟨wi_442, List.forall_mem_cons.mpr ⟨wi_441, List.forall_mem_cons.mpr ⟨wi_440, List.forall_mem_cons.mpr ⟨wi_439, List.forall_mem_cons.mpr ⟨wi_438, List.forall_mem_cons.mpr ⟨wi_437, List.forall_mem_cons.mpr ⟨wi_436, List.forall_mem_cons.mpr ⟨wi_64, fun _ h => absurd h List.not_mem_nil⟩⟩⟩⟩⟩⟩⟩⟩⟩⟩⟩⟩⟩⟩⟩⟩⟩⟩⟩⟩⟩⟩⟩⟩, List.forall_mem_append.mpr ⟨List.forall_mem_cons.mpr ⟨wi_337, List.forall_mem_cons.mpr ⟨wi_336, List.forall_mem_cons.mpr ⟨wi_335, List.forall_mem_cons.mpr ⟨wi_19, List.forall_mem_cons.mpr ⟨wi_334, List.forall_mem_cons.mpr ⟨wi_266, List.forall_mem_cons.mpr ⟨wi_308, List.forall_mem_cons.mpr ⟨wi_307, List.forall_mem_cons.mpr ⟨wi_306, List.forall_mem_cons.mpr ⟨wi_271, List.forall_mem_cons.mpr ⟨wi_305, List.forall_mem_cons.mpr ⟨wi_304, List.forall_mem_cons.mpr ⟨wi_303, List.forall_mem_cons.mpr ⟨wi_302, List.forall_mem_cons.mpr ⟨wi_15, List.forall_mem_cons.mpr ⟨wi_301, List.forall_mem_cons.mpr ⟨wi_72, List.forall_mem_cons.mpr ⟨wi_71, List.forall_mem_cons.mpr ⟨wi_70, List.forall_mem_cons.mpr ⟨wi_300, List.forall_mem_cons.mpr ⟨wi_299, List.forall_mem_cons.mpr ⟨wi_298, List.forall_mem_cons.mpr ⟨wi_297, List.forall_mem_cons.mpr ⟨wi_329, fun _ h => absurd h List.not_mem_nil⟩⟩⟩⟩⟩⟩⟩⟩⟩⟩⟩⟩⟩⟩⟩⟩⟩⟩⟩⟩⟩⟩⟩⟩, List.forall_mem_append.mpr ⟨List.forall_mem_cons.mpr ⟨wi_328, List.forall_mem_cons.mpr ⟨wi_327, List.forall_mem_cons.mpr ⟨wi_326, List.forall_mem_cons.mpr ⟨wi_325, List.forall_mem_cons.mpr ⟨wi_324, List.forall_mem_cons.mpr ⟨wi_323, List.forall_mem_cons.mpr ⟨wi_322, List.forall_mem_cons.mpr ⟨wi_29, List.forall_mem_cons.mpr ⟨wi_321, List.forall_mem_cons.mpr ⟨wi_320, List.forall_mem_cons.mpr ⟨wi_319, List.forall_mem_cons.mpr ⟨wi_318, List.forall_mem_cons.mpr ⟨wi_317, List.forall_mem_cons.mpr ⟨wi_316, List.forall_mem_cons.mpr ⟨wi_315, List.forall_mem_cons.mpr ⟨wi_314, List.forall_mem_cons.mpr ⟨wi_313, List.forall_mem_cons.mpr ⟨wi_312, List.forall_mem_cons.mpr ⟨wi_311, List.forall_mem_cons.mpr ⟨wi_310, List.forall_mem_cons.mpr ⟨wi_309, List.forall_mem_cons.mpr ⟨wi_350, List.forall_mem_cons.mpr ⟨wi_349, List.forall_mem_cons.mpr ⟨wi_348, fun _ h => absurd h List.not_mem_nil⟩⟩⟩⟩⟩⟩⟩⟩⟩⟩⟩⟩⟩⟩⟩⟩⟩⟩⟩⟩⟩⟩⟩⟩, List.forall_mem_append.mpr ⟨List.forall_mem_cons.mpr ⟨wi_347, List.forall_mem_cons.mpr ⟨wi_346, List.forall_mem_cons.mpr ⟨wi_65, List.forall_mem_cons.mpr ⟨wi_345, List.forall_mem_cons.mpr ⟨wi_344, List.forall_mem_cons.mpr ⟨wi_343, List.forall_mem_cons.mpr ⟨wi_342, List.forall_mem_cons.mpr ⟨wi_66, List.forall_mem_cons.mpr ⟨wi_341, List.forall_mem_cons.mpr ⟨wi_340, List.forall_mem_cons.mpr ⟨wi_339, List.forall_mem_cons.mpr ⟨wi_338, List.forall_mem_cons.mpr ⟨wi_373, List.forall_mem_cons.mpr ⟨wi_372, List.forall_mem_cons.mpr ⟨wi_371, List.forall_mem_cons.mpr ⟨wi_370, List.forall_mem_cons.mpr ⟨wi_377, List.forall_mem_cons.mpr ⟨wi_376, List.forall_mem_cons.mpr ⟨wi_375, List.forall_mem_cons.mpr ⟨wi_374, List.forall_mem_cons.mpr ⟨wi_333, List.forall_mem_cons.mpr ⟨wi_332, List.forall_mem_cons.mpr ⟨wi_331, List.forall_mem_cons.mpr ⟨wi_330, fun _ h => absurd h List.not_mem_nil⟩⟩⟩⟩⟩⟩⟩⟩⟩⟩⟩⟩⟩⟩⟩⟩⟩⟩⟩⟩⟩⟩⟩⟩, List.forall_mem_append.mpr ⟨List.forall_mem_cons.mpr ⟨wi_463, List.forall_mem_cons.mpr ⟨wi_462, List.forall_mem_cons.mpr ⟨wi_461, List.forall_mem_cons.mpr ⟨wi_460, List.forall_mem_cons.mpr ⟨wi_365, List.forall_mem_cons.mpr ⟨wi_364, List.forall_mem_cons.mpr ⟨wi_363, List.forall_mem_cons.mpr ⟨wi_362, List.forall_mem_cons.mpr ⟨wi_361, List.forall_mem_cons.mpr ⟨wi_360, List.forall_mem_cons.mpr ⟨wi_359, List.forall_mem_cons.mpr ⟨wi_358, List.forall_mem_cons.mpr ⟨wi_459, List.forall_mem_cons.mpr ⟨wi_458, List.forall_mem_cons.mpr ⟨wi_457, List.forall_mem_cons.mpr ⟨wi_39, List.forall_mem_cons.mpr ⟨wi_456, List.forall_mem_cons.mpr ⟨wi_378, List.forall_mem_cons.mpr ⟨wi_105, List.forall_mem_cons.mpr ⟨wi_455, List.forall_mem_cons.mpr ⟨wi_454, List.forall_mem_cons.mpr ⟨wi_453, List.forall_mem_cons.mpr ⟨wi_3, List.forall_mem_cons.mpr ⟨wi_452, fun _ h => absurd h List.not_mem_nil⟩⟩⟩⟩⟩⟩⟩⟩⟩⟩⟩⟩⟩⟩⟩⟩⟩⟩⟩⟩⟩⟩⟩⟩, List.forall_mem_cons.mpr ⟨wi_464, fun _ h => absurd h List.not_mem_nil⟩⟩⟩⟩⟩⟩, iX10⟩, iX9⟩, iX7⟩, iX3⟩, iX0⟩, iX5⟩⟩
set_option maxRecDepth 20000 in
theorem wi_465 : Cond.selects RX10 yX10_put yX10_put ∈ lw_tbl := List.mem_append_right _ (List.mem_append_right _ (List.mem_append_left _ (List.mem_of_getElem? (i := 159) rfl)))
set_option maxRecDepth 20000 in
theorem wi_466 : Cond.instanceMethod yX10_put ∈ lw_tbl := List.mem_append_right _ (List.mem_append_right _ (List.mem_append_left _ (List.mem_of_getElem? (i := 158) rfl)))
set_option maxRecDepth 20000 in
theorem wi_467 : Cond.methodLink RL 33 yX10_put ∈ lw_tbl := List.mem_append_right _ (List.mem_append_right _ (List.mem_append_left _ (List.mem_of_getElem? (i := 157) rfl)))
set_option maxRecDepth 20000 in
theorem gW_X10_put : GoodIn lw_tbl (wsV RL 33 RX10 yX10_put wsX10_put) := goodIn_sub (List.forall_mem_append.mpr ⟨List.forall_mem_cons.mpr ⟨wi_467, List.forall_mem_cons.mpr ⟨wi_466, List.forall_mem_cons.mpr ⟨wi_465, List.forall_mem_cons.mpr ⟨wi_271, fun _ h => absurd h List.not_mem_nil⟩⟩⟩⟩, iw_X10_put⟩) (by decide +kernel)
set_option maxRecDepth 20000 in
theorem wi_468 : Cond.code yX11_put cX11_put 5 (some .int) ∈ lw_tbl := List.mem_append_right _ (List.mem_append_right _ (List.mem_append_right _ (List.mem_append_right _ (List.mem_append_left _ (List.mem_of_getElem? (i := 238) rfl)))))
set_option maxRecDepth 20000 in
theorem iw_X11_put : ∀ w ∈ wsX11_put, w ∈ lw_tbl := List.forall_mem_cons.mpr ⟨wi_468, List.forall_mem_append.mpr ⟨List.forall_mem_append.mpr ⟨List.forall_mem_cons.mpr ⟨wi_400, List.forall_mem_cons.mpr ⟨wi_204, List.forall_mem_cons.mpr ⟨wi_276, List.forall_mem_cons.mpr ⟨wi_401, List.forall_mem_cons.mpr ⟨wi_206, List.forall_mem_cons.mpr ⟨wi_205, List.forall_mem_cons.mpr ⟨wi_397, List.forall_mem_cons.mpr ⟨wi_209, List.forall_mem_cons.mpr ⟨wi_398, List.forall_mem_cons.mpr ⟨wi_396, List.forall_mem_cons.mpr ⟨wi_395, List.forall_mem_cons.mpr ⟨wi_394, List.forall_mem_cons.mpr ⟨wi_277, List.forall_mem_cons.mpr ⟨wi_393, List.forall_mem_cons.mpr ⟨wi_202, List.forall_mem_cons.mpr ⟨wi_200, List.forall_mem_cons.mpr ⟨wi_198, List.forall_mem_cons.mpr ⟨wi_199, List.forall_mem_cons.mpr ⟨wi_392, List.forall_mem_cons.mpr ⟨wi_391, List.forall_mem_cons.mpr ⟨wi_390, List.forall_mem_cons.mpr ⟨wi_389, List.forall_mem_cons.mpr ⟨wi_388, List.forall_mem_cons.mpr ⟨wi_387, fun _ h => absurd h List.not_mem_nil⟩⟩⟩⟩⟩⟩⟩⟩⟩⟩⟩⟩⟩⟩⟩⟩⟩⟩⟩⟩⟩⟩⟩⟩, List.forall_mem_cons.mpr ⟨wi_386, List.forall_mem_cons.mpr ⟨wi_385, List.forall_mem_cons.mpr ⟨wi_201, List.forall_mem_cons.mpr ⟨wi_415, List.forall_mem_cons.mpr ⟨wi_414, List.forall_mem_cons.mpr ⟨wi_413, List.forall_mem_cons.mpr ⟨wi_412, List.forall_mem_cons.mpr ⟨wi_411, List.forall_mem_cons.mpr ⟨wi_410, List.forall_mem_cons.mpr ⟨wi_409, List.forall_mem_cons.mpr ⟨wi_408, List.forall_mem_cons.mpr ⟨wi_407, List.forall_mem_cons.mpr ⟨wi_406, List.forall_mem_cons.mpr ⟨wi_405, List.forall_mem_cons.mpr ⟨wi_404, List.forall_mem_cons.mpr ⟨wi_403, List.forall_mem_cons.mpr ⟨wi_402, List.forall_mem_cons.mpr ⟨wi_203, fun _ h => absurd h List.not_mem_nil⟩⟩⟩⟩⟩⟩⟩⟩⟩⟩⟩⟩⟩⟩⟩⟩⟩⟩⟩, iX11⟩⟩
set_option maxRecDepth 20000 in
theorem wi_469 : Cond.selects RX11 yX11_put yX11_put ∈ lw_tbl := List.mem_append_right _ (List.mem_append_right _ (List.mem_append_right _ (List.mem_append_right _ (List.mem_append_left _ (List.mem_of_getElem? (i := 237) rfl)))))
set_option maxRecDepth 20000 in
theorem wi_470 : Cond.instanceMethod yX11_put ∈ lw_tbl := List.mem_append_right _ (List.mem_append_right _ (List.mem_append_right _ (List.mem_append_right _ (List.mem_append_left _ (List.mem_of_getElem? (i := 236) rfl)))))
set_option maxRecDepth 20000 in
theorem wi_471 : Cond.methodLink RL 36 yX11_put ∈ lw_tbl := List.mem_append_right _ (List.mem_append_right _ (List.mem_append_right _ (List.mem_append_right _ (List.mem_append_left _ (List.mem_of_getElem? (i := 235) rfl)))))
set_option maxRecDepth 20000 in
theorem gW_X11_put : GoodIn lw_tbl (wsV RL 36 RX11 yX11_put wsX11_put) := goodIn_sub (List.forall_mem_append.mpr ⟨List.forall_mem_cons.mpr ⟨wi_471, List.forall_mem_cons.mpr ⟨wi_470, List.forall_mem_cons.mpr ⟨wi_469, List.forall_mem_cons.mpr ⟨wi_277, fun _ h => absurd h List.not_mem_nil⟩⟩⟩⟩, iw_X11_put⟩) (by decide +kernel)
set_option maxRecDepth 20000 in
theorem wi_472 : Cond.code yX10_unit cX10_unit 3 (some .int) ∈ lw_tbl := List.mem_append_right _ (List.mem_append_right _ (List.mem_append_left _ (List.mem_of_getElem? (i := 192) rfl)))
set_option maxRecDepth 20000 in
theorem wi_473 : Cond.code yX9_wordNumber cX9_wordNumber 4 (some .int) ∈ lw_tbl := List.mem_append_right _ (List.mem_append_right _ (List.mem_append_left _ (List.mem_of_getElem? (i := 202) rfl)))
set_option maxRecDepth 20000 in
theorem wi_474 : Cond.selects RX9 yX9_wordNumber yX9_wordNumber ∈ lw_tbl := List.mem_append_right _ (List.mem_append_right _ (List.mem_append_left _ (List.mem_of_getElem? (i := 201) rfl)))
set_option maxRecDepth 20000 in
theorem wi_475 : Cond.instanceMethod yX9_wordNumber ∈ lw_tbl := List.mem_append_right _ (List.mem_append_right _ (List.mem_append_left _ (List.mem_of_getElem? (i := 200) rfl)))
set_option maxRecDepth 20000 in
theorem wi_476 : Cond.methodLink RX10 141 yX9_wordNumber ∈ lw_tbl := List.mem_append_right _ (List.mem_append_right _ (List.mem_append_left _ (List.mem_of_getElem? (i := 199) rfl)))
set_option maxRecDepth 20000 in
theorem wi_477 : Cond.methodLink RX10 138 yX9_behind ∈ lw_tbl := List.mem_append_right _ (List.mem_append_right _ (List.mem_append_left _ (List.mem_of_getElem? (i := 198) rfl)))
set_option maxRecDepth 20000 in
theorem wi_478 : Cond.code yX9_letters cX9_letters 2 (some .int) ∈ lw_tbl := List.mem_append_right _ (List.mem_append_right _ (List.mem_append_left _ (List.mem_of_getElem? (i := 197) rfl)))
set_option maxRecDepth 20000 in
theorem wi_479 : Cond.selects RX9 yX9_letters yX9_letters ∈ lw_tbl := List.mem_append_right _ (List.mem_append_right _ (List.mem_append_left _ (List.mem_of_getElem? (i := 196) rfl)))
set_option maxRecDepth 20000 in
theorem wi_480 : Cond.instanceMethod yX9_letters ∈ lw_tbl := List.mem_append_right _ (List.mem_append_right _ (List.mem_append_left _ (List.mem_of_getElem? (i := 195) rfl)))
set_option maxRecDepth 20000 in
theorem wi_481 : Cond.methodLink RX10 134 yX9_letters ∈ lw_tbl := List.mem_append_right _ (List.mem_append_right _ (List.mem_append_left _ (List.mem_of_getElem? (i := 194) rfl)))
set_option maxRecDepth 20000 in
theorem wi_482 : Cond.methodLink RX10 131 yX9_has ∈ lw_tbl := List.mem_append_right _ (List.mem_append_right _ (List.mem_append_left _ (List.mem_of_getElem? (i := 193) rfl)))
set_option maxRecDepth 20000 in
theorem iw_X10_unit : ∀ w ∈ wsX10_unit, w ∈ lw_tbl := List.forall_mem_cons.mpr ⟨wi_472, List.forall_mem_append.mpr ⟨List.forall_mem_append.mpr ⟨List.forall_mem_append.mpr ⟨List.forall_mem_cons.mpr ⟨wi_10, List.forall_mem_cons.mpr ⟨wi_482, List.forall_mem_cons.mpr ⟨wi_446, List.forall_mem_cons.mpr ⟨wi_445, List.forall_mem_cons.mpr ⟨wi_11, List.forall_mem_cons.mpr ⟨wi_444, List.forall_mem_cons.mpr ⟨wi_296, List.forall_mem_cons.mpr ⟨wi_481, List.forall_mem_cons.mpr ⟨wi_480, List.forall_mem_cons.mpr ⟨wi_479, List.forall_mem_cons.mpr ⟨wi_478, List.forall_mem_cons.mpr ⟨wi_65, List.forall_mem_cons.mpr ⟨wi_447, List.forall_mem_cons.mpr ⟨wi_477, List.forall_mem_cons.mpr ⟨wi_438, List.forall_mem_cons.mpr ⟨wi_437, List.forall_mem_cons.mpr ⟨wi_436, List.forall_mem_cons.mpr ⟨wi_64, List.forall_mem_cons.mpr ⟨wi_476, List.forall_mem_cons.mpr ⟨wi_475, List.forall_mem_cons.mpr ⟨wi_474, List.forall_mem_cons.mpr ⟨wi_473, List.forall_mem_cons.mpr ⟨wi_443, List.forall_mem_cons.mpr ⟨wi_442, fun _ h => absurd h List.not_mem_nil⟩⟩⟩⟩⟩⟩⟩⟩⟩⟩⟩⟩⟩⟩⟩⟩⟩⟩⟩⟩⟩⟩⟩⟩, List.forall_mem_cons.mpr ⟨wi_441, List.forall_mem_cons.mpr ⟨wi_440, List.forall_mem_cons.mpr ⟨wi_439, fun _ h => absurd h List.not_mem_nil⟩⟩⟩⟩, iX10⟩, iX9⟩⟩
set_option maxRecDepth 20000 in
theorem wi_483 : Cond.selects RX10 yX10_unit yX10_unit ∈ lw_tbl := List.mem_append_right _ (List.mem_append_right _ (List.mem_append_left _ (List.mem_of_getElem? (i := 191) rfl)))
set_option maxRecDepth 20000 in
theorem wi_484 : Cond.instanceMethod yX10_unit ∈ lw_tbl := List.mem_append_right _ (List.mem_append_right _ (List.mem_append_left _ (List.mem_of_getElem? (i := 190) rfl)))
set_option maxRecDepth 20000 in
theorem wi_485 : Cond.methodLink RL 37 yX10_unit ∈ lw_tbl := List.mem_append_right _ (List.mem_append_right _ (List.mem_append_left _ (List.mem_of_getElem? (i := 189) rfl)))
set_option maxRecDepth 20000 in
theorem gW_X10_unit : GoodIn lw_tbl (wsV RL 37 RX10 yX10_unit wsX10_unit) := goodIn_sub (List.forall_mem_append.mpr ⟨List.forall_mem_cons.mpr ⟨wi_485, List.forall_mem_cons.mpr ⟨wi_484, List.forall_mem_cons.mpr ⟨wi_483, List.forall_mem_cons.mpr ⟨wi_271, fun _ h => absurd h List.not_mem_nil⟩⟩⟩⟩, iw_X10_unit⟩) (by decide +kernel)
set_option maxRecDepth 20000 in
theorem wi_486 : Cond.code yX11_unit cX11_unit 3 (some .int) ∈ lw_tbl := List.mem_append_right _ (List.mem_append_right _ (List.mem_append_right _ (List.mem_append_right _ (List.mem_append_right _ (List.mem_of_getElem? (i := 2) rfl)))))
set_option maxRecDepth 20000 in
theorem iw_X11_unit : ∀ w ∈ wsX11_unit, w ∈ lw_tbl := List.forall_mem_cons.mpr ⟨wi_486, List.forall_mem_append.mpr ⟨List.forall_mem_cons.mpr ⟨wi_400, List.forall_mem_cons.mpr ⟨wi_206, List.forall_mem_cons.mpr ⟨wi_204, List.forall_mem_cons.mpr ⟨wi_203, fun _ h => absurd h List.not_mem_nil⟩⟩⟩⟩, iX11⟩⟩
set_option maxRecDepth 20000 in
theorem wi_487 : Cond.selects RX11 yX11_unit yX11_unit ∈ lw_tbl := List.mem_append_right _ (List.mem_append_right _ (List.mem_append_right _ (List.mem_append_right _ (List.mem_append_right _ (List.mem_of_getElem? (i := 1) rfl)))))
set_option maxRecDepth 20000 in
theorem wi_488 : Cond.instanceMethod yX11_unit ∈ lw_tbl := List.mem_append_right _ (List.mem_append_right _ (List.mem_append_right _ (List.mem_append_right _ (List.mem_append_right _ (List.mem_of_getElem? (i := 0) rfl)))))
set_option maxRecDepth 20000 in
theorem wi_489 : Cond.methodLink RL 41 yX11_unit ∈ lw_tbl := List.mem_append_right _ (List.mem_append_right _ (List.mem_append_right _ (List.mem_append_right _ (List.mem_append_left _ (List.mem_of_getElem? (i := 239) rfl)))))
set_option maxRecDepth 20000 in
theorem gW_X11_unit : GoodIn lw_tbl (wsV RL 41 RX11 yX11_unit wsX11_unit) := goodIn_sub (List.forall_mem_append.mpr ⟨List.forall_mem_cons.mpr ⟨wi_489, List.forall_mem_cons.mpr ⟨wi_488, List.forall_mem_cons.mpr ⟨wi_487, List.forall_mem_cons.mpr ⟨wi_277, fun _ h => absurd h List.not_mem_nil⟩⟩⟩⟩, iw_X11_unit⟩) (by decide +kernel)
set_option maxRecDepth 20000 in
theorem wi_490 : Cond.code yX10_measure cX10_measure 3 (some .boolean) ∈ lw_tbl := List.mem_append_right _ (List.mem_append_right _ (List.mem_append_left _ (List.mem_of_getElem? (i := 206) rfl)))
set_option maxRecDepth 20000 in
theorem wi_491 : Cond.code yX1_changeLine cX1_changeLine 3 (some .boolean) ∈ lw_tbl := List.mem_append_right _ (List.mem_append_right _ (List.mem_append_left _ (List.mem_of_getElem? (i := 210) rfl)))
set_option maxRecDepth 20000 in
theorem wi_492 : Cond.selects RX1 yX1_changeLine yX1_changeLine ∈ lw_tbl := List.mem_append_right _ (List.mem_append_right _ (List.mem_append_left _ (List.mem_of_getElem? (i := 209) rfl)))
set_option maxRecDepth 20000 in
theorem wi_493 : Cond.instanceMethod yX1_changeLine ∈ lw_tbl := List.mem_append_right _ (List.mem_append_right _ (List.mem_append_left _ (List.mem_of_getElem? (i := 208) rfl)))
set_option maxRecDepth 20000 in
theorem wi_494 : Cond.methodLink RX10 144 yX1_changeLine ∈ lw_tbl := List.mem_append_right _ (List.mem_append_right _ (List.mem_append_left _ (List.mem_of_getElem? (i := 207) rfl)))
set_option maxRecDepth 20000 in
theorem iw_X10_measure : ∀ w ∈ wsX10_measure, w ∈ lw_tbl := List.forall_mem_cons.mpr ⟨wi_490, List.forall_mem_append.mpr ⟨List.forall_mem_append.mpr ⟨List.forall_mem_cons.mpr ⟨wi_6, List.forall_mem_cons.mpr ⟨wi_494, List.forall_mem_cons.mpr ⟨wi_493, List.forall_mem_cons.mpr ⟨wi_492, List.forall_mem_cons.mpr ⟨wi_7, List.forall_mem_cons.mpr ⟨wi_491, List.forall_mem_cons.mpr ⟨wi_59, List.forall_mem_cons.mpr ⟨wi_58, List.forall_mem_cons.mpr ⟨wi_283, List.forall_mem_cons.mpr ⟨wi_271, List.forall_mem_cons.mpr ⟨wi_282, fun _ h => absurd h List.not_mem_nil⟩⟩⟩⟩⟩⟩⟩⟩⟩⟩⟩, iX10⟩, iX1⟩⟩
set_option maxRecDepth 20000 in
theorem wi_495 : Cond.selects RX10 yX10_measure yX10_measure ∈ lw_tbl := List.mem_append_right _ (List.mem_append_right _ (List.mem_append_left _ (List.mem_of_getElem? (i := 205) rfl)))
set_option maxRecDepth 20000 in
theorem wi_496 : Cond.instanceMethod yX10_measure ∈ lw_tbl := List.mem_append_right _ (List.mem_append_right _ (List.mem_append_left _ (List.mem_of_getElem? (i := 204) rfl)))
set_option maxRecDepth 20000 in
theorem wi_497 : Cond.methodLink RL 42 yX10_measure ∈ lw_tbl := List.mem_append_right _ (List.mem_append_right _ (List.mem_append_left _ (List.mem_of_getElem? (i := 203) rfl)))
set_option maxRecDepth 20000 in
theorem gW_X10_measure : GoodIn lw_tbl (wsV RL 42 RX10 yX10_measure wsX10_measure) := goodIn_sub (List.forall_mem_append.mpr ⟨List.forall_mem_cons.mpr ⟨wi_497, List.forall_mem_cons.mpr ⟨wi_496, List.forall_mem_cons.mpr ⟨wi_495, List.forall_mem_cons.mpr ⟨wi_271, fun _ h => absurd h List.not_mem_nil⟩⟩⟩⟩, iw_X10_measure⟩) (by decide +kernel)
set_option maxRecDepth 20000 in
theorem wi_498 : Cond.code yX11_measure cX11_measure 3 (some .boolean) ∈ lw_tbl := List.mem_append_right _ (List.mem_append_right _ (List.mem_append_right _ (List.mem_append_right _ (List.mem_append_right _ (List.mem_of_getElem? (i := 6) rfl)))))
set_option maxRecDepth 20000 in
theorem wi_499 : Cond.code yX11_isIn cX11_isIn 3 (some .boolean) ∈ lw_tbl := List.mem_append_right _ (List.mem_append_right _ (List.mem_append_right _ (List.mem_append_right _ (List.mem_append_right _ (List.mem_of_getElem? (i := 9) rfl)))))
set_option maxRecDepth 20000 in
theorem wi_500 : Cond.static yX11_isIn ∈ lw_tbl := List.mem_append_right _ (List.mem_append_right _ (List.mem_append_right _ (List.mem_append_right _ (List.mem_append_right _ (List.mem_of_getElem? (i := 8) rfl)))))
set_option maxRecDepth 20000 in
theorem wi_501 : Cond.methodLink RX11 142 yX11_isIn ∈ lw_tbl := List.mem_append_right _ (List.mem_append_right _ (List.mem_append_right _ (List.mem_append_right _ (List.mem_append_right _ (List.mem_of_getElem? (i := 7) rfl)))))
set_option maxRecDepth 20000 in
theorem iw_X11_measure : ∀ w ∈ wsX11_measure, w ∈ lw_tbl := List.forall_mem_cons.mpr ⟨wi_498, List.forall_mem_append.mpr ⟨List.forall_mem_cons.mpr ⟨wi_197, List.forall_mem_cons.mpr ⟨wi_196, List.forall_mem_cons.mpr ⟨wi_501, List.forall_mem_cons.mpr ⟨wi_500, List.forall_mem_cons.mpr ⟨wi_277, List.forall_mem_cons.mpr ⟨wi_499, fun _ h => absurd h List.not_mem_nil⟩⟩⟩⟩⟩⟩, iX11⟩⟩
set_option maxRecDepth 20000 in
theorem wi_502 : Cond.selects RX11 yX11_measure yX11_measure ∈ lw_tbl := List.mem_append_right _ (List.mem_append_right _ (List.mem_append_right _ (List.mem_append_right _ (List.mem_append_right _ (List.mem_of_getElem? (i := 5) rfl)))))
set_option maxRecDepth 20000 in
theorem wi_503 : Cond.instanceMethod yX11_measure ∈ lw_tbl := List.mem_append_right _ (List.mem_append_right _ (List.mem_append_right _ (List.mem_append_right _ (List.mem_append_right _ (List.mem_of_getElem? (i := 4) rfl)))))
set_option maxRecDepth 20000 in
theorem wi_504 : Cond.methodLink RL 46 yX11_measure ∈ lw_tbl := List.mem_append_right _ (List.mem_append_right _ (List.mem_append_right _ (List.mem_append_right _ (List.mem_append_right _ (List.mem_of_getElem? (i := 3) rfl)))))
set_option maxRecDepth 20000 in
theorem gW_X11_measure : GoodIn lw_tbl (wsV RL 46 RX11 yX11_measure wsX11_measure) := goodIn_sub (List.forall_mem_append.mpr ⟨List.forall_mem_cons.mpr ⟨wi_504, List.forall_mem_cons.mpr ⟨wi_503, List.forall_mem_cons.mpr ⟨wi_502, List.forall_mem_cons.mpr ⟨wi_277, fun _ h => absurd h List.not_mem_nil⟩⟩⟩⟩, iw_X11_measure⟩) (by decide +kernel)
set_option maxRecDepth 20000 in
theorem wi_505 : Cond.code yX10_strains cX10_strains 6 (some .boolean) ∈ lw_tbl := List.mem_append_right _ (List.mem_append_right _ (List.mem_append_left _ (List.mem_of_getElem? (i := 215) rfl)))
set_option maxRecDepth 20000 in
theorem wi_506 : Cond.code yX1_changeStrains cX1_changeStrains 7 (some .boolean) ∈ lw_tbl := List.mem_append_right _ (List.mem_append_right _ (List.mem_append_left _ (List.mem_of_getElem? (i := 219) rfl)))
set_option maxRecDepth 20000 in
theorem wi_507 : Cond.selects RX1 yX1_changeStrains yX1_changeStrains ∈ lw_tbl := List.mem_append_right _ (List.mem_append_right _ (List.mem_append_left _ (List.mem_of_getElem? (i := 218) rfl)))
set_option maxRecDepth 20000 in
theorem wi_508 : Cond.instanceMethod yX1_changeStrains ∈ lw_tbl := List.mem_append_right _ (List.mem_append_right _ (List.mem_append_left _ (List.mem_of_getElem? (i := 217) rfl)))
set_option maxRecDepth 20000 in
theorem wi_509 : Cond.methodLink RX10 148 yX1_changeStrains ∈ lw_tbl := List.mem_append_right _ (List.mem_append_right _ (List.mem_append_left _ (List.mem_of_getElem? (i := 216) rfl)))
set_option maxRecDepth 20000 in
theorem iw_X10_strains : ∀ w ∈ wsX10_strains, w ∈ lw_tbl := List.forall_mem_cons.mpr ⟨wi_505, List.forall_mem_append.mpr ⟨List.forall_mem_append.mpr ⟨List.forall_mem_cons.mpr ⟨wi_6, List.forall_mem_cons.mpr ⟨wi_509, List.forall_mem_cons.mpr ⟨wi_508, List.forall_mem_cons.mpr ⟨wi_507, List.forall_mem_cons.mpr ⟨wi_7, List.forall_mem_cons.mpr ⟨wi_506, List.forall_mem_cons.mpr ⟨wi_57, List.forall_mem_cons.mpr ⟨wi_56, List.forall_mem_cons.mpr ⟨wi_55, List.forall_mem_cons.mpr ⟨wi_54, List.forall_mem_cons.mpr ⟨wi_53, List.forall_mem_cons.mpr ⟨wi_283, List.forall_mem_cons.mpr ⟨wi_271, List.forall_mem_cons.mpr ⟨wi_282, List.forall_mem_cons.mpr ⟨wi_52, List.forall_mem_cons.mpr ⟨wi_51, List.forall_mem_cons.mpr ⟨wi_50, fun _ h => absurd h List.not_mem_nil⟩⟩⟩⟩⟩⟩⟩⟩⟩⟩⟩⟩⟩⟩⟩⟩⟩, iX10⟩, iX1⟩⟩
set_option maxRecDepth 20000 in
theorem wi_510 : Cond.selects RX10 yX10_strains yX10_strains ∈ lw_tbl := List.mem_append_right _ (List.mem_append_right _ (List.mem_append_left _ (List.mem_of_getElem? (i := 214) rfl)))
set_option maxRecDepth 20000 in
theorem wi_511 : Cond.instanceMethod yX10_strains ∈ lw_tbl := List.mem_append_right _ (List.mem_append_right _ (List.mem_append_left _ (List.mem_of_getElem? (i := 213) rfl)))
set_option maxRecDepth 20000 in
theorem wi_512 : Cond.methodLink RL 47 yX10_strains ∈ lw_tbl := List.mem_append_right _ (List.mem_append_right _ (List.mem_append_left _ (List.mem_of_getElem? (i := 212) rfl)))
set_option maxRecDepth 20000 in
theorem gW_X10_strains : GoodIn lw_tbl (wsV RL 47 RX10 yX10_strains wsX10_strains) := goodIn_sub (List.forall_mem_append.mpr ⟨List.forall_mem_cons.mpr ⟨wi_512, List.forall_mem_cons.mpr ⟨wi_511, List.forall_mem_cons.mpr ⟨wi_510, List.forall_mem_cons.mpr ⟨wi_271, fun _ h => absurd h List.not_mem_nil⟩⟩⟩⟩, iw_X10_strains⟩) (by decide +kernel)
set_option maxRecDepth 20000 in
theorem wi_513 : Cond.code yX11_strains cX11_strains 6 (some .boolean) ∈ lw_tbl := List.mem_append_right _ (List.mem_append_right _ (List.mem_append_right _ (List.mem_append_right _ (List.mem_append_right _ (List.mem_of_getElem? (i := 13) rfl)))))
set_option maxRecDepth 20000 in
theorem iw_X11_strains : ∀ w ∈ wsX11_strains, w ∈ lw_tbl := List.forall_mem_cons.mpr ⟨wi_513, List.forall_mem_append.mpr ⟨List.forall_mem_cons.mpr ⟨wi_195, List.forall_mem_cons.mpr ⟨wi_194, List.forall_mem_cons.mpr ⟨wi_193, List.forall_mem_cons.mpr ⟨wi_192, List.forall_mem_cons.mpr ⟨wi_191, List.forall_mem_cons.mpr ⟨wi_501, List.forall_mem_cons.mpr ⟨wi_500, List.forall_mem_cons.mpr ⟨wi_277, List.forall_mem_cons.mpr ⟨wi_499, fun _ h => absurd h List.not_mem_nil⟩⟩⟩⟩⟩⟩⟩⟩⟩, iX11⟩⟩
set_option maxRecDepth 20000 in
theorem wi_514 : Cond.selects RX11 yX11_strains yX11_strains ∈ lw_tbl := List.mem_append_right _ (List.mem_append_right _ (List.mem_append_right _ (List.mem_append_right _ (List.mem_append_right _ (List.mem_of_getElem? (i := 12) rfl)))))
set_option maxRecDepth 20000 in
theorem wi_515 : Cond.instanceMethod yX11_strains ∈ lw_tbl := List.mem_append_right _ (List.mem_append_right _ (List.mem_append_right _ (List.mem_append_right _ (List.mem_append_right _ (List.mem_of_getElem? (i := 11) rfl)))))
set_option maxRecDepth 20000 in
theorem wi_516 : Cond.methodLink RL 51 yX11_strains ∈ lw_tbl := List.mem_append_right _ (List.mem_append_right _ (List.mem_append_right _ (List.mem_append_right _ (List.mem_append_right _ (List.mem_of_getElem? (i := 10) rfl)))))
set_option maxRecDepth 20000 in
theorem gW_X11_strains : GoodIn lw_tbl (wsV RL 51 RX11 yX11_strains wsX11_strains) := goodIn_sub (List.forall_mem_append.mpr ⟨List.forall_mem_cons.mpr ⟨wi_516, List.forall_mem_cons.mpr ⟨wi_515, List.forall_mem_cons.mpr ⟨wi_514, List.forall_mem_cons.mpr ⟨wi_277, fun _ h => absurd h List.not_mem_nil⟩⟩⟩⟩, iw_X11_strains⟩) (by decide +kernel)
set_option maxRecDepth 20000 in
theorem wi_517 : Cond.code yX10_like cX10_like 4 (some .int) ∈ lw_tbl := List.mem_append_right _ (List.mem_append_right _ (List.mem_append_left _ (List.mem_of_getElem? (i := 223) rfl)))
set_option maxRecDepth 20000 in
theorem wi_518 : Cond.code yX1_kindOf cX1_kindOf 1 (some .int) ∈ lw_tbl := List.mem_append_right _ (List.mem_append_right _ (List.mem_append_left _ (List.mem_of_getElem? (i := 231) rfl)))
set_option maxRecDepth 20000 in
theorem wi_519 : Cond.static yX1_kindOf ∈ lw_tbl := List.mem_append_right _ (List.mem_append_right _ (List.mem_append_left _ (List.mem_of_getElem? (i := 230) rfl)))
set_option maxRecDepth 20000 in
theorem wi_520 : Cond.methodLink RX1 46 yX1_kindOf ∈ lw_tbl := List.mem_append_right _ (List.mem_append_right _ (List.mem_append_left _ (List.mem_of_getElem? (i := 229) rfl)))
set_option maxRecDepth 20000 in
theorem wi_521 : Cond.code yX1_changeLikeness cX1_changeLikeness 5 (some .int) ∈ lw_tbl := List.mem_append_right _ (List.mem_append_right _ (List.mem_append_left _ (List.mem_of_getElem? (i := 227) rfl)))
set_option maxRecDepth 20000 in
theorem wi_522 : Cond.selects RX1 yX1_changeLikeness yX1_changeLikeness ∈ lw_tbl := List.mem_append_right _ (List.mem_append_right _ (List.mem_append_left _ (List.mem_of_getElem? (i := 226) rfl)))
set_option maxRecDepth 20000 in
theorem wi_523 : Cond.instanceMethod yX1_changeLikeness ∈ lw_tbl := List.mem_append_right _ (List.mem_append_right _ (List.mem_append_left _ (List.mem_of_getElem? (i := 225) rfl)))
set_option maxRecDepth 20000 in
theorem wi_524 : Cond.methodLink RX10 152 yX1_changeLikeness ∈ lw_tbl := List.mem_append_right _ (List.mem_append_right _ (List.mem_append_left _ (List.mem_of_getElem? (i := 224) rfl)))
set_option maxRecDepth 20000 in
theorem iw_X10_like : ∀ w ∈ wsX10_like, w ∈ lw_tbl := List.forall_mem_cons.mpr ⟨wi_517, List.forall_mem_append.mpr ⟨List.forall_mem_append.mpr ⟨List.forall_mem_cons.mpr ⟨wi_6, List.forall_mem_cons.mpr ⟨wi_524, List.forall_mem_cons.mpr ⟨wi_523, List.forall_mem_cons.mpr ⟨wi_522, List.forall_mem_cons.mpr ⟨wi_7, List.forall_mem_cons.mpr ⟨wi_521, List.forall_mem_cons.mpr ⟨wi_53, List.forall_mem_cons.mpr ⟨wi_317, List.forall_mem_cons.mpr ⟨wi_271, List.forall_mem_cons.mpr ⟨wi_316, List.forall_mem_cons.mpr ⟨wi_283, List.forall_mem_cons.mpr ⟨wi_282, List.forall_mem_cons.mpr ⟨wi_520, List.forall_mem_cons.mpr ⟨wi_519, List.forall_mem_cons.mpr ⟨wi_518, List.forall_mem_cons.mpr ⟨wi_52, List.forall_mem_cons.mpr ⟨wi_51, List.forall_mem_cons.mpr ⟨wi_50, fun _ h => absurd h List.not_mem_nil⟩⟩⟩⟩⟩⟩⟩⟩⟩⟩⟩⟩⟩⟩⟩⟩⟩⟩, iX10⟩, iX1⟩⟩
set_option maxRecDepth 20000 in
theorem wi_525 : Cond.selects RX10 yX10_like yX10_like ∈ lw_tbl := List.mem_append_right _ (List.mem_append_right _ (List.mem_append_left _ (List.mem_of_getElem? (i := 222) rfl)))
set_option maxRecDepth 20000 in
theorem wi_526 : Cond.instanceMethod yX10_like ∈ lw_tbl := List.mem_append_right _ (List.mem_append_right _ (List.mem_append_left _ (List.mem_of_getElem? (i := 221) rfl)))
set_option maxRecDepth 20000 in
theorem wi_527 : Cond.methodLink RL 52 yX10_like ∈ lw_tbl := List.mem_append_right _ (List.mem_append_right _ (List.mem_append_left _ (List.mem_of_getElem? (i := 220) rfl)))
set_option maxRecDepth 20000 in
theorem gW_X10_like : GoodIn lw_tbl (wsV RL 52 RX10 yX10_like wsX10_like) := goodIn_sub (List.forall_mem_append.mpr ⟨List.forall_mem_cons.mpr ⟨wi_527, List.forall_mem_cons.mpr ⟨wi_526, List.forall_mem_cons.mpr ⟨wi_525, List.forall_mem_cons.mpr ⟨wi_271, fun _ h => absurd h List.not_mem_nil⟩⟩⟩⟩, iw_X10_like⟩) (by decide +kernel)
set_option maxRecDepth 20000 in
theorem wi_528 : Cond.code yX11_like cX11_like 5 (some .int) ∈ lw_tbl := List.mem_append_right _ (List.mem_append_right _ (List.mem_append_right _ (List.mem_append_right _ (List.mem_append_right _ (List.mem_of_getElem? (i := 17) rfl)))))
set_option maxRecDepth 20000 in
theorem iw_X11_like : ∀ w ∈ wsX11_like, w ∈ lw_tbl := List.forall_mem_cons.mpr ⟨wi_528, List.forall_mem_append.mpr ⟨List.forall_mem_cons.mpr ⟨wi_190, List.forall_mem_cons.mpr ⟨wi_392, List.forall_mem_cons.mpr ⟨wi_391, List.forall_mem_cons.mpr ⟨wi_277, List.forall_mem_cons.mpr ⟨wi_390, List.forall_mem_cons.mpr ⟨wi_501, List.forall_mem_cons.mpr ⟨wi_500, List.forall_mem_cons.mpr ⟨wi_499, fun _ h => absurd h List.not_mem_nil⟩⟩⟩⟩⟩⟩⟩⟩, iX11⟩⟩
set_option maxRecDepth 20000 in
theorem wi_529 : Cond.selects RX11 yX11_like yX11_like ∈ lw_tbl := List.mem_append_right _ (List.mem_append_right _ (List.mem_append_right _ (List.mem_append_right _ (List.mem_append_right _ (List.mem_of_getElem? (i := 16) rfl)))))
set_option maxRecDepth 20000 in
theorem wi_530 : Cond.instanceMethod yX11_like ∈ lw_tbl := List.mem_append_right _ (List.mem_append_right _ (List.mem_append_right _ (List.mem_append_right _ (List.mem_append_right _ (List.mem_of_getElem? (i := 15) rfl)))))
set_option maxRecDepth 20000 in
theorem wi_531 : Cond.methodLink RL 56 yX11_like ∈ lw_tbl := List.mem_append_right _ (List.mem_append_right _ (List.mem_append_right _ (List.mem_append_right _ (List.mem_append_right _ (List.mem_of_getElem? (i := 14) rfl)))))
set_option maxRecDepth 20000 in
theorem gW_X11_like : GoodIn lw_tbl (wsV RL 56 RX11 yX11_like wsX11_like) := goodIn_sub (List.forall_mem_append.mpr ⟨List.forall_mem_cons.mpr ⟨wi_531, List.forall_mem_cons.mpr ⟨wi_530, List.forall_mem_cons.mpr ⟨wi_529, List.forall_mem_cons.mpr ⟨wi_277, fun _ h => absurd h List.not_mem_nil⟩⟩⟩⟩, iw_X11_like⟩) (by decide +kernel)
set_option maxRecDepth 20000 in
theorem wi_532 : Cond.code yX10_set cX10_set 1 (some .int) ∈ lw_tbl := List.mem_append_right _ (List.mem_append_right _ (List.mem_append_left _ (List.mem_of_getElem? (i := 235) rfl)))
set_option maxRecDepth 20000 in
theorem wi_533 : Cond.code yX9_signs cX9_signs 3 (some .int) ∈ lw_tbl := List.mem_append_right _ (List.mem_append_right _ (List.mem_append_right _ (List.mem_append_left _ (List.mem_of_getElem? (i := 7) rfl))))
set_option maxRecDepth 20000 in
theorem wi_534 : Cond.selects RX9 yX9_signs yX9_signs ∈ lw_tbl := List.mem_append_right _ (List.mem_append_right _ (List.mem_append_right _ (List.mem_append_left _ (List.mem_of_getElem? (i := 6) rfl))))
set_option maxRecDepth 20000 in
theorem wi_535 : Cond.instanceMethod yX9_signs ∈ lw_tbl := List.mem_append_right _ (List.mem_append_right _ (List.mem_append_right _ (List.mem_append_left _ (List.mem_of_getElem? (i := 5) rfl))))
set_option maxRecDepth 20000 in
theorem wi_536 : Cond.methodLink RX9 35 yX9_signs ∈ lw_tbl := List.mem_append_right _ (List.mem_append_right _ (List.mem_append_right _ (List.mem_append_left _ (List.mem_of_getElem? (i := 4) rfl))))
set_option maxRecDepth 20000 in
theorem wi_537 : Cond.code yX9_fitAlone cX9_fitAlone 3 (some .boolean) ∈ lw_tbl := List.mem_append_right _ (List.mem_append_right _ (List.mem_append_right _ (List.mem_append_left _ (List.mem_of_getElem? (i := 3) rfl))))
set_option maxRecDepth 20000 in
theorem wi_538 : Cond.selects RX9 yX9_fitAlone yX9_fitAlone ∈ lw_tbl := List.mem_append_right _ (List.mem_append_right _ (List.mem_append_right _ (List.mem_append_left _ (List.mem_of_getElem? (i := 2) rfl))))
set_option maxRecDepth 20000 in
theorem wi_539 : Cond.instanceMethod yX9_fitAlone ∈ lw_tbl := List.mem_append_right _ (List.mem_append_right _ (List.mem_append_right _ (List.mem_append_left _ (List.mem_of_getElem? (i := 1) rfl))))
set_option maxRecDepth 20000 in
theorem wi_540 : Cond.methodLink RX10 159 yX9_fitAlone ∈ lw_tbl := List.mem_append_right _ (List.mem_append_right _ (List.mem_append_right _ (List.mem_append_left _ (List.mem_of_getElem? (i := 0) rfl))))
set_option maxRecDepth 20000 in
theorem wi_541 : Cond.code yX1_longest cX1_longest 1 (some .int) ∈ lw_tbl := List.mem_append_right _ (List.mem_append_right _ (List.mem_append_left _ (List.mem_of_getElem? (i := 239) rfl)))
set_option maxRecDepth 20000 in
theorem wi_542 : Cond.selects RX1 yX1_longest yX1_longest ∈ lw_tbl := List.mem_append_right _ (List.mem_append_right _ (List.mem_append_left _ (List.mem_of_getElem? (i := 238) rfl)))
set_option maxRecDepth 20000 in
theorem wi_543 : Cond.instanceMethod yX1_longest ∈ lw_tbl := List.mem_append_right _ (List.mem_append_right _ (List.mem_append_left _ (List.mem_of_getElem? (i := 237) rfl)))
set_option maxRecDepth 20000 in
theorem wi_544 : Cond.methodLink RX10 156 yX1_longest ∈ lw_tbl := List.mem_append_right _ (List.mem_append_right _ (List.mem_append_left _ (List.mem_of_getElem? (i := 236) rfl)))
set_option maxRecDepth 20000 in
theorem wi_545 : Cond.fieldLink RX5 32 "StillText$Setting" "count" "I" ∈ lw_tbl := List.mem_append_right _ (List.mem_append_left _ (List.mem_of_getElem? (i := 142) rfl))
set_option maxRecDepth 20000 in
theorem wi_546 : Cond.code yX5_begin cX5_begin 3 none ∈ lw_tbl := List.mem_append_right _ (List.mem_append_right _ (List.mem_append_right _ (List.mem_append_left _ (List.mem_of_getElem? (i := 15) rfl))))
set_option maxRecDepth 20000 in
theorem wi_547 : Cond.selects RX5 yX5_begin yX5_begin ∈ lw_tbl := List.mem_append_right _ (List.mem_append_right _ (List.mem_append_right _ (List.mem_append_left _ (List.mem_of_getElem? (i := 14) rfl))))
set_option maxRecDepth 20000 in
theorem wi_548 : Cond.instanceMethod yX5_begin ∈ lw_tbl := List.mem_append_right _ (List.mem_append_right _ (List.mem_append_right _ (List.mem_append_left _ (List.mem_of_getElem? (i := 13) rfl))))
set_option maxRecDepth 20000 in
theorem wi_549 : Cond.methodLink RX10 165 yX5_begin ∈ lw_tbl := List.mem_append_right _ (List.mem_append_right _ (List.mem_append_right _ (List.mem_append_left _ (List.mem_of_getElem? (i := 12) rfl))))
set_option maxRecDepth 20000 in
theorem wi_550 : Cond.code yX1_spread cX1_spread 1 (some .int) ∈ lw_tbl := List.mem_append_right _ (List.mem_append_right _ (List.mem_append_right _ (List.mem_append_left _ (List.mem_of_getElem? (i := 11) rfl))))
set_option maxRecDepth 20000 in
theorem wi_551 : Cond.selects RX1 yX1_spread yX1_spread ∈ lw_tbl := List.mem_append_right _ (List.mem_append_right _ (List.mem_append_right _ (List.mem_append_left _ (List.mem_of_getElem? (i := 10) rfl))))
set_option maxRecDepth 20000 in
theorem wi_552 : Cond.instanceMethod yX1_spread ∈ lw_tbl := List.mem_append_right _ (List.mem_append_right _ (List.mem_append_right _ (List.mem_append_left _ (List.mem_of_getElem? (i := 9) rfl))))
set_option maxRecDepth 20000 in
theorem wi_553 : Cond.methodLink RX10 162 yX1_spread ∈ lw_tbl := List.mem_append_right _ (List.mem_append_right _ (List.mem_append_right _ (List.mem_append_left _ (List.mem_of_getElem? (i := 8) rfl))))
set_option maxRecDepth 20000 in
theorem wi_554 : Cond.methodLink RX6 64 yX1_kindOf ∈ lw_tbl := List.mem_append_right _ (List.mem_append_right _ (List.mem_append_right _ (List.mem_append_left _ (List.mem_of_getElem? (i := 30) rfl))))
set_option maxRecDepth 20000 in
theorem wi_555 : Cond.code yX6_addSign cX6_addSign 2 none ∈ lw_tbl := List.mem_append_right _ (List.mem_append_right _ (List.mem_append_right _ (List.mem_append_left _ (List.mem_of_getElem? (i := 29) rfl))))
set_option maxRecDepth 20000 in
theorem wi_556 : Cond.selects RX6 yX6_addSign yX6_addSign ∈ lw_tbl := List.mem_append_left _ (List.mem_of_getElem? (i := 7) rfl)
set_option maxRecDepth 20000 in
theorem wi_557 : Cond.instanceMethod yX6_addSign ∈ lw_tbl := List.mem_append_right _ (List.mem_append_right _ (List.mem_append_right _ (List.mem_append_left _ (List.mem_of_getElem? (i := 28) rfl))))
set_option maxRecDepth 20000 in
theorem wi_558 : Cond.methodLink RX6 52 yX6_addSign ∈ lw_tbl := List.mem_append_right _ (List.mem_append_right _ (List.mem_append_right _ (List.mem_append_left _ (List.mem_of_getElem? (i := 26) rfl))))
set_option maxRecDepth 20000 in
theorem wi_559 : Cond.code yX6_addBlanks cX6_addBlanks 3 none ∈ lw_tbl := List.mem_append_right _ (List.mem_append_right _ (List.mem_append_right _ (List.mem_append_left _ (List.mem_of_getElem? (i := 25) rfl))))
set_option maxRecDepth 20000 in
theorem wi_560 : Cond.selects RX6 yX6_addBlanks yX6_addBlanks ∈ lw_tbl := List.mem_append_left _ (List.mem_of_getElem? (i := 6) rfl)
set_option maxRecDepth 20000 in
theorem wi_561 : Cond.instanceMethod yX6_addBlanks ∈ lw_tbl := List.mem_append_right _ (List.mem_append_right _ (List.mem_append_right _ (List.mem_append_left _ (List.mem_of_getElem? (i := 24) rfl))))
set_option maxRecDepth 20000 in
theorem wi_562 : Cond.methodLink RX6 44 yX6_addBlanks ∈ lw_tbl := List.mem_append_right _ (List.mem_append_right _ (List.mem_append_right _ (List.mem_append_left _ (List.mem_of_getElem? (i := 22) rfl))))
set_option maxRecDepth 20000 in
theorem wi_563 : Cond.methodLink RX6 40 yX9_goesOn ∈ lw_tbl := List.mem_append_right _ (List.mem_append_right _ (List.mem_append_right _ (List.mem_append_left _ (List.mem_of_getElem? (i := 21) rfl))))
set_option maxRecDepth 20000 in
theorem wi_564 : Cond.methodLink RX6 34 yX9_count ∈ lw_tbl := List.mem_append_right _ (List.mem_append_right _ (List.mem_append_right _ (List.mem_append_left _ (List.mem_of_getElem? (i := 20) rfl))))
set_option maxRecDepth 20000 in
theorem wi_565 : Cond.fieldLink RX6 31 "StillText$Strip" "length" "I" ∈ lw_tbl := List.mem_append_right _ (List.mem_append_left _ (List.mem_of_getElem? (i := 123) rfl))
set_option maxRecDepth 20000 in
theorem wi_566 : Cond.fieldLink RX6 27 "StillText$Strip" "units" "I" ∈ lw_tbl := List.mem_append_right _ (List.mem_append_left _ (List.mem_of_getElem? (i := 122) rfl))
set_option maxRecDepth 20000 in
theorem wi_567 : Cond.code yX6_lay cX6_lay 4 none ∈ lw_tbl := List.mem_append_right _ (List.mem_append_right _ (List.mem_append_right _ (List.mem_append_left _ (List.mem_of_getElem? (i := 19) rfl))))
set_option maxRecDepth 20000 in
theorem wi_568 : Cond.selects RX6 yX6_lay yX6_lay ∈ lw_tbl := List.mem_append_right _ (List.mem_append_right _ (List.mem_append_right _ (List.mem_append_left _ (List.mem_of_getElem? (i := 18) rfl))))
set_option maxRecDepth 20000 in
theorem wi_569 : Cond.instanceMethod yX6_lay ∈ lw_tbl := List.mem_append_right _ (List.mem_append_right _ (List.mem_append_right _ (List.mem_append_left _ (List.mem_of_getElem? (i := 17) rfl))))
set_option maxRecDepth 20000 in
theorem wi_570 : Cond.methodLink RX5 36 yX6_lay ∈ lw_tbl := List.mem_append_right _ (List.mem_append_right _ (List.mem_append_right _ (List.mem_append_left _ (List.mem_of_getElem? (i := 16) rfl))))
set_option maxRecDepth 20000 in
theorem wi_571 : Cond.code yX4_weighLines cX4_weighLines 3 none ∈ lw_tbl := List.mem_append_right _ (List.mem_append_right _ (List.mem_append_right _ (List.mem_append_left _ (List.mem_of_getElem? (i := 44) rfl))))
set_option maxRecDepth 20000 in
theorem wi_572 : Cond.selects RX4 yX4_weighLines yX4_weighLines ∈ lw_tbl := List.mem_append_right _ (List.mem_append_right _ (List.mem_append_right _ (List.mem_append_left _ (List.mem_of_getElem? (i := 43) rfl))))
set_option maxRecDepth 20000 in
theorem wi_573 : Cond.instanceMethod yX4_weighLines ∈ lw_tbl := List.mem_append_right _ (List.mem_append_right _ (List.mem_append_right _ (List.mem_append_left _ (List.mem_of_getElem? (i := 42) rfl))))
set_option maxRecDepth 20000 in
theorem wi_574 : Cond.methodLink RX10 169 yX4_weighLines ∈ lw_tbl := List.mem_append_right _ (List.mem_append_right _ (List.mem_append_right _ (List.mem_append_left _ (List.mem_of_getElem? (i := 41) rfl))))
set_option maxRecDepth 20000 in
theorem wi_575 : Cond.methodLink RX6 62 yX9_behind ∈ lw_tbl := List.mem_append_right _ (List.mem_append_right _ (List.mem_append_right _ (List.mem_append_left _ (List.mem_of_getElem? (i := 40) rfl))))
set_option maxRecDepth 20000 in
theorem wi_576 : Cond.code yX9_signAt cX9_signAt 3 (some .int) ∈ lw_tbl := List.mem_append_right _ (List.mem_append_right _ (List.mem_append_right _ (List.mem_append_left _ (List.mem_of_getElem? (i := 39) rfl))))
set_option maxRecDepth 20000 in
theorem wi_577 : Cond.selects RX9 yX9_signAt yX9_signAt ∈ lw_tbl := List.mem_append_right _ (List.mem_append_right _ (List.mem_append_right _ (List.mem_append_left _ (List.mem_of_getElem? (i := 38) rfl))))
set_option maxRecDepth 20000 in
theorem wi_578 : Cond.instanceMethod yX9_signAt ∈ lw_tbl := List.mem_append_right _ (List.mem_append_right _ (List.mem_append_right _ (List.mem_append_left _ (List.mem_of_getElem? (i := 37) rfl))))
set_option maxRecDepth 20000 in
theorem wi_579 : Cond.methodLink RX6 58 yX9_signAt ∈ lw_tbl := List.mem_append_right _ (List.mem_append_right _ (List.mem_append_right _ (List.mem_append_left _ (List.mem_of_getElem? (i := 36) rfl))))
set_option maxRecDepth 20000 in
theorem wi_580 : Cond.methodLink RX6 55 yX9_signs ∈ lw_tbl := List.mem_append_right _ (List.mem_append_right _ (List.mem_append_right _ (List.mem_append_left _ (List.mem_of_getElem? (i := 35) rfl))))
set_option maxRecDepth 20000 in
theorem wi_581 : Cond.code yX6_addUnit cX6_addUnit 5 none ∈ lw_tbl := List.mem_append_right _ (List.mem_append_right _ (List.mem_append_right _ (List.mem_append_left _ (List.mem_of_getElem? (i := 34) rfl))))
set_option maxRecDepth 20000 in
theorem wi_582 : Cond.selects RX6 yX6_addUnit yX6_addUnit ∈ lw_tbl := List.mem_append_left _ (List.mem_of_getElem? (i := 8) rfl)
set_option maxRecDepth 20000 in
theorem wi_583 : Cond.instanceMethod yX6_addUnit ∈ lw_tbl := List.mem_append_right _ (List.mem_append_right _ (List.mem_append_right _ (List.mem_append_left _ (List.mem_of_getElem? (i := 33) rfl))))
set_option maxRecDepth 20000 in
theorem wi_584 : Cond.methodLink RX6 48 yX6_addUnit ∈ lw_tbl := List.mem_append_right _ (List.mem_append_right _ (List.mem_append_right _ (List.mem_append_left _ (List.mem_of_getElem? (i := 31) rfl))))
set_option maxRecDepth 20000 in
theorem wi_585 : Cond.methodLink RX6 76 yX6_behindLine ∈ lw_tbl := List.mem_append_right _ (List.mem_append_right _ (List.mem_append_right _ (List.mem_append_left _ (List.mem_of_getElem? (i := 65) rfl))))
set_option maxRecDepth 20000 in
theorem wi_586 : Cond.code yX6_holds cX6_holds 3 (some .boolean) ∈ lw_tbl := List.mem_append_right _ (List.mem_append_right _ (List.mem_append_right _ (List.mem_append_left _ (List.mem_of_getElem? (i := 64) rfl))))
set_option maxRecDepth 20000 in
theorem wi_587 : Cond.selects RX6 yX6_holds yX6_holds ∈ lw_tbl := List.mem_append_left _ (List.mem_of_getElem? (i := 10) rfl)
set_option maxRecDepth 20000 in
theorem wi_588 : Cond.instanceMethod yX6_holds ∈ lw_tbl := List.mem_append_right _ (List.mem_append_right _ (List.mem_append_right _ (List.mem_append_left _ (List.mem_of_getElem? (i := 63) rfl))))
set_option maxRecDepth 20000 in
theorem wi_589 : Cond.methodLink RX6 69 yX6_holds ∈ lw_tbl := List.mem_append_right _ (List.mem_append_right _ (List.mem_append_right _ (List.mem_append_left _ (List.mem_of_getElem? (i := 61) rfl))))
set_option maxRecDepth 20000 in
theorem wi_590 : Cond.code yX6_body cX6_body 3 (some .int) ∈ lw_tbl := List.mem_append_right _ (List.mem_append_right _ (List.mem_append_right _ (List.mem_append_left _ (List.mem_of_getElem? (i := 60) rfl))))
set_option maxRecDepth 20000 in
theorem wi_591 : Cond.selects RX6 yX6_body yX6_body ∈ lw_tbl := List.mem_append_right _ (List.mem_append_right _ (List.mem_append_right _ (List.mem_append_left _ (List.mem_of_getElem? (i := 59) rfl))))
set_option maxRecDepth 20000 in
theorem wi_592 : Cond.instanceMethod yX6_body ∈ lw_tbl := List.mem_append_right _ (List.mem_append_right _ (List.mem_append_right _ (List.mem_append_left _ (List.mem_of_getElem? (i := 58) rfl))))
set_option maxRecDepth 20000 in
theorem wi_593 : Cond.methodLink RX6 73 yX6_body ∈ lw_tbl := List.mem_append_right _ (List.mem_append_right _ (List.mem_append_right _ (List.mem_append_left _ (List.mem_of_getElem? (i := 57) rfl))))
set_option maxRecDepth 20000 in
theorem wi_594 : Cond.code yX6_signsOf cX6_signsOf 3 (some .int) ∈ lw_tbl := List.mem_append_right _ (List.mem_append_right _ (List.mem_append_right _ (List.mem_append_left _ (List.mem_of_getElem? (i := 56) rfl))))
set_option maxRecDepth 20000 in
theorem wi_595 : Cond.selects RX6 yX6_signsOf yX6_signsOf ∈ lw_tbl := List.mem_append_right _ (List.mem_append_right _ (List.mem_append_right _ (List.mem_append_left _ (List.mem_of_getElem? (i := 55) rfl))))
set_option maxRecDepth 20000 in
theorem wi_596 : Cond.instanceMethod yX6_signsOf ∈ lw_tbl := List.mem_append_right _ (List.mem_append_right _ (List.mem_append_right _ (List.mem_append_left _ (List.mem_of_getElem? (i := 54) rfl))))
set_option maxRecDepth 20000 in
theorem wi_597 : Cond.methodLink RX4 60 yX6_signsOf ∈ lw_tbl := List.mem_append_right _ (List.mem_append_right _ (List.mem_append_right _ (List.mem_append_left _ (List.mem_of_getElem? (i := 53) rfl))))
set_option maxRecDepth 20000 in
theorem wi_598 : Cond.code yX4_fits cX4_fits 3 (some .boolean) ∈ lw_tbl := List.mem_append_right _ (List.mem_append_right _ (List.mem_append_right _ (List.mem_append_left _ (List.mem_of_getElem? (i := 52) rfl))))
set_option maxRecDepth 20000 in
theorem wi_599 : Cond.selects RX4 yX4_fits yX4_fits ∈ lw_tbl := List.mem_append_left _ (List.mem_of_getElem? (i := 9) rfl)
set_option maxRecDepth 20000 in
theorem wi_600 : Cond.instanceMethod yX4_fits ∈ lw_tbl := List.mem_append_right _ (List.mem_append_right _ (List.mem_append_right _ (List.mem_append_left _ (List.mem_of_getElem? (i := 51) rfl))))
set_option maxRecDepth 20000 in
theorem wi_601 : Cond.methodLink RX4 32 yX4_fits ∈ lw_tbl := List.mem_append_right _ (List.mem_append_right _ (List.mem_append_right _ (List.mem_append_left _ (List.mem_of_getElem? (i := 49) rfl))))
set_option maxRecDepth 20000 in
theorem wi_602 : Cond.code yX6_units cX6_units 1 (some .int) ∈ lw_tbl := List.mem_append_right _ (List.mem_append_right _ (List.mem_append_right _ (List.mem_append_left _ (List.mem_of_getElem? (i := 48) rfl))))
set_option maxRecDepth 20000 in
theorem wi_603 : Cond.selects RX6 yX6_units yX6_units ∈ lw_tbl := List.mem_append_right _ (List.mem_append_right _ (List.mem_append_right _ (List.mem_append_left _ (List.mem_of_getElem? (i := 47) rfl))))
set_option maxRecDepth 20000 in
theorem wi_604 : Cond.instanceMethod yX6_units ∈ lw_tbl := List.mem_append_right _ (List.mem_append_right _ (List.mem_append_right _ (List.mem_append_left _ (List.mem_of_getElem? (i := 46) rfl))))
set_option maxRecDepth 20000 in
theorem wi_605 : Cond.methodLink RX4 26 yX6_units ∈ lw_tbl := List.mem_append_right _ (List.mem_append_right _ (List.mem_append_right _ (List.mem_append_left _ (List.mem_of_getElem? (i := 45) rfl))))
set_option maxRecDepth 20000 in
theorem wi_606 : Cond.code yX1_strainOfEnd cX1_strainOfEnd 2 (some .int) ∈ lw_tbl := List.mem_append_right _ (List.mem_append_right _ (List.mem_append_right _ (List.mem_append_left _ (List.mem_of_getElem? (i := 85) rfl))))
set_option maxRecDepth 20000 in
theorem wi_607 : Cond.selects RX1 yX1_strainOfEnd yX1_strainOfEnd ∈ lw_tbl := List.mem_append_left _ (List.mem_of_getElem? (i := 12) rfl)
set_option maxRecDepth 20000 in
theorem wi_608 : Cond.instanceMethod yX1_strainOfEnd ∈ lw_tbl := List.mem_append_right _ (List.mem_append_right _ (List.mem_append_right _ (List.mem_append_left _ (List.mem_of_getElem? (i := 84) rfl))))
set_option maxRecDepth 20000 in
theorem wi_609 : Cond.methodLink RX1 50 yX1_strainOfEnd ∈ lw_tbl := List.mem_append_right _ (List.mem_append_right _ (List.mem_append_right _ (List.mem_append_left _ (List.mem_of_getElem? (i := 82) rfl))))
set_option maxRecDepth 20000 in
theorem wi_610 : Cond.code yX1_strainOfLine cX1_strainOfLine 4 (some .int) ∈ lw_tbl := List.mem_append_right _ (List.mem_append_right _ (List.mem_append_right _ (List.mem_append_left _ (List.mem_of_getElem? (i := 81) rfl))))
set_option maxRecDepth 20000 in
theorem wi_611 : Cond.selects RX1 yX1_strainOfLine yX1_strainOfLine ∈ lw_tbl := List.mem_append_right _ (List.mem_append_right _ (List.mem_append_right _ (List.mem_append_left _ (List.mem_of_getElem? (i := 80) rfl))))
set_option maxRecDepth 20000 in
theorem wi_612 : Cond.instanceMethod yX1_strainOfLine ∈ lw_tbl := List.mem_append_right _ (List.mem_append_right _ (List.mem_append_right _ (List.mem_append_left _ (List.mem_of_getElem? (i := 79) rfl))))
set_option maxRecDepth 20000 in
theorem wi_613 : Cond.methodLink RX4 71 yX1_strainOfLine ∈ lw_tbl := List.mem_append_right _ (List.mem_append_right _ (List.mem_append_right _ (List.mem_append_left _ (List.mem_of_getElem? (i := 78) rfl))))
set_option maxRecDepth 20000 in
theorem wi_614 : Cond.methodLink RX4 68 yX6_behindLine ∈ lw_tbl := List.mem_append_right _ (List.mem_append_right _ (List.mem_append_right _ (List.mem_append_left _ (List.mem_of_getElem? (i := 77) rfl))))
set_option maxRecDepth 20000 in
theorem wi_615 : Cond.code yX4_weigh cX4_weigh 4 (some .int) ∈ lw_tbl := List.mem_append_right _ (List.mem_append_right _ (List.mem_append_right _ (List.mem_append_left _ (List.mem_of_getElem? (i := 76) rfl))))
set_option maxRecDepth 20000 in
theorem wi_616 : Cond.selects RX4 yX4_weigh yX4_weigh ∈ lw_tbl := List.mem_append_left _ (List.mem_of_getElem? (i := 11) rfl)
set_option maxRecDepth 20000 in
theorem wi_617 : Cond.instanceMethod yX4_weigh ∈ lw_tbl := List.mem_append_right _ (List.mem_append_right _ (List.mem_append_right _ (List.mem_append_left _ (List.mem_of_getElem? (i := 75) rfl))))
set_option maxRecDepth 20000 in
theorem wi_618 : Cond.methodLink RX4 40 yX4_weigh ∈ lw_tbl := List.mem_append_right _ (List.mem_append_right _ (List.mem_append_right _ (List.mem_append_left _ (List.mem_of_getElem? (i := 73) rfl))))
set_option maxRecDepth 20000 in
theorem wi_619 : Cond.code yX4_place cX4_place 2 (some .int) ∈ lw_tbl := List.mem_append_right _ (List.mem_append_right _ (List.mem_append_right _ (List.mem_append_left _ (List.mem_of_getElem? (i := 72) rfl))))
set_option maxRecDepth 20000 in
theorem wi_620 : Cond.static yX4_place ∈ lw_tbl := List.mem_append_right _ (List.mem_append_right _ (List.mem_append_right _ (List.mem_append_left _ (List.mem_of_getElem? (i := 71) rfl))))
set_option maxRecDepth 20000 in
theorem wi_621 : Cond.methodLink RX4 36 yX4_place ∈ lw_tbl := List.mem_append_right _ (List.mem_append_right _ (List.mem_append_right _ (List.mem_append_left _ (List.mem_of_getElem? (i := 70) rfl))))
set_option maxRecDepth 20000 in
theorem wi_622 : Cond.methodLink RX4 63 yX1_longest ∈ lw_tbl := List.mem_append_right _ (List.mem_append_right _ (List.mem_append_right _ (List.mem_append_left _ (List.mem_of_getElem? (i := 69) rfl))))
set_option maxRecDepth 20000 in
theorem wi_623 : Cond.code yX6_behindLine cX6_behindLine 3 (some .int) ∈ lw_tbl := List.mem_append_right _ (List.mem_append_right _ (List.mem_append_right _ (List.mem_append_left _ (List.mem_of_getElem? (i := 68) rfl))))
set_option maxRecDepth 20000 in
theorem wi_624 : Cond.selects RX6 yX6_behindLine yX6_behindLine ∈ lw_tbl := List.mem_append_right _ (List.mem_append_right _ (List.mem_append_right _ (List.mem_append_left _ (List.mem_of_getElem? (i := 67) rfl))))
set_option maxRecDepth 20000 in
theorem wi_625 : Cond.instanceMethod yX6_behindLine ∈ lw_tbl := List.mem_append_right _ (List.mem_append_right _ (List.mem_append_right _ (List.mem_append_left _ (List.mem_of_getElem? (i := 66) rfl))))
set_option maxRecDepth 20000 in
theorem wi_626 : Cond.code yX1_strainOfPlace cX1_strainOfPlace 3 (some .int) ∈ lw_tbl := List.mem_append_right _ (List.mem_append_right _ (List.mem_append_right _ (List.mem_append_left _ (List.mem_of_getElem? (i := 105) rfl))))
set_option maxRecDepth 20000 in
theorem wi_627 : Cond.selects RX1 yX1_strainOfPlace yX1_strainOfPlace ∈ lw_tbl := List.mem_append_right _ (List.mem_append_right _ (List.mem_append_right _ (List.mem_append_left _ (List.mem_of_getElem? (i := 104) rfl))))
set_option maxRecDepth 20000 in
theorem wi_628 : Cond.instanceMethod yX1_strainOfPlace ∈ lw_tbl := List.mem_append_right _ (List.mem_append_right _ (List.mem_append_right _ (List.mem_append_left _ (List.mem_of_getElem? (i := 103) rfl))))
set_option maxRecDepth 20000 in
theorem wi_629 : Cond.methodLink RX6 82 yX1_strainOfPlace ∈ lw_tbl := List.mem_append_right _ (List.mem_append_right _ (List.mem_append_right _ (List.mem_append_left _ (List.mem_of_getElem? (i := 102) rfl))))
set_option maxRecDepth 20000 in
theorem wi_630 : Cond.code yX6_strainOfPlaces cX6_strainOfPlaces 8 (some .int) ∈ lw_tbl := List.mem_append_right _ (List.mem_append_right _ (List.mem_append_right _ (List.mem_append_left _ (List.mem_of_getElem? (i := 101) rfl))))
set_option maxRecDepth 20000 in
theorem wi_631 : Cond.selects RX6 yX6_strainOfPlaces yX6_strainOfPlaces ∈ lw_tbl := List.mem_append_right _ (List.mem_append_right _ (List.mem_append_right _ (List.mem_append_left _ (List.mem_of_getElem? (i := 100) rfl))))
set_option maxRecDepth 20000 in
theorem wi_632 : Cond.instanceMethod yX6_strainOfPlaces ∈ lw_tbl := List.mem_append_right _ (List.mem_append_right _ (List.mem_append_right _ (List.mem_append_left _ (List.mem_of_getElem? (i := 99) rfl))))
set_option maxRecDepth 20000 in
theorem wi_633 : Cond.methodLink RX4 83 yX6_strainOfPlaces ∈ lw_tbl := List.mem_append_right _ (List.mem_append_right _ (List.mem_append_right _ (List.mem_append_left _ (List.mem_of_getElem? (i := 98) rfl))))
set_option maxRecDepth 20000 in
theorem wi_634 : Cond.code yX6_beginOf cX6_beginOf 2 (some .int) ∈ lw_tbl := List.mem_append_right _ (List.mem_append_right _ (List.mem_append_right _ (List.mem_append_left _ (List.mem_of_getElem? (i := 94) rfl))))
set_option maxRecDepth 20000 in
theorem wi_635 : Cond.selects RX6 yX6_beginOf yX6_beginOf ∈ lw_tbl := List.mem_append_right _ (List.mem_append_right _ (List.mem_append_right _ (List.mem_append_left _ (List.mem_of_getElem? (i := 93) rfl))))
set_option maxRecDepth 20000 in
theorem wi_636 : Cond.instanceMethod yX6_beginOf ∈ lw_tbl := List.mem_append_right _ (List.mem_append_right _ (List.mem_append_right _ (List.mem_append_left _ (List.mem_of_getElem? (i := 92) rfl))))
set_option maxRecDepth 20000 in
theorem wi_637 : Cond.methodLink RX4 74 yX6_beginOf ∈ lw_tbl := List.mem_append_right _ (List.mem_append_right _ (List.mem_append_right _ (List.mem_append_left _ (List.mem_of_getElem? (i := 91) rfl))))
set_option maxRecDepth 20000 in
theorem wi_638 : Cond.code Lib.Math.min.name Lib.Math.min.code 2 (some .int) ∈ lw_tbl := List.mem_append_right _ (List.mem_append_right _ (List.mem_append_right _ (List.mem_append_left _ (List.mem_of_getElem? (i := 97) rfl))))
set_option maxRecDepth 20000 in
theorem wi_639 : Cond.initialized "java/lang/Math" ∈ lw_tbl := List.mem_append_right _ (List.mem_append_left _ (List.mem_of_getElem? (i := 14) rfl))
set_option maxRecDepth 20000 in
theorem wi_640 : Cond.static Lib.Math.min.name ∈ lw_tbl := List.mem_append_right _ (List.mem_append_right _ (List.mem_append_right _ (List.mem_append_left _ (List.mem_of_getElem? (i := 96) rfl))))
set_option maxRecDepth 20000 in
theorem wi_641 : Cond.methodLink RX4 78 Lib.Math.min.name ∈ lw_tbl := List.mem_append_right _ (List.mem_append_right _ (List.mem_append_right _ (List.mem_append_left _ (List.mem_of_getElem? (i := 95) rfl))))
set_option maxRecDepth 20000 in
theorem wi_642 : Cond.fieldLink RX4 47 "StillText$Setter" "chosen" "I" ∈ lw_tbl := List.mem_append_right _ (List.mem_append_left _ (List.mem_of_getElem? (i := 172) rfl))
set_option maxRecDepth 20000 in
theorem wi_643 : Cond.code yX4_leastBelow cX4_leastBelow 12 (some .int) ∈ lw_tbl := List.mem_append_right _ (List.mem_append_right _ (List.mem_append_right _ (List.mem_append_left _ (List.mem_of_getElem? (i := 90) rfl))))
set_option maxRecDepth 20000 in
theorem wi_644 : Cond.selects RX4 yX4_leastBelow yX4_leastBelow ∈ lw_tbl := List.mem_append_left _ (List.mem_of_getElem? (i := 13) rfl)
set_option maxRecDepth 20000 in
theorem wi_645 : Cond.instanceMethod yX4_leastBelow ∈ lw_tbl := List.mem_append_right _ (List.mem_append_right _ (List.mem_append_right _ (List.mem_append_left _ (List.mem_of_getElem? (i := 89) rfl))))
set_option maxRecDepth 20000 in
theorem wi_646 : Cond.methodLink RX4 43 yX4_leastBelow ∈ lw_tbl := List.mem_append_right _ (List.mem_append_right _ (List.mem_append_right _ (List.mem_append_left _ (List.mem_of_getElem? (i := 87) rfl))))
set_option maxRecDepth 20000 in
theorem wi_647 : Cond.methodLink RX4 57 yX6_body ∈ lw_tbl := List.mem_append_right _ (List.mem_append_right _ (List.mem_append_right _ (List.mem_append_left _ (List.mem_of_getElem? (i := 86) rfl))))
set_option maxRecDepth 20000 in
theorem wi_648 : Cond.code yX5_addLine cX5_addLine 3 none ∈ lw_tbl := List.mem_append_right _ (List.mem_append_right _ (List.mem_append_right _ (List.mem_append_left _ (List.mem_of_getElem? (i := 113) rfl))))
set_option maxRecDepth 20000 in
theorem wi_649 : Cond.selects RX5 yX5_addLine yX5_addLine ∈ lw_tbl := List.mem_append_right _ (List.mem_append_right _ (List.mem_append_right _ (List.mem_append_left _ (List.mem_of_getElem? (i := 112) rfl))))
set_option maxRecDepth 20000 in
theorem wi_650 : Cond.instanceMethod yX5_addLine ∈ lw_tbl := List.mem_append_right _ (List.mem_append_right _ (List.mem_append_right _ (List.mem_append_left _ (List.mem_of_getElem? (i := 111) rfl))))
set_option maxRecDepth 20000 in
theorem wi_651 : Cond.methodLink RX4 51 yX5_addLine ∈ lw_tbl := List.mem_append_right _ (List.mem_append_right _ (List.mem_append_right _ (List.mem_append_left _ (List.mem_of_getElem? (i := 110) rfl))))
set_option maxRecDepth 20000 in
theorem wi_652 : Cond.code yX4_putLines cX4_putLines 6 (some .int) ∈ lw_tbl := List.mem_append_right _ (List.mem_append_right _ (List.mem_append_right _ (List.mem_append_left _ (List.mem_of_getElem? (i := 109) rfl))))
set_option maxRecDepth 20000 in
theorem wi_653 : Cond.selects RX4 yX4_putLines yX4_putLines ∈ lw_tbl := List.mem_append_right _ (List.mem_append_right _ (List.mem_append_right _ (List.mem_append_left _ (List.mem_of_getElem? (i := 108) rfl))))
set_option maxRecDepth 20000 in
theorem wi_654 : Cond.instanceMethod yX4_putLines ∈ lw_tbl := List.mem_append_right _ (List.mem_append_right _ (List.mem_append_right _ (List.mem_append_left _ (List.mem_of_getElem? (i := 107) rfl))))
set_option maxRecDepth 20000 in
theorem wi_655 : Cond.methodLink RX10 172 yX4_putLines ∈ lw_tbl := List.mem_append_right _ (List.mem_append_right _ (List.mem_append_right _ (List.mem_append_left _ (List.mem_of_getElem? (i := 106) rfl))))
set_option maxRecDepth 20000 in
theorem iw_X10_set : ∀ w ∈ wsX10_set, w ∈ lw_tbl := List.forall_mem_cons.mpr ⟨wi_532, List.forall_mem_append.mpr ⟨List.forall_mem_append.mpr ⟨List.forall_mem_append.mpr ⟨List.forall_mem_append.mpr ⟨List.forall_mem_append.mpr ⟨List.forall_mem_append.mpr ⟨List.forall_mem_append.mpr ⟨List.forall_mem_cons.mpr ⟨wi_10, List.forall_mem_cons.mpr ⟨wi_6, List.forall_mem_cons.mpr ⟨wi_2, List.forall_mem_cons.mpr ⟨wi_46, List.forall_mem_cons.mpr ⟨wi_544, List.forall_mem_cons.mpr ⟨wi_543, List.forall_mem_cons.mpr ⟨wi_542, List.forall_mem_cons.mpr ⟨wi_7, List.forall_mem_cons.mpr ⟨wi_541, List.forall_mem_cons.mpr ⟨wi_59, List.forall_mem_cons.mpr ⟨wi_540, List.forall_mem_cons.mpr ⟨wi_539, List.forall_mem_cons.mpr ⟨wi_538, List.forall_mem_cons.mpr ⟨wi_11, List.forall_mem_cons.mpr ⟨wi_537, List.forall_mem_cons.mpr ⟨wi_296, List.forall_mem_cons.mpr ⟨wi_536, List.forall_mem_cons.mpr ⟨wi_535, List.forall_mem_cons.mpr ⟨wi_534, List.forall_mem_cons.mpr ⟨wi_533, List.forall_mem_cons.mpr ⟨wi_64, List.forall_mem_cons.mpr ⟨wi_65, List.forall_mem_cons.mpr ⟨wi_447, List.forall_mem_cons.mpr ⟨wi_446, fun _ h => absurd h List.not_mem_nil⟩⟩⟩⟩⟩⟩⟩⟩⟩⟩⟩⟩⟩⟩⟩⟩⟩⟩⟩⟩⟩⟩⟩⟩, List.forall_mem_append.mpr ⟨List.forall_mem_cons.mpr ⟨wi_445, List.forall_mem_cons.mpr ⟨wi_444, List.forall_mem_cons.mpr ⟨wi_443, List.forall_mem_cons.mpr ⟨wi_442, List.forall_mem_cons.mpr ⟨wi_441, List.forall_mem_cons.mpr ⟨wi_440, List.forall_mem_cons.mpr ⟨wi_439, List.forall_mem_cons.mpr ⟨wi_438, List.forall_mem_cons.mpr ⟨wi_437, List.forall_mem_cons.mpr ⟨wi_436, List.forall_mem_cons.mpr ⟨wi_553, List.forall_mem_cons.mpr ⟨wi_552, List.forall_mem_cons.mpr ⟨wi_551, List.forall_mem_cons.mpr ⟨wi_550, List.forall_mem_cons.mpr ⟨wi_58, List.forall_mem_cons.mpr ⟨wi_549, List.forall_mem_cons.mpr ⟨wi_548, List.forall_mem_cons.mpr ⟨wi_547, List.forall_mem_cons.mpr ⟨wi_3, List.forall_mem_cons.mpr ⟨wi_546, List.forall_mem_cons.mpr ⟨wi_91, List.forall_mem_cons.mpr ⟨wi_545, List.forall_mem_cons.mpr ⟨wi_353, List.forall_mem_cons.mpr ⟨wi_464, fun _ h => absurd h List.not_mem_nil⟩⟩⟩⟩⟩⟩⟩⟩⟩⟩⟩⟩⟩⟩⟩⟩⟩⟩⟩⟩⟩⟩⟩⟩, List.forall_mem_append.mpr ⟨List.forall_mem_cons.mpr ⟨wi_570, List.forall_mem_cons.mpr ⟨wi_569, List.forall_mem_cons.mpr ⟨wi_568, List.forall_mem_cons.mpr ⟨wi_92, List.forall_mem_cons.mpr ⟨wi_567, List.forall_mem_cons.mpr ⟨wi_566, List.forall_mem_cons.mpr ⟨wi_565, List.forall_mem_cons.mpr ⟨wi_564, List.forall_mem_cons.mpr ⟨wi_376, List.forall_mem_cons.mpr ⟨wi_375, List.forall_mem_cons.mpr ⟨wi_374, List.forall_mem_cons.mpr ⟨wi_563, List.forall_mem_cons.mpr ⟨wi_562, List.forall_mem_cons.mpr ⟨wi_561, List.forall_mem_cons.mpr ⟨wi_560, List.forall_mem_cons.mpr ⟨wi_559, List.forall_mem_cons.mpr ⟨wi_558, List.forall_mem_cons.mpr ⟨wi_557, List.forall_mem_cons.mpr ⟨wi_556, List.forall_mem_cons.mpr ⟨wi_555, List.forall_mem_cons.mpr ⟨wi_85, List.forall_mem_cons.mpr ⟨wi_84, List.forall_mem_cons.mpr ⟨wi_554, List.forall_mem_cons.mpr ⟨wi_519, fun _ h => absurd h List.not_mem_nil⟩⟩⟩⟩⟩⟩⟩⟩⟩⟩⟩⟩⟩⟩⟩⟩⟩⟩⟩⟩⟩⟩⟩⟩, List.forall_mem_append.mpr ⟨List.forall_mem_cons.mpr ⟨wi_518, List.forall_mem_cons.mpr ⟨wi_317, List.forall_mem_cons.mpr ⟨wi_271, List.forall_mem_cons.mpr ⟨wi_316, List.forall_mem_cons.mpr ⟨wi_584, List.forall_mem_cons.mpr ⟨wi_583, List.forall_mem_cons.mpr ⟨wi_582, List.forall_mem_cons.mpr ⟨wi_581, List.forall_mem_cons.mpr ⟨wi_83, List.forall_mem_cons.mpr ⟨wi_82, List.forall_mem_cons.mpr ⟨wi_81, List.forall_mem_cons.mpr ⟨wi_580, List.forall_mem_cons.mpr ⟨wi_579, List.forall_mem_cons.mpr ⟨wi_578, List.forall_mem_cons.mpr ⟨wi_577, List.forall_mem_cons.mpr ⟨wi_576, List.forall_mem_cons.mpr ⟨wi_66, List.forall_mem_cons.mpr ⟨wi_575, List.forall_mem_cons.mpr ⟨wi_574, List.forall_mem_cons.mpr ⟨wi_573, List.forall_mem_cons.mpr ⟨wi_572, List.forall_mem_cons.mpr ⟨wi_47, List.forall_mem_cons.mpr ⟨wi_571, List.forall_mem_cons.mpr ⟨wi_115, fun _ h => absurd h List.not_mem_nil⟩⟩⟩⟩⟩⟩⟩⟩⟩⟩⟩⟩⟩⟩⟩⟩⟩⟩⟩⟩⟩⟩⟩⟩, List.forall_mem_append.mpr ⟨List.forall_mem_cons.mpr ⟨wi_116, List.forall_mem_cons.mpr ⟨wi_117, List.forall_mem_cons.mpr ⟨wi_605, List.forall_mem_cons.mpr ⟨wi_604, List.forall_mem_cons.mpr ⟨wi_603, List.forall_mem_cons.mpr ⟨wi_602, List.forall_mem_cons.mpr ⟨wi_601, List.forall_mem_cons.mpr ⟨wi_600, List.forall_mem_cons.mpr ⟨wi_599, List.forall_mem_cons.mpr ⟨wi_598, List.forall_mem_cons.mpr ⟨wi_114, List.forall_mem_cons.mpr ⟨wi_597, List.forall_mem_cons.mpr ⟨wi_596, List.forall_mem_cons.mpr ⟨wi_595, List.forall_mem_cons.mpr ⟨wi_594, List.forall_mem_cons.mpr ⟨wi_593, List.forall_mem_cons.mpr ⟨wi_592, List.forall_mem_cons.mpr ⟨wi_591, List.forall_mem_cons.mpr ⟨wi_590, List.forall_mem_cons.mpr ⟨wi_589, List.forall_mem_cons.mpr ⟨wi_588, List.forall_mem_cons.mpr ⟨wi_587, List.forall_mem_cons.mpr ⟨wi_586, List.forall_mem_cons.mpr ⟨wi_585, fun _ h => absurd h List.not_mem_nil⟩⟩⟩⟩⟩⟩⟩⟩⟩⟩⟩⟩⟩⟩⟩⟩⟩⟩⟩⟩⟩⟩⟩⟩, List.forall_mem_append.mpr ⟨List.forall_mem_cons.mpr ⟨wi_625, List.forall_mem_cons.mpr ⟨wi_624, List.forall_mem_cons.mpr ⟨wi_623, List.forall_mem_cons.mpr ⟨wi_622, List.forall_mem_cons.mpr ⟨wi_621, List.forall_mem_cons.mpr ⟨wi_620, List.forall_mem_cons.mpr ⟨wi_619, List.forall_mem_cons.mpr ⟨wi_618, List.forall_mem_cons.mpr ⟨wi_617, List.forall_mem_cons.mpr ⟨wi_616, List.forall_mem_cons.mpr ⟨wi_615, List.forall_mem_cons.mpr ⟨wi_614, List.forall_mem_cons.mpr ⟨wi_613, List.forall_mem_cons.mpr ⟨wi_612, List.forall_mem_cons.mpr ⟨wi_611, List.forall_mem_cons.mpr ⟨wi_610, List.forall_mem_cons.mpr ⟨wi_57, List.forall_mem_cons.mpr ⟨wi_609, List.forall_mem_cons.mpr ⟨wi_608, List.forall_mem_cons.mpr ⟨wi_607, List.forall_mem_cons.mpr ⟨wi_606, List.forall_mem_cons.mpr ⟨wi_56, List.forall_mem_cons.mpr ⟨wi_54, List.forall_mem_cons.mpr ⟨wi_55, fun _ h => absurd h List.not_mem_nil⟩⟩⟩⟩⟩⟩⟩⟩⟩⟩⟩⟩⟩⟩⟩⟩⟩⟩⟩⟩⟩⟩⟩⟩, List.forall_mem_append.mpr ⟨List.forall_mem_cons.mpr ⟨wi_647, List.forall_mem_cons.mpr ⟨wi_646, List.forall_mem_cons.mpr ⟨wi_645, List.forall_mem_cons.mpr ⟨wi_644, List.forall_mem_cons.mpr ⟨wi_643, List.forall_mem_cons.mpr ⟨wi_642, List.forall_mem_cons.mpr ⟨wi_641, List.forall_mem_cons.mpr ⟨wi_640, List.forall_mem_cons.mpr ⟨wi_639, List.forall_mem_cons.mpr ⟨wi_638, List.forall_mem_cons.mpr ⟨wi_637, List.forall_mem_cons.mpr ⟨wi_636, List.forall_mem_cons.mpr ⟨wi_635, List.forall_mem_cons.mpr ⟨wi_634, List.forall_mem_cons.mpr ⟨wi_633, List.forall_mem_cons.mpr ⟨wi_632, List.forall_mem_cons.mpr ⟨wi_631, List.forall_mem_cons.mpr ⟨wi_630, List.forall_mem_cons.mpr ⟨wi_629, List.forall_mem_cons.mpr ⟨wi_628, List.forall_mem_cons.mpr ⟨wi_627, List.forall_mem_cons.mpr ⟨wi_626, List.forall_mem_cons.mpr ⟨wi_53, List.forall_mem_cons.mpr ⟨wi_52, fun _ h => absurd h List.not_mem_nil⟩⟩⟩⟩⟩⟩⟩⟩⟩⟩⟩⟩⟩⟩⟩⟩⟩⟩⟩⟩⟩⟩⟩⟩, List.forall_mem_cons.mpr ⟨wi_51, List.forall_mem_cons.mpr ⟨wi_50, List.forall_mem_cons.mpr ⟨wi_655, List.forall_mem_cons.mpr ⟨wi_654, List.forall_mem_cons.mpr ⟨wi_653, List.forall_mem_cons.mpr ⟨wi_652, List.forall_mem_cons.mpr ⟨wi_651, List.forall_mem_cons.mpr ⟨wi_650, List.forall_mem_cons.mpr ⟨wi_649, List.forall_mem_cons.mpr ⟨wi_648, List.forall_mem_cons.mpr ⟨wi_90, List.forall_mem_cons.mpr ⟨wi_89, fun _ h => absurd h List.not_mem_nil⟩⟩⟩⟩⟩⟩⟩⟩⟩⟩⟩⟩⟩⟩⟩⟩⟩⟩⟩, iX10⟩, iX1⟩, iX9⟩, iX5⟩, iX6⟩, iX4⟩⟩
set_option maxRecDepth 20000 in
theorem wi_656 : Cond.selects RX10 yX10_set yX10_set ∈ lw_tbl := List.mem_append_right _ (List.mem_append_right _ (List.mem_append_left _ (List.mem_of_getElem? (i := 234) rfl)))
set_option maxRecDepth 20000 in
theorem wi_657 : Cond.instanceMethod yX10_set ∈ lw_tbl := List.mem_append_right _ (List.mem_append_right _ (List.mem_append_left _ (List.mem_of_getElem? (i := 233) rfl)))
set_option maxRecDepth 20000 in
theorem wi_658 : Cond.methodLink RL 57 yX10_set ∈ lw_tbl := List.mem_append_right _ (List.mem_append_right _ (List.mem_append_left _ (List.mem_of_getElem? (i := 232) rfl)))
set_option maxRecDepth 20000 in
theorem gW_X10_set : GoodIn lw_tbl (wsV RL 57 RX10 yX10_set wsX10_set) := goodIn_sub (List.forall_mem_append.mpr ⟨List.forall_mem_cons.mpr ⟨wi_658, List.forall_mem_cons.mpr ⟨wi_657, List.forall_mem_cons.mpr ⟨wi_656, List.forall_mem_cons.mpr ⟨wi_271, fun _ h => absurd h List.not_mem_nil⟩⟩⟩⟩, iw_X10_set⟩) (by decide +kernel)
set_option maxRecDepth 20000 in
theorem wi_659 : Cond.code yX11_set cX11_set 8 (some .int) ∈ lw_tbl := List.mem_append_right _ (List.mem_append_right _ (List.mem_append_right _ (List.mem_append_right _ (List.mem_append_right _ (List.mem_of_getElem? (i := 21) rfl)))))
set_option maxRecDepth 20000 in
theorem wi_660 : Cond.code yX11_lays cX11_lays 7 (some .int) ∈ lw_tbl := List.mem_append_right _ (List.mem_append_right _ (List.mem_append_right _ (List.mem_append_right _ (List.mem_append_right _ (List.mem_of_getElem? (i := 33) rfl)))))
set_option maxRecDepth 20000 in
theorem wi_661 : Cond.selects RX11 yX11_lays yX11_lays ∈ lw_tbl := List.mem_append_left _ (List.mem_of_getElem? (i := 26) rfl)
set_option maxRecDepth 20000 in
theorem wi_662 : Cond.instanceMethod yX11_lays ∈ lw_tbl := List.mem_append_right _ (List.mem_append_right _ (List.mem_append_right _ (List.mem_append_right _ (List.mem_append_right _ (List.mem_of_getElem? (i := 32) rfl)))))
set_option maxRecDepth 20000 in
theorem wi_663 : Cond.methodLink RX11 151 yX11_lays ∈ lw_tbl := List.mem_append_right _ (List.mem_append_right _ (List.mem_append_right _ (List.mem_append_right _ (List.mem_append_right _ (List.mem_of_getElem? (i := 30) rfl)))))
set_option maxRecDepth 20000 in
theorem wi_664 : Cond.code yX11_most cX11_most 2 (some .int) ∈ lw_tbl := List.mem_append_right _ (List.mem_append_right _ (List.mem_append_right _ (List.mem_append_right _ (List.mem_append_right _ (List.mem_of_getElem? (i := 29) rfl)))))
set_option maxRecDepth 20000 in
theorem wi_665 : Cond.selects RX11 yX11_most yX11_most ∈ lw_tbl := List.mem_append_left _ (List.mem_of_getElem? (i := 25) rfl)
set_option maxRecDepth 20000 in
theorem wi_666 : Cond.instanceMethod yX11_most ∈ lw_tbl := List.mem_append_right _ (List.mem_append_right _ (List.mem_append_right _ (List.mem_append_right _ (List.mem_append_right _ (List.mem_of_getElem? (i := 28) rfl)))))
set_option maxRecDepth 20000 in
theorem wi_667 : Cond.methodLink RX11 158 yX11_most ∈ lw_tbl := List.mem_append_right _ (List.mem_append_right _ (List.mem_append_right _ (List.mem_append_right _ (List.mem_append_right _ (List.mem_of_getElem? (i := 26) rfl)))))
set_option maxRecDepth 20000 in
theorem wi_668 : Cond.code yX11_weighs cX11_weighs 7 none ∈ lw_tbl := List.mem_append_right _ (List.mem_append_right _ (List.mem_append_right _ (List.mem_append_right _ (List.mem_append_right _ (List.mem_of_getElem? (i := 25) rfl)))))
set_option maxRecDepth 20000 in
theorem wi_669 : Cond.selects RX11 yX11_weighs yX11_weighs ∈ lw_tbl := List.mem_append_left _ (List.mem_of_getElem? (i := 24) rfl)
set_option maxRecDepth 20000 in
theorem wi_670 : Cond.instanceMethod yX11_weighs ∈ lw_tbl := List.mem_append_right _ (List.mem_append_right _ (List.mem_append_right _ (List.mem_append_right _ (List.mem_append_right _ (List.mem_of_getElem? (i := 24) rfl)))))
set_option maxRecDepth 20000 in
theorem wi_671 : Cond.methodLink RX11 173 yX11_weighs ∈ lw_tbl := List.mem_append_right _ (List.mem_append_right _ (List.mem_append_right _ (List.mem_append_right _ (List.mem_append_right _ (List.mem_of_getElem? (i := 22) rfl)))))
set_option maxRecDepth 20000 in
theorem wi_672 : Cond.fieldLink RX11 170 "StillTextModel" "lines" "I" ∈ lw_tbl := List.mem_append_right _ (List.mem_append_right _ (List.mem_append_right _ (List.mem_append_right _ (List.mem_append_left _ (List.mem_of_getElem? (i := 87) rfl)))))
set_option maxRecDepth 20000 in
theorem wi_673 : Cond.constant RX11 150 (1000000000) ∈ lw_tbl := List.mem_append_right _ (List.mem_append_right _ (List.mem_append_right _ (List.mem_append_right _ (List.mem_append_right _ (List.mem_of_getElem? (i := 34) rfl)))))
set_option maxRecDepth 20000 in
theorem wi_674 : Cond.code yX11_lineStrain cX11_lineStrain 6 (some .int) ∈ lw_tbl := List.mem_append_right _ (List.mem_append_right _ (List.mem_append_right _ (List.mem_append_right _ (List.mem_append_right _ (List.mem_of_getElem? (i := 50) rfl)))))
set_option maxRecDepth 20000 in
theorem wi_675 : Cond.selects RX11 yX11_lineStrain yX11_lineStrain ∈ lw_tbl := List.mem_append_left _ (List.mem_of_getElem? (i := 30) rfl)
set_option maxRecDepth 20000 in
theorem wi_676 : Cond.instanceMethod yX11_lineStrain ∈ lw_tbl := List.mem_append_right _ (List.mem_append_right _ (List.mem_append_right _ (List.mem_append_right _ (List.mem_append_right _ (List.mem_of_getElem? (i := 49) rfl)))))
set_option maxRecDepth 20000 in
theorem wi_677 : Cond.methodLink RX11 166 yX11_lineStrain ∈ lw_tbl := List.mem_append_right _ (List.mem_append_right _ (List.mem_append_right _ (List.mem_append_right _ (List.mem_append_right _ (List.mem_of_getElem? (i := 47) rfl)))))
set_option maxRecDepth 20000 in
theorem wi_678 : Cond.code yX11_pairStrain cX11_pairStrain 5 (some .int) ∈ lw_tbl := List.mem_append_right _ (List.mem_append_right _ (List.mem_append_right _ (List.mem_append_right _ (List.mem_append_right _ (List.mem_of_getElem? (i := 46) rfl)))))
set_option maxRecDepth 20000 in
theorem wi_679 : Cond.selects RX11 yX11_pairStrain yX11_pairStrain ∈ lw_tbl := List.mem_append_left _ (List.mem_of_getElem? (i := 29) rfl)
set_option maxRecDepth 20000 in
theorem wi_680 : Cond.instanceMethod yX11_pairStrain ∈ lw_tbl := List.mem_append_right _ (List.mem_append_right _ (List.mem_append_right _ (List.mem_append_right _ (List.mem_append_right _ (List.mem_of_getElem? (i := 45) rfl)))))
set_option maxRecDepth 20000 in
theorem wi_681 : Cond.methodLink RX11 155 yX11_pairStrain ∈ lw_tbl := List.mem_append_right _ (List.mem_append_right _ (List.mem_append_right _ (List.mem_append_right _ (List.mem_append_right _ (List.mem_of_getElem? (i := 43) rfl)))))
set_option maxRecDepth 20000 in
theorem wi_682 : Cond.code yX11_place cX11_place 3 (some .int) ∈ lw_tbl := List.mem_append_right _ (List.mem_append_right _ (List.mem_append_right _ (List.mem_append_right _ (List.mem_append_right _ (List.mem_of_getElem? (i := 42) rfl)))))
set_option maxRecDepth 20000 in
theorem wi_683 : Cond.selects RX11 yX11_place yX11_place ∈ lw_tbl := List.mem_append_left _ (List.mem_of_getElem? (i := 28) rfl)
set_option maxRecDepth 20000 in
theorem wi_684 : Cond.instanceMethod yX11_place ∈ lw_tbl := List.mem_append_right _ (List.mem_append_right _ (List.mem_append_right _ (List.mem_append_right _ (List.mem_append_right _ (List.mem_of_getElem? (i := 41) rfl)))))
set_option maxRecDepth 20000 in
theorem wi_685 : Cond.methodLink RX11 146 yX11_place ∈ lw_tbl := List.mem_append_right _ (List.mem_append_right _ (List.mem_append_right _ (List.mem_append_right _ (List.mem_append_right _ (List.mem_of_getElem? (i := 39) rfl)))))
set_option maxRecDepth 20000 in
theorem wi_686 : Cond.code yX11_costOf cX11_costOf 7 (some .int) ∈ lw_tbl := List.mem_append_right _ (List.mem_append_right _ (List.mem_append_right _ (List.mem_append_right _ (List.mem_append_right _ (List.mem_of_getElem? (i := 38) rfl)))))
set_option maxRecDepth 20000 in
theorem wi_687 : Cond.selects RX11 yX11_costOf yX11_costOf ∈ lw_tbl := List.mem_append_left _ (List.mem_of_getElem? (i := 27) rfl)
set_option maxRecDepth 20000 in
theorem wi_688 : Cond.instanceMethod yX11_costOf ∈ lw_tbl := List.mem_append_right _ (List.mem_append_right _ (List.mem_append_right _ (List.mem_append_right _ (List.mem_append_right _ (List.mem_of_getElem? (i := 37) rfl)))))
set_option maxRecDepth 20000 in
theorem wi_689 : Cond.methodLink RX11 162 yX11_costOf ∈ lw_tbl := List.mem_append_right _ (List.mem_append_right _ (List.mem_append_right _ (List.mem_append_right _ (List.mem_append_right _ (List.mem_of_getElem? (i := 35) rfl)))))
set_option maxRecDepth 20000 in
theorem wi_690 : Cond.code yX11_keeps cX11_keeps 5 none ∈ lw_tbl := List.mem_append_right _ (List.mem_append_right _ (List.mem_append_right _ (List.mem_append_right _ (List.mem_append_right _ (List.mem_of_getElem? (i := 54) rfl)))))
set_option maxRecDepth 20000 in
theorem wi_691 : Cond.selects RX11 yX11_keeps yX11_keeps ∈ lw_tbl := List.mem_append_left _ (List.mem_of_getElem? (i := 31) rfl)
set_option maxRecDepth 20000 in
theorem wi_692 : Cond.instanceMethod yX11_keeps ∈ lw_tbl := List.mem_append_right _ (List.mem_append_right _ (List.mem_append_right _ (List.mem_append_right _ (List.mem_append_right _ (List.mem_of_getElem? (i := 53) rfl)))))
set_option maxRecDepth 20000 in
theorem wi_693 : Cond.methodLink RX11 176 yX11_keeps ∈ lw_tbl := List.mem_append_right _ (List.mem_append_right _ (List.mem_append_right _ (List.mem_append_right _ (List.mem_append_right _ (List.mem_of_getElem? (i := 51) rfl)))))
set_option maxRecDepth 20000 in
theorem iw_X11_set : ∀ w ∈ wsX11_set, w ∈ lw_tbl := List.forall_mem_cons.mpr ⟨wi_659, List.forall_mem_append.mpr ⟨List.forall_mem_append.mpr ⟨List.forall_mem_cons.mpr ⟨wi_400, List.forall_mem_cons.mpr ⟨wi_673, List.forall_mem_cons.mpr ⟨wi_187, List.forall_mem_cons.mpr ⟨wi_399, List.forall_mem_cons.mpr ⟨wi_398, List.forall_mem_cons.mpr ⟨wi_672, List.forall_mem_cons.mpr ⟨wi_189, List.forall_mem_cons.mpr ⟨wi_671, List.forall_mem_cons.mpr ⟨wi_670, List.forall_mem_cons.mpr ⟨wi_669, List.forall_mem_cons.mpr ⟨wi_277, List.forall_mem_cons.mpr ⟨wi_668, List.forall_mem_cons.mpr ⟨wi_667, List.forall_mem_cons.mpr ⟨wi_666, List.forall_mem_cons.mpr ⟨wi_665, List.forall_mem_cons.mpr ⟨wi_664, List.forall_mem_cons.mpr ⟨wi_663, List.forall_mem_cons.mpr ⟨wi_662, List.forall_mem_cons.mpr ⟨wi_661, List.forall_mem_cons.mpr ⟨wi_660, List.forall_mem_cons.mpr ⟨wi_204, List.forall_mem_cons.mpr ⟨wi_196, List.forall_mem_cons.mpr ⟨wi_206, List.forall_mem_cons.mpr ⟨wi_205, fun _ h => absurd h List.not_mem_nil⟩⟩⟩⟩⟩⟩⟩⟩⟩⟩⟩⟩⟩⟩⟩⟩⟩⟩⟩⟩⟩⟩⟩⟩, List.forall_mem_append.mpr ⟨List.forall_mem_cons.mpr ⟨wi_197, List.forall_mem_cons.mpr ⟨wi_689, List.forall_mem_cons.mpr ⟨wi_688, List.forall_mem_cons.mpr ⟨wi_687, List.forall_mem_cons.mpr ⟨wi_686, List.forall_mem_cons.mpr ⟨wi_188, List.forall_mem_cons.mpr ⟨wi_685, List.forall_mem_cons.mpr ⟨wi_684, List.forall_mem_cons.mpr ⟨wi_683, List.forall_mem_cons.mpr ⟨wi_682, List.forall_mem_cons.mpr ⟨wi_681, List.forall_mem_cons.mpr ⟨wi_680, List.forall_mem_cons.mpr ⟨wi_679, List.forall_mem_cons.mpr ⟨wi_678, List.forall_mem_cons.mpr ⟨wi_191, List.forall_mem_cons.mpr ⟨wi_190, List.forall_mem_cons.mpr ⟨wi_392, List.forall_mem_cons.mpr ⟨wi_391, List.forall_mem_cons.mpr ⟨wi_390, List.forall_mem_cons.mpr ⟨wi_677, List.forall_mem_cons.mpr ⟨wi_676, List.forall_mem_cons.mpr ⟨wi_675, List.forall_mem_cons.mpr ⟨wi_674, List.forall_mem_cons.mpr ⟨wi_195, fun _ h => absurd h List.not_mem_nil⟩⟩⟩⟩⟩⟩⟩⟩⟩⟩⟩⟩⟩⟩⟩⟩⟩⟩⟩⟩⟩⟩⟩⟩, List.forall_mem_cons.mpr ⟨wi_194, List.forall_mem_cons.mpr ⟨wi_192, List.forall_mem_cons.mpr ⟨wi_193, List.forall_mem_cons.mpr ⟨wi_693, List.forall_mem_cons.mpr ⟨wi_692, List.forall_mem_cons.mpr ⟨wi_691, List.forall_mem_cons.mpr ⟨wi_690, List.forall_mem_cons.mpr ⟨wi_215, List.forall_mem_cons.mpr ⟨wi_214, List.forall_mem_cons.mpr ⟨wi_213, List.forall_mem_cons.mpr ⟨wi_212, fun _ h => absurd h List.not_mem_nil⟩⟩⟩⟩⟩⟩⟩⟩⟩⟩⟩⟩⟩, iX11⟩⟩
set_option maxRecDepth 20000 in
theorem wi_694 : Cond.selects RX11 yX11_set yX11_set ∈ lw_tbl := List.mem_append_right _ (List.mem_append_right _ (List.mem_append_right _ (List.mem_append_right _ (List.mem_append_right _ (List.mem_of_getElem? (i := 20) rfl)))))
set_option maxRecDepth 20000 in
theorem wi_695 : Cond.instanceMethod yX11_set ∈ lw_tbl := List.mem_append_right _ (List.mem_append_right _ (List.mem_append_right _ (List.mem_append_right _ (List.mem_append_right _ (List.mem_of_getElem? (i := 19) rfl)))))
set_option maxRecDepth 20000 in
theorem wi_696 : Cond.methodLink RL 60 yX11_set ∈ lw_tbl := List.mem_append_right _ (List.mem_append_right _ (List.mem_append_right _ (List.mem_append_right _ (List.mem_append_right _ (List.mem_of_getElem? (i := 18) rfl)))))
set_option maxRecDepth 20000 in
theorem gW_X11_set : GoodIn lw_tbl (wsV RL 60 RX11 yX11_set wsX11_set) := goodIn_sub (List.forall_mem_append.mpr ⟨List.forall_mem_cons.mpr ⟨wi_696, List.forall_mem_cons.mpr ⟨wi_695, List.forall_mem_cons.mpr ⟨wi_694, List.forall_mem_cons.mpr ⟨wi_277, fun _ h => absurd h List.not_mem_nil⟩⟩⟩⟩, iw_X11_set⟩) (by decide +kernel)
set_option maxRecDepth 20000 in
theorem wi_697 : Cond.code yX10_lines cX10_lines 1 (some .int) ∈ lw_tbl := List.mem_append_right _ (List.mem_append_right _ (List.mem_append_right _ (List.mem_append_left _ (List.mem_of_getElem? (i := 117) rfl))))
set_option maxRecDepth 20000 in
theorem wi_698 : Cond.code yX5_count cX5_count 1 (some .int) ∈ lw_tbl := List.mem_append_right _ (List.mem_append_right _ (List.mem_append_right _ (List.mem_append_left _ (List.mem_of_getElem? (i := 125) rfl))))
set_option maxRecDepth 20000 in
theorem wi_699 : Cond.selects RX5 yX5_count yX5_count ∈ lw_tbl := List.mem_append_right _ (List.mem_append_right _ (List.mem_append_right _ (List.mem_append_left _ (List.mem_of_getElem? (i := 124) rfl))))
set_option maxRecDepth 20000 in
theorem wi_700 : Cond.instanceMethod yX5_count ∈ lw_tbl := List.mem_append_right _ (List.mem_append_right _ (List.mem_append_right _ (List.mem_append_left _ (List.mem_of_getElem? (i := 123) rfl))))
set_option maxRecDepth 20000 in
theorem wi_701 : Cond.methodLink RX10 179 yX5_count ∈ lw_tbl := List.mem_append_right _ (List.mem_append_right _ (List.mem_append_right _ (List.mem_append_left _ (List.mem_of_getElem? (i := 122) rfl))))
set_option maxRecDepth 20000 in
theorem wi_702 : Cond.code yX5_isThere cX5_isThere 1 (some .boolean) ∈ lw_tbl := List.mem_append_right _ (List.mem_append_right _ (List.mem_append_right _ (List.mem_append_left _ (List.mem_of_getElem? (i := 121) rfl))))
set_option maxRecDepth 20000 in
theorem wi_703 : Cond.selects RX5 yX5_isThere yX5_isThere ∈ lw_tbl := List.mem_append_right _ (List.mem_append_right _ (List.mem_append_right _ (List.mem_append_left _ (List.mem_of_getElem? (i := 120) rfl))))
set_option maxRecDepth 20000 in
theorem wi_704 : Cond.instanceMethod yX5_isThere ∈ lw_tbl := List.mem_append_right _ (List.mem_append_right _ (List.mem_append_right _ (List.mem_append_left _ (List.mem_of_getElem? (i := 119) rfl))))
set_option maxRecDepth 20000 in
theorem wi_705 : Cond.methodLink RX10 176 yX5_isThere ∈ lw_tbl := List.mem_append_right _ (List.mem_append_right _ (List.mem_append_right _ (List.mem_append_left _ (List.mem_of_getElem? (i := 118) rfl))))
set_option maxRecDepth 20000 in
theorem iw_X10_lines : ∀ w ∈ wsX10_lines, w ∈ lw_tbl := List.forall_mem_cons.mpr ⟨wi_697, List.forall_mem_append.mpr ⟨List.forall_mem_append.mpr ⟨List.forall_mem_cons.mpr ⟨wi_2, List.forall_mem_cons.mpr ⟨wi_705, List.forall_mem_cons.mpr ⟨wi_704, List.forall_mem_cons.mpr ⟨wi_703, List.forall_mem_cons.mpr ⟨wi_3, List.forall_mem_cons.mpr ⟨wi_702, List.forall_mem_cons.mpr ⟨wi_353, List.forall_mem_cons.mpr ⟨wi_701, List.forall_mem_cons.mpr ⟨wi_700, List.forall_mem_cons.mpr ⟨wi_699, List.forall_mem_cons.mpr ⟨wi_698, List.forall_mem_cons.mpr ⟨wi_545, fun _ h => absurd h List.not_mem_nil⟩⟩⟩⟩⟩⟩⟩⟩⟩⟩⟩⟩, iX10⟩, iX5⟩⟩
set_option maxRecDepth 20000 in
theorem wi_706 : Cond.selects RX10 yX10_lines yX10_lines ∈ lw_tbl := List.mem_append_right _ (List.mem_append_right _ (List.mem_append_right _ (List.mem_append_left _ (List.mem_of_getElem? (i := 116) rfl))))
set_option maxRecDepth 20000 in
theorem wi_707 : Cond.instanceMethod yX10_lines ∈ lw_tbl := List.mem_append_right _ (List.mem_append_right _ (List.mem_append_right _ (List.mem_append_left _ (List.mem_of_getElem? (i := 115) rfl))))
set_option maxRecDepth 20000 in
theorem wi_708 : Cond.methodLink RL 61 yX10_lines ∈ lw_tbl := List.mem_append_right _ (List.mem_append_right _ (List.mem_append_right _ (List.mem_append_left _ (List.mem_of_getElem? (i := 114) rfl))))
set_option maxRecDepth 20000 in
theorem gW_X10_lines : GoodIn lw_tbl (wsV RL 61 RX10 yX10_lines wsX10_lines) := goodIn_sub (List.forall_mem_append.mpr ⟨List.forall_mem_cons.mpr ⟨wi_708, List.forall_mem_cons.mpr ⟨wi_707, List.forall_mem_cons.mpr ⟨wi_706, List.forall_mem_cons.mpr ⟨wi_271, fun _ h => absurd h List.not_mem_nil⟩⟩⟩⟩, iw_X10_lines⟩) (by decide +kernel)
set_option maxRecDepth 20000 in
theorem wi_709 : Cond.code yX11_lines cX11_lines 1 (some .int) ∈ lw_tbl := List.mem_append_right _ (List.mem_append_right _ (List.mem_append_right _ (List.mem_append_right _ (List.mem_append_right _ (List.mem_of_getElem? (i := 58) rfl)))))
set_option maxRecDepth 20000 in
theorem iw_X11_lines : ∀ w ∈ wsX11_lines, w ∈ lw_tbl := List.forall_mem_cons.mpr ⟨wi_709, List.forall_mem_append.mpr ⟨List.forall_mem_cons.mpr ⟨wi_399, List.forall_mem_cons.mpr ⟨wi_672, fun _ h => absurd h List.not_mem_nil⟩⟩, iX11⟩⟩
set_option maxRecDepth 20000 in
theorem wi_710 : Cond.selects RX11 yX11_lines yX11_lines ∈ lw_tbl := List.mem_append_right _ (List.mem_append_right _ (List.mem_append_right _ (List.mem_append_right _ (List.mem_append_right _ (List.mem_of_getElem? (i := 57) rfl)))))
set_option maxRecDepth 20000 in
theorem wi_711 : Cond.instanceMethod yX11_lines ∈ lw_tbl := List.mem_append_right _ (List.mem_append_right _ (List.mem_append_right _ (List.mem_append_right _ (List.mem_append_right _ (List.mem_of_getElem? (i := 56) rfl)))))
set_option maxRecDepth 20000 in
theorem wi_712 : Cond.methodLink RL 64 yX11_lines ∈ lw_tbl := List.mem_append_right _ (List.mem_append_right _ (List.mem_append_right _ (List.mem_append_right _ (List.mem_append_right _ (List.mem_of_getElem? (i := 55) rfl)))))
set_option maxRecDepth 20000 in
theorem gW_X11_lines : GoodIn lw_tbl (wsV RL 64 RX11 yX11_lines wsX11_lines) := goodIn_sub (List.forall_mem_append.mpr ⟨List.forall_mem_cons.mpr ⟨wi_712, List.forall_mem_cons.mpr ⟨wi_711, List.forall_mem_cons.mpr ⟨wi_710, List.forall_mem_cons.mpr ⟨wi_277, fun _ h => absurd h List.not_mem_nil⟩⟩⟩⟩, iw_X11_lines⟩) (by decide +kernel)
set_option maxRecDepth 20000 in
theorem wi_713 : Cond.code yX10_line cX10_line 3 (some .int) ∈ lw_tbl := List.mem_append_right _ (List.mem_append_right _ (List.mem_append_right _ (List.mem_append_left _ (List.mem_of_getElem? (i := 129) rfl))))
set_option maxRecDepth 20000 in
theorem wi_714 : Cond.code yX5_signsIn cX5_signsIn 2 (some .int) ∈ lw_tbl := List.mem_append_right _ (List.mem_append_right _ (List.mem_append_right _ (List.mem_append_left _ (List.mem_of_getElem? (i := 146) rfl))))
set_option maxRecDepth 20000 in
theorem wi_715 : Cond.selects RX5 yX5_signsIn yX5_signsIn ∈ lw_tbl := List.mem_append_right _ (List.mem_append_right _ (List.mem_append_right _ (List.mem_append_left _ (List.mem_of_getElem? (i := 145) rfl))))
set_option maxRecDepth 20000 in
theorem wi_716 : Cond.instanceMethod yX5_signsIn ∈ lw_tbl := List.mem_append_right _ (List.mem_append_right _ (List.mem_append_right _ (List.mem_append_left _ (List.mem_of_getElem? (i := 144) rfl))))
set_option maxRecDepth 20000 in
theorem wi_717 : Cond.methodLink RX10 187 yX5_signsIn ∈ lw_tbl := List.mem_append_right _ (List.mem_append_right _ (List.mem_append_right _ (List.mem_append_left _ (List.mem_of_getElem? (i := 143) rfl))))
set_option maxRecDepth 20000 in
theorem wi_718 : Cond.code yX5_unitsIn cX5_unitsIn 2 (some .int) ∈ lw_tbl := List.mem_append_right _ (List.mem_append_right _ (List.mem_append_right _ (List.mem_append_left _ (List.mem_of_getElem? (i := 142) rfl))))
set_option maxRecDepth 20000 in
theorem wi_719 : Cond.selects RX5 yX5_unitsIn yX5_unitsIn ∈ lw_tbl := List.mem_append_right _ (List.mem_append_right _ (List.mem_append_right _ (List.mem_append_left _ (List.mem_of_getElem? (i := 141) rfl))))
set_option maxRecDepth 20000 in
theorem wi_720 : Cond.instanceMethod yX5_unitsIn ∈ lw_tbl := List.mem_append_right _ (List.mem_append_right _ (List.mem_append_right _ (List.mem_append_left _ (List.mem_of_getElem? (i := 140) rfl))))
set_option maxRecDepth 20000 in
theorem wi_721 : Cond.methodLink RX10 184 yX5_unitsIn ∈ lw_tbl := List.mem_append_right _ (List.mem_append_right _ (List.mem_append_right _ (List.mem_append_left _ (List.mem_of_getElem? (i := 139) rfl))))
set_option maxRecDepth 20000 in
theorem wi_722 : Cond.methodLink RX5 40 yX5_has ∈ lw_tbl := List.mem_append_right _ (List.mem_append_right _ (List.mem_append_right _ (List.mem_append_left _ (List.mem_of_getElem? (i := 138) rfl))))
set_option maxRecDepth 20000 in
theorem wi_723 : Cond.code yX5_first cX5_first 2 (some .int) ∈ lw_tbl := List.mem_append_right _ (List.mem_append_right _ (List.mem_append_right _ (List.mem_append_left _ (List.mem_of_getElem? (i := 137) rfl))))
set_option maxRecDepth 20000 in
theorem wi_724 : Cond.selects RX5 yX5_first yX5_first ∈ lw_tbl := List.mem_append_right _ (List.mem_append_right _ (List.mem_append_right _ (List.mem_append_left _ (List.mem_of_getElem? (i := 136) rfl))))
set_option maxRecDepth 20000 in
theorem wi_725 : Cond.instanceMethod yX5_first ∈ lw_tbl := List.mem_append_right _ (List.mem_append_right _ (List.mem_append_right _ (List.mem_append_left _ (List.mem_of_getElem? (i := 135) rfl))))
set_option maxRecDepth 20000 in
theorem wi_726 : Cond.methodLink RX10 181 yX5_first ∈ lw_tbl := List.mem_append_right _ (List.mem_append_right _ (List.mem_append_right _ (List.mem_append_left _ (List.mem_of_getElem? (i := 134) rfl))))
set_option maxRecDepth 20000 in
theorem wi_727 : Cond.code yX5_has cX5_has 2 (some .boolean) ∈ lw_tbl := List.mem_append_right _ (List.mem_append_right _ (List.mem_append_right _ (List.mem_append_left _ (List.mem_of_getElem? (i := 133) rfl))))
set_option maxRecDepth 20000 in
theorem wi_728 : Cond.selects RX5 yX5_has yX5_has ∈ lw_tbl := List.mem_append_right _ (List.mem_append_right _ (List.mem_append_right _ (List.mem_append_left _ (List.mem_of_getElem? (i := 132) rfl))))
set_option maxRecDepth 20000 in
theorem wi_729 : Cond.instanceMethod yX5_has ∈ lw_tbl := List.mem_append_right _ (List.mem_append_right _ (List.mem_append_right _ (List.mem_append_left _ (List.mem_of_getElem? (i := 131) rfl))))
set_option maxRecDepth 20000 in
theorem wi_730 : Cond.methodLink RX10 180 yX5_has ∈ lw_tbl := List.mem_append_right _ (List.mem_append_right _ (List.mem_append_right _ (List.mem_append_left _ (List.mem_of_getElem? (i := 130) rfl))))
set_option maxRecDepth 20000 in
theorem wi_731 : Cond.instanceMethod yX2_tintOf ∈ lw_tbl := List.mem_append_right _ (List.mem_append_right _ (List.mem_append_right _ (List.mem_append_left _ (List.mem_of_getElem? (i := 149) rfl))))
set_option maxRecDepth 20000 in
theorem wi_732 : Cond.methodLink RX10 190 yX2_tintOf ∈ lw_tbl := List.mem_append_right _ (List.mem_append_right _ (List.mem_append_right _ (List.mem_append_left _ (List.mem_of_getElem? (i := 148) rfl))))
set_option maxRecDepth 20000 in
theorem wi_733 : Cond.methodLink RX5 44 yX6_signsOf ∈ lw_tbl := List.mem_append_right _ (List.mem_append_right _ (List.mem_append_right _ (List.mem_append_left _ (List.mem_of_getElem? (i := 147) rfl))))
set_option maxRecDepth 20000 in
theorem wi_734 : Cond.code yX2_pageOf cX2_pageOf 2 (some .int) ∈ lw_tbl := List.mem_append_right _ (List.mem_append_right _ (List.mem_append_right _ (List.mem_append_left _ (List.mem_of_getElem? (i := 155) rfl))))
set_option maxRecDepth 20000 in
theorem wi_735 : Cond.selects RX2 yX2_pageOf yX2_pageOf ∈ lw_tbl := List.mem_append_right _ (List.mem_append_right _ (List.mem_append_right _ (List.mem_append_left _ (List.mem_of_getElem? (i := 154) rfl))))
set_option maxRecDepth 20000 in
theorem wi_736 : Cond.instanceMethod yX2_pageOf ∈ lw_tbl := List.mem_append_right _ (List.mem_append_right _ (List.mem_append_right _ (List.mem_append_left _ (List.mem_of_getElem? (i := 153) rfl))))
set_option maxRecDepth 20000 in
theorem wi_737 : Cond.methodLink RX10 193 yX2_pageOf ∈ lw_tbl := List.mem_append_right _ (List.mem_append_right _ (List.mem_append_right _ (List.mem_append_left _ (List.mem_of_getElem? (i := 152) rfl))))
set_option maxRecDepth 20000 in
theorem wi_738 : Cond.code yX2_tintOf cX2_tintOf 2 (some .int) ∈ lw_tbl := List.mem_append_right _ (List.mem_append_right _ (List.mem_append_right _ (List.mem_append_left _ (List.mem_of_getElem? (i := 151) rfl))))
set_option maxRecDepth 20000 in
theorem wi_739 : Cond.selects RX2 yX2_tintOf yX2_tintOf ∈ lw_tbl := List.mem_append_right _ (List.mem_append_right _ (List.mem_append_right _ (List.mem_append_left _ (List.mem_of_getElem? (i := 150) rfl))))
set_option maxRecDepth 20000 in
theorem iw_X10_line : ∀ w ∈ wsX10_line, w ∈ lw_tbl := List.forall_mem_cons.mpr ⟨wi_713, List.forall_mem_append.mpr ⟨List.forall_mem_append.mpr ⟨List.forall_mem_append.mpr ⟨List.forall_mem_append.mpr ⟨List.forall_mem_append.mpr ⟨List.forall_mem_cons.mpr ⟨wi_2, List.forall_mem_cons.mpr ⟨wi_42, List.forall_mem_cons.mpr ⟨wi_730, List.forall_mem_cons.mpr ⟨wi_729, List.forall_mem_cons.mpr ⟨wi_728, List.forall_mem_cons.mpr ⟨wi_3, List.forall_mem_cons.mpr ⟨wi_727, List.forall_mem_cons.mpr ⟨wi_353, List.forall_mem_cons.mpr ⟨wi_545, List.forall_mem_cons.mpr ⟨wi_726, List.forall_mem_cons.mpr ⟨wi_725, List.forall_mem_cons.mpr ⟨wi_724, List.forall_mem_cons.mpr ⟨wi_723, List.forall_mem_cons.mpr ⟨wi_90, List.forall_mem_cons.mpr ⟨wi_722, List.forall_mem_cons.mpr ⟨wi_721, List.forall_mem_cons.mpr ⟨wi_720, List.forall_mem_cons.mpr ⟨wi_719, List.forall_mem_cons.mpr ⟨wi_718, List.forall_mem_cons.mpr ⟨wi_89, List.forall_mem_cons.mpr ⟨wi_717, List.forall_mem_cons.mpr ⟨wi_716, List.forall_mem_cons.mpr ⟨wi_715, List.forall_mem_cons.mpr ⟨wi_714, fun _ h => absurd h List.not_mem_nil⟩⟩⟩⟩⟩⟩⟩⟩⟩⟩⟩⟩⟩⟩⟩⟩⟩⟩⟩⟩⟩⟩⟩⟩, List.forall_mem_append.mpr ⟨List.forall_mem_cons.mpr ⟨wi_91, List.forall_mem_cons.mpr ⟨wi_733, List.forall_mem_cons.mpr ⟨wi_596, List.forall_mem_cons.mpr ⟨wi_595, List.forall_mem_cons.mpr ⟨wi_92, List.forall_mem_cons.mpr ⟨wi_594, List.forall_mem_cons.mpr ⟨wi_593, List.forall_mem_cons.mpr ⟨wi_592, List.forall_mem_cons.mpr ⟨wi_591, List.forall_mem_cons.mpr ⟨wi_590, List.forall_mem_cons.mpr ⟨wi_82, List.forall_mem_cons.mpr ⟨wi_83, List.forall_mem_cons.mpr ⟨wi_589, List.forall_mem_cons.mpr ⟨wi_588, List.forall_mem_cons.mpr ⟨wi_587, List.forall_mem_cons.mpr ⟨wi_586, List.forall_mem_cons.mpr ⟨wi_566, List.forall_mem_cons.mpr ⟨wi_585, List.forall_mem_cons.mpr ⟨wi_625, List.forall_mem_cons.mpr ⟨wi_624, List.forall_mem_cons.mpr ⟨wi_623, List.forall_mem_cons.mpr ⟨wi_81, List.forall_mem_cons.mpr ⟨wi_732, List.forall_mem_cons.mpr ⟨wi_731, fun _ h => absurd h List.not_mem_nil⟩⟩⟩⟩⟩⟩⟩⟩⟩⟩⟩⟩⟩⟩⟩⟩⟩⟩⟩⟩⟩⟩⟩⟩, List.forall_mem_cons.mpr ⟨wi_739, List.forall_mem_cons.mpr ⟨wi_43, List.forall_mem_cons.mpr ⟨wi_738, List.forall_mem_cons.mpr ⟨wi_110, List.forall_mem_cons.mpr ⟨wi_109, List.forall_mem_cons.mpr ⟨wi_737, List.forall_mem_cons.mpr ⟨wi_736, List.forall_mem_cons.mpr ⟨wi_735, List.forall_mem_cons.mpr ⟨wi_734, fun _ h => absurd h List.not_mem_nil⟩⟩⟩⟩⟩⟩⟩⟩⟩⟩⟩, iX10⟩, iX5⟩, iX6⟩, iX2⟩⟩
set_option maxRecDepth 20000 in
theorem wi_740 : Cond.selects RX10 yX10_line yX10_line ∈ lw_tbl := List.mem_append_right _ (List.mem_append_right _ (List.mem_append_right _ (List.mem_append_left _ (List.mem_of_getElem? (i := 128) rfl))))
set_option maxRecDepth 20000 in
theorem wi_741 : Cond.instanceMethod yX10_line ∈ lw_tbl := List.mem_append_right _ (List.mem_append_right _ (List.mem_append_right _ (List.mem_append_left _ (List.mem_of_getElem? (i := 127) rfl))))
set_option maxRecDepth 20000 in
theorem wi_742 : Cond.methodLink RL 65 yX10_line ∈ lw_tbl := List.mem_append_right _ (List.mem_append_right _ (List.mem_append_right _ (List.mem_append_left _ (List.mem_of_getElem? (i := 126) rfl))))
set_option maxRecDepth 20000 in
theorem gW_X10_line : GoodIn lw_tbl (wsV RL 65 RX10 yX10_line wsX10_line) := goodIn_sub (List.forall_mem_append.mpr ⟨List.forall_mem_cons.mpr ⟨wi_742, List.forall_mem_cons.mpr ⟨wi_741, List.forall_mem_cons.mpr ⟨wi_740, List.forall_mem_cons.mpr ⟨wi_271, fun _ h => absurd h List.not_mem_nil⟩⟩⟩⟩, iw_X10_line⟩) (by decide +kernel)
set_option maxRecDepth 20000 in
theorem wi_743 : Cond.code yX11_line cX11_line 3 (some .int) ∈ lw_tbl := List.mem_append_right _ (List.mem_append_right _ (List.mem_append_right _ (List.mem_append_right _ (List.mem_append_right _ (List.mem_of_getElem? (i := 66) rfl)))))
set_option maxRecDepth 20000 in
theorem iw_X11_line : ∀ w ∈ wsX11_line, w ∈ lw_tbl := List.forall_mem_cons.mpr ⟨wi_743, List.forall_mem_append.mpr ⟨List.forall_mem_cons.mpr ⟨wi_399, List.forall_mem_cons.mpr ⟨wi_672, List.forall_mem_cons.mpr ⟨wi_215, List.forall_mem_cons.mpr ⟨wi_214, List.forall_mem_cons.mpr ⟨wi_213, List.forall_mem_cons.mpr ⟨wi_211, List.forall_mem_cons.mpr ⟨wi_210, fun _ h => absurd h List.not_mem_nil⟩⟩⟩⟩⟩⟩⟩, iX11⟩⟩
set_option maxRecDepth 20000 in
theorem wi_744 : Cond.selects RX11 yX11_line yX11_line ∈ lw_tbl := List.mem_append_right _ (List.mem_append_right _ (List.mem_append_right _ (List.mem_append_right _ (List.mem_append_right _ (List.mem_of_getElem? (i := 65) rfl)))))
set_option maxRecDepth 20000 in
theorem wi_745 : Cond.instanceMethod yX11_line ∈ lw_tbl := List.mem_append_right _ (List.mem_append_right _ (List.mem_append_right _ (List.mem_append_right _ (List.mem_append_right _ (List.mem_of_getElem? (i := 64) rfl)))))
set_option maxRecDepth 20000 in
theorem wi_746 : Cond.methodLink RL 68 yX11_line ∈ lw_tbl := List.mem_append_right _ (List.mem_append_right _ (List.mem_append_right _ (List.mem_append_right _ (List.mem_append_right _ (List.mem_of_getElem? (i := 63) rfl)))))
set_option maxRecDepth 20000 in
theorem gW_X11_line : GoodIn lw_tbl (wsV RL 68 RX11 yX11_line wsX11_line) := goodIn_sub (List.forall_mem_append.mpr ⟨List.forall_mem_cons.mpr ⟨wi_746, List.forall_mem_cons.mpr ⟨wi_745, List.forall_mem_cons.mpr ⟨wi_744, List.forall_mem_cons.mpr ⟨wi_277, fun _ h => absurd h List.not_mem_nil⟩⟩⟩⟩, iw_X11_line⟩) (by decide +kernel)
set_option maxRecDepth 20000 in
theorem wi_747 : Cond.code yX10_sign cX10_sign 3 (some .int) ∈ lw_tbl := List.mem_append_right _ (List.mem_append_right _ (List.mem_append_right _ (List.mem_append_left _ (List.mem_of_getElem? (i := 159) rfl))))
set_option maxRecDepth 20000 in
theorem wi_748 : Cond.methodLink RX6 79 yX6_signsOf ∈ lw_tbl := List.mem_append_right _ (List.mem_append_right _ (List.mem_append_right _ (List.mem_append_left _ (List.mem_of_getElem? (i := 168) rfl))))
set_option maxRecDepth 20000 in
theorem wi_749 : Cond.code yX6_signAt cX6_signAt 4 (some .int) ∈ lw_tbl := List.mem_append_right _ (List.mem_append_right _ (List.mem_append_right _ (List.mem_append_left _ (List.mem_of_getElem? (i := 167) rfl))))
set_option maxRecDepth 20000 in
theorem wi_750 : Cond.selects RX6 yX6_signAt yX6_signAt ∈ lw_tbl := List.mem_append_right _ (List.mem_append_right _ (List.mem_append_right _ (List.mem_append_left _ (List.mem_of_getElem? (i := 166) rfl))))
set_option maxRecDepth 20000 in
theorem wi_751 : Cond.instanceMethod yX6_signAt ∈ lw_tbl := List.mem_append_right _ (List.mem_append_right _ (List.mem_append_right _ (List.mem_append_left _ (List.mem_of_getElem? (i := 165) rfl))))
set_option maxRecDepth 20000 in
theorem wi_752 : Cond.methodLink RX5 48 yX6_signAt ∈ lw_tbl := List.mem_append_right _ (List.mem_append_right _ (List.mem_append_right _ (List.mem_append_left _ (List.mem_of_getElem? (i := 164) rfl))))
set_option maxRecDepth 20000 in
theorem wi_753 : Cond.code yX5_signAt cX5_signAt 3 (some .int) ∈ lw_tbl := List.mem_append_right _ (List.mem_append_right _ (List.mem_append_right _ (List.mem_append_left _ (List.mem_of_getElem? (i := 163) rfl))))
set_option maxRecDepth 20000 in
theorem wi_754 : Cond.selects RX5 yX5_signAt yX5_signAt ∈ lw_tbl := List.mem_append_right _ (List.mem_append_right _ (List.mem_append_right _ (List.mem_append_left _ (List.mem_of_getElem? (i := 162) rfl))))
set_option maxRecDepth 20000 in
theorem wi_755 : Cond.instanceMethod yX5_signAt ∈ lw_tbl := List.mem_append_right _ (List.mem_append_right _ (List.mem_append_right _ (List.mem_append_left _ (List.mem_of_getElem? (i := 161) rfl))))
set_option maxRecDepth 20000 in
theorem wi_756 : Cond.methodLink RX10 196 yX5_signAt ∈ lw_tbl := List.mem_append_right _ (List.mem_append_right _ (List.mem_append_right _ (List.mem_append_left _ (List.mem_of_getElem? (i := 160) rfl))))
set_option maxRecDepth 20000 in
theorem iw_X10_sign : ∀ w ∈ wsX10_sign, w ∈ lw_tbl := List.forall_mem_cons.mpr ⟨wi_747, List.forall_mem_append.mpr ⟨List.forall_mem_append.mpr ⟨List.forall_mem_append.mpr ⟨List.forall_mem_append.mpr ⟨List.forall_mem_cons.mpr ⟨wi_2, List.forall_mem_cons.mpr ⟨wi_756, List.forall_mem_cons.mpr ⟨wi_755, List.forall_mem_cons.mpr ⟨wi_754, List.forall_mem_cons.mpr ⟨wi_3, List.forall_mem_cons.mpr ⟨wi_753, List.forall_mem_cons.mpr ⟨wi_91, List.forall_mem_cons.mpr ⟨wi_90, List.forall_mem_cons.mpr ⟨wi_89, List.forall_mem_cons.mpr ⟨wi_722, List.forall_mem_cons.mpr ⟨wi_729, List.forall_mem_cons.mpr ⟨wi_728, List.forall_mem_cons.mpr ⟨wi_727, List.forall_mem_cons.mpr ⟨wi_353, List.forall_mem_cons.mpr ⟨wi_545, List.forall_mem_cons.mpr ⟨wi_752, List.forall_mem_cons.mpr ⟨wi_751, List.forall_mem_cons.mpr ⟨wi_750, List.forall_mem_cons.mpr ⟨wi_92, List.forall_mem_cons.mpr ⟨wi_749, List.forall_mem_cons.mpr ⟨wi_85, List.forall_mem_cons.mpr ⟨wi_83, List.forall_mem_cons.mpr ⟨wi_748, List.forall_mem_cons.mpr ⟨wi_596, fun _ h => absurd h List.not_mem_nil⟩⟩⟩⟩⟩⟩⟩⟩⟩⟩⟩⟩⟩⟩⟩⟩⟩⟩⟩⟩⟩⟩⟩⟩, List.forall_mem_cons.mpr ⟨wi_595, List.forall_mem_cons.mpr ⟨wi_594, List.forall_mem_cons.mpr ⟨wi_593, List.forall_mem_cons.mpr ⟨wi_592, List.forall_mem_cons.mpr ⟨wi_591, List.forall_mem_cons.mpr ⟨wi_590, List.forall_mem_cons.mpr ⟨wi_82, List.forall_mem_cons.mpr ⟨wi_589, List.forall_mem_cons.mpr ⟨wi_588, List.forall_mem_cons.mpr ⟨wi_587, List.forall_mem_cons.mpr ⟨wi_586, List.forall_mem_cons.mpr ⟨wi_566, List.forall_mem_cons.mpr ⟨wi_585, List.forall_mem_cons.mpr ⟨wi_625, List.forall_mem_cons.mpr ⟨wi_624, List.forall_mem_cons.mpr ⟨wi_623, List.forall_mem_cons.mpr ⟨wi_81, fun _ h => absurd h List.not_mem_nil⟩⟩⟩⟩⟩⟩⟩⟩⟩⟩⟩⟩⟩⟩⟩⟩⟩⟩, iX10⟩, iX5⟩, iX6⟩⟩
set_option maxRecDepth 20000 in
theorem wi_757 : Cond.selects RX10 yX10_sign yX10_sign ∈ lw_tbl := List.mem_append_right _ (List.mem_append_right _ (List.mem_append_right _ (List.mem_append_left _ (List.mem_of_getElem? (i := 158) rfl))))
set_option maxRecDepth 20000 in
theorem wi_758 : Cond.instanceMethod yX10_sign ∈ lw_tbl := List.mem_append_right _ (List.mem_append_right _ (List.mem_append_right _ (List.mem_append_left _ (List.mem_of_getElem? (i := 157) rfl))))
set_option maxRecDepth 20000 in
theorem wi_759 : Cond.methodLink RL 69 yX10_sign ∈ lw_tbl := List.mem_append_right _ (List.mem_append_right _ (List.mem_append_right _ (List.mem_append_left _ (List.mem_of_getElem? (i := 156) rfl))))
set_option maxRecDepth 20000 in
theorem gW_X10_sign : GoodIn lw_tbl (wsV RL 69 RX10 yX10_sign wsX10_sign) := goodIn_sub (List.forall_mem_append.mpr ⟨List.forall_mem_cons.mpr ⟨wi_759, List.forall_mem_cons.mpr ⟨wi_758, List.forall_mem_cons.mpr ⟨wi_757, List.forall_mem_cons.mpr ⟨wi_271, fun _ h => absurd h List.not_mem_nil⟩⟩⟩⟩, iw_X10_sign⟩) (by decide +kernel)
set_option maxRecDepth 20000 in
theorem wi_760 : Cond.code yX11_sign cX11_sign 3 (some .int) ∈ lw_tbl := List.mem_append_right _ (List.mem_append_right _ (List.mem_append_right _ (List.mem_append_right _ (List.mem_append_right _ (List.mem_of_getElem? (i := 70) rfl)))))
set_option maxRecDepth 20000 in
theorem iw_X11_sign : ∀ w ∈ wsX11_sign, w ∈ lw_tbl := List.forall_mem_cons.mpr ⟨wi_760, List.forall_mem_append.mpr ⟨List.forall_mem_cons.mpr ⟨wi_399, List.forall_mem_cons.mpr ⟨wi_672, List.forall_mem_cons.mpr ⟨wi_213, List.forall_mem_cons.mpr ⟨wi_212, fun _ h => absurd h List.not_mem_nil⟩⟩⟩⟩, iX11⟩⟩
set_option maxRecDepth 20000 in
theorem wi_761 : Cond.selects RX11 yX11_sign yX11_sign ∈ lw_tbl := List.mem_append_right _ (List.mem_append_right _ (List.mem_append_right _ (List.mem_append_right _ (List.mem_append_right _ (List.mem_of_getElem? (i := 69) rfl)))))
set_option maxRecDepth 20000 in
theorem wi_762 : Cond.instanceMethod yX11_sign ∈ lw_tbl := List.mem_append_right _ (List.mem_append_right _ (List.mem_append_right _ (List.mem_append_right _ (List.mem_append_right _ (List.mem_of_getElem? (i := 68) rfl)))))
set_option maxRecDepth 20000 in
theorem wi_763 : Cond.methodLink RL 72 yX11_sign ∈ lw_tbl := List.mem_append_right _ (List.mem_append_right _ (List.mem_append_right _ (List.mem_append_right _ (List.mem_append_right _ (List.mem_of_getElem? (i := 67) rfl)))))
set_option maxRecDepth 20000 in
theorem gW_X11_sign : GoodIn lw_tbl (wsV RL 72 RX11 yX11_sign wsX11_sign) := goodIn_sub (List.forall_mem_append.mpr ⟨List.forall_mem_cons.mpr ⟨wi_763, List.forall_mem_cons.mpr ⟨wi_762, List.forall_mem_cons.mpr ⟨wi_761, List.forall_mem_cons.mpr ⟨wi_277, fun _ h => absurd h List.not_mem_nil⟩⟩⟩⟩, iw_X11_sign⟩) (by decide +kernel)
set_option maxRecDepth 20000 in
theorem wi_764 : Cond.code yX10_rivers cX10_rivers 4 (some .int) ∈ lw_tbl := List.mem_append_right _ (List.mem_append_right _ (List.mem_append_right _ (List.mem_append_left _ (List.mem_of_getElem? (i := 172) rfl))))
set_option maxRecDepth 20000 in
theorem wi_765 : Cond.methodLink RX5 52 yX5_signAt ∈ lw_tbl := List.mem_append_right _ (List.mem_append_right _ (List.mem_append_right _ (List.mem_append_left _ (List.mem_of_getElem? (i := 177) rfl))))
set_option maxRecDepth 20000 in
theorem wi_766 : Cond.code yX5_riversAt cX5_riversAt 6 (some .int) ∈ lw_tbl := List.mem_append_right _ (List.mem_append_right _ (List.mem_append_right _ (List.mem_append_left _ (List.mem_of_getElem? (i := 176) rfl))))
set_option maxRecDepth 20000 in
theorem wi_767 : Cond.selects RX5 yX5_riversAt yX5_riversAt ∈ lw_tbl := List.mem_append_right _ (List.mem_append_right _ (List.mem_append_right _ (List.mem_append_left _ (List.mem_of_getElem? (i := 175) rfl))))
set_option maxRecDepth 20000 in
theorem wi_768 : Cond.instanceMethod yX5_riversAt ∈ lw_tbl := List.mem_append_right _ (List.mem_append_right _ (List.mem_append_right _ (List.mem_append_left _ (List.mem_of_getElem? (i := 174) rfl))))
set_option maxRecDepth 20000 in
theorem wi_769 : Cond.methodLink RX10 200 yX5_riversAt ∈ lw_tbl := List.mem_append_right _ (List.mem_append_right _ (List.mem_append_right _ (List.mem_append_left _ (List.mem_of_getElem? (i := 173) rfl))))
set_option maxRecDepth 20000 in
theorem iw_X10_rivers : ∀ w ∈ wsX10_rivers, w ∈ lw_tbl := List.forall_mem_cons.mpr ⟨wi_764, List.forall_mem_append.mpr ⟨List.forall_mem_append.mpr ⟨List.forall_mem_append.mpr ⟨List.forall_mem_append.mpr ⟨List.forall_mem_cons.mpr ⟨wi_2, List.forall_mem_cons.mpr ⟨wi_705, List.forall_mem_cons.mpr ⟨wi_704, List.forall_mem_cons.mpr ⟨wi_703, List.forall_mem_cons.mpr ⟨wi_3, List.forall_mem_cons.mpr ⟨wi_702, List.forall_mem_cons.mpr ⟨wi_353, List.forall_mem_cons.mpr ⟨wi_769, List.forall_mem_cons.mpr ⟨wi_768, List.forall_mem_cons.mpr ⟨wi_767, List.forall_mem_cons.mpr ⟨wi_766, List.forall_mem_cons.mpr ⟨wi_545, List.forall_mem_cons.mpr ⟨wi_765, List.forall_mem_cons.mpr ⟨wi_755, List.forall_mem_cons.mpr ⟨wi_754, List.forall_mem_cons.mpr ⟨wi_753, List.forall_mem_cons.mpr ⟨wi_91, List.forall_mem_cons.mpr ⟨wi_90, List.forall_mem_cons.mpr ⟨wi_89, List.forall_mem_cons.mpr ⟨wi_722, List.forall_mem_cons.mpr ⟨wi_729, List.forall_mem_cons.mpr ⟨wi_728, List.forall_mem_cons.mpr ⟨wi_727, List.forall_mem_cons.mpr ⟨wi_752, fun _ h => absurd h List.not_mem_nil⟩⟩⟩⟩⟩⟩⟩⟩⟩⟩⟩⟩⟩⟩⟩⟩⟩⟩⟩⟩⟩⟩⟩⟩, List.forall_mem_append.mpr ⟨List.forall_mem_cons.mpr ⟨wi_751, List.forall_mem_cons.mpr ⟨wi_750, List.forall_mem_cons.mpr ⟨wi_92, List.forall_mem_cons.mpr ⟨wi_749, List.forall_mem_cons.mpr ⟨wi_85, List.forall_mem_cons.mpr ⟨wi_83, List.forall_mem_cons.mpr ⟨wi_748, List.forall_mem_cons.mpr ⟨wi_596, List.forall_mem_cons.mpr ⟨wi_595, List.forall_mem_cons.mpr ⟨wi_594, List.forall_mem_cons.mpr ⟨wi_593, List.forall_mem_cons.mpr ⟨wi_592, List.forall_mem_cons.mpr ⟨wi_591, List.forall_mem_cons.mpr ⟨wi_590, List.forall_mem_cons.mpr ⟨wi_82, List.forall_mem_cons.mpr ⟨wi_589, List.forall_mem_cons.mpr ⟨wi_588, List.forall_mem_cons.mpr ⟨wi_587, List.forall_mem_cons.mpr ⟨wi_586, List.forall_mem_cons.mpr ⟨wi_566, List.forall_mem_cons.mpr ⟨wi_585, List.forall_mem_cons.mpr ⟨wi_625, List.forall_mem_cons.mpr ⟨wi_624, List.forall_mem_cons.mpr ⟨wi_623, fun _ h => absurd h List.not_mem_nil⟩⟩⟩⟩⟩⟩⟩⟩⟩⟩⟩⟩⟩⟩⟩⟩⟩⟩⟩⟩⟩⟩⟩⟩, List.forall_mem_cons.mpr ⟨wi_81, fun _ h => absurd h List.not_mem_nil⟩⟩⟩, iX10⟩, iX5⟩, iX6⟩⟩
set_option maxRecDepth 20000 in
theorem wi_770 : Cond.selects RX10 yX10_rivers yX10_rivers ∈ lw_tbl := List.mem_append_right _ (List.mem_append_right _ (List.mem_append_right _ (List.mem_append_left _ (List.mem_of_getElem? (i := 171) rfl))))
set_option maxRecDepth 20000 in
theorem wi_771 : Cond.instanceMethod yX10_rivers ∈ lw_tbl := List.mem_append_right _ (List.mem_append_right _ (List.mem_append_right _ (List.mem_append_left _ (List.mem_of_getElem? (i := 170) rfl))))
set_option maxRecDepth 20000 in
theorem wi_772 : Cond.methodLink RL 73 yX10_rivers ∈ lw_tbl := List.mem_append_right _ (List.mem_append_right _ (List.mem_append_right _ (List.mem_append_left _ (List.mem_of_getElem? (i := 169) rfl))))
set_option maxRecDepth 20000 in
theorem gW_X10_rivers : GoodIn lw_tbl (wsV RL 73 RX10 yX10_rivers wsX10_rivers) := goodIn_sub (List.forall_mem_append.mpr ⟨List.forall_mem_cons.mpr ⟨wi_772, List.forall_mem_cons.mpr ⟨wi_771, List.forall_mem_cons.mpr ⟨wi_770, List.forall_mem_cons.mpr ⟨wi_271, fun _ h => absurd h List.not_mem_nil⟩⟩⟩⟩, iw_X10_rivers⟩) (by decide +kernel)
set_option maxRecDepth 20000 in
theorem wi_773 : Cond.code yX11_rivers cX11_rivers 7 (some .int) ∈ lw_tbl := List.mem_append_right _ (List.mem_append_right _ (List.mem_append_right _ (List.mem_append_right _ (List.mem_append_right _ (List.mem_of_getElem? (i := 74) rfl)))))
set_option maxRecDepth 20000 in
theorem iw_X11_rivers : ∀ w ∈ wsX11_rivers, w ∈ lw_tbl := List.forall_mem_cons.mpr ⟨wi_773, List.forall_mem_append.mpr ⟨List.forall_mem_cons.mpr ⟨wi_399, List.forall_mem_cons.mpr ⟨wi_672, List.forall_mem_cons.mpr ⟨wi_213, List.forall_mem_cons.mpr ⟨wi_212, fun _ h => absurd h List.not_mem_nil⟩⟩⟩⟩, iX11⟩⟩
set_option maxRecDepth 20000 in
theorem wi_774 : Cond.selects RX11 yX11_rivers yX11_rivers ∈ lw_tbl := List.mem_append_right _ (List.mem_append_right _ (List.mem_append_right _ (List.mem_append_right _ (List.mem_append_right _ (List.mem_of_getElem? (i := 73) rfl)))))
set_option maxRecDepth 20000 in
theorem wi_775 : Cond.instanceMethod yX11_rivers ∈ lw_tbl := List.mem_append_right _ (List.mem_append_right _ (List.mem_append_right _ (List.mem_append_right _ (List.mem_append_right _ (List.mem_of_getElem? (i := 72) rfl)))))
set_option maxRecDepth 20000 in
theorem wi_776 : Cond.methodLink RL 76 yX11_rivers ∈ lw_tbl := List.mem_append_right _ (List.mem_append_right _ (List.mem_append_right _ (List.mem_append_right _ (List.mem_append_right _ (List.mem_of_getElem? (i := 71) rfl)))))
set_option maxRecDepth 20000 in
theorem gW_X11_rivers : GoodIn lw_tbl (wsV RL 76 RX11 yX11_rivers wsX11_rivers) := goodIn_sub (List.forall_mem_append.mpr ⟨List.forall_mem_cons.mpr ⟨wi_776, List.forall_mem_cons.mpr ⟨wi_775, List.forall_mem_cons.mpr ⟨wi_774, List.forall_mem_cons.mpr ⟨wi_277, fun _ h => absurd h List.not_mem_nil⟩⟩⟩⟩, iw_X11_rivers⟩) (by decide +kernel)
set_option maxRecDepth 20000 in
theorem wi_777 : Cond.code yX10_page cX10_page 3 (some .boolean) ∈ lw_tbl := List.mem_append_right _ (List.mem_append_right _ (List.mem_append_right _ (List.mem_append_left _ (List.mem_of_getElem? (i := 181) rfl))))
set_option maxRecDepth 20000 in
theorem wi_778 : Cond.code yX2_change cX2_change 3 (some .boolean) ∈ lw_tbl := List.mem_append_right _ (List.mem_append_right _ (List.mem_append_right _ (List.mem_append_left _ (List.mem_of_getElem? (i := 185) rfl))))
set_option maxRecDepth 20000 in
theorem wi_779 : Cond.selects RX2 yX2_change yX2_change ∈ lw_tbl := List.mem_append_right _ (List.mem_append_right _ (List.mem_append_right _ (List.mem_append_left _ (List.mem_of_getElem? (i := 184) rfl))))
set_option maxRecDepth 20000 in
theorem wi_780 : Cond.instanceMethod yX2_change ∈ lw_tbl := List.mem_append_right _ (List.mem_append_right _ (List.mem_append_right _ (List.mem_append_left _ (List.mem_of_getElem? (i := 183) rfl))))
set_option maxRecDepth 20000 in
theorem wi_781 : Cond.methodLink RX10 203 yX2_change ∈ lw_tbl := List.mem_append_right _ (List.mem_append_right _ (List.mem_append_right _ (List.mem_append_left _ (List.mem_of_getElem? (i := 182) rfl))))
set_option maxRecDepth 20000 in
theorem iw_X10_page : ∀ w ∈ wsX10_page, w ∈ lw_tbl := List.forall_mem_cons.mpr ⟨wi_777, List.forall_mem_append.mpr ⟨List.forall_mem_append.mpr ⟨List.forall_mem_cons.mpr ⟨wi_42, List.forall_mem_cons.mpr ⟨wi_781, List.forall_mem_cons.mpr ⟨wi_780, List.forall_mem_cons.mpr ⟨wi_779, List.forall_mem_cons.mpr ⟨wi_43, List.forall_mem_cons.mpr ⟨wi_778, List.forall_mem_cons.mpr ⟨wi_110, List.forall_mem_cons.mpr ⟨wi_109, List.forall_mem_cons.mpr ⟨wi_283, List.forall_mem_cons.mpr ⟨wi_271, List.forall_mem_cons.mpr ⟨wi_282, fun _ h => absurd h List.not_mem_nil⟩⟩⟩⟩⟩⟩⟩⟩⟩⟩⟩, iX10⟩, iX2⟩⟩
set_option maxRecDepth 20000 in
theorem wi_782 : Cond.selects RX10 yX10_page yX10_page ∈ lw_tbl := List.mem_append_right _ (List.mem_append_right _ (List.mem_append_right _ (List.mem_append_left _ (List.mem_of_getElem? (i := 180) rfl))))
set_option maxRecDepth 20000 in
theorem wi_783 : Cond.instanceMethod yX10_page ∈ lw_tbl := List.mem_append_right _ (List.mem_append_right _ (List.mem_append_right _ (List.mem_append_left _ (List.mem_of_getElem? (i := 179) rfl))))
set_option maxRecDepth 20000 in
theorem wi_784 : Cond.methodLink RL 77 yX10_page ∈ lw_tbl := List.mem_append_right _ (List.mem_append_right _ (List.mem_append_right _ (List.mem_append_left _ (List.mem_of_getElem? (i := 178) rfl))))
set_option maxRecDepth 20000 in
theorem gW_X10_page : GoodIn lw_tbl (wsV RL 77 RX10 yX10_page wsX10_page) := goodIn_sub (List.forall_mem_append.mpr ⟨List.forall_mem_cons.mpr ⟨wi_784, List.forall_mem_cons.mpr ⟨wi_783, List.forall_mem_cons.mpr ⟨wi_782, List.forall_mem_cons.mpr ⟨wi_271, fun _ h => absurd h List.not_mem_nil⟩⟩⟩⟩, iw_X10_page⟩) (by decide +kernel)
set_option maxRecDepth 20000 in
theorem wi_785 : Cond.code yX11_page cX11_page 3 (some .boolean) ∈ lw_tbl := List.mem_append_right _ (List.mem_append_right _ (List.mem_append_right _ (List.mem_append_right _ (List.mem_append_right _ (List.mem_of_getElem? (i := 62) rfl)))))
set_option maxRecDepth 20000 in
theorem iw_X11_page : ∀ w ∈ wsX11_page, w ∈ lw_tbl := List.forall_mem_cons.mpr ⟨wi_785, List.forall_mem_append.mpr ⟨List.forall_mem_cons.mpr ⟨wi_211, List.forall_mem_cons.mpr ⟨wi_210, List.forall_mem_cons.mpr ⟨wi_501, List.forall_mem_cons.mpr ⟨wi_500, List.forall_mem_cons.mpr ⟨wi_277, List.forall_mem_cons.mpr ⟨wi_499, fun _ h => absurd h List.not_mem_nil⟩⟩⟩⟩⟩⟩, iX11⟩⟩
set_option maxRecDepth 20000 in
theorem wi_786 : Cond.selects RX11 yX11_page yX11_page ∈ lw_tbl := List.mem_append_right _ (List.mem_append_right _ (List.mem_append_right _ (List.mem_append_right _ (List.mem_append_right _ (List.mem_of_getElem? (i := 61) rfl)))))
set_option maxRecDepth 20000 in
theorem wi_787 : Cond.instanceMethod yX11_page ∈ lw_tbl := List.mem_append_right _ (List.mem_append_right _ (List.mem_append_right _ (List.mem_append_right _ (List.mem_append_right _ (List.mem_of_getElem? (i := 60) rfl)))))
set_option maxRecDepth 20000 in
theorem wi_788 : Cond.methodLink RL 80 yX11_page ∈ lw_tbl := List.mem_append_right _ (List.mem_append_right _ (List.mem_append_right _ (List.mem_append_right _ (List.mem_append_right _ (List.mem_of_getElem? (i := 59) rfl)))))
set_option maxRecDepth 20000 in
theorem gW_X11_page : GoodIn lw_tbl (wsV RL 80 RX11 yX11_page wsX11_page) := goodIn_sub (List.forall_mem_append.mpr ⟨List.forall_mem_cons.mpr ⟨wi_788, List.forall_mem_cons.mpr ⟨wi_787, List.forall_mem_cons.mpr ⟨wi_786, List.forall_mem_cons.mpr ⟨wi_277, fun _ h => absurd h List.not_mem_nil⟩⟩⟩⟩, iw_X11_page⟩) (by decide +kernel)
set_option maxRecDepth 20000 in
theorem wi_789 : Cond.code yX10_mark cX10_mark 2 (some .int) ∈ lw_tbl := List.mem_append_right _ (List.mem_append_right _ (List.mem_append_right _ (List.mem_append_left _ (List.mem_of_getElem? (i := 190) rfl))))
set_option maxRecDepth 20000 in
theorem wi_790 : Cond.code yX5_lineOf cX5_lineOf 3 (some .int) ∈ lw_tbl := List.mem_append_right _ (List.mem_append_right _ (List.mem_append_right _ (List.mem_append_left _ (List.mem_of_getElem? (i := 198) rfl))))
set_option maxRecDepth 20000 in
theorem wi_791 : Cond.selects RX5 yX5_lineOf yX5_lineOf ∈ lw_tbl := List.mem_append_right _ (List.mem_append_right _ (List.mem_append_right _ (List.mem_append_left _ (List.mem_of_getElem? (i := 197) rfl))))
set_option maxRecDepth 20000 in
theorem wi_792 : Cond.instanceMethod yX5_lineOf ∈ lw_tbl := List.mem_append_right _ (List.mem_append_right _ (List.mem_append_right _ (List.mem_append_left _ (List.mem_of_getElem? (i := 196) rfl))))
set_option maxRecDepth 20000 in
theorem wi_793 : Cond.methodLink RX10 209 yX5_lineOf ∈ lw_tbl := List.mem_append_right _ (List.mem_append_right _ (List.mem_append_right _ (List.mem_append_left _ (List.mem_of_getElem? (i := 195) rfl))))
set_option maxRecDepth 20000 in
theorem wi_794 : Cond.code yX5_isOfText cX5_isOfText 1 (some .boolean) ∈ lw_tbl := List.mem_append_right _ (List.mem_append_right _ (List.mem_append_right _ (List.mem_append_left _ (List.mem_of_getElem? (i := 194) rfl))))
set_option maxRecDepth 20000 in
theorem wi_795 : Cond.selects RX5 yX5_isOfText yX5_isOfText ∈ lw_tbl := List.mem_append_right _ (List.mem_append_right _ (List.mem_append_right _ (List.mem_append_left _ (List.mem_of_getElem? (i := 193) rfl))))
set_option maxRecDepth 20000 in
theorem wi_796 : Cond.instanceMethod yX5_isOfText ∈ lw_tbl := List.mem_append_right _ (List.mem_append_right _ (List.mem_append_right _ (List.mem_append_left _ (List.mem_of_getElem? (i := 192) rfl))))
set_option maxRecDepth 20000 in
theorem wi_797 : Cond.methodLink RX10 206 yX5_isOfText ∈ lw_tbl := List.mem_append_right _ (List.mem_append_right _ (List.mem_append_right _ (List.mem_append_left _ (List.mem_of_getElem? (i := 191) rfl))))
set_option maxRecDepth 20000 in
theorem wi_798 : Cond.code yX0_add cX0_add 3 (some .int) ∈ lw_tbl := List.mem_append_right _ (List.mem_append_right _ (List.mem_append_right _ (List.mem_append_left _ (List.mem_of_getElem? (i := 202) rfl))))
set_option maxRecDepth 20000 in
theorem wi_799 : Cond.selects RX0 yX0_add yX0_add ∈ lw_tbl := List.mem_append_right _ (List.mem_append_right _ (List.mem_append_right _ (List.mem_append_left _ (List.mem_of_getElem? (i := 201) rfl))))
set_option maxRecDepth 20000 in
theorem wi_800 : Cond.instanceMethod yX0_add ∈ lw_tbl := List.mem_append_right _ (List.mem_append_right _ (List.mem_append_right _ (List.mem_append_left _ (List.mem_of_getElem? (i := 200) rfl))))
set_option maxRecDepth 20000 in
theorem wi_801 : Cond.methodLink RX10 212 yX0_add ∈ lw_tbl := List.mem_append_right _ (List.mem_append_right _ (List.mem_append_right _ (List.mem_append_left _ (List.mem_of_getElem? (i := 199) rfl))))
set_option maxRecDepth 20000 in
theorem iw_X10_mark : ∀ w ∈ wsX10_mark, w ∈ lw_tbl := List.forall_mem_cons.mpr ⟨wi_789, List.forall_mem_append.mpr ⟨List.forall_mem_append.mpr ⟨List.forall_mem_append.mpr ⟨List.forall_mem_append.mpr ⟨List.forall_mem_append.mpr ⟨List.forall_mem_append.mpr ⟨List.forall_mem_cons.mpr ⟨wi_2, List.forall_mem_cons.mpr ⟨wi_10, List.forall_mem_cons.mpr ⟨wi_38, List.forall_mem_cons.mpr ⟨wi_42, List.forall_mem_cons.mpr ⟨wi_797, List.forall_mem_cons.mpr ⟨wi_796, List.forall_mem_cons.mpr ⟨wi_795, List.forall_mem_cons.mpr ⟨wi_3, List.forall_mem_cons.mpr ⟨wi_794, List.forall_mem_cons.mpr ⟨wi_353, List.forall_mem_cons.mpr ⟨wi_464, List.forall_mem_cons.mpr ⟨wi_482, List.forall_mem_cons.mpr ⟨wi_446, List.forall_mem_cons.mpr ⟨wi_445, List.forall_mem_cons.mpr ⟨wi_11, List.forall_mem_cons.mpr ⟨wi_444, List.forall_mem_cons.mpr ⟨wi_296, List.forall_mem_cons.mpr ⟨wi_793, List.forall_mem_cons.mpr ⟨wi_792, List.forall_mem_cons.mpr ⟨wi_791, List.forall_mem_cons.mpr ⟨wi_790, List.forall_mem_cons.mpr ⟨wi_545, List.forall_mem_cons.mpr ⟨wi_90, List.forall_mem_cons.mpr ⟨wi_89, fun _ h => absurd h List.not_mem_nil⟩⟩⟩⟩⟩⟩⟩⟩⟩⟩⟩⟩⟩⟩⟩⟩⟩⟩⟩⟩⟩⟩⟩⟩, List.forall_mem_cons.mpr ⟨wi_737, List.forall_mem_cons.mpr ⟨wi_736, List.forall_mem_cons.mpr ⟨wi_735, List.forall_mem_cons.mpr ⟨wi_43, List.forall_mem_cons.mpr ⟨wi_734, List.forall_mem_cons.mpr ⟨wi_110, List.forall_mem_cons.mpr ⟨wi_801, List.forall_mem_cons.mpr ⟨wi_800, List.forall_mem_cons.mpr ⟨wi_799, List.forall_mem_cons.mpr ⟨wi_39, List.forall_mem_cons.mpr ⟨wi_798, List.forall_mem_cons.mpr ⟨wi_378, List.forall_mem_cons.mpr ⟨wi_105, List.forall_mem_cons.mpr ⟨wi_104, fun _ h => absurd h List.not_mem_nil⟩⟩⟩⟩⟩⟩⟩⟩⟩⟩⟩⟩⟩⟩⟩, iX10⟩, iX5⟩, iX9⟩, iX2⟩, iX0⟩⟩
set_option maxRecDepth 20000 in
theorem wi_802 : Cond.selects RX10 yX10_mark yX10_mark ∈ lw_tbl := List.mem_append_right _ (List.mem_append_right _ (List.mem_append_right _ (List.mem_append_left _ (List.mem_of_getElem? (i := 189) rfl))))
set_option maxRecDepth 20000 in
theorem wi_803 : Cond.instanceMethod yX10_mark ∈ lw_tbl := List.mem_append_right _ (List.mem_append_right _ (List.mem_append_right _ (List.mem_append_left _ (List.mem_of_getElem? (i := 188) rfl))))
set_option maxRecDepth 20000 in
theorem wi_804 : Cond.methodLink RL 81 yX10_mark ∈ lw_tbl := List.mem_append_right _ (List.mem_append_right _ (List.mem_append_right _ (List.mem_append_left _ (List.mem_of_getElem? (i := 187) rfl))))
set_option maxRecDepth 20000 in
theorem gW_X10_mark : GoodIn lw_tbl (wsV RL 81 RX10 yX10_mark wsX10_mark) := goodIn_sub (List.forall_mem_append.mpr ⟨List.forall_mem_cons.mpr ⟨wi_804, List.forall_mem_cons.mpr ⟨wi_803, List.forall_mem_cons.mpr ⟨wi_802, List.forall_mem_cons.mpr ⟨wi_271, fun _ h => absurd h List.not_mem_nil⟩⟩⟩⟩, iw_X10_mark⟩) (by decide +kernel)
set_option maxRecDepth 20000 in
theorem wi_805 : Cond.code yX11_mark cX11_mark 2 (some .int) ∈ lw_tbl := List.mem_append_right _ (List.mem_append_right _ (List.mem_append_right _ (List.mem_append_right _ (List.mem_append_right _ (List.mem_of_getElem? (i := 78) rfl)))))
set_option maxRecDepth 20000 in
theorem wi_806 : Cond.code yX11_pageOf cX11_pageOf 3 (some .int) ∈ lw_tbl := List.mem_append_right _ (List.mem_append_right _ (List.mem_append_right _ (List.mem_append_right _ (List.mem_append_right _ (List.mem_of_getElem? (i := 82) rfl)))))
set_option maxRecDepth 20000 in
theorem wi_807 : Cond.selects RX11 yX11_pageOf yX11_pageOf ∈ lw_tbl := List.mem_append_left _ (List.mem_of_getElem? (i := 32) rfl)
set_option maxRecDepth 20000 in
theorem wi_808 : Cond.instanceMethod yX11_pageOf ∈ lw_tbl := List.mem_append_right _ (List.mem_append_right _ (List.mem_append_right _ (List.mem_append_right _ (List.mem_append_right _ (List.mem_of_getElem? (i := 81) rfl)))))
set_option maxRecDepth 20000 in
theorem wi_809 : Cond.methodLink RX11 179 yX11_pageOf ∈ lw_tbl := List.mem_append_right _ (List.mem_append_right _ (List.mem_append_right _ (List.mem_append_right _ (List.mem_append_right _ (List.mem_of_getElem? (i := 79) rfl)))))
set_option maxRecDepth 20000 in
theorem iw_X11_mark : ∀ w ∈ wsX11_mark, w ∈ lw_tbl := List.forall_mem_cons.mpr ⟨wi_805, List.forall_mem_append.mpr ⟨List.forall_mem_cons.mpr ⟨wi_398, List.forall_mem_cons.mpr ⟨wi_400, List.forall_mem_cons.mpr ⟨wi_397, List.forall_mem_cons.mpr ⟨wi_209, List.forall_mem_cons.mpr ⟨wi_208, List.forall_mem_cons.mpr ⟨wi_809, List.forall_mem_cons.mpr ⟨wi_808, List.forall_mem_cons.mpr ⟨wi_807, List.forall_mem_cons.mpr ⟨wi_277, List.forall_mem_cons.mpr ⟨wi_806, List.forall_mem_cons.mpr ⟨wi_215, List.forall_mem_cons.mpr ⟨wi_214, List.forall_mem_cons.mpr ⟨wi_211, fun _ h => absurd h List.not_mem_nil⟩⟩⟩⟩⟩⟩⟩⟩⟩⟩⟩⟩⟩, iX11⟩⟩
set_option maxRecDepth 20000 in
theorem wi_810 : Cond.selects RX11 yX11_mark yX11_mark ∈ lw_tbl := List.mem_append_right _ (List.mem_append_right _ (List.mem_append_right _ (List.mem_append_right _ (List.mem_append_right _ (List.mem_of_getElem? (i := 77) rfl)))))
set_option maxRecDepth 20000 in
theorem wi_811 : Cond.instanceMethod yX11_mark ∈ lw_tbl := List.mem_append_right _ (List.mem_append_right _ (List.mem_append_right _ (List.mem_append_right _ (List.mem_append_right _ (List.mem_of_getElem? (i := 76) rfl)))))
set_option maxRecDepth 20000 in
theorem wi_812 : Cond.methodLink RL 84 yX11_mark ∈ lw_tbl := List.mem_append_right _ (List.mem_append_right _ (List.mem_append_right _ (List.mem_append_right _ (List.mem_append_right _ (List.mem_of_getElem? (i := 75) rfl)))))
set_option maxRecDepth 20000 in
theorem gW_X11_mark : GoodIn lw_tbl (wsV RL 84 RX11 yX11_mark wsX11_mark) := goodIn_sub (List.forall_mem_append.mpr ⟨List.forall_mem_cons.mpr ⟨wi_812, List.forall_mem_cons.mpr ⟨wi_811, List.forall_mem_cons.mpr ⟨wi_810, List.forall_mem_cons.mpr ⟨wi_277, fun _ h => absurd h List.not_mem_nil⟩⟩⟩⟩, iw_X11_mark⟩) (by decide +kernel)
set_option maxRecDepth 20000 in
theorem wi_813 : Cond.code yX10_marked cX10_marked 3 (some .int) ∈ lw_tbl := List.mem_append_right _ (List.mem_append_right _ (List.mem_append_right _ (List.mem_append_left _ (List.mem_of_getElem? (i := 206) rfl))))
set_option maxRecDepth 20000 in
theorem wi_814 : Cond.code yX10_shiftOf cX10_shiftOf 2 (some .int) ∈ lw_tbl := List.mem_append_right _ (List.mem_append_right _ (List.mem_append_right _ (List.mem_append_left _ (List.mem_of_getElem? (i := 223) rfl))))
set_option maxRecDepth 20000 in
theorem wi_815 : Cond.selects RX10 yX10_shiftOf yX10_shiftOf ∈ lw_tbl := List.mem_append_left _ (List.mem_of_getElem? (i := 14) rfl)
set_option maxRecDepth 20000 in
theorem wi_816 : Cond.instanceMethod yX10_shiftOf ∈ lw_tbl := List.mem_append_right _ (List.mem_append_right _ (List.mem_append_right _ (List.mem_append_left _ (List.mem_of_getElem? (i := 222) rfl))))
set_option maxRecDepth 20000 in
theorem wi_817 : Cond.methodLink RX10 220 yX10_shiftOf ∈ lw_tbl := List.mem_append_right _ (List.mem_append_right _ (List.mem_append_right _ (List.mem_append_left _ (List.mem_of_getElem? (i := 220) rfl))))
set_option maxRecDepth 20000 in
theorem wi_818 : Cond.code yX0_pageOf cX0_pageOf 2 (some .int) ∈ lw_tbl := List.mem_append_right _ (List.mem_append_right _ (List.mem_append_right _ (List.mem_append_left _ (List.mem_of_getElem? (i := 219) rfl))))
set_option maxRecDepth 20000 in
theorem wi_819 : Cond.selects RX0 yX0_pageOf yX0_pageOf ∈ lw_tbl := List.mem_append_right _ (List.mem_append_right _ (List.mem_append_right _ (List.mem_append_left _ (List.mem_of_getElem? (i := 218) rfl))))
set_option maxRecDepth 20000 in
theorem wi_820 : Cond.instanceMethod yX0_pageOf ∈ lw_tbl := List.mem_append_right _ (List.mem_append_right _ (List.mem_append_right _ (List.mem_append_left _ (List.mem_of_getElem? (i := 217) rfl))))
set_option maxRecDepth 20000 in
theorem wi_821 : Cond.methodLink RX10 219 yX0_pageOf ∈ lw_tbl := List.mem_append_right _ (List.mem_append_right _ (List.mem_append_right _ (List.mem_append_left _ (List.mem_of_getElem? (i := 216) rfl))))
set_option maxRecDepth 20000 in
theorem wi_822 : Cond.methodLink RX0 22 yX0_has ∈ lw_tbl := List.mem_append_right _ (List.mem_append_right _ (List.mem_append_right _ (List.mem_append_left _ (List.mem_of_getElem? (i := 215) rfl))))
set_option maxRecDepth 20000 in
theorem wi_823 : Cond.code yX0_unitOf cX0_unitOf 2 (some .int) ∈ lw_tbl := List.mem_append_right _ (List.mem_append_right _ (List.mem_append_right _ (List.mem_append_left _ (List.mem_of_getElem? (i := 214) rfl))))
set_option maxRecDepth 20000 in
theorem wi_824 : Cond.selects RX0 yX0_unitOf yX0_unitOf ∈ lw_tbl := List.mem_append_right _ (List.mem_append_right _ (List.mem_append_right _ (List.mem_append_left _ (List.mem_of_getElem? (i := 213) rfl))))
set_option maxRecDepth 20000 in
theorem wi_825 : Cond.instanceMethod yX0_unitOf ∈ lw_tbl := List.mem_append_right _ (List.mem_append_right _ (List.mem_append_right _ (List.mem_append_left _ (List.mem_of_getElem? (i := 212) rfl))))
set_option maxRecDepth 20000 in
theorem wi_826 : Cond.methodLink RX10 216 yX0_unitOf ∈ lw_tbl := List.mem_append_right _ (List.mem_append_right _ (List.mem_append_right _ (List.mem_append_left _ (List.mem_of_getElem? (i := 211) rfl))))
set_option maxRecDepth 20000 in
theorem wi_827 : Cond.code yX0_has cX0_has 2 (some .boolean) ∈ lw_tbl := List.mem_append_right _ (List.mem_append_right _ (List.mem_append_right _ (List.mem_append_left _ (List.mem_of_getElem? (i := 210) rfl))))
set_option maxRecDepth 20000 in
theorem wi_828 : Cond.selects RX0 yX0_has yX0_has ∈ lw_tbl := List.mem_append_right _ (List.mem_append_right _ (List.mem_append_right _ (List.mem_append_left _ (List.mem_of_getElem? (i := 209) rfl))))
set_option maxRecDepth 20000 in
theorem wi_829 : Cond.instanceMethod yX0_has ∈ lw_tbl := List.mem_append_right _ (List.mem_append_right _ (List.mem_append_right _ (List.mem_append_left _ (List.mem_of_getElem? (i := 208) rfl))))
set_option maxRecDepth 20000 in
theorem wi_830 : Cond.methodLink RX10 215 yX0_has ∈ lw_tbl := List.mem_append_right _ (List.mem_append_right _ (List.mem_append_right _ (List.mem_append_left _ (List.mem_of_getElem? (i := 207) rfl))))
set_option maxRecDepth 20000 in
theorem iw_X10_marked : ∀ w ∈ wsX10_marked, w ∈ lw_tbl := List.forall_mem_cons.mpr ⟨wi_813, List.forall_mem_append.mpr ⟨List.forall_mem_append.mpr ⟨List.forall_mem_append.mpr ⟨List.forall_mem_append.mpr ⟨List.forall_mem_append.mpr ⟨List.forall_mem_cons.mpr ⟨wi_38, List.forall_mem_cons.mpr ⟨wi_830, List.forall_mem_cons.mpr ⟨wi_829, List.forall_mem_cons.mpr ⟨wi_828, List.forall_mem_cons.mpr ⟨wi_39, List.forall_mem_cons.mpr ⟨wi_827, List.forall_mem_cons.mpr ⟨wi_378, List.forall_mem_cons.mpr ⟨wi_826, List.forall_mem_cons.mpr ⟨wi_825, List.forall_mem_cons.mpr ⟨wi_824, List.forall_mem_cons.mpr ⟨wi_823, List.forall_mem_cons.mpr ⟨wi_105, List.forall_mem_cons.mpr ⟨wi_822, List.forall_mem_cons.mpr ⟨wi_821, List.forall_mem_cons.mpr ⟨wi_820, List.forall_mem_cons.mpr ⟨wi_819, List.forall_mem_cons.mpr ⟨wi_818, List.forall_mem_cons.mpr ⟨wi_104, List.forall_mem_cons.mpr ⟨wi_817, List.forall_mem_cons.mpr ⟨wi_816, List.forall_mem_cons.mpr ⟨wi_815, List.forall_mem_cons.mpr ⟨wi_271, List.forall_mem_cons.mpr ⟨wi_814, List.forall_mem_cons.mpr ⟨wi_2, fun _ h => absurd h List.not_mem_nil⟩⟩⟩⟩⟩⟩⟩⟩⟩⟩⟩⟩⟩⟩⟩⟩⟩⟩⟩⟩⟩⟩⟩⟩, List.forall_mem_cons.mpr ⟨wi_42, List.forall_mem_cons.mpr ⟨wi_797, List.forall_mem_cons.mpr ⟨wi_796, List.forall_mem_cons.mpr ⟨wi_795, List.forall_mem_cons.mpr ⟨wi_3, List.forall_mem_cons.mpr ⟨wi_794, List.forall_mem_cons.mpr ⟨wi_353, List.forall_mem_cons.mpr ⟨wi_464, List.forall_mem_cons.mpr ⟨wi_793, List.forall_mem_cons.mpr ⟨wi_792, List.forall_mem_cons.mpr ⟨wi_791, List.forall_mem_cons.mpr ⟨wi_790, List.forall_mem_cons.mpr ⟨wi_545, List.forall_mem_cons.mpr ⟨wi_90, List.forall_mem_cons.mpr ⟨wi_89, List.forall_mem_cons.mpr ⟨wi_737, List.forall_mem_cons.mpr ⟨wi_736, List.forall_mem_cons.mpr ⟨wi_735, List.forall_mem_cons.mpr ⟨wi_43, List.forall_mem_cons.mpr ⟨wi_734, List.forall_mem_cons.mpr ⟨wi_110, fun _ h => absurd h List.not_mem_nil⟩⟩⟩⟩⟩⟩⟩⟩⟩⟩⟩⟩⟩⟩⟩⟩⟩⟩⟩⟩⟩⟩, iX10⟩, iX0⟩, iX5⟩, iX2⟩⟩
set_option maxRecDepth 20000 in
theorem wi_831 : Cond.selects RX10 yX10_marked yX10_marked ∈ lw_tbl := List.mem_append_right _ (List.mem_append_right _ (List.mem_append_right _ (List.mem_append_left _ (List.mem_of_getElem? (i := 205) rfl))))
set_option maxRecDepth 20000 in
theorem wi_832 : Cond.instanceMethod yX10_marked ∈ lw_tbl := List.mem_append_right _ (List.mem_append_right _ (List.mem_append_right _ (List.mem_append_left _ (List.mem_of_getElem? (i := 204) rfl))))
set_option maxRecDepth 20000 in
theorem wi_833 : Cond.methodLink RL 85 yX10_marked ∈ lw_tbl := List.mem_append_right _ (List.mem_append_right _ (List.mem_append_right _ (List.mem_append_left _ (List.mem_of_getElem? (i := 203) rfl))))
set_option maxRecDepth 20000 in
theorem gW_X10_marked : GoodIn lw_tbl (wsV RL 85 RX10 yX10_marked wsX10_marked) := goodIn_sub (List.forall_mem_append.mpr ⟨List.forall_mem_cons.mpr ⟨wi_833, List.forall_mem_cons.mpr ⟨wi_832, List.forall_mem_cons.mpr ⟨wi_831, List.forall_mem_cons.mpr ⟨wi_271, fun _ h => absurd h List.not_mem_nil⟩⟩⟩⟩, iw_X10_marked⟩) (by decide +kernel)
set_option maxRecDepth 20000 in
theorem wi_834 : Cond.code yX11_marked cX11_marked 3 (some .int) ∈ lw_tbl := List.mem_append_right _ (List.mem_append_right _ (List.mem_append_right _ (List.mem_append_right _ (List.mem_append_right _ (List.mem_of_getElem? (i := 86) rfl)))))
set_option maxRecDepth 20000 in
theorem iw_X11_marked : ∀ w ∈ wsX11_marked, w ∈ lw_tbl := List.forall_mem_cons.mpr ⟨wi_834, List.forall_mem_append.mpr ⟨List.forall_mem_cons.mpr ⟨wi_397, List.forall_mem_cons.mpr ⟨wi_209, List.forall_mem_cons.mpr ⟨wi_208, List.forall_mem_cons.mpr ⟨wi_398, List.forall_mem_cons.mpr ⟨wi_809, List.forall_mem_cons.mpr ⟨wi_808, List.forall_mem_cons.mpr ⟨wi_807, List.forall_mem_cons.mpr ⟨wi_277, List.forall_mem_cons.mpr ⟨wi_806, List.forall_mem_cons.mpr ⟨wi_215, List.forall_mem_cons.mpr ⟨wi_214, List.forall_mem_cons.mpr ⟨wi_211, fun _ h => absurd h List.not_mem_nil⟩⟩⟩⟩⟩⟩⟩⟩⟩⟩⟩⟩, iX11⟩⟩
set_option maxRecDepth 20000 in
theorem wi_835 : Cond.selects RX11 yX11_marked yX11_marked ∈ lw_tbl := List.mem_append_right _ (List.mem_append_right _ (List.mem_append_right _ (List.mem_append_right _ (List.mem_append_right _ (List.mem_of_getElem? (i := 85) rfl)))))
set_option maxRecDepth 20000 in
theorem wi_836 : Cond.instanceMethod yX11_marked ∈ lw_tbl := List.mem_append_right _ (List.mem_append_right _ (List.mem_append_right _ (List.mem_append_right _ (List.mem_append_right _ (List.mem_of_getElem? (i := 84) rfl)))))
set_option maxRecDepth 20000 in
theorem wi_837 : Cond.methodLink RL 88 yX11_marked ∈ lw_tbl := List.mem_append_right _ (List.mem_append_right _ (List.mem_append_right _ (List.mem_append_right _ (List.mem_append_right _ (List.mem_of_getElem? (i := 83) rfl)))))
set_option maxRecDepth 20000 in
theorem gW_X11_marked : GoodIn lw_tbl (wsV RL 88 RX11 yX11_marked wsX11_marked) := goodIn_sub (List.forall_mem_append.mpr ⟨List.forall_mem_cons.mpr ⟨wi_837, List.forall_mem_cons.mpr ⟨wi_836, List.forall_mem_cons.mpr ⟨wi_835, List.forall_mem_cons.mpr ⟨wi_277, fun _ h => absurd h List.not_mem_nil⟩⟩⟩⟩, iw_X11_marked⟩) (by decide +kernel)
set_option maxRecDepth 20000 in
theorem wi_838 : Cond.code yX10_test cX10_test 4 (some .boolean) ∈ lw_tbl := List.mem_append_right _ (List.mem_append_right _ (List.mem_append_right _ (List.mem_append_left _ (List.mem_of_getElem? (i := 227) rfl))))
set_option maxRecDepth 20000 in
theorem wi_839 : Cond.fieldLink RX8 29 "StillText$Trials" "bestSpread" "I" ∈ lw_tbl := List.mem_append_right _ (List.mem_append_left _ (List.mem_of_getElem? (i := 222) rfl))
set_option maxRecDepth 20000 in
theorem wi_840 : Cond.fieldLink RX8 26 "StillText$Trials" "bestLong" "I" ∈ lw_tbl := List.mem_append_right _ (List.mem_append_left _ (List.mem_of_getElem? (i := 221) rfl))
set_option maxRecDepth 20000 in
theorem wi_841 : Cond.code yX8_makeBest cX8_makeBest 4 none ∈ lw_tbl := List.mem_append_right _ (List.mem_append_right _ (List.mem_append_right _ (List.mem_append_left _ (List.mem_of_getElem? (i := 239) rfl))))
set_option maxRecDepth 20000 in
theorem wi_842 : Cond.selects RX8 yX8_makeBest yX8_makeBest ∈ lw_tbl := List.mem_append_left _ (List.mem_of_getElem? (i := 15) rfl)
set_option maxRecDepth 20000 in
theorem wi_843 : Cond.instanceMethod yX8_makeBest ∈ lw_tbl := List.mem_append_right _ (List.mem_append_right _ (List.mem_append_right _ (List.mem_append_left _ (List.mem_of_getElem? (i := 238) rfl))))
set_option maxRecDepth 20000 in
theorem wi_844 : Cond.methodLink RX8 49 yX8_makeBest ∈ lw_tbl := List.mem_append_right _ (List.mem_append_right _ (List.mem_append_right _ (List.mem_append_left _ (List.mem_of_getElem? (i := 236) rfl))))
set_option maxRecDepth 20000 in
theorem wi_845 : Cond.code yX8_isOnGrid cX8_isOnGrid 2 (some .boolean) ∈ lw_tbl := List.mem_append_right _ (List.mem_append_right _ (List.mem_append_right _ (List.mem_append_left _ (List.mem_of_getElem? (i := 234) rfl))))
set_option maxRecDepth 20000 in
theorem wi_846 : Cond.static yX8_isOnGrid ∈ lw_tbl := List.mem_append_right _ (List.mem_append_right _ (List.mem_append_right _ (List.mem_append_left _ (List.mem_of_getElem? (i := 233) rfl))))
set_option maxRecDepth 20000 in
theorem wi_847 : Cond.methodLink RX8 32 yX8_isOnGrid ∈ lw_tbl := List.mem_append_right _ (List.mem_append_right _ (List.mem_append_right _ (List.mem_append_left _ (List.mem_of_getElem? (i := 232) rfl))))
set_option maxRecDepth 20000 in
theorem wi_848 : Cond.fieldLink RX8 46 "StillText$Trials" "ahead" "I" ∈ lw_tbl := List.mem_append_right _ (List.mem_append_left _ (List.mem_of_getElem? (i := 225) rfl))
set_option maxRecDepth 20000 in
theorem wi_849 : Cond.fieldLink RX8 43 "StillText$Trials" "won" "I" ∈ lw_tbl := List.mem_append_right _ (List.mem_append_left _ (List.mem_of_getElem? (i := 227) rfl))
set_option maxRecDepth 20000 in
theorem wi_850 : Cond.fieldLink RX8 40 "StillText$Trials" "answers" "I" ∈ lw_tbl := List.mem_append_right _ (List.mem_append_left _ (List.mem_of_getElem? (i := 226) rfl))
set_option maxRecDepth 20000 in
theorem wi_851 : Cond.fieldLink RX8 22 "StillText$Trials" "begun" "Z" ∈ lw_tbl := List.mem_append_right _ (List.mem_append_left _ (List.mem_of_getElem? (i := 220) rfl))
set_option maxRecDepth 20000 in
theorem wi_852 : Cond.code yX8_begin cX8_begin 4 (some .boolean) ∈ lw_tbl := List.mem_append_right _ (List.mem_append_right _ (List.mem_append_right _ (List.mem_append_left _ (List.mem_of_getElem? (i := 231) rfl))))
set_option maxRecDepth 20000 in
theorem wi_853 : Cond.selects RX8 yX8_begin yX8_begin ∈ lw_tbl := List.mem_append_right _ (List.mem_append_right _ (List.mem_append_right _ (List.mem_append_left _ (List.mem_of_getElem? (i := 230) rfl))))
set_option maxRecDepth 20000 in
theorem wi_854 : Cond.instanceMethod yX8_begin ∈ lw_tbl := List.mem_append_right _ (List.mem_append_right _ (List.mem_append_right _ (List.mem_append_left _ (List.mem_of_getElem? (i := 229) rfl))))
set_option maxRecDepth 20000 in
theorem wi_855 : Cond.methodLink RX10 223 yX8_begin ∈ lw_tbl := List.mem_append_right _ (List.mem_append_right _ (List.mem_append_right _ (List.mem_append_left _ (List.mem_of_getElem? (i := 228) rfl))))
set_option maxRecDepth 20000 in
theorem wi_856 : Cond.fieldLink RX8 76 "StillText$Trials" "SPREAD_STEPS" "[I" ∈ lw_tbl := List.mem_append_right _ (List.mem_append_right _ (List.mem_append_right _ (List.mem_append_right _ (List.mem_append_left _ (List.mem_of_getElem? (i := 14) rfl)))))
set_option maxRecDepth 20000 in
theorem wi_857 : Cond.code yX8_spreadOn cX8_spreadOn 2 (some .int) ∈ lw_tbl := List.mem_append_right _ (List.mem_append_right _ (List.mem_append_right _ (List.mem_append_right _ (List.mem_append_left _ (List.mem_of_getElem? (i := 13) rfl)))))
set_option maxRecDepth 20000 in
theorem wi_858 : Cond.selects RX8 yX8_spreadOn yX8_spreadOn ∈ lw_tbl := List.mem_append_left _ (List.mem_of_getElem? (i := 18) rfl)
set_option maxRecDepth 20000 in
theorem wi_859 : Cond.instanceMethod yX8_spreadOn ∈ lw_tbl := List.mem_append_right _ (List.mem_append_right _ (List.mem_append_right _ (List.mem_append_right _ (List.mem_append_left _ (List.mem_of_getElem? (i := 12) rfl)))))
set_option maxRecDepth 20000 in
theorem wi_860 : Cond.methodLink RX8 61 yX8_spreadOn ∈ lw_tbl := List.mem_append_right _ (List.mem_append_right _ (List.mem_append_right _ (List.mem_append_right _ (List.mem_append_left _ (List.mem_of_getElem? (i := 10) rfl)))))
set_option maxRecDepth 20000 in
theorem wi_861 : Cond.fieldLink RX8 72 "StillText$Trials" "LONG_STEPS" "[I" ∈ lw_tbl := List.mem_append_right _ (List.mem_append_right _ (List.mem_append_right _ (List.mem_append_right _ (List.mem_append_left _ (List.mem_of_getElem? (i := 8) rfl)))))
set_option maxRecDepth 20000 in
theorem wi_862 : Cond.code yX8_longOn cX8_longOn 2 (some .int) ∈ lw_tbl := List.mem_append_right _ (List.mem_append_right _ (List.mem_append_right _ (List.mem_append_right _ (List.mem_append_left _ (List.mem_of_getElem? (i := 7) rfl)))))
set_option maxRecDepth 20000 in
theorem wi_863 : Cond.selects RX8 yX8_longOn yX8_longOn ∈ lw_tbl := List.mem_append_left _ (List.mem_of_getElem? (i := 17) rfl)
set_option maxRecDepth 20000 in
theorem wi_864 : Cond.instanceMethod yX8_longOn ∈ lw_tbl := List.mem_append_right _ (List.mem_append_right _ (List.mem_append_right _ (List.mem_append_right _ (List.mem_append_left _ (List.mem_of_getElem? (i := 6) rfl)))))
set_option maxRecDepth 20000 in
theorem wi_865 : Cond.methodLink RX8 57 yX8_longOn ∈ lw_tbl := List.mem_append_right _ (List.mem_append_right _ (List.mem_append_right _ (List.mem_append_right _ (List.mem_append_left _ (List.mem_of_getElem? (i := 4) rfl)))))
set_option maxRecDepth 20000 in
theorem wi_866 : Cond.code yX8_nextWay cX8_nextWay 2 (some .int) ∈ lw_tbl := List.mem_append_right _ (List.mem_append_right _ (List.mem_append_right _ (List.mem_append_right _ (List.mem_append_left _ (List.mem_of_getElem? (i := 3) rfl)))))
set_option maxRecDepth 20000 in
theorem wi_867 : Cond.selects RX8 yX8_nextWay yX8_nextWay ∈ lw_tbl := List.mem_append_left _ (List.mem_of_getElem? (i := 16) rfl)
set_option maxRecDepth 20000 in
theorem wi_868 : Cond.instanceMethod yX8_nextWay ∈ lw_tbl := List.mem_append_right _ (List.mem_append_right _ (List.mem_append_right _ (List.mem_append_right _ (List.mem_append_left _ (List.mem_of_getElem? (i := 2) rfl)))))
set_option maxRecDepth 20000 in
theorem wi_869 : Cond.methodLink RX8 53 yX8_nextWay ∈ lw_tbl := List.mem_append_right _ (List.mem_append_right _ (List.mem_append_right _ (List.mem_append_right _ (List.mem_append_left _ (List.mem_of_getElem? (i := 0) rfl)))))
set_option maxRecDepth 20000 in
theorem iw_X10_test : ∀ w ∈ wsX10_test, w ∈ lw_tbl := List.forall_mem_cons.mpr ⟨wi_838, List.forall_mem_append.mpr ⟨List.forall_mem_append.mpr ⟨List.forall_mem_append.mpr ⟨List.forall_mem_cons.mpr ⟨wi_34, List.forall_mem_cons.mpr ⟨wi_855, List.forall_mem_cons.mpr ⟨wi_854, List.forall_mem_cons.mpr ⟨wi_853, List.forall_mem_cons.mpr ⟨wi_35, List.forall_mem_cons.mpr ⟨wi_852, List.forall_mem_cons.mpr ⟨wi_851, List.forall_mem_cons.mpr ⟨wi_98, List.forall_mem_cons.mpr ⟨wi_850, List.forall_mem_cons.mpr ⟨wi_849, List.forall_mem_cons.mpr ⟨wi_848, List.forall_mem_cons.mpr ⟨wi_97, List.forall_mem_cons.mpr ⟨wi_847, List.forall_mem_cons.mpr ⟨wi_846, List.forall_mem_cons.mpr ⟨wi_845, List.forall_mem_cons.mpr ⟨wi_283, List.forall_mem_cons.mpr ⟨wi_271, List.forall_mem_cons.mpr ⟨wi_282, List.forall_mem_cons.mpr ⟨wi_844, List.forall_mem_cons.mpr ⟨wi_843, List.forall_mem_cons.mpr ⟨wi_842, List.forall_mem_cons.mpr ⟨wi_841, List.forall_mem_cons.mpr ⟨wi_840, List.forall_mem_cons.mpr ⟨wi_839, fun _ h => absurd h List.not_mem_nil⟩⟩⟩⟩⟩⟩⟩⟩⟩⟩⟩⟩⟩⟩⟩⟩⟩⟩⟩⟩⟩⟩⟩⟩, List.forall_mem_cons.mpr ⟨wi_99, List.forall_mem_cons.mpr ⟨wi_869, List.forall_mem_cons.mpr ⟨wi_868, List.forall_mem_cons.mpr ⟨wi_867, List.forall_mem_cons.mpr ⟨wi_866, List.forall_mem_cons.mpr ⟨wi_865, List.forall_mem_cons.mpr ⟨wi_864, List.forall_mem_cons.mpr ⟨wi_863, List.forall_mem_cons.mpr ⟨wi_862, List.forall_mem_cons.mpr ⟨wi_861, List.forall_mem_cons.mpr ⟨wi_860, List.forall_mem_cons.mpr ⟨wi_859, List.forall_mem_cons.mpr ⟨wi_858, List.forall_mem_cons.mpr ⟨wi_857, List.forall_mem_cons.mpr ⟨wi_856, fun _ h => absurd h List.not_mem_nil⟩⟩⟩⟩⟩⟩⟩⟩⟩⟩⟩⟩⟩⟩⟩⟩, iX10⟩, iX8⟩⟩
set_option maxRecDepth 20000 in
theorem wi_870 : Cond.selects RX10 yX10_test yX10_test ∈ lw_tbl := List.mem_append_right _ (List.mem_append_right _ (List.mem_append_right _ (List.mem_append_left _ (List.mem_of_getElem? (i := 226) rfl))))
set_option maxRecDepth 20000 in
theorem wi_871 : Cond.instanceMethod yX10_test ∈ lw_tbl := List.mem_append_right _ (List.mem_append_right _ (List.mem_append_right _ (List.mem_append_left _ (List.mem_of_getElem? (i := 225) rfl))))
set_option maxRecDepth 20000 in
theorem wi_872 : Cond.methodLink RL 89 yX10_test ∈ lw_tbl := List.mem_append_right _ (List.mem_append_right _ (List.mem_append_right _ (List.mem_append_left _ (List.mem_of_getElem? (i := 224) rfl))))
set_option maxRecDepth 20000 in
theorem gW_X10_test : GoodIn lw_tbl (wsV RL 89 RX10 yX10_test wsX10_test) := goodIn_sub (List.forall_mem_append.mpr ⟨List.forall_mem_cons.mpr ⟨wi_872, List.forall_mem_cons.mpr ⟨wi_871, List.forall_mem_cons.mpr ⟨wi_870, List.forall_mem_cons.mpr ⟨wi_271, fun _ h => absurd h List.not_mem_nil⟩⟩⟩⟩, iw_X10_test⟩) (by decide +kernel)
set_option maxRecDepth 20000 in
theorem wi_873 : Cond.code yX11_test cX11_test 4 (some .boolean) ∈ lw_tbl := List.mem_append_right _ (List.mem_append_right _ (List.mem_append_right _ (List.mem_append_right _ (List.mem_append_right _ (List.mem_of_getElem? (i := 90) rfl)))))
set_option maxRecDepth 20000 in
theorem wi_874 : Cond.code yX11_neighbourSpread cX11_neighbourSpread 1 (some .int) ∈ lw_tbl := List.mem_append_right _ (List.mem_append_right _ (List.mem_append_right _ (List.mem_append_right _ (List.mem_append_right _ (List.mem_of_getElem? (i := 102) rfl)))))
set_option maxRecDepth 20000 in
theorem wi_875 : Cond.selects RX11 yX11_neighbourSpread yX11_neighbourSpread ∈ lw_tbl := List.mem_append_left _ (List.mem_of_getElem? (i := 35) rfl)
set_option maxRecDepth 20000 in
theorem wi_876 : Cond.instanceMethod yX11_neighbourSpread ∈ lw_tbl := List.mem_append_right _ (List.mem_append_right _ (List.mem_append_right _ (List.mem_append_right _ (List.mem_append_right _ (List.mem_of_getElem? (i := 101) rfl)))))
set_option maxRecDepth 20000 in
theorem wi_877 : Cond.methodLink RX11 195 yX11_neighbourSpread ∈ lw_tbl := List.mem_append_right _ (List.mem_append_right _ (List.mem_append_right _ (List.mem_append_right _ (List.mem_append_right _ (List.mem_of_getElem? (i := 99) rfl)))))
set_option maxRecDepth 20000 in
theorem wi_878 : Cond.code yX11_neighbourLong cX11_neighbourLong 1 (some .int) ∈ lw_tbl := List.mem_append_right _ (List.mem_append_right _ (List.mem_append_right _ (List.mem_append_right _ (List.mem_append_right _ (List.mem_of_getElem? (i := 98) rfl)))))
set_option maxRecDepth 20000 in
theorem wi_879 : Cond.selects RX11 yX11_neighbourLong yX11_neighbourLong ∈ lw_tbl := List.mem_append_left _ (List.mem_of_getElem? (i := 34) rfl)
set_option maxRecDepth 20000 in
theorem wi_880 : Cond.instanceMethod yX11_neighbourLong ∈ lw_tbl := List.mem_append_right _ (List.mem_append_right _ (List.mem_append_right _ (List.mem_append_right _ (List.mem_append_right _ (List.mem_of_getElem? (i := 97) rfl)))))
set_option maxRecDepth 20000 in
theorem wi_881 : Cond.methodLink RX11 191 yX11_neighbourLong ∈ lw_tbl := List.mem_append_right _ (List.mem_append_right _ (List.mem_append_right _ (List.mem_append_right _ (List.mem_append_right _ (List.mem_of_getElem? (i := 95) rfl)))))
set_option maxRecDepth 20000 in
theorem wi_882 : Cond.fieldLink RX11 198 "StillTextModel" "ahead" "I" ∈ lw_tbl := List.mem_append_right _ (List.mem_append_right _ (List.mem_append_right _ (List.mem_append_right _ (List.mem_append_left _ (List.mem_of_getElem? (i := 101) rfl)))))
set_option maxRecDepth 20000 in
theorem wi_883 : Cond.fieldLink RX11 185 "StillTextModel" "now" "I" ∈ lw_tbl := List.mem_append_right _ (List.mem_append_right _ (List.mem_append_right _ (List.mem_append_right _ (List.mem_append_left _ (List.mem_of_getElem? (i := 104) rfl)))))
set_option maxRecDepth 20000 in
theorem wi_884 : Cond.code yX11_finds cX11_finds 2 none ∈ lw_tbl := List.mem_append_right _ (List.mem_append_right _ (List.mem_append_right _ (List.mem_append_right _ (List.mem_append_right _ (List.mem_of_getElem? (i := 94) rfl)))))
set_option maxRecDepth 20000 in
theorem wi_885 : Cond.selects RX11 yX11_finds yX11_finds ∈ lw_tbl := List.mem_append_left _ (List.mem_of_getElem? (i := 33) rfl)
set_option maxRecDepth 20000 in
theorem wi_886 : Cond.instanceMethod yX11_finds ∈ lw_tbl := List.mem_append_right _ (List.mem_append_right _ (List.mem_append_right _ (List.mem_append_right _ (List.mem_append_right _ (List.mem_of_getElem? (i := 93) rfl)))))
set_option maxRecDepth 20000 in
theorem wi_887 : Cond.methodLink RX11 213 yX11_finds ∈ lw_tbl := List.mem_append_right _ (List.mem_append_right _ (List.mem_append_right _ (List.mem_append_right _ (List.mem_append_right _ (List.mem_of_getElem? (i := 91) rfl)))))
set_option maxRecDepth 20000 in
theorem wi_888 : Cond.fieldLink RX11 210 "StillTextModel" "won" "I" ∈ lw_tbl := List.mem_append_right _ (List.mem_append_right _ (List.mem_append_right _ (List.mem_append_right _ (List.mem_append_left _ (List.mem_of_getElem? (i := 103) rfl)))))
set_option maxRecDepth 20000 in
theorem wi_889 : Cond.fieldLink RX11 207 "StillTextModel" "answers" "I" ∈ lw_tbl := List.mem_append_right _ (List.mem_append_right _ (List.mem_append_right _ (List.mem_append_right _ (List.mem_append_left _ (List.mem_of_getElem? (i := 102) rfl)))))
set_option maxRecDepth 20000 in
theorem wi_890 : Cond.fieldLink RX11 204 "StillTextModel" "lead" "I" ∈ lw_tbl := List.mem_append_right _ (List.mem_append_right _ (List.mem_append_right _ (List.mem_append_right _ (List.mem_append_left _ (List.mem_of_getElem? (i := 100) rfl)))))
set_option maxRecDepth 20000 in
theorem wi_891 : Cond.fieldLink RX11 188 "StillTextModel" "bestSpread" "I" ∈ lw_tbl := List.mem_append_right _ (List.mem_append_right _ (List.mem_append_right _ (List.mem_append_right _ (List.mem_append_left _ (List.mem_of_getElem? (i := 99) rfl)))))
set_option maxRecDepth 20000 in
theorem wi_892 : Cond.fieldLink RX11 182 "StillTextModel" "bestLong" "I" ∈ lw_tbl := List.mem_append_right _ (List.mem_append_right _ (List.mem_append_right _ (List.mem_append_right _ (List.mem_append_left _ (List.mem_of_getElem? (i := 98) rfl)))))
set_option maxRecDepth 20000 in
theorem wi_893 : Cond.fieldLink RX11 201 "StillTextModel" "hasTests" "Z" ∈ lw_tbl := List.mem_append_right _ (List.mem_append_right _ (List.mem_append_right _ (List.mem_append_right _ (List.mem_append_left _ (List.mem_of_getElem? (i := 97) rfl)))))
set_option maxRecDepth 20000 in
theorem iw_X11_test : ∀ w ∈ wsX11_test, w ∈ lw_tbl := List.forall_mem_cons.mpr ⟨wi_873, List.forall_mem_append.mpr ⟨List.forall_mem_cons.mpr ⟨wi_893, List.forall_mem_cons.mpr ⟨wi_892, List.forall_mem_cons.mpr ⟨wi_891, List.forall_mem_cons.mpr ⟨wi_890, List.forall_mem_cons.mpr ⟨wi_889, List.forall_mem_cons.mpr ⟨wi_888, List.forall_mem_cons.mpr ⟨wi_501, List.forall_mem_cons.mpr ⟨wi_500, List.forall_mem_cons.mpr ⟨wi_277, List.forall_mem_cons.mpr ⟨wi_499, List.forall_mem_cons.mpr ⟨wi_887, List.forall_mem_cons.mpr ⟨wi_886, List.forall_mem_cons.mpr ⟨wi_885, List.forall_mem_cons.mpr ⟨wi_884, List.forall_mem_cons.mpr ⟨wi_883, List.forall_mem_cons.mpr ⟨wi_882, List.forall_mem_cons.mpr ⟨wi_881, List.forall_mem_cons.mpr ⟨wi_880, List.forall_mem_cons.mpr ⟨wi_879, List.forall_mem_cons.mpr ⟨wi_878, List.forall_mem_cons.mpr ⟨wi_877, List.forall_mem_cons.mpr ⟨wi_876, List.forall_mem_cons.mpr ⟨wi_875, List.forall_mem_cons.mpr ⟨wi_874, fun _ h => absurd h List.not_mem_nil⟩⟩⟩⟩⟩⟩⟩⟩⟩⟩⟩⟩⟩⟩⟩⟩⟩⟩⟩⟩⟩⟩⟩⟩, iX11⟩⟩
set_option maxRecDepth 20000 in
theorem wi_894 : Cond.selects RX11 yX11_test yX11_test ∈ lw_tbl := List.mem_append_right _ (List.mem_append_right _ (List.mem_append_right _ (List.mem_append_right _ (List.mem_append_right _ (List.mem_of_getElem? (i := 89) rfl)))))
set_option maxRecDepth 20000 in
theorem wi_895 : Cond.instanceMethod yX11_test ∈ lw_tbl := List.mem_append_right _ (List.mem_append_right _ (List.mem_append_right _ (List.mem_append_right _ (List.mem_append_right _ (List.mem_of_getElem? (i := 88) rfl)))))
set_option maxRecDepth 20000 in
theorem wi_896 : Cond.methodLink RL 93 yX11_test ∈ lw_tbl := List.mem_append_right _ (List.mem_append_right _ (List.mem_append_right _ (List.mem_append_right _ (List.mem_append_right _ (List.mem_of_getElem? (i := 87) rfl)))))
set_option maxRecDepth 20000 in
theorem gW_X11_test : GoodIn lw_tbl (wsV RL 93 RX11 yX11_test wsX11_test) := goodIn_sub (List.forall_mem_append.mpr ⟨List.forall_mem_cons.mpr ⟨wi_896, List.forall_mem_cons.mpr ⟨wi_895, List.forall_mem_cons.mpr ⟨wi_894, List.forall_mem_cons.mpr ⟨wi_277, fun _ h => absurd h List.not_mem_nil⟩⟩⟩⟩, iw_X11_test⟩) (by decide +kernel)
set_option maxRecDepth 20000 in
theorem wi_897 : Cond.code yX10_tested cX10_tested 2 (some .int) ∈ lw_tbl := List.mem_append_right _ (List.mem_append_right _ (List.mem_append_right _ (List.mem_append_right _ (List.mem_append_left _ (List.mem_of_getElem? (i := 19) rfl)))))
set_option maxRecDepth 20000 in
theorem wi_898 : Cond.code yX8_tell cX8_tell 2 (some .int) ∈ lw_tbl := List.mem_append_right _ (List.mem_append_right _ (List.mem_append_right _ (List.mem_append_right _ (List.mem_append_left _ (List.mem_of_getElem? (i := 23) rfl)))))
set_option maxRecDepth 20000 in
theorem wi_899 : Cond.selects RX8 yX8_tell yX8_tell ∈ lw_tbl := List.mem_append_right _ (List.mem_append_right _ (List.mem_append_right _ (List.mem_append_right _ (List.mem_append_left _ (List.mem_of_getElem? (i := 22) rfl)))))
set_option maxRecDepth 20000 in
theorem wi_900 : Cond.instanceMethod yX8_tell ∈ lw_tbl := List.mem_append_right _ (List.mem_append_right _ (List.mem_append_right _ (List.mem_append_right _ (List.mem_append_left _ (List.mem_of_getElem? (i := 21) rfl)))))
set_option maxRecDepth 20000 in
theorem wi_901 : Cond.methodLink RX10 226 yX8_tell ∈ lw_tbl := List.mem_append_right _ (List.mem_append_right _ (List.mem_append_right _ (List.mem_append_right _ (List.mem_append_left _ (List.mem_of_getElem? (i := 20) rfl)))))
set_option maxRecDepth 20000 in
theorem iw_X10_tested : ∀ w ∈ wsX10_tested, w ∈ lw_tbl := List.forall_mem_cons.mpr ⟨wi_897, List.forall_mem_append.mpr ⟨List.forall_mem_append.mpr ⟨List.forall_mem_cons.mpr ⟨wi_34, List.forall_mem_cons.mpr ⟨wi_901, List.forall_mem_cons.mpr ⟨wi_900, List.forall_mem_cons.mpr ⟨wi_899, List.forall_mem_cons.mpr ⟨wi_35, List.forall_mem_cons.mpr ⟨wi_898, List.forall_mem_cons.mpr ⟨wi_851, List.forall_mem_cons.mpr ⟨wi_840, List.forall_mem_cons.mpr ⟨wi_839, List.forall_mem_cons.mpr ⟨wi_97, List.forall_mem_cons.mpr ⟨wi_850, List.forall_mem_cons.mpr ⟨wi_849, List.forall_mem_cons.mpr ⟨wi_865, List.forall_mem_cons.mpr ⟨wi_864, List.forall_mem_cons.mpr ⟨wi_863, List.forall_mem_cons.mpr ⟨wi_862, List.forall_mem_cons.mpr ⟨wi_861, List.forall_mem_cons.mpr ⟨wi_860, List.forall_mem_cons.mpr ⟨wi_859, List.forall_mem_cons.mpr ⟨wi_858, List.forall_mem_cons.mpr ⟨wi_857, List.forall_mem_cons.mpr ⟨wi_856, fun _ h => absurd h List.not_mem_nil⟩⟩⟩⟩⟩⟩⟩⟩⟩⟩⟩⟩⟩⟩⟩⟩⟩⟩⟩⟩⟩⟩, iX10⟩, iX8⟩⟩
set_option maxRecDepth 20000 in
theorem wi_902 : Cond.selects RX10 yX10_tested yX10_tested ∈ lw_tbl := List.mem_append_right _ (List.mem_append_right _ (List.mem_append_right _ (List.mem_append_right _ (List.mem_append_left _ (List.mem_of_getElem? (i := 18) rfl)))))
set_option maxRecDepth 20000 in
theorem wi_903 : Cond.instanceMethod yX10_tested ∈ lw_tbl := List.mem_append_right _ (List.mem_append_right _ (List.mem_append_right _ (List.mem_append_right _ (List.mem_append_left _ (List.mem_of_getElem? (i := 17) rfl)))))
set_option maxRecDepth 20000 in
theorem wi_904 : Cond.methodLink RL 94 yX10_tested ∈ lw_tbl := List.mem_append_right _ (List.mem_append_right _ (List.mem_append_right _ (List.mem_append_right _ (List.mem_append_left _ (List.mem_of_getElem? (i := 16) rfl)))))
set_option maxRecDepth 20000 in
theorem gW_X10_tested : GoodIn lw_tbl (wsV RL 94 RX10 yX10_tested wsX10_tested) := goodIn_sub (List.forall_mem_append.mpr ⟨List.forall_mem_cons.mpr ⟨wi_904, List.forall_mem_cons.mpr ⟨wi_903, List.forall_mem_cons.mpr ⟨wi_902, List.forall_mem_cons.mpr ⟨wi_271, fun _ h => absurd h List.not_mem_nil⟩⟩⟩⟩, iw_X10_tested⟩) (by decide +kernel)
set_option maxRecDepth 20000 in
theorem wi_905 : Cond.code yX11_tested cX11_tested 2 (some .int) ∈ lw_tbl := List.mem_append_right _ (List.mem_append_right _ (List.mem_append_right _ (List.mem_append_right _ (List.mem_append_right _ (List.mem_of_getElem? (i := 106) rfl)))))
set_option maxRecDepth 20000 in
theorem wi_906 : Cond.code yX11_isOver cX11_isOver 1 (some .boolean) ∈ lw_tbl := List.mem_append_right _ (List.mem_append_right _ (List.mem_append_right _ (List.mem_append_right _ (List.mem_append_right _ (List.mem_of_getElem? (i := 110) rfl)))))
set_option maxRecDepth 20000 in
theorem wi_907 : Cond.selects RX11 yX11_isOver yX11_isOver ∈ lw_tbl := List.mem_append_left _ (List.mem_of_getElem? (i := 36) rfl)
set_option maxRecDepth 20000 in
theorem wi_908 : Cond.instanceMethod yX11_isOver ∈ lw_tbl := List.mem_append_right _ (List.mem_append_right _ (List.mem_append_right _ (List.mem_append_right _ (List.mem_append_right _ (List.mem_of_getElem? (i := 109) rfl)))))
set_option maxRecDepth 20000 in
theorem wi_909 : Cond.methodLink RX11 217 yX11_isOver ∈ lw_tbl := List.mem_append_right _ (List.mem_append_right _ (List.mem_append_right _ (List.mem_append_right _ (List.mem_append_right _ (List.mem_of_getElem? (i := 107) rfl)))))
set_option maxRecDepth 20000 in
theorem iw_X11_tested : ∀ w ∈ wsX11_tested, w ∈ lw_tbl := List.forall_mem_cons.mpr ⟨wi_905, List.forall_mem_append.mpr ⟨List.forall_mem_cons.mpr ⟨wi_893, List.forall_mem_cons.mpr ⟨wi_892, List.forall_mem_cons.mpr ⟨wi_891, List.forall_mem_cons.mpr ⟨wi_889, List.forall_mem_cons.mpr ⟨wi_888, List.forall_mem_cons.mpr ⟨wi_909, List.forall_mem_cons.mpr ⟨wi_908, List.forall_mem_cons.mpr ⟨wi_907, List.forall_mem_cons.mpr ⟨wi_277, List.forall_mem_cons.mpr ⟨wi_906, List.forall_mem_cons.mpr ⟨wi_883, List.forall_mem_cons.mpr ⟨wi_881, List.forall_mem_cons.mpr ⟨wi_880, List.forall_mem_cons.mpr ⟨wi_879, List.forall_mem_cons.mpr ⟨wi_878, List.forall_mem_cons.mpr ⟨wi_877, List.forall_mem_cons.mpr ⟨wi_876, List.forall_mem_cons.mpr ⟨wi_875, List.forall_mem_cons.mpr ⟨wi_874, fun _ h => absurd h List.not_mem_nil⟩⟩⟩⟩⟩⟩⟩⟩⟩⟩⟩⟩⟩⟩⟩⟩⟩⟩⟩, iX11⟩⟩
set_option maxRecDepth 20000 in
theorem wi_910 : Cond.selects RX11 yX11_tested yX11_tested ∈ lw_tbl := List.mem_append_right _ (List.mem_append_right _ (List.mem_append_right _ (List.mem_append_right _ (List.mem_append_right _ (List.mem_of_getElem? (i := 105) rfl)))))
set_option maxRecDepth 20000 in
theorem wi_911 : Cond.instanceMethod yX11_tested ∈ lw_tbl := List.mem_append_right _ (List.mem_append_right _ (List.mem_append_right _ (List.mem_append_right _ (List.mem_append_right _ (List.mem_of_getElem? (i := 104) rfl)))))
set_option maxRecDepth 20000 in
theorem wi_912 : Cond.methodLink RL 97 yX11_tested ∈ lw_tbl := List.mem_append_right _ (List.mem_append_right _ (List.mem_append_right _ (List.mem_append_right _ (List.mem_append_right _ (List.mem_of_getElem? (i := 103) rfl)))))
set_option maxRecDepth 20000 in
theorem gW_X11_tested : GoodIn lw_tbl (wsV RL 97 RX11 yX11_tested wsX11_tested) := goodIn_sub (List.forall_mem_append.mpr ⟨List.forall_mem_cons.mpr ⟨wi_912, List.forall_mem_cons.mpr ⟨wi_911, List.forall_mem_cons.mpr ⟨wi_910, List.forall_mem_cons.mpr ⟨wi_277, fun _ h => absurd h List.not_mem_nil⟩⟩⟩⟩, iw_X11_tested⟩) (by decide +kernel)
set_option maxRecDepth 20000 in
theorem wi_913 : Cond.code yX10_answer cX10_answer 2 (some .int) ∈ lw_tbl := List.mem_append_right _ (List.mem_append_right _ (List.mem_append_right _ (List.mem_append_right _ (List.mem_append_left _ (List.mem_of_getElem? (i := 27) rfl)))))
set_option maxRecDepth 20000 in
theorem wi_914 : Cond.code Lib.Math.abs.name Lib.Math.abs.code 1 (some .int) ∈ lw_tbl := List.mem_append_right _ (List.mem_append_right _ (List.mem_append_right _ (List.mem_append_right _ (List.mem_append_left _ (List.mem_of_getElem? (i := 38) rfl)))))
set_option maxRecDepth 20000 in
theorem wi_915 : Cond.static Lib.Math.abs.name ∈ lw_tbl := List.mem_append_right _ (List.mem_append_right _ (List.mem_append_right _ (List.mem_append_right _ (List.mem_append_left _ (List.mem_of_getElem? (i := 37) rfl)))))
set_option maxRecDepth 20000 in
theorem wi_916 : Cond.methodLink RX8 67 Lib.Math.abs.name ∈ lw_tbl := List.mem_append_right _ (List.mem_append_right _ (List.mem_append_right _ (List.mem_append_right _ (List.mem_append_left _ (List.mem_of_getElem? (i := 36) rfl)))))
set_option maxRecDepth 20000 in
theorem wi_917 : Cond.code yX8_settle cX8_settle 2 (some .int) ∈ lw_tbl := List.mem_append_right _ (List.mem_append_right _ (List.mem_append_right _ (List.mem_append_right _ (List.mem_append_left _ (List.mem_of_getElem? (i := 35) rfl)))))
set_option maxRecDepth 20000 in
theorem wi_918 : Cond.selects RX8 yX8_settle yX8_settle ∈ lw_tbl := List.mem_append_left _ (List.mem_of_getElem? (i := 19) rfl)
set_option maxRecDepth 20000 in
theorem wi_919 : Cond.instanceMethod yX8_settle ∈ lw_tbl := List.mem_append_right _ (List.mem_append_right _ (List.mem_append_right _ (List.mem_append_right _ (List.mem_append_left _ (List.mem_of_getElem? (i := 34) rfl)))))
set_option maxRecDepth 20000 in
theorem wi_920 : Cond.methodLink RX8 64 yX8_settle ∈ lw_tbl := List.mem_append_right _ (List.mem_append_right _ (List.mem_append_right _ (List.mem_append_right _ (List.mem_append_left _ (List.mem_of_getElem? (i := 32) rfl)))))
set_option maxRecDepth 20000 in
theorem wi_921 : Cond.code yX8_hear cX8_hear 3 (some .int) ∈ lw_tbl := List.mem_append_right _ (List.mem_append_right _ (List.mem_append_right _ (List.mem_append_right _ (List.mem_append_left _ (List.mem_of_getElem? (i := 31) rfl)))))
set_option maxRecDepth 20000 in
theorem wi_922 : Cond.selects RX8 yX8_hear yX8_hear ∈ lw_tbl := List.mem_append_right _ (List.mem_append_right _ (List.mem_append_right _ (List.mem_append_right _ (List.mem_append_left _ (List.mem_of_getElem? (i := 30) rfl)))))
set_option maxRecDepth 20000 in
theorem wi_923 : Cond.instanceMethod yX8_hear ∈ lw_tbl := List.mem_append_right _ (List.mem_append_right _ (List.mem_append_right _ (List.mem_append_right _ (List.mem_append_left _ (List.mem_of_getElem? (i := 29) rfl)))))
set_option maxRecDepth 20000 in
theorem wi_924 : Cond.methodLink RX10 229 yX8_hear ∈ lw_tbl := List.mem_append_right _ (List.mem_append_right _ (List.mem_append_right _ (List.mem_append_right _ (List.mem_append_left _ (List.mem_of_getElem? (i := 28) rfl)))))
set_option maxRecDepth 20000 in
theorem iw_X10_answer : ∀ w ∈ wsX10_answer, w ∈ lw_tbl := List.forall_mem_cons.mpr ⟨wi_913, List.forall_mem_append.mpr ⟨List.forall_mem_append.mpr ⟨List.forall_mem_append.mpr ⟨List.forall_mem_cons.mpr ⟨wi_34, List.forall_mem_cons.mpr ⟨wi_924, List.forall_mem_cons.mpr ⟨wi_923, List.forall_mem_cons.mpr ⟨wi_922, List.forall_mem_cons.mpr ⟨wi_35, List.forall_mem_cons.mpr ⟨wi_921, List.forall_mem_cons.mpr ⟨wi_97, List.forall_mem_cons.mpr ⟨wi_850, List.forall_mem_cons.mpr ⟨wi_848, List.forall_mem_cons.mpr ⟨wi_920, List.forall_mem_cons.mpr ⟨wi_919, List.forall_mem_cons.mpr ⟨wi_918, List.forall_mem_cons.mpr ⟨wi_917, List.forall_mem_cons.mpr ⟨wi_916, List.forall_mem_cons.mpr ⟨wi_915, List.forall_mem_cons.mpr ⟨wi_639, List.forall_mem_cons.mpr ⟨wi_914, List.forall_mem_cons.mpr ⟨wi_98, List.forall_mem_cons.mpr ⟨wi_849, List.forall_mem_cons.mpr ⟨wi_99, List.forall_mem_cons.mpr ⟨wi_865, List.forall_mem_cons.mpr ⟨wi_864, List.forall_mem_cons.mpr ⟨wi_863, List.forall_mem_cons.mpr ⟨wi_862, fun _ h => absurd h List.not_mem_nil⟩⟩⟩⟩⟩⟩⟩⟩⟩⟩⟩⟩⟩⟩⟩⟩⟩⟩⟩⟩⟩⟩⟩⟩, List.forall_mem_cons.mpr ⟨wi_840, List.forall_mem_cons.mpr ⟨wi_861, List.forall_mem_cons.mpr ⟨wi_860, List.forall_mem_cons.mpr ⟨wi_859, List.forall_mem_cons.mpr ⟨wi_858, List.forall_mem_cons.mpr ⟨wi_857, List.forall_mem_cons.mpr ⟨wi_839, List.forall_mem_cons.mpr ⟨wi_856, List.forall_mem_cons.mpr ⟨wi_844, List.forall_mem_cons.mpr ⟨wi_843, List.forall_mem_cons.mpr ⟨wi_842, List.forall_mem_cons.mpr ⟨wi_841, List.forall_mem_cons.mpr ⟨wi_869, List.forall_mem_cons.mpr ⟨wi_868, List.forall_mem_cons.mpr ⟨wi_867, List.forall_mem_cons.mpr ⟨wi_866, List.forall_mem_cons.mpr ⟨wi_847, List.forall_mem_cons.mpr ⟨wi_846, List.forall_mem_cons.mpr ⟨wi_845, List.forall_mem_cons.mpr ⟨wi_283, List.forall_mem_cons.mpr ⟨wi_271, List.forall_mem_cons.mpr ⟨wi_282, fun _ h => absurd h List.not_mem_nil⟩⟩⟩⟩⟩⟩⟩⟩⟩⟩⟩⟩⟩⟩⟩⟩⟩⟩⟩⟩⟩⟩⟩, iX10⟩, iX8⟩⟩
set_option maxRecDepth 20000 in
theorem wi_925 : Cond.selects RX10 yX10_answer yX10_answer ∈ lw_tbl := List.mem_append_right _ (List.mem_append_right _ (List.mem_append_right _ (List.mem_append_right _ (List.mem_append_left _ (List.mem_of_getElem? (i := 26) rfl)))))
set_option maxRecDepth 20000 in
theorem wi_926 : Cond.instanceMethod yX10_answer ∈ lw_tbl := List.mem_append_right _ (List.mem_append_right _ (List.mem_append_right _ (List.mem_append_right _ (List.mem_append_left _ (List.mem_of_getElem? (i := 25) rfl)))))
set_option maxRecDepth 20000 in
theorem wi_927 : Cond.methodLink RL 98 yX10_answer ∈ lw_tbl := List.mem_append_right _ (List.mem_append_right _ (List.mem_append_right _ (List.mem_append_right _ (List.mem_append_left _ (List.mem_of_getElem? (i := 24) rfl)))))
set_option maxRecDepth 20000 in
theorem gW_X10_answer : GoodIn lw_tbl (wsV RL 98 RX10 yX10_answer wsX10_answer) := goodIn_sub (List.forall_mem_append.mpr ⟨List.forall_mem_cons.mpr ⟨wi_927, List.forall_mem_cons.mpr ⟨wi_926, List.forall_mem_cons.mpr ⟨wi_925, List.forall_mem_cons.mpr ⟨wi_271, fun _ h => absurd h List.not_mem_nil⟩⟩⟩⟩, iw_X10_answer⟩) (by decide +kernel)
set_option maxRecDepth 20000 in
theorem wi_928 : Cond.code yX11_answer cX11_answer 5 (some .int) ∈ lw_tbl := List.mem_append_right _ (List.mem_append_right _ (List.mem_append_right _ (List.mem_append_right _ (List.mem_append_right _ (List.mem_of_getElem? (i := 114) rfl)))))
set_option maxRecDepth 20000 in
theorem iw_X11_answer : ∀ w ∈ wsX11_answer, w ∈ lw_tbl := List.forall_mem_cons.mpr ⟨wi_928, List.forall_mem_append.mpr ⟨List.forall_mem_append.mpr ⟨List.forall_mem_cons.mpr ⟨wi_893, List.forall_mem_cons.mpr ⟨wi_889, List.forall_mem_cons.mpr ⟨wi_882, List.forall_mem_cons.mpr ⟨wi_890, List.forall_mem_cons.mpr ⟨wi_888, List.forall_mem_cons.mpr ⟨wi_883, List.forall_mem_cons.mpr ⟨wi_892, List.forall_mem_cons.mpr ⟨wi_891, List.forall_mem_cons.mpr ⟨wi_909, List.forall_mem_cons.mpr ⟨wi_908, List.forall_mem_cons.mpr ⟨wi_907, List.forall_mem_cons.mpr ⟨wi_277, List.forall_mem_cons.mpr ⟨wi_906, List.forall_mem_cons.mpr ⟨wi_887, List.forall_mem_cons.mpr ⟨wi_886, List.forall_mem_cons.mpr ⟨wi_885, List.forall_mem_cons.mpr ⟨wi_884, List.forall_mem_cons.mpr ⟨wi_881, List.forall_mem_cons.mpr ⟨wi_880, List.forall_mem_cons.mpr ⟨wi_879, List.forall_mem_cons.mpr ⟨wi_878, List.forall_mem_cons.mpr ⟨wi_501, List.forall_mem_cons.mpr ⟨wi_500, List.forall_mem_cons.mpr ⟨wi_499, fun _ h => absurd h List.not_mem_nil⟩⟩⟩⟩⟩⟩⟩⟩⟩⟩⟩⟩⟩⟩⟩⟩⟩⟩⟩⟩⟩⟩⟩⟩, List.forall_mem_cons.mpr ⟨wi_877, List.forall_mem_cons.mpr ⟨wi_876, List.forall_mem_cons.mpr ⟨wi_875, List.forall_mem_cons.mpr ⟨wi_874, fun _ h => absurd h List.not_mem_nil⟩⟩⟩⟩⟩, iX11⟩⟩
set_option maxRecDepth 20000 in
theorem wi_929 : Cond.selects RX11 yX11_answer yX11_answer ∈ lw_tbl := List.mem_append_right _ (List.mem_append_right _ (List.mem_append_right _ (List.mem_append_right _ (List.mem_append_right _ (List.mem_of_getElem? (i := 113) rfl)))))
set_option maxRecDepth 20000 in
theorem wi_930 : Cond.instanceMethod yX11_answer ∈ lw_tbl := List.mem_append_right _ (List.mem_append_right _ (List.mem_append_right _ (List.mem_append_right _ (List.mem_append_right _ (List.mem_of_getElem? (i := 112) rfl)))))
set_option maxRecDepth 20000 in
theorem wi_931 : Cond.methodLink RL 102 yX11_answer ∈ lw_tbl := List.mem_append_right _ (List.mem_append_right _ (List.mem_append_right _ (List.mem_append_right _ (List.mem_append_right _ (List.mem_of_getElem? (i := 111) rfl)))))
set_option maxRecDepth 20000 in
theorem gW_X11_answer : GoodIn lw_tbl (wsV RL 102 RX11 yX11_answer wsX11_answer) := goodIn_sub (List.forall_mem_append.mpr ⟨List.forall_mem_cons.mpr ⟨wi_931, List.forall_mem_cons.mpr ⟨wi_930, List.forall_mem_cons.mpr ⟨wi_929, List.forall_mem_cons.mpr ⟨wi_277, fun _ h => absurd h List.not_mem_nil⟩⟩⟩⟩, iw_X11_answer⟩) (by decide +kernel)
set_option maxRecDepth 20000 in
theorem wi_932 : Cond.code yX10_use cX10_use 1 (some .boolean) ∈ lw_tbl := List.mem_append_right _ (List.mem_append_right _ (List.mem_append_right _ (List.mem_append_right _ (List.mem_append_left _ (List.mem_of_getElem? (i := 42) rfl)))))
set_option maxRecDepth 20000 in
theorem wi_933 : Cond.code yX8_bestSpread cX8_bestSpread 1 (some .int) ∈ lw_tbl := List.mem_append_right _ (List.mem_append_right _ (List.mem_append_right _ (List.mem_append_right _ (List.mem_append_left _ (List.mem_of_getElem? (i := 54) rfl)))))
set_option maxRecDepth 20000 in
theorem wi_934 : Cond.selects RX8 yX8_bestSpread yX8_bestSpread ∈ lw_tbl := List.mem_append_right _ (List.mem_append_right _ (List.mem_append_right _ (List.mem_append_right _ (List.mem_append_left _ (List.mem_of_getElem? (i := 53) rfl)))))
set_option maxRecDepth 20000 in
theorem wi_935 : Cond.instanceMethod yX8_bestSpread ∈ lw_tbl := List.mem_append_right _ (List.mem_append_right _ (List.mem_append_right _ (List.mem_append_right _ (List.mem_append_left _ (List.mem_of_getElem? (i := 52) rfl)))))
set_option maxRecDepth 20000 in
theorem wi_936 : Cond.methodLink RX10 239 yX8_bestSpread ∈ lw_tbl := List.mem_append_right _ (List.mem_append_right _ (List.mem_append_right _ (List.mem_append_right _ (List.mem_append_left _ (List.mem_of_getElem? (i := 51) rfl)))))
set_option maxRecDepth 20000 in
theorem wi_937 : Cond.code yX8_bestLongest cX8_bestLongest 1 (some .int) ∈ lw_tbl := List.mem_append_right _ (List.mem_append_right _ (List.mem_append_right _ (List.mem_append_right _ (List.mem_append_left _ (List.mem_of_getElem? (i := 50) rfl)))))
set_option maxRecDepth 20000 in
theorem wi_938 : Cond.selects RX8 yX8_bestLongest yX8_bestLongest ∈ lw_tbl := List.mem_append_right _ (List.mem_append_right _ (List.mem_append_right _ (List.mem_append_right _ (List.mem_append_left _ (List.mem_of_getElem? (i := 49) rfl)))))
set_option maxRecDepth 20000 in
theorem wi_939 : Cond.instanceMethod yX8_bestLongest ∈ lw_tbl := List.mem_append_right _ (List.mem_append_right _ (List.mem_append_right _ (List.mem_append_right _ (List.mem_append_left _ (List.mem_of_getElem? (i := 48) rfl)))))
set_option maxRecDepth 20000 in
theorem wi_940 : Cond.methodLink RX10 236 yX8_bestLongest ∈ lw_tbl := List.mem_append_right _ (List.mem_append_right _ (List.mem_append_right _ (List.mem_append_right _ (List.mem_append_left _ (List.mem_of_getElem? (i := 47) rfl)))))
set_option maxRecDepth 20000 in
theorem wi_941 : Cond.code yX8_haveBegun cX8_haveBegun 1 (some .boolean) ∈ lw_tbl := List.mem_append_right _ (List.mem_append_right _ (List.mem_append_right _ (List.mem_append_right _ (List.mem_append_left _ (List.mem_of_getElem? (i := 46) rfl)))))
set_option maxRecDepth 20000 in
theorem wi_942 : Cond.selects RX8 yX8_haveBegun yX8_haveBegun ∈ lw_tbl := List.mem_append_right _ (List.mem_append_right _ (List.mem_append_right _ (List.mem_append_right _ (List.mem_append_left _ (List.mem_of_getElem? (i := 45) rfl)))))
set_option maxRecDepth 20000 in
theorem wi_943 : Cond.instanceMethod yX8_haveBegun ∈ lw_tbl := List.mem_append_right _ (List.mem_append_right _ (List.mem_append_right _ (List.mem_append_right _ (List.mem_append_left _ (List.mem_of_getElem? (i := 44) rfl)))))
set_option maxRecDepth 20000 in
theorem wi_944 : Cond.methodLink RX10 233 yX8_haveBegun ∈ lw_tbl := List.mem_append_right _ (List.mem_append_right _ (List.mem_append_right _ (List.mem_append_right _ (List.mem_append_left _ (List.mem_of_getElem? (i := 43) rfl)))))
set_option maxRecDepth 20000 in
theorem iw_X10_use : ∀ w ∈ wsX10_use, w ∈ lw_tbl := List.forall_mem_cons.mpr ⟨wi_932, List.forall_mem_append.mpr ⟨List.forall_mem_append.mpr ⟨List.forall_mem_append.mpr ⟨List.forall_mem_append.mpr ⟨List.forall_mem_cons.mpr ⟨wi_34, List.forall_mem_cons.mpr ⟨wi_6, List.forall_mem_cons.mpr ⟨wi_944, List.forall_mem_cons.mpr ⟨wi_943, List.forall_mem_cons.mpr ⟨wi_942, List.forall_mem_cons.mpr ⟨wi_35, List.forall_mem_cons.mpr ⟨wi_941, List.forall_mem_cons.mpr ⟨wi_851, List.forall_mem_cons.mpr ⟨wi_940, List.forall_mem_cons.mpr ⟨wi_939, List.forall_mem_cons.mpr ⟨wi_938, List.forall_mem_cons.mpr ⟨wi_937, List.forall_mem_cons.mpr ⟨wi_840, List.forall_mem_cons.mpr ⟨wi_936, List.forall_mem_cons.mpr ⟨wi_935, List.forall_mem_cons.mpr ⟨wi_934, List.forall_mem_cons.mpr ⟨wi_933, List.forall_mem_cons.mpr ⟨wi_839, List.forall_mem_cons.mpr ⟨wi_494, List.forall_mem_cons.mpr ⟨wi_493, List.forall_mem_cons.mpr ⟨wi_492, List.forall_mem_cons.mpr ⟨wi_7, List.forall_mem_cons.mpr ⟨wi_491, List.forall_mem_cons.mpr ⟨wi_59, fun _ h => absurd h List.not_mem_nil⟩⟩⟩⟩⟩⟩⟩⟩⟩⟩⟩⟩⟩⟩⟩⟩⟩⟩⟩⟩⟩⟩⟩⟩, List.forall_mem_cons.mpr ⟨wi_58, List.forall_mem_cons.mpr ⟨wi_283, List.forall_mem_cons.mpr ⟨wi_271, List.forall_mem_cons.mpr ⟨wi_282, fun _ h => absurd h List.not_mem_nil⟩⟩⟩⟩⟩, iX10⟩, iX8⟩, iX1⟩⟩
set_option maxRecDepth 20000 in
theorem wi_945 : Cond.selects RX10 yX10_use yX10_use ∈ lw_tbl := List.mem_append_right _ (List.mem_append_right _ (List.mem_append_right _ (List.mem_append_right _ (List.mem_append_left _ (List.mem_of_getElem? (i := 41) rfl)))))
set_option maxRecDepth 20000 in
theorem wi_946 : Cond.instanceMethod yX10_use ∈ lw_tbl := List.mem_append_right _ (List.mem_append_right _ (List.mem_append_right _ (List.mem_append_right _ (List.mem_append_left _ (List.mem_of_getElem? (i := 40) rfl)))))
set_option maxRecDepth 20000 in
theorem wi_947 : Cond.methodLink RL 103 yX10_use ∈ lw_tbl := List.mem_append_right _ (List.mem_append_right _ (List.mem_append_right _ (List.mem_append_right _ (List.mem_append_left _ (List.mem_of_getElem? (i := 39) rfl)))))
set_option maxRecDepth 20000 in
theorem gW_X10_use : GoodIn lw_tbl (wsV RL 103 RX10 yX10_use wsX10_use) := goodIn_sub (List.forall_mem_append.mpr ⟨List.forall_mem_cons.mpr ⟨wi_947, List.forall_mem_cons.mpr ⟨wi_946, List.forall_mem_cons.mpr ⟨wi_945, List.forall_mem_cons.mpr ⟨wi_271, fun _ h => absurd h List.not_mem_nil⟩⟩⟩⟩, iw_X10_use⟩) (by decide +kernel)
set_option maxRecDepth 20000 in
theorem wi_948 : Cond.code yX11_use cX11_use 1 (some .boolean) ∈ lw_tbl := List.mem_append_right _ (List.mem_append_right _ (List.mem_append_right _ (List.mem_append_right _ (List.mem_append_right _ (List.mem_of_getElem? (i := 118) rfl)))))
set_option maxRecDepth 20000 in
theorem iw_X11_use : ∀ w ∈ wsX11_use, w ∈ lw_tbl := List.forall_mem_cons.mpr ⟨wi_948, List.forall_mem_append.mpr ⟨List.forall_mem_cons.mpr ⟨wi_893, List.forall_mem_cons.mpr ⟨wi_892, List.forall_mem_cons.mpr ⟨wi_197, List.forall_mem_cons.mpr ⟨wi_891, List.forall_mem_cons.mpr ⟨wi_196, fun _ h => absurd h List.not_mem_nil⟩⟩⟩⟩⟩, iX11⟩⟩
set_option maxRecDepth 20000 in
theorem wi_949 : Cond.selects RX11 yX11_use yX11_use ∈ lw_tbl := List.mem_append_right _ (List.mem_append_right _ (List.mem_append_right _ (List.mem_append_right _ (List.mem_append_right _ (List.mem_of_getElem? (i := 117) rfl)))))
set_option maxRecDepth 20000 in
theorem wi_950 : Cond.instanceMethod yX11_use ∈ lw_tbl := List.mem_append_right _ (List.mem_append_right _ (List.mem_append_right _ (List.mem_append_right _ (List.mem_append_right _ (List.mem_of_getElem? (i := 116) rfl)))))
set_option maxRecDepth 20000 in
theorem wi_951 : Cond.methodLink RL 107 yX11_use ∈ lw_tbl := List.mem_append_right _ (List.mem_append_right _ (List.mem_append_right _ (List.mem_append_right _ (List.mem_append_right _ (List.mem_of_getElem? (i := 115) rfl)))))
set_option maxRecDepth 20000 in
theorem gW_X11_use : GoodIn lw_tbl (wsV RL 107 RX11 yX11_use wsX11_use) := goodIn_sub (List.forall_mem_append.mpr ⟨List.forall_mem_cons.mpr ⟨wi_951, List.forall_mem_cons.mpr ⟨wi_950, List.forall_mem_cons.mpr ⟨wi_949, List.forall_mem_cons.mpr ⟨wi_277, fun _ h => absurd h List.not_mem_nil⟩⟩⟩⟩, iw_X11_use⟩) (by decide +kernel)
set_option maxRecDepth 20000 in
theorem mi_X0 : Cond.instantiable RX0 3 ∈ lw_tbl := wi_40
set_option maxRecDepth 20000 in
theorem mi_X1 : Cond.instantiable RX1 7 ∈ lw_tbl := wi_8
set_option maxRecDepth 20000 in
theorem mi_X2 : Cond.instantiable RX2 2 ∈ lw_tbl := wi_44
set_option maxRecDepth 20000 in
theorem mi_X3 : Cond.instantiable RX3 3 ∈ lw_tbl := wi_16
set_option maxRecDepth 20000 in
theorem mi_X4 : Cond.instantiable RX4 5 ∈ lw_tbl := wi_48
set_option maxRecDepth 20000 in
theorem mi_X5 : Cond.instantiable RX5 6 ∈ lw_tbl := wi_4
set_option maxRecDepth 20000 in
theorem mi_X6 : Cond.instantiable RX6 7 ∈ lw_tbl := wi_93
set_option maxRecDepth 20000 in
theorem mi_X7 : Cond.instantiable RX7 2 ∈ lw_tbl := wi_20
set_option maxRecDepth 20000 in
theorem mi_X8 : Cond.instantiable RX8 9 ∈ lw_tbl := wi_36
set_option maxRecDepth 20000 in
theorem mi_X9 : Cond.instantiable RX9 4 ∈ lw_tbl := wi_12
set_option maxRecDepth 20000 in
theorem wi_952 : Cond.instantiable RX10 9 ∈ lw_tbl := List.mem_append_right _ (List.mem_append_left _ (List.mem_of_getElem? (i := 16) rfl))
set_option maxRecDepth 20000 in
theorem mi_X10 : Cond.instantiable RX10 9 ∈ lw_tbl := wi_952
set_option maxRecDepth 20000 in
theorem wi_953 : Cond.instantiable RX11 44 ∈ lw_tbl := List.mem_append_right _ (List.mem_append_right _ (List.mem_append_right _ (List.mem_append_right _ (List.mem_append_left _ (List.mem_of_getElem? (i := 56) rfl)))))
set_option maxRecDepth 20000 in
theorem mi_X11 : Cond.instantiable RX11 44 ∈ lw_tbl := wi_953
set_option maxRecDepth 20000 in
theorem wi_954 : Cond.classLink RL 7 RX10 ∈ lw_tbl := List.mem_append_right _ (List.mem_append_left _ (List.mem_of_getElem? (i := 15) rfl))
set_option maxRecDepth 20000 in
theorem mL_c10 : Cond.classLink RL 7 RX10 ∈ lw_tbl := wi_954
set_option maxRecDepth 20000 in
theorem wi_955 : Cond.classLink RL 10 RX11 ∈ lw_tbl := List.mem_append_right _ (List.mem_append_right _ (List.mem_append_right _ (List.mem_append_right _ (List.mem_append_left _ (List.mem_of_getElem? (i := 55) rfl)))))
set_option maxRecDepth 20000 in
theorem mL_c11 : Cond.classLink RL 10 RX11 ∈ lw_tbl := wi_955
set_option maxRecDepth 20000 in
theorem mL_i10 : Cond.initialized RX10 ∈ lw_tbl := wi_271
set_option maxRecDepth 20000 in
theorem mL_i11 : Cond.initialized RX11 ∈ lw_tbl := wi_277
set_option maxRecDepth 20000 in
theorem wi_956 : Cond.methodLink RL 9 yX10_init ∈ lw_tbl := List.mem_append_right _ (List.mem_append_left _ (List.mem_of_getElem? (i := 17) rfl))
set_option maxRecDepth 20000 in
theorem mL_m10 : Cond.methodLink RL 9 yX10_init ∈ lw_tbl := wi_956
set_option maxRecDepth 20000 in
theorem wi_957 : Cond.methodLink RL 12 yX11_init ∈ lw_tbl := List.mem_append_right _ (List.mem_append_right _ (List.mem_append_right _ (List.mem_append_right _ (List.mem_append_left _ (List.mem_of_getElem? (i := 57) rfl)))))
set_option maxRecDepth 20000 in
theorem mL_m11 : Cond.methodLink RL 12 yX11_init ∈ lw_tbl := wi_957
set_option maxRecDepth 20000 in
theorem wi_958 : Cond.instanceMethod yX10_init ∈ lw_tbl := List.mem_append_right _ (List.mem_append_left _ (List.mem_of_getElem? (i := 18) rfl))
set_option maxRecDepth 20000 in
theorem mL_n10 : Cond.instanceMethod yX10_init ∈ lw_tbl := wi_958
set_option maxRecDepth 20000 in
theorem wi_959 : Cond.instanceMethod yX11_init ∈ lw_tbl := List.mem_append_right _ (List.mem_append_right _ (List.mem_append_right _ (List.mem_append_right _ (List.mem_append_left _ (List.mem_of_getElem? (i := 58) rfl)))))
set_option maxRecDepth 20000 in
theorem mL_n11 : Cond.instanceMethod yX11_init ∈ lw_tbl := wi_959
set_option maxRecDepth 20000 in
theorem mL_aI : Cond.arrayClass .int ∈ lw_tbl := wi_30
set_option maxRecDepth 20000 in
theorem mL_aZ : Cond.arrayClass .boolean ∈ lw_tbl := wi_100
set_option maxRecDepth 20000 in
theorem wi_960 : Cond.laysStatic RX8 "LONG_STEPS" "[I" ∈ lw_tbl := List.mem_append_right _ (List.mem_append_right _ (List.mem_append_right _ (List.mem_append_right _ (List.mem_append_left _ (List.mem_of_getElem? (i := 9) rfl)))))
set_option maxRecDepth 20000 in
theorem mL_sL : Cond.laysStatic RX8 "LONG_STEPS" "[I" ∈ lw_tbl := wi_960
set_option maxRecDepth 20000 in
theorem wi_961 : Cond.laysStatic RX8 "SPREAD_STEPS" "[I" ∈ lw_tbl := List.mem_append_right _ (List.mem_append_right _ (List.mem_append_right _ (List.mem_append_right _ (List.mem_append_left _ (List.mem_of_getElem? (i := 15) rfl)))))
set_option maxRecDepth 20000 in
theorem mL_sS : Cond.laysStatic RX8 "SPREAD_STEPS" "[I" ∈ lw_tbl := wi_961
set_option maxRecDepth 20000 in
theorem mL_i8 : Cond.initialized RX8 ∈ lw_tbl := wi_35
set_option maxRecDepth 20000 in
theorem wi_962 : Cond.methodLinkNest RX8 36 yX10_within RX10 ∈ lw_tbl := List.mem_append_right _ (List.mem_append_right _ (List.mem_append_right _ (List.mem_append_left _ (List.mem_of_getElem? (i := 235) rfl))))
set_option maxRecDepth 20000 in
theorem wi_963 : Cond.methodLinkNest RX7 19 yX10_within RX10 ∈ lw_tbl := List.mem_append_right _ (List.mem_append_right _ (List.mem_append_left _ (List.mem_of_getElem? (i := 56) rfl)))
set_option maxRecDepth 20000 in
theorem wi_964 : Cond.methodLinkNest RX3 46 yX10_isLetter RX10 ∈ lw_tbl := List.mem_append_right _ (List.mem_append_right _ (List.mem_append_left _ (List.mem_of_getElem? (i := 87) rfl)))
set_option maxRecDepth 20000 in
theorem wi_965 : Cond.methodLinkNest RX2 16 yX10_within RX10 ∈ lw_tbl := List.mem_append_right _ (List.mem_append_right _ (List.mem_append_right _ (List.mem_append_left _ (List.mem_of_getElem? (i := 186) rfl))))
set_option maxRecDepth 20000 in
theorem wi_966 : Cond.methodLinkNest RX1 42 yX10_within RX10 ∈ lw_tbl := List.mem_append_right _ (List.mem_append_right _ (List.mem_append_left _ (List.mem_of_getElem? (i := 211) rfl)))
set_option maxRecDepth 20000 in
theorem wi_967 : Cond.methodLinkNest RX1 38 yX10_isLetter RX10 ∈ lw_tbl := List.mem_append_right _ (List.mem_append_right _ (List.mem_append_left _ (List.mem_of_getElem? (i := 228) rfl)))
set_option maxRecDepth 20000 in
theorem iNC : ∀ q ∈ NwC, Cond.methodLinkNest q.1 q.2.1 q.2.2.1 q.2.2.2 ∈ lw_tbl := List.forall_mem_cons.mpr ⟨wi_967, List.forall_mem_cons.mpr ⟨wi_966, List.forall_mem_cons.mpr ⟨wi_965, List.forall_mem_cons.mpr ⟨wi_964, List.forall_mem_cons.mpr ⟨wi_963, List.forall_mem_cons.mpr ⟨wi_962, fun _ h => absurd h List.not_mem_nil⟩⟩⟩⟩⟩⟩
set_option maxRecDepth 20000 in
theorem wi_968 : Cond.methodLinkNest RX5 11 yX6_init RX10 ∈ lw_tbl := List.mem_append_right _ (List.mem_append_left _ (List.mem_of_getElem? (i := 113) rfl))
set_option maxRecDepth 20000 in
theorem wi_969 : Cond.methodLinkNest RX3 11 yX9_init RX10 ∈ lw_tbl := List.mem_append_right _ (List.mem_append_left _ (List.mem_of_getElem? (i := 45) rfl))
set_option maxRecDepth 20000 in
theorem wi_970 : Cond.methodLinkNest RX10 73 yX8_init RX10 ∈ lw_tbl := List.mem_append_right _ (List.mem_append_left _ (List.mem_of_getElem? (i := 215) rfl))
set_option maxRecDepth 20000 in
theorem wi_971 : Cond.methodLinkNest RX10 66 yX0_init RX10 ∈ lw_tbl := List.mem_append_right _ (List.mem_append_left _ (List.mem_of_getElem? (i := 199) rfl))
set_option maxRecDepth 20000 in
theorem wi_972 : Cond.methodLinkNest RX10 59 yX2_init RX10 ∈ lw_tbl := List.mem_append_right _ (List.mem_append_left _ (List.mem_of_getElem? (i := 186) rfl))
set_option maxRecDepth 20000 in
theorem wi_973 : Cond.methodLinkNest RX10 39 yX5_init RX10 ∈ lw_tbl := List.mem_append_right _ (List.mem_append_left _ (List.mem_of_getElem? (i := 107) rfl))
set_option maxRecDepth 20000 in
theorem wi_974 : Cond.methodLinkNest RX10 25 yX9_init RX10 ∈ lw_tbl := List.mem_append_right _ (List.mem_append_left _ (List.mem_of_getElem? (i := 73) rfl))
set_option maxRecDepth 20000 in
theorem wi_975 : Cond.methodLinkNest RX10 18 yX3_init RX10 ∈ lw_tbl := List.mem_append_right _ (List.mem_append_left _ (List.mem_of_getElem? (i := 39) rfl))
set_option maxRecDepth 20000 in
theorem wi_976 : Cond.methodLinkNest RX10 9 yX7_init RX10 ∈ lw_tbl := List.mem_append_right _ (List.mem_append_left _ (List.mem_of_getElem? (i := 25) rfl))
set_option maxRecDepth 20000 in
theorem iNJ : ∀ q ∈ NwJ, Cond.methodLinkNest q.1 q.2.1 q.2.2.1 q.2.2.2 ∈ lw_tbl := List.forall_mem_cons.mpr ⟨wi_976, List.forall_mem_cons.mpr ⟨wi_975, List.forall_mem_cons.mpr ⟨wi_974, List.forall_mem_cons.mpr ⟨wi_973, List.forall_mem_cons.mpr ⟨wi_972, List.forall_mem_cons.mpr ⟨wi_971, List.forall_mem_cons.mpr ⟨wi_970, List.forall_mem_cons.mpr ⟨wi_969, List.forall_mem_cons.mpr ⟨wi_968, fun _ h => absurd h List.not_mem_nil⟩⟩⟩⟩⟩⟩⟩⟩⟩
