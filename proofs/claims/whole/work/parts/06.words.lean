theorem in_0 : ∀ w ∈ u_ws RX0 TX0 3, w ∈ tb := by decide +kernel
theorem in_1 : ∀ w ∈ u_ws RX1 TX1 3, w ∈ tb := by decide +kernel
theorem in_2 : ∀ w ∈ u_ws RX2 TX2 11, w ∈ tb := by decide +kernel
theorem in_3 : ∀ w ∈ u_ws RX3 TX3 3, w ∈ tb := by decide +kernel
theorem in_4 : ∀ w ∈ u_ws RX4 TX4 8, w ∈ tb := by decide +kernel
theorem in_5 : ∀ w ∈ u_ws RX5 TX5 8, w ∈ tb := by decide +kernel
theorem in_6 : ∀ w ∈ u_ws RX6 TX6 7, w ∈ tb := by decide +kernel
theorem in_7 : ∀ w ∈ u_ws RX7 TX7 6, w ∈ tb := by decide +kernel
theorem in_8 : ∀ w ∈ u_ws RX8 TX8 10, w ∈ tb := by decide +kernel
theorem in_9 : ∀ w ∈ u_ws RX9 TX9 27, w ∈ tb := by decide +kernel
theorem kw_0 : Cond.selects RX6 yX6_skipBlanks yX6_skipBlanks ∈ tb := tb_in (i := 0) (by decide +kernel) rfl
theorem kw_1 : Cond.selects RX6 yX6_readClause yX6_readClause ∈ tb := tb_in (i := 1) (by decide +kernel) rfl
theorem kw_2 : Cond.selects RX6 yX6_noteFault yX6_noteFault ∈ tb := tb_in (i := 2) (by decide +kernel) rfl
theorem kw_3 : Cond.selects RX6 yX6_readRule yX6_readRule ∈ tb := tb_in (i := 3) (by decide +kernel) rfl
theorem kw_4 : Cond.selects RX6 yX6_readWord yX6_readWord ∈ tb := tb_in (i := 4) (by decide +kernel) rfl
theorem kw_5 : Cond.selects RX6 yX6_readNumber yX6_readNumber ∈ tb := tb_in (i := 5) (by decide +kernel) rfl
theorem kw_6 : Cond.selects RX6 yX6_readEnd yX6_readEnd ∈ tb := tb_in (i := 6) (by decide +kernel) rfl
theorem kw_7 : Cond.selects RX6 yX6_readRoom yX6_readRoom ∈ tb := tb_in (i := 7) (by decide +kernel) rfl
theorem kw_8 : Cond.selects RX6 yX6_readDoor yX6_readDoor ∈ tb := tb_in (i := 8) (by decide +kernel) rfl
theorem kw_9 : Cond.selects RX6 yX6_readPetition yX6_readPetition ∈ tb := tb_in (i := 9) (by decide +kernel) rfl
theorem kw_10 : Cond.selects RX8 yX8_isNoRoom yX8_isNoRoom ∈ tb := tb_in (i := 10) (by decide +kernel) rfl
theorem kw_11 : Cond.selects RX8 yX8_isNoPetition yX8_isNoPetition ∈ tb := tb_in (i := 11) (by decide +kernel) rfl
theorem kw_12 : Cond.selects RX8 yX8_refusalOfHours yX8_refusalOfHours ∈ tb := tb_in (i := 12) (by decide +kernel) rfl
theorem kw_13 : Cond.selects RX5 yX5_hearAll yX5_hearAll ∈ tb := tb_in (i := 13) (by decide +kernel) rfl
theorem kw_14 : Cond.selects RX8 yX8_changeByDraws yX8_changeByDraws ∈ tb := tb_in (i := 14) (by decide +kernel) rfl
theorem kw_15 : Cond.selects RX8 yX8_draw yX8_draw ∈ tb := tb_in (i := 15) (by decide +kernel) rfl
theorem kw_16 : Cond.selects RX8 yX8_hoursUntil yX8_hoursUntil ∈ tb := tb_in (i := 16) (by decide +kernel) rfl
theorem kw_17 : Cond.selects RX8 yX8_doorsToPass yX8_doorsToPass ∈ tb := tb_in (i := 17) (by decide +kernel) rfl
theorem kw_18 : Cond.selects RX8 yX8_spreadNoise yX8_spreadNoise ∈ tb := tb_in (i := 18) (by decide +kernel) rfl
theorem kw_19 : Cond.selects RX8 yX8_worthToHear yX8_worthToHear ∈ tb := tb_in (i := 19) (by decide +kernel) rfl
theorem kw_20 : Cond.selects RX7 yX7_isFitting yX7_isFitting ∈ tb := tb_in (i := 20) (by decide +kernel) rfl
theorem kw_21 : Cond.selects RX8 yX8_greatestPart yX8_greatestPart ∈ tb := tb_in (i := 21) (by decide +kernel) rfl
theorem kw_22 : Cond.selects RX8 yX8_isOfRooms yX8_isOfRooms ∈ tb := tb_in (i := 22) (by decide +kernel) rfl
theorem kw_23 : Cond.selects RX8 yX8_goesSo yX8_goesSo ∈ tb := tb_in (i := 23) (by decide +kernel) rfl
theorem kw_24 : Cond.selects RX9 yX9_here yX9_here ∈ tb := tb_in (i := 24) (by decide +kernel) rfl
theorem kw_25 : Cond.selects RX9 yX9_readClause yX9_readClause ∈ tb := tb_in (i := 25) (by decide +kernel) rfl
theorem kw_26 : Cond.selects RX9 yX9_readRule yX9_readRule ∈ tb := tb_in (i := 26) (by decide +kernel) rfl
theorem kw_27 : Cond.selects RX9 yX9_faults yX9_faults ∈ tb := tb_in (i := 27) (by decide +kernel) rfl
theorem kw_28 : Cond.selects RX9 yX9_number yX9_number ∈ tb := tb_in (i := 28) (by decide +kernel) rfl
theorem kw_29 : Cond.selects RX9 yX9_ends yX9_ends ∈ tb := tb_in (i := 29) (by decide +kernel) rfl
theorem kw_30 : Cond.selects RX9 yX9_readRoom yX9_readRoom ∈ tb := tb_in (i := 30) (by decide +kernel) rfl
theorem kw_31 : Cond.selects RX9 yX9_readDoor yX9_readDoor ∈ tb := tb_in (i := 31) (by decide +kernel) rfl
theorem kw_32 : Cond.selects RX9 yX9_readPetition yX9_readPetition ∈ tb := tb_in (i := 32) (by decide +kernel) rfl
theorem kw_33 : Cond.selects RX9 yX9_becomes yX9_becomes ∈ tb := tb_in (i := 33) (by decide +kernel) rfl
theorem kw_34 : Cond.selects RX9 yX9_at yX9_at ∈ tb := tb_in (i := 34) (by decide +kernel) rfl
theorem kw_35 : Cond.selects RX9 yX9_isRoom yX9_isRoom ∈ tb := tb_in (i := 35) (by decide +kernel) rfl
theorem kw_36 : Cond.selects RX9 yX9_counts yX9_counts ∈ tb := tb_in (i := 36) (by decide +kernel) rfl
theorem kw_37 : Cond.selects RX9 yX9_isWorn yX9_isWorn ∈ tb := tb_in (i := 37) (by decide +kernel) rfl
theorem kw_38 : Cond.selects RX9 yX9_beside yX9_beside ∈ tb := tb_in (i := 38) (by decide +kernel) rfl
theorem kw_39 : Cond.selects RX9 yX9_doorBetween yX9_doorBetween ∈ tb := tb_in (i := 39) (by decide +kernel) rfl
theorem kw_40 : Cond.selects RX9 yX9_isPetition yX9_isPetition ∈ tb := tb_in (i := 40) (by decide +kernel) rfl
theorem kw_41 : Cond.selects RX9 yX9_wayFrom yX9_wayFrom ∈ tb := tb_in (i := 41) (by decide +kernel) rfl
theorem kw_42 : Cond.selects RX9 yX9_wayTo yX9_wayTo ∈ tb := tb_in (i := 42) (by decide +kernel) rfl
theorem kw_43 : Cond.selects RX9 yX9_notes yX9_notes ∈ tb := tb_in (i := 43) (by decide +kernel) rfl
theorem kw_44 : Cond.selects RX9 yX9_goesOn yX9_goesOn ∈ tb := tb_in (i := 44) (by decide +kernel) rfl
theorem kw_45 : Cond.selects RX9 yX9_goesBy yX9_goesBy ∈ tb := tb_in (i := 45) (by decide +kernel) rfl
theorem kw_46 : Cond.selects RX9 yX9_hears yX9_hears ∈ tb := tb_in (i := 46) (by decide +kernel) rfl
theorem kw_47 : Cond.selects RX9 yX9_goesNext yX9_goesNext ∈ tb := tb_in (i := 47) (by decide +kernel) rfl
theorem kw_48 : Cond.selects RX9 yX9_noises yX9_noises ∈ tb := tb_in (i := 48) (by decide +kernel) rfl
theorem kw_49 : Cond.selects RX9 yX9_goesTo yX9_goesTo ∈ tb := tb_in (i := 49) (by decide +kernel) rfl
theorem kw_50 : Cond.selects RX9 yX9_remembers yX9_remembers ∈ tb := tb_in (i := 50) (by decide +kernel) rfl
theorem kw_51 : Cond.selects RX9 yX9_turns yX9_turns ∈ tb := tb_in (i := 51) (by decide +kernel) rfl
theorem kw_52 : Cond.selects RX9 yX9_isDoor yX9_isDoor ∈ tb := tb_in (i := 52) (by decide +kernel) rfl
theorem kw_53 : Cond.selects RX9 yX9_stirs yX9_stirs ∈ tb := tb_in (i := 53) (by decide +kernel) rfl
theorem kw_54 : Cond.selects RX9 yX9_drawn yX9_drawn ∈ tb := tb_in (i := 54) (by decide +kernel) rfl
theorem kw_55 : Cond.selects RX9 yX9_asides yX9_asides ∈ tb := tb_in (i := 55) (by decide +kernel) rfl
theorem kw_56 : Cond.selects RX9 yX9_backs yX9_backs ∈ tb := tb_in (i := 56) (by decide +kernel) rfl
theorem kw_57 : Cond.selects RX9 yX9_whenIn yX9_whenIn ∈ tb := tb_in (i := 57) (by decide +kernel) rfl
theorem kw_58 : Cond.selects RX9 yX9_reached yX9_reached ∈ tb := tb_in (i := 58) (by decide +kernel) rfl
theorem kw_59 : Cond.selects RX9 yX9_enters yX9_enters ∈ tb := tb_in (i := 59) (by decide +kernel) rfl
theorem kw_60 : Cond.selects RX9 yX9_isFit yX9_isFit ∈ tb := tb_in (i := 60) (by decide +kernel) rfl
theorem kw_61 : Cond.selects RX9 yX9_goesSo yX9_goesSo ∈ tb := tb_in (i := 61) (by decide +kernel) rfl
theorem kw_63 : Cond.initialized RX8 ∈ tb := tb_in (i := 63) (by decide +kernel) rfl
theorem kw_64 : Cond.initialized RX6 ∈ tb := tb_in (i := 64) (by decide +kernel) rfl
theorem kw_65 : Cond.initialized RX2 ∈ tb := tb_in (i := 65) (by decide +kernel) rfl
theorem kw_66 : Cond.initialized RX5 ∈ tb := tb_in (i := 66) (by decide +kernel) rfl
theorem kw_67 : Cond.initialized RX4 ∈ tb := tb_in (i := 67) (by decide +kernel) rfl
theorem kw_68 : Cond.initialized RX7 ∈ tb := tb_in (i := 68) (by decide +kernel) rfl
theorem kw_69 : Cond.initialized RX3 ∈ tb := tb_in (i := 69) (by decide +kernel) rfl
theorem kw_70 : Cond.initialized RX0 ∈ tb := tb_in (i := 70) (by decide +kernel) rfl
theorem kw_71 : Cond.initialized RX1 ∈ tb := tb_in (i := 71) (by decide +kernel) rfl
theorem kw_72 : Cond.initialized RX9 ∈ tb := tb_in (i := 72) (by decide +kernel) rfl
theorem kw_73 : Cond.initialized RJ7 ∈ tb := tb_in (i := 73) (by decide +kernel) rfl
theorem kw_74 : Cond.initialized RJ10 ∈ tb := tb_in (i := 74) (by decide +kernel) rfl
theorem kw_75 : Cond.initialized RJ9 ∈ tb := tb_in (i := 75) (by decide +kernel) rfl
theorem kw_76 : Cond.initialized RJ6 ∈ tb := tb_in (i := 76) (by decide +kernel) rfl
theorem kw_77 : Cond.initialized RJ13 ∈ tb := tb_in (i := 77) (by decide +kernel) rfl
theorem kw_83 : Cond.methodLink RX8 1 objectInit ∈ tb := tb_in (i := 83) (by decide +kernel) rfl
theorem kw_84 : Cond.instanceMethod objectInit ∈ tb := tb_in (i := 84) (by decide +kernel) rfl
theorem kw_85 : Cond.code objectInit ⟨#[0xb1]⟩ 1 none ∈ tb := tb_in (i := 85) (by decide +kernel) rfl
theorem kw_86 : Cond.classLink RX8 7 RX6 ∈ tb := tb_in (i := 86) (by decide +kernel) rfl
theorem kw_87 : Cond.instantiable RX6 7 ∈ tb := tb_in (i := 87) (by decide +kernel) rfl
theorem kw_88 : Cond.methodLinkNest RX8 9 yX6_init "SlipperDuke" ∈ tb := tb_in (i := 88) (by decide +kernel) rfl
theorem kw_89 : Cond.instanceMethod yX6_init ∈ tb := tb_in (i := 89) (by decide +kernel) rfl
theorem kw_90 : Cond.code yX6_init cX6_init 1 none ∈ tb := tb_in (i := 90) (by decide +kernel) rfl
theorem kw_91 : Cond.methodLink RX6 3 objectInit ∈ tb := tb_in (i := 91) (by decide +kernel) rfl
theorem kw_92 : Cond.classLink RX6 15 RX2 ∈ tb := tb_in (i := 92) (by decide +kernel) rfl
theorem kw_93 : Cond.instantiable RX2 11 ∈ tb := tb_in (i := 93) (by decide +kernel) rfl
theorem kw_94 : Cond.methodLinkNest RX6 17 yX2_init "SlipperDuke" ∈ tb := tb_in (i := 94) (by decide +kernel) rfl
theorem kw_95 : Cond.instanceMethod yX2_init ∈ tb := tb_in (i := 95) (by decide +kernel) rfl
theorem kw_96 : Cond.code yX2_init cX2_init 1 none ∈ tb := tb_in (i := 96) (by decide +kernel) rfl
theorem kw_97 : Cond.methodLink RX2 3 objectInit ∈ tb := tb_in (i := 97) (by decide +kernel) rfl
theorem kw_98 : Cond.fieldLink RX2 24 "SlipperDuke$Palace" "stands" "Z" ∈ tb := tb_in (i := 98) (by decide +kernel) rfl
theorem kw_99 : Cond.fieldLink RX6 44 "SlipperDuke$Palace" "stands" "Z" ∈ tb := tb_in (i := 99) (by decide +kernel) rfl
theorem kw_100 : Cond.fieldLink RX8 110 "SlipperDuke$Palace" "stands" "Z" ∈ tb := tb_in (i := 100) (by decide +kernel) rfl
theorem kw_101 : Cond.fieldLink RX4 15 "SlipperDuke$Palace" "rule" "I" ∈ tb := tb_in (i := 101) (by decide +kernel) rfl
theorem kw_102 : Cond.fieldLink RX2 28 "SlipperDuke$Palace" "rule" "I" ∈ tb := tb_in (i := 102) (by decide +kernel) rfl
theorem kw_103 : Cond.fieldLink RX6 75 "SlipperDuke$Palace" "rule" "I" ∈ tb := tb_in (i := 103) (by decide +kernel) rfl
theorem kw_104 : Cond.fieldLink RX2 32 "SlipperDuke$Palace" "rooms" "I" ∈ tb := tb_in (i := 104) (by decide +kernel) rfl
theorem kw_105 : Cond.fieldLink RX8 98 "SlipperDuke$Palace" "rooms" "I" ∈ tb := tb_in (i := 105) (by decide +kernel) rfl
theorem kw_106 : Cond.fieldLink RX6 78 "SlipperDuke$Palace" "rooms" "I" ∈ tb := tb_in (i := 106) (by decide +kernel) rfl
theorem kw_107 : Cond.fieldLink RX2 35 "SlipperDuke$Palace" "doors" "I" ∈ tb := tb_in (i := 107) (by decide +kernel) rfl
theorem kw_108 : Cond.fieldLink RX4 48 "SlipperDuke$Palace" "doors" "I" ∈ tb := tb_in (i := 108) (by decide +kernel) rfl
theorem kw_109 : Cond.fieldLink RX8 104 "SlipperDuke$Palace" "doors" "I" ∈ tb := tb_in (i := 109) (by decide +kernel) rfl
theorem kw_110 : Cond.fieldLink RX6 84 "SlipperDuke$Palace" "doors" "I" ∈ tb := tb_in (i := 110) (by decide +kernel) rfl
theorem kw_111 : Cond.fieldLink RX2 38 "SlipperDuke$Palace" "petitions" "I" ∈ tb := tb_in (i := 111) (by decide +kernel) rfl
theorem kw_112 : Cond.fieldLink RX5 100 "SlipperDuke$Palace" "petitions" "I" ∈ tb := tb_in (i := 112) (by decide +kernel) rfl
theorem kw_113 : Cond.fieldLink RX8 107 "SlipperDuke$Palace" "petitions" "I" ∈ tb := tb_in (i := 113) (by decide +kernel) rfl
theorem kw_114 : Cond.fieldLink RX6 97 "SlipperDuke$Palace" "petitions" "I" ∈ tb := tb_in (i := 114) (by decide +kernel) rfl
theorem kw_115 : Cond.fieldLink RX4 28 "SlipperDuke$Palace" "noises" "I" ∈ tb := tb_in (i := 115) (by decide +kernel) rfl
theorem kw_116 : Cond.fieldLink RX2 41 "SlipperDuke$Palace" "noises" "I" ∈ tb := tb_in (i := 116) (by decide +kernel) rfl
theorem kw_117 : Cond.fieldLink RX2 44 "SlipperDuke$Palace" "carpetSet" "I" ∈ tb := tb_in (i := 117) (by decide +kernel) rfl
theorem kw_118 : Cond.fieldLink RX4 35 "SlipperDuke$Palace" "carpetSet" "I" ∈ tb := tb_in (i := 118) (by decide +kernel) rfl
theorem kw_119 : Cond.fieldLink RX2 9 "SlipperDuke$Palace" "doorFrom" "[I" ∈ tb := tb_in (i := 119) (by decide +kernel) rfl
theorem kw_120 : Cond.fieldLink RX4 51 "SlipperDuke$Palace" "doorFrom" "[I" ∈ tb := tb_in (i := 120) (by decide +kernel) rfl
theorem kw_121 : Cond.fieldLink RX8 206 "SlipperDuke$Palace" "doorFrom" "[I" ∈ tb := tb_in (i := 121) (by decide +kernel) rfl
theorem kw_122 : Cond.fieldLink RX2 15 "SlipperDuke$Palace" "doorTo" "[I" ∈ tb := tb_in (i := 122) (by decide +kernel) rfl
theorem kw_123 : Cond.fieldLink RX4 54 "SlipperDuke$Palace" "doorTo" "[I" ∈ tb := tb_in (i := 123) (by decide +kernel) rfl
theorem kw_124 : Cond.fieldLink RX8 209 "SlipperDuke$Palace" "doorTo" "[I" ∈ tb := tb_in (i := 124) (by decide +kernel) rfl
theorem kw_125 : Cond.fieldLink RX2 18 "SlipperDuke$Palace" "chalkedFirst" "[I" ∈ tb := tb_in (i := 125) (by decide +kernel) rfl
theorem kw_126 : Cond.fieldLink RX5 58 "SlipperDuke$Palace" "chalkedFirst" "[I" ∈ tb := tb_in (i := 126) (by decide +kernel) rfl
theorem kw_127 : Cond.fieldLink RX2 21 "SlipperDuke$Palace" "worth" "[I" ∈ tb := tb_in (i := 127) (by decide +kernel) rfl
theorem kw_128 : Cond.fieldLink RX5 112 "SlipperDuke$Palace" "worth" "[I" ∈ tb := tb_in (i := 128) (by decide +kernel) rfl
theorem kw_129 : Cond.fieldLink RX8 182 "SlipperDuke$Palace" "worth" "[I" ∈ tb := tb_in (i := 129) (by decide +kernel) rfl
theorem kw_153 : Cond.arrayClass .int ∈ tb := tb_in (i := 153) (by decide +kernel) rfl
theorem kw_154 : Cond.fieldLink RX6 26 "SlipperDuke$Text" "length" "I" ∈ tb := tb_in (i := 154) (by decide +kernel) rfl
theorem kw_155 : Cond.fieldLink RX8 66 "SlipperDuke$Text" "length" "I" ∈ tb := tb_in (i := 155) (by decide +kernel) rfl
theorem kw_156 : Cond.fieldLink RX6 32 "SlipperDuke$Text" "faultNumber" "I" ∈ tb := tb_in (i := 156) (by decide +kernel) rfl
theorem kw_157 : Cond.fieldLink RX8 78 "SlipperDuke$Text" "faultNumber" "I" ∈ tb := tb_in (i := 157) (by decide +kernel) rfl
theorem kw_158 : Cond.fieldLink RX6 9 "SlipperDuke$Text" "faultAt" "I" ∈ tb := tb_in (i := 158) (by decide +kernel) rfl
theorem kw_159 : Cond.fieldLink RX8 101 "SlipperDuke$Text" "faultAt" "I" ∈ tb := tb_in (i := 159) (by decide +kernel) rfl
theorem kw_160 : Cond.fieldLink RX6 18 "SlipperDuke$Text" "draft" "LSlipperDuke$Palace;" ∈ tb := tb_in (i := 160) (by decide +kernel) rfl
theorem kw_161 : Cond.fieldLink RX8 81 "SlipperDuke$Text" "draft" "LSlipperDuke$Palace;" ∈ tb := tb_in (i := 161) (by decide +kernel) rfl
theorem kw_162 : Cond.fieldLink RX6 22 "SlipperDuke$Text" "letters" "[I" ∈ tb := tb_in (i := 162) (by decide +kernel) rfl
theorem kw_163 : Cond.fieldLink RX6 29 "SlipperDuke$Text" "next" "I" ∈ tb := tb_in (i := 163) (by decide +kernel) rfl
theorem kw_164 : Cond.fieldLink RX6 91 "SlipperDuke$Text" "numberAt" "I" ∈ tb := tb_in (i := 164) (by decide +kernel) rfl
theorem kw_180 : Cond.classLink RX8 16 RX2 ∈ tb := tb_in (i := 180) (by decide +kernel) rfl
theorem kw_181 : Cond.methodLinkNest RX8 18 yX2_init "SlipperDuke" ∈ tb := tb_in (i := 181) (by decide +kernel) rfl
theorem kw_182 : Cond.classLink RX8 23 RX5 ∈ tb := tb_in (i := 182) (by decide +kernel) rfl
theorem kw_183 : Cond.instantiable RX5 8 ∈ tb := tb_in (i := 183) (by decide +kernel) rfl
theorem kw_184 : Cond.methodLinkNest RX8 25 yX5_init "SlipperDuke" ∈ tb := tb_in (i := 184) (by decide +kernel) rfl
theorem kw_185 : Cond.instanceMethod yX5_init ∈ tb := tb_in (i := 185) (by decide +kernel) rfl
theorem kw_186 : Cond.code yX5_init cX5_init 1 none ∈ tb := tb_in (i := 186) (by decide +kernel) rfl
theorem kw_187 : Cond.methodLink RX5 3 objectInit ∈ tb := tb_in (i := 187) (by decide +kernel) rfl
theorem kw_188 : Cond.classLink RX5 9 RX4 ∈ tb := tb_in (i := 188) (by decide +kernel) rfl
theorem kw_189 : Cond.instantiable RX4 8 ∈ tb := tb_in (i := 189) (by decide +kernel) rfl
theorem kw_190 : Cond.methodLinkNest RX5 11 yX4_init "SlipperDuke" ∈ tb := tb_in (i := 190) (by decide +kernel) rfl
theorem kw_191 : Cond.instanceMethod yX4_init ∈ tb := tb_in (i := 191) (by decide +kernel) rfl
theorem kw_192 : Cond.code yX4_init cX4_init 1 none ∈ tb := tb_in (i := 192) (by decide +kernel) rfl
theorem kw_193 : Cond.methodLink RX4 3 objectInit ∈ tb := tb_in (i := 193) (by decide +kernel) rfl
theorem kw_194 : Cond.fieldLink RX4 21 "SlipperDuke$Slippers" "rule" "I" ∈ tb := tb_in (i := 194) (by decide +kernel) rfl
theorem kw_195 : Cond.fieldLink RX5 85 "SlipperDuke$Slippers" "rule" "I" ∈ tb := tb_in (i := 195) (by decide +kernel) rfl
theorem kw_196 : Cond.fieldLink RX8 116 "SlipperDuke$Slippers" "rule" "I" ∈ tb := tb_in (i := 196) (by decide +kernel) rfl
theorem kw_197 : Cond.fieldLink RX4 22 "SlipperDuke$Slippers" "at" "I" ∈ tb := tb_in (i := 197) (by decide +kernel) rfl
theorem kw_198 : Cond.fieldLink RX5 76 "SlipperDuke$Slippers" "at" "I" ∈ tb := tb_in (i := 198) (by decide +kernel) rfl
theorem kw_199 : Cond.fieldLink RX7 37 "SlipperDuke$Slippers" "at" "I" ∈ tb := tb_in (i := 199) (by decide +kernel) rfl
theorem kw_200 : Cond.fieldLink RX8 122 "SlipperDuke$Slippers" "at" "I" ∈ tb := tb_in (i := 200) (by decide +kernel) rfl
theorem kw_201 : Cond.fieldLink RX4 25 "SlipperDuke$Slippers" "wear" "I" ∈ tb := tb_in (i := 201) (by decide +kernel) rfl
theorem kw_202 : Cond.fieldLink RX8 125 "SlipperDuke$Slippers" "wear" "I" ∈ tb := tb_in (i := 202) (by decide +kernel) rfl
theorem kw_203 : Cond.fieldLink RX4 31 "SlipperDuke$Slippers" "noises" "I" ∈ tb := tb_in (i := 203) (by decide +kernel) rfl
theorem kw_204 : Cond.fieldLink RX7 54 "SlipperDuke$Slippers" "noises" "I" ∈ tb := tb_in (i := 204) (by decide +kernel) rfl
theorem kw_205 : Cond.fieldLink RX8 156 "SlipperDuke$Slippers" "noises" "I" ∈ tb := tb_in (i := 205) (by decide +kernel) rfl
theorem kw_206 : Cond.fieldLink RX4 32 "SlipperDuke$Slippers" "often" "I" ∈ tb := tb_in (i := 206) (by decide +kernel) rfl
theorem kw_207 : Cond.fieldLink RX7 56 "SlipperDuke$Slippers" "often" "I" ∈ tb := tb_in (i := 207) (by decide +kernel) rfl
theorem kw_208 : Cond.fieldLink RX4 38 "SlipperDuke$Slippers" "carpetSet" "I" ∈ tb := tb_in (i := 208) (by decide +kernel) rfl
theorem kw_209 : Cond.fieldLink RX7 46 "SlipperDuke$Slippers" "carpetSet" "I" ∈ tb := tb_in (i := 209) (by decide +kernel) rfl
theorem kw_210 : Cond.fieldLink RX8 128 "SlipperDuke$Slippers" "carpetSet" "I" ∈ tb := tb_in (i := 210) (by decide +kernel) rfl
theorem kw_211 : Cond.fieldLink RX4 39 "SlipperDuke$Slippers" "nailSet" "I" ∈ tb := tb_in (i := 211) (by decide +kernel) rfl
theorem kw_212 : Cond.fieldLink RX8 131 "SlipperDuke$Slippers" "nailSet" "I" ∈ tb := tb_in (i := 212) (by decide +kernel) rfl
theorem kw_213 : Cond.fieldLink RX4 9 "SlipperDuke$Slippers" "beside" "[I" ∈ tb := tb_in (i := 213) (by decide +kernel) rfl
theorem kw_214 : Cond.fieldLink RX8 170 "SlipperDuke$Slippers" "beside" "[I" ∈ tb := tb_in (i := 214) (by decide +kernel) rfl
theorem kw_232 : Cond.classLink RX5 18 RX7 ∈ tb := tb_in (i := 232) (by decide +kernel) rfl
theorem kw_233 : Cond.instantiable RX7 6 ∈ tb := tb_in (i := 233) (by decide +kernel) rfl
theorem kw_234 : Cond.methodLinkNest RX5 20 yX7_init "SlipperDuke" ∈ tb := tb_in (i := 234) (by decide +kernel) rfl
theorem kw_235 : Cond.instanceMethod yX7_init ∈ tb := tb_in (i := 235) (by decide +kernel) rfl
theorem kw_236 : Cond.code yX7_init cX7_init 1 none ∈ tb := tb_in (i := 236) (by decide +kernel) rfl
theorem kw_237 : Cond.methodLink RX7 3 objectInit ∈ tb := tb_in (i := 237) (by decide +kernel) rfl
theorem kw_238 : Cond.fieldLink RX7 24 "SlipperDuke$Way" "count" "I" ∈ tb := tb_in (i := 238) (by decide +kernel) rfl
theorem kw_239 : Cond.fieldLink RX8 147 "SlipperDuke$Way" "count" "I" ∈ tb := tb_in (i := 239) (by decide +kernel) rfl
theorem kw_240 : Cond.fieldLink RX7 28 "SlipperDuke$Way" "free" "I" ∈ tb := tb_in (i := 240) (by decide +kernel) rfl
theorem kw_241 : Cond.fieldLink RX7 9 "SlipperDuke$Way" "fromTo" "[I" ∈ tb := tb_in (i := 241) (by decide +kernel) rfl
theorem kw_242 : Cond.fieldLink RX7 15 "SlipperDuke$Way" "sets" "[I" ∈ tb := tb_in (i := 242) (by decide +kernel) rfl
theorem kw_243 : Cond.fieldLink RX7 18 "SlipperDuke$Way" "noises" "[I" ∈ tb := tb_in (i := 243) (by decide +kernel) rfl
theorem kw_244 : Cond.fieldLink RX7 21 "SlipperDuke$Way" "often" "[I" ∈ tb := tb_in (i := 244) (by decide +kernel) rfl
theorem kw_258 : Cond.fieldLink RX5 12 "SlipperDuke$State" "slippers" "LSlipperDuke$Slippers;" ∈ tb := tb_in (i := 258) (by decide +kernel) rfl
theorem kw_259 : Cond.fieldLink RX8 113 "SlipperDuke$State" "slippers" "LSlipperDuke$Slippers;" ∈ tb := tb_in (i := 259) (by decide +kernel) rfl
theorem kw_260 : Cond.fieldLink RX5 21 "SlipperDuke$State" "way" "LSlipperDuke$Way;" ∈ tb := tb_in (i := 260) (by decide +kernel) rfl
theorem kw_261 : Cond.fieldLink RX8 143 "SlipperDuke$State" "way" "LSlipperDuke$Way;" ∈ tb := tb_in (i := 261) (by decide +kernel) rfl
theorem kw_262 : Cond.fieldLink RX5 39 "SlipperDuke$State" "hours" "I" ∈ tb := tb_in (i := 262) (by decide +kernel) rfl
theorem kw_263 : Cond.fieldLink RX8 119 "SlipperDuke$State" "hours" "I" ∈ tb := tb_in (i := 263) (by decide +kernel) rfl
theorem kw_264 : Cond.fieldLink RX5 43 "SlipperDuke$State" "brickSet" "I" ∈ tb := tb_in (i := 264) (by decide +kernel) rfl
theorem kw_265 : Cond.fieldLink RX8 134 "SlipperDuke$State" "brickSet" "I" ∈ tb := tb_in (i := 265) (by decide +kernel) rfl
theorem kw_266 : Cond.fieldLink RX5 46 "SlipperDuke$State" "heardSet" "I" ∈ tb := tb_in (i := 266) (by decide +kernel) rfl
theorem kw_267 : Cond.fieldLink RX8 137 "SlipperDuke$State" "heardSet" "I" ∈ tb := tb_in (i := 267) (by decide +kernel) rfl
theorem kw_268 : Cond.fieldLink RX5 49 "SlipperDuke$State" "worthHeard" "I" ∈ tb := tb_in (i := 268) (by decide +kernel) rfl
theorem kw_269 : Cond.fieldLink RX8 140 "SlipperDuke$State" "worthHeard" "I" ∈ tb := tb_in (i := 269) (by decide +kernel) rfl
theorem kw_270 : Cond.fieldLink RX5 25 "SlipperDuke$State" "governedOften" "[I" ∈ tb := tb_in (i := 270) (by decide +kernel) rfl
theorem kw_271 : Cond.fieldLink RX8 163 "SlipperDuke$State" "governedOften" "[I" ∈ tb := tb_in (i := 271) (by decide +kernel) rfl
theorem kw_272 : Cond.fieldLink RX5 29 "SlipperDuke$State" "chalkedIn" "[I" ∈ tb := tb_in (i := 272) (by decide +kernel) rfl
theorem kw_273 : Cond.fieldLink RX8 179 "SlipperDuke$State" "chalkedIn" "[I" ∈ tb := tb_in (i := 273) (by decide +kernel) rfl
theorem kw_291 : Cond.classLink RX8 30 RX3 ∈ tb := tb_in (i := 291) (by decide +kernel) rfl
theorem kw_292 : Cond.instantiable RX3 3 ∈ tb := tb_in (i := 292) (by decide +kernel) rfl
theorem kw_293 : Cond.methodLink RX8 32 yX3_init ∈ tb := tb_in (i := 293) (by decide +kernel) rfl
theorem kw_294 : Cond.instanceMethod yX3_init ∈ tb := tb_in (i := 294) (by decide +kernel) rfl
theorem kw_295 : Cond.code yX3_init cX3_init 2 none ∈ tb := tb_in (i := 295) (by decide +kernel) rfl
theorem kw_296 : Cond.methodLink RX3 3 objectInit ∈ tb := tb_in (i := 296) (by decide +kernel) rfl
theorem kw_297 : Cond.classLink RX3 9 RX5 ∈ tb := tb_in (i := 297) (by decide +kernel) rfl
theorem kw_298 : Cond.arrayOver (.object "SlipperDuke$State") ∈ tb := tb_in (i := 298) (by decide +kernel) rfl
theorem kw_299 : Cond.methodLinkNest RX3 17 yX5_init "SlipperDuke" ∈ tb := tb_in (i := 299) (by decide +kernel) rfl
theorem kw_300 : Cond.fieldLink RX3 18 "SlipperDuke$Past" "count" "I" ∈ tb := tb_in (i := 300) (by decide +kernel) rfl
theorem kw_301 : Cond.fieldLink RX8 150 "SlipperDuke$Past" "count" "I" ∈ tb := tb_in (i := 301) (by decide +kernel) rfl
theorem kw_302 : Cond.fieldLink RX3 22 "SlipperDuke$Past" "free" "I" ∈ tb := tb_in (i := 302) (by decide +kernel) rfl
theorem kw_303 : Cond.fieldLink RX3 11 "SlipperDuke$Past" "states" "[LSlipperDuke$State;" ∈ tb := tb_in (i := 303) (by decide +kernel) rfl
theorem kw_311 : Cond.classLink RX8 37 RX1 ∈ tb := tb_in (i := 311) (by decide +kernel) rfl
theorem kw_312 : Cond.arrayOver (.object "SlipperDuke$Image") ∈ tb := tb_in (i := 312) (by decide +kernel) rfl
theorem kw_313 : Cond.classLink RX8 43 RX0 ∈ tb := tb_in (i := 313) (by decide +kernel) rfl
theorem kw_314 : Cond.instantiable RX0 3 ∈ tb := tb_in (i := 314) (by decide +kernel) rfl
theorem kw_315 : Cond.methodLinkNest RX8 45 yX0_init "SlipperDuke" ∈ tb := tb_in (i := 315) (by decide +kernel) rfl
theorem kw_316 : Cond.instanceMethod yX0_init ∈ tb := tb_in (i := 316) (by decide +kernel) rfl
theorem kw_317 : Cond.code yX0_init cX0_init 1 none ∈ tb := tb_in (i := 317) (by decide +kernel) rfl
theorem kw_318 : Cond.methodLink RX0 3 objectInit ∈ tb := tb_in (i := 318) (by decide +kernel) rfl
theorem kw_319 : Cond.fieldLink RX0 18 "SlipperDuke$Book" "count" "I" ∈ tb := tb_in (i := 319) (by decide +kernel) rfl
theorem kw_320 : Cond.fieldLink RX8 91 "SlipperDuke$Book" "count" "I" ∈ tb := tb_in (i := 320) (by decide +kernel) rfl
theorem kw_321 : Cond.fieldLink RX0 9 "SlipperDuke$Book" "roomsWritten" "[I" ∈ tb := tb_in (i := 321) (by decide +kernel) rfl
theorem kw_322 : Cond.fieldLink RX0 15 "SlipperDuke$Book" "oftenWritten" "[I" ∈ tb := tb_in (i := 322) (by decide +kernel) rfl
theorem kw_330 : Cond.classLink RX8 50 RX4 ∈ tb := tb_in (i := 330) (by decide +kernel) rfl
theorem kw_331 : Cond.methodLinkNest RX8 52 yX4_init "SlipperDuke" ∈ tb := tb_in (i := 331) (by decide +kernel) rfl
theorem kw_332 : Cond.instantiable RX1 3 ∈ tb := tb_in (i := 332) (by decide +kernel) rfl
theorem kw_333 : Cond.methodLinkNest RX8 64 yX1_init "SlipperDuke" ∈ tb := tb_in (i := 333) (by decide +kernel) rfl
theorem kw_334 : Cond.instanceMethod yX1_init ∈ tb := tb_in (i := 334) (by decide +kernel) rfl
theorem kw_335 : Cond.code yX1_init cX1_init 1 none ∈ tb := tb_in (i := 335) (by decide +kernel) rfl
theorem kw_336 : Cond.methodLink RX1 1 objectInit ∈ tb := tb_in (i := 336) (by decide +kernel) rfl
theorem kw_337 : Cond.classLink RX1 7 RX5 ∈ tb := tb_in (i := 337) (by decide +kernel) rfl
theorem kw_338 : Cond.methodLinkNest RX1 9 yX5_init "SlipperDuke" ∈ tb := tb_in (i := 338) (by decide +kernel) rfl
theorem kw_339 : Cond.fieldLink RX8 94 "SlipperDuke$Image" "kept" "Z" ∈ tb := tb_in (i := 339) (by decide +kernel) rfl
theorem kw_340 : Cond.fieldLink RX8 296 "SlipperDuke$Image" "seedKept" "I" ∈ tb := tb_in (i := 340) (by decide +kernel) rfl
theorem kw_341 : Cond.fieldLink RX1 10 "SlipperDuke$Image" "state" "LSlipperDuke$State;" ∈ tb := tb_in (i := 341) (by decide +kernel) rfl
theorem kw_342 : Cond.fieldLink RX8 299 "SlipperDuke$Image" "state" "LSlipperDuke$State;" ∈ tb := tb_in (i := 342) (by decide +kernel) rfl
theorem kw_350 : Cond.fieldLink RX8 10 "SlipperDuke" "text" "LSlipperDuke$Text;" ∈ tb := tb_in (i := 350) (by decide +kernel) rfl
theorem kw_351 : Cond.fieldLink RX8 19 "SlipperDuke" "plan" "LSlipperDuke$Palace;" ∈ tb := tb_in (i := 351) (by decide +kernel) rfl
theorem kw_352 : Cond.fieldLink RX8 26 "SlipperDuke" "now" "LSlipperDuke$State;" ∈ tb := tb_in (i := 352) (by decide +kernel) rfl
theorem kw_353 : Cond.fieldLink RX8 33 "SlipperDuke" "past" "LSlipperDuke$Past;" ∈ tb := tb_in (i := 353) (by decide +kernel) rfl
theorem kw_354 : Cond.fieldLink RX8 39 "SlipperDuke" "images" "[LSlipperDuke$Image;" ∈ tb := tb_in (i := 354) (by decide +kernel) rfl
theorem kw_355 : Cond.fieldLink RX8 46 "SlipperDuke" "book" "LSlipperDuke$Book;" ∈ tb := tb_in (i := 355) (by decide +kernel) rfl
theorem kw_356 : Cond.fieldLink RX8 293 "SlipperDuke" "theSeed" "I" ∈ tb := tb_in (i := 356) (by decide +kernel) rfl
theorem kw_357 : Cond.fieldLink RX8 53 "SlipperDuke" "tried" "LSlipperDuke$Slippers;" ∈ tb := tb_in (i := 357) (by decide +kernel) rfl
theorem kw_358 : Cond.fieldLink RX8 57 "SlipperDuke" "pair" "LSlipperDuke$Slippers;" ∈ tb := tb_in (i := 358) (by decide +kernel) rfl
theorem kw_359 : Cond.fieldLink RX8 60 "SlipperDuke" "scratch" "[I" ∈ tb := tb_in (i := 359) (by decide +kernel) rfl
theorem kw_385 : Cond.constant RX8 65 (-1000000002) ∈ tb := tb_in (i := 385) (by decide +kernel) rfl
theorem kw_386 : Cond.constant RX8 70 (-1000000004) ∈ tb := tb_in (i := 386) (by decide +kernel) rfl
theorem kw_387 : Cond.methodLink RX8 71 yX6_add ∈ tb := tb_in (i := 387) (by decide +kernel) rfl
theorem kw_388 : Cond.instanceMethod yX6_add ∈ tb := tb_in (i := 388) (by decide +kernel) rfl
theorem kw_389 : Cond.selects RX6 yX6_add yX6_add ∈ tb := tb_in (i := 389) (by decide +kernel) rfl
theorem kw_390 : Cond.code yX6_add cX6_add 2 none ∈ tb := tb_in (i := 390) (by decide +kernel) rfl
theorem kw_395 : Cond.methodLink RX8 75 yX6_read ∈ tb := tb_in (i := 395) (by decide +kernel) rfl
theorem kw_396 : Cond.instanceMethod yX6_read ∈ tb := tb_in (i := 396) (by decide +kernel) rfl
theorem kw_397 : Cond.selects RX6 yX6_read yX6_read ∈ tb := tb_in (i := 397) (by decide +kernel) rfl
theorem kw_398 : Cond.code yX6_read cX6_read 2 none ∈ tb := tb_in (i := 398) (by decide +kernel) rfl
theorem kw_399 : Cond.methodLink RX6 35 yX2_clear ∈ tb := tb_in (i := 399) (by decide +kernel) rfl
theorem kw_400 : Cond.instanceMethod yX2_clear ∈ tb := tb_in (i := 400) (by decide +kernel) rfl
theorem kw_401 : Cond.selects RX2 yX2_clear yX2_clear ∈ tb := tb_in (i := 401) (by decide +kernel) rfl
theorem kw_402 : Cond.code yX2_clear cX2_clear 1 none ∈ tb := tb_in (i := 402) (by decide +kernel) rfl
theorem kw_403 : Cond.methodLink RX6 38 yX6_skipBlanks ∈ tb := tb_in (i := 403) (by decide +kernel) rfl
theorem kw_405 : Cond.instanceMethod yX6_skipBlanks ∈ tb := tb_in (i := 405) (by decide +kernel) rfl
theorem kw_406 : Cond.code yX6_skipBlanks cX6_skipBlanks 1 none ∈ tb := tb_in (i := 406) (by decide +kernel) rfl
theorem kw_407 : Cond.methodLink RX6 41 yX6_readClause ∈ tb := tb_in (i := 407) (by decide +kernel) rfl
theorem kw_409 : Cond.instanceMethod yX6_readClause ∈ tb := tb_in (i := 409) (by decide +kernel) rfl
theorem kw_410 : Cond.code yX6_readClause cX6_readClause 2 none ∈ tb := tb_in (i := 410) (by decide +kernel) rfl
theorem kw_411 : Cond.methodLink RX6 48 yX6_noteFault ∈ tb := tb_in (i := 411) (by decide +kernel) rfl
theorem kw_413 : Cond.instanceMethod yX6_noteFault ∈ tb := tb_in (i := 413) (by decide +kernel) rfl
theorem kw_414 : Cond.code yX6_noteFault cX6_noteFault 3 none ∈ tb := tb_in (i := 414) (by decide +kernel) rfl
theorem kw_415 : Cond.methodLink RX6 52 yX6_readRule ∈ tb := tb_in (i := 415) (by decide +kernel) rfl
theorem kw_417 : Cond.instanceMethod yX6_readRule ∈ tb := tb_in (i := 417) (by decide +kernel) rfl
theorem kw_418 : Cond.code yX6_readRule cX6_readRule 2 none ∈ tb := tb_in (i := 418) (by decide +kernel) rfl
theorem kw_419 : Cond.methodLink RX6 64 yX6_readWord ∈ tb := tb_in (i := 419) (by decide +kernel) rfl
theorem kw_421 : Cond.instanceMethod yX6_readWord ∈ tb := tb_in (i := 421) (by decide +kernel) rfl
theorem kw_422 : Cond.code yX6_readWord cX6_readWord 2 none ∈ tb := tb_in (i := 422) (by decide +kernel) rfl
theorem kw_423 : Cond.methodLink RX6 68 yX6_readNumber ∈ tb := tb_in (i := 423) (by decide +kernel) rfl
theorem kw_425 : Cond.instanceMethod yX6_readNumber ∈ tb := tb_in (i := 425) (by decide +kernel) rfl
theorem kw_426 : Cond.code yX6_readNumber cX6_readNumber 4 (some .int) ∈ tb := tb_in (i := 426) (by decide +kernel) rfl
theorem kw_427 : Cond.methodLink RX6 72 yX6_readEnd ∈ tb := tb_in (i := 427) (by decide +kernel) rfl
theorem kw_429 : Cond.instanceMethod yX6_readEnd ∈ tb := tb_in (i := 429) (by decide +kernel) rfl
theorem kw_430 : Cond.code yX6_readEnd cX6_readEnd 1 none ∈ tb := tb_in (i := 430) (by decide +kernel) rfl
theorem kw_431 : Cond.methodLink RX6 55 yX6_readRoom ∈ tb := tb_in (i := 431) (by decide +kernel) rfl
theorem kw_433 : Cond.instanceMethod yX6_readRoom ∈ tb := tb_in (i := 433) (by decide +kernel) rfl
theorem kw_434 : Cond.code yX6_readRoom cX6_readRoom 3 none ∈ tb := tb_in (i := 434) (by decide +kernel) rfl
theorem kw_435 : Cond.methodLink RX6 81 yX2_addRoom ∈ tb := tb_in (i := 435) (by decide +kernel) rfl
theorem kw_436 : Cond.instanceMethod yX2_addRoom ∈ tb := tb_in (i := 436) (by decide +kernel) rfl
theorem kw_437 : Cond.selects RX2 yX2_addRoom yX2_addRoom ∈ tb := tb_in (i := 437) (by decide +kernel) rfl
theorem kw_438 : Cond.code yX2_addRoom cX2_addRoom 3 none ∈ tb := tb_in (i := 438) (by decide +kernel) rfl
theorem kw_439 : Cond.methodLinkNest RX2 47 yX8_withPacked "SlipperDuke" ∈ tb := tb_in (i := 439) (by decide +kernel) rfl
theorem kw_440 : Cond.static yX8_withPacked ∈ tb := tb_in (i := 440) (by decide +kernel) rfl
theorem kw_441 : Cond.code yX8_withPacked cX8_withPacked 3 (some .int) ∈ tb := tb_in (i := 441) (by decide +kernel) rfl
theorem kw_442 : Cond.methodLinkNest RX2 51 yX8_withBit "SlipperDuke" ∈ tb := tb_in (i := 442) (by decide +kernel) rfl
theorem kw_443 : Cond.static yX8_withBit ∈ tb := tb_in (i := 443) (by decide +kernel) rfl
theorem kw_444 : Cond.code yX8_withBit cX8_withBit 3 (some .int) ∈ tb := tb_in (i := 444) (by decide +kernel) rfl
theorem kw_445 : Cond.methodLink RX6 58 yX6_readDoor ∈ tb := tb_in (i := 445) (by decide +kernel) rfl
theorem kw_447 : Cond.instanceMethod yX6_readDoor ∈ tb := tb_in (i := 447) (by decide +kernel) rfl
theorem kw_448 : Cond.code yX6_readDoor cX6_readDoor 3 none ∈ tb := tb_in (i := 448) (by decide +kernel) rfl
theorem kw_449 : Cond.methodLink RX6 87 yX2_hasDoor ∈ tb := tb_in (i := 449) (by decide +kernel) rfl
theorem kw_450 : Cond.instanceMethod yX2_hasDoor ∈ tb := tb_in (i := 450) (by decide +kernel) rfl
theorem kw_451 : Cond.selects RX2 yX2_hasDoor yX2_hasDoor ∈ tb := tb_in (i := 451) (by decide +kernel) rfl
theorem kw_452 : Cond.code yX2_hasDoor cX2_hasDoor 4 (some .boolean) ∈ tb := tb_in (i := 452) (by decide +kernel) rfl
theorem kw_453 : Cond.methodLink RX6 94 yX2_addDoor ∈ tb := tb_in (i := 453) (by decide +kernel) rfl
theorem kw_454 : Cond.instanceMethod yX2_addDoor ∈ tb := tb_in (i := 454) (by decide +kernel) rfl
theorem kw_455 : Cond.selects RX2 yX2_addDoor yX2_addDoor ∈ tb := tb_in (i := 455) (by decide +kernel) rfl
theorem kw_456 : Cond.code yX2_addDoor cX2_addDoor 3 none ∈ tb := tb_in (i := 456) (by decide +kernel) rfl
theorem kw_457 : Cond.methodLink RX6 61 yX6_readPetition ∈ tb := tb_in (i := 457) (by decide +kernel) rfl
theorem kw_459 : Cond.instanceMethod yX6_readPetition ∈ tb := tb_in (i := 459) (by decide +kernel) rfl
theorem kw_460 : Cond.code yX6_readPetition cX6_readPetition 3 none ∈ tb := tb_in (i := 460) (by decide +kernel) rfl
theorem kw_461 : Cond.methodLink RX6 100 yX2_addPetition ∈ tb := tb_in (i := 461) (by decide +kernel) rfl
theorem kw_462 : Cond.instanceMethod yX2_addPetition ∈ tb := tb_in (i := 462) (by decide +kernel) rfl
theorem kw_463 : Cond.selects RX2 yX2_addPetition yX2_addPetition ∈ tb := tb_in (i := 463) (by decide +kernel) rfl
theorem kw_464 : Cond.code yX2_addPetition cX2_addPetition 3 none ∈ tb := tb_in (i := 464) (by decide +kernel) rfl
theorem kw_465 : Cond.methodLink RX8 84 yX5_begin ∈ tb := tb_in (i := 465) (by decide +kernel) rfl
theorem kw_466 : Cond.instanceMethod yX5_begin ∈ tb := tb_in (i := 466) (by decide +kernel) rfl
theorem kw_467 : Cond.selects RX5 yX5_begin yX5_begin ∈ tb := tb_in (i := 467) (by decide +kernel) rfl
theorem kw_468 : Cond.code yX5_begin cX5_begin 2 none ∈ tb := tb_in (i := 468) (by decide +kernel) rfl
theorem kw_469 : Cond.methodLink RX5 32 yX4_begin ∈ tb := tb_in (i := 469) (by decide +kernel) rfl
theorem kw_470 : Cond.instanceMethod yX4_begin ∈ tb := tb_in (i := 470) (by decide +kernel) rfl
theorem kw_471 : Cond.selects RX4 yX4_begin yX4_begin ∈ tb := tb_in (i := 471) (by decide +kernel) rfl
theorem kw_472 : Cond.code yX4_begin cX4_begin 3 none ∈ tb := tb_in (i := 472) (by decide +kernel) rfl
theorem kw_473 : Cond.methodLink RX4 42 yJ7_fill_53178 ∈ tb := tb_in (i := 473) (by decide +kernel) rfl
theorem kw_474 : Cond.static yJ7_fill_53178 ∈ tb := tb_in (i := 474) (by decide +kernel) rfl
theorem kw_475 : Cond.code yJ7_fill_53178 cJ7_fill_53178 4 none ∈ tb := tb_in (i := 475) (by decide +kernel) rfl
theorem kw_476 : Cond.methodLink RX4 57 yX4_openDoor ∈ tb := tb_in (i := 476) (by decide +kernel) rfl
theorem kw_477 : Cond.instanceMethod yX4_openDoor ∈ tb := tb_in (i := 477) (by decide +kernel) rfl
theorem kw_478 : Cond.selects RX4 yX4_openDoor yX4_openDoor ∈ tb := tb_in (i := 478) (by decide +kernel) rfl
theorem kw_479 : Cond.code yX4_openDoor cX4_openDoor 4 none ∈ tb := tb_in (i := 479) (by decide +kernel) rfl
theorem kw_480 : Cond.methodLinkNest RX4 67 yX8_withBit "SlipperDuke" ∈ tb := tb_in (i := 480) (by decide +kernel) rfl
theorem kw_481 : Cond.methodLink RX5 36 yX7_clear ∈ tb := tb_in (i := 481) (by decide +kernel) rfl
theorem kw_482 : Cond.instanceMethod yX7_clear ∈ tb := tb_in (i := 482) (by decide +kernel) rfl
theorem kw_483 : Cond.selects RX7 yX7_clear yX7_clear ∈ tb := tb_in (i := 483) (by decide +kernel) rfl
theorem kw_484 : Cond.code yX7_clear cX7_clear 1 none ∈ tb := tb_in (i := 484) (by decide +kernel) rfl
theorem kw_485 : Cond.methodLink RX5 52 yJ7_fill_53178 ∈ tb := tb_in (i := 485) (by decide +kernel) rfl
theorem kw_486 : Cond.methodLink RX5 63 arraycopyName ∈ tb := tb_in (i := 486) (by decide +kernel) rfl
theorem kw_487 : Cond.static arraycopyName ∈ tb := tb_in (i := 487) (by decide +kernel) rfl
theorem kw_488 : Cond.native arraycopyName ∈ tb := tb_in (i := 488) (by decide +kernel) rfl
theorem kw_489 : Cond.methodLink RX8 88 yX3_forget ∈ tb := tb_in (i := 489) (by decide +kernel) rfl
theorem kw_490 : Cond.instanceMethod yX3_forget ∈ tb := tb_in (i := 490) (by decide +kernel) rfl
theorem kw_491 : Cond.selects RX3 yX3_forget yX3_forget ∈ tb := tb_in (i := 491) (by decide +kernel) rfl
theorem kw_492 : Cond.code yX3_forget cX3_forget 1 none ∈ tb := tb_in (i := 492) (by decide +kernel) rfl
theorem kw_505 : Cond.methodLink RX8 151 yX8_isNoRoom ∈ tb := tb_in (i := 505) (by decide +kernel) rfl
theorem kw_507 : Cond.instanceMethod yX8_isNoRoom ∈ tb := tb_in (i := 507) (by decide +kernel) rfl
theorem kw_508 : Cond.code yX8_isNoRoom cX8_isNoRoom 2 (some .boolean) ∈ tb := tb_in (i := 508) (by decide +kernel) rfl
theorem kw_509 : Cond.constant RX8 155 (-1000000001) ∈ tb := tb_in (i := 509) (by decide +kernel) rfl
theorem kw_510 : Cond.methodLink RX8 159 yX8_packedAt ∈ tb := tb_in (i := 510) (by decide +kernel) rfl
theorem kw_511 : Cond.static yX8_packedAt ∈ tb := tb_in (i := 511) (by decide +kernel) rfl
theorem kw_512 : Cond.code yX8_packedAt cX8_packedAt 2 (some .int) ∈ tb := tb_in (i := 512) (by decide +kernel) rfl
theorem kw_513 : Cond.methodLink RX8 166 yX4_pullNow ∈ tb := tb_in (i := 513) (by decide +kernel) rfl
theorem kw_514 : Cond.instanceMethod yX4_pullNow ∈ tb := tb_in (i := 514) (by decide +kernel) rfl
theorem kw_515 : Cond.selects RX4 yX4_pullNow yX4_pullNow ∈ tb := tb_in (i := 515) (by decide +kernel) rfl
theorem kw_516 : Cond.code yX4_pullNow cX4_pullNow 2 (some .int) ∈ tb := tb_in (i := 516) (by decide +kernel) rfl
theorem kw_517 : Cond.methodLink RX4 71 yX4_isWorn ∈ tb := tb_in (i := 517) (by decide +kernel) rfl
theorem kw_518 : Cond.instanceMethod yX4_isWorn ∈ tb := tb_in (i := 518) (by decide +kernel) rfl
theorem kw_519 : Cond.selects RX4 yX4_isWorn yX4_isWorn ∈ tb := tb_in (i := 519) (by decide +kernel) rfl
theorem kw_520 : Cond.code yX4_isWorn cX4_isWorn 1 (some .boolean) ∈ tb := tb_in (i := 520) (by decide +kernel) rfl
theorem kw_521 : Cond.methodLink RX4 75 yX4_pullOf ∈ tb := tb_in (i := 521) (by decide +kernel) rfl
theorem kw_522 : Cond.static yX4_pullOf ∈ tb := tb_in (i := 522) (by decide +kernel) rfl
theorem kw_523 : Cond.code yX4_pullOf cX4_pullOf 9 (some .int) ∈ tb := tb_in (i := 523) (by decide +kernel) rfl
theorem kw_524 : Cond.methodLinkNest RX4 110 yX8_quietOf "SlipperDuke" ∈ tb := tb_in (i := 524) (by decide +kernel) rfl
theorem kw_525 : Cond.static yX8_quietOf ∈ tb := tb_in (i := 525) (by decide +kernel) rfl
theorem kw_526 : Cond.code yX8_quietOf cX8_quietOf 1 (some .int) ∈ tb := tb_in (i := 526) (by decide +kernel) rfl
theorem kw_527 : Cond.methodLinkNest RX4 86 yX8_packedAt "SlipperDuke" ∈ tb := tb_in (i := 527) (by decide +kernel) rfl
theorem kw_528 : Cond.methodLinkNest RX4 113 yX8_bit "SlipperDuke" ∈ tb := tb_in (i := 528) (by decide +kernel) rfl
theorem kw_529 : Cond.static yX8_bit ∈ tb := tb_in (i := 529) (by decide +kernel) rfl
theorem kw_530 : Cond.code yX8_bit cX8_bit 2 (some .int) ∈ tb := tb_in (i := 530) (by decide +kernel) rfl
theorem kw_531 : Cond.methodLinkNest RX4 116 yX8_softOf "SlipperDuke" ∈ tb := tb_in (i := 531) (by decide +kernel) rfl
theorem kw_532 : Cond.static yX8_softOf ∈ tb := tb_in (i := 532) (by decide +kernel) rfl
theorem kw_533 : Cond.code yX8_softOf cX8_softOf 1 (some .int) ∈ tb := tb_in (i := 533) (by decide +kernel) rfl
theorem kw_534 : Cond.methodLinkNest RX4 119 yX8_newOf "SlipperDuke" ∈ tb := tb_in (i := 534) (by decide +kernel) rfl
theorem kw_535 : Cond.static yX8_newOf ∈ tb := tb_in (i := 535) (by decide +kernel) rfl
theorem kw_536 : Cond.code yX8_newOf cX8_newOf 1 (some .int) ∈ tb := tb_in (i := 536) (by decide +kernel) rfl
theorem kw_537 : Cond.methodLink RX8 173 yX8_bit ∈ tb := tb_in (i := 537) (by decide +kernel) rfl
theorem kw_542 : Cond.methodLink RX8 176 yX8_isNoPetition ∈ tb := tb_in (i := 542) (by decide +kernel) rfl
theorem kw_544 : Cond.instanceMethod yX8_isNoPetition ∈ tb := tb_in (i := 544) (by decide +kernel) rfl
theorem kw_545 : Cond.code yX8_isNoPetition cX8_isNoPetition 2 (some .boolean) ∈ tb := tb_in (i := 545) (by decide +kernel) rfl
theorem kw_550 : Cond.methodLink RX8 185 yX7_fromAndTo ∈ tb := tb_in (i := 550) (by decide +kernel) rfl
theorem kw_551 : Cond.instanceMethod yX7_fromAndTo ∈ tb := tb_in (i := 551) (by decide +kernel) rfl
theorem kw_552 : Cond.selects RX7 yX7_fromAndTo yX7_fromAndTo ∈ tb := tb_in (i := 552) (by decide +kernel) rfl
theorem kw_553 : Cond.code yX7_fromAndTo cX7_fromAndTo 2 (some .int) ∈ tb := tb_in (i := 553) (by decide +kernel) rfl
theorem kw_558 : Cond.methodLink RX8 188 yX8_refusalOfHours ∈ tb := tb_in (i := 558) (by decide +kernel) rfl
theorem kw_560 : Cond.instanceMethod yX8_refusalOfHours ∈ tb := tb_in (i := 560) (by decide +kernel) rfl
theorem kw_561 : Cond.code yX8_refusalOfHours cX8_refusalOfHours 2 (some .int) ∈ tb := tb_in (i := 561) (by decide +kernel) rfl
theorem kw_562 : Cond.constant RX8 216 (-1000000003) ∈ tb := tb_in (i := 562) (by decide +kernel) rfl
theorem kw_563 : Cond.methodLink RX8 191 yX3_remember ∈ tb := tb_in (i := 563) (by decide +kernel) rfl
theorem kw_564 : Cond.instanceMethod yX3_remember ∈ tb := tb_in (i := 564) (by decide +kernel) rfl
theorem kw_565 : Cond.selects RX3 yX3_remember yX3_remember ∈ tb := tb_in (i := 565) (by decide +kernel) rfl
theorem kw_566 : Cond.code yX3_remember cX3_remember 2 none ∈ tb := tb_in (i := 566) (by decide +kernel) rfl
theorem kw_567 : Cond.methodLink RX3 25 yX5_copyFrom ∈ tb := tb_in (i := 567) (by decide +kernel) rfl
theorem kw_568 : Cond.instanceMethod yX5_copyFrom ∈ tb := tb_in (i := 568) (by decide +kernel) rfl
theorem kw_569 : Cond.selects RX5 yX5_copyFrom yX5_copyFrom ∈ tb := tb_in (i := 569) (by decide +kernel) rfl
theorem kw_570 : Cond.code yX5_copyFrom cX5_copyFrom 2 none ∈ tb := tb_in (i := 570) (by decide +kernel) rfl
theorem kw_571 : Cond.methodLink RX5 69 yX4_copyFrom ∈ tb := tb_in (i := 571) (by decide +kernel) rfl
theorem kw_572 : Cond.instanceMethod yX4_copyFrom ∈ tb := tb_in (i := 572) (by decide +kernel) rfl
theorem kw_573 : Cond.selects RX4 yX4_copyFrom yX4_copyFrom ∈ tb := tb_in (i := 573) (by decide +kernel) rfl
theorem kw_574 : Cond.code yX4_copyFrom cX4_copyFrom 2 none ∈ tb := tb_in (i := 574) (by decide +kernel) rfl
theorem kw_575 : Cond.methodLink RX4 61 arraycopyName ∈ tb := tb_in (i := 575) (by decide +kernel) rfl
theorem kw_576 : Cond.methodLink RX5 73 yX7_copyFrom ∈ tb := tb_in (i := 576) (by decide +kernel) rfl
theorem kw_577 : Cond.instanceMethod yX7_copyFrom ∈ tb := tb_in (i := 577) (by decide +kernel) rfl
theorem kw_578 : Cond.selects RX7 yX7_copyFrom yX7_copyFrom ∈ tb := tb_in (i := 578) (by decide +kernel) rfl
theorem kw_579 : Cond.code yX7_copyFrom cX7_copyFrom 2 none ∈ tb := tb_in (i := 579) (by decide +kernel) rfl
theorem kw_580 : Cond.methodLink RX7 31 arraycopyName ∈ tb := tb_in (i := 580) (by decide +kernel) rfl
theorem kw_581 : Cond.methodLink RX3 29 Lib.Math.min.name ∈ tb := tb_in (i := 581) (by decide +kernel) rfl
theorem kw_582 : Cond.static Lib.Math.min.name ∈ tb := tb_in (i := 582) (by decide +kernel) rfl
theorem kw_583 : Cond.code Lib.Math.min.name Lib.Math.min.code 2 (some .int) ∈ tb := tb_in (i := 583) (by decide +kernel) rfl
theorem kw_584 : Cond.methodLink RX8 195 yX5_passHour ∈ tb := tb_in (i := 584) (by decide +kernel) rfl
theorem kw_585 : Cond.instanceMethod yX5_passHour ∈ tb := tb_in (i := 585) (by decide +kernel) rfl
theorem kw_586 : Cond.selects RX5 yX5_passHour yX5_passHour ∈ tb := tb_in (i := 586) (by decide +kernel) rfl
theorem kw_587 : Cond.code yX5_passHour cX5_passHour 3 none ∈ tb := tb_in (i := 587) (by decide +kernel) rfl
theorem kw_588 : Cond.methodLink RX5 79 yX4_feelGoverned ∈ tb := tb_in (i := 588) (by decide +kernel) rfl
theorem kw_589 : Cond.instanceMethod yX4_feelGoverned ∈ tb := tb_in (i := 589) (by decide +kernel) rfl
theorem kw_590 : Cond.selects RX4 yX4_feelGoverned yX4_feelGoverned ∈ tb := tb_in (i := 590) (by decide +kernel) rfl
theorem kw_591 : Cond.code yX4_feelGoverned cX4_feelGoverned 2 none ∈ tb := tb_in (i := 591) (by decide +kernel) rfl
theorem kw_592 : Cond.methodLinkNest RX4 90 yX8_withPacked "SlipperDuke" ∈ tb := tb_in (i := 592) (by decide +kernel) rfl
theorem kw_593 : Cond.methodLink RX5 82 yX5_hearAll ∈ tb := tb_in (i := 593) (by decide +kernel) rfl
theorem kw_595 : Cond.instanceMethod yX5_hearAll ∈ tb := tb_in (i := 595) (by decide +kernel) rfl
theorem kw_596 : Cond.code yX5_hearAll cX5_hearAll 3 none ∈ tb := tb_in (i := 596) (by decide +kernel) rfl
theorem kw_597 : Cond.methodLinkNest RX5 103 yX8_bit "SlipperDuke" ∈ tb := tb_in (i := 597) (by decide +kernel) rfl
theorem kw_598 : Cond.methodLinkNest RX5 107 yX8_withBit "SlipperDuke" ∈ tb := tb_in (i := 598) (by decide +kernel) rfl
theorem kw_599 : Cond.constant RX5 111 (999999) ∈ tb := tb_in (i := 599) (by decide +kernel) rfl
theorem kw_600 : Cond.methodLink RX5 115 Lib.Math.min.name ∈ tb := tb_in (i := 600) (by decide +kernel) rfl
theorem kw_601 : Cond.methodLink RX5 88 yX4_nextBy ∈ tb := tb_in (i := 601) (by decide +kernel) rfl
theorem kw_602 : Cond.instanceMethod yX4_nextBy ∈ tb := tb_in (i := 602) (by decide +kernel) rfl
theorem kw_603 : Cond.selects RX4 yX4_nextBy yX4_nextBy ∈ tb := tb_in (i := 603) (by decide +kernel) rfl
theorem kw_604 : Cond.code yX4_nextBy cX4_nextBy 3 (some .int) ∈ tb := tb_in (i := 604) (by decide +kernel) rfl
theorem kw_605 : Cond.methodLink RX4 79 yX4_roomsAhead ∈ tb := tb_in (i := 605) (by decide +kernel) rfl
theorem kw_606 : Cond.instanceMethod yX4_roomsAhead ∈ tb := tb_in (i := 606) (by decide +kernel) rfl
theorem kw_607 : Cond.selects RX4 yX4_roomsAhead yX4_roomsAhead ∈ tb := tb_in (i := 607) (by decide +kernel) rfl
theorem kw_608 : Cond.code yX4_roomsAhead cX4_roomsAhead 1 (some .int) ∈ tb := tb_in (i := 608) (by decide +kernel) rfl
theorem kw_609 : Cond.methodLink RX4 83 yX4_liked ∈ tb := tb_in (i := 609) (by decide +kernel) rfl
theorem kw_610 : Cond.static yX4_liked ∈ tb := tb_in (i := 610) (by decide +kernel) rfl
theorem kw_611 : Cond.code yX4_liked cX4_liked 10 (some .int) ∈ tb := tb_in (i := 611) (by decide +kernel) rfl
theorem kw_612 : Cond.methodLink RX5 92 yX7_add ∈ tb := tb_in (i := 612) (by decide +kernel) rfl
theorem kw_613 : Cond.instanceMethod yX7_add ∈ tb := tb_in (i := 613) (by decide +kernel) rfl
theorem kw_614 : Cond.selects RX7 yX7_add yX7_add ∈ tb := tb_in (i := 614) (by decide +kernel) rfl
theorem kw_615 : Cond.code yX7_add cX7_add 3 none ∈ tb := tb_in (i := 615) (by decide +kernel) rfl
theorem kw_616 : Cond.methodLink RX7 42 yX4_roomsAhead ∈ tb := tb_in (i := 616) (by decide +kernel) rfl
theorem kw_617 : Cond.methodLink RX7 49 yX4_isWorn ∈ tb := tb_in (i := 617) (by decide +kernel) rfl
theorem kw_618 : Cond.constant RX7 53 (65536) ∈ tb := tb_in (i := 618) (by decide +kernel) rfl
theorem kw_619 : Cond.methodLink RX7 58 Lib.Math.min.name ∈ tb := tb_in (i := 619) (by decide +kernel) rfl
theorem kw_620 : Cond.methodLink RX5 96 yX4_stepTo ∈ tb := tb_in (i := 620) (by decide +kernel) rfl
theorem kw_621 : Cond.instanceMethod yX4_stepTo ∈ tb := tb_in (i := 621) (by decide +kernel) rfl
theorem kw_622 : Cond.selects RX4 yX4_stepTo yX4_stepTo ∈ tb := tb_in (i := 622) (by decide +kernel) rfl
theorem kw_623 : Cond.code yX4_stepTo cX4_stepTo 2 none ∈ tb := tb_in (i := 623) (by decide +kernel) rfl
theorem kw_624 : Cond.methodLink RX4 94 Lib.Math.min.name ∈ tb := tb_in (i := 624) (by decide +kernel) rfl
theorem kw_629 : Cond.methodLink RX8 198 yX8_withBit ∈ tb := tb_in (i := 629) (by decide +kernel) rfl
theorem kw_634 : Cond.methodLink RX8 202 yX8_withPacked ∈ tb := tb_in (i := 634) (by decide +kernel) rfl
theorem kw_643 : Cond.methodLink RX8 212 yX4_openDoor ∈ tb := tb_in (i := 643) (by decide +kernel) rfl
theorem kw_656 : Cond.methodLink RX8 217 yX8_isNoRule ∈ tb := tb_in (i := 656) (by decide +kernel) rfl
theorem kw_657 : Cond.static yX8_isNoRule ∈ tb := tb_in (i := 657) (by decide +kernel) rfl
theorem kw_658 : Cond.code yX8_isNoRule cX8_isNoRule 1 (some .boolean) ∈ tb := tb_in (i := 658) (by decide +kernel) rfl
theorem kw_663 : Cond.methodLink RX8 220 yX8_changeByDraws ∈ tb := tb_in (i := 663) (by decide +kernel) rfl
theorem kw_665 : Cond.instanceMethod yX8_changeByDraws ∈ tb := tb_in (i := 665) (by decide +kernel) rfl
theorem kw_666 : Cond.code yX8_changeByDraws cX8_changeByDraws 3 none ∈ tb := tb_in (i := 666) (by decide +kernel) rfl
theorem kw_667 : Cond.methodLink RX8 311 yX8_draw ∈ tb := tb_in (i := 667) (by decide +kernel) rfl
theorem kw_669 : Cond.instanceMethod yX8_draw ∈ tb := tb_in (i := 669) (by decide +kernel) rfl
theorem kw_670 : Cond.code yX8_draw cX8_draw 2 (some .int) ∈ tb := tb_in (i := 670) (by decide +kernel) rfl
theorem kw_671 : Cond.constantLong RX8 304 (1103515245) ∈ tb := tb_in (i := 671) (by decide +kernel) rfl
theorem kw_672 : Cond.constantLong RX8 306 (12345) ∈ tb := tb_in (i := 672) (by decide +kernel) rfl
theorem kw_673 : Cond.constantLong RX8 308 (2147483647) ∈ tb := tb_in (i := 673) (by decide +kernel) rfl
theorem kw_674 : Cond.constant RX8 310 (65536) ∈ tb := tb_in (i := 674) (by decide +kernel) rfl
theorem kw_679 : Cond.methodLink RX8 223 yX3_giveBack ∈ tb := tb_in (i := 679) (by decide +kernel) rfl
theorem kw_680 : Cond.instanceMethod yX3_giveBack ∈ tb := tb_in (i := 680) (by decide +kernel) rfl
theorem kw_681 : Cond.selects RX3 yX3_giveBack yX3_giveBack ∈ tb := tb_in (i := 681) (by decide +kernel) rfl
theorem kw_682 : Cond.code yX3_giveBack cX3_giveBack 2 none ∈ tb := tb_in (i := 682) (by decide +kernel) rfl
theorem kw_687 : Cond.methodLink RX8 226 yX4_copyFrom ∈ tb := tb_in (i := 687) (by decide +kernel) rfl
theorem kw_688 : Cond.methodLink RX8 230 yX4_tryHour ∈ tb := tb_in (i := 688) (by decide +kernel) rfl
theorem kw_689 : Cond.instanceMethod yX4_tryHour ∈ tb := tb_in (i := 689) (by decide +kernel) rfl
theorem kw_690 : Cond.selects RX4 yX4_tryHour yX4_tryHour ∈ tb := tb_in (i := 690) (by decide +kernel) rfl
theorem kw_691 : Cond.code yX4_tryHour cX4_tryHour 1 none ∈ tb := tb_in (i := 691) (by decide +kernel) rfl
theorem kw_692 : Cond.methodLink RX4 99 yX4_feelGoverned ∈ tb := tb_in (i := 692) (by decide +kernel) rfl
theorem kw_693 : Cond.methodLink RX4 102 yX4_nextBy ∈ tb := tb_in (i := 693) (by decide +kernel) rfl
theorem kw_694 : Cond.methodLink RX4 106 yX4_stepTo ∈ tb := tb_in (i := 694) (by decide +kernel) rfl
theorem kw_699 : Cond.methodLink RX8 233 yX8_hoursUntil ∈ tb := tb_in (i := 699) (by decide +kernel) rfl
theorem kw_701 : Cond.instanceMethod yX8_hoursUntil ∈ tb := tb_in (i := 701) (by decide +kernel) rfl
theorem kw_702 : Cond.code yX8_hoursUntil cX8_hoursUntil 4 (some .int) ∈ tb := tb_in (i := 702) (by decide +kernel) rfl
theorem kw_715 : Cond.methodLink RX8 236 yX8_isBetterSet ∈ tb := tb_in (i := 715) (by decide +kernel) rfl
theorem kw_716 : Cond.static yX8_isBetterSet ∈ tb := tb_in (i := 716) (by decide +kernel) rfl
theorem kw_717 : Cond.code yX8_isBetterSet cX8_isBetterSet 4 (some .boolean) ∈ tb := tb_in (i := 717) (by decide +kernel) rfl
theorem kw_718 : Cond.methodLink RX8 314 yJ6_bitCount_0f7a4 ∈ tb := tb_in (i := 718) (by decide +kernel) rfl
theorem kw_719 : Cond.static yJ6_bitCount_0f7a4 ∈ tb := tb_in (i := 719) (by decide +kernel) rfl
theorem kw_720 : Cond.code yJ6_bitCount_0f7a4 cJ6_bitCount_0f7a4 1 (some .int) ∈ tb := tb_in (i := 720) (by decide +kernel) rfl
theorem kw_721 : Cond.constant RJ6 265 (1431655765) ∈ tb := tb_in (i := 721) (by decide +kernel) rfl
theorem kw_722 : Cond.constant RJ6 266 (858993459) ∈ tb := tb_in (i := 722) (by decide +kernel) rfl
theorem kw_723 : Cond.constant RJ6 267 (252645135) ∈ tb := tb_in (i := 723) (by decide +kernel) rfl
theorem kw_728 : Cond.methodLink RX8 240 yX8_doorsToPass ∈ tb := tb_in (i := 728) (by decide +kernel) rfl
theorem kw_730 : Cond.instanceMethod yX8_doorsToPass ∈ tb := tb_in (i := 730) (by decide +kernel) rfl
theorem kw_731 : Cond.code yX8_doorsToPass cX8_doorsToPass 5 (some .int) ∈ tb := tb_in (i := 731) (by decide +kernel) rfl
theorem kw_732 : Cond.methodLink RX8 244 yX2_doorsBetween ∈ tb := tb_in (i := 732) (by decide +kernel) rfl
theorem kw_733 : Cond.instanceMethod yX2_doorsBetween ∈ tb := tb_in (i := 733) (by decide +kernel) rfl
theorem kw_734 : Cond.selects RX2 yX2_doorsBetween yX2_doorsBetween ∈ tb := tb_in (i := 734) (by decide +kernel) rfl
theorem kw_735 : Cond.code yX2_doorsBetween cX2_doorsBetween 4 (some .int) ∈ tb := tb_in (i := 735) (by decide +kernel) rfl
theorem kw_736 : Cond.methodLinkNest RX2 55 yX8_bit "SlipperDuke" ∈ tb := tb_in (i := 736) (by decide +kernel) rfl
theorem kw_741 : Cond.methodLink RX8 247 yJ7_fill_53178 ∈ tb := tb_in (i := 741) (by decide +kernel) rfl
theorem kw_742 : Cond.methodLink RX8 253 yX8_spreadNoise ∈ tb := tb_in (i := 742) (by decide +kernel) rfl
theorem kw_744 : Cond.instanceMethod yX8_spreadNoise ∈ tb := tb_in (i := 744) (by decide +kernel) rfl
theorem kw_745 : Cond.code yX8_spreadNoise cX8_spreadNoise 6 none ∈ tb := tb_in (i := 745) (by decide +kernel) rfl
theorem kw_754 : Cond.methodLink RX8 256 yX8_worthToHear ∈ tb := tb_in (i := 754) (by decide +kernel) rfl
theorem kw_756 : Cond.instanceMethod yX8_worthToHear ∈ tb := tb_in (i := 756) (by decide +kernel) rfl
theorem kw_757 : Cond.code yX8_worthToHear cX8_worthToHear 4 (some .int) ∈ tb := tb_in (i := 757) (by decide +kernel) rfl
theorem kw_762 : Cond.constantLong RX8 259 (1000000000) ∈ tb := tb_in (i := 762) (by decide +kernel) rfl
theorem kw_763 : Cond.constantLong RX8 261 (100) ∈ tb := tb_in (i := 763) (by decide +kernel) rfl
theorem kw_768 : Cond.methodLink RX8 263 yX7_fittingRules ∈ tb := tb_in (i := 768) (by decide +kernel) rfl
theorem kw_769 : Cond.instanceMethod yX7_fittingRules ∈ tb := tb_in (i := 769) (by decide +kernel) rfl
theorem kw_770 : Cond.selects RX7 yX7_fittingRules yX7_fittingRules ∈ tb := tb_in (i := 770) (by decide +kernel) rfl
theorem kw_771 : Cond.code yX7_fittingRules cX7_fittingRules 4 (some .long) ∈ tb := tb_in (i := 771) (by decide +kernel) rfl
theorem kw_772 : Cond.methodLink RX7 64 yX7_isFitting ∈ tb := tb_in (i := 772) (by decide +kernel) rfl
theorem kw_774 : Cond.instanceMethod yX7_isFitting ∈ tb := tb_in (i := 774) (by decide +kernel) rfl
theorem kw_775 : Cond.code yX7_isFitting cX7_isFitting 4 (some .boolean) ∈ tb := tb_in (i := 775) (by decide +kernel) rfl
theorem kw_776 : Cond.methodLinkNest RX7 68 yX8_bit "SlipperDuke" ∈ tb := tb_in (i := 776) (by decide +kernel) rfl
theorem kw_777 : Cond.methodLink RX7 71 yX4_liked ∈ tb := tb_in (i := 777) (by decide +kernel) rfl
theorem kw_778 : Cond.methodLink RX8 267 yJ13_bitCount_95d88 ∈ tb := tb_in (i := 778) (by decide +kernel) rfl
theorem kw_779 : Cond.static yJ13_bitCount_95d88 ∈ tb := tb_in (i := 779) (by decide +kernel) rfl
theorem kw_780 : Cond.code yJ13_bitCount_95d88 cJ13_bitCount_95d88 2 (some .int) ∈ tb := tb_in (i := 780) (by decide +kernel) rfl
theorem kw_781 : Cond.constantLong RJ13 314 (6148914691236517205) ∈ tb := tb_in (i := 781) (by decide +kernel) rfl
theorem kw_782 : Cond.constantLong RJ13 316 (3689348814741910323) ∈ tb := tb_in (i := 782) (by decide +kernel) rfl
theorem kw_783 : Cond.constantLong RJ13 318 (1085102592571150095) ∈ tb := tb_in (i := 783) (by decide +kernel) rfl
theorem kw_788 : Cond.methodLink RX8 273 yX8_greatestPart ∈ tb := tb_in (i := 788) (by decide +kernel) rfl
theorem kw_790 : Cond.instanceMethod yX8_greatestPart ∈ tb := tb_in (i := 790) (by decide +kernel) rfl
theorem kw_791 : Cond.code yX8_greatestPart cX8_greatestPart 7 (some .int) ∈ tb := tb_in (i := 791) (by decide +kernel) rfl
theorem kw_792 : Cond.methodLink RX8 318 yX4_nextBy ∈ tb := tb_in (i := 792) (by decide +kernel) rfl
theorem kw_793 : Cond.methodLink RX8 321 Lib.Math.max.name ∈ tb := tb_in (i := 793) (by decide +kernel) rfl
theorem kw_794 : Cond.static Lib.Math.max.name ∈ tb := tb_in (i := 794) (by decide +kernel) rfl
theorem kw_795 : Cond.code Lib.Math.max.name Lib.Math.max.code 2 (some .int) ∈ tb := tb_in (i := 795) (by decide +kernel) rfl
theorem kw_800 : Cond.constant RX8 276 (99999999) ∈ tb := tb_in (i := 800) (by decide +kernel) rfl
theorem kw_801 : Cond.methodLink RX8 277 yX8_isOfRooms ∈ tb := tb_in (i := 801) (by decide +kernel) rfl
theorem kw_803 : Cond.instanceMethod yX8_isOfRooms ∈ tb := tb_in (i := 803) (by decide +kernel) rfl
theorem kw_804 : Cond.code yX8_isOfRooms cX8_isOfRooms 4 (some .boolean) ∈ tb := tb_in (i := 804) (by decide +kernel) rfl
theorem kw_805 : Cond.methodLink RX8 280 yX8_apart ∈ tb := tb_in (i := 805) (by decide +kernel) rfl
theorem kw_806 : Cond.static yX8_apart ∈ tb := tb_in (i := 806) (by decide +kernel) rfl
theorem kw_807 : Cond.code yX8_apart cX8_apart 2 (some .int) ∈ tb := tb_in (i := 807) (by decide +kernel) rfl
theorem kw_808 : Cond.methodLink RX8 327 yX8_quietOf ∈ tb := tb_in (i := 808) (by decide +kernel) rfl
theorem kw_809 : Cond.methodLink RX8 330 Lib.Math.abs.name ∈ tb := tb_in (i := 809) (by decide +kernel) rfl
theorem kw_810 : Cond.static Lib.Math.abs.name ∈ tb := tb_in (i := 810) (by decide +kernel) rfl
theorem kw_811 : Cond.code Lib.Math.abs.name Lib.Math.abs.code 1 (some .int) ∈ tb := tb_in (i := 811) (by decide +kernel) rfl
theorem kw_812 : Cond.methodLink RX8 333 yX8_softOf ∈ tb := tb_in (i := 812) (by decide +kernel) rfl
theorem kw_813 : Cond.methodLink RX8 336 yX8_newOf ∈ tb := tb_in (i := 813) (by decide +kernel) rfl
theorem kw_814 : Cond.methodLink RX8 283 yX8_goesSo ∈ tb := tb_in (i := 814) (by decide +kernel) rfl
theorem kw_816 : Cond.instanceMethod yX8_goesSo ∈ tb := tb_in (i := 816) (by decide +kernel) rfl
theorem kw_817 : Cond.code yX8_goesSo cX8_goesSo 5 (some .boolean) ∈ tb := tb_in (i := 817) (by decide +kernel) rfl
theorem kw_818 : Cond.constant RX8 326 (10000000) ∈ tb := tb_in (i := 818) (by decide +kernel) rfl
theorem kw_827 : Cond.methodLink RX8 286 yX0_add ∈ tb := tb_in (i := 827) (by decide +kernel) rfl
theorem kw_828 : Cond.instanceMethod yX0_add ∈ tb := tb_in (i := 828) (by decide +kernel) rfl
theorem kw_829 : Cond.selects RX0 yX0_add yX0_add ∈ tb := tb_in (i := 829) (by decide +kernel) rfl
theorem kw_830 : Cond.code yX0_add cX0_add 3 none ∈ tb := tb_in (i := 830) (by decide +kernel) rfl
theorem kw_839 : Cond.methodLink RX8 289 yX0_firstWrong ∈ tb := tb_in (i := 839) (by decide +kernel) rfl
theorem kw_840 : Cond.instanceMethod yX0_firstWrong ∈ tb := tb_in (i := 840) (by decide +kernel) rfl
theorem kw_841 : Cond.selects RX0 yX0_firstWrong yX0_firstWrong ∈ tb := tb_in (i := 841) (by decide +kernel) rfl
theorem kw_842 : Cond.code yX0_firstWrong cX0_firstWrong 3 (some .int) ∈ tb := tb_in (i := 842) (by decide +kernel) rfl
theorem kw_851 : Cond.methodLink RX8 302 yX5_copyFrom ∈ tb := tb_in (i := 851) (by decide +kernel) rfl
theorem kw_861 : Cond.methodLink RX9 1 objectInit ∈ tb := tb_in (i := 861) (by decide +kernel) rfl
theorem kw_862 : Cond.fieldLink RX9 186 "SlipperDukeModel" "isPalace" "Z" ∈ tb := tb_in (i := 862) (by decide +kernel) rfl
theorem kw_863 : Cond.fieldLink RX9 64 "SlipperDukeModel" "rooms" "I" ∈ tb := tb_in (i := 863) (by decide +kernel) rfl
theorem kw_864 : Cond.fieldLink RX9 71 "SlipperDukeModel" "doors" "I" ∈ tb := tb_in (i := 864) (by decide +kernel) rfl
theorem kw_865 : Cond.fieldLink RX9 74 "SlipperDukeModel" "petitions" "I" ∈ tb := tb_in (i := 865) (by decide +kernel) rfl
theorem kw_866 : Cond.fieldLink RX9 7 "SlipperDukeModel" "doorFrom" "[I" ∈ tb := tb_in (i := 866) (by decide +kernel) rfl
theorem kw_867 : Cond.fieldLink RX9 13 "SlipperDukeModel" "doorTo" "[I" ∈ tb := tb_in (i := 867) (by decide +kernel) rfl
theorem kw_868 : Cond.fieldLink RX9 16 "SlipperDukeModel" "worths" "[I" ∈ tb := tb_in (i := 868) (by decide +kernel) rfl
theorem kw_869 : Cond.fieldLink RX9 19 "SlipperDukeModel" "now" "[J" ∈ tb := tb_in (i := 869) (by decide +kernel) rfl
theorem kw_870 : Cond.fieldLink RX9 241 "SlipperDukeModel" "draw" "J" ∈ tb := tb_in (i := 870) (by decide +kernel) rfl
theorem kw_871 : Cond.fieldLink RX9 23 "SlipperDukeModel" "text" "[I" ∈ tb := tb_in (i := 871) (by decide +kernel) rfl
theorem kw_872 : Cond.fieldLink RX9 143 "SlipperDukeModel" "typed" "I" ∈ tb := tb_in (i := 872) (by decide +kernel) rfl
theorem kw_873 : Cond.fieldLink RX9 147 "SlipperDukeModel" "place" "I" ∈ tb := tb_in (i := 873) (by decide +kernel) rfl
theorem kw_874 : Cond.fieldLink RX9 154 "SlipperDukeModel" "wrong" "I" ∈ tb := tb_in (i := 874) (by decide +kernel) rfl
theorem kw_875 : Cond.fieldLink RX9 60 "SlipperDukeModel" "latestFault" "I" ∈ tb := tb_in (i := 875) (by decide +kernel) rfl
theorem kw_876 : Cond.fieldLink RX9 26 "SlipperDukeModel" "read" "[I" ∈ tb := tb_in (i := 876) (by decide +kernel) rfl
theorem kw_877 : Cond.fieldLink RX9 29 "SlipperDukeModel" "undone" "[J" ∈ tb := tb_in (i := 877) (by decide +kernel) rfl
theorem kw_878 : Cond.fieldLink RX9 193 "SlipperDukeModel" "undos" "I" ∈ tb := tb_in (i := 878) (by decide +kernel) rfl
theorem kw_879 : Cond.fieldLink RX9 32 "SlipperDukeModel" "aside" "[J" ∈ tb := tb_in (i := 879) (by decide +kernel) rfl
theorem kw_880 : Cond.fieldLink RX9 35 "SlipperDukeModel" "sums" "[I" ∈ tb := tb_in (i := 880) (by decide +kernel) rfl
theorem kw_881 : Cond.fieldLink RX9 38 "SlipperDukeModel" "fits" "[Z" ∈ tb := tb_in (i := 881) (by decide +kernel) rfl
theorem kw_882 : Cond.fieldLink RX9 42 "SlipperDukeModel" "parts" "[I" ∈ tb := tb_in (i := 882) (by decide +kernel) rfl
theorem kw_883 : Cond.fieldLink RX9 45 "SlipperDukeModel" "path" "[I" ∈ tb := tb_in (i := 883) (by decide +kernel) rfl
theorem kw_884 : Cond.fieldLink RX9 48 "SlipperDukeModel" "walked" "[I" ∈ tb := tb_in (i := 884) (by decide +kernel) rfl
theorem kw_885 : Cond.fieldLink RX9 51 "SlipperDukeModel" "book" "[I" ∈ tb := tb_in (i := 885) (by decide +kernel) rfl
theorem kw_886 : Cond.fieldLink RX9 190 "SlipperDukeModel" "written" "I" ∈ tb := tb_in (i := 886) (by decide +kernel) rfl
theorem kw_887 : Cond.fieldLink RX9 54 "SlipperDukeModel" "kept" "[J" ∈ tb := tb_in (i := 887) (by decide +kernel) rfl
theorem kw_888 : Cond.fieldLink RX9 57 "SlipperDukeModel" "isKept" "[Z" ∈ tb := tb_in (i := 888) (by decide +kernel) rfl
theorem kw_944 : Cond.arrayClass .long ∈ tb := tb_in (i := 944) (by decide +kernel) rfl
theorem kw_945 : Cond.arrayClass .boolean ∈ tb := tb_in (i := 945) (by decide +kernel) rfl
theorem kw_950 : Cond.constantLong RX9 140 (255) ∈ tb := tb_in (i := 950) (by decide +kernel) rfl
theorem kw_951 : Cond.methodLink RX9 67 yX9_in ∈ tb := tb_in (i := 951) (by decide +kernel) rfl
theorem kw_952 : Cond.static yX9_in ∈ tb := tb_in (i := 952) (by decide +kernel) rfl
theorem kw_953 : Cond.code yX9_in cX9_in 6 (some .boolean) ∈ tb := tb_in (i := 953) (by decide +kernel) rfl
theorem kw_954 : Cond.constant RX9 142 (-1000000002) ∈ tb := tb_in (i := 954) (by decide +kernel) rfl
theorem kw_955 : Cond.constant RX9 146 (-1000000004) ∈ tb := tb_in (i := 955) (by decide +kernel) rfl
theorem kw_960 : Cond.methodLink RX9 157 yX9_here ∈ tb := tb_in (i := 960) (by decide +kernel) rfl
theorem kw_962 : Cond.instanceMethod yX9_here ∈ tb := tb_in (i := 962) (by decide +kernel) rfl
theorem kw_963 : Cond.code yX9_here cX9_here 1 (some .int) ∈ tb := tb_in (i := 963) (by decide +kernel) rfl
theorem kw_964 : Cond.methodLink RX9 196 yX9_readClause ∈ tb := tb_in (i := 964) (by decide +kernel) rfl
theorem kw_966 : Cond.instanceMethod yX9_readClause ∈ tb := tb_in (i := 966) (by decide +kernel) rfl
theorem kw_967 : Cond.code yX9_readClause cX9_readClause 2 none ∈ tb := tb_in (i := 967) (by decide +kernel) rfl
theorem kw_968 : Cond.methodLink RX9 174 yX9_readRule ∈ tb := tb_in (i := 968) (by decide +kernel) rfl
theorem kw_970 : Cond.instanceMethod yX9_readRule ∈ tb := tb_in (i := 970) (by decide +kernel) rfl
theorem kw_971 : Cond.code yX9_readRule cX9_readRule 2 none ∈ tb := tb_in (i := 971) (by decide +kernel) rfl
theorem kw_972 : Cond.methodLink RX9 165 yX9_faults ∈ tb := tb_in (i := 972) (by decide +kernel) rfl
theorem kw_974 : Cond.instanceMethod yX9_faults ∈ tb := tb_in (i := 974) (by decide +kernel) rfl
theorem kw_975 : Cond.code yX9_faults cX9_faults 2 none ∈ tb := tb_in (i := 975) (by decide +kernel) rfl
theorem kw_976 : Cond.methodLink RX9 168 yX9_number ∈ tb := tb_in (i := 976) (by decide +kernel) rfl
theorem kw_978 : Cond.instanceMethod yX9_number ∈ tb := tb_in (i := 978) (by decide +kernel) rfl
theorem kw_979 : Cond.code yX9_number cX9_number 5 (some .int) ∈ tb := tb_in (i := 979) (by decide +kernel) rfl
theorem kw_980 : Cond.methodLink RX9 161 yX9_isFigure ∈ tb := tb_in (i := 980) (by decide +kernel) rfl
theorem kw_981 : Cond.static yX9_isFigure ∈ tb := tb_in (i := 981) (by decide +kernel) rfl
theorem kw_982 : Cond.code yX9_isFigure cX9_isFigure 1 (some .boolean) ∈ tb := tb_in (i := 982) (by decide +kernel) rfl
theorem kw_983 : Cond.constantLong RX9 150 (48) ∈ tb := tb_in (i := 983) (by decide +kernel) rfl
theorem kw_984 : Cond.constantLong RX9 152 (57) ∈ tb := tb_in (i := 984) (by decide +kernel) rfl
theorem kw_985 : Cond.methodLink RX9 171 yX9_ends ∈ tb := tb_in (i := 985) (by decide +kernel) rfl
theorem kw_987 : Cond.instanceMethod yX9_ends ∈ tb := tb_in (i := 987) (by decide +kernel) rfl
theorem kw_988 : Cond.code yX9_ends cX9_ends 1 none ∈ tb := tb_in (i := 988) (by decide +kernel) rfl
theorem kw_989 : Cond.methodLink RX9 177 yX9_readRoom ∈ tb := tb_in (i := 989) (by decide +kernel) rfl
theorem kw_991 : Cond.instanceMethod yX9_readRoom ∈ tb := tb_in (i := 991) (by decide +kernel) rfl
theorem kw_992 : Cond.code yX9_readRoom cX9_readRoom 3 none ∈ tb := tb_in (i := 992) (by decide +kernel) rfl
theorem kw_993 : Cond.methodLink RX9 180 yX9_readDoor ∈ tb := tb_in (i := 993) (by decide +kernel) rfl
theorem kw_995 : Cond.instanceMethod yX9_readDoor ∈ tb := tb_in (i := 995) (by decide +kernel) rfl
theorem kw_996 : Cond.code yX9_readDoor cX9_readDoor 8 none ∈ tb := tb_in (i := 996) (by decide +kernel) rfl
theorem kw_997 : Cond.methodLink RX9 183 yX9_readPetition ∈ tb := tb_in (i := 997) (by decide +kernel) rfl
theorem kw_999 : Cond.instanceMethod yX9_readPetition ∈ tb := tb_in (i := 999) (by decide +kernel) rfl
theorem kw_1000 : Cond.code yX9_readPetition cX9_readPetition 3 none ∈ tb := tb_in (i := 1000) (by decide +kernel) rfl
theorem kw_1001 : Cond.methodLink RX9 199 yX9_becomes ∈ tb := tb_in (i := 1001) (by decide +kernel) rfl
theorem kw_1003 : Cond.instanceMethod yX9_becomes ∈ tb := tb_in (i := 1003) (by decide +kernel) rfl
theorem kw_1004 : Cond.code yX9_becomes cX9_becomes 2 none ∈ tb := tb_in (i := 1004) (by decide +kernel) rfl
theorem kw_1013 : Cond.methodLink RX9 97 yX9_at ∈ tb := tb_in (i := 1013) (by decide +kernel) rfl
theorem kw_1015 : Cond.instanceMethod yX9_at ∈ tb := tb_in (i := 1015) (by decide +kernel) rfl
theorem kw_1016 : Cond.code yX9_at cX9_at 2 (some .int) ∈ tb := tb_in (i := 1016) (by decide +kernel) rfl
theorem kw_1021 : Cond.methodLink RX9 202 yX9_isRoom ∈ tb := tb_in (i := 1021) (by decide +kernel) rfl
theorem kw_1023 : Cond.instanceMethod yX9_isRoom ∈ tb := tb_in (i := 1023) (by decide +kernel) rfl
theorem kw_1024 : Cond.code yX9_isRoom cX9_isRoom 2 (some .boolean) ∈ tb := tb_in (i := 1024) (by decide +kernel) rfl
theorem kw_1025 : Cond.constant RX9 205 (-1000000001) ∈ tb := tb_in (i := 1025) (by decide +kernel) rfl
theorem kw_1026 : Cond.methodLink RX9 85 yX9_has ∈ tb := tb_in (i := 1026) (by decide +kernel) rfl
theorem kw_1027 : Cond.static yX9_has ∈ tb := tb_in (i := 1027) (by decide +kernel) rfl
theorem kw_1028 : Cond.code yX9_has cX9_has 3 (some .boolean) ∈ tb := tb_in (i := 1028) (by decide +kernel) rfl
theorem kw_1029 : Cond.methodLink RX9 105 yX9_counts ∈ tb := tb_in (i := 1029) (by decide +kernel) rfl
theorem kw_1031 : Cond.instanceMethod yX9_counts ∈ tb := tb_in (i := 1031) (by decide +kernel) rfl
theorem kw_1032 : Cond.code yX9_counts cX9_counts 4 (some .long) ∈ tb := tb_in (i := 1032) (by decide +kernel) rfl
theorem kw_1033 : Cond.constantLong RX9 79 (9) ∈ tb := tb_in (i := 1033) (by decide +kernel) rfl
theorem kw_1034 : Cond.constantLong RX9 89 (15) ∈ tb := tb_in (i := 1034) (by decide +kernel) rfl
theorem kw_1035 : Cond.methodLink RX9 108 yX9_isWorn ∈ tb := tb_in (i := 1035) (by decide +kernel) rfl
theorem kw_1037 : Cond.instanceMethod yX9_isWorn ∈ tb := tb_in (i := 1037) (by decide +kernel) rfl
theorem kw_1038 : Cond.code yX9_isWorn cX9_isWorn 1 (some .boolean) ∈ tb := tb_in (i := 1038) (by decide +kernel) rfl
theorem kw_1039 : Cond.constantLong RX9 95 (50) ∈ tb := tb_in (i := 1039) (by decide +kernel) rfl
theorem kw_1040 : Cond.methodLink RX9 91 yX9_pull ∈ tb := tb_in (i := 1040) (by decide +kernel) rfl
theorem kw_1041 : Cond.static yX9_pull ∈ tb := tb_in (i := 1041) (by decide +kernel) rfl
theorem kw_1042 : Cond.code yX9_pull cX9_pull 8 (some .int) ∈ tb := tb_in (i := 1042) (by decide +kernel) rfl
theorem kw_1043 : Cond.methodLink RX9 206 yX9_beside ∈ tb := tb_in (i := 1043) (by decide +kernel) rfl
theorem kw_1045 : Cond.instanceMethod yX9_beside ∈ tb := tb_in (i := 1045) (by decide +kernel) rfl
theorem kw_1046 : Cond.code yX9_beside cX9_beside 5 (some .int) ∈ tb := tb_in (i := 1046) (by decide +kernel) rfl
theorem kw_1047 : Cond.methodLink RX9 81 yX9_doorBetween ∈ tb := tb_in (i := 1047) (by decide +kernel) rfl
theorem kw_1049 : Cond.instanceMethod yX9_doorBetween ∈ tb := tb_in (i := 1049) (by decide +kernel) rfl
theorem kw_1050 : Cond.code yX9_doorBetween cX9_doorBetween 5 (some .int) ∈ tb := tb_in (i := 1050) (by decide +kernel) rfl
theorem kw_1055 : Cond.methodLink RX9 209 yX9_isPetition ∈ tb := tb_in (i := 1055) (by decide +kernel) rfl
theorem kw_1057 : Cond.instanceMethod yX9_isPetition ∈ tb := tb_in (i := 1057) (by decide +kernel) rfl
theorem kw_1058 : Cond.code yX9_isPetition cX9_isPetition 2 (some .boolean) ∈ tb := tb_in (i := 1058) (by decide +kernel) rfl
theorem kw_1063 : Cond.methodLink RX9 212 yX9_wayFrom ∈ tb := tb_in (i := 1063) (by decide +kernel) rfl
theorem kw_1065 : Cond.instanceMethod yX9_wayFrom ∈ tb := tb_in (i := 1065) (by decide +kernel) rfl
theorem kw_1066 : Cond.code yX9_wayFrom cX9_wayFrom 2 (some .int) ∈ tb := tb_in (i := 1066) (by decide +kernel) rfl
theorem kw_1067 : Cond.constantLong RX9 120 (7) ∈ tb := tb_in (i := 1067) (by decide +kernel) rfl
theorem kw_1068 : Cond.methodLink RX9 215 yX9_wayTo ∈ tb := tb_in (i := 1068) (by decide +kernel) rfl
theorem kw_1070 : Cond.instanceMethod yX9_wayTo ∈ tb := tb_in (i := 1070) (by decide +kernel) rfl
theorem kw_1071 : Cond.code yX9_wayTo cX9_wayTo 2 (some .int) ∈ tb := tb_in (i := 1071) (by decide +kernel) rfl
theorem kw_1076 : Cond.constantLong RX9 218 (60) ∈ tb := tb_in (i := 1076) (by decide +kernel) rfl
theorem kw_1077 : Cond.constant RX9 220 (-1000000003) ∈ tb := tb_in (i := 1077) (by decide +kernel) rfl
theorem kw_1078 : Cond.constantLong RX9 221 (9000) ∈ tb := tb_in (i := 1078) (by decide +kernel) rfl
theorem kw_1079 : Cond.methodLink RX9 223 yX9_notes ∈ tb := tb_in (i := 1079) (by decide +kernel) rfl
theorem kw_1081 : Cond.instanceMethod yX9_notes ∈ tb := tb_in (i := 1081) (by decide +kernel) rfl
theorem kw_1082 : Cond.code yX9_notes cX9_notes 2 none ∈ tb := tb_in (i := 1082) (by decide +kernel) rfl
theorem kw_1083 : Cond.methodLink RX9 226 yX9_goesOn ∈ tb := tb_in (i := 1083) (by decide +kernel) rfl
theorem kw_1085 : Cond.instanceMethod yX9_goesOn ∈ tb := tb_in (i := 1085) (by decide +kernel) rfl
theorem kw_1086 : Cond.code yX9_goesOn cX9_goesOn 3 none ∈ tb := tb_in (i := 1086) (by decide +kernel) rfl
theorem kw_1087 : Cond.methodLink RX9 137 yX9_goesBy ∈ tb := tb_in (i := 1087) (by decide +kernel) rfl
theorem kw_1089 : Cond.instanceMethod yX9_goesBy ∈ tb := tb_in (i := 1089) (by decide +kernel) rfl
theorem kw_1090 : Cond.code yX9_goesBy cX9_goesBy 2 none ∈ tb := tb_in (i := 1090) (by decide +kernel) rfl
theorem kw_1091 : Cond.methodLink RX9 124 yX9_hears ∈ tb := tb_in (i := 1091) (by decide +kernel) rfl
theorem kw_1093 : Cond.instanceMethod yX9_hears ∈ tb := tb_in (i := 1093) (by decide +kernel) rfl
theorem kw_1094 : Cond.code yX9_hears cX9_hears 2 none ∈ tb := tb_in (i := 1094) (by decide +kernel) rfl
theorem kw_1095 : Cond.constantLong RX9 122 (999999) ∈ tb := tb_in (i := 1095) (by decide +kernel) rfl
theorem kw_1096 : Cond.methodLink RX9 127 yX9_goesNext ∈ tb := tb_in (i := 1096) (by decide +kernel) rfl
theorem kw_1098 : Cond.instanceMethod yX9_goesNext ∈ tb := tb_in (i := 1098) (by decide +kernel) rfl
theorem kw_1099 : Cond.code yX9_goesNext cX9_goesNext 4 (some .int) ∈ tb := tb_in (i := 1099) (by decide +kernel) rfl
theorem kw_1100 : Cond.methodLink RX9 101 yX9_noises ∈ tb := tb_in (i := 1100) (by decide +kernel) rfl
theorem kw_1102 : Cond.instanceMethod yX9_noises ∈ tb := tb_in (i := 1102) (by decide +kernel) rfl
theorem kw_1103 : Cond.code yX9_noises cX9_noises 4 (some .long) ∈ tb := tb_in (i := 1103) (by decide +kernel) rfl
theorem kw_1104 : Cond.methodLink RX9 112 yX9_goesTo ∈ tb := tb_in (i := 1104) (by decide +kernel) rfl
theorem kw_1106 : Cond.instanceMethod yX9_goesTo ∈ tb := tb_in (i := 1106) (by decide +kernel) rfl
theorem kw_1107 : Cond.code yX9_goesTo cX9_goesTo 19 (some .int) ∈ tb := tb_in (i := 1107) (by decide +kernel) rfl
theorem kw_1108 : Cond.methodLink RX9 131 yX9_remembers ∈ tb := tb_in (i := 1108) (by decide +kernel) rfl
theorem kw_1110 : Cond.instanceMethod yX9_remembers ∈ tb := tb_in (i := 1110) (by decide +kernel) rfl
theorem kw_1111 : Cond.code yX9_remembers cX9_remembers 3 none ∈ tb := tb_in (i := 1111) (by decide +kernel) rfl
theorem kw_1112 : Cond.constantLong RX9 116 (16) ∈ tb := tb_in (i := 1112) (by decide +kernel) rfl
theorem kw_1113 : Cond.constantLong RX9 118 (17179869184) ∈ tb := tb_in (i := 1113) (by decide +kernel) rfl
theorem kw_1114 : Cond.constantLong RX9 135 (999) ∈ tb := tb_in (i := 1114) (by decide +kernel) rfl
theorem kw_1119 : Cond.methodLink RX9 231 yX9_turns ∈ tb := tb_in (i := 1119) (by decide +kernel) rfl
theorem kw_1121 : Cond.instanceMethod yX9_turns ∈ tb := tb_in (i := 1121) (by decide +kernel) rfl
theorem kw_1122 : Cond.code yX9_turns cX9_turns 5 (some .int) ∈ tb := tb_in (i := 1122) (by decide +kernel) rfl
theorem kw_1123 : Cond.constantLong RX9 229 (-1) ∈ tb := tb_in (i := 1123) (by decide +kernel) rfl
theorem kw_1136 : Cond.methodLink RX9 235 yX9_isDoor ∈ tb := tb_in (i := 1136) (by decide +kernel) rfl
theorem kw_1138 : Cond.instanceMethod yX9_isDoor ∈ tb := tb_in (i := 1138) (by decide +kernel) rfl
theorem kw_1139 : Cond.code yX9_isDoor cX9_isDoor 2 (some .boolean) ∈ tb := tb_in (i := 1139) (by decide +kernel) rfl
theorem kw_1152 : Cond.methodLink RX9 238 yX9_isRule ∈ tb := tb_in (i := 1152) (by decide +kernel) rfl
theorem kw_1153 : Cond.static yX9_isRule ∈ tb := tb_in (i := 1153) (by decide +kernel) rfl
theorem kw_1154 : Cond.code yX9_isRule cX9_isRule 1 (some .boolean) ∈ tb := tb_in (i := 1154) (by decide +kernel) rfl
theorem kw_1155 : Cond.constantLong RX9 77 (63) ∈ tb := tb_in (i := 1155) (by decide +kernel) rfl
theorem kw_1160 : Cond.methodLink RX9 256 yX9_stirs ∈ tb := tb_in (i := 1160) (by decide +kernel) rfl
theorem kw_1162 : Cond.instanceMethod yX9_stirs ∈ tb := tb_in (i := 1162) (by decide +kernel) rfl
theorem kw_1163 : Cond.code yX9_stirs cX9_stirs 5 none ∈ tb := tb_in (i := 1163) (by decide +kernel) rfl
theorem kw_1164 : Cond.methodLink RX9 253 yX9_drawn ∈ tb := tb_in (i := 1164) (by decide +kernel) rfl
theorem kw_1166 : Cond.instanceMethod yX9_drawn ∈ tb := tb_in (i := 1166) (by decide +kernel) rfl
theorem kw_1167 : Cond.code yX9_drawn cX9_drawn 2 (some .int) ∈ tb := tb_in (i := 1167) (by decide +kernel) rfl
theorem kw_1168 : Cond.constantLong RX9 245 (1103515245) ∈ tb := tb_in (i := 1168) (by decide +kernel) rfl
theorem kw_1169 : Cond.constantLong RX9 247 (12345) ∈ tb := tb_in (i := 1169) (by decide +kernel) rfl
theorem kw_1170 : Cond.constantLong RX9 249 (2147483647) ∈ tb := tb_in (i := 1170) (by decide +kernel) rfl
theorem kw_1171 : Cond.constantLong RX9 251 (65536) ∈ tb := tb_in (i := 1171) (by decide +kernel) rfl
theorem kw_1180 : Cond.constantLong RX9 259 (100) ∈ tb := tb_in (i := 1180) (by decide +kernel) rfl
theorem kw_1181 : Cond.methodLink RX9 261 yX9_asides ∈ tb := tb_in (i := 1181) (by decide +kernel) rfl
theorem kw_1183 : Cond.instanceMethod yX9_asides ∈ tb := tb_in (i := 1183) (by decide +kernel) rfl
theorem kw_1184 : Cond.code yX9_asides cX9_asides 2 none ∈ tb := tb_in (i := 1184) (by decide +kernel) rfl
theorem kw_1185 : Cond.methodLink RX9 264 yX9_backs ∈ tb := tb_in (i := 1185) (by decide +kernel) rfl
theorem kw_1187 : Cond.instanceMethod yX9_backs ∈ tb := tb_in (i := 1187) (by decide +kernel) rfl
theorem kw_1188 : Cond.code yX9_backs cX9_backs 2 none ∈ tb := tb_in (i := 1188) (by decide +kernel) rfl
theorem kw_1193 : Cond.methodLink RX9 267 yX9_whenIn ∈ tb := tb_in (i := 1193) (by decide +kernel) rfl
theorem kw_1195 : Cond.instanceMethod yX9_whenIn ∈ tb := tb_in (i := 1195) (by decide +kernel) rfl
theorem kw_1196 : Cond.code yX9_whenIn cX9_whenIn 4 (some .int) ∈ tb := tb_in (i := 1196) (by decide +kernel) rfl
theorem kw_1209 : Cond.constantLong RX9 270 (20) ∈ tb := tb_in (i := 1209) (by decide +kernel) rfl
theorem kw_1210 : Cond.methodLink RX9 272 yX9_many ∈ tb := tb_in (i := 1210) (by decide +kernel) rfl
theorem kw_1211 : Cond.static yX9_many ∈ tb := tb_in (i := 1211) (by decide +kernel) rfl
theorem kw_1212 : Cond.code yX9_many cX9_many 3 (some .int) ∈ tb := tb_in (i := 1212) (by decide +kernel) rfl
theorem kw_1217 : Cond.methodLink RX9 275 yX9_reached ∈ tb := tb_in (i := 1217) (by decide +kernel) rfl
theorem kw_1219 : Cond.instanceMethod yX9_reached ∈ tb := tb_in (i := 1219) (by decide +kernel) rfl
theorem kw_1220 : Cond.code yX9_reached cX9_reached 8 (some .int) ∈ tb := tb_in (i := 1220) (by decide +kernel) rfl
theorem kw_1225 : Cond.methodLink RX9 278 yX9_enters ∈ tb := tb_in (i := 1225) (by decide +kernel) rfl
theorem kw_1227 : Cond.instanceMethod yX9_enters ∈ tb := tb_in (i := 1227) (by decide +kernel) rfl
theorem kw_1228 : Cond.code yX9_enters cX9_enters 5 none ∈ tb := tb_in (i := 1228) (by decide +kernel) rfl
theorem kw_1241 : Cond.constantLong RX9 282 (1000000000) ∈ tb := tb_in (i := 1241) (by decide +kernel) rfl
theorem kw_1246 : Cond.methodLink RX9 286 yX9_isFit ∈ tb := tb_in (i := 1246) (by decide +kernel) rfl
theorem kw_1248 : Cond.instanceMethod yX9_isFit ∈ tb := tb_in (i := 1248) (by decide +kernel) rfl
theorem kw_1249 : Cond.code yX9_isFit cX9_isFit 6 (some .boolean) ∈ tb := tb_in (i := 1249) (by decide +kernel) rfl
theorem kw_1250 : Cond.constantLong RX9 284 (4095) ∈ tb := tb_in (i := 1250) (by decide +kernel) rfl
theorem kw_1259 : Cond.constantLong RX9 292 (99999999) ∈ tb := tb_in (i := 1259) (by decide +kernel) rfl
theorem kw_1260 : Cond.methodLink RX9 294 yX9_differ ∈ tb := tb_in (i := 1260) (by decide +kernel) rfl
theorem kw_1261 : Cond.static yX9_differ ∈ tb := tb_in (i := 1261) (by decide +kernel) rfl
theorem kw_1262 : Cond.code yX9_differ cX9_differ 2 (some .int) ∈ tb := tb_in (i := 1262) (by decide +kernel) rfl
theorem kw_1263 : Cond.methodLink RX9 289 yX9_apart ∈ tb := tb_in (i := 1263) (by decide +kernel) rfl
theorem kw_1264 : Cond.static yX9_apart ∈ tb := tb_in (i := 1264) (by decide +kernel) rfl
theorem kw_1265 : Cond.code yX9_apart cX9_apart 2 (some .int) ∈ tb := tb_in (i := 1265) (by decide +kernel) rfl
theorem kw_1266 : Cond.methodLink RX9 297 yX9_goesSo ∈ tb := tb_in (i := 1266) (by decide +kernel) rfl
theorem kw_1268 : Cond.instanceMethod yX9_goesSo ∈ tb := tb_in (i := 1268) (by decide +kernel) rfl
theorem kw_1269 : Cond.code yX9_goesSo cX9_goesSo 5 (some .boolean) ∈ tb := tb_in (i := 1269) (by decide +kernel) rfl
theorem kw_1278 : Cond.constantLong RX9 301 (9999) ∈ tb := tb_in (i := 1278) (by decide +kernel) rfl
