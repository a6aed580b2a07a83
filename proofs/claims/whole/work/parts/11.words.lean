theorem w_0 : Cond.selects "Quasigrove$Maps" yX4_arrange yX4_arrange ∈ g_GW := g_mem (i := 0) (by decide +kernel) rfl
theorem w_1 : Cond.selects "Quasigrove$Tape" yX9_canFollow yX9_canFollow ∈ g_GW := g_mem (i := 1) (by decide +kernel) rfl
theorem w_2 : Cond.selects "Quasigrove$Tape" yX9_beginBracket yX9_beginBracket ∈ g_GW := g_mem (i := 2) (by decide +kernel) rfl
theorem w_3 : Cond.selects "Quasigrove$Tape" yX9_endWord yX9_endWord ∈ g_GW := g_mem (i := 3) (by decide +kernel) rfl
theorem w_5 : Cond.selects "Quasigrove" yX11_newGrid yX11_newGrid ∈ g_GW := g_mem (i := 5) (by decide +kernel) rfl
theorem w_6 : Cond.selects "Quasigrove$Grid" yX2_isLine yX2_isLine ∈ g_GW := g_mem (i := 6) (by decide +kernel) rfl
theorem w_7 : Cond.selects "Quasigrove" yX11_gridAt yX11_gridAt ∈ g_GW := g_mem (i := 7) (by decide +kernel) rfl
theorem w_8 : Cond.selects "Quasigrove$Grid" yX2_exchange yX2_exchange ∈ g_GW := g_mem (i := 8) (by decide +kernel) rfl
theorem w_9 : Cond.selects "Quasigrove$RowFilling" yX7_tightestRow yX7_tightestRow ∈ g_GW := g_mem (i := 9) (by decide +kernel) rfl
theorem w_10 : Cond.selects "Quasigrove$RowFilling" yX7_mapsThatFit yX7_mapsThatFit ∈ g_GW := g_mem (i := 10) (by decide +kernel) rfl
theorem w_11 : Cond.selects "Quasigrove$RowFilling" yX7_fits yX7_fits ∈ g_GW := g_mem (i := 11) (by decide +kernel) rfl
theorem w_12 : Cond.selects "Quasigrove$Telling" yX10_keep yX10_keep ∈ g_GW := g_mem (i := 12) (by decide +kernel) rfl
theorem w_13 : Cond.selects "Quasigrove$Telling" yX10_unlike yX10_unlike ∈ g_GW := g_mem (i := 13) (by decide +kernel) rfl
theorem w_14 : Cond.selects "Quasigrove$Telling" yX10_meetsAll yX10_meetsAll ∈ g_GW := g_mem (i := 14) (by decide +kernel) rfl
theorem w_15 : Cond.selects "Quasigrove$Tape" yX9_hasCharacter yX9_hasCharacter ∈ g_GW := g_mem (i := 15) (by decide +kernel) rfl
theorem w_16 : Cond.selects "Quasigrove$Tape" yX9_holds yX9_holds ∈ g_GW := g_mem (i := 16) (by decide +kernel) rfl
theorem w_17 : Cond.selects "Quasigrove$Symmetry" yX8_keepsProducts yX8_keepsProducts ∈ g_GW := g_mem (i := 17) (by decide +kernel) rfl
theorem w_18 : Cond.selects "Quasigrove$Symmetry" yX8_rowMap yX8_rowMap ∈ g_GW := g_mem (i := 18) (by decide +kernel) rfl
theorem w_19 : Cond.selects "Quasigrove$Symmetry" yX8_addMaker yX8_addMaker ∈ g_GW := g_mem (i := 19) (by decide +kernel) rfl
theorem w_20 : Cond.selects "Quasigrove$Symmetry" yX8_columnMap yX8_columnMap ∈ g_GW := g_mem (i := 20) (by decide +kernel) rfl
theorem w_21 : Cond.selects "Quasigrove$Symmetry" yX8_clearMembers yX8_clearMembers ∈ g_GW := g_mem (i := 21) (by decide +kernel) rfl
theorem w_22 : Cond.selects "Quasigrove$Symmetry" yX8_addMember yX8_addMember ∈ g_GW := g_mem (i := 22) (by decide +kernel) rfl
theorem w_23 : Cond.selects "Quasigrove$Symmetry" yX8_mapSigns yX8_mapSigns ∈ g_GW := g_mem (i := 23) (by decide +kernel) rfl
theorem w_24 : Cond.selects "Quasigrove$Symmetry" yX8_bringsAllColumns yX8_bringsAllColumns ∈ g_GW := g_mem (i := 24) (by decide +kernel) rfl
theorem w_25 : Cond.selects "Quasigrove$Symmetry" yX8_mapped yX8_mapped ∈ g_GW := g_mem (i := 25) (by decide +kernel) rfl
theorem w_26 : Cond.selects "Quasigrove$Mating" yX5_hasAllSigns yX5_hasAllSigns ∈ g_GW := g_mem (i := 26) (by decide +kernel) rfl
theorem w_27 : Cond.selects "Quasigrove$Mating" yX5_keepLower yX5_keepLower ∈ g_GW := g_mem (i := 27) (by decide +kernel) rfl
theorem w_28 : Cond.selects "QuasigroveModel" yX12_between yX12_between ∈ g_GW := g_mem (i := 28) (by decide +kernel) rfl
theorem w_29 : Cond.selects "QuasigroveModel" yX12_make yX12_make ∈ g_GW := g_mem (i := 29) (by decide +kernel) rfl
theorem w_30 : Cond.selects "QuasigroveModel" yX12_isPrimeTo yX12_isPrimeTo ∈ g_GW := g_mem (i := 30) (by decide +kernel) rfl
theorem w_31 : Cond.selects "QuasigroveModel" yX12_isCell yX12_isCell ∈ g_GW := g_mem (i := 31) (by decide +kernel) rfl
theorem w_32 : Cond.selects "QuasigroveModel" yX12_isGrid yX12_isGrid ∈ g_GW := g_mem (i := 32) (by decide +kernel) rfl
theorem w_33 : Cond.selects "QuasigroveModel" yX12_isLine yX12_isLine ∈ g_GW := g_mem (i := 33) (by decide +kernel) rfl
theorem w_34 : Cond.selects "QuasigroveModel" yX12_at yX12_at ∈ g_GW := g_mem (i := 34) (by decide +kernel) rfl
theorem w_35 : Cond.selects "QuasigroveModel" yX12_isMap yX12_isMap ∈ g_GW := g_mem (i := 35) (by decide +kernel) rfl
theorem w_36 : Cond.selects "QuasigroveModel" yX12_filled yX12_filled ∈ g_GW := g_mem (i := 36) (by decide +kernel) rfl
theorem w_37 : Cond.selects "QuasigroveModel" yX12_copyToWork yX12_copyToWork ∈ g_GW := g_mem (i := 37) (by decide +kernel) rfl
theorem w_38 : Cond.selects "QuasigroveModel" yX12_setAt yX12_setAt ∈ g_GW := g_mem (i := 38) (by decide +kernel) rfl
theorem w_39 : Cond.selects "QuasigroveModel" yX12_fits yX12_fits ∈ g_GW := g_mem (i := 39) (by decide +kernel) rfl
theorem w_40 : Cond.selects "QuasigroveModel" yX12_turnRows yX12_turnRows ∈ g_GW := g_mem (i := 40) (by decide +kernel) rfl
theorem w_41 : Cond.selects "QuasigroveModel" yX12_isSquare yX12_isSquare ∈ g_GW := g_mem (i := 41) (by decide +kernel) rfl
theorem w_42 : Cond.selects "QuasigroveModel" yX12_fillsOf yX12_fillsOf ∈ g_GW := g_mem (i := 42) (by decide +kernel) rfl
theorem w_43 : Cond.selects "QuasigroveModel" yX12_search yX12_search ∈ g_GW := g_mem (i := 43) (by decide +kernel) rfl
theorem w_44 : Cond.selects "QuasigroveModel" yX12_layEmpties yX12_layEmpties ∈ g_GW := g_mem (i := 44) (by decide +kernel) rfl
theorem w_45 : Cond.selects "QuasigroveModel" yX12_forcedAtWork yX12_forcedAtWork ∈ g_GW := g_mem (i := 45) (by decide +kernel) rfl
theorem w_46 : Cond.selects "QuasigroveModel" yX12_isLast yX12_isLast ∈ g_GW := g_mem (i := 46) (by decide +kernel) rfl
theorem w_47 : Cond.selects "QuasigroveModel" yX12_bitsOf yX12_bitsOf ∈ g_GW := g_mem (i := 47) (by decide +kernel) rfl
theorem w_48 : Cond.selects "QuasigroveModel" yX12_isSign yX12_isSign ∈ g_GW := g_mem (i := 48) (by decide +kernel) rfl
theorem w_49 : Cond.selects "QuasigroveModel" yX12_faultOf yX12_faultOf ∈ g_GW := g_mem (i := 49) (by decide +kernel) rfl
theorem w_50 : Cond.selects "QuasigroveModel" yX12_valuesOf yX12_valuesOf ∈ g_GW := g_mem (i := 50) (by decide +kernel) rfl
theorem w_51 : Cond.selects "QuasigroveModel" yX12_holds yX12_holds ∈ g_GW := g_mem (i := 51) (by decide +kernel) rfl
theorem w_52 : Cond.selects "QuasigroveModel" yX12_canAsk yX12_canAsk ∈ g_GW := g_mem (i := 52) (by decide +kernel) rfl
theorem w_53 : Cond.selects "QuasigroveModel" yX12_canAskWith yX12_canAskWith ∈ g_GW := g_mem (i := 53) (by decide +kernel) rfl
theorem w_54 : Cond.selects "QuasigroveModel" yX12_isInNucleus yX12_isInNucleus ∈ g_GW := g_mem (i := 54) (by decide +kernel) rfl
theorem w_55 : Cond.selects "QuasigroveModel" yX12_associates yX12_associates ∈ g_GW := g_mem (i := 55) (by decide +kernel) rfl
theorem w_56 : Cond.selects "QuasigroveModel" yX12_products yX12_products ∈ g_GW := g_mem (i := 56) (by decide +kernel) rfl
theorem w_57 : Cond.selects "QuasigroveModel" yX12_closedSets yX12_closedSets ∈ g_GW := g_mem (i := 57) (by decide +kernel) rfl
theorem w_58 : Cond.selects "QuasigroveModel" yX12_automorphisms yX12_automorphisms ∈ g_GW := g_mem (i := 58) (by decide +kernel) rfl
theorem w_59 : Cond.selects "QuasigroveModel" yX12_layAll yX12_layAll ∈ g_GW := g_mem (i := 59) (by decide +kernel) rfl
theorem w_60 : Cond.selects "QuasigroveModel" yX12_groupOf yX12_groupOf ∈ g_GW := g_mem (i := 60) (by decide +kernel) rfl
theorem w_61 : Cond.selects "QuasigroveModel" yX12_numberOf yX12_numberOf ∈ g_GW := g_mem (i := 61) (by decide +kernel) rfl
theorem w_62 : Cond.selects "QuasigroveModel" yX12_join yX12_join ∈ g_GW := g_mem (i := 62) (by decide +kernel) rfl
theorem w_63 : Cond.selects "QuasigroveModel" yX12_brings yX12_brings ∈ g_GW := g_mem (i := 63) (by decide +kernel) rfl
theorem w_64 : Cond.selects "QuasigroveModel" yX12_layCrosses yX12_layCrosses ∈ g_GW := g_mem (i := 64) (by decide +kernel) rfl
theorem w_65 : Cond.selects "QuasigroveModel" yX12_matesOf yX12_matesOf ∈ g_GW := g_mem (i := 65) (by decide +kernel) rfl
theorem w_66 : Cond.selects "QuasigroveModel" yX12_keepLower yX12_keepLower ∈ g_GW := g_mem (i := 66) (by decide +kernel) rfl
theorem w_67 : Cond.selects "QuasigroveModel" yX12_canTake yX12_canTake ∈ g_GW := g_mem (i := 67) (by decide +kernel) rfl
theorem w_68 : Cond.selects "QuasigroveModel" yX12_winner yX12_winner ∈ g_GW := g_mem (i := 68) (by decide +kernel) rfl
theorem w_69 : Cond.selects "QuasigroveModel" yX12_layState yX12_layState ∈ g_GW := g_mem (i := 69) (by decide +kernel) rfl
theorem w_70 : Cond.selects "QuasigroveModel" yX12_freeAt yX12_freeAt ∈ g_GW := g_mem (i := 70) (by decide +kernel) rfl
theorem w_72 : Cond.initialized "Quasigrove" ∈ g_GW := g_mem (i := 72) (by decide +kernel) rfl
theorem w_73 : Cond.initialized "Quasigrove$Grid" ∈ g_GW := g_mem (i := 73) (by decide +kernel) rfl
theorem w_74 : Cond.initialized "Quasigrove$Maps" ∈ g_GW := g_mem (i := 74) (by decide +kernel) rfl
theorem w_75 : Cond.initialized "Quasigrove$Tape" ∈ g_GW := g_mem (i := 75) (by decide +kernel) rfl
theorem w_76 : Cond.initialized "Quasigrove$RowFilling" ∈ g_GW := g_mem (i := 76) (by decide +kernel) rfl
theorem w_77 : Cond.initialized "Quasigrove$Telling" ∈ g_GW := g_mem (i := 77) (by decide +kernel) rfl
theorem w_78 : Cond.initialized "Quasigrove$Symmetry" ∈ g_GW := g_mem (i := 78) (by decide +kernel) rfl
theorem w_79 : Cond.initialized "Quasigrove$Mating" ∈ g_GW := g_mem (i := 79) (by decide +kernel) rfl
theorem w_80 : Cond.initialized "QuasigroveModel" ∈ g_GW := g_mem (i := 80) (by decide +kernel) rfl
theorem w_84 : Cond.initialized "java/lang/IllegalArgumentException" ∈ g_GW := g_mem (i := 84) (by decide +kernel) rfl
theorem w_85 : Cond.initialized "java/lang/IllegalStateException" ∈ g_GW := g_mem (i := 85) (by decide +kernel) rfl
theorem w_86 : Cond.initialized "java/lang/Math" ∈ g_GW := g_mem (i := 86) (by decide +kernel) rfl
theorem w_87 : Cond.initialized "java/lang/IndexOutOfBoundsException" ∈ g_GW := g_mem (i := 87) (by decide +kernel) rfl
theorem w_88 : Cond.initialized "Quasigrove$Filling" ∈ g_GW := g_mem (i := 88) (by decide +kernel) rfl
theorem w_89 : Cond.initialized "java/lang/Integer" ∈ g_GW := g_mem (i := 89) (by decide +kernel) rfl
theorem w_90 : Cond.initialized "Quasigrove$Move" ∈ g_GW := g_mem (i := 90) (by decide +kernel) rfl
theorem w_91 : Cond.initialized "Quasigrove$Laws" ∈ g_GW := g_mem (i := 91) (by decide +kernel) rfl
theorem w_92 : Cond.initialized "Quasigrove$Game" ∈ g_GW := g_mem (i := 92) (by decide +kernel) rfl
theorem w_108 : Cond.fieldLink "Quasigrove$Grid" 9 "Quasigrove$Grid" "signs" "[I" ∈ g_GW := g_mem (i := 108) (by decide +kernel) rfl
theorem w_109 : Cond.fieldLink "Quasigrove$Grid" 15 "Quasigrove$Grid" "rowSets" "[I" ∈ g_GW := g_mem (i := 109) (by decide +kernel) rfl
theorem w_110 : Cond.fieldLink "Quasigrove$Grid" 18 "Quasigrove$Grid" "columnSets" "[I" ∈ g_GW := g_mem (i := 110) (by decide +kernel) rfl
theorem w_111 : Cond.fieldLink "Quasigrove$Grid" 21 "Quasigrove$Grid" "order" "I" ∈ g_GW := g_mem (i := 111) (by decide +kernel) rfl
theorem w_112 : Cond.fieldLinkNest "Quasigrove$Telling" 21 "Quasigrove$Grid" "order" "I" "Quasigrove" ∈ g_NW := g_memN (i := 112) (by decide +kernel) rfl
theorem w_113 : Cond.fieldLinkNest "Quasigrove$RowFilling" 19 "Quasigrove$Grid" "order" "I" "Quasigrove" ∈ g_NW := g_memN (i := 113) (by decide +kernel) rfl
theorem w_114 : Cond.fieldLinkNest "Quasigrove$Laws" 9 "Quasigrove$Grid" "order" "I" "Quasigrove" ∈ g_NW := g_memN (i := 114) (by decide +kernel) rfl
theorem w_115 : Cond.fieldLinkNest "Quasigrove$Symmetry" 36 "Quasigrove$Grid" "order" "I" "Quasigrove" ∈ g_NW := g_memN (i := 115) (by decide +kernel) rfl
theorem w_116 : Cond.fieldLinkNest "Quasigrove$Mating" 39 "Quasigrove$Grid" "order" "I" "Quasigrove" ∈ g_NW := g_memN (i := 116) (by decide +kernel) rfl
theorem w_117 : Cond.fieldLinkNest "Quasigrove$Filling" 15 "Quasigrove$Grid" "order" "I" "Quasigrove" ∈ g_NW := g_memN (i := 117) (by decide +kernel) rfl
theorem w_118 : Cond.fieldLinkNest "Quasigrove$Game" 15 "Quasigrove$Grid" "order" "I" "Quasigrove" ∈ g_NW := g_memN (i := 118) (by decide +kernel) rfl
theorem w_119 : Cond.fieldLinkNest "Quasigrove" 99 "Quasigrove$Grid" "order" "I" "Quasigrove" ∈ g_NW := g_memN (i := 119) (by decide +kernel) rfl
theorem w_120 : Cond.fieldLinkNest "Quasigrove$Tape" 40 "Quasigrove$Grid" "order" "I" "Quasigrove" ∈ g_NW := g_memN (i := 120) (by decide +kernel) rfl
theorem w_121 : Cond.fieldLink "Quasigrove$Grid" 25 "Quasigrove$Grid" "filled" "I" ∈ g_GW := g_mem (i := 121) (by decide +kernel) rfl
theorem w_122 : Cond.fieldLinkNest "Quasigrove" 121 "Quasigrove$Grid" "filled" "I" "Quasigrove" ∈ g_NW := g_memN (i := 122) (by decide +kernel) rfl
theorem w_143 : Cond.instanceMethod yX4_arrange ∈ g_GW := g_mem (i := 143) (by decide +kernel) rfl
theorem w_144 : Cond.code yX4_arrange cX4_arrange 8 none ∈ g_GW := g_mem (i := 144) (by decide +kernel) rfl
theorem w_145 : Cond.fieldLink "Quasigrove$Maps" 9 "Quasigrove$Maps" "images" "[I" ∈ g_GW := g_mem (i := 145) (by decide +kernel) rfl
theorem w_146 : Cond.fieldLink "Quasigrove$Maps" 15 "Quasigrove$Maps" "pairs" "[I" ∈ g_GW := g_mem (i := 146) (by decide +kernel) rfl
theorem w_147 : Cond.fieldLink "Quasigrove$Maps" 18 "Quasigrove$Maps" "draft" "[I" ∈ g_GW := g_mem (i := 147) (by decide +kernel) rfl
theorem w_161 : Cond.fieldLink "Quasigrove$Tape" 9 "Quasigrove$Tape" "characters" "[I" ∈ g_GW := g_mem (i := 161) (by decide +kernel) rfl
theorem w_162 : Cond.fieldLink "Quasigrove$Tape" 15 "Quasigrove$Tape" "wordsAt" "[I" ∈ g_GW := g_mem (i := 162) (by decide +kernel) rfl
theorem w_163 : Cond.fieldLink "Quasigrove$Tape" 18 "Quasigrove$Tape" "values" "[I" ∈ g_GW := g_mem (i := 163) (by decide +kernel) rfl
theorem w_164 : Cond.fieldLink "Quasigrove$Tape" 21 "Quasigrove$Tape" "length" "I" ∈ g_GW := g_mem (i := 164) (by decide +kernel) rfl
theorem w_165 : Cond.fieldLinkNest "Quasigrove" 192 "Quasigrove$Tape" "length" "I" "Quasigrove" ∈ g_NW := g_memN (i := 165) (by decide +kernel) rfl
theorem w_181 : Cond.fieldLink "Quasigrove$RowFilling" 15 "Quasigrove$RowFilling" "maps" "LQuasigrove$Maps;" ∈ g_GW := g_mem (i := 181) (by decide +kernel) rfl
theorem w_182 : Cond.fieldLink "Quasigrove$RowFilling" 9 "Quasigrove$RowFilling" "allowed" "[I" ∈ g_GW := g_mem (i := 182) (by decide +kernel) rfl
theorem w_194 : Cond.fieldLink "Quasigrove$Telling" 17 "Quasigrove$Telling" "maps" "LQuasigrove$Maps;" ∈ g_GW := g_mem (i := 194) (by decide +kernel) rfl
theorem w_195 : Cond.fieldLink "Quasigrove$Telling" 9 "Quasigrove$Telling" "trades" "[I" ∈ g_GW := g_mem (i := 195) (by decide +kernel) rfl
theorem w_196 : Cond.fieldLink "Quasigrove$Telling" 13 "Quasigrove$Telling" "kept" "I" ∈ g_GW := g_mem (i := 196) (by decide +kernel) rfl
theorem w_210 : Cond.fieldLink "Quasigrove$Symmetry" 32 "Quasigrove$Symmetry" "maps" "LQuasigrove$Maps;" ∈ g_GW := g_mem (i := 210) (by decide +kernel) rfl
theorem w_211 : Cond.fieldLink "Quasigrove$Symmetry" 9 "Quasigrove$Symmetry" "makers" "[I" ∈ g_GW := g_mem (i := 211) (by decide +kernel) rfl
theorem w_212 : Cond.fieldLink "Quasigrove$Symmetry" 15 "Quasigrove$Symmetry" "members" "[I" ∈ g_GW := g_mem (i := 212) (by decide +kernel) rfl
theorem w_213 : Cond.fieldLink "Quasigrove$Symmetry" 18 "Quasigrove$Symmetry" "isMember" "[Z" ∈ g_GW := g_mem (i := 213) (by decide +kernel) rfl
theorem w_214 : Cond.fieldLink "Quasigrove$Symmetry" 22 "Quasigrove$Symmetry" "signMap" "[I" ∈ g_GW := g_mem (i := 214) (by decide +kernel) rfl
theorem w_215 : Cond.fieldLink "Quasigrove$Symmetry" 25 "Quasigrove$Symmetry" "makerCount" "I" ∈ g_GW := g_mem (i := 215) (by decide +kernel) rfl
theorem w_216 : Cond.fieldLink "Quasigrove$Symmetry" 29 "Quasigrove$Symmetry" "memberCount" "I" ∈ g_GW := g_mem (i := 216) (by decide +kernel) rfl
theorem w_241 : Cond.fieldLink "Quasigrove$Mating" 35 "Quasigrove$Mating" "maps" "LQuasigrove$Maps;" ∈ g_GW := g_mem (i := 241) (by decide +kernel) rfl
theorem w_242 : Cond.fieldLink "Quasigrove$Mating" 9 "Quasigrove$Mating" "transversals" "[I" ∈ g_GW := g_mem (i := 242) (by decide +kernel) rfl
theorem w_243 : Cond.fieldLink "Quasigrove$Mating" 15 "Quasigrove$Mating" "chosen" "[I" ∈ g_GW := g_mem (i := 243) (by decide +kernel) rfl
theorem w_244 : Cond.fieldLink "Quasigrove$Mating" 21 "Quasigrove$Mating" "draft" "LQuasigrove$Grid;" ∈ g_GW := g_mem (i := 244) (by decide +kernel) rfl
theorem w_245 : Cond.fieldLink "Quasigrove$Mating" 25 "Quasigrove$Mating" "lowest" "LQuasigrove$Grid;" ∈ g_GW := g_mem (i := 245) (by decide +kernel) rfl
theorem w_246 : Cond.fieldLinkNest "Quasigrove" 239 "Quasigrove$Mating" "lowest" "LQuasigrove$Grid;" "Quasigrove" ∈ g_NW := g_memN (i := 246) (by decide +kernel) rfl
theorem w_247 : Cond.fieldLink "Quasigrove$Mating" 28 "Quasigrove$Mating" "found" "I" ∈ g_GW := g_mem (i := 247) (by decide +kernel) rfl
theorem w_248 : Cond.fieldLink "Quasigrove$Mating" 32 "Quasigrove$Mating" "laid" "I" ∈ g_GW := g_mem (i := 248) (by decide +kernel) rfl
theorem w_264 : Cond.fieldLink "Quasigrove" 11 "Quasigrove" "grids" "[LQuasigrove$Grid;" ∈ g_GW := g_mem (i := 264) (by decide +kernel) rfl
theorem w_265 : Cond.fieldLink "Quasigrove" 16 "Quasigrove" "work" "LQuasigrove$Grid;" ∈ g_GW := g_mem (i := 265) (by decide +kernel) rfl
theorem w_266 : Cond.fieldLink "Quasigrove" 23 "Quasigrove" "maps" "LQuasigrove$Maps;" ∈ g_GW := g_mem (i := 266) (by decide +kernel) rfl
theorem w_267 : Cond.fieldLink "Quasigrove" 30 "Quasigrove" "tape" "LQuasigrove$Tape;" ∈ g_GW := g_mem (i := 267) (by decide +kernel) rfl
theorem w_268 : Cond.fieldLink "Quasigrove" 39 "Quasigrove" "rowFilling" "LQuasigrove$RowFilling;" ∈ g_GW := g_mem (i := 268) (by decide +kernel) rfl
theorem w_269 : Cond.fieldLink "Quasigrove" 46 "Quasigrove" "telling" "LQuasigrove$Telling;" ∈ g_GW := g_mem (i := 269) (by decide +kernel) rfl
theorem w_270 : Cond.fieldLink "Quasigrove" 53 "Quasigrove" "symmetry" "LQuasigrove$Symmetry;" ∈ g_GW := g_mem (i := 270) (by decide +kernel) rfl
theorem w_271 : Cond.fieldLink "Quasigrove" 60 "Quasigrove" "mating" "LQuasigrove$Mating;" ∈ g_GW := g_mem (i := 271) (by decide +kernel) rfl
theorem w_272 : Cond.fieldLink "Quasigrove" 64 "Quasigrove" "made" "I" ∈ g_GW := g_mem (i := 272) (by decide +kernel) rfl
theorem w_293 : Cond.instanceMethod yX11_wipe ∈ g_GW := g_mem (i := 293) (by decide +kernel) rfl
theorem w_294 : Cond.selects "Quasigrove" yX11_wipe yX11_wipe ∈ g_GW := g_mem (i := 294) (by decide +kernel) rfl
theorem w_295 : Cond.code yX11_wipe cX11_wipe 2 (some .int) ∈ g_GW := g_mem (i := 295) (by decide +kernel) rfl
theorem w_297 : Cond.instanceMethod yX11_fault ∈ g_GW := g_mem (i := 297) (by decide +kernel) rfl
theorem w_298 : Cond.selects "Quasigrove" yX11_fault yX11_fault ∈ g_GW := g_mem (i := 298) (by decide +kernel) rfl
theorem w_299 : Cond.code yX11_fault cX11_fault 1 (some .int) ∈ g_GW := g_mem (i := 299) (by decide +kernel) rfl
theorem w_300 : Cond.methodLink "Quasigrove" 199 yX9_firstFault ∈ g_GW := g_mem (i := 300) (by decide +kernel) rfl
theorem w_301 : Cond.instanceMethod yX9_firstFault ∈ g_GW := g_mem (i := 301) (by decide +kernel) rfl
theorem w_302 : Cond.selects "Quasigrove$Tape" yX9_firstFault yX9_firstFault ∈ g_GW := g_mem (i := 302) (by decide +kernel) rfl
theorem w_303 : Cond.code yX9_firstFault cX9_firstFault 5 (some .int) ∈ g_GW := g_mem (i := 303) (by decide +kernel) rfl
theorem w_304 : Cond.methodLink "Quasigrove$Tape" 29 yX9_canFollow ∈ g_GW := g_mem (i := 304) (by decide +kernel) rfl
theorem w_306 : Cond.instanceMethod yX9_canFollow ∈ g_GW := g_mem (i := 306) (by decide +kernel) rfl
theorem w_307 : Cond.code yX9_canFollow cX9_canFollow 5 (some .boolean) ∈ g_GW := g_mem (i := 307) (by decide +kernel) rfl
theorem w_308 : Cond.methodLink "Quasigrove$Tape" 33 yX9_beginBracket ∈ g_GW := g_mem (i := 308) (by decide +kernel) rfl
theorem w_310 : Cond.instanceMethod yX9_beginBracket ∈ g_GW := g_mem (i := 310) (by decide +kernel) rfl
theorem w_311 : Cond.code yX9_beginBracket cX9_beginBracket 2 none ∈ g_GW := g_mem (i := 311) (by decide +kernel) rfl
theorem w_312 : Cond.methodLink "Quasigrove$Tape" 37 yX9_endWord ∈ g_GW := g_mem (i := 312) (by decide +kernel) rfl
theorem w_314 : Cond.instanceMethod yX9_endWord ∈ g_GW := g_mem (i := 314) (by decide +kernel) rfl
theorem w_315 : Cond.code yX9_endWord cX9_endWord 2 none ∈ g_GW := g_mem (i := 315) (by decide +kernel) rfl
theorem w_322 : Cond.instanceMethod yX11_grid ∈ g_GW := g_mem (i := 322) (by decide +kernel) rfl
theorem w_323 : Cond.selects "Quasigrove" yX11_grid yX11_grid ∈ g_GW := g_mem (i := 323) (by decide +kernel) rfl
theorem w_324 : Cond.code yX11_grid cX11_grid 2 (some .int) ∈ g_GW := g_mem (i := 324) (by decide +kernel) rfl
theorem w_325 : Cond.methodLink "Quasigrove" 68 yX11_isFrom ∈ g_GW := g_mem (i := 325) (by decide +kernel) rfl
theorem w_326 : Cond.static yX11_isFrom ∈ g_GW := g_mem (i := 326) (by decide +kernel) rfl
theorem w_327 : Cond.code yX11_isFrom cX11_isFrom 3 (some .boolean) ∈ g_GW := g_mem (i := 327) (by decide +kernel) rfl
theorem w_328 : Cond.methodLink "Quasigrove" 72 yX11_needArgument ∈ g_GW := g_mem (i := 328) (by decide +kernel) rfl
theorem w_329 : Cond.static yX11_needArgument ∈ g_GW := g_mem (i := 329) (by decide +kernel) rfl
theorem w_330 : Cond.code yX11_needArgument cX11_needArgument 1 none ∈ g_GW := g_mem (i := 330) (by decide +kernel) rfl
theorem w_331 : Cond.classLink "Quasigrove" 274 "java/lang/IllegalArgumentException" ∈ g_GW := g_mem (i := 331) (by decide +kernel) rfl
theorem w_399 : Cond.methodLink "Quasigrove" 76 yX11_newGrid ∈ g_GW := g_mem (i := 399) (by decide +kernel) rfl
theorem w_401 : Cond.instanceMethod yX11_newGrid ∈ g_GW := g_mem (i := 401) (by decide +kernel) rfl
theorem w_402 : Cond.code yX11_newGrid cX11_newGrid 3 (some (.object "Quasigrove$Grid")) ∈ g_GW := g_mem (i := 402) (by decide +kernel) rfl
theorem w_403 : Cond.classLink "Quasigrove" 261 "java/lang/IllegalStateException" ∈ g_GW := g_mem (i := 403) (by decide +kernel) rfl
theorem w_419 : Cond.methodLink "Quasigrove" 266 yX2_clear ∈ g_GW := g_mem (i := 419) (by decide +kernel) rfl
theorem w_420 : Cond.instanceMethod yX2_clear ∈ g_GW := g_mem (i := 420) (by decide +kernel) rfl
theorem w_421 : Cond.selects "Quasigrove$Grid" yX2_clear yX2_clear ∈ g_GW := g_mem (i := 421) (by decide +kernel) rfl
theorem w_422 : Cond.code yX2_clear cX2_clear 3 none ∈ g_GW := g_mem (i := 422) (by decide +kernel) rfl
theorem w_423 : Cond.methodLink "Quasigrove$Grid" 28 yJ9_min_7cf53 ∈ g_GW := g_mem (i := 423) (by decide +kernel) rfl
theorem w_424 : Cond.static yJ9_min_7cf53 ∈ g_GW := g_mem (i := 424) (by decide +kernel) rfl
theorem w_425 : Cond.code yJ9_min_7cf53 cJ9_min_7cf53 2 (some .int) ∈ g_GW := g_mem (i := 425) (by decide +kernel) rfl
theorem w_426 : Cond.methodLink "Quasigrove$Grid" 34 yJ9_max_7cf53 ∈ g_GW := g_mem (i := 426) (by decide +kernel) rfl
theorem w_427 : Cond.static yJ9_max_7cf53 ∈ g_GW := g_mem (i := 427) (by decide +kernel) rfl
theorem w_428 : Cond.code yJ9_max_7cf53 cJ9_max_7cf53 2 (some .int) ∈ g_GW := g_mem (i := 428) (by decide +kernel) rfl
theorem w_433 : Cond.instanceMethod yX11_linear ∈ g_GW := g_mem (i := 433) (by decide +kernel) rfl
theorem w_434 : Cond.selects "Quasigrove" yX11_linear yX11_linear ∈ g_GW := g_mem (i := 434) (by decide +kernel) rfl
theorem w_435 : Cond.code yX11_linear cX11_linear 8 (some .int) ∈ g_GW := g_mem (i := 435) (by decide +kernel) rfl
theorem w_436 : Cond.methodLink "Quasigrove" 80 yX11_reachesAll ∈ g_GW := g_mem (i := 436) (by decide +kernel) rfl
theorem w_437 : Cond.static yX11_reachesAll ∈ g_GW := g_mem (i := 437) (by decide +kernel) rfl
theorem w_438 : Cond.code yX11_reachesAll cX11_reachesAll 4 (some .boolean) ∈ g_GW := g_mem (i := 438) (by decide +kernel) rfl
theorem w_439 : Cond.methodLink "Quasigrove" 84 yX11_remainder ∈ g_GW := g_mem (i := 439) (by decide +kernel) rfl
theorem w_440 : Cond.static yX11_remainder ∈ g_GW := g_mem (i := 440) (by decide +kernel) rfl
theorem w_441 : Cond.code yX11_remainder cX11_remainder 2 (some .int) ∈ g_GW := g_mem (i := 441) (by decide +kernel) rfl
theorem w_442 : Cond.methodLink "Quasigrove" 88 yX2_set ∈ g_GW := g_mem (i := 442) (by decide +kernel) rfl
theorem w_443 : Cond.instanceMethod yX2_set ∈ g_GW := g_mem (i := 443) (by decide +kernel) rfl
theorem w_444 : Cond.selects "Quasigrove$Grid" yX2_set yX2_set ∈ g_GW := g_mem (i := 444) (by decide +kernel) rfl
theorem w_445 : Cond.code yX2_set cX2_set 5 none ∈ g_GW := g_mem (i := 445) (by decide +kernel) rfl
theorem w_446 : Cond.methodLink "Quasigrove$Grid" 41 yX2_has ∈ g_GW := g_mem (i := 446) (by decide +kernel) rfl
theorem w_447 : Cond.instanceMethod yX2_has ∈ g_GW := g_mem (i := 447) (by decide +kernel) rfl
theorem w_448 : Cond.selects "Quasigrove$Grid" yX2_has yX2_has ∈ g_GW := g_mem (i := 448) (by decide +kernel) rfl
theorem w_449 : Cond.code yX2_has cX2_has 3 (some .boolean) ∈ g_GW := g_mem (i := 449) (by decide +kernel) rfl
theorem w_450 : Cond.methodLink "Quasigrove$Grid" 37 yX2_isLine ∈ g_GW := g_mem (i := 450) (by decide +kernel) rfl
theorem w_452 : Cond.instanceMethod yX2_isLine ∈ g_GW := g_mem (i := 452) (by decide +kernel) rfl
theorem w_453 : Cond.code yX2_isLine cX2_isLine 2 (some .boolean) ∈ g_GW := g_mem (i := 453) (by decide +kernel) rfl
theorem w_459 : Cond.instanceMethod yX11_put ∈ g_GW := g_mem (i := 459) (by decide +kernel) rfl
theorem w_460 : Cond.selects "Quasigrove" yX11_put yX11_put ∈ g_GW := g_mem (i := 460) (by decide +kernel) rfl
theorem w_461 : Cond.code yX11_put cX11_put 7 (some .int) ∈ g_GW := g_mem (i := 461) (by decide +kernel) rfl
theorem w_462 : Cond.methodLink "Quasigrove" 92 yX11_gridAt ∈ g_GW := g_mem (i := 462) (by decide +kernel) rfl
theorem w_464 : Cond.instanceMethod yX11_gridAt ∈ g_GW := g_mem (i := 464) (by decide +kernel) rfl
theorem w_465 : Cond.code yX11_gridAt cX11_gridAt 2 (some (.object "Quasigrove$Grid")) ∈ g_GW := g_mem (i := 465) (by decide +kernel) rfl
theorem w_466 : Cond.classLink "Quasigrove" 254 "java/lang/IndexOutOfBoundsException" ∈ g_GW := g_mem (i := 466) (by decide +kernel) rfl
theorem w_482 : Cond.methodLink "Quasigrove" 95 yX11_needCell ∈ g_GW := g_mem (i := 482) (by decide +kernel) rfl
theorem w_483 : Cond.static yX11_needCell ∈ g_GW := g_mem (i := 483) (by decide +kernel) rfl
theorem w_484 : Cond.code yX11_needCell cX11_needCell 3 none ∈ g_GW := g_mem (i := 484) (by decide +kernel) rfl
theorem w_485 : Cond.methodLink "Quasigrove" 269 yX2_has ∈ g_GW := g_mem (i := 485) (by decide +kernel) rfl
theorem w_487 : Cond.methodLink "Quasigrove" 102 yX2_signAt ∈ g_GW := g_mem (i := 487) (by decide +kernel) rfl
theorem w_488 : Cond.instanceMethod yX2_signAt ∈ g_GW := g_mem (i := 488) (by decide +kernel) rfl
theorem w_489 : Cond.selects "Quasigrove$Grid" yX2_signAt yX2_signAt ∈ g_GW := g_mem (i := 489) (by decide +kernel) rfl
theorem w_490 : Cond.code yX2_signAt cX2_signAt 3 (some .int) ∈ g_GW := g_mem (i := 490) (by decide +kernel) rfl
theorem w_491 : Cond.methodLink "Quasigrove" 105 yX2_hasInLines ∈ g_GW := g_mem (i := 491) (by decide +kernel) rfl
theorem w_492 : Cond.instanceMethod yX2_hasInLines ∈ g_GW := g_mem (i := 492) (by decide +kernel) rfl
theorem w_493 : Cond.selects "Quasigrove$Grid" yX2_hasInLines yX2_hasInLines ∈ g_GW := g_mem (i := 493) (by decide +kernel) rfl
theorem w_494 : Cond.code yX2_hasInLines cX2_hasInLines 4 (some .boolean) ∈ g_GW := g_mem (i := 494) (by decide +kernel) rfl
theorem w_495 : Cond.methodLinkNest "Quasigrove$Grid" 52 yX11_isIn "Quasigrove" ∈ g_NW := g_memN (i := 495) (by decide +kernel) rfl
theorem w_496 : Cond.static yX11_isIn ∈ g_GW := g_mem (i := 496) (by decide +kernel) rfl
theorem w_497 : Cond.code yX11_isIn cX11_isIn 2 (some .boolean) ∈ g_GW := g_mem (i := 497) (by decide +kernel) rfl
theorem w_498 : Cond.methodLink "Quasigrove" 108 yX11_needState ∈ g_GW := g_mem (i := 498) (by decide +kernel) rfl
theorem w_499 : Cond.static yX11_needState ∈ g_GW := g_mem (i := 499) (by decide +kernel) rfl
theorem w_500 : Cond.code yX11_needState cX11_needState 1 none ∈ g_GW := g_mem (i := 500) (by decide +kernel) rfl
theorem w_506 : Cond.instanceMethod yX11_isotope ∈ g_GW := g_mem (i := 506) (by decide +kernel) rfl
theorem w_507 : Cond.selects "Quasigrove" yX11_isotope yX11_isotope ∈ g_GW := g_mem (i := 507) (by decide +kernel) rfl
theorem w_508 : Cond.code yX11_isotope cX11_isotope 13 (some .int) ∈ g_GW := g_mem (i := 508) (by decide +kernel) rfl
theorem w_509 : Cond.methodLink "Quasigrove" 111 yX4_numberOfCode ∈ g_GW := g_mem (i := 509) (by decide +kernel) rfl
theorem w_510 : Cond.instanceMethod yX4_numberOfCode ∈ g_GW := g_mem (i := 510) (by decide +kernel) rfl
theorem w_511 : Cond.selects "Quasigrove$Maps" yX4_numberOfCode yX4_numberOfCode ∈ g_GW := g_mem (i := 511) (by decide +kernel) rfl
theorem w_512 : Cond.code yX4_numberOfCode cX4_numberOfCode 5 (some .int) ∈ g_GW := g_mem (i := 512) (by decide +kernel) rfl
theorem w_513 : Cond.methodLink "Quasigrove$Maps" 28 yX4_write ∈ g_GW := g_mem (i := 513) (by decide +kernel) rfl
theorem w_514 : Cond.instanceMethod yX4_write ∈ g_GW := g_mem (i := 514) (by decide +kernel) rfl
theorem w_515 : Cond.selects "Quasigrove$Maps" yX4_write yX4_write ∈ g_GW := g_mem (i := 515) (by decide +kernel) rfl
theorem w_516 : Cond.code yX4_write cX4_write 3 none ∈ g_GW := g_mem (i := 516) (by decide +kernel) rfl
theorem w_517 : Cond.methodLink "Quasigrove$Maps" 32 yX4_numberOfDraft ∈ g_GW := g_mem (i := 517) (by decide +kernel) rfl
theorem w_518 : Cond.instanceMethod yX4_numberOfDraft ∈ g_GW := g_mem (i := 518) (by decide +kernel) rfl
theorem w_519 : Cond.selects "Quasigrove$Maps" yX4_numberOfDraft yX4_numberOfDraft ∈ g_GW := g_mem (i := 519) (by decide +kernel) rfl
theorem w_520 : Cond.code yX4_numberOfDraft cX4_numberOfDraft 7 (some .int) ∈ g_GW := g_mem (i := 520) (by decide +kernel) rfl
theorem w_521 : Cond.fieldLink "Quasigrove$Maps" 25 "Quasigrove$Maps" "FACTORIALS" "[I" ∈ g_GW := g_mem (i := 521) (by decide +kernel) rfl
theorem w_523 : Cond.methodLink "Quasigrove" 114 yX4_imageOf ∈ g_GW := g_mem (i := 523) (by decide +kernel) rfl
theorem w_524 : Cond.instanceMethod yX4_imageOf ∈ g_GW := g_mem (i := 524) (by decide +kernel) rfl
theorem w_525 : Cond.selects "Quasigrove$Maps" yX4_imageOf yX4_imageOf ∈ g_GW := g_mem (i := 525) (by decide +kernel) rfl
theorem w_526 : Cond.code yX4_imageOf cX4_imageOf 4 (some .int) ∈ g_GW := g_mem (i := 526) (by decide +kernel) rfl
theorem w_531 : Cond.instanceMethod yX11_conjugate ∈ g_GW := g_mem (i := 531) (by decide +kernel) rfl
theorem w_532 : Cond.selects "Quasigrove" yX11_conjugate yX11_conjugate ∈ g_GW := g_mem (i := 532) (by decide +kernel) rfl
theorem w_533 : Cond.code yX11_conjugate cX11_conjugate 8 (some .int) ∈ g_GW := g_mem (i := 533) (by decide +kernel) rfl
theorem w_534 : Cond.methodLink "Quasigrove" 117 yX11_setConjugate ∈ g_GW := g_mem (i := 534) (by decide +kernel) rfl
theorem w_535 : Cond.static yX11_setConjugate ∈ g_GW := g_mem (i := 535) (by decide +kernel) rfl
theorem w_536 : Cond.code yX11_setConjugate cX11_setConjugate 5 none ∈ g_GW := g_mem (i := 536) (by decide +kernel) rfl
theorem w_541 : Cond.instanceMethod yX11_cell ∈ g_GW := g_mem (i := 541) (by decide +kernel) rfl
theorem w_542 : Cond.selects "Quasigrove" yX11_cell yX11_cell ∈ g_GW := g_mem (i := 542) (by decide +kernel) rfl
theorem w_543 : Cond.code yX11_cell cX11_cell 5 (some .int) ∈ g_GW := g_mem (i := 543) (by decide +kernel) rfl
theorem w_548 : Cond.instanceMethod yX11_of ∈ g_GW := g_mem (i := 548) (by decide +kernel) rfl
theorem w_549 : Cond.selects "Quasigrove" yX11_of yX11_of ∈ g_GW := g_mem (i := 549) (by decide +kernel) rfl
theorem w_550 : Cond.code yX11_of cX11_of 4 (some .int) ∈ g_GW := g_mem (i := 550) (by decide +kernel) rfl
theorem w_551 : Cond.methodLink "Quasigrove" 124 yX2_deadCells ∈ g_GW := g_mem (i := 551) (by decide +kernel) rfl
theorem w_552 : Cond.instanceMethod yX2_deadCells ∈ g_GW := g_mem (i := 552) (by decide +kernel) rfl
theorem w_553 : Cond.selects "Quasigrove$Grid" yX2_deadCells yX2_deadCells ∈ g_GW := g_mem (i := 553) (by decide +kernel) rfl
theorem w_554 : Cond.code yX2_deadCells cX2_deadCells 4 (some .int) ∈ g_GW := g_mem (i := 554) (by decide +kernel) rfl
theorem w_555 : Cond.methodLink "Quasigrove$Grid" 45 yX2_signAt ∈ g_GW := g_mem (i := 555) (by decide +kernel) rfl
theorem w_556 : Cond.methodLink "Quasigrove$Grid" 58 yX2_optionsAt ∈ g_GW := g_mem (i := 556) (by decide +kernel) rfl
theorem w_557 : Cond.instanceMethod yX2_optionsAt ∈ g_GW := g_mem (i := 557) (by decide +kernel) rfl
theorem w_558 : Cond.selects "Quasigrove$Grid" yX2_optionsAt yX2_optionsAt ∈ g_GW := g_mem (i := 558) (by decide +kernel) rfl
theorem w_559 : Cond.code yX2_optionsAt cX2_optionsAt 3 (some .int) ∈ g_GW := g_mem (i := 559) (by decide +kernel) rfl
theorem w_560 : Cond.methodLink "Quasigrove$Grid" 48 yX2_allSigns ∈ g_GW := g_mem (i := 560) (by decide +kernel) rfl
theorem w_561 : Cond.instanceMethod yX2_allSigns ∈ g_GW := g_mem (i := 561) (by decide +kernel) rfl
theorem w_562 : Cond.selects "Quasigrove$Grid" yX2_allSigns yX2_allSigns ∈ g_GW := g_mem (i := 562) (by decide +kernel) rfl
theorem w_563 : Cond.code yX2_allSigns cX2_allSigns 1 (some .int) ∈ g_GW := g_mem (i := 563) (by decide +kernel) rfl
theorem w_568 : Cond.instanceMethod yX11_distance ∈ g_GW := g_mem (i := 568) (by decide +kernel) rfl
theorem w_569 : Cond.selects "Quasigrove" yX11_distance yX11_distance ∈ g_GW := g_mem (i := 569) (by decide +kernel) rfl
theorem w_570 : Cond.code yX11_distance cX11_distance 8 (some .int) ∈ g_GW := g_mem (i := 570) (by decide +kernel) rfl
theorem w_575 : Cond.instanceMethod yX11_turn ∈ g_GW := g_mem (i := 575) (by decide +kernel) rfl
theorem w_576 : Cond.selects "Quasigrove" yX11_turn yX11_turn ∈ g_GW := g_mem (i := 576) (by decide +kernel) rfl
theorem w_577 : Cond.code yX11_turn cX11_turn 6 (some .int) ∈ g_GW := g_mem (i := 577) (by decide +kernel) rfl
theorem w_578 : Cond.methodLink "Quasigrove" 128 yX2_isRowFull ∈ g_GW := g_mem (i := 578) (by decide +kernel) rfl
theorem w_579 : Cond.instanceMethod yX2_isRowFull ∈ g_GW := g_mem (i := 579) (by decide +kernel) rfl
theorem w_580 : Cond.selects "Quasigrove$Grid" yX2_isRowFull yX2_isRowFull ∈ g_GW := g_mem (i := 580) (by decide +kernel) rfl
theorem w_581 : Cond.code yX2_isRowFull cX2_isRowFull 2 (some .boolean) ∈ g_GW := g_mem (i := 581) (by decide +kernel) rfl
theorem w_582 : Cond.methodLink "Quasigrove" 132 yX2_turnRows ∈ g_GW := g_mem (i := 582) (by decide +kernel) rfl
theorem w_583 : Cond.instanceMethod yX2_turnRows ∈ g_GW := g_mem (i := 583) (by decide +kernel) rfl
theorem w_584 : Cond.selects "Quasigrove$Grid" yX2_turnRows yX2_turnRows ∈ g_GW := g_mem (i := 584) (by decide +kernel) rfl
theorem w_585 : Cond.code yX2_turnRows cX2_turnRows 7 (some .int) ∈ g_GW := g_mem (i := 585) (by decide +kernel) rfl
theorem w_586 : Cond.methodLink "Quasigrove$Grid" 61 yX2_columnOf ∈ g_GW := g_mem (i := 586) (by decide +kernel) rfl
theorem w_587 : Cond.instanceMethod yX2_columnOf ∈ g_GW := g_mem (i := 587) (by decide +kernel) rfl
theorem w_588 : Cond.selects "Quasigrove$Grid" yX2_columnOf yX2_columnOf ∈ g_GW := g_mem (i := 588) (by decide +kernel) rfl
theorem w_589 : Cond.code yX2_columnOf cX2_columnOf 4 (some .int) ∈ g_GW := g_mem (i := 589) (by decide +kernel) rfl
theorem w_590 : Cond.methodLink "Quasigrove$Grid" 64 yX2_exchange ∈ g_GW := g_mem (i := 590) (by decide +kernel) rfl
theorem w_592 : Cond.instanceMethod yX2_exchange ∈ g_GW := g_mem (i := 592) (by decide +kernel) rfl
theorem w_593 : Cond.code yX2_exchange cX2_exchange 5 none ∈ g_GW := g_mem (i := 593) (by decide +kernel) rfl
theorem w_598 : Cond.instanceMethod yX11_stir ∈ g_GW := g_mem (i := 598) (by decide +kernel) rfl
theorem w_599 : Cond.selects "Quasigrove" yX11_stir yX11_stir ∈ g_GW := g_mem (i := 599) (by decide +kernel) rfl
theorem w_600 : Cond.code yX11_stir cX11_stir 7 (some .int) ∈ g_GW := g_mem (i := 600) (by decide +kernel) rfl
theorem w_601 : Cond.methodLink "Quasigrove" 136 yX2_isSquare ∈ g_GW := g_mem (i := 601) (by decide +kernel) rfl
theorem w_602 : Cond.instanceMethod yX2_isSquare ∈ g_GW := g_mem (i := 602) (by decide +kernel) rfl
theorem w_603 : Cond.selects "Quasigrove$Grid" yX2_isSquare yX2_isSquare ∈ g_GW := g_mem (i := 603) (by decide +kernel) rfl
theorem w_604 : Cond.code yX2_isSquare cX2_isSquare 1 (some .boolean) ∈ g_GW := g_mem (i := 604) (by decide +kernel) rfl
theorem w_605 : Cond.methodLink "Quasigrove$Grid" 55 yX2_emptyCells ∈ g_GW := g_mem (i := 605) (by decide +kernel) rfl
theorem w_606 : Cond.instanceMethod yX2_emptyCells ∈ g_GW := g_mem (i := 606) (by decide +kernel) rfl
theorem w_607 : Cond.selects "Quasigrove$Grid" yX2_emptyCells yX2_emptyCells ∈ g_GW := g_mem (i := 607) (by decide +kernel) rfl
theorem w_608 : Cond.code yX2_emptyCells cX2_emptyCells 1 (some .int) ∈ g_GW := g_mem (i := 608) (by decide +kernel) rfl
theorem w_609 : Cond.constantLong "Quasigrove" 140 (1103515245) ∈ g_GW := g_mem (i := 609) (by decide +kernel) rfl
theorem w_610 : Cond.constantLong "Quasigrove" 142 (12345) ∈ g_GW := g_mem (i := 610) (by decide +kernel) rfl
theorem w_611 : Cond.constantLong "Quasigrove" 144 (2147483647) ∈ g_GW := g_mem (i := 611) (by decide +kernel) rfl
theorem w_612 : Cond.methodLink "Quasigrove" 146 yX11_turnBy ∈ g_GW := g_mem (i := 612) (by decide +kernel) rfl
theorem w_613 : Cond.static yX11_turnBy ∈ g_GW := g_mem (i := 613) (by decide +kernel) rfl
theorem w_614 : Cond.code yX11_turnBy cX11_turnBy 5 none ∈ g_GW := g_mem (i := 614) (by decide +kernel) rfl
theorem w_619 : Cond.instanceMethod yX11_can ∈ g_GW := g_mem (i := 619) (by decide +kernel) rfl
theorem w_620 : Cond.selects "Quasigrove" yX11_can yX11_can ∈ g_GW := g_mem (i := 620) (by decide +kernel) rfl
theorem w_621 : Cond.code yX11_can cX11_can 5 (some .int) ∈ g_GW := g_mem (i := 621) (by decide +kernel) rfl
theorem w_622 : Cond.methodLink "Quasigrove" 150 yX2_optionsAt ∈ g_GW := g_mem (i := 622) (by decide +kernel) rfl
theorem w_627 : Cond.instanceMethod yX11_fills ∈ g_GW := g_mem (i := 627) (by decide +kernel) rfl
theorem w_628 : Cond.selects "Quasigrove" yX11_fills yX11_fills ∈ g_GW := g_mem (i := 628) (by decide +kernel) rfl
theorem w_629 : Cond.code yX11_fills cX11_fills 4 (some .int) ∈ g_GW := g_mem (i := 629) (by decide +kernel) rfl
theorem w_630 : Cond.methodLink "Quasigrove" 153 yX2_copy ∈ g_GW := g_mem (i := 630) (by decide +kernel) rfl
theorem w_631 : Cond.instanceMethod yX2_copy ∈ g_GW := g_mem (i := 631) (by decide +kernel) rfl
theorem w_632 : Cond.selects "Quasigrove$Grid" yX2_copy yX2_copy ∈ g_GW := g_mem (i := 632) (by decide +kernel) rfl
theorem w_633 : Cond.code yX2_copy cX2_copy 3 none ∈ g_GW := g_mem (i := 633) (by decide +kernel) rfl
theorem w_634 : Cond.methodLink "Quasigrove" 157 yX0_squares ∈ g_GW := g_mem (i := 634) (by decide +kernel) rfl
theorem w_635 : Cond.static yX0_squares ∈ g_GW := g_mem (i := 635) (by decide +kernel) rfl
theorem w_636 : Cond.code yX0_squares cX0_squares 2 (some .int) ∈ g_GW := g_mem (i := 636) (by decide +kernel) rfl
theorem w_637 : Cond.methodLink "Quasigrove$Filling" 9 yX0_squaresFrom ∈ g_GW := g_mem (i := 637) (by decide +kernel) rfl
theorem w_638 : Cond.static yX0_squaresFrom ∈ g_GW := g_mem (i := 638) (by decide +kernel) rfl
theorem w_639 : Cond.code yX0_squaresFrom cX0_squaresFrom 9 (some .int) ∈ g_GW := g_mem (i := 639) (by decide +kernel) rfl
theorem w_640 : Cond.methodLink "Quasigrove$Filling" 37 yX0_tightestCell ∈ g_GW := g_mem (i := 640) (by decide +kernel) rfl
theorem w_641 : Cond.static yX0_tightestCell ∈ g_GW := g_mem (i := 641) (by decide +kernel) rfl
theorem w_642 : Cond.code yX0_tightestCell cX0_tightestCell 6 (some .int) ∈ g_GW := g_mem (i := 642) (by decide +kernel) rfl
theorem w_643 : Cond.methodLink "Quasigrove$Filling" 25 yX2_optionsAt ∈ g_GW := g_mem (i := 643) (by decide +kernel) rfl
theorem w_644 : Cond.methodLink "Quasigrove$Filling" 41 yJ6_bitCount_0f7a4 ∈ g_GW := g_mem (i := 644) (by decide +kernel) rfl
theorem w_645 : Cond.static yJ6_bitCount_0f7a4 ∈ g_GW := g_mem (i := 645) (by decide +kernel) rfl
theorem w_646 : Cond.code yJ6_bitCount_0f7a4 cJ6_bitCount_0f7a4 1 (some .int) ∈ g_GW := g_mem (i := 646) (by decide +kernel) rfl
theorem w_647 : Cond.constant "java/lang/Integer" 265 (1431655765) ∈ g_GW := g_mem (i := 647) (by decide +kernel) rfl
theorem w_648 : Cond.constant "java/lang/Integer" 266 (858993459) ∈ g_GW := g_mem (i := 648) (by decide +kernel) rfl
theorem w_649 : Cond.constant "java/lang/Integer" 267 (252645135) ∈ g_GW := g_mem (i := 649) (by decide +kernel) rfl
theorem w_650 : Cond.methodLink "Quasigrove$Filling" 47 yX2_signAt ∈ g_GW := g_mem (i := 650) (by decide +kernel) rfl
theorem w_651 : Cond.methodLinkNest "Quasigrove$Filling" 29 yX11_isIn "Quasigrove" ∈ g_NW := g_memN (i := 651) (by decide +kernel) rfl
theorem w_652 : Cond.methodLink "Quasigrove$Filling" 33 yX2_set ∈ g_GW := g_mem (i := 652) (by decide +kernel) rfl
theorem w_657 : Cond.instanceMethod yX11_fillsAnew ∈ g_GW := g_mem (i := 657) (by decide +kernel) rfl
theorem w_658 : Cond.selects "Quasigrove" yX11_fillsAnew yX11_fillsAnew ∈ g_GW := g_mem (i := 658) (by decide +kernel) rfl
theorem w_659 : Cond.code yX11_fillsAnew cX11_fillsAnew 4 (some .int) ∈ g_GW := g_mem (i := 659) (by decide +kernel) rfl
theorem w_660 : Cond.methodLink "Quasigrove" 163 yX7_squares ∈ g_GW := g_mem (i := 660) (by decide +kernel) rfl
theorem w_661 : Cond.instanceMethod yX7_squares ∈ g_GW := g_mem (i := 661) (by decide +kernel) rfl
theorem w_662 : Cond.selects "Quasigrove$RowFilling" yX7_squares yX7_squares ∈ g_GW := g_mem (i := 662) (by decide +kernel) rfl
theorem w_663 : Cond.code yX7_squares cX7_squares 4 (some .int) ∈ g_GW := g_mem (i := 663) (by decide +kernel) rfl
theorem w_664 : Cond.methodLink "Quasigrove$RowFilling" 25 yX7_pairsAllowed ∈ g_GW := g_mem (i := 664) (by decide +kernel) rfl
theorem w_665 : Cond.static yX7_pairsAllowed ∈ g_GW := g_mem (i := 665) (by decide +kernel) rfl
theorem w_666 : Cond.code yX7_pairsAllowed cX7_pairsAllowed 6 (some .int) ∈ g_GW := g_mem (i := 666) (by decide +kernel) rfl
theorem w_667 : Cond.methodLink "Quasigrove$RowFilling" 37 yX2_signAt ∈ g_GW := g_mem (i := 667) (by decide +kernel) rfl
theorem w_668 : Cond.methodLink "Quasigrove$RowFilling" 41 yX2_optionsAt ∈ g_GW := g_mem (i := 668) (by decide +kernel) rfl
theorem w_669 : Cond.methodLink "Quasigrove$RowFilling" 29 yX2_allSigns ∈ g_GW := g_mem (i := 669) (by decide +kernel) rfl
theorem w_670 : Cond.methodLink "Quasigrove$RowFilling" 33 yX7_squaresFrom ∈ g_GW := g_mem (i := 670) (by decide +kernel) rfl
theorem w_671 : Cond.static yX7_squaresFrom ∈ g_GW := g_mem (i := 671) (by decide +kernel) rfl
theorem w_672 : Cond.code yX7_squaresFrom cX7_squaresFrom 11 (some .int) ∈ g_GW := g_mem (i := 672) (by decide +kernel) rfl
theorem w_673 : Cond.methodLink "Quasigrove$RowFilling" 44 yX7_tightestRow ∈ g_GW := g_mem (i := 673) (by decide +kernel) rfl
theorem w_675 : Cond.instanceMethod yX7_tightestRow ∈ g_GW := g_mem (i := 675) (by decide +kernel) rfl
theorem w_676 : Cond.code yX7_tightestRow cX7_tightestRow 8 (some .int) ∈ g_GW := g_mem (i := 676) (by decide +kernel) rfl
theorem w_677 : Cond.methodLinkNest "Quasigrove$RowFilling" 61 yX11_isIn "Quasigrove" ∈ g_NW := g_memN (i := 677) (by decide +kernel) rfl
theorem w_678 : Cond.methodLink "Quasigrove$RowFilling" 65 yX7_mapsThatFit ∈ g_GW := g_mem (i := 678) (by decide +kernel) rfl
theorem w_680 : Cond.instanceMethod yX7_mapsThatFit ∈ g_GW := g_mem (i := 680) (by decide +kernel) rfl
theorem w_681 : Cond.code yX7_mapsThatFit cX7_mapsThatFit 6 (some .int) ∈ g_GW := g_mem (i := 681) (by decide +kernel) rfl
theorem w_682 : Cond.methodLink "Quasigrove$RowFilling" 48 yX4_amount ∈ g_GW := g_mem (i := 682) (by decide +kernel) rfl
theorem w_683 : Cond.instanceMethod yX4_amount ∈ g_GW := g_mem (i := 683) (by decide +kernel) rfl
theorem w_684 : Cond.selects "Quasigrove$Maps" yX4_amount yX4_amount ∈ g_GW := g_mem (i := 684) (by decide +kernel) rfl
theorem w_685 : Cond.code yX4_amount cX4_amount 2 (some .int) ∈ g_GW := g_mem (i := 685) (by decide +kernel) rfl
theorem w_686 : Cond.methodLink "Quasigrove$RowFilling" 54 yX4_pairsOf ∈ g_GW := g_mem (i := 686) (by decide +kernel) rfl
theorem w_687 : Cond.instanceMethod yX4_pairsOf ∈ g_GW := g_mem (i := 687) (by decide +kernel) rfl
theorem w_688 : Cond.selects "Quasigrove$Maps" yX4_pairsOf yX4_pairsOf ∈ g_GW := g_mem (i := 688) (by decide +kernel) rfl
theorem w_689 : Cond.code yX4_pairsOf cX4_pairsOf 3 (some .int) ∈ g_GW := g_mem (i := 689) (by decide +kernel) rfl
theorem w_690 : Cond.methodLink "Quasigrove$RowFilling" 57 yX7_fits ∈ g_GW := g_mem (i := 690) (by decide +kernel) rfl
theorem w_692 : Cond.instanceMethod yX7_fits ∈ g_GW := g_mem (i := 692) (by decide +kernel) rfl
theorem w_693 : Cond.code yX7_fits cX7_fits 4 (some .boolean) ∈ g_GW := g_mem (i := 693) (by decide +kernel) rfl
theorem w_698 : Cond.instanceMethod yX11_fill ∈ g_GW := g_mem (i := 698) (by decide +kernel) rfl
theorem w_699 : Cond.selects "Quasigrove" yX11_fill yX11_fill ∈ g_GW := g_mem (i := 699) (by decide +kernel) rfl
theorem w_700 : Cond.code yX11_fill cX11_fill 4 (some .int) ∈ g_GW := g_mem (i := 700) (by decide +kernel) rfl
theorem w_701 : Cond.methodLink "Quasigrove" 164 yX2_emptyCells ∈ g_GW := g_mem (i := 701) (by decide +kernel) rfl
theorem w_702 : Cond.methodLink "Quasigrove" 167 yX0_makeLowest ∈ g_GW := g_mem (i := 702) (by decide +kernel) rfl
theorem w_703 : Cond.static yX0_makeLowest ∈ g_GW := g_mem (i := 703) (by decide +kernel) rfl
theorem w_704 : Cond.code yX0_makeLowest cX0_makeLowest 3 none ∈ g_GW := g_mem (i := 704) (by decide +kernel) rfl
theorem w_705 : Cond.methodLink "Quasigrove$Filling" 21 yX0_setLowest ∈ g_GW := g_mem (i := 705) (by decide +kernel) rfl
theorem w_706 : Cond.static yX0_setLowest ∈ g_GW := g_mem (i := 706) (by decide +kernel) rfl
theorem w_707 : Cond.code yX0_setLowest cX0_setLowest 5 none ∈ g_GW := g_mem (i := 707) (by decide +kernel) rfl
theorem w_712 : Cond.instanceMethod yX11_forced ∈ g_GW := g_mem (i := 712) (by decide +kernel) rfl
theorem w_713 : Cond.selects "Quasigrove" yX11_forced yX11_forced ∈ g_GW := g_mem (i := 713) (by decide +kernel) rfl
theorem w_714 : Cond.code yX11_forced cX11_forced 3 (some .int) ∈ g_GW := g_mem (i := 714) (by decide +kernel) rfl
theorem w_715 : Cond.methodLink "Quasigrove" 170 yX0_firstForced ∈ g_GW := g_mem (i := 715) (by decide +kernel) rfl
theorem w_716 : Cond.static yX0_firstForced ∈ g_GW := g_mem (i := 716) (by decide +kernel) rfl
theorem w_717 : Cond.code yX0_firstForced cX0_firstForced 4 (some .int) ∈ g_GW := g_mem (i := 717) (by decide +kernel) rfl
theorem w_718 : Cond.methodLink "Quasigrove$Filling" 50 yX0_isForced ∈ g_GW := g_mem (i := 718) (by decide +kernel) rfl
theorem w_719 : Cond.static yX0_isForced ∈ g_GW := g_mem (i := 719) (by decide +kernel) rfl
theorem w_720 : Cond.code yX0_isForced cX0_isForced 5 (some .boolean) ∈ g_GW := g_mem (i := 720) (by decide +kernel) rfl
theorem w_721 : Cond.methodLink "Quasigrove$Filling" 72 yX0_isAloneInRow ∈ g_GW := g_mem (i := 721) (by decide +kernel) rfl
theorem w_722 : Cond.static yX0_isAloneInRow ∈ g_GW := g_mem (i := 722) (by decide +kernel) rfl
theorem w_723 : Cond.code yX0_isAloneInRow cX0_isAloneInRow 5 (some .boolean) ∈ g_GW := g_mem (i := 723) (by decide +kernel) rfl
theorem w_724 : Cond.methodLink "Quasigrove$Filling" 75 yX0_isAloneInColumn ∈ g_GW := g_mem (i := 724) (by decide +kernel) rfl
theorem w_725 : Cond.static yX0_isAloneInColumn ∈ g_GW := g_mem (i := 725) (by decide +kernel) rfl
theorem w_726 : Cond.code yX0_isAloneInColumn cX0_isAloneInColumn 5 (some .boolean) ∈ g_GW := g_mem (i := 726) (by decide +kernel) rfl
theorem w_727 : Cond.methodLink "Quasigrove$Filling" 54 yX6_packed ∈ g_GW := g_mem (i := 727) (by decide +kernel) rfl
theorem w_728 : Cond.static yX6_packed ∈ g_GW := g_mem (i := 728) (by decide +kernel) rfl
theorem w_729 : Cond.code yX6_packed cX6_packed 3 (some .int) ∈ g_GW := g_mem (i := 729) (by decide +kernel) rfl
theorem w_730 : Cond.methodLink "Quasigrove" 174 yX6_told ∈ g_GW := g_mem (i := 730) (by decide +kernel) rfl
theorem w_731 : Cond.static yX6_told ∈ g_GW := g_mem (i := 731) (by decide +kernel) rfl
theorem w_732 : Cond.code yX6_told cX6_told 2 (some .int) ∈ g_GW := g_mem (i := 732) (by decide +kernel) rfl
theorem w_733 : Cond.methodLink "Quasigrove$Move" 9 yX6_row ∈ g_GW := g_mem (i := 733) (by decide +kernel) rfl
theorem w_734 : Cond.static yX6_row ∈ g_GW := g_mem (i := 734) (by decide +kernel) rfl
theorem w_735 : Cond.code yX6_row cX6_row 1 (some .int) ∈ g_GW := g_mem (i := 735) (by decide +kernel) rfl
theorem w_736 : Cond.methodLink "Quasigrove$Move" 15 yX6_column ∈ g_GW := g_mem (i := 736) (by decide +kernel) rfl
theorem w_737 : Cond.static yX6_column ∈ g_GW := g_mem (i := 737) (by decide +kernel) rfl
theorem w_738 : Cond.code yX6_column cX6_column 1 (some .int) ∈ g_GW := g_mem (i := 738) (by decide +kernel) rfl
theorem w_739 : Cond.methodLink "Quasigrove$Move" 18 yX6_sign ∈ g_GW := g_mem (i := 739) (by decide +kernel) rfl
theorem w_740 : Cond.static yX6_sign ∈ g_GW := g_mem (i := 740) (by decide +kernel) rfl
theorem w_741 : Cond.code yX6_sign cX6_sign 1 (some .int) ∈ g_GW := g_mem (i := 741) (by decide +kernel) rfl
theorem w_746 : Cond.instanceMethod yX11_logic ∈ g_GW := g_mem (i := 746) (by decide +kernel) rfl
theorem w_747 : Cond.selects "Quasigrove" yX11_logic yX11_logic ∈ g_GW := g_mem (i := 747) (by decide +kernel) rfl
theorem w_748 : Cond.code yX11_logic cX11_logic 2 (some .int) ∈ g_GW := g_mem (i := 748) (by decide +kernel) rfl
theorem w_749 : Cond.methodLink "Quasigrove" 179 yX0_fillForced ∈ g_GW := g_mem (i := 749) (by decide +kernel) rfl
theorem w_750 : Cond.static yX0_fillForced ∈ g_GW := g_mem (i := 750) (by decide +kernel) rfl
theorem w_751 : Cond.code yX0_fillForced cX0_fillForced 3 (some .int) ∈ g_GW := g_mem (i := 751) (by decide +kernel) rfl
theorem w_752 : Cond.methodLink "Quasigrove$Filling" 60 yX0_firstForced ∈ g_GW := g_mem (i := 752) (by decide +kernel) rfl
theorem w_753 : Cond.methodLink "Quasigrove$Filling" 63 yX6_row ∈ g_GW := g_mem (i := 753) (by decide +kernel) rfl
theorem w_754 : Cond.methodLink "Quasigrove$Filling" 66 yX6_column ∈ g_GW := g_mem (i := 754) (by decide +kernel) rfl
theorem w_755 : Cond.methodLink "Quasigrove$Filling" 69 yX6_sign ∈ g_GW := g_mem (i := 755) (by decide +kernel) rfl
theorem w_760 : Cond.instanceMethod yX11_critical ∈ g_GW := g_mem (i := 760) (by decide +kernel) rfl
theorem w_761 : Cond.selects "Quasigrove" yX11_critical yX11_critical ∈ g_GW := g_mem (i := 761) (by decide +kernel) rfl
theorem w_762 : Cond.code yX11_critical cX11_critical 3 (some .int) ∈ g_GW := g_mem (i := 762) (by decide +kernel) rfl
theorem w_763 : Cond.methodLink "Quasigrove" 182 yX10_fewestCells ∈ g_GW := g_mem (i := 763) (by decide +kernel) rfl
theorem w_764 : Cond.instanceMethod yX10_fewestCells ∈ g_GW := g_mem (i := 764) (by decide +kernel) rfl
theorem w_765 : Cond.selects "Quasigrove$Telling" yX10_fewestCells yX10_fewestCells ∈ g_GW := g_mem (i := 765) (by decide +kernel) rfl
theorem w_766 : Cond.code yX10_fewestCells cX10_fewestCells 4 (some .int) ∈ g_GW := g_mem (i := 766) (by decide +kernel) rfl
theorem w_767 : Cond.methodLink "Quasigrove$Telling" 26 yX10_gather ∈ g_GW := g_mem (i := 767) (by decide +kernel) rfl
theorem w_768 : Cond.static yX10_gather ∈ g_GW := g_mem (i := 768) (by decide +kernel) rfl
theorem w_769 : Cond.code yX10_gather cX10_gather 7 none ∈ g_GW := g_mem (i := 769) (by decide +kernel) rfl
theorem w_770 : Cond.methodLink "Quasigrove$Telling" 34 yX10_keep ∈ g_GW := g_mem (i := 770) (by decide +kernel) rfl
theorem w_772 : Cond.instanceMethod yX10_keep ∈ g_GW := g_mem (i := 772) (by decide +kernel) rfl
theorem w_773 : Cond.code yX10_keep cX10_keep 5 none ∈ g_GW := g_mem (i := 773) (by decide +kernel) rfl
theorem w_774 : Cond.methodLink "Quasigrove$Telling" 38 yX4_amount ∈ g_GW := g_mem (i := 774) (by decide +kernel) rfl
theorem w_775 : Cond.methodLink "Quasigrove$Telling" 44 yX4_pairsOf ∈ g_GW := g_mem (i := 775) (by decide +kernel) rfl
theorem w_776 : Cond.methodLink "Quasigrove$Telling" 48 yX10_unlike ∈ g_GW := g_mem (i := 776) (by decide +kernel) rfl
theorem w_778 : Cond.instanceMethod yX10_unlike ∈ g_GW := g_mem (i := 778) (by decide +kernel) rfl
theorem w_779 : Cond.code yX10_unlike cX10_unlike 6 (some .int) ∈ g_GW := g_mem (i := 779) (by decide +kernel) rfl
theorem w_780 : Cond.methodLink "Quasigrove$Telling" 52 yX2_signAt ∈ g_GW := g_mem (i := 780) (by decide +kernel) rfl
theorem w_781 : Cond.methodLink "Quasigrove$Telling" 55 yX4_imageOf ∈ g_GW := g_mem (i := 781) (by decide +kernel) rfl
theorem w_782 : Cond.methodLink "Quasigrove$Telling" 30 yX10_someMeet ∈ g_GW := g_mem (i := 782) (by decide +kernel) rfl
theorem w_783 : Cond.static yX10_someMeet ∈ g_GW := g_mem (i := 783) (by decide +kernel) rfl
theorem w_784 : Cond.code yX10_someMeet cX10_someMeet 6 (some .boolean) ∈ g_GW := g_mem (i := 784) (by decide +kernel) rfl
theorem w_785 : Cond.methodLink "Quasigrove$Telling" 58 yX10_meetsAll ∈ g_GW := g_mem (i := 785) (by decide +kernel) rfl
theorem w_787 : Cond.instanceMethod yX10_meetsAll ∈ g_GW := g_mem (i := 787) (by decide +kernel) rfl
theorem w_788 : Cond.code yX10_meetsAll cX10_meetsAll 3 (some .boolean) ∈ g_GW := g_mem (i := 788) (by decide +kernel) rfl
theorem w_793 : Cond.instanceMethod yX11_type ∈ g_GW := g_mem (i := 793) (by decide +kernel) rfl
theorem w_794 : Cond.selects "Quasigrove" yX11_type yX11_type ∈ g_GW := g_mem (i := 794) (by decide +kernel) rfl
theorem w_795 : Cond.code yX11_type cX11_type 5 (some .int) ∈ g_GW := g_mem (i := 795) (by decide +kernel) rfl
theorem w_796 : Cond.methodLink "Quasigrove" 185 yX11_typed ∈ g_GW := g_mem (i := 796) (by decide +kernel) rfl
theorem w_797 : Cond.static yX11_typed ∈ g_GW := g_mem (i := 797) (by decide +kernel) rfl
theorem w_798 : Cond.code yX11_typed cX11_typed 3 (some .int) ∈ g_GW := g_mem (i := 798) (by decide +kernel) rfl
theorem w_799 : Cond.constantLong "Quasigrove" 281 (255) ∈ g_GW := g_mem (i := 799) (by decide +kernel) rfl
theorem w_800 : Cond.methodLink "Quasigrove" 189 yX9_isCharacter ∈ g_GW := g_mem (i := 800) (by decide +kernel) rfl
theorem w_801 : Cond.static yX9_isCharacter ∈ g_GW := g_mem (i := 801) (by decide +kernel) rfl
theorem w_802 : Cond.code yX9_isCharacter cX9_isCharacter 1 (some .boolean) ∈ g_GW := g_mem (i := 802) (by decide +kernel) rfl
theorem w_803 : Cond.methodLink "Quasigrove$Tape" 25 yX9_isLetter ∈ g_GW := g_mem (i := 803) (by decide +kernel) rfl
theorem w_804 : Cond.static yX9_isLetter ∈ g_GW := g_mem (i := 804) (by decide +kernel) rfl
theorem w_805 : Cond.code yX9_isLetter cX9_isLetter 1 (some .boolean) ∈ g_GW := g_mem (i := 805) (by decide +kernel) rfl
theorem w_806 : Cond.methodLink "Quasigrove" 195 yX9_append ∈ g_GW := g_mem (i := 806) (by decide +kernel) rfl
theorem w_807 : Cond.instanceMethod yX9_append ∈ g_GW := g_mem (i := 807) (by decide +kernel) rfl
theorem w_808 : Cond.selects "Quasigrove$Tape" yX9_append yX9_append ∈ g_GW := g_mem (i := 808) (by decide +kernel) rfl
theorem w_809 : Cond.code yX9_append cX9_append 2 none ∈ g_GW := g_mem (i := 809) (by decide +kernel) rfl
theorem w_814 : Cond.instanceMethod yX11_breaks ∈ g_GW := g_mem (i := 814) (by decide +kernel) rfl
theorem w_815 : Cond.selects "Quasigrove" yX11_breaks yX11_breaks ∈ g_GW := g_mem (i := 815) (by decide +kernel) rfl
theorem w_816 : Cond.code yX11_breaks cX11_breaks 3 (some .int) ∈ g_GW := g_mem (i := 816) (by decide +kernel) rfl
theorem w_817 : Cond.methodLink "Quasigrove" 202 yX9_firstBreak ∈ g_GW := g_mem (i := 817) (by decide +kernel) rfl
theorem w_818 : Cond.instanceMethod yX9_firstBreak ∈ g_GW := g_mem (i := 818) (by decide +kernel) rfl
theorem w_819 : Cond.selects "Quasigrove$Tape" yX9_firstBreak yX9_firstBreak ∈ g_GW := g_mem (i := 819) (by decide +kernel) rfl
theorem w_820 : Cond.code yX9_firstBreak cX9_firstBreak 9 (some .int) ∈ g_GW := g_mem (i := 820) (by decide +kernel) rfl
theorem w_821 : Cond.methodLink "Quasigrove$Tape" 45 yX9_hasCharacter ∈ g_GW := g_mem (i := 821) (by decide +kernel) rfl
theorem w_823 : Cond.instanceMethod yX9_hasCharacter ∈ g_GW := g_mem (i := 823) (by decide +kernel) rfl
theorem w_824 : Cond.code yX9_hasCharacter cX9_hasCharacter 3 (some .boolean) ∈ g_GW := g_mem (i := 824) (by decide +kernel) rfl
theorem w_825 : Cond.methodLink "Quasigrove$Tape" 48 yX9_holds ∈ g_GW := g_mem (i := 825) (by decide +kernel) rfl
theorem w_827 : Cond.instanceMethod yX9_holds ∈ g_GW := g_mem (i := 827) (by decide +kernel) rfl
theorem w_828 : Cond.code yX9_holds cX9_holds 8 (some .boolean) ∈ g_GW := g_mem (i := 828) (by decide +kernel) rfl
theorem w_829 : Cond.methodLink "Quasigrove$Tape" 52 yX2_signAt ∈ g_GW := g_mem (i := 829) (by decide +kernel) rfl
theorem w_834 : Cond.instanceMethod yX11_unit ∈ g_GW := g_mem (i := 834) (by decide +kernel) rfl
theorem w_835 : Cond.selects "Quasigrove" yX11_unit yX11_unit ∈ g_GW := g_mem (i := 835) (by decide +kernel) rfl
theorem w_836 : Cond.code yX11_unit cX11_unit 3 (some .int) ∈ g_GW := g_mem (i := 836) (by decide +kernel) rfl
theorem w_837 : Cond.methodLink "Quasigrove" 205 yX3_unitOf ∈ g_GW := g_mem (i := 837) (by decide +kernel) rfl
theorem w_838 : Cond.static yX3_unitOf ∈ g_GW := g_mem (i := 838) (by decide +kernel) rfl
theorem w_839 : Cond.code yX3_unitOf cX3_unitOf 2 (some .int) ∈ g_GW := g_mem (i := 839) (by decide +kernel) rfl
theorem w_840 : Cond.methodLink "Quasigrove$Laws" 15 yX3_isUnit ∈ g_GW := g_mem (i := 840) (by decide +kernel) rfl
theorem w_841 : Cond.static yX3_isUnit ∈ g_GW := g_mem (i := 841) (by decide +kernel) rfl
theorem w_842 : Cond.code yX3_isUnit cX3_isUnit 3 (some .boolean) ∈ g_GW := g_mem (i := 842) (by decide +kernel) rfl
theorem w_843 : Cond.methodLink "Quasigrove$Laws" 21 yX2_signAt ∈ g_GW := g_mem (i := 843) (by decide +kernel) rfl
theorem w_848 : Cond.instanceMethod yX11_nucleus ∈ g_GW := g_mem (i := 848) (by decide +kernel) rfl
theorem w_849 : Cond.selects "Quasigrove" yX11_nucleus yX11_nucleus ∈ g_GW := g_mem (i := 849) (by decide +kernel) rfl
theorem w_850 : Cond.code yX11_nucleus cX11_nucleus 4 (some .int) ∈ g_GW := g_mem (i := 850) (by decide +kernel) rfl
theorem w_851 : Cond.methodLink "Quasigrove" 210 yX3_nucleusOf ∈ g_GW := g_mem (i := 851) (by decide +kernel) rfl
theorem w_852 : Cond.static yX3_nucleusOf ∈ g_GW := g_mem (i := 852) (by decide +kernel) rfl
theorem w_853 : Cond.code yX3_nucleusOf cX3_nucleusOf 4 (some .int) ∈ g_GW := g_mem (i := 853) (by decide +kernel) rfl
theorem w_854 : Cond.methodLink "Quasigrove$Laws" 25 yX3_isInNucleus ∈ g_GW := g_mem (i := 854) (by decide +kernel) rfl
theorem w_855 : Cond.static yX3_isInNucleus ∈ g_GW := g_mem (i := 855) (by decide +kernel) rfl
theorem w_856 : Cond.code yX3_isInNucleus cX3_isInNucleus 3 (some .boolean) ∈ g_GW := g_mem (i := 856) (by decide +kernel) rfl
theorem w_857 : Cond.methodLink "Quasigrove$Laws" 29 yX3_associatesAt ∈ g_GW := g_mem (i := 857) (by decide +kernel) rfl
theorem w_858 : Cond.static yX3_associatesAt ∈ g_GW := g_mem (i := 858) (by decide +kernel) rfl
theorem w_859 : Cond.code yX3_associatesAt cX3_associatesAt 6 (some .boolean) ∈ g_GW := g_mem (i := 859) (by decide +kernel) rfl
theorem w_860 : Cond.methodLink "Quasigrove$Laws" 35 yX3_associates ∈ g_GW := g_mem (i := 860) (by decide +kernel) rfl
theorem w_861 : Cond.static yX3_associates ∈ g_GW := g_mem (i := 861) (by decide +kernel) rfl
theorem w_862 : Cond.code yX3_associates cX3_associates 4 (some .boolean) ∈ g_GW := g_mem (i := 862) (by decide +kernel) rfl
theorem w_863 : Cond.methodLink "Quasigrove$Laws" 32 yX3_commutes ∈ g_GW := g_mem (i := 863) (by decide +kernel) rfl
theorem w_864 : Cond.static yX3_commutes ∈ g_GW := g_mem (i := 864) (by decide +kernel) rfl
theorem w_865 : Cond.code yX3_commutes cX3_commutes 3 (some .boolean) ∈ g_GW := g_mem (i := 865) (by decide +kernel) rfl
theorem w_870 : Cond.instanceMethod yX11_closed ∈ g_GW := g_mem (i := 870) (by decide +kernel) rfl
theorem w_871 : Cond.selects "Quasigrove" yX11_closed yX11_closed ∈ g_GW := g_mem (i := 871) (by decide +kernel) rfl
theorem w_872 : Cond.code yX11_closed cX11_closed 4 (some .int) ∈ g_GW := g_mem (i := 872) (by decide +kernel) rfl
theorem w_873 : Cond.methodLink "Quasigrove" 213 yX2_allSigns ∈ g_GW := g_mem (i := 873) (by decide +kernel) rfl
theorem w_874 : Cond.methodLink "Quasigrove" 216 yX3_closedFrom ∈ g_GW := g_mem (i := 874) (by decide +kernel) rfl
theorem w_875 : Cond.static yX3_closedFrom ∈ g_GW := g_mem (i := 875) (by decide +kernel) rfl
theorem w_876 : Cond.code yX3_closedFrom cX3_closedFrom 4 (some .int) ∈ g_GW := g_mem (i := 876) (by decide +kernel) rfl
theorem w_877 : Cond.methodLink "Quasigrove$Laws" 39 yX3_productsOf ∈ g_GW := g_mem (i := 877) (by decide +kernel) rfl
theorem w_878 : Cond.static yX3_productsOf ∈ g_GW := g_mem (i := 878) (by decide +kernel) rfl
theorem w_879 : Cond.code yX3_productsOf cX3_productsOf 5 (some .int) ∈ g_GW := g_mem (i := 879) (by decide +kernel) rfl
theorem w_880 : Cond.methodLinkNest "Quasigrove$Laws" 47 yX11_isIn "Quasigrove" ∈ g_NW := g_memN (i := 880) (by decide +kernel) rfl
theorem w_885 : Cond.instanceMethod yX11_count ∈ g_GW := g_mem (i := 885) (by decide +kernel) rfl
theorem w_886 : Cond.selects "Quasigrove" yX11_count yX11_count ∈ g_GW := g_mem (i := 886) (by decide +kernel) rfl
theorem w_887 : Cond.code yX11_count cX11_count 4 (some .int) ∈ g_GW := g_mem (i := 887) (by decide +kernel) rfl
theorem w_888 : Cond.methodLink "Quasigrove" 219 yX3_closedSets ∈ g_GW := g_mem (i := 888) (by decide +kernel) rfl
theorem w_889 : Cond.static yX3_closedSets ∈ g_GW := g_mem (i := 889) (by decide +kernel) rfl
theorem w_890 : Cond.code yX3_closedSets cX3_closedSets 3 (some .int) ∈ g_GW := g_mem (i := 890) (by decide +kernel) rfl
theorem w_891 : Cond.methodLink "Quasigrove$Laws" 43 yX2_allSigns ∈ g_GW := g_mem (i := 891) (by decide +kernel) rfl
theorem w_892 : Cond.methodLink "Quasigrove" 222 yX8_automorphisms ∈ g_GW := g_mem (i := 892) (by decide +kernel) rfl
theorem w_893 : Cond.instanceMethod yX8_automorphisms ∈ g_GW := g_mem (i := 893) (by decide +kernel) rfl
theorem w_894 : Cond.selects "Quasigrove$Symmetry" yX8_automorphisms yX8_automorphisms ∈ g_GW := g_mem (i := 894) (by decide +kernel) rfl
theorem w_895 : Cond.code yX8_automorphisms cX8_automorphisms 4 (some .int) ∈ g_GW := g_mem (i := 895) (by decide +kernel) rfl
theorem w_896 : Cond.methodLink "Quasigrove$Symmetry" 41 yX4_amount ∈ g_GW := g_mem (i := 896) (by decide +kernel) rfl
theorem w_897 : Cond.methodLink "Quasigrove$Symmetry" 47 yX8_keepsProducts ∈ g_GW := g_mem (i := 897) (by decide +kernel) rfl
theorem w_899 : Cond.instanceMethod yX8_keepsProducts ∈ g_GW := g_mem (i := 899) (by decide +kernel) rfl
theorem w_900 : Cond.code yX8_keepsProducts cX8_keepsProducts 6 (some .boolean) ∈ g_GW := g_mem (i := 900) (by decide +kernel) rfl
theorem w_901 : Cond.methodLink "Quasigrove$Symmetry" 51 yX4_imageOf ∈ g_GW := g_mem (i := 901) (by decide +kernel) rfl
theorem w_902 : Cond.methodLink "Quasigrove$Symmetry" 55 yX2_signAt ∈ g_GW := g_mem (i := 902) (by decide +kernel) rfl
theorem w_903 : Cond.methodLink "Quasigrove" 225 yX8_groupSize ∈ g_GW := g_mem (i := 903) (by decide +kernel) rfl
theorem w_904 : Cond.instanceMethod yX8_groupSize ∈ g_GW := g_mem (i := 904) (by decide +kernel) rfl
theorem w_905 : Cond.selects "Quasigrove$Symmetry" yX8_groupSize yX8_groupSize ∈ g_GW := g_mem (i := 905) (by decide +kernel) rfl
theorem w_906 : Cond.code yX8_groupSize cX8_groupSize 6 (some .int) ∈ g_GW := g_mem (i := 906) (by decide +kernel) rfl
theorem w_907 : Cond.methodLink "Quasigrove$Symmetry" 58 yX8_rowMap ∈ g_GW := g_mem (i := 907) (by decide +kernel) rfl
theorem w_909 : Cond.instanceMethod yX8_rowMap ∈ g_GW := g_mem (i := 909) (by decide +kernel) rfl
theorem w_910 : Cond.code yX8_rowMap cX8_rowMap 4 (some .int) ∈ g_GW := g_mem (i := 910) (by decide +kernel) rfl
theorem w_911 : Cond.methodLink "Quasigrove$Symmetry" 79 yX4_write ∈ g_GW := g_mem (i := 911) (by decide +kernel) rfl
theorem w_912 : Cond.methodLink "Quasigrove$Symmetry" 83 yX4_numberOfDraft ∈ g_GW := g_mem (i := 912) (by decide +kernel) rfl
theorem w_913 : Cond.methodLink "Quasigrove$Symmetry" 62 yX8_addMaker ∈ g_GW := g_mem (i := 913) (by decide +kernel) rfl
theorem w_915 : Cond.instanceMethod yX8_addMaker ∈ g_GW := g_mem (i := 915) (by decide +kernel) rfl
theorem w_916 : Cond.code yX8_addMaker cX8_addMaker 2 none ∈ g_GW := g_mem (i := 916) (by decide +kernel) rfl
theorem w_917 : Cond.methodLink "Quasigrove$Symmetry" 66 yX8_columnMap ∈ g_GW := g_mem (i := 917) (by decide +kernel) rfl
theorem w_919 : Cond.instanceMethod yX8_columnMap ∈ g_GW := g_mem (i := 919) (by decide +kernel) rfl
theorem w_920 : Cond.code yX8_columnMap cX8_columnMap 4 (some .int) ∈ g_GW := g_mem (i := 920) (by decide +kernel) rfl
theorem w_921 : Cond.methodLink "Quasigrove$Symmetry" 69 yX8_clearMembers ∈ g_GW := g_mem (i := 921) (by decide +kernel) rfl
theorem w_923 : Cond.instanceMethod yX8_clearMembers ∈ g_GW := g_mem (i := 923) (by decide +kernel) rfl
theorem w_924 : Cond.code yX8_clearMembers cX8_clearMembers 2 none ∈ g_GW := g_mem (i := 924) (by decide +kernel) rfl
theorem w_925 : Cond.methodLink "Quasigrove$Symmetry" 72 yX8_addMember ∈ g_GW := g_mem (i := 925) (by decide +kernel) rfl
theorem w_927 : Cond.instanceMethod yX8_addMember ∈ g_GW := g_mem (i := 927) (by decide +kernel) rfl
theorem w_928 : Cond.code yX8_addMember cX8_addMember 2 none ∈ g_GW := g_mem (i := 928) (by decide +kernel) rfl
theorem w_929 : Cond.methodLink "Quasigrove$Symmetry" 75 yX4_oneBehindOther ∈ g_GW := g_mem (i := 929) (by decide +kernel) rfl
theorem w_930 : Cond.instanceMethod yX4_oneBehindOther ∈ g_GW := g_mem (i := 930) (by decide +kernel) rfl
theorem w_931 : Cond.selects "Quasigrove$Maps" yX4_oneBehindOther yX4_oneBehindOther ∈ g_GW := g_mem (i := 931) (by decide +kernel) rfl
theorem w_932 : Cond.code yX4_oneBehindOther cX4_oneBehindOther 5 (some .int) ∈ g_GW := g_mem (i := 932) (by decide +kernel) rfl
theorem w_933 : Cond.methodLink "Quasigrove$Maps" 36 yX4_imageOf ∈ g_GW := g_mem (i := 933) (by decide +kernel) rfl
theorem w_938 : Cond.instanceMethod yX11_isotopies ∈ g_GW := g_mem (i := 938) (by decide +kernel) rfl
theorem w_939 : Cond.selects "Quasigrove" yX11_isotopies yX11_isotopies ∈ g_GW := g_mem (i := 939) (by decide +kernel) rfl
theorem w_940 : Cond.code yX11_isotopies cX11_isotopies 5 (some .int) ∈ g_GW := g_mem (i := 940) (by decide +kernel) rfl
theorem w_941 : Cond.methodLink "Quasigrove" 229 yX8_isotopiesBetween ∈ g_GW := g_mem (i := 941) (by decide +kernel) rfl
theorem w_942 : Cond.instanceMethod yX8_isotopiesBetween ∈ g_GW := g_mem (i := 942) (by decide +kernel) rfl
theorem w_943 : Cond.selects "Quasigrove$Symmetry" yX8_isotopiesBetween yX8_isotopiesBetween ∈ g_GW := g_mem (i := 943) (by decide +kernel) rfl
theorem w_944 : Cond.code yX8_isotopiesBetween cX8_isotopiesBetween 6 (some .int) ∈ g_GW := g_mem (i := 944) (by decide +kernel) rfl
theorem w_945 : Cond.methodLink "Quasigrove$Symmetry" 86 yX8_mapSigns ∈ g_GW := g_mem (i := 945) (by decide +kernel) rfl
theorem w_947 : Cond.instanceMethod yX8_mapSigns ∈ g_GW := g_mem (i := 947) (by decide +kernel) rfl
theorem w_948 : Cond.code yX8_mapSigns cX8_mapSigns 7 none ∈ g_GW := g_mem (i := 948) (by decide +kernel) rfl
theorem w_949 : Cond.methodLink "Quasigrove$Symmetry" 90 yX8_bringsAllColumns ∈ g_GW := g_mem (i := 949) (by decide +kernel) rfl
theorem w_951 : Cond.instanceMethod yX8_bringsAllColumns ∈ g_GW := g_mem (i := 951) (by decide +kernel) rfl
theorem w_952 : Cond.code yX8_bringsAllColumns cX8_bringsAllColumns 7 (some .boolean) ∈ g_GW := g_mem (i := 952) (by decide +kernel) rfl
theorem w_953 : Cond.methodLink "Quasigrove$Symmetry" 94 yX8_mapped ∈ g_GW := g_mem (i := 953) (by decide +kernel) rfl
theorem w_955 : Cond.instanceMethod yX8_mapped ∈ g_GW := g_mem (i := 955) (by decide +kernel) rfl
theorem w_956 : Cond.code yX8_mapped cX8_mapped 2 (some .int) ∈ g_GW := g_mem (i := 956) (by decide +kernel) rfl
theorem w_957 : Cond.methodLink "Quasigrove$Symmetry" 97 yX2_columnOf ∈ g_GW := g_mem (i := 957) (by decide +kernel) rfl
theorem w_962 : Cond.instanceMethod yX11_transversals ∈ g_GW := g_mem (i := 962) (by decide +kernel) rfl
theorem w_963 : Cond.selects "Quasigrove" yX11_transversals yX11_transversals ∈ g_GW := g_mem (i := 963) (by decide +kernel) rfl
theorem w_964 : Cond.code yX11_transversals cX11_transversals 3 (some .int) ∈ g_GW := g_mem (i := 964) (by decide +kernel) rfl
theorem w_965 : Cond.methodLink "Quasigrove" 233 yX5_findTransversals ∈ g_GW := g_mem (i := 965) (by decide +kernel) rfl
theorem w_966 : Cond.instanceMethod yX5_findTransversals ∈ g_GW := g_mem (i := 966) (by decide +kernel) rfl
theorem w_967 : Cond.selects "Quasigrove$Mating" yX5_findTransversals yX5_findTransversals ∈ g_GW := g_mem (i := 967) (by decide +kernel) rfl
theorem w_968 : Cond.code yX5_findTransversals cX5_findTransversals 3 (some .int) ∈ g_GW := g_mem (i := 968) (by decide +kernel) rfl
theorem w_969 : Cond.methodLink "Quasigrove$Mating" 42 yX4_amount ∈ g_GW := g_mem (i := 969) (by decide +kernel) rfl
theorem w_970 : Cond.methodLink "Quasigrove$Mating" 48 yX5_hasAllSigns ∈ g_GW := g_mem (i := 970) (by decide +kernel) rfl
theorem w_972 : Cond.instanceMethod yX5_hasAllSigns ∈ g_GW := g_mem (i := 972) (by decide +kernel) rfl
theorem w_973 : Cond.code yX5_hasAllSigns cX5_hasAllSigns 5 (some .boolean) ∈ g_GW := g_mem (i := 973) (by decide +kernel) rfl
theorem w_974 : Cond.methodLink "Quasigrove$Mating" 52 yX4_imageOf ∈ g_GW := g_mem (i := 974) (by decide +kernel) rfl
theorem w_975 : Cond.methodLink "Quasigrove$Mating" 56 yX2_signAt ∈ g_GW := g_mem (i := 975) (by decide +kernel) rfl
theorem w_976 : Cond.methodLink "Quasigrove$Mating" 59 yX2_allSigns ∈ g_GW := g_mem (i := 976) (by decide +kernel) rfl
theorem w_981 : Cond.instanceMethod yX11_mates ∈ g_GW := g_mem (i := 981) (by decide +kernel) rfl
theorem w_982 : Cond.selects "Quasigrove" yX11_mates yX11_mates ∈ g_GW := g_mem (i := 982) (by decide +kernel) rfl
theorem w_983 : Cond.code yX11_mates cX11_mates 3 (some .int) ∈ g_GW := g_mem (i := 983) (by decide +kernel) rfl
theorem w_984 : Cond.methodLink "Quasigrove" 236 yX5_findMates ∈ g_GW := g_mem (i := 984) (by decide +kernel) rfl
theorem w_985 : Cond.instanceMethod yX5_findMates ∈ g_GW := g_mem (i := 985) (by decide +kernel) rfl
theorem w_986 : Cond.selects "Quasigrove$Mating" yX5_findMates yX5_findMates ∈ g_GW := g_mem (i := 986) (by decide +kernel) rfl
theorem w_987 : Cond.code yX5_findMates cX5_findMates 2 (some .int) ∈ g_GW := g_mem (i := 987) (by decide +kernel) rfl
theorem w_988 : Cond.methodLink "Quasigrove$Mating" 63 yX5_findTransversals ∈ g_GW := g_mem (i := 988) (by decide +kernel) rfl
theorem w_989 : Cond.methodLink "Quasigrove$Mating" 67 yX5_layFrom ∈ g_GW := g_mem (i := 989) (by decide +kernel) rfl
theorem w_990 : Cond.static yX5_layFrom ∈ g_GW := g_mem (i := 990) (by decide +kernel) rfl
theorem w_991 : Cond.code yX5_layFrom cX5_layFrom 7 none ∈ g_GW := g_mem (i := 991) (by decide +kernel) rfl
theorem w_992 : Cond.methodLink "Quasigrove$Mating" 71 yX5_keepLower ∈ g_GW := g_mem (i := 992) (by decide +kernel) rfl
theorem w_994 : Cond.instanceMethod yX5_keepLower ∈ g_GW := g_mem (i := 994) (by decide +kernel) rfl
theorem w_995 : Cond.code yX5_keepLower cX5_keepLower 4 none ∈ g_GW := g_mem (i := 995) (by decide +kernel) rfl
theorem w_996 : Cond.methodLink "Quasigrove$Mating" 78 yX2_clear ∈ g_GW := g_mem (i := 996) (by decide +kernel) rfl
theorem w_997 : Cond.methodLink "Quasigrove$Mating" 81 yX2_set ∈ g_GW := g_mem (i := 997) (by decide +kernel) rfl
theorem w_998 : Cond.methodLink "Quasigrove$Mating" 85 yX2_isLowerThan ∈ g_GW := g_mem (i := 998) (by decide +kernel) rfl
theorem w_999 : Cond.instanceMethod yX2_isLowerThan ∈ g_GW := g_mem (i := 999) (by decide +kernel) rfl
theorem w_1000 : Cond.selects "Quasigrove$Grid" yX2_isLowerThan yX2_isLowerThan ∈ g_GW := g_mem (i := 1000) (by decide +kernel) rfl
theorem w_1001 : Cond.code yX2_isLowerThan cX2_isLowerThan 3 (some .boolean) ∈ g_GW := g_mem (i := 1001) (by decide +kernel) rfl
theorem w_1002 : Cond.methodLink "Quasigrove$Mating" 89 yX2_copy ∈ g_GW := g_mem (i := 1002) (by decide +kernel) rfl
theorem w_1003 : Cond.methodLink "Quasigrove$Mating" 75 yX4_pairsOf ∈ g_GW := g_mem (i := 1003) (by decide +kernel) rfl
theorem w_1008 : Cond.instanceMethod yX11_mate ∈ g_GW := g_mem (i := 1008) (by decide +kernel) rfl
theorem w_1009 : Cond.selects "Quasigrove" yX11_mate yX11_mate ∈ g_GW := g_mem (i := 1009) (by decide +kernel) rfl
theorem w_1010 : Cond.code yX11_mate cX11_mate 3 (some .int) ∈ g_GW := g_mem (i := 1010) (by decide +kernel) rfl
theorem w_1015 : Cond.instanceMethod yX11_areMates ∈ g_GW := g_mem (i := 1015) (by decide +kernel) rfl
theorem w_1016 : Cond.selects "Quasigrove" yX11_areMates yX11_areMates ∈ g_GW := g_mem (i := 1016) (by decide +kernel) rfl
theorem w_1017 : Cond.code yX11_areMates cX11_areMates 5 (some .boolean) ∈ g_GW := g_mem (i := 1017) (by decide +kernel) rfl
theorem w_1018 : Cond.methodLink "Quasigrove" 242 yX5_haveUnlikePairs ∈ g_GW := g_mem (i := 1018) (by decide +kernel) rfl
theorem w_1019 : Cond.static yX5_haveUnlikePairs ∈ g_GW := g_mem (i := 1019) (by decide +kernel) rfl
theorem w_1020 : Cond.code yX5_haveUnlikePairs cX5_haveUnlikePairs 6 (some .boolean) ∈ g_GW := g_mem (i := 1020) (by decide +kernel) rfl
theorem w_1021 : Cond.methodLinkNest "Quasigrove$Mating" 93 yX11_isIn "Quasigrove" ∈ g_NW := g_memN (i := 1021) (by decide +kernel) rfl
theorem w_1026 : Cond.instanceMethod yX11_parity ∈ g_GW := g_mem (i := 1026) (by decide +kernel) rfl
theorem w_1027 : Cond.selects "Quasigrove" yX11_parity yX11_parity ∈ g_GW := g_mem (i := 1027) (by decide +kernel) rfl
theorem w_1028 : Cond.code yX11_parity cX11_parity 4 (some .int) ∈ g_GW := g_mem (i := 1028) (by decide +kernel) rfl
theorem w_1029 : Cond.methodLink "Quasigrove" 246 yX3_parityOf ∈ g_GW := g_mem (i := 1029) (by decide +kernel) rfl
theorem w_1030 : Cond.static yX3_parityOf ∈ g_GW := g_mem (i := 1030) (by decide +kernel) rfl
theorem w_1031 : Cond.code yX3_parityOf cX3_parityOf 6 (some .int) ∈ g_GW := g_mem (i := 1031) (by decide +kernel) rfl
theorem w_1032 : Cond.methodLink "Quasigrove$Laws" 51 yX3_entry ∈ g_GW := g_mem (i := 1032) (by decide +kernel) rfl
theorem w_1033 : Cond.static yX3_entry ∈ g_GW := g_mem (i := 1033) (by decide +kernel) rfl
theorem w_1034 : Cond.code yX3_entry cX3_entry 4 (some .int) ∈ g_GW := g_mem (i := 1034) (by decide +kernel) rfl
theorem w_1035 : Cond.methodLink "Quasigrove$Laws" 55 yX2_columnOf ∈ g_GW := g_mem (i := 1035) (by decide +kernel) rfl
theorem w_1040 : Cond.instanceMethod yX11_wins ∈ g_GW := g_mem (i := 1040) (by decide +kernel) rfl
theorem w_1041 : Cond.selects "Quasigrove" yX11_wins yX11_wins ∈ g_GW := g_mem (i := 1041) (by decide +kernel) rfl
theorem w_1042 : Cond.code yX11_wins cX11_wins 3 (some .int) ∈ g_GW := g_mem (i := 1042) (by decide +kernel) rfl
theorem w_1043 : Cond.methodLink "Quasigrove" 249 yX1_winningMove ∈ g_GW := g_mem (i := 1043) (by decide +kernel) rfl
theorem w_1044 : Cond.static yX1_winningMove ∈ g_GW := g_mem (i := 1044) (by decide +kernel) rfl
theorem w_1045 : Cond.code yX1_winningMove cX1_winningMove 1 (some .int) ∈ g_GW := g_mem (i := 1045) (by decide +kernel) rfl
theorem w_1046 : Cond.methodLink "Quasigrove$Game" 9 yX1_winningFrom ∈ g_GW := g_mem (i := 1046) (by decide +kernel) rfl
theorem w_1047 : Cond.static yX1_winningFrom ∈ g_GW := g_mem (i := 1047) (by decide +kernel) rfl
theorem w_1048 : Cond.code yX1_winningFrom cX1_winningFrom 6 (some .int) ∈ g_GW := g_mem (i := 1048) (by decide +kernel) rfl
theorem w_1049 : Cond.methodLink "Quasigrove$Game" 21 yX2_optionsAt ∈ g_GW := g_mem (i := 1049) (by decide +kernel) rfl
theorem w_1050 : Cond.methodLinkNest "Quasigrove$Game" 25 yX11_isIn "Quasigrove" ∈ g_NW := g_memN (i := 1050) (by decide +kernel) rfl
theorem w_1051 : Cond.methodLink "Quasigrove$Game" 29 yX1_winsBy ∈ g_GW := g_mem (i := 1051) (by decide +kernel) rfl
theorem w_1052 : Cond.static yX1_winsBy ∈ g_GW := g_mem (i := 1052) (by decide +kernel) rfl
theorem w_1053 : Cond.code yX1_winsBy cX1_winsBy 6 (some .boolean) ∈ g_GW := g_mem (i := 1053) (by decide +kernel) rfl
theorem w_1054 : Cond.methodLink "Quasigrove$Game" 39 yX2_set ∈ g_GW := g_mem (i := 1054) (by decide +kernel) rfl
theorem w_1055 : Cond.methodLink "Quasigrove$Game" 33 yX6_packed ∈ g_GW := g_mem (i := 1055) (by decide +kernel) rfl
theorem w_1063 : Cond.fieldLink "QuasigroveModel" 72 "QuasigroveModel" "thrown" "I" ∈ g_GW := g_mem (i := 1063) (by decide +kernel) rfl
theorem w_1064 : Cond.fieldLink "QuasigroveModel" 76 "QuasigroveModel" "gridMany" "I" ∈ g_GW := g_mem (i := 1064) (by decide +kernel) rfl
theorem w_1065 : Cond.fieldLink "QuasigroveModel" 7 "QuasigroveModel" "orders" "[I" ∈ g_GW := g_mem (i := 1065) (by decide +kernel) rfl
theorem w_1066 : Cond.fieldLink "QuasigroveModel" 13 "QuasigroveModel" "signs" "[I" ∈ g_GW := g_mem (i := 1066) (by decide +kernel) rfl
theorem w_1067 : Cond.fieldLink "QuasigroveModel" 173 "QuasigroveModel" "tapeMany" "I" ∈ g_GW := g_mem (i := 1067) (by decide +kernel) rfl
theorem w_1068 : Cond.fieldLink "QuasigroveModel" 16 "QuasigroveModel" "tape" "[I" ∈ g_GW := g_mem (i := 1068) (by decide +kernel) rfl
theorem w_1069 : Cond.fieldLink "QuasigroveModel" 19 "QuasigroveModel" "got" "[I" ∈ g_GW := g_mem (i := 1069) (by decide +kernel) rfl
theorem w_1070 : Cond.fieldLink "QuasigroveModel" 22 "QuasigroveModel" "values" "[I" ∈ g_GW := g_mem (i := 1070) (by decide +kernel) rfl
theorem w_1071 : Cond.fieldLink "QuasigroveModel" 25 "QuasigroveModel" "maps" "[I" ∈ g_GW := g_mem (i := 1071) (by decide +kernel) rfl
theorem w_1072 : Cond.fieldLink "QuasigroveModel" 87 "QuasigroveModel" "allOf" "I" ∈ g_GW := g_mem (i := 1072) (by decide +kernel) rfl
theorem w_1073 : Cond.fieldLink "QuasigroveModel" 90 "QuasigroveModel" "allMany" "I" ∈ g_GW := g_mem (i := 1073) (by decide +kernel) rfl
theorem w_1074 : Cond.fieldLink "QuasigroveModel" 28 "QuasigroveModel" "all" "[I" ∈ g_GW := g_mem (i := 1074) (by decide +kernel) rfl
theorem w_1075 : Cond.fieldLink "QuasigroveModel" 31 "QuasigroveModel" "one" "[I" ∈ g_GW := g_mem (i := 1075) (by decide +kernel) rfl
theorem w_1076 : Cond.fieldLink "QuasigroveModel" 117 "QuasigroveModel" "side" "I" ∈ g_GW := g_mem (i := 1076) (by decide +kernel) rfl
theorem w_1077 : Cond.fieldLink "QuasigroveModel" 34 "QuasigroveModel" "work" "[I" ∈ g_GW := g_mem (i := 1077) (by decide +kernel) rfl
theorem w_1078 : Cond.fieldLink "QuasigroveModel" 145 "QuasigroveModel" "emptyMany" "I" ∈ g_GW := g_mem (i := 1078) (by decide +kernel) rfl
theorem w_1079 : Cond.fieldLink "QuasigroveModel" 37 "QuasigroveModel" "empties" "[I" ∈ g_GW := g_mem (i := 1079) (by decide +kernel) rfl
theorem w_1080 : Cond.fieldLink "QuasigroveModel" 40 "QuasigroveModel" "found" "[I" ∈ g_GW := g_mem (i := 1080) (by decide +kernel) rfl
theorem w_1081 : Cond.fieldLink "QuasigroveModel" 205 "QuasigroveModel" "groupMany" "I" ∈ g_GW := g_mem (i := 1081) (by decide +kernel) rfl
theorem w_1082 : Cond.fieldLink "QuasigroveModel" 43 "QuasigroveModel" "group" "[I" ∈ g_GW := g_mem (i := 1082) (by decide +kernel) rfl
theorem w_1083 : Cond.fieldLink "QuasigroveModel" 46 "QuasigroveModel" "isIn" "[Z" ∈ g_GW := g_mem (i := 1083) (by decide +kernel) rfl
theorem w_1084 : Cond.fieldLink "QuasigroveModel" 50 "QuasigroveModel" "makers" "[I" ∈ g_GW := g_mem (i := 1084) (by decide +kernel) rfl
theorem w_1085 : Cond.fieldLink "QuasigroveModel" 227 "QuasigroveModel" "crossMany" "I" ∈ g_GW := g_mem (i := 1085) (by decide +kernel) rfl
theorem w_1086 : Cond.fieldLink "QuasigroveModel" 53 "QuasigroveModel" "crosses" "[I" ∈ g_GW := g_mem (i := 1086) (by decide +kernel) rfl
theorem w_1087 : Cond.fieldLink "QuasigroveModel" 56 "QuasigroveModel" "taken" "[I" ∈ g_GW := g_mem (i := 1087) (by decide +kernel) rfl
theorem w_1088 : Cond.fieldLink "QuasigroveModel" 59 "QuasigroveModel" "seen" "[Z" ∈ g_GW := g_mem (i := 1088) (by decide +kernel) rfl
theorem w_1089 : Cond.fieldLink "QuasigroveModel" 62 "QuasigroveModel" "turned" "[Z" ∈ g_GW := g_mem (i := 1089) (by decide +kernel) rfl
theorem w_1090 : Cond.fieldLink "QuasigroveModel" 66 "QuasigroveModel" "won" "[Z" ∈ g_GW := g_mem (i := 1090) (by decide +kernel) rfl
theorem w_1091 : Cond.fieldLink "QuasigroveModel" 69 "QuasigroveModel" "state" "[I" ∈ g_GW := g_mem (i := 1091) (by decide +kernel) rfl
theorem w_1152 : Cond.instanceMethod yX12_thrown ∈ g_GW := g_mem (i := 1152) (by decide +kernel) rfl
theorem w_1153 : Cond.selects "QuasigroveModel" yX12_thrown yX12_thrown ∈ g_GW := g_mem (i := 1153) (by decide +kernel) rfl
theorem w_1154 : Cond.code yX12_thrown cX12_thrown 1 (some .int) ∈ g_GW := g_mem (i := 1154) (by decide +kernel) rfl
theorem w_1156 : Cond.instanceMethod yX12_grid ∈ g_GW := g_mem (i := 1156) (by decide +kernel) rfl
theorem w_1157 : Cond.selects "QuasigroveModel" yX12_grid yX12_grid ∈ g_GW := g_mem (i := 1157) (by decide +kernel) rfl
theorem w_1158 : Cond.code yX12_grid cX12_grid 2 (some .int) ∈ g_GW := g_mem (i := 1158) (by decide +kernel) rfl
theorem w_1159 : Cond.methodLink "QuasigroveModel" 79 yX12_between ∈ g_GW := g_mem (i := 1159) (by decide +kernel) rfl
theorem w_1161 : Cond.instanceMethod yX12_between ∈ g_GW := g_mem (i := 1161) (by decide +kernel) rfl
theorem w_1162 : Cond.code yX12_between cX12_between 4 (some .boolean) ∈ g_GW := g_mem (i := 1162) (by decide +kernel) rfl
theorem w_1163 : Cond.methodLink "QuasigroveModel" 93 yX12_make ∈ g_GW := g_mem (i := 1163) (by decide +kernel) rfl
theorem w_1165 : Cond.instanceMethod yX12_make ∈ g_GW := g_mem (i := 1165) (by decide +kernel) rfl
theorem w_1166 : Cond.code yX12_make cX12_make 3 (some .int) ∈ g_GW := g_mem (i := 1166) (by decide +kernel) rfl
theorem w_1168 : Cond.instanceMethod yX12_linear ∈ g_GW := g_mem (i := 1168) (by decide +kernel) rfl
theorem w_1169 : Cond.selects "QuasigroveModel" yX12_linear yX12_linear ∈ g_GW := g_mem (i := 1169) (by decide +kernel) rfl
theorem w_1170 : Cond.code yX12_linear cX12_linear 9 (some .int) ∈ g_GW := g_mem (i := 1170) (by decide +kernel) rfl
theorem w_1171 : Cond.methodLink "QuasigroveModel" 96 yX12_isPrimeTo ∈ g_GW := g_mem (i := 1171) (by decide +kernel) rfl
theorem w_1173 : Cond.instanceMethod yX12_isPrimeTo ∈ g_GW := g_mem (i := 1173) (by decide +kernel) rfl
theorem w_1174 : Cond.code yX12_isPrimeTo cX12_isPrimeTo 6 (some .boolean) ∈ g_GW := g_mem (i := 1174) (by decide +kernel) rfl
theorem w_1176 : Cond.instanceMethod yX12_put ∈ g_GW := g_mem (i := 1176) (by decide +kernel) rfl
theorem w_1177 : Cond.selects "QuasigroveModel" yX12_put yX12_put ∈ g_GW := g_mem (i := 1177) (by decide +kernel) rfl
theorem w_1178 : Cond.code yX12_put cX12_put 8 (some .int) ∈ g_GW := g_mem (i := 1178) (by decide +kernel) rfl
theorem w_1179 : Cond.methodLink "QuasigroveModel" 107 yX12_isCell ∈ g_GW := g_mem (i := 1179) (by decide +kernel) rfl
theorem w_1181 : Cond.instanceMethod yX12_isCell ∈ g_GW := g_mem (i := 1181) (by decide +kernel) rfl
theorem w_1182 : Cond.code yX12_isCell cX12_isCell 4 (some .boolean) ∈ g_GW := g_mem (i := 1182) (by decide +kernel) rfl
theorem w_1183 : Cond.methodLink "QuasigroveModel" 100 yX12_isGrid ∈ g_GW := g_mem (i := 1183) (by decide +kernel) rfl
theorem w_1185 : Cond.instanceMethod yX12_isGrid ∈ g_GW := g_mem (i := 1185) (by decide +kernel) rfl
theorem w_1186 : Cond.code yX12_isGrid cX12_isGrid 2 (some .boolean) ∈ g_GW := g_mem (i := 1186) (by decide +kernel) rfl
theorem w_1187 : Cond.methodLink "QuasigroveModel" 104 yX12_isLine ∈ g_GW := g_mem (i := 1187) (by decide +kernel) rfl
theorem w_1189 : Cond.instanceMethod yX12_isLine ∈ g_GW := g_mem (i := 1189) (by decide +kernel) rfl
theorem w_1190 : Cond.code yX12_isLine cX12_isLine 3 (some .boolean) ∈ g_GW := g_mem (i := 1190) (by decide +kernel) rfl
theorem w_1191 : Cond.methodLink "QuasigroveModel" 110 yX12_at ∈ g_GW := g_mem (i := 1191) (by decide +kernel) rfl
theorem w_1193 : Cond.instanceMethod yX12_at ∈ g_GW := g_mem (i := 1193) (by decide +kernel) rfl
theorem w_1194 : Cond.code yX12_at cX12_at 4 (some .int) ∈ g_GW := g_mem (i := 1194) (by decide +kernel) rfl
theorem w_1196 : Cond.instanceMethod yX12_isotope ∈ g_GW := g_mem (i := 1196) (by decide +kernel) rfl
theorem w_1197 : Cond.selects "QuasigroveModel" yX12_isotope yX12_isotope ∈ g_GW := g_mem (i := 1197) (by decide +kernel) rfl
theorem w_1198 : Cond.code yX12_isotope cX12_isotope 10 (some .int) ∈ g_GW := g_mem (i := 1198) (by decide +kernel) rfl
theorem w_1199 : Cond.methodLink "QuasigroveModel" 114 yX12_isMap ∈ g_GW := g_mem (i := 1199) (by decide +kernel) rfl
theorem w_1201 : Cond.instanceMethod yX12_isMap ∈ g_GW := g_mem (i := 1201) (by decide +kernel) rfl
theorem w_1202 : Cond.code yX12_isMap cX12_isMap 8 (some .boolean) ∈ g_GW := g_mem (i := 1202) (by decide +kernel) rfl
theorem w_1204 : Cond.instanceMethod yX12_conjugate ∈ g_GW := g_mem (i := 1204) (by decide +kernel) rfl
theorem w_1205 : Cond.selects "QuasigroveModel" yX12_conjugate yX12_conjugate ∈ g_GW := g_mem (i := 1205) (by decide +kernel) rfl
theorem w_1206 : Cond.code yX12_conjugate cX12_conjugate 10 (some .int) ∈ g_GW := g_mem (i := 1206) (by decide +kernel) rfl
theorem w_1208 : Cond.instanceMethod yX12_cell ∈ g_GW := g_mem (i := 1208) (by decide +kernel) rfl
theorem w_1209 : Cond.selects "QuasigroveModel" yX12_cell yX12_cell ∈ g_GW := g_mem (i := 1209) (by decide +kernel) rfl
theorem w_1210 : Cond.code yX12_cell cX12_cell 4 (some .int) ∈ g_GW := g_mem (i := 1210) (by decide +kernel) rfl
theorem w_1212 : Cond.instanceMethod yX12_of ∈ g_GW := g_mem (i := 1212) (by decide +kernel) rfl
theorem w_1213 : Cond.selects "QuasigroveModel" yX12_of yX12_of ∈ g_GW := g_mem (i := 1213) (by decide +kernel) rfl
theorem w_1214 : Cond.code yX12_of cX12_of 5 (some .int) ∈ g_GW := g_mem (i := 1214) (by decide +kernel) rfl
theorem w_1215 : Cond.methodLink "QuasigroveModel" 83 yX12_filled ∈ g_GW := g_mem (i := 1215) (by decide +kernel) rfl
theorem w_1217 : Cond.instanceMethod yX12_filled ∈ g_GW := g_mem (i := 1217) (by decide +kernel) rfl
theorem w_1218 : Cond.code yX12_filled cX12_filled 4 (some .int) ∈ g_GW := g_mem (i := 1218) (by decide +kernel) rfl
theorem w_1219 : Cond.methodLink "QuasigroveModel" 123 yX12_copyToWork ∈ g_GW := g_mem (i := 1219) (by decide +kernel) rfl
theorem w_1221 : Cond.instanceMethod yX12_copyToWork ∈ g_GW := g_mem (i := 1221) (by decide +kernel) rfl
theorem w_1222 : Cond.code yX12_copyToWork cX12_copyToWork 3 none ∈ g_GW := g_mem (i := 1222) (by decide +kernel) rfl
theorem w_1223 : Cond.methodLink "QuasigroveModel" 127 yX12_setAt ∈ g_GW := g_mem (i := 1223) (by decide +kernel) rfl
theorem w_1225 : Cond.instanceMethod yX12_setAt ∈ g_GW := g_mem (i := 1225) (by decide +kernel) rfl
theorem w_1226 : Cond.code yX12_setAt cX12_setAt 4 (some .int) ∈ g_GW := g_mem (i := 1226) (by decide +kernel) rfl
theorem w_1227 : Cond.methodLink "QuasigroveModel" 120 yX12_fits ∈ g_GW := g_mem (i := 1227) (by decide +kernel) rfl
theorem w_1229 : Cond.instanceMethod yX12_fits ∈ g_GW := g_mem (i := 1229) (by decide +kernel) rfl
theorem w_1230 : Cond.code yX12_fits cX12_fits 7 (some .boolean) ∈ g_GW := g_mem (i := 1230) (by decide +kernel) rfl
theorem w_1232 : Cond.instanceMethod yX12_distance ∈ g_GW := g_mem (i := 1232) (by decide +kernel) rfl
theorem w_1233 : Cond.selects "QuasigroveModel" yX12_distance yX12_distance ∈ g_GW := g_mem (i := 1233) (by decide +kernel) rfl
theorem w_1234 : Cond.code yX12_distance cX12_distance 5 (some .int) ∈ g_GW := g_mem (i := 1234) (by decide +kernel) rfl
theorem w_1236 : Cond.instanceMethod yX12_turn ∈ g_GW := g_mem (i := 1236) (by decide +kernel) rfl
theorem w_1237 : Cond.selects "QuasigroveModel" yX12_turn yX12_turn ∈ g_GW := g_mem (i := 1237) (by decide +kernel) rfl
theorem w_1238 : Cond.code yX12_turn cX12_turn 7 (some .int) ∈ g_GW := g_mem (i := 1238) (by decide +kernel) rfl
theorem w_1239 : Cond.methodLink "QuasigroveModel" 130 yX12_turnRows ∈ g_GW := g_mem (i := 1239) (by decide +kernel) rfl
theorem w_1241 : Cond.instanceMethod yX12_turnRows ∈ g_GW := g_mem (i := 1241) (by decide +kernel) rfl
theorem w_1242 : Cond.code yX12_turnRows cX12_turnRows 10 (some .int) ∈ g_GW := g_mem (i := 1242) (by decide +kernel) rfl
theorem w_1244 : Cond.instanceMethod yX12_stir ∈ g_GW := g_mem (i := 1244) (by decide +kernel) rfl
theorem w_1245 : Cond.selects "QuasigroveModel" yX12_stir yX12_stir ∈ g_GW := g_mem (i := 1245) (by decide +kernel) rfl
theorem w_1246 : Cond.code yX12_stir cX12_stir 11 (some .int) ∈ g_GW := g_mem (i := 1246) (by decide +kernel) rfl
theorem w_1247 : Cond.methodLink "QuasigroveModel" 134 yX12_isSquare ∈ g_GW := g_mem (i := 1247) (by decide +kernel) rfl
theorem w_1249 : Cond.instanceMethod yX12_isSquare ∈ g_GW := g_mem (i := 1249) (by decide +kernel) rfl
theorem w_1250 : Cond.code yX12_isSquare cX12_isSquare 2 (some .boolean) ∈ g_GW := g_mem (i := 1250) (by decide +kernel) rfl
theorem w_1251 : Cond.constantLong "QuasigroveModel" 137 (1103515245) ∈ g_GW := g_mem (i := 1251) (by decide +kernel) rfl
theorem w_1252 : Cond.constantLong "QuasigroveModel" 139 (12345) ∈ g_GW := g_mem (i := 1252) (by decide +kernel) rfl
theorem w_1253 : Cond.constantLong "QuasigroveModel" 141 (2147483648) ∈ g_GW := g_mem (i := 1253) (by decide +kernel) rfl
theorem w_1254 : Cond.constantLong "QuasigroveModel" 143 (65536) ∈ g_GW := g_mem (i := 1254) (by decide +kernel) rfl
theorem w_1256 : Cond.instanceMethod yX12_can ∈ g_GW := g_mem (i := 1256) (by decide +kernel) rfl
theorem w_1257 : Cond.selects "QuasigroveModel" yX12_can yX12_can ∈ g_GW := g_mem (i := 1257) (by decide +kernel) rfl
theorem w_1258 : Cond.code yX12_can cX12_can 4 (some .int) ∈ g_GW := g_mem (i := 1258) (by decide +kernel) rfl
theorem w_1260 : Cond.instanceMethod yX12_fills ∈ g_GW := g_mem (i := 1260) (by decide +kernel) rfl
theorem w_1261 : Cond.selects "QuasigroveModel" yX12_fills yX12_fills ∈ g_GW := g_mem (i := 1261) (by decide +kernel) rfl
theorem w_1262 : Cond.code yX12_fills cX12_fills 3 (some .int) ∈ g_GW := g_mem (i := 1262) (by decide +kernel) rfl
theorem w_1263 : Cond.methodLink "QuasigroveModel" 154 yX12_fillsOf ∈ g_GW := g_mem (i := 1263) (by decide +kernel) rfl
theorem w_1265 : Cond.instanceMethod yX12_fillsOf ∈ g_GW := g_mem (i := 1265) (by decide +kernel) rfl
theorem w_1266 : Cond.code yX12_fillsOf cX12_fillsOf 3 (some .int) ∈ g_GW := g_mem (i := 1266) (by decide +kernel) rfl
theorem w_1267 : Cond.methodLink "QuasigroveModel" 151 yX12_search ∈ g_GW := g_mem (i := 1267) (by decide +kernel) rfl
theorem w_1269 : Cond.instanceMethod yX12_search ∈ g_GW := g_mem (i := 1269) (by decide +kernel) rfl
theorem w_1270 : Cond.code yX12_search cX12_search 6 (some .int) ∈ g_GW := g_mem (i := 1270) (by decide +kernel) rfl
theorem w_1271 : Cond.methodLink "QuasigroveModel" 148 yX12_layEmpties ∈ g_GW := g_mem (i := 1271) (by decide +kernel) rfl
theorem w_1273 : Cond.instanceMethod yX12_layEmpties ∈ g_GW := g_mem (i := 1273) (by decide +kernel) rfl
theorem w_1274 : Cond.code yX12_layEmpties cX12_layEmpties 2 none ∈ g_GW := g_mem (i := 1274) (by decide +kernel) rfl
theorem w_1276 : Cond.instanceMethod yX12_fillsAnew ∈ g_GW := g_mem (i := 1276) (by decide +kernel) rfl
theorem w_1277 : Cond.selects "QuasigroveModel" yX12_fillsAnew yX12_fillsAnew ∈ g_GW := g_mem (i := 1277) (by decide +kernel) rfl
theorem w_1278 : Cond.code yX12_fillsAnew cX12_fillsAnew 3 (some .int) ∈ g_GW := g_mem (i := 1278) (by decide +kernel) rfl
theorem w_1280 : Cond.instanceMethod yX12_fill ∈ g_GW := g_mem (i := 1280) (by decide +kernel) rfl
theorem w_1281 : Cond.selects "QuasigroveModel" yX12_fill yX12_fill ∈ g_GW := g_mem (i := 1281) (by decide +kernel) rfl
theorem w_1282 : Cond.code yX12_fill cX12_fill 5 (some .int) ∈ g_GW := g_mem (i := 1282) (by decide +kernel) rfl
theorem w_1284 : Cond.instanceMethod yX12_forced ∈ g_GW := g_mem (i := 1284) (by decide +kernel) rfl
theorem w_1285 : Cond.selects "QuasigroveModel" yX12_forced yX12_forced ∈ g_GW := g_mem (i := 1285) (by decide +kernel) rfl
theorem w_1286 : Cond.code yX12_forced cX12_forced 2 (some .int) ∈ g_GW := g_mem (i := 1286) (by decide +kernel) rfl
theorem w_1287 : Cond.methodLink "QuasigroveModel" 161 yX12_forcedAtWork ∈ g_GW := g_mem (i := 1287) (by decide +kernel) rfl
theorem w_1289 : Cond.instanceMethod yX12_forcedAtWork ∈ g_GW := g_mem (i := 1289) (by decide +kernel) rfl
theorem w_1290 : Cond.code yX12_forcedAtWork cX12_forcedAtWork 4 (some .int) ∈ g_GW := g_mem (i := 1290) (by decide +kernel) rfl
theorem w_1291 : Cond.methodLink "QuasigroveModel" 158 yX12_isLast ∈ g_GW := g_mem (i := 1291) (by decide +kernel) rfl
theorem w_1293 : Cond.instanceMethod yX12_isLast ∈ g_GW := g_mem (i := 1293) (by decide +kernel) rfl
theorem w_1294 : Cond.code yX12_isLast cX12_isLast 8 (some .boolean) ∈ g_GW := g_mem (i := 1294) (by decide +kernel) rfl
theorem w_1296 : Cond.instanceMethod yX12_logic ∈ g_GW := g_mem (i := 1296) (by decide +kernel) rfl
theorem w_1297 : Cond.selects "QuasigroveModel" yX12_logic yX12_logic ∈ g_GW := g_mem (i := 1297) (by decide +kernel) rfl
theorem w_1298 : Cond.code yX12_logic cX12_logic 4 (some .int) ∈ g_GW := g_mem (i := 1298) (by decide +kernel) rfl
theorem w_1300 : Cond.instanceMethod yX12_critical ∈ g_GW := g_mem (i := 1300) (by decide +kernel) rfl
theorem w_1301 : Cond.selects "QuasigroveModel" yX12_critical yX12_critical ∈ g_GW := g_mem (i := 1301) (by decide +kernel) rfl
theorem w_1302 : Cond.code yX12_critical cX12_critical 6 (some .int) ∈ g_GW := g_mem (i := 1302) (by decide +kernel) rfl
theorem w_1303 : Cond.methodLink "QuasigroveModel" 165 yX12_bitsOf ∈ g_GW := g_mem (i := 1303) (by decide +kernel) rfl
theorem w_1305 : Cond.instanceMethod yX12_bitsOf ∈ g_GW := g_mem (i := 1305) (by decide +kernel) rfl
theorem w_1306 : Cond.code yX12_bitsOf cX12_bitsOf 4 (some .int) ∈ g_GW := g_mem (i := 1306) (by decide +kernel) rfl
theorem w_1308 : Cond.instanceMethod yX12_type ∈ g_GW := g_mem (i := 1308) (by decide +kernel) rfl
theorem w_1309 : Cond.selects "QuasigroveModel" yX12_type yX12_type ∈ g_GW := g_mem (i := 1309) (by decide +kernel) rfl
theorem w_1310 : Cond.code yX12_type cX12_type 5 (some .int) ∈ g_GW := g_mem (i := 1310) (by decide +kernel) rfl
theorem w_1311 : Cond.constantLong "QuasigroveModel" 168 (255) ∈ g_GW := g_mem (i := 1311) (by decide +kernel) rfl
theorem w_1312 : Cond.methodLink "QuasigroveModel" 170 yX12_isSign ∈ g_GW := g_mem (i := 1312) (by decide +kernel) rfl
theorem w_1314 : Cond.instanceMethod yX12_isSign ∈ g_GW := g_mem (i := 1314) (by decide +kernel) rfl
theorem w_1315 : Cond.code yX12_isSign cX12_isSign 2 (some .boolean) ∈ g_GW := g_mem (i := 1315) (by decide +kernel) rfl
theorem w_1317 : Cond.instanceMethod yX12_wipe ∈ g_GW := g_mem (i := 1317) (by decide +kernel) rfl
theorem w_1318 : Cond.selects "QuasigroveModel" yX12_wipe yX12_wipe ∈ g_GW := g_mem (i := 1318) (by decide +kernel) rfl
theorem w_1319 : Cond.code yX12_wipe cX12_wipe 2 (some .int) ∈ g_GW := g_mem (i := 1319) (by decide +kernel) rfl
theorem w_1321 : Cond.instanceMethod yX12_fault ∈ g_GW := g_mem (i := 1321) (by decide +kernel) rfl
theorem w_1322 : Cond.selects "QuasigroveModel" yX12_fault yX12_fault ∈ g_GW := g_mem (i := 1322) (by decide +kernel) rfl
theorem w_1323 : Cond.code yX12_fault cX12_fault 1 (some .int) ∈ g_GW := g_mem (i := 1323) (by decide +kernel) rfl
theorem w_1324 : Cond.methodLink "QuasigroveModel" 176 yX12_faultOf ∈ g_GW := g_mem (i := 1324) (by decide +kernel) rfl
theorem w_1326 : Cond.instanceMethod yX12_faultOf ∈ g_GW := g_mem (i := 1326) (by decide +kernel) rfl
theorem w_1327 : Cond.code yX12_faultOf cX12_faultOf 5 (some .int) ∈ g_GW := g_mem (i := 1327) (by decide +kernel) rfl
theorem w_1329 : Cond.instanceMethod yX12_breaks ∈ g_GW := g_mem (i := 1329) (by decide +kernel) rfl
theorem w_1330 : Cond.selects "QuasigroveModel" yX12_breaks yX12_breaks ∈ g_GW := g_mem (i := 1330) (by decide +kernel) rfl
theorem w_1331 : Cond.code yX12_breaks cX12_breaks 6 (some .int) ∈ g_GW := g_mem (i := 1331) (by decide +kernel) rfl
theorem w_1332 : Cond.methodLink "QuasigroveModel" 179 yX12_valuesOf ∈ g_GW := g_mem (i := 1332) (by decide +kernel) rfl
theorem w_1334 : Cond.instanceMethod yX12_valuesOf ∈ g_GW := g_mem (i := 1334) (by decide +kernel) rfl
theorem w_1335 : Cond.code yX12_valuesOf cX12_valuesOf 5 (some .int) ∈ g_GW := g_mem (i := 1335) (by decide +kernel) rfl
theorem w_1336 : Cond.methodLink "QuasigroveModel" 182 yX12_holds ∈ g_GW := g_mem (i := 1336) (by decide +kernel) rfl
theorem w_1338 : Cond.instanceMethod yX12_holds ∈ g_GW := g_mem (i := 1338) (by decide +kernel) rfl
theorem w_1339 : Cond.code yX12_holds cX12_holds 8 (some .boolean) ∈ g_GW := g_mem (i := 1339) (by decide +kernel) rfl
theorem w_1341 : Cond.instanceMethod yX12_unit ∈ g_GW := g_mem (i := 1341) (by decide +kernel) rfl
theorem w_1342 : Cond.selects "QuasigroveModel" yX12_unit yX12_unit ∈ g_GW := g_mem (i := 1342) (by decide +kernel) rfl
theorem w_1343 : Cond.code yX12_unit cX12_unit 6 (some .int) ∈ g_GW := g_mem (i := 1343) (by decide +kernel) rfl
theorem w_1344 : Cond.methodLink "QuasigroveModel" 186 yX12_canAsk ∈ g_GW := g_mem (i := 1344) (by decide +kernel) rfl
theorem w_1346 : Cond.instanceMethod yX12_canAsk ∈ g_GW := g_mem (i := 1346) (by decide +kernel) rfl
theorem w_1347 : Cond.code yX12_canAsk cX12_canAsk 2 (some .boolean) ∈ g_GW := g_mem (i := 1347) (by decide +kernel) rfl
theorem w_1349 : Cond.instanceMethod yX12_nucleus ∈ g_GW := g_mem (i := 1349) (by decide +kernel) rfl
theorem w_1350 : Cond.selects "QuasigroveModel" yX12_nucleus yX12_nucleus ∈ g_GW := g_mem (i := 1350) (by decide +kernel) rfl
theorem w_1351 : Cond.code yX12_nucleus cX12_nucleus 5 (some .int) ∈ g_GW := g_mem (i := 1351) (by decide +kernel) rfl
theorem w_1352 : Cond.methodLink "QuasigroveModel" 192 yX12_canAskWith ∈ g_GW := g_mem (i := 1352) (by decide +kernel) rfl
theorem w_1354 : Cond.instanceMethod yX12_canAskWith ∈ g_GW := g_mem (i := 1354) (by decide +kernel) rfl
theorem w_1355 : Cond.code yX12_canAskWith cX12_canAskWith 3 (some .boolean) ∈ g_GW := g_mem (i := 1355) (by decide +kernel) rfl
theorem w_1356 : Cond.methodLink "QuasigroveModel" 196 yX12_isInNucleus ∈ g_GW := g_mem (i := 1356) (by decide +kernel) rfl
theorem w_1358 : Cond.instanceMethod yX12_isInNucleus ∈ g_GW := g_mem (i := 1358) (by decide +kernel) rfl
theorem w_1359 : Cond.code yX12_isInNucleus cX12_isInNucleus 7 (some .boolean) ∈ g_GW := g_mem (i := 1359) (by decide +kernel) rfl
theorem w_1360 : Cond.methodLink "QuasigroveModel" 189 yX12_associates ∈ g_GW := g_mem (i := 1360) (by decide +kernel) rfl
theorem w_1362 : Cond.instanceMethod yX12_associates ∈ g_GW := g_mem (i := 1362) (by decide +kernel) rfl
theorem w_1363 : Cond.code yX12_associates cX12_associates 5 (some .boolean) ∈ g_GW := g_mem (i := 1363) (by decide +kernel) rfl
theorem w_1365 : Cond.instanceMethod yX12_closed ∈ g_GW := g_mem (i := 1365) (by decide +kernel) rfl
theorem w_1366 : Cond.selects "QuasigroveModel" yX12_closed yX12_closed ∈ g_GW := g_mem (i := 1366) (by decide +kernel) rfl
theorem w_1367 : Cond.code yX12_closed cX12_closed 5 (some .int) ∈ g_GW := g_mem (i := 1367) (by decide +kernel) rfl
theorem w_1368 : Cond.methodLink "QuasigroveModel" 199 yX12_products ∈ g_GW := g_mem (i := 1368) (by decide +kernel) rfl
theorem w_1370 : Cond.instanceMethod yX12_products ∈ g_GW := g_mem (i := 1370) (by decide +kernel) rfl
theorem w_1371 : Cond.code yX12_products cX12_products 7 (some .int) ∈ g_GW := g_mem (i := 1371) (by decide +kernel) rfl
theorem w_1373 : Cond.instanceMethod yX12_count ∈ g_GW := g_mem (i := 1373) (by decide +kernel) rfl
theorem w_1374 : Cond.selects "QuasigroveModel" yX12_count yX12_count ∈ g_GW := g_mem (i := 1374) (by decide +kernel) rfl
theorem w_1375 : Cond.code yX12_count cX12_count 3 (some .int) ∈ g_GW := g_mem (i := 1375) (by decide +kernel) rfl
theorem w_1376 : Cond.methodLink "QuasigroveModel" 214 yX12_closedSets ∈ g_GW := g_mem (i := 1376) (by decide +kernel) rfl
theorem w_1378 : Cond.instanceMethod yX12_closedSets ∈ g_GW := g_mem (i := 1378) (by decide +kernel) rfl
theorem w_1379 : Cond.code yX12_closedSets cX12_closedSets 4 (some .int) ∈ g_GW := g_mem (i := 1379) (by decide +kernel) rfl
theorem w_1380 : Cond.methodLink "QuasigroveModel" 217 yX12_automorphisms ∈ g_GW := g_mem (i := 1380) (by decide +kernel) rfl
theorem w_1382 : Cond.instanceMethod yX12_automorphisms ∈ g_GW := g_mem (i := 1382) (by decide +kernel) rfl
theorem w_1383 : Cond.code yX12_automorphisms cX12_automorphisms 8 (some .int) ∈ g_GW := g_mem (i := 1383) (by decide +kernel) rfl
theorem w_1384 : Cond.methodLink "QuasigroveModel" 202 yX12_layAll ∈ g_GW := g_mem (i := 1384) (by decide +kernel) rfl
theorem w_1386 : Cond.instanceMethod yX12_layAll ∈ g_GW := g_mem (i := 1386) (by decide +kernel) rfl
theorem w_1387 : Cond.code yX12_layAll cX12_layAll 9 none ∈ g_GW := g_mem (i := 1387) (by decide +kernel) rfl
theorem w_1388 : Cond.methodLink "QuasigroveModel" 220 yX12_groupOf ∈ g_GW := g_mem (i := 1388) (by decide +kernel) rfl
theorem w_1390 : Cond.instanceMethod yX12_groupOf ∈ g_GW := g_mem (i := 1390) (by decide +kernel) rfl
theorem w_1391 : Cond.code yX12_groupOf cX12_groupOf 9 (some .int) ∈ g_GW := g_mem (i := 1391) (by decide +kernel) rfl
theorem w_1392 : Cond.methodLink "QuasigroveModel" 208 yX12_numberOf ∈ g_GW := g_mem (i := 1392) (by decide +kernel) rfl
theorem w_1394 : Cond.instanceMethod yX12_numberOf ∈ g_GW := g_mem (i := 1394) (by decide +kernel) rfl
theorem w_1395 : Cond.code yX12_numberOf cX12_numberOf 7 (some .int) ∈ g_GW := g_mem (i := 1395) (by decide +kernel) rfl
theorem w_1396 : Cond.methodLink "QuasigroveModel" 211 yX12_join ∈ g_GW := g_mem (i := 1396) (by decide +kernel) rfl
theorem w_1398 : Cond.instanceMethod yX12_join ∈ g_GW := g_mem (i := 1398) (by decide +kernel) rfl
theorem w_1399 : Cond.code yX12_join cX12_join 2 none ∈ g_GW := g_mem (i := 1399) (by decide +kernel) rfl
theorem w_1401 : Cond.instanceMethod yX12_isotopies ∈ g_GW := g_mem (i := 1401) (by decide +kernel) rfl
theorem w_1402 : Cond.selects "QuasigroveModel" yX12_isotopies yX12_isotopies ∈ g_GW := g_mem (i := 1402) (by decide +kernel) rfl
theorem w_1403 : Cond.code yX12_isotopies cX12_isotopies 6 (some .int) ∈ g_GW := g_mem (i := 1403) (by decide +kernel) rfl
theorem w_1404 : Cond.methodLink "QuasigroveModel" 224 yX12_brings ∈ g_GW := g_mem (i := 1404) (by decide +kernel) rfl
theorem w_1406 : Cond.instanceMethod yX12_brings ∈ g_GW := g_mem (i := 1406) (by decide +kernel) rfl
theorem w_1407 : Cond.code yX12_brings cX12_brings 9 (some .boolean) ∈ g_GW := g_mem (i := 1407) (by decide +kernel) rfl
theorem w_1409 : Cond.instanceMethod yX12_transversals ∈ g_GW := g_mem (i := 1409) (by decide +kernel) rfl
theorem w_1410 : Cond.selects "QuasigroveModel" yX12_transversals yX12_transversals ∈ g_GW := g_mem (i := 1410) (by decide +kernel) rfl
theorem w_1411 : Cond.code yX12_transversals cX12_transversals 2 (some .int) ∈ g_GW := g_mem (i := 1411) (by decide +kernel) rfl
theorem w_1412 : Cond.methodLink "QuasigroveModel" 230 yX12_layCrosses ∈ g_GW := g_mem (i := 1412) (by decide +kernel) rfl
theorem w_1414 : Cond.instanceMethod yX12_layCrosses ∈ g_GW := g_mem (i := 1414) (by decide +kernel) rfl
theorem w_1415 : Cond.code yX12_layCrosses cX12_layCrosses 6 none ∈ g_GW := g_mem (i := 1415) (by decide +kernel) rfl
theorem w_1417 : Cond.instanceMethod yX12_mates ∈ g_GW := g_mem (i := 1417) (by decide +kernel) rfl
theorem w_1418 : Cond.selects "QuasigroveModel" yX12_mates yX12_mates ∈ g_GW := g_mem (i := 1418) (by decide +kernel) rfl
theorem w_1419 : Cond.code yX12_mates cX12_mates 2 (some .int) ∈ g_GW := g_mem (i := 1419) (by decide +kernel) rfl
theorem w_1420 : Cond.methodLink "QuasigroveModel" 240 yX12_matesOf ∈ g_GW := g_mem (i := 1420) (by decide +kernel) rfl
theorem w_1422 : Cond.instanceMethod yX12_matesOf ∈ g_GW := g_mem (i := 1422) (by decide +kernel) rfl
theorem w_1423 : Cond.code yX12_matesOf cX12_matesOf 6 (some .int) ∈ g_GW := g_mem (i := 1423) (by decide +kernel) rfl
theorem w_1424 : Cond.methodLink "QuasigroveModel" 233 yX12_keepLower ∈ g_GW := g_mem (i := 1424) (by decide +kernel) rfl
theorem w_1426 : Cond.instanceMethod yX12_keepLower ∈ g_GW := g_mem (i := 1426) (by decide +kernel) rfl
theorem w_1427 : Cond.code yX12_keepLower cX12_keepLower 6 none ∈ g_GW := g_mem (i := 1427) (by decide +kernel) rfl
theorem w_1428 : Cond.methodLink "QuasigroveModel" 237 yX12_canTake ∈ g_GW := g_mem (i := 1428) (by decide +kernel) rfl
theorem w_1430 : Cond.instanceMethod yX12_canTake ∈ g_GW := g_mem (i := 1430) (by decide +kernel) rfl
theorem w_1431 : Cond.code yX12_canTake cX12_canTake 7 (some .boolean) ∈ g_GW := g_mem (i := 1431) (by decide +kernel) rfl
theorem w_1433 : Cond.instanceMethod yX12_mate ∈ g_GW := g_mem (i := 1433) (by decide +kernel) rfl
theorem w_1434 : Cond.selects "QuasigroveModel" yX12_mate yX12_mate ∈ g_GW := g_mem (i := 1434) (by decide +kernel) rfl
theorem w_1435 : Cond.code yX12_mate cX12_mate 4 (some .int) ∈ g_GW := g_mem (i := 1435) (by decide +kernel) rfl
theorem w_1437 : Cond.instanceMethod yX12_areMates ∈ g_GW := g_mem (i := 1437) (by decide +kernel) rfl
theorem w_1438 : Cond.selects "QuasigroveModel" yX12_areMates yX12_areMates ∈ g_GW := g_mem (i := 1438) (by decide +kernel) rfl
theorem w_1439 : Cond.code yX12_areMates cX12_areMates 7 (some .boolean) ∈ g_GW := g_mem (i := 1439) (by decide +kernel) rfl
theorem w_1441 : Cond.instanceMethod yX12_parity ∈ g_GW := g_mem (i := 1441) (by decide +kernel) rfl
theorem w_1442 : Cond.selects "QuasigroveModel" yX12_parity yX12_parity ∈ g_GW := g_mem (i := 1442) (by decide +kernel) rfl
theorem w_1443 : Cond.code yX12_parity cX12_parity 8 (some .int) ∈ g_GW := g_mem (i := 1443) (by decide +kernel) rfl
theorem w_1445 : Cond.instanceMethod yX12_wins ∈ g_GW := g_mem (i := 1445) (by decide +kernel) rfl
theorem w_1446 : Cond.selects "QuasigroveModel" yX12_wins yX12_wins ∈ g_GW := g_mem (i := 1446) (by decide +kernel) rfl
theorem w_1447 : Cond.code yX12_wins cX12_wins 5 (some .int) ∈ g_GW := g_mem (i := 1447) (by decide +kernel) rfl
theorem w_1448 : Cond.methodLink "QuasigroveModel" 249 yX12_winner ∈ g_GW := g_mem (i := 1448) (by decide +kernel) rfl
theorem w_1450 : Cond.instanceMethod yX12_winner ∈ g_GW := g_mem (i := 1450) (by decide +kernel) rfl
theorem w_1451 : Cond.code yX12_winner cX12_winner 6 (some .int) ∈ g_GW := g_mem (i := 1451) (by decide +kernel) rfl
theorem w_1452 : Cond.methodLink "QuasigroveModel" 243 yX12_layState ∈ g_GW := g_mem (i := 1452) (by decide +kernel) rfl
theorem w_1454 : Cond.instanceMethod yX12_layState ∈ g_GW := g_mem (i := 1454) (by decide +kernel) rfl
theorem w_1455 : Cond.code yX12_layState cX12_layState 4 none ∈ g_GW := g_mem (i := 1455) (by decide +kernel) rfl
theorem w_1456 : Cond.methodLink "QuasigroveModel" 246 yX12_freeAt ∈ g_GW := g_mem (i := 1456) (by decide +kernel) rfl
theorem w_1458 : Cond.instanceMethod yX12_freeAt ∈ g_GW := g_mem (i := 1458) (by decide +kernel) rfl
theorem w_1459 : Cond.code yX12_freeAt cX12_freeAt 8 (some .int) ∈ g_GW := g_mem (i := 1459) (by decide +kernel) rfl
