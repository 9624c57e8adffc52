theorem xc_0 : Jvm.Cond.code yX0_init cX0_init 1 none ∈ lw_tbl := xTb_in (k := 1) (List.mem_of_getElem? (i := 166) rfl)
theorem xc_1 : Jvm.Cond.code yX0_leastPlace cX0_leastPlace 1 (some .int) ∈ lw_tbl := xTb_in (k := 6) (List.mem_of_getElem? (i := 105) rfl)
theorem xc_2 : Jvm.Cond.code yX0_greatestPlace cX0_greatestPlace 1 (some .int) ∈ lw_tbl := xTb_in (k := 6) (List.mem_of_getElem? (i := 108) rfl)
theorem xc_3 : Jvm.Cond.code yX0_weigh cX0_weigh 8 (some .boolean) ∈ lw_tbl := xTb_in (k := 4) (List.mem_of_getElem? (i := 30) rfl)
theorem xc_4 : Jvm.Cond.code yX0_marginOf cX0_marginOf 5 (some .int) ∈ lw_tbl := xTb_in (k := 4) (List.mem_of_getElem? (i := 33) rfl)
theorem xc_5 : Jvm.Cond.code yX0_note cX0_note 3 none ∈ lw_tbl := xTb_in (k := 4) (List.mem_of_getElem? (i := 42) rfl)
theorem xc_6 : Jvm.Cond.code yX1_init cX1_init 3 none ∈ lw_tbl := xTb_in (k := 2) (List.mem_of_getElem? (i := 111) rfl)
theorem xc_7 : Jvm.Cond.code yX1_isSafe cX1_isSafe 7 (some .boolean) ∈ lw_tbl := xTb_in (k := 4) (List.mem_of_getElem? (i := 111) rfl)
theorem xc_8 : Jvm.Cond.code yX1_survey cX1_survey 4 none ∈ lw_tbl := xTb_in (k := 4) (List.mem_of_getElem? (i := 95) rfl)
theorem xc_9 : Jvm.Cond.code yX1_noteFacts cX1_noteFacts 6 none ∈ lw_tbl := xTb_in (k := 4) (List.mem_of_getElem? (i := 140) rfl)
theorem xc_10 : Jvm.Cond.code yX1_oddsNow cX1_oddsNow 2 (some .int) ∈ lw_tbl := xTb_in (k := 4) (List.mem_of_getElem? (i := 150) rfl)
theorem xc_11 : Jvm.Cond.code yX1_findBest cX1_findBest 5 none ∈ lw_tbl := xTb_in (k := 4) (List.mem_of_getElem? (i := 170) rfl)
theorem xc_12 : Jvm.Cond.code yX1_preferLower cX1_preferLower 4 none ∈ lw_tbl := xTb_in (k := 4) (List.mem_of_getElem? (i := 175) rfl)
theorem xc_13 : Jvm.Cond.code yX1_findMeanest cX1_findMeanest 7 none ∈ lw_tbl := xTb_in (k := 4) (List.mem_of_getElem? (i := 184) rfl)
theorem xc_14 : Jvm.Cond.code yX1_findSteadiest cX1_findSteadiest 4 none ∈ lw_tbl := xTb_in (k := 4) (List.mem_of_getElem? (i := 198) rfl)
theorem xc_15 : Jvm.Cond.code yX1_findLikeliest cX1_findLikeliest 10 none ∈ lw_tbl := xTb_in (k := 5) (List.mem_of_getElem? (i := 168) rfl)
theorem xc_16 : Jvm.Cond.code yX1_chancesBehind cX1_chancesBehind 5 (some .int) ∈ lw_tbl := xTb_in (k := 5) (List.mem_of_getElem? (i := 172) rfl)
theorem xc_17 : Jvm.Cond.code yX2_init cX2_init 2 none ∈ lw_tbl := xTb_in (k := 2) (List.mem_of_getElem? (i := 159) rfl)
theorem xc_18 : Jvm.Cond.code yX2_search cX2_search 4 none ∈ lw_tbl := xTb_in (k := 5) (List.mem_of_getElem? (i := 38) rfl)
theorem xc_19 : Jvm.Cond.code yX2_expand cX2_expand 4 none ∈ lw_tbl := xTb_in (k := 5) (List.mem_of_getElem? (i := 74) rfl)
theorem xc_20 : Jvm.Cond.code yX2_follow cX2_follow 6 none ∈ lw_tbl := xTb_in (k := 5) (List.mem_of_getElem? (i := 90) rfl)
theorem xc_21 : Jvm.Cond.code yX2_noteOrigin cX2_noteOrigin 5 none ∈ lw_tbl := xTb_in (k := 5) (List.mem_of_getElem? (i := 70) rfl)
theorem xc_22 : Jvm.Cond.code yX2_packKey cX2_packKey 3 none ∈ lw_tbl := xTb_in (k := 5) (List.mem_of_getElem? (i := 43) rfl)
theorem xc_23 : Jvm.Cond.code yX2_setInKey cX2_setInKey 5 none ∈ lw_tbl := xTb_in (k := 5) (List.mem_of_getElem? (i := 50) rfl)
theorem xc_24 : Jvm.Cond.code yX2_thicknessIn cX2_thicknessIn 3 (some .int) ∈ lw_tbl := xTb_in (k := 5) (List.mem_of_getElem? (i := 83) rfl)
theorem xc_25 : Jvm.Cond.code yX2_unpack cX2_unpack 4 none ∈ lw_tbl := xTb_in (k := 5) (List.mem_of_getElem? (i := 78) rfl)
theorem xc_26 : Jvm.Cond.code yX2_nodeOfKey cX2_nodeOfKey 3 (some .int) ∈ lw_tbl := xTb_in (k := 5) (List.mem_of_getElem? (i := 56) rfl)
theorem xc_27 : Jvm.Cond.code yX2_slotOfKey cX2_slotOfKey 4 (some .int) ∈ lw_tbl := xTb_in (k := 5) (List.mem_of_getElem? (i := 60) rfl)
theorem xc_28 : Jvm.Cond.code yX2_hasKey cX2_hasKey 3 (some .boolean) ∈ lw_tbl := xTb_in (k := 5) (List.mem_of_getElem? (i := 65) rfl)
theorem xc_29 : Jvm.Cond.code yX2_targetOf cX2_targetOf 1 (some .int) ∈ lw_tbl := xTb_in (k := 5) (List.mem_of_getElem? (i := 98) rfl)
theorem xc_30 : Jvm.Cond.code yX2_valueWins cX2_valueWins 3 none ∈ lw_tbl := xTb_in (k := 5) (List.mem_of_getElem? (i := 95) rfl)
theorem xc_31 : Jvm.Cond.code yX2_valueLengths cX2_valueLengths 5 none ∈ lw_tbl := xTb_in (k := 5) (List.mem_of_getElem? (i := 114) rfl)
theorem xc_32 : Jvm.Cond.code yX2_leastEdgeTo cX2_leastEdgeTo 4 (some .int) ∈ lw_tbl := xTb_in (k := 5) (List.mem_of_getElem? (i := 106) rfl)
theorem xc_33 : Jvm.Cond.code yX2_leastMoveTo cX2_leastMoveTo 4 (some .int) ∈ lw_tbl := xTb_in (k := 5) (List.mem_of_getElem? (i := 102) rfl)
theorem xc_34 : Jvm.Cond.code yX2_tellBestPath cX2_tellBestPath 5 none ∈ lw_tbl := xTb_in (k := 5) (List.mem_of_getElem? (i := 118) rfl)
theorem xc_35 : Jvm.Cond.code yX2_firstHighest cX2_firstHighest 3 (some .int) ∈ lw_tbl := xTb_in (k := 5) (List.mem_of_getElem? (i := 132) rfl)
theorem xc_36 : Jvm.Cond.code yX2_firstWithGap cX2_firstWithGap 3 (some .int) ∈ lw_tbl := xTb_in (k := 5) (List.mem_of_getElem? (i := 156) rfl)
theorem xc_37 : Jvm.Cond.code yX2_tracePath cX2_tracePath 4 none ∈ lw_tbl := xTb_in (k := 5) (List.mem_of_getElem? (i := 140) rfl)
theorem xc_38 : Jvm.Cond.code yX2_firstMoveTo cX2_firstMoveTo 2 (some .int) ∈ lw_tbl := xTb_in (k := 5) (List.mem_of_getElem? (i := 136) rfl)
theorem xc_39 : Jvm.Cond.code yX2_tellPathTo cX2_tellPathTo 4 none ∈ lw_tbl := xTb_in (k := 5) (List.mem_of_getElem? (i := 160) rfl)
theorem xc_40 : Jvm.Cond.code yX2_ends cX2_ends 3 (some .int) ∈ lw_tbl := xTb_in (k := 5) (List.mem_of_getElem? (i := 148) rfl)
theorem xc_41 : Jvm.Cond.code yX3_init cX3_init 2 none ∈ lw_tbl := xTb_in (k := 1) (List.mem_of_getElem? (i := 146) rfl)
theorem xc_42 : Jvm.Cond.code yX3_clear cX3_clear 1 none ∈ lw_tbl := xTb_in (k := 3) (List.mem_of_getElem? (i := 170) rfl)
theorem xc_43 : Jvm.Cond.code yX3_push cX3_push 2 none ∈ lw_tbl := xTb_in (k := 4) (List.mem_of_getElem? (i := 206) rfl)
theorem xc_44 : Jvm.Cond.code yX3_popInto cX3_popInto 2 none ∈ lw_tbl := xTb_in (k := 5) (List.mem_of_getElem? (i := 22) rfl)
theorem xc_45 : Jvm.Cond.code yX4_init cX4_init 1 none ∈ lw_tbl := xTb_in (k := 3) (List.mem_of_getElem? (i := 38) rfl)
theorem xc_46 : Jvm.Cond.code yX4_readFrom cX4_readFrom 5 (some .int) ∈ lw_tbl := xTb_in (k := 4) (List.mem_of_getElem? (i := 235) rfl)
theorem xc_47 : Jvm.Cond.code yX4_step cX4_step 5 (some .int) ∈ lw_tbl := xTb_in (k := 5) (List.mem_of_getElem? (i := 0) rfl)
theorem xc_48 : Jvm.Cond.code yX4_readDigit cX4_readDigit 5 (some .int) ∈ lw_tbl := xTb_in (k := 5) (List.mem_of_getElem? (i := 8) rfl)
theorem xc_49 : Jvm.Cond.code yX5_init cX5_init 1 none ∈ lw_tbl := xTb_in (k := 1) (List.mem_of_getElem? (i := 61) rfl)
theorem xc_50 : Jvm.Cond.code yX5_clear cX5_clear 1 none ∈ lw_tbl := xTb_in (k := 4) (List.mem_of_getElem? (i := 50) rfl)
theorem xc_51 : Jvm.Cond.code yX5_add cX5_add 3 none ∈ lw_tbl := xTb_in (k := 4) (List.mem_of_getElem? (i := 54) rfl)
theorem xc_52 : Jvm.Cond.code yX6_init cX6_init 1 none ∈ lw_tbl := xTb_in (k := 1) (List.mem_of_getElem? (i := 208) rfl)
theorem xc_53 : Jvm.Cond.code yX6_readFrom cX6_readFrom 4 (some .int) ∈ lw_tbl := xTb_in (k := 3) (List.mem_of_getElem? (i := 182) rfl)
theorem xc_54 : Jvm.Cond.code yX6_adoptDraft cX6_adoptDraft 1 none ∈ lw_tbl := xTb_in (k := 2) (List.mem_of_getElem? (i := 68) rfl)
theorem xc_55 : Jvm.Cond.code yX6_startReading cX6_startReading 1 none ∈ lw_tbl := xTb_in (k := 3) (List.mem_of_getElem? (i := 187) rfl)
theorem xc_56 : Jvm.Cond.code yX6_draftNone cX6_draftNone 1 none ∈ lw_tbl := xTb_in (k := 1) (List.mem_of_getElem? (i := 213) rfl)
theorem xc_57 : Jvm.Cond.code yX6_emit cX6_emit 2 none ∈ lw_tbl := xTb_in (k := 2) (List.mem_of_getElem? (i := 64) rfl)
theorem xc_58 : Jvm.Cond.code yX6_postpone cX6_postpone 2 none ∈ lw_tbl := xTb_in (k := 3) (List.mem_of_getElem? (i := 197) rfl)
theorem xc_59 : Jvm.Cond.code yX6_readThing cX6_readThing 3 (some .boolean) ∈ lw_tbl := xTb_in (k := 3) (List.mem_of_getElem? (i := 191) rfl)
theorem xc_60 : Jvm.Cond.code yX6_readBehindThing cX6_readBehindThing 3 (some .boolean) ∈ lw_tbl := xTb_in (k := 3) (List.mem_of_getElem? (i := 203) rfl)
theorem xc_61 : Jvm.Cond.code yX6_readOperator cX6_readOperator 3 (some .boolean) ∈ lw_tbl := xTb_in (k := 3) (List.mem_of_getElem? (i := 216) rfl)
theorem xc_62 : Jvm.Cond.code yX6_bindingOf cX6_bindingOf 1 (some .int) ∈ lw_tbl := xTb_in (k := 3) (List.mem_of_getElem? (i := 211) rfl)
theorem xc_63 : Jvm.Cond.code yX6_releaseDownTo cX6_releaseDownTo 3 none ∈ lw_tbl := xTb_in (k := 3) (List.mem_of_getElem? (i := 208) rfl)
theorem xc_64 : Jvm.Cond.code yX6_valueOf cX6_valueOf 5 (some .int) ∈ lw_tbl := xTb_in (k := 4) (List.mem_of_getElem? (i := 154) rfl)
theorem xc_65 : Jvm.Cond.code yX6_factOf cX6_factOf 2 (some .int) ∈ lw_tbl := xTb_in (k := 4) (List.mem_of_getElem? (i := 160) rfl)
theorem xc_66 : Jvm.Cond.code yX6_apply cX6_apply 3 (some .int) ∈ lw_tbl := xTb_in (k := 4) (List.mem_of_getElem? (i := 157) rfl)
theorem xc_67 : Jvm.Cond.code yX7_init cX7_init 1 none ∈ lw_tbl := xTb_in (k := 1) (List.mem_of_getElem? (i := 77) rfl)
theorem xc_68 : Jvm.Cond.code yX7_isFelled cX7_isFelled 1 (some .boolean) ∈ lw_tbl := xTb_in (k := 4) (List.mem_of_getElem? (i := 91) rfl)
theorem xc_69 : Jvm.Cond.code yX7_begin cX7_begin 1 none ∈ lw_tbl := xTb_in (k := 3) (List.mem_of_getElem? (i := 165) rfl)
theorem xc_70 : Jvm.Cond.code yX7_fell cX7_fell 4 none ∈ lw_tbl := xTb_in (k := 4) (List.mem_of_getElem? (i := 225) rfl)
theorem xc_71 : Jvm.Cond.code yX7_copyFrom cX7_copyFrom 2 none ∈ lw_tbl := xTb_in (k := 4) (List.mem_of_getElem? (i := 210) rfl)
theorem xc_72 : Jvm.Cond.code yX8_init cX8_init 1 none ∈ lw_tbl := xTb_in (k := 1) (List.mem_of_getElem? (i := 39) rfl)
theorem xc_73 : Jvm.Cond.code yX8_addFour cX8_addFour 3 (some .boolean) ∈ lw_tbl := xTb_in (k := 3) (List.mem_of_getElem? (i := 114) rfl)
theorem xc_74 : Jvm.Cond.code yX8_cut cX8_cut 2 (some .boolean) ∈ lw_tbl := xTb_in (k := 3) (List.mem_of_getElem? (i := 122) rfl)
theorem xc_75 : Jvm.Cond.code yX8_clear cX8_clear 1 none ∈ lw_tbl := xTb_in (k := 3) (List.mem_of_getElem? (i := 174) rfl)
theorem xc_76 : Jvm.Cond.code yX8_isDigit cX8_isDigit 2 (some .boolean) ∈ lw_tbl := xTb_in (k := 3) (List.mem_of_getElem? (i := 149) rfl)
theorem xc_77 : Jvm.Cond.code yX8_isOneOf cX8_isOneOf 3 (some .boolean) ∈ lw_tbl := xTb_in (k := 3) (List.mem_of_getElem? (i := 134) rfl)
theorem xc_78 : Jvm.Cond.code yX9_init cX9_init 1 none ∈ lw_tbl := xTb_in (k := 2) (List.mem_of_getElem? (i := 222) rfl)
theorem xc_79 : Jvm.Cond.code yX9_clear cX9_clear 1 none ∈ lw_tbl := xTb_in (k := 2) (List.mem_of_getElem? (i := 227) rfl)
theorem xc_80 : Jvm.Cond.code yX9_tell cX9_tell 3 (some .boolean) ∈ lw_tbl := xTb_in (k := 5) (List.mem_of_getElem? (i := 195) rfl)
theorem xc_81 : Jvm.Cond.code yX9_touched cX9_touched 6 (some .int) ∈ lw_tbl := xTb_in (k := 5) (List.mem_of_getElem? (i := 216) rfl)
theorem xc_82 : Jvm.Cond.code yX9_sift cX9_sift 9 none ∈ lw_tbl := xTb_in (k := 5) (List.mem_of_getElem? (i := 211) rfl)
theorem xc_83 : Jvm.Cond.code yX9_noteRow cX9_noteRow 6 none ∈ lw_tbl := xTb_in (k := 5) (List.mem_of_getElem? (i := 221) rfl)
theorem xc_84 : Jvm.Cond.code yX10_init cX10_init 1 none ∈ lw_tbl := xTb_in (k := 1) (List.mem_of_getElem? (i := 83) rfl)
theorem xc_85 : Jvm.Cond.code yX10_fitThickness cX10_fitThickness 1 (some .int) ∈ lw_tbl := xTb_in (k := 4) (List.mem_of_getElem? (i := 8) rfl)
theorem xc_86 : Jvm.Cond.code yX10_wrongSign cX10_wrongSign 4 (some .int) ∈ lw_tbl := xTb_in (k := 3) (List.mem_of_getElem? (i := 129) rfl)
theorem xc_87 : Jvm.Cond.code yX10_readFrom cX10_readFrom 3 none ∈ lw_tbl := xTb_in (k := 3) (List.mem_of_getElem? (i := 141) rfl)
theorem xc_88 : Jvm.Cond.code yX10_clear cX10_clear 1 none ∈ lw_tbl := xTb_in (k := 3) (List.mem_of_getElem? (i := 145) rfl)
theorem xc_89 : Jvm.Cond.code yX10_copyFrom cX10_copyFrom 2 none ∈ lw_tbl := xTb_in (k := 4) (List.mem_of_getElem? (i := 214) rfl)
theorem xc_90 : Jvm.Cond.code yX10_has cX10_has 2 (some .boolean) ∈ lw_tbl := xTb_in (k := 3) (List.mem_of_getElem? (i := 233) rfl)
theorem xc_91 : Jvm.Cond.code yX10_hasLayer cX10_hasLayer 2 (some .boolean) ∈ lw_tbl := xTb_in (k := 4) (List.mem_of_getElem? (i := 21) rfl)
theorem xc_92 : Jvm.Cond.code yX10_put cX10_put 3 none ∈ lw_tbl := xTb_in (k := 3) (List.mem_of_getElem? (i := 153) rfl)
theorem xc_93 : Jvm.Cond.code yX10_take cX10_take 4 (some .int) ∈ lw_tbl := xTb_in (k := 4) (List.mem_of_getElem? (i := 120) rfl)
theorem xc_94 : Jvm.Cond.code yX10_carry cX10_carry 3 none ∈ lw_tbl := xTb_in (k := 4) (List.mem_of_getElem? (i := 188) rfl)
theorem xc_95 : Jvm.Cond.code yX10_refresh cX10_refresh 8 none ∈ lw_tbl := xTb_in (k := 3) (List.mem_of_getElem? (i := 158) rfl)
theorem xc_96 : Jvm.Cond.code yX10_bearers cX10_bearers 8 (some .int) ∈ lw_tbl := xTb_in (k := 3) (List.mem_of_getElem? (i := 161) rfl)
theorem xc_97 : Jvm.Cond.code yX10_blocksIn cX10_blocksIn 4 (some .int) ∈ lw_tbl := xTb_in (k := 4) (List.mem_of_getElem? (i := 107) rfl)
theorem xc_98 : Jvm.Cond.code yX10_blocksAbove cX10_blocksAbove 4 (some .int) ∈ lw_tbl := xTb_in (k := 6) (List.mem_of_getElem? (i := 15) rfl)
theorem xc_99 : Jvm.Cond.code yX10_isTight cX10_isTight 2 (some .boolean) ∈ lw_tbl := xTb_in (k := 4) (List.mem_of_getElem? (i := 144) rfl)
theorem xc_100 : Jvm.Cond.code yX10_looseIn cX10_looseIn 4 (some .int) ∈ lw_tbl := xTb_in (k := 4) (List.mem_of_getElem? (i := 62) rfl)
theorem xc_101 : Jvm.Cond.code yX10_movesEnd cX10_movesEnd 1 (some .int) ∈ lw_tbl := xTb_in (k := 4) (List.mem_of_getElem? (i := 99) rfl)
theorem xc_102 : Jvm.Cond.code yX10_canGo cX10_canGo 4 (some .boolean) ∈ lw_tbl := xTb_in (k := 4) (List.mem_of_getElem? (i := 103) rfl)
theorem xc_103 : Jvm.Cond.code yX10_landing cX10_landing 3 (some .int) ∈ lw_tbl := xTb_in (k := 4) (List.mem_of_getElem? (i := 116) rfl)
theorem xc_104 : Jvm.Cond.code yX11_init cX11_init 2 none ∈ lw_tbl := xTb_in (k := 1) (List.mem_of_getElem? (i := 31) rfl)
theorem xc_105 : Jvm.Cond.code yX11_sign cX11_sign 2 (some .int) ∈ lw_tbl := xTb_in (k := 3) (List.mem_of_getElem? (i := 110) rfl)
theorem xc_106 : Jvm.Cond.code yX11_end cX11_end 2 (some .boolean) ∈ lw_tbl := xTb_in (k := 3) (List.mem_of_getElem? (i := 118) rfl)
theorem xc_107 : Jvm.Cond.code yX11_tower cX11_tower 2 (some .int) ∈ lw_tbl := xTb_in (k := 3) (List.mem_of_getElem? (i := 126) rfl)
theorem xc_108 : Jvm.Cond.code yX11_rule cX11_rule 2 (some .int) ∈ lw_tbl := xTb_in (k := 3) (List.mem_of_getElem? (i := 178) rfl)
theorem xc_109 : Jvm.Cond.code yX11_players cX11_players 3 (some .int) ∈ lw_tbl := xTb_in (k := 3) (List.mem_of_getElem? (i := 220) rfl)
theorem xc_110 : Jvm.Cond.code yX11_wrongHand cX11_wrongHand 2 (some .int) ∈ lw_tbl := xTb_in (k := 3) (List.mem_of_getElem? (i := 224) rfl)
theorem xc_111 : Jvm.Cond.code yX11_block cX11_block 4 (some .int) ∈ lw_tbl := xTb_in (k := 6) (List.mem_of_getElem? (i := 23) rfl)
theorem xc_112 : Jvm.Cond.code yX11_canBeDrawn cX11_canBeDrawn 5 (some .boolean) ∈ lw_tbl := xTb_in (k := 6) (List.mem_of_getElem? (i := 93) rfl)
theorem xc_113 : Jvm.Cond.code yX11_layer cX11_layer 4 (some .int) ∈ lw_tbl := xTb_in (k := 6) (List.mem_of_getElem? (i := 101) rfl)
theorem xc_114 : Jvm.Cond.code yX11_plane cX11_plane 4 (some .int) ∈ lw_tbl := xTb_in (k := 3) (List.mem_of_getElem? (i := 229) rfl)
theorem xc_115 : Jvm.Cond.code yX11_sheet cX11_sheet 5 (some .int) ∈ lw_tbl := xTb_in (k := 3) (List.mem_of_getElem? (i := 238) rfl)
theorem xc_116 : Jvm.Cond.code yX11_copySheet cX11_copySheet 10 (some .int) ∈ lw_tbl := xTb_in (k := 4) (List.mem_of_getElem? (i := 2) rfl)
theorem xc_117 : Jvm.Cond.code yX11_entry cX11_entry 2 (some .int) ∈ lw_tbl := xTb_in (k := 4) (List.mem_of_getElem? (i := 5) rfl)
theorem xc_118 : Jvm.Cond.code yX11_table cX11_table 3 (some .boolean) ∈ lw_tbl := xTb_in (k := 4) (List.mem_of_getElem? (i := 13) rfl)
theorem xc_119 : Jvm.Cond.code yX11_swell cX11_swell 7 (some .int) ∈ lw_tbl := xTb_in (k := 4) (List.mem_of_getElem? (i := 17) rfl)
theorem xc_120 : Jvm.Cond.code yX11_bump cX11_bump 4 (some .int) ∈ lw_tbl := xTb_in (k := 4) (List.mem_of_getElem? (i := 25) rfl)
theorem xc_121 : Jvm.Cond.code yX11_stands cX11_stands 1 (some .int) ∈ lw_tbl := xTb_in (k := 4) (List.mem_of_getElem? (i := 46) rfl)
theorem xc_122 : Jvm.Cond.code yX11_loose cX11_loose 5 (some .int) ∈ lw_tbl := xTb_in (k := 4) (List.mem_of_getElem? (i := 58) rfl)
theorem xc_123 : Jvm.Cond.code yX11_weakest cX11_weakest 1 (some .int) ∈ lw_tbl := xTb_in (k := 4) (List.mem_of_getElem? (i := 74) rfl)
theorem xc_124 : Jvm.Cond.code yX11_lean cX11_lean 6 (some .int) ∈ lw_tbl := xTb_in (k := 4) (List.mem_of_getElem? (i := 78) rfl)
theorem xc_125 : Jvm.Cond.code yX11_movable cX11_movable 1 (some (.object "FelledHasLost$Tower")) ∈ lw_tbl := xTb_in (k := 4) (List.mem_of_getElem? (i := 87) rfl)
theorem xc_126 : Jvm.Cond.code yX11_handOf cX11_handOf 3 (some .int) ∈ lw_tbl := xTb_in (k := 4) (List.mem_of_getElem? (i := 132) rfl)
theorem xc_127 : Jvm.Cond.code yX11_moves cX11_moves 1 (some .int) ∈ lw_tbl := xTb_in (k := 4) (List.mem_of_getElem? (i := 83) rfl)
theorem xc_128 : Jvm.Cond.code yX11_odds cX11_odds 5 (some .int) ∈ lw_tbl := xTb_in (k := 4) (List.mem_of_getElem? (i := 126) rfl)
theorem xc_129 : Jvm.Cond.code yX11_best cX11_best 1 (some .int) ∈ lw_tbl := xTb_in (k := 4) (List.mem_of_getElem? (i := 166) rfl)
theorem xc_130 : Jvm.Cond.code yX11_leave cX11_leave 1 (some .int) ∈ lw_tbl := xTb_in (k := 4) (List.mem_of_getElem? (i := 180) rfl)
theorem xc_131 : Jvm.Cond.code yX11_where cX11_where 2 (some .int) ∈ lw_tbl := xTb_in (k := 4) (List.mem_of_getElem? (i := 194) rfl)
theorem xc_132 : Jvm.Cond.code yX11_move cX11_move 2 (some .int) ∈ lw_tbl := xTb_in (k := 4) (List.mem_of_getElem? (i := 202) rfl)
theorem xc_133 : Jvm.Cond.code yX11_carryOut cX11_carryOut 6 none ∈ lw_tbl := xTb_in (k := 4) (List.mem_of_getElem? (i := 220) rfl)
theorem xc_134 : Jvm.Cond.code yX11_play cX11_play 6 (some .int) ∈ lw_tbl := xTb_in (k := 4) (List.mem_of_getElem? (i := 231) rfl)
theorem xc_135 : Jvm.Cond.code yX11_undo cX11_undo 1 (some .int) ∈ lw_tbl := xTb_in (k := 5) (List.mem_of_getElem? (i := 18) rfl)
theorem xc_136 : Jvm.Cond.code yX11_why cX11_why 1 (some .int) ∈ lw_tbl := xTb_in (k := 5) (List.mem_of_getElem? (i := 26) rfl)
theorem xc_137 : Jvm.Cond.code yX11_findAllTowers cX11_findAllTowers 1 (some .boolean) ∈ lw_tbl := xTb_in (k := 5) (List.mem_of_getElem? (i := 34) rfl)
theorem xc_138 : Jvm.Cond.code yX11_wins cX11_wins 1 (some .int) ∈ lw_tbl := xTb_in (k := 5) (List.mem_of_getElem? (i := 30) rfl)
theorem xc_139 : Jvm.Cond.code yX11_longest cX11_longest 1 (some .int) ∈ lw_tbl := xTb_in (k := 5) (List.mem_of_getElem? (i := 110) rfl)
theorem xc_140 : Jvm.Cond.code yX11_shortest cX11_shortest 1 (some .int) ∈ lw_tbl := xTb_in (k := 5) (List.mem_of_getElem? (i := 124) rfl)
theorem xc_141 : Jvm.Cond.code yX11_high cX11_high 2 (some .int) ∈ lw_tbl := xTb_in (k := 5) (List.mem_of_getElem? (i := 128) rfl)
theorem xc_142 : Jvm.Cond.code yX11_towers cX11_towers 1 (some .int) ∈ lw_tbl := xTb_in (k := 5) (List.mem_of_getElem? (i := 144) rfl)
theorem xc_143 : Jvm.Cond.code yX11_free cX11_free 3 (some .int) ∈ lw_tbl := xTb_in (k := 5) (List.mem_of_getElem? (i := 152) rfl)
theorem xc_144 : Jvm.Cond.code yX11_chance cX11_chance 6 (some .int) ∈ lw_tbl := xTb_in (k := 5) (List.mem_of_getElem? (i := 164) rfl)
theorem xc_145 : Jvm.Cond.code yX11_commonDivisor cX11_commonDivisor 6 (some .int) ∈ lw_tbl := xTb_in (k := 5) (List.mem_of_getElem? (i := 176) rfl)
theorem xc_146 : Jvm.Cond.code yX11_loser cX11_loser 6 (some .int) ∈ lw_tbl := xTb_in (k := 5) (List.mem_of_getElem? (i := 181) rfl)
theorem xc_147 : Jvm.Cond.code yX11_tellShares cX11_tellShares 4 (some .int) ∈ lw_tbl := xTb_in (k := 5) (List.mem_of_getElem? (i := 187) rfl)
theorem xc_148 : Jvm.Cond.code yX11_felt cX11_felt 3 (some .int) ∈ lw_tbl := xTb_in (k := 5) (List.mem_of_getElem? (i := 191) rfl)
theorem xc_149 : Jvm.Cond.code yX11_known cX11_known 4 (some .boolean) ∈ lw_tbl := xTb_in (k := 5) (List.mem_of_getElem? (i := 199) rfl)
theorem xc_150 : Jvm.Cond.code yX11_forget cX11_forget 2 (some .int) ∈ lw_tbl := xTb_in (k := 5) (List.mem_of_getElem? (i := 203) rfl)
theorem xc_151 : Jvm.Cond.code yX11_fits cX11_fits 2 (some .int) ∈ lw_tbl := xTb_in (k := 5) (List.mem_of_getElem? (i := 207) rfl)
theorem xc_152 : Jvm.Cond.code yX11_tellThicknesses cX11_tellThicknesses 3 none ∈ lw_tbl := xTb_in (k := 5) (List.mem_of_getElem? (i := 226) rfl)
theorem xc_153 : Jvm.Cond.code yX11_span cX11_span 2 (some .int) ∈ lw_tbl := xTb_in (k := 5) (List.mem_of_getElem? (i := 230) rfl)
theorem xc_154 : Jvm.Cond.code yX11_sure cX11_sure 3 (some .int) ∈ lw_tbl := xTb_in (k := 5) (List.mem_of_getElem? (i := 234) rfl)
theorem xc_155 : Jvm.Cond.code yX11_touch cX11_touch 6 (some .int) ∈ lw_tbl := xTb_in (k := 5) (List.mem_of_getElem? (i := 238) rfl)
theorem xc_156 : Jvm.Cond.code yX11_keep cX11_keep 2 (some .boolean) ∈ lw_tbl := xTb_in (k := 6) (List.mem_of_getElem? (i := 2) rfl)
theorem xc_157 : Jvm.Cond.code yX11_again cX11_again 2 (some .boolean) ∈ lw_tbl := xTb_in (k := 6) (List.mem_of_getElem? (i := 7) rfl)
theorem xc_158 : Jvm.Cond.code yX11_count cX11_count 3 (some .int) ∈ lw_tbl := xTb_in (k := 6) (List.mem_of_getElem? (i := 11) rfl)
theorem xc_159 : Jvm.Cond.code yX11_row cX11_row 2 (some .long) ∈ lw_tbl := xTb_in (k := 6) (List.mem_of_getElem? (i := 116) rfl)
theorem xc_160 : Jvm.Cond.code yX12_thrown cX12_thrown 1 (some .int) ∈ lw_tbl := xTb_in (k := 6) (List.mem_of_getElem? (i := 121) rfl)
theorem xc_161 : Jvm.Cond.code yX12_refuse cX12_refuse 1 (some .int) ∈ lw_tbl := xTb_in (k := 7) (List.mem_of_getElem? (i := 157) rfl)
theorem xc_162 : Jvm.Cond.code yX12_in cX12_in 6 (some .boolean) ∈ lw_tbl := xTb_in (k := 7) (List.mem_of_getElem? (i := 65) rfl)
theorem xc_163 : Jvm.Cond.code yX12_flag cX12_flag 1 (some .int) ∈ lw_tbl := xTb_in (k := 7) (List.mem_of_getElem? (i := 87) rfl)
theorem xc_164 : Jvm.Cond.code yX12_common cX12_common 4 (some .long) ∈ lw_tbl := xTb_in (k := 8) (List.mem_of_getElem? (i := 170) rfl)
theorem xc_165 : Jvm.Cond.code yX12_enters cX12_enters 3 none ∈ lw_tbl := xTb_in (k := 7) (List.mem_of_getElem? (i := 219) rfl)
theorem xc_166 : Jvm.Cond.code yX12_init cX12_init 1 none ∈ lw_tbl := xTb_in (k := 6) (List.mem_of_getElem? (i := 126) rfl)
theorem xc_167 : Jvm.Cond.code yX12_empties cX12_empties 2 none ∈ lw_tbl := xTb_in (k := 6) (List.mem_of_getElem? (i := 130) rfl)
theorem xc_168 : Jvm.Cond.code yX12_puts cX12_puts 3 none ∈ lw_tbl := xTb_in (k := 7) (List.mem_of_getElem? (i := 170) rfl)
theorem xc_169 : Jvm.Cond.code yX12_isThere cX12_isThere 2 (some .boolean) ∈ lw_tbl := xTb_in (k := 7) (List.mem_of_getElem? (i := 151) rfl)
theorem xc_170 : Jvm.Cond.code yX12_blocksOf cX12_blocksOf 2 (some .int) ∈ lw_tbl := xTb_in (k := 7) (List.mem_of_getElem? (i := 167) rfl)
theorem xc_171 : Jvm.Cond.code yX12_sign cX12_sign 3 (some .int) ∈ lw_tbl := xTb_in (k := 7) (List.mem_of_getElem? (i := 58) rfl)
theorem xc_172 : Jvm.Cond.code yX12_end cX12_end 2 (some .boolean) ∈ lw_tbl := xTb_in (k := 7) (List.mem_of_getElem? (i := 62) rfl)
theorem xc_173 : Jvm.Cond.code yX12_begins cX12_begins 3 (some .int) ∈ lw_tbl := xTb_in (k := 7) (List.mem_of_getElem? (i := 73) rfl)
theorem xc_174 : Jvm.Cond.code yX12_takes cX12_takes 3 (some .boolean) ∈ lw_tbl := xTb_in (k := 7) (List.mem_of_getElem? (i := 91) rfl)
theorem xc_175 : Jvm.Cond.code yX12_isDigit cX12_isDigit 1 (some .boolean) ∈ lw_tbl := xTb_in (k := 7) (List.mem_of_getElem? (i := 82) rfl)
theorem xc_176 : Jvm.Cond.code yX12_among cX12_among 3 (some .int) ∈ lw_tbl := xTb_in (k := 7) (List.mem_of_getElem? (i := 120) rfl)
theorem xc_177 : Jvm.Cond.code yX12_faultOf cX12_faultOf 5 (some .int) ∈ lw_tbl := xTb_in (k := 7) (List.mem_of_getElem? (i := 99) rfl)
theorem xc_178 : Jvm.Cond.code yX12_readsLayer cX12_readsLayer 5 (some .boolean) ∈ lw_tbl := xTb_in (k := 7) (List.mem_of_getElem? (i := 78) rfl)
theorem xc_179 : Jvm.Cond.code yX12_tower cX12_tower 5 (some .int) ∈ lw_tbl := xTb_in (k := 7) (List.mem_of_getElem? (i := 69) rfl)
theorem xc_180 : Jvm.Cond.code yX12_players cX12_players 5 (some .int) ∈ lw_tbl := xTb_in (k := 7) (List.mem_of_getElem? (i := 95) rfl)
theorem xc_181 : Jvm.Cond.code yX12_codes cX12_codes 2 none ∈ lw_tbl := xTb_in (k := 7) (List.mem_of_getElem? (i := 115) rfl)
theorem xc_182 : Jvm.Cond.code yX12_readsThing cX12_readsThing 3 (some .boolean) ∈ lw_tbl := xTb_in (k := 7) (List.mem_of_getElem? (i := 111) rfl)
theorem xc_183 : Jvm.Cond.code yX12_readsRank cX12_readsRank 4 (some .boolean) ∈ lw_tbl := xTb_in (k := 7) (List.mem_of_getElem? (i := 107) rfl)
theorem xc_184 : Jvm.Cond.code yX12_rule cX12_rule 5 (some .int) ∈ lw_tbl := xTb_in (k := 7) (List.mem_of_getElem? (i := 103) rfl)
theorem xc_185 : Jvm.Cond.code yX12_bearing cX12_bearing 7 (some .int) ∈ lw_tbl := xTb_in (k := 7) (List.mem_of_getElem? (i := 163) rfl)
theorem xc_186 : Jvm.Cond.code yX12_isTight cX12_isTight 2 (some .boolean) ∈ lw_tbl := xTb_in (k := 7) (List.mem_of_getElem? (i := 160) rfl)
theorem xc_187 : Jvm.Cond.code yX12_measures cX12_measures 17 (some .int) ∈ lw_tbl := xTb_in (k := 7) (List.mem_of_getElem? (i := 178) rfl)
theorem xc_188 : Jvm.Cond.code yX12_isStanding cX12_isStanding 2 (some .boolean) ∈ lw_tbl := xTb_in (k := 7) (List.mem_of_getElem? (i := 174) rfl)
theorem xc_189 : Jvm.Cond.code yX12_block cX12_block 5 (some .int) ∈ lw_tbl := xTb_in (k := 7) (List.mem_of_getElem? (i := 148) rfl)
theorem xc_190 : Jvm.Cond.code yX12_isLayer cX12_isLayer 2 (some .boolean) ∈ lw_tbl := xTb_in (k := 7) (List.mem_of_getElem? (i := 186) rfl)
theorem xc_191 : Jvm.Cond.code yX12_layer cX12_layer 4 (some .int) ∈ lw_tbl := xTb_in (k := 7) (List.mem_of_getElem? (i := 182) rfl)
theorem xc_192 : Jvm.Cond.code yX12_plane cX12_plane 4 (some .int) ∈ lw_tbl := xTb_in (k := 7) (List.mem_of_getElem? (i := 191) rfl)
theorem xc_193 : Jvm.Cond.code yX12_sheet cX12_sheet 10 (some .int) ∈ lw_tbl := xTb_in (k := 7) (List.mem_of_getElem? (i := 196) rfl)
theorem xc_194 : Jvm.Cond.code yX12_table cX12_table 3 (some .boolean) ∈ lw_tbl := xTb_in (k := 7) (List.mem_of_getElem? (i := 201) rfl)
theorem xc_195 : Jvm.Cond.code yX12_swell cX12_swell 6 (some .int) ∈ lw_tbl := xTb_in (k := 7) (List.mem_of_getElem? (i := 206) rfl)
theorem xc_196 : Jvm.Cond.code yX12_bump cX12_bump 3 (some .int) ∈ lw_tbl := xTb_in (k := 7) (List.mem_of_getElem? (i := 210) rfl)
theorem xc_197 : Jvm.Cond.code yX12_stands cX12_stands 2 (some .int) ∈ lw_tbl := xTb_in (k := 7) (List.mem_of_getElem? (i := 215) rfl)
theorem xc_198 : Jvm.Cond.code yX12_loose cX12_loose 5 (some .int) ∈ lw_tbl := xTb_in (k := 7) (List.mem_of_getElem? (i := 223) rfl)
theorem xc_199 : Jvm.Cond.code yX12_weakest cX12_weakest 1 (some .int) ∈ lw_tbl := xTb_in (k := 7) (List.mem_of_getElem? (i := 228) rfl)
theorem xc_200 : Jvm.Cond.code yX12_lean cX12_lean 6 (some .int) ∈ lw_tbl := xTb_in (k := 7) (List.mem_of_getElem? (i := 232) rfl)
theorem xc_201 : Jvm.Cond.code yX12_hasGap cX12_hasGap 1 (some .boolean) ∈ lw_tbl := xTb_in (k := 8) (List.mem_of_getElem? (i := 3) rfl)
theorem xc_202 : Jvm.Cond.code yX12_canMove cX12_canMove 6 (some .boolean) ∈ lw_tbl := xTb_in (k := 8) (List.mem_of_getElem? (i := 0) rfl)
theorem xc_203 : Jvm.Cond.code yX12_draws cX12_draws 6 (some .int) ∈ lw_tbl := xTb_in (k := 8) (List.mem_of_getElem? (i := 11) rfl)
theorem xc_204 : Jvm.Cond.code yX12_isSafe cX12_isSafe 3 (some .boolean) ∈ lw_tbl := xTb_in (k := 8) (List.mem_of_getElem? (i := 7) rfl)
theorem xc_205 : Jvm.Cond.code yX12_marginOf cX12_marginOf 3 (some .int) ∈ lw_tbl := xTb_in (k := 8) (List.mem_of_getElem? (i := 30) rfl)
theorem xc_206 : Jvm.Cond.code yX12_thingOf cX12_thingOf 7 (some .int) ∈ lw_tbl := xTb_in (k := 8) (List.mem_of_getElem? (i := 26) rfl)
theorem xc_207 : Jvm.Cond.code yX12_worked cX12_worked 3 (some .int) ∈ lw_tbl := xTb_in (k := 8) (List.mem_of_getElem? (i := 22) rfl)
theorem xc_208 : Jvm.Cond.code yX12_oddsOf cX12_oddsOf 8 (some .int) ∈ lw_tbl := xTb_in (k := 8) (List.mem_of_getElem? (i := 19) rfl)
theorem xc_209 : Jvm.Cond.code yX12_moves cX12_moves 6 (some .int) ∈ lw_tbl := xTb_in (k := 7) (List.mem_of_getElem? (i := 237) rfl)
theorem xc_210 : Jvm.Cond.code yX12_odds cX12_odds 4 (some .int) ∈ lw_tbl := xTb_in (k := 8) (List.mem_of_getElem? (i := 15) rfl)
theorem xc_211 : Jvm.Cond.code yX12_bestMove cX12_bestMove 6 (some .int) ∈ lw_tbl := xTb_in (k := 8) (List.mem_of_getElem? (i := 38) rfl)
theorem xc_212 : Jvm.Cond.code yX12_best cX12_best 2 (some .int) ∈ lw_tbl := xTb_in (k := 8) (List.mem_of_getElem? (i := 34) rfl)
theorem xc_213 : Jvm.Cond.code yX12_safeMoves cX12_safeMoves 4 (some .int) ∈ lw_tbl := xTb_in (k := 8) (List.mem_of_getElem? (i := 46) rfl)
theorem xc_214 : Jvm.Cond.code yX12_leave cX12_leave 7 (some .int) ∈ lw_tbl := xTb_in (k := 8) (List.mem_of_getElem? (i := 42) rfl)
theorem xc_215 : Jvm.Cond.code yX12_where cX12_where 7 (some .int) ∈ lw_tbl := xTb_in (k := 8) (List.mem_of_getElem? (i := 50) rfl)
theorem xc_216 : Jvm.Cond.code yX12_putsBy cX12_putsBy 2 none ∈ lw_tbl := xTb_in (k := 8) (List.mem_of_getElem? (i := 62) rfl)
theorem xc_217 : Jvm.Cond.code yX12_adds cX12_adds 2 none ∈ lw_tbl := xTb_in (k := 8) (List.mem_of_getElem? (i := 70) rfl)
theorem xc_218 : Jvm.Cond.code yX12_undo cX12_undo 2 (some .int) ∈ lw_tbl := xTb_in (k := 8) (List.mem_of_getElem? (i := 54) rfl)
theorem xc_219 : Jvm.Cond.code yX12_makes cX12_makes 5 (some .boolean) ∈ lw_tbl := xTb_in (k := 8) (List.mem_of_getElem? (i := 66) rfl)
theorem xc_220 : Jvm.Cond.code yX12_move cX12_move 3 (some .int) ∈ lw_tbl := xTb_in (k := 8) (List.mem_of_getElem? (i := 58) rfl)
theorem xc_221 : Jvm.Cond.code yX12_readsMove cX12_readsMove 4 (some .boolean) ∈ lw_tbl := xTb_in (k := 8) (List.mem_of_getElem? (i := 78) rfl)
theorem xc_222 : Jvm.Cond.code yX12_play cX12_play 8 (some .int) ∈ lw_tbl := xTb_in (k := 8) (List.mem_of_getElem? (i := 74) rfl)
theorem xc_223 : Jvm.Cond.code yX12_why cX12_why 1 (some .int) ∈ lw_tbl := xTb_in (k := 8) (List.mem_of_getElem? (i := 83) rfl)
theorem xc_224 : Jvm.Cond.code yX12_unpacks cX12_unpacks 4 none ∈ lw_tbl := xTb_in (k := 8) (List.mem_of_getElem? (i := 118) rfl)
theorem xc_225 : Jvm.Cond.code yX12_slotOf cX12_slotOf 5 (some .int) ∈ lw_tbl := xTb_in (k := 8) (List.mem_of_getElem? (i := 103) rfl)
theorem xc_226 : Jvm.Cond.code yX12_isSame cX12_isSame 5 (some .boolean) ∈ lw_tbl := xTb_in (k := 8) (List.mem_of_getElem? (i := 110) rfl)
theorem xc_227 : Jvm.Cond.code yX12_finds cX12_finds 6 none ∈ lw_tbl := xTb_in (k := 8) (List.mem_of_getElem? (i := 99) rfl)
theorem xc_228 : Jvm.Cond.code yX12_findsFirst cX12_findsFirst 2 none ∈ lw_tbl := xTb_in (k := 8) (List.mem_of_getElem? (i := 95) rfl)
theorem xc_229 : Jvm.Cond.code yX12_findsFrom cX12_findsFrom 3 none ∈ lw_tbl := xTb_in (k := 8) (List.mem_of_getElem? (i := 114) rfl)
theorem xc_230 : Jvm.Cond.code yX12_findsAll cX12_findsAll 2 (some .boolean) ∈ lw_tbl := xTb_in (k := 8) (List.mem_of_getElem? (i := 91) rfl)
theorem xc_231 : Jvm.Cond.code yX12_values cX12_values 3 none ∈ lw_tbl := xTb_in (k := 8) (List.mem_of_getElem? (i := 122) rfl)
theorem xc_232 : Jvm.Cond.code yX12_asks cX12_asks 9 (some .int) ∈ lw_tbl := xTb_in (k := 8) (List.mem_of_getElem? (i := 126) rfl)
theorem xc_233 : Jvm.Cond.code yX12_wins cX12_wins 1 (some .int) ∈ lw_tbl := xTb_in (k := 8) (List.mem_of_getElem? (i := 87) rfl)
theorem xc_234 : Jvm.Cond.code yX12_tellsLine cX12_tellsLine 4 (some .int) ∈ lw_tbl := xTb_in (k := 8) (List.mem_of_getElem? (i := 134) rfl)
theorem xc_235 : Jvm.Cond.code yX12_longest cX12_longest 1 (some .int) ∈ lw_tbl := xTb_in (k := 8) (List.mem_of_getElem? (i := 130) rfl)
theorem xc_236 : Jvm.Cond.code yX12_shortest cX12_shortest 1 (some .int) ∈ lw_tbl := xTb_in (k := 8) (List.mem_of_getElem? (i := 138) rfl)
theorem xc_237 : Jvm.Cond.code yX12_firstMove cX12_firstMove 3 (some .int) ∈ lw_tbl := xTb_in (k := 8) (List.mem_of_getElem? (i := 146) rfl)
theorem xc_238 : Jvm.Cond.code yX12_high cX12_high 3 (some .int) ∈ lw_tbl := xTb_in (k := 8) (List.mem_of_getElem? (i := 142) rfl)
theorem xc_239 : Jvm.Cond.code yX12_towers cX12_towers 3 (some .int) ∈ lw_tbl := xTb_in (k := 8) (List.mem_of_getElem? (i := 150) rfl)
theorem xc_240 : Jvm.Cond.code yX12_free cX12_free 4 (some .int) ∈ lw_tbl := xTb_in (k := 8) (List.mem_of_getElem? (i := 154) rfl)
theorem xc_241 : Jvm.Cond.code yX12_tellsWay cX12_tellsWay 5 (some .int) ∈ lw_tbl := xTb_in (k := 8) (List.mem_of_getElem? (i := 158) rfl)
theorem xc_242 : Jvm.Cond.code yX12_better cX12_better 3 (some .int) ∈ lw_tbl := xTb_in (k := 8) (List.mem_of_getElem? (i := 167) rfl)
theorem xc_243 : Jvm.Cond.code yX12_chance cX12_chance 8 (some .int) ∈ lw_tbl := xTb_in (k := 8) (List.mem_of_getElem? (i := 162) rfl)
theorem xc_244 : Jvm.Cond.code yX12_loser cX12_loser 6 (some .int) ∈ lw_tbl := xTb_in (k := 8) (List.mem_of_getElem? (i := 174) rfl)
theorem xc_245 : Jvm.Cond.code yX12_forgets cX12_forgets 3 (some .int) ∈ lw_tbl := xTb_in (k := 6) (List.mem_of_getElem? (i := 134) rfl)
theorem xc_246 : Jvm.Cond.code yX12_felt cX12_felt 3 (some .int) ∈ lw_tbl := xTb_in (k := 8) (List.mem_of_getElem? (i := 179) rfl)
theorem xc_247 : Jvm.Cond.code yX12_known cX12_known 4 (some .boolean) ∈ lw_tbl := xTb_in (k := 8) (List.mem_of_getElem? (i := 183) rfl)
theorem xc_248 : Jvm.Cond.code yX12_forget cX12_forget 1 (some .int) ∈ lw_tbl := xTb_in (k := 8) (List.mem_of_getElem? (i := 187) rfl)
theorem xc_249 : Jvm.Cond.code yX12_canBe cX12_canBe 7 (some .boolean) ∈ lw_tbl := xTb_in (k := 8) (List.mem_of_getElem? (i := 207) rfl)
theorem xc_250 : Jvm.Cond.code yX12_laysRows cX12_laysRows 6 none ∈ lw_tbl := xTb_in (k := 8) (List.mem_of_getElem? (i := 195) rfl)
theorem xc_251 : Jvm.Cond.code yX12_low cX12_low 2 (some .int) ∈ lw_tbl := xTb_in (k := 8) (List.mem_of_getElem? (i := 199) rfl)
theorem xc_252 : Jvm.Cond.code yX12_high_ cX12_high_ 2 (some .int) ∈ lw_tbl := xTb_in (k := 8) (List.mem_of_getElem? (i := 203) rfl)
theorem xc_253 : Jvm.Cond.code yX12_digitOf cX12_digitOf 2 (some .int) ∈ lw_tbl := xTb_in (k := 8) (List.mem_of_getElem? (i := 214) rfl)
theorem xc_254 : Jvm.Cond.code yX12_entersRow cX12_entersRow 4 none ∈ lw_tbl := xTb_in (k := 8) (List.mem_of_getElem? (i := 211) rfl)
theorem xc_255 : Jvm.Cond.code yX12_fits cX12_fits 2 (some .int) ∈ lw_tbl := xTb_in (k := 8) (List.mem_of_getElem? (i := 191) rfl)
theorem xc_256 : Jvm.Cond.code yX12_span cX12_span 4 (some .int) ∈ lw_tbl := xTb_in (k := 8) (List.mem_of_getElem? (i := 218) rfl)
theorem xc_257 : Jvm.Cond.code yX12_tightIn cX12_tightIn 6 (some .int) ∈ lw_tbl := xTb_in (k := 8) (List.mem_of_getElem? (i := 226) rfl)
theorem xc_258 : Jvm.Cond.code yX12_sure cX12_sure 3 (some .int) ∈ lw_tbl := xTb_in (k := 8) (List.mem_of_getElem? (i := 222) rfl)
theorem xc_259 : Jvm.Cond.code yX12_touch cX12_touch 7 (some .int) ∈ lw_tbl := xTb_in (k := 8) (List.mem_of_getElem? (i := 230) rfl)
theorem xc_260 : Jvm.Cond.code yX12_keep cX12_keep 3 (some .boolean) ∈ lw_tbl := xTb_in (k := 8) (List.mem_of_getElem? (i := 234) rfl)
theorem xc_261 : Jvm.Cond.code yX12_again cX12_again 3 (some .boolean) ∈ lw_tbl := xTb_in (k := 8) (List.mem_of_getElem? (i := 238) rfl)
theorem xc_262 : Jvm.Cond.code yX12_blocks cX12_blocks 3 (some .int) ∈ lw_tbl := xTb_in (k := 9) (List.mem_of_getElem? (i := 6) rfl)
theorem xc_263 : Jvm.Cond.code yX12_count cX12_count 2 (some .int) ∈ lw_tbl := xTb_in (k := 9) (List.mem_of_getElem? (i := 2) rfl)
theorem xc_264 : Jvm.Cond.code yX12_row cX12_row 2 (some .long) ∈ lw_tbl := xTb_in (k := 9) (List.mem_of_getElem? (i := 10) rfl)
theorem xc_265 : Jvm.Cond.code yJ7_fill_d0a16 cJ7_fill_d0a16 5 none ∈ lw_tbl := xTb_in (k := 5) (List.mem_of_getElem? (i := 46) rfl)
theorem xc_266 : Jvm.Cond.code yJ7_fill_53178 cJ7_fill_53178 4 none ∈ lw_tbl := xTb_in (k := 1) (List.mem_of_getElem? (i := 87) rfl)
theorem xc_267 : Jvm.Cond.code yJ6_bitCount_0f7a4 cJ6_bitCount_0f7a4 1 (some .int) ∈ lw_tbl := xTb_in (k := 4) (List.mem_of_getElem? (i := 67) rfl)
theorem xc_268 : Jvm.Cond.code yX4_note cX4_note 2 none ∈ lw_tbl := xTb_in (k := 5) (List.mem_of_getElem? (i := 14) rfl)
theorem xc_269 : Jvm.Cond.code yX11_inTurn cX11_inTurn 2 (some .int) ∈ lw_tbl := xTb_in (k := 4) (List.mem_of_getElem? (i := 136) rfl)
theorem xcc_0 : ∀ j, j < 10 → Jvm.Cond.code (xNm (10 * 0 + j)) (xCode (10 * 0 + j)) (xMaxL (10 * 0 + j)) (xRet (10 * 0 + j)) ∈ lw_tbl := by
  intro j hj
  match j, hj with
  | 0, _ => exact xc_0
  | 1, _ => exact xc_1
  | 2, _ => exact xc_2
  | 3, _ => exact xc_3
  | 4, _ => exact xc_4
  | 5, _ => exact xc_5
  | 6, _ => exact xc_6
  | 7, _ => exact xc_7
  | 8, _ => exact xc_8
  | 9, _ => exact xc_9
  | k + 10, h => omega
theorem xcc_1 : ∀ j, j < 10 → Jvm.Cond.code (xNm (10 * 1 + j)) (xCode (10 * 1 + j)) (xMaxL (10 * 1 + j)) (xRet (10 * 1 + j)) ∈ lw_tbl := by
  intro j hj
  match j, hj with
  | 0, _ => exact xc_10
  | 1, _ => exact xc_11
  | 2, _ => exact xc_12
  | 3, _ => exact xc_13
  | 4, _ => exact xc_14
  | 5, _ => exact xc_15
  | 6, _ => exact xc_16
  | 7, _ => exact xc_17
  | 8, _ => exact xc_18
  | 9, _ => exact xc_19
  | k + 10, h => omega
theorem xcc_2 : ∀ j, j < 10 → Jvm.Cond.code (xNm (10 * 2 + j)) (xCode (10 * 2 + j)) (xMaxL (10 * 2 + j)) (xRet (10 * 2 + j)) ∈ lw_tbl := by
  intro j hj
  match j, hj with
  | 0, _ => exact xc_20
  | 1, _ => exact xc_21
  | 2, _ => exact xc_22
  | 3, _ => exact xc_23
  | 4, _ => exact xc_24
  | 5, _ => exact xc_25
  | 6, _ => exact xc_26
  | 7, _ => exact xc_27
  | 8, _ => exact xc_28
  | 9, _ => exact xc_29
  | k + 10, h => omega
theorem xcc_3 : ∀ j, j < 10 → Jvm.Cond.code (xNm (10 * 3 + j)) (xCode (10 * 3 + j)) (xMaxL (10 * 3 + j)) (xRet (10 * 3 + j)) ∈ lw_tbl := by
  intro j hj
  match j, hj with
  | 0, _ => exact xc_30
  | 1, _ => exact xc_31
  | 2, _ => exact xc_32
  | 3, _ => exact xc_33
  | 4, _ => exact xc_34
  | 5, _ => exact xc_35
  | 6, _ => exact xc_36
  | 7, _ => exact xc_37
  | 8, _ => exact xc_38
  | 9, _ => exact xc_39
  | k + 10, h => omega
theorem xcc_4 : ∀ j, j < 10 → Jvm.Cond.code (xNm (10 * 4 + j)) (xCode (10 * 4 + j)) (xMaxL (10 * 4 + j)) (xRet (10 * 4 + j)) ∈ lw_tbl := by
  intro j hj
  match j, hj with
  | 0, _ => exact xc_40
  | 1, _ => exact xc_41
  | 2, _ => exact xc_42
  | 3, _ => exact xc_43
  | 4, _ => exact xc_44
  | 5, _ => exact xc_45
  | 6, _ => exact xc_46
  | 7, _ => exact xc_47
  | 8, _ => exact xc_48
  | 9, _ => exact xc_49
  | k + 10, h => omega
theorem xcc_5 : ∀ j, j < 10 → Jvm.Cond.code (xNm (10 * 5 + j)) (xCode (10 * 5 + j)) (xMaxL (10 * 5 + j)) (xRet (10 * 5 + j)) ∈ lw_tbl := by
  intro j hj
  match j, hj with
  | 0, _ => exact xc_50
  | 1, _ => exact xc_51
  | 2, _ => exact xc_52
  | 3, _ => exact xc_53
  | 4, _ => exact xc_54
  | 5, _ => exact xc_55
  | 6, _ => exact xc_56
  | 7, _ => exact xc_57
  | 8, _ => exact xc_58
  | 9, _ => exact xc_59
  | k + 10, h => omega
theorem xcc_6 : ∀ j, j < 10 → Jvm.Cond.code (xNm (10 * 6 + j)) (xCode (10 * 6 + j)) (xMaxL (10 * 6 + j)) (xRet (10 * 6 + j)) ∈ lw_tbl := by
  intro j hj
  match j, hj with
  | 0, _ => exact xc_60
  | 1, _ => exact xc_61
  | 2, _ => exact xc_62
  | 3, _ => exact xc_63
  | 4, _ => exact xc_64
  | 5, _ => exact xc_65
  | 6, _ => exact xc_66
  | 7, _ => exact xc_67
  | 8, _ => exact xc_68
  | 9, _ => exact xc_69
  | k + 10, h => omega
theorem xcc_7 : ∀ j, j < 10 → Jvm.Cond.code (xNm (10 * 7 + j)) (xCode (10 * 7 + j)) (xMaxL (10 * 7 + j)) (xRet (10 * 7 + j)) ∈ lw_tbl := by
  intro j hj
  match j, hj with
  | 0, _ => exact xc_70
  | 1, _ => exact xc_71
  | 2, _ => exact xc_72
  | 3, _ => exact xc_73
  | 4, _ => exact xc_74
  | 5, _ => exact xc_75
  | 6, _ => exact xc_76
  | 7, _ => exact xc_77
  | 8, _ => exact xc_78
  | 9, _ => exact xc_79
  | k + 10, h => omega
theorem xcc_8 : ∀ j, j < 10 → Jvm.Cond.code (xNm (10 * 8 + j)) (xCode (10 * 8 + j)) (xMaxL (10 * 8 + j)) (xRet (10 * 8 + j)) ∈ lw_tbl := by
  intro j hj
  match j, hj with
  | 0, _ => exact xc_80
  | 1, _ => exact xc_81
  | 2, _ => exact xc_82
  | 3, _ => exact xc_83
  | 4, _ => exact xc_84
  | 5, _ => exact xc_85
  | 6, _ => exact xc_86
  | 7, _ => exact xc_87
  | 8, _ => exact xc_88
  | 9, _ => exact xc_89
  | k + 10, h => omega
theorem xcc_9 : ∀ j, j < 10 → Jvm.Cond.code (xNm (10 * 9 + j)) (xCode (10 * 9 + j)) (xMaxL (10 * 9 + j)) (xRet (10 * 9 + j)) ∈ lw_tbl := by
  intro j hj
  match j, hj with
  | 0, _ => exact xc_90
  | 1, _ => exact xc_91
  | 2, _ => exact xc_92
  | 3, _ => exact xc_93
  | 4, _ => exact xc_94
  | 5, _ => exact xc_95
  | 6, _ => exact xc_96
  | 7, _ => exact xc_97
  | 8, _ => exact xc_98
  | 9, _ => exact xc_99
  | k + 10, h => omega
theorem xcc_10 : ∀ j, j < 10 → Jvm.Cond.code (xNm (10 * 10 + j)) (xCode (10 * 10 + j)) (xMaxL (10 * 10 + j)) (xRet (10 * 10 + j)) ∈ lw_tbl := by
  intro j hj
  match j, hj with
  | 0, _ => exact xc_100
  | 1, _ => exact xc_101
  | 2, _ => exact xc_102
  | 3, _ => exact xc_103
  | 4, _ => exact xc_104
  | 5, _ => exact xc_105
  | 6, _ => exact xc_106
  | 7, _ => exact xc_107
  | 8, _ => exact xc_108
  | 9, _ => exact xc_109
  | k + 10, h => omega
theorem xcc_11 : ∀ j, j < 10 → Jvm.Cond.code (xNm (10 * 11 + j)) (xCode (10 * 11 + j)) (xMaxL (10 * 11 + j)) (xRet (10 * 11 + j)) ∈ lw_tbl := by
  intro j hj
  match j, hj with
  | 0, _ => exact xc_110
  | 1, _ => exact xc_111
  | 2, _ => exact xc_112
  | 3, _ => exact xc_113
  | 4, _ => exact xc_114
  | 5, _ => exact xc_115
  | 6, _ => exact xc_116
  | 7, _ => exact xc_117
  | 8, _ => exact xc_118
  | 9, _ => exact xc_119
  | k + 10, h => omega
theorem xcc_12 : ∀ j, j < 10 → Jvm.Cond.code (xNm (10 * 12 + j)) (xCode (10 * 12 + j)) (xMaxL (10 * 12 + j)) (xRet (10 * 12 + j)) ∈ lw_tbl := by
  intro j hj
  match j, hj with
  | 0, _ => exact xc_120
  | 1, _ => exact xc_121
  | 2, _ => exact xc_122
  | 3, _ => exact xc_123
  | 4, _ => exact xc_124
  | 5, _ => exact xc_125
  | 6, _ => exact xc_126
  | 7, _ => exact xc_127
  | 8, _ => exact xc_128
  | 9, _ => exact xc_129
  | k + 10, h => omega
theorem xcc_13 : ∀ j, j < 10 → Jvm.Cond.code (xNm (10 * 13 + j)) (xCode (10 * 13 + j)) (xMaxL (10 * 13 + j)) (xRet (10 * 13 + j)) ∈ lw_tbl := by
  intro j hj
  match j, hj with
  | 0, _ => exact xc_130
  | 1, _ => exact xc_131
  | 2, _ => exact xc_132
  | 3, _ => exact xc_133
  | 4, _ => exact xc_134
  | 5, _ => exact xc_135
  | 6, _ => exact xc_136
  | 7, _ => exact xc_137
  | 8, _ => exact xc_138
  | 9, _ => exact xc_139
  | k + 10, h => omega
theorem xcc_14 : ∀ j, j < 10 → Jvm.Cond.code (xNm (10 * 14 + j)) (xCode (10 * 14 + j)) (xMaxL (10 * 14 + j)) (xRet (10 * 14 + j)) ∈ lw_tbl := by
  intro j hj
  match j, hj with
  | 0, _ => exact xc_140
  | 1, _ => exact xc_141
  | 2, _ => exact xc_142
  | 3, _ => exact xc_143
  | 4, _ => exact xc_144
  | 5, _ => exact xc_145
  | 6, _ => exact xc_146
  | 7, _ => exact xc_147
  | 8, _ => exact xc_148
  | 9, _ => exact xc_149
  | k + 10, h => omega
theorem xcc_15 : ∀ j, j < 10 → Jvm.Cond.code (xNm (10 * 15 + j)) (xCode (10 * 15 + j)) (xMaxL (10 * 15 + j)) (xRet (10 * 15 + j)) ∈ lw_tbl := by
  intro j hj
  match j, hj with
  | 0, _ => exact xc_150
  | 1, _ => exact xc_151
  | 2, _ => exact xc_152
  | 3, _ => exact xc_153
  | 4, _ => exact xc_154
  | 5, _ => exact xc_155
  | 6, _ => exact xc_156
  | 7, _ => exact xc_157
  | 8, _ => exact xc_158
  | 9, _ => exact xc_159
  | k + 10, h => omega
theorem xcc_16 : ∀ j, j < 10 → Jvm.Cond.code (xNm (10 * 16 + j)) (xCode (10 * 16 + j)) (xMaxL (10 * 16 + j)) (xRet (10 * 16 + j)) ∈ lw_tbl := by
  intro j hj
  match j, hj with
  | 0, _ => exact xc_160
  | 1, _ => exact xc_161
  | 2, _ => exact xc_162
  | 3, _ => exact xc_163
  | 4, _ => exact xc_164
  | 5, _ => exact xc_165
  | 6, _ => exact xc_166
  | 7, _ => exact xc_167
  | 8, _ => exact xc_168
  | 9, _ => exact xc_169
  | k + 10, h => omega
theorem xcc_17 : ∀ j, j < 10 → Jvm.Cond.code (xNm (10 * 17 + j)) (xCode (10 * 17 + j)) (xMaxL (10 * 17 + j)) (xRet (10 * 17 + j)) ∈ lw_tbl := by
  intro j hj
  match j, hj with
  | 0, _ => exact xc_170
  | 1, _ => exact xc_171
  | 2, _ => exact xc_172
  | 3, _ => exact xc_173
  | 4, _ => exact xc_174
  | 5, _ => exact xc_175
  | 6, _ => exact xc_176
  | 7, _ => exact xc_177
  | 8, _ => exact xc_178
  | 9, _ => exact xc_179
  | k + 10, h => omega
theorem xcc_18 : ∀ j, j < 10 → Jvm.Cond.code (xNm (10 * 18 + j)) (xCode (10 * 18 + j)) (xMaxL (10 * 18 + j)) (xRet (10 * 18 + j)) ∈ lw_tbl := by
  intro j hj
  match j, hj with
  | 0, _ => exact xc_180
  | 1, _ => exact xc_181
  | 2, _ => exact xc_182
  | 3, _ => exact xc_183
  | 4, _ => exact xc_184
  | 5, _ => exact xc_185
  | 6, _ => exact xc_186
  | 7, _ => exact xc_187
  | 8, _ => exact xc_188
  | 9, _ => exact xc_189
  | k + 10, h => omega
theorem xcc_19 : ∀ j, j < 10 → Jvm.Cond.code (xNm (10 * 19 + j)) (xCode (10 * 19 + j)) (xMaxL (10 * 19 + j)) (xRet (10 * 19 + j)) ∈ lw_tbl := by
  intro j hj
  match j, hj with
  | 0, _ => exact xc_190
  | 1, _ => exact xc_191
  | 2, _ => exact xc_192
  | 3, _ => exact xc_193
  | 4, _ => exact xc_194
  | 5, _ => exact xc_195
  | 6, _ => exact xc_196
  | 7, _ => exact xc_197
  | 8, _ => exact xc_198
  | 9, _ => exact xc_199
  | k + 10, h => omega
theorem xcc_20 : ∀ j, j < 10 → Jvm.Cond.code (xNm (10 * 20 + j)) (xCode (10 * 20 + j)) (xMaxL (10 * 20 + j)) (xRet (10 * 20 + j)) ∈ lw_tbl := by
  intro j hj
  match j, hj with
  | 0, _ => exact xc_200
  | 1, _ => exact xc_201
  | 2, _ => exact xc_202
  | 3, _ => exact xc_203
  | 4, _ => exact xc_204
  | 5, _ => exact xc_205
  | 6, _ => exact xc_206
  | 7, _ => exact xc_207
  | 8, _ => exact xc_208
  | 9, _ => exact xc_209
  | k + 10, h => omega
theorem xcc_21 : ∀ j, j < 10 → Jvm.Cond.code (xNm (10 * 21 + j)) (xCode (10 * 21 + j)) (xMaxL (10 * 21 + j)) (xRet (10 * 21 + j)) ∈ lw_tbl := by
  intro j hj
  match j, hj with
  | 0, _ => exact xc_210
  | 1, _ => exact xc_211
  | 2, _ => exact xc_212
  | 3, _ => exact xc_213
  | 4, _ => exact xc_214
  | 5, _ => exact xc_215
  | 6, _ => exact xc_216
  | 7, _ => exact xc_217
  | 8, _ => exact xc_218
  | 9, _ => exact xc_219
  | k + 10, h => omega
theorem xcc_22 : ∀ j, j < 10 → Jvm.Cond.code (xNm (10 * 22 + j)) (xCode (10 * 22 + j)) (xMaxL (10 * 22 + j)) (xRet (10 * 22 + j)) ∈ lw_tbl := by
  intro j hj
  match j, hj with
  | 0, _ => exact xc_220
  | 1, _ => exact xc_221
  | 2, _ => exact xc_222
  | 3, _ => exact xc_223
  | 4, _ => exact xc_224
  | 5, _ => exact xc_225
  | 6, _ => exact xc_226
  | 7, _ => exact xc_227
  | 8, _ => exact xc_228
  | 9, _ => exact xc_229
  | k + 10, h => omega
theorem xcc_23 : ∀ j, j < 10 → Jvm.Cond.code (xNm (10 * 23 + j)) (xCode (10 * 23 + j)) (xMaxL (10 * 23 + j)) (xRet (10 * 23 + j)) ∈ lw_tbl := by
  intro j hj
  match j, hj with
  | 0, _ => exact xc_230
  | 1, _ => exact xc_231
  | 2, _ => exact xc_232
  | 3, _ => exact xc_233
  | 4, _ => exact xc_234
  | 5, _ => exact xc_235
  | 6, _ => exact xc_236
  | 7, _ => exact xc_237
  | 8, _ => exact xc_238
  | 9, _ => exact xc_239
  | k + 10, h => omega
theorem xcc_24 : ∀ j, j < 10 → Jvm.Cond.code (xNm (10 * 24 + j)) (xCode (10 * 24 + j)) (xMaxL (10 * 24 + j)) (xRet (10 * 24 + j)) ∈ lw_tbl := by
  intro j hj
  match j, hj with
  | 0, _ => exact xc_240
  | 1, _ => exact xc_241
  | 2, _ => exact xc_242
  | 3, _ => exact xc_243
  | 4, _ => exact xc_244
  | 5, _ => exact xc_245
  | 6, _ => exact xc_246
  | 7, _ => exact xc_247
  | 8, _ => exact xc_248
  | 9, _ => exact xc_249
  | k + 10, h => omega
theorem xcc_25 : ∀ j, j < 10 → Jvm.Cond.code (xNm (10 * 25 + j)) (xCode (10 * 25 + j)) (xMaxL (10 * 25 + j)) (xRet (10 * 25 + j)) ∈ lw_tbl := by
  intro j hj
  match j, hj with
  | 0, _ => exact xc_250
  | 1, _ => exact xc_251
  | 2, _ => exact xc_252
  | 3, _ => exact xc_253
  | 4, _ => exact xc_254
  | 5, _ => exact xc_255
  | 6, _ => exact xc_256
  | 7, _ => exact xc_257
  | 8, _ => exact xc_258
  | 9, _ => exact xc_259
  | k + 10, h => omega
theorem xcc_26 : ∀ j, j < 10 → Jvm.Cond.code (xNm (10 * 26 + j)) (xCode (10 * 26 + j)) (xMaxL (10 * 26 + j)) (xRet (10 * 26 + j)) ∈ lw_tbl := by
  intro j hj
  match j, hj with
  | 0, _ => exact xc_260
  | 1, _ => exact xc_261
  | 2, _ => exact xc_262
  | 3, _ => exact xc_263
  | 4, _ => exact xc_264
  | 5, _ => exact xc_265
  | 6, _ => exact xc_266
  | 7, _ => exact xc_267
  | 8, _ => exact xc_268
  | 9, _ => exact xc_269
  | k + 10, h => omega
theorem xcode_in {M : Nat} (h : M < 270) : Jvm.Cond.code (xNm M) (xCode M) (xMaxL M) (xRet M) ∈ lw_tbl := by
  obtain ⟨a, b, hb, ha, rfl⟩ : ∃ a b, b < 10 ∧ a < 27 ∧ M = 10 * a + b := ⟨M / 10, M % 10, Nat.mod_lt _ (by omega), by omega, by omega⟩
  match a, ha with
  | 0, _ => exact xcc_0 b (by omega)
  | 1, _ => exact xcc_1 b (by omega)
  | 2, _ => exact xcc_2 b (by omega)
  | 3, _ => exact xcc_3 b (by omega)
  | 4, _ => exact xcc_4 b (by omega)
  | 5, _ => exact xcc_5 b (by omega)
  | 6, _ => exact xcc_6 b (by omega)
  | 7, _ => exact xcc_7 b (by omega)
  | 8, _ => exact xcc_8 b (by omega)
  | 9, _ => exact xcc_9 b (by omega)
  | 10, _ => exact xcc_10 b (by omega)
  | 11, _ => exact xcc_11 b (by omega)
  | 12, _ => exact xcc_12 b (by omega)
  | 13, _ => exact xcc_13 b (by omega)
  | 14, _ => exact xcc_14 b (by omega)
  | 15, _ => exact xcc_15 b (by omega)
  | 16, _ => exact xcc_16 b (by omega)
  | 17, _ => exact xcc_17 b (by omega)
  | 18, _ => exact xcc_18 b (by omega)
  | 19, _ => exact xcc_19 b (by omega)
  | 20, _ => exact xcc_20 b (by omega)
  | 21, _ => exact xcc_21 b (by omega)
  | 22, _ => exact xcc_22 b (by omega)
  | 23, _ => exact xcc_23 b (by omega)
  | 24, _ => exact xcc_24 b (by omega)
  | 25, _ => exact xcc_25 b (by omega)
  | 26, _ => exact xcc_26 b (by omega)
  | k + 27, h => omega
def xMsC (M : Nat) : Bool := plainName (xNm M).cls && decide ((xNm M).cls = xCls (xOwn M)) && decide ((xNm M).cls ≠ "java/lang/invoke/MethodHandle") && decide ((xNm M).cls ≠ "java/lang/invoke/VarHandle") && xG1 (xMsP.getD M (0, 0, 0, 0)).2.1 (Jvm.Cond.initialized (xNm M).cls)
set_option maxRecDepth 100000 in
theorem xMsC_ok : (List.range 270).all xMsC = true := by decide +kernel
