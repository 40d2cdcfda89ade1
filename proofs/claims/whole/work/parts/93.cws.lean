theorem tb_1 {w : Cond} (h : w ∈ tables_1_1) : w ∈ tables_1 := List.mem_append_left _ h
theorem tb_2 {w : Cond} (h : w ∈ tables_1_2) : w ∈ tables_1 := List.mem_append_right _ (List.mem_append_left _ h)
theorem tb_3 {w : Cond} (h : w ∈ tables_1_3) : w ∈ tables_1 := List.mem_append_right _ (List.mem_append_right _ (List.mem_append_left _ h))
theorem tb_4 {w : Cond} (h : w ∈ tables_1_4) : w ∈ tables_1 := List.mem_append_right _ (List.mem_append_right _ (List.mem_append_right _ (List.mem_append_left _ h)))
theorem tb_5 {w : Cond} (h : w ∈ tables_1_5) : w ∈ tables_1 := List.mem_append_right _ (List.mem_append_right _ (List.mem_append_right _ (List.mem_append_right _ (List.mem_append_left _ h))))
theorem tb_6 {w : Cond} (h : w ∈ tables_1_6) : w ∈ tables_1 := List.mem_append_right _ (List.mem_append_right _ (List.mem_append_right _ (List.mem_append_right _ (List.mem_append_right _ (List.mem_append_left _ h)))))
theorem tb_7 {w : Cond} (h : w ∈ tables_1_7) : w ∈ tables_1 := List.mem_append_right _ (List.mem_append_right _ (List.mem_append_right _ (List.mem_append_right _ (List.mem_append_right _ (List.mem_append_right _ (List.mem_append_left _ h))))))
theorem tb_8 {w : Cond} (h : w ∈ tables_1_8) : w ∈ tables_1 := List.mem_append_right _ (List.mem_append_right _ (List.mem_append_right _ (List.mem_append_right _ (List.mem_append_right _ (List.mem_append_right _ (List.mem_append_right _ (h)))))))
set_option maxRecDepth 20000 in
theorem cw_0 : Cond.code yX0_init cX0_init 1 none ∈ tables_1 := tb_2 (List.mem_of_getElem? (i := 112) rfl)
set_option maxRecDepth 20000 in
theorem cw_1 : Cond.code yX0_find cX0_find 6 none ∈ tables_1 := tb_5 (List.mem_of_getElem? (i := 0) rfl)
set_option maxRecDepth 20000 in
theorem cw_2 : Cond.code yX0_gather cX0_gather 4 none ∈ tables_1 := tb_5 (List.mem_of_getElem? (i := 4) rfl)
set_option maxRecDepth 20000 in
theorem cw_3 : Cond.code yX0_findEndless cX0_findEndless 5 (some .int) ∈ tables_1 := tb_5 (List.mem_of_getElem? (i := 9) rfl)
set_option maxRecDepth 20000 in
theorem cw_4 : Cond.code yX0_raise cX0_raise 5 (some .boolean) ∈ tables_1 := tb_5 (List.mem_of_getElem? (i := 18) rfl)
set_option maxRecDepth 20000 in
theorem cw_5 : Cond.code yX1_init cX1_init 1 none ∈ tables_1 := tb_2 (List.mem_of_getElem? (i := 64) rfl)
set_option maxRecDepth 20000 in
theorem cw_6 : Cond.code yX1_encode cX1_encode 4 none ∈ tables_1 := tb_4 (List.mem_of_getElem? (i := 196) rfl)
set_option maxRecDepth 20000 in
theorem cw_7 : Cond.code yX1_encodeIn cX1_encodeIn 3 none ∈ tables_1 := tb_4 (List.mem_of_getElem? (i := 200) rfl)
set_option maxRecDepth 20000 in
theorem cw_8 : Cond.code yX1_enter cX1_enter 5 none ∈ tables_1 := tb_4 (List.mem_of_getElem? (i := 206) rfl)
set_option maxRecDepth 20000 in
theorem cw_9 : Cond.code yX1_behindKid cX1_behindKid 5 none ∈ tables_1 := tb_4 (List.mem_of_getElem? (i := 210) rfl)
set_option maxRecDepth 20000 in
theorem cw_10 : Cond.code yX1_leave cX1_leave 3 none ∈ tables_1 := tb_4 (List.mem_of_getElem? (i := 231) rfl)
set_option maxRecDepth 20000 in
theorem cw_11 : Cond.code yX1_encodeCall cX1_encodeCall 3 none ∈ tables_1 := tb_4 (List.mem_of_getElem? (i := 235) rfl)
set_option maxRecDepth 20000 in
theorem cw_12 : Cond.code yX1_useSlot cX1_useSlot 3 (some .int) ∈ tables_1 := tb_4 (List.mem_of_getElem? (i := 223) rfl)
set_option maxRecDepth 20000 in
theorem cw_13 : Cond.code yX1_rise cX1_rise 2 none ∈ tables_1 := tb_4 (List.mem_of_getElem? (i := 218) rfl)
set_option maxRecDepth 20000 in
theorem cw_14 : Cond.code yX1_emit cX1_emit 4 (some .int) ∈ tables_1 := tb_4 (List.mem_of_getElem? (i := 214) rfl)
set_option maxRecDepth 20000 in
theorem cw_15 : Cond.code yX1_fillWithHere cX1_fillWithHere 2 none ∈ tables_1 := tb_4 (List.mem_of_getElem? (i := 227) rfl)
set_option maxRecDepth 20000 in
theorem cw_16 : Cond.code yX2_init cX2_init 1 none ∈ tables_1 := tb_2 (List.mem_of_getElem? (i := 30) rfl)
set_option maxRecDepth 20000 in
theorem cw_17 : Cond.code yX2_foldAll cX2_foldAll 3 none ∈ tables_1 := tb_5 (List.mem_of_getElem? (i := 65) rfl)
set_option maxRecDepth 20000 in
theorem cw_18 : Cond.code yX2_foldIn cX2_foldIn 3 none ∈ tables_1 := tb_5 (List.mem_of_getElem? (i := 69) rfl)
set_option maxRecDepth 20000 in
theorem cw_19 : Cond.code yX2_enter cX2_enter 3 none ∈ tables_1 := tb_5 (List.mem_of_getElem? (i := 75) rfl)
set_option maxRecDepth 20000 in
theorem cw_20 : Cond.code yX2_behindKid cX2_behindKid 4 none ∈ tables_1 := tb_5 (List.mem_of_getElem? (i := 83) rfl)
set_option maxRecDepth 20000 in
theorem cw_21 : Cond.code yX2_leave cX2_leave 4 none ∈ tables_1 := tb_5 (List.mem_of_getElem? (i := 111) rfl)
set_option maxRecDepth 20000 in
theorem cw_22 : Cond.code yX2_giveWay cX2_giveWay 2 none ∈ tables_1 := tb_5 (List.mem_of_getElem? (i := 91) rfl)
set_option maxRecDepth 20000 in
theorem cw_23 : Cond.code yX2_bind cX2_bind 3 none ∈ tables_1 := tb_5 (List.mem_of_getElem? (i := 95) rfl)
set_option maxRecDepth 20000 in
theorem cw_24 : Cond.code yX2_chooseBranch cX2_chooseBranch 3 none ∈ tables_1 := tb_5 (List.mem_of_getElem? (i := 103) rfl)
set_option maxRecDepth 20000 in
theorem cw_25 : Cond.code yX2_foldTwo cX2_foldTwo 5 none ∈ tables_1 := tb_5 (List.mem_of_getElem? (i := 115) rfl)
set_option maxRecDepth 20000 in
theorem cw_26 : Cond.code yX2_dropUnused cX2_dropUnused 3 none ∈ tables_1 := tb_5 (List.mem_of_getElem? (i := 125) rfl)
set_option maxRecDepth 20000 in
theorem cw_27 : Cond.code yX2_isNumber cX2_isNumber 2 (some .boolean) ∈ tables_1 := tb_5 (List.mem_of_getElem? (i := 99) rfl)
set_option maxRecDepth 20000 in
theorem cw_28 : Cond.code yX2_isCalm cX2_isCalm 5 (some .boolean) ∈ tables_1 := tb_5 (List.mem_of_getElem? (i := 87) rfl)
set_option maxRecDepth 20000 in
theorem cw_29 : Cond.code yX2_standsIn cX2_standsIn 4 (some .boolean) ∈ tables_1 := tb_5 (List.mem_of_getElem? (i := 129) rfl)
set_option maxRecDepth 20000 in
theorem cw_30 : Cond.code yX2_emit cX2_emit 3 none ∈ tables_1 := tb_5 (List.mem_of_getElem? (i := 79) rfl)
set_option maxRecDepth 20000 in
theorem cw_31 : Cond.code yX3_init cX3_init 1 none ∈ tables_1 := tb_1 (List.mem_of_getElem? (i := 130) rfl)
set_option maxRecDepth 20000 in
theorem cw_32 : Cond.code yX3_draw cX3_draw 3 none ∈ tables_1 := tb_4 (List.mem_of_getElem? (i := 157) rfl)
set_option maxRecDepth 20000 in
theorem cw_33 : Cond.code yX3_doesCall cX3_doesCall 3 (some .boolean) ∈ tables_1 := tb_5 (List.mem_of_getElem? (i := 167) rfl)
set_option maxRecDepth 20000 in
theorem cw_34 : Cond.code yX3_inOneCircle cX3_inOneCircle 3 (some .boolean) ∈ tables_1 := tb_5 (List.mem_of_getElem? (i := 45) rfl)
set_option maxRecDepth 20000 in
theorem cw_35 : Cond.code yX3_gather cX3_gather 4 none ∈ tables_1 := tb_4 (List.mem_of_getElem? (i := 161) rfl)
set_option maxRecDepth 20000 in
theorem cw_36 : Cond.code yX3_addCallee cX3_addCallee 3 none ∈ tables_1 := tb_4 (List.mem_of_getElem? (i := 181) rfl)
set_option maxRecDepth 20000 in
theorem cw_37 : Cond.code yX3_look cX3_look 4 none ∈ tables_1 := tb_4 (List.mem_of_getElem? (i := 192) rfl)
set_option maxRecDepth 20000 in
theorem cw_38 : Cond.code yX4_init cX4_init 1 none ∈ tables_1 := tb_1 (List.mem_of_getElem? (i := 231) rfl)
set_option maxRecDepth 20000 in
theorem cw_39 : Cond.code yX4_inlineAll cX4_inlineAll 7 (some .int) ∈ tables_1 := tb_5 (List.mem_of_getElem? (i := 27) rfl)
set_option maxRecDepth 20000 in
theorem cw_40 : Cond.code yX4_inlineIn cX4_inlineIn 2 none ∈ tables_1 := tb_5 (List.mem_of_getElem? (i := 31) rfl)
set_option maxRecDepth 20000 in
theorem cw_41 : Cond.code yX4_chooseCalls cX4_chooseCalls 5 none ∈ tables_1 := tb_5 (List.mem_of_getElem? (i := 35) rfl)
set_option maxRecDepth 20000 in
theorem cw_42 : Cond.code yX4_copyWithChosen cX4_copyWithChosen 6 none ∈ tables_1 := tb_5 (List.mem_of_getElem? (i := 49) rfl)
set_option maxRecDepth 20000 in
theorem cw_43 : Cond.code yX4_replace cX4_replace 4 none ∈ tables_1 := tb_5 (List.mem_of_getElem? (i := 53) rfl)
set_option maxRecDepth 20000 in
theorem cw_44 : Cond.code yX4_choose cX4_choose 5 (some .int) ∈ tables_1 := tb_5 (List.mem_of_getElem? (i := 41) rfl)
set_option maxRecDepth 20000 in
theorem cw_45 : Cond.code yX4_emitBody cX4_emitBody 6 none ∈ tables_1 := tb_5 (List.mem_of_getElem? (i := 57) rfl)
set_option maxRecDepth 20000 in
theorem cw_46 : Cond.code yX4_emit cX4_emit 3 none ∈ tables_1 := tb_5 (List.mem_of_getElem? (i := 61) rfl)
set_option maxRecDepth 20000 in
theorem cw_47 : Cond.code yX5_init cX5_init 1 none ∈ tables_1 := tb_2 (List.mem_of_getElem? (i := 163) rfl)
set_option maxRecDepth 20000 in
theorem cw_48 : Cond.code yX5_load cX5_load 3 none ∈ tables_1 := tb_6 (List.mem_of_getElem? (i := 45) rfl)
set_option maxRecDepth 20000 in
theorem cw_49 : Cond.code yX5_perform cX5_perform 5 (some .int) ∈ tables_1 := tb_6 (List.mem_of_getElem? (i := 50) rfl)
set_option maxRecDepth 20000 in
theorem cw_50 : Cond.code yX5_fits cX5_fits 3 (some .boolean) ∈ tables_1 := tb_6 (List.mem_of_getElem? (i := 54) rfl)
set_option maxRecDepth 20000 in
theorem cw_51 : Cond.code yX5_enterFrame cX5_enterFrame 3 none ∈ tables_1 := tb_6 (List.mem_of_getElem? (i := 60) rfl)
set_option maxRecDepth 20000 in
theorem cw_52 : Cond.code yX5_step cX5_step 4 (some .int) ∈ tables_1 := tb_6 (List.mem_of_getElem? (i := 65) rfl)
set_option maxRecDepth 20000 in
theorem cw_53 : Cond.code yX5_push cX5_push 2 none ∈ tables_1 := tb_6 (List.mem_of_getElem? (i := 69) rfl)
set_option maxRecDepth 20000 in
theorem cw_54 : Cond.code yX5_pop cX5_pop 1 (some .int) ∈ tables_1 := tb_6 (List.mem_of_getElem? (i := 73) rfl)
set_option maxRecDepth 20000 in
theorem cw_55 : Cond.code yX5_combine cX5_combine 4 (some .int) ∈ tables_1 := tb_6 (List.mem_of_getElem? (i := 93) rfl)
set_option maxRecDepth 20000 in
theorem cw_56 : Cond.code yX5_putTop cX5_putTop 2 (some .int) ∈ tables_1 := tb_6 (List.mem_of_getElem? (i := 77) rfl)
set_option maxRecDepth 20000 in
theorem cw_57 : Cond.code yX5_enterCalled cX5_enterCalled 3 (some .int) ∈ tables_1 := tb_6 (List.mem_of_getElem? (i := 81) rfl)
set_option maxRecDepth 20000 in
theorem cw_58 : Cond.code yX5_goBack cX5_goBack 3 (some .int) ∈ tables_1 := tb_6 (List.mem_of_getElem? (i := 85) rfl)
set_option maxRecDepth 20000 in
theorem cw_59 : Cond.code yX5_takeOwnPlace cX5_takeOwnPlace 2 (some .int) ∈ tables_1 := tb_6 (List.mem_of_getElem? (i := 89) rfl)
set_option maxRecDepth 20000 in
theorem cw_60 : Cond.code yX6_init cX6_init 3 none ∈ tables_1 := tb_2 (List.mem_of_getElem? (i := 211) rfl)
set_option maxRecDepth 20000 in
theorem cw_61 : Cond.code yX6_has cX6_has 2 (some .boolean) ∈ tables_1 := tb_5 (List.mem_of_getElem? (i := 154) rfl)
set_option maxRecDepth 20000 in
theorem cw_62 : Cond.code yX6_find cX6_find 4 (some .int) ∈ tables_1 := tb_4 (List.mem_of_getElem? (i := 48) rfl)
set_option maxRecDepth 20000 in
theorem cw_63 : Cond.code yX6_kids cX6_kids 3 (some .int) ∈ tables_1 := tb_4 (List.mem_of_getElem? (i := 177) rfl)
set_option maxRecDepth 20000 in
theorem cw_64 : Cond.code yX6_countCalls cX6_countCalls 4 (some .int) ∈ tables_1 := tb_5 (List.mem_of_getElem? (i := 158) rfl)
set_option maxRecDepth 20000 in
theorem cw_65 : Cond.code yX6_frame cX6_frame 2 (some .int) ∈ tables_1 := tb_5 (List.mem_of_getElem? (i := 14) rfl)
set_option maxRecDepth 20000 in
theorem cw_66 : Cond.code yX7_init cX7_init 1 none ∈ tables_1 := tb_1 (List.mem_of_getElem? (i := 33) rfl)
set_option maxRecDepth 20000 in
theorem cw_67 : Cond.code yX7_faultPlace cX7_faultPlace 1 (some .int) ∈ tables_1 := tb_4 (List.mem_of_getElem? (i := 153) rfl)
set_option maxRecDepth 20000 in
theorem cw_68 : Cond.code yX7_readInto cX7_readInto 5 (some .int) ∈ tables_1 := tb_3 (List.mem_of_getElem? (i := 139) rfl)
set_option maxRecDepth 20000 in
theorem cw_69 : Cond.code yX7_readDefinition cX7_readDefinition 2 none ∈ tables_1 := tb_4 (List.mem_of_getElem? (i := 32) rfl)
set_option maxRecDepth 20000 in
theorem cw_70 : Cond.code yX7_readFunctionName cX7_readFunctionName 1 (some .boolean) ∈ tables_1 := tb_4 (List.mem_of_getElem? (i := 36) rfl)
set_option maxRecDepth 20000 in
theorem cw_71 : Cond.code yX7_readParameters cX7_readParameters 3 (some .boolean) ∈ tables_1 := tb_4 (List.mem_of_getElem? (i := 56) rfl)
set_option maxRecDepth 20000 in
theorem cw_72 : Cond.code yX7_checkParameterName cX7_checkParameterName 1 none ∈ tables_1 := tb_4 (List.mem_of_getElem? (i := 60) rfl)
set_option maxRecDepth 20000 in
theorem cw_73 : Cond.code yX7_see cX7_see 4 none ∈ tables_1 := tb_4 (List.mem_of_getElem? (i := 68) rfl)
set_option maxRecDepth 20000 in
theorem cw_74 : Cond.code yX7_findVariable cX7_findVariable 4 (some .int) ∈ tables_1 := tb_4 (List.mem_of_getElem? (i := 64) rfl)
set_option maxRecDepth 20000 in
theorem cw_75 : Cond.code yX7_opens cX7_opens 1 (some .boolean) ∈ tables_1 := tb_4 (List.mem_of_getElem? (i := 81) rfl)
set_option maxRecDepth 20000 in
theorem cw_76 : Cond.code yX7_addNode cX7_addNode 3 none ∈ tables_1 := tb_4 (List.mem_of_getElem? (i := 85) rfl)
set_option maxRecDepth 20000 in
theorem cw_77 : Cond.code yX7_insertNode cX7_insertNode 4 none ∈ tables_1 := tb_4 (List.mem_of_getElem? (i := 89) rfl)
set_option maxRecDepth 20000 in
theorem cw_78 : Cond.code yX7_readExpression cX7_readExpression 3 none ∈ tables_1 := tb_4 (List.mem_of_getElem? (i := 73) rfl)
set_option maxRecDepth 20000 in
theorem cw_79 : Cond.code yX7_readLet cX7_readLet 5 none ∈ tables_1 := tb_4 (List.mem_of_getElem? (i := 77) rfl)
set_option maxRecDepth 20000 in
theorem cw_80 : Cond.code yX7_readIf cX7_readIf 1 none ∈ tables_1 := tb_4 (List.mem_of_getElem? (i := 96) rfl)
set_option maxRecDepth 20000 in
theorem cw_81 : Cond.code yX7_readComparison cX7_readComparison 2 none ∈ tables_1 := tb_4 (List.mem_of_getElem? (i := 100) rfl)
set_option maxRecDepth 20000 in
theorem cw_82 : Cond.code yX7_readSum cX7_readSum 3 none ∈ tables_1 := tb_4 (List.mem_of_getElem? (i := 104) rfl)
set_option maxRecDepth 20000 in
theorem cw_83 : Cond.code yX7_readProduct cX7_readProduct 4 none ∈ tables_1 := tb_4 (List.mem_of_getElem? (i := 108) rfl)
set_option maxRecDepth 20000 in
theorem cw_84 : Cond.code yX7_isProductSign cX7_isProductSign 1 (some .boolean) ∈ tables_1 := tb_4 (List.mem_of_getElem? (i := 141) rfl)
set_option maxRecDepth 20000 in
theorem cw_85 : Cond.code yX7_readUnary cX7_readUnary 1 none ∈ tables_1 := tb_4 (List.mem_of_getElem? (i := 112) rfl)
set_option maxRecDepth 20000 in
theorem cw_86 : Cond.code yX7_readPart cX7_readPart 1 none ∈ tables_1 := tb_4 (List.mem_of_getElem? (i := 116) rfl)
set_option maxRecDepth 20000 in
theorem cw_87 : Cond.code yX7_readBracketed cX7_readBracketed 1 none ∈ tables_1 := tb_4 (List.mem_of_getElem? (i := 138) rfl)
set_option maxRecDepth 20000 in
theorem cw_88 : Cond.code yX7_openBracket cX7_openBracket 1 (some .boolean) ∈ tables_1 := tb_4 (List.mem_of_getElem? (i := 134) rfl)
set_option maxRecDepth 20000 in
theorem cw_89 : Cond.code yX7_readName cX7_readName 8 none ∈ tables_1 := tb_4 (List.mem_of_getElem? (i := 121) rfl)
set_option maxRecDepth 20000 in
theorem cw_90 : Cond.code yX7_addVariable cX7_addVariable 5 none ∈ tables_1 := tb_4 (List.mem_of_getElem? (i := 125) rfl)
set_option maxRecDepth 20000 in
theorem cw_91 : Cond.code yX7_beginCall cX7_beginCall 5 (some .int) ∈ tables_1 := tb_4 (List.mem_of_getElem? (i := 130) rfl)
set_option maxRecDepth 20000 in
theorem cw_92 : Cond.code yX7_findTargets cX7_findTargets 3 none ∈ tables_1 := tb_4 (List.mem_of_getElem? (i := 145) rfl)
set_option maxRecDepth 20000 in
theorem cw_93 : Cond.code yX7_setTargets cX7_setTargets 2 none ∈ tables_1 := tb_4 (List.mem_of_getElem? (i := 149) rfl)
set_option maxRecDepth 20000 in
theorem cw_94 : Cond.code yX8_init cX8_init 1 none ∈ tables_1 := tb_1 (List.mem_of_getElem? (i := 39) rfl)
set_option maxRecDepth 20000 in
theorem cw_95 : Cond.code yX8_begin cX8_begin 3 none ∈ tables_1 := tb_3 (List.mem_of_getElem? (i := 143) rfl)
set_option maxRecDepth 20000 in
theorem cw_96 : Cond.code yX8_peek cX8_peek 1 (some .int) ∈ tables_1 := tb_3 (List.mem_of_getElem? (i := 154) rfl)
set_option maxRecDepth 20000 in
theorem cw_97 : Cond.code yX8_isAt cX8_isAt 2 (some .boolean) ∈ tables_1 := tb_3 (List.mem_of_getElem? (i := 150) rfl)
set_option maxRecDepth 20000 in
theorem cw_98 : Cond.code yX8_take cX8_take 1 none ∈ tables_1 := tb_4 (List.mem_of_getElem? (i := 44) rfl)
set_option maxRecDepth 20000 in
theorem cw_99 : Cond.code yX8_need cX8_need 2 (some .boolean) ∈ tables_1 := tb_4 (List.mem_of_getElem? (i := 40) rfl)
set_option maxRecDepth 20000 in
theorem cw_100 : Cond.code yX8_failHere cX8_failHere 2 none ∈ tables_1 := tb_4 (List.mem_of_getElem? (i := 52) rfl)
set_option maxRecDepth 20000 in
theorem cw_101 : Cond.code yX8_failAt cX8_failAt 3 none ∈ tables_1 := tb_3 (List.mem_of_getElem? (i := 171) rfl)
set_option maxRecDepth 20000 in
theorem cw_102 : Cond.code yX8_scanName cX8_scanName 2 none ∈ tables_1 := tb_3 (List.mem_of_getElem? (i := 164) rfl)
set_option maxRecDepth 20000 in
theorem cw_103 : Cond.code yX8_scanNumber cX8_scanNumber 3 none ∈ tables_1 := tb_3 (List.mem_of_getElem? (i := 177) rfl)
set_option maxRecDepth 20000 in
theorem cw_104 : Cond.code yX8_scanSign cX8_scanSign 2 none ∈ tables_1 := tb_3 (List.mem_of_getElem? (i := 183) rfl)
set_option maxRecDepth 20000 in
theorem cw_105 : Cond.code yX8_isBlank cX8_isBlank 1 (some .boolean) ∈ tables_1 := tb_3 (List.mem_of_getElem? (i := 157) rfl)
set_option maxRecDepth 20000 in
theorem cw_106 : Cond.code yX8_isLetter cX8_isLetter 1 (some .boolean) ∈ tables_1 := tb_3 (List.mem_of_getElem? (i := 160) rfl)
set_option maxRecDepth 20000 in
theorem cw_107 : Cond.code yX8_isDigit cX8_isDigit 1 (some .boolean) ∈ tables_1 := tb_3 (List.mem_of_getElem? (i := 167) rfl)
set_option maxRecDepth 20000 in
theorem cw_108 : Cond.code yX9_init cX9_init 1 none ∈ tables_1 := tb_1 (List.mem_of_getElem? (i := 136) rfl)
set_option maxRecDepth 20000 in
theorem cw_109 : Cond.code yX9_begin cX9_begin 3 none ∈ tables_1 := tb_4 (List.mem_of_getElem? (i := 165) rfl)
set_option maxRecDepth 20000 in
theorem cw_110 : Cond.code yX9_advance cX9_advance 1 (some .boolean) ∈ tables_1 := tb_4 (List.mem_of_getElem? (i := 169) rfl)
set_option maxRecDepth 20000 in
theorem cw_111 : Cond.code yX9_enterNext cX9_enterNext 1 (some .boolean) ∈ tables_1 := tb_4 (List.mem_of_getElem? (i := 173) rfl)
set_option maxRecDepth 20000 in
theorem cw_112 : Cond.code yX9_skipKid cX9_skipKid 2 none ∈ tables_1 := tb_5 (List.mem_of_getElem? (i := 107) rfl)
set_option maxRecDepth 20000 in
theorem cw_113 : Cond.code yX10_init cX10_init 1 none ∈ tables_1 := tb_2 (List.mem_of_getElem? (i := 128) rfl)
set_option maxRecDepth 20000 in
theorem cw_114 : Cond.code yX10_writeOut cX10_writeOut 4 (some .boolean) ∈ tables_1 := tb_5 (List.mem_of_getElem? (i := 180) rfl)
set_option maxRecDepth 20000 in
theorem cw_115 : Cond.code yX10_byteAt cX10_byteAt 2 (some .int) ∈ tables_1 := tb_6 (List.mem_of_getElem? (i := 29) rfl)
set_option maxRecDepth 20000 in
theorem cw_116 : Cond.code yX10_enter cX10_enter 3 none ∈ tables_1 := tb_5 (List.mem_of_getElem? (i := 186) rfl)
set_option maxRecDepth 20000 in
theorem cw_117 : Cond.code yX10_behindKid cX10_behindKid 4 none ∈ tables_1 := tb_6 (List.mem_of_getElem? (i := 5) rfl)
set_option maxRecDepth 20000 in
theorem cw_118 : Cond.code yX10_leave cX10_leave 2 none ∈ tables_1 := tb_6 (List.mem_of_getElem? (i := 21) rfl)
set_option maxRecDepth 20000 in
theorem cw_119 : Cond.code yX10_addOperator cX10_addOperator 2 none ∈ tables_1 := tb_6 (List.mem_of_getElem? (i := 16) rfl)
set_option maxRecDepth 20000 in
theorem cw_120 : Cond.code yX10_addNumber cX10_addNumber 2 none ∈ tables_1 := tb_5 (List.mem_of_getElem? (i := 190) rfl)
set_option maxRecDepth 20000 in
theorem cw_121 : Cond.code yX10_addVariable cX10_addVariable 2 none ∈ tables_1 := tb_5 (List.mem_of_getElem? (i := 231) rfl)
set_option maxRecDepth 20000 in
theorem cw_122 : Cond.code yX10_addDigits cX10_addDigits 7 none ∈ tables_1 := tb_5 (List.mem_of_getElem? (i := 224) rfl)
set_option maxRecDepth 20000 in
theorem cw_123 : Cond.code yX10_addName cX10_addName 5 none ∈ tables_1 := tb_6 (List.mem_of_getElem? (i := 0) rfl)
set_option maxRecDepth 20000 in
theorem cw_124 : Cond.code yX10_addText cX10_addText 3 none ∈ tables_1 := tb_5 (List.mem_of_getElem? (i := 195) rfl)
set_option maxRecDepth 20000 in
theorem cw_125 : Cond.code yX10_addByte cX10_addByte 2 none ∈ tables_1 := tb_5 (List.mem_of_getElem? (i := 220) rfl)
set_option maxRecDepth 20000 in
theorem cw_126 : Cond.code yX11_init cX11_init 1 none ∈ tables_1 := tb_1 (List.mem_of_getElem? (i := 25) rfl)
set_option maxRecDepth 20000 in
theorem cw_127 : Cond.code yX11_feed cX11_feed 5 (some .int) ∈ tables_1 := tb_3 (List.mem_of_getElem? (i := 131) rfl)
set_option maxRecDepth 20000 in
theorem cw_128 : Cond.code yX11_read cX11_read 3 (some .int) ∈ tables_1 := tb_3 (List.mem_of_getElem? (i := 135) rfl)
set_option maxRecDepth 20000 in
theorem cw_129 : Cond.code yX11_place cX11_place 1 (some .int) ∈ tables_1 := tb_5 (List.mem_of_getElem? (i := 134) rfl)
set_option maxRecDepth 20000 in
theorem cw_130 : Cond.code yX11_budget cX11_budget 3 (some .int) ∈ tables_1 := tb_5 (List.mem_of_getElem? (i := 138) rfl)
set_option maxRecDepth 20000 in
theorem cw_131 : Cond.code yX11_trim cX11_trim 2 (some .int) ∈ tables_1 := tb_5 (List.mem_of_getElem? (i := 142) rfl)
set_option maxRecDepth 20000 in
theorem cw_132 : Cond.code yX11_function cX11_function 5 (some .int) ∈ tables_1 := tb_5 (List.mem_of_getElem? (i := 146) rfl)
set_option maxRecDepth 20000 in
theorem cw_133 : Cond.code yX11_calls cX11_calls 4 (some .int) ∈ tables_1 := tb_5 (List.mem_of_getElem? (i := 163) rfl)
set_option maxRecDepth 20000 in
theorem cw_134 : Cond.code yX11_order cX11_order 2 (some .int) ∈ tables_1 := tb_5 (List.mem_of_getElem? (i := 172) rfl)
set_option maxRecDepth 20000 in
theorem cw_135 : Cond.code yX11_write cX11_write 4 (some .int) ∈ tables_1 := tb_5 (List.mem_of_getElem? (i := 176) rfl)
set_option maxRecDepth 20000 in
theorem cw_136 : Cond.code yX11_octet cX11_octet 2 (some .int) ∈ tables_1 := tb_6 (List.mem_of_getElem? (i := 25) rfl)
set_option maxRecDepth 20000 in
theorem cw_137 : Cond.code yX11_code cX11_code 6 (some .int) ∈ tables_1 := tb_6 (List.mem_of_getElem? (i := 33) rfl)
set_option maxRecDepth 20000 in
theorem cw_138 : Cond.code yX11_argument cX11_argument 4 (some .int) ∈ tables_1 := tb_6 (List.mem_of_getElem? (i := 37) rfl)
set_option maxRecDepth 20000 in
theorem cw_139 : Cond.code yX11_run cX11_run 6 (some .int) ∈ tables_1 := tb_6 (List.mem_of_getElem? (i := 41) rfl)
set_option maxRecDepth 20000 in
theorem cw_140 : Cond.code yX11_told cX11_told 2 (some .int) ∈ tables_1 := tb_6 (List.mem_of_getElem? (i := 99) rfl)
set_option maxRecDepth 20000 in
theorem cw_141 : Cond.code yX11_putAt cX11_putAt 2 (some .int) ∈ tables_1 := tb_6 (List.mem_of_getElem? (i := 103) rfl)
set_option maxRecDepth 20000 in
theorem cw_142 : Cond.code yX11_programOf cX11_programOf 2 (some (.object "TailTrimmer$Program")) ∈ tables_1 := tb_5 (List.mem_of_getElem? (i := 150) rfl)
set_option maxRecDepth 20000 in
theorem cw_143 : Cond.code yX11_makeOutput cX11_makeOutput 4 (some .int) ∈ tables_1 := tb_5 (List.mem_of_getElem? (i := 23) rfl)
set_option maxRecDepth 20000 in
theorem cw_144 : Cond.code yX11_operate cX11_operate 3 (some .int) ∈ tables_1 := tb_5 (List.mem_of_getElem? (i := 121) rfl)
set_option maxRecDepth 20000 in
theorem cw_145 : Cond.code yX11_dividesByZero cX11_dividesByZero 2 (some .boolean) ∈ tables_1 := tb_5 (List.mem_of_getElem? (i := 118) rfl)
set_option maxRecDepth 20000 in
theorem cw_146 : Cond.code yX11_closeOver cX11_closeOver 4 none ∈ tables_1 := tb_4 (List.mem_of_getElem? (i := 187) rfl)
set_option maxRecDepth 20000 in
theorem cw_147 : Cond.code yX11_hasBit cX11_hasBit 2 (some .boolean) ∈ tables_1 := tb_4 (List.mem_of_getElem? (i := 184) rfl)
set_option maxRecDepth 20000 in
theorem cw_148 : Cond.code yX12_init cX12_init 1 none ∈ tables_1 := tb_6 (List.mem_of_getElem? (i := 108) rfl)
set_option maxRecDepth 20000 in
theorem cw_149 : Cond.code yX12_in cX12_in 6 (some .boolean) ∈ tables_1 := tb_7 (List.mem_of_getElem? (i := 141) rfl)
set_option maxRecDepth 20000 in
theorem cw_150 : Cond.code yX12_feed cX12_feed 5 (some .int) ∈ tables_1 := tb_7 (List.mem_of_getElem? (i := 137) rfl)
set_option maxRecDepth 20000 in
theorem cw_151 : Cond.code yX12_fail cX12_fail 3 none ∈ tables_1 := tb_7 (List.mem_of_getElem? (i := 171) rfl)
set_option maxRecDepth 20000 in
theorem cw_152 : Cond.code yX12_sign cX12_sign 2 (some .int) ∈ tables_1 := tb_7 (List.mem_of_getElem? (i := 153) rfl)
set_option maxRecDepth 20000 in
theorem cw_153 : Cond.code yX12_letter cX12_letter 1 (some .int) ∈ tables_1 := tb_7 (List.mem_of_getElem? (i := 158) rfl)
set_option maxRecDepth 20000 in
theorem cw_154 : Cond.code yX12_look cX12_look 3 (some .int) ∈ tables_1 := tb_7 (List.mem_of_getElem? (i := 149) rfl)
set_option maxRecDepth 20000 in
theorem cw_155 : Cond.code yX12_take cX12_take 1 none ∈ tables_1 := tb_7 (List.mem_of_getElem? (i := 185) rfl)
set_option maxRecDepth 20000 in
theorem cw_156 : Cond.code yX12_must cX12_must 2 (some .boolean) ∈ tables_1 := tb_7 (List.mem_of_getElem? (i := 181) rfl)
set_option maxRecDepth 20000 in
theorem cw_157 : Cond.code yX12_node cX12_node 7 (some .int) ∈ tables_1 := tb_7 (List.mem_of_getElem? (i := 217) rfl)
set_option maxRecDepth 20000 in
theorem cw_158 : Cond.code yX12_addArgument cX12_addArgument 3 (some .int) ∈ tables_1 := tb_8 (List.mem_of_getElem? (i := 1) rfl)
set_option maxRecDepth 20000 in
theorem cw_159 : Cond.code yX12_push cX12_push 4 none ∈ tables_1 := tb_7 (List.mem_of_getElem? (i := 197) rfl)
set_option maxRecDepth 20000 in
theorem cw_160 : Cond.code yX12_give cX12_give 2 none ∈ tables_1 := tb_7 (List.mem_of_getElem? (i := 221) rfl)
set_option maxRecDepth 20000 in
theorem cw_161 : Cond.code yX12_got cX12_got 1 (some .int) ∈ tables_1 := tb_7 (List.mem_of_getElem? (i := 213) rfl)
set_option maxRecDepth 20000 in
theorem cw_162 : Cond.code yX12_opens cX12_opens 1 (some .boolean) ∈ tables_1 := tb_7 (List.mem_of_getElem? (i := 209) rfl)
set_option maxRecDepth 20000 in
theorem cw_163 : Cond.code yX12_readExp cX12_readExp 1 none ∈ tables_1 := tb_7 (List.mem_of_getElem? (i := 193) rfl)
set_option maxRecDepth 20000 in
theorem cw_164 : Cond.code yX12_two cX12_two 4 none ∈ tables_1 := tb_7 (List.mem_of_getElem? (i := 225) rfl)
set_option maxRecDepth 20000 in
theorem cw_165 : Cond.code yX12_readTask cX12_readTask 6 none ∈ tables_1 := tb_7 (List.mem_of_getElem? (i := 201) rfl)
set_option maxRecDepth 20000 in
theorem cw_166 : Cond.code yX12_beginExp cX12_beginExp 3 none ∈ tables_1 := tb_7 (List.mem_of_getElem? (i := 205) rfl)
set_option maxRecDepth 20000 in
theorem cw_167 : Cond.code yX12_unary cX12_unary 2 none ∈ tables_1 := tb_7 (List.mem_of_getElem? (i := 229) rfl)
set_option maxRecDepth 20000 in
theorem cw_168 : Cond.code yX12_named cX12_named 3 none ∈ tables_1 := tb_7 (List.mem_of_getElem? (i := 233) rfl)
set_option maxRecDepth 20000 in
theorem cw_169 : Cond.code yX12_endArgument cX12_endArgument 3 none ∈ tables_1 := tb_8 (List.mem_of_getElem? (i := 5) rfl)
set_option maxRecDepth 20000 in
theorem cw_170 : Cond.code yX12_endCall cX12_endCall 6 none ∈ tables_1 := tb_7 (List.mem_of_getElem? (i := 237) rfl)
set_option maxRecDepth 20000 in
theorem cw_171 : Cond.code yX12_functionOf cX12_functionOf 5 (some .int) ∈ tables_1 := tb_7 (List.mem_of_getElem? (i := 189) rfl)
set_option maxRecDepth 20000 in
theorem cw_172 : Cond.code yX12_readFunction cX12_readFunction 4 none ∈ tables_1 := tb_7 (List.mem_of_getElem? (i := 177) rfl)
set_option maxRecDepth 20000 in
theorem cw_173 : Cond.code yX12_read cX12_read 4 (some .int) ∈ tables_1 := tb_7 (List.mem_of_getElem? (i := 145) rfl)
set_option maxRecDepth 20000 in
theorem cw_174 : Cond.code yX12_place cX12_place 1 (some .int) ∈ tables_1 := tb_8 (List.mem_of_getElem? (i := 100) rfl)
set_option maxRecDepth 20000 in
theorem cw_175 : Cond.code yX12_copyAll cX12_copyAll 4 none ∈ tables_1 := tb_8 (List.mem_of_getElem? (i := 9) rfl)
set_option maxRecDepth 20000 in
theorem cw_176 : Cond.code yX12_budget cX12_budget 3 (some .int) ∈ tables_1 := tb_8 (List.mem_of_getElem? (i := 104) rfl)
set_option maxRecDepth 20000 in
theorem cw_177 : Cond.code yX12_findGraph cX12_findGraph 4 none ∈ tables_1 := tb_8 (List.mem_of_getElem? (i := 13) rfl)
set_option maxRecDepth 20000 in
theorem cw_178 : Cond.code yX12_lookFromOne cX12_lookFromOne 6 none ∈ tables_1 := tb_8 (List.mem_of_getElem? (i := 17) rfl)
set_option maxRecDepth 20000 in
theorem cw_179 : Cond.code yX12_calls cX12_calls 5 (some .int) ∈ tables_1 := tb_8 (List.mem_of_getElem? (i := 109) rfl)
set_option maxRecDepth 20000 in
theorem cw_180 : Cond.code yX12_order cX12_order 2 (some .int) ∈ tables_1 := tb_8 (List.mem_of_getElem? (i := 113) rfl)
set_option maxRecDepth 20000 in
theorem cw_181 : Cond.code yX12_make cX12_make 4 (some .int) ∈ tables_1 := tb_8 (List.mem_of_getElem? (i := 21) rfl)
set_option maxRecDepth 20000 in
theorem cw_182 : Cond.code yX12_trim cX12_trim 2 (some .int) ∈ tables_1 := tb_8 (List.mem_of_getElem? (i := 117) rfl)
set_option maxRecDepth 20000 in
theorem cw_183 : Cond.code yX12_again cX12_again 9 (some .int) ∈ tables_1 := tb_8 (List.mem_of_getElem? (i := 29) rfl)
set_option maxRecDepth 20000 in
theorem cw_184 : Cond.code yX12_inline cX12_inline 10 none ∈ tables_1 := tb_8 (List.mem_of_getElem? (i := 25) rfl)
set_option maxRecDepth 20000 in
theorem cw_185 : Cond.code yX12_replace cX12_replace 11 (some .int) ∈ tables_1 := tb_8 (List.mem_of_getElem? (i := 33) rfl)
set_option maxRecDepth 20000 in
theorem cw_186 : Cond.code yX12_reckon cX12_reckon 3 (some .int) ∈ tables_1 := tb_8 (List.mem_of_getElem? (i := 52) rfl)
set_option maxRecDepth 20000 in
theorem cw_187 : Cond.code yX12_isNumber cX12_isNumber 3 (some .boolean) ∈ tables_1 := tb_8 (List.mem_of_getElem? (i := 45) rfl)
set_option maxRecDepth 20000 in
theorem cw_188 : Cond.code yX12_numberOf cX12_numberOf 3 (some .int) ∈ tables_1 := tb_8 (List.mem_of_getElem? (i := 49) rfl)
set_option maxRecDepth 20000 in
theorem cw_189 : Cond.code yX12_fold cX12_fold 7 none ∈ tables_1 := tb_8 (List.mem_of_getElem? (i := 37) rfl)
set_option maxRecDepth 20000 in
theorem cw_190 : Cond.code yX12_keepParts cX12_keepParts 6 none ∈ tables_1 := tb_8 (List.mem_of_getElem? (i := 60) rfl)
set_option maxRecDepth 20000 in
theorem cw_191 : Cond.code yX12_stands cX12_stands 5 (some .boolean) ∈ tables_1 := tb_8 (List.mem_of_getElem? (i := 56) rfl)
set_option maxRecDepth 20000 in
theorem cw_192 : Cond.code yX12_foldOne cX12_foldOne 9 (some .int) ∈ tables_1 := tb_8 (List.mem_of_getElem? (i := 41) rfl)
set_option maxRecDepth 20000 in
theorem cw_193 : Cond.code yX12_noFunction cX12_noFunction 3 (some .boolean) ∈ tables_1 := tb_8 (List.mem_of_getElem? (i := 126) rfl)
set_option maxRecDepth 20000 in
theorem cw_194 : Cond.code yX12_instruction cX12_instruction 3 none ∈ tables_1 := tb_8 (List.mem_of_getElem? (i := 72) rfl)
set_option maxRecDepth 20000 in
theorem cw_195 : Cond.code yX12_lays cX12_lays 2 none ∈ tables_1 := tb_8 (List.mem_of_getElem? (i := 76) rfl)
set_option maxRecDepth 20000 in
theorem cw_196 : Cond.code yX12_slot cX12_slot 2 none ∈ tables_1 := tb_8 (List.mem_of_getElem? (i := 80) rfl)
set_option maxRecDepth 20000 in
theorem cw_197 : Cond.code yX12_compile cX12_compile 8 none ∈ tables_1 := tb_8 (List.mem_of_getElem? (i := 64) rfl)
set_option maxRecDepth 20000 in
theorem cw_198 : Cond.code yX12_emit cX12_emit 4 none ∈ tables_1 := tb_8 (List.mem_of_getElem? (i := 88) rfl)
set_option maxRecDepth 20000 in
theorem cw_199 : Cond.code yX12_visit cX12_visit 5 none ∈ tables_1 := tb_8 (List.mem_of_getElem? (i := 68) rfl)
set_option maxRecDepth 20000 in
theorem cw_200 : Cond.code yX12_visitTail cX12_visitTail 6 none ∈ tables_1 := tb_8 (List.mem_of_getElem? (i := 84) rfl)
set_option maxRecDepth 20000 in
theorem cw_201 : Cond.code yX12_frame cX12_frame 2 (some .int) ∈ tables_1 := tb_8 (List.mem_of_getElem? (i := 96) rfl)
set_option maxRecDepth 20000 in
theorem cw_202 : Cond.code yX12_bounds cX12_bounds 8 none ∈ tables_1 := tb_8 (List.mem_of_getElem? (i := 92) rfl)
set_option maxRecDepth 20000 in
theorem cw_203 : Cond.code yX12_function cX12_function 7 (some .int) ∈ tables_1 := tb_8 (List.mem_of_getElem? (i := 122) rfl)
set_option maxRecDepth 20000 in
theorem cw_204 : Cond.code yX12_code cX12_code 6 (some .int) ∈ tables_1 := tb_8 (List.mem_of_getElem? (i := 130) rfl)
set_option maxRecDepth 20000 in
theorem cw_205 : Cond.code yX12_put cX12_put 2 none ∈ tables_1 := tb_8 (List.mem_of_getElem? (i := 162) rfl)
set_option maxRecDepth 20000 in
theorem cw_206 : Cond.code yX12_puts cX12_puts 5 none ∈ tables_1 := tb_8 (List.mem_of_getElem? (i := 157) rfl)
set_option maxRecDepth 20000 in
theorem cw_207 : Cond.code yX12_decimal cX12_decimal 5 none ∈ tables_1 := tb_8 (List.mem_of_getElem? (i := 171) rfl)
set_option maxRecDepth 20000 in
theorem cw_208 : Cond.code yX12_nameOut cX12_nameOut 6 none ∈ tables_1 := tb_8 (List.mem_of_getElem? (i := 179) rfl)
set_option maxRecDepth 20000 in
theorem cw_209 : Cond.code yX12_signOf cX12_signOf 1 (some .long) ∈ tables_1 := tb_8 (List.mem_of_getElem? (i := 145) rfl)
set_option maxRecDepth 20000 in
theorem cw_210 : Cond.code yX12_wordOf cX12_wordOf 1 (some .long) ∈ tables_1 := tb_8 (List.mem_of_getElem? (i := 137) rfl)
set_option maxRecDepth 20000 in
theorem cw_211 : Cond.code yX12_writeOne cX12_writeOne 6 none ∈ tables_1 := tb_8 (List.mem_of_getElem? (i := 166) rfl)
set_option maxRecDepth 20000 in
theorem cw_212 : Cond.code yX12_write cX12_write 5 (some .int) ∈ tables_1 := tb_8 (List.mem_of_getElem? (i := 134) rfl)
set_option maxRecDepth 20000 in
theorem cw_213 : Cond.code yX12_octet cX12_octet 2 (some .int) ∈ tables_1 := tb_8 (List.mem_of_getElem? (i := 184) rfl)
set_option maxRecDepth 20000 in
theorem cw_214 : Cond.code yX12_argument cX12_argument 4 (some .int) ∈ tables_1 := tb_8 (List.mem_of_getElem? (i := 188) rfl)
set_option maxRecDepth 20000 in
theorem cw_215 : Cond.code yX12_lay cX12_lay 7 (some .boolean) ∈ tables_1 := tb_8 (List.mem_of_getElem? (i := 198) rfl)
set_option maxRecDepth 20000 in
theorem cw_216 : Cond.code yX12_run cX12_run 6 (some .int) ∈ tables_1 := tb_8 (List.mem_of_getElem? (i := 193) rfl)
set_option maxRecDepth 20000 in
theorem cw_217 : Cond.code yX12_oneStep cX12_oneStep 8 (some .int) ∈ tables_1 := tb_8 (List.mem_of_getElem? (i := 202) rfl)
set_option maxRecDepth 20000 in
theorem cw_218 : Cond.code yX12_replaceFrame cX12_replaceFrame 7 (some .int) ∈ tables_1 := tb_8 (List.mem_of_getElem? (i := 206) rfl)
set_option maxRecDepth 20000 in
theorem cw_219 : Cond.code yX12_told cX12_told 2 (some .int) ∈ tables_1 := tb_8 (List.mem_of_getElem? (i := 210) rfl)
set_option maxRecDepth 20000 in
theorem cw_220 : Cond.code yX12_putAt cX12_putAt 2 (some .int) ∈ tables_1 := tb_8 (List.mem_of_getElem? (i := 214) rfl)
set_option maxRecDepth 20000 in
theorem cw_221 : Cond.code yJ0_length_8abf5 cJ0_length_8abf5 1 (some .int) ∈ tables_1 := tb_3 (List.mem_of_getElem? (i := 202) rfl)
set_option maxRecDepth 20000 in
theorem cw_222 : Cond.code yJ0_charAt_5068e cJ0_charAt_5068e 2 (some .char) ∈ tables_1 := tb_5 (List.mem_of_getElem? (i := 200) rfl)
set_option maxRecDepth 20000 in
theorem cw_223 : Cond.code yJ0_indexOf_0f7a4 cJ0_indexOf_0f7a4 2 (some .int) ∈ tables_1 := tb_3 (List.mem_of_getElem? (i := 188) rfl)
set_option maxRecDepth 20000 in
theorem cw_224 : Cond.code yJ0_indexOf_7cf53 cJ0_indexOf_7cf53 3 (some .int) ∈ tables_1 := tb_3 (List.mem_of_getElem? (i := 192) rfl)
set_option maxRecDepth 20000 in
theorem cw_225 : Cond.code yJ0_coder_7d493 cJ0_coder_7d493 1 (some .byte) ∈ tables_1 := tb_3 (List.mem_of_getElem? (i := 206) rfl)
set_option maxRecDepth 20000 in
theorem cw_226 : Cond.code yJ0_isLatin1_aae02 cJ0_isLatin1_aae02 1 (some .boolean) ∈ tables_1 := tb_3 (List.mem_of_getElem? (i := 196) rfl)
set_option maxRecDepth 20000 in
theorem cw_227 : Cond.code yJ0_checkIndex_df160 cJ0_checkIndex_df160 2 none ∈ tables_1 := tb_5 (List.mem_of_getElem? (i := 206) rfl)
set_option maxRecDepth 20000 in
theorem cw_228 : Cond.code yJ1_charAt_3b067 cJ1_charAt_3b067 2 (some .char) ∈ tables_1 := tb_5 (List.mem_of_getElem? (i := 203) rfl)
set_option maxRecDepth 20000 in
theorem cw_229 : Cond.code yJ1_canEncode_9a6ad cJ1_canEncode_9a6ad 1 (some .boolean) ∈ tables_1 := tb_3 (List.mem_of_getElem? (i := 212) rfl)
set_option maxRecDepth 20000 in
theorem cw_230 : Cond.code yJ1_indexOf_4cfef cJ1_indexOf_4cfef 4 (some .int) ∈ tables_1 := tb_3 (List.mem_of_getElem? (i := 209) rfl)
set_option maxRecDepth 20000 in
theorem cw_231 : Cond.code yJ1_indexOfChar_4cfef cJ1_indexOfChar_4cfef 6 (some .int) ∈ tables_1 := tb_3 (List.mem_of_getElem? (i := 219) rfl)
set_option maxRecDepth 20000 in
theorem cw_232 : Cond.code yJ3_checkIndex_8e157 cJ3_checkIndex_8e157 3 (some .int) ∈ tables_1 := tb_5 (List.mem_of_getElem? (i := 209) rfl)
theorem g_cws : ∀ id, id < 233 → Cond.code (g_yn id).1 (g_yn id).2 (g_mt id).2.1 (g_mt id).2.2.1 ∈ tables_1 := by
  intro id h
  match id, h with
  | 0, _ => exact cw_0
  | 1, _ => exact cw_1
  | 2, _ => exact cw_2
  | 3, _ => exact cw_3
  | 4, _ => exact cw_4
  | 5, _ => exact cw_5
  | 6, _ => exact cw_6
  | 7, _ => exact cw_7
  | 8, _ => exact cw_8
  | 9, _ => exact cw_9
  | 10, _ => exact cw_10
  | 11, _ => exact cw_11
  | 12, _ => exact cw_12
  | 13, _ => exact cw_13
  | 14, _ => exact cw_14
  | 15, _ => exact cw_15
  | 16, _ => exact cw_16
  | 17, _ => exact cw_17
  | 18, _ => exact cw_18
  | 19, _ => exact cw_19
  | 20, _ => exact cw_20
  | 21, _ => exact cw_21
  | 22, _ => exact cw_22
  | 23, _ => exact cw_23
  | 24, _ => exact cw_24
  | 25, _ => exact cw_25
  | 26, _ => exact cw_26
  | 27, _ => exact cw_27
  | 28, _ => exact cw_28
  | 29, _ => exact cw_29
  | 30, _ => exact cw_30
  | 31, _ => exact cw_31
  | 32, _ => exact cw_32
  | 33, _ => exact cw_33
  | 34, _ => exact cw_34
  | 35, _ => exact cw_35
  | 36, _ => exact cw_36
  | 37, _ => exact cw_37
  | 38, _ => exact cw_38
  | 39, _ => exact cw_39
  | 40, _ => exact cw_40
  | 41, _ => exact cw_41
  | 42, _ => exact cw_42
  | 43, _ => exact cw_43
  | 44, _ => exact cw_44
  | 45, _ => exact cw_45
  | 46, _ => exact cw_46
  | 47, _ => exact cw_47
  | 48, _ => exact cw_48
  | 49, _ => exact cw_49
  | 50, _ => exact cw_50
  | 51, _ => exact cw_51
  | 52, _ => exact cw_52
  | 53, _ => exact cw_53
  | 54, _ => exact cw_54
  | 55, _ => exact cw_55
  | 56, _ => exact cw_56
  | 57, _ => exact cw_57
  | 58, _ => exact cw_58
  | 59, _ => exact cw_59
  | 60, _ => exact cw_60
  | 61, _ => exact cw_61
  | 62, _ => exact cw_62
  | 63, _ => exact cw_63
  | 64, _ => exact cw_64
  | 65, _ => exact cw_65
  | 66, _ => exact cw_66
  | 67, _ => exact cw_67
  | 68, _ => exact cw_68
  | 69, _ => exact cw_69
  | 70, _ => exact cw_70
  | 71, _ => exact cw_71
  | 72, _ => exact cw_72
  | 73, _ => exact cw_73
  | 74, _ => exact cw_74
  | 75, _ => exact cw_75
  | 76, _ => exact cw_76
  | 77, _ => exact cw_77
  | 78, _ => exact cw_78
  | 79, _ => exact cw_79
  | 80, _ => exact cw_80
  | 81, _ => exact cw_81
  | 82, _ => exact cw_82
  | 83, _ => exact cw_83
  | 84, _ => exact cw_84
  | 85, _ => exact cw_85
  | 86, _ => exact cw_86
  | 87, _ => exact cw_87
  | 88, _ => exact cw_88
  | 89, _ => exact cw_89
  | 90, _ => exact cw_90
  | 91, _ => exact cw_91
  | 92, _ => exact cw_92
  | 93, _ => exact cw_93
  | 94, _ => exact cw_94
  | 95, _ => exact cw_95
  | 96, _ => exact cw_96
  | 97, _ => exact cw_97
  | 98, _ => exact cw_98
  | 99, _ => exact cw_99
  | 100, _ => exact cw_100
  | 101, _ => exact cw_101
  | 102, _ => exact cw_102
  | 103, _ => exact cw_103
  | 104, _ => exact cw_104
  | 105, _ => exact cw_105
  | 106, _ => exact cw_106
  | 107, _ => exact cw_107
  | 108, _ => exact cw_108
  | 109, _ => exact cw_109
  | 110, _ => exact cw_110
  | 111, _ => exact cw_111
  | 112, _ => exact cw_112
  | 113, _ => exact cw_113
  | 114, _ => exact cw_114
  | 115, _ => exact cw_115
  | 116, _ => exact cw_116
  | 117, _ => exact cw_117
  | 118, _ => exact cw_118
  | 119, _ => exact cw_119
  | 120, _ => exact cw_120
  | 121, _ => exact cw_121
  | 122, _ => exact cw_122
  | 123, _ => exact cw_123
  | 124, _ => exact cw_124
  | 125, _ => exact cw_125
  | 126, _ => exact cw_126
  | 127, _ => exact cw_127
  | 128, _ => exact cw_128
  | 129, _ => exact cw_129
  | 130, _ => exact cw_130
  | 131, _ => exact cw_131
  | 132, _ => exact cw_132
  | 133, _ => exact cw_133
  | 134, _ => exact cw_134
  | 135, _ => exact cw_135
  | 136, _ => exact cw_136
  | 137, _ => exact cw_137
  | 138, _ => exact cw_138
  | 139, _ => exact cw_139
  | 140, _ => exact cw_140
  | 141, _ => exact cw_141
  | 142, _ => exact cw_142
  | 143, _ => exact cw_143
  | 144, _ => exact cw_144
  | 145, _ => exact cw_145
  | 146, _ => exact cw_146
  | 147, _ => exact cw_147
  | 148, _ => exact cw_148
  | 149, _ => exact cw_149
  | 150, _ => exact cw_150
  | 151, _ => exact cw_151
  | 152, _ => exact cw_152
  | 153, _ => exact cw_153
  | 154, _ => exact cw_154
  | 155, _ => exact cw_155
  | 156, _ => exact cw_156
  | 157, _ => exact cw_157
  | 158, _ => exact cw_158
  | 159, _ => exact cw_159
  | 160, _ => exact cw_160
  | 161, _ => exact cw_161
  | 162, _ => exact cw_162
  | 163, _ => exact cw_163
  | 164, _ => exact cw_164
  | 165, _ => exact cw_165
  | 166, _ => exact cw_166
  | 167, _ => exact cw_167
  | 168, _ => exact cw_168
  | 169, _ => exact cw_169
  | 170, _ => exact cw_170
  | 171, _ => exact cw_171
  | 172, _ => exact cw_172
  | 173, _ => exact cw_173
  | 174, _ => exact cw_174
  | 175, _ => exact cw_175
  | 176, _ => exact cw_176
  | 177, _ => exact cw_177
  | 178, _ => exact cw_178
  | 179, _ => exact cw_179
  | 180, _ => exact cw_180
  | 181, _ => exact cw_181
  | 182, _ => exact cw_182
  | 183, _ => exact cw_183
  | 184, _ => exact cw_184
  | 185, _ => exact cw_185
  | 186, _ => exact cw_186
  | 187, _ => exact cw_187
  | 188, _ => exact cw_188
  | 189, _ => exact cw_189
  | 190, _ => exact cw_190
  | 191, _ => exact cw_191
  | 192, _ => exact cw_192
  | 193, _ => exact cw_193
  | 194, _ => exact cw_194
  | 195, _ => exact cw_195
  | 196, _ => exact cw_196
  | 197, _ => exact cw_197
  | 198, _ => exact cw_198
  | 199, _ => exact cw_199
  | 200, _ => exact cw_200
  | 201, _ => exact cw_201
  | 202, _ => exact cw_202
  | 203, _ => exact cw_203
  | 204, _ => exact cw_204
  | 205, _ => exact cw_205
  | 206, _ => exact cw_206
  | 207, _ => exact cw_207
  | 208, _ => exact cw_208
  | 209, _ => exact cw_209
  | 210, _ => exact cw_210
  | 211, _ => exact cw_211
  | 212, _ => exact cw_212
  | 213, _ => exact cw_213
  | 214, _ => exact cw_214
  | 215, _ => exact cw_215
  | 216, _ => exact cw_216
  | 217, _ => exact cw_217
  | 218, _ => exact cw_218
  | 219, _ => exact cw_219
  | 220, _ => exact cw_220
  | 221, _ => exact cw_221
  | 222, _ => exact cw_222
  | 223, _ => exact cw_223
  | 224, _ => exact cw_224
  | 225, _ => exact cw_225
  | 226, _ => exact cw_226
  | 227, _ => exact cw_227
  | 228, _ => exact cw_228
  | 229, _ => exact cw_229
  | 230, _ => exact cw_230
  | 231, _ => exact cw_231
  | 232, _ => exact cw_232
  | id + 233, h => exact absurd h (by omega)
