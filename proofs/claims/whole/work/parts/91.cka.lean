set_option maxRecDepth 20000 in
theorem ck_X0_init : mt_X0_init.2.2.2.2.2.2.all (g_ok1 cX0_init) = true := by decide +kernel
set_option maxRecDepth 20000 in
theorem ck_X0_find : mt_X0_find.2.2.2.2.2.2.all (g_ok1 cX0_find) = true := by decide +kernel
set_option maxRecDepth 20000 in
theorem ck_X0_gather : mt_X0_gather.2.2.2.2.2.2.all (g_ok1 cX0_gather) = true := by decide +kernel
set_option maxRecDepth 20000 in
theorem ck_X0_findEndless : mt_X0_findEndless.2.2.2.2.2.2.all (g_ok1 cX0_findEndless) = true := by decide +kernel
set_option maxRecDepth 20000 in
theorem ck_X0_raise : mt_X0_raise.2.2.2.2.2.2.all (g_ok1 cX0_raise) = true := by decide +kernel
set_option maxRecDepth 20000 in
theorem ck_X1_init : mt_X1_init.2.2.2.2.2.2.all (g_ok1 cX1_init) = true := by decide +kernel
set_option maxRecDepth 20000 in
theorem ck_X1_encode : mt_X1_encode.2.2.2.2.2.2.all (g_ok1 cX1_encode) = true := by decide +kernel
set_option maxRecDepth 20000 in
theorem ck_X1_encodeIn : mt_X1_encodeIn.2.2.2.2.2.2.all (g_ok1 cX1_encodeIn) = true := by decide +kernel
set_option maxRecDepth 20000 in
theorem ck_X1_enter : mt_X1_enter.2.2.2.2.2.2.all (g_ok1 cX1_enter) = true := by decide +kernel
set_option maxRecDepth 20000 in
theorem ck_X1_behindKid : mt_X1_behindKid.2.2.2.2.2.2.all (g_ok1 cX1_behindKid) = true := by decide +kernel
set_option maxRecDepth 20000 in
theorem ck_X1_leave : mt_X1_leave.2.2.2.2.2.2.all (g_ok1 cX1_leave) = true := by decide +kernel
set_option maxRecDepth 20000 in
theorem ck_X1_encodeCall : mt_X1_encodeCall.2.2.2.2.2.2.all (g_ok1 cX1_encodeCall) = true := by decide +kernel
set_option maxRecDepth 20000 in
theorem ck_X1_useSlot : mt_X1_useSlot.2.2.2.2.2.2.all (g_ok1 cX1_useSlot) = true := by decide +kernel
set_option maxRecDepth 20000 in
theorem ck_X1_rise : mt_X1_rise.2.2.2.2.2.2.all (g_ok1 cX1_rise) = true := by decide +kernel
set_option maxRecDepth 20000 in
theorem ck_X1_emit : mt_X1_emit.2.2.2.2.2.2.all (g_ok1 cX1_emit) = true := by decide +kernel
set_option maxRecDepth 20000 in
theorem ck_X1_fillWithHere : mt_X1_fillWithHere.2.2.2.2.2.2.all (g_ok1 cX1_fillWithHere) = true := by decide +kernel
set_option maxRecDepth 20000 in
theorem ck_X2_init : mt_X2_init.2.2.2.2.2.2.all (g_ok1 cX2_init) = true := by decide +kernel
set_option maxRecDepth 20000 in
theorem ck_X2_foldAll : mt_X2_foldAll.2.2.2.2.2.2.all (g_ok1 cX2_foldAll) = true := by decide +kernel
set_option maxRecDepth 20000 in
theorem ck_X2_foldIn : mt_X2_foldIn.2.2.2.2.2.2.all (g_ok1 cX2_foldIn) = true := by decide +kernel
set_option maxRecDepth 20000 in
theorem ck_X2_enter : mt_X2_enter.2.2.2.2.2.2.all (g_ok1 cX2_enter) = true := by decide +kernel
set_option maxRecDepth 20000 in
theorem ck_X2_behindKid : mt_X2_behindKid.2.2.2.2.2.2.all (g_ok1 cX2_behindKid) = true := by decide +kernel
set_option maxRecDepth 20000 in
theorem ck_X2_leave : mt_X2_leave.2.2.2.2.2.2.all (g_ok1 cX2_leave) = true := by decide +kernel
set_option maxRecDepth 20000 in
theorem ck_X2_giveWay : mt_X2_giveWay.2.2.2.2.2.2.all (g_ok1 cX2_giveWay) = true := by decide +kernel
set_option maxRecDepth 20000 in
theorem ck_X2_bind : mt_X2_bind.2.2.2.2.2.2.all (g_ok1 cX2_bind) = true := by decide +kernel
set_option maxRecDepth 20000 in
theorem ck_X2_chooseBranch : mt_X2_chooseBranch.2.2.2.2.2.2.all (g_ok1 cX2_chooseBranch) = true := by decide +kernel
set_option maxRecDepth 20000 in
theorem ck_X2_foldTwo : mt_X2_foldTwo.2.2.2.2.2.2.all (g_ok1 cX2_foldTwo) = true := by decide +kernel
set_option maxRecDepth 20000 in
theorem ck_X2_dropUnused : mt_X2_dropUnused.2.2.2.2.2.2.all (g_ok1 cX2_dropUnused) = true := by decide +kernel
set_option maxRecDepth 20000 in
theorem ck_X2_isNumber : mt_X2_isNumber.2.2.2.2.2.2.all (g_ok1 cX2_isNumber) = true := by decide +kernel
set_option maxRecDepth 20000 in
theorem ck_X2_isCalm : mt_X2_isCalm.2.2.2.2.2.2.all (g_ok1 cX2_isCalm) = true := by decide +kernel
set_option maxRecDepth 20000 in
theorem ck_X2_standsIn : mt_X2_standsIn.2.2.2.2.2.2.all (g_ok1 cX2_standsIn) = true := by decide +kernel
set_option maxRecDepth 20000 in
theorem ck_X2_emit : mt_X2_emit.2.2.2.2.2.2.all (g_ok1 cX2_emit) = true := by decide +kernel
set_option maxRecDepth 20000 in
theorem ck_X3_init : mt_X3_init.2.2.2.2.2.2.all (g_ok1 cX3_init) = true := by decide +kernel
set_option maxRecDepth 20000 in
theorem ck_X3_draw : mt_X3_draw.2.2.2.2.2.2.all (g_ok1 cX3_draw) = true := by decide +kernel
set_option maxRecDepth 20000 in
theorem ck_X3_doesCall : mt_X3_doesCall.2.2.2.2.2.2.all (g_ok1 cX3_doesCall) = true := by decide +kernel
set_option maxRecDepth 20000 in
theorem ck_X3_inOneCircle : mt_X3_inOneCircle.2.2.2.2.2.2.all (g_ok1 cX3_inOneCircle) = true := by decide +kernel
set_option maxRecDepth 20000 in
theorem ck_X3_gather : mt_X3_gather.2.2.2.2.2.2.all (g_ok1 cX3_gather) = true := by decide +kernel
set_option maxRecDepth 20000 in
theorem ck_X3_addCallee : mt_X3_addCallee.2.2.2.2.2.2.all (g_ok1 cX3_addCallee) = true := by decide +kernel
set_option maxRecDepth 20000 in
theorem ck_X3_look : mt_X3_look.2.2.2.2.2.2.all (g_ok1 cX3_look) = true := by decide +kernel
set_option maxRecDepth 20000 in
theorem ck_X4_init : mt_X4_init.2.2.2.2.2.2.all (g_ok1 cX4_init) = true := by decide +kernel
set_option maxRecDepth 20000 in
theorem ck_X4_inlineAll : mt_X4_inlineAll.2.2.2.2.2.2.all (g_ok1 cX4_inlineAll) = true := by decide +kernel
set_option maxRecDepth 20000 in
theorem ck_X4_inlineIn : mt_X4_inlineIn.2.2.2.2.2.2.all (g_ok1 cX4_inlineIn) = true := by decide +kernel
set_option maxRecDepth 20000 in
theorem ck_X4_chooseCalls : mt_X4_chooseCalls.2.2.2.2.2.2.all (g_ok1 cX4_chooseCalls) = true := by decide +kernel
set_option maxRecDepth 20000 in
theorem ck_X4_copyWithChosen : mt_X4_copyWithChosen.2.2.2.2.2.2.all (g_ok1 cX4_copyWithChosen) = true := by decide +kernel
set_option maxRecDepth 20000 in
theorem ck_X4_replace : mt_X4_replace.2.2.2.2.2.2.all (g_ok1 cX4_replace) = true := by decide +kernel
set_option maxRecDepth 20000 in
theorem ck_X4_choose : mt_X4_choose.2.2.2.2.2.2.all (g_ok1 cX4_choose) = true := by decide +kernel
set_option maxRecDepth 20000 in
theorem ck_X4_emitBody : mt_X4_emitBody.2.2.2.2.2.2.all (g_ok1 cX4_emitBody) = true := by decide +kernel
set_option maxRecDepth 20000 in
theorem ck_X4_emit : mt_X4_emit.2.2.2.2.2.2.all (g_ok1 cX4_emit) = true := by decide +kernel
set_option maxRecDepth 20000 in
theorem ck_X5_init : mt_X5_init.2.2.2.2.2.2.all (g_ok1 cX5_init) = true := by decide +kernel
set_option maxRecDepth 20000 in
theorem ck_X5_load : mt_X5_load.2.2.2.2.2.2.all (g_ok1 cX5_load) = true := by decide +kernel
set_option maxRecDepth 20000 in
theorem ck_X5_perform : mt_X5_perform.2.2.2.2.2.2.all (g_ok1 cX5_perform) = true := by decide +kernel
set_option maxRecDepth 20000 in
theorem ck_X5_fits : mt_X5_fits.2.2.2.2.2.2.all (g_ok1 cX5_fits) = true := by decide +kernel
set_option maxRecDepth 20000 in
theorem ck_X5_enterFrame : mt_X5_enterFrame.2.2.2.2.2.2.all (g_ok1 cX5_enterFrame) = true := by decide +kernel
set_option maxRecDepth 20000 in
theorem ck_X5_step : mt_X5_step.2.2.2.2.2.2.all (g_ok1 cX5_step) = true := by decide +kernel
set_option maxRecDepth 20000 in
theorem ck_X5_push : mt_X5_push.2.2.2.2.2.2.all (g_ok1 cX5_push) = true := by decide +kernel
set_option maxRecDepth 20000 in
theorem ck_X5_pop : mt_X5_pop.2.2.2.2.2.2.all (g_ok1 cX5_pop) = true := by decide +kernel
set_option maxRecDepth 20000 in
theorem ck_X5_combine : mt_X5_combine.2.2.2.2.2.2.all (g_ok1 cX5_combine) = true := by decide +kernel
set_option maxRecDepth 20000 in
theorem ck_X5_putTop : mt_X5_putTop.2.2.2.2.2.2.all (g_ok1 cX5_putTop) = true := by decide +kernel
set_option maxRecDepth 20000 in
theorem ck_X5_enterCalled : mt_X5_enterCalled.2.2.2.2.2.2.all (g_ok1 cX5_enterCalled) = true := by decide +kernel
set_option maxRecDepth 20000 in
theorem ck_X5_goBack : mt_X5_goBack.2.2.2.2.2.2.all (g_ok1 cX5_goBack) = true := by decide +kernel
set_option maxRecDepth 20000 in
theorem ck_X5_takeOwnPlace : mt_X5_takeOwnPlace.2.2.2.2.2.2.all (g_ok1 cX5_takeOwnPlace) = true := by decide +kernel
set_option maxRecDepth 20000 in
theorem ck_X6_init : mt_X6_init.2.2.2.2.2.2.all (g_ok1 cX6_init) = true := by decide +kernel
set_option maxRecDepth 20000 in
theorem ck_X6_has : mt_X6_has.2.2.2.2.2.2.all (g_ok1 cX6_has) = true := by decide +kernel
set_option maxRecDepth 20000 in
theorem ck_X6_find : mt_X6_find.2.2.2.2.2.2.all (g_ok1 cX6_find) = true := by decide +kernel
set_option maxRecDepth 20000 in
theorem ck_X6_kids : mt_X6_kids.2.2.2.2.2.2.all (g_ok1 cX6_kids) = true := by decide +kernel
set_option maxRecDepth 20000 in
theorem ck_X6_countCalls : mt_X6_countCalls.2.2.2.2.2.2.all (g_ok1 cX6_countCalls) = true := by decide +kernel
set_option maxRecDepth 20000 in
theorem ck_X6_frame : mt_X6_frame.2.2.2.2.2.2.all (g_ok1 cX6_frame) = true := by decide +kernel
set_option maxRecDepth 20000 in
theorem ck_X7_init : mt_X7_init.2.2.2.2.2.2.all (g_ok1 cX7_init) = true := by decide +kernel
set_option maxRecDepth 20000 in
theorem ck_X7_faultPlace : mt_X7_faultPlace.2.2.2.2.2.2.all (g_ok1 cX7_faultPlace) = true := by decide +kernel
set_option maxRecDepth 20000 in
theorem ck_X7_readInto : mt_X7_readInto.2.2.2.2.2.2.all (g_ok1 cX7_readInto) = true := by decide +kernel
set_option maxRecDepth 20000 in
theorem ck_X7_readDefinition : mt_X7_readDefinition.2.2.2.2.2.2.all (g_ok1 cX7_readDefinition) = true := by decide +kernel
set_option maxRecDepth 20000 in
theorem ck_X7_readFunctionName : mt_X7_readFunctionName.2.2.2.2.2.2.all (g_ok1 cX7_readFunctionName) = true := by decide +kernel
set_option maxRecDepth 20000 in
theorem ck_X7_readParameters : mt_X7_readParameters.2.2.2.2.2.2.all (g_ok1 cX7_readParameters) = true := by decide +kernel
set_option maxRecDepth 20000 in
theorem ck_X7_checkParameterName : mt_X7_checkParameterName.2.2.2.2.2.2.all (g_ok1 cX7_checkParameterName) = true := by decide +kernel
set_option maxRecDepth 20000 in
theorem ck_X7_see : mt_X7_see.2.2.2.2.2.2.all (g_ok1 cX7_see) = true := by decide +kernel
set_option maxRecDepth 20000 in
theorem ck_X7_findVariable : mt_X7_findVariable.2.2.2.2.2.2.all (g_ok1 cX7_findVariable) = true := by decide +kernel
set_option maxRecDepth 20000 in
theorem ck_X7_opens : mt_X7_opens.2.2.2.2.2.2.all (g_ok1 cX7_opens) = true := by decide +kernel
set_option maxRecDepth 20000 in
theorem ck_X7_addNode : mt_X7_addNode.2.2.2.2.2.2.all (g_ok1 cX7_addNode) = true := by decide +kernel
set_option maxRecDepth 20000 in
theorem ck_X7_insertNode : mt_X7_insertNode.2.2.2.2.2.2.all (g_ok1 cX7_insertNode) = true := by decide +kernel
set_option maxRecDepth 20000 in
theorem ck_X7_readExpression : mt_X7_readExpression.2.2.2.2.2.2.all (g_ok1 cX7_readExpression) = true := by decide +kernel
set_option maxRecDepth 20000 in
theorem ck_X7_readLet : mt_X7_readLet.2.2.2.2.2.2.all (g_ok1 cX7_readLet) = true := by decide +kernel
set_option maxRecDepth 20000 in
theorem ck_X7_readIf : mt_X7_readIf.2.2.2.2.2.2.all (g_ok1 cX7_readIf) = true := by decide +kernel
set_option maxRecDepth 20000 in
theorem ck_X7_readComparison : mt_X7_readComparison.2.2.2.2.2.2.all (g_ok1 cX7_readComparison) = true := by decide +kernel
set_option maxRecDepth 20000 in
theorem ck_X7_readSum : mt_X7_readSum.2.2.2.2.2.2.all (g_ok1 cX7_readSum) = true := by decide +kernel
set_option maxRecDepth 20000 in
theorem ck_X7_readProduct : mt_X7_readProduct.2.2.2.2.2.2.all (g_ok1 cX7_readProduct) = true := by decide +kernel
set_option maxRecDepth 20000 in
theorem ck_X7_isProductSign : mt_X7_isProductSign.2.2.2.2.2.2.all (g_ok1 cX7_isProductSign) = true := by decide +kernel
set_option maxRecDepth 20000 in
theorem ck_X7_readUnary : mt_X7_readUnary.2.2.2.2.2.2.all (g_ok1 cX7_readUnary) = true := by decide +kernel
set_option maxRecDepth 20000 in
theorem ck_X7_readPart : mt_X7_readPart.2.2.2.2.2.2.all (g_ok1 cX7_readPart) = true := by decide +kernel
set_option maxRecDepth 20000 in
theorem ck_X7_readBracketed : mt_X7_readBracketed.2.2.2.2.2.2.all (g_ok1 cX7_readBracketed) = true := by decide +kernel
set_option maxRecDepth 20000 in
theorem ck_X7_openBracket : mt_X7_openBracket.2.2.2.2.2.2.all (g_ok1 cX7_openBracket) = true := by decide +kernel
set_option maxRecDepth 20000 in
theorem ck_X7_readName : mt_X7_readName.2.2.2.2.2.2.all (g_ok1 cX7_readName) = true := by decide +kernel
set_option maxRecDepth 20000 in
theorem ck_X7_addVariable : mt_X7_addVariable.2.2.2.2.2.2.all (g_ok1 cX7_addVariable) = true := by decide +kernel
set_option maxRecDepth 20000 in
theorem ck_X7_beginCall : mt_X7_beginCall.2.2.2.2.2.2.all (g_ok1 cX7_beginCall) = true := by decide +kernel
set_option maxRecDepth 20000 in
theorem ck_X7_findTargets : mt_X7_findTargets.2.2.2.2.2.2.all (g_ok1 cX7_findTargets) = true := by decide +kernel
set_option maxRecDepth 20000 in
theorem ck_X7_setTargets : mt_X7_setTargets.2.2.2.2.2.2.all (g_ok1 cX7_setTargets) = true := by decide +kernel
set_option maxRecDepth 20000 in
theorem ck_X8_init : mt_X8_init.2.2.2.2.2.2.all (g_ok1 cX8_init) = true := by decide +kernel
set_option maxRecDepth 20000 in
theorem ck_X8_begin : mt_X8_begin.2.2.2.2.2.2.all (g_ok1 cX8_begin) = true := by decide +kernel
set_option maxRecDepth 20000 in
theorem ck_X8_peek : mt_X8_peek.2.2.2.2.2.2.all (g_ok1 cX8_peek) = true := by decide +kernel
set_option maxRecDepth 20000 in
theorem ck_X8_isAt : mt_X8_isAt.2.2.2.2.2.2.all (g_ok1 cX8_isAt) = true := by decide +kernel
set_option maxRecDepth 20000 in
theorem ck_X8_take : mt_X8_take.2.2.2.2.2.2.all (g_ok1 cX8_take) = true := by decide +kernel
set_option maxRecDepth 20000 in
theorem ck_X8_need : mt_X8_need.2.2.2.2.2.2.all (g_ok1 cX8_need) = true := by decide +kernel
set_option maxRecDepth 20000 in
theorem ck_X8_failHere : mt_X8_failHere.2.2.2.2.2.2.all (g_ok1 cX8_failHere) = true := by decide +kernel
set_option maxRecDepth 20000 in
theorem ck_X8_failAt : mt_X8_failAt.2.2.2.2.2.2.all (g_ok1 cX8_failAt) = true := by decide +kernel
set_option maxRecDepth 20000 in
theorem ck_X8_scanName : mt_X8_scanName.2.2.2.2.2.2.all (g_ok1 cX8_scanName) = true := by decide +kernel
set_option maxRecDepth 20000 in
theorem ck_X8_scanNumber : mt_X8_scanNumber.2.2.2.2.2.2.all (g_ok1 cX8_scanNumber) = true := by decide +kernel
set_option maxRecDepth 20000 in
theorem ck_X8_scanSign : mt_X8_scanSign.2.2.2.2.2.2.all (g_ok1 cX8_scanSign) = true := by decide +kernel
set_option maxRecDepth 20000 in
theorem ck_X8_isBlank : mt_X8_isBlank.2.2.2.2.2.2.all (g_ok1 cX8_isBlank) = true := by decide +kernel
set_option maxRecDepth 20000 in
theorem ck_X8_isLetter : mt_X8_isLetter.2.2.2.2.2.2.all (g_ok1 cX8_isLetter) = true := by decide +kernel
set_option maxRecDepth 20000 in
theorem ck_X8_isDigit : mt_X8_isDigit.2.2.2.2.2.2.all (g_ok1 cX8_isDigit) = true := by decide +kernel
set_option maxRecDepth 20000 in
theorem ck_X9_init : mt_X9_init.2.2.2.2.2.2.all (g_ok1 cX9_init) = true := by decide +kernel
set_option maxRecDepth 20000 in
theorem ck_X9_begin : mt_X9_begin.2.2.2.2.2.2.all (g_ok1 cX9_begin) = true := by decide +kernel
set_option maxRecDepth 20000 in
theorem ck_X9_advance : mt_X9_advance.2.2.2.2.2.2.all (g_ok1 cX9_advance) = true := by decide +kernel
set_option maxRecDepth 20000 in
theorem ck_X9_enterNext : mt_X9_enterNext.2.2.2.2.2.2.all (g_ok1 cX9_enterNext) = true := by decide +kernel
set_option maxRecDepth 20000 in
theorem ck_X9_skipKid : mt_X9_skipKid.2.2.2.2.2.2.all (g_ok1 cX9_skipKid) = true := by decide +kernel
set_option maxRecDepth 20000 in
theorem ck_X10_init : mt_X10_init.2.2.2.2.2.2.all (g_ok1 cX10_init) = true := by decide +kernel
set_option maxRecDepth 20000 in
theorem ck_X10_writeOut : mt_X10_writeOut.2.2.2.2.2.2.all (g_ok1 cX10_writeOut) = true := by decide +kernel
set_option maxRecDepth 20000 in
theorem ck_X10_byteAt : mt_X10_byteAt.2.2.2.2.2.2.all (g_ok1 cX10_byteAt) = true := by decide +kernel
set_option maxRecDepth 20000 in
theorem ck_X10_enter : mt_X10_enter.2.2.2.2.2.2.all (g_ok1 cX10_enter) = true := by decide +kernel
set_option maxRecDepth 20000 in
theorem ck_X10_behindKid : mt_X10_behindKid.2.2.2.2.2.2.all (g_ok1 cX10_behindKid) = true := by decide +kernel
set_option maxRecDepth 20000 in
theorem ck_X10_leave : mt_X10_leave.2.2.2.2.2.2.all (g_ok1 cX10_leave) = true := by decide +kernel
set_option maxRecDepth 20000 in
theorem ck_X10_addOperator : mt_X10_addOperator.2.2.2.2.2.2.all (g_ok1 cX10_addOperator) = true := by decide +kernel
set_option maxRecDepth 20000 in
theorem ck_X10_addNumber : mt_X10_addNumber.2.2.2.2.2.2.all (g_ok1 cX10_addNumber) = true := by decide +kernel
set_option maxRecDepth 20000 in
theorem ck_X10_addVariable : mt_X10_addVariable.2.2.2.2.2.2.all (g_ok1 cX10_addVariable) = true := by decide +kernel
set_option maxRecDepth 20000 in
theorem ck_X10_addDigits : mt_X10_addDigits.2.2.2.2.2.2.all (g_ok1 cX10_addDigits) = true := by decide +kernel
set_option maxRecDepth 20000 in
theorem ck_X10_addName : mt_X10_addName.2.2.2.2.2.2.all (g_ok1 cX10_addName) = true := by decide +kernel
set_option maxRecDepth 20000 in
theorem ck_X10_addText : mt_X10_addText.2.2.2.2.2.2.all (g_ok1 cX10_addText) = true := by decide +kernel
set_option maxRecDepth 20000 in
theorem ck_X10_addByte : mt_X10_addByte.2.2.2.2.2.2.all (g_ok1 cX10_addByte) = true := by decide +kernel
set_option maxRecDepth 20000 in
theorem ck_X11_init : mt_X11_init.2.2.2.2.2.2.all (g_ok1 cX11_init) = true := by decide +kernel
set_option maxRecDepth 20000 in
theorem ck_X11_feed : mt_X11_feed.2.2.2.2.2.2.all (g_ok1 cX11_feed) = true := by decide +kernel
set_option maxRecDepth 20000 in
theorem ck_X11_read : mt_X11_read.2.2.2.2.2.2.all (g_ok1 cX11_read) = true := by decide +kernel
set_option maxRecDepth 20000 in
theorem ck_X11_place : mt_X11_place.2.2.2.2.2.2.all (g_ok1 cX11_place) = true := by decide +kernel
set_option maxRecDepth 20000 in
theorem ck_X11_budget : mt_X11_budget.2.2.2.2.2.2.all (g_ok1 cX11_budget) = true := by decide +kernel
set_option maxRecDepth 20000 in
theorem ck_X11_trim : mt_X11_trim.2.2.2.2.2.2.all (g_ok1 cX11_trim) = true := by decide +kernel
set_option maxRecDepth 20000 in
theorem ck_X11_function : mt_X11_function.2.2.2.2.2.2.all (g_ok1 cX11_function) = true := by decide +kernel
set_option maxRecDepth 20000 in
theorem ck_X11_calls : mt_X11_calls.2.2.2.2.2.2.all (g_ok1 cX11_calls) = true := by decide +kernel
set_option maxRecDepth 20000 in
theorem ck_X11_order : mt_X11_order.2.2.2.2.2.2.all (g_ok1 cX11_order) = true := by decide +kernel
set_option maxRecDepth 20000 in
theorem ck_X11_write : mt_X11_write.2.2.2.2.2.2.all (g_ok1 cX11_write) = true := by decide +kernel
set_option maxRecDepth 20000 in
theorem ck_X11_octet : mt_X11_octet.2.2.2.2.2.2.all (g_ok1 cX11_octet) = true := by decide +kernel
set_option maxRecDepth 20000 in
theorem ck_X11_code : mt_X11_code.2.2.2.2.2.2.all (g_ok1 cX11_code) = true := by decide +kernel
set_option maxRecDepth 20000 in
theorem ck_X11_argument : mt_X11_argument.2.2.2.2.2.2.all (g_ok1 cX11_argument) = true := by decide +kernel
set_option maxRecDepth 20000 in
theorem ck_X11_run : mt_X11_run.2.2.2.2.2.2.all (g_ok1 cX11_run) = true := by decide +kernel
set_option maxRecDepth 20000 in
theorem ck_X11_told : mt_X11_told.2.2.2.2.2.2.all (g_ok1 cX11_told) = true := by decide +kernel
set_option maxRecDepth 20000 in
theorem ck_X11_putAt : mt_X11_putAt.2.2.2.2.2.2.all (g_ok1 cX11_putAt) = true := by decide +kernel
set_option maxRecDepth 20000 in
theorem ck_X11_programOf : mt_X11_programOf.2.2.2.2.2.2.all (g_ok1 cX11_programOf) = true := by decide +kernel
set_option maxRecDepth 20000 in
theorem ck_X11_makeOutput : mt_X11_makeOutput.2.2.2.2.2.2.all (g_ok1 cX11_makeOutput) = true := by decide +kernel
set_option maxRecDepth 20000 in
theorem ck_X11_operate : mt_X11_operate.2.2.2.2.2.2.all (g_ok1 cX11_operate) = true := by decide +kernel
set_option maxRecDepth 20000 in
theorem ck_X11_dividesByZero : mt_X11_dividesByZero.2.2.2.2.2.2.all (g_ok1 cX11_dividesByZero) = true := by decide +kernel
set_option maxRecDepth 20000 in
theorem ck_X11_closeOver : mt_X11_closeOver.2.2.2.2.2.2.all (g_ok1 cX11_closeOver) = true := by decide +kernel
set_option maxRecDepth 20000 in
theorem ck_X11_hasBit : mt_X11_hasBit.2.2.2.2.2.2.all (g_ok1 cX11_hasBit) = true := by decide +kernel
set_option maxRecDepth 20000 in
theorem ck_J0_length_8abf5 : mt_J0_length_8abf5.2.2.2.2.2.2.all (g_ok1 cJ0_length_8abf5) = true := by decide +kernel
set_option maxRecDepth 20000 in
theorem ck_J0_charAt_5068e : mt_J0_charAt_5068e.2.2.2.2.2.2.all (g_ok1 cJ0_charAt_5068e) = true := by decide +kernel
set_option maxRecDepth 20000 in
theorem ck_J0_indexOf_0f7a4 : mt_J0_indexOf_0f7a4.2.2.2.2.2.2.all (g_ok1 cJ0_indexOf_0f7a4) = true := by decide +kernel
set_option maxRecDepth 20000 in
theorem ck_J0_indexOf_7cf53 : mt_J0_indexOf_7cf53.2.2.2.2.2.2.all (g_ok1 cJ0_indexOf_7cf53) = true := by decide +kernel
set_option maxRecDepth 20000 in
theorem ck_J0_coder_7d493 : mt_J0_coder_7d493.2.2.2.2.2.2.all (g_ok1 cJ0_coder_7d493) = true := by decide +kernel
set_option maxRecDepth 20000 in
theorem ck_J0_isLatin1_aae02 : mt_J0_isLatin1_aae02.2.2.2.2.2.2.all (g_ok1 cJ0_isLatin1_aae02) = true := by decide +kernel
set_option maxRecDepth 20000 in
theorem ck_J0_checkIndex_df160 : mt_J0_checkIndex_df160.2.2.2.2.2.2.all (g_ok1 cJ0_checkIndex_df160) = true := by decide +kernel
set_option maxRecDepth 20000 in
theorem ck_J1_charAt_3b067 : mt_J1_charAt_3b067.2.2.2.2.2.2.all (g_ok1 cJ1_charAt_3b067) = true := by decide +kernel
set_option maxRecDepth 20000 in
theorem ck_J1_canEncode_9a6ad : mt_J1_canEncode_9a6ad.2.2.2.2.2.2.all (g_ok1 cJ1_canEncode_9a6ad) = true := by decide +kernel
set_option maxRecDepth 20000 in
theorem ck_J1_indexOf_4cfef : mt_J1_indexOf_4cfef.2.2.2.2.2.2.all (g_ok1 cJ1_indexOf_4cfef) = true := by decide +kernel
set_option maxRecDepth 20000 in
theorem ck_J1_indexOfChar_4cfef : mt_J1_indexOfChar_4cfef.2.2.2.2.2.2.all (g_ok1 cJ1_indexOfChar_4cfef) = true := by decide +kernel
set_option maxRecDepth 20000 in
theorem ck_J3_checkIndex_8e157 : mt_J3_checkIndex_8e157.2.2.2.2.2.2.all (g_ok1 cJ3_checkIndex_8e157) = true := by decide +kernel
