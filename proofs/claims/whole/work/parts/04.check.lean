/-- how long an instruction is; 0: a switch -/
def g_len (i : Instr) : Nat := match i with
  | .bipush _ => 2
  | .iload _ => 2
  | .lload _ => 2
  | .aload _ => 2
  | .istore _ => 2
  | .lstore _ => 2
  | .astore _ => 2
  | .ldc _ => 2
  | .newarray _ => 2
  | .sipush _ => 3
  | .ldc2_w _ => 3
  | .getfield _ => 3
  | .putfield _ => 3
  | .getstatic _ => 3
  | .invokevirtual _ => 3
  | .invokespecial _ => 3
  | .invokestatic _ => 3
  | .ifCond _ _ => 3
  | .if_icmp _ _ => 3
  | .ifnull _ => 3
  | .ifnonnull _ => 3
  | .goto _ => 3
  | .iinc _ _ => 3
  | .new _ => 3
  | .multianewarray _ _ => 4
  | .tableswitch _ _ _ _ => 0
  | .lookupswitch _ _ => 0
  | _ => 1
/-- where it may go, there are places -/
def g_jok (pc : Nat) (i : Instr) : Bool := match i with
  | .ifCond _ o => decide (0 ≤ (pc : Int) + o)
  | .if_icmp _ o => decide (0 ≤ (pc : Int) + o)
  | .ifnull o => decide (0 ≤ (pc : Int) + o)
  | .ifnonnull o => decide (0 ≤ (pc : Int) + o)
  | .goto o => decide (0 ≤ (pc : Int) + o)
  | .tableswitch d lo hi os => decide (0 ≤ (pc : Int) + d) && os.toList.all (fun o => decide (0 ≤ (pc : Int) + o)) && decide (hi - lo + 1 = (os.toList.length : Int))
  | .lookupswitch d ps => decide (0 ≤ (pc : Int) + d) && ps.toList.all (fun q => decide (0 ≤ (pc : Int) + q.2)) && (ps.toList.zip (ps.toList.drop 1)).all (fun (a, next) => decide (a.1 < next.1))
  | _ => true
def g_ok1 (c : ByteArray) (q : Nat × Instr) : Bool := match decode c q.1 with
  | .ok (i, n) => decide (i = q.2) && (n == g_len q.2 || g_len q.2 == 0) && g_jok q.1 q.2
  | _ => false
set_option maxRecDepth 20000 in
theorem ck_X0_init : mt_X0_init.2.2.2.2.2.2.all (g_ok1 cX0_init) = true := sorry
set_option maxRecDepth 20000 in
theorem ck_X0_find : mt_X0_find.2.2.2.2.2.2.all (g_ok1 cX0_find) = true := sorry
set_option maxRecDepth 20000 in
theorem ck_X0_gather : mt_X0_gather.2.2.2.2.2.2.all (g_ok1 cX0_gather) = true := sorry
set_option maxRecDepth 20000 in
theorem ck_X0_findEndless : mt_X0_findEndless.2.2.2.2.2.2.all (g_ok1 cX0_findEndless) = true := sorry
set_option maxRecDepth 20000 in
theorem ck_X0_raise : mt_X0_raise.2.2.2.2.2.2.all (g_ok1 cX0_raise) = true := sorry
set_option maxRecDepth 20000 in
theorem ck_X1_init : mt_X1_init.2.2.2.2.2.2.all (g_ok1 cX1_init) = true := sorry
set_option maxRecDepth 20000 in
theorem ck_X1_encode : mt_X1_encode.2.2.2.2.2.2.all (g_ok1 cX1_encode) = true := sorry
set_option maxRecDepth 20000 in
theorem ck_X1_encodeIn : mt_X1_encodeIn.2.2.2.2.2.2.all (g_ok1 cX1_encodeIn) = true := sorry
set_option maxRecDepth 20000 in
theorem ck_X1_enter : mt_X1_enter.2.2.2.2.2.2.all (g_ok1 cX1_enter) = true := sorry
set_option maxRecDepth 20000 in
theorem ck_X1_behindKid : mt_X1_behindKid.2.2.2.2.2.2.all (g_ok1 cX1_behindKid) = true := sorry
set_option maxRecDepth 20000 in
theorem ck_X1_leave : mt_X1_leave.2.2.2.2.2.2.all (g_ok1 cX1_leave) = true := sorry
set_option maxRecDepth 20000 in
theorem ck_X1_encodeCall : mt_X1_encodeCall.2.2.2.2.2.2.all (g_ok1 cX1_encodeCall) = true := sorry
set_option maxRecDepth 20000 in
theorem ck_X1_useSlot : mt_X1_useSlot.2.2.2.2.2.2.all (g_ok1 cX1_useSlot) = true := sorry
set_option maxRecDepth 20000 in
theorem ck_X1_rise : mt_X1_rise.2.2.2.2.2.2.all (g_ok1 cX1_rise) = true := sorry
set_option maxRecDepth 20000 in
theorem ck_X1_emit : mt_X1_emit.2.2.2.2.2.2.all (g_ok1 cX1_emit) = true := sorry
set_option maxRecDepth 20000 in
theorem ck_X1_fillWithHere : mt_X1_fillWithHere.2.2.2.2.2.2.all (g_ok1 cX1_fillWithHere) = true := sorry
set_option maxRecDepth 20000 in
theorem ck_X2_init : mt_X2_init.2.2.2.2.2.2.all (g_ok1 cX2_init) = true := sorry
set_option maxRecDepth 20000 in
theorem ck_X2_foldAll : mt_X2_foldAll.2.2.2.2.2.2.all (g_ok1 cX2_foldAll) = true := sorry
set_option maxRecDepth 20000 in
theorem ck_X2_foldIn : mt_X2_foldIn.2.2.2.2.2.2.all (g_ok1 cX2_foldIn) = true := sorry
set_option maxRecDepth 20000 in
theorem ck_X2_enter : mt_X2_enter.2.2.2.2.2.2.all (g_ok1 cX2_enter) = true := sorry
set_option maxRecDepth 20000 in
theorem ck_X2_behindKid : mt_X2_behindKid.2.2.2.2.2.2.all (g_ok1 cX2_behindKid) = true := sorry
set_option maxRecDepth 20000 in
theorem ck_X2_leave : mt_X2_leave.2.2.2.2.2.2.all (g_ok1 cX2_leave) = true := sorry
set_option maxRecDepth 20000 in
theorem ck_X2_giveWay : mt_X2_giveWay.2.2.2.2.2.2.all (g_ok1 cX2_giveWay) = true := sorry
set_option maxRecDepth 20000 in
theorem ck_X2_bind : mt_X2_bind.2.2.2.2.2.2.all (g_ok1 cX2_bind) = true := sorry
set_option maxRecDepth 20000 in
theorem ck_X2_chooseBranch : mt_X2_chooseBranch.2.2.2.2.2.2.all (g_ok1 cX2_chooseBranch) = true := sorry
set_option maxRecDepth 20000 in
theorem ck_X2_foldTwo : mt_X2_foldTwo.2.2.2.2.2.2.all (g_ok1 cX2_foldTwo) = true := sorry
set_option maxRecDepth 20000 in
theorem ck_X2_dropUnused : mt_X2_dropUnused.2.2.2.2.2.2.all (g_ok1 cX2_dropUnused) = true := sorry
set_option maxRecDepth 20000 in
theorem ck_X2_isNumber : mt_X2_isNumber.2.2.2.2.2.2.all (g_ok1 cX2_isNumber) = true := sorry
set_option maxRecDepth 20000 in
theorem ck_X2_isCalm : mt_X2_isCalm.2.2.2.2.2.2.all (g_ok1 cX2_isCalm) = true := sorry
set_option maxRecDepth 20000 in
theorem ck_X2_standsIn : mt_X2_standsIn.2.2.2.2.2.2.all (g_ok1 cX2_standsIn) = true := sorry
set_option maxRecDepth 20000 in
theorem ck_X2_emit : mt_X2_emit.2.2.2.2.2.2.all (g_ok1 cX2_emit) = true := sorry
set_option maxRecDepth 20000 in
theorem ck_X3_init : mt_X3_init.2.2.2.2.2.2.all (g_ok1 cX3_init) = true := sorry
set_option maxRecDepth 20000 in
theorem ck_X3_draw : mt_X3_draw.2.2.2.2.2.2.all (g_ok1 cX3_draw) = true := sorry
set_option maxRecDepth 20000 in
theorem ck_X3_doesCall : mt_X3_doesCall.2.2.2.2.2.2.all (g_ok1 cX3_doesCall) = true := sorry
set_option maxRecDepth 20000 in
theorem ck_X3_inOneCircle : mt_X3_inOneCircle.2.2.2.2.2.2.all (g_ok1 cX3_inOneCircle) = true := sorry
set_option maxRecDepth 20000 in
theorem ck_X3_gather : mt_X3_gather.2.2.2.2.2.2.all (g_ok1 cX3_gather) = true := sorry
set_option maxRecDepth 20000 in
theorem ck_X3_addCallee : mt_X3_addCallee.2.2.2.2.2.2.all (g_ok1 cX3_addCallee) = true := sorry
set_option maxRecDepth 20000 in
theorem ck_X3_look : mt_X3_look.2.2.2.2.2.2.all (g_ok1 cX3_look) = true := sorry
set_option maxRecDepth 20000 in
theorem ck_X4_init : mt_X4_init.2.2.2.2.2.2.all (g_ok1 cX4_init) = true := sorry
set_option maxRecDepth 20000 in
theorem ck_X4_inlineAll : mt_X4_inlineAll.2.2.2.2.2.2.all (g_ok1 cX4_inlineAll) = true := sorry
set_option maxRecDepth 20000 in
theorem ck_X4_inlineIn : mt_X4_inlineIn.2.2.2.2.2.2.all (g_ok1 cX4_inlineIn) = true := sorry
set_option maxRecDepth 20000 in
theorem ck_X4_chooseCalls : mt_X4_chooseCalls.2.2.2.2.2.2.all (g_ok1 cX4_chooseCalls) = true := sorry
set_option maxRecDepth 20000 in
theorem ck_X4_copyWithChosen : mt_X4_copyWithChosen.2.2.2.2.2.2.all (g_ok1 cX4_copyWithChosen) = true := sorry
set_option maxRecDepth 20000 in
theorem ck_X4_replace : mt_X4_replace.2.2.2.2.2.2.all (g_ok1 cX4_replace) = true := sorry
set_option maxRecDepth 20000 in
theorem ck_X4_choose : mt_X4_choose.2.2.2.2.2.2.all (g_ok1 cX4_choose) = true := sorry
set_option maxRecDepth 20000 in
theorem ck_X4_emitBody : mt_X4_emitBody.2.2.2.2.2.2.all (g_ok1 cX4_emitBody) = true := sorry
set_option maxRecDepth 20000 in
theorem ck_X4_emit : mt_X4_emit.2.2.2.2.2.2.all (g_ok1 cX4_emit) = true := sorry
set_option maxRecDepth 20000 in
theorem ck_X5_init : mt_X5_init.2.2.2.2.2.2.all (g_ok1 cX5_init) = true := sorry
set_option maxRecDepth 20000 in
theorem ck_X5_load : mt_X5_load.2.2.2.2.2.2.all (g_ok1 cX5_load) = true := sorry
set_option maxRecDepth 20000 in
theorem ck_X5_perform : mt_X5_perform.2.2.2.2.2.2.all (g_ok1 cX5_perform) = true := sorry
set_option maxRecDepth 20000 in
theorem ck_X5_fits : mt_X5_fits.2.2.2.2.2.2.all (g_ok1 cX5_fits) = true := sorry
set_option maxRecDepth 20000 in
theorem ck_X5_enterFrame : mt_X5_enterFrame.2.2.2.2.2.2.all (g_ok1 cX5_enterFrame) = true := sorry
set_option maxRecDepth 20000 in
theorem ck_X5_step : mt_X5_step.2.2.2.2.2.2.all (g_ok1 cX5_step) = true := sorry
set_option maxRecDepth 20000 in
theorem ck_X5_push : mt_X5_push.2.2.2.2.2.2.all (g_ok1 cX5_push) = true := sorry
set_option maxRecDepth 20000 in
theorem ck_X5_pop : mt_X5_pop.2.2.2.2.2.2.all (g_ok1 cX5_pop) = true := sorry
set_option maxRecDepth 20000 in
theorem ck_X5_combine : mt_X5_combine.2.2.2.2.2.2.all (g_ok1 cX5_combine) = true := sorry
set_option maxRecDepth 20000 in
theorem ck_X5_putTop : mt_X5_putTop.2.2.2.2.2.2.all (g_ok1 cX5_putTop) = true := sorry
set_option maxRecDepth 20000 in
theorem ck_X5_enterCalled : mt_X5_enterCalled.2.2.2.2.2.2.all (g_ok1 cX5_enterCalled) = true := sorry
set_option maxRecDepth 20000 in
theorem ck_X5_goBack : mt_X5_goBack.2.2.2.2.2.2.all (g_ok1 cX5_goBack) = true := sorry
set_option maxRecDepth 20000 in
theorem ck_X5_takeOwnPlace : mt_X5_takeOwnPlace.2.2.2.2.2.2.all (g_ok1 cX5_takeOwnPlace) = true := sorry
set_option maxRecDepth 20000 in
theorem ck_X6_init : mt_X6_init.2.2.2.2.2.2.all (g_ok1 cX6_init) = true := sorry
set_option maxRecDepth 20000 in
theorem ck_X6_has : mt_X6_has.2.2.2.2.2.2.all (g_ok1 cX6_has) = true := sorry
set_option maxRecDepth 20000 in
theorem ck_X6_find : mt_X6_find.2.2.2.2.2.2.all (g_ok1 cX6_find) = true := sorry
set_option maxRecDepth 20000 in
theorem ck_X6_kids : mt_X6_kids.2.2.2.2.2.2.all (g_ok1 cX6_kids) = true := sorry
set_option maxRecDepth 20000 in
theorem ck_X6_countCalls : mt_X6_countCalls.2.2.2.2.2.2.all (g_ok1 cX6_countCalls) = true := sorry
set_option maxRecDepth 20000 in
theorem ck_X6_frame : mt_X6_frame.2.2.2.2.2.2.all (g_ok1 cX6_frame) = true := sorry
set_option maxRecDepth 20000 in
theorem ck_X7_init : mt_X7_init.2.2.2.2.2.2.all (g_ok1 cX7_init) = true := sorry
set_option maxRecDepth 20000 in
theorem ck_X7_faultPlace : mt_X7_faultPlace.2.2.2.2.2.2.all (g_ok1 cX7_faultPlace) = true := sorry
set_option maxRecDepth 20000 in
theorem ck_X7_readInto : mt_X7_readInto.2.2.2.2.2.2.all (g_ok1 cX7_readInto) = true := sorry
set_option maxRecDepth 20000 in
theorem ck_X7_readDefinition : mt_X7_readDefinition.2.2.2.2.2.2.all (g_ok1 cX7_readDefinition) = true := sorry
set_option maxRecDepth 20000 in
theorem ck_X7_readFunctionName : mt_X7_readFunctionName.2.2.2.2.2.2.all (g_ok1 cX7_readFunctionName) = true := sorry
set_option maxRecDepth 20000 in
theorem ck_X7_readParameters : mt_X7_readParameters.2.2.2.2.2.2.all (g_ok1 cX7_readParameters) = true := sorry
set_option maxRecDepth 20000 in
theorem ck_X7_checkParameterName : mt_X7_checkParameterName.2.2.2.2.2.2.all (g_ok1 cX7_checkParameterName) = true := sorry
set_option maxRecDepth 20000 in
theorem ck_X7_see : mt_X7_see.2.2.2.2.2.2.all (g_ok1 cX7_see) = true := sorry
set_option maxRecDepth 20000 in
theorem ck_X7_findVariable : mt_X7_findVariable.2.2.2.2.2.2.all (g_ok1 cX7_findVariable) = true := sorry
set_option maxRecDepth 20000 in
theorem ck_X7_opens : mt_X7_opens.2.2.2.2.2.2.all (g_ok1 cX7_opens) = true := sorry
set_option maxRecDepth 20000 in
theorem ck_X7_addNode : mt_X7_addNode.2.2.2.2.2.2.all (g_ok1 cX7_addNode) = true := sorry
set_option maxRecDepth 20000 in
theorem ck_X7_insertNode : mt_X7_insertNode.2.2.2.2.2.2.all (g_ok1 cX7_insertNode) = true := sorry
set_option maxRecDepth 20000 in
theorem ck_X7_readExpression : mt_X7_readExpression.2.2.2.2.2.2.all (g_ok1 cX7_readExpression) = true := sorry
set_option maxRecDepth 20000 in
theorem ck_X7_readLet : mt_X7_readLet.2.2.2.2.2.2.all (g_ok1 cX7_readLet) = true := sorry
set_option maxRecDepth 20000 in
theorem ck_X7_readIf : mt_X7_readIf.2.2.2.2.2.2.all (g_ok1 cX7_readIf) = true := sorry
set_option maxRecDepth 20000 in
theorem ck_X7_readComparison : mt_X7_readComparison.2.2.2.2.2.2.all (g_ok1 cX7_readComparison) = true := sorry
set_option maxRecDepth 20000 in
theorem ck_X7_readSum : mt_X7_readSum.2.2.2.2.2.2.all (g_ok1 cX7_readSum) = true := sorry
set_option maxRecDepth 20000 in
theorem ck_X7_readProduct : mt_X7_readProduct.2.2.2.2.2.2.all (g_ok1 cX7_readProduct) = true := sorry
set_option maxRecDepth 20000 in
theorem ck_X7_isProductSign : mt_X7_isProductSign.2.2.2.2.2.2.all (g_ok1 cX7_isProductSign) = true := sorry
set_option maxRecDepth 20000 in
theorem ck_X7_readUnary : mt_X7_readUnary.2.2.2.2.2.2.all (g_ok1 cX7_readUnary) = true := sorry
set_option maxRecDepth 20000 in
theorem ck_X7_readPart : mt_X7_readPart.2.2.2.2.2.2.all (g_ok1 cX7_readPart) = true := sorry
set_option maxRecDepth 20000 in
theorem ck_X7_readBracketed : mt_X7_readBracketed.2.2.2.2.2.2.all (g_ok1 cX7_readBracketed) = true := sorry
set_option maxRecDepth 20000 in
theorem ck_X7_openBracket : mt_X7_openBracket.2.2.2.2.2.2.all (g_ok1 cX7_openBracket) = true := sorry
set_option maxRecDepth 20000 in
theorem ck_X7_readName : mt_X7_readName.2.2.2.2.2.2.all (g_ok1 cX7_readName) = true := sorry
set_option maxRecDepth 20000 in
theorem ck_X7_addVariable : mt_X7_addVariable.2.2.2.2.2.2.all (g_ok1 cX7_addVariable) = true := sorry
set_option maxRecDepth 20000 in
theorem ck_X7_beginCall : mt_X7_beginCall.2.2.2.2.2.2.all (g_ok1 cX7_beginCall) = true := sorry
set_option maxRecDepth 20000 in
theorem ck_X7_findTargets : mt_X7_findTargets.2.2.2.2.2.2.all (g_ok1 cX7_findTargets) = true := sorry
set_option maxRecDepth 20000 in
theorem ck_X7_setTargets : mt_X7_setTargets.2.2.2.2.2.2.all (g_ok1 cX7_setTargets) = true := sorry
set_option maxRecDepth 20000 in
theorem ck_X8_init : mt_X8_init.2.2.2.2.2.2.all (g_ok1 cX8_init) = true := sorry
set_option maxRecDepth 20000 in
theorem ck_X8_begin : mt_X8_begin.2.2.2.2.2.2.all (g_ok1 cX8_begin) = true := sorry
set_option maxRecDepth 20000 in
theorem ck_X8_peek : mt_X8_peek.2.2.2.2.2.2.all (g_ok1 cX8_peek) = true := sorry
set_option maxRecDepth 20000 in
theorem ck_X8_isAt : mt_X8_isAt.2.2.2.2.2.2.all (g_ok1 cX8_isAt) = true := sorry
set_option maxRecDepth 20000 in
theorem ck_X8_take : mt_X8_take.2.2.2.2.2.2.all (g_ok1 cX8_take) = true := sorry
set_option maxRecDepth 20000 in
theorem ck_X8_need : mt_X8_need.2.2.2.2.2.2.all (g_ok1 cX8_need) = true := sorry
set_option maxRecDepth 20000 in
theorem ck_X8_failHere : mt_X8_failHere.2.2.2.2.2.2.all (g_ok1 cX8_failHere) = true := sorry
set_option maxRecDepth 20000 in
theorem ck_X8_failAt : mt_X8_failAt.2.2.2.2.2.2.all (g_ok1 cX8_failAt) = true := sorry
set_option maxRecDepth 20000 in
theorem ck_X8_scanName : mt_X8_scanName.2.2.2.2.2.2.all (g_ok1 cX8_scanName) = true := sorry
set_option maxRecDepth 20000 in
theorem ck_X8_scanNumber : mt_X8_scanNumber.2.2.2.2.2.2.all (g_ok1 cX8_scanNumber) = true := sorry
set_option maxRecDepth 20000 in
theorem ck_X8_scanSign : mt_X8_scanSign.2.2.2.2.2.2.all (g_ok1 cX8_scanSign) = true := sorry
set_option maxRecDepth 20000 in
theorem ck_X8_isBlank : mt_X8_isBlank.2.2.2.2.2.2.all (g_ok1 cX8_isBlank) = true := sorry
set_option maxRecDepth 20000 in
theorem ck_X8_isLetter : mt_X8_isLetter.2.2.2.2.2.2.all (g_ok1 cX8_isLetter) = true := sorry
set_option maxRecDepth 20000 in
theorem ck_X8_isDigit : mt_X8_isDigit.2.2.2.2.2.2.all (g_ok1 cX8_isDigit) = true := sorry
set_option maxRecDepth 20000 in
theorem ck_X9_init : mt_X9_init.2.2.2.2.2.2.all (g_ok1 cX9_init) = true := sorry
set_option maxRecDepth 20000 in
theorem ck_X9_begin : mt_X9_begin.2.2.2.2.2.2.all (g_ok1 cX9_begin) = true := sorry
set_option maxRecDepth 20000 in
theorem ck_X9_advance : mt_X9_advance.2.2.2.2.2.2.all (g_ok1 cX9_advance) = true := sorry
set_option maxRecDepth 20000 in
theorem ck_X9_enterNext : mt_X9_enterNext.2.2.2.2.2.2.all (g_ok1 cX9_enterNext) = true := sorry
set_option maxRecDepth 20000 in
theorem ck_X9_skipKid : mt_X9_skipKid.2.2.2.2.2.2.all (g_ok1 cX9_skipKid) = true := sorry
set_option maxRecDepth 20000 in
theorem ck_X10_init : mt_X10_init.2.2.2.2.2.2.all (g_ok1 cX10_init) = true := sorry
set_option maxRecDepth 20000 in
theorem ck_X10_writeOut : mt_X10_writeOut.2.2.2.2.2.2.all (g_ok1 cX10_writeOut) = true := sorry
set_option maxRecDepth 20000 in
theorem ck_X10_byteAt : mt_X10_byteAt.2.2.2.2.2.2.all (g_ok1 cX10_byteAt) = true := sorry
set_option maxRecDepth 20000 in
theorem ck_X10_enter : mt_X10_enter.2.2.2.2.2.2.all (g_ok1 cX10_enter) = true := sorry
set_option maxRecDepth 20000 in
theorem ck_X10_behindKid : mt_X10_behindKid.2.2.2.2.2.2.all (g_ok1 cX10_behindKid) = true := sorry
set_option maxRecDepth 20000 in
theorem ck_X10_leave : mt_X10_leave.2.2.2.2.2.2.all (g_ok1 cX10_leave) = true := sorry
set_option maxRecDepth 20000 in
theorem ck_X10_addOperator : mt_X10_addOperator.2.2.2.2.2.2.all (g_ok1 cX10_addOperator) = true := sorry
set_option maxRecDepth 20000 in
theorem ck_X10_addNumber : mt_X10_addNumber.2.2.2.2.2.2.all (g_ok1 cX10_addNumber) = true := sorry
set_option maxRecDepth 20000 in
theorem ck_X10_addVariable : mt_X10_addVariable.2.2.2.2.2.2.all (g_ok1 cX10_addVariable) = true := sorry
set_option maxRecDepth 20000 in
theorem ck_X10_addDigits : mt_X10_addDigits.2.2.2.2.2.2.all (g_ok1 cX10_addDigits) = true := sorry
set_option maxRecDepth 20000 in
theorem ck_X10_addName : mt_X10_addName.2.2.2.2.2.2.all (g_ok1 cX10_addName) = true := sorry
set_option maxRecDepth 20000 in
theorem ck_X10_addText : mt_X10_addText.2.2.2.2.2.2.all (g_ok1 cX10_addText) = true := sorry
set_option maxRecDepth 20000 in
theorem ck_X10_addByte : mt_X10_addByte.2.2.2.2.2.2.all (g_ok1 cX10_addByte) = true := sorry
set_option maxRecDepth 20000 in
theorem ck_X11_init : mt_X11_init.2.2.2.2.2.2.all (g_ok1 cX11_init) = true := sorry
set_option maxRecDepth 20000 in
theorem ck_X11_feed : mt_X11_feed.2.2.2.2.2.2.all (g_ok1 cX11_feed) = true := sorry
set_option maxRecDepth 20000 in
theorem ck_X11_read : mt_X11_read.2.2.2.2.2.2.all (g_ok1 cX11_read) = true := sorry
set_option maxRecDepth 20000 in
theorem ck_X11_place : mt_X11_place.2.2.2.2.2.2.all (g_ok1 cX11_place) = true := sorry
set_option maxRecDepth 20000 in
theorem ck_X11_budget : mt_X11_budget.2.2.2.2.2.2.all (g_ok1 cX11_budget) = true := sorry
set_option maxRecDepth 20000 in
theorem ck_X11_trim : mt_X11_trim.2.2.2.2.2.2.all (g_ok1 cX11_trim) = true := sorry
set_option maxRecDepth 20000 in
theorem ck_X11_function : mt_X11_function.2.2.2.2.2.2.all (g_ok1 cX11_function) = true := sorry
set_option maxRecDepth 20000 in
theorem ck_X11_calls : mt_X11_calls.2.2.2.2.2.2.all (g_ok1 cX11_calls) = true := sorry
set_option maxRecDepth 20000 in
theorem ck_X11_order : mt_X11_order.2.2.2.2.2.2.all (g_ok1 cX11_order) = true := sorry
set_option maxRecDepth 20000 in
theorem ck_X11_write : mt_X11_write.2.2.2.2.2.2.all (g_ok1 cX11_write) = true := sorry
set_option maxRecDepth 20000 in
theorem ck_X11_octet : mt_X11_octet.2.2.2.2.2.2.all (g_ok1 cX11_octet) = true := sorry
set_option maxRecDepth 20000 in
theorem ck_X11_code : mt_X11_code.2.2.2.2.2.2.all (g_ok1 cX11_code) = true := sorry
set_option maxRecDepth 20000 in
theorem ck_X11_argument : mt_X11_argument.2.2.2.2.2.2.all (g_ok1 cX11_argument) = true := sorry
set_option maxRecDepth 20000 in
theorem ck_X11_run : mt_X11_run.2.2.2.2.2.2.all (g_ok1 cX11_run) = true := sorry
set_option maxRecDepth 20000 in
theorem ck_X11_told : mt_X11_told.2.2.2.2.2.2.all (g_ok1 cX11_told) = true := sorry
set_option maxRecDepth 20000 in
theorem ck_X11_putAt : mt_X11_putAt.2.2.2.2.2.2.all (g_ok1 cX11_putAt) = true := sorry
set_option maxRecDepth 20000 in
theorem ck_X11_programOf : mt_X11_programOf.2.2.2.2.2.2.all (g_ok1 cX11_programOf) = true := sorry
set_option maxRecDepth 20000 in
theorem ck_X11_makeOutput : mt_X11_makeOutput.2.2.2.2.2.2.all (g_ok1 cX11_makeOutput) = true := sorry
set_option maxRecDepth 20000 in
theorem ck_X11_operate : mt_X11_operate.2.2.2.2.2.2.all (g_ok1 cX11_operate) = true := sorry
set_option maxRecDepth 20000 in
theorem ck_X11_dividesByZero : mt_X11_dividesByZero.2.2.2.2.2.2.all (g_ok1 cX11_dividesByZero) = true := sorry
set_option maxRecDepth 20000 in
theorem ck_X11_closeOver : mt_X11_closeOver.2.2.2.2.2.2.all (g_ok1 cX11_closeOver) = true := sorry
set_option maxRecDepth 20000 in
theorem ck_X11_hasBit : mt_X11_hasBit.2.2.2.2.2.2.all (g_ok1 cX11_hasBit) = true := sorry
set_option maxRecDepth 20000 in
theorem ck_X12_init : mt_X12_init.2.2.2.2.2.2.all (g_ok1 cX12_init) = true := sorry
set_option maxRecDepth 20000 in
theorem ck_X12_in : mt_X12_in.2.2.2.2.2.2.all (g_ok1 cX12_in) = true := sorry
set_option maxRecDepth 20000 in
theorem ck_X12_feed : mt_X12_feed.2.2.2.2.2.2.all (g_ok1 cX12_feed) = true := sorry
set_option maxRecDepth 20000 in
theorem ck_X12_fail : mt_X12_fail.2.2.2.2.2.2.all (g_ok1 cX12_fail) = true := sorry
set_option maxRecDepth 20000 in
theorem ck_X12_sign : mt_X12_sign.2.2.2.2.2.2.all (g_ok1 cX12_sign) = true := sorry
set_option maxRecDepth 20000 in
theorem ck_X12_letter : mt_X12_letter.2.2.2.2.2.2.all (g_ok1 cX12_letter) = true := sorry
set_option maxRecDepth 20000 in
theorem ck_X12_look : mt_X12_look.2.2.2.2.2.2.all (g_ok1 cX12_look) = true := sorry
set_option maxRecDepth 20000 in
theorem ck_X12_take : mt_X12_take.2.2.2.2.2.2.all (g_ok1 cX12_take) = true := sorry
set_option maxRecDepth 20000 in
theorem ck_X12_must : mt_X12_must.2.2.2.2.2.2.all (g_ok1 cX12_must) = true := sorry
set_option maxRecDepth 20000 in
theorem ck_X12_node : mt_X12_node.2.2.2.2.2.2.all (g_ok1 cX12_node) = true := sorry
set_option maxRecDepth 20000 in
theorem ck_X12_addArgument : mt_X12_addArgument.2.2.2.2.2.2.all (g_ok1 cX12_addArgument) = true := sorry
set_option maxRecDepth 20000 in
theorem ck_X12_push : mt_X12_push.2.2.2.2.2.2.all (g_ok1 cX12_push) = true := sorry
set_option maxRecDepth 20000 in
theorem ck_X12_give : mt_X12_give.2.2.2.2.2.2.all (g_ok1 cX12_give) = true := sorry
set_option maxRecDepth 20000 in
theorem ck_X12_got : mt_X12_got.2.2.2.2.2.2.all (g_ok1 cX12_got) = true := sorry
set_option maxRecDepth 20000 in
theorem ck_X12_opens : mt_X12_opens.2.2.2.2.2.2.all (g_ok1 cX12_opens) = true := sorry
set_option maxRecDepth 20000 in
theorem ck_X12_readExp : mt_X12_readExp.2.2.2.2.2.2.all (g_ok1 cX12_readExp) = true := sorry
set_option maxRecDepth 20000 in
theorem ck_X12_two : mt_X12_two.2.2.2.2.2.2.all (g_ok1 cX12_two) = true := sorry
set_option maxRecDepth 20000 in
theorem ck_X12_readTask : mt_X12_readTask.2.2.2.2.2.2.all (g_ok1 cX12_readTask) = true := sorry
set_option maxRecDepth 20000 in
theorem ck_X12_beginExp : mt_X12_beginExp.2.2.2.2.2.2.all (g_ok1 cX12_beginExp) = true := sorry
set_option maxRecDepth 20000 in
theorem ck_X12_unary : mt_X12_unary.2.2.2.2.2.2.all (g_ok1 cX12_unary) = true := sorry
set_option maxRecDepth 20000 in
theorem ck_X12_named : mt_X12_named.2.2.2.2.2.2.all (g_ok1 cX12_named) = true := sorry
set_option maxRecDepth 20000 in
theorem ck_X12_endArgument : mt_X12_endArgument.2.2.2.2.2.2.all (g_ok1 cX12_endArgument) = true := sorry
set_option maxRecDepth 20000 in
theorem ck_X12_endCall : mt_X12_endCall.2.2.2.2.2.2.all (g_ok1 cX12_endCall) = true := sorry
set_option maxRecDepth 20000 in
theorem ck_X12_functionOf : mt_X12_functionOf.2.2.2.2.2.2.all (g_ok1 cX12_functionOf) = true := sorry
set_option maxRecDepth 20000 in
theorem ck_X12_readFunction : mt_X12_readFunction.2.2.2.2.2.2.all (g_ok1 cX12_readFunction) = true := sorry
set_option maxRecDepth 20000 in
theorem ck_X12_read : mt_X12_read.2.2.2.2.2.2.all (g_ok1 cX12_read) = true := sorry
set_option maxRecDepth 20000 in
theorem ck_X12_place : mt_X12_place.2.2.2.2.2.2.all (g_ok1 cX12_place) = true := sorry
set_option maxRecDepth 20000 in
theorem ck_X12_copyAll : mt_X12_copyAll.2.2.2.2.2.2.all (g_ok1 cX12_copyAll) = true := sorry
set_option maxRecDepth 20000 in
theorem ck_X12_budget : mt_X12_budget.2.2.2.2.2.2.all (g_ok1 cX12_budget) = true := sorry
set_option maxRecDepth 20000 in
theorem ck_X12_findGraph : mt_X12_findGraph.2.2.2.2.2.2.all (g_ok1 cX12_findGraph) = true := sorry
set_option maxRecDepth 20000 in
theorem ck_X12_lookFromOne : mt_X12_lookFromOne.2.2.2.2.2.2.all (g_ok1 cX12_lookFromOne) = true := sorry
set_option maxRecDepth 20000 in
theorem ck_X12_calls : mt_X12_calls.2.2.2.2.2.2.all (g_ok1 cX12_calls) = true := sorry
set_option maxRecDepth 20000 in
theorem ck_X12_order : mt_X12_order.2.2.2.2.2.2.all (g_ok1 cX12_order) = true := sorry
set_option maxRecDepth 20000 in
theorem ck_X12_make : mt_X12_make.2.2.2.2.2.2.all (g_ok1 cX12_make) = true := sorry
set_option maxRecDepth 20000 in
theorem ck_X12_trim : mt_X12_trim.2.2.2.2.2.2.all (g_ok1 cX12_trim) = true := sorry
set_option maxRecDepth 20000 in
theorem ck_X12_again : mt_X12_again.2.2.2.2.2.2.all (g_ok1 cX12_again) = true := sorry
set_option maxRecDepth 20000 in
theorem ck_X12_inline : mt_X12_inline.2.2.2.2.2.2.all (g_ok1 cX12_inline) = true := sorry
set_option maxRecDepth 20000 in
theorem ck_X12_replace : mt_X12_replace.2.2.2.2.2.2.all (g_ok1 cX12_replace) = true := sorry
set_option maxRecDepth 20000 in
theorem ck_X12_reckon : mt_X12_reckon.2.2.2.2.2.2.all (g_ok1 cX12_reckon) = true := sorry
set_option maxRecDepth 20000 in
theorem ck_X12_isNumber : mt_X12_isNumber.2.2.2.2.2.2.all (g_ok1 cX12_isNumber) = true := sorry
set_option maxRecDepth 20000 in
theorem ck_X12_numberOf : mt_X12_numberOf.2.2.2.2.2.2.all (g_ok1 cX12_numberOf) = true := sorry
set_option maxRecDepth 20000 in
theorem ck_X12_fold : mt_X12_fold.2.2.2.2.2.2.all (g_ok1 cX12_fold) = true := sorry
set_option maxRecDepth 20000 in
theorem ck_X12_keepParts : mt_X12_keepParts.2.2.2.2.2.2.all (g_ok1 cX12_keepParts) = true := sorry
set_option maxRecDepth 20000 in
theorem ck_X12_stands : mt_X12_stands.2.2.2.2.2.2.all (g_ok1 cX12_stands) = true := sorry
set_option maxRecDepth 20000 in
theorem ck_X12_foldOne : mt_X12_foldOne.2.2.2.2.2.2.all (g_ok1 cX12_foldOne) = true := sorry
set_option maxRecDepth 20000 in
theorem ck_X12_noFunction : mt_X12_noFunction.2.2.2.2.2.2.all (g_ok1 cX12_noFunction) = true := sorry
set_option maxRecDepth 20000 in
theorem ck_X12_instruction : mt_X12_instruction.2.2.2.2.2.2.all (g_ok1 cX12_instruction) = true := sorry
set_option maxRecDepth 20000 in
theorem ck_X12_lays : mt_X12_lays.2.2.2.2.2.2.all (g_ok1 cX12_lays) = true := sorry
set_option maxRecDepth 20000 in
theorem ck_X12_slot : mt_X12_slot.2.2.2.2.2.2.all (g_ok1 cX12_slot) = true := sorry
set_option maxRecDepth 20000 in
theorem ck_X12_compile : mt_X12_compile.2.2.2.2.2.2.all (g_ok1 cX12_compile) = true := sorry
set_option maxRecDepth 20000 in
theorem ck_X12_emit : mt_X12_emit.2.2.2.2.2.2.all (g_ok1 cX12_emit) = true := sorry
set_option maxRecDepth 20000 in
theorem ck_X12_visit : mt_X12_visit.2.2.2.2.2.2.all (g_ok1 cX12_visit) = true := sorry
set_option maxRecDepth 20000 in
theorem ck_X12_visitTail : mt_X12_visitTail.2.2.2.2.2.2.all (g_ok1 cX12_visitTail) = true := sorry
set_option maxRecDepth 20000 in
theorem ck_X12_frame : mt_X12_frame.2.2.2.2.2.2.all (g_ok1 cX12_frame) = true := sorry
set_option maxRecDepth 20000 in
theorem ck_X12_bounds : mt_X12_bounds.2.2.2.2.2.2.all (g_ok1 cX12_bounds) = true := sorry
set_option maxRecDepth 20000 in
theorem ck_X12_function : mt_X12_function.2.2.2.2.2.2.all (g_ok1 cX12_function) = true := sorry
set_option maxRecDepth 20000 in
theorem ck_X12_code : mt_X12_code.2.2.2.2.2.2.all (g_ok1 cX12_code) = true := sorry
set_option maxRecDepth 20000 in
theorem ck_X12_put : mt_X12_put.2.2.2.2.2.2.all (g_ok1 cX12_put) = true := sorry
set_option maxRecDepth 20000 in
theorem ck_X12_puts : mt_X12_puts.2.2.2.2.2.2.all (g_ok1 cX12_puts) = true := sorry
set_option maxRecDepth 20000 in
theorem ck_X12_decimal : mt_X12_decimal.2.2.2.2.2.2.all (g_ok1 cX12_decimal) = true := sorry
set_option maxRecDepth 20000 in
theorem ck_X12_nameOut : mt_X12_nameOut.2.2.2.2.2.2.all (g_ok1 cX12_nameOut) = true := sorry
set_option maxRecDepth 20000 in
theorem ck_X12_signOf : mt_X12_signOf.2.2.2.2.2.2.all (g_ok1 cX12_signOf) = true := sorry
set_option maxRecDepth 20000 in
theorem ck_X12_wordOf : mt_X12_wordOf.2.2.2.2.2.2.all (g_ok1 cX12_wordOf) = true := sorry
set_option maxRecDepth 20000 in
theorem ck_X12_writeOne : mt_X12_writeOne.2.2.2.2.2.2.all (g_ok1 cX12_writeOne) = true := sorry
set_option maxRecDepth 20000 in
theorem ck_X12_write : mt_X12_write.2.2.2.2.2.2.all (g_ok1 cX12_write) = true := sorry
set_option maxRecDepth 20000 in
theorem ck_X12_octet : mt_X12_octet.2.2.2.2.2.2.all (g_ok1 cX12_octet) = true := sorry
set_option maxRecDepth 20000 in
theorem ck_X12_argument : mt_X12_argument.2.2.2.2.2.2.all (g_ok1 cX12_argument) = true := sorry
set_option maxRecDepth 20000 in
theorem ck_X12_lay : mt_X12_lay.2.2.2.2.2.2.all (g_ok1 cX12_lay) = true := sorry
set_option maxRecDepth 20000 in
theorem ck_X12_run : mt_X12_run.2.2.2.2.2.2.all (g_ok1 cX12_run) = true := sorry
set_option maxRecDepth 20000 in
theorem ck_X12_oneStep : mt_X12_oneStep.2.2.2.2.2.2.all (g_ok1 cX12_oneStep) = true := sorry
set_option maxRecDepth 20000 in
theorem ck_X12_replaceFrame : mt_X12_replaceFrame.2.2.2.2.2.2.all (g_ok1 cX12_replaceFrame) = true := sorry
set_option maxRecDepth 20000 in
theorem ck_X12_told : mt_X12_told.2.2.2.2.2.2.all (g_ok1 cX12_told) = true := sorry
set_option maxRecDepth 20000 in
theorem ck_X12_putAt : mt_X12_putAt.2.2.2.2.2.2.all (g_ok1 cX12_putAt) = true := sorry
set_option maxRecDepth 20000 in
theorem ck_L_law : mt_L_law.2.2.2.2.2.2.all (g_ok1 cL_law) = true := sorry
theorem g_cks : ∀ id, id < 222 → (g_mt id).2.2.2.2.2.2.all (g_ok1 (g_yn id).2) = true := by
  intro id h
  match id, h with
  | 0, _ => exact ck_X0_init
  | 1, _ => exact ck_X0_find
  | 2, _ => exact ck_X0_gather
  | 3, _ => exact ck_X0_findEndless
  | 4, _ => exact ck_X0_raise
  | 5, _ => exact ck_X1_init
  | 6, _ => exact ck_X1_encode
  | 7, _ => exact ck_X1_encodeIn
  | 8, _ => exact ck_X1_enter
  | 9, _ => exact ck_X1_behindKid
  | 10, _ => exact ck_X1_leave
  | 11, _ => exact ck_X1_encodeCall
  | 12, _ => exact ck_X1_useSlot
  | 13, _ => exact ck_X1_rise
  | 14, _ => exact ck_X1_emit
  | 15, _ => exact ck_X1_fillWithHere
  | 16, _ => exact ck_X2_init
  | 17, _ => exact ck_X2_foldAll
  | 18, _ => exact ck_X2_foldIn
  | 19, _ => exact ck_X2_enter
  | 20, _ => exact ck_X2_behindKid
  | 21, _ => exact ck_X2_leave
  | 22, _ => exact ck_X2_giveWay
  | 23, _ => exact ck_X2_bind
  | 24, _ => exact ck_X2_chooseBranch
  | 25, _ => exact ck_X2_foldTwo
  | 26, _ => exact ck_X2_dropUnused
  | 27, _ => exact ck_X2_isNumber
  | 28, _ => exact ck_X2_isCalm
  | 29, _ => exact ck_X2_standsIn
  | 30, _ => exact ck_X2_emit
  | 31, _ => exact ck_X3_init
  | 32, _ => exact ck_X3_draw
  | 33, _ => exact ck_X3_doesCall
  | 34, _ => exact ck_X3_inOneCircle
  | 35, _ => exact ck_X3_gather
  | 36, _ => exact ck_X3_addCallee
  | 37, _ => exact ck_X3_look
  | 38, _ => exact ck_X4_init
  | 39, _ => exact ck_X4_inlineAll
  | 40, _ => exact ck_X4_inlineIn
  | 41, _ => exact ck_X4_chooseCalls
  | 42, _ => exact ck_X4_copyWithChosen
  | 43, _ => exact ck_X4_replace
  | 44, _ => exact ck_X4_choose
  | 45, _ => exact ck_X4_emitBody
  | 46, _ => exact ck_X4_emit
  | 47, _ => exact ck_X5_init
  | 48, _ => exact ck_X5_load
  | 49, _ => exact ck_X5_perform
  | 50, _ => exact ck_X5_fits
  | 51, _ => exact ck_X5_enterFrame
  | 52, _ => exact ck_X5_step
  | 53, _ => exact ck_X5_push
  | 54, _ => exact ck_X5_pop
  | 55, _ => exact ck_X5_combine
  | 56, _ => exact ck_X5_putTop
  | 57, _ => exact ck_X5_enterCalled
  | 58, _ => exact ck_X5_goBack
  | 59, _ => exact ck_X5_takeOwnPlace
  | 60, _ => exact ck_X6_init
  | 61, _ => exact ck_X6_has
  | 62, _ => exact ck_X6_find
  | 63, _ => exact ck_X6_kids
  | 64, _ => exact ck_X6_countCalls
  | 65, _ => exact ck_X6_frame
  | 66, _ => exact ck_X7_init
  | 67, _ => exact ck_X7_faultPlace
  | 68, _ => exact ck_X7_readInto
  | 69, _ => exact ck_X7_readDefinition
  | 70, _ => exact ck_X7_readFunctionName
  | 71, _ => exact ck_X7_readParameters
  | 72, _ => exact ck_X7_checkParameterName
  | 73, _ => exact ck_X7_see
  | 74, _ => exact ck_X7_findVariable
  | 75, _ => exact ck_X7_opens
  | 76, _ => exact ck_X7_addNode
  | 77, _ => exact ck_X7_insertNode
  | 78, _ => exact ck_X7_readExpression
  | 79, _ => exact ck_X7_readLet
  | 80, _ => exact ck_X7_readIf
  | 81, _ => exact ck_X7_readComparison
  | 82, _ => exact ck_X7_readSum
  | 83, _ => exact ck_X7_readProduct
  | 84, _ => exact ck_X7_isProductSign
  | 85, _ => exact ck_X7_readUnary
  | 86, _ => exact ck_X7_readPart
  | 87, _ => exact ck_X7_readBracketed
  | 88, _ => exact ck_X7_openBracket
  | 89, _ => exact ck_X7_readName
  | 90, _ => exact ck_X7_addVariable
  | 91, _ => exact ck_X7_beginCall
  | 92, _ => exact ck_X7_findTargets
  | 93, _ => exact ck_X7_setTargets
  | 94, _ => exact ck_X8_init
  | 95, _ => exact ck_X8_begin
  | 96, _ => exact ck_X8_peek
  | 97, _ => exact ck_X8_isAt
  | 98, _ => exact ck_X8_take
  | 99, _ => exact ck_X8_need
  | 100, _ => exact ck_X8_failHere
  | 101, _ => exact ck_X8_failAt
  | 102, _ => exact ck_X8_scanName
  | 103, _ => exact ck_X8_scanNumber
  | 104, _ => exact ck_X8_scanSign
  | 105, _ => exact ck_X8_isBlank
  | 106, _ => exact ck_X8_isLetter
  | 107, _ => exact ck_X8_isDigit
  | 108, _ => exact ck_X9_init
  | 109, _ => exact ck_X9_begin
  | 110, _ => exact ck_X9_advance
  | 111, _ => exact ck_X9_enterNext
  | 112, _ => exact ck_X9_skipKid
  | 113, _ => exact ck_X10_init
  | 114, _ => exact ck_X10_writeOut
  | 115, _ => exact ck_X10_byteAt
  | 116, _ => exact ck_X10_enter
  | 117, _ => exact ck_X10_behindKid
  | 118, _ => exact ck_X10_leave
  | 119, _ => exact ck_X10_addOperator
  | 120, _ => exact ck_X10_addNumber
  | 121, _ => exact ck_X10_addVariable
  | 122, _ => exact ck_X10_addDigits
  | 123, _ => exact ck_X10_addName
  | 124, _ => exact ck_X10_addText
  | 125, _ => exact ck_X10_addByte
  | 126, _ => exact ck_X11_init
  | 127, _ => exact ck_X11_feed
  | 128, _ => exact ck_X11_read
  | 129, _ => exact ck_X11_place
  | 130, _ => exact ck_X11_budget
  | 131, _ => exact ck_X11_trim
  | 132, _ => exact ck_X11_function
  | 133, _ => exact ck_X11_calls
  | 134, _ => exact ck_X11_order
  | 135, _ => exact ck_X11_write
  | 136, _ => exact ck_X11_octet
  | 137, _ => exact ck_X11_code
  | 138, _ => exact ck_X11_argument
  | 139, _ => exact ck_X11_run
  | 140, _ => exact ck_X11_told
  | 141, _ => exact ck_X11_putAt
  | 142, _ => exact ck_X11_programOf
  | 143, _ => exact ck_X11_makeOutput
  | 144, _ => exact ck_X11_operate
  | 145, _ => exact ck_X11_dividesByZero
  | 146, _ => exact ck_X11_closeOver
  | 147, _ => exact ck_X11_hasBit
  | 148, _ => exact ck_X12_init
  | 149, _ => exact ck_X12_in
  | 150, _ => exact ck_X12_feed
  | 151, _ => exact ck_X12_fail
  | 152, _ => exact ck_X12_sign
  | 153, _ => exact ck_X12_letter
  | 154, _ => exact ck_X12_look
  | 155, _ => exact ck_X12_take
  | 156, _ => exact ck_X12_must
  | 157, _ => exact ck_X12_node
  | 158, _ => exact ck_X12_addArgument
  | 159, _ => exact ck_X12_push
  | 160, _ => exact ck_X12_give
  | 161, _ => exact ck_X12_got
  | 162, _ => exact ck_X12_opens
  | 163, _ => exact ck_X12_readExp
  | 164, _ => exact ck_X12_two
  | 165, _ => exact ck_X12_readTask
  | 166, _ => exact ck_X12_beginExp
  | 167, _ => exact ck_X12_unary
  | 168, _ => exact ck_X12_named
  | 169, _ => exact ck_X12_endArgument
  | 170, _ => exact ck_X12_endCall
  | 171, _ => exact ck_X12_functionOf
  | 172, _ => exact ck_X12_readFunction
  | 173, _ => exact ck_X12_read
  | 174, _ => exact ck_X12_place
  | 175, _ => exact ck_X12_copyAll
  | 176, _ => exact ck_X12_budget
  | 177, _ => exact ck_X12_findGraph
  | 178, _ => exact ck_X12_lookFromOne
  | 179, _ => exact ck_X12_calls
  | 180, _ => exact ck_X12_order
  | 181, _ => exact ck_X12_make
  | 182, _ => exact ck_X12_trim
  | 183, _ => exact ck_X12_again
  | 184, _ => exact ck_X12_inline
  | 185, _ => exact ck_X12_replace
  | 186, _ => exact ck_X12_reckon
  | 187, _ => exact ck_X12_isNumber
  | 188, _ => exact ck_X12_numberOf
  | 189, _ => exact ck_X12_fold
  | 190, _ => exact ck_X12_keepParts
  | 191, _ => exact ck_X12_stands
  | 192, _ => exact ck_X12_foldOne
  | 193, _ => exact ck_X12_noFunction
  | 194, _ => exact ck_X12_instruction
  | 195, _ => exact ck_X12_lays
  | 196, _ => exact ck_X12_slot
  | 197, _ => exact ck_X12_compile
  | 198, _ => exact ck_X12_emit
  | 199, _ => exact ck_X12_visit
  | 200, _ => exact ck_X12_visitTail
  | 201, _ => exact ck_X12_frame
  | 202, _ => exact ck_X12_bounds
  | 203, _ => exact ck_X12_function
  | 204, _ => exact ck_X12_code
  | 205, _ => exact ck_X12_put
  | 206, _ => exact ck_X12_puts
  | 207, _ => exact ck_X12_decimal
  | 208, _ => exact ck_X12_nameOut
  | 209, _ => exact ck_X12_signOf
  | 210, _ => exact ck_X12_wordOf
  | 211, _ => exact ck_X12_writeOne
  | 212, _ => exact ck_X12_write
  | 213, _ => exact ck_X12_octet
  | 214, _ => exact ck_X12_argument
  | 215, _ => exact ck_X12_lay
  | 216, _ => exact ck_X12_run
  | 217, _ => exact ck_X12_oneStep
  | 218, _ => exact ck_X12_replaceFrame
  | 219, _ => exact ck_X12_told
  | 220, _ => exact ck_X12_putAt
  | 221, _ => exact ck_L_law
  | id + 222, h => exact absurd h (by omega)
/-- a method's own words stand in the table -/
def g_mwk (id : Nat) : Bool := match g_mw[id]? with
  | some (pc, st, pk, pi, ps) => decide (tables_1[pc]? = some (.code (g_yn id).1 (g_yn id).2 (g_mt id).2.1 (g_mt id).2.2.1)) && (if st then decide (tables_1[pk]? = some (.static (g_yn id).1)) else decide (tables_1[pk]? = some (.instanceMethod (g_yn id).1))) && decide (tables_1[pi]? = some (.initialized (g_yn id).1.cls)) && (ps == 9999 || (if ps < 10000 then decide (tables_1[ps]? = some (.selects (g_yn id).1.cls (g_yn id).1 (g_yn id).1)) else decide ((k2_sels lw_privs)[ps - 10000]? = some (.selects (g_yn id).1.cls (g_yn id).1 (g_yn id).1))))
  | none => false
def g_flk (o : Nat) (q : Nat × Nat × Nat × Nat) : Bool := decide (q.2.1 < 13) && decide (q.2.2.1 < (g_cl q.2.1).2.2) && decide (tables_1[q.2.2.2]? = some (.fieldLink (g_on o) q.1 ((g_cl q.2.1).2.1 q.2.2.1).1 ((g_cl q.2.1).2.1 q.2.2.1).2.1 ((g_cl q.2.1).2.1 q.2.2.1).2.2.1))
def g_ilk (o : Nat) (q : Nat × Int32 × Nat) : Bool := decide (tables_1[q.2.2]? = some (.constant (g_on o) q.1 q.2.1))
def g_jlk (o : Nat) (q : Nat × Int64 × Nat) : Bool := decide (tables_1[q.2.2]? = some (.constantLong (g_on o) q.1 q.2.1))
def g_clkk (o : Nat) (q : Nat × Nat × Nat) : Bool := decide (q.2.1 < 13) && decide (tables_1[q.2.2]? = some (.classLink (g_on o) q.1 (g_cl q.2.1).1))
def g_mlk (o : Nat) (q : Nat × Nat × Nat × Nat × Nat) : Bool :=
  if q.2.1 = 3 then decide (tables_1[q.2.2.2.2]? = some (.methodLink (g_on o) q.1 Lib.objectInit))
  else if q.2.1 = 4 then decide (tables_1[q.2.2.2.2]? = some (.methodLink (g_on o) q.1 Lib.Math.max.name))
  else if q.2.1 = 5 then decide (tables_1[q.2.2.2.2]? = some (.methodLink (g_on o) q.1 Lib.Math.min.name))
  else if q.2.1 = 6 then decide (tables_1[q.2.2.2.2]? = some (.methodLink (g_on o) q.1 arraycopyName))
  else if q.2.1 < 3 then decide (q.2.2.1 < 221) && decide (tables_1[q.2.2.2.2]? = some (.methodLink (g_on o) q.1 (g_yn q.2.2.1).1)) && decide ((parseMethodDescriptor (g_yn q.2.2.1).1.desc).map (fun d => d.parameters.length) = some q.2.2.2.1) && ((q.2.1 == 0) == ((g_mw.getD q.2.2.1 (0, false, 0, 0, 0)).2.1)) && ((q.2.1 == 2) == ((g_yn q.2.2.1).1.name == "<init>"))
  else if 10 ≤ q.2.1 ∧ q.2.1 < 13 then decide (q.2.2.1 < 221) && decide (tables_1[q.2.2.2.2]? = some (.methodLinkNest (g_on o) q.1 (g_yn q.2.2.1).1 "TailTrimmer")) && decide ((parseMethodDescriptor (g_yn q.2.2.1).1.desc).map (fun d => d.parameters.length) = some q.2.2.2.1) && ((q.2.1 == 10) == ((g_mw.getD q.2.2.1 (0, false, 0, 0, 0)).2.1)) && ((q.2.1 == 12) == ((g_yn q.2.2.1).1.name == "<init>"))
  else true
set_option maxRecDepth 20000 in
theorem g_mw_all : (List.range 221).all g_mwk = true := sorry
set_option maxRecDepth 20000 in
theorem g_fl_all : (List.range 14).all (fun o => (g_flT.getD o []).all (g_flk o)) = true := sorry
set_option maxRecDepth 20000 in
theorem g_il_all : (List.range 14).all (fun o => (g_ilT.getD o []).all (g_ilk o)) = true := sorry
set_option maxRecDepth 20000 in
theorem g_jl_all : (List.range 14).all (fun o => (g_jlT.getD o []).all (g_jlk o)) = true := sorry
set_option maxRecDepth 20000 in
theorem g_cl_all : (List.range 14).all (fun o => (g_clT.getD o []).all (g_clkk o)) = true := sorry
set_option maxRecDepth 20000 in
theorem g_ml_all : (List.range 14).all (fun o => (g_mlT.getD o []).all (g_mlk o)) = true := sorry
