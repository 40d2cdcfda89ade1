set_option maxRecDepth 20000 in
theorem ck_X12_init : mt_X12_init.2.2.2.2.2.2.all (g_ok1 cX12_init) = true := by decide +kernel
set_option maxRecDepth 20000 in
theorem ck_X12_in : mt_X12_in.2.2.2.2.2.2.all (g_ok1 cX12_in) = true := by decide +kernel
set_option maxRecDepth 20000 in
theorem ck_X12_feed : mt_X12_feed.2.2.2.2.2.2.all (g_ok1 cX12_feed) = true := by decide +kernel
set_option maxRecDepth 20000 in
theorem ck_X12_fail : mt_X12_fail.2.2.2.2.2.2.all (g_ok1 cX12_fail) = true := by decide +kernel
set_option maxRecDepth 20000 in
theorem ck_X12_sign : mt_X12_sign.2.2.2.2.2.2.all (g_ok1 cX12_sign) = true := by decide +kernel
set_option maxRecDepth 20000 in
theorem ck_X12_letter : mt_X12_letter.2.2.2.2.2.2.all (g_ok1 cX12_letter) = true := by decide +kernel
set_option maxRecDepth 20000 in
theorem ck_X12_look : mt_X12_look.2.2.2.2.2.2.all (g_ok1 cX12_look) = true := by decide +kernel
set_option maxRecDepth 20000 in
theorem ck_X12_take : mt_X12_take.2.2.2.2.2.2.all (g_ok1 cX12_take) = true := by decide +kernel
set_option maxRecDepth 20000 in
theorem ck_X12_must : mt_X12_must.2.2.2.2.2.2.all (g_ok1 cX12_must) = true := by decide +kernel
set_option maxRecDepth 20000 in
theorem ck_X12_node : mt_X12_node.2.2.2.2.2.2.all (g_ok1 cX12_node) = true := by decide +kernel
set_option maxRecDepth 20000 in
theorem ck_X12_addArgument : mt_X12_addArgument.2.2.2.2.2.2.all (g_ok1 cX12_addArgument) = true := by decide +kernel
set_option maxRecDepth 20000 in
theorem ck_X12_push : mt_X12_push.2.2.2.2.2.2.all (g_ok1 cX12_push) = true := by decide +kernel
set_option maxRecDepth 20000 in
theorem ck_X12_give : mt_X12_give.2.2.2.2.2.2.all (g_ok1 cX12_give) = true := by decide +kernel
set_option maxRecDepth 20000 in
theorem ck_X12_got : mt_X12_got.2.2.2.2.2.2.all (g_ok1 cX12_got) = true := by decide +kernel
set_option maxRecDepth 20000 in
theorem ck_X12_opens : mt_X12_opens.2.2.2.2.2.2.all (g_ok1 cX12_opens) = true := by decide +kernel
set_option maxRecDepth 20000 in
theorem ck_X12_readExp : mt_X12_readExp.2.2.2.2.2.2.all (g_ok1 cX12_readExp) = true := by decide +kernel
set_option maxRecDepth 20000 in
theorem ck_X12_two : mt_X12_two.2.2.2.2.2.2.all (g_ok1 cX12_two) = true := by decide +kernel
set_option maxRecDepth 20000 in
theorem ck_X12_readTask : mt_X12_readTask.2.2.2.2.2.2.all (g_ok1 cX12_readTask) = true := by decide +kernel
set_option maxRecDepth 20000 in
theorem ck_X12_beginExp : mt_X12_beginExp.2.2.2.2.2.2.all (g_ok1 cX12_beginExp) = true := by decide +kernel
set_option maxRecDepth 20000 in
theorem ck_X12_unary : mt_X12_unary.2.2.2.2.2.2.all (g_ok1 cX12_unary) = true := by decide +kernel
set_option maxRecDepth 20000 in
theorem ck_X12_named : mt_X12_named.2.2.2.2.2.2.all (g_ok1 cX12_named) = true := by decide +kernel
set_option maxRecDepth 20000 in
theorem ck_X12_endArgument : mt_X12_endArgument.2.2.2.2.2.2.all (g_ok1 cX12_endArgument) = true := by decide +kernel
set_option maxRecDepth 20000 in
theorem ck_X12_endCall : mt_X12_endCall.2.2.2.2.2.2.all (g_ok1 cX12_endCall) = true := by decide +kernel
set_option maxRecDepth 20000 in
theorem ck_X12_functionOf : mt_X12_functionOf.2.2.2.2.2.2.all (g_ok1 cX12_functionOf) = true := by decide +kernel
set_option maxRecDepth 20000 in
theorem ck_X12_readFunction : mt_X12_readFunction.2.2.2.2.2.2.all (g_ok1 cX12_readFunction) = true := by decide +kernel
set_option maxRecDepth 20000 in
theorem ck_X12_read : mt_X12_read.2.2.2.2.2.2.all (g_ok1 cX12_read) = true := by decide +kernel
set_option maxRecDepth 20000 in
theorem ck_X12_place : mt_X12_place.2.2.2.2.2.2.all (g_ok1 cX12_place) = true := by decide +kernel
set_option maxRecDepth 20000 in
theorem ck_X12_copyAll : mt_X12_copyAll.2.2.2.2.2.2.all (g_ok1 cX12_copyAll) = true := by decide +kernel
set_option maxRecDepth 20000 in
theorem ck_X12_budget : mt_X12_budget.2.2.2.2.2.2.all (g_ok1 cX12_budget) = true := by decide +kernel
set_option maxRecDepth 20000 in
theorem ck_X12_findGraph : mt_X12_findGraph.2.2.2.2.2.2.all (g_ok1 cX12_findGraph) = true := by decide +kernel
set_option maxRecDepth 20000 in
theorem ck_X12_lookFromOne : mt_X12_lookFromOne.2.2.2.2.2.2.all (g_ok1 cX12_lookFromOne) = true := by decide +kernel
set_option maxRecDepth 20000 in
theorem ck_X12_calls : mt_X12_calls.2.2.2.2.2.2.all (g_ok1 cX12_calls) = true := by decide +kernel
set_option maxRecDepth 20000 in
theorem ck_X12_order : mt_X12_order.2.2.2.2.2.2.all (g_ok1 cX12_order) = true := by decide +kernel
set_option maxRecDepth 20000 in
theorem ck_X12_make : mt_X12_make.2.2.2.2.2.2.all (g_ok1 cX12_make) = true := by decide +kernel
set_option maxRecDepth 20000 in
theorem ck_X12_trim : mt_X12_trim.2.2.2.2.2.2.all (g_ok1 cX12_trim) = true := by decide +kernel
set_option maxRecDepth 20000 in
theorem ck_X12_again : mt_X12_again.2.2.2.2.2.2.all (g_ok1 cX12_again) = true := by decide +kernel
set_option maxRecDepth 20000 in
theorem ck_X12_inline : mt_X12_inline.2.2.2.2.2.2.all (g_ok1 cX12_inline) = true := by decide +kernel
set_option maxRecDepth 20000 in
theorem ck_X12_replace : mt_X12_replace.2.2.2.2.2.2.all (g_ok1 cX12_replace) = true := by decide +kernel
set_option maxRecDepth 20000 in
theorem ck_X12_reckon : mt_X12_reckon.2.2.2.2.2.2.all (g_ok1 cX12_reckon) = true := by decide +kernel
set_option maxRecDepth 20000 in
theorem ck_X12_isNumber : mt_X12_isNumber.2.2.2.2.2.2.all (g_ok1 cX12_isNumber) = true := by decide +kernel
set_option maxRecDepth 20000 in
theorem ck_X12_numberOf : mt_X12_numberOf.2.2.2.2.2.2.all (g_ok1 cX12_numberOf) = true := by decide +kernel
set_option maxRecDepth 20000 in
theorem ck_X12_fold : mt_X12_fold.2.2.2.2.2.2.all (g_ok1 cX12_fold) = true := by decide +kernel
set_option maxRecDepth 20000 in
theorem ck_X12_keepParts : mt_X12_keepParts.2.2.2.2.2.2.all (g_ok1 cX12_keepParts) = true := by decide +kernel
set_option maxRecDepth 20000 in
theorem ck_X12_stands : mt_X12_stands.2.2.2.2.2.2.all (g_ok1 cX12_stands) = true := by decide +kernel
set_option maxRecDepth 20000 in
theorem ck_X12_foldOne : mt_X12_foldOne.2.2.2.2.2.2.all (g_ok1 cX12_foldOne) = true := by decide +kernel
set_option maxRecDepth 20000 in
theorem ck_X12_noFunction : mt_X12_noFunction.2.2.2.2.2.2.all (g_ok1 cX12_noFunction) = true := by decide +kernel
set_option maxRecDepth 20000 in
theorem ck_X12_instruction : mt_X12_instruction.2.2.2.2.2.2.all (g_ok1 cX12_instruction) = true := by decide +kernel
set_option maxRecDepth 20000 in
theorem ck_X12_lays : mt_X12_lays.2.2.2.2.2.2.all (g_ok1 cX12_lays) = true := by decide +kernel
set_option maxRecDepth 20000 in
theorem ck_X12_slot : mt_X12_slot.2.2.2.2.2.2.all (g_ok1 cX12_slot) = true := by decide +kernel
set_option maxRecDepth 20000 in
theorem ck_X12_compile : mt_X12_compile.2.2.2.2.2.2.all (g_ok1 cX12_compile) = true := by decide +kernel
set_option maxRecDepth 20000 in
theorem ck_X12_emit : mt_X12_emit.2.2.2.2.2.2.all (g_ok1 cX12_emit) = true := by decide +kernel
set_option maxRecDepth 20000 in
theorem ck_X12_visit : mt_X12_visit.2.2.2.2.2.2.all (g_ok1 cX12_visit) = true := by decide +kernel
set_option maxRecDepth 20000 in
theorem ck_X12_visitTail : mt_X12_visitTail.2.2.2.2.2.2.all (g_ok1 cX12_visitTail) = true := by decide +kernel
set_option maxRecDepth 20000 in
theorem ck_X12_frame : mt_X12_frame.2.2.2.2.2.2.all (g_ok1 cX12_frame) = true := by decide +kernel
set_option maxRecDepth 20000 in
theorem ck_X12_bounds : mt_X12_bounds.2.2.2.2.2.2.all (g_ok1 cX12_bounds) = true := by decide +kernel
set_option maxRecDepth 20000 in
theorem ck_X12_function : mt_X12_function.2.2.2.2.2.2.all (g_ok1 cX12_function) = true := by decide +kernel
set_option maxRecDepth 20000 in
theorem ck_X12_code : mt_X12_code.2.2.2.2.2.2.all (g_ok1 cX12_code) = true := by decide +kernel
set_option maxRecDepth 20000 in
theorem ck_X12_put : mt_X12_put.2.2.2.2.2.2.all (g_ok1 cX12_put) = true := by decide +kernel
set_option maxRecDepth 20000 in
theorem ck_X12_puts : mt_X12_puts.2.2.2.2.2.2.all (g_ok1 cX12_puts) = true := by decide +kernel
set_option maxRecDepth 20000 in
theorem ck_X12_decimal : mt_X12_decimal.2.2.2.2.2.2.all (g_ok1 cX12_decimal) = true := by decide +kernel
set_option maxRecDepth 20000 in
theorem ck_X12_nameOut : mt_X12_nameOut.2.2.2.2.2.2.all (g_ok1 cX12_nameOut) = true := by decide +kernel
set_option maxRecDepth 20000 in
theorem ck_X12_signOf : mt_X12_signOf.2.2.2.2.2.2.all (g_ok1 cX12_signOf) = true := by decide +kernel
set_option maxRecDepth 20000 in
theorem ck_X12_wordOf : mt_X12_wordOf.2.2.2.2.2.2.all (g_ok1 cX12_wordOf) = true := by decide +kernel
set_option maxRecDepth 20000 in
theorem ck_X12_writeOne : mt_X12_writeOne.2.2.2.2.2.2.all (g_ok1 cX12_writeOne) = true := by decide +kernel
set_option maxRecDepth 20000 in
theorem ck_X12_write : mt_X12_write.2.2.2.2.2.2.all (g_ok1 cX12_write) = true := by decide +kernel
set_option maxRecDepth 20000 in
theorem ck_X12_octet : mt_X12_octet.2.2.2.2.2.2.all (g_ok1 cX12_octet) = true := by decide +kernel
set_option maxRecDepth 20000 in
theorem ck_X12_argument : mt_X12_argument.2.2.2.2.2.2.all (g_ok1 cX12_argument) = true := by decide +kernel
set_option maxRecDepth 20000 in
theorem ck_X12_lay : mt_X12_lay.2.2.2.2.2.2.all (g_ok1 cX12_lay) = true := by decide +kernel
set_option maxRecDepth 20000 in
theorem ck_X12_run : mt_X12_run.2.2.2.2.2.2.all (g_ok1 cX12_run) = true := by decide +kernel
set_option maxRecDepth 20000 in
theorem ck_X12_oneStep : mt_X12_oneStep.2.2.2.2.2.2.all (g_ok1 cX12_oneStep) = true := by decide +kernel
set_option maxRecDepth 20000 in
theorem ck_X12_replaceFrame : mt_X12_replaceFrame.2.2.2.2.2.2.all (g_ok1 cX12_replaceFrame) = true := by decide +kernel
set_option maxRecDepth 20000 in
theorem ck_X12_told : mt_X12_told.2.2.2.2.2.2.all (g_ok1 cX12_told) = true := by decide +kernel
set_option maxRecDepth 20000 in
theorem ck_X12_putAt : mt_X12_putAt.2.2.2.2.2.2.all (g_ok1 cX12_putAt) = true := by decide +kernel
