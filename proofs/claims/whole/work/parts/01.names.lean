-- ===== PART A: goes FIRST, ahead of the names: the tables' words, and 'selects' of the private methods out of them =====
/-- a private method of a class that the tables say can be made, by its rows of tables_1 -/
def lw_okq (q : MethodName × Nat) : Prop := (q.1.cls ≠ "java/lang/invoke/MethodHandle" ∧ q.1.cls ≠ "java/lang/invoke/VarHandle") ∧ Cond.instantiable q.1.cls q.2 ∈ tables_1 ∧ Cond.privateMethod q.1 ∈ tables_1 ∧ Cond.instanceMethod q.1 ∈ tables_1
theorem lw_p0 : lw_okq (⟨"TailTrimmer$Tokens", "scanName", "()V"⟩, 10) := ⟨⟨by decide +kernel, by decide +kernel⟩, List.mem_of_getElem? (i := 36) (by decide +kernel), List.mem_of_getElem? (i := 642) (by decide +kernel), List.mem_of_getElem? (i := 643) (by decide +kernel)⟩
theorem lw_p1 : lw_okq (⟨"TailTrimmer$Tokens", "scanNumber", "()V"⟩, 10) := ⟨⟨by decide +kernel, by decide +kernel⟩, List.mem_of_getElem? (i := 36) (by decide +kernel), List.mem_of_getElem? (i := 655) (by decide +kernel), List.mem_of_getElem? (i := 656) (by decide +kernel)⟩
theorem lw_p2 : lw_okq (⟨"TailTrimmer$Tokens", "scanSign", "()V"⟩, 10) := ⟨⟨by decide +kernel, by decide +kernel⟩, List.mem_of_getElem? (i := 36) (by decide +kernel), List.mem_of_getElem? (i := 661) (by decide +kernel), List.mem_of_getElem? (i := 662) (by decide +kernel)⟩
theorem lw_p3 : lw_okq (⟨"TailTrimmer$Reader", "readDefinition", "()V"⟩, 15) := ⟨⟨by decide +kernel, by decide +kernel⟩, List.mem_of_getElem? (i := 30) (by decide +kernel), List.mem_of_getElem? (i := 750) (by decide +kernel), List.mem_of_getElem? (i := 751) (by decide +kernel)⟩
theorem lw_p4 : lw_okq (⟨"TailTrimmer$Reader", "readFunctionName", "()Z"⟩, 15) := ⟨⟨by decide +kernel, by decide +kernel⟩, List.mem_of_getElem? (i := 30) (by decide +kernel), List.mem_of_getElem? (i := 754) (by decide +kernel), List.mem_of_getElem? (i := 755) (by decide +kernel)⟩
theorem lw_p5 : lw_okq (⟨"TailTrimmer$Reader", "readParameters", "()Z"⟩, 15) := ⟨⟨by decide +kernel, by decide +kernel⟩, List.mem_of_getElem? (i := 30) (by decide +kernel), List.mem_of_getElem? (i := 774) (by decide +kernel), List.mem_of_getElem? (i := 775) (by decide +kernel)⟩
theorem lw_p6 : lw_okq (⟨"TailTrimmer$Reader", "checkParameterName", "()V"⟩, 15) := ⟨⟨by decide +kernel, by decide +kernel⟩, List.mem_of_getElem? (i := 30) (by decide +kernel), List.mem_of_getElem? (i := 778) (by decide +kernel), List.mem_of_getElem? (i := 779) (by decide +kernel)⟩
theorem lw_p7 : lw_okq (⟨"TailTrimmer$Reader", "findVariable", "(J)I"⟩, 15) := ⟨⟨by decide +kernel, by decide +kernel⟩, List.mem_of_getElem? (i := 30) (by decide +kernel), List.mem_of_getElem? (i := 782) (by decide +kernel), List.mem_of_getElem? (i := 783) (by decide +kernel)⟩
theorem lw_p8 : lw_okq (⟨"TailTrimmer$Reader", "see", "(JI)V"⟩, 15) := ⟨⟨by decide +kernel, by decide +kernel⟩, List.mem_of_getElem? (i := 30) (by decide +kernel), List.mem_of_getElem? (i := 786) (by decide +kernel), List.mem_of_getElem? (i := 787) (by decide +kernel)⟩
theorem lw_p9 : lw_okq (⟨"TailTrimmer$Reader", "readExpression", "()V"⟩, 15) := ⟨⟨by decide +kernel, by decide +kernel⟩, List.mem_of_getElem? (i := 30) (by decide +kernel), List.mem_of_getElem? (i := 791) (by decide +kernel), List.mem_of_getElem? (i := 792) (by decide +kernel)⟩
theorem lw_p10 : lw_okq (⟨"TailTrimmer$Reader", "readLet", "()V"⟩, 15) := ⟨⟨by decide +kernel, by decide +kernel⟩, List.mem_of_getElem? (i := 30) (by decide +kernel), List.mem_of_getElem? (i := 795) (by decide +kernel), List.mem_of_getElem? (i := 796) (by decide +kernel)⟩
theorem lw_p11 : lw_okq (⟨"TailTrimmer$Reader", "opens", "()Z"⟩, 15) := ⟨⟨by decide +kernel, by decide +kernel⟩, List.mem_of_getElem? (i := 30) (by decide +kernel), List.mem_of_getElem? (i := 799) (by decide +kernel), List.mem_of_getElem? (i := 800) (by decide +kernel)⟩
theorem lw_p12 : lw_okq (⟨"TailTrimmer$Reader", "addNode", "(II)V"⟩, 15) := ⟨⟨by decide +kernel, by decide +kernel⟩, List.mem_of_getElem? (i := 30) (by decide +kernel), List.mem_of_getElem? (i := 803) (by decide +kernel), List.mem_of_getElem? (i := 804) (by decide +kernel)⟩
theorem lw_p13 : lw_okq (⟨"TailTrimmer$Reader", "insertNode", "(III)V"⟩, 15) := ⟨⟨by decide +kernel, by decide +kernel⟩, List.mem_of_getElem? (i := 30) (by decide +kernel), List.mem_of_getElem? (i := 807) (by decide +kernel), List.mem_of_getElem? (i := 808) (by decide +kernel)⟩
theorem lw_p14 : lw_okq (⟨"TailTrimmer$Reader", "readIf", "()V"⟩, 15) := ⟨⟨by decide +kernel, by decide +kernel⟩, List.mem_of_getElem? (i := 30) (by decide +kernel), List.mem_of_getElem? (i := 814) (by decide +kernel), List.mem_of_getElem? (i := 815) (by decide +kernel)⟩
theorem lw_p15 : lw_okq (⟨"TailTrimmer$Reader", "readComparison", "()V"⟩, 15) := ⟨⟨by decide +kernel, by decide +kernel⟩, List.mem_of_getElem? (i := 30) (by decide +kernel), List.mem_of_getElem? (i := 818) (by decide +kernel), List.mem_of_getElem? (i := 819) (by decide +kernel)⟩
def lw_privs_1 : List (MethodName × Nat) := [(⟨"TailTrimmer$Tokens", "scanName", "()V"⟩, 10), (⟨"TailTrimmer$Tokens", "scanNumber", "()V"⟩, 10), (⟨"TailTrimmer$Tokens", "scanSign", "()V"⟩, 10), (⟨"TailTrimmer$Reader", "readDefinition", "()V"⟩, 15), (⟨"TailTrimmer$Reader", "readFunctionName", "()Z"⟩, 15), (⟨"TailTrimmer$Reader", "readParameters", "()Z"⟩, 15), (⟨"TailTrimmer$Reader", "checkParameterName", "()V"⟩, 15), (⟨"TailTrimmer$Reader", "findVariable", "(J)I"⟩, 15), (⟨"TailTrimmer$Reader", "see", "(JI)V"⟩, 15), (⟨"TailTrimmer$Reader", "readExpression", "()V"⟩, 15), (⟨"TailTrimmer$Reader", "readLet", "()V"⟩, 15), (⟨"TailTrimmer$Reader", "opens", "()Z"⟩, 15), (⟨"TailTrimmer$Reader", "addNode", "(II)V"⟩, 15), (⟨"TailTrimmer$Reader", "insertNode", "(III)V"⟩, 15), (⟨"TailTrimmer$Reader", "readIf", "()V"⟩, 15), (⟨"TailTrimmer$Reader", "readComparison", "()V"⟩, 15)]
theorem lw_r1 : ∀ q ∈ lw_privs_1, lw_okq q := List.forall_mem_cons.mpr ⟨lw_p0, List.forall_mem_cons.mpr ⟨lw_p1, List.forall_mem_cons.mpr ⟨lw_p2, List.forall_mem_cons.mpr ⟨lw_p3, List.forall_mem_cons.mpr ⟨lw_p4, List.forall_mem_cons.mpr ⟨lw_p5, List.forall_mem_cons.mpr ⟨lw_p6, List.forall_mem_cons.mpr ⟨lw_p7, List.forall_mem_cons.mpr ⟨lw_p8, List.forall_mem_cons.mpr ⟨lw_p9, List.forall_mem_cons.mpr ⟨lw_p10, List.forall_mem_cons.mpr ⟨lw_p11, List.forall_mem_cons.mpr ⟨lw_p12, List.forall_mem_cons.mpr ⟨lw_p13, List.forall_mem_cons.mpr ⟨lw_p14, List.forall_mem_cons.mpr ⟨lw_p15, fun _ h => absurd h List.not_mem_nil⟩⟩⟩⟩⟩⟩⟩⟩⟩⟩⟩⟩⟩⟩⟩⟩
theorem lw_p16 : lw_okq (⟨"TailTrimmer$Reader", "readSum", "()V"⟩, 15) := ⟨⟨by decide +kernel, by decide +kernel⟩, List.mem_of_getElem? (i := 30) (by decide +kernel), List.mem_of_getElem? (i := 822) (by decide +kernel), List.mem_of_getElem? (i := 823) (by decide +kernel)⟩
theorem lw_p17 : lw_okq (⟨"TailTrimmer$Reader", "readProduct", "()V"⟩, 15) := ⟨⟨by decide +kernel, by decide +kernel⟩, List.mem_of_getElem? (i := 30) (by decide +kernel), List.mem_of_getElem? (i := 826) (by decide +kernel), List.mem_of_getElem? (i := 827) (by decide +kernel)⟩
theorem lw_p18 : lw_okq (⟨"TailTrimmer$Reader", "readUnary", "()V"⟩, 15) := ⟨⟨by decide +kernel, by decide +kernel⟩, List.mem_of_getElem? (i := 30) (by decide +kernel), List.mem_of_getElem? (i := 830) (by decide +kernel), List.mem_of_getElem? (i := 831) (by decide +kernel)⟩
theorem lw_p19 : lw_okq (⟨"TailTrimmer$Reader", "readPart", "()V"⟩, 15) := ⟨⟨by decide +kernel, by decide +kernel⟩, List.mem_of_getElem? (i := 30) (by decide +kernel), List.mem_of_getElem? (i := 834) (by decide +kernel), List.mem_of_getElem? (i := 835) (by decide +kernel)⟩
theorem lw_p20 : lw_okq (⟨"TailTrimmer$Reader", "readName", "()V"⟩, 15) := ⟨⟨by decide +kernel, by decide +kernel⟩, List.mem_of_getElem? (i := 30) (by decide +kernel), List.mem_of_getElem? (i := 839) (by decide +kernel), List.mem_of_getElem? (i := 840) (by decide +kernel)⟩
theorem lw_p21 : lw_okq (⟨"TailTrimmer$Reader", "addVariable", "(JI)V"⟩, 15) := ⟨⟨by decide +kernel, by decide +kernel⟩, List.mem_of_getElem? (i := 30) (by decide +kernel), List.mem_of_getElem? (i := 843) (by decide +kernel), List.mem_of_getElem? (i := 844) (by decide +kernel)⟩
theorem lw_p22 : lw_okq (⟨"TailTrimmer$Reader", "beginCall", "(JI)I"⟩, 15) := ⟨⟨by decide +kernel, by decide +kernel⟩, List.mem_of_getElem? (i := 30) (by decide +kernel), List.mem_of_getElem? (i := 848) (by decide +kernel), List.mem_of_getElem? (i := 849) (by decide +kernel)⟩
theorem lw_p23 : lw_okq (⟨"TailTrimmer$Reader", "openBracket", "()Z"⟩, 15) := ⟨⟨by decide +kernel, by decide +kernel⟩, List.mem_of_getElem? (i := 30) (by decide +kernel), List.mem_of_getElem? (i := 852) (by decide +kernel), List.mem_of_getElem? (i := 853) (by decide +kernel)⟩
theorem lw_p24 : lw_okq (⟨"TailTrimmer$Reader", "readBracketed", "()V"⟩, 15) := ⟨⟨by decide +kernel, by decide +kernel⟩, List.mem_of_getElem? (i := 30) (by decide +kernel), List.mem_of_getElem? (i := 856) (by decide +kernel), List.mem_of_getElem? (i := 857) (by decide +kernel)⟩
theorem lw_p25 : lw_okq (⟨"TailTrimmer$Reader", "findTargets", "()V"⟩, 15) := ⟨⟨by decide +kernel, by decide +kernel⟩, List.mem_of_getElem? (i := 30) (by decide +kernel), List.mem_of_getElem? (i := 863) (by decide +kernel), List.mem_of_getElem? (i := 864) (by decide +kernel)⟩
theorem lw_p26 : lw_okq (⟨"TailTrimmer$Reader", "setTargets", "()V"⟩, 15) := ⟨⟨by decide +kernel, by decide +kernel⟩, List.mem_of_getElem? (i := 30) (by decide +kernel), List.mem_of_getElem? (i := 867) (by decide +kernel), List.mem_of_getElem? (i := 868) (by decide +kernel)⟩
theorem lw_p27 : lw_okq (⟨"TailTrimmer$Graph", "gather", "(LTailTrimmer$Program;I)V"⟩, 8) := ⟨⟨by decide +kernel, by decide +kernel⟩, List.mem_of_getElem? (i := 127) (by decide +kernel), List.mem_of_getElem? (i := 879) (by decide +kernel), List.mem_of_getElem? (i := 880) (by decide +kernel)⟩
theorem lw_p28 : lw_okq (⟨"TailTrimmer$Walk", "enterNext", "()Z"⟩, 11) := ⟨⟨by decide +kernel, by decide +kernel⟩, List.mem_of_getElem? (i := 133) (by decide +kernel), List.mem_of_getElem? (i := 891) (by decide +kernel), List.mem_of_getElem? (i := 892) (by decide +kernel)⟩
theorem lw_p29 : lw_okq (⟨"TailTrimmer$Graph", "addCallee", "(II)V"⟩, 8) := ⟨⟨by decide +kernel, by decide +kernel⟩, List.mem_of_getElem? (i := 127) (by decide +kernel), List.mem_of_getElem? (i := 899) (by decide +kernel), List.mem_of_getElem? (i := 900) (by decide +kernel)⟩
theorem lw_p30 : lw_okq (⟨"TailTrimmer$Graph", "look", "(II)V"⟩, 8) := ⟨⟨by decide +kernel, by decide +kernel⟩, List.mem_of_getElem? (i := 127) (by decide +kernel), List.mem_of_getElem? (i := 910) (by decide +kernel), List.mem_of_getElem? (i := 911) (by decide +kernel)⟩
theorem lw_p31 : lw_okq (⟨"TailTrimmer$Coder", "encodeIn", "(I)V"⟩, 13) := ⟨⟨by decide +kernel, by decide +kernel⟩, List.mem_of_getElem? (i := 301) (by decide +kernel), List.mem_of_getElem? (i := 918) (by decide +kernel), List.mem_of_getElem? (i := 919) (by decide +kernel)⟩
def lw_privs_2 : List (MethodName × Nat) := [(⟨"TailTrimmer$Reader", "readSum", "()V"⟩, 15), (⟨"TailTrimmer$Reader", "readProduct", "()V"⟩, 15), (⟨"TailTrimmer$Reader", "readUnary", "()V"⟩, 15), (⟨"TailTrimmer$Reader", "readPart", "()V"⟩, 15), (⟨"TailTrimmer$Reader", "readName", "()V"⟩, 15), (⟨"TailTrimmer$Reader", "addVariable", "(JI)V"⟩, 15), (⟨"TailTrimmer$Reader", "beginCall", "(JI)I"⟩, 15), (⟨"TailTrimmer$Reader", "openBracket", "()Z"⟩, 15), (⟨"TailTrimmer$Reader", "readBracketed", "()V"⟩, 15), (⟨"TailTrimmer$Reader", "findTargets", "()V"⟩, 15), (⟨"TailTrimmer$Reader", "setTargets", "()V"⟩, 15), (⟨"TailTrimmer$Graph", "gather", "(LTailTrimmer$Program;I)V"⟩, 8), (⟨"TailTrimmer$Walk", "enterNext", "()Z"⟩, 11), (⟨"TailTrimmer$Graph", "addCallee", "(II)V"⟩, 8), (⟨"TailTrimmer$Graph", "look", "(II)V"⟩, 8), (⟨"TailTrimmer$Coder", "encodeIn", "(I)V"⟩, 13)]
theorem lw_r2 : ∀ q ∈ lw_privs_2, lw_okq q := List.forall_mem_cons.mpr ⟨lw_p16, List.forall_mem_cons.mpr ⟨lw_p17, List.forall_mem_cons.mpr ⟨lw_p18, List.forall_mem_cons.mpr ⟨lw_p19, List.forall_mem_cons.mpr ⟨lw_p20, List.forall_mem_cons.mpr ⟨lw_p21, List.forall_mem_cons.mpr ⟨lw_p22, List.forall_mem_cons.mpr ⟨lw_p23, List.forall_mem_cons.mpr ⟨lw_p24, List.forall_mem_cons.mpr ⟨lw_p25, List.forall_mem_cons.mpr ⟨lw_p26, List.forall_mem_cons.mpr ⟨lw_p27, List.forall_mem_cons.mpr ⟨lw_p28, List.forall_mem_cons.mpr ⟨lw_p29, List.forall_mem_cons.mpr ⟨lw_p30, List.forall_mem_cons.mpr ⟨lw_p31, fun _ h => absurd h List.not_mem_nil⟩⟩⟩⟩⟩⟩⟩⟩⟩⟩⟩⟩⟩⟩⟩⟩
theorem lw_p32 : lw_okq (⟨"TailTrimmer$Coder", "enter", "(I)V"⟩, 13) := ⟨⟨by decide +kernel, by decide +kernel⟩, List.mem_of_getElem? (i := 301) (by decide +kernel), List.mem_of_getElem? (i := 924) (by decide +kernel), List.mem_of_getElem? (i := 925) (by decide +kernel)⟩
theorem lw_p33 : lw_okq (⟨"TailTrimmer$Coder", "behindKid", "(II)V"⟩, 13) := ⟨⟨by decide +kernel, by decide +kernel⟩, List.mem_of_getElem? (i := 301) (by decide +kernel), List.mem_of_getElem? (i := 928) (by decide +kernel), List.mem_of_getElem? (i := 929) (by decide +kernel)⟩
theorem lw_p34 : lw_okq (⟨"TailTrimmer$Coder", "emit", "(II)I"⟩, 13) := ⟨⟨by decide +kernel, by decide +kernel⟩, List.mem_of_getElem? (i := 301) (by decide +kernel), List.mem_of_getElem? (i := 932) (by decide +kernel), List.mem_of_getElem? (i := 933) (by decide +kernel)⟩
theorem lw_p35 : lw_okq (⟨"TailTrimmer$Coder", "rise", "(I)V"⟩, 13) := ⟨⟨by decide +kernel, by decide +kernel⟩, List.mem_of_getElem? (i := 301) (by decide +kernel), List.mem_of_getElem? (i := 936) (by decide +kernel), List.mem_of_getElem? (i := 937) (by decide +kernel)⟩
theorem lw_p36 : lw_okq (⟨"TailTrimmer$Coder", "useSlot", "(I)I"⟩, 13) := ⟨⟨by decide +kernel, by decide +kernel⟩, List.mem_of_getElem? (i := 301) (by decide +kernel), List.mem_of_getElem? (i := 941) (by decide +kernel), List.mem_of_getElem? (i := 942) (by decide +kernel)⟩
theorem lw_p37 : lw_okq (⟨"TailTrimmer$Coder", "fillWithHere", "(I)V"⟩, 13) := ⟨⟨by decide +kernel, by decide +kernel⟩, List.mem_of_getElem? (i := 301) (by decide +kernel), List.mem_of_getElem? (i := 945) (by decide +kernel), List.mem_of_getElem? (i := 946) (by decide +kernel)⟩
theorem lw_p38 : lw_okq (⟨"TailTrimmer$Coder", "leave", "(I)V"⟩, 13) := ⟨⟨by decide +kernel, by decide +kernel⟩, List.mem_of_getElem? (i := 301) (by decide +kernel), List.mem_of_getElem? (i := 949) (by decide +kernel), List.mem_of_getElem? (i := 950) (by decide +kernel)⟩
theorem lw_p39 : lw_okq (⟨"TailTrimmer$Coder", "encodeCall", "(IZ)V"⟩, 13) := ⟨⟨by decide +kernel, by decide +kernel⟩, List.mem_of_getElem? (i := 301) (by decide +kernel), List.mem_of_getElem? (i := 953) (by decide +kernel), List.mem_of_getElem? (i := 954) (by decide +kernel)⟩
theorem lw_p40 : lw_okq (⟨"TailTrimmer$Bounds", "gather", "(LTailTrimmer$Program;I)V"⟩, 3) := ⟨⟨by decide +kernel, by decide +kernel⟩, List.mem_of_getElem? (i := 349) (by decide +kernel), List.mem_of_getElem? (i := 962) (by decide +kernel), List.mem_of_getElem? (i := 963) (by decide +kernel)⟩
theorem lw_p41 : lw_okq (⟨"TailTrimmer$Bounds", "findEndless", "(I)I"⟩, 3) := ⟨⟨by decide +kernel, by decide +kernel⟩, List.mem_of_getElem? (i := 349) (by decide +kernel), List.mem_of_getElem? (i := 967) (by decide +kernel), List.mem_of_getElem? (i := 968) (by decide +kernel)⟩
theorem lw_p42 : lw_okq (⟨"TailTrimmer$Bounds", "raise", "(LTailTrimmer$Program;I)Z"⟩, 3) := ⟨⟨by decide +kernel, by decide +kernel⟩, List.mem_of_getElem? (i := 349) (by decide +kernel), List.mem_of_getElem? (i := 976) (by decide +kernel), List.mem_of_getElem? (i := 977) (by decide +kernel)⟩
theorem lw_p43 : lw_okq (⟨"TailTrimmer", "makeOutput", "(I)I"⟩, 16) := ⟨⟨by decide +kernel, by decide +kernel⟩, List.mem_of_getElem? (i := 22) (by decide +kernel), List.mem_of_getElem? (i := 981) (by decide +kernel), List.mem_of_getElem? (i := 982) (by decide +kernel)⟩
theorem lw_p44 : lw_okq (⟨"TailTrimmer$Inliner", "inlineIn", "(I)V"⟩, 10) := ⟨⟨by decide +kernel, by decide +kernel⟩, List.mem_of_getElem? (i := 228) (by decide +kernel), List.mem_of_getElem? (i := 989) (by decide +kernel), List.mem_of_getElem? (i := 990) (by decide +kernel)⟩
theorem lw_p45 : lw_okq (⟨"TailTrimmer$Inliner", "chooseCalls", "(I)V"⟩, 10) := ⟨⟨by decide +kernel, by decide +kernel⟩, List.mem_of_getElem? (i := 228) (by decide +kernel), List.mem_of_getElem? (i := 993) (by decide +kernel), List.mem_of_getElem? (i := 994) (by decide +kernel)⟩
theorem lw_p46 : lw_okq (⟨"TailTrimmer$Inliner", "choose", "(I)I"⟩, 10) := ⟨⟨by decide +kernel, by decide +kernel⟩, List.mem_of_getElem? (i := 228) (by decide +kernel), List.mem_of_getElem? (i := 999) (by decide +kernel), List.mem_of_getElem? (i := 1000) (by decide +kernel)⟩
theorem lw_p47 : lw_okq (⟨"TailTrimmer$Inliner", "copyWithChosen", "(I)V"⟩, 10) := ⟨⟨by decide +kernel, by decide +kernel⟩, List.mem_of_getElem? (i := 228) (by decide +kernel), List.mem_of_getElem? (i := 1007) (by decide +kernel), List.mem_of_getElem? (i := 1008) (by decide +kernel)⟩
def lw_privs_3 : List (MethodName × Nat) := [(⟨"TailTrimmer$Coder", "enter", "(I)V"⟩, 13), (⟨"TailTrimmer$Coder", "behindKid", "(II)V"⟩, 13), (⟨"TailTrimmer$Coder", "emit", "(II)I"⟩, 13), (⟨"TailTrimmer$Coder", "rise", "(I)V"⟩, 13), (⟨"TailTrimmer$Coder", "useSlot", "(I)I"⟩, 13), (⟨"TailTrimmer$Coder", "fillWithHere", "(I)V"⟩, 13), (⟨"TailTrimmer$Coder", "leave", "(I)V"⟩, 13), (⟨"TailTrimmer$Coder", "encodeCall", "(IZ)V"⟩, 13), (⟨"TailTrimmer$Bounds", "gather", "(LTailTrimmer$Program;I)V"⟩, 3), (⟨"TailTrimmer$Bounds", "findEndless", "(I)I"⟩, 3), (⟨"TailTrimmer$Bounds", "raise", "(LTailTrimmer$Program;I)Z"⟩, 3), (⟨"TailTrimmer", "makeOutput", "(I)I"⟩, 16), (⟨"TailTrimmer$Inliner", "inlineIn", "(I)V"⟩, 10), (⟨"TailTrimmer$Inliner", "chooseCalls", "(I)V"⟩, 10), (⟨"TailTrimmer$Inliner", "choose", "(I)I"⟩, 10), (⟨"TailTrimmer$Inliner", "copyWithChosen", "(I)V"⟩, 10)]
theorem lw_r3 : ∀ q ∈ lw_privs_3, lw_okq q := List.forall_mem_cons.mpr ⟨lw_p32, List.forall_mem_cons.mpr ⟨lw_p33, List.forall_mem_cons.mpr ⟨lw_p34, List.forall_mem_cons.mpr ⟨lw_p35, List.forall_mem_cons.mpr ⟨lw_p36, List.forall_mem_cons.mpr ⟨lw_p37, List.forall_mem_cons.mpr ⟨lw_p38, List.forall_mem_cons.mpr ⟨lw_p39, List.forall_mem_cons.mpr ⟨lw_p40, List.forall_mem_cons.mpr ⟨lw_p41, List.forall_mem_cons.mpr ⟨lw_p42, List.forall_mem_cons.mpr ⟨lw_p43, List.forall_mem_cons.mpr ⟨lw_p44, List.forall_mem_cons.mpr ⟨lw_p45, List.forall_mem_cons.mpr ⟨lw_p46, List.forall_mem_cons.mpr ⟨lw_p47, fun _ h => absurd h List.not_mem_nil⟩⟩⟩⟩⟩⟩⟩⟩⟩⟩⟩⟩⟩⟩⟩⟩
theorem lw_p48 : lw_okq (⟨"TailTrimmer$Inliner", "replace", "(II)V"⟩, 10) := ⟨⟨by decide +kernel, by decide +kernel⟩, List.mem_of_getElem? (i := 228) (by decide +kernel), List.mem_of_getElem? (i := 1011) (by decide +kernel), List.mem_of_getElem? (i := 1012) (by decide +kernel)⟩
theorem lw_p49 : lw_okq (⟨"TailTrimmer$Inliner", "emitBody", "(II)V"⟩, 10) := ⟨⟨by decide +kernel, by decide +kernel⟩, List.mem_of_getElem? (i := 228) (by decide +kernel), List.mem_of_getElem? (i := 1015) (by decide +kernel), List.mem_of_getElem? (i := 1016) (by decide +kernel)⟩
theorem lw_p50 : lw_okq (⟨"TailTrimmer$Inliner", "emit", "(II)V"⟩, 10) := ⟨⟨by decide +kernel, by decide +kernel⟩, List.mem_of_getElem? (i := 228) (by decide +kernel), List.mem_of_getElem? (i := 1019) (by decide +kernel), List.mem_of_getElem? (i := 1020) (by decide +kernel)⟩
theorem lw_p51 : lw_okq (⟨"TailTrimmer$Folder", "foldIn", "(I)V"⟩, 8) := ⟨⟨by decide +kernel, by decide +kernel⟩, List.mem_of_getElem? (i := 267) (by decide +kernel), List.mem_of_getElem? (i := 1027) (by decide +kernel), List.mem_of_getElem? (i := 1028) (by decide +kernel)⟩
theorem lw_p52 : lw_okq (⟨"TailTrimmer$Folder", "enter", "(I)V"⟩, 8) := ⟨⟨by decide +kernel, by decide +kernel⟩, List.mem_of_getElem? (i := 267) (by decide +kernel), List.mem_of_getElem? (i := 1033) (by decide +kernel), List.mem_of_getElem? (i := 1034) (by decide +kernel)⟩
theorem lw_p53 : lw_okq (⟨"TailTrimmer$Folder", "emit", "(II)V"⟩, 8) := ⟨⟨by decide +kernel, by decide +kernel⟩, List.mem_of_getElem? (i := 267) (by decide +kernel), List.mem_of_getElem? (i := 1037) (by decide +kernel), List.mem_of_getElem? (i := 1038) (by decide +kernel)⟩
theorem lw_p54 : lw_okq (⟨"TailTrimmer$Folder", "behindKid", "(II)V"⟩, 8) := ⟨⟨by decide +kernel, by decide +kernel⟩, List.mem_of_getElem? (i := 267) (by decide +kernel), List.mem_of_getElem? (i := 1041) (by decide +kernel), List.mem_of_getElem? (i := 1042) (by decide +kernel)⟩
theorem lw_p55 : lw_okq (⟨"TailTrimmer$Folder", "isCalm", "(II)Z"⟩, 8) := ⟨⟨by decide +kernel, by decide +kernel⟩, List.mem_of_getElem? (i := 267) (by decide +kernel), List.mem_of_getElem? (i := 1045) (by decide +kernel), List.mem_of_getElem? (i := 1046) (by decide +kernel)⟩
theorem lw_p56 : lw_okq (⟨"TailTrimmer$Folder", "giveWay", "(I)V"⟩, 8) := ⟨⟨by decide +kernel, by decide +kernel⟩, List.mem_of_getElem? (i := 267) (by decide +kernel), List.mem_of_getElem? (i := 1049) (by decide +kernel), List.mem_of_getElem? (i := 1050) (by decide +kernel)⟩
theorem lw_p57 : lw_okq (⟨"TailTrimmer$Folder", "bind", "(I)V"⟩, 8) := ⟨⟨by decide +kernel, by decide +kernel⟩, List.mem_of_getElem? (i := 267) (by decide +kernel), List.mem_of_getElem? (i := 1053) (by decide +kernel), List.mem_of_getElem? (i := 1054) (by decide +kernel)⟩
theorem lw_p58 : lw_okq (⟨"TailTrimmer$Folder", "isNumber", "(I)Z"⟩, 8) := ⟨⟨by decide +kernel, by decide +kernel⟩, List.mem_of_getElem? (i := 267) (by decide +kernel), List.mem_of_getElem? (i := 1057) (by decide +kernel), List.mem_of_getElem? (i := 1058) (by decide +kernel)⟩
theorem lw_p59 : lw_okq (⟨"TailTrimmer$Folder", "chooseBranch", "(I)V"⟩, 8) := ⟨⟨by decide +kernel, by decide +kernel⟩, List.mem_of_getElem? (i := 267) (by decide +kernel), List.mem_of_getElem? (i := 1061) (by decide +kernel), List.mem_of_getElem? (i := 1062) (by decide +kernel)⟩
theorem lw_p60 : lw_okq (⟨"TailTrimmer$Folder", "leave", "(I)V"⟩, 8) := ⟨⟨by decide +kernel, by decide +kernel⟩, List.mem_of_getElem? (i := 267) (by decide +kernel), List.mem_of_getElem? (i := 1069) (by decide +kernel), List.mem_of_getElem? (i := 1070) (by decide +kernel)⟩
theorem lw_p61 : lw_okq (⟨"TailTrimmer$Folder", "foldTwo", "(I)V"⟩, 8) := ⟨⟨by decide +kernel, by decide +kernel⟩, List.mem_of_getElem? (i := 267) (by decide +kernel), List.mem_of_getElem? (i := 1073) (by decide +kernel), List.mem_of_getElem? (i := 1074) (by decide +kernel)⟩
theorem lw_p62 : lw_okq (⟨"TailTrimmer$Folder", "dropUnused", "(I)V"⟩, 8) := ⟨⟨by decide +kernel, by decide +kernel⟩, List.mem_of_getElem? (i := 267) (by decide +kernel), List.mem_of_getElem? (i := 1083) (by decide +kernel), List.mem_of_getElem? (i := 1084) (by decide +kernel)⟩
theorem lw_p63 : lw_okq (⟨"TailTrimmer$Folder", "standsIn", "(II)Z"⟩, 8) := ⟨⟨by decide +kernel, by decide +kernel⟩, List.mem_of_getElem? (i := 267) (by decide +kernel), List.mem_of_getElem? (i := 1087) (by decide +kernel), List.mem_of_getElem? (i := 1088) (by decide +kernel)⟩
def lw_privs_4 : List (MethodName × Nat) := [(⟨"TailTrimmer$Inliner", "replace", "(II)V"⟩, 10), (⟨"TailTrimmer$Inliner", "emitBody", "(II)V"⟩, 10), (⟨"TailTrimmer$Inliner", "emit", "(II)V"⟩, 10), (⟨"TailTrimmer$Folder", "foldIn", "(I)V"⟩, 8), (⟨"TailTrimmer$Folder", "enter", "(I)V"⟩, 8), (⟨"TailTrimmer$Folder", "emit", "(II)V"⟩, 8), (⟨"TailTrimmer$Folder", "behindKid", "(II)V"⟩, 8), (⟨"TailTrimmer$Folder", "isCalm", "(II)Z"⟩, 8), (⟨"TailTrimmer$Folder", "giveWay", "(I)V"⟩, 8), (⟨"TailTrimmer$Folder", "bind", "(I)V"⟩, 8), (⟨"TailTrimmer$Folder", "isNumber", "(I)Z"⟩, 8), (⟨"TailTrimmer$Folder", "chooseBranch", "(I)V"⟩, 8), (⟨"TailTrimmer$Folder", "leave", "(I)V"⟩, 8), (⟨"TailTrimmer$Folder", "foldTwo", "(I)V"⟩, 8), (⟨"TailTrimmer$Folder", "dropUnused", "(I)V"⟩, 8), (⟨"TailTrimmer$Folder", "standsIn", "(II)Z"⟩, 8)]
theorem lw_r4 : ∀ q ∈ lw_privs_4, lw_okq q := List.forall_mem_cons.mpr ⟨lw_p48, List.forall_mem_cons.mpr ⟨lw_p49, List.forall_mem_cons.mpr ⟨lw_p50, List.forall_mem_cons.mpr ⟨lw_p51, List.forall_mem_cons.mpr ⟨lw_p52, List.forall_mem_cons.mpr ⟨lw_p53, List.forall_mem_cons.mpr ⟨lw_p54, List.forall_mem_cons.mpr ⟨lw_p55, List.forall_mem_cons.mpr ⟨lw_p56, List.forall_mem_cons.mpr ⟨lw_p57, List.forall_mem_cons.mpr ⟨lw_p58, List.forall_mem_cons.mpr ⟨lw_p59, List.forall_mem_cons.mpr ⟨lw_p60, List.forall_mem_cons.mpr ⟨lw_p61, List.forall_mem_cons.mpr ⟨lw_p62, List.forall_mem_cons.mpr ⟨lw_p63, fun _ h => absurd h List.not_mem_nil⟩⟩⟩⟩⟩⟩⟩⟩⟩⟩⟩⟩⟩⟩⟩⟩
theorem lw_p64 : lw_okq (⟨"TailTrimmer", "programOf", "(I)LTailTrimmer$Program;"⟩, 16) := ⟨⟨by decide +kernel, by decide +kernel⟩, List.mem_of_getElem? (i := 22) (by decide +kernel), List.mem_of_getElem? (i := 1108) (by decide +kernel), List.mem_of_getElem? (i := 1109) (by decide +kernel)⟩
theorem lw_p65 : lw_okq (⟨"TailTrimmer$Writer", "enter", "(I)V"⟩, 8) := ⟨⟨by decide +kernel, by decide +kernel⟩, List.mem_of_getElem? (i := 365) (by decide +kernel), List.mem_of_getElem? (i := 1144) (by decide +kernel), List.mem_of_getElem? (i := 1145) (by decide +kernel)⟩
theorem lw_p66 : lw_okq (⟨"TailTrimmer$Writer", "addNumber", "(I)V"⟩, 8) := ⟨⟨by decide +kernel, by decide +kernel⟩, List.mem_of_getElem? (i := 365) (by decide +kernel), List.mem_of_getElem? (i := 1148) (by decide +kernel), List.mem_of_getElem? (i := 1149) (by decide +kernel)⟩
theorem lw_p67 : lw_okq (⟨"TailTrimmer$Writer", "addText", "(Ljava/lang/String;)V"⟩, 8) := ⟨⟨by decide +kernel, by decide +kernel⟩, List.mem_of_getElem? (i := 365) (by decide +kernel), List.mem_of_getElem? (i := 1153) (by decide +kernel), List.mem_of_getElem? (i := 1154) (by decide +kernel)⟩
theorem lw_p68 : lw_okq (⟨"TailTrimmer$Writer", "addByte", "(C)V"⟩, 8) := ⟨⟨by decide +kernel, by decide +kernel⟩, List.mem_of_getElem? (i := 365) (by decide +kernel), List.mem_of_getElem? (i := 1178) (by decide +kernel), List.mem_of_getElem? (i := 1179) (by decide +kernel)⟩
theorem lw_p69 : lw_okq (⟨"TailTrimmer$Writer", "addDigits", "(J)V"⟩, 8) := ⟨⟨by decide +kernel, by decide +kernel⟩, List.mem_of_getElem? (i := 365) (by decide +kernel), List.mem_of_getElem? (i := 1182) (by decide +kernel), List.mem_of_getElem? (i := 1183) (by decide +kernel)⟩
theorem lw_p70 : lw_okq (⟨"TailTrimmer$Writer", "addVariable", "(I)V"⟩, 8) := ⟨⟨by decide +kernel, by decide +kernel⟩, List.mem_of_getElem? (i := 365) (by decide +kernel), List.mem_of_getElem? (i := 1189) (by decide +kernel), List.mem_of_getElem? (i := 1190) (by decide +kernel)⟩
theorem lw_p71 : lw_okq (⟨"TailTrimmer$Writer", "addName", "(J)V"⟩, 8) := ⟨⟨by decide +kernel, by decide +kernel⟩, List.mem_of_getElem? (i := 365) (by decide +kernel), List.mem_of_getElem? (i := 1198) (by decide +kernel), List.mem_of_getElem? (i := 1199) (by decide +kernel)⟩
theorem lw_p72 : lw_okq (⟨"TailTrimmer$Writer", "behindKid", "(II)V"⟩, 8) := ⟨⟨by decide +kernel, by decide +kernel⟩, List.mem_of_getElem? (i := 365) (by decide +kernel), List.mem_of_getElem? (i := 1203) (by decide +kernel), List.mem_of_getElem? (i := 1204) (by decide +kernel)⟩
theorem lw_p73 : lw_okq (⟨"TailTrimmer$Writer", "addOperator", "(I)V"⟩, 8) := ⟨⟨by decide +kernel, by decide +kernel⟩, List.mem_of_getElem? (i := 365) (by decide +kernel), List.mem_of_getElem? (i := 1214) (by decide +kernel), List.mem_of_getElem? (i := 1215) (by decide +kernel)⟩
theorem lw_p74 : lw_okq (⟨"TailTrimmer$Writer", "leave", "(I)V"⟩, 8) := ⟨⟨by decide +kernel, by decide +kernel⟩, List.mem_of_getElem? (i := 365) (by decide +kernel), List.mem_of_getElem? (i := 1219) (by decide +kernel), List.mem_of_getElem? (i := 1220) (by decide +kernel)⟩
theorem lw_p75 : lw_okq (⟨"TailTrimmer$Machine", "fits", "(II)Z"⟩, 12) := ⟨⟨by decide +kernel, by decide +kernel⟩, List.mem_of_getElem? (i := 400) (by decide +kernel), List.mem_of_getElem? (i := 1252) (by decide +kernel), List.mem_of_getElem? (i := 1253) (by decide +kernel)⟩
theorem lw_p76 : lw_okq (⟨"TailTrimmer$Machine", "enterFrame", "(II)V"⟩, 12) := ⟨⟨by decide +kernel, by decide +kernel⟩, List.mem_of_getElem? (i := 400) (by decide +kernel), List.mem_of_getElem? (i := 1258) (by decide +kernel), List.mem_of_getElem? (i := 1259) (by decide +kernel)⟩
theorem lw_p77 : lw_okq (⟨"TailTrimmer$Machine", "step", "()I"⟩, 12) := ⟨⟨by decide +kernel, by decide +kernel⟩, List.mem_of_getElem? (i := 400) (by decide +kernel), List.mem_of_getElem? (i := 1263) (by decide +kernel), List.mem_of_getElem? (i := 1264) (by decide +kernel)⟩
theorem lw_p78 : lw_okq (⟨"TailTrimmer$Machine", "push", "(I)V"⟩, 12) := ⟨⟨by decide +kernel, by decide +kernel⟩, List.mem_of_getElem? (i := 400) (by decide +kernel), List.mem_of_getElem? (i := 1267) (by decide +kernel), List.mem_of_getElem? (i := 1268) (by decide +kernel)⟩
theorem lw_p79 : lw_okq (⟨"TailTrimmer$Machine", "pop", "()I"⟩, 12) := ⟨⟨by decide +kernel, by decide +kernel⟩, List.mem_of_getElem? (i := 400) (by decide +kernel), List.mem_of_getElem? (i := 1271) (by decide +kernel), List.mem_of_getElem? (i := 1272) (by decide +kernel)⟩
def lw_privs_5 : List (MethodName × Nat) := [(⟨"TailTrimmer", "programOf", "(I)LTailTrimmer$Program;"⟩, 16), (⟨"TailTrimmer$Writer", "enter", "(I)V"⟩, 8), (⟨"TailTrimmer$Writer", "addNumber", "(I)V"⟩, 8), (⟨"TailTrimmer$Writer", "addText", "(Ljava/lang/String;)V"⟩, 8), (⟨"TailTrimmer$Writer", "addByte", "(C)V"⟩, 8), (⟨"TailTrimmer$Writer", "addDigits", "(J)V"⟩, 8), (⟨"TailTrimmer$Writer", "addVariable", "(I)V"⟩, 8), (⟨"TailTrimmer$Writer", "addName", "(J)V"⟩, 8), (⟨"TailTrimmer$Writer", "behindKid", "(II)V"⟩, 8), (⟨"TailTrimmer$Writer", "addOperator", "(I)V"⟩, 8), (⟨"TailTrimmer$Writer", "leave", "(I)V"⟩, 8), (⟨"TailTrimmer$Machine", "fits", "(II)Z"⟩, 12), (⟨"TailTrimmer$Machine", "enterFrame", "(II)V"⟩, 12), (⟨"TailTrimmer$Machine", "step", "()I"⟩, 12), (⟨"TailTrimmer$Machine", "push", "(I)V"⟩, 12), (⟨"TailTrimmer$Machine", "pop", "()I"⟩, 12)]
theorem lw_r5 : ∀ q ∈ lw_privs_5, lw_okq q := List.forall_mem_cons.mpr ⟨lw_p64, List.forall_mem_cons.mpr ⟨lw_p65, List.forall_mem_cons.mpr ⟨lw_p66, List.forall_mem_cons.mpr ⟨lw_p67, List.forall_mem_cons.mpr ⟨lw_p68, List.forall_mem_cons.mpr ⟨lw_p69, List.forall_mem_cons.mpr ⟨lw_p70, List.forall_mem_cons.mpr ⟨lw_p71, List.forall_mem_cons.mpr ⟨lw_p72, List.forall_mem_cons.mpr ⟨lw_p73, List.forall_mem_cons.mpr ⟨lw_p74, List.forall_mem_cons.mpr ⟨lw_p75, List.forall_mem_cons.mpr ⟨lw_p76, List.forall_mem_cons.mpr ⟨lw_p77, List.forall_mem_cons.mpr ⟨lw_p78, List.forall_mem_cons.mpr ⟨lw_p79, fun _ h => absurd h List.not_mem_nil⟩⟩⟩⟩⟩⟩⟩⟩⟩⟩⟩⟩⟩⟩⟩⟩
theorem lw_p80 : lw_okq (⟨"TailTrimmer$Machine", "putTop", "()I"⟩, 12) := ⟨⟨by decide +kernel, by decide +kernel⟩, List.mem_of_getElem? (i := 400) (by decide +kernel), List.mem_of_getElem? (i := 1275) (by decide +kernel), List.mem_of_getElem? (i := 1276) (by decide +kernel)⟩
theorem lw_p81 : lw_okq (⟨"TailTrimmer$Machine", "enterCalled", "(I)I"⟩, 12) := ⟨⟨by decide +kernel, by decide +kernel⟩, List.mem_of_getElem? (i := 400) (by decide +kernel), List.mem_of_getElem? (i := 1279) (by decide +kernel), List.mem_of_getElem? (i := 1280) (by decide +kernel)⟩
theorem lw_p82 : lw_okq (⟨"TailTrimmer$Machine", "goBack", "()I"⟩, 12) := ⟨⟨by decide +kernel, by decide +kernel⟩, List.mem_of_getElem? (i := 400) (by decide +kernel), List.mem_of_getElem? (i := 1283) (by decide +kernel), List.mem_of_getElem? (i := 1284) (by decide +kernel)⟩
theorem lw_p83 : lw_okq (⟨"TailTrimmer$Machine", "takeOwnPlace", "(I)I"⟩, 12) := ⟨⟨by decide +kernel, by decide +kernel⟩, List.mem_of_getElem? (i := 400) (by decide +kernel), List.mem_of_getElem? (i := 1287) (by decide +kernel), List.mem_of_getElem? (i := 1288) (by decide +kernel)⟩
theorem lw_p84 : lw_okq (⟨"TailTrimmer$Machine", "combine", "(I)I"⟩, 12) := ⟨⟨by decide +kernel, by decide +kernel⟩, List.mem_of_getElem? (i := 400) (by decide +kernel), List.mem_of_getElem? (i := 1291) (by decide +kernel), List.mem_of_getElem? (i := 1292) (by decide +kernel)⟩
theorem lw_p85 : lw_okq (⟨"TailTrimmerModel", "look", "()I"⟩, 87) := ⟨⟨by decide +kernel, by decide +kernel⟩, List.mem_of_getElem? (i := 1305) (by decide +kernel), List.mem_of_getElem? (i := 1587) (by decide +kernel), List.mem_of_getElem? (i := 1588) (by decide +kernel)⟩
theorem lw_p86 : lw_okq (⟨"TailTrimmerModel", "sign", "(I)I"⟩, 87) := ⟨⟨by decide +kernel, by decide +kernel⟩, List.mem_of_getElem? (i := 1305) (by decide +kernel), List.mem_of_getElem? (i := 1591) (by decide +kernel), List.mem_of_getElem? (i := 1592) (by decide +kernel)⟩
theorem lw_p87 : lw_okq (⟨"TailTrimmerModel", "fail", "(II)V"⟩, 87) := ⟨⟨by decide +kernel, by decide +kernel⟩, List.mem_of_getElem? (i := 1305) (by decide +kernel), List.mem_of_getElem? (i := 1609) (by decide +kernel), List.mem_of_getElem? (i := 1610) (by decide +kernel)⟩
theorem lw_p88 : lw_okq (⟨"TailTrimmerModel", "readFunction", "()V"⟩, 87) := ⟨⟨by decide +kernel, by decide +kernel⟩, List.mem_of_getElem? (i := 1305) (by decide +kernel), List.mem_of_getElem? (i := 1615) (by decide +kernel), List.mem_of_getElem? (i := 1616) (by decide +kernel)⟩
theorem lw_p89 : lw_okq (⟨"TailTrimmerModel", "must", "(I)Z"⟩, 87) := ⟨⟨by decide +kernel, by decide +kernel⟩, List.mem_of_getElem? (i := 1305) (by decide +kernel), List.mem_of_getElem? (i := 1619) (by decide +kernel), List.mem_of_getElem? (i := 1620) (by decide +kernel)⟩
theorem lw_p90 : lw_okq (⟨"TailTrimmerModel", "take", "()V"⟩, 87) := ⟨⟨by decide +kernel, by decide +kernel⟩, List.mem_of_getElem? (i := 1305) (by decide +kernel), List.mem_of_getElem? (i := 1623) (by decide +kernel), List.mem_of_getElem? (i := 1624) (by decide +kernel)⟩
theorem lw_p91 : lw_okq (⟨"TailTrimmerModel", "functionOf", "(JI)I"⟩, 87) := ⟨⟨by decide +kernel, by decide +kernel⟩, List.mem_of_getElem? (i := 1305) (by decide +kernel), List.mem_of_getElem? (i := 1627) (by decide +kernel), List.mem_of_getElem? (i := 1628) (by decide +kernel)⟩
theorem lw_p92 : lw_okq (⟨"TailTrimmerModel", "readExp", "()V"⟩, 87) := ⟨⟨by decide +kernel, by decide +kernel⟩, List.mem_of_getElem? (i := 1305) (by decide +kernel), List.mem_of_getElem? (i := 1631) (by decide +kernel), List.mem_of_getElem? (i := 1632) (by decide +kernel)⟩
theorem lw_p93 : lw_okq (⟨"TailTrimmerModel", "push", "(III)V"⟩, 87) := ⟨⟨by decide +kernel, by decide +kernel⟩, List.mem_of_getElem? (i := 1305) (by decide +kernel), List.mem_of_getElem? (i := 1635) (by decide +kernel), List.mem_of_getElem? (i := 1636) (by decide +kernel)⟩
theorem lw_p94 : lw_okq (⟨"TailTrimmerModel", "readTask", "(III)V"⟩, 87) := ⟨⟨by decide +kernel, by decide +kernel⟩, List.mem_of_getElem? (i := 1305) (by decide +kernel), List.mem_of_getElem? (i := 1639) (by decide +kernel), List.mem_of_getElem? (i := 1640) (by decide +kernel)⟩
theorem lw_p95 : lw_okq (⟨"TailTrimmerModel", "beginExp", "()V"⟩, 87) := ⟨⟨by decide +kernel, by decide +kernel⟩, List.mem_of_getElem? (i := 1305) (by decide +kernel), List.mem_of_getElem? (i := 1643) (by decide +kernel), List.mem_of_getElem? (i := 1644) (by decide +kernel)⟩
def lw_privs_6 : List (MethodName × Nat) := [(⟨"TailTrimmer$Machine", "putTop", "()I"⟩, 12), (⟨"TailTrimmer$Machine", "enterCalled", "(I)I"⟩, 12), (⟨"TailTrimmer$Machine", "goBack", "()I"⟩, 12), (⟨"TailTrimmer$Machine", "takeOwnPlace", "(I)I"⟩, 12), (⟨"TailTrimmer$Machine", "combine", "(I)I"⟩, 12), (⟨"TailTrimmerModel", "look", "()I"⟩, 87), (⟨"TailTrimmerModel", "sign", "(I)I"⟩, 87), (⟨"TailTrimmerModel", "fail", "(II)V"⟩, 87), (⟨"TailTrimmerModel", "readFunction", "()V"⟩, 87), (⟨"TailTrimmerModel", "must", "(I)Z"⟩, 87), (⟨"TailTrimmerModel", "take", "()V"⟩, 87), (⟨"TailTrimmerModel", "functionOf", "(JI)I"⟩, 87), (⟨"TailTrimmerModel", "readExp", "()V"⟩, 87), (⟨"TailTrimmerModel", "push", "(III)V"⟩, 87), (⟨"TailTrimmerModel", "readTask", "(III)V"⟩, 87), (⟨"TailTrimmerModel", "beginExp", "()V"⟩, 87)]
theorem lw_r6 : ∀ q ∈ lw_privs_6, lw_okq q := List.forall_mem_cons.mpr ⟨lw_p80, List.forall_mem_cons.mpr ⟨lw_p81, List.forall_mem_cons.mpr ⟨lw_p82, List.forall_mem_cons.mpr ⟨lw_p83, List.forall_mem_cons.mpr ⟨lw_p84, List.forall_mem_cons.mpr ⟨lw_p85, List.forall_mem_cons.mpr ⟨lw_p86, List.forall_mem_cons.mpr ⟨lw_p87, List.forall_mem_cons.mpr ⟨lw_p88, List.forall_mem_cons.mpr ⟨lw_p89, List.forall_mem_cons.mpr ⟨lw_p90, List.forall_mem_cons.mpr ⟨lw_p91, List.forall_mem_cons.mpr ⟨lw_p92, List.forall_mem_cons.mpr ⟨lw_p93, List.forall_mem_cons.mpr ⟨lw_p94, List.forall_mem_cons.mpr ⟨lw_p95, fun _ h => absurd h List.not_mem_nil⟩⟩⟩⟩⟩⟩⟩⟩⟩⟩⟩⟩⟩⟩⟩⟩
theorem lw_p96 : lw_okq (⟨"TailTrimmerModel", "opens", "()Z"⟩, 87) := ⟨⟨by decide +kernel, by decide +kernel⟩, List.mem_of_getElem? (i := 1305) (by decide +kernel), List.mem_of_getElem? (i := 1647) (by decide +kernel), List.mem_of_getElem? (i := 1648) (by decide +kernel)⟩
theorem lw_p97 : lw_okq (⟨"TailTrimmerModel", "got", "()I"⟩, 87) := ⟨⟨by decide +kernel, by decide +kernel⟩, List.mem_of_getElem? (i := 1305) (by decide +kernel), List.mem_of_getElem? (i := 1651) (by decide +kernel), List.mem_of_getElem? (i := 1652) (by decide +kernel)⟩
theorem lw_p98 : lw_okq (⟨"TailTrimmerModel", "node", "(IIIII)I"⟩, 87) := ⟨⟨by decide +kernel, by decide +kernel⟩, List.mem_of_getElem? (i := 1305) (by decide +kernel), List.mem_of_getElem? (i := 1655) (by decide +kernel), List.mem_of_getElem? (i := 1656) (by decide +kernel)⟩
theorem lw_p99 : lw_okq (⟨"TailTrimmerModel", "give", "(I)V"⟩, 87) := ⟨⟨by decide +kernel, by decide +kernel⟩, List.mem_of_getElem? (i := 1305) (by decide +kernel), List.mem_of_getElem? (i := 1659) (by decide +kernel), List.mem_of_getElem? (i := 1660) (by decide +kernel)⟩
theorem lw_p100 : lw_okq (⟨"TailTrimmerModel", "two", "(I)V"⟩, 87) := ⟨⟨by decide +kernel, by decide +kernel⟩, List.mem_of_getElem? (i := 1305) (by decide +kernel), List.mem_of_getElem? (i := 1663) (by decide +kernel), List.mem_of_getElem? (i := 1664) (by decide +kernel)⟩
theorem lw_p101 : lw_okq (⟨"TailTrimmerModel", "unary", "()V"⟩, 87) := ⟨⟨by decide +kernel, by decide +kernel⟩, List.mem_of_getElem? (i := 1305) (by decide +kernel), List.mem_of_getElem? (i := 1667) (by decide +kernel), List.mem_of_getElem? (i := 1668) (by decide +kernel)⟩
theorem lw_p102 : lw_okq (⟨"TailTrimmerModel", "named", "()V"⟩, 87) := ⟨⟨by decide +kernel, by decide +kernel⟩, List.mem_of_getElem? (i := 1305) (by decide +kernel), List.mem_of_getElem? (i := 1671) (by decide +kernel), List.mem_of_getElem? (i := 1672) (by decide +kernel)⟩
theorem lw_p103 : lw_okq (⟨"TailTrimmerModel", "endCall", "(I)V"⟩, 87) := ⟨⟨by decide +kernel, by decide +kernel⟩, List.mem_of_getElem? (i := 1305) (by decide +kernel), List.mem_of_getElem? (i := 1675) (by decide +kernel), List.mem_of_getElem? (i := 1676) (by decide +kernel)⟩
theorem lw_p104 : lw_okq (⟨"TailTrimmerModel", "addArgument", "(II)I"⟩, 87) := ⟨⟨by decide +kernel, by decide +kernel⟩, List.mem_of_getElem? (i := 1305) (by decide +kernel), List.mem_of_getElem? (i := 1679) (by decide +kernel), List.mem_of_getElem? (i := 1680) (by decide +kernel)⟩
theorem lw_p105 : lw_okq (⟨"TailTrimmerModel", "endArgument", "(II)V"⟩, 87) := ⟨⟨by decide +kernel, by decide +kernel⟩, List.mem_of_getElem? (i := 1305) (by decide +kernel), List.mem_of_getElem? (i := 1683) (by decide +kernel), List.mem_of_getElem? (i := 1684) (by decide +kernel)⟩
theorem lw_p106 : lw_okq (⟨"TailTrimmerModel", "copyAll", "(II)V"⟩, 87) := ⟨⟨by decide +kernel, by decide +kernel⟩, List.mem_of_getElem? (i := 1305) (by decide +kernel), List.mem_of_getElem? (i := 1687) (by decide +kernel), List.mem_of_getElem? (i := 1688) (by decide +kernel)⟩
theorem lw_p107 : lw_okq (⟨"TailTrimmerModel", "findGraph", "()V"⟩, 87) := ⟨⟨by decide +kernel, by decide +kernel⟩, List.mem_of_getElem? (i := 1305) (by decide +kernel), List.mem_of_getElem? (i := 1691) (by decide +kernel), List.mem_of_getElem? (i := 1692) (by decide +kernel)⟩
theorem lw_p108 : lw_okq (⟨"TailTrimmerModel", "lookFromOne", "(I)V"⟩, 87) := ⟨⟨by decide +kernel, by decide +kernel⟩, List.mem_of_getElem? (i := 1305) (by decide +kernel), List.mem_of_getElem? (i := 1695) (by decide +kernel), List.mem_of_getElem? (i := 1696) (by decide +kernel)⟩
theorem lw_p109 : lw_okq (⟨"TailTrimmerModel", "make", "(I)I"⟩, 87) := ⟨⟨by decide +kernel, by decide +kernel⟩, List.mem_of_getElem? (i := 1305) (by decide +kernel), List.mem_of_getElem? (i := 1699) (by decide +kernel), List.mem_of_getElem? (i := 1700) (by decide +kernel)⟩
theorem lw_p110 : lw_okq (⟨"TailTrimmerModel", "inline", "(I)V"⟩, 87) := ⟨⟨by decide +kernel, by decide +kernel⟩, List.mem_of_getElem? (i := 1305) (by decide +kernel), List.mem_of_getElem? (i := 1703) (by decide +kernel), List.mem_of_getElem? (i := 1704) (by decide +kernel)⟩
theorem lw_p111 : lw_okq (⟨"TailTrimmerModel", "again", "(III)I"⟩, 87) := ⟨⟨by decide +kernel, by decide +kernel⟩, List.mem_of_getElem? (i := 1305) (by decide +kernel), List.mem_of_getElem? (i := 1707) (by decide +kernel), List.mem_of_getElem? (i := 1708) (by decide +kernel)⟩
def lw_privs_7 : List (MethodName × Nat) := [(⟨"TailTrimmerModel", "opens", "()Z"⟩, 87), (⟨"TailTrimmerModel", "got", "()I"⟩, 87), (⟨"TailTrimmerModel", "node", "(IIIII)I"⟩, 87), (⟨"TailTrimmerModel", "give", "(I)V"⟩, 87), (⟨"TailTrimmerModel", "two", "(I)V"⟩, 87), (⟨"TailTrimmerModel", "unary", "()V"⟩, 87), (⟨"TailTrimmerModel", "named", "()V"⟩, 87), (⟨"TailTrimmerModel", "endCall", "(I)V"⟩, 87), (⟨"TailTrimmerModel", "addArgument", "(II)I"⟩, 87), (⟨"TailTrimmerModel", "endArgument", "(II)V"⟩, 87), (⟨"TailTrimmerModel", "copyAll", "(II)V"⟩, 87), (⟨"TailTrimmerModel", "findGraph", "()V"⟩, 87), (⟨"TailTrimmerModel", "lookFromOne", "(I)V"⟩, 87), (⟨"TailTrimmerModel", "make", "(I)I"⟩, 87), (⟨"TailTrimmerModel", "inline", "(I)V"⟩, 87), (⟨"TailTrimmerModel", "again", "(III)I"⟩, 87)]
theorem lw_r7 : ∀ q ∈ lw_privs_7, lw_okq q := List.forall_mem_cons.mpr ⟨lw_p96, List.forall_mem_cons.mpr ⟨lw_p97, List.forall_mem_cons.mpr ⟨lw_p98, List.forall_mem_cons.mpr ⟨lw_p99, List.forall_mem_cons.mpr ⟨lw_p100, List.forall_mem_cons.mpr ⟨lw_p101, List.forall_mem_cons.mpr ⟨lw_p102, List.forall_mem_cons.mpr ⟨lw_p103, List.forall_mem_cons.mpr ⟨lw_p104, List.forall_mem_cons.mpr ⟨lw_p105, List.forall_mem_cons.mpr ⟨lw_p106, List.forall_mem_cons.mpr ⟨lw_p107, List.forall_mem_cons.mpr ⟨lw_p108, List.forall_mem_cons.mpr ⟨lw_p109, List.forall_mem_cons.mpr ⟨lw_p110, List.forall_mem_cons.mpr ⟨lw_p111, fun _ h => absurd h List.not_mem_nil⟩⟩⟩⟩⟩⟩⟩⟩⟩⟩⟩⟩⟩⟩⟩⟩
theorem lw_p112 : lw_okq (⟨"TailTrimmerModel", "replace", "(IIIII)I"⟩, 87) := ⟨⟨by decide +kernel, by decide +kernel⟩, List.mem_of_getElem? (i := 1305) (by decide +kernel), List.mem_of_getElem? (i := 1711) (by decide +kernel), List.mem_of_getElem? (i := 1712) (by decide +kernel)⟩
theorem lw_p113 : lw_okq (⟨"TailTrimmerModel", "fold", "(I)V"⟩, 87) := ⟨⟨by decide +kernel, by decide +kernel⟩, List.mem_of_getElem? (i := 1305) (by decide +kernel), List.mem_of_getElem? (i := 1715) (by decide +kernel), List.mem_of_getElem? (i := 1716) (by decide +kernel)⟩
theorem lw_p114 : lw_okq (⟨"TailTrimmerModel", "foldOne", "(III)I"⟩, 87) := ⟨⟨by decide +kernel, by decide +kernel⟩, List.mem_of_getElem? (i := 1305) (by decide +kernel), List.mem_of_getElem? (i := 1719) (by decide +kernel), List.mem_of_getElem? (i := 1720) (by decide +kernel)⟩
theorem lw_p115 : lw_okq (⟨"TailTrimmerModel", "isNumber", "(II)Z"⟩, 87) := ⟨⟨by decide +kernel, by decide +kernel⟩, List.mem_of_getElem? (i := 1305) (by decide +kernel), List.mem_of_getElem? (i := 1723) (by decide +kernel), List.mem_of_getElem? (i := 1724) (by decide +kernel)⟩
theorem lw_p116 : lw_okq (⟨"TailTrimmerModel", "numberOf", "(II)I"⟩, 87) := ⟨⟨by decide +kernel, by decide +kernel⟩, List.mem_of_getElem? (i := 1305) (by decide +kernel), List.mem_of_getElem? (i := 1727) (by decide +kernel), List.mem_of_getElem? (i := 1728) (by decide +kernel)⟩
theorem lw_p117 : lw_okq (⟨"TailTrimmerModel", "stands", "(III)Z"⟩, 87) := ⟨⟨by decide +kernel, by decide +kernel⟩, List.mem_of_getElem? (i := 1305) (by decide +kernel), List.mem_of_getElem? (i := 1734) (by decide +kernel), List.mem_of_getElem? (i := 1735) (by decide +kernel)⟩
theorem lw_p118 : lw_okq (⟨"TailTrimmerModel", "keepParts", "(II)V"⟩, 87) := ⟨⟨by decide +kernel, by decide +kernel⟩, List.mem_of_getElem? (i := 1305) (by decide +kernel), List.mem_of_getElem? (i := 1738) (by decide +kernel), List.mem_of_getElem? (i := 1739) (by decide +kernel)⟩
theorem lw_p119 : lw_okq (⟨"TailTrimmerModel", "compile", "(IZ)V"⟩, 87) := ⟨⟨by decide +kernel, by decide +kernel⟩, List.mem_of_getElem? (i := 1305) (by decide +kernel), List.mem_of_getElem? (i := 1742) (by decide +kernel), List.mem_of_getElem? (i := 1743) (by decide +kernel)⟩
theorem lw_p120 : lw_okq (⟨"TailTrimmerModel", "visit", "(II)V"⟩, 87) := ⟨⟨by decide +kernel, by decide +kernel⟩, List.mem_of_getElem? (i := 1305) (by decide +kernel), List.mem_of_getElem? (i := 1746) (by decide +kernel), List.mem_of_getElem? (i := 1747) (by decide +kernel)⟩
theorem lw_p121 : lw_okq (⟨"TailTrimmerModel", "instruction", "(II)V"⟩, 87) := ⟨⟨by decide +kernel, by decide +kernel⟩, List.mem_of_getElem? (i := 1305) (by decide +kernel), List.mem_of_getElem? (i := 1750) (by decide +kernel), List.mem_of_getElem? (i := 1751) (by decide +kernel)⟩
theorem lw_p122 : lw_okq (⟨"TailTrimmerModel", "lays", "(I)V"⟩, 87) := ⟨⟨by decide +kernel, by decide +kernel⟩, List.mem_of_getElem? (i := 1305) (by decide +kernel), List.mem_of_getElem? (i := 1754) (by decide +kernel), List.mem_of_getElem? (i := 1755) (by decide +kernel)⟩
theorem lw_p123 : lw_okq (⟨"TailTrimmerModel", "slot", "(I)V"⟩, 87) := ⟨⟨by decide +kernel, by decide +kernel⟩, List.mem_of_getElem? (i := 1305) (by decide +kernel), List.mem_of_getElem? (i := 1758) (by decide +kernel), List.mem_of_getElem? (i := 1759) (by decide +kernel)⟩
theorem lw_p124 : lw_okq (⟨"TailTrimmerModel", "visitTail", "(IIZ)V"⟩, 87) := ⟨⟨by decide +kernel, by decide +kernel⟩, List.mem_of_getElem? (i := 1305) (by decide +kernel), List.mem_of_getElem? (i := 1762) (by decide +kernel), List.mem_of_getElem? (i := 1763) (by decide +kernel)⟩
theorem lw_p125 : lw_okq (⟨"TailTrimmerModel", "emit", "(II)V"⟩, 87) := ⟨⟨by decide +kernel, by decide +kernel⟩, List.mem_of_getElem? (i := 1305) (by decide +kernel), List.mem_of_getElem? (i := 1766) (by decide +kernel), List.mem_of_getElem? (i := 1767) (by decide +kernel)⟩
theorem lw_p126 : lw_okq (⟨"TailTrimmerModel", "bounds", "(I)V"⟩, 87) := ⟨⟨by decide +kernel, by decide +kernel⟩, List.mem_of_getElem? (i := 1305) (by decide +kernel), List.mem_of_getElem? (i := 1770) (by decide +kernel), List.mem_of_getElem? (i := 1771) (by decide +kernel)⟩
theorem lw_p127 : lw_okq (⟨"TailTrimmerModel", "frame", "(I)I"⟩, 87) := ⟨⟨by decide +kernel, by decide +kernel⟩, List.mem_of_getElem? (i := 1305) (by decide +kernel), List.mem_of_getElem? (i := 1774) (by decide +kernel), List.mem_of_getElem? (i := 1775) (by decide +kernel)⟩
def lw_privs_8 : List (MethodName × Nat) := [(⟨"TailTrimmerModel", "replace", "(IIIII)I"⟩, 87), (⟨"TailTrimmerModel", "fold", "(I)V"⟩, 87), (⟨"TailTrimmerModel", "foldOne", "(III)I"⟩, 87), (⟨"TailTrimmerModel", "isNumber", "(II)Z"⟩, 87), (⟨"TailTrimmerModel", "numberOf", "(II)I"⟩, 87), (⟨"TailTrimmerModel", "stands", "(III)Z"⟩, 87), (⟨"TailTrimmerModel", "keepParts", "(II)V"⟩, 87), (⟨"TailTrimmerModel", "compile", "(IZ)V"⟩, 87), (⟨"TailTrimmerModel", "visit", "(II)V"⟩, 87), (⟨"TailTrimmerModel", "instruction", "(II)V"⟩, 87), (⟨"TailTrimmerModel", "lays", "(I)V"⟩, 87), (⟨"TailTrimmerModel", "slot", "(I)V"⟩, 87), (⟨"TailTrimmerModel", "visitTail", "(IIZ)V"⟩, 87), (⟨"TailTrimmerModel", "emit", "(II)V"⟩, 87), (⟨"TailTrimmerModel", "bounds", "(I)V"⟩, 87), (⟨"TailTrimmerModel", "frame", "(I)I"⟩, 87)]
theorem lw_r8 : ∀ q ∈ lw_privs_8, lw_okq q := List.forall_mem_cons.mpr ⟨lw_p112, List.forall_mem_cons.mpr ⟨lw_p113, List.forall_mem_cons.mpr ⟨lw_p114, List.forall_mem_cons.mpr ⟨lw_p115, List.forall_mem_cons.mpr ⟨lw_p116, List.forall_mem_cons.mpr ⟨lw_p117, List.forall_mem_cons.mpr ⟨lw_p118, List.forall_mem_cons.mpr ⟨lw_p119, List.forall_mem_cons.mpr ⟨lw_p120, List.forall_mem_cons.mpr ⟨lw_p121, List.forall_mem_cons.mpr ⟨lw_p122, List.forall_mem_cons.mpr ⟨lw_p123, List.forall_mem_cons.mpr ⟨lw_p124, List.forall_mem_cons.mpr ⟨lw_p125, List.forall_mem_cons.mpr ⟨lw_p126, List.forall_mem_cons.mpr ⟨lw_p127, fun _ h => absurd h List.not_mem_nil⟩⟩⟩⟩⟩⟩⟩⟩⟩⟩⟩⟩⟩⟩⟩⟩
theorem lw_p128 : lw_okq (⟨"TailTrimmerModel", "noFunction", "(II)Z"⟩, 87) := ⟨⟨by decide +kernel, by decide +kernel⟩, List.mem_of_getElem? (i := 1305) (by decide +kernel), List.mem_of_getElem? (i := 1804) (by decide +kernel), List.mem_of_getElem? (i := 1805) (by decide +kernel)⟩
theorem lw_p129 : lw_okq (⟨"TailTrimmerModel", "puts", "(J)V"⟩, 87) := ⟨⟨by decide +kernel, by decide +kernel⟩, List.mem_of_getElem? (i := 1305) (by decide +kernel), List.mem_of_getElem? (i := 1835) (by decide +kernel), List.mem_of_getElem? (i := 1836) (by decide +kernel)⟩
theorem lw_p130 : lw_okq (⟨"TailTrimmerModel", "put", "(I)V"⟩, 87) := ⟨⟨by decide +kernel, by decide +kernel⟩, List.mem_of_getElem? (i := 1305) (by decide +kernel), List.mem_of_getElem? (i := 1840) (by decide +kernel), List.mem_of_getElem? (i := 1841) (by decide +kernel)⟩
theorem lw_p131 : lw_okq (⟨"TailTrimmerModel", "writeOne", "(II)V"⟩, 87) := ⟨⟨by decide +kernel, by decide +kernel⟩, List.mem_of_getElem? (i := 1305) (by decide +kernel), List.mem_of_getElem? (i := 1844) (by decide +kernel), List.mem_of_getElem? (i := 1845) (by decide +kernel)⟩
theorem lw_p132 : lw_okq (⟨"TailTrimmerModel", "decimal", "(J)V"⟩, 87) := ⟨⟨by decide +kernel, by decide +kernel⟩, List.mem_of_getElem? (i := 1305) (by decide +kernel), List.mem_of_getElem? (i := 1849) (by decide +kernel), List.mem_of_getElem? (i := 1850) (by decide +kernel)⟩
theorem lw_p133 : lw_okq (⟨"TailTrimmerModel", "nameOut", "(J)V"⟩, 87) := ⟨⟨by decide +kernel, by decide +kernel⟩, List.mem_of_getElem? (i := 1305) (by decide +kernel), List.mem_of_getElem? (i := 1857) (by decide +kernel), List.mem_of_getElem? (i := 1858) (by decide +kernel)⟩
theorem lw_p134 : lw_okq (⟨"TailTrimmerModel", "lay", "(IIII)Z"⟩, 87) := ⟨⟨by decide +kernel, by decide +kernel⟩, List.mem_of_getElem? (i := 1305) (by decide +kernel), List.mem_of_getElem? (i := 1876) (by decide +kernel), List.mem_of_getElem? (i := 1877) (by decide +kernel)⟩
theorem lw_p135 : lw_okq (⟨"TailTrimmerModel", "oneStep", "(I)I"⟩, 87) := ⟨⟨by decide +kernel, by decide +kernel⟩, List.mem_of_getElem? (i := 1305) (by decide +kernel), List.mem_of_getElem? (i := 1880) (by decide +kernel), List.mem_of_getElem? (i := 1881) (by decide +kernel)⟩
theorem lw_p136 : lw_okq (⟨"TailTrimmerModel", "replaceFrame", "(IIII)I"⟩, 87) := ⟨⟨by decide +kernel, by decide +kernel⟩, List.mem_of_getElem? (i := 1305) (by decide +kernel), List.mem_of_getElem? (i := 1884) (by decide +kernel), List.mem_of_getElem? (i := 1885) (by decide +kernel)⟩
def lw_privs_9 : List (MethodName × Nat) := [(⟨"TailTrimmerModel", "noFunction", "(II)Z"⟩, 87), (⟨"TailTrimmerModel", "puts", "(J)V"⟩, 87), (⟨"TailTrimmerModel", "put", "(I)V"⟩, 87), (⟨"TailTrimmerModel", "writeOne", "(II)V"⟩, 87), (⟨"TailTrimmerModel", "decimal", "(J)V"⟩, 87), (⟨"TailTrimmerModel", "nameOut", "(J)V"⟩, 87), (⟨"TailTrimmerModel", "lay", "(IIII)Z"⟩, 87), (⟨"TailTrimmerModel", "oneStep", "(I)I"⟩, 87), (⟨"TailTrimmerModel", "replaceFrame", "(IIII)I"⟩, 87)]
theorem lw_r9 : ∀ q ∈ lw_privs_9, lw_okq q := List.forall_mem_cons.mpr ⟨lw_p128, List.forall_mem_cons.mpr ⟨lw_p129, List.forall_mem_cons.mpr ⟨lw_p130, List.forall_mem_cons.mpr ⟨lw_p131, List.forall_mem_cons.mpr ⟨lw_p132, List.forall_mem_cons.mpr ⟨lw_p133, List.forall_mem_cons.mpr ⟨lw_p134, List.forall_mem_cons.mpr ⟨lw_p135, List.forall_mem_cons.mpr ⟨lw_p136, fun _ h => absurd h List.not_mem_nil⟩⟩⟩⟩⟩⟩⟩⟩⟩
def lw_privs : List (MethodName × Nat) := lw_privs_1 ++ (lw_privs_2 ++ (lw_privs_3 ++ (lw_privs_4 ++ (lw_privs_5 ++ (lw_privs_6 ++ (lw_privs_7 ++ (lw_privs_8 ++ (lw_privs_9))))))))
def lw_tbl : List Cond := k2_sels lw_privs ++ tables_1
theorem lw_privs_ok : ∀ q ∈ lw_privs, lw_okq q := by
  show ∀ q ∈ lw_privs_1 ++ (lw_privs_2 ++ (lw_privs_3 ++ (lw_privs_4 ++ (lw_privs_5 ++ (lw_privs_6 ++ (lw_privs_7 ++ (lw_privs_8 ++ (lw_privs_9)))))))), lw_okq q
  exact List.forall_mem_append.mpr ⟨lw_r1, List.forall_mem_append.mpr ⟨lw_r2, List.forall_mem_append.mpr ⟨lw_r3, List.forall_mem_append.mpr ⟨lw_r4, List.forall_mem_append.mpr ⟨lw_r5, List.forall_mem_append.mpr ⟨lw_r6, List.forall_mem_append.mpr ⟨lw_r7, List.forall_mem_append.mpr ⟨lw_r8, lw_r9⟩⟩⟩⟩⟩⟩⟩⟩
/-! ===== BEGIN words of one list among another's, by their places ===== -/
theorem goodIn_r {big : List Cond} (ws : List Cond) (ps : List Nat) (hp : ws = ps.filterMap (fun i => big[i]?)) (h : ws.all goodWord = true) : GoodIn big ws := by
  intro w hw
  have h1 := List.all_eq_true.mp h w hw
  rw [hp] at hw
  obtain ⟨i, -, hi⟩ := List.mem_filterMap.mp hw
  have hm : w ∈ big := by first | exact List.mem_of_getElem? hi | exact List.getElem?_mem hi
  exact ⟨hm, good_of_word h1⟩
theorem goodIn_app {big a b : List Cond} (ha : GoodIn big a) (hb : GoodIn big b) : GoodIn big (a ++ b) := fun w h => (List.mem_append.mp h).elim (ha w) (hb w)
theorem goodIn_ca {big a b : List Cond} {c : Cond} (ha : GoodIn big (c :: a)) (hb : GoodIn big b) : GoodIn big (c :: (a ++ b)) := fun w h => (List.mem_cons.mp h).elim (fun e => ha w (List.mem_cons.mpr (Or.inl e))) (fun h => (List.mem_append.mp h).elim (fun h => ha w (List.mem_cons.mpr (Or.inr h))) (hb w))
theorem goodIn_sub {big ws : List Cond} (hm : ∀ w ∈ ws, w ∈ big) (h : ws.all goodWord = true) : GoodIn big ws := fun w hw => ⟨hm w hw, good_of_word (List.all_eq_true.mp h w hw)⟩
/-! ===== END ===== -/

def RX0 : String := "TailTrimmer$Bounds"
def TX0 : u_T := fun k => match k with
  | 0 => ("TailTrimmer$Bounds", "called", "[I", true)
  | 1 => ("TailTrimmer$Bounds", "tailed", "[I", true)
  | _ => ("TailTrimmer$Bounds", "reach", "[I", true)
def tyX0 : Nat → FieldType := fun k => match k with
  | 0 => .array .int
  | 1 => .array .int
  | _ => .array .int
abbrev wsX00 : List Cond := u_ws RX0 TX0 3
theorem nmX0 : ∀ a, a < 3 → ∀ b, b < 3 → a ≠ b → (TX0 a).2.1 ≠ (TX0 b).2.1 := by decide +kernel
theorem tyX0_ok : ∀ k, k < 3 → parseFieldDescriptor (TX0 k).2.2.1 = some (tyX0 k) := by decide +kernel
abbrev cX0_init : ByteArray := prog_2_method_1_code
def yX0_init : MethodName := ⟨RX0, "<init>", "()V"⟩
abbrev cX0_find : ByteArray := prog_2_method_2_code
def yX0_find : MethodName := ⟨RX0, "find", "(LTailTrimmer$Program;)V"⟩
abbrev cX0_gather : ByteArray := prog_2_method_3_code
def yX0_gather : MethodName := ⟨RX0, "gather", "(LTailTrimmer$Program;I)V"⟩
abbrev cX0_findEndless : ByteArray := prog_2_method_4_code
def yX0_findEndless : MethodName := ⟨RX0, "findEndless", "(I)I"⟩
abbrev cX0_raise : ByteArray := prog_2_method_5_code
def yX0_raise : MethodName := ⟨RX0, "raise", "(LTailTrimmer$Program;I)Z"⟩
def RX1 : String := "TailTrimmer$Coder"
def TX1 : u_T := fun k => match k with
  | 0 => ("TailTrimmer$Coder", "walk", "LTailTrimmer$Walk;", true)
  | 1 => ("TailTrimmer$Coder", "atEnd", "[Z", true)
  | 2 => ("TailTrimmer$Coder", "around", "[I", true)
  | 3 => ("TailTrimmer$Coder", "hole", "[I", true)
  | 4 => ("TailTrimmer$Coder", "below", "[I", true)
  | 5 => ("TailTrimmer$Coder", "slotOf", "[I", true)
  | 6 => ("TailTrimmer$Coder", "program", "LTailTrimmer$Program;", false)
  | 7 => ("TailTrimmer$Coder", "tails", "Z", false)
  | 8 => ("TailTrimmer$Coder", "caller", "I", false)
  | 9 => ("TailTrimmer$Coder", "used", "I", false)
  | 10 => ("TailTrimmer$Coder", "height", "I", false)
  | 11 => ("TailTrimmer$Coder", "mostHeight", "I", false)
  | _ => ("TailTrimmer$Coder", "slots", "I", false)
def tyX1 : Nat → FieldType := fun k => match k with
  | 0 => .object "TailTrimmer$Walk"
  | 1 => .array .boolean
  | 2 => .array .int
  | 3 => .array .int
  | 4 => .array .int
  | 5 => .array .int
  | 6 => .object "TailTrimmer$Program"
  | 7 => .boolean
  | 8 => .int
  | 9 => .int
  | 10 => .int
  | 11 => .int
  | _ => .int
abbrev wsX10 : List Cond := u_ws RX1 TX1 13
theorem nmX1 : ∀ a, a < 13 → ∀ b, b < 13 → a ≠ b → (TX1 a).2.1 ≠ (TX1 b).2.1 := by decide +kernel
theorem tyX1_ok : ∀ k, k < 13 → parseFieldDescriptor (TX1 k).2.2.1 = some (tyX1 k) := by decide +kernel
abbrev cX1_init : ByteArray := prog_3_method_1_code
def yX1_init : MethodName := ⟨RX1, "<init>", "()V"⟩
abbrev cX1_encode : ByteArray := prog_3_method_2_code
def yX1_encode : MethodName := ⟨RX1, "encode", "(LTailTrimmer$Program;Z)V"⟩
abbrev cX1_encodeIn : ByteArray := prog_3_method_3_code
def yX1_encodeIn : MethodName := ⟨RX1, "encodeIn", "(I)V"⟩
abbrev cX1_enter : ByteArray := prog_3_method_4_code
def yX1_enter : MethodName := ⟨RX1, "enter", "(I)V"⟩
abbrev cX1_behindKid : ByteArray := prog_3_method_5_code
def yX1_behindKid : MethodName := ⟨RX1, "behindKid", "(II)V"⟩
abbrev cX1_leave : ByteArray := prog_3_method_6_code
def yX1_leave : MethodName := ⟨RX1, "leave", "(I)V"⟩
abbrev cX1_encodeCall : ByteArray := prog_3_method_7_code
def yX1_encodeCall : MethodName := ⟨RX1, "encodeCall", "(IZ)V"⟩
abbrev cX1_useSlot : ByteArray := prog_3_method_8_code
def yX1_useSlot : MethodName := ⟨RX1, "useSlot", "(I)I"⟩
abbrev cX1_rise : ByteArray := prog_3_method_9_code
def yX1_rise : MethodName := ⟨RX1, "rise", "(I)V"⟩
abbrev cX1_emit : ByteArray := prog_3_method_10_code
def yX1_emit : MethodName := ⟨RX1, "emit", "(II)I"⟩
abbrev cX1_fillWithHere : ByteArray := prog_3_method_11_code
def yX1_fillWithHere : MethodName := ⟨RX1, "fillWithHere", "(I)V"⟩
def RX2 : String := "TailTrimmer$Folder"
def TX2 : u_T := fun k => match k with
  | 0 => ("TailTrimmer$Folder", "walk", "LTailTrimmer$Walk;", true)
  | 1 => ("TailTrimmer$Folder", "first", "[I", true)
  | 2 => ("TailTrimmer$Folder", "second", "[I", true)
  | 3 => ("TailTrimmer$Folder", "gone", "[Z", true)
  | 4 => ("TailTrimmer$Folder", "known", "[Z", true)
  | 5 => ("TailTrimmer$Folder", "number", "[I", true)
  | 6 => ("TailTrimmer$Folder", "program", "LTailTrimmer$Program;", false)
  | _ => ("TailTrimmer$Folder", "to", "I", false)
def tyX2 : Nat → FieldType := fun k => match k with
  | 0 => .object "TailTrimmer$Walk"
  | 1 => .array .int
  | 2 => .array .int
  | 3 => .array .boolean
  | 4 => .array .boolean
  | 5 => .array .int
  | 6 => .object "TailTrimmer$Program"
  | _ => .int
abbrev wsX20 : List Cond := u_ws RX2 TX2 8
theorem nmX2 : ∀ a, a < 8 → ∀ b, b < 8 → a ≠ b → (TX2 a).2.1 ≠ (TX2 b).2.1 := by decide +kernel
theorem tyX2_ok : ∀ k, k < 8 → parseFieldDescriptor (TX2 k).2.2.1 = some (tyX2 k) := by decide +kernel
abbrev cX2_init : ByteArray := prog_4_method_1_code
def yX2_init : MethodName := ⟨RX2, "<init>", "()V"⟩
abbrev cX2_foldAll : ByteArray := prog_4_method_2_code
def yX2_foldAll : MethodName := ⟨RX2, "foldAll", "(LTailTrimmer$Program;)V"⟩
abbrev cX2_foldIn : ByteArray := prog_4_method_3_code
def yX2_foldIn : MethodName := ⟨RX2, "foldIn", "(I)V"⟩
abbrev cX2_enter : ByteArray := prog_4_method_4_code
def yX2_enter : MethodName := ⟨RX2, "enter", "(I)V"⟩
abbrev cX2_behindKid : ByteArray := prog_4_method_5_code
def yX2_behindKid : MethodName := ⟨RX2, "behindKid", "(II)V"⟩
abbrev cX2_leave : ByteArray := prog_4_method_6_code
def yX2_leave : MethodName := ⟨RX2, "leave", "(I)V"⟩
abbrev cX2_giveWay : ByteArray := prog_4_method_7_code
def yX2_giveWay : MethodName := ⟨RX2, "giveWay", "(I)V"⟩
abbrev cX2_bind : ByteArray := prog_4_method_8_code
def yX2_bind : MethodName := ⟨RX2, "bind", "(I)V"⟩
abbrev cX2_chooseBranch : ByteArray := prog_4_method_9_code
def yX2_chooseBranch : MethodName := ⟨RX2, "chooseBranch", "(I)V"⟩
abbrev cX2_foldTwo : ByteArray := prog_4_method_10_code
def yX2_foldTwo : MethodName := ⟨RX2, "foldTwo", "(I)V"⟩
abbrev cX2_dropUnused : ByteArray := prog_4_method_11_code
def yX2_dropUnused : MethodName := ⟨RX2, "dropUnused", "(I)V"⟩
abbrev cX2_isNumber : ByteArray := prog_4_method_12_code
def yX2_isNumber : MethodName := ⟨RX2, "isNumber", "(I)Z"⟩
abbrev cX2_isCalm : ByteArray := prog_4_method_13_code
def yX2_isCalm : MethodName := ⟨RX2, "isCalm", "(II)Z"⟩
abbrev cX2_standsIn : ByteArray := prog_4_method_14_code
def yX2_standsIn : MethodName := ⟨RX2, "standsIn", "(II)Z"⟩
abbrev cX2_emit : ByteArray := prog_4_method_15_code
def yX2_emit : MethodName := ⟨RX2, "emit", "(II)V"⟩
def RX3 : String := "TailTrimmer$Graph"
def TX3 : u_T := fun k => match k with
  | 0 => ("TailTrimmer$Graph", "walk", "LTailTrimmer$Walk;", true)
  | 1 => ("TailTrimmer$Graph", "inOrder", "[I", true)
  | 2 => ("TailTrimmer$Graph", "called", "[I", true)
  | 3 => ("TailTrimmer$Graph", "reach", "[I", true)
  | 4 => ("TailTrimmer$Graph", "callee", "[[I", true)
  | 5 => ("TailTrimmer$Graph", "callees", "[I", true)
  | 6 => ("TailTrimmer$Graph", "looked", "I", false)
  | _ => ("TailTrimmer$Graph", "ordered", "I", false)
def tyX3 : Nat → FieldType := fun k => match k with
  | 0 => .object "TailTrimmer$Walk"
  | 1 => .array .int
  | 2 => .array .int
  | 3 => .array .int
  | 4 => .array (.array .int)
  | 5 => .array .int
  | 6 => .int
  | _ => .int
abbrev wsX30 : List Cond := u_ws RX3 TX3 8
theorem nmX3 : ∀ a, a < 8 → ∀ b, b < 8 → a ≠ b → (TX3 a).2.1 ≠ (TX3 b).2.1 := by decide +kernel
theorem tyX3_ok : ∀ k, k < 8 → parseFieldDescriptor (TX3 k).2.2.1 = some (tyX3 k) := by decide +kernel
abbrev cX3_init : ByteArray := prog_5_method_1_code
def yX3_init : MethodName := ⟨RX3, "<init>", "()V"⟩
abbrev cX3_draw : ByteArray := prog_5_method_2_code
def yX3_draw : MethodName := ⟨RX3, "draw", "(LTailTrimmer$Program;)V"⟩
abbrev cX3_doesCall : ByteArray := prog_5_method_3_code
def yX3_doesCall : MethodName := ⟨RX3, "doesCall", "(II)Z"⟩
abbrev cX3_inOneCircle : ByteArray := prog_5_method_4_code
def yX3_inOneCircle : MethodName := ⟨RX3, "inOneCircle", "(II)Z"⟩
abbrev cX3_gather : ByteArray := prog_5_method_5_code
def yX3_gather : MethodName := ⟨RX3, "gather", "(LTailTrimmer$Program;I)V"⟩
abbrev cX3_addCallee : ByteArray := prog_5_method_6_code
def yX3_addCallee : MethodName := ⟨RX3, "addCallee", "(II)V"⟩
abbrev cX3_look : ByteArray := prog_5_method_7_code
def yX3_look : MethodName := ⟨RX3, "look", "(II)V"⟩
def RX4 : String := "TailTrimmer$Inliner"
def TX4 : u_T := fun k => match k with
  | 0 => ("TailTrimmer$Inliner", "walk", "LTailTrimmer$Walk;", true)
  | 1 => ("TailTrimmer$Inliner", "base", "[I", true)
  | 2 => ("TailTrimmer$Inliner", "source", "LTailTrimmer$Program;", false)
  | 3 => ("TailTrimmer$Inliner", "target", "LTailTrimmer$Program;", false)
  | 4 => ("TailTrimmer$Inliner", "graph", "LTailTrimmer$Graph;", false)
  | 5 => ("TailTrimmer$Inliner", "limit", "I", false)
  | 6 => ("TailTrimmer$Inliner", "size", "I", false)
  | 7 => ("TailTrimmer$Inliner", "variables", "I", false)
  | 8 => ("TailTrimmer$Inliner", "replaced", "I", false)
  | _ => ("TailTrimmer$Inliner", "to", "I", false)
def tyX4 : Nat → FieldType := fun k => match k with
  | 0 => .object "TailTrimmer$Walk"
  | 1 => .array .int
  | 2 => .object "TailTrimmer$Program"
  | 3 => .object "TailTrimmer$Program"
  | 4 => .object "TailTrimmer$Graph"
  | 5 => .int
  | 6 => .int
  | 7 => .int
  | 8 => .int
  | _ => .int
abbrev wsX40 : List Cond := u_ws RX4 TX4 10
theorem nmX4 : ∀ a, a < 10 → ∀ b, b < 10 → a ≠ b → (TX4 a).2.1 ≠ (TX4 b).2.1 := by decide +kernel
theorem tyX4_ok : ∀ k, k < 10 → parseFieldDescriptor (TX4 k).2.2.1 = some (tyX4 k) := by decide +kernel
abbrev cX4_init : ByteArray := prog_6_method_1_code
def yX4_init : MethodName := ⟨RX4, "<init>", "()V"⟩
abbrev cX4_inlineAll : ByteArray := prog_6_method_2_code
def yX4_inlineAll : MethodName := ⟨RX4, "inlineAll", "(LTailTrimmer$Program;LTailTrimmer$Program;LTailTrimmer$Graph;I)I"⟩
abbrev cX4_inlineIn : ByteArray := prog_6_method_3_code
def yX4_inlineIn : MethodName := ⟨RX4, "inlineIn", "(I)V"⟩
abbrev cX4_chooseCalls : ByteArray := prog_6_method_4_code
def yX4_chooseCalls : MethodName := ⟨RX4, "chooseCalls", "(I)V"⟩
abbrev cX4_copyWithChosen : ByteArray := prog_6_method_5_code
def yX4_copyWithChosen : MethodName := ⟨RX4, "copyWithChosen", "(I)V"⟩
abbrev cX4_replace : ByteArray := prog_6_method_6_code
def yX4_replace : MethodName := ⟨RX4, "replace", "(II)V"⟩
abbrev cX4_choose : ByteArray := prog_6_method_7_code
def yX4_choose : MethodName := ⟨RX4, "choose", "(I)I"⟩
abbrev cX4_emitBody : ByteArray := prog_6_method_8_code
def yX4_emitBody : MethodName := ⟨RX4, "emitBody", "(II)V"⟩
abbrev cX4_emit : ByteArray := prog_6_method_9_code
def yX4_emit : MethodName := ⟨RX4, "emit", "(II)V"⟩
def RX5 : String := "TailTrimmer$Machine"
def TX5 : u_T := fun k => match k with
  | 0 => ("TailTrimmer$Machine", "puts", "[I", true)
  | 1 => ("TailTrimmer$Machine", "outcome", "I", false)
  | 2 => ("TailTrimmer$Machine", "steps", "I", false)
  | 3 => ("TailTrimmer$Machine", "mostWords", "I", false)
  | 4 => ("TailTrimmer$Machine", "putCount", "I", false)
  | 5 => ("TailTrimmer$Machine", "memory", "[I", true)
  | 6 => ("TailTrimmer$Machine", "program", "LTailTrimmer$Program;", false)
  | 7 => ("TailTrimmer$Machine", "allowed", "I", false)
  | 8 => ("TailTrimmer$Machine", "current", "I", false)
  | 9 => ("TailTrimmer$Machine", "at", "I", false)
  | 10 => ("TailTrimmer$Machine", "base", "I", false)
  | _ => ("TailTrimmer$Machine", "top", "I", false)
def tyX5 : Nat → FieldType := fun k => match k with
  | 0 => .array .int
  | 1 => .int
  | 2 => .int
  | 3 => .int
  | 4 => .int
  | 5 => .array .int
  | 6 => .object "TailTrimmer$Program"
  | 7 => .int
  | 8 => .int
  | 9 => .int
  | 10 => .int
  | _ => .int
abbrev wsX50 : List Cond := u_ws RX5 TX5 12
theorem nmX5 : ∀ a, a < 12 → ∀ b, b < 12 → a ≠ b → (TX5 a).2.1 ≠ (TX5 b).2.1 := by decide +kernel
theorem tyX5_ok : ∀ k, k < 12 → parseFieldDescriptor (TX5 k).2.2.1 = some (tyX5 k) := by decide +kernel
abbrev cX5_init : ByteArray := prog_7_method_1_code
def yX5_init : MethodName := ⟨RX5, "<init>", "()V"⟩
abbrev cX5_load : ByteArray := prog_7_method_2_code
def yX5_load : MethodName := ⟨RX5, "load", "(LTailTrimmer$Program;I)V"⟩
abbrev cX5_perform : ByteArray := prog_7_method_3_code
def yX5_perform : MethodName := ⟨RX5, "perform", "(I[II)I"⟩
abbrev cX5_fits : ByteArray := prog_7_method_4_code
def yX5_fits : MethodName := ⟨RX5, "fits", "(II)Z"⟩
abbrev cX5_enterFrame : ByteArray := prog_7_method_5_code
def yX5_enterFrame : MethodName := ⟨RX5, "enterFrame", "(II)V"⟩
abbrev cX5_step : ByteArray := prog_7_method_6_code
def yX5_step : MethodName := ⟨RX5, "step", "()I"⟩
abbrev cX5_push : ByteArray := prog_7_method_7_code
def yX5_push : MethodName := ⟨RX5, "push", "(I)V"⟩
abbrev cX5_pop : ByteArray := prog_7_method_8_code
def yX5_pop : MethodName := ⟨RX5, "pop", "()I"⟩
abbrev cX5_combine : ByteArray := prog_7_method_9_code
def yX5_combine : MethodName := ⟨RX5, "combine", "(I)I"⟩
abbrev cX5_putTop : ByteArray := prog_7_method_10_code
def yX5_putTop : MethodName := ⟨RX5, "putTop", "()I"⟩
abbrev cX5_enterCalled : ByteArray := prog_7_method_11_code
def yX5_enterCalled : MethodName := ⟨RX5, "enterCalled", "(I)I"⟩
abbrev cX5_goBack : ByteArray := prog_7_method_12_code
def yX5_goBack : MethodName := ⟨RX5, "goBack", "()I"⟩
abbrev cX5_takeOwnPlace : ByteArray := prog_7_method_13_code
def yX5_takeOwnPlace : MethodName := ⟨RX5, "takeOwnPlace", "(I)I"⟩
def RX6 : String := "TailTrimmer$Program"
def TX6 : u_T := fun k => match k with
  | 0 => ("TailTrimmer$Program", "kind", "[I", true)
  | 1 => ("TailTrimmer$Program", "value", "[I", true)
  | 2 => ("TailTrimmer$Program", "name", "[J", true)
  | 3 => ("TailTrimmer$Program", "parameters", "[I", true)
  | 4 => ("TailTrimmer$Program", "variables", "[I", true)
  | 5 => ("TailTrimmer$Program", "start", "[I", true)
  | 6 => ("TailTrimmer$Program", "size", "[I", true)
  | 7 => ("TailTrimmer$Program", "replaced", "[I", true)
  | 8 => ("TailTrimmer$Program", "operation", "[I", true)
  | 9 => ("TailTrimmer$Program", "operand", "[I", true)
  | 10 => ("TailTrimmer$Program", "codeStart", "[I", true)
  | 11 => ("TailTrimmer$Program", "codeSize", "[I", true)
  | 12 => ("TailTrimmer$Program", "slots", "[I", true)
  | 13 => ("TailTrimmer$Program", "temps", "[I", true)
  | 14 => ("TailTrimmer$Program", "bound", "[I", true)
  | _ => ("TailTrimmer$Program", "count", "I", false)
def tyX6 : Nat → FieldType := fun k => match k with
  | 0 => .array .int
  | 1 => .array .int
  | 2 => .array .long
  | 3 => .array .int
  | 4 => .array .int
  | 5 => .array .int
  | 6 => .array .int
  | 7 => .array .int
  | 8 => .array .int
  | 9 => .array .int
  | 10 => .array .int
  | 11 => .array .int
  | 12 => .array .int
  | 13 => .array .int
  | 14 => .array .int
  | _ => .int
abbrev wsX60 : List Cond := u_ws RX6 TX6 16
theorem nmX6 : ∀ a, a < 16 → ∀ b, b < 16 → a ≠ b → (TX6 a).2.1 ≠ (TX6 b).2.1 := by decide +kernel
theorem tyX6_ok : ∀ k, k < 16 → parseFieldDescriptor (TX6 k).2.2.1 = some (tyX6 k) := by decide +kernel
abbrev cX6_init : ByteArray := prog_8_method_1_code
def yX6_init : MethodName := ⟨RX6, "<init>", "(II)V"⟩
abbrev cX6_has : ByteArray := prog_8_method_2_code
def yX6_has : MethodName := ⟨RX6, "has", "(I)Z"⟩
abbrev cX6_find : ByteArray := prog_8_method_3_code
def yX6_find : MethodName := ⟨RX6, "find", "(J)I"⟩
abbrev cX6_kids : ByteArray := prog_8_method_4_code
def yX6_kids : MethodName := ⟨RX6, "kids", "(II)I"⟩
abbrev cX6_countCalls : ByteArray := prog_8_method_5_code
def yX6_countCalls : MethodName := ⟨RX6, "countCalls", "(I)I"⟩
abbrev cX6_frame : ByteArray := prog_8_method_6_code
def yX6_frame : MethodName := ⟨RX6, "frame", "(I)I"⟩
def RX7 : String := "TailTrimmer$Reader"
def TX7 : u_T := fun k => match k with
  | 0 => ("TailTrimmer$Reader", "tokens", "LTailTrimmer$Tokens;", true)
  | 1 => ("TailTrimmer$Reader", "callName", "[J", true)
  | 2 => ("TailTrimmer$Reader", "callPlace", "[I", true)
  | 3 => ("TailTrimmer$Reader", "callArguments", "[I", true)
  | 4 => ("TailTrimmer$Reader", "callTarget", "[I", true)
  | 5 => ("TailTrimmer$Reader", "seenName", "[J", true)
  | 6 => ("TailTrimmer$Reader", "seenVariable", "[I", true)
  | 7 => ("TailTrimmer$Reader", "program", "LTailTrimmer$Program;", false)
  | 8 => ("TailTrimmer$Reader", "callCount", "I", false)
  | 9 => ("TailTrimmer$Reader", "seen", "I", false)
  | 10 => ("TailTrimmer$Reader", "open", "I", false)
  | 11 => ("TailTrimmer$Reader", "used", "I", false)
  | 12 => ("TailTrimmer$Reader", "nodes", "I", false)
  | 13 => ("TailTrimmer$Reader", "variables", "I", false)
  | _ => ("TailTrimmer$Reader", "lets", "I", false)
def tyX7 : Nat → FieldType := fun k => match k with
  | 0 => .object "TailTrimmer$Tokens"
  | 1 => .array .long
  | 2 => .array .int
  | 3 => .array .int
  | 4 => .array .int
  | 5 => .array .long
  | 6 => .array .int
  | 7 => .object "TailTrimmer$Program"
  | 8 => .int
  | 9 => .int
  | 10 => .int
  | 11 => .int
  | 12 => .int
  | 13 => .int
  | _ => .int
abbrev wsX70 : List Cond := u_ws RX7 TX7 15
theorem nmX7 : ∀ a, a < 15 → ∀ b, b < 15 → a ≠ b → (TX7 a).2.1 ≠ (TX7 b).2.1 := by decide +kernel
theorem tyX7_ok : ∀ k, k < 15 → parseFieldDescriptor (TX7 k).2.2.1 = some (tyX7 k) := by decide +kernel
abbrev cX7_init : ByteArray := prog_9_method_1_code
def yX7_init : MethodName := ⟨RX7, "<init>", "()V"⟩
abbrev cX7_faultPlace : ByteArray := prog_9_method_2_code
def yX7_faultPlace : MethodName := ⟨RX7, "faultPlace", "()I"⟩
abbrev cX7_readInto : ByteArray := prog_9_method_3_code
def yX7_readInto : MethodName := ⟨RX7, "readInto", "(LTailTrimmer$Program;[BI)I"⟩
abbrev cX7_readDefinition : ByteArray := prog_9_method_4_code
def yX7_readDefinition : MethodName := ⟨RX7, "readDefinition", "()V"⟩
abbrev cX7_readFunctionName : ByteArray := prog_9_method_5_code
def yX7_readFunctionName : MethodName := ⟨RX7, "readFunctionName", "()Z"⟩
abbrev cX7_readParameters : ByteArray := prog_9_method_6_code
def yX7_readParameters : MethodName := ⟨RX7, "readParameters", "()Z"⟩
abbrev cX7_checkParameterName : ByteArray := prog_9_method_7_code
def yX7_checkParameterName : MethodName := ⟨RX7, "checkParameterName", "()V"⟩
abbrev cX7_see : ByteArray := prog_9_method_8_code
def yX7_see : MethodName := ⟨RX7, "see", "(JI)V"⟩
abbrev cX7_findVariable : ByteArray := prog_9_method_9_code
def yX7_findVariable : MethodName := ⟨RX7, "findVariable", "(J)I"⟩
abbrev cX7_opens : ByteArray := prog_9_method_10_code
def yX7_opens : MethodName := ⟨RX7, "opens", "()Z"⟩
abbrev cX7_addNode : ByteArray := prog_9_method_11_code
def yX7_addNode : MethodName := ⟨RX7, "addNode", "(II)V"⟩
abbrev cX7_insertNode : ByteArray := prog_9_method_12_code
def yX7_insertNode : MethodName := ⟨RX7, "insertNode", "(III)V"⟩
abbrev cX7_readExpression : ByteArray := prog_9_method_13_code
def yX7_readExpression : MethodName := ⟨RX7, "readExpression", "()V"⟩
abbrev cX7_readLet : ByteArray := prog_9_method_14_code
def yX7_readLet : MethodName := ⟨RX7, "readLet", "()V"⟩
abbrev cX7_readIf : ByteArray := prog_9_method_15_code
def yX7_readIf : MethodName := ⟨RX7, "readIf", "()V"⟩
abbrev cX7_readComparison : ByteArray := prog_9_method_16_code
def yX7_readComparison : MethodName := ⟨RX7, "readComparison", "()V"⟩
abbrev cX7_readSum : ByteArray := prog_9_method_17_code
def yX7_readSum : MethodName := ⟨RX7, "readSum", "()V"⟩
abbrev cX7_readProduct : ByteArray := prog_9_method_18_code
def yX7_readProduct : MethodName := ⟨RX7, "readProduct", "()V"⟩
abbrev cX7_isProductSign : ByteArray := prog_9_method_19_code
def yX7_isProductSign : MethodName := ⟨RX7, "isProductSign", "(I)Z"⟩
abbrev cX7_readUnary : ByteArray := prog_9_method_20_code
def yX7_readUnary : MethodName := ⟨RX7, "readUnary", "()V"⟩
abbrev cX7_readPart : ByteArray := prog_9_method_21_code
def yX7_readPart : MethodName := ⟨RX7, "readPart", "()V"⟩
abbrev cX7_readBracketed : ByteArray := prog_9_method_22_code
def yX7_readBracketed : MethodName := ⟨RX7, "readBracketed", "()V"⟩
abbrev cX7_openBracket : ByteArray := prog_9_method_23_code
def yX7_openBracket : MethodName := ⟨RX7, "openBracket", "()Z"⟩
abbrev cX7_readName : ByteArray := prog_9_method_24_code
def yX7_readName : MethodName := ⟨RX7, "readName", "()V"⟩
abbrev cX7_addVariable : ByteArray := prog_9_method_25_code
def yX7_addVariable : MethodName := ⟨RX7, "addVariable", "(JI)V"⟩
abbrev cX7_beginCall : ByteArray := prog_9_method_26_code
def yX7_beginCall : MethodName := ⟨RX7, "beginCall", "(JI)I"⟩
abbrev cX7_findTargets : ByteArray := prog_9_method_27_code
def yX7_findTargets : MethodName := ⟨RX7, "findTargets", "()V"⟩
abbrev cX7_setTargets : ByteArray := prog_9_method_28_code
def yX7_setTargets : MethodName := ⟨RX7, "setTargets", "()V"⟩
def RX8 : String := "TailTrimmer$Tokens"
def TX8 : u_T := fun k => match k with
  | 0 => ("TailTrimmer$Tokens", "text", "[B", false)
  | 1 => ("TailTrimmer$Tokens", "length", "I", false)
  | 2 => ("TailTrimmer$Tokens", "at", "I", false)
  | 3 => ("TailTrimmer$Tokens", "held", "Z", false)
  | 4 => ("TailTrimmer$Tokens", "kind", "I", false)
  | 5 => ("TailTrimmer$Tokens", "place", "I", false)
  | 6 => ("TailTrimmer$Tokens", "number", "I", false)
  | 7 => ("TailTrimmer$Tokens", "name", "J", false)
  | 8 => ("TailTrimmer$Tokens", "fault", "I", false)
  | _ => ("TailTrimmer$Tokens", "faultPlace", "I", false)
def tyX8 : Nat → FieldType := fun k => match k with
  | 0 => .array .byte
  | 1 => .int
  | 2 => .int
  | 3 => .boolean
  | 4 => .int
  | 5 => .int
  | 6 => .int
  | 7 => .long
  | 8 => .int
  | _ => .int
abbrev wsX80 : List Cond := u_ws RX8 TX8 10
theorem nmX8 : ∀ a, a < 10 → ∀ b, b < 10 → a ≠ b → (TX8 a).2.1 ≠ (TX8 b).2.1 := by decide +kernel
theorem tyX8_ok : ∀ k, k < 10 → parseFieldDescriptor (TX8 k).2.2.1 = some (tyX8 k) := by decide +kernel
abbrev cX8_init : ByteArray := prog_10_method_1_code
def yX8_init : MethodName := ⟨RX8, "<init>", "()V"⟩
abbrev cX8_begin : ByteArray := prog_10_method_2_code
def yX8_begin : MethodName := ⟨RX8, "begin", "([BI)V"⟩
abbrev cX8_peek : ByteArray := prog_10_method_3_code
def yX8_peek : MethodName := ⟨RX8, "peek", "()I"⟩
abbrev cX8_isAt : ByteArray := prog_10_method_4_code
def yX8_isAt : MethodName := ⟨RX8, "isAt", "(I)Z"⟩
abbrev cX8_take : ByteArray := prog_10_method_5_code
def yX8_take : MethodName := ⟨RX8, "take", "()V"⟩
abbrev cX8_need : ByteArray := prog_10_method_6_code
def yX8_need : MethodName := ⟨RX8, "need", "(I)Z"⟩
abbrev cX8_failHere : ByteArray := prog_10_method_7_code
def yX8_failHere : MethodName := ⟨RX8, "failHere", "(I)V"⟩
abbrev cX8_failAt : ByteArray := prog_10_method_8_code
def yX8_failAt : MethodName := ⟨RX8, "failAt", "(II)V"⟩
abbrev cX8_scanName : ByteArray := prog_10_method_9_code
def yX8_scanName : MethodName := ⟨RX8, "scanName", "()V"⟩
abbrev cX8_scanNumber : ByteArray := prog_10_method_10_code
def yX8_scanNumber : MethodName := ⟨RX8, "scanNumber", "()V"⟩
abbrev cX8_scanSign : ByteArray := prog_10_method_11_code
def yX8_scanSign : MethodName := ⟨RX8, "scanSign", "()V"⟩
abbrev cX8_isBlank : ByteArray := prog_10_method_12_code
def yX8_isBlank : MethodName := ⟨RX8, "isBlank", "(I)Z"⟩
abbrev cX8_isLetter : ByteArray := prog_10_method_13_code
def yX8_isLetter : MethodName := ⟨RX8, "isLetter", "(I)Z"⟩
abbrev cX8_isDigit : ByteArray := prog_10_method_14_code
def yX8_isDigit : MethodName := ⟨RX8, "isDigit", "(I)Z"⟩
def RX9 : String := "TailTrimmer$Walk"
def TX9 : u_T := fun k => match k with
  | 0 => ("TailTrimmer$Walk", "nodes", "[I", true)
  | 1 => ("TailTrimmer$Walk", "kinds", "[I", true)
  | 2 => ("TailTrimmer$Walk", "values", "[I", true)
  | 3 => ("TailTrimmer$Walk", "done", "[I", true)
  | 4 => ("TailTrimmer$Walk", "wants", "[I", true)
  | 5 => ("TailTrimmer$Walk", "event", "I", false)
  | 6 => ("TailTrimmer$Walk", "level", "I", false)
  | 7 => ("TailTrimmer$Walk", "kid", "I", false)
  | 8 => ("TailTrimmer$Walk", "program", "LTailTrimmer$Program;", false)
  | 9 => ("TailTrimmer$Walk", "next", "I", false)
  | _ => ("TailTrimmer$Walk", "depth", "I", false)
def tyX9 : Nat → FieldType := fun k => match k with
  | 0 => .array .int
  | 1 => .array .int
  | 2 => .array .int
  | 3 => .array .int
  | 4 => .array .int
  | 5 => .int
  | 6 => .int
  | 7 => .int
  | 8 => .object "TailTrimmer$Program"
  | 9 => .int
  | _ => .int
abbrev wsX90 : List Cond := u_ws RX9 TX9 11
theorem nmX9 : ∀ a, a < 11 → ∀ b, b < 11 → a ≠ b → (TX9 a).2.1 ≠ (TX9 b).2.1 := by decide +kernel
theorem tyX9_ok : ∀ k, k < 11 → parseFieldDescriptor (TX9 k).2.2.1 = some (tyX9 k) := by decide +kernel
abbrev cX9_init : ByteArray := prog_11_method_1_code
def yX9_init : MethodName := ⟨RX9, "<init>", "()V"⟩
abbrev cX9_begin : ByteArray := prog_11_method_2_code
def yX9_begin : MethodName := ⟨RX9, "begin", "(LTailTrimmer$Program;I)V"⟩
abbrev cX9_advance : ByteArray := prog_11_method_3_code
def yX9_advance : MethodName := ⟨RX9, "advance", "()Z"⟩
abbrev cX9_enterNext : ByteArray := prog_11_method_4_code
def yX9_enterNext : MethodName := ⟨RX9, "enterNext", "()Z"⟩
abbrev cX9_skipKid : ByteArray := prog_11_method_5_code
def yX9_skipKid : MethodName := ⟨RX9, "skipKid", "()V"⟩
def RX10 : String := "TailTrimmer$Writer"
def TX10 : u_T := fun k => match k with
  | 0 => ("TailTrimmer$Writer", "walk", "LTailTrimmer$Walk;", true)
  | 1 => ("TailTrimmer$Writer", "written", "[B", false)
  | 2 => ("TailTrimmer$Writer", "draft", "[B", false)
  | 3 => ("TailTrimmer$Writer", "digits", "[C", true)
  | 4 => ("TailTrimmer$Writer", "program", "LTailTrimmer$Program;", false)
  | 5 => ("TailTrimmer$Writer", "draftLength", "I", false)
  | 6 => ("TailTrimmer$Writer", "tooLong", "Z", false)
  | _ => ("TailTrimmer$Writer", "length", "I", false)
def tyX10 : Nat → FieldType := fun k => match k with
  | 0 => .object "TailTrimmer$Walk"
  | 1 => .array .byte
  | 2 => .array .byte
  | 3 => .array .char
  | 4 => .object "TailTrimmer$Program"
  | 5 => .int
  | 6 => .boolean
  | _ => .int
abbrev wsX100 : List Cond := u_ws RX10 TX10 8
theorem nmX10 : ∀ a, a < 8 → ∀ b, b < 8 → a ≠ b → (TX10 a).2.1 ≠ (TX10 b).2.1 := by decide +kernel
theorem tyX10_ok : ∀ k, k < 8 → parseFieldDescriptor (TX10 k).2.2.1 = some (tyX10 k) := by decide +kernel
abbrev cX10_init : ByteArray := prog_12_method_1_code
def yX10_init : MethodName := ⟨RX10, "<init>", "()V"⟩
abbrev cX10_writeOut : ByteArray := prog_12_method_2_code
def yX10_writeOut : MethodName := ⟨RX10, "writeOut", "(LTailTrimmer$Program;I)Z"⟩
abbrev cX10_byteAt : ByteArray := prog_12_method_3_code
def yX10_byteAt : MethodName := ⟨RX10, "byteAt", "(I)I"⟩
abbrev cX10_enter : ByteArray := prog_12_method_4_code
def yX10_enter : MethodName := ⟨RX10, "enter", "(I)V"⟩
abbrev cX10_behindKid : ByteArray := prog_12_method_5_code
def yX10_behindKid : MethodName := ⟨RX10, "behindKid", "(II)V"⟩
abbrev cX10_leave : ByteArray := prog_12_method_6_code
def yX10_leave : MethodName := ⟨RX10, "leave", "(I)V"⟩
abbrev cX10_addOperator : ByteArray := prog_12_method_7_code
def yX10_addOperator : MethodName := ⟨RX10, "addOperator", "(I)V"⟩
abbrev cX10_addNumber : ByteArray := prog_12_method_8_code
def yX10_addNumber : MethodName := ⟨RX10, "addNumber", "(I)V"⟩
abbrev cX10_addVariable : ByteArray := prog_12_method_9_code
def yX10_addVariable : MethodName := ⟨RX10, "addVariable", "(I)V"⟩
abbrev cX10_addDigits : ByteArray := prog_12_method_10_code
def yX10_addDigits : MethodName := ⟨RX10, "addDigits", "(J)V"⟩
abbrev cX10_addName : ByteArray := prog_12_method_11_code
def yX10_addName : MethodName := ⟨RX10, "addName", "(J)V"⟩
abbrev cX10_addText : ByteArray := prog_12_method_12_code
def yX10_addText : MethodName := ⟨RX10, "addText", "(Ljava/lang/String;)V"⟩
abbrev cX10_addByte : ByteArray := prog_12_method_13_code
def yX10_addByte : MethodName := ⟨RX10, "addByte", "(C)V"⟩
def RX11 : String := "TailTrimmer"
def TX11 : u_T := fun k => match k with
  | 0 => ("TailTrimmer", "text", "[B", true)
  | 1 => ("TailTrimmer", "arguments", "[I", true)
  | 2 => ("TailTrimmer", "reader", "LTailTrimmer$Reader;", true)
  | 3 => ("TailTrimmer", "graph", "LTailTrimmer$Graph;", true)
  | 4 => ("TailTrimmer", "inliner", "LTailTrimmer$Inliner;", true)
  | 5 => ("TailTrimmer", "folder", "LTailTrimmer$Folder;", true)
  | 6 => ("TailTrimmer", "coder", "LTailTrimmer$Coder;", true)
  | 7 => ("TailTrimmer", "bounds", "LTailTrimmer$Bounds;", true)
  | 8 => ("TailTrimmer", "writer", "LTailTrimmer$Writer;", true)
  | 9 => ("TailTrimmer", "machine", "LTailTrimmer$Machine;", true)
  | 10 => ("TailTrimmer", "output", "LTailTrimmer$Program;", true)
  | 11 => ("TailTrimmer", "source", "LTailTrimmer$Program;", false)
  | 12 => ("TailTrimmer", "fresh", "LTailTrimmer$Program;", false)
  | 13 => ("TailTrimmer", "textLength", "I", false)
  | 14 => ("TailTrimmer", "faultPlace", "I", false)
  | _ => ("TailTrimmer", "inlineBudget", "I", false)
def tyX11 : Nat → FieldType := fun k => match k with
  | 0 => .array .byte
  | 1 => .array .int
  | 2 => .object "TailTrimmer$Reader"
  | 3 => .object "TailTrimmer$Graph"
  | 4 => .object "TailTrimmer$Inliner"
  | 5 => .object "TailTrimmer$Folder"
  | 6 => .object "TailTrimmer$Coder"
  | 7 => .object "TailTrimmer$Bounds"
  | 8 => .object "TailTrimmer$Writer"
  | 9 => .object "TailTrimmer$Machine"
  | 10 => .object "TailTrimmer$Program"
  | 11 => .object "TailTrimmer$Program"
  | 12 => .object "TailTrimmer$Program"
  | 13 => .int
  | 14 => .int
  | _ => .int
abbrev wsX110 : List Cond := u_ws RX11 TX11 16
theorem nmX11 : ∀ a, a < 16 → ∀ b, b < 16 → a ≠ b → (TX11 a).2.1 ≠ (TX11 b).2.1 := by decide +kernel
theorem tyX11_ok : ∀ k, k < 16 → parseFieldDescriptor (TX11 k).2.2.1 = some (tyX11 k) := by decide +kernel
abbrev cX11_init : ByteArray := prog_1_method_1_code
def yX11_init : MethodName := ⟨RX11, "<init>", "()V"⟩
abbrev cX11_feed : ByteArray := prog_1_method_2_code
def yX11_feed : MethodName := ⟨RX11, "feed", "(JI)I"⟩
abbrev cX11_read : ByteArray := prog_1_method_3_code
def yX11_read : MethodName := ⟨RX11, "read", "()I"⟩
abbrev cX11_place : ByteArray := prog_1_method_4_code
def yX11_place : MethodName := ⟨RX11, "place", "()I"⟩
abbrev cX11_budget : ByteArray := prog_1_method_5_code
def yX11_budget : MethodName := ⟨RX11, "budget", "(I)I"⟩
abbrev cX11_trim : ByteArray := prog_1_method_6_code
def yX11_trim : MethodName := ⟨RX11, "trim", "(I)I"⟩
abbrev cX11_function : ByteArray := prog_1_method_7_code
def yX11_function : MethodName := ⟨RX11, "function", "(III)I"⟩
abbrev cX11_calls : ByteArray := prog_1_method_8_code
def yX11_calls : MethodName := ⟨RX11, "calls", "(III)I"⟩
abbrev cX11_order : ByteArray := prog_1_method_9_code
def yX11_order : MethodName := ⟨RX11, "order", "(I)I"⟩
abbrev cX11_write : ByteArray := prog_1_method_10_code
def yX11_write : MethodName := ⟨RX11, "write", "(II)I"⟩
abbrev cX11_octet : ByteArray := prog_1_method_11_code
def yX11_octet : MethodName := ⟨RX11, "octet", "(I)I"⟩
abbrev cX11_code : ByteArray := prog_1_method_12_code
def yX11_code : MethodName := ⟨RX11, "code", "(IIII)I"⟩
abbrev cX11_argument : ByteArray := prog_1_method_13_code
def yX11_argument : MethodName := ⟨RX11, "argument", "(II)I"⟩
abbrev cX11_run : ByteArray := prog_1_method_14_code
def yX11_run : MethodName := ⟨RX11, "run", "(IIII)I"⟩
abbrev cX11_told : ByteArray := prog_1_method_15_code
def yX11_told : MethodName := ⟨RX11, "told", "(I)I"⟩
abbrev cX11_putAt : ByteArray := prog_1_method_16_code
def yX11_putAt : MethodName := ⟨RX11, "putAt", "(I)I"⟩
abbrev cX11_programOf : ByteArray := prog_1_method_17_code
def yX11_programOf : MethodName := ⟨RX11, "programOf", "(I)LTailTrimmer$Program;"⟩
abbrev cX11_makeOutput : ByteArray := prog_1_method_18_code
def yX11_makeOutput : MethodName := ⟨RX11, "makeOutput", "(I)I"⟩
abbrev cX11_operate : ByteArray := prog_1_method_19_code
def yX11_operate : MethodName := ⟨RX11, "operate", "(III)I"⟩
abbrev cX11_dividesByZero : ByteArray := prog_1_method_20_code
def yX11_dividesByZero : MethodName := ⟨RX11, "dividesByZero", "(II)Z"⟩
abbrev cX11_closeOver : ByteArray := prog_1_method_21_code
def yX11_closeOver : MethodName := ⟨RX11, "closeOver", "([II)V"⟩
abbrev cX11_hasBit : ByteArray := prog_1_method_22_code
def yX11_hasBit : MethodName := ⟨RX11, "hasBit", "(II)Z"⟩
def RX12 : String := "TailTrimmerModel"
def TX12 : u_T := fun k => match k with
  | 0 => ("TailTrimmerModel", "code", "I", false)
  | 1 => ("TailTrimmerModel", "text", "[B", true)
  | 2 => ("TailTrimmerModel", "textSize", "I", false)
  | 3 => ("TailTrimmerModel", "fault", "I", false)
  | 4 => ("TailTrimmerModel", "place", "I", false)
  | 5 => ("TailTrimmerModel", "at", "I", false)
  | 6 => ("TailTrimmerModel", "seen", "Z", false)
  | 7 => ("TailTrimmerModel", "kind", "I", false)
  | 8 => ("TailTrimmerModel", "tokenAt", "I", false)
  | 9 => ("TailTrimmerModel", "number", "J", false)
  | 10 => ("TailTrimmerModel", "name", "J", false)
  | 11 => ("TailTrimmerModel", "functions", "I", false)
  | 12 => ("TailTrimmerModel", "fName", "[J", true)
  | 13 => ("TailTrimmerModel", "fParams", "[I", true)
  | 14 => ("TailTrimmerModel", "fMany", "[I", true)
  | 15 => ("TailTrimmerModel", "fVariables", "[I", true)
  | 16 => ("TailTrimmerModel", "fReplaced", "[I", true)
  | 17 => ("TailTrimmerModel", "nKind", "[I", true)
  | 18 => ("TailTrimmerModel", "nA", "[I", true)
  | 19 => ("TailTrimmerModel", "nB", "[I", true)
  | 20 => ("TailTrimmerModel", "nC", "[I", true)
  | 21 => ("TailTrimmerModel", "nArg", "[I", true)
  | 22 => ("TailTrimmerModel", "args", "[I", true)
  | 23 => ("TailTrimmerModel", "f", "I", false)
  | 24 => ("TailTrimmerModel", "open", "I", false)
  | 25 => ("TailTrimmerModel", "lets", "I", false)
  | 26 => ("TailTrimmerModel", "scope", "[J", true)
  | 27 => ("TailTrimmerModel", "scopeIs", "[I", true)
  | 28 => ("TailTrimmerModel", "scopes", "I", false)
  | 29 => ("TailTrimmerModel", "tasks", "I", false)
  | 30 => ("TailTrimmerModel", "task", "[I", true)
  | 31 => ("TailTrimmerModel", "taskA", "[I", true)
  | 32 => ("TailTrimmerModel", "taskB", "[I", true)
  | 33 => ("TailTrimmerModel", "values", "I", false)
  | 34 => ("TailTrimmerModel", "value", "[I", true)
  | 35 => ("TailTrimmerModel", "callMany", "I", false)
  | 36 => ("TailTrimmerModel", "callName", "[J", true)
  | 37 => ("TailTrimmerModel", "callPlace", "[I", true)
  | 38 => ("TailTrimmerModel", "callArgs", "[I", true)
  | 39 => ("TailTrimmerModel", "callNode", "[I", true)
  | 40 => ("TailTrimmerModel", "callOf", "[I", true)
  | 41 => ("TailTrimmerModel", "hold", "J", false)
  | 42 => ("TailTrimmerModel", "letName", "[J", true)
  | 43 => ("TailTrimmerModel", "newName", "[J", true)
  | 44 => ("TailTrimmerModel", "newParams", "[I", true)
  | 45 => ("TailTrimmerModel", "draftParams", "I", false)
  | 46 => ("TailTrimmerModel", "budget", "I", false)
  | 47 => ("TailTrimmerModel", "comes", "[Z", true)
  | 48 => ("TailTrimmerModel", "direct", "[Z", true)
  | 49 => ("TailTrimmerModel", "order", "[I", true)
  | 50 => ("TailTrimmerModel", "orders", "I", false)
  | 51 => ("TailTrimmerModel", "looked", "[Z", true)
  | 52 => ("TailTrimmerModel", "lookAt", "[I", true)
  | 53 => ("TailTrimmerModel", "lookFrom", "[I", true)
  | 54 => ("TailTrimmerModel", "tails", "Z", false)
  | 55 => ("TailTrimmerModel", "map", "[I", true)
  | 56 => ("TailTrimmerModel", "calm", "[Z", true)
  | 57 => ("TailTrimmerModel", "kept", "[Z", true)
  | 58 => ("TailTrimmerModel", "inner", "[I", true)
  | 59 => ("TailTrimmerModel", "given", "[I", true)
  | 60 => ("TailTrimmerModel", "iKind", "[I", true)
  | 61 => ("TailTrimmerModel", "iNumber", "[I", true)
  | 62 => ("TailTrimmerModel", "iMany", "[I", true)
  | 63 => ("TailTrimmerModel", "slots", "[I", true)
  | 64 => ("TailTrimmerModel", "temps", "[I", true)
  | 65 => ("TailTrimmerModel", "e", "I", false)
  | 66 => ("TailTrimmerModel", "laid", "I", false)
  | 67 => ("TailTrimmerModel", "slotOf", "[I", true)
  | 68 => ("TailTrimmerModel", "bound", "[I", true)
  | 69 => ("TailTrimmerModel", "edge", "[Z", true)
  | 70 => ("TailTrimmerModel", "out", "[B", true)
  | 71 => ("TailTrimmerModel", "outSize", "I", false)
  | 72 => ("TailTrimmerModel", "draft", "[B", true)
  | 73 => ("TailTrimmerModel", "draftSize", "I", false)
  | 74 => ("TailTrimmerModel", "arguments", "[I", true)
  | 75 => ("TailTrimmerModel", "word", "[I", true)
  | 76 => ("TailTrimmerModel", "rFunction", "[I", true)
  | 77 => ("TailTrimmerModel", "rPlace", "[I", true)
  | 78 => ("TailTrimmerModel", "rBase", "[I", true)
  | 79 => ("TailTrimmerModel", "rTop", "[I", true)
  | 80 => ("TailTrimmerModel", "frames", "I", false)
  | 81 => ("TailTrimmerModel", "total", "I", false)
  | 82 => ("TailTrimmerModel", "most", "I", false)
  | 83 => ("TailTrimmerModel", "steps", "I", false)
  | 84 => ("TailTrimmerModel", "result", "I", false)
  | 85 => ("TailTrimmerModel", "puts", "I", false)
  | _ => ("TailTrimmerModel", "putRow", "[I", true)
def tyX12 : Nat → FieldType := fun k => match k with
  | 0 => .int
  | 1 => .array .byte
  | 2 => .int
  | 3 => .int
  | 4 => .int
  | 5 => .int
  | 6 => .boolean
  | 7 => .int
  | 8 => .int
  | 9 => .long
  | 10 => .long
  | 11 => .int
  | 12 => .array .long
  | 13 => .array .int
  | 14 => .array .int
  | 15 => .array .int
  | 16 => .array .int
  | 17 => .array .int
  | 18 => .array .int
  | 19 => .array .int
  | 20 => .array .int
  | 21 => .array .int
  | 22 => .array .int
  | 23 => .int
  | 24 => .int
  | 25 => .int
  | 26 => .array .long
  | 27 => .array .int
  | 28 => .int
  | 29 => .int
  | 30 => .array .int
  | 31 => .array .int
  | 32 => .array .int
  | 33 => .int
  | 34 => .array .int
  | 35 => .int
  | 36 => .array .long
  | 37 => .array .int
  | 38 => .array .int
  | 39 => .array .int
  | 40 => .array .int
  | 41 => .long
  | 42 => .array .long
  | 43 => .array .long
  | 44 => .array .int
  | 45 => .int
  | 46 => .int
  | 47 => .array .boolean
  | 48 => .array .boolean
  | 49 => .array .int
  | 50 => .int
  | 51 => .array .boolean
  | 52 => .array .int
  | 53 => .array .int
  | 54 => .boolean
  | 55 => .array .int
  | 56 => .array .boolean
  | 57 => .array .boolean
  | 58 => .array .int
  | 59 => .array .int
  | 60 => .array .int
  | 61 => .array .int
  | 62 => .array .int
  | 63 => .array .int
  | 64 => .array .int
  | 65 => .int
  | 66 => .int
  | 67 => .array .int
  | 68 => .array .int
  | 69 => .array .boolean
  | 70 => .array .byte
  | 71 => .int
  | 72 => .array .byte
  | 73 => .int
  | 74 => .array .int
  | 75 => .array .int
  | 76 => .array .int
  | 77 => .array .int
  | 78 => .array .int
  | 79 => .array .int
  | 80 => .int
  | 81 => .int
  | 82 => .int
  | 83 => .int
  | 84 => .int
  | 85 => .int
  | _ => .array .int
abbrev wsX120 : List Cond := u_ws RX12 TX12 87
theorem nmX12 : ∀ a, a < 87 → ∀ b, b < 87 → a ≠ b → (TX12 a).2.1 ≠ (TX12 b).2.1 := by decide +kernel
theorem tyX12_ok : ∀ k, k < 87 → parseFieldDescriptor (TX12 k).2.2.1 = some (tyX12 k) := by decide +kernel
abbrev cX12_init : ByteArray := prog_14_method_1_code
def yX12_init : MethodName := ⟨RX12, "<init>", "()V"⟩
abbrev cX12_in : ByteArray := prog_14_method_3_code
def yX12_in : MethodName := ⟨RX12, "in", "(JJJ)Z"⟩
abbrev cX12_feed : ByteArray := prog_14_method_4_code
def yX12_feed : MethodName := ⟨RX12, "feed", "(JI)I"⟩
abbrev cX12_fail : ByteArray := prog_14_method_5_code
def yX12_fail : MethodName := ⟨RX12, "fail", "(II)V"⟩
abbrev cX12_sign : ByteArray := prog_14_method_6_code
def yX12_sign : MethodName := ⟨RX12, "sign", "(I)I"⟩
abbrev cX12_letter : ByteArray := prog_14_method_7_code
def yX12_letter : MethodName := ⟨RX12, "letter", "(I)I"⟩
abbrev cX12_look : ByteArray := prog_14_method_8_code
def yX12_look : MethodName := ⟨RX12, "look", "()I"⟩
abbrev cX12_take : ByteArray := prog_14_method_9_code
def yX12_take : MethodName := ⟨RX12, "take", "()V"⟩
abbrev cX12_must : ByteArray := prog_14_method_10_code
def yX12_must : MethodName := ⟨RX12, "must", "(I)Z"⟩
abbrev cX12_node : ByteArray := prog_14_method_11_code
def yX12_node : MethodName := ⟨RX12, "node", "(IIIII)I"⟩
abbrev cX12_addArgument : ByteArray := prog_14_method_12_code
def yX12_addArgument : MethodName := ⟨RX12, "addArgument", "(II)I"⟩
abbrev cX12_push : ByteArray := prog_14_method_13_code
def yX12_push : MethodName := ⟨RX12, "push", "(III)V"⟩
abbrev cX12_give : ByteArray := prog_14_method_14_code
def yX12_give : MethodName := ⟨RX12, "give", "(I)V"⟩
abbrev cX12_got : ByteArray := prog_14_method_15_code
def yX12_got : MethodName := ⟨RX12, "got", "()I"⟩
abbrev cX12_opens : ByteArray := prog_14_method_16_code
def yX12_opens : MethodName := ⟨RX12, "opens", "()Z"⟩
abbrev cX12_readExp : ByteArray := prog_14_method_17_code
def yX12_readExp : MethodName := ⟨RX12, "readExp", "()V"⟩
abbrev cX12_two : ByteArray := prog_14_method_18_code
def yX12_two : MethodName := ⟨RX12, "two", "(I)V"⟩
abbrev cX12_readTask : ByteArray := prog_14_method_19_code
def yX12_readTask : MethodName := ⟨RX12, "readTask", "(III)V"⟩
abbrev cX12_beginExp : ByteArray := prog_14_method_20_code
def yX12_beginExp : MethodName := ⟨RX12, "beginExp", "()V"⟩
abbrev cX12_unary : ByteArray := prog_14_method_21_code
def yX12_unary : MethodName := ⟨RX12, "unary", "()V"⟩
abbrev cX12_named : ByteArray := prog_14_method_22_code
def yX12_named : MethodName := ⟨RX12, "named", "()V"⟩
abbrev cX12_endArgument : ByteArray := prog_14_method_23_code
def yX12_endArgument : MethodName := ⟨RX12, "endArgument", "(II)V"⟩
abbrev cX12_endCall : ByteArray := prog_14_method_24_code
def yX12_endCall : MethodName := ⟨RX12, "endCall", "(I)V"⟩
abbrev cX12_functionOf : ByteArray := prog_14_method_25_code
def yX12_functionOf : MethodName := ⟨RX12, "functionOf", "(JI)I"⟩
abbrev cX12_readFunction : ByteArray := prog_14_method_26_code
def yX12_readFunction : MethodName := ⟨RX12, "readFunction", "()V"⟩
abbrev cX12_read : ByteArray := prog_14_method_27_code
def yX12_read : MethodName := ⟨RX12, "read", "()I"⟩
abbrev cX12_place : ByteArray := prog_14_method_28_code
def yX12_place : MethodName := ⟨RX12, "place", "()I"⟩
abbrev cX12_copyAll : ByteArray := prog_14_method_29_code
def yX12_copyAll : MethodName := ⟨RX12, "copyAll", "(II)V"⟩
abbrev cX12_budget : ByteArray := prog_14_method_30_code
def yX12_budget : MethodName := ⟨RX12, "budget", "(I)I"⟩
abbrev cX12_findGraph : ByteArray := prog_14_method_31_code
def yX12_findGraph : MethodName := ⟨RX12, "findGraph", "()V"⟩
abbrev cX12_lookFromOne : ByteArray := prog_14_method_32_code
def yX12_lookFromOne : MethodName := ⟨RX12, "lookFromOne", "(I)V"⟩
abbrev cX12_calls : ByteArray := prog_14_method_33_code
def yX12_calls : MethodName := ⟨RX12, "calls", "(III)I"⟩
abbrev cX12_order : ByteArray := prog_14_method_34_code
def yX12_order : MethodName := ⟨RX12, "order", "(I)I"⟩
abbrev cX12_make : ByteArray := prog_14_method_35_code
def yX12_make : MethodName := ⟨RX12, "make", "(I)I"⟩
abbrev cX12_trim : ByteArray := prog_14_method_36_code
def yX12_trim : MethodName := ⟨RX12, "trim", "(I)I"⟩
abbrev cX12_again : ByteArray := prog_14_method_37_code
def yX12_again : MethodName := ⟨RX12, "again", "(III)I"⟩
abbrev cX12_inline : ByteArray := prog_14_method_38_code
def yX12_inline : MethodName := ⟨RX12, "inline", "(I)V"⟩
abbrev cX12_replace : ByteArray := prog_14_method_39_code
def yX12_replace : MethodName := ⟨RX12, "replace", "(IIIII)I"⟩
abbrev cX12_reckon : ByteArray := prog_14_method_40_code
def yX12_reckon : MethodName := ⟨RX12, "reckon", "(III)I"⟩
abbrev cX12_isNumber : ByteArray := prog_14_method_41_code
def yX12_isNumber : MethodName := ⟨RX12, "isNumber", "(II)Z"⟩
abbrev cX12_numberOf : ByteArray := prog_14_method_42_code
def yX12_numberOf : MethodName := ⟨RX12, "numberOf", "(II)I"⟩
abbrev cX12_fold : ByteArray := prog_14_method_43_code
def yX12_fold : MethodName := ⟨RX12, "fold", "(I)V"⟩
abbrev cX12_keepParts : ByteArray := prog_14_method_44_code
def yX12_keepParts : MethodName := ⟨RX12, "keepParts", "(II)V"⟩
abbrev cX12_stands : ByteArray := prog_14_method_45_code
def yX12_stands : MethodName := ⟨RX12, "stands", "(III)Z"⟩
abbrev cX12_foldOne : ByteArray := prog_14_method_46_code
def yX12_foldOne : MethodName := ⟨RX12, "foldOne", "(III)I"⟩
abbrev cX12_noFunction : ByteArray := prog_14_method_47_code
def yX12_noFunction : MethodName := ⟨RX12, "noFunction", "(II)Z"⟩
abbrev cX12_instruction : ByteArray := prog_14_method_48_code
def yX12_instruction : MethodName := ⟨RX12, "instruction", "(II)V"⟩
abbrev cX12_lays : ByteArray := prog_14_method_49_code
def yX12_lays : MethodName := ⟨RX12, "lays", "(I)V"⟩
abbrev cX12_slot : ByteArray := prog_14_method_50_code
def yX12_slot : MethodName := ⟨RX12, "slot", "(I)V"⟩
abbrev cX12_compile : ByteArray := prog_14_method_51_code
def yX12_compile : MethodName := ⟨RX12, "compile", "(IZ)V"⟩
abbrev cX12_emit : ByteArray := prog_14_method_52_code
def yX12_emit : MethodName := ⟨RX12, "emit", "(II)V"⟩
abbrev cX12_visit : ByteArray := prog_14_method_53_code
def yX12_visit : MethodName := ⟨RX12, "visit", "(II)V"⟩
abbrev cX12_visitTail : ByteArray := prog_14_method_54_code
def yX12_visitTail : MethodName := ⟨RX12, "visitTail", "(IIZ)V"⟩
abbrev cX12_frame : ByteArray := prog_14_method_55_code
def yX12_frame : MethodName := ⟨RX12, "frame", "(I)I"⟩
abbrev cX12_bounds : ByteArray := prog_14_method_56_code
def yX12_bounds : MethodName := ⟨RX12, "bounds", "(I)V"⟩
abbrev cX12_function : ByteArray := prog_14_method_57_code
def yX12_function : MethodName := ⟨RX12, "function", "(III)I"⟩
abbrev cX12_code : ByteArray := prog_14_method_58_code
def yX12_code : MethodName := ⟨RX12, "code", "(IIII)I"⟩
abbrev cX12_put : ByteArray := prog_14_method_59_code
def yX12_put : MethodName := ⟨RX12, "put", "(I)V"⟩
abbrev cX12_puts : ByteArray := prog_14_method_60_code
def yX12_puts : MethodName := ⟨RX12, "puts", "(J)V"⟩
abbrev cX12_decimal : ByteArray := prog_14_method_61_code
def yX12_decimal : MethodName := ⟨RX12, "decimal", "(J)V"⟩
abbrev cX12_nameOut : ByteArray := prog_14_method_62_code
def yX12_nameOut : MethodName := ⟨RX12, "nameOut", "(J)V"⟩
abbrev cX12_signOf : ByteArray := prog_14_method_63_code
def yX12_signOf : MethodName := ⟨RX12, "signOf", "(I)J"⟩
abbrev cX12_wordOf : ByteArray := prog_14_method_64_code
def yX12_wordOf : MethodName := ⟨RX12, "wordOf", "(I)J"⟩
abbrev cX12_writeOne : ByteArray := prog_14_method_65_code
def yX12_writeOne : MethodName := ⟨RX12, "writeOne", "(II)V"⟩
abbrev cX12_write : ByteArray := prog_14_method_66_code
def yX12_write : MethodName := ⟨RX12, "write", "(II)I"⟩
abbrev cX12_octet : ByteArray := prog_14_method_67_code
def yX12_octet : MethodName := ⟨RX12, "octet", "(I)I"⟩
abbrev cX12_argument : ByteArray := prog_14_method_68_code
def yX12_argument : MethodName := ⟨RX12, "argument", "(II)I"⟩
abbrev cX12_lay : ByteArray := prog_14_method_69_code
def yX12_lay : MethodName := ⟨RX12, "lay", "(IIII)Z"⟩
abbrev cX12_run : ByteArray := prog_14_method_70_code
def yX12_run : MethodName := ⟨RX12, "run", "(IIII)I"⟩
abbrev cX12_oneStep : ByteArray := prog_14_method_71_code
def yX12_oneStep : MethodName := ⟨RX12, "oneStep", "(I)I"⟩
abbrev cX12_replaceFrame : ByteArray := prog_14_method_72_code
def yX12_replaceFrame : MethodName := ⟨RX12, "replaceFrame", "(IIII)I"⟩
abbrev cX12_told : ByteArray := prog_14_method_73_code
def yX12_told : MethodName := ⟨RX12, "told", "(I)I"⟩
abbrev cX12_putAt : ByteArray := prog_14_method_74_code
def yX12_putAt : MethodName := ⟨RX12, "putAt", "(I)I"⟩
def RJ0 : String := "java/lang/String"
abbrev cJ0_length_8abf5 : ByteArray := prog_17_method_54_code
def yJ0_length_8abf5 : MethodName := ⟨RJ0, "length", "()I"⟩
abbrev cJ0_charAt_5068e : ByteArray := prog_17_method_56_code
def yJ0_charAt_5068e : MethodName := ⟨RJ0, "charAt", "(I)C"⟩
abbrev cJ0_indexOf_0f7a4 : ByteArray := prog_17_method_79_code
def yJ0_indexOf_0f7a4 : MethodName := ⟨RJ0, "indexOf", "(I)I"⟩
abbrev cJ0_indexOf_7cf53 : ByteArray := prog_17_method_80_code
def yJ0_indexOf_7cf53 : MethodName := ⟨RJ0, "indexOf", "(II)I"⟩
abbrev cJ0_coder_7d493 : ByteArray := prog_17_method_152_code
def yJ0_coder_7d493 : MethodName := ⟨RJ0, "coder", "()B"⟩
abbrev cJ0_isLatin1_aae02 : ByteArray := prog_17_method_154_code
def yJ0_isLatin1_aae02 : MethodName := ⟨RJ0, "isLatin1", "()Z"⟩
abbrev cJ0_checkIndex_df160 : ByteArray := prog_17_method_155_code
def yJ0_checkIndex_df160 : MethodName := ⟨RJ0, "checkIndex", "(II)V"⟩
def RJ1 : String := "java/lang/StringLatin1"
abbrev cJ1_charAt_3b067 : ByteArray := prog_18_method_2_code
def yJ1_charAt_3b067 : MethodName := ⟨RJ1, "charAt", "([BI)C"⟩
abbrev cJ1_canEncode_9a6ad : ByteArray := prog_18_method_4_code
def yJ1_canEncode_9a6ad : MethodName := ⟨RJ1, "canEncode", "(I)Z"⟩
abbrev cJ1_indexOf_4cfef : ByteArray := prog_18_method_22_code
def yJ1_indexOf_4cfef : MethodName := ⟨RJ1, "indexOf", "([BIII)I"⟩
abbrev cJ1_indexOfChar_4cfef : ByteArray := prog_18_method_23_code
def yJ1_indexOfChar_4cfef : MethodName := ⟨RJ1, "indexOfChar", "([BIII)I"⟩
def RJ3 : String := "jdk/internal/util/Preconditions"
abbrev cJ3_checkIndex_8e157 : ByteArray := prog_21_method_11_code
def yJ3_checkIndex_8e157 : MethodName := ⟨RJ3, "checkIndex", "(IILjava/util/function/BiFunction;)I"⟩
def RL : String := "TailTrimmerLaw"
abbrev cL_law : ByteArray := code
def yL_law : MethodName := ⟨RL, "law", "([I)Z"⟩
theorem inX0 : ∀ w ∈ wsX00, w ∈ lw_tbl := by decide +kernel
theorem inX1 : ∀ w ∈ wsX10, w ∈ lw_tbl := by decide +kernel
theorem inX2 : ∀ w ∈ wsX20, w ∈ lw_tbl := by decide +kernel
theorem inX3 : ∀ w ∈ wsX30, w ∈ lw_tbl := by decide +kernel
theorem inX4 : ∀ w ∈ wsX40, w ∈ lw_tbl := by decide +kernel
theorem inX5 : ∀ w ∈ wsX50, w ∈ lw_tbl := by decide +kernel
theorem inX6 : ∀ w ∈ wsX60, w ∈ lw_tbl := by decide +kernel
theorem inX7 : ∀ w ∈ wsX70, w ∈ lw_tbl := by decide +kernel
theorem inX8 : ∀ w ∈ wsX80, w ∈ lw_tbl := by decide +kernel
theorem inX9 : ∀ w ∈ wsX90, w ∈ lw_tbl := by decide +kernel
theorem inX10 : ∀ w ∈ wsX100, w ∈ lw_tbl := by decide +kernel
theorem inX11 : ∀ w ∈ wsX110, w ∈ lw_tbl := by decide +kernel
theorem inX12 : ∀ w ∈ wsX120, w ∈ lw_tbl := by decide +kernel
abbrev vwCl : List vw_C := [(RX0, TX0, 3), (RX1, TX1, 13), (RX2, TX2, 8), (RX3, TX3, 8), (RX4, TX4, 10), (RX5, TX5, 12), (RX6, TX6, 16), (RX7, TX7, 15), (RX8, TX8, 10), (RX9, TX9, 11), (RX10, TX10, 8), (RX11, TX11, 16), (RX12, TX12, 87)]
