section
-- ===== PART A: goes FIRST, ahead of the names: the tables' words, and 'selects' of the private methods out of them =====
/-- a private method of a class that the tables say can be made, by its rows of tables_1 -/
def lw_okq (q : MethodName × Nat) : Prop := (q.1.cls ≠ "java/lang/invoke/MethodHandle" ∧ q.1.cls ≠ "java/lang/invoke/VarHandle") ∧ Cond.instantiable q.1.cls q.2 ∈ tables_1 ∧ Cond.privateMethod q.1 ∈ tables_1 ∧ Cond.instanceMethod q.1 ∈ tables_1
theorem lw_p0 : lw_okq (⟨"AbbreviationBook$Reading", "startOver", "(I)V"⟩, 10) := ⟨⟨by decide +kernel, by decide +kernel⟩, List.mem_of_getElem? (i := 103) (by decide +kernel), List.mem_of_getElem? (i := 247) (by decide +kernel), List.mem_of_getElem? (i := 248) (by decide +kernel)⟩
theorem lw_p1 : lw_okq (⟨"AbbreviationBook$Reading", "accepts", "(II)Z"⟩, 10) := ⟨⟨by decide +kernel, by decide +kernel⟩, List.mem_of_getElem? (i := 103) (by decide +kernel), List.mem_of_getElem? (i := 251) (by decide +kernel), List.mem_of_getElem? (i := 252) (by decide +kernel)⟩
theorem lw_p2 : lw_okq (⟨"AbbreviationBook$Reading", "noteCall", "(I)V"⟩, 10) := ⟨⟨by decide +kernel, by decide +kernel⟩, List.mem_of_getElem? (i := 103) (by decide +kernel), List.mem_of_getElem? (i := 258) (by decide +kernel), List.mem_of_getElem? (i := 259) (by decide +kernel)⟩
theorem lw_p3 : lw_okq (⟨"AbbreviationBook$Reading", "opensCall", "()Z"⟩, 10) := ⟨⟨by decide +kernel, by decide +kernel⟩, List.mem_of_getElem? (i := 103) (by decide +kernel), List.mem_of_getElem? (i := 265) (by decide +kernel), List.mem_of_getElem? (i := 266) (by decide +kernel)⟩
theorem lw_p4 : lw_okq (⟨"AbbreviationBook$Reading", "addsArgument", "()Z"⟩, 10) := ⟨⟨by decide +kernel, by decide +kernel⟩, List.mem_of_getElem? (i := 103) (by decide +kernel), List.mem_of_getElem? (i := 269) (by decide +kernel), List.mem_of_getElem? (i := 270) (by decide +kernel)⟩
theorem lw_p5 : lw_okq (⟨"AbbreviationBook$Reading", "closesCall", "()Z"⟩, 10) := ⟨⟨by decide +kernel, by decide +kernel⟩, List.mem_of_getElem? (i := 103) (by decide +kernel), List.mem_of_getElem? (i := 273) (by decide +kernel), List.mem_of_getElem? (i := 274) (by decide +kernel)⟩
theorem lw_p6 : lw_okq (⟨"AbbreviationBook$CallGraph", "followCalls", "()V"⟩, 3) := ⟨⟨by decide +kernel, by decide +kernel⟩, List.mem_of_getElem? (i := 148) (by decide +kernel), List.mem_of_getElem? (i := 300) (by decide +kernel), List.mem_of_getElem? (i := 301) (by decide +kernel)⟩
theorem lw_p7 : lw_okq (⟨"AbbreviationBook$CallGraph", "calledInBodiesOf", "(I)I"⟩, 3) := ⟨⟨by decide +kernel, by decide +kernel⟩, List.mem_of_getElem? (i := 148) (by decide +kernel), List.mem_of_getElem? (i := 316) (by decide +kernel), List.mem_of_getElem? (i := 317) (by decide +kernel)⟩
theorem lw_p8 : lw_okq (⟨"java/lang/Throwable", "fillInStackTrace", "(I)Ljava/lang/Throwable;"⟩, 6) := ⟨⟨by decide +kernel, by decide +kernel⟩, List.mem_of_getElem? (i := 390) (by decide +kernel), List.mem_of_getElem? (i := 388) (by decide +kernel), List.mem_of_getElem? (i := 389) (by decide +kernel)⟩
theorem lw_p9 : lw_okq (⟨"AbbreviationBook", "requireCompleteText", "()V"⟩, 7) := ⟨⟨by decide +kernel, by decide +kernel⟩, List.mem_of_getElem? (i := 21) (by decide +kernel), List.mem_of_getElem? (i := 420) (by decide +kernel), List.mem_of_getElem? (i := 421) (by decide +kernel)⟩
theorem lw_p10 : lw_okq (⟨"AbbreviationBook", "copyOfBuffer", "()[I"⟩, 7) := ⟨⟨by decide +kernel, by decide +kernel⟩, List.mem_of_getElem? (i := 21) (by decide +kernel), List.mem_of_getElem? (i := 458) (by decide +kernel), List.mem_of_getElem? (i := 459) (by decide +kernel)⟩
theorem lw_p11 : lw_okq (⟨"AbbreviationBook", "requireDefinition", "(I)LAbbreviationBook$Text;"⟩, 7) := ⟨⟨by decide +kernel, by decide +kernel⟩, List.mem_of_getElem? (i := 21) (by decide +kernel), List.mem_of_getElem? (i := 528) (by decide +kernel), List.mem_of_getElem? (i := 529) (by decide +kernel)⟩
theorem lw_p12 : lw_okq (⟨"AbbreviationBook$Expansion", "startOver", "(Z)V"⟩, 14) := ⟨⟨by decide +kernel, by decide +kernel⟩, List.mem_of_getElem? (i := 164) (by decide +kernel), List.mem_of_getElem? (i := 575) (by decide +kernel), List.mem_of_getElem? (i := 576) (by decide +kernel)⟩
theorem lw_p13 : lw_okq (⟨"AbbreviationBook$Expansion", "setMark", "()V"⟩, 14) := ⟨⟨by decide +kernel, by decide +kernel⟩, List.mem_of_getElem? (i := 164) (by decide +kernel), List.mem_of_getElem? (i := 579) (by decide +kernel), List.mem_of_getElem? (i := 580) (by decide +kernel)⟩
theorem lw_p14 : lw_okq (⟨"AbbreviationBook$Expansion", "writeText", "(LAbbreviationBook$State;[IIIII)V"⟩, 14) := ⟨⟨by decide +kernel, by decide +kernel⟩, List.mem_of_getElem? (i := 164) (by decide +kernel), List.mem_of_getElem? (i := 583) (by decide +kernel), List.mem_of_getElem? (i := 584) (by decide +kernel)⟩
theorem lw_p15 : lw_okq (⟨"AbbreviationBook$Expansion", "fillHole", "(IIII)V"⟩, 14) := ⟨⟨by decide +kernel, by decide +kernel⟩, List.mem_of_getElem? (i := 164) (by decide +kernel), List.mem_of_getElem? (i := 587) (by decide +kernel), List.mem_of_getElem? (i := 588) (by decide +kernel)⟩
def lw_privs_1 : List (MethodName × Nat) := [(⟨"AbbreviationBook$Reading", "startOver", "(I)V"⟩, 10), (⟨"AbbreviationBook$Reading", "accepts", "(II)Z"⟩, 10), (⟨"AbbreviationBook$Reading", "noteCall", "(I)V"⟩, 10), (⟨"AbbreviationBook$Reading", "opensCall", "()Z"⟩, 10), (⟨"AbbreviationBook$Reading", "addsArgument", "()Z"⟩, 10), (⟨"AbbreviationBook$Reading", "closesCall", "()Z"⟩, 10), (⟨"AbbreviationBook$CallGraph", "followCalls", "()V"⟩, 3), (⟨"AbbreviationBook$CallGraph", "calledInBodiesOf", "(I)I"⟩, 3), (⟨"java/lang/Throwable", "fillInStackTrace", "(I)Ljava/lang/Throwable;"⟩, 6), (⟨"AbbreviationBook", "requireCompleteText", "()V"⟩, 7), (⟨"AbbreviationBook", "copyOfBuffer", "()[I"⟩, 7), (⟨"AbbreviationBook", "requireDefinition", "(I)LAbbreviationBook$Text;"⟩, 7), (⟨"AbbreviationBook$Expansion", "startOver", "(Z)V"⟩, 14), (⟨"AbbreviationBook$Expansion", "setMark", "()V"⟩, 14), (⟨"AbbreviationBook$Expansion", "writeText", "(LAbbreviationBook$State;[IIIII)V"⟩, 14), (⟨"AbbreviationBook$Expansion", "fillHole", "(IIII)V"⟩, 14)]
theorem lw_r1 : ∀ q ∈ lw_privs_1, lw_okq q := List.forall_mem_cons.mpr ⟨lw_p0, List.forall_mem_cons.mpr ⟨lw_p1, List.forall_mem_cons.mpr ⟨lw_p2, List.forall_mem_cons.mpr ⟨lw_p3, List.forall_mem_cons.mpr ⟨lw_p4, List.forall_mem_cons.mpr ⟨lw_p5, List.forall_mem_cons.mpr ⟨lw_p6, List.forall_mem_cons.mpr ⟨lw_p7, List.forall_mem_cons.mpr ⟨lw_p8, List.forall_mem_cons.mpr ⟨lw_p9, List.forall_mem_cons.mpr ⟨lw_p10, List.forall_mem_cons.mpr ⟨lw_p11, List.forall_mem_cons.mpr ⟨lw_p12, List.forall_mem_cons.mpr ⟨lw_p13, List.forall_mem_cons.mpr ⟨lw_p14, List.forall_mem_cons.mpr ⟨lw_p15, fun _ h => absurd h List.not_mem_nil⟩⟩⟩⟩⟩⟩⟩⟩⟩⟩⟩⟩⟩⟩⟩⟩
theorem lw_p16 : lw_okq (⟨"AbbreviationBook$Expansion", "writeSign", "(I)V"⟩, 14) := ⟨⟨by decide +kernel, by decide +kernel⟩, List.mem_of_getElem? (i := 164) (by decide +kernel), List.mem_of_getElem? (i := 591) (by decide +kernel), List.mem_of_getElem? (i := 592) (by decide +kernel)⟩
theorem lw_p17 : lw_okq (⟨"AbbreviationBook$Expansion", "takesMore", "(I)Z"⟩, 14) := ⟨⟨by decide +kernel, by decide +kernel⟩, List.mem_of_getElem? (i := 164) (by decide +kernel), List.mem_of_getElem? (i := 595) (by decide +kernel), List.mem_of_getElem? (i := 596) (by decide +kernel)⟩
theorem lw_p18 : lw_okq (⟨"AbbreviationBook$Expansion", "markAt", "(I)I"⟩, 14) := ⟨⟨by decide +kernel, by decide +kernel⟩, List.mem_of_getElem? (i := 164) (by decide +kernel), List.mem_of_getElem? (i := 599) (by decide +kernel), List.mem_of_getElem? (i := 600) (by decide +kernel)⟩
theorem lw_p19 : lw_okq (⟨"AbbreviationBook$Expansion", "writeCopy", "(II)V"⟩, 14) := ⟨⟨by decide +kernel, by decide +kernel⟩, List.mem_of_getElem? (i := 164) (by decide +kernel), List.mem_of_getElem? (i := 603) (by decide +kernel), List.mem_of_getElem? (i := 604) (by decide +kernel)⟩
theorem lw_p20 : lw_okq (⟨"AbbreviationBook$Expansion", "moveSigns", "(III)V"⟩, 14) := ⟨⟨by decide +kernel, by decide +kernel⟩, List.mem_of_getElem? (i := 164) (by decide +kernel), List.mem_of_getElem? (i := 607) (by decide +kernel), List.mem_of_getElem? (i := 608) (by decide +kernel)⟩
theorem lw_p21 : lw_okq (⟨"AbbreviationBook$Expansion", "letCallWait", "(I)V"⟩, 14) := ⟨⟨by decide +kernel, by decide +kernel⟩, List.mem_of_getElem? (i := 164) (by decide +kernel), List.mem_of_getElem? (i := 612) (by decide +kernel), List.mem_of_getElem? (i := 613) (by decide +kernel)⟩
theorem lw_p22 : lw_okq (⟨"AbbreviationBook$Expansion", "finishCall", "(LAbbreviationBook$State;I)V"⟩, 14) := ⟨⟨by decide +kernel, by decide +kernel⟩, List.mem_of_getElem? (i := 164) (by decide +kernel), List.mem_of_getElem? (i := 616) (by decide +kernel), List.mem_of_getElem? (i := 617) (by decide +kernel)⟩
theorem lw_p23 : lw_okq (⟨"AbbreviationBook$Expansion", "endingOf", "(LAbbreviationBook$State;II)I"⟩, 14) := ⟨⟨by decide +kernel, by decide +kernel⟩, List.mem_of_getElem? (i := 164) (by decide +kernel), List.mem_of_getElem? (i := 620) (by decide +kernel), List.mem_of_getElem? (i := 621) (by decide +kernel)⟩
theorem lw_p24 : lw_okq (⟨"AbbreviationBook$Expansion", "writeBody", "(LAbbreviationBook$State;IIII)V"⟩, 14) := ⟨⟨by decide +kernel, by decide +kernel⟩, List.mem_of_getElem? (i := 164) (by decide +kernel), List.mem_of_getElem? (i := 625) (by decide +kernel), List.mem_of_getElem? (i := 626) (by decide +kernel)⟩
theorem lw_p25 : lw_okq (⟨"AbbreviationBook$Expansion", "listCall", "(IIIIII)V"⟩, 14) := ⟨⟨by decide +kernel, by decide +kernel⟩, List.mem_of_getElem? (i := 164) (by decide +kernel), List.mem_of_getElem? (i := 633) (by decide +kernel), List.mem_of_getElem? (i := 634) (by decide +kernel)⟩
theorem lw_p26 : lw_okq (⟨"AbbreviationBookModel", "refused", "(I)Z"⟩, 43) := ⟨⟨by decide +kernel, by decide +kernel⟩, List.mem_of_getElem? (i := 816) (by decide +kernel), List.mem_of_getElem? (i := 964) (by decide +kernel), List.mem_of_getElem? (i := 965) (by decide +kernel)⟩
theorem lw_p27 : lw_okq (⟨"AbbreviationBookModel", "error", "()I"⟩, 43) := ⟨⟨by decide +kernel, by decide +kernel⟩, List.mem_of_getElem? (i := 816) (by decide +kernel), List.mem_of_getElem? (i := 976) (by decide +kernel), List.mem_of_getElem? (i := 977) (by decide +kernel)⟩
theorem lw_p28 : lw_okq (⟨"AbbreviationBookModel", "isDefined", "(I)Z"⟩, 43) := ⟨⟨by decide +kernel, by decide +kernel⟩, List.mem_of_getElem? (i := 816) (by decide +kernel), List.mem_of_getElem? (i := 993) (by decide +kernel), List.mem_of_getElem? (i := 994) (by decide +kernel)⟩
theorem lw_p29 : lw_okq (⟨"AbbreviationBookModel", "isWhole", "()Z"⟩, 43) := ⟨⟨by decide +kernel, by decide +kernel⟩, List.mem_of_getElem? (i := 816) (by decide +kernel), List.mem_of_getElem? (i := 1001) (by decide +kernel), List.mem_of_getElem? (i := 1002) (by decide +kernel)⟩
theorem lw_p30 : lw_okq (⟨"AbbreviationBookModel", "saves", "()V"⟩, 43) := ⟨⟨by decide +kernel, by decide +kernel⟩, List.mem_of_getElem? (i := 816) (by decide +kernel), List.mem_of_getElem? (i := 1005) (by decide +kernel), List.mem_of_getElem? (i := 1006) (by decide +kernel)⟩
theorem lw_p31 : lw_okq (⟨"AbbreviationBookModel", "lays", "(I)V"⟩, 43) := ⟨⟨by decide +kernel, by decide +kernel⟩, List.mem_of_getElem? (i := 816) (by decide +kernel), List.mem_of_getElem? (i := 1009) (by decide +kernel), List.mem_of_getElem? (i := 1010) (by decide +kernel)⟩
def lw_privs_2 : List (MethodName × Nat) := [(⟨"AbbreviationBook$Expansion", "writeSign", "(I)V"⟩, 14), (⟨"AbbreviationBook$Expansion", "takesMore", "(I)Z"⟩, 14), (⟨"AbbreviationBook$Expansion", "markAt", "(I)I"⟩, 14), (⟨"AbbreviationBook$Expansion", "writeCopy", "(II)V"⟩, 14), (⟨"AbbreviationBook$Expansion", "moveSigns", "(III)V"⟩, 14), (⟨"AbbreviationBook$Expansion", "letCallWait", "(I)V"⟩, 14), (⟨"AbbreviationBook$Expansion", "finishCall", "(LAbbreviationBook$State;I)V"⟩, 14), (⟨"AbbreviationBook$Expansion", "endingOf", "(LAbbreviationBook$State;II)I"⟩, 14), (⟨"AbbreviationBook$Expansion", "writeBody", "(LAbbreviationBook$State;IIII)V"⟩, 14), (⟨"AbbreviationBook$Expansion", "listCall", "(IIIIII)V"⟩, 14), (⟨"AbbreviationBookModel", "refused", "(I)Z"⟩, 43), (⟨"AbbreviationBookModel", "error", "()I"⟩, 43), (⟨"AbbreviationBookModel", "isDefined", "(I)Z"⟩, 43), (⟨"AbbreviationBookModel", "isWhole", "()Z"⟩, 43), (⟨"AbbreviationBookModel", "saves", "()V"⟩, 43), (⟨"AbbreviationBookModel", "lays", "(I)V"⟩, 43)]
theorem lw_r2 : ∀ q ∈ lw_privs_2, lw_okq q := List.forall_mem_cons.mpr ⟨lw_p16, List.forall_mem_cons.mpr ⟨lw_p17, List.forall_mem_cons.mpr ⟨lw_p18, List.forall_mem_cons.mpr ⟨lw_p19, List.forall_mem_cons.mpr ⟨lw_p20, List.forall_mem_cons.mpr ⟨lw_p21, List.forall_mem_cons.mpr ⟨lw_p22, List.forall_mem_cons.mpr ⟨lw_p23, List.forall_mem_cons.mpr ⟨lw_p24, List.forall_mem_cons.mpr ⟨lw_p25, List.forall_mem_cons.mpr ⟨lw_p26, List.forall_mem_cons.mpr ⟨lw_p27, List.forall_mem_cons.mpr ⟨lw_p28, List.forall_mem_cons.mpr ⟨lw_p29, List.forall_mem_cons.mpr ⟨lw_p30, List.forall_mem_cons.mpr ⟨lw_p31, fun _ h => absurd h List.not_mem_nil⟩⟩⟩⟩⟩⟩⟩⟩⟩⟩⟩⟩⟩⟩⟩⟩
theorem lw_p32 : lw_okq (⟨"AbbreviationBookModel", "holesOf", "(II)I"⟩, 43) := ⟨⟨by decide +kernel, by decide +kernel⟩, List.mem_of_getElem? (i := 816) (by decide +kernel), List.mem_of_getElem? (i := 1013) (by decide +kernel), List.mem_of_getElem? (i := 1014) (by decide +kernel)⟩
theorem lw_p33 : lw_okq (⟨"AbbreviationBookModel", "signOf", "(II)I"⟩, 43) := ⟨⟨by decide +kernel, by decide +kernel⟩, List.mem_of_getElem? (i := 816) (by decide +kernel), List.mem_of_getElem? (i := 1017) (by decide +kernel), List.mem_of_getElem? (i := 1018) (by decide +kernel)⟩
theorem lw_p34 : lw_okq (⟨"AbbreviationBookModel", "defined", "()I"⟩, 43) := ⟨⟨by decide +kernel, by decide +kernel⟩, List.mem_of_getElem? (i := 816) (by decide +kernel), List.mem_of_getElem? (i := 1025) (by decide +kernel), List.mem_of_getElem? (i := 1026) (by decide +kernel)⟩
theorem lw_p35 : lw_okq (⟨"AbbreviationBookModel", "begins", "(I)V"⟩, 43) := ⟨⟨by decide +kernel, by decide +kernel⟩, List.mem_of_getElem? (i := 816) (by decide +kernel), List.mem_of_getElem? (i := 1041) (by decide +kernel), List.mem_of_getElem? (i := 1042) (by decide +kernel)⟩
theorem lw_p36 : lw_okq (⟨"AbbreviationBookModel", "measures", "()Z"⟩, 43) := ⟨⟨by decide +kernel, by decide +kernel⟩, List.mem_of_getElem? (i := 816) (by decide +kernel), List.mem_of_getElem? (i := 1045) (by decide +kernel), List.mem_of_getElem? (i := 1046) (by decide +kernel)⟩
theorem lw_p37 : lw_okq (⟨"AbbreviationBookModel", "longOf", "(I)I"⟩, 43) := ⟨⟨by decide +kernel, by decide +kernel⟩, List.mem_of_getElem? (i := 816) (by decide +kernel), List.mem_of_getElem? (i := 1049) (by decide +kernel), List.mem_of_getElem? (i := 1050) (by decide +kernel)⟩
theorem lw_p38 : lw_okq (⟨"AbbreviationBookModel", "reads", "()V"⟩, 43) := ⟨⟨by decide +kernel, by decide +kernel⟩, List.mem_of_getElem? (i := 816) (by decide +kernel), List.mem_of_getElem? (i := 1053) (by decide +kernel), List.mem_of_getElem? (i := 1054) (by decide +kernel)⟩
theorem lw_p39 : lw_okq (⟨"AbbreviationBookModel", "goesOn", "(II)V"⟩, 43) := ⟨⟨by decide +kernel, by decide +kernel⟩, List.mem_of_getElem? (i := 816) (by decide +kernel), List.mem_of_getElem? (i := 1057) (by decide +kernel), List.mem_of_getElem? (i := 1058) (by decide +kernel)⟩
theorem lw_p40 : lw_okq (⟨"AbbreviationBookModel", "isOpen", "(I)Z"⟩, 43) := ⟨⟨by decide +kernel, by decide +kernel⟩, List.mem_of_getElem? (i := 816) (by decide +kernel), List.mem_of_getElem? (i := 1061) (by decide +kernel), List.mem_of_getElem? (i := 1062) (by decide +kernel)⟩
theorem lw_p41 : lw_okq (⟨"AbbreviationBookModel", "writes", "(I)V"⟩, 43) := ⟨⟨by decide +kernel, by decide +kernel⟩, List.mem_of_getElem? (i := 816) (by decide +kernel), List.mem_of_getElem? (i := 1065) (by decide +kernel), List.mem_of_getElem? (i := 1066) (by decide +kernel)⟩
theorem lw_p42 : lw_okq (⟨"AbbreviationBookModel", "notes", "(IIIIII)V"⟩, 43) := ⟨⟨by decide +kernel, by decide +kernel⟩, List.mem_of_getElem? (i := 816) (by decide +kernel), List.mem_of_getElem? (i := 1069) (by decide +kernel), List.mem_of_getElem? (i := 1070) (by decide +kernel)⟩
theorem lw_p43 : lw_okq (⟨"AbbreviationBookModel", "opens", "(I)V"⟩, 43) := ⟨⟨by decide +kernel, by decide +kernel⟩, List.mem_of_getElem? (i := 816) (by decide +kernel), List.mem_of_getElem? (i := 1073) (by decide +kernel), List.mem_of_getElem? (i := 1074) (by decide +kernel)⟩
theorem lw_p44 : lw_okq (⟨"AbbreviationBookModel", "filling", "()I"⟩, 43) := ⟨⟨by decide +kernel, by decide +kernel⟩, List.mem_of_getElem? (i := 816) (by decide +kernel), List.mem_of_getElem? (i := 1077) (by decide +kernel), List.mem_of_getElem? (i := 1078) (by decide +kernel)⟩
theorem lw_p45 : lw_okq (⟨"AbbreviationBookModel", "spells", "()V"⟩, 43) := ⟨⟨by decide +kernel, by decide +kernel⟩, List.mem_of_getElem? (i := 816) (by decide +kernel), List.mem_of_getElem? (i := 1081) (by decide +kernel), List.mem_of_getElem? (i := 1082) (by decide +kernel)⟩
theorem lw_p46 : lw_okq (⟨"AbbreviationBookModel", "enters", "(III)V"⟩, 43) := ⟨⟨by decide +kernel, by decide +kernel⟩, List.mem_of_getElem? (i := 816) (by decide +kernel), List.mem_of_getElem? (i := 1085) (by decide +kernel), List.mem_of_getElem? (i := 1086) (by decide +kernel)⟩
theorem lw_p47 : lw_okq (⟨"AbbreviationBookModel", "calls", "(I)V"⟩, 43) := ⟨⟨by decide +kernel, by decide +kernel⟩, List.mem_of_getElem? (i := 816) (by decide +kernel), List.mem_of_getElem? (i := 1089) (by decide +kernel), List.mem_of_getElem? (i := 1090) (by decide +kernel)⟩
def lw_privs_3 : List (MethodName × Nat) := [(⟨"AbbreviationBookModel", "holesOf", "(II)I"⟩, 43), (⟨"AbbreviationBookModel", "signOf", "(II)I"⟩, 43), (⟨"AbbreviationBookModel", "defined", "()I"⟩, 43), (⟨"AbbreviationBookModel", "begins", "(I)V"⟩, 43), (⟨"AbbreviationBookModel", "measures", "()Z"⟩, 43), (⟨"AbbreviationBookModel", "longOf", "(I)I"⟩, 43), (⟨"AbbreviationBookModel", "reads", "()V"⟩, 43), (⟨"AbbreviationBookModel", "goesOn", "(II)V"⟩, 43), (⟨"AbbreviationBookModel", "isOpen", "(I)Z"⟩, 43), (⟨"AbbreviationBookModel", "writes", "(I)V"⟩, 43), (⟨"AbbreviationBookModel", "notes", "(IIIIII)V"⟩, 43), (⟨"AbbreviationBookModel", "opens", "(I)V"⟩, 43), (⟨"AbbreviationBookModel", "filling", "()I"⟩, 43), (⟨"AbbreviationBookModel", "spells", "()V"⟩, 43), (⟨"AbbreviationBookModel", "enters", "(III)V"⟩, 43), (⟨"AbbreviationBookModel", "calls", "(I)V"⟩, 43)]
theorem lw_r3 : ∀ q ∈ lw_privs_3, lw_okq q := List.forall_mem_cons.mpr ⟨lw_p32, List.forall_mem_cons.mpr ⟨lw_p33, List.forall_mem_cons.mpr ⟨lw_p34, List.forall_mem_cons.mpr ⟨lw_p35, List.forall_mem_cons.mpr ⟨lw_p36, List.forall_mem_cons.mpr ⟨lw_p37, List.forall_mem_cons.mpr ⟨lw_p38, List.forall_mem_cons.mpr ⟨lw_p39, List.forall_mem_cons.mpr ⟨lw_p40, List.forall_mem_cons.mpr ⟨lw_p41, List.forall_mem_cons.mpr ⟨lw_p42, List.forall_mem_cons.mpr ⟨lw_p43, List.forall_mem_cons.mpr ⟨lw_p44, List.forall_mem_cons.mpr ⟨lw_p45, List.forall_mem_cons.mpr ⟨lw_p46, List.forall_mem_cons.mpr ⟨lw_p47, fun _ h => absurd h List.not_mem_nil⟩⟩⟩⟩⟩⟩⟩⟩⟩⟩⟩⟩⟩⟩⟩⟩
theorem lw_p48 : lw_okq (⟨"AbbreviationBookModel", "skips", "()V"⟩, 43) := ⟨⟨by decide +kernel, by decide +kernel⟩, List.mem_of_getElem? (i := 816) (by decide +kernel), List.mem_of_getElem? (i := 1093) (by decide +kernel), List.mem_of_getElem? (i := 1094) (by decide +kernel)⟩
theorem lw_p49 : lw_okq (⟨"AbbreviationBookModel", "puts", "(I)V"⟩, 43) := ⟨⟨by decide +kernel, by decide +kernel⟩, List.mem_of_getElem? (i := 816) (by decide +kernel), List.mem_of_getElem? (i := 1097) (by decide +kernel), List.mem_of_getElem? (i := 1098) (by decide +kernel)⟩
theorem lw_p50 : lw_okq (⟨"AbbreviationBookModel", "fills", "()V"⟩, 43) := ⟨⟨by decide +kernel, by decide +kernel⟩, List.mem_of_getElem? (i := 816) (by decide +kernel), List.mem_of_getElem? (i := 1101) (by decide +kernel), List.mem_of_getElem? (i := 1102) (by decide +kernel)⟩
theorem lw_p51 : lw_okq (⟨"AbbreviationBookModel", "callsOf", "(I)I"⟩, 43) := ⟨⟨by decide +kernel, by decide +kernel⟩, List.mem_of_getElem? (i := 816) (by decide +kernel), List.mem_of_getElem? (i := 1121) (by decide +kernel), List.mem_of_getElem? (i := 1122) (by decide +kernel)⟩
theorem lw_p52 : lw_okq (⟨"AbbreviationBookModel", "mostOf", "(IZ)I"⟩, 43) := ⟨⟨by decide +kernel, by decide +kernel⟩, List.mem_of_getElem? (i := 816) (by decide +kernel), List.mem_of_getElem? (i := 1125) (by decide +kernel), List.mem_of_getElem? (i := 1126) (by decide +kernel)⟩
theorem lw_p53 : lw_okq (⟨"AbbreviationBookModel", "plainOf", "(I)I"⟩, 43) := ⟨⟨by decide +kernel, by decide +kernel⟩, List.mem_of_getElem? (i := 816) (by decide +kernel), List.mem_of_getElem? (i := 1129) (by decide +kernel), List.mem_of_getElem? (i := 1130) (by decide +kernel)⟩
theorem lw_p54 : lw_okq (⟨"AbbreviationBookModel", "laysSets", "()V"⟩, 43) := ⟨⟨by decide +kernel, by decide +kernel⟩, List.mem_of_getElem? (i := 816) (by decide +kernel), List.mem_of_getElem? (i := 1137) (by decide +kernel), List.mem_of_getElem? (i := 1138) (by decide +kernel)⟩
theorem lw_p55 : lw_okq (⟨"AbbreviationBookModel", "called", "(I)I"⟩, 43) := ⟨⟨by decide +kernel, by decide +kernel⟩, List.mem_of_getElem? (i := 816) (by decide +kernel), List.mem_of_getElem? (i := 1141) (by decide +kernel), List.mem_of_getElem? (i := 1142) (by decide +kernel)⟩
theorem lw_p56 : lw_okq (⟨"AbbreviationBookModel", "reached", "(I)I"⟩, 43) := ⟨⟨by decide +kernel, by decide +kernel⟩, List.mem_of_getElem? (i := 816) (by decide +kernel), List.mem_of_getElem? (i := 1145) (by decide +kernel), List.mem_of_getElem? (i := 1146) (by decide +kernel)⟩
theorem lw_p57 : lw_okq (⟨"AbbreviationBookModel", "callers", "(IZ)I"⟩, 43) := ⟨⟨by decide +kernel, by decide +kernel⟩, List.mem_of_getElem? (i := 816) (by decide +kernel), List.mem_of_getElem? (i := 1149) (by decide +kernel), List.mem_of_getElem? (i := 1150) (by decide +kernel)⟩
theorem lw_p58 : lw_okq (⟨"AbbreviationBookModel", "inRings", "()I"⟩, 43) := ⟨⟨by decide +kernel, by decide +kernel⟩, List.mem_of_getElem? (i := 816) (by decide +kernel), List.mem_of_getElem? (i := 1157) (by decide +kernel), List.mem_of_getElem? (i := 1158) (by decide +kernel)⟩
theorem lw_p59 : lw_okq (⟨"AbbreviationBookModel", "all", "()I"⟩, 43) := ⟨⟨by decide +kernel, by decide +kernel⟩, List.mem_of_getElem? (i := 816) (by decide +kernel), List.mem_of_getElem? (i := 1165) (by decide +kernel), List.mem_of_getElem? (i := 1166) (by decide +kernel)⟩
theorem lw_p60 : lw_okq (⟨"AbbreviationBookModel", "signsAs", "(I)I"⟩, 43) := ⟨⟨by decide +kernel, by decide +kernel⟩, List.mem_of_getElem? (i := 816) (by decide +kernel), List.mem_of_getElem? (i := 1185) (by decide +kernel), List.mem_of_getElem? (i := 1186) (by decide +kernel)⟩
theorem lw_p61 : lw_okq (⟨"AbbreviationBookModel", "callsOfAll", "()I"⟩, 43) := ⟨⟨by decide +kernel, by decide +kernel⟩, List.mem_of_getElem? (i := 816) (by decide +kernel), List.mem_of_getElem? (i := 1201) (by decide +kernel), List.mem_of_getElem? (i := 1202) (by decide +kernel)⟩
def lw_privs_4 : List (MethodName × Nat) := [(⟨"AbbreviationBookModel", "skips", "()V"⟩, 43), (⟨"AbbreviationBookModel", "puts", "(I)V"⟩, 43), (⟨"AbbreviationBookModel", "fills", "()V"⟩, 43), (⟨"AbbreviationBookModel", "callsOf", "(I)I"⟩, 43), (⟨"AbbreviationBookModel", "mostOf", "(IZ)I"⟩, 43), (⟨"AbbreviationBookModel", "plainOf", "(I)I"⟩, 43), (⟨"AbbreviationBookModel", "laysSets", "()V"⟩, 43), (⟨"AbbreviationBookModel", "called", "(I)I"⟩, 43), (⟨"AbbreviationBookModel", "reached", "(I)I"⟩, 43), (⟨"AbbreviationBookModel", "callers", "(IZ)I"⟩, 43), (⟨"AbbreviationBookModel", "inRings", "()I"⟩, 43), (⟨"AbbreviationBookModel", "all", "()I"⟩, 43), (⟨"AbbreviationBookModel", "signsAs", "(I)I"⟩, 43), (⟨"AbbreviationBookModel", "callsOfAll", "()I"⟩, 43)]
theorem lw_r4 : ∀ q ∈ lw_privs_4, lw_okq q := List.forall_mem_cons.mpr ⟨lw_p48, List.forall_mem_cons.mpr ⟨lw_p49, List.forall_mem_cons.mpr ⟨lw_p50, List.forall_mem_cons.mpr ⟨lw_p51, List.forall_mem_cons.mpr ⟨lw_p52, List.forall_mem_cons.mpr ⟨lw_p53, List.forall_mem_cons.mpr ⟨lw_p54, List.forall_mem_cons.mpr ⟨lw_p55, List.forall_mem_cons.mpr ⟨lw_p56, List.forall_mem_cons.mpr ⟨lw_p57, List.forall_mem_cons.mpr ⟨lw_p58, List.forall_mem_cons.mpr ⟨lw_p59, List.forall_mem_cons.mpr ⟨lw_p60, List.forall_mem_cons.mpr ⟨lw_p61, fun _ h => absurd h List.not_mem_nil⟩⟩⟩⟩⟩⟩⟩⟩⟩⟩⟩⟩⟩⟩
def lw_privs : List (MethodName × Nat) := lw_privs_1 ++ (lw_privs_2 ++ (lw_privs_3 ++ (lw_privs_4)))
def lw_tbl : List Cond := k2_sels lw_privs ++ tables_1
theorem lw_privs_ok : ∀ q ∈ lw_privs, lw_okq q := by
  show ∀ q ∈ lw_privs_1 ++ (lw_privs_2 ++ (lw_privs_3 ++ (lw_privs_4))), lw_okq q
  exact List.forall_mem_append.mpr ⟨lw_r1, List.forall_mem_append.mpr ⟨lw_r2, List.forall_mem_append.mpr ⟨lw_r3, lw_r4⟩⟩⟩
/-- the streams that the claim lets the run draw from -/
abbrev lw_cs : List Choice := [Jvm.Choice.named "NaN.bits"]
theorem lw_bits : nanBits ∈ lw_cs := by first | decide | exact List.mem_cons_self | simp [lw_cs, nanBits]
end
section
/-! ===== BEGIN words of one list among another's, by their places ===== -/
theorem goodIn_r {big : List Cond} (ws : List Cond) (ps : List Nat) (hp : ws = ps.filterMap (fun i => big[i]?)) (h : ws.all goodWord = true) : GoodIn big ws := by
  intro w hw
  have h1 := List.all_eq_true.mp h w hw
  rw [hp] at hw
  obtain ⟨i, -, hi⟩ := List.mem_filterMap.mp hw
  have hm : w ∈ big := by first | exact List.mem_of_getElem? hi | exact List.getElem?_mem hi
  exact ⟨hm, good_of_word h1⟩
theorem goodIn_app {big a b : List Cond} (ha : GoodIn big a) (hb : GoodIn big b) : GoodIn big (a ++ b) := fun w h => (List.mem_append.mp h).elim (ha w) (hb w)
theorem goodIn_ca {big a b : List Cond} {c : Cond} (ha : GoodIn big (c :: a)) (hb : GoodIn big b) : GoodIn big (c :: (a ++ b)) := fun w h => (List.mem_cons.mp h).elim (fun e => ha w (List.mem_cons.mpr (Or.inl e))) (fun h => (List.mem_append.mp h).elim (fun h => ha w (List.mem_cons.mpr (Or.inr h))) (hb w))
theorem goodIn_sub {big ws : List Cond} (hm : ∀ w ∈ ws, w ∈ big) (h : ws.all goodWord = true) : GoodIn big ws := fun w hw => ⟨hm w hw, good_of_word (List.all_eq_true.mp h w hw)⟩
/-! ===== END ===== -/

/-! ===== BEGIN exceptions that leave a method, and their catching by the caller (launches without stack traces) ===== -/
section VXA
/-! The laws vx_back, vx_callV, vx_callS, vx_callSW, vx_throw0, vx_throwS follow proofs of the library, with one case more: JvmDerived/Free/Laws.lean (Back.of_free), Shelf42/LK1.lean (callV, callS), Shelf/KitTraced.lean (throwNew0V, throwNewS). -/
/-- where a method has thrown q: the class by its name, the cell, what was written, the world -/
def vx_T (XC : String → State → State → Prop) (st : State) (q : Addr) (t : State) (mc ms : Nat) (free : Addr → Prop) : Prop :=
  ∃ (E : String) (ce : Cell) (L : List Loc), XC E st t ∧ t.heap[q]? = some ce ∧ ce.vm = .none ∧ st.vm.findClass E = some ce.cls ∧ st.WarmedH t.vm ∧ st.sameButNew ({ t with vm := st.vm } : State) L mc ms ∧ ∀ z ∈ L, free z.base
def vx_Q (Qc : Array Value → State → Outcome → State → Prop) (XC : String → State → State → Prop) (mc ms : Nat) (free : Addr → Prop) : Array Value → State → Outcome → State → Prop := fun a st o t =>
  (Qc a st o t ∧ ∃ L, FrameEnd st o t L mc ms ∧ ∀ q ∈ L, free q.base) ∨ ∃ q, o = .threw q ∧ vx_T XC st q t mc ms free
/-- a callee that returns or throws -/
def vx_Met (l : Launch) (y : MethodName) (ws : List Cond) (rm : Room) (Pc : Array Value → State → Prop) (Qc : Array Value → State → Outcome → State → Prop) (XC : String → State → State → Prop) (mc ms : Nat) (free : Addr → Prop) : Prop :=
  MetFree l y (headSpec ws rm) Pc (fun _ _ _ _ _ => True) (vx_Q Qc XC mc ms free)
def vx_Post (XC : String → State → State → Prop) (mc ms : Nat) (free : Addr → Prop) : Pt → Array Value → Addr → Pt → Prop := fun A a q B =>
  ∃ (g : JFrame) (mk : MethodId) (t : State) (L : List Loc) (E : String) (ce : Cell), B.U.heap = t.heap ∧ B.U.vm = t.vm ∧ XC E (A.U.calling g mk a) t ∧ t.heap[q]? = some ce ∧ ce.vm = .none ∧ A.U.vm.findClass E = some ce.cls ∧ B.locs = A.locs ++ L ∧ (∀ z ∈ L, free z.base) ∧ B.cells = A.cells + mc ∧ B.slots = A.slots + ms
def vx_Back (l : Launch) (R : Room) (p : Program) (e : Env) (below : List Frame) (s : State) (sargs : Array Value) (y : MethodName) (len W9 : Nat)
    (Pre : Pt → Array Value → Prop) (Post : Pt → Array Value → Option Value → Pt → Prop) (PostX : Pt → Array Value → Addr → Pt → Prop) : Prop :=
  ∀ (m : MethodId) (meth : Method) (c : Code) (A : Pt) (g : JFrame) (ig : Instr) (mk : MethodId) (a : Array Value),
    Stand p l e R s m sargs below meth c A.U A.locs A.cells A.slots → g.method = m → g.locals.size = c.maxLocals → decode c.code g.pc = .ok (ig, len) →
    2 * g.monitorRoom + (g.stack.map fun v => v.category).sum ≤ W9 → A.U.methodNamed? y = some mk → Pre A a →
    (∃ (v : Option Value) (B : Pt), Stand p l e R s m sargs below meth c B.U B.locs B.cells B.slots ∧ Post A a v B ∧
      Steps p.tables e below (doInvoke e (A.U.setTop g) [] mk a).1 (B.U.setTop { g with pc := g.pc + len, stack := v.toList ++ g.stack })) ∨
    (∃ (q : Addr) (B : Pt), Stand p l e R s m sargs below meth c B.U B.locs B.cells B.slots ∧ PostX A a q B ∧
      Steps p.tables e below (doInvoke e (A.U.setTop g) [] mk a).1 ((B.U.setTop g).pushFrame (.throwing q)))
section Payer
variable {l : Launch} {R : Room} {p : Program} {e : Env} {below : List Frame} {s : State} {sargs : Array Value} {y : MethodName} {len W9 : Nat}
theorem vx_back {ws : List Cond} {rm : Room} {Pc : Array Value → State → Prop} {Qc : Array Value → State → Outcome → State → Prop} {XC : String → State → State → Prop} {mc ms : Nat} {free : Addr → Prop} {bytes : ByteArray} {maxL : Nat} {ret : Option FieldType}
    (hM : vx_Met l y ws rm Pc Qc XC mc ms free) (hblind : FrameBlind Pc) (hrc : rm.cells = mc) (hrs : rm.slots = ms)
    (hframes : rm.frames + 1 ≤ R.frames) (hlocals : W9 + (maxL + 11) + rm.locals ≤ R.locals)
    (hws : ∀ w ∈ ws, ∀ a' U, s.WarmedH U.vm → w.before a' U = true) (hcode : Cond.code y bytes maxL ret ∈ ws) (hinit : ∀ a' U, s.WarmedH U.vm → (Cond.initialized y.cls).before a' U = true) :
    vx_Back l R p e below s sargs y len W9 (PreOf R mc ms Pc) (PostOf Qc mc ms free) (vx_Post XC mc ms free) := by
  intro m meth c A g ig mk a X hg hsize hdg hW hn hp
  have h1 : (headSpec ws rm).pre.before a A.U = true := atoms_intro fun w hw => hws w hw _ _ X.warmed
  have h2 : (Cond.code y bytes maxL ret).before a A.U = true := hws _ hcode _ _ X.warmed
  have h3 : (Cond.initialized y.cls).before a A.U = true := hinit _ _ X.warmed
  have h4 : A.cells + (headSpec ws rm).room.cells ≤ R.cells := by rw [show (headSpec ws rm).room.cells = mc from hrc]; exact hp.1
  have h5 : A.slots + (headSpec ws rm).room.slots ≤ R.slots := by rw [show (headSpec ws rm).room.slots = ms from hrs]; exact hp.2.1
  have hPc : Pc a (A.U.calling g mk a) := hblind _ _ _ _ hp.2.2
  obtain ⟨U, Ls, c0, s0⟩ := A
  dsimp only [Pt.U, Pt.locs, Pt.cells, Pt.slots] at h1 h2 h3 h4 h5 X hn hPc ⊢
  obtain ⟨methY, cY, hmY, hcY, -, hlY, -, -, -, -⟩ := Cond.code_spec hn h2
  obtain ⟨kY, hkY, -⟩ := className_of_methodNamed hn
  have hinitY : kY.init = .initialized := Cond.initialized_spec (findClass_of_methodNamed hn) hkY h3
  have h : At U g.method c below := by rw [hg]; exact X.here
  have hlocals9 : W9 + (maxL + 11) + (headSpec ws rm).room.locals ≤ R.locals := hlocals
  have happ : (headSpec ws rm).appliesLoose y e.platform (U.calling g mk a) = true :=
    Spec.appliesLoose_calling (g := g) h hdg hn hkY hinitY
      (X.room_calling (g := g) (R' := (headSpec ws rm).room) hsize hmY hcY hframes (by rw [hlY]; omega) h4 h5) h1
  obtain ⟨mid, hmid⟩ := h.above
  have hfr : (U.setTop g).frames = (.java g :: mid) ++ below := by rw [State.frames_setTop' g h.top, hmid]; rfl
  obtain ⟨o, s₂, hsteps, -, hend, hq⟩ := Steps.callFree hM p X.admits X.cas X.clock (acts := []) hfr happ hPc trivial
  have hq' : vx_Q Qc XC mc ms free a (U.calling g mk a) o s₂ := hq
  rw [State.frames_setTop' g h.top] at hend
  obtain ⟨g₀, hg0⟩ := Option.isSome_iff_exists.mp h.top
  obtain ⟨r, hr⟩ := State.topJava?_eq_some.mp hg0
  have hr' : (({ U with heap := s₂.heap, slotsUsed := s₂.slotsUsed } : State).setVm s₂.vm).frames = .java g₀ :: r := hr
  rcases hq' with ⟨hqc, L, hfe, hL⟩ | ⟨q, rfl, E, ce, L, hx, hce, hcv, hcl, hW₂, hsm, hL⟩
  · obtain ⟨⟨v, rfl⟩, hW₂, e2, q2, q3, q4, q5, q6⟩ := id hfe
    have e3 : s₂ = ({ (U.calling g mk a).setFrames s₂.frames with heap := s₂.heap, slotsUsed := s₂.slotsUsed } : State).setVm s₂.vm := by
      have : s₂ = ({ s₂ with vm := (U.calling g mk a).vm } : State).setVm s₂.vm := rfl
      rw [e2] at this
      exact this
    obtain ⟨c₂, i₂, len₂, hc₂, hd₂, hf₂⟩ := hend
    have hW' : U.WarmedH s₂.vm := hW₂
    have hcc : c₂ = c := by
      have h1 : s₂.code? g.method = U.code? g.method := by
        rw [State.code?_eq, State.code?_eq, hW'.alike.method?]
      exact Option.some.inj (hc₂.symm.trans (h1.trans h.code))
    subst hcc
    have hlen : len₂ = len := by rw [hdg] at hd₂; cases hd₂; rfl
    subst hlen
    have hs₂ : s₂ = (({ U with heap := s₂.heap, slotsUsed := s₂.slotsUsed } : State).setVm s₂.vm).setTop { g with pc := g.pc + len₂, stack := v.toList ++ g.stack } := by
      refine e3.trans ?_
      rw [hf₂, State.calling_eq h.top, State.setFrames_setFrames, State.setTop_of_frames _ hr', hr]
      rfl
    have hsame : U.sameButNew ({ U with heap := s₂.heap, slotsUsed := s₂.slotsUsed } : State) L mc ms := by
      refine ⟨?_, q2, q3, q4, q5, q6⟩
      obtain ⟨t, ht, -⟩ := State.frames_cons hr
      show ({ U with heap := s₂.heap, slotsUsed := s₂.slotsUsed } : State) = { U.setFrames U.frames with heap := s₂.heap, slotsUsed := s₂.slotsUsed }
      rw [State.setFrames_self ht]
    subst hg
    refine Or.inl ⟨v, ⟨(({ U with heap := s₂.heap, slotsUsed := s₂.slotsUsed } : State).setVm s₂.vm), Ls ++ L, c0 + mc, s0 + ms⟩,
      ⟨X.admits, X.cas, X.clock, X.frames, X.room, X.hears, X.method, X.code, (X.here.setHeapUsed s₂.heap s₂.slotsUsed).setVm hW'.alike, X.tail, State.WarmedH.trans X.warmed hW', X.limits, X.bytes, X.same.trans (hsame.setVm s.vm)⟩,
      ⟨g, mk, s₂, L, rfl, rfl, hqc, rfl, hL, rfl, rfl⟩, ?_⟩
    show Steps p.tables e below _ ((({ U with heap := s₂.heap, slotsUsed := s₂.slotsUsed } : State).setVm s₂.vm).setTop { g with pc := g.pc + len₂, stack := v.toList ++ g.stack })
    rw [← hs₂]
    exact hsteps
  · obtain ⟨e2, q2, q3, q4, q5, q6⟩ := id hsm
    have e3 : s₂ = ({ (U.calling g mk a).setFrames s₂.frames with heap := s₂.heap, slotsUsed := s₂.slotsUsed } : State).setVm s₂.vm := by
      have : s₂ = ({ s₂ with vm := (U.calling g mk a).vm } : State).setVm s₂.vm := rfl
      rw [e2] at this
      exact this
    have hf₂ : s₂.frames = .throwing q :: .java g :: U.frames.tail := hend
    have hW' : U.WarmedH s₂.vm := hW₂
    have hs₂ : s₂ = ((({ U with heap := s₂.heap, slotsUsed := s₂.slotsUsed } : State).setVm s₂.vm).setTop g).pushFrame (.throwing q) := by
      refine e3.trans ?_
      rw [hf₂, State.calling_eq h.top, State.setFrames_setFrames, State.pushFrame, State.frames_setTop _ hr', State.setTop_of_frames _ hr', State.setFrames_setFrames, hr]
      rfl
    have hsame : U.sameButNew ({ U with heap := s₂.heap, slotsUsed := s₂.slotsUsed } : State) L mc ms := by
      refine ⟨?_, q2, q3, q4, q5, q6⟩
      obtain ⟨t, ht, -⟩ := State.frames_cons hr
      show ({ U with heap := s₂.heap, slotsUsed := s₂.slotsUsed } : State) = { U.setFrames U.frames with heap := s₂.heap, slotsUsed := s₂.slotsUsed }
      rw [State.setFrames_self ht]
    subst hg
    refine Or.inr ⟨q, ⟨(({ U with heap := s₂.heap, slotsUsed := s₂.slotsUsed } : State).setVm s₂.vm), Ls ++ L, c0 + mc, s0 + ms⟩,
      ⟨X.admits, X.cas, X.clock, X.frames, X.room, X.hears, X.method, X.code, (X.here.setHeapUsed s₂.heap s₂.slotsUsed).setVm hW'.alike, X.tail, State.WarmedH.trans X.warmed hW', X.limits, X.bytes, X.same.trans (hsame.setVm s.vm)⟩,
      ⟨g, mk, s₂, L, E, ce, rfl, rfl, hx, hce, hcv, hcl, rfl, hL, rfl, rfl⟩, ?_⟩
    show Steps p.tables e below _ (((({ U with heap := s₂.heap, slotsUsed := s₂.slotsUsed } : State).setVm s₂.vm).setTop g).pushFrame (.throwing q))
    rw [← hs₂]
    exact hsteps
end Payer
section Calls
variable {p : Program} {l : Launch} {e : Env} {R : Room} {s : State} {m : MethodId} {args : Array Value} {below : List Frame} {meth : Method} {c : Code} {T : State} {locs : List Loc} {cells slots : Nat}
theorem vx_callV (X : Stand p l e R s m args below meth c T locs cells slots) (hexec : p.tables.exec = Jvm.exec) {own C : String} {index : Nat} {y : MethodName} {bytes : ByteArray} {maxL : Nat} {ret : Option FieldType}
    (hown : s.vm.findClass own = some m.cls) (hlink : (Cond.methodLink own index y).before args s = true) (hinst : (Cond.instanceMethod y).before args s = true) (hsel : (Cond.selects C y y).before args s = true)
    (hcode : (Cond.code y bytes maxL ret).before args s = true) (hy : y.cls ≠ "java/lang/invoke/MethodHandle" ∧ y.cls ≠ "java/lang/invoke/VarHandle")
    {W9 : Nat} {Pre : Pt → Array Value → Prop} {Post : Pt → Array Value → Option Value → Pt → Prop} {PostX : Pt → Array Value → Addr → Pt → Prop} (hK : vx_Back l R p e below s args y 3 W9 Pre Post PostX)
    {b : Addr} {cellB : Cell} (hcell : T.heap[b]? = some cellB) (hobj : cellB.vm.isStatics = false) (hcls : s.vm.findClass C = some cellB.cls)
    {g : JFrame} (hg : g.method = m) (hsize : g.locals.size = c.maxLocals) {argsL rest : List Value} (hlen : ∀ sig, parseMethodDescriptor y.desc = some sig → argsL.length = sig.parameters.length)
    (hstack : g.stack = argsL.reverse ++ .ref b :: rest) (hW : 2 * g.monitorRoom + (rest.map fun v => v.category).sum ≤ W9) (hdg : decode c.code g.pc = .ok (.invokevirtual index, 3))
    (hpre : ∀ vm₁, s.WarmedH vm₁ → Pre ⟨T.setVm vm₁, locs, cells, slots⟩ (Value.ref b :: argsL).toArray) :
    (∃ (v : Option Value) (vm₁ : Vm) (B : Pt), s.WarmedH vm₁ ∧ Stand p l e R s m args below meth c B.U B.locs B.cells B.slots ∧ Post ⟨T.setVm vm₁, locs, cells, slots⟩ (Value.ref b :: argsL).toArray v B ∧
      ∀ target, Steps p.tables e below (B.U.setTop { g with pc := g.pc + 3, stack := v.toList ++ rest }) target → Steps p.tables e below (T.setTop g) target) ∨
    (∃ (q : Addr) (vm₁ : Vm) (B : Pt), s.WarmedH vm₁ ∧ Stand p l e R s m args below meth c B.U B.locs B.cells B.slots ∧ PostX ⟨T.setVm vm₁, locs, cells, slots⟩ (Value.ref b :: argsL).toArray q B ∧
      Steps p.tables e below (T.setTop g) ((B.U.setTop { g with stack := rest }).pushFrame (.throwing q))) := by
  obtain ⟨mk, methM, hnamed, hmethM, hstM, habM⟩ := Cond.instanceMethod_spec hinst
  obtain ⟨methM', cM, hmethM', -, -, -, -, -, -, hsigM⟩ := Cond.code_spec hnamed hcode
  cases hmethM.symm.trans hmethM'
  obtain ⟨c2, r2, m2, q1, q2, q3, q4, kP, hkP, hkPi⟩ := Cond.selects_spec hsel
  cases hcls.symm.trans q1
  cases (State.methodFound?_of_named hnamed hy).symm.trans q2
  cases hnamed.symm.trans q3
  have hselP : selectMethod e.platform s.vm cellB.cls mk = .method mk := by rw [Launch.admits_selectMethod X.admits]; exact q4
  obtain ⟨vm₁, X₁, hstep₁⟩ := X.invokevirtual hexec hown hlink hnamed hmethM hstM hkP hkPi hy (a := b) (cell := cellB) hcell
    (fun z h => by rw [h] at hobj; cases hobj) hselP hmethM habM hkP hkPi (g := g) hg (argsL := argsL) (rest := rest) (hlen _ hsigM) hstack hdg
  rcases hK m meth c ⟨T.setVm vm₁, locs, cells, slots⟩ { g with stack := rest } (.invokevirtual index) mk (Value.ref b :: argsL).toArray X₁ hg hsize hdg hW (X₁.named hnamed) (hpre vm₁ X₁.warmed) with ⟨v, B, X', hpost, hsteps⟩ | ⟨q, B, X', hpost, hsteps⟩
  · exact Or.inl ⟨v, vm₁, B, X₁.warmed, X', hpost, fun target h => hstep₁ _ fun acts => by rw [doInvoke_state]; exact hsteps.trans h⟩
  · exact Or.inr ⟨q, vm₁, B, X₁.warmed, X', hpost, hstep₁ _ fun acts => by rw [doInvoke_state]; exact hsteps⟩
theorem vx_callS (X : Stand p l e R s m args below meth c T locs cells slots) (hexec : p.tables.exec = Jvm.exec) {own : String} {index : Nat} {y : MethodName} {bytes : ByteArray} {maxL : Nat} {ret : Option FieldType}
    (hown : s.vm.findClass own = some m.cls) (hlink : (Cond.methodLink own index y).before args s = true) (hstat : (Cond.static y).before args s = true) (hinit : (Cond.initialized y.cls).before args s = true)
    (hcode : (Cond.code y bytes maxL ret).before args s = true) (hy : y.cls ≠ "java/lang/invoke/MethodHandle" ∧ y.cls ≠ "java/lang/invoke/VarHandle")
    {W9 : Nat} {Pre : Pt → Array Value → Prop} {Post : Pt → Array Value → Option Value → Pt → Prop} {PostX : Pt → Array Value → Addr → Pt → Prop} (hK : vx_Back l R p e below s args y 3 W9 Pre Post PostX)
    {g : JFrame} (hg : g.method = m) (hsize : g.locals.size = c.maxLocals) {argsL rest : List Value} (hlen : ∀ sig, parseMethodDescriptor y.desc = some sig → argsL.length = sig.parameters.length)
    (hstack : g.stack = argsL.reverse ++ rest) (hW : 2 * g.monitorRoom + (rest.map fun v => v.category).sum ≤ W9) (hdg : decode c.code g.pc = .ok (.invokestatic index, 3))
    (hpre : ∀ vm₁, s.WarmedH vm₁ → Pre ⟨T.setVm vm₁, locs, cells, slots⟩ argsL.toArray) :
    (∃ (v : Option Value) (vm₁ : Vm) (B : Pt), s.WarmedH vm₁ ∧ Stand p l e R s m args below meth c B.U B.locs B.cells B.slots ∧ Post ⟨T.setVm vm₁, locs, cells, slots⟩ argsL.toArray v B ∧
      ∀ target, Steps p.tables e below (B.U.setTop { g with pc := g.pc + 3, stack := v.toList ++ rest }) target → Steps p.tables e below (T.setTop g) target) ∨
    (∃ (q : Addr) (vm₁ : Vm) (B : Pt), s.WarmedH vm₁ ∧ Stand p l e R s m args below meth c B.U B.locs B.cells B.slots ∧ PostX ⟨T.setVm vm₁, locs, cells, slots⟩ argsL.toArray q B ∧
      Steps p.tables e below (T.setTop g) ((B.U.setTop { g with stack := rest }).pushFrame (.throwing q))) := by
  obtain ⟨mk, hnamed⟩ := Cond.code_named hcode
  obtain ⟨methM, cM, hmethM, -, -, -, -, -, -, hsigM⟩ := Cond.code_spec hnamed hcode
  have hstatic : methM.isStatic = true := Cond.static_spec hnamed hmethM hstat
  obtain ⟨kP, hkP, -⟩ := className_of_methodNamed hnamed
  have hinitP : kP.init = .initialized := Cond.initialized_spec (findClass_of_methodNamed hnamed) hkP hinit
  obtain ⟨vm₁, X₁, hstep₁⟩ := X.invokestatic hexec hown hlink hnamed hmethM hstatic hkP hinitP hy (g := g) hg (argsL := argsL) (rest := rest) (hlen _ hsigM) hstack hdg
  rcases hK m meth c ⟨T.setVm vm₁, locs, cells, slots⟩ { g with stack := rest } (.invokestatic index) mk argsL.toArray X₁ hg hsize hdg hW (X₁.named hnamed) (hpre vm₁ X₁.warmed) with ⟨v, B, X', hpost, hsteps⟩ | ⟨q, B, X', hpost, hsteps⟩
  · exact Or.inl ⟨v, vm₁, B, X₁.warmed, X', hpost, fun target h => hstep₁ _ fun acts => by rw [doInvoke_state]; exact hsteps.trans h⟩
  · exact Or.inr ⟨q, vm₁, B, X₁.warmed, X', hpost, hstep₁ _ fun acts => by rw [doInvoke_state]; exact hsteps⟩
end Calls
theorem vx_cls {s : State} {T : State} {vm₁ : Vm} {E : String} {k : ClassId} (hW : s.WarmedH vm₁) (h : (T.setVm vm₁).vm.findClass E = some k) : s.vm.findClass E = some k := by
  have h1 : vm₁.findClass E = some k := h
  rw [hW.alike.findClass] at h1
  exact h1
/-- the method's frame g, with q thrown over it -/
def vx_W (p : Program) (l : Launch) (e : Env) (R : Room) (s : State) (m : MethodId) (args : Array Value) (below : List Frame) (meth : Method) (c : Code) (H : Heap) (locs : List Loc) (cells slots : Nat) (Q : State → Prop) (g : JFrame) (q : Addr) : Prop :=
  ∀ T : State, T.heap = H → Stand p l e R s m args below meth c T locs cells slots → ∃ t, Steps p.tables e below ((T.setTop g).pushFrame (.throwing q)) t ∧ Q t
def vx_Run (p : Program) (l : Launch) (e : Env) (R : Room) (s : State) (m : MethodId) (args : Array Value) (below : List Frame) (meth : Method) (c : Code) (H : Heap) (locs : List Loc) (cells slots mc ms : Nat) (g : JFrame) (rest : List Value) (Qa : State → Outcome → State → Prop) (XC : String → State → State → Prop) (free : Addr → Prop) : Prop :=
  ∀ T : State, T.heap = H → Stand p l e R s m args below meth c T locs cells slots →
    (∃ (v : Option Value) (st₀ t T' : State) (L : List Loc), st₀.heap = H ∧ Stand p l e R s m args below meth c T' (locs ++ L) (cells + mc) (slots + ms) ∧ (∀ q ∈ L, free q.base) ∧ T'.heap = t.heap ∧ T'.vm = t.vm ∧ Qa st₀ (.returned v) t ∧
      Goes p e below T g T' { g with pc := g.pc + 3, stack := v.toList ++ rest }) ∨
    (∃ (q : Addr) (st₀ t T' : State) (L : List Loc) (E : String) (ce : Cell), st₀.heap = H ∧ Stand p l e R s m args below meth c T' (locs ++ L) (cells + mc) (slots + ms) ∧ (∀ z ∈ L, free z.base) ∧ T'.heap = t.heap ∧ T'.vm = t.vm ∧ XC E st₀ t ∧ t.heap[q]? = some ce ∧ ce.vm = .none ∧ s.vm.findClass E = some ce.cls ∧
      Steps p.tables e below (T.setTop g) ((T'.setTop { g with stack := rest }).pushFrame (.throwing q)))
def vx_X {S : Type} (px : S → Prop) (B : String → S → State → Prop) (A : Nat → Prop) : String → State → State → Prop := fun E st t => ∃ u : S, px u ∧ B E u t ∧ va_F A st t
section Runs
variable {p : Program} {l : Launch} {e : Env} {R : Room} {s : State} {m : MethodId} {args : Array Value} {below : List Frame} {meth : Method} {c : Code} {H : Heap} {locs : List Loc} {cells slots : Nat}
variable {y : MethodName} {bytes cc : ByteArray} {maxL nL mc ms n index : Nat} {ret : Option FieldType} {ws : List Cond} {rm : Room} {Pc : Array Value → State → Prop} {Qc : Array Value → State → Outcome → State → Prop} {XC : String → State → State → Prop} {free : Addr → Prop} {Ts : List Cond} {own C : String} {b : Addr} {As rest : List Value} {g : JFrame}
theorem vx_callBack (cb : CallB R s args own index y bytes maxL ret ws rm mc ms n) (hM : vx_Met l y ws rm Pc Qc XC mc ms free) (hbl : FrameBlind Pc) : vx_Back l R p e below s args y 3 8 (PreOf R mc ms Pc) (PostOf Qc mc ms free) (vx_Post XC mc ms free) := by
  obtain ⟨hrc, hrs, hfr, hlo, hws, hcw, -, hini, -⟩ := cb
  exact vx_back (bytes := bytes) (maxL := maxL) (ret := ret) hM hbl hrc hrs hfr hlo hws hcw (fun a' U hW => word_at hW (Or.inl (by first | rfl | simp [Cond.onTables, Cond.keeps, Cond.steady])) hini)
theorem vx_runV (S : CallFix p m c cc nL s args Ts own) (hM : vx_Met l y ws rm Pc Qc XC mc ms free) (cw : CallW R s args own C index y bytes maxL ret ws rm mc ms n) (hp : PreV s H C b Pc As)
    (hg : g.method = m) (hn : As.length = n) (hsize : g.locals.size = nL) (hstack : g.stack = As.reverse ++ .ref b :: rest) (hW : 2 * g.monitorRoom + (rest.map fun v => v.category).sum ≤ 8) (hdg : decode cc g.pc = .ok (.invokevirtual index, 3)) (hf : cells + mc ≤ R.cells ∧ slots + ms ≤ R.slots) :
    vx_Run p l e R s m args below meth c H locs cells slots mc ms g rest (Qc (Value.ref b :: As).toArray) XC free := by
  have hK : vx_Back l R p e below s args y 3 8 (PreOf R mc ms Pc) (PostOf Qc mc ms free) (vx_Post XC mc ms free) := vx_callBack cw.1 hM hp.1
  obtain ⟨⟨-, -, -, -, -, -, hcode, -, hy, hlen, hl⟩, hin, hse⟩ := cw
  obtain ⟨hx, hb, hml, ho, -⟩ := S
  obtain ⟨-, ⟨cellB, hcB, hoB, hclB⟩, hPc⟩ := hp
  intro T hT X
  rcases vx_callV X hx (C := C) (bytes := bytes) (maxL := maxL) (ret := ret) ho hl hin hse hcode hy hK (by rw [hT]; exact hcB) hoB hclB hg (hsize.trans hml.symm) (argsL := As) (rest := rest) (fun sig h => hn.trans (hlen sig h)) hstack hW (by rw [hb]; exact hdg)
    (fun vm₁ hW₁ => ⟨hf.1, hf.2, hPc (T.setVm vm₁) hT hW₁⟩) with ⟨v, vm₁, ⟨U', l2, c2, s2⟩, hW₁, X', ⟨g', mk, t, L, e1, e2, hq, h1, hL, h2, h3⟩, st⟩ | ⟨q, vm₁, ⟨U', l2, c2, s2⟩, hW₁, X', ⟨g', mk, t, L, E, ce, e1, e2, hq, hce, hcv, hcl, h1, hL, h2, h3⟩, st⟩
  · dsimp only [Pt.U, Pt.locs, Pt.cells, Pt.slots] at X' e1 e2 h1 h2 h3 st
    subst h1; subst h2; subst h3
    exact Or.inl ⟨v, (T.setVm vm₁).calling g' mk (Value.ref b :: As).toArray, t, U', L, hT, X', hL, e1, e2, hq, st⟩
  · dsimp only [Pt.U, Pt.locs, Pt.cells, Pt.slots] at X' e1 e2 h1 h2 h3 st hcl
    subst h1; subst h2; subst h3
    exact Or.inr ⟨q, (T.setVm vm₁).calling g' mk (Value.ref b :: As).toArray, t, U', L, E, ce, hT, X', hL, e1, e2, hq, hce, hcv, vx_cls hW₁ hcl, st⟩
theorem vx_runS (S : CallFix p m c cc nL s args Ts own) (hM : vx_Met l y ws rm Pc Qc XC mc ms free) (cw : CallB R s args own index y bytes maxL ret ws rm mc ms n ∧ (Cond.static y).before args s = true) (hp : PreS s H Pc As)
    (hg : g.method = m) (hn : As.length = n) (hsize : g.locals.size = nL) (hstack : g.stack = As.reverse ++ rest) (hW : 2 * g.monitorRoom + (rest.map fun v => v.category).sum ≤ 8) (hdg : decode cc g.pc = .ok (.invokestatic index, 3)) (hf : cells + mc ≤ R.cells ∧ slots + ms ≤ R.slots) :
    vx_Run p l e R s m args below meth c H locs cells slots mc ms g rest (Qc As.toArray) XC free := by
  have hK : vx_Back l R p e below s args y 3 8 (PreOf R mc ms Pc) (PostOf Qc mc ms free) (vx_Post XC mc ms free) := vx_callBack cw.1 hM hp.1
  obtain ⟨⟨-, -, -, -, -, -, hcode, hini, hy, hlen, hl⟩, hstt⟩ := cw
  obtain ⟨hx, hb, hml, ho, -⟩ := S
  intro T hT X
  rcases vx_callS X hx (bytes := bytes) (maxL := maxL) (ret := ret) ho hl hstt hini hcode hy hK hg (hsize.trans hml.symm) (argsL := As) (rest := rest) (fun sig h => hn.trans (hlen sig h)) hstack hW (by rw [hb]; exact hdg)
    (fun vm₁ hW₁ => ⟨hf.1, hf.2, hp.2 (T.setVm vm₁) hT hW₁⟩) with ⟨v, vm₁, ⟨U', l2, c2, s2⟩, hW₁, X', ⟨g', mk, t, L, e1, e2, hq, h1, hL, h2, h3⟩, st⟩ | ⟨q, vm₁, ⟨U', l2, c2, s2⟩, hW₁, X', ⟨g', mk, t, L, E, ce, e1, e2, hq, hce, hcv, hcl, h1, hL, h2, h3⟩, st⟩
  · dsimp only [Pt.U, Pt.locs, Pt.cells, Pt.slots] at X' e1 e2 h1 h2 h3 st
    subst h1; subst h2; subst h3
    exact Or.inl ⟨v, (T.setVm vm₁).calling g' mk As.toArray, t, U', L, hT, X', hL, e1, e2, hq, st⟩
  · dsimp only [Pt.U, Pt.locs, Pt.cells, Pt.slots] at X' e1 e2 h1 h2 h3 st hcl
    subst h1; subst h2; subst h3
    exact Or.inr ⟨q, (T.setVm vm₁).calling g' mk As.toArray, t, U', L, E, ce, hT, X', hL, e1, e2, hq, hce, hcv, vx_cls hW₁ hcl, st⟩
end Runs
section Rows
variable {p : Program} {l : Launch} {e : Env} {R : Room} {s : State} {m : MethodId} {args : Array Value} {below : List Frame} {meth : Method} {c : Code} {H : Heap} {locs : List Loc} {cells slots : Nat} {Q : State → Prop}
variable {mc ms : Nat} {free : Addr → Prop} {A0 A1 : Nat → Prop} {H0 : Heap} {a : Array Value} {pc : Nat} {ls : Array Slot} {st0 rest : List Value}
theorem vx_keep {st₀ t T' : State} {L : List Loc} (h0 : st₀.heap = H) (e1 : T'.heap = t.heap) (hS : va_S A0 H0 H locs) (hA : ∀ q, q < H.size → A1 q → A0 q) (hf : ∀ q, free q → A0 q) (hL : ∀ q ∈ L, free q.base) (hF : va_F A1 st₀ t) :
    H.size ≤ T'.heap.size ∧ (∀ q : Nat, q < H.size → ¬ A1 q → T'.heap[q]? = H[q]?) ∧ va_S A0 H0 T'.heap (locs ++ L) := by
  obtain ⟨hz, hk⟩ := hF
  rw [h0] at hz hk
  exact ⟨by rw [e1]; exact hz, fun q h1 h2 => by rw [e1]; exact hk q h1 h2,
    ⟨Nat.le_trans hS.1 (by rw [e1]; exact hz), fun q h1 h2 => by rw [e1, hk q (Nat.lt_of_lt_of_le h1 hS.1) (fun z => h2 (hA q (Nat.lt_of_lt_of_le h1 hS.1) z))]; exact hS.2.1 q h1 h2, fun q hq => by
      rcases List.mem_append.mp hq with h | h
      · exact hS.2.2 q h
      · exact hf _ (hL q h)⟩⟩
theorem vx_calli {S SX : Type} {post : Int32 → S → Prop} {px : SX → Prop} {B : S → State → Prop} {BX : String → SX → State → Prop} {AX : Nat → Prop} (hr : vx_Run p l e R s m args below meth c H locs cells slots mc ms (F0 m pc ls st0) rest (va_Qi post B A1 a) (vx_X px BX AX) free) (hS : va_S A0 H0 H locs) (hA : ∀ q, q < H.size → A1 q → A0 q) (hf : ∀ q, free q → A0 q) (hAX : ∀ q, q < H.size → AX q → A0 q)
    (kx : ∀ (E : String) (ce : Cell) (q9 : Addr) (u : SX) (t : State) (H1 : Heap) (locs1 : List Loc), t.heap = H1 → s.vm.Alike t.vm → px u → BX E u t → H.size ≤ H1.size → (∀ q : Nat, q < H.size → ¬ AX q → H1[q]? = H[q]?) → va_S A0 H0 H1 locs1 → H1[q9]? = some ce → ce.vm = .none → s.vm.findClass E = some ce.cls → vx_W p l e R s m args below meth c H1 locs1 (cells + mc) (slots + ms) Q (F0 m pc ls rest) q9)
    (kk : ∀ (r : Int32) (u : S) (t : State) (H1 : Heap) (locs1 : List Loc), t.heap = H1 → s.vm.Alike t.vm → post r u → B u t → H.size ≤ H1.size → (∀ q : Nat, q < H.size → ¬ A1 q → H1[q]? = H[q]?) → va_S A0 H0 H1 locs1 → W p l e R s m args below meth c H1 locs1 (cells + mc) (slots + ms) Q (F0 m (pc + 3) ls (.int r :: rest))) : W p l e R s m args below meth c H locs cells slots Q (F0 m pc ls st0) := by
  intro T hT X
  rcases hr T hT X with ⟨v, st₀, t, T', L, h0, X', hL, e1, e2, ⟨⟨r, u, hv, hp, hb⟩, hF⟩, st⟩ | ⟨q, st₀, t, T', L, E, ce, h0, X', hL, e1, e2, ⟨u, hp, hb, hF⟩, hce, hcv, hcl, st⟩
  · cases hv
    obtain ⟨k1, k2, k3⟩ := vx_keep h0 e1 hS hA hf hL hF
    obtain ⟨t2, a1, b1⟩ := kk r u t T'.heap (locs ++ L) e1.symm (by rw [← e2]; exact X'.warmed.alike) hp hb k1 k2 k3 T' rfl X'
    exact ⟨t2, st t2 a1, b1⟩
  · obtain ⟨k1, k2, k3⟩ := vx_keep h0 e1 hS hAX hf hL hF
    obtain ⟨t2, a1, b1⟩ := kx E ce q u t T'.heap (locs ++ L) e1.symm (by rw [← e2]; exact X'.warmed.alike) hp hb k1 k2 k3 (by rw [e1]; exact hce) hcv hcl T' rfl X'
    exact ⟨t2, st.trans a1, b1⟩
theorem vx_calll {S SX : Type} {post : Int64 → S → Prop} {px : SX → Prop} {B : S → State → Prop} {BX : String → SX → State → Prop} {AX : Nat → Prop} (hr : vx_Run p l e R s m args below meth c H locs cells slots mc ms (F0 m pc ls st0) rest (va_Ql post B A1 a) (vx_X px BX AX) free) (hS : va_S A0 H0 H locs) (hA : ∀ q, q < H.size → A1 q → A0 q) (hf : ∀ q, free q → A0 q) (hAX : ∀ q, q < H.size → AX q → A0 q)
    (kx : ∀ (E : String) (ce : Cell) (q9 : Addr) (u : SX) (t : State) (H1 : Heap) (locs1 : List Loc), t.heap = H1 → s.vm.Alike t.vm → px u → BX E u t → H.size ≤ H1.size → (∀ q : Nat, q < H.size → ¬ AX q → H1[q]? = H[q]?) → va_S A0 H0 H1 locs1 → H1[q9]? = some ce → ce.vm = .none → s.vm.findClass E = some ce.cls → vx_W p l e R s m args below meth c H1 locs1 (cells + mc) (slots + ms) Q (F0 m pc ls rest) q9)
    (kk : ∀ (r : Int64) (u : S) (t : State) (H1 : Heap) (locs1 : List Loc), t.heap = H1 → s.vm.Alike t.vm → post r u → B u t → H.size ≤ H1.size → (∀ q : Nat, q < H.size → ¬ A1 q → H1[q]? = H[q]?) → va_S A0 H0 H1 locs1 → W p l e R s m args below meth c H1 locs1 (cells + mc) (slots + ms) Q (F0 m (pc + 3) ls (.long r :: rest))) : W p l e R s m args below meth c H locs cells slots Q (F0 m pc ls st0) := by
  intro T hT X
  rcases hr T hT X with ⟨v, st₀, t, T', L, h0, X', hL, e1, e2, ⟨⟨r, u, hv, hp, hb⟩, hF⟩, st⟩ | ⟨q, st₀, t, T', L, E, ce, h0, X', hL, e1, e2, ⟨u, hp, hb, hF⟩, hce, hcv, hcl, st⟩
  · cases hv
    obtain ⟨k1, k2, k3⟩ := vx_keep h0 e1 hS hA hf hL hF
    obtain ⟨t2, a1, b1⟩ := kk r u t T'.heap (locs ++ L) e1.symm (by rw [← e2]; exact X'.warmed.alike) hp hb k1 k2 k3 T' rfl X'
    exact ⟨t2, st t2 a1, b1⟩
  · obtain ⟨k1, k2, k3⟩ := vx_keep h0 e1 hS hAX hf hL hF
    obtain ⟨t2, a1, b1⟩ := kx E ce q u t T'.heap (locs ++ L) e1.symm (by rw [← e2]; exact X'.warmed.alike) hp hb k1 k2 k3 (by rw [e1]; exact hce) hcv hcl T' rfl X'
    exact ⟨t2, st.trans a1, b1⟩
theorem vx_callf {S SX : Type} {post : UInt32 → S → Prop} {px : SX → Prop} {B : S → State → Prop} {BX : String → SX → State → Prop} {AX : Nat → Prop} (hr : vx_Run p l e R s m args below meth c H locs cells slots mc ms (F0 m pc ls st0) rest (va_Qf post B A1 a) (vx_X px BX AX) free) (hS : va_S A0 H0 H locs) (hA : ∀ q, q < H.size → A1 q → A0 q) (hf : ∀ q, free q → A0 q) (hAX : ∀ q, q < H.size → AX q → A0 q)
    (kx : ∀ (E : String) (ce : Cell) (q9 : Addr) (u : SX) (t : State) (H1 : Heap) (locs1 : List Loc), t.heap = H1 → s.vm.Alike t.vm → px u → BX E u t → H.size ≤ H1.size → (∀ q : Nat, q < H.size → ¬ AX q → H1[q]? = H[q]?) → va_S A0 H0 H1 locs1 → H1[q9]? = some ce → ce.vm = .none → s.vm.findClass E = some ce.cls → vx_W p l e R s m args below meth c H1 locs1 (cells + mc) (slots + ms) Q (F0 m pc ls rest) q9)
    (kk : ∀ (r : UInt32) (u : S) (t : State) (H1 : Heap) (locs1 : List Loc), t.heap = H1 → s.vm.Alike t.vm → post r u → B u t → H.size ≤ H1.size → (∀ q : Nat, q < H.size → ¬ A1 q → H1[q]? = H[q]?) → va_S A0 H0 H1 locs1 → W p l e R s m args below meth c H1 locs1 (cells + mc) (slots + ms) Q (F0 m (pc + 3) ls (.float r :: rest))) : W p l e R s m args below meth c H locs cells slots Q (F0 m pc ls st0) := by
  intro T hT X
  rcases hr T hT X with ⟨v, st₀, t, T', L, h0, X', hL, e1, e2, ⟨⟨r, u, hv, hp, hb⟩, hF⟩, st⟩ | ⟨q, st₀, t, T', L, E, ce, h0, X', hL, e1, e2, ⟨u, hp, hb, hF⟩, hce, hcv, hcl, st⟩
  · cases hv
    obtain ⟨k1, k2, k3⟩ := vx_keep h0 e1 hS hA hf hL hF
    obtain ⟨t2, a1, b1⟩ := kk r u t T'.heap (locs ++ L) e1.symm (by rw [← e2]; exact X'.warmed.alike) hp hb k1 k2 k3 T' rfl X'
    exact ⟨t2, st t2 a1, b1⟩
  · obtain ⟨k1, k2, k3⟩ := vx_keep h0 e1 hS hAX hf hL hF
    obtain ⟨t2, a1, b1⟩ := kx E ce q u t T'.heap (locs ++ L) e1.symm (by rw [← e2]; exact X'.warmed.alike) hp hb k1 k2 k3 (by rw [e1]; exact hce) hcv hcl T' rfl X'
    exact ⟨t2, st.trans a1, b1⟩
theorem vx_calld {S SX : Type} {post : UInt64 → S → Prop} {px : SX → Prop} {B : S → State → Prop} {BX : String → SX → State → Prop} {AX : Nat → Prop} (hr : vx_Run p l e R s m args below meth c H locs cells slots mc ms (F0 m pc ls st0) rest (va_Qd post B A1 a) (vx_X px BX AX) free) (hS : va_S A0 H0 H locs) (hA : ∀ q, q < H.size → A1 q → A0 q) (hf : ∀ q, free q → A0 q) (hAX : ∀ q, q < H.size → AX q → A0 q)
    (kx : ∀ (E : String) (ce : Cell) (q9 : Addr) (u : SX) (t : State) (H1 : Heap) (locs1 : List Loc), t.heap = H1 → s.vm.Alike t.vm → px u → BX E u t → H.size ≤ H1.size → (∀ q : Nat, q < H.size → ¬ AX q → H1[q]? = H[q]?) → va_S A0 H0 H1 locs1 → H1[q9]? = some ce → ce.vm = .none → s.vm.findClass E = some ce.cls → vx_W p l e R s m args below meth c H1 locs1 (cells + mc) (slots + ms) Q (F0 m pc ls rest) q9)
    (kk : ∀ (r : UInt64) (u : S) (t : State) (H1 : Heap) (locs1 : List Loc), t.heap = H1 → s.vm.Alike t.vm → post r u → B u t → H.size ≤ H1.size → (∀ q : Nat, q < H.size → ¬ A1 q → H1[q]? = H[q]?) → va_S A0 H0 H1 locs1 → W p l e R s m args below meth c H1 locs1 (cells + mc) (slots + ms) Q (F0 m (pc + 3) ls (.double r :: rest))) : W p l e R s m args below meth c H locs cells slots Q (F0 m pc ls st0) := by
  intro T hT X
  rcases hr T hT X with ⟨v, st₀, t, T', L, h0, X', hL, e1, e2, ⟨⟨r, u, hv, hp, hb⟩, hF⟩, st⟩ | ⟨q, st₀, t, T', L, E, ce, h0, X', hL, e1, e2, ⟨u, hp, hb, hF⟩, hce, hcv, hcl, st⟩
  · cases hv
    obtain ⟨k1, k2, k3⟩ := vx_keep h0 e1 hS hA hf hL hF
    obtain ⟨t2, a1, b1⟩ := kk r u t T'.heap (locs ++ L) e1.symm (by rw [← e2]; exact X'.warmed.alike) hp hb k1 k2 k3 T' rfl X'
    exact ⟨t2, st t2 a1, b1⟩
  · obtain ⟨k1, k2, k3⟩ := vx_keep h0 e1 hS hAX hf hL hF
    obtain ⟨t2, a1, b1⟩ := kx E ce q u t T'.heap (locs ++ L) e1.symm (by rw [← e2]; exact X'.warmed.alike) hp hb k1 k2 k3 (by rw [e1]; exact hce) hcv hcl T' rfl X'
    exact ⟨t2, st.trans a1, b1⟩
theorem vx_callv {S SX : Type} {post : S → Prop} {px : SX → Prop} {B : S → State → Prop} {BX : String → SX → State → Prop} {AX : Nat → Prop} (hr : vx_Run p l e R s m args below meth c H locs cells slots mc ms (F0 m pc ls st0) rest (va_Qv post B A1 a) (vx_X px BX AX) free) (hS : va_S A0 H0 H locs) (hA : ∀ q, q < H.size → A1 q → A0 q) (hf : ∀ q, free q → A0 q) (hAX : ∀ q, q < H.size → AX q → A0 q)
    (kx : ∀ (E : String) (ce : Cell) (q9 : Addr) (u : SX) (t : State) (H1 : Heap) (locs1 : List Loc), t.heap = H1 → s.vm.Alike t.vm → px u → BX E u t → H.size ≤ H1.size → (∀ q : Nat, q < H.size → ¬ AX q → H1[q]? = H[q]?) → va_S A0 H0 H1 locs1 → H1[q9]? = some ce → ce.vm = .none → s.vm.findClass E = some ce.cls → vx_W p l e R s m args below meth c H1 locs1 (cells + mc) (slots + ms) Q (F0 m pc ls rest) q9)
    (kk : ∀ (u : S) (t : State) (H1 : Heap) (locs1 : List Loc), t.heap = H1 → s.vm.Alike t.vm → post u → B u t → H.size ≤ H1.size → (∀ q : Nat, q < H.size → ¬ A1 q → H1[q]? = H[q]?) → va_S A0 H0 H1 locs1 → W p l e R s m args below meth c H1 locs1 (cells + mc) (slots + ms) Q (F0 m (pc + 3) ls (rest))) : W p l e R s m args below meth c H locs cells slots Q (F0 m pc ls st0) := by
  intro T hT X
  rcases hr T hT X with ⟨v, st₀, t, T', L, h0, X', hL, e1, e2, ⟨⟨u, hv, hp, hb⟩, hF⟩, st⟩ | ⟨q, st₀, t, T', L, E, ce, h0, X', hL, e1, e2, ⟨u, hp, hb, hF⟩, hce, hcv, hcl, st⟩
  · cases hv
    obtain ⟨k1, k2, k3⟩ := vx_keep h0 e1 hS hA hf hL hF
    obtain ⟨t2, a1, b1⟩ := kk u t T'.heap (locs ++ L) e1.symm (by rw [← e2]; exact X'.warmed.alike) hp hb k1 k2 k3 T' rfl X'
    exact ⟨t2, st t2 a1, b1⟩
  · obtain ⟨k1, k2, k3⟩ := vx_keep h0 e1 hS hAX hf hL hF
    obtain ⟨t2, a1, b1⟩ := kx E ce q u t T'.heap (locs ++ L) e1.symm (by rw [← e2]; exact X'.warmed.alike) hp hb k1 k2 k3 (by rw [e1]; exact hce) hcv hcl T' rfl X'
    exact ⟨t2, st.trans a1, b1⟩
/-- caught by the row x of this method's table; the rows ahead don't take it -/
theorem vx_catch {own name : String} {E : String} {ce : Cell} {q : Addr} (hown : s.vm.findClass own = some m.cls) (pre : List ExceptionTableEntry) (x : ExceptionTableEntry) (suf : List ExceptionTableEntry) (hsplit : c.exceptionTable.toList = pre ++ x :: suf)
    (hpass : ∀ z ∈ pre, covers z pc = false ∨ (z.catchType ≠ 0 ∧ ∃ nm : String, (Cond.classLink own z.catchType nm).before args s = true ∧ va_Nc E nm s)) (hx : covers x pc = true) (h0 : x.catchType ≠ 0)
    (hlink : (Cond.classLink own x.catchType name).before args s = true) (hcast : (Cond.castable E name).before args s = true) (hcell : H[q]? = some ce) (hv : ce.vm = .none) (hcl : s.vm.findClass E = some ce.cls)
    (kk : W p l e R s m args below meth c H locs cells slots Q (F0 m x.handlerPc ls [.ref q])) : vx_W p l e R s m args below meth c H locs cells slots Q (F0 m pc ls rest) q := by
  intro T hT X
  have hpl : e.platform.magicAccessors = ({} : Platform).magicAccessors := by rw [X.admits.platform]
  obtain ⟨c3, c4, hc3, hc4, hasg⟩ := Cond.castable_spec hcast
  cases Option.some.inj (hc3.symm.trans hcl)
  obtain ⟨c5, hc5, hcl5⟩ := Cond.classLink_spec hown hlink e.platform hpl
  cases Option.some.inj (hc4.symm.trans hc5)
  obtain ⟨vm', X', st⟩ := X.thenCaughtThrough q (g := F0 m pc ls rest) rfl (Steps.refl _) (by rw [hT]; exact hcell) (by rw [hv]; rfl) (by obtain ⟨k9, h9, -⟩ := Vm.findClass_spec hcl; exact ⟨k9, h9⟩) pre x suf hsplit
    (fun z hz => by
      rcases hpass z hz with h | ⟨hz0, nm, hl1, hn1⟩
      · exact Or.inl h
      · obtain ⟨c6, hc6, hcl6⟩ := Cond.classLink_spec hown hl1 e.platform hpl
        obtain ⟨a8, b8, h1, h2, h3⟩ := hn1
        cases Option.some.inj (h1.symm.trans hcl)
        cases Option.some.inj (h2.symm.trans hc6)
        exact Or.inr ⟨hz0, _, hcl6, h3⟩) hx (Or.inr ⟨h0, c4, hcl5, hasg⟩)
  obtain ⟨t, a1, b1⟩ := kk (T.setVm vm') hT X'
  exact ⟨t, st.trans a1, b1⟩
end Rows
section Ends
variable {p : Program} {l : Launch} {e : Env} {R : Room} {s : State} {m : MethodId} {args : Array Value} {below : List Frame} {meth : Method} {c : Code} {H : Heap} {locs : List Loc} {cells slots : Nat} {Q : State → Prop}
variable {mc ms : Nat} {free : Addr → Prop} {A0 A1 : Nat → Prop} {H0 : Heap} {a : Array Value} {ls : Array Slot} {st0 rest : List Value}
variable {Qc : Array Value → State → Outcome → State → Prop} {XC : String → State → State → Prop}
/-- what a body that may throw owes at its end -/
def vx_MQ (below : List Frame) (Qc : Array Value → State → Outcome → State → Prop) (XC : String → State → State → Prop) (a : Array Value) (s : State) (mc ms : Nat) (free : Addr → Prop) : State → Prop := fun t =>
  ∃ o, t.status = .running ∧ Ended t below o ∧ vx_Q Qc XC mc ms free a s o t
theorem vx_ret {g : JFrame} {mc ms : Nat} (k : W p l e R s m args below meth c H locs cells slots (MQ below Qc args s mc ms free) g) : W p l e R s m args below meth c H locs cells slots (vx_MQ below Qc XC args s mc ms free) g := by
  intro T hT X
  obtain ⟨t, a1, o, b1, b2, b3, b4⟩ := k T hT X
  exact ⟨t, a1, o, b1, b2, Or.inl ⟨b3, b4⟩⟩
/-- not caught here: it goes on to the caller -/
theorem vx_widen {g : JFrame} {q : Addr} {k n : Nat} (h1 : cells ≤ k) (h2 : slots ≤ n) (kk : vx_W p l e R s m args below meth c H locs k n Q g q) : vx_W p l e R s m args below meth c H locs cells slots Q g q := fun T hT X => kk T hT (stand_widen X h1 h2)
theorem vx_out {pc : Nat} {E : String} {ce : Cell} {q : Addr} {mc ms : Nat} (hout : ∀ x ∈ c.exceptionTable.toList, covers x pc = false) (hlocks : meth.locks = false) (hcell : H[q]? = some ce) (hv : ce.vm = .none) (hcl : s.vm.findClass E = some ce.cls)
    (hx : ∀ t : State, t.heap = H → s.vm.Alike t.vm → XC E s t) (hf : ∀ z ∈ locs, free z.base) (hc : cells ≤ mc) (hs : slots ≤ ms) :
    vx_W p l e R s m args below meth c H locs cells slots (vx_MQ below Qc XC args s mc ms free) (F0 m pc ls rest) q := by
  intro T hT X
  obtain ⟨st1, hrun, hend, hW, hsm⟩ := X.leaveThrown q (g := F0 m pc ls rest) rfl rfl rfl hout hlocks
  have hcell9 : (T.setFrames (.throwing q :: below)).heap[q]? = some ce := by
    show T.heap[q]? = some ce
    rw [hT]; exact hcell
  exact ⟨_, st1, .threw q, hrun, hend, Or.inr ⟨q, rfl, E, ce, locs, hx _ hT hW.alike, hcell9, hv, hcl, hW, hsm.mono hc hs, hf⟩⟩
theorem vx_frame {U : State} {k n : Nat} (h : s.sameButNew ({ U with vm := s.vm } : State) locs k n) : s.heap.size ≤ U.heap.size ∧ ∀ q : Nat, q < s.heap.size → (∀ z ∈ locs, z.base ≠ q) → U.heap[q]? = s.heap[q]? := by
  obtain ⟨-, h2, -, -, -, h6⟩ := h
  refine ⟨h2, fun q hq hz => ?_⟩
  obtain ⟨c9, e1, e2, e3, e4⟩ := h6 q _ (Array.getElem?_eq_getElem hq)
  have hs : c9.slots = (s.heap[q]).slots := Array.ext_getElem? fun i => e4 i fun hm => hz _ hm rfl
  have h9 : c9 = s.heap[q] := by
    rw [hs] at e2
    exact e2
  have e5 : U.heap[q]? = some c9 := e1
  rw [e5, h9, Array.getElem?_eq_getElem hq]
/-- the words of a throw but the four that speak of the heap -/
def vx_no (w : Cond) : Bool := decide (w ≠ .isRef (.static Bundle.tN "UNASSIGNED_STACK" Bundle.steD)) && decide (w ≠ .isRef (.static Bundle.tN "SUPPRESSED_SENTINEL" Bundle.listD)) && decide (w ≠ .laysStatic Bundle.tN "UNASSIGNED_STACK" Bundle.steD) && decide (w ≠ .laysStatic Bundle.tN "SUPPRESSED_SENTINEL" Bundle.listD)
def vx_at0 (own : String) (ic : Nat) (X : String) (names : List String) : List Cond := (Bundle.ownAtoms0 own ic X names).filter vx_no
def vx_atS (own : String) (ic : Nat) (X : String) (names : List String) : List Cond := (Bundle.ownAtoms own ic X names).filter vx_no
/-- a word that the tables alone decide, or a good one -/
def vx_ot (w : Cond) : Bool := w.onTables || goodWord w
theorem vx_ot_at {args a' : Array Value} {s U : State} {w : Cond} (hW : s.WarmedH U.vm) (hvm : s.vm = U.vm) (hg : vx_ot w = true) (h : w.before args s = true) : w.before a' U = true := by
  simp only [vx_ot, Bool.or_eq_true] at hg
  rcases hg with hg | hg
  · exact va_tabs hg hvm h
  · exact word_at hW (good_of_word hg) h
/-- a list's words: the good ones out of the method's own list, the others by premises of their own -/
theorem vx_hat {args : Array Value} {s : State} {L B : List Cond} (h1 : ∀ w ∈ L.filter goodWord, w.before args s = true) (h2 : ∀ w ∈ L.filter (fun w => !goodWord w), w ∈ B) (h3 : ∀ w ∈ B, w.before args s = true) : ∀ w ∈ L, w.before args s = true := by
  intro w hw
  by_cases g : goodWord w = true
  · exact h1 w (List.mem_filter.mpr ⟨hw, g⟩)
  · refine h3 w (h2 w (List.mem_filter.mpr ⟨hw, ?_⟩))
    show (!goodWord w) = true
    cases hgw : goodWord w
    · rfl
    · exact absurd hgw g
theorem vx_c {args : Array Value} {s : State} {w : Cond} {B : List Cond} (h : w.before args s = true) (t : ∀ w ∈ B, w.before args s = true) : ∀ w' ∈ w :: B, w'.before args s = true := fun w' h' => (List.mem_cons.mp h').elim (fun e => by rw [e]; exact h) (t w')
theorem vx_n {args : Array Value} {s : State} : ∀ w ∈ ([] : List Cond), w.before args s = true := fun _ h => nomatch h
theorem vx_own {args : Array Value} {s : State} {L : List Cond} (h1 : ∀ w ∈ L.filter vx_no, w.before args s = true)
    (hU : (Cond.isRef (.static Bundle.tN "UNASSIGNED_STACK" Bundle.steD)).before args s = true) (hN : (Cond.isRef (.static Bundle.tN "SUPPRESSED_SENTINEL" Bundle.listD)).before args s = true)
    (lU : (Cond.laysStatic Bundle.tN "UNASSIGNED_STACK" Bundle.steD).before args s = true) (lN : (Cond.laysStatic Bundle.tN "SUPPRESSED_SENTINEL" Bundle.listD).before args s = true) : ∀ w ∈ L, w.before args s = true := by
  intro w hw
  by_cases e1 : w = .isRef (.static Bundle.tN "UNASSIGNED_STACK" Bundle.steD)
  · rw [e1]; exact hU
  · by_cases e2 : w = .isRef (.static Bundle.tN "SUPPRESSED_SENTINEL" Bundle.listD)
    · rw [e2]; exact hN
    · by_cases e3 : w = .laysStatic Bundle.tN "UNASSIGNED_STACK" Bundle.steD
      · rw [e3]; exact lU
      · by_cases e4 : w = .laysStatic Bundle.tN "SUPPRESSED_SENTINEL" Bundle.listD
        · rw [e4]; exact lN
        · exact h1 w (List.mem_filter.mpr ⟨hw, by unfold vx_no; rw [decide_eq_true e1, decide_eq_true e2, decide_eq_true e3, decide_eq_true e4]; rfl⟩)
/-- where a static field lies, its class's statics cell in H -/
def vx_L (C n d : String) (A : Nat → Prop) (U : State) (H : Heap) : Prop := ∃ (c : ClassId) (k : Class) (i : Nat) (f : Field) (a : Nat) (cell : Cell), U.vm.findClass C = some c ∧ U.fieldFound? C n d = some (c, k, i, f) ∧ f.isStatic = true ∧ k.statics = some a ∧ H[a]? = some cell ∧ cell.vm.isStatics = true ∧ cell.cls = c ∧ f.slot < cell.slots.size ∧ k.staticTypes[f.slot]? = some f.type ∧ ¬ A a
theorem vx_L.moved {C n d : String} {A : Nat → Prop} {u U : State} {H : Heap} (hvm : u.vm.Alike U.vm) (h : vx_L C n d A u H) : vx_L C n d A U H := by
  obtain ⟨c, k, i, f, a, cell, h1, h2, h3, h4, h5, h6, h7, h8, h9, h10⟩ := h
  obtain ⟨k', hi', he⟩ := State.fieldFound?_setVm hvm h2
  exact ⟨c, k', i, f, a, cell, by rw [hvm.findClass]; exact h1, hi', h3, by rw [he]; exact h4, h5, h6, h7, h8, by rw [he]; exact h9, h10⟩
theorem vx_L.kept {C n d : String} {A : Nat → Prop} {U : State} {H H1 : Heap} (h : vx_L C n d A U H) (hq : ∀ a : Nat, a < H.size → ¬ A a → H1[a]? = H[a]?) : vx_L C n d A U H1 := by
  obtain ⟨c, k, i, f, a, cell, h1, h2, h3, h4, h5, h6, h7, h8, h9, h10⟩ := h
  exact ⟨c, k, i, f, a, cell, h1, h2, h3, h4, by rw [hq a (Array.getElem?_eq_some_iff.mp h5).1 h10]; exact h5, h6, h7, h8, h9, h10⟩
theorem vx_L.narrow {C n d : String} {A B : Nat → Prop} {U : State} {H : Heap} (h : vx_L C n d A U H) (hAB : ∀ q, B q → A q) : vx_L C n d B U H := by
  obtain ⟨c, k, i, f, a, cell, h1, h2, h3, h4, h5, h6, h7, h8, h9, h10⟩ := h
  exact ⟨c, k, i, f, a, cell, h1, h2, h3, h4, h5, h6, h7, h8, h9, fun z => h10 (hAB _ z)⟩
theorem vx_L.word {C n d : String} {A : Nat → Prop} {s : State} {args : Array Value} (h : vx_L C n d A s s.heap) : (Cond.laysStatic C n d).before args s = true := by
  obtain ⟨c, k, i, f, a, cell, h1, h2, h3, h4, h5, h6, h7, h8, h9, -⟩ := h
  show (Cond.laysStatic C n d).holds args s none s [] = true
  exact Cond.laysStatic_of h1 h2 h3 h4 h5 h6 h7 h8 h9
/-- .. and what it holds: null or some reference -/
def vx_Zq (C n d : String) (A : Nat → Prop) (U : State) (H : Heap) : Prop := va_Zq C n d A U H ∧ vx_L C n d A U H
theorem vx_Zq.moved {C n d : String} {A : Nat → Prop} {u U : State} {H : Heap} (hvm : u.vm.Alike U.vm) (h : vx_Zq C n d A u H) : vx_Zq C n d A U H := ⟨va_Zq.moved hvm h.1, vx_L.moved hvm h.2⟩
theorem vx_Zq.kept {C n d : String} {A : Nat → Prop} {U : State} {H H1 : Heap} (h : vx_Zq C n d A U H) (hq : ∀ a : Nat, a < H.size → ¬ A a → H1[a]? = H[a]?) : vx_Zq C n d A U H1 := ⟨va_Zq.kept h.1 hq, vx_L.kept h.2 hq⟩
theorem vx_Zq.narrow {C n d : String} {A B : Nat → Prop} {U : State} {H : Heap} (h : vx_Zq C n d A U H) (hAB : ∀ q, B q → A q) : vx_Zq C n d B U H := ⟨va_Zq.narrow h.1 hAB, vx_L.narrow h.2 hAB⟩
theorem vx_Zqof {args : Array Value} {s : State} {C n d : String} {A : Nat → Prop} (hl : (Cond.laysStatic C n d).before args s = true) (hini : (Cond.initialized C).before args s = true) (h : (Cond.isRef (.static C n d)).before args s = true) (hA : ∀ a : Nat, a < s.heap.size → ¬ A a) : vx_Zq C n d A s s.heap := by
  refine ⟨va_Zqof hl hini h hA, ?_⟩
  obtain ⟨c, k, i, f, a, cell, h1, h2, h3, h4, h5, h6, h7, h8, h9⟩ := Cond.laysStatic_spec hl
  exact ⟨c, k, i, f, a, cell, h1, h2, h3, h4, h5, h6, h7, h8, h9, hA a (Array.getElem?_eq_some_iff.mp h5).1⟩
theorem vx_isRef {C n d : String} {v : Value} {A : Nat → Prop} {s : State} {args : Array Value} (h : va_Z C n d v A s s.heap) (hv : v.isRef = true) : (Cond.isRef (.static C n d)).before args s = true := by
  obtain ⟨cf, kf, fi, f, a, cell, h1, h2, h3, h4, h5, h6, h7, -⟩ := h
  have he : (Term.static C n d).eval args s none [] s = some v := by
    simp [Term.eval, State.fieldNamed?, h1, h2, h4, h5, h6, h7]
  simp only [Cond.before, Cond.holds, Cond.value, he]
  cases v <;> simp_all [Value.isRef]
theorem vx_isRefq {C n d : String} {A : Nat → Prop} {s : State} {args : Array Value} (h : va_Zq C n d A s s.heap) : (Cond.isRef (.static C n d)).before args s = true := by
  rcases h with h | ⟨t, h⟩
  · exact vx_isRef h rfl
  · exact vx_isRef h rfl
/-- the same frame, seen from here: as if the method were called anew in this heap -/
theorem vx_rebase {T : State} (X : Stand p l e R s m args below meth c T locs cells slots) {R' : Room} (hf : R'.frames ≤ R.frames) (hl : R'.locals ≤ R.locals) (hc : cells + R'.cells ≤ R.cells) (hs : slots + R'.slots ≤ R.slots) :
    Stand p l e R' ((T.setVm s.vm).setFrames (.invoking m args :: below)) m args below meth c T [] 0 0 := by
  have htop : (T.setVm s.vm).topJava?.isSome := X.here.top
  have hF : ((T.setVm s.vm).setFrames (.invoking m args :: below)).frames = .invoking m args :: below := State.frames_setFrames _ (State.cur_lt_of_top htop)
  obtain ⟨g₀, hg0⟩ := Option.isSome_iff_exists.mp htop
  obtain ⟨r, hr⟩ := State.topJava?_eq_some.mp hg0
  have hl9 : e.platform.stackLimits (T.setVm s.vm).me = e.platform.stackLimits s.me := X.limits
  have hb9 : (T.setVm s.vm).me.stackBytes = s.me.stackBytes := X.bytes
  refine ⟨X.admits, X.cas, X.clock, hF, ?_, X.hears, X.method, X.code, X.here, X.tail, X.warmed, ?_, ?_, ?_⟩
  · have h := X.room
    have hU : ((T.setVm s.vm).setFrames (.invoking m args :: below)).localsInUse = s.localsInUse := by
      rw [State.localsInUse_invoking hF (meth := meth) (c := c) X.method X.code, State.localsInUse_invoking X.frames X.method X.code]
    simp only [State.hasRoom, Bool.and_eq_true, decide_eq_true_eq] at h ⊢
    obtain ⟨⟨⟨⟨h1, h2, h3, h4, h5, h6⟩, h7⟩, h8⟩, h9⟩ := h
    rw [X.frames, List.length_cons] at h2 h3
    have q1 := X.heapSize
    have q2 := X.used
    simp only [hF, hU, List.length_cons, State.stackLimits_setFrames, State.stackBytes_setFrames, hl9, hb9]
    refine ⟨⟨⟨⟨by omega, by omega, by omega, by omega, by omega, h6⟩, ?_⟩, ?_⟩, X.book⟩
    · show T.heap.size + R'.cells ≤ e.platform.maxCells
      omega
    · show T.slotsUsed + R'.slots ≤ e.platform.maxSlots
      omega
  · rw [State.stackLimits_setFrames]; rfl
  · rw [State.stackBytes_setFrames]; rfl
  · refine ⟨?_, Nat.le_refl _, Nat.le_refl _, ?_, ?_, fun a c9 h9 => ⟨c9, h9, rfl, rfl, fun _ _ => rfl⟩⟩
    · obtain ⟨t, ht, -⟩ := State.frames_cons hr
      show T.setVm s.vm = { ((T.setVm s.vm).setFrames (.invoking m args :: below)).setFrames (T.setVm s.vm).frames with heap := T.heap, slotsUsed := T.slotsUsed }
      rw [State.setFrames_setFrames, State.setFrames_self ht]
      rfl
    · show T.slotsUsed = T.slotsUsed + ((T.heap.toList.drop T.heap.size).map (·.slots.size)).sum
      rw [List.drop_eq_nil_of_le (Nat.le_of_eq Array.length_toList)]
      rfl
    · show ((T.heap.toList.drop T.heap.size).map (·.slots.size)).sum ≤ 0
      rw [List.drop_eq_nil_of_le (Nat.le_of_eq Array.length_toList)]
      exact Nat.le_refl _
/-- 'throw new E()': new; dup; invokespecial; athrow -/
theorem vx_throw0 {cc : ByteArray} {pc : Nat} (hexec : p.tables.exec = Jvm.exec) (hb : c.code = cc) (hl : l.stackTraces = false) {own cls : String} {names : List String} {ik ic mc ms : Nat} {A : Nat → Prop}
    (hown : s.vm.findClass own = some m.cls) (hcls : Bundle.fit cls = true) (hnames : ∀ n ∈ names, Bundle.fit n = true)
    (hk : (Cond.classLink own ik cls).before args s = true) (hini : (Cond.initialized cls).before args s = true) (hat : ∀ w ∈ vx_at0 own ic cls names, w.before args s = true)
    (hgood : ∀ w ∈ Cond.classLink own ik cls :: Cond.initialized cls :: vx_at0 own ic cls names, vx_ot w = true)
    (hU : vx_Zq Bundle.tN "UNASSIGNED_STACK" Bundle.steD A s s.heap) (hN : vx_Zq Bundle.tN "SUPPRESSED_SENTINEL" Bundle.listD A s s.heap) (hS : va_S A s.heap H locs) (hsize : ls.size = c.maxLocals)
    (d0 : decode cc pc = .ok (.new ik, 3)) (d3 : decode cc (pc + 3) = .ok (.dup, 1)) (d4 : decode cc (pc + 4) = .ok (.invokespecial ic, 3)) (d7 : decode cc (pc + 7) = .ok (.athrow, 1))
    (hout : ∀ x ∈ c.exceptionTable.toList, covers x (pc + 7) = false)
    (hRframes : names.length + 3 < R.frames) (hRlocals : (rest.map fun v => v.category).sum + (13 * (names.length + 1) + 42) ≤ R.locals) (hRcells : cells + 1 ≤ R.cells) (hRslots : slots + 6 ≤ R.slots) (hlocks : meth.locks = false)
    (hx : ∀ t : State, s.vm.Alike t.vm → H.size ≤ t.heap.size → (∀ q : Nat, q < H.size → t.heap[q]? = H[q]?) → XC cls s t)
    (hf : ∀ z ∈ locs, free z.base) (hc : cells + 1 ≤ mc) (hs : slots + 6 ≤ ms) :
    W p l e R s m args below meth c H locs cells slots (vx_MQ below Qc XC args s mc ms free) (F0 m pc ls rest) := by
  intro T hT X
  have htr : e.platform.stackTraces = false := (show e.platform.stackTraces = l.stackTraces by rw [X.admits.platform]).trans hl
  have Y := vx_rebase X (R' := { frames := R.frames, locals := R.locals, cells := 1, slots := 6 }) (Nat.le_refl _) (Nat.le_refl _) hRcells hRslots
  obtain ⟨s', hA⟩ : ∃ z, z = (T.setVm s.vm).setFrames (.invoking m args :: below) := ⟨_, rfl⟩
  rw [← hA] at Y
  have hvm : s'.vm = s.vm := by rw [hA]; rfl
  have hhp : s'.heap = H := by rw [hA]; exact hT
  have hW0 : s.WarmedH s'.vm := by rw [hvm]; exact State.WarmedH.refl s
  have hat' : ∀ w ∈ vx_at0 own ic cls names, w.before args s' = true := fun w hw => vx_ot_at hW0 hvm.symm (hgood w (List.mem_cons_of_mem _ (List.mem_cons_of_mem _ hw))) (hat w hw)
  have hk' : (Cond.classLink own ik cls).before args s' = true := vx_ot_at hW0 hvm.symm (hgood _ List.mem_cons_self) hk
  have hini' : (Cond.initialized cls).before args s' = true := vx_ot_at hW0 hvm.symm (hgood _ (List.mem_cons_of_mem _ List.mem_cons_self)) hini
  have hU' : vx_Zq Bundle.tN "UNASSIGNED_STACK" Bundle.steD A s' s'.heap := by rw [hhp]; exact vx_Zq.moved hW0.alike (hU.kept hS.2.1)
  have hN' : vx_Zq Bundle.tN "SUPPRESSED_SENTINEL" Bundle.listD A s' s'.heap := by rw [hhp]; exact vx_Zq.moved hW0.alike (hN.kept hS.2.1)
  have h : ∀ w ∈ Bundle.ownAtoms0 own ic cls names, w.before args s' = true := vx_own hat' (vx_isRefq hU'.1) (vx_isRefq hN'.1) hU'.2.word hN'.2.word
  have hown' : s'.vm.findClass own = some m.cls := by rw [hvm]; exact hown
  have hins : (Cond.instantiable cls 6).before args s' = true := h _ (by simp [Bundle.ownAtoms0])
  obtain ⟨vm₁, cX, kX, hfX, hkX, -, -, X₁, st1⟩ := Y.newCold hexec (own := own) (C := cls) (index := ik) (n := 6) hown' hk' hins hini'
    (g := F0 m pc ls rest) rfl (by rw [hb]; exact d0) (Nat.le_refl _) (Nat.le_refl _)
  generalize hT1 : (T.setVm vm₁).pushCell { cls := cX, slots := kX.instanceTypes.map defaultValue, vm := .none } = T1 at X₁ st1
  have hcat : (Value.ref T.heap.size).category = 1 := rfl
  have hcellA : T1.heap[T.heap.size]? = some (freshCell cX kX) := by rw [← hT1]; exact State.heap_pushCell_size _ _
  have d3' : decode c.code (pc + 3) = .ok (.dup, 1) := by rw [hb]; exact d3
  obtain ⟨U, hsteps, hrun, hend, hW, hsame, ce, hce, hO⟩ := X₁.ctorThrow0 hexec htr (own := own) (cls := cls) (names := names) (ic := ic) hown' hcls hnames h (fun x hx => nomatch hx) hfX hkX hcellA (by rw [hhp, hT]; exact Nat.le_refl _)
    (g := { method := m, pc := pc + 4, locals := ls, stack := .ref T.heap.size :: .ref T.heap.size :: rest, locked := none }) rfl hsize rfl rfl (rest := rest) rfl
    (by rw [hb]; exact d4) (by rw [hb]; exact d7) hout hRframes (by simp only [List.map_cons, List.sum_cons, hcat]; omega) hlocks
  obtain ⟨f1, f2⟩ := vx_frame hsame
  rw [hhp] at f1 f2
  have hWs : s.WarmedH U.vm := State.WarmedH.trans hW0 hW
  have hcl : s.vm.findClass cls = some ce.cls := by
    have h9 := hO.cls
    rw [hvm] at h9
    exact h9
  have hall : s.sameButNew ({ U with vm := s.vm } : State) locs mc ms := by
    subst hA
    obtain ⟨e1, e2⟩ := hsame
    rw [State.setFrames_setFrames] at e1
    have h2 : (T.setVm s.vm).sameButNew ({ U with vm := s.vm } : State) [] (0 + 1) (0 + 6) := ⟨e1, e2⟩
    have h3 := X.same.trans h2
    rw [List.append_nil] at h3
    exact h3.mono hc hs
  refine ⟨U, ?_, .threw T.heap.size, hrun, hend, Or.inr ⟨T.heap.size, rfl, cls, ce, locs, hx U hWs.alike f1 (fun q hq => f2 q hq (fun z hz => nomatch hz)), hce, hO.vm, hcl, hWs, hall, hf⟩⟩
  refine st1 _ ?_
  show Steps p.tables e below (T1.setTop { method := m, pc := pc + 3, locals := ls, stack := .ref T.heap.size :: rest, locked := none }) _
  jvm_step X₁.here [X₁.here.top, hexec, d3', Value.category]
  exact hsteps
/-- 'throw new E("text")': new; dup; ldc; invokespecial; athrow -/
theorem vx_throwS {cc : ByteArray} {pc : Nat} (hexec : p.tables.exec = Jvm.exec) (hb : c.code = cc) (hl : l.stackTraces = false) {own cls text : String} {names : List String} {ik is ic mc ms sa : Nat} {A : Nat → Prop}
    (hown : s.vm.findClass own = some m.cls) (hcls : Bundle.fit cls = true) (hnames : ∀ n ∈ names, Bundle.fit n = true)
    (hk : (Cond.classLink own ik cls).before args s = true) (hini : (Cond.initialized cls).before args s = true) (hstr : vk_R own is text sa s) (hat : ∀ w ∈ vx_atS own ic cls names, w.before args s = true)
    (hgood : ∀ w ∈ Cond.classLink own ik cls :: Cond.initialized cls :: vx_atS own ic cls names, vx_ot w = true)
    (hU : vx_Zq Bundle.tN "UNASSIGNED_STACK" Bundle.steD A s s.heap) (hN : vx_Zq Bundle.tN "SUPPRESSED_SENTINEL" Bundle.listD A s s.heap) (hS : va_S A s.heap H locs) (hsize : ls.size = c.maxLocals)
    (d0 : decode cc pc = .ok (.new ik, 3)) (d3 : decode cc (pc + 3) = .ok (.dup, 1)) (d4 : decode cc (pc + 4) = .ok (.ldc is, 2)) (d6 : decode cc (pc + 6) = .ok (.invokespecial ic, 3)) (d9 : decode cc (pc + 9) = .ok (.athrow, 1))
    (hout : ∀ x ∈ c.exceptionTable.toList, covers x (pc + 9) = false)
    (hRframes : names.length + 3 < R.frames) (hRlocals : (rest.map fun v => v.category).sum + (13 * (names.length + 1) + 43) ≤ R.locals) (hRcells : cells + 1 ≤ R.cells) (hRslots : slots + 6 ≤ R.slots) (hlocks : meth.locks = false)
    (hx : ∀ t : State, s.vm.Alike t.vm → H.size ≤ t.heap.size → (∀ q : Nat, q < H.size → t.heap[q]? = H[q]?) → XC cls s t)
    (hf : ∀ z ∈ locs, free z.base) (hc : cells + 1 ≤ mc) (hs : slots + 6 ≤ ms) :
    W p l e R s m args below meth c H locs cells slots (vx_MQ below Qc XC args s mc ms free) (F0 m pc ls rest) := by
  intro T hT X
  have htr : e.platform.stackTraces = false := (show e.platform.stackTraces = l.stackTraces by rw [X.admits.platform]).trans hl
  have Y := vx_rebase X (R' := { frames := R.frames, locals := R.locals, cells := 1, slots := 6 }) (Nat.le_refl _) (Nat.le_refl _) hRcells hRslots
  obtain ⟨s', hA⟩ : ∃ z, z = (T.setVm s.vm).setFrames (.invoking m args :: below) := ⟨_, rfl⟩
  rw [← hA] at Y
  have hvm : s'.vm = s.vm := by rw [hA]; rfl
  have hhp : s'.heap = H := by rw [hA]; exact hT
  have hW0 : s.WarmedH s'.vm := by rw [hvm]; exact State.WarmedH.refl s
  have hat' : ∀ w ∈ vx_atS own ic cls names, w.before args s' = true := fun w hw => vx_ot_at hW0 hvm.symm (hgood w (List.mem_cons_of_mem _ (List.mem_cons_of_mem _ hw))) (hat w hw)
  have hk' : (Cond.classLink own ik cls).before args s' = true := vx_ot_at hW0 hvm.symm (hgood _ List.mem_cons_self) hk
  have hini' : (Cond.initialized cls).before args s' = true := vx_ot_at hW0 hvm.symm (hgood _ (List.mem_cons_of_mem _ List.mem_cons_self)) hini
  have hU' : vx_Zq Bundle.tN "UNASSIGNED_STACK" Bundle.steD A s' s'.heap := by rw [hhp]; exact vx_Zq.moved hW0.alike (hU.kept hS.2.1)
  have hN' : vx_Zq Bundle.tN "SUPPRESSED_SENTINEL" Bundle.listD A s' s'.heap := by rw [hhp]; exact vx_Zq.moved hW0.alike (hN.kept hS.2.1)
  have h : ∀ w ∈ Bundle.ownAtoms own ic cls names, w.before args s' = true := vx_own hat' (vx_isRefq hU'.1) (vx_isRefq hN'.1) hU'.2.word hN'.2.word
  have hown' : s'.vm.findClass own = some m.cls := by rw [hvm]; exact hown
  have hins : (Cond.instantiable cls 6).before args s' = true := h _ (by simp [Bundle.ownAtoms])
  obtain ⟨vm₁, cX, kX, hfX, hkX, -, -, X₁, st1⟩ := Y.newCold hexec (own := own) (C := cls) (index := ik) (n := 6) hown' hk' hins hini'
    (g := F0 m pc ls rest) rfl (by rw [hb]; exact d0) (Nat.le_refl _) (Nat.le_refl _)
  generalize hT1 : (T.setVm vm₁).pushCell { cls := cX, slots := kX.instanceTypes.map defaultValue, vm := .none } = T1 at X₁ st1
  have hcat : (Value.ref T.heap.size).category = 1 := rfl
  have hcellA : T1.heap[T.heap.size]? = some (freshCell cX kX) := by rw [← hT1]; exact State.heap_pushCell_size _ _
  have d3' : decode c.code (pc + 3) = .ok (.dup, 1) := by rw [hb]; exact d3
  have d4' : decode c.code (pc + 4) = .ok (.ldc is, 2) := by rw [hb]; exact d4
  have hstr' : vk_R own is text sa s' := vk_R.warm hW0 hstr
  obtain ⟨U, hsteps, hrun, hend, hW, hsame, ce, hce, hO⟩ := X₁.ctorThrowS hexec htr (own := own) (cls := cls) (names := names) (ic := ic) hown' hcls hnames h (fun x hx => nomatch hx) hfX hkX hcellA (by rw [hhp, hT]; exact Nat.le_refl _) (msg := .ref sa) rfl
    (g := { method := m, pc := pc + 6, locals := ls, stack := .ref sa :: .ref T.heap.size :: .ref T.heap.size :: rest, locked := none }) rfl hsize rfl rfl (rest := rest) rfl
    (by rw [hb]; exact d6) (by rw [hb]; exact d9) hout hRframes (by simp only [List.map_cons, List.sum_cons, hcat]; omega) hlocks
  obtain ⟨f1, f2⟩ := vx_frame hsame
  rw [hhp] at f1 f2
  have hWs : s.WarmedH U.vm := State.WarmedH.trans hW0 hW
  have hcl : s.vm.findClass cls = some ce.cls := by
    have h9 := hO.cls
    rw [hvm] at h9
    exact h9
  have hall : s.sameButNew ({ U with vm := s.vm } : State) locs mc ms := by
    subst hA
    obtain ⟨e1, e2⟩ := hsame
    rw [State.setFrames_setFrames] at e1
    have h2 : (T.setVm s.vm).sameButNew ({ U with vm := s.vm } : State) [] (0 + 1) (0 + 6) := ⟨e1, e2⟩
    have h3 := X.same.trans h2
    rw [List.append_nil] at h3
    exact h3.mono hc hs
  refine ⟨U, ?_, .threw T.heap.size, hrun, hend, Or.inr ⟨T.heap.size, rfl, cls, ce, locs, hx U hWs.alike f1 (fun q hq => f2 q hq (fun z hz => nomatch hz)), hce, hO.vm, hcl, hWs, hall, hf⟩⟩
  refine st1 _ ?_
  show Steps p.tables e below (T1.setTop { method := m, pc := pc + 3, locals := ls, stack := .ref T.heap.size :: rest, locked := none }) _
  jvm_step X₁.here [X₁.here.top, hexec, d3', Value.category]
  exact X₁.ldcString hexec (own := own) (text := text) (index := is) (a := sa) hown' hstr'.1 hstr'.2
    (g := { method := m, pc := pc + 4, locals := ls, stack := .ref T.heap.size :: .ref T.heap.size :: rest, locked := none }) rfl d4' _ hsteps
/-- 'throw new E("text")', the text by a wide index -/
theorem vx_throwSW {cc : ByteArray} {pc : Nat} (hexec : p.tables.exec = Jvm.exec) (hb : c.code = cc) (hl : l.stackTraces = false) {own cls text : String} {names : List String} {ik is ic mc ms sa : Nat} {A : Nat → Prop}
    (hown : s.vm.findClass own = some m.cls) (hcls : Bundle.fit cls = true) (hnames : ∀ n ∈ names, Bundle.fit n = true)
    (hk : (Cond.classLink own ik cls).before args s = true) (hini : (Cond.initialized cls).before args s = true) (hstr : vk_R own is text sa s) (hat : ∀ w ∈ vx_atS own ic cls names, w.before args s = true)
    (hgood : ∀ w ∈ Cond.classLink own ik cls :: Cond.initialized cls :: vx_atS own ic cls names, vx_ot w = true)
    (hU : vx_Zq Bundle.tN "UNASSIGNED_STACK" Bundle.steD A s s.heap) (hN : vx_Zq Bundle.tN "SUPPRESSED_SENTINEL" Bundle.listD A s s.heap) (hS : va_S A s.heap H locs) (hsize : ls.size = c.maxLocals)
    (d0 : decode cc pc = .ok (.new ik, 3)) (d3 : decode cc (pc + 3) = .ok (.dup, 1)) (d4 : decode cc (pc + 4) = .ok (.ldc_w is, 3)) (d7 : decode cc (pc + 7) = .ok (.invokespecial ic, 3)) (d10 : decode cc (pc + 10) = .ok (.athrow, 1))
    (hout : ∀ x ∈ c.exceptionTable.toList, covers x (pc + 10) = false)
    (hRframes : names.length + 3 < R.frames) (hRlocals : (rest.map fun v => v.category).sum + (13 * (names.length + 1) + 43) ≤ R.locals) (hRcells : cells + 1 ≤ R.cells) (hRslots : slots + 6 ≤ R.slots) (hlocks : meth.locks = false)
    (hx : ∀ t : State, s.vm.Alike t.vm → H.size ≤ t.heap.size → (∀ q : Nat, q < H.size → t.heap[q]? = H[q]?) → XC cls s t)
    (hf : ∀ z ∈ locs, free z.base) (hc : cells + 1 ≤ mc) (hs : slots + 6 ≤ ms) :
    W p l e R s m args below meth c H locs cells slots (vx_MQ below Qc XC args s mc ms free) (F0 m pc ls rest) := by
  intro T hT X
  have htr : e.platform.stackTraces = false := (show e.platform.stackTraces = l.stackTraces by rw [X.admits.platform]).trans hl
  have Y := vx_rebase X (R' := { frames := R.frames, locals := R.locals, cells := 1, slots := 6 }) (Nat.le_refl _) (Nat.le_refl _) hRcells hRslots
  obtain ⟨s', hA⟩ : ∃ z, z = (T.setVm s.vm).setFrames (.invoking m args :: below) := ⟨_, rfl⟩
  rw [← hA] at Y
  have hvm : s'.vm = s.vm := by rw [hA]; rfl
  have hhp : s'.heap = H := by rw [hA]; exact hT
  have hW0 : s.WarmedH s'.vm := by rw [hvm]; exact State.WarmedH.refl s
  have hat' : ∀ w ∈ vx_atS own ic cls names, w.before args s' = true := fun w hw => vx_ot_at hW0 hvm.symm (hgood w (List.mem_cons_of_mem _ (List.mem_cons_of_mem _ hw))) (hat w hw)
  have hk' : (Cond.classLink own ik cls).before args s' = true := vx_ot_at hW0 hvm.symm (hgood _ List.mem_cons_self) hk
  have hini' : (Cond.initialized cls).before args s' = true := vx_ot_at hW0 hvm.symm (hgood _ (List.mem_cons_of_mem _ List.mem_cons_self)) hini
  have hU' : vx_Zq Bundle.tN "UNASSIGNED_STACK" Bundle.steD A s' s'.heap := by rw [hhp]; exact vx_Zq.moved hW0.alike (hU.kept hS.2.1)
  have hN' : vx_Zq Bundle.tN "SUPPRESSED_SENTINEL" Bundle.listD A s' s'.heap := by rw [hhp]; exact vx_Zq.moved hW0.alike (hN.kept hS.2.1)
  have h : ∀ w ∈ Bundle.ownAtoms own ic cls names, w.before args s' = true := vx_own hat' (vx_isRefq hU'.1) (vx_isRefq hN'.1) hU'.2.word hN'.2.word
  have hown' : s'.vm.findClass own = some m.cls := by rw [hvm]; exact hown
  have hins : (Cond.instantiable cls 6).before args s' = true := h _ (by simp [Bundle.ownAtoms])
  obtain ⟨vm₁, cX, kX, hfX, hkX, -, -, X₁, st1⟩ := Y.newCold hexec (own := own) (C := cls) (index := ik) (n := 6) hown' hk' hins hini'
    (g := F0 m pc ls rest) rfl (by rw [hb]; exact d0) (Nat.le_refl _) (Nat.le_refl _)
  generalize hT1 : (T.setVm vm₁).pushCell { cls := cX, slots := kX.instanceTypes.map defaultValue, vm := .none } = T1 at X₁ st1
  have hcat : (Value.ref T.heap.size).category = 1 := rfl
  have hcellA : T1.heap[T.heap.size]? = some (freshCell cX kX) := by rw [← hT1]; exact State.heap_pushCell_size _ _
  have d3' : decode c.code (pc + 3) = .ok (.dup, 1) := by rw [hb]; exact d3
  have d4' : decode c.code (pc + 4) = .ok (.ldc_w is, 3) := by rw [hb]; exact d4
  have hstr' : vk_R own is text sa s' := vk_R.warm hW0 hstr
  obtain ⟨U, hsteps, hrun, hend, hW, hsame, ce, hce, hO⟩ := X₁.ctorThrowS hexec htr (own := own) (cls := cls) (names := names) (ic := ic) hown' hcls hnames h (fun x hx => nomatch hx) hfX hkX hcellA (by rw [hhp, hT]; exact Nat.le_refl _) (msg := .ref sa) rfl
    (g := { method := m, pc := pc + 7, locals := ls, stack := .ref sa :: .ref T.heap.size :: .ref T.heap.size :: rest, locked := none }) rfl hsize rfl rfl (rest := rest) rfl
    (by rw [hb]; exact d7) (by rw [hb]; exact d10) hout hRframes (by simp only [List.map_cons, List.sum_cons, hcat]; omega) hlocks
  obtain ⟨f1, f2⟩ := vx_frame hsame
  rw [hhp] at f1 f2
  have hWs : s.WarmedH U.vm := State.WarmedH.trans hW0 hW
  have hcl : s.vm.findClass cls = some ce.cls := by
    have h9 := hO.cls
    rw [hvm] at h9
    exact h9
  have hall : s.sameButNew ({ U with vm := s.vm } : State) locs mc ms := by
    subst hA
    obtain ⟨e1, e2⟩ := hsame
    rw [State.setFrames_setFrames] at e1
    have h2 : (T.setVm s.vm).sameButNew ({ U with vm := s.vm } : State) [] (0 + 1) (0 + 6) := ⟨e1, e2⟩
    have h3 := X.same.trans h2
    rw [List.append_nil] at h3
    exact h3.mono hc hs
  refine ⟨U, ?_, .threw T.heap.size, hrun, hend, Or.inr ⟨T.heap.size, rfl, cls, ce, locs, hx U hWs.alike f1 (fun q hq => f2 q hq (fun z hz => nomatch hz)), hce, hO.vm, hcl, hWs, hall, hf⟩⟩
  refine st1 _ ?_
  show Steps p.tables e below (T1.setTop { method := m, pc := pc + 3, locals := ls, stack := .ref T.heap.size :: rest, locked := none }) _
  jvm_step X₁.here [X₁.here.top, hexec, d3', Value.category]
  exact X₁.ldcStringW hexec (own := own) (text := text) (index := is) (a := sa) hown' hstr'.1 hstr'.2
    (g := { method := m, pc := pc + 4, locals := ls, stack := .ref T.heap.size :: .ref T.heap.size :: rest, locked := none }) rfl d4' _ hsteps
end Ends
section Bodies
variable {l : Launch}
theorem vx_ofW {y : MethodName} {ws ws' : List Cond} {rm : Room} {Pc : Array Value → State → Prop} {Qc : Array Value → State → Outcome → State → Prop} {XC : String → State → State → Prop} {mc ms : Nat} {free : Addr → Prop} {cc : ByteArray} {maxL : Nat} {ret : Option FieldType}
    (hy : plainName y.cls = true) (hw : ws = Cond.code y cc maxL ret :: ws')
    (body : ∀ p e s m args below meth c s₁, BodyLoose p l y (headSpec ws rm) cc maxL ret e s m args below meth c s₁ → c.maxLocals = maxL → (∀ x ∈ c.exceptionTable.toList, False) → Pc args s →
      W p l e (headSpec ws rm).room s m args below meth c s.heap [] 0 0 (vx_MQ below Qc XC args s mc ms free) (entryFrame m args maxL)) : vx_Met l y ws rm Pc Qc XC mc ms free := by
  refine MetFree.of_bodyS (code := cc) (maxLocals := maxL) (ret := ret) hy ?_ ?_
  · intro args s m h hn
    obtain ⟨meth, c, h1, h2, h3, h4, h5, h6, -, -⟩ := Cond.code_spec hn (atoms_spec (ws := ws) h _ (by rw [hw]; exact List.mem_cons_self))
    exact ⟨meth, c, h1, h2, h3, h4, h5, h6⟩
  · intro p e s m args below meth c s₁ B hml hP _
    have hh0 : s₁.heap = s.heap := by rw [B.state]; rfl
    have ht : ∀ x ∈ c.exceptionTable.toList, False := by
      obtain ⟨meth9, c9, h1, h2, -, -, -, -, h7, -⟩ := Cond.code_spec B.named (atoms_spec (ws := ws) B.pre _ (by rw [hw]; exact List.mem_cons_self))
      cases Option.some.inj (h1.symm.trans B.method)
      cases Option.some.inj (h2.symm.trans (Stand.of_body B).code)
      intro x hx
      rw [Array.isEmpty_iff.mp h7] at hx
      cases hx
    obtain ⟨t, a1, o, b1, b2, b3⟩ := body p e s m args below meth c s₁ B hml ht hP s₁ hh0 (Stand.of_body B)
    exact ⟨t, o, a1, b1, b2, b3⟩
/-- the table of a body with handlers -/
theorem vx_table {p : Program} {x y : MethodName} {S : Spec} {cc bytes : ByteArray} {maxL maxL' : Nat} {ret ret' : Option FieldType} {e : Env} {s s₁ : State} {m : MethodId} {args : Array Value} {below : List Frame} {meth : Method} {c : Code} {hh : List (Nat × Nat × Nat × Nat)}
    (B : BodyLoose p l y S cc maxL ret e s m args below meth c s₁) (h : (Cond.codeWith y bytes maxL' ret' hh).before args s = true) : c.exceptionTable.toList = tableOf hh := by
  obtain ⟨m9, meth9, c9, hn9, h1, h2, -, -, h6, -⟩ := Cond.codeWith_spec h
  cases Option.some.inj (hn9.symm.trans B.named)
  cases Option.some.inj (h1.symm.trans B.method)
  cases Option.some.inj (h2.symm.trans (Stand.of_body B).code)
  rw [← h6, table_eq]
end Bodies
end VXA
/-! ===== END ===== -/
/-! ===== BEGIN a static call of a method with an exception table ===== -/
section VXS
variable {p : Program} {l : Launch} {e : Env} {R : Room} {s : State} {m : MethodId} {args : Array Value} {below : List Frame} {meth : Method} {c : Code} {T : State} {H : Heap} {locs : List Loc} {cells slots : Nat}
abbrev vx_CSW (R : Room) (s : State) (args : Array Value) (own : String) (index : Nat) (y : MethodName) (bytes : ByteArray) (maxL : Nat) (ret : Option FieldType) (hh : List (Nat × Nat × Nat × Nat)) (ws : List Cond) (rm : Room) (mc ms n : Nat) : Prop :=
  (rm.cells = mc ∧ rm.slots = ms ∧ rm.frames + 1 ≤ R.frames ∧ 8 + (maxL + 11) + rm.locals ≤ R.locals ∧ (∀ w ∈ ws, ∀ (a' : Array Value) (U : State), s.WarmedH U.vm → w.before a' U = true) ∧ Cond.codeWith y bytes maxL ret hh ∈ ws) ∧
  (Cond.codeWith y bytes maxL ret hh).before args s = true ∧ (Cond.initialized y.cls).before args s = true ∧ (y.cls ≠ "java/lang/invoke/MethodHandle" ∧ y.cls ≠ "java/lang/invoke/VarHandle") ∧
  (∀ sig, parseMethodDescriptor y.desc = some sig → n = sig.parameters.length) ∧ (Cond.methodLink own index y).before args s = true ∧ (Cond.static y).before args s = true
theorem vx_cwSW {own : String} {index maxL mc ms : Nat} {y : MethodName} {bytes : ByteArray} {ret : Option FieldType} {hh : List (Nat × Nat × Nat × Nat)} {Ts ws ws' : List Cond} {rm : Room} (n : Nat) (ht : ∀ w ∈ Ts, w.before args s = true) (hT : GoodIn Ts (va_wsS own index y ws)) (hw : ws = Cond.codeWith y bytes maxL ret hh :: ws') (hrc : rm.cells = mc) (hrs : rm.slots = ms)
    (hd : y.cls ≠ "java/lang/invoke/MethodHandle" ∧ y.cls ≠ "java/lang/invoke/VarHandle" ∧ (parseMethodDescriptor y.desc).map (fun d => d.parameters.length) = some n) (hR : rm.frames + 1 ≤ R.frames ∧ 8 + (maxL + 11) + rm.locals ≤ R.locals) :
    vx_CSW R s args own index y bytes maxL ret hh ws rm mc ms n := by
  have ok : ∀ w ∈ va_wsS own index y ws, w.before args s = true := fun w h => ht w (hT w h).1
  have hG : GoodIn Ts ws := fun w h => hT w (by unfold va_wsS; exact List.mem_append_right _ h)
  have hc : Cond.codeWith y bytes maxL ret hh ∈ ws := by rw [hw]; exact List.mem_cons_self
  refine ⟨⟨hrc, hrs, hR.1, hR.2, pay_in ht hG, hc⟩, ht _ (hG _ hc).1, ok _ (by simp [va_wsS]), ⟨hd.1, hd.2.1⟩, fun sig h => ?_, ok _ (by simp [va_wsS]), ok _ (by simp [va_wsS])⟩
  have h2 := hd.2.2
  rw [h] at h2
  exact (Option.some.inj h2).symm
theorem vx_callSW (X : Stand p l e R s m args below meth c T locs cells slots) (hexec : p.tables.exec = Jvm.exec) {own : String} {index : Nat} {y : MethodName} {bytes : ByteArray} {maxL : Nat} {ret : Option FieldType} {hh : List (Nat × Nat × Nat × Nat)}
    (hown : s.vm.findClass own = some m.cls) (hlink : (Cond.methodLink own index y).before args s = true) (hstat : (Cond.static y).before args s = true) (hinit : (Cond.initialized y.cls).before args s = true)
    (hcode : (Cond.codeWith y bytes maxL ret hh).before args s = true) (hy : y.cls ≠ "java/lang/invoke/MethodHandle" ∧ y.cls ≠ "java/lang/invoke/VarHandle")
    {W9 : Nat} {Pre : Pt → Array Value → Prop} {Post : Pt → Array Value → Option Value → Pt → Prop} (hK : Back l R p e below s args y 3 W9 Pre Post)
    {g : JFrame} (hg : g.method = m) (hsize : g.locals.size = c.maxLocals) {argsL rest : List Value} (hlen : ∀ sig, parseMethodDescriptor y.desc = some sig → argsL.length = sig.parameters.length)
    (hstack : g.stack = argsL.reverse ++ rest) (hW : 2 * g.monitorRoom + (rest.map fun v => v.category).sum ≤ W9) (hdg : decode c.code g.pc = .ok (.invokestatic index, 3))
    (hpre : ∀ vm₁, s.WarmedH vm₁ → Pre ⟨T.setVm vm₁, locs, cells, slots⟩ argsL.toArray) :
    ∃ (v : Option Value) (vm₁ : Vm) (B : Pt), s.WarmedH vm₁ ∧ Stand p l e R s m args below meth c B.U B.locs B.cells B.slots ∧ Post ⟨T.setVm vm₁, locs, cells, slots⟩ argsL.toArray v B ∧
      ∀ target, Steps p.tables e below (B.U.setTop { g with pc := g.pc + 3, stack := v.toList ++ rest }) target → Steps p.tables e below (T.setTop g) target := by
  obtain ⟨mk, methM, cM, hnamed, hmethM, -, -, -, -, -, -, hsigM⟩ := Cond.codeWith_spec hcode
  have hstatic : methM.isStatic = true := Cond.static_spec hnamed hmethM hstat
  obtain ⟨kP, hkP, -⟩ := className_of_methodNamed hnamed
  have hinitP : kP.init = .initialized := Cond.initialized_spec (findClass_of_methodNamed hnamed) hkP hinit
  obtain ⟨vm₁, X₁, hstep₁⟩ := X.invokestatic hexec hown hlink hnamed hmethM hstatic hkP hinitP hy (g := g) hg (argsL := argsL) (rest := rest) (hlen _ hsigM) hstack hdg
  obtain ⟨v, B, X', hpost, hsteps⟩ := hK m meth c ⟨T.setVm vm₁, locs, cells, slots⟩ { g with stack := rest } (.invokestatic index) mk argsL.toArray X₁ hg hsize hdg hW (X₁.named hnamed) (hpre vm₁ X₁.warmed)
  exact ⟨v, vm₁, B, X₁.warmed, X', hpost, fun target h => hstep₁ _ fun acts => by rw [doInvoke_state]; exact hsteps.trans h⟩
theorem vx_runSW {y : MethodName} {bytes cc : ByteArray} {maxL nL mc ms n index : Nat} {ret : Option FieldType} {hh : List (Nat × Nat × Nat × Nat)} {ws : List Cond} {rm : Room} {Pc : Array Value → State → Prop} {Qc : Array Value → State → Outcome → State → Prop} {free : Addr → Prop} {Ts : List Cond} {own : String} {As rest : List Value} {g : JFrame}
    (S : CallFix p m c cc nL s args Ts own) (hM : Met l y ws rm Pc Qc mc ms free) (cw : vx_CSW R s args own index y bytes maxL ret hh ws rm mc ms n) (hp : PreS s H Pc As)
    (hg : g.method = m) (hn : As.length = n) (hsize : g.locals.size = nL) (hstack : g.stack = As.reverse ++ rest) (hW : 2 * g.monitorRoom + (rest.map fun v => v.category).sum ≤ 8) (hdg : decode cc g.pc = .ok (.invokestatic index, 3)) (hf : cells + mc ≤ R.cells ∧ slots + ms ≤ R.slots) :
    va_Run p l e R s m args below meth c H locs cells slots mc ms g rest (Qc As.toArray) (free) := by
  obtain ⟨⟨hrc, hrs, hfr, hlo, hws, hcw⟩, hcode, hini, hy, hlen, hl, hstt⟩ := cw
  have hK : Back l R p e below s args y 3 8 (PreOf R mc ms Pc) (PostOf Qc mc ms free) := va_backW (hh := hh) (bytes := bytes) (maxL := maxL) (ret := ret) hM hp.1 hrc hrs hfr hlo hws hcw (fun a' U hW => word_at hW (Or.inl (by first | rfl | simp [Cond.onTables, Cond.keeps, Cond.steady])) hini)
  obtain ⟨hx, hb, hml, ho, -⟩ := S
  intro T hT X
  obtain ⟨v, vm₁, ⟨U', l2, c2, s2⟩, hW₁, X', ⟨g', mk, t, L, e1, e2, hq, h1, hL, h2, h3⟩, st⟩ := vx_callSW X hx (hh := hh) (bytes := bytes) (maxL := maxL) (ret := ret) ho hl hstt hini hcode hy hK hg (hsize.trans hml.symm) (argsL := As) (rest := rest) (fun sig h => hn.trans (hlen sig h)) hstack hW (by rw [hb]; exact hdg)
    (fun vm₁ hW₁ => ⟨hf.1, hf.2, hp.2 (T.setVm vm₁) hT hW₁⟩)
  dsimp only [Pt.U, Pt.locs, Pt.cells, Pt.slots] at X' e1 e2 h1 h2 h3 st
  subst h1; subst h2; subst h3
  exact ⟨v, (T.setVm vm₁).calling g' mk As.toArray, t, U', L, hT, X', hL, e1, e2, hq, st⟩
/-- not caught here, past rows that name other classes: it goes on to the caller -/
theorem vx_outP {p : Program} {l : Launch} {e : Env} {R : Room} {s : State} {m : MethodId} {args : Array Value} {below : List Frame} {meth : Method} {c : Code} {H : Heap} {locs : List Loc} {cells slots : Nat} {free : Addr → Prop} {ls : Array Slot} {rest : List Value} {Qc : Array Value → State → Outcome → State → Prop} {XC : String → State → State → Prop}
    {pc : Nat} {own E : String} {ce : Cell} {q : Addr} {mc ms : Nat} (hown : s.vm.findClass own = some m.cls) (hlocks : meth.locks = false)
    (hpass : ∀ z ∈ c.exceptionTable.toList, covers z pc = false ∨ (z.catchType ≠ 0 ∧ ∃ nm : String, (Cond.classLink own z.catchType nm).before args s = true ∧ va_Nc E nm s)) (hcell : H[q]? = some ce) (hv : ce.vm = .none) (hcl : s.vm.findClass E = some ce.cls)
    (hx : ∀ t : State, t.heap = H → s.vm.Alike t.vm → XC E s t) (hf : ∀ z ∈ locs, free z.base) (hc : cells ≤ mc) (hs : slots ≤ ms) :
    vx_W p l e R s m args below meth c H locs cells slots (vx_MQ below Qc XC args s mc ms free) (F0 m pc ls rest) q := by
  intro T hT X
  have hpl : e.platform.magicAccessors = ({} : Platform).magicAccessors := by rw [X.admits.platform]
  obtain ⟨vm', hW', X', st⟩ := X.outThrough hlocks q (g := F0 m pc ls rest) rfl rfl rfl (cell := ce) (by rw [hT]; exact hcell) (by rw [hv]; rfl)
    (by obtain ⟨k9, h9, -⟩ := Vm.findClass_spec hcl; exact ⟨k9, h9⟩) (fun z hz => by
      rcases hpass z hz with h | ⟨hz0, nm, hl1, hn1⟩
      · exact Or.inl h
      · obtain ⟨c6, hc6, hcl6⟩ := Cond.classLink_spec hown hl1 e.platform hpl
        obtain ⟨a8, b8, h1, h2, h3⟩ := hn1
        cases Option.some.inj (h1.symm.trans hcl)
        cases Option.some.inj (h2.symm.trans hc6)
        exact Or.inr ⟨hz0, _, hcl6, h3⟩)
  obtain ⟨g₀, hfr⟩ := X'.frames_eq
  have hcell9 : ((T.setVm vm').setFrames (.throwing q :: below)).heap[q]? = some ce := by
    show T.heap[q]? = some ce
    rw [hT]; exact hcell
  have hend : Ended ((T.setVm vm').setFrames (.throwing q :: below)) below (.threw q) := State.frames_setFrames _ (State.cur_lt_of_frames hfr)
  refine ⟨(T.setVm vm').setFrames (.throwing q :: below), ?_, .threw q, X'.here.running, hend, Or.inr ⟨q, rfl, E, ce, locs, hx _ hT (X'.ends _).1.alike, hcell9, hv, hcl, (X'.ends _).1, (X'.ends _).2.mono hc hs, hf⟩⟩
  rw [X.pushThrowing_eq]
  exact st
/-- a thing of a world lies in the heap -/
theorem vx_lt {D : va_G} {cl : List vw_C} {ws : va_W} {H1 : Heap} (h : va_P D cl ws H1) {k : Nat} {q : Nat × va_E} (hk : ws[k]? = some q) : q.1 < H1.size := (h k q hk).lt
end VXS
/-! ===== END ===== -/
/-! ===== BEGIN methods with a table of their own: called by a name, returning or throwing ===== -/
section VXH
/-! vx_backW, vx_callVX, vx_callSX, vx_callVW, vx_runVW, vx_runVX, vx_runSX, vx_ofWH follow the same proofs as their sisters above (Free/Laws.lean, Shelf42/LK1.lean); vx_outP calls Shelf42/NT130.lean (outThrough). -/
section
variable {l : Launch} {R : Room} {p : Program} {e : Env} {below : List Frame} {s : State} {sargs : Array Value} {y : MethodName} {len W9 : Nat}
theorem vx_backW {ws : List Cond} {rm : Room} {Pc : Array Value → State → Prop} {Qc : Array Value → State → Outcome → State → Prop} {XC : String → State → State → Prop} {mc ms : Nat} {free : Addr → Prop} {bytes : ByteArray} {maxL : Nat} {ret : Option FieldType} {hh : List (Nat × Nat × Nat × Nat)}
    (hM : vx_Met l y ws rm Pc Qc XC mc ms free) (hblind : FrameBlind Pc) (hrc : rm.cells = mc) (hrs : rm.slots = ms)
    (hframes : rm.frames + 1 ≤ R.frames) (hlocals : W9 + (maxL + 11) + rm.locals ≤ R.locals)
    (hws : ∀ w ∈ ws, ∀ a' U, s.WarmedH U.vm → w.before a' U = true) (hcode : Cond.codeWith y bytes maxL ret hh ∈ ws) (hinit : ∀ a' U, s.WarmedH U.vm → (Cond.initialized y.cls).before a' U = true) :
    vx_Back l R p e below s sargs y len W9 (PreOf R mc ms Pc) (PostOf Qc mc ms free) (vx_Post XC mc ms free) := by
  intro m meth c A g ig mk a X hg hsize hdg hW hn hp
  have h1 : (headSpec ws rm).pre.before a A.U = true := atoms_intro fun w hw => hws w hw _ _ X.warmed
  have h2 : (Cond.codeWith y bytes maxL ret hh).before a A.U = true := hws _ hcode _ _ X.warmed
  have h3 : (Cond.initialized y.cls).before a A.U = true := hinit _ _ X.warmed
  have h4 : A.cells + (headSpec ws rm).room.cells ≤ R.cells := by rw [show (headSpec ws rm).room.cells = mc from hrc]; exact hp.1
  have h5 : A.slots + (headSpec ws rm).room.slots ≤ R.slots := by rw [show (headSpec ws rm).room.slots = ms from hrs]; exact hp.2.1
  have hPc : Pc a (A.U.calling g mk a) := hblind _ _ _ _ hp.2.2
  obtain ⟨U, Ls, c0, s0⟩ := A
  dsimp only [Pt.U, Pt.locs, Pt.cells, Pt.slots] at h1 h2 h3 h4 h5 X hn hPc ⊢
  obtain ⟨m9, methY, cY, hn9, hmY, hcY, -, hlY, -⟩ := Cond.codeWith_spec h2
  cases Option.some.inj (hn9.symm.trans hn)
  obtain ⟨kY, hkY, -⟩ := className_of_methodNamed hn
  have hinitY : kY.init = .initialized := Cond.initialized_spec (findClass_of_methodNamed hn) hkY h3
  have h : At U g.method c below := by rw [hg]; exact X.here
  have hlocals9 : W9 + (maxL + 11) + (headSpec ws rm).room.locals ≤ R.locals := hlocals
  have happ : (headSpec ws rm).appliesLoose y e.platform (U.calling g mk a) = true :=
    Spec.appliesLoose_calling (g := g) h hdg hn hkY hinitY
      (X.room_calling (g := g) (R' := (headSpec ws rm).room) hsize hmY hcY hframes (by rw [hlY]; omega) h4 h5) h1
  obtain ⟨mid, hmid⟩ := h.above
  have hfr : (U.setTop g).frames = (.java g :: mid) ++ below := by rw [State.frames_setTop' g h.top, hmid]; rfl
  obtain ⟨o, s₂, hsteps, -, hend, hq⟩ := Steps.callFree hM p X.admits X.cas X.clock (acts := []) hfr happ hPc trivial
  have hq' : vx_Q Qc XC mc ms free a (U.calling g mk a) o s₂ := hq
  rw [State.frames_setTop' g h.top] at hend
  obtain ⟨g₀, hg0⟩ := Option.isSome_iff_exists.mp h.top
  obtain ⟨r, hr⟩ := State.topJava?_eq_some.mp hg0
  have hr' : (({ U with heap := s₂.heap, slotsUsed := s₂.slotsUsed } : State).setVm s₂.vm).frames = .java g₀ :: r := hr
  rcases hq' with ⟨hqc, L, hfe, hL⟩ | ⟨q, rfl, E, ce, L, hx, hce, hcv, hcl, hW₂, hsm, hL⟩
  · obtain ⟨⟨v, rfl⟩, hW₂, e2, q2, q3, q4, q5, q6⟩ := id hfe
    have e3 : s₂ = ({ (U.calling g mk a).setFrames s₂.frames with heap := s₂.heap, slotsUsed := s₂.slotsUsed } : State).setVm s₂.vm := by
      have : s₂ = ({ s₂ with vm := (U.calling g mk a).vm } : State).setVm s₂.vm := rfl
      rw [e2] at this
      exact this
    obtain ⟨c₂, i₂, len₂, hc₂, hd₂, hf₂⟩ := hend
    have hW' : U.WarmedH s₂.vm := hW₂
    have hcc : c₂ = c := by
      have h1 : s₂.code? g.method = U.code? g.method := by
        rw [State.code?_eq, State.code?_eq, hW'.alike.method?]
      exact Option.some.inj (hc₂.symm.trans (h1.trans h.code))
    subst hcc
    have hlen : len₂ = len := by rw [hdg] at hd₂; cases hd₂; rfl
    subst hlen
    have hs₂ : s₂ = (({ U with heap := s₂.heap, slotsUsed := s₂.slotsUsed } : State).setVm s₂.vm).setTop { g with pc := g.pc + len₂, stack := v.toList ++ g.stack } := by
      refine e3.trans ?_
      rw [hf₂, State.calling_eq h.top, State.setFrames_setFrames, State.setTop_of_frames _ hr', hr]
      rfl
    have hsame : U.sameButNew ({ U with heap := s₂.heap, slotsUsed := s₂.slotsUsed } : State) L mc ms := by
      refine ⟨?_, q2, q3, q4, q5, q6⟩
      obtain ⟨t, ht, -⟩ := State.frames_cons hr
      show ({ U with heap := s₂.heap, slotsUsed := s₂.slotsUsed } : State) = { U.setFrames U.frames with heap := s₂.heap, slotsUsed := s₂.slotsUsed }
      rw [State.setFrames_self ht]
    subst hg
    refine Or.inl ⟨v, ⟨(({ U with heap := s₂.heap, slotsUsed := s₂.slotsUsed } : State).setVm s₂.vm), Ls ++ L, c0 + mc, s0 + ms⟩,
      ⟨X.admits, X.cas, X.clock, X.frames, X.room, X.hears, X.method, X.code, (X.here.setHeapUsed s₂.heap s₂.slotsUsed).setVm hW'.alike, X.tail, State.WarmedH.trans X.warmed hW', X.limits, X.bytes, X.same.trans (hsame.setVm s.vm)⟩,
      ⟨g, mk, s₂, L, rfl, rfl, hqc, rfl, hL, rfl, rfl⟩, ?_⟩
    show Steps p.tables e below _ ((({ U with heap := s₂.heap, slotsUsed := s₂.slotsUsed } : State).setVm s₂.vm).setTop { g with pc := g.pc + len₂, stack := v.toList ++ g.stack })
    rw [← hs₂]
    exact hsteps
  · obtain ⟨e2, q2, q3, q4, q5, q6⟩ := id hsm
    have e3 : s₂ = ({ (U.calling g mk a).setFrames s₂.frames with heap := s₂.heap, slotsUsed := s₂.slotsUsed } : State).setVm s₂.vm := by
      have : s₂ = ({ s₂ with vm := (U.calling g mk a).vm } : State).setVm s₂.vm := rfl
      rw [e2] at this
      exact this
    have hf₂ : s₂.frames = .throwing q :: .java g :: U.frames.tail := hend
    have hW' : U.WarmedH s₂.vm := hW₂
    have hs₂ : s₂ = ((({ U with heap := s₂.heap, slotsUsed := s₂.slotsUsed } : State).setVm s₂.vm).setTop g).pushFrame (.throwing q) := by
      refine e3.trans ?_
      rw [hf₂, State.calling_eq h.top, State.setFrames_setFrames, State.pushFrame, State.frames_setTop _ hr', State.setTop_of_frames _ hr', State.setFrames_setFrames, hr]
      rfl
    have hsame : U.sameButNew ({ U with heap := s₂.heap, slotsUsed := s₂.slotsUsed } : State) L mc ms := by
      refine ⟨?_, q2, q3, q4, q5, q6⟩
      obtain ⟨t, ht, -⟩ := State.frames_cons hr
      show ({ U with heap := s₂.heap, slotsUsed := s₂.slotsUsed } : State) = { U.setFrames U.frames with heap := s₂.heap, slotsUsed := s₂.slotsUsed }
      rw [State.setFrames_self ht]
    subst hg
    refine Or.inr ⟨q, ⟨(({ U with heap := s₂.heap, slotsUsed := s₂.slotsUsed } : State).setVm s₂.vm), Ls ++ L, c0 + mc, s0 + ms⟩,
      ⟨X.admits, X.cas, X.clock, X.frames, X.room, X.hears, X.method, X.code, (X.here.setHeapUsed s₂.heap s₂.slotsUsed).setVm hW'.alike, X.tail, State.WarmedH.trans X.warmed hW', X.limits, X.bytes, X.same.trans (hsame.setVm s.vm)⟩,
      ⟨g, mk, s₂, L, E, ce, rfl, rfl, hx, hce, hcv, hcl, rfl, hL, rfl, rfl⟩, ?_⟩
    show Steps p.tables e below _ (((({ U with heap := s₂.heap, slotsUsed := s₂.slotsUsed } : State).setVm s₂.vm).setTop g).pushFrame (.throwing q))
    rw [← hs₂]
    exact hsteps
end
variable {p : Program} {l : Launch} {e : Env} {R : Room} {s : State} {m : MethodId} {args : Array Value} {below : List Frame} {meth : Method} {c : Code} {T : State} {H : Heap} {locs : List Loc} {cells slots : Nat}
theorem vx_callVX (X : Stand p l e R s m args below meth c T locs cells slots) (hexec : p.tables.exec = Jvm.exec) {own C : String} {index : Nat} {y : MethodName} {bytes : ByteArray} {maxL : Nat} {ret : Option FieldType} {hh : List (Nat × Nat × Nat × Nat)}
    (hown : s.vm.findClass own = some m.cls) (hlink : (Cond.methodLink own index y).before args s = true) (hinst : (Cond.instanceMethod y).before args s = true) (hsel : (Cond.selects C y y).before args s = true)
    (hcode : (Cond.codeWith y bytes maxL ret hh).before args s = true) (hy : y.cls ≠ "java/lang/invoke/MethodHandle" ∧ y.cls ≠ "java/lang/invoke/VarHandle")
    {W9 : Nat} {Pre : Pt → Array Value → Prop} {Post : Pt → Array Value → Option Value → Pt → Prop} {PostX : Pt → Array Value → Addr → Pt → Prop} (hK : vx_Back l R p e below s args y 3 W9 Pre Post PostX)
    {b : Addr} {cellB : Cell} (hcell : T.heap[b]? = some cellB) (hobj : cellB.vm.isStatics = false) (hcls : s.vm.findClass C = some cellB.cls)
    {g : JFrame} (hg : g.method = m) (hsize : g.locals.size = c.maxLocals) {argsL rest : List Value} (hlen : ∀ sig, parseMethodDescriptor y.desc = some sig → argsL.length = sig.parameters.length)
    (hstack : g.stack = argsL.reverse ++ .ref b :: rest) (hW : 2 * g.monitorRoom + (rest.map fun v => v.category).sum ≤ W9) (hdg : decode c.code g.pc = .ok (.invokevirtual index, 3))
    (hpre : ∀ vm₁, s.WarmedH vm₁ → Pre ⟨T.setVm vm₁, locs, cells, slots⟩ (Value.ref b :: argsL).toArray) :
    (∃ (v : Option Value) (vm₁ : Vm) (B : Pt), s.WarmedH vm₁ ∧ Stand p l e R s m args below meth c B.U B.locs B.cells B.slots ∧ Post ⟨T.setVm vm₁, locs, cells, slots⟩ (Value.ref b :: argsL).toArray v B ∧
      ∀ target, Steps p.tables e below (B.U.setTop { g with pc := g.pc + 3, stack := v.toList ++ rest }) target → Steps p.tables e below (T.setTop g) target) ∨
    (∃ (q : Addr) (vm₁ : Vm) (B : Pt), s.WarmedH vm₁ ∧ Stand p l e R s m args below meth c B.U B.locs B.cells B.slots ∧ PostX ⟨T.setVm vm₁, locs, cells, slots⟩ (Value.ref b :: argsL).toArray q B ∧
      Steps p.tables e below (T.setTop g) ((B.U.setTop { g with stack := rest }).pushFrame (.throwing q))) := by
  obtain ⟨mk, methM, hnamed, hmethM, hstM, habM⟩ := Cond.instanceMethod_spec hinst
  obtain ⟨m8, methM', cM, hn8, hmethM', -, -, -, -, -, -, hsigM⟩ := Cond.codeWith_spec hcode
  cases Option.some.inj (hn8.symm.trans hnamed)
  cases hmethM.symm.trans hmethM'
  obtain ⟨c2, r2, m2, q1, q2, q3, q4, kP, hkP, hkPi⟩ := Cond.selects_spec hsel
  cases hcls.symm.trans q1
  cases (State.methodFound?_of_named hnamed hy).symm.trans q2
  cases hnamed.symm.trans q3
  have hselP : selectMethod e.platform s.vm cellB.cls mk = .method mk := by rw [Launch.admits_selectMethod X.admits]; exact q4
  obtain ⟨vm₁, X₁, hstep₁⟩ := X.invokevirtual hexec hown hlink hnamed hmethM hstM hkP hkPi hy (a := b) (cell := cellB) hcell
    (fun z h => by rw [h] at hobj; cases hobj) hselP hmethM habM hkP hkPi (g := g) hg (argsL := argsL) (rest := rest) (hlen _ hsigM) hstack hdg
  rcases hK m meth c ⟨T.setVm vm₁, locs, cells, slots⟩ { g with stack := rest } (.invokevirtual index) mk (Value.ref b :: argsL).toArray X₁ hg hsize hdg hW (X₁.named hnamed) (hpre vm₁ X₁.warmed) with ⟨v, B, X', hpost, hsteps⟩ | ⟨q, B, X', hpost, hsteps⟩
  · exact Or.inl ⟨v, vm₁, B, X₁.warmed, X', hpost, fun target h => hstep₁ _ fun acts => by rw [doInvoke_state]; exact hsteps.trans h⟩
  · exact Or.inr ⟨q, vm₁, B, X₁.warmed, X', hpost, hstep₁ _ fun acts => by rw [doInvoke_state]; exact hsteps⟩
theorem vx_callSX (X : Stand p l e R s m args below meth c T locs cells slots) (hexec : p.tables.exec = Jvm.exec) {own : String} {index : Nat} {y : MethodName} {bytes : ByteArray} {maxL : Nat} {ret : Option FieldType} {hh : List (Nat × Nat × Nat × Nat)}
    (hown : s.vm.findClass own = some m.cls) (hlink : (Cond.methodLink own index y).before args s = true) (hstat : (Cond.static y).before args s = true) (hinit : (Cond.initialized y.cls).before args s = true)
    (hcode : (Cond.codeWith y bytes maxL ret hh).before args s = true) (hy : y.cls ≠ "java/lang/invoke/MethodHandle" ∧ y.cls ≠ "java/lang/invoke/VarHandle")
    {W9 : Nat} {Pre : Pt → Array Value → Prop} {Post : Pt → Array Value → Option Value → Pt → Prop} {PostX : Pt → Array Value → Addr → Pt → Prop} (hK : vx_Back l R p e below s args y 3 W9 Pre Post PostX)
    {g : JFrame} (hg : g.method = m) (hsize : g.locals.size = c.maxLocals) {argsL rest : List Value} (hlen : ∀ sig, parseMethodDescriptor y.desc = some sig → argsL.length = sig.parameters.length)
    (hstack : g.stack = argsL.reverse ++ rest) (hW : 2 * g.monitorRoom + (rest.map fun v => v.category).sum ≤ W9) (hdg : decode c.code g.pc = .ok (.invokestatic index, 3))
    (hpre : ∀ vm₁, s.WarmedH vm₁ → Pre ⟨T.setVm vm₁, locs, cells, slots⟩ argsL.toArray) :
    (∃ (v : Option Value) (vm₁ : Vm) (B : Pt), s.WarmedH vm₁ ∧ Stand p l e R s m args below meth c B.U B.locs B.cells B.slots ∧ Post ⟨T.setVm vm₁, locs, cells, slots⟩ argsL.toArray v B ∧
      ∀ target, Steps p.tables e below (B.U.setTop { g with pc := g.pc + 3, stack := v.toList ++ rest }) target → Steps p.tables e below (T.setTop g) target) ∨
    (∃ (q : Addr) (vm₁ : Vm) (B : Pt), s.WarmedH vm₁ ∧ Stand p l e R s m args below meth c B.U B.locs B.cells B.slots ∧ PostX ⟨T.setVm vm₁, locs, cells, slots⟩ argsL.toArray q B ∧
      Steps p.tables e below (T.setTop g) ((B.U.setTop { g with stack := rest }).pushFrame (.throwing q))) := by
  obtain ⟨mk, methM, cM, hnamed, hmethM, -, -, -, -, -, -, hsigM⟩ := Cond.codeWith_spec hcode
  have hstatic : methM.isStatic = true := Cond.static_spec hnamed hmethM hstat
  obtain ⟨kP, hkP, -⟩ := className_of_methodNamed hnamed
  have hinitP : kP.init = .initialized := Cond.initialized_spec (findClass_of_methodNamed hnamed) hkP hinit
  obtain ⟨vm₁, X₁, hstep₁⟩ := X.invokestatic hexec hown hlink hnamed hmethM hstatic hkP hinitP hy (g := g) hg (argsL := argsL) (rest := rest) (hlen _ hsigM) hstack hdg
  rcases hK m meth c ⟨T.setVm vm₁, locs, cells, slots⟩ { g with stack := rest } (.invokestatic index) mk argsL.toArray X₁ hg hsize hdg hW (X₁.named hnamed) (hpre vm₁ X₁.warmed) with ⟨v, B, X', hpost, hsteps⟩ | ⟨q, B, X', hpost, hsteps⟩
  · exact Or.inl ⟨v, vm₁, B, X₁.warmed, X', hpost, fun target h => hstep₁ _ fun acts => by rw [doInvoke_state]; exact hsteps.trans h⟩
  · exact Or.inr ⟨q, vm₁, B, X₁.warmed, X', hpost, hstep₁ _ fun acts => by rw [doInvoke_state]; exact hsteps⟩
theorem vx_callVW (X : Stand p l e R s m args below meth c T locs cells slots) (hexec : p.tables.exec = Jvm.exec) {own C : String} {index : Nat} {y : MethodName} {bytes : ByteArray} {maxL : Nat} {ret : Option FieldType} {hh : List (Nat × Nat × Nat × Nat)}
    (hown : s.vm.findClass own = some m.cls) (hlink : (Cond.methodLink own index y).before args s = true) (hinst : (Cond.instanceMethod y).before args s = true) (hsel : (Cond.selects C y y).before args s = true)
    (hcode : (Cond.codeWith y bytes maxL ret hh).before args s = true) (hy : y.cls ≠ "java/lang/invoke/MethodHandle" ∧ y.cls ≠ "java/lang/invoke/VarHandle")
    {W9 : Nat} {Pre : Pt → Array Value → Prop} {Post : Pt → Array Value → Option Value → Pt → Prop} (hK : Back l R p e below s args y 3 W9 Pre Post)
    {b : Addr} {cellB : Cell} (hcell : T.heap[b]? = some cellB) (hobj : cellB.vm.isStatics = false) (hcls : s.vm.findClass C = some cellB.cls)
    {g : JFrame} (hg : g.method = m) (hsize : g.locals.size = c.maxLocals) {argsL rest : List Value} (hlen : ∀ sig, parseMethodDescriptor y.desc = some sig → argsL.length = sig.parameters.length)
    (hstack : g.stack = argsL.reverse ++ .ref b :: rest) (hW : 2 * g.monitorRoom + (rest.map fun v => v.category).sum ≤ W9) (hdg : decode c.code g.pc = .ok (.invokevirtual index, 3))
    (hpre : ∀ vm₁, s.WarmedH vm₁ → Pre ⟨T.setVm vm₁, locs, cells, slots⟩ (Value.ref b :: argsL).toArray) :
    ∃ (v : Option Value) (vm₁ : Vm) (B : Pt), s.WarmedH vm₁ ∧ Stand p l e R s m args below meth c B.U B.locs B.cells B.slots ∧ Post ⟨T.setVm vm₁, locs, cells, slots⟩ (Value.ref b :: argsL).toArray v B ∧
      ∀ target, Steps p.tables e below (B.U.setTop { g with pc := g.pc + 3, stack := v.toList ++ rest }) target → Steps p.tables e below (T.setTop g) target := by
  obtain ⟨mk, methM, hnamed, hmethM, hstM, habM⟩ := Cond.instanceMethod_spec hinst
  obtain ⟨m8, methM', cM, hn8, hmethM', -, -, -, -, -, -, hsigM⟩ := Cond.codeWith_spec hcode
  cases Option.some.inj (hn8.symm.trans hnamed)
  cases hmethM.symm.trans hmethM'
  obtain ⟨c2, r2, m2, q1, q2, q3, q4, kP, hkP, hkPi⟩ := Cond.selects_spec hsel
  cases hcls.symm.trans q1
  cases (State.methodFound?_of_named hnamed hy).symm.trans q2
  cases hnamed.symm.trans q3
  have hselP : selectMethod e.platform s.vm cellB.cls mk = .method mk := by rw [Launch.admits_selectMethod X.admits]; exact q4
  obtain ⟨vm₁, X₁, hstep₁⟩ := X.invokevirtual hexec hown hlink hnamed hmethM hstM hkP hkPi hy (a := b) (cell := cellB) hcell
    (fun z h => by rw [h] at hobj; cases hobj) hselP hmethM habM hkP hkPi (g := g) hg (argsL := argsL) (rest := rest) (hlen _ hsigM) hstack hdg
  obtain ⟨v, B, X', hpost, hsteps⟩ := hK m meth c ⟨T.setVm vm₁, locs, cells, slots⟩ { g with stack := rest } (.invokevirtual index) mk (Value.ref b :: argsL).toArray X₁ hg hsize hdg hW (X₁.named hnamed) (hpre vm₁ X₁.warmed)
  exact ⟨v, vm₁, B, X₁.warmed, X', hpost, fun target h => hstep₁ _ fun acts => by rw [doInvoke_state]; exact hsteps.trans h⟩
abbrev vx_CVW (R : Room) (s : State) (args : Array Value) (own C : String) (index : Nat) (y : MethodName) (bytes : ByteArray) (maxL : Nat) (ret : Option FieldType) (hh : List (Nat × Nat × Nat × Nat)) (ws : List Cond) (rm : Room) (mc ms n : Nat) : Prop :=
  (rm.cells = mc ∧ rm.slots = ms ∧ rm.frames + 1 ≤ R.frames ∧ 8 + (maxL + 11) + rm.locals ≤ R.locals ∧ (∀ w ∈ ws, ∀ (a' : Array Value) (U : State), s.WarmedH U.vm → w.before a' U = true) ∧ Cond.codeWith y bytes maxL ret hh ∈ ws) ∧
  (Cond.codeWith y bytes maxL ret hh).before args s = true ∧ (Cond.initialized y.cls).before args s = true ∧ (y.cls ≠ "java/lang/invoke/MethodHandle" ∧ y.cls ≠ "java/lang/invoke/VarHandle") ∧
  (∀ sig, parseMethodDescriptor y.desc = some sig → n = sig.parameters.length) ∧ (Cond.methodLink own index y).before args s = true ∧ (Cond.instanceMethod y).before args s = true ∧ (Cond.selects C y y).before args s = true
theorem vx_cwVW {own C : String} {index maxL mc ms : Nat} {y : MethodName} {bytes : ByteArray} {ret : Option FieldType} {hh : List (Nat × Nat × Nat × Nat)} {Ts ws ws' : List Cond} {rm : Room} (n : Nat) (ht : ∀ w ∈ Ts, w.before args s = true) (hT : GoodIn Ts (wsV own index C y ws)) (hw : ws = Cond.codeWith y bytes maxL ret hh :: ws') (hrc : rm.cells = mc) (hrs : rm.slots = ms)
    (hd : y.cls = C ∧ y.cls ≠ "java/lang/invoke/MethodHandle" ∧ y.cls ≠ "java/lang/invoke/VarHandle" ∧ (parseMethodDescriptor y.desc).map (fun d => d.parameters.length) = some n) (hR : rm.frames + 1 ≤ R.frames ∧ 8 + (maxL + 11) + rm.locals ≤ R.locals) :
    vx_CVW R s args own C index y bytes maxL ret hh ws rm mc ms n := by
  obtain ⟨hC, hd⟩ := hd
  subst hC
  have ok : ∀ w ∈ wsV own index y.cls y ws, w.before args s = true := fun w h => ht w (hT w h).1
  have hG : GoodIn Ts ws := fun w h => hT w (by unfold wsV; exact List.mem_append_right _ h)
  have hc : Cond.codeWith y bytes maxL ret hh ∈ ws := by rw [hw]; exact List.mem_cons_self
  refine ⟨⟨hrc, hrs, hR.1, hR.2, pay_in ht hG, hc⟩, ht _ (hG _ hc).1, ok _ (by simp [wsV]), ⟨hd.1, hd.2.1⟩, fun sig h => ?_, ok _ (by simp [wsV]), ok _ (by simp [wsV]), ok _ (by simp [wsV])⟩
  have h2 := hd.2.2
  rw [h] at h2
  exact (Option.some.inj h2).symm
theorem vx_runVW {y : MethodName} {bytes cc : ByteArray} {maxL nL mc ms n index : Nat} {ret : Option FieldType} {hh : List (Nat × Nat × Nat × Nat)} {ws : List Cond} {rm : Room} {Pc : Array Value → State → Prop} {Qc : Array Value → State → Outcome → State → Prop} {free : Addr → Prop} {Ts : List Cond} {own C : String} {b : Addr} {As rest : List Value} {g : JFrame}
    (S : CallFix p m c cc nL s args Ts own) (hM : Met l y ws rm Pc Qc mc ms free) (cw : vx_CVW R s args own C index y bytes maxL ret hh ws rm mc ms n) (hp : PreV s H C b Pc As)
    (hg : g.method = m) (hn : As.length = n) (hsize : g.locals.size = nL) (hstack : g.stack = As.reverse ++ .ref b :: rest) (hW : 2 * g.monitorRoom + (rest.map fun v => v.category).sum ≤ 8) (hdg : decode cc g.pc = .ok (.invokevirtual index, 3)) (hf : cells + mc ≤ R.cells ∧ slots + ms ≤ R.slots) :
    va_Run p l e R s m args below meth c H locs cells slots mc ms g rest (Qc (Value.ref b :: As).toArray) free := by
  obtain ⟨⟨hrc, hrs, hfr, hlo, hws, hcw⟩, hcode, hini, hy, hlen, hl, hin, hse⟩ := cw
  have hK : Back l R p e below s args y 3 8 (PreOf R mc ms Pc) (PostOf Qc mc ms free) := va_backW (hh := hh) (bytes := bytes) (maxL := maxL) (ret := ret) hM hp.1 hrc hrs hfr hlo hws hcw (fun a' U hW => word_at hW (Or.inl (by first | rfl | simp [Cond.onTables, Cond.keeps, Cond.steady])) hini)
  obtain ⟨hx, hb, hml, ho, -⟩ := S
  obtain ⟨-, ⟨cellB, hcB, hoB, hclB⟩, hPc⟩ := hp
  intro T hT X
  obtain ⟨v, vm₁, ⟨U', l2, c2, s2⟩, hW₁, X', ⟨g', mk, t, L, e1, e2, hq, h1, hL, h2, h3⟩, st⟩ := vx_callVW X hx (C := C) (hh := hh) (bytes := bytes) (maxL := maxL) (ret := ret) ho hl hin hse hcode hy hK (by rw [hT]; exact hcB) hoB hclB hg (hsize.trans hml.symm) (argsL := As) (rest := rest) (fun sig h => hn.trans (hlen sig h)) hstack hW (by rw [hb]; exact hdg)
    (fun vm₁ hW₁ => ⟨hf.1, hf.2, hPc (T.setVm vm₁) hT hW₁⟩)
  dsimp only [Pt.U, Pt.locs, Pt.cells, Pt.slots] at X' e1 e2 h1 h2 h3 st
  subst h1; subst h2; subst h3
  exact ⟨v, (T.setVm vm₁).calling g' mk (Value.ref b :: As).toArray, t, U', L, hT, X', hL, e1, e2, hq, st⟩
section
variable {y : MethodName} {bytes cc : ByteArray} {maxL nL mc ms n index : Nat} {ret : Option FieldType} {ws : List Cond} {rm : Room} {Pc : Array Value → State → Prop} {Qc : Array Value → State → Outcome → State → Prop} {XC : String → State → State → Prop} {free : Addr → Prop} {Ts : List Cond} {own C : String} {b : Addr} {As rest : List Value} {g : JFrame}
theorem vx_runVX {hh : List (Nat × Nat × Nat × Nat)} (S : CallFix p m c cc nL s args Ts own) (hM : vx_Met l y ws rm Pc Qc XC mc ms free) (cw : vx_CVW R s args own C index y bytes maxL ret hh ws rm mc ms n) (hp : PreV s H C b Pc As)
    (hg : g.method = m) (hn : As.length = n) (hsize : g.locals.size = nL) (hstack : g.stack = As.reverse ++ .ref b :: rest) (hW : 2 * g.monitorRoom + (rest.map fun v => v.category).sum ≤ 8) (hdg : decode cc g.pc = .ok (.invokevirtual index, 3)) (hf : cells + mc ≤ R.cells ∧ slots + ms ≤ R.slots) :
    vx_Run p l e R s m args below meth c H locs cells slots mc ms g rest (Qc (Value.ref b :: As).toArray) XC free := by
  obtain ⟨⟨hrc, hrs, hfr, hlo, hws, hcw⟩, hcode, hini, hy, hlen, hl, hin, hse⟩ := cw
  have hK : vx_Back l R p e below s args y 3 8 (PreOf R mc ms Pc) (PostOf Qc mc ms free) (vx_Post XC mc ms free) := vx_backW (hh := hh) (bytes := bytes) (maxL := maxL) (ret := ret) hM hp.1 hrc hrs hfr hlo hws hcw (fun a' U hW => word_at hW (Or.inl (by first | rfl | simp [Cond.onTables, Cond.keeps, Cond.steady])) hini)
  obtain ⟨hx, hb, hml, ho, -⟩ := S
  obtain ⟨-, ⟨cellB, hcB, hoB, hclB⟩, hPc⟩ := hp
  intro T hT X
  rcases vx_callVX X hx (C := C) (hh := hh) (bytes := bytes) (maxL := maxL) (ret := ret) ho hl hin hse hcode hy hK (by rw [hT]; exact hcB) hoB hclB hg (hsize.trans hml.symm) (argsL := As) (rest := rest) (fun sig h => hn.trans (hlen sig h)) hstack hW (by rw [hb]; exact hdg)
    (fun vm₁ hW₁ => ⟨hf.1, hf.2, hPc (T.setVm vm₁) hT hW₁⟩) with ⟨v, vm₁, ⟨U', l2, c2, s2⟩, hW₁, X', ⟨g', mk, t, L, e1, e2, hq, h1, hL, h2, h3⟩, st⟩ | ⟨q, vm₁, ⟨U', l2, c2, s2⟩, hW₁, X', ⟨g', mk, t, L, E, ce, e1, e2, hq, hce, hcv, hcl, h1, hL, h2, h3⟩, st⟩
  · dsimp only [Pt.U, Pt.locs, Pt.cells, Pt.slots] at X' e1 e2 h1 h2 h3 st
    subst h1; subst h2; subst h3
    exact Or.inl ⟨v, (T.setVm vm₁).calling g' mk (Value.ref b :: As).toArray, t, U', L, hT, X', hL, e1, e2, hq, st⟩
  · dsimp only [Pt.U, Pt.locs, Pt.cells, Pt.slots] at X' e1 e2 h1 h2 h3 st hcl
    subst h1; subst h2; subst h3
    exact Or.inr ⟨q, (T.setVm vm₁).calling g' mk (Value.ref b :: As).toArray, t, U', L, E, ce, hT, X', hL, e1, e2, hq, hce, hcv, vx_cls hW₁ hcl, st⟩
theorem vx_runSX {hh : List (Nat × Nat × Nat × Nat)} (S : CallFix p m c cc nL s args Ts own) (hM : vx_Met l y ws rm Pc Qc XC mc ms free) (cw : vx_CSW R s args own index y bytes maxL ret hh ws rm mc ms n) (hp : PreS s H Pc As)
    (hg : g.method = m) (hn : As.length = n) (hsize : g.locals.size = nL) (hstack : g.stack = As.reverse ++ rest) (hW : 2 * g.monitorRoom + (rest.map fun v => v.category).sum ≤ 8) (hdg : decode cc g.pc = .ok (.invokestatic index, 3)) (hf : cells + mc ≤ R.cells ∧ slots + ms ≤ R.slots) :
    vx_Run p l e R s m args below meth c H locs cells slots mc ms g rest (Qc As.toArray) XC free := by
  obtain ⟨⟨hrc, hrs, hfr, hlo, hws, hcw⟩, hcode, hini, hy, hlen, hl, hstt⟩ := cw
  have hK : vx_Back l R p e below s args y 3 8 (PreOf R mc ms Pc) (PostOf Qc mc ms free) (vx_Post XC mc ms free) := vx_backW (hh := hh) (bytes := bytes) (maxL := maxL) (ret := ret) hM hp.1 hrc hrs hfr hlo hws hcw (fun a' U hW => word_at hW (Or.inl (by first | rfl | simp [Cond.onTables, Cond.keeps, Cond.steady])) hini)
  obtain ⟨hx, hb, hml, ho, -⟩ := S
  intro T hT X
  rcases vx_callSX X hx (hh := hh) (bytes := bytes) (maxL := maxL) (ret := ret) ho hl hstt hini hcode hy hK hg (hsize.trans hml.symm) (argsL := As) (rest := rest) (fun sig h => hn.trans (hlen sig h)) hstack hW (by rw [hb]; exact hdg)
    (fun vm₁ hW₁ => ⟨hf.1, hf.2, hp.2 (T.setVm vm₁) hT hW₁⟩) with ⟨v, vm₁, ⟨U', l2, c2, s2⟩, hW₁, X', ⟨g', mk, t, L, e1, e2, hq, h1, hL, h2, h3⟩, st⟩ | ⟨q, vm₁, ⟨U', l2, c2, s2⟩, hW₁, X', ⟨g', mk, t, L, E, ce, e1, e2, hq, hce, hcv, hcl, h1, hL, h2, h3⟩, st⟩
  · dsimp only [Pt.U, Pt.locs, Pt.cells, Pt.slots] at X' e1 e2 h1 h2 h3 st
    subst h1; subst h2; subst h3
    exact Or.inl ⟨v, (T.setVm vm₁).calling g' mk As.toArray, t, U', L, hT, X', hL, e1, e2, hq, st⟩
  · dsimp only [Pt.U, Pt.locs, Pt.cells, Pt.slots] at X' e1 e2 h1 h2 h3 st hcl
    subst h1; subst h2; subst h3
    exact Or.inr ⟨q, (T.setVm vm₁).calling g' mk As.toArray, t, U', L, E, ce, hT, X', hL, e1, e2, hq, hce, hcv, vx_cls hW₁ hcl, st⟩
end
end VXH
theorem vx_ofWH {l : Launch} {y : MethodName} {ws ws' : List Cond} {rm : Room} {Pc : Array Value → State → Prop} {Qc : Array Value → State → Outcome → State → Prop} {XC : String → State → State → Prop} {mc ms : Nat} {free : Addr → Prop} {cc : ByteArray} {maxL : Nat} {ret : Option FieldType} {hh : List (Nat × Nat × Nat × Nat)}
    (hy : plainName y.cls = true) (hw : ws = Cond.codeWith y cc maxL ret hh :: ws')
    (body : ∀ p e s m args below meth c s₁, BodyLoose p l y (headSpec ws rm) cc maxL ret e s m args below meth c s₁ → c.maxLocals = maxL → Pc args s →
      W p l e (headSpec ws rm).room s m args below meth c s.heap [] 0 0 (vx_MQ below Qc XC args s mc ms free) (entryFrame m args maxL)) : vx_Met l y ws rm Pc Qc XC mc ms free := by
  refine MetFree.of_bodyS (code := cc) (maxLocals := maxL) (ret := ret) hy ?_ ?_
  · intro args s m h hn
    obtain ⟨m9, meth, c, hn9, h1, h2, h3, h4, -, h5, h6, -⟩ := Cond.codeWith_spec (atoms_spec (ws := ws) h _ (by rw [hw]; exact List.mem_cons_self))
    cases hn.symm.trans hn9
    exact ⟨meth, c, h1, h2, h3, h4, h5, h6⟩
  · intro p e s m args below meth c s₁ B hml hP _
    have hh0 : s₁.heap = s.heap := by rw [B.state]; rfl
    obtain ⟨t, a1, o, b1, b2, b3⟩ := body p e s m args below meth c s₁ B hml hP s₁ hh0 (Stand.of_body B)
    exact ⟨t, o, a1, b1, b2, b3⟩
/-! ===== END ===== -/
end
section
def RX0 : String := "AbbreviationBook$CallGraph"
def TX0 : u_T := fun k => match k with
  | 0 => ("AbbreviationBook$CallGraph", "called", "[I", true)
  | 1 => ("AbbreviationBook$CallGraph", "reached", "[I", true)
  | _ => ("AbbreviationBook$CallGraph", "defined", "I", false)
def tyX0 : Nat → FieldType := fun k => match k with
  | 0 => .array .int
  | 1 => .array .int
  | _ => .int
abbrev wsX00 : List Cond := u_ws RX0 TX0 3
theorem nmX0 : ∀ a, a < 3 → ∀ b, b < 3 → a ≠ b → (TX0 a).2.1 ≠ (TX0 b).2.1 := by decide +kernel
theorem tyX0_ok : ∀ k, k < 3 → parseFieldDescriptor (TX0 k).2.2.1 = some (tyX0 k) := by decide +kernel
abbrev cX0_init : ByteArray := prog_2_method_1_code
def yX0_init : MethodName := ⟨RX0, "<init>", "()V"⟩
abbrev cX0_takeFrom : ByteArray := prog_2_method_2_code
def yX0_takeFrom : MethodName := ⟨RX0, "takeFrom", "(LAbbreviationBook$State;)V"⟩
abbrev cX0_tryBody : ByteArray := prog_2_method_3_code
def yX0_tryBody : MethodName := ⟨RX0, "tryBody", "(II)V"⟩
abbrev cX0_calledBy : ByteArray := prog_2_method_4_code
def yX0_calledBy : MethodName := ⟨RX0, "calledBy", "(I)I"⟩
abbrev cX0_reachedFrom : ByteArray := prog_2_method_5_code
def yX0_reachedFrom : MethodName := ⟨RX0, "reachedFrom", "(I)I"⟩
abbrev cX0_callersOf : ByteArray := prog_2_method_6_code
def yX0_callersOf : MethodName := ⟨RX0, "callersOf", "(I)I"⟩
abbrev cX0_reaching : ByteArray := prog_2_method_7_code
def yX0_reaching : MethodName := ⟨RX0, "reaching", "(I)I"⟩
abbrev cX0_inRings : ByteArray := prog_2_method_8_code
def yX0_inRings : MethodName := ⟨RX0, "inRings", "()I"⟩
abbrev cX0_calledButNotDefined : ByteArray := prog_2_method_9_code
def yX0_calledButNotDefined : MethodName := ⟨RX0, "calledButNotDefined", "()I"⟩
abbrev cX0_longestChain : ByteArray := prog_2_method_10_code
def yX0_longestChain : MethodName := ⟨RX0, "longestChain", "(I)I"⟩
abbrev cX0_followCalls : ByteArray := prog_2_method_11_code
def yX0_followCalls : MethodName := ⟨RX0, "followCalls", "()V"⟩
abbrev cX0_calledInBodiesOf : ByteArray := prog_2_method_12_code
def yX0_calledInBodiesOf : MethodName := ⟨RX0, "calledInBodiesOf", "(I)I"⟩
abbrev cX0_holds : ByteArray := prog_2_method_13_code
def yX0_holds : MethodName := ⟨RX0, "holds", "(II)Z"⟩
def RX1 : String := "AbbreviationBook$Expansion"
def TX1 : u_T := fun k => match k with
  | 0 => ("AbbreviationBook$Expansion", "stack", "[I", true)
  | 1 => ("AbbreviationBook$Expansion", "marks", "[I", true)
  | 2 => ("AbbreviationBook$Expansion", "waitingLetters", "[I", true)
  | 3 => ("AbbreviationBook$Expansion", "waitingMarks", "[I", true)
  | 4 => ("AbbreviationBook$Expansion", "numbersOfCalls", "[I", true)
  | 5 => ("AbbreviationBook$Expansion", "top", "I", false)
  | 6 => ("AbbreviationBook$Expansion", "markCount", "I", false)
  | 7 => ("AbbreviationBook$Expansion", "waitingCount", "I", false)
  | 8 => ("AbbreviationBook$Expansion", "listedCount", "I", false)
  | 9 => ("AbbreviationBook$Expansion", "expandedCount", "I", false)
  | 10 => ("AbbreviationBook$Expansion", "deepest", "I", false)
  | 11 => ("AbbreviationBook$Expansion", "openBodies", "I", false)
  | 12 => ("AbbreviationBook$Expansion", "writing", "Z", false)
  | _ => ("AbbreviationBook$Expansion", "broken", "Z", false)
def tyX1 : Nat → FieldType := fun k => match k with
  | 0 => .array .int
  | 1 => .array .int
  | 2 => .array .int
  | 3 => .array .int
  | 4 => .array .int
  | 5 => .int
  | 6 => .int
  | 7 => .int
  | 8 => .int
  | 9 => .int
  | 10 => .int
  | 11 => .int
  | 12 => .boolean
  | _ => .boolean
abbrev wsX10 : List Cond := u_ws RX1 TX1 14
theorem nmX1 : ∀ a, a < 14 → ∀ b, b < 14 → a ≠ b → (TX1 a).2.1 ≠ (TX1 b).2.1 := by decide +kernel
theorem tyX1_ok : ∀ k, k < 14 → parseFieldDescriptor (TX1 k).2.2.1 = some (tyX1 k) := by decide +kernel
abbrev cX1_init : ByteArray := prog_3_method_1_code
def yX1_init : MethodName := ⟨RX1, "<init>", "()V"⟩
abbrev cX1_writeResult : ByteArray := prog_3_method_2_code
def yX1_writeResult : MethodName := ⟨RX1, "writeResult", "(LAbbreviationBook$State;[II)Z"⟩
abbrev cX1_makeOutcome : ByteArray := prog_3_method_3_code
def yX1_makeOutcome : MethodName := ⟨RX1, "makeOutcome", "()LAbbreviationBook$Outcome;"⟩
abbrev cX1_measureCall : ByteArray := prog_3_method_4_code
def yX1_measureCall : MethodName := ⟨RX1, "measureCall", "(LAbbreviationBook$State;III)I"⟩
abbrev cX1_startOver : ByteArray := prog_3_method_5_code
def yX1_startOver : MethodName := ⟨RX1, "startOver", "(Z)V"⟩
abbrev cX1_writeText : ByteArray := prog_3_method_6_code
def yX1_writeText : MethodName := ⟨RX1, "writeText", "(LAbbreviationBook$State;[IIIII)V"⟩
abbrev cX1_fillHole : ByteArray := prog_3_method_7_code
def yX1_fillHole : MethodName := ⟨RX1, "fillHole", "(IIII)V"⟩
abbrev cX1_letCallWait : ByteArray := prog_3_method_8_code
def yX1_letCallWait : MethodName := ⟨RX1, "letCallWait", "(I)V"⟩
abbrev cX1_finishCall : ByteArray := prog_3_method_9_code
def yX1_finishCall : MethodName := ⟨RX1, "finishCall", "(LAbbreviationBook$State;I)V"⟩
abbrev cX1_endingOf : ByteArray := prog_3_method_10_code
def yX1_endingOf : MethodName := ⟨RX1, "endingOf", "(LAbbreviationBook$State;II)I"⟩
abbrev cX1_signOf : ByteArray := prog_3_method_11_code
def yX1_signOf : MethodName := ⟨RX1, "signOf", "(I)I"⟩
abbrev cX1_writeBody : ByteArray := prog_3_method_12_code
def yX1_writeBody : MethodName := ⟨RX1, "writeBody", "(LAbbreviationBook$State;IIII)V"⟩
abbrev cX1_listCall : ByteArray := prog_3_method_13_code
def yX1_listCall : MethodName := ⟨RX1, "listCall", "(IIIIII)V"⟩
abbrev cX1_setMark : ByteArray := prog_3_method_14_code
def yX1_setMark : MethodName := ⟨RX1, "setMark", "()V"⟩
abbrev cX1_markAt : ByteArray := prog_3_method_15_code
def yX1_markAt : MethodName := ⟨RX1, "markAt", "(I)I"⟩
abbrev cX1_takesMore : ByteArray := prog_3_method_16_code
def yX1_takesMore : MethodName := ⟨RX1, "takesMore", "(I)Z"⟩
abbrev cX1_writeSign : ByteArray := prog_3_method_17_code
def yX1_writeSign : MethodName := ⟨RX1, "writeSign", "(I)V"⟩
abbrev cX1_writeCopy : ByteArray := prog_3_method_18_code
def yX1_writeCopy : MethodName := ⟨RX1, "writeCopy", "(II)V"⟩
abbrev cX1_moveSigns : ByteArray := prog_3_method_19_code
def yX1_moveSigns : MethodName := ⟨RX1, "moveSigns", "(III)V"⟩
def RX2 : String := "AbbreviationBook$History"
def TX2 : u_T := fun k => match k with
  | 0 => ("AbbreviationBook$History", "saved", "[LAbbreviationBook$State;", true)
  | 1 => ("AbbreviationBook$History", "snapshots", "[LAbbreviationBook$State;", true)
  | 2 => ("AbbreviationBook$History", "newest", "I", false)
  | _ => ("AbbreviationBook$History", "savedCount", "I", false)
def tyX2 : Nat → FieldType := fun k => match k with
  | 0 => .array (.object "AbbreviationBook$State")
  | 1 => .array (.object "AbbreviationBook$State")
  | 2 => .int
  | _ => .int
abbrev wsX20 : List Cond := u_ws RX2 TX2 4
theorem nmX2 : ∀ a, a < 4 → ∀ b, b < 4 → a ≠ b → (TX2 a).2.1 ≠ (TX2 b).2.1 := by decide +kernel
theorem tyX2_ok : ∀ k, k < 4 → parseFieldDescriptor (TX2 k).2.2.1 = some (tyX2 k) := by decide +kernel
abbrev cX2_init : ByteArray := prog_4_method_1_code
def yX2_init : MethodName := ⟨RX2, "<init>", "()V"⟩
abbrev cX2_saveState : ByteArray := prog_4_method_2_code
def yX2_saveState : MethodName := ⟨RX2, "saveState", "(LAbbreviationBook$State;)V"⟩
abbrev cX2_restoreSaved : ByteArray := prog_4_method_3_code
def yX2_restoreSaved : MethodName := ⟨RX2, "restoreSaved", "(LAbbreviationBook$State;)Z"⟩
abbrev cX2_takeSnapshot : ByteArray := prog_4_method_4_code
def yX2_takeSnapshot : MethodName := ⟨RX2, "takeSnapshot", "(ILAbbreviationBook$State;)V"⟩
abbrev cX2_snapshotIn : ByteArray := prog_4_method_5_code
def yX2_snapshotIn : MethodName := ⟨RX2, "snapshotIn", "(I)LAbbreviationBook$State;"⟩
abbrev cX2_copyInto : ByteArray := prog_4_method_6_code
def yX2_copyInto : MethodName := ⟨RX2, "copyInto", "([LAbbreviationBook$State;ILAbbreviationBook$State;)V"⟩
def RX3 : String := "AbbreviationBook$Outcome"
def TX3 : u_T := fun k => match k with
  | 0 => ("AbbreviationBook$Outcome", "signs", "[I", true)
  | 1 => ("AbbreviationBook$Outcome", "expandedCalls", "I", true)
  | 2 => ("AbbreviationBook$Outcome", "deepest", "I", true)
  | _ => ("AbbreviationBook$Outcome", "numbersOfCalls", "[I", true)
def tyX3 : Nat → FieldType := fun k => match k with
  | 0 => .array .int
  | 1 => .int
  | 2 => .int
  | _ => .array .int
abbrev wsX30 : List Cond := u_ws RX3 TX3 4
theorem nmX3 : ∀ a, a < 4 → ∀ b, b < 4 → a ≠ b → (TX3 a).2.1 ≠ (TX3 b).2.1 := by decide +kernel
theorem tyX3_ok : ∀ k, k < 4 → parseFieldDescriptor (TX3 k).2.2.1 = some (tyX3 k) := by decide +kernel
abbrev cX3_init : ByteArray := prog_5_method_1_code
def yX3_init : MethodName := ⟨RX3, "<init>", "([I[III)V"⟩
abbrev cX3_occurrencesOf : ByteArray := prog_5_method_2_code
def yX3_occurrencesOf : MethodName := ⟨RX3, "occurrencesOf", "(I)I"⟩
abbrev cX3_listedCalls : ByteArray := prog_5_method_3_code
def yX3_listedCalls : MethodName := ⟨RX3, "listedCalls", "()I"⟩
abbrev cX3_numberOfCall : ByteArray := prog_5_method_4_code
def yX3_numberOfCall : MethodName := ⟨RX3, "numberOfCall", "(II)I"⟩
def RX4 : String := "AbbreviationBook$Reading"
def TX4 : u_T := fun k => match k with
  | 0 => ("AbbreviationBook$Reading", "argumentCounts", "[I", true)
  | 1 => ("AbbreviationBook$Reading", "openCalls", "I", false)
  | 2 => ("AbbreviationBook$Reading", "wholeLength", "I", false)
  | 3 => ("AbbreviationBook$Reading", "validLength", "I", false)
  | 4 => ("AbbreviationBook$Reading", "holes", "I", false)
  | 5 => ("AbbreviationBook$Reading", "calls", "I", false)
  | 6 => ("AbbreviationBook$Reading", "mostArguments", "I", false)
  | 7 => ("AbbreviationBook$Reading", "nesting", "I", false)
  | 8 => ("AbbreviationBook$Reading", "smallSigns", "I", false)
  | _ => ("AbbreviationBook$Reading", "called", "I", false)
def tyX4 : Nat → FieldType := fun k => match k with
  | 0 => .array .int
  | 1 => .int
  | 2 => .int
  | 3 => .int
  | 4 => .int
  | 5 => .int
  | 6 => .int
  | 7 => .int
  | 8 => .int
  | _ => .int
abbrev wsX40 : List Cond := u_ws RX4 TX4 10
theorem nmX4 : ∀ a, a < 10 → ∀ b, b < 10 → a ≠ b → (TX4 a).2.1 ≠ (TX4 b).2.1 := by decide +kernel
theorem tyX4_ok : ∀ k, k < 10 → parseFieldDescriptor (TX4 k).2.2.1 = some (tyX4 k) := by decide +kernel
abbrev cX4_init : ByteArray := prog_6_method_1_code
def yX4_init : MethodName := ⟨RX4, "<init>", "()V"⟩
abbrev cX4_readText : ByteArray := prog_6_method_2_code
def yX4_readText : MethodName := ⟨RX4, "readText", "([II)V"⟩
abbrev cX4_isComplete : ByteArray := prog_6_method_3_code
def yX4_isComplete : MethodName := ⟨RX4, "isComplete", "()Z"⟩
abbrev cX4_startOver : ByteArray := prog_6_method_4_code
def yX4_startOver : MethodName := ⟨RX4, "startOver", "(I)V"⟩
abbrev cX4_accepts : ByteArray := prog_6_method_5_code
def yX4_accepts : MethodName := ⟨RX4, "accepts", "(II)Z"⟩
abbrev cX4_noteCall : ByteArray := prog_6_method_6_code
def yX4_noteCall : MethodName := ⟨RX4, "noteCall", "(I)V"⟩
abbrev cX4_opensCall : ByteArray := prog_6_method_7_code
def yX4_opensCall : MethodName := ⟨RX4, "opensCall", "()Z"⟩
abbrev cX4_addsArgument : ByteArray := prog_6_method_8_code
def yX4_addsArgument : MethodName := ⟨RX4, "addsArgument", "()Z"⟩
abbrev cX4_closesCall : ByteArray := prog_6_method_9_code
def yX4_closesCall : MethodName := ⟨RX4, "closesCall", "()Z"⟩
def RX5 : String := "AbbreviationBook$State"
def TX5 : u_T := fun k => match k with
  | 0 => ("AbbreviationBook$State", "definitions", "[LAbbreviationBook$Text;", true)
  | 1 => ("AbbreviationBook$State", "outcome", "LAbbreviationBook$Outcome;", false)
  | 2 => ("AbbreviationBook$State", "depth", "I", false)
  | 3 => ("AbbreviationBook$State", "successes", "I", false)
  | _ => ("AbbreviationBook$State", "failures", "I", false)
def tyX5 : Nat → FieldType := fun k => match k with
  | 0 => .array (.object "AbbreviationBook$Text")
  | 1 => .object "AbbreviationBook$Outcome"
  | 2 => .int
  | 3 => .int
  | _ => .int
abbrev wsX50 : List Cond := u_ws RX5 TX5 5
theorem nmX5 : ∀ a, a < 5 → ∀ b, b < 5 → a ≠ b → (TX5 a).2.1 ≠ (TX5 b).2.1 := by decide +kernel
theorem tyX5_ok : ∀ k, k < 5 → parseFieldDescriptor (TX5 k).2.2.1 = some (tyX5 k) := by decide +kernel
abbrev cX5_init : ByteArray := prog_7_method_1_code
def yX5_init : MethodName := ⟨RX5, "<init>", "()V"⟩
abbrev cX5_copyFrom : ByteArray := prog_7_method_2_code
def yX5_copyFrom : MethodName := ⟨RX5, "copyFrom", "(LAbbreviationBook$State;)V"⟩
abbrev cX5_definitionOf : ByteArray := prog_7_method_3_code
def yX5_definitionOf : MethodName := ⟨RX5, "definitionOf", "(I)LAbbreviationBook$Text;"⟩
abbrev cX5_putDefinition : ByteArray := prog_7_method_4_code
def yX5_putDefinition : MethodName := ⟨RX5, "putDefinition", "(ILAbbreviationBook$Text;)V"⟩
abbrev cX5_definedSet : ByteArray := prog_7_method_5_code
def yX5_definedSet : MethodName := ⟨RX5, "definedSet", "()I"⟩
abbrev cX5_definedCount : ByteArray := prog_7_method_6_code
def yX5_definedCount : MethodName := ⟨RX5, "definedCount", "()I"⟩
abbrev cX5_callsOfBodies : ByteArray := prog_7_method_7_code
def yX5_callsOfBodies : MethodName := ⟨RX5, "callsOfBodies", "()I"⟩
abbrev cX5_holesOfBodies : ByteArray := prog_7_method_8_code
def yX5_holesOfBodies : MethodName := ⟨RX5, "holesOfBodies", "()I"⟩
def RX6 : String := "AbbreviationBook$Text"
def TX6 : u_T := fun k => match k with
  | 0 => ("AbbreviationBook$Text", "signs", "[I", true)
  | 1 => ("AbbreviationBook$Text", "holes", "I", true)
  | 2 => ("AbbreviationBook$Text", "calls", "I", true)
  | 3 => ("AbbreviationBook$Text", "mostArguments", "I", true)
  | 4 => ("AbbreviationBook$Text", "nesting", "I", true)
  | 5 => ("AbbreviationBook$Text", "smallSigns", "I", true)
  | _ => ("AbbreviationBook$Text", "called", "I", true)
def tyX6 : Nat → FieldType := fun k => match k with
  | 0 => .array .int
  | 1 => .int
  | 2 => .int
  | 3 => .int
  | 4 => .int
  | 5 => .int
  | _ => .int
abbrev wsX60 : List Cond := u_ws RX6 TX6 7
theorem nmX6 : ∀ a, a < 7 → ∀ b, b < 7 → a ≠ b → (TX6 a).2.1 ≠ (TX6 b).2.1 := by decide +kernel
theorem tyX6_ok : ∀ k, k < 7 → parseFieldDescriptor (TX6 k).2.2.1 = some (tyX6 k) := by decide +kernel
abbrev cX6_init : ByteArray := prog_8_method_1_code
def yX6_init : MethodName := ⟨RX6, "<init>", "([ILAbbreviationBook$Reading;)V"⟩
def RX7 : String := "AbbreviationBook"
def TX7 : u_T := fun k => match k with
  | 0 => ("AbbreviationBook", "state", "LAbbreviationBook$State;", true)
  | 1 => ("AbbreviationBook", "history", "LAbbreviationBook$History;", true)
  | 2 => ("AbbreviationBook", "buffer", "[I", true)
  | 3 => ("AbbreviationBook", "reading", "LAbbreviationBook$Reading;", true)
  | 4 => ("AbbreviationBook", "graph", "LAbbreviationBook$CallGraph;", true)
  | 5 => ("AbbreviationBook", "expansion", "LAbbreviationBook$Expansion;", true)
  | _ => ("AbbreviationBook", "bufferLength", "I", false)
def tyX7 : Nat → FieldType := fun k => match k with
  | 0 => .object "AbbreviationBook$State"
  | 1 => .object "AbbreviationBook$History"
  | 2 => .array .int
  | 3 => .object "AbbreviationBook$Reading"
  | 4 => .object "AbbreviationBook$CallGraph"
  | 5 => .object "AbbreviationBook$Expansion"
  | _ => .int
abbrev wsX70 : List Cond := u_ws RX7 TX7 7
theorem nmX7 : ∀ a, a < 7 → ∀ b, b < 7 → a ≠ b → (TX7 a).2.1 ≠ (TX7 b).2.1 := by decide +kernel
theorem tyX7_ok : ∀ k, k < 7 → parseFieldDescriptor (TX7 k).2.2.1 = some (tyX7 k) := by decide +kernel
abbrev cX7_init : ByteArray := prog_1_method_1_code
def yX7_init : MethodName := ⟨RX7, "<init>", "()V"⟩
abbrev cX7_define : ByteArray := prog_1_method_2_code
def yX7_define : MethodName := ⟨RX7, "define", "(I)I"⟩
abbrev cX7_remove : ByteArray := prog_1_method_3_code
def yX7_remove : MethodName := ⟨RX7, "remove", "(I)I"⟩
abbrev cX7_exchange : ByteArray := prog_1_method_4_code
def yX7_exchange : MethodName := ⟨RX7, "exchange", "(II)I"⟩
abbrev cX7_set : ByteArray := prog_1_method_5_code
def yX7_set : MethodName := ⟨RX7, "set", "(I)I"⟩
abbrev cX7_expand : ByteArray := prog_1_method_6_code
def yX7_expand : MethodName := ⟨RX7, "expand", "()I"⟩
abbrev cX7_append : ByteArray := prog_1_method_7_code
def yX7_append : MethodName := ⟨RX7, "append", "(I)I"⟩
abbrev cX7_clearBuffer : ByteArray := prog_1_method_8_code
def yX7_clearBuffer : MethodName := ⟨RX7, "clearBuffer", "()I"⟩
abbrev cX7_firstError : ByteArray := prog_1_method_9_code
def yX7_firstError : MethodName := ⟨RX7, "firstError", "()I"⟩
abbrev cX7_load : ByteArray := prog_1_method_10_code
def yX7_load : MethodName := ⟨RX7, "load", "(I)I"⟩
abbrev cX7_undo : ByteArray := prog_1_method_11_code
def yX7_undo : MethodName := ⟨RX7, "undo", "()I"⟩
abbrev cX7_keep : ByteArray := prog_1_method_12_code
def yX7_keep : MethodName := ⟨RX7, "keep", "(I)I"⟩
abbrev cX7_goBack : ByteArray := prog_1_method_13_code
def yX7_goBack : MethodName := ⟨RX7, "goBack", "(I)I"⟩
abbrev cX7_body : ByteArray := prog_1_method_14_code
def yX7_body : MethodName := ⟨RX7, "body", "(II)I"⟩
abbrev cX7_uses : ByteArray := prog_1_method_15_code
def yX7_uses : MethodName := ⟨RX7, "uses", "(II)I"⟩
abbrev cX7_rings : ByteArray := prog_1_method_16_code
def yX7_rings : MethodName := ⟨RX7, "rings", "()I"⟩
abbrev cX7_missing : ByteArray := prog_1_method_17_code
def yX7_missing : MethodName := ⟨RX7, "missing", "()I"⟩
abbrev cX7_chain : ByteArray := prog_1_method_18_code
def yX7_chain : MethodName := ⟨RX7, "chain", "(I)I"⟩
abbrev cX7_ifDefined : ByteArray := prog_1_method_19_code
def yX7_ifDefined : MethodName := ⟨RX7, "ifDefined", "(I)I"⟩
abbrev cX7_sign : ByteArray := prog_1_method_20_code
def yX7_sign : MethodName := ⟨RX7, "sign", "(I)I"⟩
abbrev cX7_result : ByteArray := prog_1_method_21_code
def yX7_result : MethodName := ⟨RX7, "result", "(I)I"⟩
abbrev cX7_trace : ByteArray := prog_1_method_22_code
def yX7_trace : MethodName := ⟨RX7, "trace", "(II)I"⟩
abbrev cX7_lengthOf : ByteArray := prog_1_method_23_code
def yX7_lengthOf : MethodName := ⟨RX7, "lengthOf", "(II)I"⟩
abbrev cX7_count : ByteArray := prog_1_method_24_code
def yX7_count : MethodName := ⟨RX7, "count", "(I)I"⟩
abbrev cX7_meanHoles : ByteArray := prog_1_method_25_code
def yX7_meanHoles : MethodName := ⟨RX7, "meanHoles", "()D"⟩
abbrev cX7_isLetter : ByteArray := prog_1_method_26_code
def yX7_isLetter : MethodName := ⟨RX7, "isLetter", "(I)Z"⟩
abbrev cX7_isAbbreviation : ByteArray := prog_1_method_27_code
def yX7_isAbbreviation : MethodName := ⟨RX7, "isAbbreviation", "(I)Z"⟩
abbrev cX7_requireLetter : ByteArray := prog_1_method_28_code
def yX7_requireLetter : MethodName := ⟨RX7, "requireLetter", "(I)V"⟩
abbrev cX7_requireWhat : ByteArray := prog_1_method_29_code
def yX7_requireWhat : MethodName := ⟨RX7, "requireWhat", "(II)V"⟩
abbrev cX7_requireSlot : ByteArray := prog_1_method_30_code
def yX7_requireSlot : MethodName := ⟨RX7, "requireSlot", "(I)V"⟩
abbrev cX7_requireDefinition : ByteArray := prog_1_method_31_code
def yX7_requireDefinition : MethodName := ⟨RX7, "requireDefinition", "(I)LAbbreviationBook$Text;"⟩
abbrev cX7_copyOfBuffer : ByteArray := prog_1_method_32_code
def yX7_copyOfBuffer : MethodName := ⟨RX7, "copyOfBuffer", "()[I"⟩
abbrev cX7_requireCompleteText : ByteArray := prog_1_method_33_code
def yX7_requireCompleteText : MethodName := ⟨RX7, "requireCompleteText", "()V"⟩
def RX8 : String := "AbbreviationBookModel"
def TX8 : u_T := fun k => match k with
  | 0 => ("AbbreviationBookModel", "s", "[I", true)
  | 1 => ("AbbreviationBookModel", "past", "[I", true)
  | 2 => ("AbbreviationBookModel", "pasts", "I", false)
  | 3 => ("AbbreviationBookModel", "slots", "[I", true)
  | 4 => ("AbbreviationBookModel", "isKept", "[Z", true)
  | 5 => ("AbbreviationBookModel", "text", "[I", true)
  | 6 => ("AbbreviationBookModel", "length", "I", false)
  | 7 => ("AbbreviationBookModel", "thrown", "I", false)
  | 8 => ("AbbreviationBookModel", "commas", "[I", true)
  | 9 => ("AbbreviationBookModel", "open", "I", false)
  | 10 => ("AbbreviationBookModel", "source", "[I", true)
  | 11 => ("AbbreviationBookModel", "at", "[I", true)
  | 12 => ("AbbreviationBookModel", "hole", "[I", true)
  | 13 => ("AbbreviationBookModel", "given", "[I", true)
  | 14 => ("AbbreviationBookModel", "together", "[I", true)
  | 15 => ("AbbreviationBookModel", "from", "[I", true)
  | 16 => ("AbbreviationBookModel", "lengths", "[I", true)
  | 17 => ("AbbreviationBookModel", "uniform", "I", false)
  | 18 => ("AbbreviationBookModel", "level", "I", false)
  | 19 => ("AbbreviationBookModel", "call", "[I", true)
  | 20 => ("AbbreviationBookModel", "so", "[I", true)
  | 21 => ("AbbreviationBookModel", "sizes", "[I", true)
  | 22 => ("AbbreviationBookModel", "calls", "I", false)
  | 23 => ("AbbreviationBookModel", "out", "[I", true)
  | 24 => ("AbbreviationBookModel", "isFailed", "Z", false)
  | 25 => ("AbbreviationBookModel", "expanded", "I", false)
  | 26 => ("AbbreviationBookModel", "deepest", "I", false)
  | 27 => ("AbbreviationBookModel", "trace", "[I", true)
  | 28 => ("AbbreviationBookModel", "traced", "I", false)
  | 29 => ("AbbreviationBookModel", "reading", "[I", true)
  | 30 => ("AbbreviationBookModel", "place", "[I", true)
  | 31 => ("AbbreviationBookModel", "within", "[I", true)
  | 32 => ("AbbreviationBookModel", "deep", "I", false)
  | 33 => ("AbbreviationBookModel", "body", "[I", true)
  | 34 => ("AbbreviationBookModel", "caller", "[I", true)
  | 35 => ("AbbreviationBookModel", "outer", "[I", true)
  | 36 => ("AbbreviationBookModel", "begun", "[I", true)
  | 37 => ("AbbreviationBookModel", "starts", "[I", true)
  | 38 => ("AbbreviationBookModel", "bodies", "I", false)
  | 39 => ("AbbreviationBookModel", "signs", "I", false)
  | 40 => ("AbbreviationBookModel", "sets", "[I", true)
  | 41 => ("AbbreviationBookModel", "chains", "[I", true)
  | _ => ("AbbreviationBookModel", "kept", "[I", true)
def tyX8 : Nat → FieldType := fun k => match k with
  | 0 => .array .int
  | 1 => .array .int
  | 2 => .int
  | 3 => .array .int
  | 4 => .array .boolean
  | 5 => .array .int
  | 6 => .int
  | 7 => .int
  | 8 => .array .int
  | 9 => .int
  | 10 => .array .int
  | 11 => .array .int
  | 12 => .array .int
  | 13 => .array .int
  | 14 => .array .int
  | 15 => .array .int
  | 16 => .array .int
  | 17 => .int
  | 18 => .int
  | 19 => .array .int
  | 20 => .array .int
  | 21 => .array .int
  | 22 => .int
  | 23 => .array .int
  | 24 => .boolean
  | 25 => .int
  | 26 => .int
  | 27 => .array .int
  | 28 => .int
  | 29 => .array .int
  | 30 => .array .int
  | 31 => .array .int
  | 32 => .int
  | 33 => .array .int
  | 34 => .array .int
  | 35 => .array .int
  | 36 => .array .int
  | 37 => .array .int
  | 38 => .int
  | 39 => .int
  | 40 => .array .int
  | 41 => .array .int
  | _ => .array .int
abbrev wsX80 : List Cond := u_ws RX8 TX8 43
theorem nmX8 : ∀ a, a < 43 → ∀ b, b < 43 → a ≠ b → (TX8 a).2.1 ≠ (TX8 b).2.1 := by decide +kernel
theorem tyX8_ok : ∀ k, k < 43 → parseFieldDescriptor (TX8 k).2.2.1 = some (tyX8 k) := by decide +kernel
abbrev cX8_init : ByteArray := prog_10_method_1_code
def yX8_init : MethodName := ⟨RX8, "<init>", "()V"⟩
abbrev cX8_thrown : ByteArray := prog_10_method_2_code
def yX8_thrown : MethodName := ⟨RX8, "thrown", "()I"⟩
abbrev cX8_refused : ByteArray := prog_10_method_3_code
def yX8_refused : MethodName := ⟨RX8, "refused", "(I)Z"⟩
abbrev cX8_in : ByteArray := prog_10_method_4_code
def yX8_in : MethodName := ⟨RX8, "in", "(III)Z"⟩
abbrev cX8_isLetter : ByteArray := prog_10_method_5_code
def yX8_isLetter : MethodName := ⟨RX8, "isLetter", "(I)Z"⟩
abbrev cX8_isDefined : ByteArray := prog_10_method_6_code
def yX8_isDefined : MethodName := ⟨RX8, "isDefined", "(I)Z"⟩
abbrev cX8_longOf : ByteArray := prog_10_method_7_code
def yX8_longOf : MethodName := ⟨RX8, "longOf", "(I)I"⟩
abbrev cX8_signOf : ByteArray := prog_10_method_8_code
def yX8_signOf : MethodName := ⟨RX8, "signOf", "(II)I"⟩
abbrev cX8_isCall : ByteArray := prog_10_method_9_code
def yX8_isCall : MethodName := ⟨RX8, "isCall", "(I)Z"⟩
abbrev cX8_isPlain : ByteArray := prog_10_method_10_code
def yX8_isPlain : MethodName := ⟨RX8, "isPlain", "(I)Z"⟩
abbrev cX8_saves : ByteArray := prog_10_method_11_code
def yX8_saves : MethodName := ⟨RX8, "saves", "()V"⟩
abbrev cX8_defined : ByteArray := prog_10_method_12_code
def yX8_defined : MethodName := ⟨RX8, "defined", "()I"⟩
abbrev cX8_append : ByteArray := prog_10_method_13_code
def yX8_append : MethodName := ⟨RX8, "append", "(I)I"⟩
abbrev cX8_clearBuffer : ByteArray := prog_10_method_14_code
def yX8_clearBuffer : MethodName := ⟨RX8, "clearBuffer", "()I"⟩
abbrev cX8_error : ByteArray := prog_10_method_15_code
def yX8_error : MethodName := ⟨RX8, "error", "()I"⟩
abbrev cX8_isWhole : ByteArray := prog_10_method_16_code
def yX8_isWhole : MethodName := ⟨RX8, "isWhole", "()Z"⟩
abbrev cX8_firstError : ByteArray := prog_10_method_17_code
def yX8_firstError : MethodName := ⟨RX8, "firstError", "()I"⟩
abbrev cX8_load : ByteArray := prog_10_method_18_code
def yX8_load : MethodName := ⟨RX8, "load", "(I)I"⟩
abbrev cX8_holesOf : ByteArray := prog_10_method_19_code
def yX8_holesOf : MethodName := ⟨RX8, "holesOf", "(II)I"⟩
abbrev cX8_lays : ByteArray := prog_10_method_20_code
def yX8_lays : MethodName := ⟨RX8, "lays", "(I)V"⟩
abbrev cX8_define : ByteArray := prog_10_method_21_code
def yX8_define : MethodName := ⟨RX8, "define", "(I)I"⟩
abbrev cX8_remove : ByteArray := prog_10_method_22_code
def yX8_remove : MethodName := ⟨RX8, "remove", "(I)I"⟩
abbrev cX8_exchange : ByteArray := prog_10_method_23_code
def yX8_exchange : MethodName := ⟨RX8, "exchange", "(II)I"⟩
abbrev cX8_set : ByteArray := prog_10_method_24_code
def yX8_set : MethodName := ⟨RX8, "set", "(I)I"⟩
abbrev cX8_writes : ByteArray := prog_10_method_25_code
def yX8_writes : MethodName := ⟨RX8, "writes", "(I)V"⟩
abbrev cX8_notes : ByteArray := prog_10_method_26_code
def yX8_notes : MethodName := ⟨RX8, "notes", "(IIIIII)V"⟩
abbrev cX8_isOpen : ByteArray := prog_10_method_27_code
def yX8_isOpen : MethodName := ⟨RX8, "isOpen", "(I)Z"⟩
abbrev cX8_opens : ByteArray := prog_10_method_28_code
def yX8_opens : MethodName := ⟨RX8, "opens", "(I)V"⟩
abbrev cX8_goesOn : ByteArray := prog_10_method_29_code
def yX8_goesOn : MethodName := ⟨RX8, "goesOn", "(II)V"⟩
abbrev cX8_filling : ByteArray := prog_10_method_30_code
def yX8_filling : MethodName := ⟨RX8, "filling", "()I"⟩
abbrev cX8_reads : ByteArray := prog_10_method_31_code
def yX8_reads : MethodName := ⟨RX8, "reads", "()V"⟩
abbrev cX8_measures : ByteArray := prog_10_method_32_code
def yX8_measures : MethodName := ⟨RX8, "measures", "()Z"⟩
abbrev cX8_begins : ByteArray := prog_10_method_33_code
def yX8_begins : MethodName := ⟨RX8, "begins", "(I)V"⟩
abbrev cX8_puts : ByteArray := prog_10_method_34_code
def yX8_puts : MethodName := ⟨RX8, "puts", "(I)V"⟩
abbrev cX8_enters : ByteArray := prog_10_method_35_code
def yX8_enters : MethodName := ⟨RX8, "enters", "(III)V"⟩
abbrev cX8_skips : ByteArray := prog_10_method_36_code
def yX8_skips : MethodName := ⟨RX8, "skips", "()V"⟩
abbrev cX8_calls : ByteArray := prog_10_method_37_code
def yX8_calls : MethodName := ⟨RX8, "calls", "(I)V"⟩
abbrev cX8_fills : ByteArray := prog_10_method_38_code
def yX8_fills : MethodName := ⟨RX8, "fills", "()V"⟩
abbrev cX8_spells : ByteArray := prog_10_method_39_code
def yX8_spells : MethodName := ⟨RX8, "spells", "()V"⟩
abbrev cX8_expand : ByteArray := prog_10_method_40_code
def yX8_expand : MethodName := ⟨RX8, "expand", "()I"⟩
abbrev cX8_undo : ByteArray := prog_10_method_41_code
def yX8_undo : MethodName := ⟨RX8, "undo", "()I"⟩
abbrev cX8_keep : ByteArray := prog_10_method_42_code
def yX8_keep : MethodName := ⟨RX8, "keep", "(I)I"⟩
abbrev cX8_goBack : ByteArray := prog_10_method_43_code
def yX8_goBack : MethodName := ⟨RX8, "goBack", "(I)I"⟩
abbrev cX8_callsOf : ByteArray := prog_10_method_44_code
def yX8_callsOf : MethodName := ⟨RX8, "callsOf", "(I)I"⟩
abbrev cX8_plainOf : ByteArray := prog_10_method_45_code
def yX8_plainOf : MethodName := ⟨RX8, "plainOf", "(I)I"⟩
abbrev cX8_mostOf : ByteArray := prog_10_method_46_code
def yX8_mostOf : MethodName := ⟨RX8, "mostOf", "(IZ)I"⟩
abbrev cX8_body : ByteArray := prog_10_method_47_code
def yX8_body : MethodName := ⟨RX8, "body", "(II)I"⟩
abbrev cX8_called : ByteArray := prog_10_method_48_code
def yX8_called : MethodName := ⟨RX8, "called", "(I)I"⟩
abbrev cX8_laysSets : ByteArray := prog_10_method_49_code
def yX8_laysSets : MethodName := ⟨RX8, "laysSets", "()V"⟩
abbrev cX8_reached : ByteArray := prog_10_method_50_code
def yX8_reached : MethodName := ⟨RX8, "reached", "(I)I"⟩
abbrev cX8_callers : ByteArray := prog_10_method_51_code
def yX8_callers : MethodName := ⟨RX8, "callers", "(IZ)I"⟩
abbrev cX8_uses : ByteArray := prog_10_method_52_code
def yX8_uses : MethodName := ⟨RX8, "uses", "(II)I"⟩
abbrev cX8_inRings : ByteArray := prog_10_method_53_code
def yX8_inRings : MethodName := ⟨RX8, "inRings", "()I"⟩
abbrev cX8_rings : ByteArray := prog_10_method_54_code
def yX8_rings : MethodName := ⟨RX8, "rings", "()I"⟩
abbrev cX8_all : ByteArray := prog_10_method_55_code
def yX8_all : MethodName := ⟨RX8, "all", "()I"⟩
abbrev cX8_missing : ByteArray := prog_10_method_56_code
def yX8_missing : MethodName := ⟨RX8, "missing", "()I"⟩
abbrev cX8_chain : ByteArray := prog_10_method_57_code
def yX8_chain : MethodName := ⟨RX8, "chain", "(I)I"⟩
abbrev cX8_ifDefined : ByteArray := prog_10_method_58_code
def yX8_ifDefined : MethodName := ⟨RX8, "ifDefined", "(I)I"⟩
abbrev cX8_sign : ByteArray := prog_10_method_59_code
def yX8_sign : MethodName := ⟨RX8, "sign", "(I)I"⟩
abbrev cX8_signsAs : ByteArray := prog_10_method_60_code
def yX8_signsAs : MethodName := ⟨RX8, "signsAs", "(I)I"⟩
abbrev cX8_result : ByteArray := prog_10_method_61_code
def yX8_result : MethodName := ⟨RX8, "result", "(I)I"⟩
abbrev cX8_trace : ByteArray := prog_10_method_62_code
def yX8_trace : MethodName := ⟨RX8, "trace", "(II)I"⟩
abbrev cX8_lengthOf : ByteArray := prog_10_method_63_code
def yX8_lengthOf : MethodName := ⟨RX8, "lengthOf", "(II)I"⟩
abbrev cX8_callsOfAll : ByteArray := prog_10_method_64_code
def yX8_callsOfAll : MethodName := ⟨RX8, "callsOfAll", "()I"⟩
abbrev cX8_count : ByteArray := prog_10_method_65_code
def yX8_count : MethodName := ⟨RX8, "count", "(I)I"⟩
abbrev cX8_meanHoles : ByteArray := prog_10_method_66_code
def yX8_meanHoles : MethodName := ⟨RX8, "meanHoles", "()D"⟩
def RJx145de : String := "java/io/Serializable"
def TJx145de : u_T := fun k => match k with
  | _ => ("", "", "", false)
def tyJx145de : Nat → FieldType := fun k => match k with
  | _ => .int
abbrev wsJx145de0 : List Cond := u_ws RJx145de TJx145de 0
theorem nmJx145de : ∀ a, a < 0 → ∀ b, b < 0 → a ≠ b → (TJx145de a).2.1 ≠ (TJx145de b).2.1 := by decide +kernel
theorem tyJx145de_ok : ∀ k, k < 0 → parseFieldDescriptor (TJx145de k).2.2.1 = some (tyJx145de k) := by decide +kernel
def RJx8e188 : String := "java/lang/Cloneable"
def TJx8e188 : u_T := fun k => match k with
  | _ => ("", "", "", false)
def tyJx8e188 : Nat → FieldType := fun k => match k with
  | _ => .int
abbrev wsJx8e1880 : List Cond := u_ws RJx8e188 TJx8e188 0
theorem nmJx8e188 : ∀ a, a < 0 → ∀ b, b < 0 → a ≠ b → (TJx8e188 a).2.1 ≠ (TJx8e188 b).2.1 := by decide +kernel
theorem tyJx8e188_ok : ∀ k, k < 0 → parseFieldDescriptor (TJx8e188 k).2.2.1 = some (tyJx8e188 k) := by decide +kernel
def RJ6 : String := "java/lang/Integer"
def TJ6 : u_T := fun k => match k with
  | _ => ("", "", "", false)
def tyJ6 : Nat → FieldType := fun k => match k with
  | _ => .int
abbrev wsJ60 : List Cond := u_ws RJ6 TJ6 0
theorem nmJ6 : ∀ a, a < 0 → ∀ b, b < 0 → a ≠ b → (TJ6 a).2.1 ≠ (TJ6 b).2.1 := by decide +kernel
theorem tyJ6_ok : ∀ k, k < 0 → parseFieldDescriptor (TJ6 k).2.2.1 = some (tyJ6 k) := by decide +kernel
abbrev cJ6_bitCount_0f7a4 : ByteArray := prog_16_method_49_code
def yJ6_bitCount_0f7a4 : MethodName := ⟨RJ6, "bitCount", "(I)I"⟩
def RJ9 : String := "java/lang/Math"
def TJ9 : u_T := fun k => match k with
  | _ => ("", "", "", false)
def tyJ9 : Nat → FieldType := fun k => match k with
  | _ => .int
abbrev wsJ90 : List Cond := u_ws RJ9 TJ9 0
theorem nmJ9 : ∀ a, a < 0 → ∀ b, b < 0 → a ≠ b → (TJ9 a).2.1 ≠ (TJ9 b).2.1 := by decide +kernel
theorem tyJ9_ok : ∀ k, k < 0 → parseFieldDescriptor (TJ9 k).2.2.1 = some (tyJ9 k) := by decide +kernel
abbrev cJ9_max_7cf53 : ByteArray := prog_17_method_65_code
def yJ9_max_7cf53 : MethodName := ⟨RJ9, "max", "(II)I"⟩
abbrev cJ9_min_7cf53 : ByteArray := prog_17_method_69_code
def yJ9_min_7cf53 : MethodName := ⟨RJ9, "min", "(II)I"⟩
def RJ0 : String := "java/lang/String"
def TJ0 : u_T := fun k => match k with
  | _ => ("", "", "", false)
def tyJ0 : Nat → FieldType := fun k => match k with
  | _ => .int
abbrev wsJ00 : List Cond := u_ws RJ0 TJ0 0
theorem nmJ0 : ∀ a, a < 0 → ∀ b, b < 0 → a ≠ b → (TJ0 a).2.1 ≠ (TJ0 b).2.1 := by decide +kernel
theorem tyJ0_ok : ∀ k, k < 0 → parseFieldDescriptor (TJ0 k).2.2.1 = some (tyJ0 k) := by decide +kernel
def RJ10 : String := "java/lang/System"
def TJ10 : u_T := fun k => match k with
  | _ => ("", "", "", false)
def tyJ10 : Nat → FieldType := fun k => match k with
  | _ => .int
abbrev wsJ100 : List Cond := u_ws RJ10 TJ10 0
theorem nmJ10 : ∀ a, a < 0 → ∀ b, b < 0 → a ≠ b → (TJ10 a).2.1 ≠ (TJ10 b).2.1 := by decide +kernel
theorem tyJ10_ok : ∀ k, k < 0 → parseFieldDescriptor (TJ10 k).2.2.1 = some (tyJ10 k) := by decide +kernel
def RJ7 : String := "java/util/Arrays"
def TJ7 : u_T := fun k => match k with
  | _ => ("", "", "", false)
def tyJ7 : Nat → FieldType := fun k => match k with
  | _ => .int
abbrev wsJ70 : List Cond := u_ws RJ7 TJ7 0
theorem nmJ7 : ∀ a, a < 0 → ∀ b, b < 0 → a ≠ b → (TJ7 a).2.1 ≠ (TJ7 b).2.1 := by decide +kernel
theorem tyJ7_ok : ∀ k, k < 0 → parseFieldDescriptor (TJ7 k).2.2.1 = some (tyJ7 k) := by decide +kernel
abbrev cJ7_copyOf_59c91 : ByteArray := prog_22_method_123_code
def yJ7_copyOf_59c91 : MethodName := ⟨RJ7, "copyOf", "([II)[I"⟩
def RL : String := "AbbreviationBookLaw"
abbrev cL_define : ByteArray := method_3_code
def yL_define : MethodName := ⟨RL, "define", "(LAbbreviationBook;I[J)I"⟩
abbrev cL_remove : ByteArray := method_4_code
def yL_remove : MethodName := ⟨RL, "remove", "(LAbbreviationBook;I[J)I"⟩
abbrev cL_exchange : ByteArray := method_5_code
def yL_exchange : MethodName := ⟨RL, "exchange", "(LAbbreviationBook;II[J)I"⟩
abbrev cL_set : ByteArray := method_6_code
def yL_set : MethodName := ⟨RL, "set", "(LAbbreviationBook;I[J)I"⟩
abbrev cL_expand : ByteArray := method_7_code
def yL_expand : MethodName := ⟨RL, "expand", "(LAbbreviationBook;[J)I"⟩
abbrev cL_append : ByteArray := method_8_code
def yL_append : MethodName := ⟨RL, "append", "(LAbbreviationBook;I[J)I"⟩
abbrev cL_load : ByteArray := method_9_code
def yL_load : MethodName := ⟨RL, "load", "(LAbbreviationBook;I[J)I"⟩
abbrev cL_undo : ByteArray := method_10_code
def yL_undo : MethodName := ⟨RL, "undo", "(LAbbreviationBook;[J)I"⟩
abbrev cL_keep : ByteArray := method_11_code
def yL_keep : MethodName := ⟨RL, "keep", "(LAbbreviationBook;I[J)I"⟩
abbrev cL_goBack : ByteArray := method_12_code
def yL_goBack : MethodName := ⟨RL, "goBack", "(LAbbreviationBook;I[J)I"⟩
abbrev cL_body : ByteArray := method_13_code
def yL_body : MethodName := ⟨RL, "body", "(LAbbreviationBook;II[J)I"⟩
abbrev cL_uses : ByteArray := method_14_code
def yL_uses : MethodName := ⟨RL, "uses", "(LAbbreviationBook;II[J)I"⟩
abbrev cL_chain : ByteArray := method_15_code
def yL_chain : MethodName := ⟨RL, "chain", "(LAbbreviationBook;I[J)I"⟩
abbrev cL_ifDefined : ByteArray := method_16_code
def yL_ifDefined : MethodName := ⟨RL, "ifDefined", "(LAbbreviationBook;I[J)I"⟩
abbrev cL_sign : ByteArray := method_17_code
def yL_sign : MethodName := ⟨RL, "sign", "(LAbbreviationBook;I[J)I"⟩
abbrev cL_result : ByteArray := method_18_code
def yL_result : MethodName := ⟨RL, "result", "(LAbbreviationBook;I[J)I"⟩
abbrev cL_trace : ByteArray := method_19_code
def yL_trace : MethodName := ⟨RL, "trace", "(LAbbreviationBook;II[J)I"⟩
abbrev cL_lengthOf : ByteArray := method_20_code
def yL_lengthOf : MethodName := ⟨RL, "lengthOf", "(LAbbreviationBook;II[J)I"⟩
abbrev cL_count : ByteArray := method_21_code
def yL_count : MethodName := ⟨RL, "count", "(LAbbreviationBook;I[J)I"⟩
abbrev cL_law : ByteArray := code
def yL_law : MethodName := ⟨RL, "law", "([I)Z"⟩
abbrev vwCl : List vw_C := [(RX0, TX0, 3), (RX1, TX1, 14), (RX2, TX2, 4), (RX3, TX3, 4), (RX4, TX4, 10), (RX5, TX5, 5), (RX6, TX6, 7), (RX7, TX7, 7), (RX8, TX8, 43)]
end
section
theorem dX0_init_0 : decode cX0_init 0 = .ok (.aload_n 0, 1) := by decide +kernel
theorem dX0_init_1 : decode cX0_init 1 = .ok (.invokespecial 3, 3) := by decide +kernel
theorem dX0_init_4 : decode cX0_init 4 = .ok (.aload_n 0, 1) := by decide +kernel
theorem dX0_init_5 : decode cX0_init 5 = .ok (.bipush 26, 2) := by decide +kernel
theorem dX0_init_7 : decode cX0_init 7 = .ok (.newarray .int, 2) := by decide +kernel
theorem dX0_init_9 : decode cX0_init 9 = .ok (.putfield 9, 3) := by decide +kernel
theorem dX0_init_12 : decode cX0_init 12 = .ok (.aload_n 0, 1) := by decide +kernel
theorem dX0_init_13 : decode cX0_init 13 = .ok (.bipush 26, 2) := by decide +kernel
theorem dX0_init_15 : decode cX0_init 15 = .ok (.newarray .int, 2) := by decide +kernel
theorem dX0_init_17 : decode cX0_init 17 = .ok (.putfield 15, 3) := by decide +kernel
theorem dX0_init_20 : decode cX0_init 20 = .ok (.aload_n 0, 1) := by decide +kernel
theorem dX0_init_21 : decode cX0_init 21 = .ok (.iconst 0, 1) := by decide +kernel
theorem dX0_init_22 : decode cX0_init 22 = .ok (.putfield 18, 3) := by decide +kernel
theorem dX0_init_25 : decode cX0_init 25 = .ok (.return_, 1) := by decide +kernel
theorem dX0_takeFrom_0 : decode cX0_takeFrom 0 = .ok (.aload_n 0, 1) := by decide +kernel
theorem dX0_takeFrom_1 : decode cX0_takeFrom 1 = .ok (.aload_n 1, 1) := by decide +kernel
theorem dX0_takeFrom_2 : decode cX0_takeFrom 2 = .ok (.invokevirtual 22, 3) := by decide +kernel
theorem dX0_takeFrom_5 : decode cX0_takeFrom 5 = .ok (.putfield 18, 3) := by decide +kernel
theorem dX0_takeFrom_8 : decode cX0_takeFrom 8 = .ok (.iconst 0, 1) := by decide +kernel
theorem dX0_takeFrom_9 : decode cX0_takeFrom 9 = .ok (.istore_n 2, 1) := by decide +kernel
theorem dX0_takeFrom_10 : decode cX0_takeFrom 10 = .ok (.iload_n 2, 1) := by decide +kernel
theorem dX0_takeFrom_11 : decode cX0_takeFrom 11 = .ok (.bipush 26, 2) := by decide +kernel
theorem dX0_takeFrom_13 : decode cX0_takeFrom 13 = .ok (.if_icmp .ge 33, 3) := by decide +kernel
theorem dX0_takeFrom_16 : decode cX0_takeFrom 16 = .ok (.aload_n 1, 1) := by decide +kernel
theorem dX0_takeFrom_17 : decode cX0_takeFrom 17 = .ok (.iload_n 2, 1) := by decide +kernel
theorem dX0_takeFrom_18 : decode cX0_takeFrom 18 = .ok (.invokevirtual 28, 3) := by decide +kernel
theorem dX0_takeFrom_21 : decode cX0_takeFrom 21 = .ok (.astore_n 3, 1) := by decide +kernel
theorem dX0_takeFrom_22 : decode cX0_takeFrom 22 = .ok (.aload_n 0, 1) := by decide +kernel
theorem dX0_takeFrom_23 : decode cX0_takeFrom 23 = .ok (.getfield 9, 3) := by decide +kernel
theorem dX0_takeFrom_26 : decode cX0_takeFrom 26 = .ok (.iload_n 2, 1) := by decide +kernel
theorem dX0_takeFrom_27 : decode cX0_takeFrom 27 = .ok (.aload_n 3, 1) := by decide +kernel
theorem dX0_takeFrom_28 : decode cX0_takeFrom 28 = .ok (.ifnonnull 7, 3) := by decide +kernel
theorem dX0_takeFrom_31 : decode cX0_takeFrom 31 = .ok (.iconst 0, 1) := by decide +kernel
theorem dX0_takeFrom_32 : decode cX0_takeFrom 32 = .ok (.goto 7, 3) := by decide +kernel
theorem dX0_takeFrom_35 : decode cX0_takeFrom 35 = .ok (.aload_n 3, 1) := by decide +kernel
theorem dX0_takeFrom_36 : decode cX0_takeFrom 36 = .ok (.getfield 32, 3) := by decide +kernel
theorem dX0_takeFrom_39 : decode cX0_takeFrom 39 = .ok (.iastore, 1) := by decide +kernel
theorem dX0_takeFrom_40 : decode cX0_takeFrom 40 = .ok (.iinc 2 1, 3) := by decide +kernel
theorem dX0_takeFrom_43 : decode cX0_takeFrom 43 = .ok (.goto (-33), 3) := by decide +kernel
theorem dX0_takeFrom_46 : decode cX0_takeFrom 46 = .ok (.return_, 1) := by decide +kernel
theorem dX0_tryBody_0 : decode cX0_tryBody 0 = .ok (.iload_n 1, 1) := by decide +kernel
theorem dX0_tryBody_1 : decode cX0_tryBody 1 = .ok (.invokestatic 36, 3) := by decide +kernel
theorem dX0_tryBody_4 : decode cX0_tryBody 4 = .ok (.ifCond .eq 22, 3) := by decide +kernel
theorem dX0_tryBody_7 : decode cX0_tryBody 7 = .ok (.aload_n 0, 1) := by decide +kernel
theorem dX0_tryBody_8 : decode cX0_tryBody 8 = .ok (.getfield 9, 3) := by decide +kernel
theorem dX0_tryBody_11 : decode cX0_tryBody 11 = .ok (.iload_n 1, 1) := by decide +kernel
theorem dX0_tryBody_12 : decode cX0_tryBody 12 = .ok (.iload_n 2, 1) := by decide +kernel
theorem dX0_tryBody_13 : decode cX0_tryBody 13 = .ok (.iastore, 1) := by decide +kernel
theorem dX0_tryBody_14 : decode cX0_tryBody 14 = .ok (.aload_n 0, 1) := by decide +kernel
theorem dX0_tryBody_15 : decode cX0_tryBody 15 = .ok (.dup, 1) := by decide +kernel
theorem dX0_tryBody_16 : decode cX0_tryBody 16 = .ok (.getfield 18, 3) := by decide +kernel
theorem dX0_tryBody_19 : decode cX0_tryBody 19 = .ok (.iconst 1, 1) := by decide +kernel
theorem dX0_tryBody_20 : decode cX0_tryBody 20 = .ok (.iload_n 1, 1) := by decide +kernel
theorem dX0_tryBody_21 : decode cX0_tryBody 21 = .ok (.ishl, 1) := by decide +kernel
theorem dX0_tryBody_22 : decode cX0_tryBody 22 = .ok (.ior, 1) := by decide +kernel
theorem dX0_tryBody_23 : decode cX0_tryBody 23 = .ok (.putfield 18, 3) := by decide +kernel
theorem dX0_tryBody_26 : decode cX0_tryBody 26 = .ok (.return_, 1) := by decide +kernel
theorem dX0_calledBy_0 : decode cX0_calledBy 0 = .ok (.iload_n 1, 1) := by decide +kernel
theorem dX0_calledBy_1 : decode cX0_calledBy 1 = .ok (.invokestatic 36, 3) := by decide +kernel
theorem dX0_calledBy_4 : decode cX0_calledBy 4 = .ok (.ifCond .eq 12, 3) := by decide +kernel
theorem dX0_calledBy_7 : decode cX0_calledBy 7 = .ok (.aload_n 0, 1) := by decide +kernel
theorem dX0_calledBy_8 : decode cX0_calledBy 8 = .ok (.getfield 9, 3) := by decide +kernel
theorem dX0_calledBy_11 : decode cX0_calledBy 11 = .ok (.iload_n 1, 1) := by decide +kernel
theorem dX0_calledBy_12 : decode cX0_calledBy 12 = .ok (.iaload, 1) := by decide +kernel
theorem dX0_calledBy_13 : decode cX0_calledBy 13 = .ok (.goto 4, 3) := by decide +kernel
theorem dX0_calledBy_16 : decode cX0_calledBy 16 = .ok (.iconst 0, 1) := by decide +kernel
theorem dX0_calledBy_17 : decode cX0_calledBy 17 = .ok (.ireturn, 1) := by decide +kernel
theorem dX0_reachedFrom_0 : decode cX0_reachedFrom 0 = .ok (.aload_n 0, 1) := by decide +kernel
theorem dX0_reachedFrom_1 : decode cX0_reachedFrom 1 = .ok (.invokevirtual 40, 3) := by decide +kernel
theorem dX0_reachedFrom_4 : decode cX0_reachedFrom 4 = .ok (.iload_n 1, 1) := by decide +kernel
theorem dX0_reachedFrom_5 : decode cX0_reachedFrom 5 = .ok (.invokestatic 36, 3) := by decide +kernel
theorem dX0_reachedFrom_8 : decode cX0_reachedFrom 8 = .ok (.ifCond .eq 12, 3) := by decide +kernel
theorem dX0_reachedFrom_11 : decode cX0_reachedFrom 11 = .ok (.aload_n 0, 1) := by decide +kernel
theorem dX0_reachedFrom_12 : decode cX0_reachedFrom 12 = .ok (.getfield 15, 3) := by decide +kernel
theorem dX0_reachedFrom_15 : decode cX0_reachedFrom 15 = .ok (.iload_n 1, 1) := by decide +kernel
theorem dX0_reachedFrom_16 : decode cX0_reachedFrom 16 = .ok (.iaload, 1) := by decide +kernel
theorem dX0_reachedFrom_17 : decode cX0_reachedFrom 17 = .ok (.goto 4, 3) := by decide +kernel
theorem dX0_reachedFrom_20 : decode cX0_reachedFrom 20 = .ok (.iconst 0, 1) := by decide +kernel
theorem dX0_reachedFrom_21 : decode cX0_reachedFrom 21 = .ok (.ireturn, 1) := by decide +kernel
theorem dX0_callersOf_0 : decode cX0_callersOf 0 = .ok (.iconst 0, 1) := by decide +kernel
theorem dX0_callersOf_1 : decode cX0_callersOf 1 = .ok (.istore_n 2, 1) := by decide +kernel
theorem dX0_callersOf_2 : decode cX0_callersOf 2 = .ok (.iconst 0, 1) := by decide +kernel
theorem dX0_callersOf_3 : decode cX0_callersOf 3 = .ok (.istore_n 3, 1) := by decide +kernel
theorem dX0_callersOf_4 : decode cX0_callersOf 4 = .ok (.iload_n 3, 1) := by decide +kernel
theorem dX0_callersOf_5 : decode cX0_callersOf 5 = .ok (.bipush 26, 2) := by decide +kernel
theorem dX0_callersOf_7 : decode cX0_callersOf 7 = .ok (.if_icmp .ge 28, 3) := by decide +kernel
theorem dX0_callersOf_10 : decode cX0_callersOf 10 = .ok (.aload_n 0, 1) := by decide +kernel
theorem dX0_callersOf_11 : decode cX0_callersOf 11 = .ok (.getfield 9, 3) := by decide +kernel
theorem dX0_callersOf_14 : decode cX0_callersOf 14 = .ok (.iload_n 3, 1) := by decide +kernel
theorem dX0_callersOf_15 : decode cX0_callersOf 15 = .ok (.iaload, 1) := by decide +kernel
theorem dX0_callersOf_16 : decode cX0_callersOf 16 = .ok (.iload_n 1, 1) := by decide +kernel
theorem dX0_callersOf_17 : decode cX0_callersOf 17 = .ok (.invokestatic 43, 3) := by decide +kernel
theorem dX0_callersOf_20 : decode cX0_callersOf 20 = .ok (.ifCond .eq 9, 3) := by decide +kernel
theorem dX0_callersOf_23 : decode cX0_callersOf 23 = .ok (.iload_n 2, 1) := by decide +kernel
theorem dX0_callersOf_24 : decode cX0_callersOf 24 = .ok (.iconst 1, 1) := by decide +kernel
theorem dX0_callersOf_25 : decode cX0_callersOf 25 = .ok (.iload_n 3, 1) := by decide +kernel
theorem dX0_callersOf_26 : decode cX0_callersOf 26 = .ok (.ishl, 1) := by decide +kernel
theorem dX0_callersOf_27 : decode cX0_callersOf 27 = .ok (.ior, 1) := by decide +kernel
theorem dX0_callersOf_28 : decode cX0_callersOf 28 = .ok (.istore_n 2, 1) := by decide +kernel
theorem dX0_callersOf_29 : decode cX0_callersOf 29 = .ok (.iinc 3 1, 3) := by decide +kernel
theorem dX0_callersOf_32 : decode cX0_callersOf 32 = .ok (.goto (-28), 3) := by decide +kernel
theorem dX0_callersOf_35 : decode cX0_callersOf 35 = .ok (.iload_n 2, 1) := by decide +kernel
theorem dX0_callersOf_36 : decode cX0_callersOf 36 = .ok (.ireturn, 1) := by decide +kernel
theorem dX0_reaching_0 : decode cX0_reaching 0 = .ok (.aload_n 0, 1) := by decide +kernel
theorem dX0_reaching_1 : decode cX0_reaching 1 = .ok (.invokevirtual 40, 3) := by decide +kernel
theorem dX0_reaching_4 : decode cX0_reaching 4 = .ok (.iconst 0, 1) := by decide +kernel
theorem dX0_reaching_5 : decode cX0_reaching 5 = .ok (.istore_n 2, 1) := by decide +kernel
theorem dX0_reaching_6 : decode cX0_reaching 6 = .ok (.iconst 0, 1) := by decide +kernel
theorem dX0_reaching_7 : decode cX0_reaching 7 = .ok (.istore_n 3, 1) := by decide +kernel
theorem dX0_reaching_8 : decode cX0_reaching 8 = .ok (.iload_n 3, 1) := by decide +kernel
theorem dX0_reaching_9 : decode cX0_reaching 9 = .ok (.bipush 26, 2) := by decide +kernel
theorem dX0_reaching_11 : decode cX0_reaching 11 = .ok (.if_icmp .ge 28, 3) := by decide +kernel
theorem dX0_reaching_14 : decode cX0_reaching 14 = .ok (.aload_n 0, 1) := by decide +kernel
theorem dX0_reaching_15 : decode cX0_reaching 15 = .ok (.getfield 15, 3) := by decide +kernel
theorem dX0_reaching_18 : decode cX0_reaching 18 = .ok (.iload_n 3, 1) := by decide +kernel
theorem dX0_reaching_19 : decode cX0_reaching 19 = .ok (.iaload, 1) := by decide +kernel
theorem dX0_reaching_20 : decode cX0_reaching 20 = .ok (.iload_n 1, 1) := by decide +kernel
theorem dX0_reaching_21 : decode cX0_reaching 21 = .ok (.invokestatic 43, 3) := by decide +kernel
theorem dX0_reaching_24 : decode cX0_reaching 24 = .ok (.ifCond .eq 9, 3) := by decide +kernel
theorem dX0_reaching_27 : decode cX0_reaching 27 = .ok (.iload_n 2, 1) := by decide +kernel
theorem dX0_reaching_28 : decode cX0_reaching 28 = .ok (.iconst 1, 1) := by decide +kernel
theorem dX0_reaching_29 : decode cX0_reaching 29 = .ok (.iload_n 3, 1) := by decide +kernel
theorem dX0_reaching_30 : decode cX0_reaching 30 = .ok (.ishl, 1) := by decide +kernel
theorem dX0_reaching_31 : decode cX0_reaching 31 = .ok (.ior, 1) := by decide +kernel
theorem dX0_reaching_32 : decode cX0_reaching 32 = .ok (.istore_n 2, 1) := by decide +kernel
theorem dX0_reaching_33 : decode cX0_reaching 33 = .ok (.iinc 3 1, 3) := by decide +kernel
theorem dX0_reaching_36 : decode cX0_reaching 36 = .ok (.goto (-28), 3) := by decide +kernel
theorem dX0_reaching_39 : decode cX0_reaching 39 = .ok (.iload_n 2, 1) := by decide +kernel
theorem dX0_reaching_40 : decode cX0_reaching 40 = .ok (.ireturn, 1) := by decide +kernel
theorem dX0_inRings_0 : decode cX0_inRings 0 = .ok (.aload_n 0, 1) := by decide +kernel
theorem dX0_inRings_1 : decode cX0_inRings 1 = .ok (.invokevirtual 40, 3) := by decide +kernel
theorem dX0_inRings_4 : decode cX0_inRings 4 = .ok (.iconst 0, 1) := by decide +kernel
theorem dX0_inRings_5 : decode cX0_inRings 5 = .ok (.istore_n 1, 1) := by decide +kernel
theorem dX0_inRings_6 : decode cX0_inRings 6 = .ok (.iconst 0, 1) := by decide +kernel
theorem dX0_inRings_7 : decode cX0_inRings 7 = .ok (.istore_n 2, 1) := by decide +kernel
theorem dX0_inRings_8 : decode cX0_inRings 8 = .ok (.iload_n 2, 1) := by decide +kernel
theorem dX0_inRings_9 : decode cX0_inRings 9 = .ok (.bipush 26, 2) := by decide +kernel
theorem dX0_inRings_11 : decode cX0_inRings 11 = .ok (.if_icmp .ge 28, 3) := by decide +kernel
theorem dX0_inRings_14 : decode cX0_inRings 14 = .ok (.aload_n 0, 1) := by decide +kernel
theorem dX0_inRings_15 : decode cX0_inRings 15 = .ok (.getfield 15, 3) := by decide +kernel
theorem dX0_inRings_18 : decode cX0_inRings 18 = .ok (.iload_n 2, 1) := by decide +kernel
theorem dX0_inRings_19 : decode cX0_inRings 19 = .ok (.iaload, 1) := by decide +kernel
theorem dX0_inRings_20 : decode cX0_inRings 20 = .ok (.iload_n 2, 1) := by decide +kernel
theorem dX0_inRings_21 : decode cX0_inRings 21 = .ok (.invokestatic 43, 3) := by decide +kernel
theorem dX0_inRings_24 : decode cX0_inRings 24 = .ok (.ifCond .eq 9, 3) := by decide +kernel
theorem dX0_inRings_27 : decode cX0_inRings 27 = .ok (.iload_n 1, 1) := by decide +kernel
theorem dX0_inRings_28 : decode cX0_inRings 28 = .ok (.iconst 1, 1) := by decide +kernel
theorem dX0_inRings_29 : decode cX0_inRings 29 = .ok (.iload_n 2, 1) := by decide +kernel
theorem dX0_inRings_30 : decode cX0_inRings 30 = .ok (.ishl, 1) := by decide +kernel
theorem dX0_inRings_31 : decode cX0_inRings 31 = .ok (.ior, 1) := by decide +kernel
theorem dX0_inRings_32 : decode cX0_inRings 32 = .ok (.istore_n 1, 1) := by decide +kernel
theorem dX0_inRings_33 : decode cX0_inRings 33 = .ok (.iinc 2 1, 3) := by decide +kernel
theorem dX0_inRings_36 : decode cX0_inRings 36 = .ok (.goto (-28), 3) := by decide +kernel
theorem dX0_inRings_39 : decode cX0_inRings 39 = .ok (.iload_n 1, 1) := by decide +kernel
theorem dX0_inRings_40 : decode cX0_inRings 40 = .ok (.ireturn, 1) := by decide +kernel
theorem dX0_calledButNotDefined_0 : decode cX0_calledButNotDefined 0 = .ok (.aload_n 0, 1) := by decide +kernel
theorem dX0_calledButNotDefined_1 : decode cX0_calledButNotDefined 1 = .ok (.aload_n 0, 1) := by decide +kernel
theorem dX0_calledButNotDefined_2 : decode cX0_calledButNotDefined 2 = .ok (.getfield 18, 3) := by decide +kernel
theorem dX0_calledButNotDefined_5 : decode cX0_calledButNotDefined 5 = .ok (.invokevirtual 47, 3) := by decide +kernel
theorem dX0_calledButNotDefined_8 : decode cX0_calledButNotDefined 8 = .ok (.aload_n 0, 1) := by decide +kernel
theorem dX0_calledButNotDefined_9 : decode cX0_calledButNotDefined 9 = .ok (.getfield 18, 3) := by decide +kernel
theorem dX0_calledButNotDefined_12 : decode cX0_calledButNotDefined 12 = .ok (.iconst (-1), 1) := by decide +kernel
theorem dX0_calledButNotDefined_13 : decode cX0_calledButNotDefined 13 = .ok (.ixor, 1) := by decide +kernel
theorem dX0_calledButNotDefined_14 : decode cX0_calledButNotDefined 14 = .ok (.iand, 1) := by decide +kernel
theorem dX0_calledButNotDefined_15 : decode cX0_calledButNotDefined 15 = .ok (.ireturn, 1) := by decide +kernel
theorem dX0_longestChain_0 : decode cX0_longestChain 0 = .ok (.iload_n 1, 1) := by decide +kernel
theorem dX0_longestChain_1 : decode cX0_longestChain 1 = .ok (.invokestatic 36, 3) := by decide +kernel
theorem dX0_longestChain_4 : decode cX0_longestChain 4 = .ok (.ifCond .eq 14, 3) := by decide +kernel
theorem dX0_longestChain_7 : decode cX0_longestChain 7 = .ok (.aload_n 0, 1) := by decide +kernel
theorem dX0_longestChain_8 : decode cX0_longestChain 8 = .ok (.getfield 18, 3) := by decide +kernel
theorem dX0_longestChain_11 : decode cX0_longestChain 11 = .ok (.iconst 1, 1) := by decide +kernel
theorem dX0_longestChain_12 : decode cX0_longestChain 12 = .ok (.iload_n 1, 1) := by decide +kernel
theorem dX0_longestChain_13 : decode cX0_longestChain 13 = .ok (.ishl, 1) := by decide +kernel
theorem dX0_longestChain_14 : decode cX0_longestChain 14 = .ok (.iand, 1) := by decide +kernel
theorem dX0_longestChain_15 : decode cX0_longestChain 15 = .ok (.goto 4, 3) := by decide +kernel
theorem dX0_longestChain_18 : decode cX0_longestChain 18 = .ok (.iconst 0, 1) := by decide +kernel
theorem dX0_longestChain_19 : decode cX0_longestChain 19 = .ok (.istore_n 2, 1) := by decide +kernel
theorem dX0_longestChain_20 : decode cX0_longestChain 20 = .ok (.iconst 0, 1) := by decide +kernel
theorem dX0_longestChain_21 : decode cX0_longestChain 21 = .ok (.istore_n 3, 1) := by decide +kernel
theorem dX0_longestChain_22 : decode cX0_longestChain 22 = .ok (.iload_n 3, 1) := by decide +kernel
theorem dX0_longestChain_23 : decode cX0_longestChain 23 = .ok (.bipush 26, 2) := by decide +kernel
theorem dX0_longestChain_25 : decode cX0_longestChain 25 = .ok (.if_icmp .gt 26, 3) := by decide +kernel
theorem dX0_longestChain_28 : decode cX0_longestChain 28 = .ok (.iload_n 2, 1) := by decide +kernel
theorem dX0_longestChain_29 : decode cX0_longestChain 29 = .ok (.ifCond .ne 5, 3) := by decide +kernel
theorem dX0_longestChain_32 : decode cX0_longestChain 32 = .ok (.iload_n 3, 1) := by decide +kernel
theorem dX0_longestChain_33 : decode cX0_longestChain 33 = .ok (.ireturn, 1) := by decide +kernel
theorem dX0_longestChain_34 : decode cX0_longestChain 34 = .ok (.aload_n 0, 1) := by decide +kernel
theorem dX0_longestChain_35 : decode cX0_longestChain 35 = .ok (.iload_n 2, 1) := by decide +kernel
theorem dX0_longestChain_36 : decode cX0_longestChain 36 = .ok (.invokevirtual 47, 3) := by decide +kernel
theorem dX0_longestChain_39 : decode cX0_longestChain 39 = .ok (.aload_n 0, 1) := by decide +kernel
theorem dX0_longestChain_40 : decode cX0_longestChain 40 = .ok (.getfield 18, 3) := by decide +kernel
theorem dX0_longestChain_43 : decode cX0_longestChain 43 = .ok (.iand, 1) := by decide +kernel
theorem dX0_longestChain_44 : decode cX0_longestChain 44 = .ok (.istore_n 2, 1) := by decide +kernel
theorem dX0_longestChain_45 : decode cX0_longestChain 45 = .ok (.iinc 3 1, 3) := by decide +kernel
theorem dX0_longestChain_48 : decode cX0_longestChain 48 = .ok (.goto (-26), 3) := by decide +kernel
theorem dX0_longestChain_51 : decode cX0_longestChain 51 = .ok (.iconst (-1), 1) := by decide +kernel
theorem dX0_longestChain_52 : decode cX0_longestChain 52 = .ok (.ireturn, 1) := by decide +kernel
theorem dX0_followCalls_0 : decode cX0_followCalls 0 = .ok (.iconst 0, 1) := by decide +kernel
theorem dX0_followCalls_1 : decode cX0_followCalls 1 = .ok (.istore_n 1, 1) := by decide +kernel
theorem dX0_followCalls_2 : decode cX0_followCalls 2 = .ok (.iload_n 1, 1) := by decide +kernel
theorem dX0_followCalls_3 : decode cX0_followCalls 3 = .ok (.bipush 26, 2) := by decide +kernel
theorem dX0_followCalls_5 : decode cX0_followCalls 5 = .ok (.if_icmp .ge 21, 3) := by decide +kernel
theorem dX0_followCalls_8 : decode cX0_followCalls 8 = .ok (.aload_n 0, 1) := by decide +kernel
theorem dX0_followCalls_9 : decode cX0_followCalls 9 = .ok (.getfield 15, 3) := by decide +kernel
theorem dX0_followCalls_12 : decode cX0_followCalls 12 = .ok (.iload_n 1, 1) := by decide +kernel
theorem dX0_followCalls_13 : decode cX0_followCalls 13 = .ok (.aload_n 0, 1) := by decide +kernel
theorem dX0_followCalls_14 : decode cX0_followCalls 14 = .ok (.getfield 9, 3) := by decide +kernel
theorem dX0_followCalls_17 : decode cX0_followCalls 17 = .ok (.iload_n 1, 1) := by decide +kernel
theorem dX0_followCalls_18 : decode cX0_followCalls 18 = .ok (.iaload, 1) := by decide +kernel
theorem dX0_followCalls_19 : decode cX0_followCalls 19 = .ok (.iastore, 1) := by decide +kernel
theorem dX0_followCalls_20 : decode cX0_followCalls 20 = .ok (.iinc 1 1, 3) := by decide +kernel
theorem dX0_followCalls_23 : decode cX0_followCalls 23 = .ok (.goto (-21), 3) := by decide +kernel
theorem dX0_followCalls_26 : decode cX0_followCalls 26 = .ok (.iconst 0, 1) := by decide +kernel
theorem dX0_followCalls_27 : decode cX0_followCalls 27 = .ok (.istore_n 1, 1) := by decide +kernel
theorem dX0_followCalls_28 : decode cX0_followCalls 28 = .ok (.iload_n 1, 1) := by decide +kernel
theorem dX0_followCalls_29 : decode cX0_followCalls 29 = .ok (.bipush 26, 2) := by decide +kernel
theorem dX0_followCalls_31 : decode cX0_followCalls 31 = .ok (.if_icmp .ge 51, 3) := by decide +kernel
theorem dX0_followCalls_34 : decode cX0_followCalls 34 = .ok (.iconst 0, 1) := by decide +kernel
theorem dX0_followCalls_35 : decode cX0_followCalls 35 = .ok (.istore_n 2, 1) := by decide +kernel
theorem dX0_followCalls_36 : decode cX0_followCalls 36 = .ok (.iload_n 2, 1) := by decide +kernel
theorem dX0_followCalls_37 : decode cX0_followCalls 37 = .ok (.bipush 26, 2) := by decide +kernel
theorem dX0_followCalls_39 : decode cX0_followCalls 39 = .ok (.if_icmp .ge 37, 3) := by decide +kernel
theorem dX0_followCalls_42 : decode cX0_followCalls 42 = .ok (.aload_n 0, 1) := by decide +kernel
theorem dX0_followCalls_43 : decode cX0_followCalls 43 = .ok (.getfield 15, 3) := by decide +kernel
theorem dX0_followCalls_46 : decode cX0_followCalls 46 = .ok (.iload_n 2, 1) := by decide +kernel
theorem dX0_followCalls_47 : decode cX0_followCalls 47 = .ok (.iaload, 1) := by decide +kernel
theorem dX0_followCalls_48 : decode cX0_followCalls 48 = .ok (.iload_n 1, 1) := by decide +kernel
theorem dX0_followCalls_49 : decode cX0_followCalls 49 = .ok (.invokestatic 43, 3) := by decide +kernel
theorem dX0_followCalls_52 : decode cX0_followCalls 52 = .ok (.ifCond .eq 18, 3) := by decide +kernel
theorem dX0_followCalls_55 : decode cX0_followCalls 55 = .ok (.aload_n 0, 1) := by decide +kernel
theorem dX0_followCalls_56 : decode cX0_followCalls 56 = .ok (.getfield 15, 3) := by decide +kernel
theorem dX0_followCalls_59 : decode cX0_followCalls 59 = .ok (.iload_n 2, 1) := by decide +kernel
theorem dX0_followCalls_60 : decode cX0_followCalls 60 = .ok (.dup2, 1) := by decide +kernel
theorem dX0_followCalls_61 : decode cX0_followCalls 61 = .ok (.iaload, 1) := by decide +kernel
theorem dX0_followCalls_62 : decode cX0_followCalls 62 = .ok (.aload_n 0, 1) := by decide +kernel
theorem dX0_followCalls_63 : decode cX0_followCalls 63 = .ok (.getfield 15, 3) := by decide +kernel
theorem dX0_followCalls_66 : decode cX0_followCalls 66 = .ok (.iload_n 1, 1) := by decide +kernel
theorem dX0_followCalls_67 : decode cX0_followCalls 67 = .ok (.iaload, 1) := by decide +kernel
theorem dX0_followCalls_68 : decode cX0_followCalls 68 = .ok (.ior, 1) := by decide +kernel
theorem dX0_followCalls_69 : decode cX0_followCalls 69 = .ok (.iastore, 1) := by decide +kernel
theorem dX0_followCalls_70 : decode cX0_followCalls 70 = .ok (.iinc 2 1, 3) := by decide +kernel
theorem dX0_followCalls_73 : decode cX0_followCalls 73 = .ok (.goto (-37), 3) := by decide +kernel
theorem dX0_followCalls_76 : decode cX0_followCalls 76 = .ok (.iinc 1 1, 3) := by decide +kernel
theorem dX0_followCalls_79 : decode cX0_followCalls 79 = .ok (.goto (-51), 3) := by decide +kernel
theorem dX0_followCalls_82 : decode cX0_followCalls 82 = .ok (.return_, 1) := by decide +kernel
theorem dX0_calledInBodiesOf_0 : decode cX0_calledInBodiesOf 0 = .ok (.iconst 0, 1) := by decide +kernel
theorem dX0_calledInBodiesOf_1 : decode cX0_calledInBodiesOf 1 = .ok (.istore_n 2, 1) := by decide +kernel
theorem dX0_calledInBodiesOf_2 : decode cX0_calledInBodiesOf 2 = .ok (.iconst 0, 1) := by decide +kernel
theorem dX0_calledInBodiesOf_3 : decode cX0_calledInBodiesOf 3 = .ok (.istore_n 3, 1) := by decide +kernel
theorem dX0_calledInBodiesOf_4 : decode cX0_calledInBodiesOf 4 = .ok (.iload_n 3, 1) := by decide +kernel
theorem dX0_calledInBodiesOf_5 : decode cX0_calledInBodiesOf 5 = .ok (.bipush 26, 2) := by decide +kernel
theorem dX0_calledInBodiesOf_7 : decode cX0_calledInBodiesOf 7 = .ok (.if_icmp .ge 26, 3) := by decide +kernel
theorem dX0_calledInBodiesOf_10 : decode cX0_calledInBodiesOf 10 = .ok (.iload_n 1, 1) := by decide +kernel
theorem dX0_calledInBodiesOf_11 : decode cX0_calledInBodiesOf 11 = .ok (.iload_n 3, 1) := by decide +kernel
theorem dX0_calledInBodiesOf_12 : decode cX0_calledInBodiesOf 12 = .ok (.invokestatic 43, 3) := by decide +kernel
theorem dX0_calledInBodiesOf_15 : decode cX0_calledInBodiesOf 15 = .ok (.ifCond .eq 12, 3) := by decide +kernel
theorem dX0_calledInBodiesOf_18 : decode cX0_calledInBodiesOf 18 = .ok (.iload_n 2, 1) := by decide +kernel
theorem dX0_calledInBodiesOf_19 : decode cX0_calledInBodiesOf 19 = .ok (.aload_n 0, 1) := by decide +kernel
theorem dX0_calledInBodiesOf_20 : decode cX0_calledInBodiesOf 20 = .ok (.getfield 9, 3) := by decide +kernel
theorem dX0_calledInBodiesOf_23 : decode cX0_calledInBodiesOf 23 = .ok (.iload_n 3, 1) := by decide +kernel
theorem dX0_calledInBodiesOf_24 : decode cX0_calledInBodiesOf 24 = .ok (.iaload, 1) := by decide +kernel
theorem dX0_calledInBodiesOf_25 : decode cX0_calledInBodiesOf 25 = .ok (.ior, 1) := by decide +kernel
theorem dX0_calledInBodiesOf_26 : decode cX0_calledInBodiesOf 26 = .ok (.istore_n 2, 1) := by decide +kernel
theorem dX0_calledInBodiesOf_27 : decode cX0_calledInBodiesOf 27 = .ok (.iinc 3 1, 3) := by decide +kernel
theorem dX0_calledInBodiesOf_30 : decode cX0_calledInBodiesOf 30 = .ok (.goto (-26), 3) := by decide +kernel
theorem dX0_calledInBodiesOf_33 : decode cX0_calledInBodiesOf 33 = .ok (.iload_n 2, 1) := by decide +kernel
theorem dX0_calledInBodiesOf_34 : decode cX0_calledInBodiesOf 34 = .ok (.ireturn, 1) := by decide +kernel
theorem dX0_holds_0 : decode cX0_holds 0 = .ok (.iload_n 1, 1) := by decide +kernel
theorem dX0_holds_1 : decode cX0_holds 1 = .ok (.invokestatic 36, 3) := by decide +kernel
theorem dX0_holds_4 : decode cX0_holds 4 = .ok (.ifCond .eq 15, 3) := by decide +kernel
theorem dX0_holds_7 : decode cX0_holds 7 = .ok (.iload_n 0, 1) := by decide +kernel
theorem dX0_holds_8 : decode cX0_holds 8 = .ok (.iconst 1, 1) := by decide +kernel
theorem dX0_holds_9 : decode cX0_holds 9 = .ok (.iload_n 1, 1) := by decide +kernel
theorem dX0_holds_10 : decode cX0_holds 10 = .ok (.ishl, 1) := by decide +kernel
theorem dX0_holds_11 : decode cX0_holds 11 = .ok (.iand, 1) := by decide +kernel
theorem dX0_holds_12 : decode cX0_holds 12 = .ok (.ifCond .eq 7, 3) := by decide +kernel
theorem dX0_holds_15 : decode cX0_holds 15 = .ok (.iconst 1, 1) := by decide +kernel
theorem dX0_holds_16 : decode cX0_holds 16 = .ok (.goto 4, 3) := by decide +kernel
theorem dX0_holds_19 : decode cX0_holds 19 = .ok (.iconst 0, 1) := by decide +kernel
theorem dX0_holds_20 : decode cX0_holds 20 = .ok (.ireturn, 1) := by decide +kernel
theorem dX1_init_0 : decode cX1_init 0 = .ok (.aload_n 0, 1) := by decide +kernel
theorem dX1_init_1 : decode cX1_init 1 = .ok (.invokespecial 5, 3) := by decide +kernel
theorem dX1_init_4 : decode cX1_init 4 = .ok (.aload_n 0, 1) := by decide +kernel
theorem dX1_init_5 : decode cX1_init 5 = .ok (.sipush 28380, 3) := by decide +kernel
theorem dX1_init_8 : decode cX1_init 8 = .ok (.newarray .int, 2) := by decide +kernel
theorem dX1_init_10 : decode cX1_init 10 = .ok (.putfield 11, 3) := by decide +kernel
theorem dX1_init_13 : decode cX1_init 13 = .ok (.aload_n 0, 1) := by decide +kernel
theorem dX1_init_14 : decode cX1_init 14 = .ok (.sipush 854, 3) := by decide +kernel
theorem dX1_init_17 : decode cX1_init 17 = .ok (.newarray .int, 2) := by decide +kernel
theorem dX1_init_19 : decode cX1_init 19 = .ok (.putfield 15, 3) := by decide +kernel
theorem dX1_init_22 : decode cX1_init 22 = .ok (.aload_n 0, 1) := by decide +kernel
theorem dX1_init_23 : decode cX1_init 23 = .ok (.sipush 780, 3) := by decide +kernel
theorem dX1_init_26 : decode cX1_init 26 = .ok (.newarray .int, 2) := by decide +kernel
theorem dX1_init_28 : decode cX1_init 28 = .ok (.putfield 18, 3) := by decide +kernel
theorem dX1_init_31 : decode cX1_init 31 = .ok (.aload_n 0, 1) := by decide +kernel
theorem dX1_init_32 : decode cX1_init 32 = .ok (.sipush 780, 3) := by decide +kernel
theorem dX1_init_35 : decode cX1_init 35 = .ok (.newarray .int, 2) := by decide +kernel
theorem dX1_init_37 : decode cX1_init 37 = .ok (.putfield 21, 3) := by decide +kernel
theorem dX1_init_40 : decode cX1_init 40 = .ok (.aload_n 0, 1) := by decide +kernel
theorem dX1_init_41 : decode cX1_init 41 = .ok (.sipush 360, 3) := by decide +kernel
theorem dX1_init_44 : decode cX1_init 44 = .ok (.newarray .int, 2) := by decide +kernel
theorem dX1_init_46 : decode cX1_init 46 = .ok (.putfield 24, 3) := by decide +kernel
theorem dX1_init_49 : decode cX1_init 49 = .ok (.aload_n 0, 1) := by decide +kernel
theorem dX1_init_50 : decode cX1_init 50 = .ok (.iconst 0, 1) := by decide +kernel
theorem dX1_init_51 : decode cX1_init 51 = .ok (.putfield 27, 3) := by decide +kernel
theorem dX1_init_54 : decode cX1_init 54 = .ok (.aload_n 0, 1) := by decide +kernel
theorem dX1_init_55 : decode cX1_init 55 = .ok (.iconst 0, 1) := by decide +kernel
theorem dX1_init_56 : decode cX1_init 56 = .ok (.putfield 31, 3) := by decide +kernel
theorem dX1_init_59 : decode cX1_init 59 = .ok (.aload_n 0, 1) := by decide +kernel
theorem dX1_init_60 : decode cX1_init 60 = .ok (.iconst 0, 1) := by decide +kernel
theorem dX1_init_61 : decode cX1_init 61 = .ok (.putfield 34, 3) := by decide +kernel
theorem dX1_init_64 : decode cX1_init 64 = .ok (.aload_n 0, 1) := by decide +kernel
theorem dX1_init_65 : decode cX1_init 65 = .ok (.iconst 0, 1) := by decide +kernel
theorem dX1_init_66 : decode cX1_init 66 = .ok (.putfield 37, 3) := by decide +kernel
theorem dX1_init_69 : decode cX1_init 69 = .ok (.aload_n 0, 1) := by decide +kernel
theorem dX1_init_70 : decode cX1_init 70 = .ok (.iconst 0, 1) := by decide +kernel
theorem dX1_init_71 : decode cX1_init 71 = .ok (.putfield 40, 3) := by decide +kernel
theorem dX1_init_74 : decode cX1_init 74 = .ok (.aload_n 0, 1) := by decide +kernel
theorem dX1_init_75 : decode cX1_init 75 = .ok (.iconst 0, 1) := by decide +kernel
theorem dX1_init_76 : decode cX1_init 76 = .ok (.putfield 43, 3) := by decide +kernel
theorem dX1_init_79 : decode cX1_init 79 = .ok (.aload_n 0, 1) := by decide +kernel
theorem dX1_init_80 : decode cX1_init 80 = .ok (.iconst 0, 1) := by decide +kernel
theorem dX1_init_81 : decode cX1_init 81 = .ok (.putfield 46, 3) := by decide +kernel
theorem dX1_init_84 : decode cX1_init 84 = .ok (.aload_n 0, 1) := by decide +kernel
theorem dX1_init_85 : decode cX1_init 85 = .ok (.iconst 0, 1) := by decide +kernel
theorem dX1_init_86 : decode cX1_init 86 = .ok (.putfield 49, 3) := by decide +kernel
theorem dX1_init_89 : decode cX1_init 89 = .ok (.aload_n 0, 1) := by decide +kernel
theorem dX1_init_90 : decode cX1_init 90 = .ok (.iconst 0, 1) := by decide +kernel
theorem dX1_init_91 : decode cX1_init 91 = .ok (.putfield 53, 3) := by decide +kernel
theorem dX1_init_94 : decode cX1_init 94 = .ok (.return_, 1) := by decide +kernel
theorem dX1_writeResult_0 : decode cX1_writeResult 0 = .ok (.aload_n 0, 1) := by decide +kernel
theorem dX1_writeResult_1 : decode cX1_writeResult 1 = .ok (.iconst 1, 1) := by decide +kernel
theorem dX1_writeResult_2 : decode cX1_writeResult 2 = .ok (.invokevirtual 56, 3) := by decide +kernel
theorem dX1_writeResult_5 : decode cX1_writeResult 5 = .ok (.aload_n 0, 1) := by decide +kernel
theorem dX1_writeResult_6 : decode cX1_writeResult 6 = .ok (.invokevirtual 60, 3) := by decide +kernel
theorem dX1_writeResult_9 : decode cX1_writeResult 9 = .ok (.aload_n 0, 1) := by decide +kernel
theorem dX1_writeResult_10 : decode cX1_writeResult 10 = .ok (.aload_n 1, 1) := by decide +kernel
theorem dX1_writeResult_11 : decode cX1_writeResult 11 = .ok (.aload_n 2, 1) := by decide +kernel
theorem dX1_writeResult_12 : decode cX1_writeResult 12 = .ok (.iload_n 3, 1) := by decide +kernel
theorem dX1_writeResult_13 : decode cX1_writeResult 13 = .ok (.iconst 0, 1) := by decide +kernel
theorem dX1_writeResult_14 : decode cX1_writeResult 14 = .ok (.iconst 0, 1) := by decide +kernel
theorem dX1_writeResult_15 : decode cX1_writeResult 15 = .ok (.iconst 0, 1) := by decide +kernel
theorem dX1_writeResult_16 : decode cX1_writeResult 16 = .ok (.invokevirtual 63, 3) := by decide +kernel
theorem dX1_writeResult_19 : decode cX1_writeResult 19 = .ok (.aload_n 0, 1) := by decide +kernel
theorem dX1_writeResult_20 : decode cX1_writeResult 20 = .ok (.getfield 53, 3) := by decide +kernel
theorem dX1_writeResult_23 : decode cX1_writeResult 23 = .ok (.ifCond .ne 7, 3) := by decide +kernel
theorem dX1_writeResult_26 : decode cX1_writeResult 26 = .ok (.iconst 1, 1) := by decide +kernel
theorem dX1_writeResult_27 : decode cX1_writeResult 27 = .ok (.goto 4, 3) := by decide +kernel
theorem dX1_writeResult_30 : decode cX1_writeResult 30 = .ok (.iconst 0, 1) := by decide +kernel
theorem dX1_writeResult_31 : decode cX1_writeResult 31 = .ok (.ireturn, 1) := by decide +kernel
theorem dX1_makeOutcome_0 : decode cX1_makeOutcome 0 = .ok (.iconst 0, 1) := by decide +kernel
theorem dX1_makeOutcome_1 : decode cX1_makeOutcome 1 = .ok (.aload_n 0, 1) := by decide +kernel
theorem dX1_makeOutcome_2 : decode cX1_makeOutcome 2 = .ok (.getfield 27, 3) := by decide +kernel
theorem dX1_makeOutcome_5 : decode cX1_makeOutcome 5 = .ok (.sipush 200, 3) := by decide +kernel
theorem dX1_makeOutcome_8 : decode cX1_makeOutcome 8 = .ok (.invokestatic 67, 3) := by decide +kernel
theorem dX1_makeOutcome_11 : decode cX1_makeOutcome 11 = .ok (.invokestatic 73, 3) := by decide +kernel
theorem dX1_makeOutcome_14 : decode cX1_makeOutcome 14 = .ok (.istore_n 1, 1) := by decide +kernel
theorem dX1_makeOutcome_15 : decode cX1_makeOutcome 15 = .ok (.iconst 0, 1) := by decide +kernel
theorem dX1_makeOutcome_16 : decode cX1_makeOutcome 16 = .ok (.aload_n 0, 1) := by decide +kernel
theorem dX1_makeOutcome_17 : decode cX1_makeOutcome 17 = .ok (.getfield 37, 3) := by decide +kernel
theorem dX1_makeOutcome_20 : decode cX1_makeOutcome 20 = .ok (.bipush 60, 2) := by decide +kernel
theorem dX1_makeOutcome_22 : decode cX1_makeOutcome 22 = .ok (.invokestatic 67, 3) := by decide +kernel
theorem dX1_makeOutcome_25 : decode cX1_makeOutcome 25 = .ok (.invokestatic 73, 3) := by decide +kernel
theorem dX1_makeOutcome_28 : decode cX1_makeOutcome 28 = .ok (.bipush 6, 2) := by decide +kernel
theorem dX1_makeOutcome_30 : decode cX1_makeOutcome 30 = .ok (.imul, 1) := by decide +kernel
theorem dX1_makeOutcome_31 : decode cX1_makeOutcome 31 = .ok (.istore_n 2, 1) := by decide +kernel
theorem dX1_makeOutcome_32 : decode cX1_makeOutcome 32 = .ok (.new 76, 3) := by decide +kernel
theorem dX1_makeOutcome_35 : decode cX1_makeOutcome 35 = .ok (.dup, 1) := by decide +kernel
theorem dX1_makeOutcome_36 : decode cX1_makeOutcome 36 = .ok (.aload_n 0, 1) := by decide +kernel
theorem dX1_makeOutcome_37 : decode cX1_makeOutcome 37 = .ok (.getfield 11, 3) := by decide +kernel
theorem dX1_makeOutcome_40 : decode cX1_makeOutcome 40 = .ok (.iload_n 1, 1) := by decide +kernel
theorem dX1_makeOutcome_41 : decode cX1_makeOutcome 41 = .ok (.invokestatic 78, 3) := by decide +kernel
theorem dX1_makeOutcome_44 : decode cX1_makeOutcome 44 = .ok (.aload_n 0, 1) := by decide +kernel
theorem dX1_makeOutcome_45 : decode cX1_makeOutcome 45 = .ok (.getfield 24, 3) := by decide +kernel
theorem dX1_makeOutcome_48 : decode cX1_makeOutcome 48 = .ok (.iload_n 2, 1) := by decide +kernel
theorem dX1_makeOutcome_49 : decode cX1_makeOutcome 49 = .ok (.invokestatic 78, 3) := by decide +kernel
theorem dX1_makeOutcome_52 : decode cX1_makeOutcome 52 = .ok (.aload_n 0, 1) := by decide +kernel
theorem dX1_makeOutcome_53 : decode cX1_makeOutcome 53 = .ok (.getfield 40, 3) := by decide +kernel
theorem dX1_makeOutcome_56 : decode cX1_makeOutcome 56 = .ok (.aload_n 0, 1) := by decide +kernel
theorem dX1_makeOutcome_57 : decode cX1_makeOutcome 57 = .ok (.getfield 43, 3) := by decide +kernel
theorem dX1_makeOutcome_60 : decode cX1_makeOutcome 60 = .ok (.invokespecial 84, 3) := by decide +kernel
theorem dX1_makeOutcome_63 : decode cX1_makeOutcome 63 = .ok (.areturn, 1) := by decide +kernel
theorem dX1_measureCall_0 : decode cX1_measureCall 0 = .ok (.aload_n 0, 1) := by decide +kernel
theorem dX1_measureCall_1 : decode cX1_measureCall 1 = .ok (.iconst 0, 1) := by decide +kernel
theorem dX1_measureCall_2 : decode cX1_measureCall 2 = .ok (.invokevirtual 56, 3) := by decide +kernel
theorem dX1_measureCall_5 : decode cX1_measureCall 5 = .ok (.aload_n 0, 1) := by decide +kernel
theorem dX1_measureCall_6 : decode cX1_measureCall 6 = .ok (.invokevirtual 60, 3) := by decide +kernel
theorem dX1_measureCall_9 : decode cX1_measureCall 9 = .ok (.aload_n 0, 1) := by decide +kernel
theorem dX1_measureCall_10 : decode cX1_measureCall 10 = .ok (.iload_n 2, 1) := by decide +kernel
theorem dX1_measureCall_11 : decode cX1_measureCall 11 = .ok (.invokevirtual 87, 3) := by decide +kernel
theorem dX1_measureCall_14 : decode cX1_measureCall 14 = .ok (.iconst 0, 1) := by decide +kernel
theorem dX1_measureCall_15 : decode cX1_measureCall 15 = .ok (.istore 5, 2) := by decide +kernel
theorem dX1_measureCall_17 : decode cX1_measureCall 17 = .ok (.iload 5, 2) := by decide +kernel
theorem dX1_measureCall_19 : decode cX1_measureCall 19 = .ok (.iload_n 3, 1) := by decide +kernel
theorem dX1_measureCall_20 : decode cX1_measureCall 20 = .ok (.if_icmp .ge 31, 3) := by decide +kernel
theorem dX1_measureCall_23 : decode cX1_measureCall 23 = .ok (.iload 5, 2) := by decide +kernel
theorem dX1_measureCall_25 : decode cX1_measureCall 25 = .ok (.bipush 60, 2) := by decide +kernel
theorem dX1_measureCall_27 : decode cX1_measureCall 27 = .ok (.if_icmp .ge 24, 3) := by decide +kernel
theorem dX1_measureCall_30 : decode cX1_measureCall 30 = .ok (.aload_n 0, 1) := by decide +kernel
theorem dX1_measureCall_31 : decode cX1_measureCall 31 = .ok (.invokevirtual 60, 3) := by decide +kernel
theorem dX1_measureCall_34 : decode cX1_measureCall 34 = .ok (.aload_n 0, 1) := by decide +kernel
theorem dX1_measureCall_35 : decode cX1_measureCall 35 = .ok (.dup, 1) := by decide +kernel
theorem dX1_measureCall_36 : decode cX1_measureCall 36 = .ok (.getfield 27, 3) := by decide +kernel
theorem dX1_measureCall_39 : decode cX1_measureCall 39 = .ok (.iload 4, 2) := by decide +kernel
theorem dX1_measureCall_41 : decode cX1_measureCall 41 = .ok (.iadd, 1) := by decide +kernel
theorem dX1_measureCall_42 : decode cX1_measureCall 42 = .ok (.putfield 27, 3) := by decide +kernel
theorem dX1_measureCall_45 : decode cX1_measureCall 45 = .ok (.iinc 5 1, 3) := by decide +kernel
theorem dX1_measureCall_48 : decode cX1_measureCall 48 = .ok (.goto (-31), 3) := by decide +kernel
theorem dX1_measureCall_51 : decode cX1_measureCall 51 = .ok (.aload_n 0, 1) := by decide +kernel
theorem dX1_measureCall_52 : decode cX1_measureCall 52 = .ok (.aload_n 1, 1) := by decide +kernel
theorem dX1_measureCall_53 : decode cX1_measureCall 53 = .ok (.iconst 0, 1) := by decide +kernel
theorem dX1_measureCall_54 : decode cX1_measureCall 54 = .ok (.invokevirtual 91, 3) := by decide +kernel
theorem dX1_measureCall_57 : decode cX1_measureCall 57 = .ok (.aload_n 0, 1) := by decide +kernel
theorem dX1_measureCall_58 : decode cX1_measureCall 58 = .ok (.getfield 53, 3) := by decide +kernel
theorem dX1_measureCall_61 : decode cX1_measureCall 61 = .ok (.ifCond .eq 7, 3) := by decide +kernel
theorem dX1_measureCall_64 : decode cX1_measureCall 64 = .ok (.iconst (-1), 1) := by decide +kernel
theorem dX1_measureCall_65 : decode cX1_measureCall 65 = .ok (.goto 7, 3) := by decide +kernel
theorem dX1_measureCall_68 : decode cX1_measureCall 68 = .ok (.aload_n 0, 1) := by decide +kernel
theorem dX1_measureCall_69 : decode cX1_measureCall 69 = .ok (.getfield 27, 3) := by decide +kernel
theorem dX1_measureCall_72 : decode cX1_measureCall 72 = .ok (.ireturn, 1) := by decide +kernel
theorem dX1_startOver_0 : decode cX1_startOver 0 = .ok (.aload_n 0, 1) := by decide +kernel
theorem dX1_startOver_1 : decode cX1_startOver 1 = .ok (.iconst 0, 1) := by decide +kernel
theorem dX1_startOver_2 : decode cX1_startOver 2 = .ok (.putfield 27, 3) := by decide +kernel
theorem dX1_startOver_5 : decode cX1_startOver 5 = .ok (.aload_n 0, 1) := by decide +kernel
theorem dX1_startOver_6 : decode cX1_startOver 6 = .ok (.iconst 0, 1) := by decide +kernel
theorem dX1_startOver_7 : decode cX1_startOver 7 = .ok (.putfield 31, 3) := by decide +kernel
theorem dX1_startOver_10 : decode cX1_startOver 10 = .ok (.aload_n 0, 1) := by decide +kernel
theorem dX1_startOver_11 : decode cX1_startOver 11 = .ok (.iconst 0, 1) := by decide +kernel
theorem dX1_startOver_12 : decode cX1_startOver 12 = .ok (.putfield 34, 3) := by decide +kernel
theorem dX1_startOver_15 : decode cX1_startOver 15 = .ok (.aload_n 0, 1) := by decide +kernel
theorem dX1_startOver_16 : decode cX1_startOver 16 = .ok (.iconst 0, 1) := by decide +kernel
theorem dX1_startOver_17 : decode cX1_startOver 17 = .ok (.putfield 37, 3) := by decide +kernel
theorem dX1_startOver_20 : decode cX1_startOver 20 = .ok (.aload_n 0, 1) := by decide +kernel
theorem dX1_startOver_21 : decode cX1_startOver 21 = .ok (.iconst 0, 1) := by decide +kernel
theorem dX1_startOver_22 : decode cX1_startOver 22 = .ok (.putfield 40, 3) := by decide +kernel
theorem dX1_startOver_25 : decode cX1_startOver 25 = .ok (.aload_n 0, 1) := by decide +kernel
theorem dX1_startOver_26 : decode cX1_startOver 26 = .ok (.iconst 0, 1) := by decide +kernel
theorem dX1_startOver_27 : decode cX1_startOver 27 = .ok (.putfield 43, 3) := by decide +kernel
theorem dX1_startOver_30 : decode cX1_startOver 30 = .ok (.aload_n 0, 1) := by decide +kernel
theorem dX1_startOver_31 : decode cX1_startOver 31 = .ok (.iconst 0, 1) := by decide +kernel
theorem dX1_startOver_32 : decode cX1_startOver 32 = .ok (.putfield 46, 3) := by decide +kernel
theorem dX1_startOver_35 : decode cX1_startOver 35 = .ok (.aload_n 0, 1) := by decide +kernel
theorem dX1_startOver_36 : decode cX1_startOver 36 = .ok (.iload_n 1, 1) := by decide +kernel
theorem dX1_startOver_37 : decode cX1_startOver 37 = .ok (.putfield 49, 3) := by decide +kernel
theorem dX1_startOver_40 : decode cX1_startOver 40 = .ok (.aload_n 0, 1) := by decide +kernel
theorem dX1_startOver_41 : decode cX1_startOver 41 = .ok (.iconst 0, 1) := by decide +kernel
theorem dX1_startOver_42 : decode cX1_startOver 42 = .ok (.putfield 53, 3) := by decide +kernel
theorem dX1_startOver_45 : decode cX1_startOver 45 = .ok (.return_, 1) := by decide +kernel
theorem dX1_writeText_0 : decode cX1_writeText 0 = .ok (.iconst 0, 1) := by decide +kernel
theorem dX1_writeText_1 : decode cX1_writeText 1 = .ok (.istore 7, 2) := by decide +kernel
theorem dX1_writeText_3 : decode cX1_writeText 3 = .ok (.iconst 0, 1) := by decide +kernel
theorem dX1_writeText_4 : decode cX1_writeText 4 = .ok (.istore 8, 2) := by decide +kernel
theorem dX1_writeText_6 : decode cX1_writeText 6 = .ok (.iload 8, 2) := by decide +kernel
theorem dX1_writeText_8 : decode cX1_writeText 8 = .ok (.iload_n 3, 1) := by decide +kernel
theorem dX1_writeText_9 : decode cX1_writeText 9 = .ok (.if_icmp .ge 153, 3) := by decide +kernel
theorem dX1_writeText_12 : decode cX1_writeText 12 = .ok (.iload 8, 2) := by decide +kernel
theorem dX1_writeText_14 : decode cX1_writeText 14 = .ok (.aload_n 2, 1) := by decide +kernel
theorem dX1_writeText_15 : decode cX1_writeText 15 = .ok (.arraylength, 1) := by decide +kernel
theorem dX1_writeText_16 : decode cX1_writeText 16 = .ok (.if_icmp .ge 146, 3) := by decide +kernel
theorem dX1_writeText_19 : decode cX1_writeText 19 = .ok (.aload_n 0, 1) := by decide +kernel
theorem dX1_writeText_20 : decode cX1_writeText 20 = .ok (.getfield 53, 3) := by decide +kernel
theorem dX1_writeText_23 : decode cX1_writeText 23 = .ok (.ifCond .ne 139, 3) := by decide +kernel
theorem dX1_writeText_26 : decode cX1_writeText 26 = .ok (.aload_n 2, 1) := by decide +kernel
theorem dX1_writeText_27 : decode cX1_writeText 27 = .ok (.iload 8, 2) := by decide +kernel
theorem dX1_writeText_29 : decode cX1_writeText 29 = .ok (.iaload, 1) := by decide +kernel
theorem dX1_writeText_30 : decode cX1_writeText 30 = .ok (.istore 9, 2) := by decide +kernel
theorem dX1_writeText_32 : decode cX1_writeText 32 = .ok (.iload 9, 2) := by decide +kernel
theorem dX1_writeText_34 : decode cX1_writeText 34 = .ok (.bipush 63, 2) := by decide +kernel
theorem dX1_writeText_36 : decode cX1_writeText 36 = .ok (.if_icmp .ne 21, 3) := by decide +kernel
theorem dX1_writeText_39 : decode cX1_writeText 39 = .ok (.aload_n 0, 1) := by decide +kernel
theorem dX1_writeText_40 : decode cX1_writeText 40 = .ok (.iload 7, 2) := by decide +kernel
theorem dX1_writeText_42 : decode cX1_writeText 42 = .ok (.iload 4, 2) := by decide +kernel
theorem dX1_writeText_44 : decode cX1_writeText 44 = .ok (.iload 5, 2) := by decide +kernel
theorem dX1_writeText_46 : decode cX1_writeText 46 = .ok (.iload 6, 2) := by decide +kernel
theorem dX1_writeText_48 : decode cX1_writeText 48 = .ok (.invokevirtual 95, 3) := by decide +kernel
theorem dX1_writeText_51 : decode cX1_writeText 51 = .ok (.iinc 7 1, 3) := by decide +kernel
theorem dX1_writeText_54 : decode cX1_writeText 54 = .ok (.goto 102, 3) := by decide +kernel
theorem dX1_writeText_57 : decode cX1_writeText 57 = .ok (.iload 9, 2) := by decide +kernel
theorem dX1_writeText_59 : decode cX1_writeText 59 = .ok (.invokestatic 99, 3) := by decide +kernel
theorem dX1_writeText_62 : decode cX1_writeText 62 = .ok (.ifCond .eq 50, 3) := by decide +kernel
theorem dX1_writeText_65 : decode cX1_writeText 65 = .ok (.aload_n 0, 1) := by decide +kernel
theorem dX1_writeText_66 : decode cX1_writeText 66 = .ok (.iload 9, 2) := by decide +kernel
theorem dX1_writeText_68 : decode cX1_writeText 68 = .ok (.bipush 65, 2) := by decide +kernel
theorem dX1_writeText_70 : decode cX1_writeText 70 = .ok (.isub, 1) := by decide +kernel
theorem dX1_writeText_71 : decode cX1_writeText 71 = .ok (.invokevirtual 87, 3) := by decide +kernel
theorem dX1_writeText_74 : decode cX1_writeText 74 = .ok (.iload 8, 2) := by decide +kernel
theorem dX1_writeText_76 : decode cX1_writeText 76 = .ok (.iconst 1, 1) := by decide +kernel
theorem dX1_writeText_77 : decode cX1_writeText 77 = .ok (.iadd, 1) := by decide +kernel
theorem dX1_writeText_78 : decode cX1_writeText 78 = .ok (.iload_n 3, 1) := by decide +kernel
theorem dX1_writeText_79 : decode cX1_writeText 79 = .ok (.if_icmp .ge 23, 3) := by decide +kernel
theorem dX1_writeText_82 : decode cX1_writeText 82 = .ok (.iload 8, 2) := by decide +kernel
theorem dX1_writeText_84 : decode cX1_writeText 84 = .ok (.iconst 1, 1) := by decide +kernel
theorem dX1_writeText_85 : decode cX1_writeText 85 = .ok (.iadd, 1) := by decide +kernel
theorem dX1_writeText_86 : decode cX1_writeText 86 = .ok (.aload_n 2, 1) := by decide +kernel
theorem dX1_writeText_87 : decode cX1_writeText 87 = .ok (.arraylength, 1) := by decide +kernel
theorem dX1_writeText_88 : decode cX1_writeText 88 = .ok (.if_icmp .ge 14, 3) := by decide +kernel
theorem dX1_writeText_91 : decode cX1_writeText 91 = .ok (.aload_n 2, 1) := by decide +kernel
theorem dX1_writeText_92 : decode cX1_writeText 92 = .ok (.iload 8, 2) := by decide +kernel
theorem dX1_writeText_94 : decode cX1_writeText 94 = .ok (.iconst 1, 1) := by decide +kernel
theorem dX1_writeText_95 : decode cX1_writeText 95 = .ok (.iadd, 1) := by decide +kernel
theorem dX1_writeText_96 : decode cX1_writeText 96 = .ok (.iaload, 1) := by decide +kernel
theorem dX1_writeText_97 : decode cX1_writeText 97 = .ok (.bipush 40, 2) := by decide +kernel
theorem dX1_writeText_99 : decode cX1_writeText 99 = .ok (.if_icmp .eq 57, 3) := by decide +kernel
theorem dX1_writeText_102 : decode cX1_writeText 102 = .ok (.aload_n 0, 1) := by decide +kernel
theorem dX1_writeText_103 : decode cX1_writeText 103 = .ok (.aload_n 1, 1) := by decide +kernel
theorem dX1_writeText_104 : decode cX1_writeText 104 = .ok (.iload 4, 2) := by decide +kernel
theorem dX1_writeText_106 : decode cX1_writeText 106 = .ok (.invokevirtual 91, 3) := by decide +kernel
theorem dX1_writeText_109 : decode cX1_writeText 109 = .ok (.goto 47, 3) := by decide +kernel
theorem dX1_writeText_112 : decode cX1_writeText 112 = .ok (.iload 9, 2) := by decide +kernel
theorem dX1_writeText_114 : decode cX1_writeText 114 = .ok (.bipush 40, 2) := by decide +kernel
theorem dX1_writeText_116 : decode cX1_writeText 116 = .ok (.if_icmp .eq 10, 3) := by decide +kernel
theorem dX1_writeText_119 : decode cX1_writeText 119 = .ok (.iload 9, 2) := by decide +kernel
theorem dX1_writeText_121 : decode cX1_writeText 121 = .ok (.bipush 44, 2) := by decide +kernel
theorem dX1_writeText_123 : decode cX1_writeText 123 = .ok (.if_icmp .ne 10, 3) := by decide +kernel
theorem dX1_writeText_126 : decode cX1_writeText 126 = .ok (.aload_n 0, 1) := by decide +kernel
theorem dX1_writeText_127 : decode cX1_writeText 127 = .ok (.invokevirtual 60, 3) := by decide +kernel
theorem dX1_writeText_130 : decode cX1_writeText 130 = .ok (.goto 26, 3) := by decide +kernel
theorem dX1_writeText_133 : decode cX1_writeText 133 = .ok (.iload 9, 2) := by decide +kernel
theorem dX1_writeText_135 : decode cX1_writeText 135 = .ok (.bipush 41, 2) := by decide +kernel
theorem dX1_writeText_137 : decode cX1_writeText 137 = .ok (.if_icmp .ne 13, 3) := by decide +kernel
theorem dX1_writeText_140 : decode cX1_writeText 140 = .ok (.aload_n 0, 1) := by decide +kernel
theorem dX1_writeText_141 : decode cX1_writeText 141 = .ok (.aload_n 1, 1) := by decide +kernel
theorem dX1_writeText_142 : decode cX1_writeText 142 = .ok (.iload 4, 2) := by decide +kernel
theorem dX1_writeText_144 : decode cX1_writeText 144 = .ok (.invokevirtual 91, 3) := by decide +kernel
theorem dX1_writeText_147 : decode cX1_writeText 147 = .ok (.goto 9, 3) := by decide +kernel
theorem dX1_writeText_150 : decode cX1_writeText 150 = .ok (.aload_n 0, 1) := by decide +kernel
theorem dX1_writeText_151 : decode cX1_writeText 151 = .ok (.iload 9, 2) := by decide +kernel
theorem dX1_writeText_153 : decode cX1_writeText 153 = .ok (.invokevirtual 103, 3) := by decide +kernel
theorem dX1_writeText_156 : decode cX1_writeText 156 = .ok (.iinc 8 1, 3) := by decide +kernel
theorem dX1_writeText_159 : decode cX1_writeText 159 = .ok (.goto (-153), 3) := by decide +kernel
theorem dX1_writeText_162 : decode cX1_writeText 162 = .ok (.return_, 1) := by decide +kernel
theorem dX1_fillHole_0 : decode cX1_fillHole 0 = .ok (.iload_n 2, 1) := by decide +kernel
theorem dX1_fillHole_1 : decode cX1_fillHole 1 = .ok (.ifCond .ne 12, 3) := by decide +kernel
theorem dX1_fillHole_4 : decode cX1_fillHole 4 = .ok (.aload_n 0, 1) := by decide +kernel
theorem dX1_fillHole_5 : decode cX1_fillHole 5 = .ok (.bipush 63, 2) := by decide +kernel
theorem dX1_fillHole_7 : decode cX1_fillHole 7 = .ok (.invokevirtual 103, 3) := by decide +kernel
theorem dX1_fillHole_10 : decode cX1_fillHole 10 = .ok (.goto 36, 3) := by decide +kernel
theorem dX1_fillHole_13 : decode cX1_fillHole 13 = .ok (.iload_n 1, 1) := by decide +kernel
theorem dX1_fillHole_14 : decode cX1_fillHole 14 = .ok (.iload 4, 2) := by decide +kernel
theorem dX1_fillHole_16 : decode cX1_fillHole 16 = .ok (.if_icmp .ge 30, 3) := by decide +kernel
theorem dX1_fillHole_19 : decode cX1_fillHole 19 = .ok (.aload_n 0, 1) := by decide +kernel
theorem dX1_fillHole_20 : decode cX1_fillHole 20 = .ok (.iload_n 3, 1) := by decide +kernel
theorem dX1_fillHole_21 : decode cX1_fillHole 21 = .ok (.iload_n 1, 1) := by decide +kernel
theorem dX1_fillHole_22 : decode cX1_fillHole 22 = .ok (.iadd, 1) := by decide +kernel
theorem dX1_fillHole_23 : decode cX1_fillHole 23 = .ok (.invokevirtual 106, 3) := by decide +kernel
theorem dX1_fillHole_26 : decode cX1_fillHole 26 = .ok (.istore 5, 2) := by decide +kernel
theorem dX1_fillHole_28 : decode cX1_fillHole 28 = .ok (.aload_n 0, 1) := by decide +kernel
theorem dX1_fillHole_29 : decode cX1_fillHole 29 = .ok (.iload 5, 2) := by decide +kernel
theorem dX1_fillHole_31 : decode cX1_fillHole 31 = .ok (.aload_n 0, 1) := by decide +kernel
theorem dX1_fillHole_32 : decode cX1_fillHole 32 = .ok (.iload_n 3, 1) := by decide +kernel
theorem dX1_fillHole_33 : decode cX1_fillHole 33 = .ok (.iload_n 1, 1) := by decide +kernel
theorem dX1_fillHole_34 : decode cX1_fillHole 34 = .ok (.iadd, 1) := by decide +kernel
theorem dX1_fillHole_35 : decode cX1_fillHole 35 = .ok (.iconst 1, 1) := by decide +kernel
theorem dX1_fillHole_36 : decode cX1_fillHole 36 = .ok (.iadd, 1) := by decide +kernel
theorem dX1_fillHole_37 : decode cX1_fillHole 37 = .ok (.invokevirtual 106, 3) := by decide +kernel
theorem dX1_fillHole_40 : decode cX1_fillHole 40 = .ok (.iload 5, 2) := by decide +kernel
theorem dX1_fillHole_42 : decode cX1_fillHole 42 = .ok (.isub, 1) := by decide +kernel
theorem dX1_fillHole_43 : decode cX1_fillHole 43 = .ok (.invokevirtual 110, 3) := by decide +kernel
theorem dX1_fillHole_46 : decode cX1_fillHole 46 = .ok (.return_, 1) := by decide +kernel
theorem dX1_letCallWait_0 : decode cX1_letCallWait 0 = .ok (.aload_n 0, 1) := by decide +kernel
theorem dX1_letCallWait_1 : decode cX1_letCallWait 1 = .ok (.getfield 34, 3) := by decide +kernel
theorem dX1_letCallWait_4 : decode cX1_letCallWait 4 = .ok (.ifCond .lt 13, 3) := by decide +kernel
theorem dX1_letCallWait_7 : decode cX1_letCallWait 7 = .ok (.aload_n 0, 1) := by decide +kernel
theorem dX1_letCallWait_8 : decode cX1_letCallWait 8 = .ok (.getfield 34, 3) := by decide +kernel
theorem dX1_letCallWait_11 : decode cX1_letCallWait 11 = .ok (.sipush 780, 3) := by decide +kernel
theorem dX1_letCallWait_14 : decode cX1_letCallWait 14 = .ok (.if_icmp .lt 9, 3) := by decide +kernel
theorem dX1_letCallWait_17 : decode cX1_letCallWait 17 = .ok (.aload_n 0, 1) := by decide +kernel
theorem dX1_letCallWait_18 : decode cX1_letCallWait 18 = .ok (.iconst 1, 1) := by decide +kernel
theorem dX1_letCallWait_19 : decode cX1_letCallWait 19 = .ok (.putfield 53, 3) := by decide +kernel
theorem dX1_letCallWait_22 : decode cX1_letCallWait 22 = .ok (.return_, 1) := by decide +kernel
theorem dX1_letCallWait_23 : decode cX1_letCallWait 23 = .ok (.aload_n 0, 1) := by decide +kernel
theorem dX1_letCallWait_24 : decode cX1_letCallWait 24 = .ok (.getfield 18, 3) := by decide +kernel
theorem dX1_letCallWait_27 : decode cX1_letCallWait 27 = .ok (.aload_n 0, 1) := by decide +kernel
theorem dX1_letCallWait_28 : decode cX1_letCallWait 28 = .ok (.getfield 34, 3) := by decide +kernel
theorem dX1_letCallWait_31 : decode cX1_letCallWait 31 = .ok (.iload_n 1, 1) := by decide +kernel
theorem dX1_letCallWait_32 : decode cX1_letCallWait 32 = .ok (.iastore, 1) := by decide +kernel
theorem dX1_letCallWait_33 : decode cX1_letCallWait 33 = .ok (.aload_n 0, 1) := by decide +kernel
theorem dX1_letCallWait_34 : decode cX1_letCallWait 34 = .ok (.getfield 21, 3) := by decide +kernel
theorem dX1_letCallWait_37 : decode cX1_letCallWait 37 = .ok (.aload_n 0, 1) := by decide +kernel
theorem dX1_letCallWait_38 : decode cX1_letCallWait 38 = .ok (.getfield 34, 3) := by decide +kernel
theorem dX1_letCallWait_41 : decode cX1_letCallWait 41 = .ok (.aload_n 0, 1) := by decide +kernel
theorem dX1_letCallWait_42 : decode cX1_letCallWait 42 = .ok (.getfield 31, 3) := by decide +kernel
theorem dX1_letCallWait_45 : decode cX1_letCallWait 45 = .ok (.iastore, 1) := by decide +kernel
theorem dX1_letCallWait_46 : decode cX1_letCallWait 46 = .ok (.aload_n 0, 1) := by decide +kernel
theorem dX1_letCallWait_47 : decode cX1_letCallWait 47 = .ok (.dup, 1) := by decide +kernel
theorem dX1_letCallWait_48 : decode cX1_letCallWait 48 = .ok (.getfield 34, 3) := by decide +kernel
theorem dX1_letCallWait_51 : decode cX1_letCallWait 51 = .ok (.iconst 1, 1) := by decide +kernel
theorem dX1_letCallWait_52 : decode cX1_letCallWait 52 = .ok (.iadd, 1) := by decide +kernel
theorem dX1_letCallWait_53 : decode cX1_letCallWait 53 = .ok (.putfield 34, 3) := by decide +kernel
theorem dX1_letCallWait_56 : decode cX1_letCallWait 56 = .ok (.return_, 1) := by decide +kernel
theorem dX1_finishCall_0 : decode cX1_finishCall 0 = .ok (.aload_n 0, 1) := by decide +kernel
theorem dX1_finishCall_1 : decode cX1_finishCall 1 = .ok (.getfield 34, 3) := by decide +kernel
theorem dX1_finishCall_4 : decode cX1_finishCall 4 = .ok (.iconst 1, 1) := by decide +kernel
theorem dX1_finishCall_5 : decode cX1_finishCall 5 = .ok (.isub, 1) := by decide +kernel
theorem dX1_finishCall_6 : decode cX1_finishCall 6 = .ok (.istore_n 3, 1) := by decide +kernel
theorem dX1_finishCall_7 : decode cX1_finishCall 7 = .ok (.aload_n 0, 1) := by decide +kernel
theorem dX1_finishCall_8 : decode cX1_finishCall 8 = .ok (.getfield 53, 3) := by decide +kernel
theorem dX1_finishCall_11 : decode cX1_finishCall 11 = .ok (.ifCond .ne 14, 3) := by decide +kernel
theorem dX1_finishCall_14 : decode cX1_finishCall 14 = .ok (.iload_n 3, 1) := by decide +kernel
theorem dX1_finishCall_15 : decode cX1_finishCall 15 = .ok (.ifCond .lt 10, 3) := by decide +kernel
theorem dX1_finishCall_18 : decode cX1_finishCall 18 = .ok (.iload_n 3, 1) := by decide +kernel
theorem dX1_finishCall_19 : decode cX1_finishCall 19 = .ok (.sipush 780, 3) := by decide +kernel
theorem dX1_finishCall_22 : decode cX1_finishCall 22 = .ok (.if_icmp .lt 9, 3) := by decide +kernel
theorem dX1_finishCall_25 : decode cX1_finishCall 25 = .ok (.aload_n 0, 1) := by decide +kernel
theorem dX1_finishCall_26 : decode cX1_finishCall 26 = .ok (.iconst 1, 1) := by decide +kernel
theorem dX1_finishCall_27 : decode cX1_finishCall 27 = .ok (.putfield 53, 3) := by decide +kernel
theorem dX1_finishCall_30 : decode cX1_finishCall 30 = .ok (.return_, 1) := by decide +kernel
theorem dX1_finishCall_31 : decode cX1_finishCall 31 = .ok (.aload_n 0, 1) := by decide +kernel
theorem dX1_finishCall_32 : decode cX1_finishCall 32 = .ok (.iload_n 3, 1) := by decide +kernel
theorem dX1_finishCall_33 : decode cX1_finishCall 33 = .ok (.putfield 34, 3) := by decide +kernel
theorem dX1_finishCall_36 : decode cX1_finishCall 36 = .ok (.aload_n 0, 1) := by decide +kernel
theorem dX1_finishCall_37 : decode cX1_finishCall 37 = .ok (.getfield 18, 3) := by decide +kernel
theorem dX1_finishCall_40 : decode cX1_finishCall 40 = .ok (.iload_n 3, 1) := by decide +kernel
theorem dX1_finishCall_41 : decode cX1_finishCall 41 = .ok (.iaload, 1) := by decide +kernel
theorem dX1_finishCall_42 : decode cX1_finishCall 42 = .ok (.istore 4, 2) := by decide +kernel
theorem dX1_finishCall_44 : decode cX1_finishCall 44 = .ok (.aload_n 0, 1) := by decide +kernel
theorem dX1_finishCall_45 : decode cX1_finishCall 45 = .ok (.getfield 21, 3) := by decide +kernel
theorem dX1_finishCall_48 : decode cX1_finishCall 48 = .ok (.iload_n 3, 1) := by decide +kernel
theorem dX1_finishCall_49 : decode cX1_finishCall 49 = .ok (.iaload, 1) := by decide +kernel
theorem dX1_finishCall_50 : decode cX1_finishCall 50 = .ok (.istore 5, 2) := by decide +kernel
theorem dX1_finishCall_52 : decode cX1_finishCall 52 = .ok (.aload_n 0, 1) := by decide +kernel
theorem dX1_finishCall_53 : decode cX1_finishCall 53 = .ok (.getfield 31, 3) := by decide +kernel
theorem dX1_finishCall_56 : decode cX1_finishCall 56 = .ok (.iload 5, 2) := by decide +kernel
theorem dX1_finishCall_58 : decode cX1_finishCall 58 = .ok (.isub, 1) := by decide +kernel
theorem dX1_finishCall_59 : decode cX1_finishCall 59 = .ok (.istore 6, 2) := by decide +kernel
theorem dX1_finishCall_61 : decode cX1_finishCall 61 = .ok (.iload 6, 2) := by decide +kernel
theorem dX1_finishCall_63 : decode cX1_finishCall 63 = .ok (.ifCond .le 12, 3) := by decide +kernel
theorem dX1_finishCall_66 : decode cX1_finishCall 66 = .ok (.aload_n 0, 1) := by decide +kernel
theorem dX1_finishCall_67 : decode cX1_finishCall 67 = .ok (.iload 5, 2) := by decide +kernel
theorem dX1_finishCall_69 : decode cX1_finishCall 69 = .ok (.invokevirtual 106, 3) := by decide +kernel
theorem dX1_finishCall_72 : decode cX1_finishCall 72 = .ok (.goto 7, 3) := by decide +kernel
theorem dX1_finishCall_75 : decode cX1_finishCall 75 = .ok (.aload_n 0, 1) := by decide +kernel
theorem dX1_finishCall_76 : decode cX1_finishCall 76 = .ok (.getfield 27, 3) := by decide +kernel
theorem dX1_finishCall_79 : decode cX1_finishCall 79 = .ok (.istore 7, 2) := by decide +kernel
theorem dX1_finishCall_81 : decode cX1_finishCall 81 = .ok (.aload_n 0, 1) := by decide +kernel
theorem dX1_finishCall_82 : decode cX1_finishCall 82 = .ok (.getfield 27, 3) := by decide +kernel
theorem dX1_finishCall_85 : decode cX1_finishCall 85 = .ok (.istore 8, 2) := by decide +kernel
theorem dX1_finishCall_87 : decode cX1_finishCall 87 = .ok (.aload_n 0, 1) := by decide +kernel
theorem dX1_finishCall_88 : decode cX1_finishCall 88 = .ok (.invokevirtual 60, 3) := by decide +kernel
theorem dX1_finishCall_91 : decode cX1_finishCall 91 = .ok (.aload_n 0, 1) := by decide +kernel
theorem dX1_finishCall_92 : decode cX1_finishCall 92 = .ok (.aload_n 1, 1) := by decide +kernel
theorem dX1_finishCall_93 : decode cX1_finishCall 93 = .ok (.iload 4, 2) := by decide +kernel
theorem dX1_finishCall_95 : decode cX1_finishCall 95 = .ok (.iload_n 2, 1) := by decide +kernel
theorem dX1_finishCall_96 : decode cX1_finishCall 96 = .ok (.invokevirtual 114, 3) := by decide +kernel
theorem dX1_finishCall_99 : decode cX1_finishCall 99 = .ok (.istore 9, 2) := by decide +kernel
theorem dX1_finishCall_101 : decode cX1_finishCall 101 = .ok (.iload 9, 2) := by decide +kernel
theorem dX1_finishCall_103 : decode cX1_finishCall 103 = .ok (.ifCond .ne 20, 3) := by decide +kernel
theorem dX1_finishCall_106 : decode cX1_finishCall 106 = .ok (.aload_n 0, 1) := by decide +kernel
theorem dX1_finishCall_107 : decode cX1_finishCall 107 = .ok (.aload_n 1, 1) := by decide +kernel
theorem dX1_finishCall_108 : decode cX1_finishCall 108 = .ok (.iload 4, 2) := by decide +kernel
theorem dX1_finishCall_110 : decode cX1_finishCall 110 = .ok (.iload_n 2, 1) := by decide +kernel
theorem dX1_finishCall_111 : decode cX1_finishCall 111 = .ok (.iconst 1, 1) := by decide +kernel
theorem dX1_finishCall_112 : decode cX1_finishCall 112 = .ok (.iadd, 1) := by decide +kernel
theorem dX1_finishCall_113 : decode cX1_finishCall 113 = .ok (.iload 5, 2) := by decide +kernel
theorem dX1_finishCall_115 : decode cX1_finishCall 115 = .ok (.iload 6, 2) := by decide +kernel
theorem dX1_finishCall_117 : decode cX1_finishCall 117 = .ok (.invokevirtual 118, 3) := by decide +kernel
theorem dX1_finishCall_120 : decode cX1_finishCall 120 = .ok (.goto 12, 3) := by decide +kernel
theorem dX1_finishCall_123 : decode cX1_finishCall 123 = .ok (.aload_n 0, 1) := by decide +kernel
theorem dX1_finishCall_124 : decode cX1_finishCall 124 = .ok (.iload 9, 2) := by decide +kernel
theorem dX1_finishCall_126 : decode cX1_finishCall 126 = .ok (.invokestatic 122, 3) := by decide +kernel
theorem dX1_finishCall_129 : decode cX1_finishCall 129 = .ok (.invokevirtual 103, 3) := by decide +kernel
theorem dX1_finishCall_132 : decode cX1_finishCall 132 = .ok (.aload_n 0, 1) := by decide +kernel
theorem dX1_finishCall_133 : decode cX1_finishCall 133 = .ok (.getfield 27, 3) := by decide +kernel
theorem dX1_finishCall_136 : decode cX1_finishCall 136 = .ok (.iload 8, 2) := by decide +kernel
theorem dX1_finishCall_138 : decode cX1_finishCall 138 = .ok (.isub, 1) := by decide +kernel
theorem dX1_finishCall_139 : decode cX1_finishCall 139 = .ok (.istore 10, 2) := by decide +kernel
theorem dX1_finishCall_141 : decode cX1_finishCall 141 = .ok (.aload_n 0, 1) := by decide +kernel
theorem dX1_finishCall_142 : decode cX1_finishCall 142 = .ok (.iload 8, 2) := by decide +kernel
theorem dX1_finishCall_144 : decode cX1_finishCall 144 = .ok (.iload 7, 2) := by decide +kernel
theorem dX1_finishCall_146 : decode cX1_finishCall 146 = .ok (.iload 10, 2) := by decide +kernel
theorem dX1_finishCall_148 : decode cX1_finishCall 148 = .ok (.invokevirtual 125, 3) := by decide +kernel
theorem dX1_finishCall_151 : decode cX1_finishCall 151 = .ok (.aload_n 0, 1) := by decide +kernel
theorem dX1_finishCall_152 : decode cX1_finishCall 152 = .ok (.iload 7, 2) := by decide +kernel
theorem dX1_finishCall_154 : decode cX1_finishCall 154 = .ok (.iload 10, 2) := by decide +kernel
theorem dX1_finishCall_156 : decode cX1_finishCall 156 = .ok (.iadd, 1) := by decide +kernel
theorem dX1_finishCall_157 : decode cX1_finishCall 157 = .ok (.putfield 27, 3) := by decide +kernel
theorem dX1_finishCall_160 : decode cX1_finishCall 160 = .ok (.aload_n 0, 1) := by decide +kernel
theorem dX1_finishCall_161 : decode cX1_finishCall 161 = .ok (.iload 5, 2) := by decide +kernel
theorem dX1_finishCall_163 : decode cX1_finishCall 163 = .ok (.putfield 31, 3) := by decide +kernel
theorem dX1_finishCall_166 : decode cX1_finishCall 166 = .ok (.aload_n 0, 1) := by decide +kernel
theorem dX1_finishCall_167 : decode cX1_finishCall 167 = .ok (.iconst 0, 1) := by decide +kernel
theorem dX1_finishCall_168 : decode cX1_finishCall 168 = .ok (.invokevirtual 129, 3) := by decide +kernel
theorem dX1_finishCall_171 : decode cX1_finishCall 171 = .ok (.ifCond .ne 8, 3) := by decide +kernel
theorem dX1_finishCall_174 : decode cX1_finishCall 174 = .ok (.aload_n 0, 1) := by decide +kernel
theorem dX1_finishCall_175 : decode cX1_finishCall 175 = .ok (.iconst 1, 1) := by decide +kernel
theorem dX1_finishCall_176 : decode cX1_finishCall 176 = .ok (.putfield 53, 3) := by decide +kernel
theorem dX1_finishCall_179 : decode cX1_finishCall 179 = .ok (.aload_n 0, 1) := by decide +kernel
theorem dX1_finishCall_180 : decode cX1_finishCall 180 = .ok (.iload 4, 2) := by decide +kernel
theorem dX1_finishCall_182 : decode cX1_finishCall 182 = .ok (.iload 9, 2) := by decide +kernel
theorem dX1_finishCall_184 : decode cX1_finishCall 184 = .ok (.iload_n 2, 1) := by decide +kernel
theorem dX1_finishCall_185 : decode cX1_finishCall 185 = .ok (.iload 6, 2) := by decide +kernel
theorem dX1_finishCall_187 : decode cX1_finishCall 187 = .ok (.iload 10, 2) := by decide +kernel
theorem dX1_finishCall_189 : decode cX1_finishCall 189 = .ok (.iload 8, 2) := by decide +kernel
theorem dX1_finishCall_191 : decode cX1_finishCall 191 = .ok (.iload 7, 2) := by decide +kernel
theorem dX1_finishCall_193 : decode cX1_finishCall 193 = .ok (.isub, 1) := by decide +kernel
theorem dX1_finishCall_194 : decode cX1_finishCall 194 = .ok (.invokevirtual 132, 3) := by decide +kernel
theorem dX1_finishCall_197 : decode cX1_finishCall 197 = .ok (.return_, 1) := by decide +kernel
theorem dX1_endingOf_0 : decode cX1_endingOf 0 = .ok (.aload_n 1, 1) := by decide +kernel
theorem dX1_endingOf_1 : decode cX1_endingOf 1 = .ok (.iload_n 2, 1) := by decide +kernel
theorem dX1_endingOf_2 : decode cX1_endingOf 2 = .ok (.invokevirtual 136, 3) := by decide +kernel
theorem dX1_endingOf_5 : decode cX1_endingOf 5 = .ok (.ifnonnull 5, 3) := by decide +kernel
theorem dX1_endingOf_8 : decode cX1_endingOf 8 = .ok (.iconst 1, 1) := by decide +kernel
theorem dX1_endingOf_9 : decode cX1_endingOf 9 = .ok (.ireturn, 1) := by decide +kernel
theorem dX1_endingOf_10 : decode cX1_endingOf 10 = .ok (.aload_n 0, 1) := by decide +kernel
theorem dX1_endingOf_11 : decode cX1_endingOf 11 = .ok (.getfield 46, 3) := by decide +kernel
theorem dX1_endingOf_14 : decode cX1_endingOf 14 = .ok (.iconst 1, 1) := by decide +kernel
theorem dX1_endingOf_15 : decode cX1_endingOf 15 = .ok (.iload_n 2, 1) := by decide +kernel
theorem dX1_endingOf_16 : decode cX1_endingOf 16 = .ok (.ishl, 1) := by decide +kernel
theorem dX1_endingOf_17 : decode cX1_endingOf 17 = .ok (.iand, 1) := by decide +kernel
theorem dX1_endingOf_18 : decode cX1_endingOf 18 = .ok (.ifCond .eq 5, 3) := by decide +kernel
theorem dX1_endingOf_21 : decode cX1_endingOf 21 = .ok (.iconst 2, 1) := by decide +kernel
theorem dX1_endingOf_22 : decode cX1_endingOf 22 = .ok (.ireturn, 1) := by decide +kernel
theorem dX1_endingOf_23 : decode cX1_endingOf 23 = .ok (.iload_n 3, 1) := by decide +kernel
theorem dX1_endingOf_24 : decode cX1_endingOf 24 = .ok (.aload_n 1, 1) := by decide +kernel
theorem dX1_endingOf_25 : decode cX1_endingOf 25 = .ok (.getfield 142, 3) := by decide +kernel
theorem dX1_endingOf_28 : decode cX1_endingOf 28 = .ok (.if_icmp .lt 7, 3) := by decide +kernel
theorem dX1_endingOf_31 : decode cX1_endingOf 31 = .ok (.iconst 3, 1) := by decide +kernel
theorem dX1_endingOf_32 : decode cX1_endingOf 32 = .ok (.goto 4, 3) := by decide +kernel
theorem dX1_endingOf_35 : decode cX1_endingOf 35 = .ok (.iconst 0, 1) := by decide +kernel
theorem dX1_endingOf_36 : decode cX1_endingOf 36 = .ok (.ireturn, 1) := by decide +kernel
theorem dX1_signOf_0 : decode cX1_signOf 0 = .ok (.iload_n 0, 1) := by decide +kernel
theorem dX1_signOf_1 : decode cX1_signOf 1 = .ok (.lookupswitch 33 #[(1, 27), (2, 30)], 27) := by decide +kernel
theorem dX1_signOf_28 : decode cX1_signOf 28 = .ok (.bipush 36, 2) := by decide +kernel
theorem dX1_signOf_30 : decode cX1_signOf 30 = .ok (.ireturn, 1) := by decide +kernel
theorem dX1_signOf_31 : decode cX1_signOf 31 = .ok (.bipush 35, 2) := by decide +kernel
theorem dX1_signOf_33 : decode cX1_signOf 33 = .ok (.ireturn, 1) := by decide +kernel
theorem dX1_signOf_34 : decode cX1_signOf 34 = .ok (.bipush 37, 2) := by decide +kernel
theorem dX1_signOf_36 : decode cX1_signOf 36 = .ok (.ireturn, 1) := by decide +kernel
theorem dX1_writeBody_0 : decode cX1_writeBody 0 = .ok (.aload_n 1, 1) := by decide +kernel
theorem dX1_writeBody_1 : decode cX1_writeBody 1 = .ok (.iload_n 2, 1) := by decide +kernel
theorem dX1_writeBody_2 : decode cX1_writeBody 2 = .ok (.invokevirtual 136, 3) := by decide +kernel
theorem dX1_writeBody_5 : decode cX1_writeBody 5 = .ok (.astore 6, 2) := by decide +kernel
theorem dX1_writeBody_7 : decode cX1_writeBody 7 = .ok (.aload 6, 2) := by decide +kernel
theorem dX1_writeBody_9 : decode cX1_writeBody 9 = .ok (.ifnull 18, 3) := by decide +kernel
theorem dX1_writeBody_12 : decode cX1_writeBody 12 = .ok (.iload_n 3, 1) := by decide +kernel
theorem dX1_writeBody_13 : decode cX1_writeBody 13 = .ok (.bipush 12, 2) := by decide +kernel
theorem dX1_writeBody_15 : decode cX1_writeBody 15 = .ok (.if_icmp .gt 12, 3) := by decide +kernel
theorem dX1_writeBody_18 : decode cX1_writeBody 18 = .ok (.aload_n 0, 1) := by decide +kernel
theorem dX1_writeBody_19 : decode cX1_writeBody 19 = .ok (.getfield 40, 3) := by decide +kernel
theorem dX1_writeBody_22 : decode cX1_writeBody 22 = .ok (.bipush 60, 2) := by decide +kernel
theorem dX1_writeBody_24 : decode cX1_writeBody 24 = .ok (.if_icmp .lt 9, 3) := by decide +kernel
theorem dX1_writeBody_27 : decode cX1_writeBody 27 = .ok (.aload_n 0, 1) := by decide +kernel
theorem dX1_writeBody_28 : decode cX1_writeBody 28 = .ok (.iconst 1, 1) := by decide +kernel
theorem dX1_writeBody_29 : decode cX1_writeBody 29 = .ok (.putfield 53, 3) := by decide +kernel
theorem dX1_writeBody_32 : decode cX1_writeBody 32 = .ok (.return_, 1) := by decide +kernel
theorem dX1_writeBody_33 : decode cX1_writeBody 33 = .ok (.aload_n 0, 1) := by decide +kernel
theorem dX1_writeBody_34 : decode cX1_writeBody 34 = .ok (.dup, 1) := by decide +kernel
theorem dX1_writeBody_35 : decode cX1_writeBody 35 = .ok (.getfield 40, 3) := by decide +kernel
theorem dX1_writeBody_38 : decode cX1_writeBody 38 = .ok (.iconst 1, 1) := by decide +kernel
theorem dX1_writeBody_39 : decode cX1_writeBody 39 = .ok (.iadd, 1) := by decide +kernel
theorem dX1_writeBody_40 : decode cX1_writeBody 40 = .ok (.putfield 40, 3) := by decide +kernel
theorem dX1_writeBody_43 : decode cX1_writeBody 43 = .ok (.aload_n 0, 1) := by decide +kernel
theorem dX1_writeBody_44 : decode cX1_writeBody 44 = .ok (.aload_n 0, 1) := by decide +kernel
theorem dX1_writeBody_45 : decode cX1_writeBody 45 = .ok (.getfield 43, 3) := by decide +kernel
theorem dX1_writeBody_48 : decode cX1_writeBody 48 = .ok (.iload_n 3, 1) := by decide +kernel
theorem dX1_writeBody_49 : decode cX1_writeBody 49 = .ok (.invokestatic 73, 3) := by decide +kernel
theorem dX1_writeBody_52 : decode cX1_writeBody 52 = .ok (.putfield 43, 3) := by decide +kernel
theorem dX1_writeBody_55 : decode cX1_writeBody 55 = .ok (.aload_n 0, 1) := by decide +kernel
theorem dX1_writeBody_56 : decode cX1_writeBody 56 = .ok (.dup, 1) := by decide +kernel
theorem dX1_writeBody_57 : decode cX1_writeBody 57 = .ok (.getfield 46, 3) := by decide +kernel
theorem dX1_writeBody_60 : decode cX1_writeBody 60 = .ok (.iconst 1, 1) := by decide +kernel
theorem dX1_writeBody_61 : decode cX1_writeBody 61 = .ok (.iload_n 2, 1) := by decide +kernel
theorem dX1_writeBody_62 : decode cX1_writeBody 62 = .ok (.ishl, 1) := by decide +kernel
theorem dX1_writeBody_63 : decode cX1_writeBody 63 = .ok (.ior, 1) := by decide +kernel
theorem dX1_writeBody_64 : decode cX1_writeBody 64 = .ok (.putfield 46, 3) := by decide +kernel
theorem dX1_writeBody_67 : decode cX1_writeBody 67 = .ok (.aload_n 0, 1) := by decide +kernel
theorem dX1_writeBody_68 : decode cX1_writeBody 68 = .ok (.aload_n 1, 1) := by decide +kernel
theorem dX1_writeBody_69 : decode cX1_writeBody 69 = .ok (.aload 6, 2) := by decide +kernel
theorem dX1_writeBody_71 : decode cX1_writeBody 71 = .ok (.getfield 145, 3) := by decide +kernel
theorem dX1_writeBody_74 : decode cX1_writeBody 74 = .ok (.aload 6, 2) := by decide +kernel
theorem dX1_writeBody_76 : decode cX1_writeBody 76 = .ok (.getfield 145, 3) := by decide +kernel
theorem dX1_writeBody_79 : decode cX1_writeBody 79 = .ok (.arraylength, 1) := by decide +kernel
theorem dX1_writeBody_80 : decode cX1_writeBody 80 = .ok (.iload_n 3, 1) := by decide +kernel
theorem dX1_writeBody_81 : decode cX1_writeBody 81 = .ok (.iload 4, 2) := by decide +kernel
theorem dX1_writeBody_83 : decode cX1_writeBody 83 = .ok (.iload 5, 2) := by decide +kernel
theorem dX1_writeBody_85 : decode cX1_writeBody 85 = .ok (.invokevirtual 63, 3) := by decide +kernel
theorem dX1_writeBody_88 : decode cX1_writeBody 88 = .ok (.aload_n 0, 1) := by decide +kernel
theorem dX1_writeBody_89 : decode cX1_writeBody 89 = .ok (.dup, 1) := by decide +kernel
theorem dX1_writeBody_90 : decode cX1_writeBody 90 = .ok (.getfield 46, 3) := by decide +kernel
theorem dX1_writeBody_93 : decode cX1_writeBody 93 = .ok (.iconst 1, 1) := by decide +kernel
theorem dX1_writeBody_94 : decode cX1_writeBody 94 = .ok (.iload_n 2, 1) := by decide +kernel
theorem dX1_writeBody_95 : decode cX1_writeBody 95 = .ok (.ishl, 1) := by decide +kernel
theorem dX1_writeBody_96 : decode cX1_writeBody 96 = .ok (.iconst (-1), 1) := by decide +kernel
theorem dX1_writeBody_97 : decode cX1_writeBody 97 = .ok (.ixor, 1) := by decide +kernel
theorem dX1_writeBody_98 : decode cX1_writeBody 98 = .ok (.iand, 1) := by decide +kernel
theorem dX1_writeBody_99 : decode cX1_writeBody 99 = .ok (.putfield 46, 3) := by decide +kernel
theorem dX1_writeBody_102 : decode cX1_writeBody 102 = .ok (.return_, 1) := by decide +kernel
theorem dX1_listCall_0 : decode cX1_listCall 0 = .ok (.aload_n 0, 1) := by decide +kernel
theorem dX1_listCall_1 : decode cX1_listCall 1 = .ok (.getfield 37, 3) := by decide +kernel
theorem dX1_listCall_4 : decode cX1_listCall 4 = .ok (.ifCond .lt 12, 3) := by decide +kernel
theorem dX1_listCall_7 : decode cX1_listCall 7 = .ok (.aload_n 0, 1) := by decide +kernel
theorem dX1_listCall_8 : decode cX1_listCall 8 = .ok (.getfield 37, 3) := by decide +kernel
theorem dX1_listCall_11 : decode cX1_listCall 11 = .ok (.bipush 60, 2) := by decide +kernel
theorem dX1_listCall_13 : decode cX1_listCall 13 = .ok (.if_icmp .lt 4, 3) := by decide +kernel
theorem dX1_listCall_16 : decode cX1_listCall 16 = .ok (.return_, 1) := by decide +kernel
theorem dX1_listCall_17 : decode cX1_listCall 17 = .ok (.aload_n 0, 1) := by decide +kernel
theorem dX1_listCall_18 : decode cX1_listCall 18 = .ok (.getfield 37, 3) := by decide +kernel
theorem dX1_listCall_21 : decode cX1_listCall 21 = .ok (.bipush 6, 2) := by decide +kernel
theorem dX1_listCall_23 : decode cX1_listCall 23 = .ok (.imul, 1) := by decide +kernel
theorem dX1_listCall_24 : decode cX1_listCall 24 = .ok (.istore 7, 2) := by decide +kernel
theorem dX1_listCall_26 : decode cX1_listCall 26 = .ok (.aload_n 0, 1) := by decide +kernel
theorem dX1_listCall_27 : decode cX1_listCall 27 = .ok (.getfield 24, 3) := by decide +kernel
theorem dX1_listCall_30 : decode cX1_listCall 30 = .ok (.iload 7, 2) := by decide +kernel
theorem dX1_listCall_32 : decode cX1_listCall 32 = .ok (.iload_n 1, 1) := by decide +kernel
theorem dX1_listCall_33 : decode cX1_listCall 33 = .ok (.iastore, 1) := by decide +kernel
theorem dX1_listCall_34 : decode cX1_listCall 34 = .ok (.aload_n 0, 1) := by decide +kernel
theorem dX1_listCall_35 : decode cX1_listCall 35 = .ok (.getfield 24, 3) := by decide +kernel
theorem dX1_listCall_38 : decode cX1_listCall 38 = .ok (.iload 7, 2) := by decide +kernel
theorem dX1_listCall_40 : decode cX1_listCall 40 = .ok (.iconst 1, 1) := by decide +kernel
theorem dX1_listCall_41 : decode cX1_listCall 41 = .ok (.iadd, 1) := by decide +kernel
theorem dX1_listCall_42 : decode cX1_listCall 42 = .ok (.iload_n 2, 1) := by decide +kernel
theorem dX1_listCall_43 : decode cX1_listCall 43 = .ok (.iastore, 1) := by decide +kernel
theorem dX1_listCall_44 : decode cX1_listCall 44 = .ok (.aload_n 0, 1) := by decide +kernel
theorem dX1_listCall_45 : decode cX1_listCall 45 = .ok (.getfield 24, 3) := by decide +kernel
theorem dX1_listCall_48 : decode cX1_listCall 48 = .ok (.iload 7, 2) := by decide +kernel
theorem dX1_listCall_50 : decode cX1_listCall 50 = .ok (.iconst 2, 1) := by decide +kernel
theorem dX1_listCall_51 : decode cX1_listCall 51 = .ok (.iadd, 1) := by decide +kernel
theorem dX1_listCall_52 : decode cX1_listCall 52 = .ok (.iload_n 3, 1) := by decide +kernel
theorem dX1_listCall_53 : decode cX1_listCall 53 = .ok (.iastore, 1) := by decide +kernel
theorem dX1_listCall_54 : decode cX1_listCall 54 = .ok (.aload_n 0, 1) := by decide +kernel
theorem dX1_listCall_55 : decode cX1_listCall 55 = .ok (.getfield 24, 3) := by decide +kernel
theorem dX1_listCall_58 : decode cX1_listCall 58 = .ok (.iload 7, 2) := by decide +kernel
theorem dX1_listCall_60 : decode cX1_listCall 60 = .ok (.iconst 3, 1) := by decide +kernel
theorem dX1_listCall_61 : decode cX1_listCall 61 = .ok (.iadd, 1) := by decide +kernel
theorem dX1_listCall_62 : decode cX1_listCall 62 = .ok (.iload 4, 2) := by decide +kernel
theorem dX1_listCall_64 : decode cX1_listCall 64 = .ok (.iastore, 1) := by decide +kernel
theorem dX1_listCall_65 : decode cX1_listCall 65 = .ok (.aload_n 0, 1) := by decide +kernel
theorem dX1_listCall_66 : decode cX1_listCall 66 = .ok (.getfield 24, 3) := by decide +kernel
theorem dX1_listCall_69 : decode cX1_listCall 69 = .ok (.iload 7, 2) := by decide +kernel
theorem dX1_listCall_71 : decode cX1_listCall 71 = .ok (.iconst 4, 1) := by decide +kernel
theorem dX1_listCall_72 : decode cX1_listCall 72 = .ok (.iadd, 1) := by decide +kernel
theorem dX1_listCall_73 : decode cX1_listCall 73 = .ok (.iload 5, 2) := by decide +kernel
theorem dX1_listCall_75 : decode cX1_listCall 75 = .ok (.iastore, 1) := by decide +kernel
theorem dX1_listCall_76 : decode cX1_listCall 76 = .ok (.aload_n 0, 1) := by decide +kernel
theorem dX1_listCall_77 : decode cX1_listCall 77 = .ok (.getfield 24, 3) := by decide +kernel
theorem dX1_listCall_80 : decode cX1_listCall 80 = .ok (.iload 7, 2) := by decide +kernel
theorem dX1_listCall_82 : decode cX1_listCall 82 = .ok (.iconst 5, 1) := by decide +kernel
theorem dX1_listCall_83 : decode cX1_listCall 83 = .ok (.iadd, 1) := by decide +kernel
theorem dX1_listCall_84 : decode cX1_listCall 84 = .ok (.iload 6, 2) := by decide +kernel
theorem dX1_listCall_86 : decode cX1_listCall 86 = .ok (.iastore, 1) := by decide +kernel
theorem dX1_listCall_87 : decode cX1_listCall 87 = .ok (.aload_n 0, 1) := by decide +kernel
theorem dX1_listCall_88 : decode cX1_listCall 88 = .ok (.dup, 1) := by decide +kernel
theorem dX1_listCall_89 : decode cX1_listCall 89 = .ok (.getfield 37, 3) := by decide +kernel
theorem dX1_listCall_92 : decode cX1_listCall 92 = .ok (.iconst 1, 1) := by decide +kernel
theorem dX1_listCall_93 : decode cX1_listCall 93 = .ok (.iadd, 1) := by decide +kernel
theorem dX1_listCall_94 : decode cX1_listCall 94 = .ok (.putfield 37, 3) := by decide +kernel
theorem dX1_listCall_97 : decode cX1_listCall 97 = .ok (.return_, 1) := by decide +kernel
theorem dX1_setMark_0 : decode cX1_setMark 0 = .ok (.aload_n 0, 1) := by decide +kernel
theorem dX1_setMark_1 : decode cX1_setMark 1 = .ok (.getfield 31, 3) := by decide +kernel
theorem dX1_setMark_4 : decode cX1_setMark 4 = .ok (.ifCond .lt 13, 3) := by decide +kernel
theorem dX1_setMark_7 : decode cX1_setMark 7 = .ok (.aload_n 0, 1) := by decide +kernel
theorem dX1_setMark_8 : decode cX1_setMark 8 = .ok (.getfield 31, 3) := by decide +kernel
theorem dX1_setMark_11 : decode cX1_setMark 11 = .ok (.sipush 854, 3) := by decide +kernel
theorem dX1_setMark_14 : decode cX1_setMark 14 = .ok (.if_icmp .lt 9, 3) := by decide +kernel
theorem dX1_setMark_17 : decode cX1_setMark 17 = .ok (.aload_n 0, 1) := by decide +kernel
theorem dX1_setMark_18 : decode cX1_setMark 18 = .ok (.iconst 1, 1) := by decide +kernel
theorem dX1_setMark_19 : decode cX1_setMark 19 = .ok (.putfield 53, 3) := by decide +kernel
theorem dX1_setMark_22 : decode cX1_setMark 22 = .ok (.return_, 1) := by decide +kernel
theorem dX1_setMark_23 : decode cX1_setMark 23 = .ok (.aload_n 0, 1) := by decide +kernel
theorem dX1_setMark_24 : decode cX1_setMark 24 = .ok (.getfield 15, 3) := by decide +kernel
theorem dX1_setMark_27 : decode cX1_setMark 27 = .ok (.aload_n 0, 1) := by decide +kernel
theorem dX1_setMark_28 : decode cX1_setMark 28 = .ok (.getfield 31, 3) := by decide +kernel
theorem dX1_setMark_31 : decode cX1_setMark 31 = .ok (.aload_n 0, 1) := by decide +kernel
theorem dX1_setMark_32 : decode cX1_setMark 32 = .ok (.getfield 27, 3) := by decide +kernel
theorem dX1_setMark_35 : decode cX1_setMark 35 = .ok (.iastore, 1) := by decide +kernel
theorem dX1_setMark_36 : decode cX1_setMark 36 = .ok (.aload_n 0, 1) := by decide +kernel
theorem dX1_setMark_37 : decode cX1_setMark 37 = .ok (.dup, 1) := by decide +kernel
theorem dX1_setMark_38 : decode cX1_setMark 38 = .ok (.getfield 31, 3) := by decide +kernel
theorem dX1_setMark_41 : decode cX1_setMark 41 = .ok (.iconst 1, 1) := by decide +kernel
theorem dX1_setMark_42 : decode cX1_setMark 42 = .ok (.iadd, 1) := by decide +kernel
theorem dX1_setMark_43 : decode cX1_setMark 43 = .ok (.putfield 31, 3) := by decide +kernel
theorem dX1_setMark_46 : decode cX1_setMark 46 = .ok (.return_, 1) := by decide +kernel
theorem dX1_markAt_0 : decode cX1_markAt 0 = .ok (.iload_n 1, 1) := by decide +kernel
theorem dX1_markAt_1 : decode cX1_markAt 1 = .ok (.ifCond .lt 19, 3) := by decide +kernel
theorem dX1_markAt_4 : decode cX1_markAt 4 = .ok (.iload_n 1, 1) := by decide +kernel
theorem dX1_markAt_5 : decode cX1_markAt 5 = .ok (.sipush 854, 3) := by decide +kernel
theorem dX1_markAt_8 : decode cX1_markAt 8 = .ok (.if_icmp .ge 12, 3) := by decide +kernel
theorem dX1_markAt_11 : decode cX1_markAt 11 = .ok (.aload_n 0, 1) := by decide +kernel
theorem dX1_markAt_12 : decode cX1_markAt 12 = .ok (.getfield 15, 3) := by decide +kernel
theorem dX1_markAt_15 : decode cX1_markAt 15 = .ok (.iload_n 1, 1) := by decide +kernel
theorem dX1_markAt_16 : decode cX1_markAt 16 = .ok (.iaload, 1) := by decide +kernel
theorem dX1_markAt_17 : decode cX1_markAt 17 = .ok (.goto 7, 3) := by decide +kernel
theorem dX1_markAt_20 : decode cX1_markAt 20 = .ok (.aload_n 0, 1) := by decide +kernel
theorem dX1_markAt_21 : decode cX1_markAt 21 = .ok (.getfield 27, 3) := by decide +kernel
theorem dX1_markAt_24 : decode cX1_markAt 24 = .ok (.ireturn, 1) := by decide +kernel
theorem dX1_takesMore_0 : decode cX1_takesMore 0 = .ok (.aload_n 0, 1) := by decide +kernel
theorem dX1_takesMore_1 : decode cX1_takesMore 1 = .ok (.getfield 31, 3) := by decide +kernel
theorem dX1_takesMore_4 : decode cX1_takesMore 4 = .ok (.iconst 1, 1) := by decide +kernel
theorem dX1_takesMore_5 : decode cX1_takesMore 5 = .ok (.isub, 1) := by decide +kernel
theorem dX1_takesMore_6 : decode cX1_takesMore 6 = .ok (.istore_n 2, 1) := by decide +kernel
theorem dX1_takesMore_7 : decode cX1_takesMore 7 = .ok (.iload_n 2, 1) := by decide +kernel
theorem dX1_takesMore_8 : decode cX1_takesMore 8 = .ok (.ifCond .lt 19, 3) := by decide +kernel
theorem dX1_takesMore_11 : decode cX1_takesMore 11 = .ok (.iload_n 2, 1) := by decide +kernel
theorem dX1_takesMore_12 : decode cX1_takesMore 12 = .ok (.sipush 854, 3) := by decide +kernel
theorem dX1_takesMore_15 : decode cX1_takesMore 15 = .ok (.if_icmp .ge 12, 3) := by decide +kernel
theorem dX1_takesMore_18 : decode cX1_takesMore 18 = .ok (.aload_n 0, 1) := by decide +kernel
theorem dX1_takesMore_19 : decode cX1_takesMore 19 = .ok (.getfield 15, 3) := by decide +kernel
theorem dX1_takesMore_22 : decode cX1_takesMore 22 = .ok (.iload_n 2, 1) := by decide +kernel
theorem dX1_takesMore_23 : decode cX1_takesMore 23 = .ok (.iaload, 1) := by decide +kernel
theorem dX1_takesMore_24 : decode cX1_takesMore 24 = .ok (.goto 4, 3) := by decide +kernel
theorem dX1_takesMore_27 : decode cX1_takesMore 27 = .ok (.iconst 0, 1) := by decide +kernel
theorem dX1_takesMore_28 : decode cX1_takesMore 28 = .ok (.istore_n 3, 1) := by decide +kernel
theorem dX1_takesMore_29 : decode cX1_takesMore 29 = .ok (.aload_n 0, 1) := by decide +kernel
theorem dX1_takesMore_30 : decode cX1_takesMore 30 = .ok (.getfield 27, 3) := by decide +kernel
theorem dX1_takesMore_33 : decode cX1_takesMore 33 = .ok (.iload_n 1, 1) := by decide +kernel
theorem dX1_takesMore_34 : decode cX1_takesMore 34 = .ok (.iadd, 1) := by decide +kernel
theorem dX1_takesMore_35 : decode cX1_takesMore 35 = .ok (.iload_n 3, 1) := by decide +kernel
theorem dX1_takesMore_36 : decode cX1_takesMore 36 = .ok (.isub, 1) := by decide +kernel
theorem dX1_takesMore_37 : decode cX1_takesMore 37 = .ok (.sipush 200, 3) := by decide +kernel
theorem dX1_takesMore_40 : decode cX1_takesMore 40 = .ok (.if_icmp .gt 19, 3) := by decide +kernel
theorem dX1_takesMore_43 : decode cX1_takesMore 43 = .ok (.aload_n 0, 1) := by decide +kernel
theorem dX1_takesMore_44 : decode cX1_takesMore 44 = .ok (.getfield 27, 3) := by decide +kernel
theorem dX1_takesMore_47 : decode cX1_takesMore 47 = .ok (.iload_n 1, 1) := by decide +kernel
theorem dX1_takesMore_48 : decode cX1_takesMore 48 = .ok (.iadd, 1) := by decide +kernel
theorem dX1_takesMore_49 : decode cX1_takesMore 49 = .ok (.sipush 28380, 3) := by decide +kernel
theorem dX1_takesMore_52 : decode cX1_takesMore 52 = .ok (.if_icmp .gt 7, 3) := by decide +kernel
theorem dX1_takesMore_55 : decode cX1_takesMore 55 = .ok (.iconst 1, 1) := by decide +kernel
theorem dX1_takesMore_56 : decode cX1_takesMore 56 = .ok (.goto 4, 3) := by decide +kernel
theorem dX1_takesMore_59 : decode cX1_takesMore 59 = .ok (.iconst 0, 1) := by decide +kernel
theorem dX1_takesMore_60 : decode cX1_takesMore 60 = .ok (.ireturn, 1) := by decide +kernel
theorem dX1_writeSign_0 : decode cX1_writeSign 0 = .ok (.aload_n 0, 1) := by decide +kernel
theorem dX1_writeSign_1 : decode cX1_writeSign 1 = .ok (.iconst 1, 1) := by decide +kernel
theorem dX1_writeSign_2 : decode cX1_writeSign 2 = .ok (.invokevirtual 129, 3) := by decide +kernel
theorem dX1_writeSign_5 : decode cX1_writeSign 5 = .ok (.ifCond .ne 9, 3) := by decide +kernel
theorem dX1_writeSign_8 : decode cX1_writeSign 8 = .ok (.aload_n 0, 1) := by decide +kernel
theorem dX1_writeSign_9 : decode cX1_writeSign 9 = .ok (.iconst 1, 1) := by decide +kernel
theorem dX1_writeSign_10 : decode cX1_writeSign 10 = .ok (.putfield 53, 3) := by decide +kernel
theorem dX1_writeSign_13 : decode cX1_writeSign 13 = .ok (.return_, 1) := by decide +kernel
theorem dX1_writeSign_14 : decode cX1_writeSign 14 = .ok (.aload_n 0, 1) := by decide +kernel
theorem dX1_writeSign_15 : decode cX1_writeSign 15 = .ok (.getfield 49, 3) := by decide +kernel
theorem dX1_writeSign_18 : decode cX1_writeSign 18 = .ok (.ifCond .eq 20, 3) := by decide +kernel
theorem dX1_writeSign_21 : decode cX1_writeSign 21 = .ok (.aload_n 0, 1) := by decide +kernel
theorem dX1_writeSign_22 : decode cX1_writeSign 22 = .ok (.getfield 27, 3) := by decide +kernel
theorem dX1_writeSign_25 : decode cX1_writeSign 25 = .ok (.ifCond .lt 13, 3) := by decide +kernel
theorem dX1_writeSign_28 : decode cX1_writeSign 28 = .ok (.aload_n 0, 1) := by decide +kernel
theorem dX1_writeSign_29 : decode cX1_writeSign 29 = .ok (.getfield 11, 3) := by decide +kernel
theorem dX1_writeSign_32 : decode cX1_writeSign 32 = .ok (.aload_n 0, 1) := by decide +kernel
theorem dX1_writeSign_33 : decode cX1_writeSign 33 = .ok (.getfield 27, 3) := by decide +kernel
theorem dX1_writeSign_36 : decode cX1_writeSign 36 = .ok (.iload_n 1, 1) := by decide +kernel
theorem dX1_writeSign_37 : decode cX1_writeSign 37 = .ok (.iastore, 1) := by decide +kernel
theorem dX1_writeSign_38 : decode cX1_writeSign 38 = .ok (.aload_n 0, 1) := by decide +kernel
theorem dX1_writeSign_39 : decode cX1_writeSign 39 = .ok (.dup, 1) := by decide +kernel
theorem dX1_writeSign_40 : decode cX1_writeSign 40 = .ok (.getfield 27, 3) := by decide +kernel
theorem dX1_writeSign_43 : decode cX1_writeSign 43 = .ok (.iconst 1, 1) := by decide +kernel
theorem dX1_writeSign_44 : decode cX1_writeSign 44 = .ok (.iadd, 1) := by decide +kernel
theorem dX1_writeSign_45 : decode cX1_writeSign 45 = .ok (.putfield 27, 3) := by decide +kernel
theorem dX1_writeSign_48 : decode cX1_writeSign 48 = .ok (.return_, 1) := by decide +kernel
theorem dX1_writeCopy_0 : decode cX1_writeCopy 0 = .ok (.aload_n 0, 1) := by decide +kernel
theorem dX1_writeCopy_1 : decode cX1_writeCopy 1 = .ok (.iload_n 2, 1) := by decide +kernel
theorem dX1_writeCopy_2 : decode cX1_writeCopy 2 = .ok (.invokevirtual 129, 3) := by decide +kernel
theorem dX1_writeCopy_5 : decode cX1_writeCopy 5 = .ok (.ifCond .ne 9, 3) := by decide +kernel
theorem dX1_writeCopy_8 : decode cX1_writeCopy 8 = .ok (.aload_n 0, 1) := by decide +kernel
theorem dX1_writeCopy_9 : decode cX1_writeCopy 9 = .ok (.iconst 1, 1) := by decide +kernel
theorem dX1_writeCopy_10 : decode cX1_writeCopy 10 = .ok (.putfield 53, 3) := by decide +kernel
theorem dX1_writeCopy_13 : decode cX1_writeCopy 13 = .ok (.return_, 1) := by decide +kernel
theorem dX1_writeCopy_14 : decode cX1_writeCopy 14 = .ok (.aload_n 0, 1) := by decide +kernel
theorem dX1_writeCopy_15 : decode cX1_writeCopy 15 = .ok (.iload_n 1, 1) := by decide +kernel
theorem dX1_writeCopy_16 : decode cX1_writeCopy 16 = .ok (.aload_n 0, 1) := by decide +kernel
theorem dX1_writeCopy_17 : decode cX1_writeCopy 17 = .ok (.getfield 27, 3) := by decide +kernel
theorem dX1_writeCopy_20 : decode cX1_writeCopy 20 = .ok (.iload_n 2, 1) := by decide +kernel
theorem dX1_writeCopy_21 : decode cX1_writeCopy 21 = .ok (.invokevirtual 125, 3) := by decide +kernel
theorem dX1_writeCopy_24 : decode cX1_writeCopy 24 = .ok (.aload_n 0, 1) := by decide +kernel
theorem dX1_writeCopy_25 : decode cX1_writeCopy 25 = .ok (.dup, 1) := by decide +kernel
theorem dX1_writeCopy_26 : decode cX1_writeCopy 26 = .ok (.getfield 27, 3) := by decide +kernel
theorem dX1_writeCopy_29 : decode cX1_writeCopy 29 = .ok (.iload_n 2, 1) := by decide +kernel
theorem dX1_writeCopy_30 : decode cX1_writeCopy 30 = .ok (.iadd, 1) := by decide +kernel
theorem dX1_writeCopy_31 : decode cX1_writeCopy 31 = .ok (.putfield 27, 3) := by decide +kernel
theorem dX1_writeCopy_34 : decode cX1_writeCopy 34 = .ok (.return_, 1) := by decide +kernel
theorem dX1_moveSigns_0 : decode cX1_moveSigns 0 = .ok (.aload_n 0, 1) := by decide +kernel
theorem dX1_moveSigns_1 : decode cX1_moveSigns 1 = .ok (.getfield 49, 3) := by decide +kernel
theorem dX1_moveSigns_4 : decode cX1_moveSigns 4 = .ok (.ifCond .eq 11, 3) := by decide +kernel
theorem dX1_moveSigns_7 : decode cX1_moveSigns 7 = .ok (.iload_n 1, 1) := by decide +kernel
theorem dX1_moveSigns_8 : decode cX1_moveSigns 8 = .ok (.ifCond .lt 7, 3) := by decide +kernel
theorem dX1_moveSigns_11 : decode cX1_moveSigns 11 = .ok (.iload_n 2, 1) := by decide +kernel
theorem dX1_moveSigns_12 : decode cX1_moveSigns 12 = .ok (.ifCond .ge 4, 3) := by decide +kernel
theorem dX1_moveSigns_15 : decode cX1_moveSigns 15 = .ok (.return_, 1) := by decide +kernel
theorem dX1_moveSigns_16 : decode cX1_moveSigns 16 = .ok (.iconst 0, 1) := by decide +kernel
theorem dX1_moveSigns_17 : decode cX1_moveSigns 17 = .ok (.istore 4, 2) := by decide +kernel
theorem dX1_moveSigns_19 : decode cX1_moveSigns 19 = .ok (.iload 4, 2) := by decide +kernel
theorem dX1_moveSigns_21 : decode cX1_moveSigns 21 = .ok (.iload_n 3, 1) := by decide +kernel
theorem dX1_moveSigns_22 : decode cX1_moveSigns 22 = .ok (.if_icmp .ge 47, 3) := by decide +kernel
theorem dX1_moveSigns_25 : decode cX1_moveSigns 25 = .ok (.iload_n 1, 1) := by decide +kernel
theorem dX1_moveSigns_26 : decode cX1_moveSigns 26 = .ok (.iload 4, 2) := by decide +kernel
theorem dX1_moveSigns_28 : decode cX1_moveSigns 28 = .ok (.iadd, 1) := by decide +kernel
theorem dX1_moveSigns_29 : decode cX1_moveSigns 29 = .ok (.sipush 28380, 3) := by decide +kernel
theorem dX1_moveSigns_32 : decode cX1_moveSigns 32 = .ok (.if_icmp .ge 37, 3) := by decide +kernel
theorem dX1_moveSigns_35 : decode cX1_moveSigns 35 = .ok (.iload_n 2, 1) := by decide +kernel
theorem dX1_moveSigns_36 : decode cX1_moveSigns 36 = .ok (.iload 4, 2) := by decide +kernel
theorem dX1_moveSigns_38 : decode cX1_moveSigns 38 = .ok (.iadd, 1) := by decide +kernel
theorem dX1_moveSigns_39 : decode cX1_moveSigns 39 = .ok (.sipush 28380, 3) := by decide +kernel
theorem dX1_moveSigns_42 : decode cX1_moveSigns 42 = .ok (.if_icmp .ge 27, 3) := by decide +kernel
theorem dX1_moveSigns_45 : decode cX1_moveSigns 45 = .ok (.aload_n 0, 1) := by decide +kernel
theorem dX1_moveSigns_46 : decode cX1_moveSigns 46 = .ok (.getfield 11, 3) := by decide +kernel
theorem dX1_moveSigns_49 : decode cX1_moveSigns 49 = .ok (.iload_n 2, 1) := by decide +kernel
theorem dX1_moveSigns_50 : decode cX1_moveSigns 50 = .ok (.iload 4, 2) := by decide +kernel
theorem dX1_moveSigns_52 : decode cX1_moveSigns 52 = .ok (.iadd, 1) := by decide +kernel
theorem dX1_moveSigns_53 : decode cX1_moveSigns 53 = .ok (.aload_n 0, 1) := by decide +kernel
theorem dX1_moveSigns_54 : decode cX1_moveSigns 54 = .ok (.getfield 11, 3) := by decide +kernel
theorem dX1_moveSigns_57 : decode cX1_moveSigns 57 = .ok (.iload_n 1, 1) := by decide +kernel
theorem dX1_moveSigns_58 : decode cX1_moveSigns 58 = .ok (.iload 4, 2) := by decide +kernel
theorem dX1_moveSigns_60 : decode cX1_moveSigns 60 = .ok (.iadd, 1) := by decide +kernel
theorem dX1_moveSigns_61 : decode cX1_moveSigns 61 = .ok (.iaload, 1) := by decide +kernel
theorem dX1_moveSigns_62 : decode cX1_moveSigns 62 = .ok (.iastore, 1) := by decide +kernel
theorem dX1_moveSigns_63 : decode cX1_moveSigns 63 = .ok (.iinc 4 1, 3) := by decide +kernel
theorem dX1_moveSigns_66 : decode cX1_moveSigns 66 = .ok (.goto (-47), 3) := by decide +kernel
theorem dX1_moveSigns_69 : decode cX1_moveSigns 69 = .ok (.return_, 1) := by decide +kernel
theorem dX2_init_0 : decode cX2_init 0 = .ok (.aload_n 0, 1) := by decide +kernel
theorem dX2_init_1 : decode cX2_init 1 = .ok (.invokespecial 3, 3) := by decide +kernel
theorem dX2_init_4 : decode cX2_init 4 = .ok (.aload_n 0, 1) := by decide +kernel
theorem dX2_init_5 : decode cX2_init 5 = .ok (.bipush 6, 2) := by decide +kernel
theorem dX2_init_7 : decode cX2_init 7 = .ok (.anewarray 9, 3) := by decide +kernel
theorem dX2_init_10 : decode cX2_init 10 = .ok (.putfield 11, 3) := by decide +kernel
theorem dX2_init_13 : decode cX2_init 13 = .ok (.aload_n 0, 1) := by decide +kernel
theorem dX2_init_14 : decode cX2_init 14 = .ok (.iconst 2, 1) := by decide +kernel
theorem dX2_init_15 : decode cX2_init 15 = .ok (.anewarray 9, 3) := by decide +kernel
theorem dX2_init_18 : decode cX2_init 18 = .ok (.putfield 17, 3) := by decide +kernel
theorem dX2_init_21 : decode cX2_init 21 = .ok (.aload_n 0, 1) := by decide +kernel
theorem dX2_init_22 : decode cX2_init 22 = .ok (.iconst 0, 1) := by decide +kernel
theorem dX2_init_23 : decode cX2_init 23 = .ok (.putfield 20, 3) := by decide +kernel
theorem dX2_init_26 : decode cX2_init 26 = .ok (.aload_n 0, 1) := by decide +kernel
theorem dX2_init_27 : decode cX2_init 27 = .ok (.iconst 0, 1) := by decide +kernel
theorem dX2_init_28 : decode cX2_init 28 = .ok (.putfield 24, 3) := by decide +kernel
theorem dX2_init_31 : decode cX2_init 31 = .ok (.return_, 1) := by decide +kernel
theorem dX2_saveState_0 : decode cX2_saveState 0 = .ok (.aload_n 0, 1) := by decide +kernel
theorem dX2_saveState_1 : decode cX2_saveState 1 = .ok (.aload_n 0, 1) := by decide +kernel
theorem dX2_saveState_2 : decode cX2_saveState 2 = .ok (.getfield 20, 3) := by decide +kernel
theorem dX2_saveState_5 : decode cX2_saveState 5 = .ok (.iconst 1, 1) := by decide +kernel
theorem dX2_saveState_6 : decode cX2_saveState 6 = .ok (.iadd, 1) := by decide +kernel
theorem dX2_saveState_7 : decode cX2_saveState 7 = .ok (.bipush 6, 2) := by decide +kernel
theorem dX2_saveState_9 : decode cX2_saveState 9 = .ok (.if_icmp .ge 12, 3) := by decide +kernel
theorem dX2_saveState_12 : decode cX2_saveState 12 = .ok (.aload_n 0, 1) := by decide +kernel
theorem dX2_saveState_13 : decode cX2_saveState 13 = .ok (.getfield 20, 3) := by decide +kernel
theorem dX2_saveState_16 : decode cX2_saveState 16 = .ok (.iconst 1, 1) := by decide +kernel
theorem dX2_saveState_17 : decode cX2_saveState 17 = .ok (.iadd, 1) := by decide +kernel
theorem dX2_saveState_18 : decode cX2_saveState 18 = .ok (.goto 4, 3) := by decide +kernel
theorem dX2_saveState_21 : decode cX2_saveState 21 = .ok (.iconst 0, 1) := by decide +kernel
theorem dX2_saveState_22 : decode cX2_saveState 22 = .ok (.putfield 20, 3) := by decide +kernel
theorem dX2_saveState_25 : decode cX2_saveState 25 = .ok (.aload_n 0, 1) := by decide +kernel
theorem dX2_saveState_26 : decode cX2_saveState 26 = .ok (.getfield 11, 3) := by decide +kernel
theorem dX2_saveState_29 : decode cX2_saveState 29 = .ok (.aload_n 0, 1) := by decide +kernel
theorem dX2_saveState_30 : decode cX2_saveState 30 = .ok (.getfield 20, 3) := by decide +kernel
theorem dX2_saveState_33 : decode cX2_saveState 33 = .ok (.aload_n 1, 1) := by decide +kernel
theorem dX2_saveState_34 : decode cX2_saveState 34 = .ok (.invokestatic 27, 3) := by decide +kernel
theorem dX2_saveState_37 : decode cX2_saveState 37 = .ok (.aload_n 0, 1) := by decide +kernel
theorem dX2_saveState_38 : decode cX2_saveState 38 = .ok (.getfield 24, 3) := by decide +kernel
theorem dX2_saveState_41 : decode cX2_saveState 41 = .ok (.bipush 6, 2) := by decide +kernel
theorem dX2_saveState_43 : decode cX2_saveState 43 = .ok (.if_icmp .ge 13, 3) := by decide +kernel
theorem dX2_saveState_46 : decode cX2_saveState 46 = .ok (.aload_n 0, 1) := by decide +kernel
theorem dX2_saveState_47 : decode cX2_saveState 47 = .ok (.dup, 1) := by decide +kernel
theorem dX2_saveState_48 : decode cX2_saveState 48 = .ok (.getfield 24, 3) := by decide +kernel
theorem dX2_saveState_51 : decode cX2_saveState 51 = .ok (.iconst 1, 1) := by decide +kernel
theorem dX2_saveState_52 : decode cX2_saveState 52 = .ok (.iadd, 1) := by decide +kernel
theorem dX2_saveState_53 : decode cX2_saveState 53 = .ok (.putfield 24, 3) := by decide +kernel
theorem dX2_saveState_56 : decode cX2_saveState 56 = .ok (.return_, 1) := by decide +kernel
theorem dX2_restoreSaved_0 : decode cX2_restoreSaved 0 = .ok (.aload_n 0, 1) := by decide +kernel
theorem dX2_restoreSaved_1 : decode cX2_restoreSaved 1 = .ok (.getfield 24, 3) := by decide +kernel
theorem dX2_restoreSaved_4 : decode cX2_restoreSaved 4 = .ok (.ifCond .le 22, 3) := by decide +kernel
theorem dX2_restoreSaved_7 : decode cX2_restoreSaved 7 = .ok (.aload_n 0, 1) := by decide +kernel
theorem dX2_restoreSaved_8 : decode cX2_restoreSaved 8 = .ok (.getfield 20, 3) := by decide +kernel
theorem dX2_restoreSaved_11 : decode cX2_restoreSaved 11 = .ok (.ifCond .lt 15, 3) := by decide +kernel
theorem dX2_restoreSaved_14 : decode cX2_restoreSaved 14 = .ok (.aload_n 0, 1) := by decide +kernel
theorem dX2_restoreSaved_15 : decode cX2_restoreSaved 15 = .ok (.getfield 20, 3) := by decide +kernel
theorem dX2_restoreSaved_18 : decode cX2_restoreSaved 18 = .ok (.aload_n 0, 1) := by decide +kernel
theorem dX2_restoreSaved_19 : decode cX2_restoreSaved 19 = .ok (.getfield 11, 3) := by decide +kernel
theorem dX2_restoreSaved_22 : decode cX2_restoreSaved 22 = .ok (.arraylength, 1) := by decide +kernel
theorem dX2_restoreSaved_23 : decode cX2_restoreSaved 23 = .ok (.if_icmp .lt 5, 3) := by decide +kernel
theorem dX2_restoreSaved_26 : decode cX2_restoreSaved 26 = .ok (.iconst 0, 1) := by decide +kernel
theorem dX2_restoreSaved_27 : decode cX2_restoreSaved 27 = .ok (.ireturn, 1) := by decide +kernel
theorem dX2_restoreSaved_28 : decode cX2_restoreSaved 28 = .ok (.aload_n 0, 1) := by decide +kernel
theorem dX2_restoreSaved_29 : decode cX2_restoreSaved 29 = .ok (.getfield 11, 3) := by decide +kernel
theorem dX2_restoreSaved_32 : decode cX2_restoreSaved 32 = .ok (.aload_n 0, 1) := by decide +kernel
theorem dX2_restoreSaved_33 : decode cX2_restoreSaved 33 = .ok (.getfield 20, 3) := by decide +kernel
theorem dX2_restoreSaved_36 : decode cX2_restoreSaved 36 = .ok (.aaload, 1) := by decide +kernel
theorem dX2_restoreSaved_37 : decode cX2_restoreSaved 37 = .ok (.astore_n 2, 1) := by decide +kernel
theorem dX2_restoreSaved_38 : decode cX2_restoreSaved 38 = .ok (.aload_n 2, 1) := by decide +kernel
theorem dX2_restoreSaved_39 : decode cX2_restoreSaved 39 = .ok (.ifnonnull 5, 3) := by decide +kernel
theorem dX2_restoreSaved_42 : decode cX2_restoreSaved 42 = .ok (.iconst 0, 1) := by decide +kernel
theorem dX2_restoreSaved_43 : decode cX2_restoreSaved 43 = .ok (.ireturn, 1) := by decide +kernel
theorem dX2_restoreSaved_44 : decode cX2_restoreSaved 44 = .ok (.aload_n 1, 1) := by decide +kernel
theorem dX2_restoreSaved_45 : decode cX2_restoreSaved 45 = .ok (.aload_n 2, 1) := by decide +kernel
theorem dX2_restoreSaved_46 : decode cX2_restoreSaved 46 = .ok (.invokevirtual 31, 3) := by decide +kernel
theorem dX2_restoreSaved_49 : decode cX2_restoreSaved 49 = .ok (.aload_n 0, 1) := by decide +kernel
theorem dX2_restoreSaved_50 : decode cX2_restoreSaved 50 = .ok (.aload_n 0, 1) := by decide +kernel
theorem dX2_restoreSaved_51 : decode cX2_restoreSaved 51 = .ok (.getfield 20, 3) := by decide +kernel
theorem dX2_restoreSaved_54 : decode cX2_restoreSaved 54 = .ok (.ifCond .le 12, 3) := by decide +kernel
theorem dX2_restoreSaved_57 : decode cX2_restoreSaved 57 = .ok (.aload_n 0, 1) := by decide +kernel
theorem dX2_restoreSaved_58 : decode cX2_restoreSaved 58 = .ok (.getfield 20, 3) := by decide +kernel
theorem dX2_restoreSaved_61 : decode cX2_restoreSaved 61 = .ok (.iconst 1, 1) := by decide +kernel
theorem dX2_restoreSaved_62 : decode cX2_restoreSaved 62 = .ok (.isub, 1) := by decide +kernel
theorem dX2_restoreSaved_63 : decode cX2_restoreSaved 63 = .ok (.goto 4, 3) := by decide +kernel
theorem dX2_restoreSaved_66 : decode cX2_restoreSaved 66 = .ok (.iconst 5, 1) := by decide +kernel
theorem dX2_restoreSaved_67 : decode cX2_restoreSaved 67 = .ok (.putfield 20, 3) := by decide +kernel
theorem dX2_restoreSaved_70 : decode cX2_restoreSaved 70 = .ok (.aload_n 0, 1) := by decide +kernel
theorem dX2_restoreSaved_71 : decode cX2_restoreSaved 71 = .ok (.dup, 1) := by decide +kernel
theorem dX2_restoreSaved_72 : decode cX2_restoreSaved 72 = .ok (.getfield 24, 3) := by decide +kernel
theorem dX2_restoreSaved_75 : decode cX2_restoreSaved 75 = .ok (.iconst 1, 1) := by decide +kernel
theorem dX2_restoreSaved_76 : decode cX2_restoreSaved 76 = .ok (.isub, 1) := by decide +kernel
theorem dX2_restoreSaved_77 : decode cX2_restoreSaved 77 = .ok (.putfield 24, 3) := by decide +kernel
theorem dX2_restoreSaved_80 : decode cX2_restoreSaved 80 = .ok (.iconst 1, 1) := by decide +kernel
theorem dX2_restoreSaved_81 : decode cX2_restoreSaved 81 = .ok (.ireturn, 1) := by decide +kernel
theorem dX2_takeSnapshot_0 : decode cX2_takeSnapshot 0 = .ok (.aload_n 0, 1) := by decide +kernel
theorem dX2_takeSnapshot_1 : decode cX2_takeSnapshot 1 = .ok (.getfield 17, 3) := by decide +kernel
theorem dX2_takeSnapshot_4 : decode cX2_takeSnapshot 4 = .ok (.iload_n 1, 1) := by decide +kernel
theorem dX2_takeSnapshot_5 : decode cX2_takeSnapshot 5 = .ok (.aload_n 2, 1) := by decide +kernel
theorem dX2_takeSnapshot_6 : decode cX2_takeSnapshot 6 = .ok (.invokestatic 27, 3) := by decide +kernel
theorem dX2_takeSnapshot_9 : decode cX2_takeSnapshot 9 = .ok (.return_, 1) := by decide +kernel
theorem dX2_snapshotIn_0 : decode cX2_snapshotIn 0 = .ok (.iload_n 1, 1) := by decide +kernel
theorem dX2_snapshotIn_1 : decode cX2_snapshotIn 1 = .ok (.ifCond .lt 21, 3) := by decide +kernel
theorem dX2_snapshotIn_4 : decode cX2_snapshotIn 4 = .ok (.iload_n 1, 1) := by decide +kernel
theorem dX2_snapshotIn_5 : decode cX2_snapshotIn 5 = .ok (.aload_n 0, 1) := by decide +kernel
theorem dX2_snapshotIn_6 : decode cX2_snapshotIn 6 = .ok (.getfield 17, 3) := by decide +kernel
theorem dX2_snapshotIn_9 : decode cX2_snapshotIn 9 = .ok (.arraylength, 1) := by decide +kernel
theorem dX2_snapshotIn_10 : decode cX2_snapshotIn 10 = .ok (.if_icmp .ge 12, 3) := by decide +kernel
theorem dX2_snapshotIn_13 : decode cX2_snapshotIn 13 = .ok (.aload_n 0, 1) := by decide +kernel
theorem dX2_snapshotIn_14 : decode cX2_snapshotIn 14 = .ok (.getfield 17, 3) := by decide +kernel
theorem dX2_snapshotIn_17 : decode cX2_snapshotIn 17 = .ok (.iload_n 1, 1) := by decide +kernel
theorem dX2_snapshotIn_18 : decode cX2_snapshotIn 18 = .ok (.aaload, 1) := by decide +kernel
theorem dX2_snapshotIn_19 : decode cX2_snapshotIn 19 = .ok (.goto 4, 3) := by decide +kernel
theorem dX2_snapshotIn_22 : decode cX2_snapshotIn 22 = .ok (.aconst_null, 1) := by decide +kernel
theorem dX2_snapshotIn_23 : decode cX2_snapshotIn 23 = .ok (.areturn, 1) := by decide +kernel
theorem dX2_copyInto_0 : decode cX2_copyInto 0 = .ok (.iload_n 1, 1) := by decide +kernel
theorem dX2_copyInto_1 : decode cX2_copyInto 1 = .ok (.ifCond .lt 9, 3) := by decide +kernel
theorem dX2_copyInto_4 : decode cX2_copyInto 4 = .ok (.iload_n 1, 1) := by decide +kernel
theorem dX2_copyInto_5 : decode cX2_copyInto 5 = .ok (.aload_n 0, 1) := by decide +kernel
theorem dX2_copyInto_6 : decode cX2_copyInto 6 = .ok (.arraylength, 1) := by decide +kernel
theorem dX2_copyInto_7 : decode cX2_copyInto 7 = .ok (.if_icmp .lt 4, 3) := by decide +kernel
theorem dX2_copyInto_10 : decode cX2_copyInto 10 = .ok (.return_, 1) := by decide +kernel
theorem dX2_copyInto_11 : decode cX2_copyInto 11 = .ok (.aload_n 0, 1) := by decide +kernel
theorem dX2_copyInto_12 : decode cX2_copyInto 12 = .ok (.iload_n 1, 1) := by decide +kernel
theorem dX2_copyInto_13 : decode cX2_copyInto 13 = .ok (.aaload, 1) := by decide +kernel
theorem dX2_copyInto_14 : decode cX2_copyInto 14 = .ok (.astore_n 3, 1) := by decide +kernel
theorem dX2_copyInto_15 : decode cX2_copyInto 15 = .ok (.aload_n 3, 1) := by decide +kernel
theorem dX2_copyInto_16 : decode cX2_copyInto 16 = .ok (.ifnonnull 15, 3) := by decide +kernel
theorem dX2_copyInto_19 : decode cX2_copyInto 19 = .ok (.new 9, 3) := by decide +kernel
theorem dX2_copyInto_22 : decode cX2_copyInto 22 = .ok (.dup, 1) := by decide +kernel
theorem dX2_copyInto_23 : decode cX2_copyInto 23 = .ok (.invokespecial 35, 3) := by decide +kernel
theorem dX2_copyInto_26 : decode cX2_copyInto 26 = .ok (.astore_n 3, 1) := by decide +kernel
theorem dX2_copyInto_27 : decode cX2_copyInto 27 = .ok (.aload_n 0, 1) := by decide +kernel
theorem dX2_copyInto_28 : decode cX2_copyInto 28 = .ok (.iload_n 1, 1) := by decide +kernel
theorem dX2_copyInto_29 : decode cX2_copyInto 29 = .ok (.aload_n 3, 1) := by decide +kernel
theorem dX2_copyInto_30 : decode cX2_copyInto 30 = .ok (.aastore, 1) := by decide +kernel
theorem dX2_copyInto_31 : decode cX2_copyInto 31 = .ok (.aload_n 3, 1) := by decide +kernel
theorem dX2_copyInto_32 : decode cX2_copyInto 32 = .ok (.aload_n 2, 1) := by decide +kernel
theorem dX2_copyInto_33 : decode cX2_copyInto 33 = .ok (.invokevirtual 31, 3) := by decide +kernel
theorem dX2_copyInto_36 : decode cX2_copyInto 36 = .ok (.return_, 1) := by decide +kernel
theorem dX3_init_0 : decode cX3_init 0 = .ok (.aload_n 0, 1) := by decide +kernel
theorem dX3_init_1 : decode cX3_init 1 = .ok (.invokespecial 3, 3) := by decide +kernel
theorem dX3_init_4 : decode cX3_init 4 = .ok (.aload_n 0, 1) := by decide +kernel
theorem dX3_init_5 : decode cX3_init 5 = .ok (.aload_n 1, 1) := by decide +kernel
theorem dX3_init_6 : decode cX3_init 6 = .ok (.putfield 9, 3) := by decide +kernel
theorem dX3_init_9 : decode cX3_init 9 = .ok (.aload_n 0, 1) := by decide +kernel
theorem dX3_init_10 : decode cX3_init 10 = .ok (.aload_n 2, 1) := by decide +kernel
theorem dX3_init_11 : decode cX3_init 11 = .ok (.putfield 15, 3) := by decide +kernel
theorem dX3_init_14 : decode cX3_init 14 = .ok (.aload_n 0, 1) := by decide +kernel
theorem dX3_init_15 : decode cX3_init 15 = .ok (.iload_n 3, 1) := by decide +kernel
theorem dX3_init_16 : decode cX3_init 16 = .ok (.putfield 18, 3) := by decide +kernel
theorem dX3_init_19 : decode cX3_init 19 = .ok (.aload_n 0, 1) := by decide +kernel
theorem dX3_init_20 : decode cX3_init 20 = .ok (.iload 4, 2) := by decide +kernel
theorem dX3_init_22 : decode cX3_init 22 = .ok (.putfield 22, 3) := by decide +kernel
theorem dX3_init_25 : decode cX3_init 25 = .ok (.return_, 1) := by decide +kernel
theorem dX3_occurrencesOf_0 : decode cX3_occurrencesOf 0 = .ok (.iconst 0, 1) := by decide +kernel
theorem dX3_occurrencesOf_1 : decode cX3_occurrencesOf 1 = .ok (.istore_n 2, 1) := by decide +kernel
theorem dX3_occurrencesOf_2 : decode cX3_occurrencesOf 2 = .ok (.iconst 0, 1) := by decide +kernel
theorem dX3_occurrencesOf_3 : decode cX3_occurrencesOf 3 = .ok (.istore_n 3, 1) := by decide +kernel
theorem dX3_occurrencesOf_4 : decode cX3_occurrencesOf 4 = .ok (.iload_n 3, 1) := by decide +kernel
theorem dX3_occurrencesOf_5 : decode cX3_occurrencesOf 5 = .ok (.aload_n 0, 1) := by decide +kernel
theorem dX3_occurrencesOf_6 : decode cX3_occurrencesOf 6 = .ok (.getfield 9, 3) := by decide +kernel
theorem dX3_occurrencesOf_9 : decode cX3_occurrencesOf 9 = .ok (.arraylength, 1) := by decide +kernel
theorem dX3_occurrencesOf_10 : decode cX3_occurrencesOf 10 = .ok (.if_icmp .ge 22, 3) := by decide +kernel
theorem dX3_occurrencesOf_13 : decode cX3_occurrencesOf 13 = .ok (.aload_n 0, 1) := by decide +kernel
theorem dX3_occurrencesOf_14 : decode cX3_occurrencesOf 14 = .ok (.getfield 9, 3) := by decide +kernel
theorem dX3_occurrencesOf_17 : decode cX3_occurrencesOf 17 = .ok (.iload_n 3, 1) := by decide +kernel
theorem dX3_occurrencesOf_18 : decode cX3_occurrencesOf 18 = .ok (.iaload, 1) := by decide +kernel
theorem dX3_occurrencesOf_19 : decode cX3_occurrencesOf 19 = .ok (.iload_n 1, 1) := by decide +kernel
theorem dX3_occurrencesOf_20 : decode cX3_occurrencesOf 20 = .ok (.if_icmp .ne 6, 3) := by decide +kernel
theorem dX3_occurrencesOf_23 : decode cX3_occurrencesOf 23 = .ok (.iinc 2 1, 3) := by decide +kernel
theorem dX3_occurrencesOf_26 : decode cX3_occurrencesOf 26 = .ok (.iinc 3 1, 3) := by decide +kernel
theorem dX3_occurrencesOf_29 : decode cX3_occurrencesOf 29 = .ok (.goto (-25), 3) := by decide +kernel
theorem dX3_occurrencesOf_32 : decode cX3_occurrencesOf 32 = .ok (.iload_n 2, 1) := by decide +kernel
theorem dX3_occurrencesOf_33 : decode cX3_occurrencesOf 33 = .ok (.ireturn, 1) := by decide +kernel
theorem dX3_listedCalls_0 : decode cX3_listedCalls 0 = .ok (.aload_n 0, 1) := by decide +kernel
theorem dX3_listedCalls_1 : decode cX3_listedCalls 1 = .ok (.getfield 15, 3) := by decide +kernel
theorem dX3_listedCalls_4 : decode cX3_listedCalls 4 = .ok (.arraylength, 1) := by decide +kernel
theorem dX3_listedCalls_5 : decode cX3_listedCalls 5 = .ok (.bipush 6, 2) := by decide +kernel
theorem dX3_listedCalls_7 : decode cX3_listedCalls 7 = .ok (.idiv, 1) := by decide +kernel
theorem dX3_listedCalls_8 : decode cX3_listedCalls 8 = .ok (.ireturn, 1) := by decide +kernel
theorem dX3_numberOfCall_0 : decode cX3_numberOfCall 0 = .ok (.iload_n 1, 1) := by decide +kernel
theorem dX3_numberOfCall_1 : decode cX3_numberOfCall 1 = .ok (.ifCond .lt 21, 3) := by decide +kernel
theorem dX3_numberOfCall_4 : decode cX3_numberOfCall 4 = .ok (.iload_n 1, 1) := by decide +kernel
theorem dX3_numberOfCall_5 : decode cX3_numberOfCall 5 = .ok (.aload_n 0, 1) := by decide +kernel
theorem dX3_numberOfCall_6 : decode cX3_numberOfCall 6 = .ok (.invokevirtual 25, 3) := by decide +kernel
theorem dX3_numberOfCall_9 : decode cX3_numberOfCall 9 = .ok (.if_icmp .ge 13, 3) := by decide +kernel
theorem dX3_numberOfCall_12 : decode cX3_numberOfCall 12 = .ok (.iload_n 2, 1) := by decide +kernel
theorem dX3_numberOfCall_13 : decode cX3_numberOfCall 13 = .ok (.ifCond .lt 9, 3) := by decide +kernel
theorem dX3_numberOfCall_16 : decode cX3_numberOfCall 16 = .ok (.iload_n 2, 1) := by decide +kernel
theorem dX3_numberOfCall_17 : decode cX3_numberOfCall 17 = .ok (.bipush 6, 2) := by decide +kernel
theorem dX3_numberOfCall_19 : decode cX3_numberOfCall 19 = .ok (.if_icmp .lt 5, 3) := by decide +kernel
theorem dX3_numberOfCall_22 : decode cX3_numberOfCall 22 = .ok (.iconst (-1), 1) := by decide +kernel
theorem dX3_numberOfCall_23 : decode cX3_numberOfCall 23 = .ok (.ireturn, 1) := by decide +kernel
theorem dX3_numberOfCall_24 : decode cX3_numberOfCall 24 = .ok (.aload_n 0, 1) := by decide +kernel
theorem dX3_numberOfCall_25 : decode cX3_numberOfCall 25 = .ok (.getfield 15, 3) := by decide +kernel
theorem dX3_numberOfCall_28 : decode cX3_numberOfCall 28 = .ok (.iload_n 1, 1) := by decide +kernel
theorem dX3_numberOfCall_29 : decode cX3_numberOfCall 29 = .ok (.bipush 6, 2) := by decide +kernel
theorem dX3_numberOfCall_31 : decode cX3_numberOfCall 31 = .ok (.imul, 1) := by decide +kernel
theorem dX3_numberOfCall_32 : decode cX3_numberOfCall 32 = .ok (.iload_n 2, 1) := by decide +kernel
theorem dX3_numberOfCall_33 : decode cX3_numberOfCall 33 = .ok (.iadd, 1) := by decide +kernel
theorem dX3_numberOfCall_34 : decode cX3_numberOfCall 34 = .ok (.iaload, 1) := by decide +kernel
theorem dX3_numberOfCall_35 : decode cX3_numberOfCall 35 = .ok (.ireturn, 1) := by decide +kernel
theorem dX4_init_0 : decode cX4_init 0 = .ok (.aload_n 0, 1) := by decide +kernel
theorem dX4_init_1 : decode cX4_init 1 = .ok (.invokespecial 3, 3) := by decide +kernel
theorem dX4_init_4 : decode cX4_init 4 = .ok (.aload_n 0, 1) := by decide +kernel
theorem dX4_init_5 : decode cX4_init 5 = .ok (.bipush 60, 2) := by decide +kernel
theorem dX4_init_7 : decode cX4_init 7 = .ok (.newarray .int, 2) := by decide +kernel
theorem dX4_init_9 : decode cX4_init 9 = .ok (.putfield 9, 3) := by decide +kernel
theorem dX4_init_12 : decode cX4_init 12 = .ok (.aload_n 0, 1) := by decide +kernel
theorem dX4_init_13 : decode cX4_init 13 = .ok (.iconst 0, 1) := by decide +kernel
theorem dX4_init_14 : decode cX4_init 14 = .ok (.putfield 15, 3) := by decide +kernel
theorem dX4_init_17 : decode cX4_init 17 = .ok (.aload_n 0, 1) := by decide +kernel
theorem dX4_init_18 : decode cX4_init 18 = .ok (.iconst 0, 1) := by decide +kernel
theorem dX4_init_19 : decode cX4_init 19 = .ok (.putfield 19, 3) := by decide +kernel
theorem dX4_init_22 : decode cX4_init 22 = .ok (.aload_n 0, 1) := by decide +kernel
theorem dX4_init_23 : decode cX4_init 23 = .ok (.iconst 0, 1) := by decide +kernel
theorem dX4_init_24 : decode cX4_init 24 = .ok (.putfield 22, 3) := by decide +kernel
theorem dX4_init_27 : decode cX4_init 27 = .ok (.aload_n 0, 1) := by decide +kernel
theorem dX4_init_28 : decode cX4_init 28 = .ok (.iconst 0, 1) := by decide +kernel
theorem dX4_init_29 : decode cX4_init 29 = .ok (.putfield 25, 3) := by decide +kernel
theorem dX4_init_32 : decode cX4_init 32 = .ok (.aload_n 0, 1) := by decide +kernel
theorem dX4_init_33 : decode cX4_init 33 = .ok (.iconst 0, 1) := by decide +kernel
theorem dX4_init_34 : decode cX4_init 34 = .ok (.putfield 28, 3) := by decide +kernel
theorem dX4_init_37 : decode cX4_init 37 = .ok (.aload_n 0, 1) := by decide +kernel
theorem dX4_init_38 : decode cX4_init 38 = .ok (.iconst 0, 1) := by decide +kernel
theorem dX4_init_39 : decode cX4_init 39 = .ok (.putfield 31, 3) := by decide +kernel
theorem dX4_init_42 : decode cX4_init 42 = .ok (.aload_n 0, 1) := by decide +kernel
theorem dX4_init_43 : decode cX4_init 43 = .ok (.iconst 0, 1) := by decide +kernel
theorem dX4_init_44 : decode cX4_init 44 = .ok (.putfield 34, 3) := by decide +kernel
theorem dX4_init_47 : decode cX4_init 47 = .ok (.aload_n 0, 1) := by decide +kernel
theorem dX4_init_48 : decode cX4_init 48 = .ok (.iconst 0, 1) := by decide +kernel
theorem dX4_init_49 : decode cX4_init 49 = .ok (.putfield 37, 3) := by decide +kernel
theorem dX4_init_52 : decode cX4_init 52 = .ok (.aload_n 0, 1) := by decide +kernel
theorem dX4_init_53 : decode cX4_init 53 = .ok (.iconst 0, 1) := by decide +kernel
theorem dX4_init_54 : decode cX4_init 54 = .ok (.putfield 40, 3) := by decide +kernel
theorem dX4_init_57 : decode cX4_init 57 = .ok (.return_, 1) := by decide +kernel
theorem dX4_readText_0 : decode cX4_readText 0 = .ok (.aload_n 0, 1) := by decide +kernel
theorem dX4_readText_1 : decode cX4_readText 1 = .ok (.iload_n 2, 1) := by decide +kernel
theorem dX4_readText_2 : decode cX4_readText 2 = .ok (.invokevirtual 43, 3) := by decide +kernel
theorem dX4_readText_5 : decode cX4_readText 5 = .ok (.iconst 0, 1) := by decide +kernel
theorem dX4_readText_6 : decode cX4_readText 6 = .ok (.istore_n 3, 1) := by decide +kernel
theorem dX4_readText_7 : decode cX4_readText 7 = .ok (.iconst 0, 1) := by decide +kernel
theorem dX4_readText_8 : decode cX4_readText 8 = .ok (.istore 4, 2) := by decide +kernel
theorem dX4_readText_10 : decode cX4_readText 10 = .ok (.iload 4, 2) := by decide +kernel
theorem dX4_readText_12 : decode cX4_readText 12 = .ok (.iload_n 2, 1) := by decide +kernel
theorem dX4_readText_13 : decode cX4_readText 13 = .ok (.if_icmp .ge 42, 3) := by decide +kernel
theorem dX4_readText_16 : decode cX4_readText 16 = .ok (.iload 4, 2) := by decide +kernel
theorem dX4_readText_18 : decode cX4_readText 18 = .ok (.aload_n 1, 1) := by decide +kernel
theorem dX4_readText_19 : decode cX4_readText 19 = .ok (.arraylength, 1) := by decide +kernel
theorem dX4_readText_20 : decode cX4_readText 20 = .ok (.if_icmp .ge 35, 3) := by decide +kernel
theorem dX4_readText_23 : decode cX4_readText 23 = .ok (.aload_n 0, 1) := by decide +kernel
theorem dX4_readText_24 : decode cX4_readText 24 = .ok (.aload_n 1, 1) := by decide +kernel
theorem dX4_readText_25 : decode cX4_readText 25 = .ok (.iload 4, 2) := by decide +kernel
theorem dX4_readText_27 : decode cX4_readText 27 = .ok (.iaload, 1) := by decide +kernel
theorem dX4_readText_28 : decode cX4_readText 28 = .ok (.iload_n 3, 1) := by decide +kernel
theorem dX4_readText_29 : decode cX4_readText 29 = .ok (.invokevirtual 47, 3) := by decide +kernel
theorem dX4_readText_32 : decode cX4_readText 32 = .ok (.ifCond .ne 4, 3) := by decide +kernel
theorem dX4_readText_35 : decode cX4_readText 35 = .ok (.return_, 1) := by decide +kernel
theorem dX4_readText_36 : decode cX4_readText 36 = .ok (.aload_n 1, 1) := by decide +kernel
theorem dX4_readText_37 : decode cX4_readText 37 = .ok (.iload 4, 2) := by decide +kernel
theorem dX4_readText_39 : decode cX4_readText 39 = .ok (.iaload, 1) := by decide +kernel
theorem dX4_readText_40 : decode cX4_readText 40 = .ok (.istore_n 3, 1) := by decide +kernel
theorem dX4_readText_41 : decode cX4_readText 41 = .ok (.aload_n 0, 1) := by decide +kernel
theorem dX4_readText_42 : decode cX4_readText 42 = .ok (.iload 4, 2) := by decide +kernel
theorem dX4_readText_44 : decode cX4_readText 44 = .ok (.iconst 1, 1) := by decide +kernel
theorem dX4_readText_45 : decode cX4_readText 45 = .ok (.iadd, 1) := by decide +kernel
theorem dX4_readText_46 : decode cX4_readText 46 = .ok (.putfield 22, 3) := by decide +kernel
theorem dX4_readText_49 : decode cX4_readText 49 = .ok (.iinc 4 1, 3) := by decide +kernel
theorem dX4_readText_52 : decode cX4_readText 52 = .ok (.goto (-42), 3) := by decide +kernel
theorem dX4_readText_55 : decode cX4_readText 55 = .ok (.return_, 1) := by decide +kernel
theorem dX4_isComplete_0 : decode cX4_isComplete 0 = .ok (.aload_n 0, 1) := by decide +kernel
theorem dX4_isComplete_1 : decode cX4_isComplete 1 = .ok (.getfield 22, 3) := by decide +kernel
theorem dX4_isComplete_4 : decode cX4_isComplete 4 = .ok (.aload_n 0, 1) := by decide +kernel
theorem dX4_isComplete_5 : decode cX4_isComplete 5 = .ok (.getfield 19, 3) := by decide +kernel
theorem dX4_isComplete_8 : decode cX4_isComplete 8 = .ok (.if_icmp .ne 14, 3) := by decide +kernel
theorem dX4_isComplete_11 : decode cX4_isComplete 11 = .ok (.aload_n 0, 1) := by decide +kernel
theorem dX4_isComplete_12 : decode cX4_isComplete 12 = .ok (.getfield 15, 3) := by decide +kernel
theorem dX4_isComplete_15 : decode cX4_isComplete 15 = .ok (.ifCond .ne 7, 3) := by decide +kernel
theorem dX4_isComplete_18 : decode cX4_isComplete 18 = .ok (.iconst 1, 1) := by decide +kernel
theorem dX4_isComplete_19 : decode cX4_isComplete 19 = .ok (.goto 4, 3) := by decide +kernel
theorem dX4_isComplete_22 : decode cX4_isComplete 22 = .ok (.iconst 0, 1) := by decide +kernel
theorem dX4_isComplete_23 : decode cX4_isComplete 23 = .ok (.ireturn, 1) := by decide +kernel
theorem dX4_startOver_0 : decode cX4_startOver 0 = .ok (.aload_n 0, 1) := by decide +kernel
theorem dX4_startOver_1 : decode cX4_startOver 1 = .ok (.iload_n 1, 1) := by decide +kernel
theorem dX4_startOver_2 : decode cX4_startOver 2 = .ok (.putfield 19, 3) := by decide +kernel
theorem dX4_startOver_5 : decode cX4_startOver 5 = .ok (.aload_n 0, 1) := by decide +kernel
theorem dX4_startOver_6 : decode cX4_startOver 6 = .ok (.iconst 0, 1) := by decide +kernel
theorem dX4_startOver_7 : decode cX4_startOver 7 = .ok (.putfield 22, 3) := by decide +kernel
theorem dX4_startOver_10 : decode cX4_startOver 10 = .ok (.aload_n 0, 1) := by decide +kernel
theorem dX4_startOver_11 : decode cX4_startOver 11 = .ok (.iconst 0, 1) := by decide +kernel
theorem dX4_startOver_12 : decode cX4_startOver 12 = .ok (.putfield 15, 3) := by decide +kernel
theorem dX4_startOver_15 : decode cX4_startOver 15 = .ok (.aload_n 0, 1) := by decide +kernel
theorem dX4_startOver_16 : decode cX4_startOver 16 = .ok (.iconst 0, 1) := by decide +kernel
theorem dX4_startOver_17 : decode cX4_startOver 17 = .ok (.putfield 25, 3) := by decide +kernel
theorem dX4_startOver_20 : decode cX4_startOver 20 = .ok (.aload_n 0, 1) := by decide +kernel
theorem dX4_startOver_21 : decode cX4_startOver 21 = .ok (.iconst 0, 1) := by decide +kernel
theorem dX4_startOver_22 : decode cX4_startOver 22 = .ok (.putfield 28, 3) := by decide +kernel
theorem dX4_startOver_25 : decode cX4_startOver 25 = .ok (.aload_n 0, 1) := by decide +kernel
theorem dX4_startOver_26 : decode cX4_startOver 26 = .ok (.iconst 0, 1) := by decide +kernel
theorem dX4_startOver_27 : decode cX4_startOver 27 = .ok (.putfield 31, 3) := by decide +kernel
theorem dX4_startOver_30 : decode cX4_startOver 30 = .ok (.aload_n 0, 1) := by decide +kernel
theorem dX4_startOver_31 : decode cX4_startOver 31 = .ok (.iconst 0, 1) := by decide +kernel
theorem dX4_startOver_32 : decode cX4_startOver 32 = .ok (.putfield 34, 3) := by decide +kernel
theorem dX4_startOver_35 : decode cX4_startOver 35 = .ok (.aload_n 0, 1) := by decide +kernel
theorem dX4_startOver_36 : decode cX4_startOver 36 = .ok (.iconst 0, 1) := by decide +kernel
theorem dX4_startOver_37 : decode cX4_startOver 37 = .ok (.putfield 37, 3) := by decide +kernel
theorem dX4_startOver_40 : decode cX4_startOver 40 = .ok (.aload_n 0, 1) := by decide +kernel
theorem dX4_startOver_41 : decode cX4_startOver 41 = .ok (.iconst 0, 1) := by decide +kernel
theorem dX4_startOver_42 : decode cX4_startOver 42 = .ok (.putfield 40, 3) := by decide +kernel
theorem dX4_startOver_45 : decode cX4_startOver 45 = .ok (.return_, 1) := by decide +kernel
theorem dX4_accepts_0 : decode cX4_accepts 0 = .ok (.iload_n 1, 1) := by decide +kernel
theorem dX4_accepts_1 : decode cX4_accepts 1 = .ok (.bipush 97, 2) := by decide +kernel
theorem dX4_accepts_3 : decode cX4_accepts 3 = .ok (.if_icmp .lt 9, 3) := by decide +kernel
theorem dX4_accepts_6 : decode cX4_accepts 6 = .ok (.iload_n 1, 1) := by decide +kernel
theorem dX4_accepts_7 : decode cX4_accepts 7 = .ok (.bipush 122, 2) := by decide +kernel
theorem dX4_accepts_9 : decode cX4_accepts 9 = .ok (.if_icmp .le 9, 3) := by decide +kernel
theorem dX4_accepts_12 : decode cX4_accepts 12 = .ok (.iload_n 1, 1) := by decide +kernel
theorem dX4_accepts_13 : decode cX4_accepts 13 = .ok (.bipush 95, 2) := by decide +kernel
theorem dX4_accepts_15 : decode cX4_accepts 15 = .ok (.if_icmp .ne 15, 3) := by decide +kernel
theorem dX4_accepts_18 : decode cX4_accepts 18 = .ok (.aload_n 0, 1) := by decide +kernel
theorem dX4_accepts_19 : decode cX4_accepts 19 = .ok (.dup, 1) := by decide +kernel
theorem dX4_accepts_20 : decode cX4_accepts 20 = .ok (.getfield 37, 3) := by decide +kernel
theorem dX4_accepts_23 : decode cX4_accepts 23 = .ok (.iconst 1, 1) := by decide +kernel
theorem dX4_accepts_24 : decode cX4_accepts 24 = .ok (.iadd, 1) := by decide +kernel
theorem dX4_accepts_25 : decode cX4_accepts 25 = .ok (.putfield 37, 3) := by decide +kernel
theorem dX4_accepts_28 : decode cX4_accepts 28 = .ok (.iconst 1, 1) := by decide +kernel
theorem dX4_accepts_29 : decode cX4_accepts 29 = .ok (.ireturn, 1) := by decide +kernel
theorem dX4_accepts_30 : decode cX4_accepts 30 = .ok (.iload_n 1, 1) := by decide +kernel
theorem dX4_accepts_31 : decode cX4_accepts 31 = .ok (.bipush 63, 2) := by decide +kernel
theorem dX4_accepts_33 : decode cX4_accepts 33 = .ok (.if_icmp .ne 15, 3) := by decide +kernel
theorem dX4_accepts_36 : decode cX4_accepts 36 = .ok (.aload_n 0, 1) := by decide +kernel
theorem dX4_accepts_37 : decode cX4_accepts 37 = .ok (.dup, 1) := by decide +kernel
theorem dX4_accepts_38 : decode cX4_accepts 38 = .ok (.getfield 25, 3) := by decide +kernel
theorem dX4_accepts_41 : decode cX4_accepts 41 = .ok (.iconst 1, 1) := by decide +kernel
theorem dX4_accepts_42 : decode cX4_accepts 42 = .ok (.iadd, 1) := by decide +kernel
theorem dX4_accepts_43 : decode cX4_accepts 43 = .ok (.putfield 25, 3) := by decide +kernel
theorem dX4_accepts_46 : decode cX4_accepts 46 = .ok (.iconst 1, 1) := by decide +kernel
theorem dX4_accepts_47 : decode cX4_accepts 47 = .ok (.ireturn, 1) := by decide +kernel
theorem dX4_accepts_48 : decode cX4_accepts 48 = .ok (.iload_n 1, 1) := by decide +kernel
theorem dX4_accepts_49 : decode cX4_accepts 49 = .ok (.invokestatic 51, 3) := by decide +kernel
theorem dX4_accepts_52 : decode cX4_accepts 52 = .ok (.ifCond .eq 13, 3) := by decide +kernel
theorem dX4_accepts_55 : decode cX4_accepts 55 = .ok (.aload_n 0, 1) := by decide +kernel
theorem dX4_accepts_56 : decode cX4_accepts 56 = .ok (.iload_n 1, 1) := by decide +kernel
theorem dX4_accepts_57 : decode cX4_accepts 57 = .ok (.bipush 65, 2) := by decide +kernel
theorem dX4_accepts_59 : decode cX4_accepts 59 = .ok (.isub, 1) := by decide +kernel
theorem dX4_accepts_60 : decode cX4_accepts 60 = .ok (.invokevirtual 55, 3) := by decide +kernel
theorem dX4_accepts_63 : decode cX4_accepts 63 = .ok (.iconst 1, 1) := by decide +kernel
theorem dX4_accepts_64 : decode cX4_accepts 64 = .ok (.ireturn, 1) := by decide +kernel
theorem dX4_accepts_65 : decode cX4_accepts 65 = .ok (.iload_n 1, 1) := by decide +kernel
theorem dX4_accepts_66 : decode cX4_accepts 66 = .ok (.bipush 40, 2) := by decide +kernel
theorem dX4_accepts_68 : decode cX4_accepts 68 = .ok (.if_icmp .ne 23, 3) := by decide +kernel
theorem dX4_accepts_71 : decode cX4_accepts 71 = .ok (.iload_n 2, 1) := by decide +kernel
theorem dX4_accepts_72 : decode cX4_accepts 72 = .ok (.invokestatic 51, 3) := by decide +kernel
theorem dX4_accepts_75 : decode cX4_accepts 75 = .ok (.ifCond .eq 14, 3) := by decide +kernel
theorem dX4_accepts_78 : decode cX4_accepts 78 = .ok (.aload_n 0, 1) := by decide +kernel
theorem dX4_accepts_79 : decode cX4_accepts 79 = .ok (.invokevirtual 58, 3) := by decide +kernel
theorem dX4_accepts_82 : decode cX4_accepts 82 = .ok (.ifCond .eq 7, 3) := by decide +kernel
theorem dX4_accepts_85 : decode cX4_accepts 85 = .ok (.iconst 1, 1) := by decide +kernel
theorem dX4_accepts_86 : decode cX4_accepts 86 = .ok (.goto 4, 3) := by decide +kernel
theorem dX4_accepts_89 : decode cX4_accepts 89 = .ok (.iconst 0, 1) := by decide +kernel
theorem dX4_accepts_90 : decode cX4_accepts 90 = .ok (.ireturn, 1) := by decide +kernel
theorem dX4_accepts_91 : decode cX4_accepts 91 = .ok (.iload_n 1, 1) := by decide +kernel
theorem dX4_accepts_92 : decode cX4_accepts 92 = .ok (.bipush 44, 2) := by decide +kernel
theorem dX4_accepts_94 : decode cX4_accepts 94 = .ok (.if_icmp .ne 8, 3) := by decide +kernel
theorem dX4_accepts_97 : decode cX4_accepts 97 = .ok (.aload_n 0, 1) := by decide +kernel
theorem dX4_accepts_98 : decode cX4_accepts 98 = .ok (.invokevirtual 62, 3) := by decide +kernel
theorem dX4_accepts_101 : decode cX4_accepts 101 = .ok (.ireturn, 1) := by decide +kernel
theorem dX4_accepts_102 : decode cX4_accepts 102 = .ok (.iload_n 1, 1) := by decide +kernel
theorem dX4_accepts_103 : decode cX4_accepts 103 = .ok (.bipush 41, 2) := by decide +kernel
theorem dX4_accepts_105 : decode cX4_accepts 105 = .ok (.if_icmp .ne 14, 3) := by decide +kernel
theorem dX4_accepts_108 : decode cX4_accepts 108 = .ok (.aload_n 0, 1) := by decide +kernel
theorem dX4_accepts_109 : decode cX4_accepts 109 = .ok (.invokevirtual 65, 3) := by decide +kernel
theorem dX4_accepts_112 : decode cX4_accepts 112 = .ok (.ifCond .eq 7, 3) := by decide +kernel
theorem dX4_accepts_115 : decode cX4_accepts 115 = .ok (.iconst 1, 1) := by decide +kernel
theorem dX4_accepts_116 : decode cX4_accepts 116 = .ok (.goto 4, 3) := by decide +kernel
theorem dX4_accepts_119 : decode cX4_accepts 119 = .ok (.iconst 0, 1) := by decide +kernel
theorem dX4_accepts_120 : decode cX4_accepts 120 = .ok (.ireturn, 1) := by decide +kernel
theorem dX4_noteCall_0 : decode cX4_noteCall 0 = .ok (.aload_n 0, 1) := by decide +kernel
theorem dX4_noteCall_1 : decode cX4_noteCall 1 = .ok (.dup, 1) := by decide +kernel
theorem dX4_noteCall_2 : decode cX4_noteCall 2 = .ok (.getfield 28, 3) := by decide +kernel
theorem dX4_noteCall_5 : decode cX4_noteCall 5 = .ok (.iconst 1, 1) := by decide +kernel
theorem dX4_noteCall_6 : decode cX4_noteCall 6 = .ok (.iadd, 1) := by decide +kernel
theorem dX4_noteCall_7 : decode cX4_noteCall 7 = .ok (.putfield 28, 3) := by decide +kernel
theorem dX4_noteCall_10 : decode cX4_noteCall 10 = .ok (.aload_n 0, 1) := by decide +kernel
theorem dX4_noteCall_11 : decode cX4_noteCall 11 = .ok (.dup, 1) := by decide +kernel
theorem dX4_noteCall_12 : decode cX4_noteCall 12 = .ok (.getfield 40, 3) := by decide +kernel
theorem dX4_noteCall_15 : decode cX4_noteCall 15 = .ok (.iconst 1, 1) := by decide +kernel
theorem dX4_noteCall_16 : decode cX4_noteCall 16 = .ok (.iload_n 1, 1) := by decide +kernel
theorem dX4_noteCall_17 : decode cX4_noteCall 17 = .ok (.ishl, 1) := by decide +kernel
theorem dX4_noteCall_18 : decode cX4_noteCall 18 = .ok (.ior, 1) := by decide +kernel
theorem dX4_noteCall_19 : decode cX4_noteCall 19 = .ok (.putfield 40, 3) := by decide +kernel
theorem dX4_noteCall_22 : decode cX4_noteCall 22 = .ok (.aload_n 0, 1) := by decide +kernel
theorem dX4_noteCall_23 : decode cX4_noteCall 23 = .ok (.aload_n 0, 1) := by decide +kernel
theorem dX4_noteCall_24 : decode cX4_noteCall 24 = .ok (.getfield 34, 3) := by decide +kernel
theorem dX4_noteCall_27 : decode cX4_noteCall 27 = .ok (.aload_n 0, 1) := by decide +kernel
theorem dX4_noteCall_28 : decode cX4_noteCall 28 = .ok (.getfield 15, 3) := by decide +kernel
theorem dX4_noteCall_31 : decode cX4_noteCall 31 = .ok (.iconst 1, 1) := by decide +kernel
theorem dX4_noteCall_32 : decode cX4_noteCall 32 = .ok (.iadd, 1) := by decide +kernel
theorem dX4_noteCall_33 : decode cX4_noteCall 33 = .ok (.invokestatic 68, 3) := by decide +kernel
theorem dX4_noteCall_36 : decode cX4_noteCall 36 = .ok (.putfield 34, 3) := by decide +kernel
theorem dX4_noteCall_39 : decode cX4_noteCall 39 = .ok (.return_, 1) := by decide +kernel
theorem dX4_opensCall_0 : decode cX4_opensCall 0 = .ok (.aload_n 0, 1) := by decide +kernel
theorem dX4_opensCall_1 : decode cX4_opensCall 1 = .ok (.getfield 15, 3) := by decide +kernel
theorem dX4_opensCall_4 : decode cX4_opensCall 4 = .ok (.ifCond .lt 15, 3) := by decide +kernel
theorem dX4_opensCall_7 : decode cX4_opensCall 7 = .ok (.aload_n 0, 1) := by decide +kernel
theorem dX4_opensCall_8 : decode cX4_opensCall 8 = .ok (.getfield 15, 3) := by decide +kernel
theorem dX4_opensCall_11 : decode cX4_opensCall 11 = .ok (.aload_n 0, 1) := by decide +kernel
theorem dX4_opensCall_12 : decode cX4_opensCall 12 = .ok (.getfield 9, 3) := by decide +kernel
theorem dX4_opensCall_15 : decode cX4_opensCall 15 = .ok (.arraylength, 1) := by decide +kernel
theorem dX4_opensCall_16 : decode cX4_opensCall 16 = .ok (.if_icmp .lt 5, 3) := by decide +kernel
theorem dX4_opensCall_19 : decode cX4_opensCall 19 = .ok (.iconst 0, 1) := by decide +kernel
theorem dX4_opensCall_20 : decode cX4_opensCall 20 = .ok (.ireturn, 1) := by decide +kernel
theorem dX4_opensCall_21 : decode cX4_opensCall 21 = .ok (.aload_n 0, 1) := by decide +kernel
theorem dX4_opensCall_22 : decode cX4_opensCall 22 = .ok (.getfield 9, 3) := by decide +kernel
theorem dX4_opensCall_25 : decode cX4_opensCall 25 = .ok (.aload_n 0, 1) := by decide +kernel
theorem dX4_opensCall_26 : decode cX4_opensCall 26 = .ok (.getfield 15, 3) := by decide +kernel
theorem dX4_opensCall_29 : decode cX4_opensCall 29 = .ok (.iconst 1, 1) := by decide +kernel
theorem dX4_opensCall_30 : decode cX4_opensCall 30 = .ok (.iastore, 1) := by decide +kernel
theorem dX4_opensCall_31 : decode cX4_opensCall 31 = .ok (.aload_n 0, 1) := by decide +kernel
theorem dX4_opensCall_32 : decode cX4_opensCall 32 = .ok (.aload_n 0, 1) := by decide +kernel
theorem dX4_opensCall_33 : decode cX4_opensCall 33 = .ok (.getfield 31, 3) := by decide +kernel
theorem dX4_opensCall_36 : decode cX4_opensCall 36 = .ok (.iconst 1, 1) := by decide +kernel
theorem dX4_opensCall_37 : decode cX4_opensCall 37 = .ok (.invokestatic 68, 3) := by decide +kernel
theorem dX4_opensCall_40 : decode cX4_opensCall 40 = .ok (.putfield 31, 3) := by decide +kernel
theorem dX4_opensCall_43 : decode cX4_opensCall 43 = .ok (.aload_n 0, 1) := by decide +kernel
theorem dX4_opensCall_44 : decode cX4_opensCall 44 = .ok (.dup, 1) := by decide +kernel
theorem dX4_opensCall_45 : decode cX4_opensCall 45 = .ok (.getfield 15, 3) := by decide +kernel
theorem dX4_opensCall_48 : decode cX4_opensCall 48 = .ok (.iconst 1, 1) := by decide +kernel
theorem dX4_opensCall_49 : decode cX4_opensCall 49 = .ok (.iadd, 1) := by decide +kernel
theorem dX4_opensCall_50 : decode cX4_opensCall 50 = .ok (.putfield 15, 3) := by decide +kernel
theorem dX4_opensCall_53 : decode cX4_opensCall 53 = .ok (.iconst 1, 1) := by decide +kernel
theorem dX4_opensCall_54 : decode cX4_opensCall 54 = .ok (.ireturn, 1) := by decide +kernel
theorem dX4_addsArgument_0 : decode cX4_addsArgument 0 = .ok (.aload_n 0, 1) := by decide +kernel
theorem dX4_addsArgument_1 : decode cX4_addsArgument 1 = .ok (.getfield 15, 3) := by decide +kernel
theorem dX4_addsArgument_4 : decode cX4_addsArgument 4 = .ok (.iconst 1, 1) := by decide +kernel
theorem dX4_addsArgument_5 : decode cX4_addsArgument 5 = .ok (.isub, 1) := by decide +kernel
theorem dX4_addsArgument_6 : decode cX4_addsArgument 6 = .ok (.istore_n 1, 1) := by decide +kernel
theorem dX4_addsArgument_7 : decode cX4_addsArgument 7 = .ok (.iload_n 1, 1) := by decide +kernel
theorem dX4_addsArgument_8 : decode cX4_addsArgument 8 = .ok (.ifCond .lt 12, 3) := by decide +kernel
theorem dX4_addsArgument_11 : decode cX4_addsArgument 11 = .ok (.iload_n 1, 1) := by decide +kernel
theorem dX4_addsArgument_12 : decode cX4_addsArgument 12 = .ok (.aload_n 0, 1) := by decide +kernel
theorem dX4_addsArgument_13 : decode cX4_addsArgument 13 = .ok (.getfield 9, 3) := by decide +kernel
theorem dX4_addsArgument_16 : decode cX4_addsArgument 16 = .ok (.arraylength, 1) := by decide +kernel
theorem dX4_addsArgument_17 : decode cX4_addsArgument 17 = .ok (.if_icmp .lt 5, 3) := by decide +kernel
theorem dX4_addsArgument_20 : decode cX4_addsArgument 20 = .ok (.iconst 0, 1) := by decide +kernel
theorem dX4_addsArgument_21 : decode cX4_addsArgument 21 = .ok (.ireturn, 1) := by decide +kernel
theorem dX4_addsArgument_22 : decode cX4_addsArgument 22 = .ok (.aload_n 0, 1) := by decide +kernel
theorem dX4_addsArgument_23 : decode cX4_addsArgument 23 = .ok (.getfield 9, 3) := by decide +kernel
theorem dX4_addsArgument_26 : decode cX4_addsArgument 26 = .ok (.iload_n 1, 1) := by decide +kernel
theorem dX4_addsArgument_27 : decode cX4_addsArgument 27 = .ok (.iaload, 1) := by decide +kernel
theorem dX4_addsArgument_28 : decode cX4_addsArgument 28 = .ok (.bipush 6, 2) := by decide +kernel
theorem dX4_addsArgument_30 : decode cX4_addsArgument 30 = .ok (.if_icmp .lt 5, 3) := by decide +kernel
theorem dX4_addsArgument_33 : decode cX4_addsArgument 33 = .ok (.iconst 0, 1) := by decide +kernel
theorem dX4_addsArgument_34 : decode cX4_addsArgument 34 = .ok (.ireturn, 1) := by decide +kernel
theorem dX4_addsArgument_35 : decode cX4_addsArgument 35 = .ok (.aload_n 0, 1) := by decide +kernel
theorem dX4_addsArgument_36 : decode cX4_addsArgument 36 = .ok (.getfield 9, 3) := by decide +kernel
theorem dX4_addsArgument_39 : decode cX4_addsArgument 39 = .ok (.iload_n 1, 1) := by decide +kernel
theorem dX4_addsArgument_40 : decode cX4_addsArgument 40 = .ok (.dup2, 1) := by decide +kernel
theorem dX4_addsArgument_41 : decode cX4_addsArgument 41 = .ok (.iaload, 1) := by decide +kernel
theorem dX4_addsArgument_42 : decode cX4_addsArgument 42 = .ok (.iconst 1, 1) := by decide +kernel
theorem dX4_addsArgument_43 : decode cX4_addsArgument 43 = .ok (.iadd, 1) := by decide +kernel
theorem dX4_addsArgument_44 : decode cX4_addsArgument 44 = .ok (.iastore, 1) := by decide +kernel
theorem dX4_addsArgument_45 : decode cX4_addsArgument 45 = .ok (.aload_n 0, 1) := by decide +kernel
theorem dX4_addsArgument_46 : decode cX4_addsArgument 46 = .ok (.aload_n 0, 1) := by decide +kernel
theorem dX4_addsArgument_47 : decode cX4_addsArgument 47 = .ok (.getfield 31, 3) := by decide +kernel
theorem dX4_addsArgument_50 : decode cX4_addsArgument 50 = .ok (.aload_n 0, 1) := by decide +kernel
theorem dX4_addsArgument_51 : decode cX4_addsArgument 51 = .ok (.getfield 9, 3) := by decide +kernel
theorem dX4_addsArgument_54 : decode cX4_addsArgument 54 = .ok (.iload_n 1, 1) := by decide +kernel
theorem dX4_addsArgument_55 : decode cX4_addsArgument 55 = .ok (.iaload, 1) := by decide +kernel
theorem dX4_addsArgument_56 : decode cX4_addsArgument 56 = .ok (.invokestatic 68, 3) := by decide +kernel
theorem dX4_addsArgument_59 : decode cX4_addsArgument 59 = .ok (.putfield 31, 3) := by decide +kernel
theorem dX4_addsArgument_62 : decode cX4_addsArgument 62 = .ok (.iconst 1, 1) := by decide +kernel
theorem dX4_addsArgument_63 : decode cX4_addsArgument 63 = .ok (.ireturn, 1) := by decide +kernel
theorem dX4_closesCall_0 : decode cX4_closesCall 0 = .ok (.aload_n 0, 1) := by decide +kernel
theorem dX4_closesCall_1 : decode cX4_closesCall 1 = .ok (.getfield 15, 3) := by decide +kernel
theorem dX4_closesCall_4 : decode cX4_closesCall 4 = .ok (.ifCond .gt 5, 3) := by decide +kernel
theorem dX4_closesCall_7 : decode cX4_closesCall 7 = .ok (.iconst 0, 1) := by decide +kernel
theorem dX4_closesCall_8 : decode cX4_closesCall 8 = .ok (.ireturn, 1) := by decide +kernel
theorem dX4_closesCall_9 : decode cX4_closesCall 9 = .ok (.aload_n 0, 1) := by decide +kernel
theorem dX4_closesCall_10 : decode cX4_closesCall 10 = .ok (.dup, 1) := by decide +kernel
theorem dX4_closesCall_11 : decode cX4_closesCall 11 = .ok (.getfield 15, 3) := by decide +kernel
theorem dX4_closesCall_14 : decode cX4_closesCall 14 = .ok (.iconst 1, 1) := by decide +kernel
theorem dX4_closesCall_15 : decode cX4_closesCall 15 = .ok (.isub, 1) := by decide +kernel
theorem dX4_closesCall_16 : decode cX4_closesCall 16 = .ok (.putfield 15, 3) := by decide +kernel
theorem dX4_closesCall_19 : decode cX4_closesCall 19 = .ok (.iconst 1, 1) := by decide +kernel
theorem dX4_closesCall_20 : decode cX4_closesCall 20 = .ok (.ireturn, 1) := by decide +kernel
theorem dX5_init_0 : decode cX5_init 0 = .ok (.aload_n 0, 1) := by decide +kernel
theorem dX5_init_1 : decode cX5_init 1 = .ok (.invokespecial 3, 3) := by decide +kernel
theorem dX5_init_4 : decode cX5_init 4 = .ok (.aload_n 0, 1) := by decide +kernel
theorem dX5_init_5 : decode cX5_init 5 = .ok (.bipush 26, 2) := by decide +kernel
theorem dX5_init_7 : decode cX5_init 7 = .ok (.anewarray 9, 3) := by decide +kernel
theorem dX5_init_10 : decode cX5_init 10 = .ok (.putfield 11, 3) := by decide +kernel
theorem dX5_init_13 : decode cX5_init 13 = .ok (.aload_n 0, 1) := by decide +kernel
theorem dX5_init_14 : decode cX5_init 14 = .ok (.new 17, 3) := by decide +kernel
theorem dX5_init_17 : decode cX5_init 17 = .ok (.dup, 1) := by decide +kernel
theorem dX5_init_18 : decode cX5_init 18 = .ok (.iconst 0, 1) := by decide +kernel
theorem dX5_init_19 : decode cX5_init 19 = .ok (.newarray .int, 2) := by decide +kernel
theorem dX5_init_21 : decode cX5_init 21 = .ok (.iconst 0, 1) := by decide +kernel
theorem dX5_init_22 : decode cX5_init 22 = .ok (.newarray .int, 2) := by decide +kernel
theorem dX5_init_24 : decode cX5_init 24 = .ok (.iconst 0, 1) := by decide +kernel
theorem dX5_init_25 : decode cX5_init 25 = .ok (.iconst 0, 1) := by decide +kernel
theorem dX5_init_26 : decode cX5_init 26 = .ok (.invokespecial 19, 3) := by decide +kernel
theorem dX5_init_29 : decode cX5_init 29 = .ok (.putfield 22, 3) := by decide +kernel
theorem dX5_init_32 : decode cX5_init 32 = .ok (.aload_n 0, 1) := by decide +kernel
theorem dX5_init_33 : decode cX5_init 33 = .ok (.bipush 8, 2) := by decide +kernel
theorem dX5_init_35 : decode cX5_init 35 = .ok (.putfield 26, 3) := by decide +kernel
theorem dX5_init_38 : decode cX5_init 38 = .ok (.aload_n 0, 1) := by decide +kernel
theorem dX5_init_39 : decode cX5_init 39 = .ok (.iconst 0, 1) := by decide +kernel
theorem dX5_init_40 : decode cX5_init 40 = .ok (.putfield 30, 3) := by decide +kernel
theorem dX5_init_43 : decode cX5_init 43 = .ok (.aload_n 0, 1) := by decide +kernel
theorem dX5_init_44 : decode cX5_init 44 = .ok (.iconst 0, 1) := by decide +kernel
theorem dX5_init_45 : decode cX5_init 45 = .ok (.putfield 33, 3) := by decide +kernel
theorem dX5_init_48 : decode cX5_init 48 = .ok (.return_, 1) := by decide +kernel
theorem dX5_copyFrom_0 : decode cX5_copyFrom 0 = .ok (.iconst 0, 1) := by decide +kernel
theorem dX5_copyFrom_1 : decode cX5_copyFrom 1 = .ok (.istore_n 2, 1) := by decide +kernel
theorem dX5_copyFrom_2 : decode cX5_copyFrom 2 = .ok (.iload_n 2, 1) := by decide +kernel
theorem dX5_copyFrom_3 : decode cX5_copyFrom 3 = .ok (.bipush 26, 2) := by decide +kernel
theorem dX5_copyFrom_5 : decode cX5_copyFrom 5 = .ok (.if_icmp .ge 21, 3) := by decide +kernel
theorem dX5_copyFrom_8 : decode cX5_copyFrom 8 = .ok (.aload_n 0, 1) := by decide +kernel
theorem dX5_copyFrom_9 : decode cX5_copyFrom 9 = .ok (.getfield 11, 3) := by decide +kernel
theorem dX5_copyFrom_12 : decode cX5_copyFrom 12 = .ok (.iload_n 2, 1) := by decide +kernel
theorem dX5_copyFrom_13 : decode cX5_copyFrom 13 = .ok (.aload_n 1, 1) := by decide +kernel
theorem dX5_copyFrom_14 : decode cX5_copyFrom 14 = .ok (.getfield 11, 3) := by decide +kernel
theorem dX5_copyFrom_17 : decode cX5_copyFrom 17 = .ok (.iload_n 2, 1) := by decide +kernel
theorem dX5_copyFrom_18 : decode cX5_copyFrom 18 = .ok (.aaload, 1) := by decide +kernel
theorem dX5_copyFrom_19 : decode cX5_copyFrom 19 = .ok (.aastore, 1) := by decide +kernel
theorem dX5_copyFrom_20 : decode cX5_copyFrom 20 = .ok (.iinc 2 1, 3) := by decide +kernel
theorem dX5_copyFrom_23 : decode cX5_copyFrom 23 = .ok (.goto (-21), 3) := by decide +kernel
theorem dX5_copyFrom_26 : decode cX5_copyFrom 26 = .ok (.aload_n 0, 1) := by decide +kernel
theorem dX5_copyFrom_27 : decode cX5_copyFrom 27 = .ok (.aload_n 1, 1) := by decide +kernel
theorem dX5_copyFrom_28 : decode cX5_copyFrom 28 = .ok (.getfield 22, 3) := by decide +kernel
theorem dX5_copyFrom_31 : decode cX5_copyFrom 31 = .ok (.putfield 22, 3) := by decide +kernel
theorem dX5_copyFrom_34 : decode cX5_copyFrom 34 = .ok (.aload_n 0, 1) := by decide +kernel
theorem dX5_copyFrom_35 : decode cX5_copyFrom 35 = .ok (.aload_n 1, 1) := by decide +kernel
theorem dX5_copyFrom_36 : decode cX5_copyFrom 36 = .ok (.getfield 26, 3) := by decide +kernel
theorem dX5_copyFrom_39 : decode cX5_copyFrom 39 = .ok (.putfield 26, 3) := by decide +kernel
theorem dX5_copyFrom_42 : decode cX5_copyFrom 42 = .ok (.aload_n 0, 1) := by decide +kernel
theorem dX5_copyFrom_43 : decode cX5_copyFrom 43 = .ok (.aload_n 1, 1) := by decide +kernel
theorem dX5_copyFrom_44 : decode cX5_copyFrom 44 = .ok (.getfield 30, 3) := by decide +kernel
theorem dX5_copyFrom_47 : decode cX5_copyFrom 47 = .ok (.putfield 30, 3) := by decide +kernel
theorem dX5_copyFrom_50 : decode cX5_copyFrom 50 = .ok (.aload_n 0, 1) := by decide +kernel
theorem dX5_copyFrom_51 : decode cX5_copyFrom 51 = .ok (.aload_n 1, 1) := by decide +kernel
theorem dX5_copyFrom_52 : decode cX5_copyFrom 52 = .ok (.getfield 33, 3) := by decide +kernel
theorem dX5_copyFrom_55 : decode cX5_copyFrom 55 = .ok (.putfield 33, 3) := by decide +kernel
theorem dX5_copyFrom_58 : decode cX5_copyFrom 58 = .ok (.return_, 1) := by decide +kernel
theorem dX5_definitionOf_0 : decode cX5_definitionOf 0 = .ok (.iload_n 1, 1) := by decide +kernel
theorem dX5_definitionOf_1 : decode cX5_definitionOf 1 = .ok (.invokestatic 36, 3) := by decide +kernel
theorem dX5_definitionOf_4 : decode cX5_definitionOf 4 = .ok (.ifCond .eq 12, 3) := by decide +kernel
theorem dX5_definitionOf_7 : decode cX5_definitionOf 7 = .ok (.aload_n 0, 1) := by decide +kernel
theorem dX5_definitionOf_8 : decode cX5_definitionOf 8 = .ok (.getfield 11, 3) := by decide +kernel
theorem dX5_definitionOf_11 : decode cX5_definitionOf 11 = .ok (.iload_n 1, 1) := by decide +kernel
theorem dX5_definitionOf_12 : decode cX5_definitionOf 12 = .ok (.aaload, 1) := by decide +kernel
theorem dX5_definitionOf_13 : decode cX5_definitionOf 13 = .ok (.goto 4, 3) := by decide +kernel
theorem dX5_definitionOf_16 : decode cX5_definitionOf 16 = .ok (.aconst_null, 1) := by decide +kernel
theorem dX5_definitionOf_17 : decode cX5_definitionOf 17 = .ok (.areturn, 1) := by decide +kernel
theorem dX5_putDefinition_0 : decode cX5_putDefinition 0 = .ok (.iload_n 1, 1) := by decide +kernel
theorem dX5_putDefinition_1 : decode cX5_putDefinition 1 = .ok (.invokestatic 36, 3) := by decide +kernel
theorem dX5_putDefinition_4 : decode cX5_putDefinition 4 = .ok (.ifCond .eq 10, 3) := by decide +kernel
theorem dX5_putDefinition_7 : decode cX5_putDefinition 7 = .ok (.aload_n 0, 1) := by decide +kernel
theorem dX5_putDefinition_8 : decode cX5_putDefinition 8 = .ok (.getfield 11, 3) := by decide +kernel
theorem dX5_putDefinition_11 : decode cX5_putDefinition 11 = .ok (.iload_n 1, 1) := by decide +kernel
theorem dX5_putDefinition_12 : decode cX5_putDefinition 12 = .ok (.aload_n 2, 1) := by decide +kernel
theorem dX5_putDefinition_13 : decode cX5_putDefinition 13 = .ok (.aastore, 1) := by decide +kernel
theorem dX5_putDefinition_14 : decode cX5_putDefinition 14 = .ok (.return_, 1) := by decide +kernel
theorem dX5_definedSet_0 : decode cX5_definedSet 0 = .ok (.iconst 0, 1) := by decide +kernel
theorem dX5_definedSet_1 : decode cX5_definedSet 1 = .ok (.istore_n 1, 1) := by decide +kernel
theorem dX5_definedSet_2 : decode cX5_definedSet 2 = .ok (.iconst 0, 1) := by decide +kernel
theorem dX5_definedSet_3 : decode cX5_definedSet 3 = .ok (.istore_n 2, 1) := by decide +kernel
theorem dX5_definedSet_4 : decode cX5_definedSet 4 = .ok (.iload_n 2, 1) := by decide +kernel
theorem dX5_definedSet_5 : decode cX5_definedSet 5 = .ok (.bipush 26, 2) := by decide +kernel
theorem dX5_definedSet_7 : decode cX5_definedSet 7 = .ok (.if_icmp .ge 24, 3) := by decide +kernel
theorem dX5_definedSet_10 : decode cX5_definedSet 10 = .ok (.aload_n 0, 1) := by decide +kernel
theorem dX5_definedSet_11 : decode cX5_definedSet 11 = .ok (.getfield 11, 3) := by decide +kernel
theorem dX5_definedSet_14 : decode cX5_definedSet 14 = .ok (.iload_n 2, 1) := by decide +kernel
theorem dX5_definedSet_15 : decode cX5_definedSet 15 = .ok (.aaload, 1) := by decide +kernel
theorem dX5_definedSet_16 : decode cX5_definedSet 16 = .ok (.ifnull 9, 3) := by decide +kernel
theorem dX5_definedSet_19 : decode cX5_definedSet 19 = .ok (.iload_n 1, 1) := by decide +kernel
theorem dX5_definedSet_20 : decode cX5_definedSet 20 = .ok (.iconst 1, 1) := by decide +kernel
theorem dX5_definedSet_21 : decode cX5_definedSet 21 = .ok (.iload_n 2, 1) := by decide +kernel
theorem dX5_definedSet_22 : decode cX5_definedSet 22 = .ok (.ishl, 1) := by decide +kernel
theorem dX5_definedSet_23 : decode cX5_definedSet 23 = .ok (.ior, 1) := by decide +kernel
theorem dX5_definedSet_24 : decode cX5_definedSet 24 = .ok (.istore_n 1, 1) := by decide +kernel
theorem dX5_definedSet_25 : decode cX5_definedSet 25 = .ok (.iinc 2 1, 3) := by decide +kernel
theorem dX5_definedSet_28 : decode cX5_definedSet 28 = .ok (.goto (-24), 3) := by decide +kernel
theorem dX5_definedSet_31 : decode cX5_definedSet 31 = .ok (.iload_n 1, 1) := by decide +kernel
theorem dX5_definedSet_32 : decode cX5_definedSet 32 = .ok (.ireturn, 1) := by decide +kernel
theorem dX5_definedCount_0 : decode cX5_definedCount 0 = .ok (.aload_n 0, 1) := by decide +kernel
theorem dX5_definedCount_1 : decode cX5_definedCount 1 = .ok (.invokevirtual 40, 3) := by decide +kernel
theorem dX5_definedCount_4 : decode cX5_definedCount 4 = .ok (.invokestatic 44, 3) := by decide +kernel
theorem dX5_definedCount_7 : decode cX5_definedCount 7 = .ok (.ireturn, 1) := by decide +kernel
theorem dX5_callsOfBodies_0 : decode cX5_callsOfBodies 0 = .ok (.iconst 0, 1) := by decide +kernel
theorem dX5_callsOfBodies_1 : decode cX5_callsOfBodies 1 = .ok (.istore_n 1, 1) := by decide +kernel
theorem dX5_callsOfBodies_2 : decode cX5_callsOfBodies 2 = .ok (.iconst 0, 1) := by decide +kernel
theorem dX5_callsOfBodies_3 : decode cX5_callsOfBodies 3 = .ok (.istore_n 2, 1) := by decide +kernel
theorem dX5_callsOfBodies_4 : decode cX5_callsOfBodies 4 = .ok (.iload_n 2, 1) := by decide +kernel
theorem dX5_callsOfBodies_5 : decode cX5_callsOfBodies 5 = .ok (.bipush 26, 2) := by decide +kernel
theorem dX5_callsOfBodies_7 : decode cX5_callsOfBodies 7 = .ok (.if_icmp .ge 27, 3) := by decide +kernel
theorem dX5_callsOfBodies_10 : decode cX5_callsOfBodies 10 = .ok (.aload_n 0, 1) := by decide +kernel
theorem dX5_callsOfBodies_11 : decode cX5_callsOfBodies 11 = .ok (.getfield 11, 3) := by decide +kernel
theorem dX5_callsOfBodies_14 : decode cX5_callsOfBodies 14 = .ok (.iload_n 2, 1) := by decide +kernel
theorem dX5_callsOfBodies_15 : decode cX5_callsOfBodies 15 = .ok (.aaload, 1) := by decide +kernel
theorem dX5_callsOfBodies_16 : decode cX5_callsOfBodies 16 = .ok (.astore_n 3, 1) := by decide +kernel
theorem dX5_callsOfBodies_17 : decode cX5_callsOfBodies 17 = .ok (.aload_n 3, 1) := by decide +kernel
theorem dX5_callsOfBodies_18 : decode cX5_callsOfBodies 18 = .ok (.ifnull 10, 3) := by decide +kernel
theorem dX5_callsOfBodies_21 : decode cX5_callsOfBodies 21 = .ok (.iload_n 1, 1) := by decide +kernel
theorem dX5_callsOfBodies_22 : decode cX5_callsOfBodies 22 = .ok (.aload_n 3, 1) := by decide +kernel
theorem dX5_callsOfBodies_23 : decode cX5_callsOfBodies 23 = .ok (.getfield 50, 3) := by decide +kernel
theorem dX5_callsOfBodies_26 : decode cX5_callsOfBodies 26 = .ok (.iadd, 1) := by decide +kernel
theorem dX5_callsOfBodies_27 : decode cX5_callsOfBodies 27 = .ok (.istore_n 1, 1) := by decide +kernel
theorem dX5_callsOfBodies_28 : decode cX5_callsOfBodies 28 = .ok (.iinc 2 1, 3) := by decide +kernel
theorem dX5_callsOfBodies_31 : decode cX5_callsOfBodies 31 = .ok (.goto (-27), 3) := by decide +kernel
theorem dX5_callsOfBodies_34 : decode cX5_callsOfBodies 34 = .ok (.iload_n 1, 1) := by decide +kernel
theorem dX5_callsOfBodies_35 : decode cX5_callsOfBodies 35 = .ok (.ireturn, 1) := by decide +kernel
theorem dX5_holesOfBodies_0 : decode cX5_holesOfBodies 0 = .ok (.iconst 0, 1) := by decide +kernel
theorem dX5_holesOfBodies_1 : decode cX5_holesOfBodies 1 = .ok (.istore_n 1, 1) := by decide +kernel
theorem dX5_holesOfBodies_2 : decode cX5_holesOfBodies 2 = .ok (.iconst 0, 1) := by decide +kernel
theorem dX5_holesOfBodies_3 : decode cX5_holesOfBodies 3 = .ok (.istore_n 2, 1) := by decide +kernel
theorem dX5_holesOfBodies_4 : decode cX5_holesOfBodies 4 = .ok (.iload_n 2, 1) := by decide +kernel
theorem dX5_holesOfBodies_5 : decode cX5_holesOfBodies 5 = .ok (.bipush 26, 2) := by decide +kernel
theorem dX5_holesOfBodies_7 : decode cX5_holesOfBodies 7 = .ok (.if_icmp .ge 27, 3) := by decide +kernel
theorem dX5_holesOfBodies_10 : decode cX5_holesOfBodies 10 = .ok (.aload_n 0, 1) := by decide +kernel
theorem dX5_holesOfBodies_11 : decode cX5_holesOfBodies 11 = .ok (.getfield 11, 3) := by decide +kernel
theorem dX5_holesOfBodies_14 : decode cX5_holesOfBodies 14 = .ok (.iload_n 2, 1) := by decide +kernel
theorem dX5_holesOfBodies_15 : decode cX5_holesOfBodies 15 = .ok (.aaload, 1) := by decide +kernel
theorem dX5_holesOfBodies_16 : decode cX5_holesOfBodies 16 = .ok (.astore_n 3, 1) := by decide +kernel
theorem dX5_holesOfBodies_17 : decode cX5_holesOfBodies 17 = .ok (.aload_n 3, 1) := by decide +kernel
theorem dX5_holesOfBodies_18 : decode cX5_holesOfBodies 18 = .ok (.ifnull 10, 3) := by decide +kernel
theorem dX5_holesOfBodies_21 : decode cX5_holesOfBodies 21 = .ok (.iload_n 1, 1) := by decide +kernel
theorem dX5_holesOfBodies_22 : decode cX5_holesOfBodies 22 = .ok (.aload_n 3, 1) := by decide +kernel
theorem dX5_holesOfBodies_23 : decode cX5_holesOfBodies 23 = .ok (.getfield 53, 3) := by decide +kernel
theorem dX5_holesOfBodies_26 : decode cX5_holesOfBodies 26 = .ok (.iadd, 1) := by decide +kernel
theorem dX5_holesOfBodies_27 : decode cX5_holesOfBodies 27 = .ok (.istore_n 1, 1) := by decide +kernel
theorem dX5_holesOfBodies_28 : decode cX5_holesOfBodies 28 = .ok (.iinc 2 1, 3) := by decide +kernel
theorem dX5_holesOfBodies_31 : decode cX5_holesOfBodies 31 = .ok (.goto (-27), 3) := by decide +kernel
theorem dX5_holesOfBodies_34 : decode cX5_holesOfBodies 34 = .ok (.iload_n 1, 1) := by decide +kernel
theorem dX5_holesOfBodies_35 : decode cX5_holesOfBodies 35 = .ok (.ireturn, 1) := by decide +kernel
theorem dX6_init_0 : decode cX6_init 0 = .ok (.aload_n 0, 1) := by decide +kernel
theorem dX6_init_1 : decode cX6_init 1 = .ok (.invokespecial 1, 3) := by decide +kernel
theorem dX6_init_4 : decode cX6_init 4 = .ok (.aload_n 0, 1) := by decide +kernel
theorem dX6_init_5 : decode cX6_init 5 = .ok (.aload_n 1, 1) := by decide +kernel
theorem dX6_init_6 : decode cX6_init 6 = .ok (.putfield 7, 3) := by decide +kernel
theorem dX6_init_9 : decode cX6_init 9 = .ok (.aload_n 0, 1) := by decide +kernel
theorem dX6_init_10 : decode cX6_init 10 = .ok (.aload_n 2, 1) := by decide +kernel
theorem dX6_init_11 : decode cX6_init 11 = .ok (.getfield 13, 3) := by decide +kernel
theorem dX6_init_14 : decode cX6_init 14 = .ok (.putfield 19, 3) := by decide +kernel
theorem dX6_init_17 : decode cX6_init 17 = .ok (.aload_n 0, 1) := by decide +kernel
theorem dX6_init_18 : decode cX6_init 18 = .ok (.aload_n 2, 1) := by decide +kernel
theorem dX6_init_19 : decode cX6_init 19 = .ok (.getfield 20, 3) := by decide +kernel
theorem dX6_init_22 : decode cX6_init 22 = .ok (.putfield 23, 3) := by decide +kernel
theorem dX6_init_25 : decode cX6_init 25 = .ok (.aload_n 0, 1) := by decide +kernel
theorem dX6_init_26 : decode cX6_init 26 = .ok (.aload_n 2, 1) := by decide +kernel
theorem dX6_init_27 : decode cX6_init 27 = .ok (.getfield 24, 3) := by decide +kernel
theorem dX6_init_30 : decode cX6_init 30 = .ok (.putfield 27, 3) := by decide +kernel
theorem dX6_init_33 : decode cX6_init 33 = .ok (.aload_n 0, 1) := by decide +kernel
theorem dX6_init_34 : decode cX6_init 34 = .ok (.aload_n 2, 1) := by decide +kernel
theorem dX6_init_35 : decode cX6_init 35 = .ok (.getfield 28, 3) := by decide +kernel
theorem dX6_init_38 : decode cX6_init 38 = .ok (.putfield 31, 3) := by decide +kernel
theorem dX6_init_41 : decode cX6_init 41 = .ok (.aload_n 0, 1) := by decide +kernel
theorem dX6_init_42 : decode cX6_init 42 = .ok (.aload_n 2, 1) := by decide +kernel
theorem dX6_init_43 : decode cX6_init 43 = .ok (.getfield 32, 3) := by decide +kernel
theorem dX6_init_46 : decode cX6_init 46 = .ok (.putfield 35, 3) := by decide +kernel
theorem dX6_init_49 : decode cX6_init 49 = .ok (.aload_n 0, 1) := by decide +kernel
theorem dX6_init_50 : decode cX6_init 50 = .ok (.aload_n 2, 1) := by decide +kernel
theorem dX6_init_51 : decode cX6_init 51 = .ok (.getfield 36, 3) := by decide +kernel
theorem dX6_init_54 : decode cX6_init 54 = .ok (.putfield 39, 3) := by decide +kernel
theorem dX6_init_57 : decode cX6_init 57 = .ok (.return_, 1) := by decide +kernel
theorem dX7_init_0 : decode cX7_init 0 = .ok (.aload_n 0, 1) := by decide +kernel
theorem dX7_init_1 : decode cX7_init 1 = .ok (.invokespecial 1, 3) := by decide +kernel
theorem dX7_init_4 : decode cX7_init 4 = .ok (.aload_n 0, 1) := by decide +kernel
theorem dX7_init_5 : decode cX7_init 5 = .ok (.new 7, 3) := by decide +kernel
theorem dX7_init_8 : decode cX7_init 8 = .ok (.dup, 1) := by decide +kernel
theorem dX7_init_9 : decode cX7_init 9 = .ok (.invokespecial 9, 3) := by decide +kernel
theorem dX7_init_12 : decode cX7_init 12 = .ok (.putfield 10, 3) := by decide +kernel
theorem dX7_init_15 : decode cX7_init 15 = .ok (.aload_n 0, 1) := by decide +kernel
theorem dX7_init_16 : decode cX7_init 16 = .ok (.new 16, 3) := by decide +kernel
theorem dX7_init_19 : decode cX7_init 19 = .ok (.dup, 1) := by decide +kernel
theorem dX7_init_20 : decode cX7_init 20 = .ok (.invokespecial 18, 3) := by decide +kernel
theorem dX7_init_23 : decode cX7_init 23 = .ok (.putfield 19, 3) := by decide +kernel
theorem dX7_init_26 : decode cX7_init 26 = .ok (.aload_n 0, 1) := by decide +kernel
theorem dX7_init_27 : decode cX7_init 27 = .ok (.bipush 60, 2) := by decide +kernel
theorem dX7_init_29 : decode cX7_init 29 = .ok (.newarray .int, 2) := by decide +kernel
theorem dX7_init_31 : decode cX7_init 31 = .ok (.putfield 23, 3) := by decide +kernel
theorem dX7_init_34 : decode cX7_init 34 = .ok (.aload_n 0, 1) := by decide +kernel
theorem dX7_init_35 : decode cX7_init 35 = .ok (.new 27, 3) := by decide +kernel
theorem dX7_init_38 : decode cX7_init 38 = .ok (.dup, 1) := by decide +kernel
theorem dX7_init_39 : decode cX7_init 39 = .ok (.invokespecial 29, 3) := by decide +kernel
theorem dX7_init_42 : decode cX7_init 42 = .ok (.putfield 30, 3) := by decide +kernel
theorem dX7_init_45 : decode cX7_init 45 = .ok (.aload_n 0, 1) := by decide +kernel
theorem dX7_init_46 : decode cX7_init 46 = .ok (.new 34, 3) := by decide +kernel
theorem dX7_init_49 : decode cX7_init 49 = .ok (.dup, 1) := by decide +kernel
theorem dX7_init_50 : decode cX7_init 50 = .ok (.invokespecial 36, 3) := by decide +kernel
theorem dX7_init_53 : decode cX7_init 53 = .ok (.putfield 37, 3) := by decide +kernel
theorem dX7_init_56 : decode cX7_init 56 = .ok (.aload_n 0, 1) := by decide +kernel
theorem dX7_init_57 : decode cX7_init 57 = .ok (.new 41, 3) := by decide +kernel
theorem dX7_init_60 : decode cX7_init 60 = .ok (.dup, 1) := by decide +kernel
theorem dX7_init_61 : decode cX7_init 61 = .ok (.invokespecial 43, 3) := by decide +kernel
theorem dX7_init_64 : decode cX7_init 64 = .ok (.putfield 44, 3) := by decide +kernel
theorem dX7_init_67 : decode cX7_init 67 = .ok (.aload_n 0, 1) := by decide +kernel
theorem dX7_init_68 : decode cX7_init 68 = .ok (.iconst 0, 1) := by decide +kernel
theorem dX7_init_69 : decode cX7_init 69 = .ok (.putfield 48, 3) := by decide +kernel
theorem dX7_init_72 : decode cX7_init 72 = .ok (.return_, 1) := by decide +kernel
theorem dX7_define_0 : decode cX7_define 0 = .ok (.iload_n 1, 1) := by decide +kernel
theorem dX7_define_1 : decode cX7_define 1 = .ok (.invokestatic 52, 3) := by decide +kernel
theorem dX7_define_4 : decode cX7_define 4 = .ok (.aload_n 0, 1) := by decide +kernel
theorem dX7_define_5 : decode cX7_define 5 = .ok (.invokevirtual 56, 3) := by decide +kernel
theorem dX7_define_8 : decode cX7_define 8 = .ok (.aload_n 0, 1) := by decide +kernel
theorem dX7_define_9 : decode cX7_define 9 = .ok (.getfield 19, 3) := by decide +kernel
theorem dX7_define_12 : decode cX7_define 12 = .ok (.aload_n 0, 1) := by decide +kernel
theorem dX7_define_13 : decode cX7_define 13 = .ok (.getfield 10, 3) := by decide +kernel
theorem dX7_define_16 : decode cX7_define 16 = .ok (.invokevirtual 59, 3) := by decide +kernel
theorem dX7_define_19 : decode cX7_define 19 = .ok (.new 63, 3) := by decide +kernel
theorem dX7_define_22 : decode cX7_define 22 = .ok (.dup, 1) := by decide +kernel
theorem dX7_define_23 : decode cX7_define 23 = .ok (.aload_n 0, 1) := by decide +kernel
theorem dX7_define_24 : decode cX7_define 24 = .ok (.invokevirtual 65, 3) := by decide +kernel
theorem dX7_define_27 : decode cX7_define 27 = .ok (.aload_n 0, 1) := by decide +kernel
theorem dX7_define_28 : decode cX7_define 28 = .ok (.getfield 30, 3) := by decide +kernel
theorem dX7_define_31 : decode cX7_define 31 = .ok (.invokespecial 69, 3) := by decide +kernel
theorem dX7_define_34 : decode cX7_define 34 = .ok (.astore_n 2, 1) := by decide +kernel
theorem dX7_define_35 : decode cX7_define 35 = .ok (.aload_n 0, 1) := by decide +kernel
theorem dX7_define_36 : decode cX7_define 36 = .ok (.getfield 10, 3) := by decide +kernel
theorem dX7_define_39 : decode cX7_define 39 = .ok (.iload_n 1, 1) := by decide +kernel
theorem dX7_define_40 : decode cX7_define 40 = .ok (.aload_n 2, 1) := by decide +kernel
theorem dX7_define_41 : decode cX7_define 41 = .ok (.invokevirtual 72, 3) := by decide +kernel
theorem dX7_define_44 : decode cX7_define 44 = .ok (.aload_n 0, 1) := by decide +kernel
theorem dX7_define_45 : decode cX7_define 45 = .ok (.iconst 0, 1) := by decide +kernel
theorem dX7_define_46 : decode cX7_define 46 = .ok (.putfield 48, 3) := by decide +kernel
theorem dX7_define_49 : decode cX7_define 49 = .ok (.aload_n 2, 1) := by decide +kernel
theorem dX7_define_50 : decode cX7_define 50 = .ok (.getfield 76, 3) := by decide +kernel
theorem dX7_define_53 : decode cX7_define 53 = .ok (.ireturn, 1) := by decide +kernel
theorem dX7_remove_0 : decode cX7_remove 0 = .ok (.iload_n 1, 1) := by decide +kernel
theorem dX7_remove_1 : decode cX7_remove 1 = .ok (.invokestatic 52, 3) := by decide +kernel
theorem dX7_remove_4 : decode cX7_remove 4 = .ok (.aload_n 0, 1) := by decide +kernel
theorem dX7_remove_5 : decode cX7_remove 5 = .ok (.iload_n 1, 1) := by decide +kernel
theorem dX7_remove_6 : decode cX7_remove 6 = .ok (.invokevirtual 79, 3) := by decide +kernel
theorem dX7_remove_9 : decode cX7_remove 9 = .ok (.pop, 1) := by decide +kernel
theorem dX7_remove_10 : decode cX7_remove 10 = .ok (.aload_n 0, 1) := by decide +kernel
theorem dX7_remove_11 : decode cX7_remove 11 = .ok (.getfield 19, 3) := by decide +kernel
theorem dX7_remove_14 : decode cX7_remove 14 = .ok (.aload_n 0, 1) := by decide +kernel
theorem dX7_remove_15 : decode cX7_remove 15 = .ok (.getfield 10, 3) := by decide +kernel
theorem dX7_remove_18 : decode cX7_remove 18 = .ok (.invokevirtual 59, 3) := by decide +kernel
theorem dX7_remove_21 : decode cX7_remove 21 = .ok (.aload_n 0, 1) := by decide +kernel
theorem dX7_remove_22 : decode cX7_remove 22 = .ok (.getfield 10, 3) := by decide +kernel
theorem dX7_remove_25 : decode cX7_remove 25 = .ok (.iload_n 1, 1) := by decide +kernel
theorem dX7_remove_26 : decode cX7_remove 26 = .ok (.aconst_null, 1) := by decide +kernel
theorem dX7_remove_27 : decode cX7_remove 27 = .ok (.invokevirtual 72, 3) := by decide +kernel
theorem dX7_remove_30 : decode cX7_remove 30 = .ok (.aload_n 0, 1) := by decide +kernel
theorem dX7_remove_31 : decode cX7_remove 31 = .ok (.getfield 10, 3) := by decide +kernel
theorem dX7_remove_34 : decode cX7_remove 34 = .ok (.invokevirtual 83, 3) := by decide +kernel
theorem dX7_remove_37 : decode cX7_remove 37 = .ok (.ireturn, 1) := by decide +kernel
theorem dX7_exchange_0 : decode cX7_exchange 0 = .ok (.iload_n 1, 1) := by decide +kernel
theorem dX7_exchange_1 : decode cX7_exchange 1 = .ok (.invokestatic 52, 3) := by decide +kernel
theorem dX7_exchange_4 : decode cX7_exchange 4 = .ok (.iload_n 2, 1) := by decide +kernel
theorem dX7_exchange_5 : decode cX7_exchange 5 = .ok (.invokestatic 52, 3) := by decide +kernel
theorem dX7_exchange_8 : decode cX7_exchange 8 = .ok (.aload_n 0, 1) := by decide +kernel
theorem dX7_exchange_9 : decode cX7_exchange 9 = .ok (.getfield 19, 3) := by decide +kernel
theorem dX7_exchange_12 : decode cX7_exchange 12 = .ok (.aload_n 0, 1) := by decide +kernel
theorem dX7_exchange_13 : decode cX7_exchange 13 = .ok (.getfield 10, 3) := by decide +kernel
theorem dX7_exchange_16 : decode cX7_exchange 16 = .ok (.invokevirtual 59, 3) := by decide +kernel
theorem dX7_exchange_19 : decode cX7_exchange 19 = .ok (.aload_n 0, 1) := by decide +kernel
theorem dX7_exchange_20 : decode cX7_exchange 20 = .ok (.getfield 10, 3) := by decide +kernel
theorem dX7_exchange_23 : decode cX7_exchange 23 = .ok (.iload_n 1, 1) := by decide +kernel
theorem dX7_exchange_24 : decode cX7_exchange 24 = .ok (.invokevirtual 87, 3) := by decide +kernel
theorem dX7_exchange_27 : decode cX7_exchange 27 = .ok (.astore_n 3, 1) := by decide +kernel
theorem dX7_exchange_28 : decode cX7_exchange 28 = .ok (.aload_n 0, 1) := by decide +kernel
theorem dX7_exchange_29 : decode cX7_exchange 29 = .ok (.getfield 10, 3) := by decide +kernel
theorem dX7_exchange_32 : decode cX7_exchange 32 = .ok (.iload_n 2, 1) := by decide +kernel
theorem dX7_exchange_33 : decode cX7_exchange 33 = .ok (.invokevirtual 87, 3) := by decide +kernel
theorem dX7_exchange_36 : decode cX7_exchange 36 = .ok (.astore 4, 2) := by decide +kernel
theorem dX7_exchange_38 : decode cX7_exchange 38 = .ok (.aload_n 0, 1) := by decide +kernel
theorem dX7_exchange_39 : decode cX7_exchange 39 = .ok (.getfield 10, 3) := by decide +kernel
theorem dX7_exchange_42 : decode cX7_exchange 42 = .ok (.iload_n 1, 1) := by decide +kernel
theorem dX7_exchange_43 : decode cX7_exchange 43 = .ok (.aload 4, 2) := by decide +kernel
theorem dX7_exchange_45 : decode cX7_exchange 45 = .ok (.invokevirtual 72, 3) := by decide +kernel
theorem dX7_exchange_48 : decode cX7_exchange 48 = .ok (.aload_n 0, 1) := by decide +kernel
theorem dX7_exchange_49 : decode cX7_exchange 49 = .ok (.getfield 10, 3) := by decide +kernel
theorem dX7_exchange_52 : decode cX7_exchange 52 = .ok (.iload_n 2, 1) := by decide +kernel
theorem dX7_exchange_53 : decode cX7_exchange 53 = .ok (.aload_n 3, 1) := by decide +kernel
theorem dX7_exchange_54 : decode cX7_exchange 54 = .ok (.invokevirtual 72, 3) := by decide +kernel
theorem dX7_exchange_57 : decode cX7_exchange 57 = .ok (.aload_n 3, 1) := by decide +kernel
theorem dX7_exchange_58 : decode cX7_exchange 58 = .ok (.ifnonnull 7, 3) := by decide +kernel
theorem dX7_exchange_61 : decode cX7_exchange 61 = .ok (.iconst 0, 1) := by decide +kernel
theorem dX7_exchange_62 : decode cX7_exchange 62 = .ok (.goto 4, 3) := by decide +kernel
theorem dX7_exchange_65 : decode cX7_exchange 65 = .ok (.iconst 1, 1) := by decide +kernel
theorem dX7_exchange_66 : decode cX7_exchange 66 = .ok (.aload 4, 2) := by decide +kernel
theorem dX7_exchange_68 : decode cX7_exchange 68 = .ok (.ifnonnull 7, 3) := by decide +kernel
theorem dX7_exchange_71 : decode cX7_exchange 71 = .ok (.iconst 0, 1) := by decide +kernel
theorem dX7_exchange_72 : decode cX7_exchange 72 = .ok (.goto 4, 3) := by decide +kernel
theorem dX7_exchange_75 : decode cX7_exchange 75 = .ok (.iconst 1, 1) := by decide +kernel
theorem dX7_exchange_76 : decode cX7_exchange 76 = .ok (.iadd, 1) := by decide +kernel
theorem dX7_exchange_77 : decode cX7_exchange 77 = .ok (.ireturn, 1) := by decide +kernel
theorem dX7_set_0 : decode cX7_set 0 = .ok (.iload_n 1, 1) := by decide +kernel
theorem dX7_set_1 : decode cX7_set 1 = .ok (.iconst 1, 1) := by decide +kernel
theorem dX7_set_2 : decode cX7_set 2 = .ok (.if_icmp .lt 9, 3) := by decide +kernel
theorem dX7_set_5 : decode cX7_set 5 = .ok (.iload_n 1, 1) := by decide +kernel
theorem dX7_set_6 : decode cX7_set 6 = .ok (.bipush 12, 2) := by decide +kernel
theorem dX7_set_8 : decode cX7_set 8 = .ok (.if_icmp .le 13, 3) := by decide +kernel
theorem dX7_set_11 : decode cX7_set 11 = .ok (.new 90, 3) := by decide +kernel
theorem dX7_set_14 : decode cX7_set 14 = .ok (.dup, 1) := by decide +kernel
theorem dX7_set_15 : decode cX7_set 15 = .ok (.ldc 92, 2) := by decide +kernel
theorem dX7_set_17 : decode cX7_set 17 = .ok (.invokespecial 94, 3) := by decide +kernel
theorem dX7_set_20 : decode cX7_set 20 = .ok (.athrow, 1) := by decide +kernel
theorem dX7_set_21 : decode cX7_set 21 = .ok (.aload_n 0, 1) := by decide +kernel
theorem dX7_set_22 : decode cX7_set 22 = .ok (.getfield 19, 3) := by decide +kernel
theorem dX7_set_25 : decode cX7_set 25 = .ok (.aload_n 0, 1) := by decide +kernel
theorem dX7_set_26 : decode cX7_set 26 = .ok (.getfield 10, 3) := by decide +kernel
theorem dX7_set_29 : decode cX7_set 29 = .ok (.invokevirtual 59, 3) := by decide +kernel
theorem dX7_set_32 : decode cX7_set 32 = .ok (.aload_n 0, 1) := by decide +kernel
theorem dX7_set_33 : decode cX7_set 33 = .ok (.getfield 10, 3) := by decide +kernel
theorem dX7_set_36 : decode cX7_set 36 = .ok (.getfield 97, 3) := by decide +kernel
theorem dX7_set_39 : decode cX7_set 39 = .ok (.istore_n 2, 1) := by decide +kernel
theorem dX7_set_40 : decode cX7_set 40 = .ok (.aload_n 0, 1) := by decide +kernel
theorem dX7_set_41 : decode cX7_set 41 = .ok (.getfield 10, 3) := by decide +kernel
theorem dX7_set_44 : decode cX7_set 44 = .ok (.iload_n 1, 1) := by decide +kernel
theorem dX7_set_45 : decode cX7_set 45 = .ok (.putfield 97, 3) := by decide +kernel
theorem dX7_set_48 : decode cX7_set 48 = .ok (.iload_n 2, 1) := by decide +kernel
theorem dX7_set_49 : decode cX7_set 49 = .ok (.ireturn, 1) := by decide +kernel
theorem dX7_expand_0 : decode cX7_expand 0 = .ok (.aload_n 0, 1) := by decide +kernel
theorem dX7_expand_1 : decode cX7_expand 1 = .ok (.invokevirtual 56, 3) := by decide +kernel
theorem dX7_expand_4 : decode cX7_expand 4 = .ok (.aload_n 0, 1) := by decide +kernel
theorem dX7_expand_5 : decode cX7_expand 5 = .ok (.getfield 19, 3) := by decide +kernel
theorem dX7_expand_8 : decode cX7_expand 8 = .ok (.aload_n 0, 1) := by decide +kernel
theorem dX7_expand_9 : decode cX7_expand 9 = .ok (.getfield 10, 3) := by decide +kernel
theorem dX7_expand_12 : decode cX7_expand 12 = .ok (.invokevirtual 59, 3) := by decide +kernel
theorem dX7_expand_15 : decode cX7_expand 15 = .ok (.aload_n 0, 1) := by decide +kernel
theorem dX7_expand_16 : decode cX7_expand 16 = .ok (.getfield 44, 3) := by decide +kernel
theorem dX7_expand_19 : decode cX7_expand 19 = .ok (.aload_n 0, 1) := by decide +kernel
theorem dX7_expand_20 : decode cX7_expand 20 = .ok (.getfield 10, 3) := by decide +kernel
theorem dX7_expand_23 : decode cX7_expand 23 = .ok (.aload_n 0, 1) := by decide +kernel
theorem dX7_expand_24 : decode cX7_expand 24 = .ok (.getfield 23, 3) := by decide +kernel
theorem dX7_expand_27 : decode cX7_expand 27 = .ok (.aload_n 0, 1) := by decide +kernel
theorem dX7_expand_28 : decode cX7_expand 28 = .ok (.getfield 48, 3) := by decide +kernel
theorem dX7_expand_31 : decode cX7_expand 31 = .ok (.invokevirtual 100, 3) := by decide +kernel
theorem dX7_expand_34 : decode cX7_expand 34 = .ok (.ifCond .ne 18, 3) := by decide +kernel
theorem dX7_expand_37 : decode cX7_expand 37 = .ok (.aload_n 0, 1) := by decide +kernel
theorem dX7_expand_38 : decode cX7_expand 38 = .ok (.getfield 10, 3) := by decide +kernel
theorem dX7_expand_41 : decode cX7_expand 41 = .ok (.dup, 1) := by decide +kernel
theorem dX7_expand_42 : decode cX7_expand 42 = .ok (.getfield 104, 3) := by decide +kernel
theorem dX7_expand_45 : decode cX7_expand 45 = .ok (.iconst 1, 1) := by decide +kernel
theorem dX7_expand_46 : decode cX7_expand 46 = .ok (.iadd, 1) := by decide +kernel
theorem dX7_expand_47 : decode cX7_expand 47 = .ok (.putfield 104, 3) := by decide +kernel
theorem dX7_expand_50 : decode cX7_expand 50 = .ok (.iconst (-1), 1) := by decide +kernel
theorem dX7_expand_51 : decode cX7_expand 51 = .ok (.ireturn, 1) := by decide +kernel
theorem dX7_expand_52 : decode cX7_expand 52 = .ok (.aload_n 0, 1) := by decide +kernel
theorem dX7_expand_53 : decode cX7_expand 53 = .ok (.getfield 10, 3) := by decide +kernel
theorem dX7_expand_56 : decode cX7_expand 56 = .ok (.aload_n 0, 1) := by decide +kernel
theorem dX7_expand_57 : decode cX7_expand 57 = .ok (.getfield 44, 3) := by decide +kernel
theorem dX7_expand_60 : decode cX7_expand 60 = .ok (.invokevirtual 107, 3) := by decide +kernel
theorem dX7_expand_63 : decode cX7_expand 63 = .ok (.putfield 111, 3) := by decide +kernel
theorem dX7_expand_66 : decode cX7_expand 66 = .ok (.aload_n 0, 1) := by decide +kernel
theorem dX7_expand_67 : decode cX7_expand 67 = .ok (.getfield 10, 3) := by decide +kernel
theorem dX7_expand_70 : decode cX7_expand 70 = .ok (.dup, 1) := by decide +kernel
theorem dX7_expand_71 : decode cX7_expand 71 = .ok (.getfield 115, 3) := by decide +kernel
theorem dX7_expand_74 : decode cX7_expand 74 = .ok (.iconst 1, 1) := by decide +kernel
theorem dX7_expand_75 : decode cX7_expand 75 = .ok (.iadd, 1) := by decide +kernel
theorem dX7_expand_76 : decode cX7_expand 76 = .ok (.putfield 115, 3) := by decide +kernel
theorem dX7_expand_79 : decode cX7_expand 79 = .ok (.aload_n 0, 1) := by decide +kernel
theorem dX7_expand_80 : decode cX7_expand 80 = .ok (.getfield 10, 3) := by decide +kernel
theorem dX7_expand_83 : decode cX7_expand 83 = .ok (.getfield 111, 3) := by decide +kernel
theorem dX7_expand_86 : decode cX7_expand 86 = .ok (.getfield 118, 3) := by decide +kernel
theorem dX7_expand_89 : decode cX7_expand 89 = .ok (.arraylength, 1) := by decide +kernel
theorem dX7_expand_90 : decode cX7_expand 90 = .ok (.ireturn, 1) := by decide +kernel
theorem dX7_append_0 : decode cX7_append 0 = .ok (.iload_n 1, 1) := by decide +kernel
theorem dX7_append_1 : decode cX7_append 1 = .ok (.bipush 33, 2) := by decide +kernel
theorem dX7_append_3 : decode cX7_append 3 = .ok (.if_icmp .lt 9, 3) := by decide +kernel
theorem dX7_append_6 : decode cX7_append 6 = .ok (.iload_n 1, 1) := by decide +kernel
theorem dX7_append_7 : decode cX7_append 7 = .ok (.bipush 126, 2) := by decide +kernel
theorem dX7_append_9 : decode cX7_append 9 = .ok (.if_icmp .le 13, 3) := by decide +kernel
theorem dX7_append_12 : decode cX7_append 12 = .ok (.new 90, 3) := by decide +kernel
theorem dX7_append_15 : decode cX7_append 15 = .ok (.dup, 1) := by decide +kernel
theorem dX7_append_16 : decode cX7_append 16 = .ok (.ldc 123, 2) := by decide +kernel
theorem dX7_append_18 : decode cX7_append 18 = .ok (.invokespecial 94, 3) := by decide +kernel
theorem dX7_append_21 : decode cX7_append 21 = .ok (.athrow, 1) := by decide +kernel
theorem dX7_append_22 : decode cX7_append 22 = .ok (.aload_n 0, 1) := by decide +kernel
theorem dX7_append_23 : decode cX7_append 23 = .ok (.getfield 48, 3) := by decide +kernel
theorem dX7_append_26 : decode cX7_append 26 = .ok (.ifCond .lt 15, 3) := by decide +kernel
theorem dX7_append_29 : decode cX7_append 29 = .ok (.aload_n 0, 1) := by decide +kernel
theorem dX7_append_30 : decode cX7_append 30 = .ok (.getfield 48, 3) := by decide +kernel
theorem dX7_append_33 : decode cX7_append 33 = .ok (.aload_n 0, 1) := by decide +kernel
theorem dX7_append_34 : decode cX7_append 34 = .ok (.getfield 23, 3) := by decide +kernel
theorem dX7_append_37 : decode cX7_append 37 = .ok (.arraylength, 1) := by decide +kernel
theorem dX7_append_38 : decode cX7_append 38 = .ok (.if_icmp .lt 13, 3) := by decide +kernel
theorem dX7_append_41 : decode cX7_append 41 = .ok (.new 125, 3) := by decide +kernel
theorem dX7_append_44 : decode cX7_append 44 = .ok (.dup, 1) := by decide +kernel
theorem dX7_append_45 : decode cX7_append 45 = .ok (.ldc 127, 2) := by decide +kernel
theorem dX7_append_47 : decode cX7_append 47 = .ok (.invokespecial 129, 3) := by decide +kernel
theorem dX7_append_50 : decode cX7_append 50 = .ok (.athrow, 1) := by decide +kernel
theorem dX7_append_51 : decode cX7_append 51 = .ok (.aload_n 0, 1) := by decide +kernel
theorem dX7_append_52 : decode cX7_append 52 = .ok (.getfield 23, 3) := by decide +kernel
theorem dX7_append_55 : decode cX7_append 55 = .ok (.aload_n 0, 1) := by decide +kernel
theorem dX7_append_56 : decode cX7_append 56 = .ok (.getfield 48, 3) := by decide +kernel
theorem dX7_append_59 : decode cX7_append 59 = .ok (.iload_n 1, 1) := by decide +kernel
theorem dX7_append_60 : decode cX7_append 60 = .ok (.iastore, 1) := by decide +kernel
theorem dX7_append_61 : decode cX7_append 61 = .ok (.aload_n 0, 1) := by decide +kernel
theorem dX7_append_62 : decode cX7_append 62 = .ok (.dup, 1) := by decide +kernel
theorem dX7_append_63 : decode cX7_append 63 = .ok (.getfield 48, 3) := by decide +kernel
theorem dX7_append_66 : decode cX7_append 66 = .ok (.iconst 1, 1) := by decide +kernel
theorem dX7_append_67 : decode cX7_append 67 = .ok (.iadd, 1) := by decide +kernel
theorem dX7_append_68 : decode cX7_append 68 = .ok (.putfield 48, 3) := by decide +kernel
theorem dX7_append_71 : decode cX7_append 71 = .ok (.aload_n 0, 1) := by decide +kernel
theorem dX7_append_72 : decode cX7_append 72 = .ok (.getfield 48, 3) := by decide +kernel
theorem dX7_append_75 : decode cX7_append 75 = .ok (.ireturn, 1) := by decide +kernel
theorem dX7_clearBuffer_0 : decode cX7_clearBuffer 0 = .ok (.aload_n 0, 1) := by decide +kernel
theorem dX7_clearBuffer_1 : decode cX7_clearBuffer 1 = .ok (.getfield 48, 3) := by decide +kernel
theorem dX7_clearBuffer_4 : decode cX7_clearBuffer 4 = .ok (.istore_n 1, 1) := by decide +kernel
theorem dX7_clearBuffer_5 : decode cX7_clearBuffer 5 = .ok (.aload_n 0, 1) := by decide +kernel
theorem dX7_clearBuffer_6 : decode cX7_clearBuffer 6 = .ok (.iconst 0, 1) := by decide +kernel
theorem dX7_clearBuffer_7 : decode cX7_clearBuffer 7 = .ok (.putfield 48, 3) := by decide +kernel
theorem dX7_clearBuffer_10 : decode cX7_clearBuffer 10 = .ok (.iload_n 1, 1) := by decide +kernel
theorem dX7_clearBuffer_11 : decode cX7_clearBuffer 11 = .ok (.ireturn, 1) := by decide +kernel
theorem dX7_firstError_0 : decode cX7_firstError 0 = .ok (.aload_n 0, 1) := by decide +kernel
theorem dX7_firstError_1 : decode cX7_firstError 1 = .ok (.getfield 30, 3) := by decide +kernel
theorem dX7_firstError_4 : decode cX7_firstError 4 = .ok (.aload_n 0, 1) := by decide +kernel
theorem dX7_firstError_5 : decode cX7_firstError 5 = .ok (.getfield 23, 3) := by decide +kernel
theorem dX7_firstError_8 : decode cX7_firstError 8 = .ok (.aload_n 0, 1) := by decide +kernel
theorem dX7_firstError_9 : decode cX7_firstError 9 = .ok (.getfield 48, 3) := by decide +kernel
theorem dX7_firstError_12 : decode cX7_firstError 12 = .ok (.invokevirtual 130, 3) := by decide +kernel
theorem dX7_firstError_15 : decode cX7_firstError 15 = .ok (.aload_n 0, 1) := by decide +kernel
theorem dX7_firstError_16 : decode cX7_firstError 16 = .ok (.getfield 30, 3) := by decide +kernel
theorem dX7_firstError_19 : decode cX7_firstError 19 = .ok (.getfield 134, 3) := by decide +kernel
theorem dX7_firstError_22 : decode cX7_firstError 22 = .ok (.ireturn, 1) := by decide +kernel
theorem dX7_load_0 : decode cX7_load 0 = .ok (.iload_n 1, 1) := by decide +kernel
theorem dX7_load_1 : decode cX7_load 1 = .ok (.invokestatic 52, 3) := by decide +kernel
theorem dX7_load_4 : decode cX7_load 4 = .ok (.aload_n 0, 1) := by decide +kernel
theorem dX7_load_5 : decode cX7_load 5 = .ok (.iload_n 1, 1) := by decide +kernel
theorem dX7_load_6 : decode cX7_load 6 = .ok (.invokevirtual 79, 3) := by decide +kernel
theorem dX7_load_9 : decode cX7_load 9 = .ok (.astore_n 2, 1) := by decide +kernel
theorem dX7_load_10 : decode cX7_load 10 = .ok (.aload_n 2, 1) := by decide +kernel
theorem dX7_load_11 : decode cX7_load 11 = .ok (.getfield 137, 3) := by decide +kernel
theorem dX7_load_14 : decode cX7_load 14 = .ok (.arraylength, 1) := by decide +kernel
theorem dX7_load_15 : decode cX7_load 15 = .ok (.aload_n 0, 1) := by decide +kernel
theorem dX7_load_16 : decode cX7_load 16 = .ok (.getfield 23, 3) := by decide +kernel
theorem dX7_load_19 : decode cX7_load 19 = .ok (.arraylength, 1) := by decide +kernel
theorem dX7_load_20 : decode cX7_load 20 = .ok (.invokestatic 138, 3) := by decide +kernel
theorem dX7_load_23 : decode cX7_load 23 = .ok (.istore_n 3, 1) := by decide +kernel
theorem dX7_load_24 : decode cX7_load 24 = .ok (.iconst 0, 1) := by decide +kernel
theorem dX7_load_25 : decode cX7_load 25 = .ok (.istore 4, 2) := by decide +kernel
theorem dX7_load_27 : decode cX7_load 27 = .ok (.iload 4, 2) := by decide +kernel
theorem dX7_load_29 : decode cX7_load 29 = .ok (.iload_n 3, 1) := by decide +kernel
theorem dX7_load_30 : decode cX7_load 30 = .ok (.if_icmp .ge 23, 3) := by decide +kernel
theorem dX7_load_33 : decode cX7_load 33 = .ok (.aload_n 0, 1) := by decide +kernel
theorem dX7_load_34 : decode cX7_load 34 = .ok (.getfield 23, 3) := by decide +kernel
theorem dX7_load_37 : decode cX7_load 37 = .ok (.iload 4, 2) := by decide +kernel
theorem dX7_load_39 : decode cX7_load 39 = .ok (.aload_n 2, 1) := by decide +kernel
theorem dX7_load_40 : decode cX7_load 40 = .ok (.getfield 137, 3) := by decide +kernel
theorem dX7_load_43 : decode cX7_load 43 = .ok (.iload 4, 2) := by decide +kernel
theorem dX7_load_45 : decode cX7_load 45 = .ok (.iaload, 1) := by decide +kernel
theorem dX7_load_46 : decode cX7_load 46 = .ok (.iastore, 1) := by decide +kernel
theorem dX7_load_47 : decode cX7_load 47 = .ok (.iinc 4 1, 3) := by decide +kernel
theorem dX7_load_50 : decode cX7_load 50 = .ok (.goto (-23), 3) := by decide +kernel
theorem dX7_load_53 : decode cX7_load 53 = .ok (.aload_n 0, 1) := by decide +kernel
theorem dX7_load_54 : decode cX7_load 54 = .ok (.iload_n 3, 1) := by decide +kernel
theorem dX7_load_55 : decode cX7_load 55 = .ok (.putfield 48, 3) := by decide +kernel
theorem dX7_load_58 : decode cX7_load 58 = .ok (.aload_n 0, 1) := by decide +kernel
theorem dX7_load_59 : decode cX7_load 59 = .ok (.getfield 48, 3) := by decide +kernel
theorem dX7_load_62 : decode cX7_load 62 = .ok (.ireturn, 1) := by decide +kernel
theorem dX7_undo_0 : decode cX7_undo 0 = .ok (.aload_n 0, 1) := by decide +kernel
theorem dX7_undo_1 : decode cX7_undo 1 = .ok (.getfield 19, 3) := by decide +kernel
theorem dX7_undo_4 : decode cX7_undo 4 = .ok (.aload_n 0, 1) := by decide +kernel
theorem dX7_undo_5 : decode cX7_undo 5 = .ok (.getfield 10, 3) := by decide +kernel
theorem dX7_undo_8 : decode cX7_undo 8 = .ok (.invokevirtual 144, 3) := by decide +kernel
theorem dX7_undo_11 : decode cX7_undo 11 = .ok (.ifCond .ne 13, 3) := by decide +kernel
theorem dX7_undo_14 : decode cX7_undo 14 = .ok (.new 125, 3) := by decide +kernel
theorem dX7_undo_17 : decode cX7_undo 17 = .ok (.dup, 1) := by decide +kernel
theorem dX7_undo_18 : decode cX7_undo 18 = .ok (.ldc 148, 2) := by decide +kernel
theorem dX7_undo_20 : decode cX7_undo 20 = .ok (.invokespecial 129, 3) := by decide +kernel
theorem dX7_undo_23 : decode cX7_undo 23 = .ok (.athrow, 1) := by decide +kernel
theorem dX7_undo_24 : decode cX7_undo 24 = .ok (.aload_n 0, 1) := by decide +kernel
theorem dX7_undo_25 : decode cX7_undo 25 = .ok (.getfield 19, 3) := by decide +kernel
theorem dX7_undo_28 : decode cX7_undo 28 = .ok (.getfield 150, 3) := by decide +kernel
theorem dX7_undo_31 : decode cX7_undo 31 = .ok (.ireturn, 1) := by decide +kernel
theorem dX7_keep_0 : decode cX7_keep 0 = .ok (.iload_n 1, 1) := by decide +kernel
theorem dX7_keep_1 : decode cX7_keep 1 = .ok (.invokestatic 153, 3) := by decide +kernel
theorem dX7_keep_4 : decode cX7_keep 4 = .ok (.aload_n 0, 1) := by decide +kernel
theorem dX7_keep_5 : decode cX7_keep 5 = .ok (.getfield 19, 3) := by decide +kernel
theorem dX7_keep_8 : decode cX7_keep 8 = .ok (.iload_n 1, 1) := by decide +kernel
theorem dX7_keep_9 : decode cX7_keep 9 = .ok (.aload_n 0, 1) := by decide +kernel
theorem dX7_keep_10 : decode cX7_keep 10 = .ok (.getfield 10, 3) := by decide +kernel
theorem dX7_keep_13 : decode cX7_keep 13 = .ok (.invokevirtual 156, 3) := by decide +kernel
theorem dX7_keep_16 : decode cX7_keep 16 = .ok (.aload_n 0, 1) := by decide +kernel
theorem dX7_keep_17 : decode cX7_keep 17 = .ok (.getfield 10, 3) := by decide +kernel
theorem dX7_keep_20 : decode cX7_keep 20 = .ok (.invokevirtual 83, 3) := by decide +kernel
theorem dX7_keep_23 : decode cX7_keep 23 = .ok (.ireturn, 1) := by decide +kernel
theorem dX7_goBack_0 : decode cX7_goBack 0 = .ok (.iload_n 1, 1) := by decide +kernel
theorem dX7_goBack_1 : decode cX7_goBack 1 = .ok (.invokestatic 153, 3) := by decide +kernel
theorem dX7_goBack_4 : decode cX7_goBack 4 = .ok (.aload_n 0, 1) := by decide +kernel
theorem dX7_goBack_5 : decode cX7_goBack 5 = .ok (.getfield 19, 3) := by decide +kernel
theorem dX7_goBack_8 : decode cX7_goBack 8 = .ok (.iload_n 1, 1) := by decide +kernel
theorem dX7_goBack_9 : decode cX7_goBack 9 = .ok (.invokevirtual 160, 3) := by decide +kernel
theorem dX7_goBack_12 : decode cX7_goBack 12 = .ok (.astore_n 2, 1) := by decide +kernel
theorem dX7_goBack_13 : decode cX7_goBack 13 = .ok (.aload_n 2, 1) := by decide +kernel
theorem dX7_goBack_14 : decode cX7_goBack 14 = .ok (.ifnonnull 13, 3) := by decide +kernel
theorem dX7_goBack_17 : decode cX7_goBack 17 = .ok (.new 125, 3) := by decide +kernel
theorem dX7_goBack_20 : decode cX7_goBack 20 = .ok (.dup, 1) := by decide +kernel
theorem dX7_goBack_21 : decode cX7_goBack 21 = .ok (.ldc 164, 2) := by decide +kernel
theorem dX7_goBack_23 : decode cX7_goBack 23 = .ok (.invokespecial 129, 3) := by decide +kernel
theorem dX7_goBack_26 : decode cX7_goBack 26 = .ok (.athrow, 1) := by decide +kernel
theorem dX7_goBack_27 : decode cX7_goBack 27 = .ok (.aload_n 0, 1) := by decide +kernel
theorem dX7_goBack_28 : decode cX7_goBack 28 = .ok (.getfield 19, 3) := by decide +kernel
theorem dX7_goBack_31 : decode cX7_goBack 31 = .ok (.aload_n 0, 1) := by decide +kernel
theorem dX7_goBack_32 : decode cX7_goBack 32 = .ok (.getfield 10, 3) := by decide +kernel
theorem dX7_goBack_35 : decode cX7_goBack 35 = .ok (.invokevirtual 59, 3) := by decide +kernel
theorem dX7_goBack_38 : decode cX7_goBack 38 = .ok (.aload_n 0, 1) := by decide +kernel
theorem dX7_goBack_39 : decode cX7_goBack 39 = .ok (.getfield 10, 3) := by decide +kernel
theorem dX7_goBack_42 : decode cX7_goBack 42 = .ok (.aload_n 2, 1) := by decide +kernel
theorem dX7_goBack_43 : decode cX7_goBack 43 = .ok (.invokevirtual 166, 3) := by decide +kernel
theorem dX7_goBack_46 : decode cX7_goBack 46 = .ok (.aload_n 0, 1) := by decide +kernel
theorem dX7_goBack_47 : decode cX7_goBack 47 = .ok (.getfield 10, 3) := by decide +kernel
theorem dX7_goBack_50 : decode cX7_goBack 50 = .ok (.invokevirtual 83, 3) := by decide +kernel
theorem dX7_goBack_53 : decode cX7_goBack 53 = .ok (.ireturn, 1) := by decide +kernel
theorem dX7_body_0 : decode cX7_body 0 = .ok (.iload_n 1, 1) := by decide +kernel
theorem dX7_body_1 : decode cX7_body 1 = .ok (.invokestatic 52, 3) := by decide +kernel
theorem dX7_body_4 : decode cX7_body 4 = .ok (.iload_n 2, 1) := by decide +kernel
theorem dX7_body_5 : decode cX7_body 5 = .ok (.iconst 5, 1) := by decide +kernel
theorem dX7_body_6 : decode cX7_body 6 = .ok (.invokestatic 169, 3) := by decide +kernel
theorem dX7_body_9 : decode cX7_body 9 = .ok (.aload_n 0, 1) := by decide +kernel
theorem dX7_body_10 : decode cX7_body 10 = .ok (.getfield 10, 3) := by decide +kernel
theorem dX7_body_13 : decode cX7_body 13 = .ok (.iload_n 1, 1) := by decide +kernel
theorem dX7_body_14 : decode cX7_body 14 = .ok (.invokevirtual 87, 3) := by decide +kernel
theorem dX7_body_17 : decode cX7_body 17 = .ok (.astore_n 3, 1) := by decide +kernel
theorem dX7_body_18 : decode cX7_body 18 = .ok (.aload_n 3, 1) := by decide +kernel
theorem dX7_body_19 : decode cX7_body 19 = .ok (.ifnonnull 5, 3) := by decide +kernel
theorem dX7_body_22 : decode cX7_body 22 = .ok (.iconst (-1), 1) := by decide +kernel
theorem dX7_body_23 : decode cX7_body 23 = .ok (.ireturn, 1) := by decide +kernel
theorem dX7_body_24 : decode cX7_body 24 = .ok (.iload_n 2, 1) := by decide +kernel
theorem dX7_body_25 : decode cX7_body 25 = .ok (.tableswitch 61 0 4 #[35, 41, 46, 51, 56], 35) := by decide +kernel
theorem dX7_body_60 : decode cX7_body 60 = .ok (.aload_n 3, 1) := by decide +kernel
theorem dX7_body_61 : decode cX7_body 61 = .ok (.getfield 137, 3) := by decide +kernel
theorem dX7_body_64 : decode cX7_body 64 = .ok (.arraylength, 1) := by decide +kernel
theorem dX7_body_65 : decode cX7_body 65 = .ok (.ireturn, 1) := by decide +kernel
theorem dX7_body_66 : decode cX7_body 66 = .ok (.aload_n 3, 1) := by decide +kernel
theorem dX7_body_67 : decode cX7_body 67 = .ok (.getfield 76, 3) := by decide +kernel
theorem dX7_body_70 : decode cX7_body 70 = .ok (.ireturn, 1) := by decide +kernel
theorem dX7_body_71 : decode cX7_body 71 = .ok (.aload_n 3, 1) := by decide +kernel
theorem dX7_body_72 : decode cX7_body 72 = .ok (.getfield 173, 3) := by decide +kernel
theorem dX7_body_75 : decode cX7_body 75 = .ok (.ireturn, 1) := by decide +kernel
theorem dX7_body_76 : decode cX7_body 76 = .ok (.aload_n 3, 1) := by decide +kernel
theorem dX7_body_77 : decode cX7_body 77 = .ok (.getfield 176, 3) := by decide +kernel
theorem dX7_body_80 : decode cX7_body 80 = .ok (.ireturn, 1) := by decide +kernel
theorem dX7_body_81 : decode cX7_body 81 = .ok (.aload_n 3, 1) := by decide +kernel
theorem dX7_body_82 : decode cX7_body 82 = .ok (.getfield 179, 3) := by decide +kernel
theorem dX7_body_85 : decode cX7_body 85 = .ok (.ireturn, 1) := by decide +kernel
theorem dX7_body_86 : decode cX7_body 86 = .ok (.aload_n 3, 1) := by decide +kernel
theorem dX7_body_87 : decode cX7_body 87 = .ok (.getfield 182, 3) := by decide +kernel
theorem dX7_body_90 : decode cX7_body 90 = .ok (.ireturn, 1) := by decide +kernel
theorem dX7_uses_0 : decode cX7_uses 0 = .ok (.iload_n 1, 1) := by decide +kernel
theorem dX7_uses_1 : decode cX7_uses 1 = .ok (.invokestatic 52, 3) := by decide +kernel
theorem dX7_uses_4 : decode cX7_uses 4 = .ok (.iload_n 2, 1) := by decide +kernel
theorem dX7_uses_5 : decode cX7_uses 5 = .ok (.iconst 3, 1) := by decide +kernel
theorem dX7_uses_6 : decode cX7_uses 6 = .ok (.invokestatic 169, 3) := by decide +kernel
theorem dX7_uses_9 : decode cX7_uses 9 = .ok (.aload_n 0, 1) := by decide +kernel
theorem dX7_uses_10 : decode cX7_uses 10 = .ok (.getfield 37, 3) := by decide +kernel
theorem dX7_uses_13 : decode cX7_uses 13 = .ok (.aload_n 0, 1) := by decide +kernel
theorem dX7_uses_14 : decode cX7_uses 14 = .ok (.getfield 10, 3) := by decide +kernel
theorem dX7_uses_17 : decode cX7_uses 17 = .ok (.invokevirtual 185, 3) := by decide +kernel
theorem dX7_uses_20 : decode cX7_uses 20 = .ok (.iload_n 2, 1) := by decide +kernel
theorem dX7_uses_21 : decode cX7_uses 21 = .ok (.tableswitch 54 0 2 #[27, 36, 45], 27) := by decide +kernel
theorem dX7_uses_48 : decode cX7_uses 48 = .ok (.aload_n 0, 1) := by decide +kernel
theorem dX7_uses_49 : decode cX7_uses 49 = .ok (.getfield 37, 3) := by decide +kernel
theorem dX7_uses_52 : decode cX7_uses 52 = .ok (.iload_n 1, 1) := by decide +kernel
theorem dX7_uses_53 : decode cX7_uses 53 = .ok (.invokevirtual 188, 3) := by decide +kernel
theorem dX7_uses_56 : decode cX7_uses 56 = .ok (.ireturn, 1) := by decide +kernel
theorem dX7_uses_57 : decode cX7_uses 57 = .ok (.aload_n 0, 1) := by decide +kernel
theorem dX7_uses_58 : decode cX7_uses 58 = .ok (.getfield 37, 3) := by decide +kernel
theorem dX7_uses_61 : decode cX7_uses 61 = .ok (.iload_n 1, 1) := by decide +kernel
theorem dX7_uses_62 : decode cX7_uses 62 = .ok (.invokevirtual 192, 3) := by decide +kernel
theorem dX7_uses_65 : decode cX7_uses 65 = .ok (.ireturn, 1) := by decide +kernel
theorem dX7_uses_66 : decode cX7_uses 66 = .ok (.aload_n 0, 1) := by decide +kernel
theorem dX7_uses_67 : decode cX7_uses 67 = .ok (.getfield 37, 3) := by decide +kernel
theorem dX7_uses_70 : decode cX7_uses 70 = .ok (.iload_n 1, 1) := by decide +kernel
theorem dX7_uses_71 : decode cX7_uses 71 = .ok (.invokevirtual 195, 3) := by decide +kernel
theorem dX7_uses_74 : decode cX7_uses 74 = .ok (.ireturn, 1) := by decide +kernel
theorem dX7_uses_75 : decode cX7_uses 75 = .ok (.aload_n 0, 1) := by decide +kernel
theorem dX7_uses_76 : decode cX7_uses 76 = .ok (.getfield 37, 3) := by decide +kernel
theorem dX7_uses_79 : decode cX7_uses 79 = .ok (.iload_n 1, 1) := by decide +kernel
theorem dX7_uses_80 : decode cX7_uses 80 = .ok (.invokevirtual 198, 3) := by decide +kernel
theorem dX7_uses_83 : decode cX7_uses 83 = .ok (.ireturn, 1) := by decide +kernel
theorem dX7_rings_0 : decode cX7_rings 0 = .ok (.aload_n 0, 1) := by decide +kernel
theorem dX7_rings_1 : decode cX7_rings 1 = .ok (.getfield 37, 3) := by decide +kernel
theorem dX7_rings_4 : decode cX7_rings 4 = .ok (.aload_n 0, 1) := by decide +kernel
theorem dX7_rings_5 : decode cX7_rings 5 = .ok (.getfield 10, 3) := by decide +kernel
theorem dX7_rings_8 : decode cX7_rings 8 = .ok (.invokevirtual 185, 3) := by decide +kernel
theorem dX7_rings_11 : decode cX7_rings 11 = .ok (.aload_n 0, 1) := by decide +kernel
theorem dX7_rings_12 : decode cX7_rings 12 = .ok (.getfield 37, 3) := by decide +kernel
theorem dX7_rings_15 : decode cX7_rings 15 = .ok (.invokevirtual 201, 3) := by decide +kernel
theorem dX7_rings_18 : decode cX7_rings 18 = .ok (.ireturn, 1) := by decide +kernel
theorem dX7_missing_0 : decode cX7_missing 0 = .ok (.aload_n 0, 1) := by decide +kernel
theorem dX7_missing_1 : decode cX7_missing 1 = .ok (.getfield 37, 3) := by decide +kernel
theorem dX7_missing_4 : decode cX7_missing 4 = .ok (.aload_n 0, 1) := by decide +kernel
theorem dX7_missing_5 : decode cX7_missing 5 = .ok (.getfield 10, 3) := by decide +kernel
theorem dX7_missing_8 : decode cX7_missing 8 = .ok (.invokevirtual 185, 3) := by decide +kernel
theorem dX7_missing_11 : decode cX7_missing 11 = .ok (.aload_n 0, 1) := by decide +kernel
theorem dX7_missing_12 : decode cX7_missing 12 = .ok (.getfield 37, 3) := by decide +kernel
theorem dX7_missing_15 : decode cX7_missing 15 = .ok (.invokevirtual 204, 3) := by decide +kernel
theorem dX7_missing_18 : decode cX7_missing 18 = .ok (.ireturn, 1) := by decide +kernel
theorem dX7_chain_0 : decode cX7_chain 0 = .ok (.iload_n 1, 1) := by decide +kernel
theorem dX7_chain_1 : decode cX7_chain 1 = .ok (.invokestatic 52, 3) := by decide +kernel
theorem dX7_chain_4 : decode cX7_chain 4 = .ok (.aload_n 0, 1) := by decide +kernel
theorem dX7_chain_5 : decode cX7_chain 5 = .ok (.getfield 37, 3) := by decide +kernel
theorem dX7_chain_8 : decode cX7_chain 8 = .ok (.aload_n 0, 1) := by decide +kernel
theorem dX7_chain_9 : decode cX7_chain 9 = .ok (.getfield 10, 3) := by decide +kernel
theorem dX7_chain_12 : decode cX7_chain 12 = .ok (.invokevirtual 185, 3) := by decide +kernel
theorem dX7_chain_15 : decode cX7_chain 15 = .ok (.aload_n 0, 1) := by decide +kernel
theorem dX7_chain_16 : decode cX7_chain 16 = .ok (.getfield 37, 3) := by decide +kernel
theorem dX7_chain_19 : decode cX7_chain 19 = .ok (.iload_n 1, 1) := by decide +kernel
theorem dX7_chain_20 : decode cX7_chain 20 = .ok (.invokevirtual 207, 3) := by decide +kernel
theorem dX7_chain_23 : decode cX7_chain 23 = .ok (.ireturn, 1) := by decide +kernel
theorem dX7_ifDefined_0 : decode cX7_ifDefined 0 = .ok (.iload_n 1, 1) := by decide +kernel
theorem dX7_ifDefined_1 : decode cX7_ifDefined 1 = .ok (.invokestatic 52, 3) := by decide +kernel
theorem dX7_ifDefined_4 : decode cX7_ifDefined 4 = .ok (.aload_n 0, 1) := by decide +kernel
theorem dX7_ifDefined_5 : decode cX7_ifDefined 5 = .ok (.invokevirtual 56, 3) := by decide +kernel
theorem dX7_ifDefined_8 : decode cX7_ifDefined 8 = .ok (.aload_n 0, 1) := by decide +kernel
theorem dX7_ifDefined_9 : decode cX7_ifDefined 9 = .ok (.getfield 37, 3) := by decide +kernel
theorem dX7_ifDefined_12 : decode cX7_ifDefined 12 = .ok (.aload_n 0, 1) := by decide +kernel
theorem dX7_ifDefined_13 : decode cX7_ifDefined 13 = .ok (.getfield 10, 3) := by decide +kernel
theorem dX7_ifDefined_16 : decode cX7_ifDefined 16 = .ok (.invokevirtual 185, 3) := by decide +kernel
theorem dX7_ifDefined_19 : decode cX7_ifDefined 19 = .ok (.aload_n 0, 1) := by decide +kernel
theorem dX7_ifDefined_20 : decode cX7_ifDefined 20 = .ok (.getfield 37, 3) := by decide +kernel
theorem dX7_ifDefined_23 : decode cX7_ifDefined 23 = .ok (.iload_n 1, 1) := by decide +kernel
theorem dX7_ifDefined_24 : decode cX7_ifDefined 24 = .ok (.aload_n 0, 1) := by decide +kernel
theorem dX7_ifDefined_25 : decode cX7_ifDefined 25 = .ok (.getfield 30, 3) := by decide +kernel
theorem dX7_ifDefined_28 : decode cX7_ifDefined 28 = .ok (.getfield 210, 3) := by decide +kernel
theorem dX7_ifDefined_31 : decode cX7_ifDefined 31 = .ok (.invokevirtual 213, 3) := by decide +kernel
theorem dX7_ifDefined_34 : decode cX7_ifDefined 34 = .ok (.aload_n 0, 1) := by decide +kernel
theorem dX7_ifDefined_35 : decode cX7_ifDefined 35 = .ok (.getfield 37, 3) := by decide +kernel
theorem dX7_ifDefined_38 : decode cX7_ifDefined 38 = .ok (.invokevirtual 201, 3) := by decide +kernel
theorem dX7_ifDefined_41 : decode cX7_ifDefined 41 = .ok (.ireturn, 1) := by decide +kernel
theorem dX7_sign_0 : decode cX7_sign 0 = .ok (.iload_n 1, 1) := by decide +kernel
theorem dX7_sign_1 : decode cX7_sign 1 = .ok (.ifCond .ge 13, 3) := by decide +kernel
theorem dX7_sign_4 : decode cX7_sign 4 = .ok (.new 90, 3) := by decide +kernel
theorem dX7_sign_7 : decode cX7_sign 7 = .ok (.dup, 1) := by decide +kernel
theorem dX7_sign_8 : decode cX7_sign 8 = .ok (.ldc 216, 2) := by decide +kernel
theorem dX7_sign_10 : decode cX7_sign 10 = .ok (.invokespecial 94, 3) := by decide +kernel
theorem dX7_sign_13 : decode cX7_sign 13 = .ok (.athrow, 1) := by decide +kernel
theorem dX7_sign_14 : decode cX7_sign 14 = .ok (.aload_n 0, 1) := by decide +kernel
theorem dX7_sign_15 : decode cX7_sign 15 = .ok (.getfield 10, 3) := by decide +kernel
theorem dX7_sign_18 : decode cX7_sign 18 = .ok (.getfield 111, 3) := by decide +kernel
theorem dX7_sign_21 : decode cX7_sign 21 = .ok (.getfield 118, 3) := by decide +kernel
theorem dX7_sign_24 : decode cX7_sign 24 = .ok (.astore_n 2, 1) := by decide +kernel
theorem dX7_sign_25 : decode cX7_sign 25 = .ok (.iload_n 1, 1) := by decide +kernel
theorem dX7_sign_26 : decode cX7_sign 26 = .ok (.aload_n 2, 1) := by decide +kernel
theorem dX7_sign_27 : decode cX7_sign 27 = .ok (.arraylength, 1) := by decide +kernel
theorem dX7_sign_28 : decode cX7_sign 28 = .ok (.if_icmp .ge 9, 3) := by decide +kernel
theorem dX7_sign_31 : decode cX7_sign 31 = .ok (.aload_n 2, 1) := by decide +kernel
theorem dX7_sign_32 : decode cX7_sign 32 = .ok (.iload_n 1, 1) := by decide +kernel
theorem dX7_sign_33 : decode cX7_sign 33 = .ok (.iaload, 1) := by decide +kernel
theorem dX7_sign_34 : decode cX7_sign 34 = .ok (.goto 4, 3) := by decide +kernel
theorem dX7_sign_37 : decode cX7_sign 37 = .ok (.iconst (-1), 1) := by decide +kernel
theorem dX7_sign_38 : decode cX7_sign 38 = .ok (.ireturn, 1) := by decide +kernel
theorem dX7_result_0 : decode cX7_result 0 = .ok (.iload_n 1, 1) := by decide +kernel
theorem dX7_result_1 : decode cX7_result 1 = .ok (.bipush 7, 2) := by decide +kernel
theorem dX7_result_3 : decode cX7_result 3 = .ok (.invokestatic 169, 3) := by decide +kernel
theorem dX7_result_6 : decode cX7_result 6 = .ok (.aload_n 0, 1) := by decide +kernel
theorem dX7_result_7 : decode cX7_result 7 = .ok (.getfield 10, 3) := by decide +kernel
theorem dX7_result_10 : decode cX7_result 10 = .ok (.getfield 111, 3) := by decide +kernel
theorem dX7_result_13 : decode cX7_result 13 = .ok (.astore_n 2, 1) := by decide +kernel
theorem dX7_result_14 : decode cX7_result 14 = .ok (.iload_n 1, 1) := by decide +kernel
theorem dX7_result_15 : decode cX7_result 15 = .ok (.tableswitch 85 0 6 #[41, 47, 54, 61, 68, 75, 80], 41) := by decide +kernel
theorem dX7_result_56 : decode cX7_result 56 = .ok (.aload_n 2, 1) := by decide +kernel
theorem dX7_result_57 : decode cX7_result 57 = .ok (.getfield 118, 3) := by decide +kernel
theorem dX7_result_60 : decode cX7_result 60 = .ok (.arraylength, 1) := by decide +kernel
theorem dX7_result_61 : decode cX7_result 61 = .ok (.ireturn, 1) := by decide +kernel
theorem dX7_result_62 : decode cX7_result 62 = .ok (.aload_n 2, 1) := by decide +kernel
theorem dX7_result_63 : decode cX7_result 63 = .ok (.bipush 35, 2) := by decide +kernel
theorem dX7_result_65 : decode cX7_result 65 = .ok (.invokevirtual 218, 3) := by decide +kernel
theorem dX7_result_68 : decode cX7_result 68 = .ok (.ireturn, 1) := by decide +kernel
theorem dX7_result_69 : decode cX7_result 69 = .ok (.aload_n 2, 1) := by decide +kernel
theorem dX7_result_70 : decode cX7_result 70 = .ok (.bipush 37, 2) := by decide +kernel
theorem dX7_result_72 : decode cX7_result 72 = .ok (.invokevirtual 218, 3) := by decide +kernel
theorem dX7_result_75 : decode cX7_result 75 = .ok (.ireturn, 1) := by decide +kernel
theorem dX7_result_76 : decode cX7_result 76 = .ok (.aload_n 2, 1) := by decide +kernel
theorem dX7_result_77 : decode cX7_result 77 = .ok (.bipush 36, 2) := by decide +kernel
theorem dX7_result_79 : decode cX7_result 79 = .ok (.invokevirtual 218, 3) := by decide +kernel
theorem dX7_result_82 : decode cX7_result 82 = .ok (.ireturn, 1) := by decide +kernel
theorem dX7_result_83 : decode cX7_result 83 = .ok (.aload_n 2, 1) := by decide +kernel
theorem dX7_result_84 : decode cX7_result 84 = .ok (.bipush 63, 2) := by decide +kernel
theorem dX7_result_86 : decode cX7_result 86 = .ok (.invokevirtual 218, 3) := by decide +kernel
theorem dX7_result_89 : decode cX7_result 89 = .ok (.ireturn, 1) := by decide +kernel
theorem dX7_result_90 : decode cX7_result 90 = .ok (.aload_n 2, 1) := by decide +kernel
theorem dX7_result_91 : decode cX7_result 91 = .ok (.getfield 221, 3) := by decide +kernel
theorem dX7_result_94 : decode cX7_result 94 = .ok (.ireturn, 1) := by decide +kernel
theorem dX7_result_95 : decode cX7_result 95 = .ok (.aload_n 2, 1) := by decide +kernel
theorem dX7_result_96 : decode cX7_result 96 = .ok (.getfield 224, 3) := by decide +kernel
theorem dX7_result_99 : decode cX7_result 99 = .ok (.ireturn, 1) := by decide +kernel
theorem dX7_result_100 : decode cX7_result 100 = .ok (.aload_n 2, 1) := by decide +kernel
theorem dX7_result_101 : decode cX7_result 101 = .ok (.invokevirtual 227, 3) := by decide +kernel
theorem dX7_result_104 : decode cX7_result 104 = .ok (.ireturn, 1) := by decide +kernel
theorem dX7_trace_0 : decode cX7_trace 0 = .ok (.iload_n 1, 1) := by decide +kernel
theorem dX7_trace_1 : decode cX7_trace 1 = .ok (.ifCond .ge 13, 3) := by decide +kernel
theorem dX7_trace_4 : decode cX7_trace 4 = .ok (.new 90, 3) := by decide +kernel
theorem dX7_trace_7 : decode cX7_trace 7 = .ok (.dup, 1) := by decide +kernel
theorem dX7_trace_8 : decode cX7_trace 8 = .ok (.ldc 216, 2) := by decide +kernel
theorem dX7_trace_10 : decode cX7_trace 10 = .ok (.invokespecial 94, 3) := by decide +kernel
theorem dX7_trace_13 : decode cX7_trace 13 = .ok (.athrow, 1) := by decide +kernel
theorem dX7_trace_14 : decode cX7_trace 14 = .ok (.iload_n 2, 1) := by decide +kernel
end
section
theorem dX7_trace_15 : decode cX7_trace 15 = .ok (.iconst 5, 1) := by decide +kernel
theorem dX7_trace_16 : decode cX7_trace 16 = .ok (.invokestatic 169, 3) := by decide +kernel
theorem dX7_trace_19 : decode cX7_trace 19 = .ok (.aload_n 0, 1) := by decide +kernel
theorem dX7_trace_20 : decode cX7_trace 20 = .ok (.getfield 10, 3) := by decide +kernel
theorem dX7_trace_23 : decode cX7_trace 23 = .ok (.getfield 111, 3) := by decide +kernel
theorem dX7_trace_26 : decode cX7_trace 26 = .ok (.iload_n 1, 1) := by decide +kernel
theorem dX7_trace_27 : decode cX7_trace 27 = .ok (.iload_n 2, 1) := by decide +kernel
theorem dX7_trace_28 : decode cX7_trace 28 = .ok (.invokevirtual 230, 3) := by decide +kernel
theorem dX7_trace_31 : decode cX7_trace 31 = .ok (.ireturn, 1) := by decide +kernel
theorem dX7_lengthOf_0 : decode cX7_lengthOf 0 = .ok (.iload_n 1, 1) := by decide +kernel
theorem dX7_lengthOf_1 : decode cX7_lengthOf 1 = .ok (.invokestatic 52, 3) := by decide +kernel
theorem dX7_lengthOf_4 : decode cX7_lengthOf 4 = .ok (.iload_n 2, 1) := by decide +kernel
theorem dX7_lengthOf_5 : decode cX7_lengthOf 5 = .ok (.ifCond .lt 9, 3) := by decide +kernel
theorem dX7_lengthOf_8 : decode cX7_lengthOf 8 = .ok (.iload_n 2, 1) := by decide +kernel
theorem dX7_lengthOf_9 : decode cX7_lengthOf 9 = .ok (.bipush 20, 2) := by decide +kernel
theorem dX7_lengthOf_11 : decode cX7_lengthOf 11 = .ok (.if_icmp .le 13, 3) := by decide +kernel
theorem dX7_lengthOf_14 : decode cX7_lengthOf 14 = .ok (.new 90, 3) := by decide +kernel
theorem dX7_lengthOf_17 : decode cX7_lengthOf 17 = .ok (.dup, 1) := by decide +kernel
theorem dX7_lengthOf_18 : decode cX7_lengthOf 18 = .ok (.ldc 233, 2) := by decide +kernel
theorem dX7_lengthOf_20 : decode cX7_lengthOf 20 = .ok (.invokespecial 94, 3) := by decide +kernel
theorem dX7_lengthOf_23 : decode cX7_lengthOf 23 = .ok (.athrow, 1) := by decide +kernel
theorem dX7_lengthOf_24 : decode cX7_lengthOf 24 = .ok (.aload_n 0, 1) := by decide +kernel
theorem dX7_lengthOf_25 : decode cX7_lengthOf 25 = .ok (.getfield 10, 3) := by decide +kernel
theorem dX7_lengthOf_28 : decode cX7_lengthOf 28 = .ok (.iload_n 1, 1) := by decide +kernel
theorem dX7_lengthOf_29 : decode cX7_lengthOf 29 = .ok (.invokevirtual 87, 3) := by decide +kernel
theorem dX7_lengthOf_32 : decode cX7_lengthOf 32 = .ok (.astore_n 3, 1) := by decide +kernel
theorem dX7_lengthOf_33 : decode cX7_lengthOf 33 = .ok (.aload_n 3, 1) := by decide +kernel
theorem dX7_lengthOf_34 : decode cX7_lengthOf 34 = .ok (.ifnonnull 5, 3) := by decide +kernel
theorem dX7_lengthOf_37 : decode cX7_lengthOf 37 = .ok (.iconst (-1), 1) := by decide +kernel
theorem dX7_lengthOf_38 : decode cX7_lengthOf 38 = .ok (.ireturn, 1) := by decide +kernel
theorem dX7_lengthOf_39 : decode cX7_lengthOf 39 = .ok (.aload_n 0, 1) := by decide +kernel
theorem dX7_lengthOf_40 : decode cX7_lengthOf 40 = .ok (.getfield 44, 3) := by decide +kernel
theorem dX7_lengthOf_43 : decode cX7_lengthOf 43 = .ok (.aload_n 0, 1) := by decide +kernel
theorem dX7_lengthOf_44 : decode cX7_lengthOf 44 = .ok (.getfield 10, 3) := by decide +kernel
theorem dX7_lengthOf_47 : decode cX7_lengthOf 47 = .ok (.iload_n 1, 1) := by decide +kernel
theorem dX7_lengthOf_48 : decode cX7_lengthOf 48 = .ok (.aload_n 3, 1) := by decide +kernel
theorem dX7_lengthOf_49 : decode cX7_lengthOf 49 = .ok (.getfield 76, 3) := by decide +kernel
theorem dX7_lengthOf_52 : decode cX7_lengthOf 52 = .ok (.iload_n 2, 1) := by decide +kernel
theorem dX7_lengthOf_53 : decode cX7_lengthOf 53 = .ok (.invokevirtual 235, 3) := by decide +kernel
theorem dX7_lengthOf_56 : decode cX7_lengthOf 56 = .ok (.ireturn, 1) := by decide +kernel
theorem dX7_count_0 : decode cX7_count 0 = .ok (.iload_n 1, 1) := by decide +kernel
theorem dX7_count_1 : decode cX7_count 1 = .ok (.bipush 7, 2) := by decide +kernel
theorem dX7_count_3 : decode cX7_count 3 = .ok (.invokestatic 169, 3) := by decide +kernel
theorem dX7_count_6 : decode cX7_count 6 = .ok (.iload_n 1, 1) := by decide +kernel
theorem dX7_count_7 : decode cX7_count 7 = .ok (.tableswitch 97 0 6 #[41, 49, 57, 65, 73, 81, 89], 41) := by decide +kernel
theorem dX7_count_48 : decode cX7_count 48 = .ok (.aload_n 0, 1) := by decide +kernel
theorem dX7_count_49 : decode cX7_count 49 = .ok (.getfield 10, 3) := by decide +kernel
theorem dX7_count_52 : decode cX7_count 52 = .ok (.invokevirtual 83, 3) := by decide +kernel
theorem dX7_count_55 : decode cX7_count 55 = .ok (.ireturn, 1) := by decide +kernel
theorem dX7_count_56 : decode cX7_count 56 = .ok (.aload_n 0, 1) := by decide +kernel
theorem dX7_count_57 : decode cX7_count 57 = .ok (.getfield 10, 3) := by decide +kernel
theorem dX7_count_60 : decode cX7_count 60 = .ok (.invokevirtual 239, 3) := by decide +kernel
theorem dX7_count_63 : decode cX7_count 63 = .ok (.ireturn, 1) := by decide +kernel
theorem dX7_count_64 : decode cX7_count 64 = .ok (.aload_n 0, 1) := by decide +kernel
theorem dX7_count_65 : decode cX7_count 65 = .ok (.getfield 10, 3) := by decide +kernel
theorem dX7_count_68 : decode cX7_count 68 = .ok (.getfield 97, 3) := by decide +kernel
theorem dX7_count_71 : decode cX7_count 71 = .ok (.ireturn, 1) := by decide +kernel
theorem dX7_count_72 : decode cX7_count 72 = .ok (.aload_n 0, 1) := by decide +kernel
theorem dX7_count_73 : decode cX7_count 73 = .ok (.getfield 10, 3) := by decide +kernel
theorem dX7_count_76 : decode cX7_count 76 = .ok (.getfield 115, 3) := by decide +kernel
theorem dX7_count_79 : decode cX7_count 79 = .ok (.ireturn, 1) := by decide +kernel
theorem dX7_count_80 : decode cX7_count 80 = .ok (.aload_n 0, 1) := by decide +kernel
theorem dX7_count_81 : decode cX7_count 81 = .ok (.getfield 10, 3) := by decide +kernel
theorem dX7_count_84 : decode cX7_count 84 = .ok (.getfield 104, 3) := by decide +kernel
theorem dX7_count_87 : decode cX7_count 87 = .ok (.ireturn, 1) := by decide +kernel
theorem dX7_count_88 : decode cX7_count 88 = .ok (.aload_n 0, 1) := by decide +kernel
theorem dX7_count_89 : decode cX7_count 89 = .ok (.getfield 10, 3) := by decide +kernel
theorem dX7_count_92 : decode cX7_count 92 = .ok (.invokevirtual 242, 3) := by decide +kernel
theorem dX7_count_95 : decode cX7_count 95 = .ok (.ireturn, 1) := by decide +kernel
theorem dX7_count_96 : decode cX7_count 96 = .ok (.aload_n 0, 1) := by decide +kernel
theorem dX7_count_97 : decode cX7_count 97 = .ok (.getfield 19, 3) := by decide +kernel
theorem dX7_count_100 : decode cX7_count 100 = .ok (.getfield 150, 3) := by decide +kernel
theorem dX7_count_103 : decode cX7_count 103 = .ok (.ireturn, 1) := by decide +kernel
theorem dX7_count_104 : decode cX7_count 104 = .ok (.aload_n 0, 1) := by decide +kernel
theorem dX7_count_105 : decode cX7_count 105 = .ok (.getfield 48, 3) := by decide +kernel
theorem dX7_count_108 : decode cX7_count 108 = .ok (.ireturn, 1) := by decide +kernel
theorem dX7_meanHoles_0 : decode cX7_meanHoles 0 = .ok (.aload_n 0, 1) := by decide +kernel
theorem dX7_meanHoles_1 : decode cX7_meanHoles 1 = .ok (.getfield 10, 3) := by decide +kernel
theorem dX7_meanHoles_4 : decode cX7_meanHoles 4 = .ok (.invokevirtual 83, 3) := by decide +kernel
theorem dX7_meanHoles_7 : decode cX7_meanHoles 7 = .ok (.istore_n 1, 1) := by decide +kernel
theorem dX7_meanHoles_8 : decode cX7_meanHoles 8 = .ok (.iload_n 1, 1) := by decide +kernel
theorem dX7_meanHoles_9 : decode cX7_meanHoles 9 = .ok (.ifCond .ne 5, 3) := by decide +kernel
theorem dX7_meanHoles_12 : decode cX7_meanHoles 12 = .ok (.dconst 0, 1) := by decide +kernel
theorem dX7_meanHoles_13 : decode cX7_meanHoles 13 = .ok (.dreturn, 1) := by decide +kernel
theorem dX7_meanHoles_14 : decode cX7_meanHoles 14 = .ok (.aload_n 0, 1) := by decide +kernel
theorem dX7_meanHoles_15 : decode cX7_meanHoles 15 = .ok (.getfield 10, 3) := by decide +kernel
theorem dX7_meanHoles_18 : decode cX7_meanHoles 18 = .ok (.invokevirtual 245, 3) := by decide +kernel
theorem dX7_meanHoles_21 : decode cX7_meanHoles 21 = .ok (.i2d, 1) := by decide +kernel
theorem dX7_meanHoles_22 : decode cX7_meanHoles 22 = .ok (.iload_n 1, 1) := by decide +kernel
theorem dX7_meanHoles_23 : decode cX7_meanHoles 23 = .ok (.i2d, 1) := by decide +kernel
theorem dX7_meanHoles_24 : decode cX7_meanHoles 24 = .ok (.ddiv, 1) := by decide +kernel
theorem dX7_meanHoles_25 : decode cX7_meanHoles 25 = .ok (.dreturn, 1) := by decide +kernel
theorem dX7_isLetter_0 : decode cX7_isLetter 0 = .ok (.iload_n 0, 1) := by decide +kernel
theorem dX7_isLetter_1 : decode cX7_isLetter 1 = .ok (.ifCond .lt 13, 3) := by decide +kernel
theorem dX7_isLetter_4 : decode cX7_isLetter 4 = .ok (.iload_n 0, 1) := by decide +kernel
theorem dX7_isLetter_5 : decode cX7_isLetter 5 = .ok (.bipush 26, 2) := by decide +kernel
theorem dX7_isLetter_7 : decode cX7_isLetter 7 = .ok (.if_icmp .ge 7, 3) := by decide +kernel
theorem dX7_isLetter_10 : decode cX7_isLetter 10 = .ok (.iconst 1, 1) := by decide +kernel
theorem dX7_isLetter_11 : decode cX7_isLetter 11 = .ok (.goto 4, 3) := by decide +kernel
theorem dX7_isLetter_14 : decode cX7_isLetter 14 = .ok (.iconst 0, 1) := by decide +kernel
theorem dX7_isLetter_15 : decode cX7_isLetter 15 = .ok (.ireturn, 1) := by decide +kernel
theorem dX7_isAbbreviation_0 : decode cX7_isAbbreviation 0 = .ok (.iload_n 0, 1) := by decide +kernel
theorem dX7_isAbbreviation_1 : decode cX7_isAbbreviation 1 = .ok (.bipush 65, 2) := by decide +kernel
theorem dX7_isAbbreviation_3 : decode cX7_isAbbreviation 3 = .ok (.if_icmp .lt 13, 3) := by decide +kernel
theorem dX7_isAbbreviation_6 : decode cX7_isAbbreviation 6 = .ok (.iload_n 0, 1) := by decide +kernel
theorem dX7_isAbbreviation_7 : decode cX7_isAbbreviation 7 = .ok (.bipush 90, 2) := by decide +kernel
theorem dX7_isAbbreviation_9 : decode cX7_isAbbreviation 9 = .ok (.if_icmp .gt 7, 3) := by decide +kernel
theorem dX7_isAbbreviation_12 : decode cX7_isAbbreviation 12 = .ok (.iconst 1, 1) := by decide +kernel
theorem dX7_isAbbreviation_13 : decode cX7_isAbbreviation 13 = .ok (.goto 4, 3) := by decide +kernel
theorem dX7_isAbbreviation_16 : decode cX7_isAbbreviation 16 = .ok (.iconst 0, 1) := by decide +kernel
theorem dX7_isAbbreviation_17 : decode cX7_isAbbreviation 17 = .ok (.ireturn, 1) := by decide +kernel
theorem dX7_requireLetter_0 : decode cX7_requireLetter 0 = .ok (.iload_n 0, 1) := by decide +kernel
theorem dX7_requireLetter_1 : decode cX7_requireLetter 1 = .ok (.invokestatic 248, 3) := by decide +kernel
theorem dX7_requireLetter_4 : decode cX7_requireLetter 4 = .ok (.ifCond .ne 13, 3) := by decide +kernel
theorem dX7_requireLetter_7 : decode cX7_requireLetter 7 = .ok (.new 252, 3) := by decide +kernel
theorem dX7_requireLetter_10 : decode cX7_requireLetter 10 = .ok (.dup, 1) := by decide +kernel
theorem dX7_requireLetter_11 : decode cX7_requireLetter 11 = .ok (.ldc 254, 2) := by decide +kernel
theorem dX7_requireLetter_13 : decode cX7_requireLetter 13 = .ok (.invokespecial 256, 3) := by decide +kernel
theorem dX7_requireLetter_16 : decode cX7_requireLetter 16 = .ok (.athrow, 1) := by decide +kernel
theorem dX7_requireLetter_17 : decode cX7_requireLetter 17 = .ok (.return_, 1) := by decide +kernel
theorem dX7_requireWhat_0 : decode cX7_requireWhat 0 = .ok (.iload_n 0, 1) := by decide +kernel
theorem dX7_requireWhat_1 : decode cX7_requireWhat 1 = .ok (.ifCond .lt 8, 3) := by decide +kernel
theorem dX7_requireWhat_4 : decode cX7_requireWhat 4 = .ok (.iload_n 0, 1) := by decide +kernel
theorem dX7_requireWhat_5 : decode cX7_requireWhat 5 = .ok (.iload_n 1, 1) := by decide +kernel
theorem dX7_requireWhat_6 : decode cX7_requireWhat 6 = .ok (.if_icmp .le 14, 3) := by decide +kernel
theorem dX7_requireWhat_9 : decode cX7_requireWhat 9 = .ok (.new 90, 3) := by decide +kernel
theorem dX7_requireWhat_12 : decode cX7_requireWhat 12 = .ok (.dup, 1) := by decide +kernel
theorem dX7_requireWhat_13 : decode cX7_requireWhat 13 = .ok (.ldc_w 257, 3) := by decide +kernel
theorem dX7_requireWhat_16 : decode cX7_requireWhat 16 = .ok (.invokespecial 94, 3) := by decide +kernel
theorem dX7_requireWhat_19 : decode cX7_requireWhat 19 = .ok (.athrow, 1) := by decide +kernel
theorem dX7_requireWhat_20 : decode cX7_requireWhat 20 = .ok (.return_, 1) := by decide +kernel
theorem dX7_requireSlot_0 : decode cX7_requireSlot 0 = .ok (.iload_n 0, 1) := by decide +kernel
theorem dX7_requireSlot_1 : decode cX7_requireSlot 1 = .ok (.ifCond .lt 8, 3) := by decide +kernel
theorem dX7_requireSlot_4 : decode cX7_requireSlot 4 = .ok (.iload_n 0, 1) := by decide +kernel
theorem dX7_requireSlot_5 : decode cX7_requireSlot 5 = .ok (.iconst 2, 1) := by decide +kernel
theorem dX7_requireSlot_6 : decode cX7_requireSlot 6 = .ok (.if_icmp .lt 14, 3) := by decide +kernel
theorem dX7_requireSlot_9 : decode cX7_requireSlot 9 = .ok (.new 90, 3) := by decide +kernel
theorem dX7_requireSlot_12 : decode cX7_requireSlot 12 = .ok (.dup, 1) := by decide +kernel
theorem dX7_requireSlot_13 : decode cX7_requireSlot 13 = .ok (.ldc_w 259, 3) := by decide +kernel
theorem dX7_requireSlot_16 : decode cX7_requireSlot 16 = .ok (.invokespecial 94, 3) := by decide +kernel
theorem dX7_requireSlot_19 : decode cX7_requireSlot 19 = .ok (.athrow, 1) := by decide +kernel
theorem dX7_requireSlot_20 : decode cX7_requireSlot 20 = .ok (.return_, 1) := by decide +kernel
theorem dX7_requireDefinition_0 : decode cX7_requireDefinition 0 = .ok (.aload_n 0, 1) := by decide +kernel
theorem dX7_requireDefinition_1 : decode cX7_requireDefinition 1 = .ok (.getfield 10, 3) := by decide +kernel
theorem dX7_requireDefinition_4 : decode cX7_requireDefinition 4 = .ok (.iload_n 1, 1) := by decide +kernel
theorem dX7_requireDefinition_5 : decode cX7_requireDefinition 5 = .ok (.invokevirtual 87, 3) := by decide +kernel
theorem dX7_requireDefinition_8 : decode cX7_requireDefinition 8 = .ok (.astore_n 2, 1) := by decide +kernel
theorem dX7_requireDefinition_9 : decode cX7_requireDefinition 9 = .ok (.aload_n 2, 1) := by decide +kernel
theorem dX7_requireDefinition_10 : decode cX7_requireDefinition 10 = .ok (.ifnonnull 14, 3) := by decide +kernel
theorem dX7_requireDefinition_13 : decode cX7_requireDefinition 13 = .ok (.new 125, 3) := by decide +kernel
theorem dX7_requireDefinition_16 : decode cX7_requireDefinition 16 = .ok (.dup, 1) := by decide +kernel
theorem dX7_requireDefinition_17 : decode cX7_requireDefinition 17 = .ok (.ldc_w 261, 3) := by decide +kernel
theorem dX7_requireDefinition_20 : decode cX7_requireDefinition 20 = .ok (.invokespecial 129, 3) := by decide +kernel
theorem dX7_requireDefinition_23 : decode cX7_requireDefinition 23 = .ok (.athrow, 1) := by decide +kernel
theorem dX7_requireDefinition_24 : decode cX7_requireDefinition 24 = .ok (.aload_n 2, 1) := by decide +kernel
theorem dX7_requireDefinition_25 : decode cX7_requireDefinition 25 = .ok (.areturn, 1) := by decide +kernel
theorem dX7_copyOfBuffer_0 : decode cX7_copyOfBuffer 0 = .ok (.aload_n 0, 1) := by decide +kernel
theorem dX7_copyOfBuffer_1 : decode cX7_copyOfBuffer 1 = .ok (.getfield 23, 3) := by decide +kernel
theorem dX7_copyOfBuffer_4 : decode cX7_copyOfBuffer 4 = .ok (.iconst 0, 1) := by decide +kernel
theorem dX7_copyOfBuffer_5 : decode cX7_copyOfBuffer 5 = .ok (.aload_n 0, 1) := by decide +kernel
theorem dX7_copyOfBuffer_6 : decode cX7_copyOfBuffer 6 = .ok (.getfield 48, 3) := by decide +kernel
theorem dX7_copyOfBuffer_9 : decode cX7_copyOfBuffer 9 = .ok (.aload_n 0, 1) := by decide +kernel
theorem dX7_copyOfBuffer_10 : decode cX7_copyOfBuffer 10 = .ok (.getfield 23, 3) := by decide +kernel
theorem dX7_copyOfBuffer_13 : decode cX7_copyOfBuffer 13 = .ok (.arraylength, 1) := by decide +kernel
theorem dX7_copyOfBuffer_14 : decode cX7_copyOfBuffer 14 = .ok (.invokestatic 138, 3) := by decide +kernel
theorem dX7_copyOfBuffer_17 : decode cX7_copyOfBuffer 17 = .ok (.invokestatic 263, 3) := by decide +kernel
theorem dX7_copyOfBuffer_20 : decode cX7_copyOfBuffer 20 = .ok (.invokestatic 266, 3) := by decide +kernel
theorem dX7_copyOfBuffer_23 : decode cX7_copyOfBuffer 23 = .ok (.areturn, 1) := by decide +kernel
theorem dX7_requireCompleteText_0 : decode cX7_requireCompleteText 0 = .ok (.aload_n 0, 1) := by decide +kernel
theorem dX7_requireCompleteText_1 : decode cX7_requireCompleteText 1 = .ok (.getfield 30, 3) := by decide +kernel
theorem dX7_requireCompleteText_4 : decode cX7_requireCompleteText 4 = .ok (.aload_n 0, 1) := by decide +kernel
theorem dX7_requireCompleteText_5 : decode cX7_requireCompleteText 5 = .ok (.getfield 23, 3) := by decide +kernel
theorem dX7_requireCompleteText_8 : decode cX7_requireCompleteText 8 = .ok (.aload_n 0, 1) := by decide +kernel
theorem dX7_requireCompleteText_9 : decode cX7_requireCompleteText 9 = .ok (.getfield 48, 3) := by decide +kernel
theorem dX7_requireCompleteText_12 : decode cX7_requireCompleteText 12 = .ok (.invokevirtual 130, 3) := by decide +kernel
theorem dX7_requireCompleteText_15 : decode cX7_requireCompleteText 15 = .ok (.aload_n 0, 1) := by decide +kernel
theorem dX7_requireCompleteText_16 : decode cX7_requireCompleteText 16 = .ok (.getfield 30, 3) := by decide +kernel
theorem dX7_requireCompleteText_19 : decode cX7_requireCompleteText 19 = .ok (.invokevirtual 272, 3) := by decide +kernel
theorem dX7_requireCompleteText_22 : decode cX7_requireCompleteText 22 = .ok (.ifCond .ne 14, 3) := by decide +kernel
theorem dX7_requireCompleteText_25 : decode cX7_requireCompleteText 25 = .ok (.new 90, 3) := by decide +kernel
theorem dX7_requireCompleteText_28 : decode cX7_requireCompleteText 28 = .ok (.dup, 1) := by decide +kernel
theorem dX7_requireCompleteText_29 : decode cX7_requireCompleteText 29 = .ok (.ldc_w 276, 3) := by decide +kernel
theorem dX7_requireCompleteText_32 : decode cX7_requireCompleteText 32 = .ok (.invokespecial 94, 3) := by decide +kernel
theorem dX7_requireCompleteText_35 : decode cX7_requireCompleteText 35 = .ok (.athrow, 1) := by decide +kernel
theorem dX7_requireCompleteText_36 : decode cX7_requireCompleteText 36 = .ok (.return_, 1) := by decide +kernel
theorem dX8_init_0 : decode cX8_init 0 = .ok (.aload_n 0, 1) := by decide +kernel
theorem dX8_init_1 : decode cX8_init 1 = .ok (.invokespecial 1, 3) := by decide +kernel
theorem dX8_init_4 : decode cX8_init 4 = .ok (.aload_n 0, 1) := by decide +kernel
theorem dX8_init_5 : decode cX8_init 5 = .ok (.sipush 2153, 3) := by decide +kernel
theorem dX8_init_8 : decode cX8_init 8 = .ok (.newarray .int, 2) := by decide +kernel
theorem dX8_init_10 : decode cX8_init 10 = .ok (.putfield 7, 3) := by decide +kernel
theorem dX8_init_13 : decode cX8_init 13 = .ok (.aload_n 0, 1) := by decide +kernel
theorem dX8_init_14 : decode cX8_init 14 = .ok (.sipush 12918, 3) := by decide +kernel
theorem dX8_init_17 : decode cX8_init 17 = .ok (.newarray .int, 2) := by decide +kernel
theorem dX8_init_19 : decode cX8_init 19 = .ok (.putfield 13, 3) := by decide +kernel
theorem dX8_init_22 : decode cX8_init 22 = .ok (.aload_n 0, 1) := by decide +kernel
theorem dX8_init_23 : decode cX8_init 23 = .ok (.sipush 4306, 3) := by decide +kernel
theorem dX8_init_26 : decode cX8_init 26 = .ok (.newarray .int, 2) := by decide +kernel
theorem dX8_init_28 : decode cX8_init 28 = .ok (.putfield 16, 3) := by decide +kernel
theorem dX8_init_31 : decode cX8_init 31 = .ok (.aload_n 0, 1) := by decide +kernel
theorem dX8_init_32 : decode cX8_init 32 = .ok (.iconst 2, 1) := by decide +kernel
theorem dX8_init_33 : decode cX8_init 33 = .ok (.newarray .boolean, 2) := by decide +kernel
theorem dX8_init_35 : decode cX8_init 35 = .ok (.putfield 19, 3) := by decide +kernel
theorem dX8_init_38 : decode cX8_init 38 = .ok (.aload_n 0, 1) := by decide +kernel
theorem dX8_init_39 : decode cX8_init 39 = .ok (.bipush 60, 2) := by decide +kernel
theorem dX8_init_41 : decode cX8_init 41 = .ok (.newarray .int, 2) := by decide +kernel
theorem dX8_init_43 : decode cX8_init 43 = .ok (.putfield 23, 3) := by decide +kernel
theorem dX8_init_46 : decode cX8_init 46 = .ok (.aload_n 0, 1) := by decide +kernel
theorem dX8_init_47 : decode cX8_init 47 = .ok (.bipush 60, 2) := by decide +kernel
theorem dX8_init_49 : decode cX8_init 49 = .ok (.newarray .int, 2) := by decide +kernel
theorem dX8_init_51 : decode cX8_init 51 = .ok (.putfield 26, 3) := by decide +kernel
theorem dX8_init_54 : decode cX8_init 54 = .ok (.aload_n 0, 1) := by decide +kernel
theorem dX8_init_55 : decode cX8_init 55 = .ok (.bipush 14, 2) := by decide +kernel
theorem dX8_init_57 : decode cX8_init 57 = .ok (.newarray .int, 2) := by decide +kernel
theorem dX8_init_59 : decode cX8_init 59 = .ok (.putfield 29, 3) := by decide +kernel
theorem dX8_init_62 : decode cX8_init 62 = .ok (.aload_n 0, 1) := by decide +kernel
theorem dX8_init_63 : decode cX8_init 63 = .ok (.bipush 14, 2) := by decide +kernel
theorem dX8_init_65 : decode cX8_init 65 = .ok (.newarray .int, 2) := by decide +kernel
theorem dX8_init_67 : decode cX8_init 67 = .ok (.putfield 32, 3) := by decide +kernel
theorem dX8_init_70 : decode cX8_init 70 = .ok (.aload_n 0, 1) := by decide +kernel
theorem dX8_init_71 : decode cX8_init 71 = .ok (.bipush 14, 2) := by decide +kernel
theorem dX8_init_73 : decode cX8_init 73 = .ok (.newarray .int, 2) := by decide +kernel
theorem dX8_init_75 : decode cX8_init 75 = .ok (.putfield 35, 3) := by decide +kernel
theorem dX8_init_78 : decode cX8_init 78 = .ok (.aload_n 0, 1) := by decide +kernel
theorem dX8_init_79 : decode cX8_init 79 = .ok (.bipush 14, 2) := by decide +kernel
theorem dX8_init_81 : decode cX8_init 81 = .ok (.newarray .int, 2) := by decide +kernel
theorem dX8_init_83 : decode cX8_init 83 = .ok (.putfield 38, 3) := by decide +kernel
theorem dX8_init_86 : decode cX8_init 86 = .ok (.aload_n 0, 1) := by decide +kernel
theorem dX8_init_87 : decode cX8_init 87 = .ok (.bipush 14, 2) := by decide +kernel
theorem dX8_init_89 : decode cX8_init 89 = .ok (.newarray .int, 2) := by decide +kernel
theorem dX8_init_91 : decode cX8_init 91 = .ok (.putfield 41, 3) := by decide +kernel
theorem dX8_init_94 : decode cX8_init 94 = .ok (.aload_n 0, 1) := by decide +kernel
theorem dX8_init_95 : decode cX8_init 95 = .ok (.bipush 14, 2) := by decide +kernel
theorem dX8_init_97 : decode cX8_init 97 = .ok (.newarray .int, 2) := by decide +kernel
theorem dX8_init_99 : decode cX8_init 99 = .ok (.putfield 44, 3) := by decide +kernel
theorem dX8_init_102 : decode cX8_init 102 = .ok (.aload_n 0, 1) := by decide +kernel
theorem dX8_init_103 : decode cX8_init 103 = .ok (.bipush 84, 2) := by decide +kernel
theorem dX8_init_105 : decode cX8_init 105 = .ok (.newarray .int, 2) := by decide +kernel
theorem dX8_init_107 : decode cX8_init 107 = .ok (.putfield 47, 3) := by decide +kernel
theorem dX8_init_110 : decode cX8_init 110 = .ok (.aload_n 0, 1) := by decide +kernel
theorem dX8_init_111 : decode cX8_init 111 = .ok (.sipush 400, 3) := by decide +kernel
theorem dX8_init_114 : decode cX8_init 114 = .ok (.newarray .int, 2) := by decide +kernel
theorem dX8_init_116 : decode cX8_init 116 = .ok (.putfield 50, 3) := by decide +kernel
theorem dX8_init_119 : decode cX8_init 119 = .ok (.aload_n 0, 1) := by decide +kernel
theorem dX8_init_120 : decode cX8_init 120 = .ok (.sipush 400, 3) := by decide +kernel
theorem dX8_init_123 : decode cX8_init 123 = .ok (.newarray .int, 2) := by decide +kernel
theorem dX8_init_125 : decode cX8_init 125 = .ok (.putfield 53, 3) := by decide +kernel
theorem dX8_init_128 : decode cX8_init 128 = .ok (.aload_n 0, 1) := by decide +kernel
theorem dX8_init_129 : decode cX8_init 129 = .ok (.sipush 2400, 3) := by decide +kernel
theorem dX8_init_132 : decode cX8_init 132 = .ok (.newarray .int, 2) := by decide +kernel
theorem dX8_init_134 : decode cX8_init 134 = .ok (.putfield 56, 3) := by decide +kernel
theorem dX8_init_137 : decode cX8_init 137 = .ok (.aload_n 0, 1) := by decide +kernel
theorem dX8_init_138 : decode cX8_init 138 = .ok (.sipush 401, 3) := by decide +kernel
theorem dX8_init_141 : decode cX8_init 141 = .ok (.newarray .int, 2) := by decide +kernel
theorem dX8_init_143 : decode cX8_init 143 = .ok (.putfield 59, 3) := by decide +kernel
theorem dX8_init_146 : decode cX8_init 146 = .ok (.aload_n 0, 1) := by decide +kernel
theorem dX8_init_147 : decode cX8_init 147 = .ok (.sipush 360, 3) := by decide +kernel
theorem dX8_init_150 : decode cX8_init 150 = .ok (.newarray .int, 2) := by decide +kernel
theorem dX8_init_152 : decode cX8_init 152 = .ok (.putfield 62, 3) := by decide +kernel
theorem dX8_init_155 : decode cX8_init 155 = .ok (.aload_n 0, 1) := by decide +kernel
theorem dX8_init_156 : decode cX8_init 156 = .ok (.sipush 430, 3) := by decide +kernel
theorem dX8_init_159 : decode cX8_init 159 = .ok (.newarray .int, 2) := by decide +kernel
theorem dX8_init_161 : decode cX8_init 161 = .ok (.putfield 65, 3) := by decide +kernel
theorem dX8_init_164 : decode cX8_init 164 = .ok (.aload_n 0, 1) := by decide +kernel
theorem dX8_init_165 : decode cX8_init 165 = .ok (.sipush 430, 3) := by decide +kernel
theorem dX8_init_168 : decode cX8_init 168 = .ok (.newarray .int, 2) := by decide +kernel
theorem dX8_init_170 : decode cX8_init 170 = .ok (.putfield 68, 3) := by decide +kernel
theorem dX8_init_173 : decode cX8_init 173 = .ok (.aload_n 0, 1) := by decide +kernel
theorem dX8_init_174 : decode cX8_init 174 = .ok (.sipush 430, 3) := by decide +kernel
theorem dX8_init_177 : decode cX8_init 177 = .ok (.newarray .int, 2) := by decide +kernel
theorem dX8_init_179 : decode cX8_init 179 = .ok (.putfield 71, 3) := by decide +kernel
theorem dX8_init_182 : decode cX8_init 182 = .ok (.aload_n 0, 1) := by decide +kernel
theorem dX8_init_183 : decode cX8_init 183 = .ok (.bipush 62, 2) := by decide +kernel
theorem dX8_init_185 : decode cX8_init 185 = .ok (.newarray .int, 2) := by decide +kernel
theorem dX8_init_187 : decode cX8_init 187 = .ok (.putfield 74, 3) := by decide +kernel
theorem dX8_init_190 : decode cX8_init 190 = .ok (.aload_n 0, 1) := by decide +kernel
theorem dX8_init_191 : decode cX8_init 191 = .ok (.bipush 62, 2) := by decide +kernel
theorem dX8_init_193 : decode cX8_init 193 = .ok (.newarray .int, 2) := by decide +kernel
theorem dX8_init_195 : decode cX8_init 195 = .ok (.putfield 77, 3) := by decide +kernel
theorem dX8_init_198 : decode cX8_init 198 = .ok (.aload_n 0, 1) := by decide +kernel
theorem dX8_init_199 : decode cX8_init 199 = .ok (.bipush 62, 2) := by decide +kernel
theorem dX8_init_201 : decode cX8_init 201 = .ok (.newarray .int, 2) := by decide +kernel
theorem dX8_init_203 : decode cX8_init 203 = .ok (.putfield 80, 3) := by decide +kernel
theorem dX8_init_206 : decode cX8_init 206 = .ok (.aload_n 0, 1) := by decide +kernel
theorem dX8_init_207 : decode cX8_init 207 = .ok (.bipush 62, 2) := by decide +kernel
theorem dX8_init_209 : decode cX8_init 209 = .ok (.newarray .int, 2) := by decide +kernel
theorem dX8_init_211 : decode cX8_init 211 = .ok (.putfield 83, 3) := by decide +kernel
theorem dX8_init_214 : decode cX8_init 214 = .ok (.aload_n 0, 1) := by decide +kernel
theorem dX8_init_215 : decode cX8_init 215 = .ok (.sipush 372, 3) := by decide +kernel
theorem dX8_init_218 : decode cX8_init 218 = .ok (.newarray .int, 2) := by decide +kernel
theorem dX8_init_220 : decode cX8_init 220 = .ok (.putfield 86, 3) := by decide +kernel
theorem dX8_init_223 : decode cX8_init 223 = .ok (.aload_n 0, 1) := by decide +kernel
theorem dX8_init_224 : decode cX8_init 224 = .ok (.bipush 26, 2) := by decide +kernel
theorem dX8_init_226 : decode cX8_init 226 = .ok (.newarray .int, 2) := by decide +kernel
theorem dX8_init_228 : decode cX8_init 228 = .ok (.putfield 89, 3) := by decide +kernel
theorem dX8_init_231 : decode cX8_init 231 = .ok (.aload_n 0, 1) := by decide +kernel
theorem dX8_init_232 : decode cX8_init 232 = .ok (.bipush 26, 2) := by decide +kernel
theorem dX8_init_234 : decode cX8_init 234 = .ok (.newarray .int, 2) := by decide +kernel
theorem dX8_init_236 : decode cX8_init 236 = .ok (.putfield 92, 3) := by decide +kernel
theorem dX8_init_239 : decode cX8_init 239 = .ok (.aload_n 0, 1) := by decide +kernel
theorem dX8_init_240 : decode cX8_init 240 = .ok (.bipush 60, 2) := by decide +kernel
theorem dX8_init_242 : decode cX8_init 242 = .ok (.newarray .int, 2) := by decide +kernel
theorem dX8_init_244 : decode cX8_init 244 = .ok (.putfield 95, 3) := by decide +kernel
theorem dX8_init_247 : decode cX8_init 247 = .ok (.iconst 0, 1) := by decide +kernel
theorem dX8_init_248 : decode cX8_init 248 = .ok (.istore_n 1, 1) := by decide +kernel
theorem dX8_init_249 : decode cX8_init 249 = .ok (.iload_n 1, 1) := by decide +kernel
theorem dX8_init_250 : decode cX8_init 250 = .ok (.bipush 26, 2) := by decide +kernel
theorem dX8_init_252 : decode cX8_init 252 = .ok (.if_icmp .ge 16, 3) := by decide +kernel
theorem dX8_init_255 : decode cX8_init 255 = .ok (.aload_n 0, 1) := by decide +kernel
theorem dX8_init_256 : decode cX8_init 256 = .ok (.getfield 7, 3) := by decide +kernel
theorem dX8_init_259 : decode cX8_init 259 = .ok (.iload_n 1, 1) := by decide +kernel
theorem dX8_init_260 : decode cX8_init 260 = .ok (.iconst (-1), 1) := by decide +kernel
theorem dX8_init_261 : decode cX8_init 261 = .ok (.iastore, 1) := by decide +kernel
theorem dX8_init_262 : decode cX8_init 262 = .ok (.iinc 1 1, 3) := by decide +kernel
theorem dX8_init_265 : decode cX8_init 265 = .ok (.goto (-16), 3) := by decide +kernel
theorem dX8_init_268 : decode cX8_init 268 = .ok (.aload_n 0, 1) := by decide +kernel
theorem dX8_init_269 : decode cX8_init 269 = .ok (.getfield 7, 3) := by decide +kernel
theorem dX8_init_272 : decode cX8_init 272 = .ok (.sipush 1586, 3) := by decide +kernel
theorem dX8_init_275 : decode cX8_init 275 = .ok (.bipush 8, 2) := by decide +kernel
theorem dX8_init_277 : decode cX8_init 277 = .ok (.iastore, 1) := by decide +kernel
theorem dX8_init_278 : decode cX8_init 278 = .ok (.return_, 1) := by decide +kernel
theorem dX8_thrown_0 : decode cX8_thrown 0 = .ok (.aload_n 0, 1) := by decide +kernel
theorem dX8_thrown_1 : decode cX8_thrown 1 = .ok (.getfield 98, 3) := by decide +kernel
theorem dX8_thrown_4 : decode cX8_thrown 4 = .ok (.ireturn, 1) := by decide +kernel
theorem dX8_refused_0 : decode cX8_refused 0 = .ok (.aload_n 0, 1) := by decide +kernel
theorem dX8_refused_1 : decode cX8_refused 1 = .ok (.iload_n 1, 1) := by decide +kernel
theorem dX8_refused_2 : decode cX8_refused 2 = .ok (.putfield 98, 3) := by decide +kernel
theorem dX8_refused_5 : decode cX8_refused 5 = .ok (.iload_n 1, 1) := by decide +kernel
theorem dX8_refused_6 : decode cX8_refused 6 = .ok (.ifCond .le 7, 3) := by decide +kernel
theorem dX8_refused_9 : decode cX8_refused 9 = .ok (.iconst 1, 1) := by decide +kernel
theorem dX8_refused_10 : decode cX8_refused 10 = .ok (.goto 4, 3) := by decide +kernel
theorem dX8_refused_13 : decode cX8_refused 13 = .ok (.iconst 0, 1) := by decide +kernel
theorem dX8_refused_14 : decode cX8_refused 14 = .ok (.ireturn, 1) := by decide +kernel
theorem dX8_in_0 : decode cX8_in 0 = .ok (.iload_n 0, 1) := by decide +kernel
theorem dX8_in_1 : decode cX8_in 1 = .ok (.iload_n 1, 1) := by decide +kernel
theorem dX8_in_2 : decode cX8_in 2 = .ok (.if_icmp .lt 12, 3) := by decide +kernel
theorem dX8_in_5 : decode cX8_in 5 = .ok (.iload_n 0, 1) := by decide +kernel
theorem dX8_in_6 : decode cX8_in 6 = .ok (.iload_n 2, 1) := by decide +kernel
theorem dX8_in_7 : decode cX8_in 7 = .ok (.if_icmp .gt 7, 3) := by decide +kernel
theorem dX8_in_10 : decode cX8_in 10 = .ok (.iconst 1, 1) := by decide +kernel
theorem dX8_in_11 : decode cX8_in 11 = .ok (.goto 4, 3) := by decide +kernel
theorem dX8_in_14 : decode cX8_in 14 = .ok (.iconst 0, 1) := by decide +kernel
theorem dX8_in_15 : decode cX8_in 15 = .ok (.ireturn, 1) := by decide +kernel
theorem dX8_isLetter_0 : decode cX8_isLetter 0 = .ok (.iload_n 0, 1) := by decide +kernel
theorem dX8_isLetter_1 : decode cX8_isLetter 1 = .ok (.iconst 0, 1) := by decide +kernel
theorem dX8_isLetter_2 : decode cX8_isLetter 2 = .ok (.bipush 25, 2) := by decide +kernel
theorem dX8_isLetter_4 : decode cX8_isLetter 4 = .ok (.invokestatic 102, 3) := by decide +kernel
theorem dX8_isLetter_7 : decode cX8_isLetter 7 = .ok (.ireturn, 1) := by decide +kernel
theorem dX8_isDefined_0 : decode cX8_isDefined 0 = .ok (.aload_n 0, 1) := by decide +kernel
theorem dX8_isDefined_1 : decode cX8_isDefined 1 = .ok (.getfield 7, 3) := by decide +kernel
theorem dX8_isDefined_4 : decode cX8_isDefined 4 = .ok (.iload_n 1, 1) := by decide +kernel
theorem dX8_isDefined_5 : decode cX8_isDefined 5 = .ok (.iaload, 1) := by decide +kernel
theorem dX8_isDefined_6 : decode cX8_isDefined 6 = .ok (.ifCond .lt 7, 3) := by decide +kernel
theorem dX8_isDefined_9 : decode cX8_isDefined 9 = .ok (.iconst 1, 1) := by decide +kernel
theorem dX8_isDefined_10 : decode cX8_isDefined 10 = .ok (.goto 4, 3) := by decide +kernel
theorem dX8_isDefined_13 : decode cX8_isDefined 13 = .ok (.iconst 0, 1) := by decide +kernel
theorem dX8_isDefined_14 : decode cX8_isDefined 14 = .ok (.ireturn, 1) := by decide +kernel
theorem dX8_longOf_0 : decode cX8_longOf 0 = .ok (.iload_n 1, 1) := by decide +kernel
theorem dX8_longOf_1 : decode cX8_longOf 1 = .ok (.bipush 27, 2) := by decide +kernel
theorem dX8_longOf_3 : decode cX8_longOf 3 = .ok (.if_icmp .ne 7, 3) := by decide +kernel
theorem dX8_longOf_6 : decode cX8_longOf 6 = .ok (.iconst 0, 1) := by decide +kernel
theorem dX8_longOf_7 : decode cX8_longOf 7 = .ok (.goto 22, 3) := by decide +kernel
theorem dX8_longOf_10 : decode cX8_longOf 10 = .ok (.iload_n 1, 1) := by decide +kernel
theorem dX8_longOf_11 : decode cX8_longOf 11 = .ok (.bipush 26, 2) := by decide +kernel
theorem dX8_longOf_13 : decode cX8_longOf 13 = .ok (.if_icmp .ne 10, 3) := by decide +kernel
theorem dX8_longOf_16 : decode cX8_longOf 16 = .ok (.aload_n 0, 1) := by decide +kernel
theorem dX8_longOf_17 : decode cX8_longOf 17 = .ok (.getfield 106, 3) := by decide +kernel
theorem dX8_longOf_20 : decode cX8_longOf 20 = .ok (.goto 9, 3) := by decide +kernel
theorem dX8_longOf_23 : decode cX8_longOf 23 = .ok (.aload_n 0, 1) := by decide +kernel
theorem dX8_longOf_24 : decode cX8_longOf 24 = .ok (.getfield 7, 3) := by decide +kernel
theorem dX8_longOf_27 : decode cX8_longOf 27 = .ok (.iload_n 1, 1) := by decide +kernel
theorem dX8_longOf_28 : decode cX8_longOf 28 = .ok (.iaload, 1) := by decide +kernel
theorem dX8_longOf_29 : decode cX8_longOf 29 = .ok (.ireturn, 1) := by decide +kernel
theorem dX8_signOf_0 : decode cX8_signOf 0 = .ok (.iload_n 1, 1) := by decide +kernel
theorem dX8_signOf_1 : decode cX8_signOf 1 = .ok (.bipush 26, 2) := by decide +kernel
theorem dX8_signOf_3 : decode cX8_signOf 3 = .ok (.if_icmp .ne 12, 3) := by decide +kernel
theorem dX8_signOf_6 : decode cX8_signOf 6 = .ok (.aload_n 0, 1) := by decide +kernel
theorem dX8_signOf_7 : decode cX8_signOf 7 = .ok (.getfield 23, 3) := by decide +kernel
theorem dX8_signOf_10 : decode cX8_signOf 10 = .ok (.iload_n 2, 1) := by decide +kernel
theorem dX8_signOf_11 : decode cX8_signOf 11 = .ok (.iaload, 1) := by decide +kernel
theorem dX8_signOf_12 : decode cX8_signOf 12 = .ok (.goto 17, 3) := by decide +kernel
theorem dX8_signOf_15 : decode cX8_signOf 15 = .ok (.aload_n 0, 1) := by decide +kernel
theorem dX8_signOf_16 : decode cX8_signOf 16 = .ok (.getfield 7, 3) := by decide +kernel
theorem dX8_signOf_19 : decode cX8_signOf 19 = .ok (.bipush 26, 2) := by decide +kernel
theorem dX8_signOf_21 : decode cX8_signOf 21 = .ok (.bipush 60, 2) := by decide +kernel
theorem dX8_signOf_23 : decode cX8_signOf 23 = .ok (.iload_n 1, 1) := by decide +kernel
theorem dX8_signOf_24 : decode cX8_signOf 24 = .ok (.imul, 1) := by decide +kernel
theorem dX8_signOf_25 : decode cX8_signOf 25 = .ok (.iadd, 1) := by decide +kernel
theorem dX8_signOf_26 : decode cX8_signOf 26 = .ok (.iload_n 2, 1) := by decide +kernel
theorem dX8_signOf_27 : decode cX8_signOf 27 = .ok (.iadd, 1) := by decide +kernel
theorem dX8_signOf_28 : decode cX8_signOf 28 = .ok (.iaload, 1) := by decide +kernel
theorem dX8_signOf_29 : decode cX8_signOf 29 = .ok (.ireturn, 1) := by decide +kernel
theorem dX8_isCall_0 : decode cX8_isCall 0 = .ok (.iload_n 0, 1) := by decide +kernel
theorem dX8_isCall_1 : decode cX8_isCall 1 = .ok (.bipush 65, 2) := by decide +kernel
theorem dX8_isCall_3 : decode cX8_isCall 3 = .ok (.bipush 90, 2) := by decide +kernel
theorem dX8_isCall_5 : decode cX8_isCall 5 = .ok (.invokestatic 102, 3) := by decide +kernel
theorem dX8_isCall_8 : decode cX8_isCall 8 = .ok (.ireturn, 1) := by decide +kernel
theorem dX8_isPlain_0 : decode cX8_isPlain 0 = .ok (.iload_n 0, 1) := by decide +kernel
theorem dX8_isPlain_1 : decode cX8_isPlain 1 = .ok (.bipush 97, 2) := by decide +kernel
theorem dX8_isPlain_3 : decode cX8_isPlain 3 = .ok (.bipush 122, 2) := by decide +kernel
theorem dX8_isPlain_5 : decode cX8_isPlain 5 = .ok (.invokestatic 102, 3) := by decide +kernel
theorem dX8_isPlain_8 : decode cX8_isPlain 8 = .ok (.ifCond .ne 9, 3) := by decide +kernel
theorem dX8_isPlain_11 : decode cX8_isPlain 11 = .ok (.iload_n 0, 1) := by decide +kernel
theorem dX8_isPlain_12 : decode cX8_isPlain 12 = .ok (.bipush 95, 2) := by decide +kernel
theorem dX8_isPlain_14 : decode cX8_isPlain 14 = .ok (.if_icmp .ne 7, 3) := by decide +kernel
theorem dX8_isPlain_17 : decode cX8_isPlain 17 = .ok (.iconst 1, 1) := by decide +kernel
theorem dX8_isPlain_18 : decode cX8_isPlain 18 = .ok (.goto 4, 3) := by decide +kernel
theorem dX8_isPlain_21 : decode cX8_isPlain 21 = .ok (.iconst 0, 1) := by decide +kernel
theorem dX8_isPlain_22 : decode cX8_isPlain 22 = .ok (.ireturn, 1) := by decide +kernel
theorem dX8_saves_0 : decode cX8_saves 0 = .ok (.aload_n 0, 1) := by decide +kernel
theorem dX8_saves_1 : decode cX8_saves 1 = .ok (.getfield 109, 3) := by decide +kernel
theorem dX8_saves_4 : decode cX8_saves 4 = .ok (.bipush 6, 2) := by decide +kernel
theorem dX8_saves_6 : decode cX8_saves 6 = .ok (.if_icmp .ne 44, 3) := by decide +kernel
theorem dX8_saves_9 : decode cX8_saves 9 = .ok (.iconst 0, 1) := by decide +kernel
theorem dX8_saves_10 : decode cX8_saves 10 = .ok (.istore_n 1, 1) := by decide +kernel
theorem dX8_saves_11 : decode cX8_saves 11 = .ok (.iload_n 1, 1) := by decide +kernel
theorem dX8_saves_12 : decode cX8_saves 12 = .ok (.sipush 10765, 3) := by decide +kernel
theorem dX8_saves_15 : decode cX8_saves 15 = .ok (.if_icmp .ge 25, 3) := by decide +kernel
theorem dX8_saves_18 : decode cX8_saves 18 = .ok (.aload_n 0, 1) := by decide +kernel
theorem dX8_saves_19 : decode cX8_saves 19 = .ok (.getfield 13, 3) := by decide +kernel
theorem dX8_saves_22 : decode cX8_saves 22 = .ok (.iload_n 1, 1) := by decide +kernel
theorem dX8_saves_23 : decode cX8_saves 23 = .ok (.aload_n 0, 1) := by decide +kernel
theorem dX8_saves_24 : decode cX8_saves 24 = .ok (.getfield 13, 3) := by decide +kernel
theorem dX8_saves_27 : decode cX8_saves 27 = .ok (.sipush 2153, 3) := by decide +kernel
theorem dX8_saves_30 : decode cX8_saves 30 = .ok (.iload_n 1, 1) := by decide +kernel
theorem dX8_saves_31 : decode cX8_saves 31 = .ok (.iadd, 1) := by decide +kernel
theorem dX8_saves_32 : decode cX8_saves 32 = .ok (.iaload, 1) := by decide +kernel
theorem dX8_saves_33 : decode cX8_saves 33 = .ok (.iastore, 1) := by decide +kernel
theorem dX8_saves_34 : decode cX8_saves 34 = .ok (.iinc 1 1, 3) := by decide +kernel
theorem dX8_saves_37 : decode cX8_saves 37 = .ok (.goto (-26), 3) := by decide +kernel
theorem dX8_saves_40 : decode cX8_saves 40 = .ok (.aload_n 0, 1) := by decide +kernel
theorem dX8_saves_41 : decode cX8_saves 41 = .ok (.dup, 1) := by decide +kernel
theorem dX8_saves_42 : decode cX8_saves 42 = .ok (.getfield 109, 3) := by decide +kernel
theorem dX8_saves_45 : decode cX8_saves 45 = .ok (.iconst 1, 1) := by decide +kernel
theorem dX8_saves_46 : decode cX8_saves 46 = .ok (.isub, 1) := by decide +kernel
theorem dX8_saves_47 : decode cX8_saves 47 = .ok (.putfield 109, 3) := by decide +kernel
theorem dX8_saves_50 : decode cX8_saves 50 = .ok (.iconst 0, 1) := by decide +kernel
theorem dX8_saves_51 : decode cX8_saves 51 = .ok (.istore_n 1, 1) := by decide +kernel
theorem dX8_saves_52 : decode cX8_saves 52 = .ok (.iload_n 1, 1) := by decide +kernel
theorem dX8_saves_53 : decode cX8_saves 53 = .ok (.sipush 2153, 3) := by decide +kernel
theorem dX8_saves_56 : decode cX8_saves 56 = .ok (.if_icmp .ge 30, 3) := by decide +kernel
theorem dX8_saves_59 : decode cX8_saves 59 = .ok (.aload_n 0, 1) := by decide +kernel
theorem dX8_saves_60 : decode cX8_saves 60 = .ok (.getfield 13, 3) := by decide +kernel
theorem dX8_saves_63 : decode cX8_saves 63 = .ok (.sipush 2153, 3) := by decide +kernel
theorem dX8_saves_66 : decode cX8_saves 66 = .ok (.aload_n 0, 1) := by decide +kernel
theorem dX8_saves_67 : decode cX8_saves 67 = .ok (.getfield 109, 3) := by decide +kernel
theorem dX8_saves_70 : decode cX8_saves 70 = .ok (.imul, 1) := by decide +kernel
theorem dX8_saves_71 : decode cX8_saves 71 = .ok (.iload_n 1, 1) := by decide +kernel
theorem dX8_saves_72 : decode cX8_saves 72 = .ok (.iadd, 1) := by decide +kernel
theorem dX8_saves_73 : decode cX8_saves 73 = .ok (.aload_n 0, 1) := by decide +kernel
theorem dX8_saves_74 : decode cX8_saves 74 = .ok (.getfield 7, 3) := by decide +kernel
theorem dX8_saves_77 : decode cX8_saves 77 = .ok (.iload_n 1, 1) := by decide +kernel
theorem dX8_saves_78 : decode cX8_saves 78 = .ok (.iaload, 1) := by decide +kernel
theorem dX8_saves_79 : decode cX8_saves 79 = .ok (.iastore, 1) := by decide +kernel
theorem dX8_saves_80 : decode cX8_saves 80 = .ok (.iinc 1 1, 3) := by decide +kernel
theorem dX8_saves_83 : decode cX8_saves 83 = .ok (.goto (-31), 3) := by decide +kernel
theorem dX8_saves_86 : decode cX8_saves 86 = .ok (.aload_n 0, 1) := by decide +kernel
theorem dX8_saves_87 : decode cX8_saves 87 = .ok (.dup, 1) := by decide +kernel
theorem dX8_saves_88 : decode cX8_saves 88 = .ok (.getfield 109, 3) := by decide +kernel
theorem dX8_saves_91 : decode cX8_saves 91 = .ok (.iconst 1, 1) := by decide +kernel
theorem dX8_saves_92 : decode cX8_saves 92 = .ok (.iadd, 1) := by decide +kernel
theorem dX8_saves_93 : decode cX8_saves 93 = .ok (.putfield 109, 3) := by decide +kernel
theorem dX8_saves_96 : decode cX8_saves 96 = .ok (.return_, 1) := by decide +kernel
theorem dX8_defined_0 : decode cX8_defined 0 = .ok (.iconst 0, 1) := by decide +kernel
theorem dX8_defined_1 : decode cX8_defined 1 = .ok (.istore_n 1, 1) := by decide +kernel
theorem dX8_defined_2 : decode cX8_defined 2 = .ok (.iconst 0, 1) := by decide +kernel
theorem dX8_defined_3 : decode cX8_defined 3 = .ok (.istore_n 2, 1) := by decide +kernel
theorem dX8_defined_4 : decode cX8_defined 4 = .ok (.iload_n 2, 1) := by decide +kernel
theorem dX8_defined_5 : decode cX8_defined 5 = .ok (.bipush 26, 2) := by decide +kernel
theorem dX8_defined_7 : decode cX8_defined 7 = .ok (.if_icmp .ge 25, 3) := by decide +kernel
theorem dX8_defined_10 : decode cX8_defined 10 = .ok (.iload_n 1, 1) := by decide +kernel
theorem dX8_defined_11 : decode cX8_defined 11 = .ok (.aload_n 0, 1) := by decide +kernel
theorem dX8_defined_12 : decode cX8_defined 12 = .ok (.iload_n 2, 1) := by decide +kernel
theorem dX8_defined_13 : decode cX8_defined 13 = .ok (.invokevirtual 112, 3) := by decide +kernel
theorem dX8_defined_16 : decode cX8_defined 16 = .ok (.ifCond .eq 7, 3) := by decide +kernel
theorem dX8_defined_19 : decode cX8_defined 19 = .ok (.iconst 1, 1) := by decide +kernel
theorem dX8_defined_20 : decode cX8_defined 20 = .ok (.goto 4, 3) := by decide +kernel
theorem dX8_defined_23 : decode cX8_defined 23 = .ok (.iconst 0, 1) := by decide +kernel
theorem dX8_defined_24 : decode cX8_defined 24 = .ok (.iadd, 1) := by decide +kernel
theorem dX8_defined_25 : decode cX8_defined 25 = .ok (.istore_n 1, 1) := by decide +kernel
theorem dX8_defined_26 : decode cX8_defined 26 = .ok (.iinc 2 1, 3) := by decide +kernel
theorem dX8_defined_29 : decode cX8_defined 29 = .ok (.goto (-25), 3) := by decide +kernel
theorem dX8_defined_32 : decode cX8_defined 32 = .ok (.iload_n 1, 1) := by decide +kernel
theorem dX8_defined_33 : decode cX8_defined 33 = .ok (.ireturn, 1) := by decide +kernel
theorem dX8_append_0 : decode cX8_append 0 = .ok (.aload_n 0, 1) := by decide +kernel
theorem dX8_append_1 : decode cX8_append 1 = .ok (.iload_n 1, 1) := by decide +kernel
theorem dX8_append_2 : decode cX8_append 2 = .ok (.bipush 33, 2) := by decide +kernel
theorem dX8_append_4 : decode cX8_append 4 = .ok (.bipush 126, 2) := by decide +kernel
theorem dX8_append_6 : decode cX8_append 6 = .ok (.invokestatic 102, 3) := by decide +kernel
theorem dX8_append_9 : decode cX8_append 9 = .ok (.ifCond .ne 7, 3) := by decide +kernel
theorem dX8_append_12 : decode cX8_append 12 = .ok (.iconst 1, 1) := by decide +kernel
theorem dX8_append_13 : decode cX8_append 13 = .ok (.goto 17, 3) := by decide +kernel
theorem dX8_append_16 : decode cX8_append 16 = .ok (.aload_n 0, 1) := by decide +kernel
theorem dX8_append_17 : decode cX8_append 17 = .ok (.getfield 106, 3) := by decide +kernel
theorem dX8_append_20 : decode cX8_append 20 = .ok (.bipush 60, 2) := by decide +kernel
theorem dX8_append_22 : decode cX8_append 22 = .ok (.if_icmp .ne 7, 3) := by decide +kernel
theorem dX8_append_25 : decode cX8_append 25 = .ok (.iconst 2, 1) := by decide +kernel
theorem dX8_append_26 : decode cX8_append 26 = .ok (.goto 4, 3) := by decide +kernel
theorem dX8_append_29 : decode cX8_append 29 = .ok (.iconst 0, 1) := by decide +kernel
theorem dX8_append_30 : decode cX8_append 30 = .ok (.invokevirtual 116, 3) := by decide +kernel
theorem dX8_append_33 : decode cX8_append 33 = .ok (.ifCond .eq 5, 3) := by decide +kernel
theorem dX8_append_36 : decode cX8_append 36 = .ok (.iconst 0, 1) := by decide +kernel
theorem dX8_append_37 : decode cX8_append 37 = .ok (.ireturn, 1) := by decide +kernel
theorem dX8_append_38 : decode cX8_append 38 = .ok (.aload_n 0, 1) := by decide +kernel
theorem dX8_append_39 : decode cX8_append 39 = .ok (.getfield 23, 3) := by decide +kernel
theorem dX8_append_42 : decode cX8_append 42 = .ok (.aload_n 0, 1) := by decide +kernel
theorem dX8_append_43 : decode cX8_append 43 = .ok (.getfield 106, 3) := by decide +kernel
theorem dX8_append_46 : decode cX8_append 46 = .ok (.iload_n 1, 1) := by decide +kernel
theorem dX8_append_47 : decode cX8_append 47 = .ok (.iastore, 1) := by decide +kernel
theorem dX8_append_48 : decode cX8_append 48 = .ok (.aload_n 0, 1) := by decide +kernel
theorem dX8_append_49 : decode cX8_append 49 = .ok (.dup, 1) := by decide +kernel
theorem dX8_append_50 : decode cX8_append 50 = .ok (.getfield 106, 3) := by decide +kernel
theorem dX8_append_53 : decode cX8_append 53 = .ok (.iconst 1, 1) := by decide +kernel
theorem dX8_append_54 : decode cX8_append 54 = .ok (.iadd, 1) := by decide +kernel
theorem dX8_append_55 : decode cX8_append 55 = .ok (.putfield 106, 3) := by decide +kernel
theorem dX8_append_58 : decode cX8_append 58 = .ok (.aload_n 0, 1) := by decide +kernel
theorem dX8_append_59 : decode cX8_append 59 = .ok (.getfield 106, 3) := by decide +kernel
theorem dX8_append_62 : decode cX8_append 62 = .ok (.ireturn, 1) := by decide +kernel
theorem dX8_clearBuffer_0 : decode cX8_clearBuffer 0 = .ok (.aload_n 0, 1) := by decide +kernel
theorem dX8_clearBuffer_1 : decode cX8_clearBuffer 1 = .ok (.iconst 0, 1) := by decide +kernel
theorem dX8_clearBuffer_2 : decode cX8_clearBuffer 2 = .ok (.putfield 98, 3) := by decide +kernel
theorem dX8_clearBuffer_5 : decode cX8_clearBuffer 5 = .ok (.aload_n 0, 1) := by decide +kernel
theorem dX8_clearBuffer_6 : decode cX8_clearBuffer 6 = .ok (.getfield 106, 3) := by decide +kernel
theorem dX8_clearBuffer_9 : decode cX8_clearBuffer 9 = .ok (.istore_n 1, 1) := by decide +kernel
theorem dX8_clearBuffer_10 : decode cX8_clearBuffer 10 = .ok (.aload_n 0, 1) := by decide +kernel
theorem dX8_clearBuffer_11 : decode cX8_clearBuffer 11 = .ok (.iconst 0, 1) := by decide +kernel
theorem dX8_clearBuffer_12 : decode cX8_clearBuffer 12 = .ok (.putfield 106, 3) := by decide +kernel
theorem dX8_clearBuffer_15 : decode cX8_clearBuffer 15 = .ok (.iload_n 1, 1) := by decide +kernel
theorem dX8_clearBuffer_16 : decode cX8_clearBuffer 16 = .ok (.ireturn, 1) := by decide +kernel
theorem dX8_error_0 : decode cX8_error 0 = .ok (.aload_n 0, 1) := by decide +kernel
theorem dX8_error_1 : decode cX8_error 1 = .ok (.iconst 0, 1) := by decide +kernel
theorem dX8_error_2 : decode cX8_error 2 = .ok (.putfield 119, 3) := by decide +kernel
theorem dX8_error_5 : decode cX8_error 5 = .ok (.iconst 0, 1) := by decide +kernel
theorem dX8_error_6 : decode cX8_error 6 = .ok (.istore_n 1, 1) := by decide +kernel
theorem dX8_error_7 : decode cX8_error 7 = .ok (.iconst 0, 1) := by decide +kernel
theorem dX8_error_8 : decode cX8_error 8 = .ok (.istore_n 2, 1) := by decide +kernel
theorem dX8_error_9 : decode cX8_error 9 = .ok (.iload_n 2, 1) := by decide +kernel
theorem dX8_error_10 : decode cX8_error 10 = .ok (.aload_n 0, 1) := by decide +kernel
theorem dX8_error_11 : decode cX8_error 11 = .ok (.getfield 106, 3) := by decide +kernel
theorem dX8_error_14 : decode cX8_error 14 = .ok (.if_icmp .ge 170, 3) := by decide +kernel
theorem dX8_error_17 : decode cX8_error 17 = .ok (.aload_n 0, 1) := by decide +kernel
theorem dX8_error_18 : decode cX8_error 18 = .ok (.getfield 23, 3) := by decide +kernel
theorem dX8_error_21 : decode cX8_error 21 = .ok (.iload_n 2, 1) := by decide +kernel
theorem dX8_error_22 : decode cX8_error 22 = .ok (.iaload, 1) := by decide +kernel
theorem dX8_error_23 : decode cX8_error 23 = .ok (.istore_n 3, 1) := by decide +kernel
theorem dX8_error_24 : decode cX8_error 24 = .ok (.iload_n 3, 1) := by decide +kernel
theorem dX8_error_25 : decode cX8_error 25 = .ok (.invokestatic 122, 3) := by decide +kernel
theorem dX8_error_28 : decode cX8_error 28 = .ok (.ifCond .ne 68, 3) := by decide +kernel
theorem dX8_error_31 : decode cX8_error 31 = .ok (.iload_n 3, 1) := by decide +kernel
theorem dX8_error_32 : decode cX8_error 32 = .ok (.bipush 63, 2) := by decide +kernel
theorem dX8_error_34 : decode cX8_error 34 = .ok (.if_icmp .eq 62, 3) := by decide +kernel
theorem dX8_error_37 : decode cX8_error 37 = .ok (.iload_n 3, 1) := by decide +kernel
theorem dX8_error_38 : decode cX8_error 38 = .ok (.invokestatic 125, 3) := by decide +kernel
theorem dX8_error_41 : decode cX8_error 41 = .ok (.ifCond .ne 55, 3) := by decide +kernel
theorem dX8_error_44 : decode cX8_error 44 = .ok (.iload_n 3, 1) := by decide +kernel
theorem dX8_error_45 : decode cX8_error 45 = .ok (.bipush 40, 2) := by decide +kernel
theorem dX8_error_47 : decode cX8_error 47 = .ok (.if_icmp .ne 7, 3) := by decide +kernel
theorem dX8_error_50 : decode cX8_error 50 = .ok (.iload_n 1, 1) := by decide +kernel
theorem dX8_error_51 : decode cX8_error 51 = .ok (.ifCond .ne 45, 3) := by decide +kernel
theorem dX8_error_54 : decode cX8_error 54 = .ok (.iload_n 3, 1) := by decide +kernel
theorem dX8_error_55 : decode cX8_error 55 = .ok (.bipush 41, 2) := by decide +kernel
theorem dX8_error_57 : decode cX8_error 57 = .ok (.if_icmp .ne 10, 3) := by decide +kernel
theorem dX8_error_60 : decode cX8_error 60 = .ok (.aload_n 0, 1) := by decide +kernel
theorem dX8_error_61 : decode cX8_error 61 = .ok (.getfield 119, 3) := by decide +kernel
theorem dX8_error_64 : decode cX8_error 64 = .ok (.ifCond .gt 32, 3) := by decide +kernel
theorem dX8_error_67 : decode cX8_error 67 = .ok (.iload_n 3, 1) := by decide +kernel
theorem dX8_error_68 : decode cX8_error 68 = .ok (.bipush 44, 2) := by decide +kernel
theorem dX8_error_70 : decode cX8_error 70 = .ok (.if_icmp .ne 30, 3) := by decide +kernel
theorem dX8_error_73 : decode cX8_error 73 = .ok (.aload_n 0, 1) := by decide +kernel
theorem dX8_error_74 : decode cX8_error 74 = .ok (.getfield 119, 3) := by decide +kernel
theorem dX8_error_77 : decode cX8_error 77 = .ok (.ifCond .le 23, 3) := by decide +kernel
theorem dX8_error_80 : decode cX8_error 80 = .ok (.aload_n 0, 1) := by decide +kernel
theorem dX8_error_81 : decode cX8_error 81 = .ok (.getfield 26, 3) := by decide +kernel
theorem dX8_error_84 : decode cX8_error 84 = .ok (.aload_n 0, 1) := by decide +kernel
theorem dX8_error_85 : decode cX8_error 85 = .ok (.getfield 119, 3) := by decide +kernel
theorem dX8_error_88 : decode cX8_error 88 = .ok (.iconst 1, 1) := by decide +kernel
theorem dX8_error_89 : decode cX8_error 89 = .ok (.isub, 1) := by decide +kernel
theorem dX8_error_90 : decode cX8_error 90 = .ok (.iaload, 1) := by decide +kernel
theorem dX8_error_91 : decode cX8_error 91 = .ok (.bipush 6, 2) := by decide +kernel
theorem dX8_error_93 : decode cX8_error 93 = .ok (.if_icmp .ge 7, 3) := by decide +kernel
theorem dX8_error_96 : decode cX8_error 96 = .ok (.iconst 1, 1) := by decide +kernel
theorem dX8_error_97 : decode cX8_error 97 = .ok (.goto 4, 3) := by decide +kernel
theorem dX8_error_100 : decode cX8_error 100 = .ok (.iconst 0, 1) := by decide +kernel
theorem dX8_error_101 : decode cX8_error 101 = .ok (.istore 4, 2) := by decide +kernel
theorem dX8_error_103 : decode cX8_error 103 = .ok (.iload 4, 2) := by decide +kernel
theorem dX8_error_105 : decode cX8_error 105 = .ok (.ifCond .ne 5, 3) := by decide +kernel
theorem dX8_error_108 : decode cX8_error 108 = .ok (.iload_n 2, 1) := by decide +kernel
theorem dX8_error_109 : decode cX8_error 109 = .ok (.ireturn, 1) := by decide +kernel
theorem dX8_error_110 : decode cX8_error 110 = .ok (.iload_n 3, 1) := by decide +kernel
theorem dX8_error_111 : decode cX8_error 111 = .ok (.bipush 40, 2) := by decide +kernel
theorem dX8_error_113 : decode cX8_error 113 = .ok (.if_icmp .ne 23, 3) := by decide +kernel
theorem dX8_error_116 : decode cX8_error 116 = .ok (.aload_n 0, 1) := by decide +kernel
theorem dX8_error_117 : decode cX8_error 117 = .ok (.getfield 26, 3) := by decide +kernel
theorem dX8_error_120 : decode cX8_error 120 = .ok (.aload_n 0, 1) := by decide +kernel
theorem dX8_error_121 : decode cX8_error 121 = .ok (.getfield 119, 3) := by decide +kernel
theorem dX8_error_124 : decode cX8_error 124 = .ok (.iconst 1, 1) := by decide +kernel
theorem dX8_error_125 : decode cX8_error 125 = .ok (.iastore, 1) := by decide +kernel
theorem dX8_error_126 : decode cX8_error 126 = .ok (.aload_n 0, 1) := by decide +kernel
theorem dX8_error_127 : decode cX8_error 127 = .ok (.dup, 1) := by decide +kernel
theorem dX8_error_128 : decode cX8_error 128 = .ok (.getfield 119, 3) := by decide +kernel
theorem dX8_error_131 : decode cX8_error 131 = .ok (.iconst 1, 1) := by decide +kernel
theorem dX8_error_132 : decode cX8_error 132 = .ok (.iadd, 1) := by decide +kernel
theorem dX8_error_133 : decode cX8_error 133 = .ok (.putfield 119, 3) := by decide +kernel
theorem dX8_error_136 : decode cX8_error 136 = .ok (.iload_n 3, 1) := by decide +kernel
theorem dX8_error_137 : decode cX8_error 137 = .ok (.bipush 41, 2) := by decide +kernel
theorem dX8_error_139 : decode cX8_error 139 = .ok (.if_icmp .ne 13, 3) := by decide +kernel
theorem dX8_error_142 : decode cX8_error 142 = .ok (.aload_n 0, 1) := by decide +kernel
theorem dX8_error_143 : decode cX8_error 143 = .ok (.dup, 1) := by decide +kernel
theorem dX8_error_144 : decode cX8_error 144 = .ok (.getfield 119, 3) := by decide +kernel
theorem dX8_error_147 : decode cX8_error 147 = .ok (.iconst 1, 1) := by decide +kernel
theorem dX8_error_148 : decode cX8_error 148 = .ok (.isub, 1) := by decide +kernel
theorem dX8_error_149 : decode cX8_error 149 = .ok (.putfield 119, 3) := by decide +kernel
theorem dX8_error_152 : decode cX8_error 152 = .ok (.iload_n 3, 1) := by decide +kernel
theorem dX8_error_153 : decode cX8_error 153 = .ok (.bipush 44, 2) := by decide +kernel
theorem dX8_error_155 : decode cX8_error 155 = .ok (.if_icmp .ne 18, 3) := by decide +kernel
theorem dX8_error_158 : decode cX8_error 158 = .ok (.aload_n 0, 1) := by decide +kernel
theorem dX8_error_159 : decode cX8_error 159 = .ok (.getfield 26, 3) := by decide +kernel
theorem dX8_error_162 : decode cX8_error 162 = .ok (.aload_n 0, 1) := by decide +kernel
theorem dX8_error_163 : decode cX8_error 163 = .ok (.getfield 119, 3) := by decide +kernel
theorem dX8_error_166 : decode cX8_error 166 = .ok (.iconst 1, 1) := by decide +kernel
theorem dX8_error_167 : decode cX8_error 167 = .ok (.isub, 1) := by decide +kernel
theorem dX8_error_168 : decode cX8_error 168 = .ok (.dup2, 1) := by decide +kernel
theorem dX8_error_169 : decode cX8_error 169 = .ok (.iaload, 1) := by decide +kernel
theorem dX8_error_170 : decode cX8_error 170 = .ok (.iconst 1, 1) := by decide +kernel
theorem dX8_error_171 : decode cX8_error 171 = .ok (.iadd, 1) := by decide +kernel
theorem dX8_error_172 : decode cX8_error 172 = .ok (.iastore, 1) := by decide +kernel
theorem dX8_error_173 : decode cX8_error 173 = .ok (.iload_n 3, 1) := by decide +kernel
theorem dX8_error_174 : decode cX8_error 174 = .ok (.invokestatic 125, 3) := by decide +kernel
theorem dX8_error_177 : decode cX8_error 177 = .ok (.istore_n 1, 1) := by decide +kernel
theorem dX8_error_178 : decode cX8_error 178 = .ok (.iinc 2 1, 3) := by decide +kernel
theorem dX8_error_181 : decode cX8_error 181 = .ok (.goto (-172), 3) := by decide +kernel
theorem dX8_error_184 : decode cX8_error 184 = .ok (.aload_n 0, 1) := by decide +kernel
theorem dX8_error_185 : decode cX8_error 185 = .ok (.getfield 106, 3) := by decide +kernel
theorem dX8_error_188 : decode cX8_error 188 = .ok (.ireturn, 1) := by decide +kernel
theorem dX8_isWhole_0 : decode cX8_isWhole 0 = .ok (.aload_n 0, 1) := by decide +kernel
theorem dX8_isWhole_1 : decode cX8_isWhole 1 = .ok (.invokevirtual 128, 3) := by decide +kernel
theorem dX8_isWhole_4 : decode cX8_isWhole 4 = .ok (.aload_n 0, 1) := by decide +kernel
theorem dX8_isWhole_5 : decode cX8_isWhole 5 = .ok (.getfield 106, 3) := by decide +kernel
theorem dX8_isWhole_8 : decode cX8_isWhole 8 = .ok (.if_icmp .ne 14, 3) := by decide +kernel
theorem dX8_isWhole_11 : decode cX8_isWhole 11 = .ok (.aload_n 0, 1) := by decide +kernel
theorem dX8_isWhole_12 : decode cX8_isWhole 12 = .ok (.getfield 119, 3) := by decide +kernel
theorem dX8_isWhole_15 : decode cX8_isWhole 15 = .ok (.ifCond .ne 7, 3) := by decide +kernel
theorem dX8_isWhole_18 : decode cX8_isWhole 18 = .ok (.iconst 1, 1) := by decide +kernel
theorem dX8_isWhole_19 : decode cX8_isWhole 19 = .ok (.goto 4, 3) := by decide +kernel
theorem dX8_isWhole_22 : decode cX8_isWhole 22 = .ok (.iconst 0, 1) := by decide +kernel
theorem dX8_isWhole_23 : decode cX8_isWhole 23 = .ok (.ireturn, 1) := by decide +kernel
theorem dX8_firstError_0 : decode cX8_firstError 0 = .ok (.aload_n 0, 1) := by decide +kernel
theorem dX8_firstError_1 : decode cX8_firstError 1 = .ok (.iconst 0, 1) := by decide +kernel
theorem dX8_firstError_2 : decode cX8_firstError 2 = .ok (.putfield 98, 3) := by decide +kernel
theorem dX8_firstError_5 : decode cX8_firstError 5 = .ok (.aload_n 0, 1) := by decide +kernel
theorem dX8_firstError_6 : decode cX8_firstError 6 = .ok (.invokevirtual 128, 3) := by decide +kernel
theorem dX8_firstError_9 : decode cX8_firstError 9 = .ok (.ireturn, 1) := by decide +kernel
theorem dX8_load_0 : decode cX8_load 0 = .ok (.aload_n 0, 1) := by decide +kernel
theorem dX8_load_1 : decode cX8_load 1 = .ok (.iload_n 1, 1) := by decide +kernel
theorem dX8_load_2 : decode cX8_load 2 = .ok (.invokestatic 132, 3) := by decide +kernel
theorem dX8_load_5 : decode cX8_load 5 = .ok (.ifCond .ne 7, 3) := by decide +kernel
theorem dX8_load_8 : decode cX8_load 8 = .ok (.iconst 1, 1) := by decide +kernel
theorem dX8_load_9 : decode cX8_load 9 = .ok (.goto 16, 3) := by decide +kernel
theorem dX8_load_12 : decode cX8_load 12 = .ok (.aload_n 0, 1) := by decide +kernel
theorem dX8_load_13 : decode cX8_load 13 = .ok (.iload_n 1, 1) := by decide +kernel
theorem dX8_load_14 : decode cX8_load 14 = .ok (.invokevirtual 112, 3) := by decide +kernel
theorem dX8_load_17 : decode cX8_load 17 = .ok (.ifCond .eq 7, 3) := by decide +kernel
theorem dX8_load_20 : decode cX8_load 20 = .ok (.iconst 0, 1) := by decide +kernel
theorem dX8_load_21 : decode cX8_load 21 = .ok (.goto 4, 3) := by decide +kernel
theorem dX8_load_24 : decode cX8_load 24 = .ok (.iconst 2, 1) := by decide +kernel
theorem dX8_load_25 : decode cX8_load 25 = .ok (.invokevirtual 116, 3) := by decide +kernel
theorem dX8_load_28 : decode cX8_load 28 = .ok (.ifCond .eq 5, 3) := by decide +kernel
theorem dX8_load_31 : decode cX8_load 31 = .ok (.iconst 0, 1) := by decide +kernel
theorem dX8_load_32 : decode cX8_load 32 = .ok (.ireturn, 1) := by decide +kernel
theorem dX8_load_33 : decode cX8_load 33 = .ok (.aload_n 0, 1) := by decide +kernel
theorem dX8_load_34 : decode cX8_load 34 = .ok (.aload_n 0, 1) := by decide +kernel
theorem dX8_load_35 : decode cX8_load 35 = .ok (.getfield 7, 3) := by decide +kernel
theorem dX8_load_38 : decode cX8_load 38 = .ok (.iload_n 1, 1) := by decide +kernel
theorem dX8_load_39 : decode cX8_load 39 = .ok (.iaload, 1) := by decide +kernel
theorem dX8_load_40 : decode cX8_load 40 = .ok (.putfield 106, 3) := by decide +kernel
theorem dX8_load_43 : decode cX8_load 43 = .ok (.iconst 0, 1) := by decide +kernel
theorem dX8_load_44 : decode cX8_load 44 = .ok (.istore_n 2, 1) := by decide +kernel
theorem dX8_load_45 : decode cX8_load 45 = .ok (.iload_n 2, 1) := by decide +kernel
theorem dX8_load_46 : decode cX8_load 46 = .ok (.aload_n 0, 1) := by decide +kernel
theorem dX8_load_47 : decode cX8_load 47 = .ok (.getfield 106, 3) := by decide +kernel
theorem dX8_load_50 : decode cX8_load 50 = .ok (.if_icmp .ge 29, 3) := by decide +kernel
theorem dX8_load_53 : decode cX8_load 53 = .ok (.aload_n 0, 1) := by decide +kernel
theorem dX8_load_54 : decode cX8_load 54 = .ok (.getfield 23, 3) := by decide +kernel
theorem dX8_load_57 : decode cX8_load 57 = .ok (.iload_n 2, 1) := by decide +kernel
theorem dX8_load_58 : decode cX8_load 58 = .ok (.aload_n 0, 1) := by decide +kernel
theorem dX8_load_59 : decode cX8_load 59 = .ok (.getfield 7, 3) := by decide +kernel
theorem dX8_load_62 : decode cX8_load 62 = .ok (.bipush 26, 2) := by decide +kernel
theorem dX8_load_64 : decode cX8_load 64 = .ok (.bipush 60, 2) := by decide +kernel
theorem dX8_load_66 : decode cX8_load 66 = .ok (.iload_n 1, 1) := by decide +kernel
theorem dX8_load_67 : decode cX8_load 67 = .ok (.imul, 1) := by decide +kernel
theorem dX8_load_68 : decode cX8_load 68 = .ok (.iadd, 1) := by decide +kernel
theorem dX8_load_69 : decode cX8_load 69 = .ok (.iload_n 2, 1) := by decide +kernel
theorem dX8_load_70 : decode cX8_load 70 = .ok (.iadd, 1) := by decide +kernel
theorem dX8_load_71 : decode cX8_load 71 = .ok (.iaload, 1) := by decide +kernel
theorem dX8_load_72 : decode cX8_load 72 = .ok (.iastore, 1) := by decide +kernel
theorem dX8_load_73 : decode cX8_load 73 = .ok (.iinc 2 1, 3) := by decide +kernel
theorem dX8_load_76 : decode cX8_load 76 = .ok (.goto (-31), 3) := by decide +kernel
theorem dX8_load_79 : decode cX8_load 79 = .ok (.aload_n 0, 1) := by decide +kernel
theorem dX8_load_80 : decode cX8_load 80 = .ok (.getfield 106, 3) := by decide +kernel
theorem dX8_load_83 : decode cX8_load 83 = .ok (.ireturn, 1) := by decide +kernel
theorem dX8_holesOf_0 : decode cX8_holesOf 0 = .ok (.iconst 0, 1) := by decide +kernel
theorem dX8_holesOf_1 : decode cX8_holesOf 1 = .ok (.istore_n 3, 1) := by decide +kernel
theorem dX8_holesOf_2 : decode cX8_holesOf 2 = .ok (.iconst 0, 1) := by decide +kernel
theorem dX8_holesOf_3 : decode cX8_holesOf 3 = .ok (.istore 4, 2) := by decide +kernel
theorem dX8_holesOf_5 : decode cX8_holesOf 5 = .ok (.iload 4, 2) := by decide +kernel
theorem dX8_holesOf_7 : decode cX8_holesOf 7 = .ok (.iload_n 2, 1) := by decide +kernel
theorem dX8_holesOf_8 : decode cX8_holesOf 8 = .ok (.if_icmp .ge 29, 3) := by decide +kernel
theorem dX8_holesOf_11 : decode cX8_holesOf 11 = .ok (.iload_n 3, 1) := by decide +kernel
theorem dX8_holesOf_12 : decode cX8_holesOf 12 = .ok (.aload_n 0, 1) := by decide +kernel
theorem dX8_holesOf_13 : decode cX8_holesOf 13 = .ok (.iload_n 1, 1) := by decide +kernel
theorem dX8_holesOf_14 : decode cX8_holesOf 14 = .ok (.iload 4, 2) := by decide +kernel
theorem dX8_holesOf_16 : decode cX8_holesOf 16 = .ok (.invokevirtual 135, 3) := by decide +kernel
theorem dX8_holesOf_19 : decode cX8_holesOf 19 = .ok (.bipush 63, 2) := by decide +kernel
theorem dX8_holesOf_21 : decode cX8_holesOf 21 = .ok (.if_icmp .ne 7, 3) := by decide +kernel
theorem dX8_holesOf_24 : decode cX8_holesOf 24 = .ok (.iconst 1, 1) := by decide +kernel
theorem dX8_holesOf_25 : decode cX8_holesOf 25 = .ok (.goto 4, 3) := by decide +kernel
theorem dX8_holesOf_28 : decode cX8_holesOf 28 = .ok (.iconst 0, 1) := by decide +kernel
theorem dX8_holesOf_29 : decode cX8_holesOf 29 = .ok (.iadd, 1) := by decide +kernel
theorem dX8_holesOf_30 : decode cX8_holesOf 30 = .ok (.istore_n 3, 1) := by decide +kernel
theorem dX8_holesOf_31 : decode cX8_holesOf 31 = .ok (.iinc 4 1, 3) := by decide +kernel
theorem dX8_holesOf_34 : decode cX8_holesOf 34 = .ok (.goto (-29), 3) := by decide +kernel
theorem dX8_holesOf_37 : decode cX8_holesOf 37 = .ok (.iload_n 3, 1) := by decide +kernel
theorem dX8_holesOf_38 : decode cX8_holesOf 38 = .ok (.ireturn, 1) := by decide +kernel
theorem dX8_lays_0 : decode cX8_lays 0 = .ok (.aload_n 0, 1) := by decide +kernel
theorem dX8_lays_1 : decode cX8_lays 1 = .ok (.getfield 7, 3) := by decide +kernel
theorem dX8_lays_4 : decode cX8_lays 4 = .ok (.iload_n 1, 1) := by decide +kernel
theorem dX8_lays_5 : decode cX8_lays 5 = .ok (.aload_n 0, 1) := by decide +kernel
theorem dX8_lays_6 : decode cX8_lays 6 = .ok (.getfield 106, 3) := by decide +kernel
theorem dX8_lays_9 : decode cX8_lays 9 = .ok (.iastore, 1) := by decide +kernel
theorem dX8_lays_10 : decode cX8_lays 10 = .ok (.iconst 0, 1) := by decide +kernel
theorem dX8_lays_11 : decode cX8_lays 11 = .ok (.istore_n 2, 1) := by decide +kernel
theorem dX8_lays_12 : decode cX8_lays 12 = .ok (.iload_n 2, 1) := by decide +kernel
theorem dX8_lays_13 : decode cX8_lays 13 = .ok (.bipush 60, 2) := by decide +kernel
theorem dX8_lays_15 : decode cX8_lays 15 = .ok (.if_icmp .ge 41, 3) := by decide +kernel
theorem dX8_lays_18 : decode cX8_lays 18 = .ok (.aload_n 0, 1) := by decide +kernel
theorem dX8_lays_19 : decode cX8_lays 19 = .ok (.getfield 7, 3) := by decide +kernel
theorem dX8_lays_22 : decode cX8_lays 22 = .ok (.bipush 26, 2) := by decide +kernel
theorem dX8_lays_24 : decode cX8_lays 24 = .ok (.bipush 60, 2) := by decide +kernel
theorem dX8_lays_26 : decode cX8_lays 26 = .ok (.iload_n 1, 1) := by decide +kernel
theorem dX8_lays_27 : decode cX8_lays 27 = .ok (.imul, 1) := by decide +kernel
theorem dX8_lays_28 : decode cX8_lays 28 = .ok (.iadd, 1) := by decide +kernel
theorem dX8_lays_29 : decode cX8_lays 29 = .ok (.iload_n 2, 1) := by decide +kernel
theorem dX8_lays_30 : decode cX8_lays 30 = .ok (.iadd, 1) := by decide +kernel
theorem dX8_lays_31 : decode cX8_lays 31 = .ok (.iload_n 2, 1) := by decide +kernel
theorem dX8_lays_32 : decode cX8_lays 32 = .ok (.aload_n 0, 1) := by decide +kernel
theorem dX8_lays_33 : decode cX8_lays 33 = .ok (.getfield 106, 3) := by decide +kernel
theorem dX8_lays_36 : decode cX8_lays 36 = .ok (.if_icmp .ge 12, 3) := by decide +kernel
theorem dX8_lays_39 : decode cX8_lays 39 = .ok (.aload_n 0, 1) := by decide +kernel
theorem dX8_lays_40 : decode cX8_lays 40 = .ok (.getfield 23, 3) := by decide +kernel
theorem dX8_lays_43 : decode cX8_lays 43 = .ok (.iload_n 2, 1) := by decide +kernel
theorem dX8_lays_44 : decode cX8_lays 44 = .ok (.iaload, 1) := by decide +kernel
theorem dX8_lays_45 : decode cX8_lays 45 = .ok (.goto 4, 3) := by decide +kernel
theorem dX8_lays_48 : decode cX8_lays 48 = .ok (.iconst 0, 1) := by decide +kernel
theorem dX8_lays_49 : decode cX8_lays 49 = .ok (.iastore, 1) := by decide +kernel
theorem dX8_lays_50 : decode cX8_lays 50 = .ok (.iinc 2 1, 3) := by decide +kernel
theorem dX8_lays_53 : decode cX8_lays 53 = .ok (.goto (-41), 3) := by decide +kernel
theorem dX8_lays_56 : decode cX8_lays 56 = .ok (.return_, 1) := by decide +kernel
theorem dX8_define_0 : decode cX8_define 0 = .ok (.aload_n 0, 1) := by decide +kernel
theorem dX8_define_1 : decode cX8_define 1 = .ok (.iload_n 1, 1) := by decide +kernel
theorem dX8_define_2 : decode cX8_define 2 = .ok (.invokestatic 132, 3) := by decide +kernel
theorem dX8_define_5 : decode cX8_define 5 = .ok (.ifCond .ne 7, 3) := by decide +kernel
theorem dX8_define_8 : decode cX8_define 8 = .ok (.iconst 1, 1) := by decide +kernel
theorem dX8_define_9 : decode cX8_define 9 = .ok (.goto 15, 3) := by decide +kernel
theorem dX8_define_12 : decode cX8_define 12 = .ok (.aload_n 0, 1) := by decide +kernel
theorem dX8_define_13 : decode cX8_define 13 = .ok (.invokevirtual 139, 3) := by decide +kernel
theorem dX8_define_16 : decode cX8_define 16 = .ok (.ifCond .eq 7, 3) := by decide +kernel
theorem dX8_define_19 : decode cX8_define 19 = .ok (.iconst 0, 1) := by decide +kernel
theorem dX8_define_20 : decode cX8_define 20 = .ok (.goto 4, 3) := by decide +kernel
theorem dX8_define_23 : decode cX8_define 23 = .ok (.iconst 2, 1) := by decide +kernel
theorem dX8_define_24 : decode cX8_define 24 = .ok (.invokevirtual 116, 3) := by decide +kernel
theorem dX8_define_27 : decode cX8_define 27 = .ok (.ifCond .eq 5, 3) := by decide +kernel
theorem dX8_define_30 : decode cX8_define 30 = .ok (.iconst 0, 1) := by decide +kernel
theorem dX8_define_31 : decode cX8_define 31 = .ok (.ireturn, 1) := by decide +kernel
theorem dX8_define_32 : decode cX8_define 32 = .ok (.aload_n 0, 1) := by decide +kernel
theorem dX8_define_33 : decode cX8_define 33 = .ok (.invokevirtual 143, 3) := by decide +kernel
theorem dX8_define_36 : decode cX8_define 36 = .ok (.aload_n 0, 1) := by decide +kernel
theorem dX8_define_37 : decode cX8_define 37 = .ok (.iload_n 1, 1) := by decide +kernel
theorem dX8_define_38 : decode cX8_define 38 = .ok (.invokevirtual 146, 3) := by decide +kernel
theorem dX8_define_41 : decode cX8_define 41 = .ok (.aload_n 0, 1) := by decide +kernel
theorem dX8_define_42 : decode cX8_define 42 = .ok (.iconst 0, 1) := by decide +kernel
theorem dX8_define_43 : decode cX8_define 43 = .ok (.putfield 106, 3) := by decide +kernel
theorem dX8_define_46 : decode cX8_define 46 = .ok (.aload_n 0, 1) := by decide +kernel
theorem dX8_define_47 : decode cX8_define 47 = .ok (.iload_n 1, 1) := by decide +kernel
theorem dX8_define_48 : decode cX8_define 48 = .ok (.aload_n 0, 1) := by decide +kernel
theorem dX8_define_49 : decode cX8_define 49 = .ok (.getfield 7, 3) := by decide +kernel
theorem dX8_define_52 : decode cX8_define 52 = .ok (.iload_n 1, 1) := by decide +kernel
theorem dX8_define_53 : decode cX8_define 53 = .ok (.iaload, 1) := by decide +kernel
theorem dX8_define_54 : decode cX8_define 54 = .ok (.invokevirtual 150, 3) := by decide +kernel
theorem dX8_define_57 : decode cX8_define 57 = .ok (.ireturn, 1) := by decide +kernel
theorem dX8_remove_0 : decode cX8_remove 0 = .ok (.aload_n 0, 1) := by decide +kernel
theorem dX8_remove_1 : decode cX8_remove 1 = .ok (.iload_n 1, 1) := by decide +kernel
theorem dX8_remove_2 : decode cX8_remove 2 = .ok (.invokestatic 132, 3) := by decide +kernel
theorem dX8_remove_5 : decode cX8_remove 5 = .ok (.ifCond .ne 7, 3) := by decide +kernel
theorem dX8_remove_8 : decode cX8_remove 8 = .ok (.iconst 1, 1) := by decide +kernel
theorem dX8_remove_9 : decode cX8_remove 9 = .ok (.goto 16, 3) := by decide +kernel
theorem dX8_remove_12 : decode cX8_remove 12 = .ok (.aload_n 0, 1) := by decide +kernel
theorem dX8_remove_13 : decode cX8_remove 13 = .ok (.iload_n 1, 1) := by decide +kernel
theorem dX8_remove_14 : decode cX8_remove 14 = .ok (.invokevirtual 112, 3) := by decide +kernel
theorem dX8_remove_17 : decode cX8_remove 17 = .ok (.ifCond .eq 7, 3) := by decide +kernel
theorem dX8_remove_20 : decode cX8_remove 20 = .ok (.iconst 0, 1) := by decide +kernel
theorem dX8_remove_21 : decode cX8_remove 21 = .ok (.goto 4, 3) := by decide +kernel
theorem dX8_remove_24 : decode cX8_remove 24 = .ok (.iconst 2, 1) := by decide +kernel
theorem dX8_remove_25 : decode cX8_remove 25 = .ok (.invokevirtual 116, 3) := by decide +kernel
theorem dX8_remove_28 : decode cX8_remove 28 = .ok (.ifCond .eq 5, 3) := by decide +kernel
theorem dX8_remove_31 : decode cX8_remove 31 = .ok (.iconst 0, 1) := by decide +kernel
theorem dX8_remove_32 : decode cX8_remove 32 = .ok (.ireturn, 1) := by decide +kernel
theorem dX8_remove_33 : decode cX8_remove 33 = .ok (.aload_n 0, 1) := by decide +kernel
theorem dX8_remove_34 : decode cX8_remove 34 = .ok (.invokevirtual 143, 3) := by decide +kernel
theorem dX8_remove_37 : decode cX8_remove 37 = .ok (.aload_n 0, 1) := by decide +kernel
theorem dX8_remove_38 : decode cX8_remove 38 = .ok (.getfield 7, 3) := by decide +kernel
theorem dX8_remove_41 : decode cX8_remove 41 = .ok (.iload_n 1, 1) := by decide +kernel
theorem dX8_remove_42 : decode cX8_remove 42 = .ok (.iconst (-1), 1) := by decide +kernel
theorem dX8_remove_43 : decode cX8_remove 43 = .ok (.iastore, 1) := by decide +kernel
theorem dX8_remove_44 : decode cX8_remove 44 = .ok (.aload_n 0, 1) := by decide +kernel
theorem dX8_remove_45 : decode cX8_remove 45 = .ok (.invokevirtual 153, 3) := by decide +kernel
theorem dX8_remove_48 : decode cX8_remove 48 = .ok (.ireturn, 1) := by decide +kernel
theorem dX8_exchange_0 : decode cX8_exchange 0 = .ok (.aload_n 0, 1) := by decide +kernel
theorem dX8_exchange_1 : decode cX8_exchange 1 = .ok (.iload_n 1, 1) := by decide +kernel
theorem dX8_exchange_2 : decode cX8_exchange 2 = .ok (.invokestatic 132, 3) := by decide +kernel
theorem dX8_exchange_5 : decode cX8_exchange 5 = .ok (.ifCond .eq 14, 3) := by decide +kernel
theorem dX8_exchange_8 : decode cX8_exchange 8 = .ok (.iload_n 2, 1) := by decide +kernel
theorem dX8_exchange_9 : decode cX8_exchange 9 = .ok (.invokestatic 132, 3) := by decide +kernel
theorem dX8_exchange_12 : decode cX8_exchange 12 = .ok (.ifCond .eq 7, 3) := by decide +kernel
theorem dX8_exchange_15 : decode cX8_exchange 15 = .ok (.iconst 0, 1) := by decide +kernel
theorem dX8_exchange_16 : decode cX8_exchange 16 = .ok (.goto 4, 3) := by decide +kernel
theorem dX8_exchange_19 : decode cX8_exchange 19 = .ok (.iconst 1, 1) := by decide +kernel
theorem dX8_exchange_20 : decode cX8_exchange 20 = .ok (.invokevirtual 116, 3) := by decide +kernel
theorem dX8_exchange_23 : decode cX8_exchange 23 = .ok (.ifCond .eq 5, 3) := by decide +kernel
theorem dX8_exchange_26 : decode cX8_exchange 26 = .ok (.iconst 0, 1) := by decide +kernel
theorem dX8_exchange_27 : decode cX8_exchange 27 = .ok (.ireturn, 1) := by decide +kernel
theorem dX8_exchange_28 : decode cX8_exchange 28 = .ok (.aload_n 0, 1) := by decide +kernel
theorem dX8_exchange_29 : decode cX8_exchange 29 = .ok (.invokevirtual 143, 3) := by decide +kernel
theorem dX8_exchange_32 : decode cX8_exchange 32 = .ok (.aload_n 0, 1) := by decide +kernel
theorem dX8_exchange_33 : decode cX8_exchange 33 = .ok (.getfield 7, 3) := by decide +kernel
theorem dX8_exchange_36 : decode cX8_exchange 36 = .ok (.iload_n 1, 1) := by decide +kernel
theorem dX8_exchange_37 : decode cX8_exchange 37 = .ok (.iaload, 1) := by decide +kernel
theorem dX8_exchange_38 : decode cX8_exchange 38 = .ok (.istore_n 3, 1) := by decide +kernel
theorem dX8_exchange_39 : decode cX8_exchange 39 = .ok (.aload_n 0, 1) := by decide +kernel
theorem dX8_exchange_40 : decode cX8_exchange 40 = .ok (.getfield 7, 3) := by decide +kernel
theorem dX8_exchange_43 : decode cX8_exchange 43 = .ok (.iload_n 1, 1) := by decide +kernel
theorem dX8_exchange_44 : decode cX8_exchange 44 = .ok (.aload_n 0, 1) := by decide +kernel
theorem dX8_exchange_45 : decode cX8_exchange 45 = .ok (.getfield 7, 3) := by decide +kernel
theorem dX8_exchange_48 : decode cX8_exchange 48 = .ok (.iload_n 2, 1) := by decide +kernel
theorem dX8_exchange_49 : decode cX8_exchange 49 = .ok (.iaload, 1) := by decide +kernel
theorem dX8_exchange_50 : decode cX8_exchange 50 = .ok (.iastore, 1) := by decide +kernel
theorem dX8_exchange_51 : decode cX8_exchange 51 = .ok (.aload_n 0, 1) := by decide +kernel
theorem dX8_exchange_52 : decode cX8_exchange 52 = .ok (.getfield 7, 3) := by decide +kernel
theorem dX8_exchange_55 : decode cX8_exchange 55 = .ok (.iload_n 2, 1) := by decide +kernel
theorem dX8_exchange_56 : decode cX8_exchange 56 = .ok (.iload_n 3, 1) := by decide +kernel
theorem dX8_exchange_57 : decode cX8_exchange 57 = .ok (.iastore, 1) := by decide +kernel
theorem dX8_exchange_58 : decode cX8_exchange 58 = .ok (.iconst 0, 1) := by decide +kernel
theorem dX8_exchange_59 : decode cX8_exchange 59 = .ok (.istore 4, 2) := by decide +kernel
theorem dX8_exchange_61 : decode cX8_exchange 61 = .ok (.iload 4, 2) := by decide +kernel
theorem dX8_exchange_63 : decode cX8_exchange 63 = .ok (.bipush 60, 2) := by decide +kernel
theorem dX8_exchange_65 : decode cX8_exchange 65 = .ok (.if_icmp .ge 73, 3) := by decide +kernel
theorem dX8_exchange_68 : decode cX8_exchange 68 = .ok (.aload_n 0, 1) := by decide +kernel
theorem dX8_exchange_69 : decode cX8_exchange 69 = .ok (.getfield 7, 3) := by decide +kernel
theorem dX8_exchange_72 : decode cX8_exchange 72 = .ok (.bipush 26, 2) := by decide +kernel
theorem dX8_exchange_74 : decode cX8_exchange 74 = .ok (.bipush 60, 2) := by decide +kernel
theorem dX8_exchange_76 : decode cX8_exchange 76 = .ok (.iload_n 1, 1) := by decide +kernel
theorem dX8_exchange_77 : decode cX8_exchange 77 = .ok (.imul, 1) := by decide +kernel
theorem dX8_exchange_78 : decode cX8_exchange 78 = .ok (.iadd, 1) := by decide +kernel
theorem dX8_exchange_79 : decode cX8_exchange 79 = .ok (.iload 4, 2) := by decide +kernel
theorem dX8_exchange_81 : decode cX8_exchange 81 = .ok (.iadd, 1) := by decide +kernel
theorem dX8_exchange_82 : decode cX8_exchange 82 = .ok (.iaload, 1) := by decide +kernel
theorem dX8_exchange_83 : decode cX8_exchange 83 = .ok (.istore 5, 2) := by decide +kernel
theorem dX8_exchange_85 : decode cX8_exchange 85 = .ok (.aload_n 0, 1) := by decide +kernel
theorem dX8_exchange_86 : decode cX8_exchange 86 = .ok (.getfield 7, 3) := by decide +kernel
theorem dX8_exchange_89 : decode cX8_exchange 89 = .ok (.bipush 26, 2) := by decide +kernel
theorem dX8_exchange_91 : decode cX8_exchange 91 = .ok (.bipush 60, 2) := by decide +kernel
theorem dX8_exchange_93 : decode cX8_exchange 93 = .ok (.iload_n 1, 1) := by decide +kernel
theorem dX8_exchange_94 : decode cX8_exchange 94 = .ok (.imul, 1) := by decide +kernel
theorem dX8_exchange_95 : decode cX8_exchange 95 = .ok (.iadd, 1) := by decide +kernel
theorem dX8_exchange_96 : decode cX8_exchange 96 = .ok (.iload 4, 2) := by decide +kernel
theorem dX8_exchange_98 : decode cX8_exchange 98 = .ok (.iadd, 1) := by decide +kernel
theorem dX8_exchange_99 : decode cX8_exchange 99 = .ok (.aload_n 0, 1) := by decide +kernel
theorem dX8_exchange_100 : decode cX8_exchange 100 = .ok (.getfield 7, 3) := by decide +kernel
theorem dX8_exchange_103 : decode cX8_exchange 103 = .ok (.bipush 26, 2) := by decide +kernel
theorem dX8_exchange_105 : decode cX8_exchange 105 = .ok (.bipush 60, 2) := by decide +kernel
theorem dX8_exchange_107 : decode cX8_exchange 107 = .ok (.iload_n 2, 1) := by decide +kernel
theorem dX8_exchange_108 : decode cX8_exchange 108 = .ok (.imul, 1) := by decide +kernel
theorem dX8_exchange_109 : decode cX8_exchange 109 = .ok (.iadd, 1) := by decide +kernel
theorem dX8_exchange_110 : decode cX8_exchange 110 = .ok (.iload 4, 2) := by decide +kernel
theorem dX8_exchange_112 : decode cX8_exchange 112 = .ok (.iadd, 1) := by decide +kernel
theorem dX8_exchange_113 : decode cX8_exchange 113 = .ok (.iaload, 1) := by decide +kernel
theorem dX8_exchange_114 : decode cX8_exchange 114 = .ok (.iastore, 1) := by decide +kernel
theorem dX8_exchange_115 : decode cX8_exchange 115 = .ok (.aload_n 0, 1) := by decide +kernel
theorem dX8_exchange_116 : decode cX8_exchange 116 = .ok (.getfield 7, 3) := by decide +kernel
theorem dX8_exchange_119 : decode cX8_exchange 119 = .ok (.bipush 26, 2) := by decide +kernel
theorem dX8_exchange_121 : decode cX8_exchange 121 = .ok (.bipush 60, 2) := by decide +kernel
theorem dX8_exchange_123 : decode cX8_exchange 123 = .ok (.iload_n 2, 1) := by decide +kernel
theorem dX8_exchange_124 : decode cX8_exchange 124 = .ok (.imul, 1) := by decide +kernel
theorem dX8_exchange_125 : decode cX8_exchange 125 = .ok (.iadd, 1) := by decide +kernel
theorem dX8_exchange_126 : decode cX8_exchange 126 = .ok (.iload 4, 2) := by decide +kernel
theorem dX8_exchange_128 : decode cX8_exchange 128 = .ok (.iadd, 1) := by decide +kernel
theorem dX8_exchange_129 : decode cX8_exchange 129 = .ok (.iload 5, 2) := by decide +kernel
theorem dX8_exchange_131 : decode cX8_exchange 131 = .ok (.iastore, 1) := by decide +kernel
theorem dX8_exchange_132 : decode cX8_exchange 132 = .ok (.iinc 4 1, 3) := by decide +kernel
theorem dX8_exchange_135 : decode cX8_exchange 135 = .ok (.goto (-74), 3) := by decide +kernel
theorem dX8_exchange_138 : decode cX8_exchange 138 = .ok (.aload_n 0, 1) := by decide +kernel
theorem dX8_exchange_139 : decode cX8_exchange 139 = .ok (.iload_n 1, 1) := by decide +kernel
theorem dX8_exchange_140 : decode cX8_exchange 140 = .ok (.invokevirtual 112, 3) := by decide +kernel
theorem dX8_exchange_143 : decode cX8_exchange 143 = .ok (.ifCond .eq 7, 3) := by decide +kernel
theorem dX8_exchange_146 : decode cX8_exchange 146 = .ok (.iconst 1, 1) := by decide +kernel
theorem dX8_exchange_147 : decode cX8_exchange 147 = .ok (.goto 4, 3) := by decide +kernel
theorem dX8_exchange_150 : decode cX8_exchange 150 = .ok (.iconst 0, 1) := by decide +kernel
theorem dX8_exchange_151 : decode cX8_exchange 151 = .ok (.aload_n 0, 1) := by decide +kernel
theorem dX8_exchange_152 : decode cX8_exchange 152 = .ok (.iload_n 2, 1) := by decide +kernel
theorem dX8_exchange_153 : decode cX8_exchange 153 = .ok (.invokevirtual 112, 3) := by decide +kernel
theorem dX8_exchange_156 : decode cX8_exchange 156 = .ok (.ifCond .eq 7, 3) := by decide +kernel
theorem dX8_exchange_159 : decode cX8_exchange 159 = .ok (.iconst 1, 1) := by decide +kernel
theorem dX8_exchange_160 : decode cX8_exchange 160 = .ok (.goto 4, 3) := by decide +kernel
theorem dX8_exchange_163 : decode cX8_exchange 163 = .ok (.iconst 0, 1) := by decide +kernel
theorem dX8_exchange_164 : decode cX8_exchange 164 = .ok (.iadd, 1) := by decide +kernel
theorem dX8_exchange_165 : decode cX8_exchange 165 = .ok (.ireturn, 1) := by decide +kernel
theorem dX8_set_0 : decode cX8_set 0 = .ok (.aload_n 0, 1) := by decide +kernel
theorem dX8_set_1 : decode cX8_set 1 = .ok (.iload_n 1, 1) := by decide +kernel
theorem dX8_set_2 : decode cX8_set 2 = .ok (.iconst 1, 1) := by decide +kernel
theorem dX8_set_3 : decode cX8_set 3 = .ok (.bipush 12, 2) := by decide +kernel
theorem dX8_set_5 : decode cX8_set 5 = .ok (.invokestatic 102, 3) := by decide +kernel
theorem dX8_set_8 : decode cX8_set 8 = .ok (.ifCond .eq 7, 3) := by decide +kernel
theorem dX8_set_11 : decode cX8_set 11 = .ok (.iconst 0, 1) := by decide +kernel
theorem dX8_set_12 : decode cX8_set 12 = .ok (.goto 4, 3) := by decide +kernel
theorem dX8_set_15 : decode cX8_set 15 = .ok (.iconst 1, 1) := by decide +kernel
theorem dX8_set_16 : decode cX8_set 16 = .ok (.invokevirtual 116, 3) := by decide +kernel
theorem dX8_set_19 : decode cX8_set 19 = .ok (.ifCond .eq 5, 3) := by decide +kernel
theorem dX8_set_22 : decode cX8_set 22 = .ok (.iconst 0, 1) := by decide +kernel
theorem dX8_set_23 : decode cX8_set 23 = .ok (.ireturn, 1) := by decide +kernel
theorem dX8_set_24 : decode cX8_set 24 = .ok (.aload_n 0, 1) := by decide +kernel
theorem dX8_set_25 : decode cX8_set 25 = .ok (.invokevirtual 143, 3) := by decide +kernel
theorem dX8_set_28 : decode cX8_set 28 = .ok (.aload_n 0, 1) := by decide +kernel
theorem dX8_set_29 : decode cX8_set 29 = .ok (.getfield 7, 3) := by decide +kernel
theorem dX8_set_32 : decode cX8_set 32 = .ok (.sipush 1586, 3) := by decide +kernel
theorem dX8_set_35 : decode cX8_set 35 = .ok (.iaload, 1) := by decide +kernel
theorem dX8_set_36 : decode cX8_set 36 = .ok (.istore_n 2, 1) := by decide +kernel
theorem dX8_set_37 : decode cX8_set 37 = .ok (.aload_n 0, 1) := by decide +kernel
theorem dX8_set_38 : decode cX8_set 38 = .ok (.getfield 7, 3) := by decide +kernel
theorem dX8_set_41 : decode cX8_set 41 = .ok (.sipush 1586, 3) := by decide +kernel
theorem dX8_set_44 : decode cX8_set 44 = .ok (.iload_n 1, 1) := by decide +kernel
theorem dX8_set_45 : decode cX8_set 45 = .ok (.iastore, 1) := by decide +kernel
theorem dX8_set_46 : decode cX8_set 46 = .ok (.iload_n 2, 1) := by decide +kernel
theorem dX8_set_47 : decode cX8_set 47 = .ok (.ireturn, 1) := by decide +kernel
theorem dX8_writes_0 : decode cX8_writes 0 = .ok (.aload_n 0, 1) := by decide +kernel
theorem dX8_writes_1 : decode cX8_writes 1 = .ok (.getfield 59, 3) := by decide +kernel
theorem dX8_writes_4 : decode cX8_writes 4 = .ok (.aload_n 0, 1) := by decide +kernel
theorem dX8_writes_5 : decode cX8_writes 5 = .ok (.getfield 156, 3) := by decide +kernel
theorem dX8_writes_8 : decode cX8_writes 8 = .ok (.dup2, 1) := by decide +kernel
theorem dX8_writes_9 : decode cX8_writes 9 = .ok (.iaload, 1) := by decide +kernel
theorem dX8_writes_10 : decode cX8_writes 10 = .ok (.iload_n 1, 1) := by decide +kernel
theorem dX8_writes_11 : decode cX8_writes 11 = .ok (.iadd, 1) := by decide +kernel
theorem dX8_writes_12 : decode cX8_writes 12 = .ok (.iastore, 1) := by decide +kernel
theorem dX8_writes_13 : decode cX8_writes 13 = .ok (.aload_n 0, 1) := by decide +kernel
theorem dX8_writes_14 : decode cX8_writes 14 = .ok (.aload_n 0, 1) := by decide +kernel
theorem dX8_writes_15 : decode cX8_writes 15 = .ok (.getfield 159, 3) := by decide +kernel
theorem dX8_writes_18 : decode cX8_writes 18 = .ok (.ifCond .ne 18, 3) := by decide +kernel
theorem dX8_writes_21 : decode cX8_writes 21 = .ok (.aload_n 0, 1) := by decide +kernel
theorem dX8_writes_22 : decode cX8_writes 22 = .ok (.getfield 59, 3) := by decide +kernel
theorem dX8_writes_25 : decode cX8_writes 25 = .ok (.aload_n 0, 1) := by decide +kernel
theorem dX8_writes_26 : decode cX8_writes 26 = .ok (.getfield 156, 3) := by decide +kernel
theorem dX8_writes_29 : decode cX8_writes 29 = .ok (.iaload, 1) := by decide +kernel
theorem dX8_writes_30 : decode cX8_writes 30 = .ok (.sipush 200, 3) := by decide +kernel
theorem dX8_writes_33 : decode cX8_writes 33 = .ok (.if_icmp .le 7, 3) := by decide +kernel
theorem dX8_writes_36 : decode cX8_writes 36 = .ok (.iconst 1, 1) := by decide +kernel
theorem dX8_writes_37 : decode cX8_writes 37 = .ok (.goto 4, 3) := by decide +kernel
theorem dX8_writes_40 : decode cX8_writes 40 = .ok (.iconst 0, 1) := by decide +kernel
theorem dX8_writes_41 : decode cX8_writes 41 = .ok (.putfield 159, 3) := by decide +kernel
theorem dX8_writes_44 : decode cX8_writes 44 = .ok (.return_, 1) := by decide +kernel
theorem dX8_notes_0 : decode cX8_notes 0 = .ok (.aload_n 0, 1) := by decide +kernel
theorem dX8_notes_1 : decode cX8_notes 1 = .ok (.getfield 163, 3) := by decide +kernel
theorem dX8_notes_4 : decode cX8_notes 4 = .ok (.bipush 60, 2) := by decide +kernel
theorem dX8_notes_6 : decode cX8_notes 6 = .ok (.if_icmp .ne 4, 3) := by decide +kernel
theorem dX8_notes_9 : decode cX8_notes 9 = .ok (.return_, 1) := by decide +kernel
theorem dX8_notes_10 : decode cX8_notes 10 = .ok (.aload_n 0, 1) := by decide +kernel
theorem dX8_notes_11 : decode cX8_notes 11 = .ok (.getfield 62, 3) := by decide +kernel
theorem dX8_notes_14 : decode cX8_notes 14 = .ok (.bipush 6, 2) := by decide +kernel
theorem dX8_notes_16 : decode cX8_notes 16 = .ok (.aload_n 0, 1) := by decide +kernel
theorem dX8_notes_17 : decode cX8_notes 17 = .ok (.getfield 163, 3) := by decide +kernel
theorem dX8_notes_20 : decode cX8_notes 20 = .ok (.imul, 1) := by decide +kernel
theorem dX8_notes_21 : decode cX8_notes 21 = .ok (.iload_n 1, 1) := by decide +kernel
theorem dX8_notes_22 : decode cX8_notes 22 = .ok (.iastore, 1) := by decide +kernel
theorem dX8_notes_23 : decode cX8_notes 23 = .ok (.aload_n 0, 1) := by decide +kernel
theorem dX8_notes_24 : decode cX8_notes 24 = .ok (.getfield 62, 3) := by decide +kernel
theorem dX8_notes_27 : decode cX8_notes 27 = .ok (.bipush 6, 2) := by decide +kernel
theorem dX8_notes_29 : decode cX8_notes 29 = .ok (.aload_n 0, 1) := by decide +kernel
theorem dX8_notes_30 : decode cX8_notes 30 = .ok (.getfield 163, 3) := by decide +kernel
theorem dX8_notes_33 : decode cX8_notes 33 = .ok (.imul, 1) := by decide +kernel
theorem dX8_notes_34 : decode cX8_notes 34 = .ok (.iconst 1, 1) := by decide +kernel
theorem dX8_notes_35 : decode cX8_notes 35 = .ok (.iadd, 1) := by decide +kernel
theorem dX8_notes_36 : decode cX8_notes 36 = .ok (.iload_n 2, 1) := by decide +kernel
theorem dX8_notes_37 : decode cX8_notes 37 = .ok (.iastore, 1) := by decide +kernel
theorem dX8_notes_38 : decode cX8_notes 38 = .ok (.aload_n 0, 1) := by decide +kernel
theorem dX8_notes_39 : decode cX8_notes 39 = .ok (.getfield 62, 3) := by decide +kernel
theorem dX8_notes_42 : decode cX8_notes 42 = .ok (.bipush 6, 2) := by decide +kernel
theorem dX8_notes_44 : decode cX8_notes 44 = .ok (.aload_n 0, 1) := by decide +kernel
theorem dX8_notes_45 : decode cX8_notes 45 = .ok (.getfield 163, 3) := by decide +kernel
theorem dX8_notes_48 : decode cX8_notes 48 = .ok (.imul, 1) := by decide +kernel
theorem dX8_notes_49 : decode cX8_notes 49 = .ok (.iconst 2, 1) := by decide +kernel
theorem dX8_notes_50 : decode cX8_notes 50 = .ok (.iadd, 1) := by decide +kernel
theorem dX8_notes_51 : decode cX8_notes 51 = .ok (.iload_n 3, 1) := by decide +kernel
theorem dX8_notes_52 : decode cX8_notes 52 = .ok (.iastore, 1) := by decide +kernel
theorem dX8_notes_53 : decode cX8_notes 53 = .ok (.aload_n 0, 1) := by decide +kernel
theorem dX8_notes_54 : decode cX8_notes 54 = .ok (.getfield 62, 3) := by decide +kernel
theorem dX8_notes_57 : decode cX8_notes 57 = .ok (.bipush 6, 2) := by decide +kernel
theorem dX8_notes_59 : decode cX8_notes 59 = .ok (.aload_n 0, 1) := by decide +kernel
theorem dX8_notes_60 : decode cX8_notes 60 = .ok (.getfield 163, 3) := by decide +kernel
theorem dX8_notes_63 : decode cX8_notes 63 = .ok (.imul, 1) := by decide +kernel
theorem dX8_notes_64 : decode cX8_notes 64 = .ok (.iconst 3, 1) := by decide +kernel
theorem dX8_notes_65 : decode cX8_notes 65 = .ok (.iadd, 1) := by decide +kernel
theorem dX8_notes_66 : decode cX8_notes 66 = .ok (.iload 4, 2) := by decide +kernel
theorem dX8_notes_68 : decode cX8_notes 68 = .ok (.iastore, 1) := by decide +kernel
theorem dX8_notes_69 : decode cX8_notes 69 = .ok (.aload_n 0, 1) := by decide +kernel
theorem dX8_notes_70 : decode cX8_notes 70 = .ok (.getfield 62, 3) := by decide +kernel
theorem dX8_notes_73 : decode cX8_notes 73 = .ok (.bipush 6, 2) := by decide +kernel
theorem dX8_notes_75 : decode cX8_notes 75 = .ok (.aload_n 0, 1) := by decide +kernel
theorem dX8_notes_76 : decode cX8_notes 76 = .ok (.getfield 163, 3) := by decide +kernel
theorem dX8_notes_79 : decode cX8_notes 79 = .ok (.imul, 1) := by decide +kernel
theorem dX8_notes_80 : decode cX8_notes 80 = .ok (.iconst 4, 1) := by decide +kernel
theorem dX8_notes_81 : decode cX8_notes 81 = .ok (.iadd, 1) := by decide +kernel
theorem dX8_notes_82 : decode cX8_notes 82 = .ok (.iload 5, 2) := by decide +kernel
theorem dX8_notes_84 : decode cX8_notes 84 = .ok (.iastore, 1) := by decide +kernel
theorem dX8_notes_85 : decode cX8_notes 85 = .ok (.aload_n 0, 1) := by decide +kernel
theorem dX8_notes_86 : decode cX8_notes 86 = .ok (.getfield 62, 3) := by decide +kernel
theorem dX8_notes_89 : decode cX8_notes 89 = .ok (.bipush 6, 2) := by decide +kernel
theorem dX8_notes_91 : decode cX8_notes 91 = .ok (.aload_n 0, 1) := by decide +kernel
theorem dX8_notes_92 : decode cX8_notes 92 = .ok (.getfield 163, 3) := by decide +kernel
theorem dX8_notes_95 : decode cX8_notes 95 = .ok (.imul, 1) := by decide +kernel
theorem dX8_notes_96 : decode cX8_notes 96 = .ok (.iconst 5, 1) := by decide +kernel
theorem dX8_notes_97 : decode cX8_notes 97 = .ok (.iadd, 1) := by decide +kernel
theorem dX8_notes_98 : decode cX8_notes 98 = .ok (.iload 6, 2) := by decide +kernel
theorem dX8_notes_100 : decode cX8_notes 100 = .ok (.iastore, 1) := by decide +kernel
theorem dX8_notes_101 : decode cX8_notes 101 = .ok (.aload_n 0, 1) := by decide +kernel
theorem dX8_notes_102 : decode cX8_notes 102 = .ok (.dup, 1) := by decide +kernel
theorem dX8_notes_103 : decode cX8_notes 103 = .ok (.getfield 163, 3) := by decide +kernel
theorem dX8_notes_106 : decode cX8_notes 106 = .ok (.iconst 1, 1) := by decide +kernel
theorem dX8_notes_107 : decode cX8_notes 107 = .ok (.iadd, 1) := by decide +kernel
theorem dX8_notes_108 : decode cX8_notes 108 = .ok (.putfield 163, 3) := by decide +kernel
theorem dX8_notes_111 : decode cX8_notes 111 = .ok (.return_, 1) := by decide +kernel
theorem dX8_isOpen_0 : decode cX8_isOpen 0 = .ok (.iconst 0, 1) := by decide +kernel
theorem dX8_isOpen_1 : decode cX8_isOpen 1 = .ok (.istore_n 2, 1) := by decide +kernel
theorem dX8_isOpen_2 : decode cX8_isOpen 2 = .ok (.iconst 1, 1) := by decide +kernel
theorem dX8_isOpen_3 : decode cX8_isOpen 3 = .ok (.istore_n 3, 1) := by decide +kernel
theorem dX8_isOpen_4 : decode cX8_isOpen 4 = .ok (.iload_n 3, 1) := by decide +kernel
theorem dX8_isOpen_5 : decode cX8_isOpen 5 = .ok (.aload_n 0, 1) := by decide +kernel
theorem dX8_isOpen_6 : decode cX8_isOpen 6 = .ok (.getfield 166, 3) := by decide +kernel
theorem dX8_isOpen_9 : decode cX8_isOpen 9 = .ok (.if_icmp .gt 29, 3) := by decide +kernel
theorem dX8_isOpen_12 : decode cX8_isOpen 12 = .ok (.iload_n 2, 1) := by decide +kernel
theorem dX8_isOpen_13 : decode cX8_isOpen 13 = .ok (.ifCond .ne 13, 3) := by decide +kernel
theorem dX8_isOpen_16 : decode cX8_isOpen 16 = .ok (.aload_n 0, 1) := by decide +kernel
theorem dX8_isOpen_17 : decode cX8_isOpen 17 = .ok (.getfield 29, 3) := by decide +kernel
theorem dX8_isOpen_20 : decode cX8_isOpen 20 = .ok (.iload_n 3, 1) := by decide +kernel
theorem dX8_isOpen_21 : decode cX8_isOpen 21 = .ok (.iaload, 1) := by decide +kernel
theorem dX8_isOpen_22 : decode cX8_isOpen 22 = .ok (.iload_n 1, 1) := by decide +kernel
theorem dX8_isOpen_23 : decode cX8_isOpen 23 = .ok (.if_icmp .ne 7, 3) := by decide +kernel
theorem dX8_isOpen_26 : decode cX8_isOpen 26 = .ok (.iconst 1, 1) := by decide +kernel
theorem dX8_isOpen_27 : decode cX8_isOpen 27 = .ok (.goto 4, 3) := by decide +kernel
theorem dX8_isOpen_30 : decode cX8_isOpen 30 = .ok (.iconst 0, 1) := by decide +kernel
theorem dX8_isOpen_31 : decode cX8_isOpen 31 = .ok (.istore_n 2, 1) := by decide +kernel
theorem dX8_isOpen_32 : decode cX8_isOpen 32 = .ok (.iinc 3 1, 3) := by decide +kernel
theorem dX8_isOpen_35 : decode cX8_isOpen 35 = .ok (.goto (-31), 3) := by decide +kernel
theorem dX8_isOpen_38 : decode cX8_isOpen 38 = .ok (.iload_n 2, 1) := by decide +kernel
theorem dX8_isOpen_39 : decode cX8_isOpen 39 = .ok (.ireturn, 1) := by decide +kernel
theorem dX8_opens_0 : decode cX8_opens 0 = .ok (.aload_n 0, 1) := by decide +kernel
theorem dX8_opens_1 : decode cX8_opens 1 = .ok (.dup, 1) := by decide +kernel
theorem dX8_opens_2 : decode cX8_opens 2 = .ok (.getfield 166, 3) := by decide +kernel
theorem dX8_opens_5 : decode cX8_opens 5 = .ok (.iconst 1, 1) := by decide +kernel
theorem dX8_opens_6 : decode cX8_opens 6 = .ok (.iadd, 1) := by decide +kernel
theorem dX8_opens_7 : decode cX8_opens 7 = .ok (.putfield 166, 3) := by decide +kernel
theorem dX8_opens_10 : decode cX8_opens 10 = .ok (.aload_n 0, 1) := by decide +kernel
theorem dX8_opens_11 : decode cX8_opens 11 = .ok (.getfield 29, 3) := by decide +kernel
theorem dX8_opens_14 : decode cX8_opens 14 = .ok (.aload_n 0, 1) := by decide +kernel
theorem dX8_opens_15 : decode cX8_opens 15 = .ok (.getfield 166, 3) := by decide +kernel
theorem dX8_opens_18 : decode cX8_opens 18 = .ok (.iload_n 1, 1) := by decide +kernel
theorem dX8_opens_19 : decode cX8_opens 19 = .ok (.iastore, 1) := by decide +kernel
theorem dX8_opens_20 : decode cX8_opens 20 = .ok (.aload_n 0, 1) := by decide +kernel
theorem dX8_opens_21 : decode cX8_opens 21 = .ok (.getfield 32, 3) := by decide +kernel
theorem dX8_opens_24 : decode cX8_opens 24 = .ok (.aload_n 0, 1) := by decide +kernel
theorem dX8_opens_25 : decode cX8_opens 25 = .ok (.getfield 166, 3) := by decide +kernel
theorem dX8_opens_28 : decode cX8_opens 28 = .ok (.iconst 0, 1) := by decide +kernel
theorem dX8_opens_29 : decode cX8_opens 29 = .ok (.iastore, 1) := by decide +kernel
theorem dX8_opens_30 : decode cX8_opens 30 = .ok (.aload_n 0, 1) := by decide +kernel
theorem dX8_opens_31 : decode cX8_opens 31 = .ok (.getfield 35, 3) := by decide +kernel
theorem dX8_opens_34 : decode cX8_opens 34 = .ok (.aload_n 0, 1) := by decide +kernel
theorem dX8_opens_35 : decode cX8_opens 35 = .ok (.getfield 166, 3) := by decide +kernel
theorem dX8_opens_38 : decode cX8_opens 38 = .ok (.iconst 0, 1) := by decide +kernel
theorem dX8_opens_39 : decode cX8_opens 39 = .ok (.iastore, 1) := by decide +kernel
theorem dX8_opens_40 : decode cX8_opens 40 = .ok (.aload_n 0, 1) := by decide +kernel
theorem dX8_opens_41 : decode cX8_opens 41 = .ok (.getfield 44, 3) := by decide +kernel
theorem dX8_opens_44 : decode cX8_opens 44 = .ok (.aload_n 0, 1) := by decide +kernel
theorem dX8_opens_45 : decode cX8_opens 45 = .ok (.getfield 166, 3) := by decide +kernel
theorem dX8_opens_48 : decode cX8_opens 48 = .ok (.aload_n 0, 1) := by decide +kernel
theorem dX8_opens_49 : decode cX8_opens 49 = .ok (.getfield 59, 3) := by decide +kernel
theorem dX8_opens_52 : decode cX8_opens 52 = .ok (.aload_n 0, 1) := by decide +kernel
theorem dX8_opens_53 : decode cX8_opens 53 = .ok (.getfield 156, 3) := by decide +kernel
theorem dX8_opens_56 : decode cX8_opens 56 = .ok (.iaload, 1) := by decide +kernel
theorem dX8_opens_57 : decode cX8_opens 57 = .ok (.iastore, 1) := by decide +kernel
theorem dX8_opens_58 : decode cX8_opens 58 = .ok (.aload_n 0, 1) := by decide +kernel
theorem dX8_opens_59 : decode cX8_opens 59 = .ok (.getfield 38, 3) := by decide +kernel
theorem dX8_opens_62 : decode cX8_opens 62 = .ok (.aload_n 0, 1) := by decide +kernel
theorem dX8_opens_63 : decode cX8_opens 63 = .ok (.getfield 166, 3) := by decide +kernel
theorem dX8_opens_66 : decode cX8_opens 66 = .ok (.iconst 0, 1) := by decide +kernel
theorem dX8_opens_67 : decode cX8_opens 67 = .ok (.iastore, 1) := by decide +kernel
theorem dX8_opens_68 : decode cX8_opens 68 = .ok (.aload_n 0, 1) := by decide +kernel
theorem dX8_opens_69 : decode cX8_opens 69 = .ok (.getfield 41, 3) := by decide +kernel
theorem dX8_opens_72 : decode cX8_opens 72 = .ok (.aload_n 0, 1) := by decide +kernel
theorem dX8_opens_73 : decode cX8_opens 73 = .ok (.getfield 166, 3) := by decide +kernel
theorem dX8_opens_76 : decode cX8_opens 76 = .ok (.iconst 0, 1) := by decide +kernel
theorem dX8_opens_77 : decode cX8_opens 77 = .ok (.iastore, 1) := by decide +kernel
theorem dX8_opens_78 : decode cX8_opens 78 = .ok (.aload_n 0, 1) := by decide +kernel
theorem dX8_opens_79 : decode cX8_opens 79 = .ok (.dup, 1) := by decide +kernel
theorem dX8_opens_80 : decode cX8_opens 80 = .ok (.getfield 169, 3) := by decide +kernel
theorem dX8_opens_83 : decode cX8_opens 83 = .ok (.iconst 1, 1) := by decide +kernel
theorem dX8_opens_84 : decode cX8_opens 84 = .ok (.iadd, 1) := by decide +kernel
theorem dX8_opens_85 : decode cX8_opens 85 = .ok (.putfield 169, 3) := by decide +kernel
theorem dX8_opens_88 : decode cX8_opens 88 = .ok (.aload_n 0, 1) := by decide +kernel
theorem dX8_opens_89 : decode cX8_opens 89 = .ok (.aload_n 0, 1) := by decide +kernel
theorem dX8_opens_90 : decode cX8_opens 90 = .ok (.getfield 166, 3) := by decide +kernel
theorem dX8_opens_93 : decode cX8_opens 93 = .ok (.aload_n 0, 1) := by decide +kernel
theorem dX8_opens_94 : decode cX8_opens 94 = .ok (.getfield 172, 3) := by decide +kernel
theorem dX8_opens_97 : decode cX8_opens 97 = .ok (.if_icmp .le 10, 3) := by decide +kernel
theorem dX8_opens_100 : decode cX8_opens 100 = .ok (.aload_n 0, 1) := by decide +kernel
theorem dX8_opens_101 : decode cX8_opens 101 = .ok (.getfield 166, 3) := by decide +kernel
theorem dX8_opens_104 : decode cX8_opens 104 = .ok (.goto 7, 3) := by decide +kernel
theorem dX8_opens_107 : decode cX8_opens 107 = .ok (.aload_n 0, 1) := by decide +kernel
theorem dX8_opens_108 : decode cX8_opens 108 = .ok (.getfield 172, 3) := by decide +kernel
theorem dX8_opens_111 : decode cX8_opens 111 = .ok (.putfield 172, 3) := by decide +kernel
theorem dX8_opens_114 : decode cX8_opens 114 = .ok (.aload_n 0, 1) := by decide +kernel
theorem dX8_opens_115 : decode cX8_opens 115 = .ok (.aload_n 0, 1) := by decide +kernel
theorem dX8_opens_116 : decode cX8_opens 116 = .ok (.getfield 159, 3) := by decide +kernel
theorem dX8_opens_119 : decode cX8_opens 119 = .ok (.ifCond .ne 12, 3) := by decide +kernel
theorem dX8_opens_122 : decode cX8_opens 122 = .ok (.aload_n 0, 1) := by decide +kernel
theorem dX8_opens_123 : decode cX8_opens 123 = .ok (.getfield 169, 3) := by decide +kernel
theorem dX8_opens_126 : decode cX8_opens 126 = .ok (.bipush 60, 2) := by decide +kernel
theorem dX8_opens_128 : decode cX8_opens 128 = .ok (.if_icmp .le 7, 3) := by decide +kernel
theorem dX8_opens_131 : decode cX8_opens 131 = .ok (.iconst 1, 1) := by decide +kernel
theorem dX8_opens_132 : decode cX8_opens 132 = .ok (.goto 4, 3) := by decide +kernel
theorem dX8_opens_135 : decode cX8_opens 135 = .ok (.iconst 0, 1) := by decide +kernel
theorem dX8_opens_136 : decode cX8_opens 136 = .ok (.putfield 159, 3) := by decide +kernel
theorem dX8_opens_139 : decode cX8_opens 139 = .ok (.return_, 1) := by decide +kernel
theorem dX8_goesOn_0 : decode cX8_goesOn 0 = .ok (.iconst 0, 1) := by decide +kernel
theorem dX8_goesOn_1 : decode cX8_goesOn 1 = .ok (.istore_n 3, 1) := by decide +kernel
theorem dX8_goesOn_2 : decode cX8_goesOn 2 = .ok (.iconst 0, 1) := by decide +kernel
theorem dX8_goesOn_3 : decode cX8_goesOn 3 = .ok (.istore 4, 2) := by decide +kernel
theorem dX8_goesOn_5 : decode cX8_goesOn 5 = .ok (.iload 4, 2) := by decide +kernel
theorem dX8_goesOn_7 : decode cX8_goesOn 7 = .ok (.iload_n 2, 1) := by decide +kernel
theorem dX8_goesOn_8 : decode cX8_goesOn 8 = .ok (.if_icmp .ge 27, 3) := by decide +kernel
theorem dX8_goesOn_11 : decode cX8_goesOn 11 = .ok (.iload_n 3, 1) := by decide +kernel
theorem dX8_goesOn_12 : decode cX8_goesOn 12 = .ok (.aload_n 0, 1) := by decide +kernel
theorem dX8_goesOn_13 : decode cX8_goesOn 13 = .ok (.getfield 56, 3) := by decide +kernel
theorem dX8_goesOn_16 : decode cX8_goesOn 16 = .ok (.bipush 6, 2) := by decide +kernel
theorem dX8_goesOn_18 : decode cX8_goesOn 18 = .ok (.aload_n 0, 1) := by decide +kernel
theorem dX8_goesOn_19 : decode cX8_goesOn 19 = .ok (.getfield 156, 3) := by decide +kernel
theorem dX8_goesOn_22 : decode cX8_goesOn 22 = .ok (.imul, 1) := by decide +kernel
theorem dX8_goesOn_23 : decode cX8_goesOn 23 = .ok (.iload 4, 2) := by decide +kernel
theorem dX8_goesOn_25 : decode cX8_goesOn 25 = .ok (.iadd, 1) := by decide +kernel
theorem dX8_goesOn_26 : decode cX8_goesOn 26 = .ok (.iaload, 1) := by decide +kernel
theorem dX8_goesOn_27 : decode cX8_goesOn 27 = .ok (.iadd, 1) := by decide +kernel
theorem dX8_goesOn_28 : decode cX8_goesOn 28 = .ok (.istore_n 3, 1) := by decide +kernel
theorem dX8_goesOn_29 : decode cX8_goesOn 29 = .ok (.iinc 4 1, 3) := by decide +kernel
theorem dX8_goesOn_32 : decode cX8_goesOn 32 = .ok (.goto (-27), 3) := by decide +kernel
theorem dX8_goesOn_35 : decode cX8_goesOn 35 = .ok (.aload_n 0, 1) := by decide +kernel
theorem dX8_goesOn_36 : decode cX8_goesOn 36 = .ok (.iload_n 1, 1) := by decide +kernel
theorem dX8_goesOn_37 : decode cX8_goesOn 37 = .ok (.invokevirtual 112, 3) := by decide +kernel
theorem dX8_goesOn_40 : decode cX8_goesOn 40 = .ok (.ifCond .ne 7, 3) := by decide +kernel
theorem dX8_goesOn_43 : decode cX8_goesOn 43 = .ok (.iconst 1, 1) := by decide +kernel
theorem dX8_goesOn_44 : decode cX8_goesOn 44 = .ok (.goto 35, 3) := by decide +kernel
theorem dX8_goesOn_47 : decode cX8_goesOn 47 = .ok (.aload_n 0, 1) := by decide +kernel
theorem dX8_goesOn_48 : decode cX8_goesOn 48 = .ok (.iload_n 1, 1) := by decide +kernel
theorem dX8_goesOn_49 : decode cX8_goesOn 49 = .ok (.invokevirtual 175, 3) := by decide +kernel
theorem dX8_goesOn_52 : decode cX8_goesOn 52 = .ok (.ifCond .eq 7, 3) := by decide +kernel
theorem dX8_goesOn_55 : decode cX8_goesOn 55 = .ok (.iconst 2, 1) := by decide +kernel
theorem dX8_goesOn_56 : decode cX8_goesOn 56 = .ok (.goto 23, 3) := by decide +kernel
theorem dX8_goesOn_59 : decode cX8_goesOn 59 = .ok (.aload_n 0, 1) := by decide +kernel
theorem dX8_goesOn_60 : decode cX8_goesOn 60 = .ok (.getfield 166, 3) := by decide +kernel
theorem dX8_goesOn_63 : decode cX8_goesOn 63 = .ok (.aload_n 0, 1) := by decide +kernel
theorem dX8_goesOn_64 : decode cX8_goesOn 64 = .ok (.getfield 7, 3) := by decide +kernel
theorem dX8_goesOn_67 : decode cX8_goesOn 67 = .ok (.sipush 1586, 3) := by decide +kernel
theorem dX8_goesOn_70 : decode cX8_goesOn 70 = .ok (.iaload, 1) := by decide +kernel
theorem dX8_goesOn_71 : decode cX8_goesOn 71 = .ok (.if_icmp .ne 7, 3) := by decide +kernel
theorem dX8_goesOn_74 : decode cX8_goesOn 74 = .ok (.iconst 3, 1) := by decide +kernel
theorem dX8_goesOn_75 : decode cX8_goesOn 75 = .ok (.goto 4, 3) := by decide +kernel
theorem dX8_goesOn_78 : decode cX8_goesOn 78 = .ok (.iconst 0, 1) := by decide +kernel
theorem dX8_goesOn_79 : decode cX8_goesOn 79 = .ok (.istore 4, 2) := by decide +kernel
theorem dX8_goesOn_81 : decode cX8_goesOn 81 = .ok (.iload 4, 2) := by decide +kernel
theorem dX8_goesOn_83 : decode cX8_goesOn 83 = .ok (.ifCond .le 23, 3) := by decide +kernel
theorem dX8_goesOn_86 : decode cX8_goesOn 86 = .ok (.aload_n 0, 1) := by decide +kernel
theorem dX8_goesOn_87 : decode cX8_goesOn 87 = .ok (.iconst 1, 1) := by decide +kernel
theorem dX8_goesOn_88 : decode cX8_goesOn 88 = .ok (.invokevirtual 178, 3) := by decide +kernel
theorem dX8_goesOn_91 : decode cX8_goesOn 91 = .ok (.aload_n 0, 1) := by decide +kernel
theorem dX8_goesOn_92 : decode cX8_goesOn 92 = .ok (.iload_n 1, 1) := by decide +kernel
theorem dX8_goesOn_93 : decode cX8_goesOn 93 = .ok (.iload 4, 2) := by decide +kernel
theorem dX8_goesOn_95 : decode cX8_goesOn 95 = .ok (.aload_n 0, 1) := by decide +kernel
theorem dX8_goesOn_96 : decode cX8_goesOn 96 = .ok (.getfield 166, 3) := by decide +kernel
theorem dX8_goesOn_99 : decode cX8_goesOn 99 = .ok (.iload_n 2, 1) := by decide +kernel
theorem dX8_goesOn_100 : decode cX8_goesOn 100 = .ok (.iconst 1, 1) := by decide +kernel
theorem dX8_goesOn_101 : decode cX8_goesOn 101 = .ok (.iload_n 3, 1) := by decide +kernel
theorem dX8_goesOn_102 : decode cX8_goesOn 102 = .ok (.invokevirtual 181, 3) := by decide +kernel
theorem dX8_goesOn_105 : decode cX8_goesOn 105 = .ok (.return_, 1) := by decide +kernel
theorem dX8_goesOn_106 : decode cX8_goesOn 106 = .ok (.aload_n 0, 1) := by decide +kernel
theorem dX8_goesOn_107 : decode cX8_goesOn 107 = .ok (.iload_n 1, 1) := by decide +kernel
theorem dX8_goesOn_108 : decode cX8_goesOn 108 = .ok (.invokevirtual 185, 3) := by decide +kernel
theorem dX8_goesOn_111 : decode cX8_goesOn 111 = .ok (.aload_n 0, 1) := by decide +kernel
theorem dX8_goesOn_112 : decode cX8_goesOn 112 = .ok (.getfield 38, 3) := by decide +kernel
theorem dX8_goesOn_115 : decode cX8_goesOn 115 = .ok (.aload_n 0, 1) := by decide +kernel
theorem dX8_goesOn_116 : decode cX8_goesOn 116 = .ok (.getfield 166, 3) := by decide +kernel
theorem dX8_goesOn_119 : decode cX8_goesOn 119 = .ok (.iload_n 2, 1) := by decide +kernel
theorem dX8_goesOn_120 : decode cX8_goesOn 120 = .ok (.iastore, 1) := by decide +kernel
theorem dX8_goesOn_121 : decode cX8_goesOn 121 = .ok (.aload_n 0, 1) := by decide +kernel
theorem dX8_goesOn_122 : decode cX8_goesOn 122 = .ok (.getfield 41, 3) := by decide +kernel
theorem dX8_goesOn_125 : decode cX8_goesOn 125 = .ok (.aload_n 0, 1) := by decide +kernel
theorem dX8_goesOn_126 : decode cX8_goesOn 126 = .ok (.getfield 166, 3) := by decide +kernel
theorem dX8_goesOn_129 : decode cX8_goesOn 129 = .ok (.iload_n 3, 1) := by decide +kernel
theorem dX8_goesOn_130 : decode cX8_goesOn 130 = .ok (.iastore, 1) := by decide +kernel
theorem dX8_goesOn_131 : decode cX8_goesOn 131 = .ok (.iconst 0, 1) := by decide +kernel
theorem dX8_goesOn_132 : decode cX8_goesOn 132 = .ok (.istore 5, 2) := by decide +kernel
theorem dX8_goesOn_134 : decode cX8_goesOn 134 = .ok (.iload 5, 2) := by decide +kernel
theorem dX8_goesOn_136 : decode cX8_goesOn 136 = .ok (.iload_n 2, 1) := by decide +kernel
theorem dX8_goesOn_137 : decode cX8_goesOn 137 = .ok (.if_icmp .ge 39, 3) := by decide +kernel
theorem dX8_goesOn_140 : decode cX8_goesOn 140 = .ok (.aload_n 0, 1) := by decide +kernel
theorem dX8_goesOn_141 : decode cX8_goesOn 141 = .ok (.getfield 47, 3) := by decide +kernel
theorem dX8_goesOn_144 : decode cX8_goesOn 144 = .ok (.bipush 6, 2) := by decide +kernel
theorem dX8_goesOn_146 : decode cX8_goesOn 146 = .ok (.aload_n 0, 1) := by decide +kernel
theorem dX8_goesOn_147 : decode cX8_goesOn 147 = .ok (.getfield 166, 3) := by decide +kernel
theorem dX8_goesOn_150 : decode cX8_goesOn 150 = .ok (.imul, 1) := by decide +kernel
theorem dX8_goesOn_151 : decode cX8_goesOn 151 = .ok (.iload 5, 2) := by decide +kernel
theorem dX8_goesOn_153 : decode cX8_goesOn 153 = .ok (.iadd, 1) := by decide +kernel
theorem dX8_goesOn_154 : decode cX8_goesOn 154 = .ok (.aload_n 0, 1) := by decide +kernel
theorem dX8_goesOn_155 : decode cX8_goesOn 155 = .ok (.getfield 56, 3) := by decide +kernel
theorem dX8_goesOn_158 : decode cX8_goesOn 158 = .ok (.bipush 6, 2) := by decide +kernel
theorem dX8_goesOn_160 : decode cX8_goesOn 160 = .ok (.aload_n 0, 1) := by decide +kernel
theorem dX8_goesOn_161 : decode cX8_goesOn 161 = .ok (.getfield 156, 3) := by decide +kernel
theorem dX8_goesOn_164 : decode cX8_goesOn 164 = .ok (.imul, 1) := by decide +kernel
theorem dX8_goesOn_165 : decode cX8_goesOn 165 = .ok (.iload 5, 2) := by decide +kernel
theorem dX8_goesOn_167 : decode cX8_goesOn 167 = .ok (.iadd, 1) := by decide +kernel
theorem dX8_goesOn_168 : decode cX8_goesOn 168 = .ok (.iaload, 1) := by decide +kernel
theorem dX8_goesOn_169 : decode cX8_goesOn 169 = .ok (.iastore, 1) := by decide +kernel
theorem dX8_goesOn_170 : decode cX8_goesOn 170 = .ok (.iinc 5 1, 3) := by decide +kernel
theorem dX8_goesOn_173 : decode cX8_goesOn 173 = .ok (.goto (-39), 3) := by decide +kernel
theorem dX8_goesOn_176 : decode cX8_goesOn 176 = .ok (.return_, 1) := by decide +kernel
theorem dX8_filling_0 : decode cX8_filling 0 = .ok (.aload_n 0, 1) := by decide +kernel
theorem dX8_filling_1 : decode cX8_filling 1 = .ok (.getfield 35, 3) := by decide +kernel
theorem dX8_filling_4 : decode cX8_filling 4 = .ok (.aload_n 0, 1) := by decide +kernel
theorem dX8_filling_5 : decode cX8_filling 5 = .ok (.getfield 166, 3) := by decide +kernel
theorem dX8_filling_8 : decode cX8_filling 8 = .ok (.iaload, 1) := by decide +kernel
theorem dX8_filling_9 : decode cX8_filling 9 = .ok (.istore_n 1, 1) := by decide +kernel
theorem dX8_filling_10 : decode cX8_filling 10 = .ok (.aload_n 0, 1) := by decide +kernel
theorem dX8_filling_11 : decode cX8_filling 11 = .ok (.getfield 35, 3) := by decide +kernel
theorem dX8_filling_14 : decode cX8_filling 14 = .ok (.aload_n 0, 1) := by decide +kernel
theorem dX8_filling_15 : decode cX8_filling 15 = .ok (.getfield 166, 3) := by decide +kernel
theorem dX8_filling_18 : decode cX8_filling 18 = .ok (.dup2, 1) := by decide +kernel
theorem dX8_filling_19 : decode cX8_filling 19 = .ok (.iaload, 1) := by decide +kernel
theorem dX8_filling_20 : decode cX8_filling 20 = .ok (.iconst 1, 1) := by decide +kernel
theorem dX8_filling_21 : decode cX8_filling 21 = .ok (.iadd, 1) := by decide +kernel
theorem dX8_filling_22 : decode cX8_filling 22 = .ok (.iastore, 1) := by decide +kernel
theorem dX8_filling_23 : decode cX8_filling 23 = .ok (.aload_n 0, 1) := by decide +kernel
theorem dX8_filling_24 : decode cX8_filling 24 = .ok (.getfield 166, 3) := by decide +kernel
theorem dX8_filling_27 : decode cX8_filling 27 = .ok (.iconst 1, 1) := by decide +kernel
theorem dX8_filling_28 : decode cX8_filling 28 = .ok (.if_icmp .ne 16, 3) := by decide +kernel
theorem dX8_filling_31 : decode cX8_filling 31 = .ok (.aload_n 0, 1) := by decide +kernel
theorem dX8_filling_32 : decode cX8_filling 32 = .ok (.getfield 188, 3) := by decide +kernel
theorem dX8_filling_35 : decode cX8_filling 35 = .ok (.iconst (-1), 1) := by decide +kernel
theorem dX8_filling_36 : decode cX8_filling 36 = .ok (.if_icmp .eq 8, 3) := by decide +kernel
theorem dX8_filling_39 : decode cX8_filling 39 = .ok (.aload_n 0, 1) := by decide +kernel
theorem dX8_filling_40 : decode cX8_filling 40 = .ok (.getfield 188, 3) := by decide +kernel
theorem dX8_filling_43 : decode cX8_filling 43 = .ok (.ireturn, 1) := by decide +kernel
theorem dX8_filling_44 : decode cX8_filling 44 = .ok (.aload_n 0, 1) := by decide +kernel
theorem dX8_filling_45 : decode cX8_filling 45 = .ok (.getfield 166, 3) := by decide +kernel
theorem dX8_filling_48 : decode cX8_filling 48 = .ok (.ifCond .ne 7, 3) := by decide +kernel
theorem dX8_filling_51 : decode cX8_filling 51 = .ok (.iconst 1, 1) := by decide +kernel
theorem dX8_filling_52 : decode cX8_filling 52 = .ok (.goto 34, 3) := by decide +kernel
theorem dX8_filling_55 : decode cX8_filling 55 = .ok (.iload_n 1, 1) := by decide +kernel
theorem dX8_filling_56 : decode cX8_filling 56 = .ok (.aload_n 0, 1) := by decide +kernel
theorem dX8_filling_57 : decode cX8_filling 57 = .ok (.getfield 38, 3) := by decide +kernel
theorem dX8_filling_60 : decode cX8_filling 60 = .ok (.aload_n 0, 1) := by decide +kernel
theorem dX8_filling_61 : decode cX8_filling 61 = .ok (.getfield 166, 3) := by decide +kernel
theorem dX8_filling_64 : decode cX8_filling 64 = .ok (.iaload, 1) := by decide +kernel
theorem dX8_filling_65 : decode cX8_filling 65 = .ok (.if_icmp .ge 20, 3) := by decide +kernel
theorem dX8_filling_68 : decode cX8_filling 68 = .ok (.aload_n 0, 1) := by decide +kernel
theorem dX8_filling_69 : decode cX8_filling 69 = .ok (.getfield 47, 3) := by decide +kernel
theorem dX8_filling_72 : decode cX8_filling 72 = .ok (.bipush 6, 2) := by decide +kernel
theorem dX8_filling_74 : decode cX8_filling 74 = .ok (.aload_n 0, 1) := by decide +kernel
theorem dX8_filling_75 : decode cX8_filling 75 = .ok (.getfield 166, 3) := by decide +kernel
theorem dX8_filling_78 : decode cX8_filling 78 = .ok (.imul, 1) := by decide +kernel
theorem dX8_filling_79 : decode cX8_filling 79 = .ok (.iload_n 1, 1) := by decide +kernel
theorem dX8_filling_80 : decode cX8_filling 80 = .ok (.iadd, 1) := by decide +kernel
theorem dX8_filling_81 : decode cX8_filling 81 = .ok (.iaload, 1) := by decide +kernel
theorem dX8_filling_82 : decode cX8_filling 82 = .ok (.goto 4, 3) := by decide +kernel
theorem dX8_filling_85 : decode cX8_filling 85 = .ok (.iconst 0, 1) := by decide +kernel
theorem dX8_filling_86 : decode cX8_filling 86 = .ok (.ireturn, 1) := by decide +kernel
theorem dX8_reads_0 : decode cX8_reads 0 = .ok (.aload_n 0, 1) := by decide +kernel
theorem dX8_reads_1 : decode cX8_reads 1 = .ok (.aload_n 0, 1) := by decide +kernel
theorem dX8_reads_2 : decode cX8_reads 2 = .ok (.getfield 29, 3) := by decide +kernel
theorem dX8_reads_5 : decode cX8_reads 5 = .ok (.aload_n 0, 1) := by decide +kernel
theorem dX8_reads_6 : decode cX8_reads 6 = .ok (.getfield 166, 3) := by decide +kernel
theorem dX8_reads_9 : decode cX8_reads 9 = .ok (.iaload, 1) := by decide +kernel
theorem dX8_reads_10 : decode cX8_reads 10 = .ok (.aload_n 0, 1) := by decide +kernel
theorem dX8_reads_11 : decode cX8_reads 11 = .ok (.getfield 32, 3) := by decide +kernel
theorem dX8_reads_14 : decode cX8_reads 14 = .ok (.aload_n 0, 1) := by decide +kernel
theorem dX8_reads_15 : decode cX8_reads 15 = .ok (.getfield 166, 3) := by decide +kernel
theorem dX8_reads_18 : decode cX8_reads 18 = .ok (.iaload, 1) := by decide +kernel
theorem dX8_reads_19 : decode cX8_reads 19 = .ok (.invokevirtual 135, 3) := by decide +kernel
theorem dX8_reads_22 : decode cX8_reads 22 = .ok (.istore_n 1, 1) := by decide +kernel
theorem dX8_reads_23 : decode cX8_reads 23 = .ok (.aload_n 0, 1) := by decide +kernel
theorem dX8_reads_24 : decode cX8_reads 24 = .ok (.getfield 32, 3) := by decide +kernel
theorem dX8_reads_27 : decode cX8_reads 27 = .ok (.aload_n 0, 1) := by decide +kernel
theorem dX8_reads_28 : decode cX8_reads 28 = .ok (.getfield 166, 3) := by decide +kernel
theorem dX8_reads_31 : decode cX8_reads 31 = .ok (.dup2, 1) := by decide +kernel
theorem dX8_reads_32 : decode cX8_reads 32 = .ok (.iaload, 1) := by decide +kernel
theorem dX8_reads_33 : decode cX8_reads 33 = .ok (.iconst 1, 1) := by decide +kernel
theorem dX8_reads_34 : decode cX8_reads 34 = .ok (.iadd, 1) := by decide +kernel
theorem dX8_reads_35 : decode cX8_reads 35 = .ok (.iastore, 1) := by decide +kernel
theorem dX8_reads_36 : decode cX8_reads 36 = .ok (.iload_n 1, 1) := by decide +kernel
theorem dX8_reads_37 : decode cX8_reads 37 = .ok (.invokestatic 125, 3) := by decide +kernel
theorem dX8_reads_40 : decode cX8_reads 40 = .ok (.ifCond .eq 136, 3) := by decide +kernel
theorem dX8_reads_43 : decode cX8_reads 43 = .ok (.aload_n 0, 1) := by decide +kernel
theorem dX8_reads_44 : decode cX8_reads 44 = .ok (.getfield 32, 3) := by decide +kernel
theorem dX8_reads_47 : decode cX8_reads 47 = .ok (.aload_n 0, 1) := by decide +kernel
theorem dX8_reads_48 : decode cX8_reads 48 = .ok (.getfield 166, 3) := by decide +kernel
theorem dX8_reads_51 : decode cX8_reads 51 = .ok (.iaload, 1) := by decide +kernel
theorem dX8_reads_52 : decode cX8_reads 52 = .ok (.aload_n 0, 1) := by decide +kernel
theorem dX8_reads_53 : decode cX8_reads 53 = .ok (.aload_n 0, 1) := by decide +kernel
theorem dX8_reads_54 : decode cX8_reads 54 = .ok (.getfield 29, 3) := by decide +kernel
theorem dX8_reads_57 : decode cX8_reads 57 = .ok (.aload_n 0, 1) := by decide +kernel
theorem dX8_reads_58 : decode cX8_reads 58 = .ok (.getfield 166, 3) := by decide +kernel
theorem dX8_reads_61 : decode cX8_reads 61 = .ok (.iaload, 1) := by decide +kernel
theorem dX8_reads_62 : decode cX8_reads 62 = .ok (.invokevirtual 191, 3) := by decide +kernel
theorem dX8_reads_65 : decode cX8_reads 65 = .ok (.if_icmp .ge 34, 3) := by decide +kernel
theorem dX8_reads_68 : decode cX8_reads 68 = .ok (.aload_n 0, 1) := by decide +kernel
theorem dX8_reads_69 : decode cX8_reads 69 = .ok (.aload_n 0, 1) := by decide +kernel
theorem dX8_reads_70 : decode cX8_reads 70 = .ok (.getfield 29, 3) := by decide +kernel
theorem dX8_reads_73 : decode cX8_reads 73 = .ok (.aload_n 0, 1) := by decide +kernel
theorem dX8_reads_74 : decode cX8_reads 74 = .ok (.getfield 166, 3) := by decide +kernel
theorem dX8_reads_77 : decode cX8_reads 77 = .ok (.iaload, 1) := by decide +kernel
theorem dX8_reads_78 : decode cX8_reads 78 = .ok (.aload_n 0, 1) := by decide +kernel
theorem dX8_reads_79 : decode cX8_reads 79 = .ok (.getfield 32, 3) := by decide +kernel
theorem dX8_reads_82 : decode cX8_reads 82 = .ok (.aload_n 0, 1) := by decide +kernel
theorem dX8_reads_83 : decode cX8_reads 83 = .ok (.getfield 166, 3) := by decide +kernel
theorem dX8_reads_86 : decode cX8_reads 86 = .ok (.iaload, 1) := by decide +kernel
theorem dX8_reads_87 : decode cX8_reads 87 = .ok (.invokevirtual 135, 3) := by decide +kernel
theorem dX8_reads_90 : decode cX8_reads 90 = .ok (.bipush 40, 2) := by decide +kernel
theorem dX8_reads_92 : decode cX8_reads 92 = .ok (.if_icmp .ne 7, 3) := by decide +kernel
theorem dX8_reads_95 : decode cX8_reads 95 = .ok (.iconst 1, 1) := by decide +kernel
theorem dX8_reads_96 : decode cX8_reads 96 = .ok (.goto 4, 3) := by decide +kernel
theorem dX8_reads_99 : decode cX8_reads 99 = .ok (.iconst 0, 1) := by decide +kernel
theorem dX8_reads_100 : decode cX8_reads 100 = .ok (.istore_n 2, 1) := by decide +kernel
theorem dX8_reads_101 : decode cX8_reads 101 = .ok (.iload_n 2, 1) := by decide +kernel
theorem dX8_reads_102 : decode cX8_reads 102 = .ok (.ifCond .eq 62, 3) := by decide +kernel
theorem dX8_reads_105 : decode cX8_reads 105 = .ok (.aload_n 0, 1) := by decide +kernel
theorem dX8_reads_106 : decode cX8_reads 106 = .ok (.getfield 32, 3) := by decide +kernel
theorem dX8_reads_109 : decode cX8_reads 109 = .ok (.aload_n 0, 1) := by decide +kernel
theorem dX8_reads_110 : decode cX8_reads 110 = .ok (.getfield 166, 3) := by decide +kernel
theorem dX8_reads_113 : decode cX8_reads 113 = .ok (.dup2, 1) := by decide +kernel
theorem dX8_reads_114 : decode cX8_reads 114 = .ok (.iaload, 1) := by decide +kernel
theorem dX8_reads_115 : decode cX8_reads 115 = .ok (.iconst 1, 1) := by decide +kernel
theorem dX8_reads_116 : decode cX8_reads 116 = .ok (.iadd, 1) := by decide +kernel
theorem dX8_reads_117 : decode cX8_reads 117 = .ok (.iastore, 1) := by decide +kernel
theorem dX8_reads_118 : decode cX8_reads 118 = .ok (.aload_n 0, 1) := by decide +kernel
theorem dX8_reads_119 : decode cX8_reads 119 = .ok (.getfield 50, 3) := by decide +kernel
theorem dX8_reads_122 : decode cX8_reads 122 = .ok (.aload_n 0, 1) := by decide +kernel
theorem dX8_reads_123 : decode cX8_reads 123 = .ok (.getfield 156, 3) := by decide +kernel
theorem dX8_reads_126 : decode cX8_reads 126 = .ok (.iload_n 1, 1) := by decide +kernel
theorem dX8_reads_127 : decode cX8_reads 127 = .ok (.bipush 65, 2) := by decide +kernel
theorem dX8_reads_129 : decode cX8_reads 129 = .ok (.isub, 1) := by decide +kernel
theorem dX8_reads_130 : decode cX8_reads 130 = .ok (.iastore, 1) := by decide +kernel
theorem dX8_reads_131 : decode cX8_reads 131 = .ok (.aload_n 0, 1) := by decide +kernel
theorem dX8_reads_132 : decode cX8_reads 132 = .ok (.getfield 53, 3) := by decide +kernel
theorem dX8_reads_135 : decode cX8_reads 135 = .ok (.aload_n 0, 1) := by decide +kernel
theorem dX8_reads_136 : decode cX8_reads 136 = .ok (.getfield 156, 3) := by decide +kernel
theorem dX8_reads_139 : decode cX8_reads 139 = .ok (.iconst 0, 1) := by decide +kernel
theorem dX8_reads_140 : decode cX8_reads 140 = .ok (.iastore, 1) := by decide +kernel
theorem dX8_reads_141 : decode cX8_reads 141 = .ok (.aload_n 0, 1) := by decide +kernel
theorem dX8_reads_142 : decode cX8_reads 142 = .ok (.dup, 1) := by decide +kernel
theorem dX8_reads_143 : decode cX8_reads 143 = .ok (.getfield 156, 3) := by decide +kernel
theorem dX8_reads_146 : decode cX8_reads 146 = .ok (.iconst 1, 1) := by decide +kernel
theorem dX8_reads_147 : decode cX8_reads 147 = .ok (.iadd, 1) := by decide +kernel
theorem dX8_reads_148 : decode cX8_reads 148 = .ok (.putfield 156, 3) := by decide +kernel
theorem dX8_reads_151 : decode cX8_reads 151 = .ok (.aload_n 0, 1) := by decide +kernel
theorem dX8_reads_152 : decode cX8_reads 152 = .ok (.getfield 59, 3) := by decide +kernel
theorem dX8_reads_155 : decode cX8_reads 155 = .ok (.aload_n 0, 1) := by decide +kernel
theorem dX8_reads_156 : decode cX8_reads 156 = .ok (.getfield 156, 3) := by decide +kernel
theorem dX8_reads_159 : decode cX8_reads 159 = .ok (.iconst 0, 1) := by decide +kernel
theorem dX8_reads_160 : decode cX8_reads 160 = .ok (.iastore, 1) := by decide +kernel
theorem dX8_reads_161 : decode cX8_reads 161 = .ok (.goto 12, 3) := by decide +kernel
theorem dX8_reads_164 : decode cX8_reads 164 = .ok (.aload_n 0, 1) := by decide +kernel
theorem dX8_reads_165 : decode cX8_reads 165 = .ok (.iload_n 1, 1) := by decide +kernel
theorem dX8_reads_166 : decode cX8_reads 166 = .ok (.bipush 65, 2) := by decide +kernel
theorem dX8_reads_168 : decode cX8_reads 168 = .ok (.isub, 1) := by decide +kernel
theorem dX8_reads_169 : decode cX8_reads 169 = .ok (.iconst 0, 1) := by decide +kernel
theorem dX8_reads_170 : decode cX8_reads 170 = .ok (.invokevirtual 195, 3) := by decide +kernel
theorem dX8_reads_173 : decode cX8_reads 173 = .ok (.goto 134, 3) := by decide +kernel
theorem dX8_reads_176 : decode cX8_reads 176 = .ok (.iload_n 1, 1) := by decide +kernel
theorem dX8_reads_177 : decode cX8_reads 177 = .ok (.bipush 44, 2) := by decide +kernel
theorem dX8_reads_179 : decode cX8_reads 179 = .ok (.if_icmp .eq 9, 3) := by decide +kernel
theorem dX8_reads_182 : decode cX8_reads 182 = .ok (.iload_n 1, 1) := by decide +kernel
theorem dX8_reads_183 : decode cX8_reads 183 = .ok (.bipush 41, 2) := by decide +kernel
theorem dX8_reads_185 : decode cX8_reads 185 = .ok (.if_icmp .ne 104, 3) := by decide +kernel
theorem dX8_reads_188 : decode cX8_reads 188 = .ok (.aload_n 0, 1) := by decide +kernel
theorem dX8_reads_189 : decode cX8_reads 189 = .ok (.getfield 56, 3) := by decide +kernel
theorem dX8_reads_192 : decode cX8_reads 192 = .ok (.bipush 6, 2) := by decide +kernel
theorem dX8_reads_194 : decode cX8_reads 194 = .ok (.aload_n 0, 1) := by decide +kernel
theorem dX8_reads_195 : decode cX8_reads 195 = .ok (.getfield 156, 3) := by decide +kernel
theorem dX8_reads_198 : decode cX8_reads 198 = .ok (.iconst 1, 1) := by decide +kernel
theorem dX8_reads_199 : decode cX8_reads 199 = .ok (.isub, 1) := by decide +kernel
theorem dX8_reads_200 : decode cX8_reads 200 = .ok (.imul, 1) := by decide +kernel
theorem dX8_reads_201 : decode cX8_reads 201 = .ok (.aload_n 0, 1) := by decide +kernel
theorem dX8_reads_202 : decode cX8_reads 202 = .ok (.getfield 53, 3) := by decide +kernel
theorem dX8_reads_205 : decode cX8_reads 205 = .ok (.aload_n 0, 1) := by decide +kernel
theorem dX8_reads_206 : decode cX8_reads 206 = .ok (.getfield 156, 3) := by decide +kernel
theorem dX8_reads_209 : decode cX8_reads 209 = .ok (.iconst 1, 1) := by decide +kernel
theorem dX8_reads_210 : decode cX8_reads 210 = .ok (.isub, 1) := by decide +kernel
theorem dX8_reads_211 : decode cX8_reads 211 = .ok (.iaload, 1) := by decide +kernel
theorem dX8_reads_212 : decode cX8_reads 212 = .ok (.iadd, 1) := by decide +kernel
theorem dX8_reads_213 : decode cX8_reads 213 = .ok (.aload_n 0, 1) := by decide +kernel
theorem dX8_reads_214 : decode cX8_reads 214 = .ok (.getfield 59, 3) := by decide +kernel
theorem dX8_reads_217 : decode cX8_reads 217 = .ok (.aload_n 0, 1) := by decide +kernel
theorem dX8_reads_218 : decode cX8_reads 218 = .ok (.getfield 156, 3) := by decide +kernel
theorem dX8_reads_221 : decode cX8_reads 221 = .ok (.iaload, 1) := by decide +kernel
theorem dX8_reads_222 : decode cX8_reads 222 = .ok (.iastore, 1) := by decide +kernel
theorem dX8_reads_223 : decode cX8_reads 223 = .ok (.aload_n 0, 1) := by decide +kernel
theorem dX8_reads_224 : decode cX8_reads 224 = .ok (.getfield 53, 3) := by decide +kernel
theorem dX8_reads_227 : decode cX8_reads 227 = .ok (.aload_n 0, 1) := by decide +kernel
theorem dX8_reads_228 : decode cX8_reads 228 = .ok (.getfield 156, 3) := by decide +kernel
theorem dX8_reads_231 : decode cX8_reads 231 = .ok (.iconst 1, 1) := by decide +kernel
theorem dX8_reads_232 : decode cX8_reads 232 = .ok (.isub, 1) := by decide +kernel
theorem dX8_reads_233 : decode cX8_reads 233 = .ok (.dup2, 1) := by decide +kernel
theorem dX8_reads_234 : decode cX8_reads 234 = .ok (.iaload, 1) := by decide +kernel
theorem dX8_reads_235 : decode cX8_reads 235 = .ok (.iconst 1, 1) := by decide +kernel
theorem dX8_reads_236 : decode cX8_reads 236 = .ok (.iadd, 1) := by decide +kernel
theorem dX8_reads_237 : decode cX8_reads 237 = .ok (.iastore, 1) := by decide +kernel
theorem dX8_reads_238 : decode cX8_reads 238 = .ok (.aload_n 0, 1) := by decide +kernel
theorem dX8_reads_239 : decode cX8_reads 239 = .ok (.getfield 59, 3) := by decide +kernel
theorem dX8_reads_242 : decode cX8_reads 242 = .ok (.aload_n 0, 1) := by decide +kernel
theorem dX8_reads_243 : decode cX8_reads 243 = .ok (.getfield 156, 3) := by decide +kernel
theorem dX8_reads_246 : decode cX8_reads 246 = .ok (.iconst 0, 1) := by decide +kernel
theorem dX8_reads_247 : decode cX8_reads 247 = .ok (.iastore, 1) := by decide +kernel
theorem dX8_reads_248 : decode cX8_reads 248 = .ok (.iload_n 1, 1) := by decide +kernel
theorem dX8_reads_249 : decode cX8_reads 249 = .ok (.bipush 41, 2) := by decide +kernel
theorem dX8_reads_251 : decode cX8_reads 251 = .ok (.if_icmp .ne 56, 3) := by decide +kernel
theorem dX8_reads_254 : decode cX8_reads 254 = .ok (.aload_n 0, 1) := by decide +kernel
theorem dX8_reads_255 : decode cX8_reads 255 = .ok (.dup, 1) := by decide +kernel
theorem dX8_reads_256 : decode cX8_reads 256 = .ok (.getfield 156, 3) := by decide +kernel
theorem dX8_reads_259 : decode cX8_reads 259 = .ok (.iconst 1, 1) := by decide +kernel
theorem dX8_reads_260 : decode cX8_reads 260 = .ok (.isub, 1) := by decide +kernel
theorem dX8_reads_261 : decode cX8_reads 261 = .ok (.putfield 156, 3) := by decide +kernel
theorem dX8_reads_264 : decode cX8_reads 264 = .ok (.aload_n 0, 1) := by decide +kernel
theorem dX8_reads_265 : decode cX8_reads 265 = .ok (.aload_n 0, 1) := by decide +kernel
theorem dX8_reads_266 : decode cX8_reads 266 = .ok (.getfield 50, 3) := by decide +kernel
theorem dX8_reads_269 : decode cX8_reads 269 = .ok (.aload_n 0, 1) := by decide +kernel
theorem dX8_reads_270 : decode cX8_reads 270 = .ok (.getfield 156, 3) := by decide +kernel
theorem dX8_reads_273 : decode cX8_reads 273 = .ok (.iaload, 1) := by decide +kernel
theorem dX8_reads_274 : decode cX8_reads 274 = .ok (.aload_n 0, 1) := by decide +kernel
theorem dX8_reads_275 : decode cX8_reads 275 = .ok (.getfield 53, 3) := by decide +kernel
theorem dX8_reads_278 : decode cX8_reads 278 = .ok (.aload_n 0, 1) := by decide +kernel
theorem dX8_reads_279 : decode cX8_reads 279 = .ok (.getfield 156, 3) := by decide +kernel
theorem dX8_reads_282 : decode cX8_reads 282 = .ok (.iaload, 1) := by decide +kernel
theorem dX8_reads_283 : decode cX8_reads 283 = .ok (.invokevirtual 195, 3) := by decide +kernel
theorem dX8_reads_286 : decode cX8_reads 286 = .ok (.goto 21, 3) := by decide +kernel
theorem dX8_reads_289 : decode cX8_reads 289 = .ok (.aload_n 0, 1) := by decide +kernel
theorem dX8_reads_290 : decode cX8_reads 290 = .ok (.iload_n 1, 1) := by decide +kernel
theorem dX8_reads_291 : decode cX8_reads 291 = .ok (.bipush 63, 2) := by decide +kernel
theorem dX8_reads_293 : decode cX8_reads 293 = .ok (.if_icmp .ne 10, 3) := by decide +kernel
theorem dX8_reads_296 : decode cX8_reads 296 = .ok (.aload_n 0, 1) := by decide +kernel
theorem dX8_reads_297 : decode cX8_reads 297 = .ok (.invokevirtual 199, 3) := by decide +kernel
theorem dX8_reads_300 : decode cX8_reads 300 = .ok (.goto 4, 3) := by decide +kernel
theorem dX8_reads_303 : decode cX8_reads 303 = .ok (.iconst 1, 1) := by decide +kernel
theorem dX8_reads_304 : decode cX8_reads 304 = .ok (.invokevirtual 178, 3) := by decide +kernel
theorem dX8_reads_307 : decode cX8_reads 307 = .ok (.return_, 1) := by decide +kernel
theorem dX8_measures_0 : decode cX8_measures 0 = .ok (.aload_n 0, 1) := by decide +kernel
theorem dX8_measures_1 : decode cX8_measures 1 = .ok (.getfield 159, 3) := by decide +kernel
theorem dX8_measures_4 : decode cX8_measures 4 = .ok (.ifCond .ne 131, 3) := by decide +kernel
theorem dX8_measures_7 : decode cX8_measures 7 = .ok (.aload_n 0, 1) := by decide +kernel
theorem dX8_measures_8 : decode cX8_measures 8 = .ok (.getfield 166, 3) := by decide +kernel
theorem dX8_measures_11 : decode cX8_measures 11 = .ok (.ifCond .gt 22, 3) := by decide +kernel
theorem dX8_measures_14 : decode cX8_measures 14 = .ok (.aload_n 0, 1) := by decide +kernel
theorem dX8_measures_15 : decode cX8_measures 15 = .ok (.getfield 32, 3) := by decide +kernel
theorem dX8_measures_18 : decode cX8_measures 18 = .ok (.iconst 0, 1) := by decide +kernel
theorem dX8_measures_19 : decode cX8_measures 19 = .ok (.iaload, 1) := by decide +kernel
theorem dX8_measures_20 : decode cX8_measures 20 = .ok (.aload_n 0, 1) := by decide +kernel
theorem dX8_measures_21 : decode cX8_measures 21 = .ok (.aload_n 0, 1) := by decide +kernel
theorem dX8_measures_22 : decode cX8_measures 22 = .ok (.getfield 29, 3) := by decide +kernel
theorem dX8_measures_25 : decode cX8_measures 25 = .ok (.iconst 0, 1) := by decide +kernel
theorem dX8_measures_26 : decode cX8_measures 26 = .ok (.iaload, 1) := by decide +kernel
theorem dX8_measures_27 : decode cX8_measures 27 = .ok (.invokevirtual 191, 3) := by decide +kernel
theorem dX8_measures_30 : decode cX8_measures 30 = .ok (.if_icmp .ge 105, 3) := by decide +kernel
theorem dX8_measures_33 : decode cX8_measures 33 = .ok (.aload_n 0, 1) := by decide +kernel
theorem dX8_measures_34 : decode cX8_measures 34 = .ok (.getfield 32, 3) := by decide +kernel
theorem dX8_measures_37 : decode cX8_measures 37 = .ok (.aload_n 0, 1) := by decide +kernel
theorem dX8_measures_38 : decode cX8_measures 38 = .ok (.getfield 166, 3) := by decide +kernel
theorem dX8_measures_41 : decode cX8_measures 41 = .ok (.iaload, 1) := by decide +kernel
theorem dX8_measures_42 : decode cX8_measures 42 = .ok (.aload_n 0, 1) := by decide +kernel
theorem dX8_measures_43 : decode cX8_measures 43 = .ok (.aload_n 0, 1) := by decide +kernel
theorem dX8_measures_44 : decode cX8_measures 44 = .ok (.getfield 29, 3) := by decide +kernel
theorem dX8_measures_47 : decode cX8_measures 47 = .ok (.aload_n 0, 1) := by decide +kernel
theorem dX8_measures_48 : decode cX8_measures 48 = .ok (.getfield 166, 3) := by decide +kernel
theorem dX8_measures_51 : decode cX8_measures 51 = .ok (.iaload, 1) := by decide +kernel
theorem dX8_measures_52 : decode cX8_measures 52 = .ok (.invokevirtual 191, 3) := by decide +kernel
theorem dX8_measures_55 : decode cX8_measures 55 = .ok (.if_icmp .ge 10, 3) := by decide +kernel
theorem dX8_measures_58 : decode cX8_measures 58 = .ok (.aload_n 0, 1) := by decide +kernel
theorem dX8_measures_59 : decode cX8_measures 59 = .ok (.invokevirtual 202, 3) := by decide +kernel
theorem dX8_measures_62 : decode cX8_measures 62 = .ok (.goto (-62), 3) := by decide +kernel
theorem dX8_measures_65 : decode cX8_measures 65 = .ok (.aload_n 0, 1) := by decide +kernel
theorem dX8_measures_66 : decode cX8_measures 66 = .ok (.aload_n 0, 1) := by decide +kernel
theorem dX8_measures_67 : decode cX8_measures 67 = .ok (.getfield 29, 3) := by decide +kernel
theorem dX8_measures_70 : decode cX8_measures 70 = .ok (.aload_n 0, 1) := by decide +kernel
theorem dX8_measures_71 : decode cX8_measures 71 = .ok (.getfield 166, 3) := by decide +kernel
theorem dX8_measures_74 : decode cX8_measures 74 = .ok (.iaload, 1) := by decide +kernel
theorem dX8_measures_75 : decode cX8_measures 75 = .ok (.iconst 0, 1) := by decide +kernel
theorem dX8_measures_76 : decode cX8_measures 76 = .ok (.aload_n 0, 1) := by decide +kernel
theorem dX8_measures_77 : decode cX8_measures 77 = .ok (.getfield 166, 3) := by decide +kernel
theorem dX8_measures_80 : decode cX8_measures 80 = .ok (.iconst 1, 1) := by decide +kernel
theorem dX8_measures_81 : decode cX8_measures 81 = .ok (.isub, 1) := by decide +kernel
theorem dX8_measures_82 : decode cX8_measures 82 = .ok (.aload_n 0, 1) := by decide +kernel
theorem dX8_measures_83 : decode cX8_measures 83 = .ok (.getfield 38, 3) := by decide +kernel
theorem dX8_measures_86 : decode cX8_measures 86 = .ok (.aload_n 0, 1) := by decide +kernel
theorem dX8_measures_87 : decode cX8_measures 87 = .ok (.getfield 166, 3) := by decide +kernel
theorem dX8_measures_90 : decode cX8_measures 90 = .ok (.iaload, 1) := by decide +kernel
theorem dX8_measures_91 : decode cX8_measures 91 = .ok (.aload_n 0, 1) := by decide +kernel
theorem dX8_measures_92 : decode cX8_measures 92 = .ok (.getfield 59, 3) := by decide +kernel
theorem dX8_measures_95 : decode cX8_measures 95 = .ok (.aload_n 0, 1) := by decide +kernel
theorem dX8_measures_96 : decode cX8_measures 96 = .ok (.getfield 156, 3) := by decide +kernel
theorem dX8_measures_99 : decode cX8_measures 99 = .ok (.iaload, 1) := by decide +kernel
theorem dX8_measures_100 : decode cX8_measures 100 = .ok (.aload_n 0, 1) := by decide +kernel
theorem dX8_measures_101 : decode cX8_measures 101 = .ok (.getfield 44, 3) := by decide +kernel
theorem dX8_measures_104 : decode cX8_measures 104 = .ok (.aload_n 0, 1) := by decide +kernel
theorem dX8_measures_105 : decode cX8_measures 105 = .ok (.getfield 166, 3) := by decide +kernel
theorem dX8_measures_108 : decode cX8_measures 108 = .ok (.iaload, 1) := by decide +kernel
theorem dX8_measures_109 : decode cX8_measures 109 = .ok (.isub, 1) := by decide +kernel
theorem dX8_measures_110 : decode cX8_measures 110 = .ok (.aload_n 0, 1) := by decide +kernel
theorem dX8_measures_111 : decode cX8_measures 111 = .ok (.getfield 41, 3) := by decide +kernel
theorem dX8_measures_114 : decode cX8_measures 114 = .ok (.aload_n 0, 1) := by decide +kernel
theorem dX8_measures_115 : decode cX8_measures 115 = .ok (.getfield 166, 3) := by decide +kernel
theorem dX8_measures_118 : decode cX8_measures 118 = .ok (.iaload, 1) := by decide +kernel
theorem dX8_measures_119 : decode cX8_measures 119 = .ok (.invokevirtual 181, 3) := by decide +kernel
theorem dX8_measures_122 : decode cX8_measures 122 = .ok (.aload_n 0, 1) := by decide +kernel
theorem dX8_measures_123 : decode cX8_measures 123 = .ok (.dup, 1) := by decide +kernel
theorem dX8_measures_124 : decode cX8_measures 124 = .ok (.getfield 166, 3) := by decide +kernel
theorem dX8_measures_127 : decode cX8_measures 127 = .ok (.iconst 1, 1) := by decide +kernel
theorem dX8_measures_128 : decode cX8_measures 128 = .ok (.isub, 1) := by decide +kernel
theorem dX8_measures_129 : decode cX8_measures 129 = .ok (.putfield 166, 3) := by decide +kernel
theorem dX8_measures_132 : decode cX8_measures 132 = .ok (.goto (-132), 3) := by decide +kernel
theorem dX8_measures_135 : decode cX8_measures 135 = .ok (.aload_n 0, 1) := by decide +kernel
theorem dX8_measures_136 : decode cX8_measures 136 = .ok (.getfield 159, 3) := by decide +kernel
theorem dX8_measures_139 : decode cX8_measures 139 = .ok (.ifCond .ne 7, 3) := by decide +kernel
theorem dX8_measures_142 : decode cX8_measures 142 = .ok (.iconst 1, 1) := by decide +kernel
theorem dX8_measures_143 : decode cX8_measures 143 = .ok (.goto 4, 3) := by decide +kernel
theorem dX8_measures_146 : decode cX8_measures 146 = .ok (.iconst 0, 1) := by decide +kernel
theorem dX8_measures_147 : decode cX8_measures 147 = .ok (.ireturn, 1) := by decide +kernel
theorem dX8_begins_0 : decode cX8_begins 0 = .ok (.aload_n 0, 1) := by decide +kernel
theorem dX8_begins_1 : decode cX8_begins 1 = .ok (.iconst 0, 1) := by decide +kernel
theorem dX8_begins_2 : decode cX8_begins 2 = .ok (.putfield 166, 3) := by decide +kernel
theorem dX8_begins_5 : decode cX8_begins 5 = .ok (.aload_n 0, 1) := by decide +kernel
theorem dX8_begins_6 : decode cX8_begins 6 = .ok (.getfield 29, 3) := by decide +kernel
theorem dX8_begins_9 : decode cX8_begins 9 = .ok (.iconst 0, 1) := by decide +kernel
theorem dX8_begins_10 : decode cX8_begins 10 = .ok (.iload_n 1, 1) := by decide +kernel
theorem dX8_begins_11 : decode cX8_begins 11 = .ok (.iastore, 1) := by decide +kernel
theorem dX8_begins_12 : decode cX8_begins 12 = .ok (.aload_n 0, 1) := by decide +kernel
theorem dX8_begins_13 : decode cX8_begins 13 = .ok (.getfield 32, 3) := by decide +kernel
theorem dX8_begins_16 : decode cX8_begins 16 = .ok (.iconst 0, 1) := by decide +kernel
theorem dX8_begins_17 : decode cX8_begins 17 = .ok (.iconst 0, 1) := by decide +kernel
theorem dX8_begins_18 : decode cX8_begins 18 = .ok (.iastore, 1) := by decide +kernel
theorem dX8_begins_19 : decode cX8_begins 19 = .ok (.aload_n 0, 1) := by decide +kernel
theorem dX8_begins_20 : decode cX8_begins 20 = .ok (.getfield 35, 3) := by decide +kernel
theorem dX8_begins_23 : decode cX8_begins 23 = .ok (.iconst 0, 1) := by decide +kernel
theorem dX8_begins_24 : decode cX8_begins 24 = .ok (.iconst 0, 1) := by decide +kernel
theorem dX8_begins_25 : decode cX8_begins 25 = .ok (.iastore, 1) := by decide +kernel
theorem dX8_begins_26 : decode cX8_begins 26 = .ok (.aload_n 0, 1) := by decide +kernel
theorem dX8_begins_27 : decode cX8_begins 27 = .ok (.iconst 0, 1) := by decide +kernel
theorem dX8_begins_28 : decode cX8_begins 28 = .ok (.putfield 156, 3) := by decide +kernel
theorem dX8_begins_31 : decode cX8_begins 31 = .ok (.aload_n 0, 1) := by decide +kernel
theorem dX8_begins_32 : decode cX8_begins 32 = .ok (.getfield 59, 3) := by decide +kernel
theorem dX8_begins_35 : decode cX8_begins 35 = .ok (.iconst 0, 1) := by decide +kernel
theorem dX8_begins_36 : decode cX8_begins 36 = .ok (.iconst 0, 1) := by decide +kernel
theorem dX8_begins_37 : decode cX8_begins 37 = .ok (.iastore, 1) := by decide +kernel
theorem dX8_begins_38 : decode cX8_begins 38 = .ok (.aload_n 0, 1) := by decide +kernel
theorem dX8_begins_39 : decode cX8_begins 39 = .ok (.iconst 0, 1) := by decide +kernel
theorem dX8_begins_40 : decode cX8_begins 40 = .ok (.putfield 159, 3) := by decide +kernel
theorem dX8_begins_43 : decode cX8_begins 43 = .ok (.aload_n 0, 1) := by decide +kernel
theorem dX8_begins_44 : decode cX8_begins 44 = .ok (.iconst 0, 1) := by decide +kernel
theorem dX8_begins_45 : decode cX8_begins 45 = .ok (.putfield 169, 3) := by decide +kernel
theorem dX8_begins_48 : decode cX8_begins 48 = .ok (.aload_n 0, 1) := by decide +kernel
theorem dX8_begins_49 : decode cX8_begins 49 = .ok (.iconst 0, 1) := by decide +kernel
theorem dX8_begins_50 : decode cX8_begins 50 = .ok (.putfield 172, 3) := by decide +kernel
theorem dX8_begins_53 : decode cX8_begins 53 = .ok (.aload_n 0, 1) := by decide +kernel
theorem dX8_begins_54 : decode cX8_begins 54 = .ok (.iconst 0, 1) := by decide +kernel
theorem dX8_begins_55 : decode cX8_begins 55 = .ok (.putfield 163, 3) := by decide +kernel
theorem dX8_begins_58 : decode cX8_begins 58 = .ok (.aload_n 0, 1) := by decide +kernel
theorem dX8_begins_59 : decode cX8_begins 59 = .ok (.iconst (-1), 1) := by decide +kernel
theorem dX8_begins_60 : decode cX8_begins 60 = .ok (.putfield 188, 3) := by decide +kernel
theorem dX8_begins_63 : decode cX8_begins 63 = .ok (.return_, 1) := by decide +kernel
theorem dX8_puts_0 : decode cX8_puts 0 = .ok (.aload_n 0, 1) := by decide +kernel
theorem dX8_puts_1 : decode cX8_puts 1 = .ok (.getfield 7, 3) := by decide +kernel
theorem dX8_puts_4 : decode cX8_puts 4 = .ok (.sipush 1588, 3) := by decide +kernel
theorem dX8_puts_7 : decode cX8_puts 7 = .ok (.aload_n 0, 1) := by decide +kernel
theorem dX8_puts_8 : decode cX8_puts 8 = .ok (.getfield 205, 3) := by decide +kernel
theorem dX8_puts_11 : decode cX8_puts 11 = .ok (.iadd, 1) := by decide +kernel
theorem dX8_puts_12 : decode cX8_puts 12 = .ok (.iload_n 1, 1) := by decide +kernel
theorem dX8_puts_13 : decode cX8_puts 13 = .ok (.iastore, 1) := by decide +kernel
theorem dX8_puts_14 : decode cX8_puts 14 = .ok (.aload_n 0, 1) := by decide +kernel
theorem dX8_puts_15 : decode cX8_puts 15 = .ok (.dup, 1) := by decide +kernel
theorem dX8_puts_16 : decode cX8_puts 16 = .ok (.getfield 205, 3) := by decide +kernel
theorem dX8_puts_19 : decode cX8_puts 19 = .ok (.iconst 1, 1) := by decide +kernel
theorem dX8_puts_20 : decode cX8_puts 20 = .ok (.iadd, 1) := by decide +kernel
theorem dX8_puts_21 : decode cX8_puts 21 = .ok (.putfield 205, 3) := by decide +kernel
theorem dX8_puts_24 : decode cX8_puts 24 = .ok (.return_, 1) := by decide +kernel
theorem dX8_enters_0 : decode cX8_enters 0 = .ok (.aload_n 0, 1) := by decide +kernel
theorem dX8_enters_1 : decode cX8_enters 1 = .ok (.dup, 1) := by decide +kernel
theorem dX8_enters_2 : decode cX8_enters 2 = .ok (.getfield 208, 3) := by decide +kernel
theorem dX8_enters_5 : decode cX8_enters 5 = .ok (.iconst 1, 1) := by decide +kernel
theorem dX8_enters_6 : decode cX8_enters 6 = .ok (.iadd, 1) := by decide +kernel
theorem dX8_enters_7 : decode cX8_enters 7 = .ok (.putfield 208, 3) := by decide +kernel
theorem dX8_enters_10 : decode cX8_enters 10 = .ok (.aload_n 0, 1) := by decide +kernel
theorem dX8_enters_11 : decode cX8_enters 11 = .ok (.getfield 65, 3) := by decide +kernel
theorem dX8_enters_14 : decode cX8_enters 14 = .ok (.aload_n 0, 1) := by decide +kernel
theorem dX8_enters_15 : decode cX8_enters 15 = .ok (.getfield 208, 3) := by decide +kernel
theorem dX8_enters_18 : decode cX8_enters 18 = .ok (.iload_n 1, 1) := by decide +kernel
theorem dX8_enters_19 : decode cX8_enters 19 = .ok (.iastore, 1) := by decide +kernel
theorem dX8_enters_20 : decode cX8_enters 20 = .ok (.aload_n 0, 1) := by decide +kernel
theorem dX8_enters_21 : decode cX8_enters 21 = .ok (.getfield 68, 3) := by decide +kernel
theorem dX8_enters_24 : decode cX8_enters 24 = .ok (.aload_n 0, 1) := by decide +kernel
theorem dX8_enters_25 : decode cX8_enters 25 = .ok (.getfield 208, 3) := by decide +kernel
theorem dX8_enters_28 : decode cX8_enters 28 = .ok (.iload_n 2, 1) := by decide +kernel
theorem dX8_enters_29 : decode cX8_enters 29 = .ok (.iastore, 1) := by decide +kernel
theorem dX8_enters_30 : decode cX8_enters 30 = .ok (.aload_n 0, 1) := by decide +kernel
theorem dX8_enters_31 : decode cX8_enters 31 = .ok (.getfield 71, 3) := by decide +kernel
theorem dX8_enters_34 : decode cX8_enters 34 = .ok (.aload_n 0, 1) := by decide +kernel
theorem dX8_enters_35 : decode cX8_enters 35 = .ok (.getfield 208, 3) := by decide +kernel
theorem dX8_enters_38 : decode cX8_enters 38 = .ok (.iload_n 3, 1) := by decide +kernel
theorem dX8_enters_39 : decode cX8_enters 39 = .ok (.iastore, 1) := by decide +kernel
theorem dX8_enters_40 : decode cX8_enters 40 = .ok (.return_, 1) := by decide +kernel
theorem dX8_skips_0 : decode cX8_skips 0 = .ok (.aload_n 0, 1) := by decide +kernel
theorem dX8_skips_1 : decode cX8_skips 1 = .ok (.getfield 65, 3) := by decide +kernel
theorem dX8_skips_4 : decode cX8_skips 4 = .ok (.aload_n 0, 1) := by decide +kernel
theorem dX8_skips_5 : decode cX8_skips 5 = .ok (.getfield 208, 3) := by decide +kernel
theorem dX8_skips_8 : decode cX8_skips 8 = .ok (.iaload, 1) := by decide +kernel
theorem dX8_skips_9 : decode cX8_skips 9 = .ok (.istore_n 1, 1) := by decide +kernel
theorem dX8_skips_10 : decode cX8_skips 10 = .ok (.aload_n 0, 1) := by decide +kernel
theorem dX8_skips_11 : decode cX8_skips 11 = .ok (.getfield 83, 3) := by decide +kernel
theorem dX8_skips_14 : decode cX8_skips 14 = .ok (.aload_n 0, 1) := by decide +kernel
theorem dX8_skips_15 : decode cX8_skips 15 = .ok (.getfield 211, 3) := by decide +kernel
theorem dX8_skips_18 : decode cX8_skips 18 = .ok (.iconst 0, 1) := by decide +kernel
theorem dX8_skips_19 : decode cX8_skips 19 = .ok (.iastore, 1) := by decide +kernel
theorem dX8_skips_20 : decode cX8_skips 20 = .ok (.aload_n 0, 1) := by decide +kernel
theorem dX8_skips_21 : decode cX8_skips 21 = .ok (.getfield 68, 3) := by decide +kernel
theorem dX8_skips_24 : decode cX8_skips 24 = .ok (.aload_n 0, 1) := by decide +kernel
theorem dX8_skips_25 : decode cX8_skips 25 = .ok (.getfield 208, 3) := by decide +kernel
theorem dX8_skips_28 : decode cX8_skips 28 = .ok (.iaload, 1) := by decide +kernel
theorem dX8_skips_29 : decode cX8_skips 29 = .ok (.aload_n 0, 1) := by decide +kernel
theorem dX8_skips_30 : decode cX8_skips 30 = .ok (.iload_n 1, 1) := by decide +kernel
theorem dX8_skips_31 : decode cX8_skips 31 = .ok (.invokevirtual 191, 3) := by decide +kernel
theorem dX8_skips_34 : decode cX8_skips 34 = .ok (.if_icmp .ge 22, 3) := by decide +kernel
theorem dX8_skips_37 : decode cX8_skips 37 = .ok (.aload_n 0, 1) := by decide +kernel
theorem dX8_skips_38 : decode cX8_skips 38 = .ok (.iload_n 1, 1) := by decide +kernel
theorem dX8_skips_39 : decode cX8_skips 39 = .ok (.aload_n 0, 1) := by decide +kernel
theorem dX8_skips_40 : decode cX8_skips 40 = .ok (.getfield 68, 3) := by decide +kernel
theorem dX8_skips_43 : decode cX8_skips 43 = .ok (.aload_n 0, 1) := by decide +kernel
theorem dX8_skips_44 : decode cX8_skips 44 = .ok (.getfield 208, 3) := by decide +kernel
theorem dX8_skips_47 : decode cX8_skips 47 = .ok (.iaload, 1) := by decide +kernel
theorem dX8_skips_48 : decode cX8_skips 48 = .ok (.invokevirtual 135, 3) := by decide +kernel
theorem dX8_skips_51 : decode cX8_skips 51 = .ok (.bipush 40, 2) := by decide +kernel
theorem dX8_skips_53 : decode cX8_skips 53 = .ok (.if_icmp .eq 4, 3) := by decide +kernel
theorem dX8_skips_56 : decode cX8_skips 56 = .ok (.return_, 1) := by decide +kernel
theorem dX8_skips_57 : decode cX8_skips 57 = .ok (.iconst 0, 1) := by decide +kernel
theorem dX8_skips_58 : decode cX8_skips 58 = .ok (.istore_n 2, 1) := by decide +kernel
theorem dX8_skips_59 : decode cX8_skips 59 = .ok (.aload_n 0, 1) := by decide +kernel
theorem dX8_skips_60 : decode cX8_skips 60 = .ok (.iload_n 1, 1) := by decide +kernel
theorem dX8_skips_61 : decode cX8_skips 61 = .ok (.aload_n 0, 1) := by decide +kernel
theorem dX8_skips_62 : decode cX8_skips 62 = .ok (.getfield 68, 3) := by decide +kernel
theorem dX8_skips_65 : decode cX8_skips 65 = .ok (.aload_n 0, 1) := by decide +kernel
theorem dX8_skips_66 : decode cX8_skips 66 = .ok (.getfield 208, 3) := by decide +kernel
theorem dX8_skips_69 : decode cX8_skips 69 = .ok (.iaload, 1) := by decide +kernel
theorem dX8_skips_70 : decode cX8_skips 70 = .ok (.invokevirtual 135, 3) := by decide +kernel
theorem dX8_skips_73 : decode cX8_skips 73 = .ok (.istore_n 3, 1) := by decide +kernel
theorem dX8_skips_74 : decode cX8_skips 74 = .ok (.aload_n 0, 1) := by decide +kernel
theorem dX8_skips_75 : decode cX8_skips 75 = .ok (.getfield 68, 3) := by decide +kernel
theorem dX8_skips_78 : decode cX8_skips 78 = .ok (.aload_n 0, 1) := by decide +kernel
theorem dX8_skips_79 : decode cX8_skips 79 = .ok (.getfield 208, 3) := by decide +kernel
theorem dX8_skips_82 : decode cX8_skips 82 = .ok (.dup2, 1) := by decide +kernel
theorem dX8_skips_83 : decode cX8_skips 83 = .ok (.iaload, 1) := by decide +kernel
theorem dX8_skips_84 : decode cX8_skips 84 = .ok (.iconst 1, 1) := by decide +kernel
theorem dX8_skips_85 : decode cX8_skips 85 = .ok (.iadd, 1) := by decide +kernel
theorem dX8_skips_86 : decode cX8_skips 86 = .ok (.iastore, 1) := by decide +kernel
theorem dX8_skips_87 : decode cX8_skips 87 = .ok (.iload_n 2, 1) := by decide +kernel
theorem dX8_skips_88 : decode cX8_skips 88 = .ok (.iload_n 3, 1) := by decide +kernel
theorem dX8_skips_89 : decode cX8_skips 89 = .ok (.bipush 40, 2) := by decide +kernel
theorem dX8_skips_91 : decode cX8_skips 91 = .ok (.if_icmp .ne 7, 3) := by decide +kernel
theorem dX8_skips_94 : decode cX8_skips 94 = .ok (.iconst 1, 1) := by decide +kernel
theorem dX8_skips_95 : decode cX8_skips 95 = .ok (.goto 14, 3) := by decide +kernel
theorem dX8_skips_98 : decode cX8_skips 98 = .ok (.iload_n 3, 1) := by decide +kernel
theorem dX8_skips_99 : decode cX8_skips 99 = .ok (.bipush 41, 2) := by decide +kernel
theorem dX8_skips_101 : decode cX8_skips 101 = .ok (.if_icmp .ne 7, 3) := by decide +kernel
theorem dX8_skips_104 : decode cX8_skips 104 = .ok (.iconst (-1), 1) := by decide +kernel
theorem dX8_skips_105 : decode cX8_skips 105 = .ok (.goto 4, 3) := by decide +kernel
theorem dX8_skips_108 : decode cX8_skips 108 = .ok (.iconst 0, 1) := by decide +kernel
theorem dX8_skips_109 : decode cX8_skips 109 = .ok (.iadd, 1) := by decide +kernel
theorem dX8_skips_110 : decode cX8_skips 110 = .ok (.istore_n 2, 1) := by decide +kernel
theorem dX8_skips_111 : decode cX8_skips 111 = .ok (.iload_n 2, 1) := by decide +kernel
theorem dX8_skips_112 : decode cX8_skips 112 = .ok (.iconst 1, 1) := by decide +kernel
theorem dX8_skips_113 : decode cX8_skips 113 = .ok (.if_icmp .ne 59, 3) := by decide +kernel
theorem dX8_skips_116 : decode cX8_skips 116 = .ok (.iload_n 3, 1) := by decide +kernel
theorem dX8_skips_117 : decode cX8_skips 117 = .ok (.bipush 44, 2) := by decide +kernel
theorem dX8_skips_119 : decode cX8_skips 119 = .ok (.if_icmp .eq 9, 3) := by decide +kernel
theorem dX8_skips_122 : decode cX8_skips 122 = .ok (.iload_n 3, 1) := by decide +kernel
theorem dX8_skips_123 : decode cX8_skips 123 = .ok (.bipush 40, 2) := by decide +kernel
theorem dX8_skips_125 : decode cX8_skips 125 = .ok (.if_icmp .ne 47, 3) := by decide +kernel
theorem dX8_skips_128 : decode cX8_skips 128 = .ok (.aload_n 0, 1) := by decide +kernel
theorem dX8_skips_129 : decode cX8_skips 129 = .ok (.getfield 86, 3) := by decide +kernel
theorem dX8_skips_132 : decode cX8_skips 132 = .ok (.bipush 6, 2) := by decide +kernel
theorem dX8_skips_134 : decode cX8_skips 134 = .ok (.aload_n 0, 1) := by decide +kernel
theorem dX8_skips_135 : decode cX8_skips 135 = .ok (.getfield 211, 3) := by decide +kernel
theorem dX8_skips_138 : decode cX8_skips 138 = .ok (.imul, 1) := by decide +kernel
theorem dX8_skips_139 : decode cX8_skips 139 = .ok (.aload_n 0, 1) := by decide +kernel
theorem dX8_skips_140 : decode cX8_skips 140 = .ok (.getfield 83, 3) := by decide +kernel
theorem dX8_skips_143 : decode cX8_skips 143 = .ok (.aload_n 0, 1) := by decide +kernel
theorem dX8_skips_144 : decode cX8_skips 144 = .ok (.getfield 211, 3) := by decide +kernel
theorem dX8_skips_147 : decode cX8_skips 147 = .ok (.iaload, 1) := by decide +kernel
theorem dX8_skips_148 : decode cX8_skips 148 = .ok (.iadd, 1) := by decide +kernel
theorem dX8_skips_149 : decode cX8_skips 149 = .ok (.aload_n 0, 1) := by decide +kernel
theorem dX8_skips_150 : decode cX8_skips 150 = .ok (.getfield 68, 3) := by decide +kernel
theorem dX8_skips_153 : decode cX8_skips 153 = .ok (.aload_n 0, 1) := by decide +kernel
theorem dX8_skips_154 : decode cX8_skips 154 = .ok (.getfield 208, 3) := by decide +kernel
theorem dX8_skips_157 : decode cX8_skips 157 = .ok (.iaload, 1) := by decide +kernel
theorem dX8_skips_158 : decode cX8_skips 158 = .ok (.iastore, 1) := by decide +kernel
theorem dX8_skips_159 : decode cX8_skips 159 = .ok (.aload_n 0, 1) := by decide +kernel
theorem dX8_skips_160 : decode cX8_skips 160 = .ok (.getfield 83, 3) := by decide +kernel
theorem dX8_skips_163 : decode cX8_skips 163 = .ok (.aload_n 0, 1) := by decide +kernel
theorem dX8_skips_164 : decode cX8_skips 164 = .ok (.getfield 211, 3) := by decide +kernel
theorem dX8_skips_167 : decode cX8_skips 167 = .ok (.dup2, 1) := by decide +kernel
theorem dX8_skips_168 : decode cX8_skips 168 = .ok (.iaload, 1) := by decide +kernel
theorem dX8_skips_169 : decode cX8_skips 169 = .ok (.iconst 1, 1) := by decide +kernel
theorem dX8_skips_170 : decode cX8_skips 170 = .ok (.iadd, 1) := by decide +kernel
theorem dX8_skips_171 : decode cX8_skips 171 = .ok (.iastore, 1) := by decide +kernel
theorem dX8_skips_172 : decode cX8_skips 172 = .ok (.iload_n 2, 1) := by decide +kernel
theorem dX8_skips_173 : decode cX8_skips 173 = .ok (.ifCond .gt (-114), 3) := by decide +kernel
theorem dX8_skips_176 : decode cX8_skips 176 = .ok (.return_, 1) := by decide +kernel
theorem dX8_calls_0 : decode cX8_calls 0 = .ok (.aload_n 0, 1) := by decide +kernel
theorem dX8_calls_1 : decode cX8_calls 1 = .ok (.getfield 71, 3) := by decide +kernel
theorem dX8_calls_4 : decode cX8_calls 4 = .ok (.aload_n 0, 1) := by decide +kernel
theorem dX8_calls_5 : decode cX8_calls 5 = .ok (.getfield 208, 3) := by decide +kernel
theorem dX8_calls_8 : decode cX8_calls 8 = .ok (.iaload, 1) := by decide +kernel
theorem dX8_calls_9 : decode cX8_calls 9 = .ok (.istore_n 2, 1) := by decide +kernel
theorem dX8_calls_10 : decode cX8_calls 10 = .ok (.aload_n 0, 1) := by decide +kernel
theorem dX8_calls_11 : decode cX8_calls 11 = .ok (.getfield 65, 3) := by decide +kernel
theorem dX8_calls_14 : decode cX8_calls 14 = .ok (.aload_n 0, 1) := by decide +kernel
theorem dX8_calls_15 : decode cX8_calls 15 = .ok (.getfield 208, 3) := by decide +kernel
theorem dX8_calls_18 : decode cX8_calls 18 = .ok (.iaload, 1) := by decide +kernel
theorem dX8_calls_19 : decode cX8_calls 19 = .ok (.istore_n 3, 1) := by decide +kernel
theorem dX8_calls_20 : decode cX8_calls 20 = .ok (.aload_n 0, 1) := by decide +kernel
theorem dX8_calls_21 : decode cX8_calls 21 = .ok (.invokevirtual 214, 3) := by decide +kernel
theorem dX8_calls_24 : decode cX8_calls 24 = .ok (.iconst 0, 1) := by decide +kernel
theorem dX8_calls_25 : decode cX8_calls 25 = .ok (.istore 4, 2) := by decide +kernel
theorem dX8_calls_27 : decode cX8_calls 27 = .ok (.iconst 0, 1) := by decide +kernel
theorem dX8_calls_28 : decode cX8_calls 28 = .ok (.istore 5, 2) := by decide +kernel
theorem dX8_calls_30 : decode cX8_calls 30 = .ok (.iload_n 2, 1) := by decide +kernel
theorem dX8_calls_31 : decode cX8_calls 31 = .ok (.istore 6, 2) := by decide +kernel
theorem dX8_calls_33 : decode cX8_calls 33 = .ok (.iload 6, 2) := by decide +kernel
theorem dX8_calls_35 : decode cX8_calls 35 = .ok (.ifCond .lt 41, 3) := by decide +kernel
theorem dX8_calls_38 : decode cX8_calls 38 = .ok (.iload 4, 2) := by decide +kernel
theorem dX8_calls_40 : decode cX8_calls 40 = .ok (.ifCond .ne 14, 3) := by decide +kernel
theorem dX8_calls_43 : decode cX8_calls 43 = .ok (.aload_n 0, 1) := by decide +kernel
theorem dX8_calls_44 : decode cX8_calls 44 = .ok (.getfield 74, 3) := by decide +kernel
theorem dX8_calls_47 : decode cX8_calls 47 = .ok (.iload 6, 2) := by decide +kernel
theorem dX8_calls_49 : decode cX8_calls 49 = .ok (.iaload, 1) := by decide +kernel
theorem dX8_calls_50 : decode cX8_calls 50 = .ok (.iload_n 1, 1) := by decide +kernel
theorem dX8_calls_51 : decode cX8_calls 51 = .ok (.if_icmp .ne 7, 3) := by decide +kernel
theorem dX8_calls_54 : decode cX8_calls 54 = .ok (.iconst 1, 1) := by decide +kernel
theorem dX8_calls_55 : decode cX8_calls 55 = .ok (.goto 4, 3) := by decide +kernel
theorem dX8_calls_58 : decode cX8_calls 58 = .ok (.iconst 0, 1) := by decide +kernel
theorem dX8_calls_59 : decode cX8_calls 59 = .ok (.istore 4, 2) := by decide +kernel
theorem dX8_calls_61 : decode cX8_calls 61 = .ok (.iinc 5 1, 3) := by decide +kernel
theorem dX8_calls_64 : decode cX8_calls 64 = .ok (.aload_n 0, 1) := by decide +kernel
theorem dX8_calls_65 : decode cX8_calls 65 = .ok (.getfield 80, 3) := by decide +kernel
theorem dX8_calls_68 : decode cX8_calls 68 = .ok (.iload 6, 2) := by decide +kernel
theorem dX8_calls_70 : decode cX8_calls 70 = .ok (.iaload, 1) := by decide +kernel
theorem dX8_calls_71 : decode cX8_calls 71 = .ok (.istore 6, 2) := by decide +kernel
theorem dX8_calls_73 : decode cX8_calls 73 = .ok (.goto (-40), 3) := by decide +kernel
theorem dX8_calls_76 : decode cX8_calls 76 = .ok (.aload_n 0, 1) := by decide +kernel
theorem dX8_calls_77 : decode cX8_calls 77 = .ok (.iload_n 1, 1) := by decide +kernel
theorem dX8_calls_78 : decode cX8_calls 78 = .ok (.invokevirtual 112, 3) := by decide +kernel
theorem dX8_calls_81 : decode cX8_calls 81 = .ok (.ifCond .eq 21, 3) := by decide +kernel
theorem dX8_calls_84 : decode cX8_calls 84 = .ok (.iload 4, 2) := by decide +kernel
theorem dX8_calls_86 : decode cX8_calls 86 = .ok (.ifCond .ne 16, 3) := by decide +kernel
theorem dX8_calls_89 : decode cX8_calls 89 = .ok (.iload 5, 2) := by decide +kernel
theorem dX8_calls_91 : decode cX8_calls 91 = .ok (.aload_n 0, 1) := by decide +kernel
theorem dX8_calls_92 : decode cX8_calls 92 = .ok (.getfield 7, 3) := by decide +kernel
theorem dX8_calls_95 : decode cX8_calls 95 = .ok (.sipush 1586, 3) := by decide +kernel
theorem dX8_calls_98 : decode cX8_calls 98 = .ok (.iaload, 1) := by decide +kernel
theorem dX8_calls_99 : decode cX8_calls 99 = .ok (.if_icmp .ne 33, 3) := by decide +kernel
theorem dX8_calls_102 : decode cX8_calls 102 = .ok (.aload_n 0, 1) := by decide +kernel
theorem dX8_calls_103 : decode cX8_calls 103 = .ok (.aload_n 0, 1) := by decide +kernel
theorem dX8_calls_104 : decode cX8_calls 104 = .ok (.iload_n 1, 1) := by decide +kernel
theorem dX8_calls_105 : decode cX8_calls 105 = .ok (.invokevirtual 112, 3) := by decide +kernel
theorem dX8_calls_108 : decode cX8_calls 108 = .ok (.ifCond .ne 8, 3) := by decide +kernel
theorem dX8_calls_111 : decode cX8_calls 111 = .ok (.bipush 36, 2) := by decide +kernel
theorem dX8_calls_113 : decode cX8_calls 113 = .ok (.goto 15, 3) := by decide +kernel
theorem dX8_calls_116 : decode cX8_calls 116 = .ok (.iload 4, 2) := by decide +kernel
theorem dX8_calls_118 : decode cX8_calls 118 = .ok (.ifCond .eq 8, 3) := by decide +kernel
theorem dX8_calls_121 : decode cX8_calls 121 = .ok (.bipush 35, 2) := by decide +kernel
theorem dX8_calls_123 : decode cX8_calls 123 = .ok (.goto 5, 3) := by decide +kernel
theorem dX8_calls_126 : decode cX8_calls 126 = .ok (.bipush 37, 2) := by decide +kernel
theorem dX8_calls_128 : decode cX8_calls 128 = .ok (.invokevirtual 217, 3) := by decide +kernel
theorem dX8_calls_131 : decode cX8_calls 131 = .ok (.return_, 1) := by decide +kernel
theorem dX8_calls_132 : decode cX8_calls 132 = .ok (.aload_n 0, 1) := by decide +kernel
theorem dX8_calls_133 : decode cX8_calls 133 = .ok (.getfield 74, 3) := by decide +kernel
theorem dX8_calls_136 : decode cX8_calls 136 = .ok (.aload_n 0, 1) := by decide +kernel
theorem dX8_calls_137 : decode cX8_calls 137 = .ok (.getfield 211, 3) := by decide +kernel
theorem dX8_calls_140 : decode cX8_calls 140 = .ok (.iload_n 1, 1) := by decide +kernel
theorem dX8_calls_141 : decode cX8_calls 141 = .ok (.iastore, 1) := by decide +kernel
theorem dX8_calls_142 : decode cX8_calls 142 = .ok (.aload_n 0, 1) := by decide +kernel
theorem dX8_calls_143 : decode cX8_calls 143 = .ok (.getfield 77, 3) := by decide +kernel
theorem dX8_calls_146 : decode cX8_calls 146 = .ok (.aload_n 0, 1) := by decide +kernel
theorem dX8_calls_147 : decode cX8_calls 147 = .ok (.getfield 211, 3) := by decide +kernel
theorem dX8_calls_150 : decode cX8_calls 150 = .ok (.iload_n 3, 1) := by decide +kernel
theorem dX8_calls_151 : decode cX8_calls 151 = .ok (.iastore, 1) := by decide +kernel
theorem dX8_calls_152 : decode cX8_calls 152 = .ok (.aload_n 0, 1) := by decide +kernel
theorem dX8_calls_153 : decode cX8_calls 153 = .ok (.getfield 80, 3) := by decide +kernel
theorem dX8_calls_156 : decode cX8_calls 156 = .ok (.aload_n 0, 1) := by decide +kernel
theorem dX8_calls_157 : decode cX8_calls 157 = .ok (.getfield 211, 3) := by decide +kernel
theorem dX8_calls_160 : decode cX8_calls 160 = .ok (.iload_n 2, 1) := by decide +kernel
theorem dX8_calls_161 : decode cX8_calls 161 = .ok (.iastore, 1) := by decide +kernel
theorem dX8_calls_162 : decode cX8_calls 162 = .ok (.aload_n 0, 1) := by decide +kernel
theorem dX8_calls_163 : decode cX8_calls 163 = .ok (.iload_n 1, 1) := by decide +kernel
theorem dX8_calls_164 : decode cX8_calls 164 = .ok (.iconst 0, 1) := by decide +kernel
theorem dX8_calls_165 : decode cX8_calls 165 = .ok (.aload_n 0, 1) := by decide +kernel
theorem dX8_calls_166 : decode cX8_calls 166 = .ok (.getfield 211, 3) := by decide +kernel
theorem dX8_calls_169 : decode cX8_calls 169 = .ok (.invokevirtual 220, 3) := by decide +kernel
theorem dX8_calls_172 : decode cX8_calls 172 = .ok (.aload_n 0, 1) := by decide +kernel
theorem dX8_calls_173 : decode cX8_calls 173 = .ok (.dup, 1) := by decide +kernel
theorem dX8_calls_174 : decode cX8_calls 174 = .ok (.getfield 211, 3) := by decide +kernel
theorem dX8_calls_177 : decode cX8_calls 177 = .ok (.iconst 1, 1) := by decide +kernel
theorem dX8_calls_178 : decode cX8_calls 178 = .ok (.iadd, 1) := by decide +kernel
theorem dX8_calls_179 : decode cX8_calls 179 = .ok (.putfield 211, 3) := by decide +kernel
theorem dX8_calls_182 : decode cX8_calls 182 = .ok (.return_, 1) := by decide +kernel
theorem dX8_fills_0 : decode cX8_fills 0 = .ok (.aload_n 0, 1) := by decide +kernel
theorem dX8_fills_1 : decode cX8_fills 1 = .ok (.getfield 71, 3) := by decide +kernel
theorem dX8_fills_4 : decode cX8_fills 4 = .ok (.aload_n 0, 1) := by decide +kernel
theorem dX8_fills_5 : decode cX8_fills 5 = .ok (.getfield 208, 3) := by decide +kernel
theorem dX8_fills_8 : decode cX8_fills 8 = .ok (.iaload, 1) := by decide +kernel
theorem dX8_fills_9 : decode cX8_fills 9 = .ok (.istore_n 1, 1) := by decide +kernel
theorem dX8_fills_10 : decode cX8_fills 10 = .ok (.aload_n 0, 1) := by decide +kernel
theorem dX8_fills_11 : decode cX8_fills 11 = .ok (.aload_n 0, 1) := by decide +kernel
theorem dX8_fills_12 : decode cX8_fills 12 = .ok (.getfield 65, 3) := by decide +kernel
theorem dX8_fills_15 : decode cX8_fills 15 = .ok (.aload_n 0, 1) := by decide +kernel
theorem dX8_fills_16 : decode cX8_fills 16 = .ok (.getfield 208, 3) := by decide +kernel
theorem dX8_fills_19 : decode cX8_fills 19 = .ok (.iaload, 1) := by decide +kernel
theorem dX8_fills_20 : decode cX8_fills 20 = .ok (.aload_n 0, 1) := by decide +kernel
theorem dX8_fills_21 : decode cX8_fills 21 = .ok (.getfield 68, 3) := by decide +kernel
theorem dX8_fills_24 : decode cX8_fills 24 = .ok (.aload_n 0, 1) := by decide +kernel
theorem dX8_fills_25 : decode cX8_fills 25 = .ok (.getfield 208, 3) := by decide +kernel
theorem dX8_fills_28 : decode cX8_fills 28 = .ok (.iaload, 1) := by decide +kernel
theorem dX8_fills_29 : decode cX8_fills 29 = .ok (.iconst 1, 1) := by decide +kernel
theorem dX8_fills_30 : decode cX8_fills 30 = .ok (.isub, 1) := by decide +kernel
theorem dX8_fills_31 : decode cX8_fills 31 = .ok (.invokevirtual 150, 3) := by decide +kernel
theorem dX8_fills_34 : decode cX8_fills 34 = .ok (.istore_n 2, 1) := by decide +kernel
theorem dX8_fills_35 : decode cX8_fills 35 = .ok (.iload_n 1, 1) := by decide +kernel
theorem dX8_fills_36 : decode cX8_fills 36 = .ok (.ifCond .ge 12, 3) := by decide +kernel
theorem dX8_fills_39 : decode cX8_fills 39 = .ok (.aload_n 0, 1) := by decide +kernel
theorem dX8_fills_40 : decode cX8_fills 40 = .ok (.bipush 63, 2) := by decide +kernel
theorem dX8_fills_42 : decode cX8_fills 42 = .ok (.invokevirtual 217, 3) := by decide +kernel
theorem dX8_fills_45 : decode cX8_fills 45 = .ok (.goto 40, 3) := by decide +kernel
theorem dX8_fills_48 : decode cX8_fills 48 = .ok (.iload_n 2, 1) := by decide +kernel
theorem dX8_fills_49 : decode cX8_fills 49 = .ok (.aload_n 0, 1) := by decide +kernel
theorem dX8_fills_50 : decode cX8_fills 50 = .ok (.getfield 83, 3) := by decide +kernel
theorem dX8_fills_53 : decode cX8_fills 53 = .ok (.iload_n 1, 1) := by decide +kernel
theorem dX8_fills_54 : decode cX8_fills 54 = .ok (.iaload, 1) := by decide +kernel
theorem dX8_fills_55 : decode cX8_fills 55 = .ok (.if_icmp .ge 30, 3) := by decide +kernel
theorem dX8_fills_58 : decode cX8_fills 58 = .ok (.aload_n 0, 1) := by decide +kernel
theorem dX8_fills_59 : decode cX8_fills 59 = .ok (.aload_n 0, 1) := by decide +kernel
theorem dX8_fills_60 : decode cX8_fills 60 = .ok (.getfield 77, 3) := by decide +kernel
theorem dX8_fills_63 : decode cX8_fills 63 = .ok (.iload_n 1, 1) := by decide +kernel
theorem dX8_fills_64 : decode cX8_fills 64 = .ok (.iaload, 1) := by decide +kernel
theorem dX8_fills_65 : decode cX8_fills 65 = .ok (.aload_n 0, 1) := by decide +kernel
theorem dX8_fills_66 : decode cX8_fills 66 = .ok (.getfield 86, 3) := by decide +kernel
theorem dX8_fills_69 : decode cX8_fills 69 = .ok (.bipush 6, 2) := by decide +kernel
theorem dX8_fills_71 : decode cX8_fills 71 = .ok (.iload_n 1, 1) := by decide +kernel
theorem dX8_fills_72 : decode cX8_fills 72 = .ok (.imul, 1) := by decide +kernel
theorem dX8_fills_73 : decode cX8_fills 73 = .ok (.iload_n 2, 1) := by decide +kernel
theorem dX8_fills_74 : decode cX8_fills 74 = .ok (.iadd, 1) := by decide +kernel
theorem dX8_fills_75 : decode cX8_fills 75 = .ok (.iaload, 1) := by decide +kernel
theorem dX8_fills_76 : decode cX8_fills 76 = .ok (.aload_n 0, 1) := by decide +kernel
theorem dX8_fills_77 : decode cX8_fills 77 = .ok (.getfield 80, 3) := by decide +kernel
theorem dX8_fills_80 : decode cX8_fills 80 = .ok (.iload_n 1, 1) := by decide +kernel
theorem dX8_fills_81 : decode cX8_fills 81 = .ok (.iaload, 1) := by decide +kernel
theorem dX8_fills_82 : decode cX8_fills 82 = .ok (.invokevirtual 220, 3) := by decide +kernel
theorem dX8_fills_85 : decode cX8_fills 85 = .ok (.return_, 1) := by decide +kernel
theorem dX8_spells_0 : decode cX8_spells 0 = .ok (.aload_n 0, 1) := by decide +kernel
theorem dX8_spells_1 : decode cX8_spells 1 = .ok (.iconst 0, 1) := by decide +kernel
theorem dX8_spells_2 : decode cX8_spells 2 = .ok (.putfield 205, 3) := by decide +kernel
theorem dX8_spells_5 : decode cX8_spells 5 = .ok (.aload_n 0, 1) := by decide +kernel
theorem dX8_spells_6 : decode cX8_spells 6 = .ok (.iconst 0, 1) := by decide +kernel
theorem dX8_spells_7 : decode cX8_spells 7 = .ok (.putfield 211, 3) := by decide +kernel
theorem dX8_spells_10 : decode cX8_spells 10 = .ok (.aload_n 0, 1) := by decide +kernel
theorem dX8_spells_11 : decode cX8_spells 11 = .ok (.iconst (-1), 1) := by decide +kernel
theorem dX8_spells_12 : decode cX8_spells 12 = .ok (.putfield 208, 3) := by decide +kernel
theorem dX8_spells_15 : decode cX8_spells 15 = .ok (.aload_n 0, 1) := by decide +kernel
theorem dX8_spells_16 : decode cX8_spells 16 = .ok (.bipush 26, 2) := by decide +kernel
theorem dX8_spells_18 : decode cX8_spells 18 = .ok (.iconst 0, 1) := by decide +kernel
theorem dX8_spells_19 : decode cX8_spells 19 = .ok (.iconst (-1), 1) := by decide +kernel
theorem dX8_spells_20 : decode cX8_spells 20 = .ok (.invokevirtual 220, 3) := by decide +kernel
theorem dX8_spells_23 : decode cX8_spells 23 = .ok (.aload_n 0, 1) := by decide +kernel
theorem dX8_spells_24 : decode cX8_spells 24 = .ok (.getfield 208, 3) := by decide +kernel
theorem dX8_spells_27 : decode cX8_spells 27 = .ok (.ifCond .lt 133, 3) := by decide +kernel
theorem dX8_spells_30 : decode cX8_spells 30 = .ok (.aload_n 0, 1) := by decide +kernel
theorem dX8_spells_31 : decode cX8_spells 31 = .ok (.getfield 68, 3) := by decide +kernel
theorem dX8_spells_34 : decode cX8_spells 34 = .ok (.aload_n 0, 1) := by decide +kernel
theorem dX8_spells_35 : decode cX8_spells 35 = .ok (.getfield 208, 3) := by decide +kernel
theorem dX8_spells_38 : decode cX8_spells 38 = .ok (.iaload, 1) := by decide +kernel
theorem dX8_spells_39 : decode cX8_spells 39 = .ok (.aload_n 0, 1) := by decide +kernel
theorem dX8_spells_40 : decode cX8_spells 40 = .ok (.aload_n 0, 1) := by decide +kernel
theorem dX8_spells_41 : decode cX8_spells 41 = .ok (.getfield 65, 3) := by decide +kernel
theorem dX8_spells_44 : decode cX8_spells 44 = .ok (.aload_n 0, 1) := by decide +kernel
theorem dX8_spells_45 : decode cX8_spells 45 = .ok (.getfield 208, 3) := by decide +kernel
theorem dX8_spells_48 : decode cX8_spells 48 = .ok (.iaload, 1) := by decide +kernel
theorem dX8_spells_49 : decode cX8_spells 49 = .ok (.invokevirtual 191, 3) := by decide +kernel
theorem dX8_spells_52 : decode cX8_spells 52 = .ok (.if_icmp .ge 28, 3) := by decide +kernel
theorem dX8_spells_55 : decode cX8_spells 55 = .ok (.aload_n 0, 1) := by decide +kernel
theorem dX8_spells_56 : decode cX8_spells 56 = .ok (.aload_n 0, 1) := by decide +kernel
theorem dX8_spells_57 : decode cX8_spells 57 = .ok (.getfield 65, 3) := by decide +kernel
theorem dX8_spells_60 : decode cX8_spells 60 = .ok (.aload_n 0, 1) := by decide +kernel
theorem dX8_spells_61 : decode cX8_spells 61 = .ok (.getfield 208, 3) := by decide +kernel
theorem dX8_spells_64 : decode cX8_spells 64 = .ok (.iaload, 1) := by decide +kernel
theorem dX8_spells_65 : decode cX8_spells 65 = .ok (.aload_n 0, 1) := by decide +kernel
theorem dX8_spells_66 : decode cX8_spells 66 = .ok (.getfield 68, 3) := by decide +kernel
theorem dX8_spells_69 : decode cX8_spells 69 = .ok (.aload_n 0, 1) := by decide +kernel
theorem dX8_spells_70 : decode cX8_spells 70 = .ok (.getfield 208, 3) := by decide +kernel
theorem dX8_spells_73 : decode cX8_spells 73 = .ok (.iaload, 1) := by decide +kernel
theorem dX8_spells_74 : decode cX8_spells 74 = .ok (.invokevirtual 135, 3) := by decide +kernel
theorem dX8_spells_77 : decode cX8_spells 77 = .ok (.goto 5, 3) := by decide +kernel
theorem dX8_spells_80 : decode cX8_spells 80 = .ok (.bipush 41, 2) := by decide +kernel
theorem dX8_spells_82 : decode cX8_spells 82 = .ok (.istore_n 1, 1) := by decide +kernel
theorem dX8_spells_83 : decode cX8_spells 83 = .ok (.iload_n 1, 1) := by decide +kernel
theorem dX8_spells_84 : decode cX8_spells 84 = .ok (.bipush 44, 2) := by decide +kernel
theorem dX8_spells_86 : decode cX8_spells 86 = .ok (.if_icmp .eq 9, 3) := by decide +kernel
theorem dX8_spells_89 : decode cX8_spells 89 = .ok (.iload_n 1, 1) := by decide +kernel
theorem dX8_spells_90 : decode cX8_spells 90 = .ok (.bipush 41, 2) := by decide +kernel
theorem dX8_spells_92 : decode cX8_spells 92 = .ok (.if_icmp .ne 16, 3) := by decide +kernel
theorem dX8_spells_95 : decode cX8_spells 95 = .ok (.aload_n 0, 1) := by decide +kernel
theorem dX8_spells_96 : decode cX8_spells 96 = .ok (.dup, 1) := by decide +kernel
theorem dX8_spells_97 : decode cX8_spells 97 = .ok (.getfield 208, 3) := by decide +kernel
theorem dX8_spells_100 : decode cX8_spells 100 = .ok (.iconst 1, 1) := by decide +kernel
theorem dX8_spells_101 : decode cX8_spells 101 = .ok (.isub, 1) := by decide +kernel
theorem dX8_spells_102 : decode cX8_spells 102 = .ok (.putfield 208, 3) := by decide +kernel
theorem dX8_spells_105 : decode cX8_spells 105 = .ok (.goto 52, 3) := by decide +kernel
theorem dX8_spells_108 : decode cX8_spells 108 = .ok (.aload_n 0, 1) := by decide +kernel
theorem dX8_spells_109 : decode cX8_spells 109 = .ok (.getfield 68, 3) := by decide +kernel
theorem dX8_spells_112 : decode cX8_spells 112 = .ok (.aload_n 0, 1) := by decide +kernel
theorem dX8_spells_113 : decode cX8_spells 113 = .ok (.getfield 208, 3) := by decide +kernel
theorem dX8_spells_116 : decode cX8_spells 116 = .ok (.dup2, 1) := by decide +kernel
theorem dX8_spells_117 : decode cX8_spells 117 = .ok (.iaload, 1) := by decide +kernel
theorem dX8_spells_118 : decode cX8_spells 118 = .ok (.iconst 1, 1) := by decide +kernel
theorem dX8_spells_119 : decode cX8_spells 119 = .ok (.iadd, 1) := by decide +kernel
theorem dX8_spells_120 : decode cX8_spells 120 = .ok (.iastore, 1) := by decide +kernel
theorem dX8_spells_121 : decode cX8_spells 121 = .ok (.iload_n 1, 1) := by decide +kernel
theorem dX8_spells_122 : decode cX8_spells 122 = .ok (.invokestatic 125, 3) := by decide +kernel
theorem dX8_spells_125 : decode cX8_spells 125 = .ok (.ifCond .eq 14, 3) := by decide +kernel
theorem dX8_spells_128 : decode cX8_spells 128 = .ok (.aload_n 0, 1) := by decide +kernel
theorem dX8_spells_129 : decode cX8_spells 129 = .ok (.iload_n 1, 1) := by decide +kernel
theorem dX8_spells_130 : decode cX8_spells 130 = .ok (.bipush 65, 2) := by decide +kernel
theorem dX8_spells_132 : decode cX8_spells 132 = .ok (.isub, 1) := by decide +kernel
theorem dX8_spells_133 : decode cX8_spells 133 = .ok (.invokevirtual 224, 3) := by decide +kernel
theorem dX8_spells_136 : decode cX8_spells 136 = .ok (.goto 21, 3) := by decide +kernel
theorem dX8_spells_139 : decode cX8_spells 139 = .ok (.iload_n 1, 1) := by decide +kernel
theorem dX8_spells_140 : decode cX8_spells 140 = .ok (.bipush 63, 2) := by decide +kernel
theorem dX8_spells_142 : decode cX8_spells 142 = .ok (.if_icmp .ne 10, 3) := by decide +kernel
theorem dX8_spells_145 : decode cX8_spells 145 = .ok (.aload_n 0, 1) := by decide +kernel
theorem dX8_spells_146 : decode cX8_spells 146 = .ok (.invokevirtual 226, 3) := by decide +kernel
theorem dX8_spells_149 : decode cX8_spells 149 = .ok (.goto 8, 3) := by decide +kernel
theorem dX8_spells_152 : decode cX8_spells 152 = .ok (.aload_n 0, 1) := by decide +kernel
theorem dX8_spells_153 : decode cX8_spells 153 = .ok (.iload_n 1, 1) := by decide +kernel
theorem dX8_spells_154 : decode cX8_spells 154 = .ok (.invokevirtual 217, 3) := by decide +kernel
theorem dX8_spells_157 : decode cX8_spells 157 = .ok (.goto (-134), 3) := by decide +kernel
theorem dX8_spells_160 : decode cX8_spells 160 = .ok (.return_, 1) := by decide +kernel
theorem dX8_expand_0 : decode cX8_expand 0 = .ok (.aload_n 0, 1) := by decide +kernel
theorem dX8_expand_1 : decode cX8_expand 1 = .ok (.aload_n 0, 1) := by decide +kernel
theorem dX8_expand_2 : decode cX8_expand 2 = .ok (.invokevirtual 139, 3) := by decide +kernel
theorem dX8_expand_5 : decode cX8_expand 5 = .ok (.ifCond .eq 7, 3) := by decide +kernel
theorem dX8_expand_8 : decode cX8_expand 8 = .ok (.iconst 0, 1) := by decide +kernel
theorem dX8_expand_9 : decode cX8_expand 9 = .ok (.goto 4, 3) := by decide +kernel
theorem dX8_expand_12 : decode cX8_expand 12 = .ok (.iconst 1, 1) := by decide +kernel
theorem dX8_expand_13 : decode cX8_expand 13 = .ok (.invokevirtual 116, 3) := by decide +kernel
theorem dX8_expand_16 : decode cX8_expand 16 = .ok (.ifCond .eq 5, 3) := by decide +kernel
theorem dX8_expand_19 : decode cX8_expand 19 = .ok (.iconst 0, 1) := by decide +kernel
theorem dX8_expand_20 : decode cX8_expand 20 = .ok (.ireturn, 1) := by decide +kernel
theorem dX8_expand_21 : decode cX8_expand 21 = .ok (.aload_n 0, 1) := by decide +kernel
theorem dX8_expand_22 : decode cX8_expand 22 = .ok (.invokevirtual 143, 3) := by decide +kernel
theorem dX8_expand_25 : decode cX8_expand 25 = .ok (.aload_n 0, 1) := by decide +kernel
theorem dX8_expand_26 : decode cX8_expand 26 = .ok (.bipush 26, 2) := by decide +kernel
theorem dX8_expand_28 : decode cX8_expand 28 = .ok (.invokevirtual 229, 3) := by decide +kernel
theorem dX8_expand_31 : decode cX8_expand 31 = .ok (.aload_n 0, 1) := by decide +kernel
theorem dX8_expand_32 : decode cX8_expand 32 = .ok (.invokevirtual 232, 3) := by decide +kernel
theorem dX8_expand_35 : decode cX8_expand 35 = .ok (.ifCond .ne 17, 3) := by decide +kernel
theorem dX8_expand_38 : decode cX8_expand 38 = .ok (.aload_n 0, 1) := by decide +kernel
theorem dX8_expand_39 : decode cX8_expand 39 = .ok (.getfield 7, 3) := by decide +kernel
theorem dX8_expand_42 : decode cX8_expand 42 = .ok (.sipush 1791, 3) := by decide +kernel
theorem dX8_expand_45 : decode cX8_expand 45 = .ok (.dup2, 1) := by decide +kernel
theorem dX8_expand_46 : decode cX8_expand 46 = .ok (.iaload, 1) := by decide +kernel
theorem dX8_expand_47 : decode cX8_expand 47 = .ok (.iconst 1, 1) := by decide +kernel
theorem dX8_expand_48 : decode cX8_expand 48 = .ok (.iadd, 1) := by decide +kernel
theorem dX8_expand_49 : decode cX8_expand 49 = .ok (.iastore, 1) := by decide +kernel
theorem dX8_expand_50 : decode cX8_expand 50 = .ok (.iconst (-1), 1) := by decide +kernel
theorem dX8_expand_51 : decode cX8_expand 51 = .ok (.ireturn, 1) := by decide +kernel
theorem dX8_expand_52 : decode cX8_expand 52 = .ok (.iconst 0, 1) := by decide +kernel
theorem dX8_expand_53 : decode cX8_expand 53 = .ok (.istore_n 1, 1) := by decide +kernel
theorem dX8_expand_54 : decode cX8_expand 54 = .ok (.iload_n 1, 1) := by decide +kernel
theorem dX8_expand_55 : decode cX8_expand 55 = .ok (.sipush 360, 3) := by decide +kernel
theorem dX8_expand_58 : decode cX8_expand 58 = .ok (.if_icmp .ge 40, 3) := by decide +kernel
theorem dX8_expand_61 : decode cX8_expand 61 = .ok (.aload_n 0, 1) := by decide +kernel
theorem dX8_expand_62 : decode cX8_expand 62 = .ok (.getfield 7, 3) := by decide +kernel
theorem dX8_expand_65 : decode cX8_expand 65 = .ok (.sipush 1793, 3) := by decide +kernel
theorem dX8_expand_68 : decode cX8_expand 68 = .ok (.iload_n 1, 1) := by decide +kernel
theorem dX8_expand_69 : decode cX8_expand 69 = .ok (.iadd, 1) := by decide +kernel
theorem dX8_expand_70 : decode cX8_expand 70 = .ok (.iload_n 1, 1) := by decide +kernel
theorem dX8_expand_71 : decode cX8_expand 71 = .ok (.bipush 6, 2) := by decide +kernel
theorem dX8_expand_73 : decode cX8_expand 73 = .ok (.aload_n 0, 1) := by decide +kernel
theorem dX8_expand_74 : decode cX8_expand 74 = .ok (.getfield 163, 3) := by decide +kernel
theorem dX8_expand_77 : decode cX8_expand 77 = .ok (.imul, 1) := by decide +kernel
theorem dX8_expand_78 : decode cX8_expand 78 = .ok (.if_icmp .ge 12, 3) := by decide +kernel
theorem dX8_expand_81 : decode cX8_expand 81 = .ok (.aload_n 0, 1) := by decide +kernel
theorem dX8_expand_82 : decode cX8_expand 82 = .ok (.getfield 62, 3) := by decide +kernel
theorem dX8_expand_85 : decode cX8_expand 85 = .ok (.iload_n 1, 1) := by decide +kernel
theorem dX8_expand_86 : decode cX8_expand 86 = .ok (.iaload, 1) := by decide +kernel
theorem dX8_expand_87 : decode cX8_expand 87 = .ok (.goto 4, 3) := by decide +kernel
theorem dX8_expand_90 : decode cX8_expand 90 = .ok (.iconst 0, 1) := by decide +kernel
theorem dX8_expand_91 : decode cX8_expand 91 = .ok (.iastore, 1) := by decide +kernel
theorem dX8_expand_92 : decode cX8_expand 92 = .ok (.iinc 1 1, 3) := by decide +kernel
theorem dX8_expand_95 : decode cX8_expand 95 = .ok (.goto (-41), 3) := by decide +kernel
theorem dX8_expand_98 : decode cX8_expand 98 = .ok (.aload_n 0, 1) := by decide +kernel
theorem dX8_expand_99 : decode cX8_expand 99 = .ok (.getfield 7, 3) := by decide +kernel
theorem dX8_expand_102 : decode cX8_expand 102 = .ok (.sipush 1792, 3) := by decide +kernel
theorem dX8_expand_105 : decode cX8_expand 105 = .ok (.aload_n 0, 1) := by decide +kernel
theorem dX8_expand_106 : decode cX8_expand 106 = .ok (.getfield 163, 3) := by decide +kernel
theorem dX8_expand_109 : decode cX8_expand 109 = .ok (.iastore, 1) := by decide +kernel
theorem dX8_expand_110 : decode cX8_expand 110 = .ok (.aload_n 0, 1) := by decide +kernel
theorem dX8_expand_111 : decode cX8_expand 111 = .ok (.getfield 7, 3) := by decide +kernel
theorem dX8_expand_114 : decode cX8_expand 114 = .ok (.sipush 1788, 3) := by decide +kernel
theorem dX8_expand_117 : decode cX8_expand 117 = .ok (.aload_n 0, 1) := by decide +kernel
theorem dX8_expand_118 : decode cX8_expand 118 = .ok (.getfield 169, 3) := by decide +kernel
theorem dX8_expand_121 : decode cX8_expand 121 = .ok (.iastore, 1) := by decide +kernel
theorem dX8_expand_122 : decode cX8_expand 122 = .ok (.aload_n 0, 1) := by decide +kernel
theorem dX8_expand_123 : decode cX8_expand 123 = .ok (.getfield 7, 3) := by decide +kernel
theorem dX8_expand_126 : decode cX8_expand 126 = .ok (.sipush 1789, 3) := by decide +kernel
theorem dX8_expand_129 : decode cX8_expand 129 = .ok (.aload_n 0, 1) := by decide +kernel
theorem dX8_expand_130 : decode cX8_expand 130 = .ok (.getfield 172, 3) := by decide +kernel
theorem dX8_expand_133 : decode cX8_expand 133 = .ok (.iastore, 1) := by decide +kernel
theorem dX8_expand_134 : decode cX8_expand 134 = .ok (.aload_n 0, 1) := by decide +kernel
theorem dX8_expand_135 : decode cX8_expand 135 = .ok (.getfield 7, 3) := by decide +kernel
theorem dX8_expand_138 : decode cX8_expand 138 = .ok (.sipush 1790, 3) := by decide +kernel
theorem dX8_expand_141 : decode cX8_expand 141 = .ok (.dup2, 1) := by decide +kernel
theorem dX8_expand_142 : decode cX8_expand 142 = .ok (.iaload, 1) := by decide +kernel
theorem dX8_expand_143 : decode cX8_expand 143 = .ok (.iconst 1, 1) := by decide +kernel
theorem dX8_expand_144 : decode cX8_expand 144 = .ok (.iadd, 1) := by decide +kernel
theorem dX8_expand_145 : decode cX8_expand 145 = .ok (.iastore, 1) := by decide +kernel
theorem dX8_expand_146 : decode cX8_expand 146 = .ok (.aload_n 0, 1) := by decide +kernel
theorem dX8_expand_147 : decode cX8_expand 147 = .ok (.invokevirtual 235, 3) := by decide +kernel
theorem dX8_expand_150 : decode cX8_expand 150 = .ok (.aload_n 0, 1) := by decide +kernel
theorem dX8_expand_151 : decode cX8_expand 151 = .ok (.getfield 7, 3) := by decide +kernel
theorem dX8_expand_154 : decode cX8_expand 154 = .ok (.sipush 1587, 3) := by decide +kernel
theorem dX8_expand_157 : decode cX8_expand 157 = .ok (.aload_n 0, 1) := by decide +kernel
theorem dX8_expand_158 : decode cX8_expand 158 = .ok (.getfield 205, 3) := by decide +kernel
theorem dX8_expand_161 : decode cX8_expand 161 = .ok (.iastore, 1) := by decide +kernel
theorem dX8_expand_162 : decode cX8_expand 162 = .ok (.aload_n 0, 1) := by decide +kernel
theorem dX8_expand_163 : decode cX8_expand 163 = .ok (.getfield 205, 3) := by decide +kernel
theorem dX8_expand_166 : decode cX8_expand 166 = .ok (.ireturn, 1) := by decide +kernel
theorem dX8_undo_0 : decode cX8_undo 0 = .ok (.aload_n 0, 1) := by decide +kernel
theorem dX8_undo_1 : decode cX8_undo 1 = .ok (.aload_n 0, 1) := by decide +kernel
theorem dX8_undo_2 : decode cX8_undo 2 = .ok (.getfield 109, 3) := by decide +kernel
theorem dX8_undo_5 : decode cX8_undo 5 = .ok (.ifCond .ne 7, 3) := by decide +kernel
theorem dX8_undo_8 : decode cX8_undo 8 = .ok (.iconst 1, 1) := by decide +kernel
theorem dX8_undo_9 : decode cX8_undo 9 = .ok (.goto 4, 3) := by decide +kernel
theorem dX8_undo_12 : decode cX8_undo 12 = .ok (.iconst 0, 1) := by decide +kernel
theorem dX8_undo_13 : decode cX8_undo 13 = .ok (.invokevirtual 116, 3) := by decide +kernel
theorem dX8_undo_16 : decode cX8_undo 16 = .ok (.ifCond .eq 5, 3) := by decide +kernel
theorem dX8_undo_19 : decode cX8_undo 19 = .ok (.iconst 0, 1) := by decide +kernel
theorem dX8_undo_20 : decode cX8_undo 20 = .ok (.ireturn, 1) := by decide +kernel
theorem dX8_undo_21 : decode cX8_undo 21 = .ok (.aload_n 0, 1) := by decide +kernel
theorem dX8_undo_22 : decode cX8_undo 22 = .ok (.dup, 1) := by decide +kernel
theorem dX8_undo_23 : decode cX8_undo 23 = .ok (.getfield 109, 3) := by decide +kernel
theorem dX8_undo_26 : decode cX8_undo 26 = .ok (.iconst 1, 1) := by decide +kernel
theorem dX8_undo_27 : decode cX8_undo 27 = .ok (.isub, 1) := by decide +kernel
theorem dX8_undo_28 : decode cX8_undo 28 = .ok (.putfield 109, 3) := by decide +kernel
theorem dX8_undo_31 : decode cX8_undo 31 = .ok (.iconst 0, 1) := by decide +kernel
theorem dX8_undo_32 : decode cX8_undo 32 = .ok (.istore_n 1, 1) := by decide +kernel
theorem dX8_undo_33 : decode cX8_undo 33 = .ok (.iload_n 1, 1) := by decide +kernel
theorem dX8_undo_34 : decode cX8_undo 34 = .ok (.sipush 2153, 3) := by decide +kernel
theorem dX8_undo_37 : decode cX8_undo 37 = .ok (.if_icmp .ge 30, 3) := by decide +kernel
theorem dX8_undo_40 : decode cX8_undo 40 = .ok (.aload_n 0, 1) := by decide +kernel
theorem dX8_undo_41 : decode cX8_undo 41 = .ok (.getfield 7, 3) := by decide +kernel
theorem dX8_undo_44 : decode cX8_undo 44 = .ok (.iload_n 1, 1) := by decide +kernel
theorem dX8_undo_45 : decode cX8_undo 45 = .ok (.aload_n 0, 1) := by decide +kernel
theorem dX8_undo_46 : decode cX8_undo 46 = .ok (.getfield 13, 3) := by decide +kernel
theorem dX8_undo_49 : decode cX8_undo 49 = .ok (.sipush 2153, 3) := by decide +kernel
theorem dX8_undo_52 : decode cX8_undo 52 = .ok (.aload_n 0, 1) := by decide +kernel
theorem dX8_undo_53 : decode cX8_undo 53 = .ok (.getfield 109, 3) := by decide +kernel
theorem dX8_undo_56 : decode cX8_undo 56 = .ok (.imul, 1) := by decide +kernel
theorem dX8_undo_57 : decode cX8_undo 57 = .ok (.iload_n 1, 1) := by decide +kernel
theorem dX8_undo_58 : decode cX8_undo 58 = .ok (.iadd, 1) := by decide +kernel
theorem dX8_undo_59 : decode cX8_undo 59 = .ok (.iaload, 1) := by decide +kernel
theorem dX8_undo_60 : decode cX8_undo 60 = .ok (.iastore, 1) := by decide +kernel
theorem dX8_undo_61 : decode cX8_undo 61 = .ok (.iinc 1 1, 3) := by decide +kernel
theorem dX8_undo_64 : decode cX8_undo 64 = .ok (.goto (-31), 3) := by decide +kernel
theorem dX8_undo_67 : decode cX8_undo 67 = .ok (.aload_n 0, 1) := by decide +kernel
theorem dX8_undo_68 : decode cX8_undo 68 = .ok (.getfield 109, 3) := by decide +kernel
theorem dX8_undo_71 : decode cX8_undo 71 = .ok (.ireturn, 1) := by decide +kernel
theorem dX8_keep_0 : decode cX8_keep 0 = .ok (.aload_n 0, 1) := by decide +kernel
theorem dX8_keep_1 : decode cX8_keep 1 = .ok (.iload_n 1, 1) := by decide +kernel
theorem dX8_keep_2 : decode cX8_keep 2 = .ok (.iconst 0, 1) := by decide +kernel
theorem dX8_keep_3 : decode cX8_keep 3 = .ok (.iconst 1, 1) := by decide +kernel
theorem dX8_keep_4 : decode cX8_keep 4 = .ok (.invokestatic 102, 3) := by decide +kernel
theorem dX8_keep_7 : decode cX8_keep 7 = .ok (.ifCond .eq 7, 3) := by decide +kernel
theorem dX8_keep_10 : decode cX8_keep 10 = .ok (.iconst 0, 1) := by decide +kernel
theorem dX8_keep_11 : decode cX8_keep 11 = .ok (.goto 4, 3) := by decide +kernel
theorem dX8_keep_14 : decode cX8_keep 14 = .ok (.iconst 1, 1) := by decide +kernel
theorem dX8_keep_15 : decode cX8_keep 15 = .ok (.invokevirtual 116, 3) := by decide +kernel
theorem dX8_keep_18 : decode cX8_keep 18 = .ok (.ifCond .eq 5, 3) := by decide +kernel
theorem dX8_keep_21 : decode cX8_keep 21 = .ok (.iconst 0, 1) := by decide +kernel
theorem dX8_keep_22 : decode cX8_keep 22 = .ok (.ireturn, 1) := by decide +kernel
theorem dX8_keep_23 : decode cX8_keep 23 = .ok (.iconst 0, 1) := by decide +kernel
theorem dX8_keep_24 : decode cX8_keep 24 = .ok (.istore_n 2, 1) := by decide +kernel
theorem dX8_keep_25 : decode cX8_keep 25 = .ok (.iload_n 2, 1) := by decide +kernel
theorem dX8_keep_26 : decode cX8_keep 26 = .ok (.sipush 2153, 3) := by decide +kernel
theorem dX8_keep_29 : decode cX8_keep 29 = .ok (.if_icmp .ge 27, 3) := by decide +kernel
theorem dX8_keep_32 : decode cX8_keep 32 = .ok (.aload_n 0, 1) := by decide +kernel
theorem dX8_keep_33 : decode cX8_keep 33 = .ok (.getfield 16, 3) := by decide +kernel
theorem dX8_keep_36 : decode cX8_keep 36 = .ok (.sipush 2153, 3) := by decide +kernel
theorem dX8_keep_39 : decode cX8_keep 39 = .ok (.iload_n 1, 1) := by decide +kernel
theorem dX8_keep_40 : decode cX8_keep 40 = .ok (.imul, 1) := by decide +kernel
theorem dX8_keep_41 : decode cX8_keep 41 = .ok (.iload_n 2, 1) := by decide +kernel
theorem dX8_keep_42 : decode cX8_keep 42 = .ok (.iadd, 1) := by decide +kernel
theorem dX8_keep_43 : decode cX8_keep 43 = .ok (.aload_n 0, 1) := by decide +kernel
theorem dX8_keep_44 : decode cX8_keep 44 = .ok (.getfield 7, 3) := by decide +kernel
theorem dX8_keep_47 : decode cX8_keep 47 = .ok (.iload_n 2, 1) := by decide +kernel
theorem dX8_keep_48 : decode cX8_keep 48 = .ok (.iaload, 1) := by decide +kernel
theorem dX8_keep_49 : decode cX8_keep 49 = .ok (.iastore, 1) := by decide +kernel
theorem dX8_keep_50 : decode cX8_keep 50 = .ok (.iinc 2 1, 3) := by decide +kernel
theorem dX8_keep_53 : decode cX8_keep 53 = .ok (.goto (-28), 3) := by decide +kernel
theorem dX8_keep_56 : decode cX8_keep 56 = .ok (.aload_n 0, 1) := by decide +kernel
theorem dX8_keep_57 : decode cX8_keep 57 = .ok (.getfield 19, 3) := by decide +kernel
theorem dX8_keep_60 : decode cX8_keep 60 = .ok (.iload_n 1, 1) := by decide +kernel
theorem dX8_keep_61 : decode cX8_keep 61 = .ok (.iconst 1, 1) := by decide +kernel
theorem dX8_keep_62 : decode cX8_keep 62 = .ok (.bastore, 1) := by decide +kernel
theorem dX8_keep_63 : decode cX8_keep 63 = .ok (.aload_n 0, 1) := by decide +kernel
theorem dX8_keep_64 : decode cX8_keep 64 = .ok (.invokevirtual 153, 3) := by decide +kernel
theorem dX8_keep_67 : decode cX8_keep 67 = .ok (.ireturn, 1) := by decide +kernel
theorem dX8_goBack_0 : decode cX8_goBack 0 = .ok (.aload_n 0, 1) := by decide +kernel
theorem dX8_goBack_1 : decode cX8_goBack 1 = .ok (.iload_n 1, 1) := by decide +kernel
theorem dX8_goBack_2 : decode cX8_goBack 2 = .ok (.iconst 0, 1) := by decide +kernel
theorem dX8_goBack_3 : decode cX8_goBack 3 = .ok (.iconst 1, 1) := by decide +kernel
theorem dX8_goBack_4 : decode cX8_goBack 4 = .ok (.invokestatic 102, 3) := by decide +kernel
theorem dX8_goBack_7 : decode cX8_goBack 7 = .ok (.ifCond .ne 7, 3) := by decide +kernel
theorem dX8_goBack_10 : decode cX8_goBack 10 = .ok (.iconst 1, 1) := by decide +kernel
theorem dX8_goBack_11 : decode cX8_goBack 11 = .ok (.goto 17, 3) := by decide +kernel
theorem dX8_goBack_14 : decode cX8_goBack 14 = .ok (.aload_n 0, 1) := by decide +kernel
theorem dX8_goBack_15 : decode cX8_goBack 15 = .ok (.getfield 19, 3) := by decide +kernel
theorem dX8_goBack_18 : decode cX8_goBack 18 = .ok (.iload_n 1, 1) := by decide +kernel
theorem dX8_goBack_19 : decode cX8_goBack 19 = .ok (.baload, 1) := by decide +kernel
theorem dX8_goBack_20 : decode cX8_goBack 20 = .ok (.ifCond .eq 7, 3) := by decide +kernel
theorem dX8_goBack_23 : decode cX8_goBack 23 = .ok (.iconst 0, 1) := by decide +kernel
theorem dX8_goBack_24 : decode cX8_goBack 24 = .ok (.goto 4, 3) := by decide +kernel
theorem dX8_goBack_27 : decode cX8_goBack 27 = .ok (.iconst 2, 1) := by decide +kernel
theorem dX8_goBack_28 : decode cX8_goBack 28 = .ok (.invokevirtual 116, 3) := by decide +kernel
theorem dX8_goBack_31 : decode cX8_goBack 31 = .ok (.ifCond .eq 5, 3) := by decide +kernel
theorem dX8_goBack_34 : decode cX8_goBack 34 = .ok (.iconst 0, 1) := by decide +kernel
theorem dX8_goBack_35 : decode cX8_goBack 35 = .ok (.ireturn, 1) := by decide +kernel
theorem dX8_goBack_36 : decode cX8_goBack 36 = .ok (.aload_n 0, 1) := by decide +kernel
theorem dX8_goBack_37 : decode cX8_goBack 37 = .ok (.invokevirtual 143, 3) := by decide +kernel
theorem dX8_goBack_40 : decode cX8_goBack 40 = .ok (.iconst 0, 1) := by decide +kernel
theorem dX8_goBack_41 : decode cX8_goBack 41 = .ok (.istore_n 2, 1) := by decide +kernel
theorem dX8_goBack_42 : decode cX8_goBack 42 = .ok (.iload_n 2, 1) := by decide +kernel
theorem dX8_goBack_43 : decode cX8_goBack 43 = .ok (.sipush 2153, 3) := by decide +kernel
theorem dX8_goBack_46 : decode cX8_goBack 46 = .ok (.if_icmp .ge 27, 3) := by decide +kernel
theorem dX8_goBack_49 : decode cX8_goBack 49 = .ok (.aload_n 0, 1) := by decide +kernel
theorem dX8_goBack_50 : decode cX8_goBack 50 = .ok (.getfield 7, 3) := by decide +kernel
theorem dX8_goBack_53 : decode cX8_goBack 53 = .ok (.iload_n 2, 1) := by decide +kernel
theorem dX8_goBack_54 : decode cX8_goBack 54 = .ok (.aload_n 0, 1) := by decide +kernel
theorem dX8_goBack_55 : decode cX8_goBack 55 = .ok (.getfield 16, 3) := by decide +kernel
theorem dX8_goBack_58 : decode cX8_goBack 58 = .ok (.sipush 2153, 3) := by decide +kernel
theorem dX8_goBack_61 : decode cX8_goBack 61 = .ok (.iload_n 1, 1) := by decide +kernel
theorem dX8_goBack_62 : decode cX8_goBack 62 = .ok (.imul, 1) := by decide +kernel
theorem dX8_goBack_63 : decode cX8_goBack 63 = .ok (.iload_n 2, 1) := by decide +kernel
theorem dX8_goBack_64 : decode cX8_goBack 64 = .ok (.iadd, 1) := by decide +kernel
theorem dX8_goBack_65 : decode cX8_goBack 65 = .ok (.iaload, 1) := by decide +kernel
theorem dX8_goBack_66 : decode cX8_goBack 66 = .ok (.iastore, 1) := by decide +kernel
theorem dX8_goBack_67 : decode cX8_goBack 67 = .ok (.iinc 2 1, 3) := by decide +kernel
theorem dX8_goBack_70 : decode cX8_goBack 70 = .ok (.goto (-28), 3) := by decide +kernel
theorem dX8_goBack_73 : decode cX8_goBack 73 = .ok (.aload_n 0, 1) := by decide +kernel
theorem dX8_goBack_74 : decode cX8_goBack 74 = .ok (.invokevirtual 153, 3) := by decide +kernel
theorem dX8_goBack_77 : decode cX8_goBack 77 = .ok (.ireturn, 1) := by decide +kernel
theorem dX8_callsOf_0 : decode cX8_callsOf 0 = .ok (.iconst 0, 1) := by decide +kernel
theorem dX8_callsOf_1 : decode cX8_callsOf 1 = .ok (.istore_n 2, 1) := by decide +kernel
theorem dX8_callsOf_2 : decode cX8_callsOf 2 = .ok (.iconst 0, 1) := by decide +kernel
theorem dX8_callsOf_3 : decode cX8_callsOf 3 = .ok (.istore_n 3, 1) := by decide +kernel
theorem dX8_callsOf_4 : decode cX8_callsOf 4 = .ok (.iload_n 3, 1) := by decide +kernel
theorem dX8_callsOf_5 : decode cX8_callsOf 5 = .ok (.aload_n 0, 1) := by decide +kernel
theorem dX8_callsOf_6 : decode cX8_callsOf 6 = .ok (.getfield 7, 3) := by decide +kernel
theorem dX8_callsOf_9 : decode cX8_callsOf 9 = .ok (.iload_n 1, 1) := by decide +kernel
theorem dX8_callsOf_10 : decode cX8_callsOf 10 = .ok (.iaload, 1) := by decide +kernel
theorem dX8_callsOf_11 : decode cX8_callsOf 11 = .ok (.if_icmp .ge 29, 3) := by decide +kernel
theorem dX8_callsOf_14 : decode cX8_callsOf 14 = .ok (.iload_n 2, 1) := by decide +kernel
theorem dX8_callsOf_15 : decode cX8_callsOf 15 = .ok (.aload_n 0, 1) := by decide +kernel
theorem dX8_callsOf_16 : decode cX8_callsOf 16 = .ok (.iload_n 1, 1) := by decide +kernel
theorem dX8_callsOf_17 : decode cX8_callsOf 17 = .ok (.iload_n 3, 1) := by decide +kernel
theorem dX8_callsOf_18 : decode cX8_callsOf 18 = .ok (.invokevirtual 135, 3) := by decide +kernel
end
section
theorem dX8_callsOf_21 : decode cX8_callsOf 21 = .ok (.invokestatic 125, 3) := by decide +kernel
theorem dX8_callsOf_24 : decode cX8_callsOf 24 = .ok (.ifCond .eq 7, 3) := by decide +kernel
theorem dX8_callsOf_27 : decode cX8_callsOf 27 = .ok (.iconst 1, 1) := by decide +kernel
theorem dX8_callsOf_28 : decode cX8_callsOf 28 = .ok (.goto 4, 3) := by decide +kernel
theorem dX8_callsOf_31 : decode cX8_callsOf 31 = .ok (.iconst 0, 1) := by decide +kernel
theorem dX8_callsOf_32 : decode cX8_callsOf 32 = .ok (.iadd, 1) := by decide +kernel
theorem dX8_callsOf_33 : decode cX8_callsOf 33 = .ok (.istore_n 2, 1) := by decide +kernel
theorem dX8_callsOf_34 : decode cX8_callsOf 34 = .ok (.iinc 3 1, 3) := by decide +kernel
theorem dX8_callsOf_37 : decode cX8_callsOf 37 = .ok (.goto (-33), 3) := by decide +kernel
theorem dX8_callsOf_40 : decode cX8_callsOf 40 = .ok (.iload_n 2, 1) := by decide +kernel
theorem dX8_callsOf_41 : decode cX8_callsOf 41 = .ok (.ireturn, 1) := by decide +kernel
theorem dX8_plainOf_0 : decode cX8_plainOf 0 = .ok (.iconst 0, 1) := by decide +kernel
theorem dX8_plainOf_1 : decode cX8_plainOf 1 = .ok (.istore_n 2, 1) := by decide +kernel
theorem dX8_plainOf_2 : decode cX8_plainOf 2 = .ok (.iconst 0, 1) := by decide +kernel
theorem dX8_plainOf_3 : decode cX8_plainOf 3 = .ok (.istore_n 3, 1) := by decide +kernel
theorem dX8_plainOf_4 : decode cX8_plainOf 4 = .ok (.iload_n 3, 1) := by decide +kernel
theorem dX8_plainOf_5 : decode cX8_plainOf 5 = .ok (.aload_n 0, 1) := by decide +kernel
theorem dX8_plainOf_6 : decode cX8_plainOf 6 = .ok (.getfield 7, 3) := by decide +kernel
theorem dX8_plainOf_9 : decode cX8_plainOf 9 = .ok (.iload_n 1, 1) := by decide +kernel
theorem dX8_plainOf_10 : decode cX8_plainOf 10 = .ok (.iaload, 1) := by decide +kernel
theorem dX8_plainOf_11 : decode cX8_plainOf 11 = .ok (.if_icmp .ge 29, 3) := by decide +kernel
theorem dX8_plainOf_14 : decode cX8_plainOf 14 = .ok (.iload_n 2, 1) := by decide +kernel
theorem dX8_plainOf_15 : decode cX8_plainOf 15 = .ok (.aload_n 0, 1) := by decide +kernel
theorem dX8_plainOf_16 : decode cX8_plainOf 16 = .ok (.iload_n 1, 1) := by decide +kernel
theorem dX8_plainOf_17 : decode cX8_plainOf 17 = .ok (.iload_n 3, 1) := by decide +kernel
theorem dX8_plainOf_18 : decode cX8_plainOf 18 = .ok (.invokevirtual 135, 3) := by decide +kernel
theorem dX8_plainOf_21 : decode cX8_plainOf 21 = .ok (.invokestatic 122, 3) := by decide +kernel
theorem dX8_plainOf_24 : decode cX8_plainOf 24 = .ok (.ifCond .eq 7, 3) := by decide +kernel
theorem dX8_plainOf_27 : decode cX8_plainOf 27 = .ok (.iconst 1, 1) := by decide +kernel
theorem dX8_plainOf_28 : decode cX8_plainOf 28 = .ok (.goto 4, 3) := by decide +kernel
theorem dX8_plainOf_31 : decode cX8_plainOf 31 = .ok (.iconst 0, 1) := by decide +kernel
theorem dX8_plainOf_32 : decode cX8_plainOf 32 = .ok (.iadd, 1) := by decide +kernel
theorem dX8_plainOf_33 : decode cX8_plainOf 33 = .ok (.istore_n 2, 1) := by decide +kernel
theorem dX8_plainOf_34 : decode cX8_plainOf 34 = .ok (.iinc 3 1, 3) := by decide +kernel
theorem dX8_plainOf_37 : decode cX8_plainOf 37 = .ok (.goto (-33), 3) := by decide +kernel
theorem dX8_plainOf_40 : decode cX8_plainOf 40 = .ok (.iload_n 2, 1) := by decide +kernel
theorem dX8_plainOf_41 : decode cX8_plainOf 41 = .ok (.ireturn, 1) := by decide +kernel
theorem dX8_mostOf_0 : decode cX8_mostOf 0 = .ok (.iconst 0, 1) := by decide +kernel
theorem dX8_mostOf_1 : decode cX8_mostOf 1 = .ok (.istore_n 3, 1) := by decide +kernel
theorem dX8_mostOf_2 : decode cX8_mostOf 2 = .ok (.iconst 0, 1) := by decide +kernel
theorem dX8_mostOf_3 : decode cX8_mostOf 3 = .ok (.istore 4, 2) := by decide +kernel
theorem dX8_mostOf_5 : decode cX8_mostOf 5 = .ok (.iconst 0, 1) := by decide +kernel
theorem dX8_mostOf_6 : decode cX8_mostOf 6 = .ok (.istore 5, 2) := by decide +kernel
theorem dX8_mostOf_8 : decode cX8_mostOf 8 = .ok (.iconst 0, 1) := by decide +kernel
theorem dX8_mostOf_9 : decode cX8_mostOf 9 = .ok (.istore 6, 2) := by decide +kernel
theorem dX8_mostOf_11 : decode cX8_mostOf 11 = .ok (.iload 6, 2) := by decide +kernel
theorem dX8_mostOf_13 : decode cX8_mostOf 13 = .ok (.aload_n 0, 1) := by decide +kernel
theorem dX8_mostOf_14 : decode cX8_mostOf 14 = .ok (.getfield 7, 3) := by decide +kernel
theorem dX8_mostOf_17 : decode cX8_mostOf 17 = .ok (.iload_n 1, 1) := by decide +kernel
theorem dX8_mostOf_18 : decode cX8_mostOf 18 = .ok (.iaload, 1) := by decide +kernel
theorem dX8_mostOf_19 : decode cX8_mostOf 19 = .ok (.if_icmp .ge 117, 3) := by decide +kernel
theorem dX8_mostOf_22 : decode cX8_mostOf 22 = .ok (.aload_n 0, 1) := by decide +kernel
theorem dX8_mostOf_23 : decode cX8_mostOf 23 = .ok (.iload_n 1, 1) := by decide +kernel
theorem dX8_mostOf_24 : decode cX8_mostOf 24 = .ok (.iload 6, 2) := by decide +kernel
theorem dX8_mostOf_26 : decode cX8_mostOf 26 = .ok (.invokevirtual 135, 3) := by decide +kernel
theorem dX8_mostOf_29 : decode cX8_mostOf 29 = .ok (.istore 7, 2) := by decide +kernel
theorem dX8_mostOf_31 : decode cX8_mostOf 31 = .ok (.iload 7, 2) := by decide +kernel
theorem dX8_mostOf_33 : decode cX8_mostOf 33 = .ok (.invokestatic 125, 3) := by decide +kernel
theorem dX8_mostOf_36 : decode cX8_mostOf 36 = .ok (.ifCond .eq 23, 3) := by decide +kernel
theorem dX8_mostOf_39 : decode cX8_mostOf 39 = .ok (.iload 5, 2) := by decide +kernel
theorem dX8_mostOf_41 : decode cX8_mostOf 41 = .ok (.iconst 1, 1) := by decide +kernel
theorem dX8_mostOf_42 : decode cX8_mostOf 42 = .ok (.iadd, 1) := by decide +kernel
theorem dX8_mostOf_43 : decode cX8_mostOf 43 = .ok (.iload 4, 2) := by decide +kernel
theorem dX8_mostOf_45 : decode cX8_mostOf 45 = .ok (.if_icmp .le 10, 3) := by decide +kernel
theorem dX8_mostOf_48 : decode cX8_mostOf 48 = .ok (.iload 5, 2) := by decide +kernel
theorem dX8_mostOf_50 : decode cX8_mostOf 50 = .ok (.iconst 1, 1) := by decide +kernel
theorem dX8_mostOf_51 : decode cX8_mostOf 51 = .ok (.iadd, 1) := by decide +kernel
theorem dX8_mostOf_52 : decode cX8_mostOf 52 = .ok (.goto 5, 3) := by decide +kernel
theorem dX8_mostOf_55 : decode cX8_mostOf 55 = .ok (.iload 4, 2) := by decide +kernel
theorem dX8_mostOf_57 : decode cX8_mostOf 57 = .ok (.istore 4, 2) := by decide +kernel
theorem dX8_mostOf_59 : decode cX8_mostOf 59 = .ok (.iload 7, 2) := by decide +kernel
theorem dX8_mostOf_61 : decode cX8_mostOf 61 = .ok (.bipush 40, 2) := by decide +kernel
theorem dX8_mostOf_63 : decode cX8_mostOf 63 = .ok (.if_icmp .ne 14, 3) := by decide +kernel
theorem dX8_mostOf_66 : decode cX8_mostOf 66 = .ok (.aload_n 0, 1) := by decide +kernel
theorem dX8_mostOf_67 : decode cX8_mostOf 67 = .ok (.getfield 26, 3) := by decide +kernel
theorem dX8_mostOf_70 : decode cX8_mostOf 70 = .ok (.iload 5, 2) := by decide +kernel
theorem dX8_mostOf_72 : decode cX8_mostOf 72 = .ok (.iconst 1, 1) := by decide +kernel
theorem dX8_mostOf_73 : decode cX8_mostOf 73 = .ok (.iastore, 1) := by decide +kernel
theorem dX8_mostOf_74 : decode cX8_mostOf 74 = .ok (.iinc 5 1, 3) := by decide +kernel
theorem dX8_mostOf_77 : decode cX8_mostOf 77 = .ok (.iload 7, 2) := by decide +kernel
theorem dX8_mostOf_79 : decode cX8_mostOf 79 = .ok (.bipush 44, 2) := by decide +kernel
theorem dX8_mostOf_81 : decode cX8_mostOf 81 = .ok (.if_icmp .ne 16, 3) := by decide +kernel
theorem dX8_mostOf_84 : decode cX8_mostOf 84 = .ok (.aload_n 0, 1) := by decide +kernel
theorem dX8_mostOf_85 : decode cX8_mostOf 85 = .ok (.getfield 26, 3) := by decide +kernel
theorem dX8_mostOf_88 : decode cX8_mostOf 88 = .ok (.iload 5, 2) := by decide +kernel
theorem dX8_mostOf_90 : decode cX8_mostOf 90 = .ok (.iconst 1, 1) := by decide +kernel
theorem dX8_mostOf_91 : decode cX8_mostOf 91 = .ok (.isub, 1) := by decide +kernel
theorem dX8_mostOf_92 : decode cX8_mostOf 92 = .ok (.dup2, 1) := by decide +kernel
theorem dX8_mostOf_93 : decode cX8_mostOf 93 = .ok (.iaload, 1) := by decide +kernel
theorem dX8_mostOf_94 : decode cX8_mostOf 94 = .ok (.iconst 1, 1) := by decide +kernel
theorem dX8_mostOf_95 : decode cX8_mostOf 95 = .ok (.iadd, 1) := by decide +kernel
theorem dX8_mostOf_96 : decode cX8_mostOf 96 = .ok (.iastore, 1) := by decide +kernel
theorem dX8_mostOf_97 : decode cX8_mostOf 97 = .ok (.iload 7, 2) := by decide +kernel
theorem dX8_mostOf_99 : decode cX8_mostOf 99 = .ok (.bipush 41, 2) := by decide +kernel
theorem dX8_mostOf_101 : decode cX8_mostOf 101 = .ok (.if_icmp .ne 29, 3) := by decide +kernel
theorem dX8_mostOf_104 : decode cX8_mostOf 104 = .ok (.iinc 5 (-1), 3) := by decide +kernel
theorem dX8_mostOf_107 : decode cX8_mostOf 107 = .ok (.aload_n 0, 1) := by decide +kernel
theorem dX8_mostOf_108 : decode cX8_mostOf 108 = .ok (.getfield 26, 3) := by decide +kernel
theorem dX8_mostOf_111 : decode cX8_mostOf 111 = .ok (.iload 5, 2) := by decide +kernel
theorem dX8_mostOf_113 : decode cX8_mostOf 113 = .ok (.iaload, 1) := by decide +kernel
theorem dX8_mostOf_114 : decode cX8_mostOf 114 = .ok (.iload_n 3, 1) := by decide +kernel
theorem dX8_mostOf_115 : decode cX8_mostOf 115 = .ok (.if_icmp .le 13, 3) := by decide +kernel
theorem dX8_mostOf_118 : decode cX8_mostOf 118 = .ok (.aload_n 0, 1) := by decide +kernel
theorem dX8_mostOf_119 : decode cX8_mostOf 119 = .ok (.getfield 26, 3) := by decide +kernel
theorem dX8_mostOf_122 : decode cX8_mostOf 122 = .ok (.iload 5, 2) := by decide +kernel
theorem dX8_mostOf_124 : decode cX8_mostOf 124 = .ok (.iaload, 1) := by decide +kernel
theorem dX8_mostOf_125 : decode cX8_mostOf 125 = .ok (.goto 4, 3) := by decide +kernel
theorem dX8_mostOf_128 : decode cX8_mostOf 128 = .ok (.iload_n 3, 1) := by decide +kernel
theorem dX8_mostOf_129 : decode cX8_mostOf 129 = .ok (.istore_n 3, 1) := by decide +kernel
theorem dX8_mostOf_130 : decode cX8_mostOf 130 = .ok (.iinc 6 1, 3) := by decide +kernel
theorem dX8_mostOf_133 : decode cX8_mostOf 133 = .ok (.goto (-122), 3) := by decide +kernel
theorem dX8_mostOf_136 : decode cX8_mostOf 136 = .ok (.iload_n 2, 1) := by decide +kernel
theorem dX8_mostOf_137 : decode cX8_mostOf 137 = .ok (.ifCond .eq 7, 3) := by decide +kernel
theorem dX8_mostOf_140 : decode cX8_mostOf 140 = .ok (.iload_n 3, 1) := by decide +kernel
theorem dX8_mostOf_141 : decode cX8_mostOf 141 = .ok (.goto 5, 3) := by decide +kernel
theorem dX8_mostOf_144 : decode cX8_mostOf 144 = .ok (.iload 4, 2) := by decide +kernel
theorem dX8_mostOf_146 : decode cX8_mostOf 146 = .ok (.ireturn, 1) := by decide +kernel
theorem dX8_body_0 : decode cX8_body 0 = .ok (.aload_n 0, 1) := by decide +kernel
theorem dX8_body_1 : decode cX8_body 1 = .ok (.iload_n 1, 1) := by decide +kernel
theorem dX8_body_2 : decode cX8_body 2 = .ok (.invokestatic 132, 3) := by decide +kernel
theorem dX8_body_5 : decode cX8_body 5 = .ok (.ifCond .ne 7, 3) := by decide +kernel
theorem dX8_body_8 : decode cX8_body 8 = .ok (.iconst 1, 1) := by decide +kernel
theorem dX8_body_9 : decode cX8_body 9 = .ok (.goto 17, 3) := by decide +kernel
theorem dX8_body_12 : decode cX8_body 12 = .ok (.iload_n 2, 1) := by decide +kernel
theorem dX8_body_13 : decode cX8_body 13 = .ok (.iconst 0, 1) := by decide +kernel
theorem dX8_body_14 : decode cX8_body 14 = .ok (.iconst 5, 1) := by decide +kernel
theorem dX8_body_15 : decode cX8_body 15 = .ok (.invokestatic 102, 3) := by decide +kernel
theorem dX8_body_18 : decode cX8_body 18 = .ok (.ifCond .eq 7, 3) := by decide +kernel
theorem dX8_body_21 : decode cX8_body 21 = .ok (.iconst 0, 1) := by decide +kernel
theorem dX8_body_22 : decode cX8_body 22 = .ok (.goto 4, 3) := by decide +kernel
theorem dX8_body_25 : decode cX8_body 25 = .ok (.iconst 2, 1) := by decide +kernel
theorem dX8_body_26 : decode cX8_body 26 = .ok (.invokevirtual 116, 3) := by decide +kernel
theorem dX8_body_29 : decode cX8_body 29 = .ok (.ifCond .eq 5, 3) := by decide +kernel
theorem dX8_body_32 : decode cX8_body 32 = .ok (.iconst 0, 1) := by decide +kernel
theorem dX8_body_33 : decode cX8_body 33 = .ok (.ireturn, 1) := by decide +kernel
theorem dX8_body_34 : decode cX8_body 34 = .ok (.aload_n 0, 1) := by decide +kernel
theorem dX8_body_35 : decode cX8_body 35 = .ok (.iload_n 1, 1) := by decide +kernel
theorem dX8_body_36 : decode cX8_body 36 = .ok (.invokevirtual 112, 3) := by decide +kernel
theorem dX8_body_39 : decode cX8_body 39 = .ok (.ifCond .ne 5, 3) := by decide +kernel
theorem dX8_body_42 : decode cX8_body 42 = .ok (.iconst (-1), 1) := by decide +kernel
theorem dX8_body_43 : decode cX8_body 43 = .ok (.ireturn, 1) := by decide +kernel
theorem dX8_body_44 : decode cX8_body 44 = .ok (.iload_n 2, 1) := by decide +kernel
theorem dX8_body_45 : decode cX8_body 45 = .ok (.tableswitch 74 0 4 #[35, 42, 54, 60, 67], 35) := by decide +kernel
theorem dX8_body_80 : decode cX8_body 80 = .ok (.aload_n 0, 1) := by decide +kernel
theorem dX8_body_81 : decode cX8_body 81 = .ok (.getfield 7, 3) := by decide +kernel
theorem dX8_body_84 : decode cX8_body 84 = .ok (.iload_n 1, 1) := by decide +kernel
theorem dX8_body_85 : decode cX8_body 85 = .ok (.iaload, 1) := by decide +kernel
theorem dX8_body_86 : decode cX8_body 86 = .ok (.ireturn, 1) := by decide +kernel
theorem dX8_body_87 : decode cX8_body 87 = .ok (.aload_n 0, 1) := by decide +kernel
theorem dX8_body_88 : decode cX8_body 88 = .ok (.iload_n 1, 1) := by decide +kernel
theorem dX8_body_89 : decode cX8_body 89 = .ok (.aload_n 0, 1) := by decide +kernel
theorem dX8_body_90 : decode cX8_body 90 = .ok (.getfield 7, 3) := by decide +kernel
theorem dX8_body_93 : decode cX8_body 93 = .ok (.iload_n 1, 1) := by decide +kernel
theorem dX8_body_94 : decode cX8_body 94 = .ok (.iaload, 1) := by decide +kernel
theorem dX8_body_95 : decode cX8_body 95 = .ok (.invokevirtual 150, 3) := by decide +kernel
theorem dX8_body_98 : decode cX8_body 98 = .ok (.ireturn, 1) := by decide +kernel
theorem dX8_body_99 : decode cX8_body 99 = .ok (.aload_n 0, 1) := by decide +kernel
theorem dX8_body_100 : decode cX8_body 100 = .ok (.iload_n 1, 1) := by decide +kernel
theorem dX8_body_101 : decode cX8_body 101 = .ok (.invokevirtual 238, 3) := by decide +kernel
theorem dX8_body_104 : decode cX8_body 104 = .ok (.ireturn, 1) := by decide +kernel
theorem dX8_body_105 : decode cX8_body 105 = .ok (.aload_n 0, 1) := by decide +kernel
theorem dX8_body_106 : decode cX8_body 106 = .ok (.iload_n 1, 1) := by decide +kernel
theorem dX8_body_107 : decode cX8_body 107 = .ok (.iconst 1, 1) := by decide +kernel
theorem dX8_body_108 : decode cX8_body 108 = .ok (.invokevirtual 241, 3) := by decide +kernel
theorem dX8_body_111 : decode cX8_body 111 = .ok (.ireturn, 1) := by decide +kernel
theorem dX8_body_112 : decode cX8_body 112 = .ok (.aload_n 0, 1) := by decide +kernel
theorem dX8_body_113 : decode cX8_body 113 = .ok (.iload_n 1, 1) := by decide +kernel
theorem dX8_body_114 : decode cX8_body 114 = .ok (.iconst 0, 1) := by decide +kernel
theorem dX8_body_115 : decode cX8_body 115 = .ok (.invokevirtual 241, 3) := by decide +kernel
theorem dX8_body_118 : decode cX8_body 118 = .ok (.ireturn, 1) := by decide +kernel
theorem dX8_body_119 : decode cX8_body 119 = .ok (.aload_n 0, 1) := by decide +kernel
theorem dX8_body_120 : decode cX8_body 120 = .ok (.iload_n 1, 1) := by decide +kernel
theorem dX8_body_121 : decode cX8_body 121 = .ok (.invokevirtual 245, 3) := by decide +kernel
theorem dX8_body_124 : decode cX8_body 124 = .ok (.ireturn, 1) := by decide +kernel
theorem dX8_called_0 : decode cX8_called 0 = .ok (.iconst 0, 1) := by decide +kernel
theorem dX8_called_1 : decode cX8_called 1 = .ok (.istore_n 2, 1) := by decide +kernel
theorem dX8_called_2 : decode cX8_called 2 = .ok (.iconst 0, 1) := by decide +kernel
theorem dX8_called_3 : decode cX8_called 3 = .ok (.istore_n 3, 1) := by decide +kernel
theorem dX8_called_4 : decode cX8_called 4 = .ok (.iload_n 3, 1) := by decide +kernel
theorem dX8_called_5 : decode cX8_called 5 = .ok (.aload_n 0, 1) := by decide +kernel
theorem dX8_called_6 : decode cX8_called 6 = .ok (.getfield 7, 3) := by decide +kernel
theorem dX8_called_9 : decode cX8_called 9 = .ok (.iload_n 1, 1) := by decide +kernel
theorem dX8_called_10 : decode cX8_called 10 = .ok (.iaload, 1) := by decide +kernel
theorem dX8_called_11 : decode cX8_called 11 = .ok (.if_icmp .ge 39, 3) := by decide +kernel
theorem dX8_called_14 : decode cX8_called 14 = .ok (.aload_n 0, 1) := by decide +kernel
theorem dX8_called_15 : decode cX8_called 15 = .ok (.iload_n 1, 1) := by decide +kernel
theorem dX8_called_16 : decode cX8_called 16 = .ok (.iload_n 3, 1) := by decide +kernel
theorem dX8_called_17 : decode cX8_called 17 = .ok (.invokevirtual 135, 3) := by decide +kernel
theorem dX8_called_20 : decode cX8_called 20 = .ok (.istore 4, 2) := by decide +kernel
theorem dX8_called_22 : decode cX8_called 22 = .ok (.iload_n 2, 1) := by decide +kernel
theorem dX8_called_23 : decode cX8_called 23 = .ok (.iload 4, 2) := by decide +kernel
theorem dX8_called_25 : decode cX8_called 25 = .ok (.invokestatic 125, 3) := by decide +kernel
theorem dX8_called_28 : decode cX8_called 28 = .ok (.ifCond .eq 13, 3) := by decide +kernel
theorem dX8_called_31 : decode cX8_called 31 = .ok (.iconst 1, 1) := by decide +kernel
theorem dX8_called_32 : decode cX8_called 32 = .ok (.iload 4, 2) := by decide +kernel
theorem dX8_called_34 : decode cX8_called 34 = .ok (.bipush 65, 2) := by decide +kernel
theorem dX8_called_36 : decode cX8_called 36 = .ok (.isub, 1) := by decide +kernel
theorem dX8_called_37 : decode cX8_called 37 = .ok (.ishl, 1) := by decide +kernel
theorem dX8_called_38 : decode cX8_called 38 = .ok (.goto 4, 3) := by decide +kernel
theorem dX8_called_41 : decode cX8_called 41 = .ok (.iconst 0, 1) := by decide +kernel
theorem dX8_called_42 : decode cX8_called 42 = .ok (.ior, 1) := by decide +kernel
theorem dX8_called_43 : decode cX8_called 43 = .ok (.istore_n 2, 1) := by decide +kernel
theorem dX8_called_44 : decode cX8_called 44 = .ok (.iinc 3 1, 3) := by decide +kernel
theorem dX8_called_47 : decode cX8_called 47 = .ok (.goto (-43), 3) := by decide +kernel
theorem dX8_called_50 : decode cX8_called 50 = .ok (.iload_n 2, 1) := by decide +kernel
theorem dX8_called_51 : decode cX8_called 51 = .ok (.ireturn, 1) := by decide +kernel
theorem dX8_laysSets_0 : decode cX8_laysSets 0 = .ok (.iconst 0, 1) := by decide +kernel
theorem dX8_laysSets_1 : decode cX8_laysSets 1 = .ok (.istore_n 1, 1) := by decide +kernel
theorem dX8_laysSets_2 : decode cX8_laysSets 2 = .ok (.iload_n 1, 1) := by decide +kernel
theorem dX8_laysSets_3 : decode cX8_laysSets 3 = .ok (.bipush 26, 2) := by decide +kernel
theorem dX8_laysSets_5 : decode cX8_laysSets 5 = .ok (.if_icmp .ge 20, 3) := by decide +kernel
theorem dX8_laysSets_8 : decode cX8_laysSets 8 = .ok (.aload_n 0, 1) := by decide +kernel
theorem dX8_laysSets_9 : decode cX8_laysSets 9 = .ok (.getfield 89, 3) := by decide +kernel
theorem dX8_laysSets_12 : decode cX8_laysSets 12 = .ok (.iload_n 1, 1) := by decide +kernel
theorem dX8_laysSets_13 : decode cX8_laysSets 13 = .ok (.aload_n 0, 1) := by decide +kernel
theorem dX8_laysSets_14 : decode cX8_laysSets 14 = .ok (.iload_n 1, 1) := by decide +kernel
theorem dX8_laysSets_15 : decode cX8_laysSets 15 = .ok (.invokevirtual 248, 3) := by decide +kernel
theorem dX8_laysSets_18 : decode cX8_laysSets 18 = .ok (.iastore, 1) := by decide +kernel
theorem dX8_laysSets_19 : decode cX8_laysSets 19 = .ok (.iinc 1 1, 3) := by decide +kernel
theorem dX8_laysSets_22 : decode cX8_laysSets 22 = .ok (.goto (-20), 3) := by decide +kernel
theorem dX8_laysSets_25 : decode cX8_laysSets 25 = .ok (.return_, 1) := by decide +kernel
theorem dX8_reached_0 : decode cX8_reached 0 = .ok (.aload_n 0, 1) := by decide +kernel
theorem dX8_reached_1 : decode cX8_reached 1 = .ok (.getfield 89, 3) := by decide +kernel
theorem dX8_reached_4 : decode cX8_reached 4 = .ok (.iload_n 1, 1) := by decide +kernel
theorem dX8_reached_5 : decode cX8_reached 5 = .ok (.iaload, 1) := by decide +kernel
theorem dX8_reached_6 : decode cX8_reached 6 = .ok (.istore_n 2, 1) := by decide +kernel
theorem dX8_reached_7 : decode cX8_reached 7 = .ok (.iconst 0, 1) := by decide +kernel
theorem dX8_reached_8 : decode cX8_reached 8 = .ok (.istore_n 3, 1) := by decide +kernel
theorem dX8_reached_9 : decode cX8_reached 9 = .ok (.iload_n 2, 1) := by decide +kernel
theorem dX8_reached_10 : decode cX8_reached 10 = .ok (.iload_n 3, 1) := by decide +kernel
theorem dX8_reached_11 : decode cX8_reached 11 = .ok (.if_icmp .eq 48, 3) := by decide +kernel
theorem dX8_reached_14 : decode cX8_reached 14 = .ok (.iload_n 2, 1) := by decide +kernel
theorem dX8_reached_15 : decode cX8_reached 15 = .ok (.istore_n 3, 1) := by decide +kernel
theorem dX8_reached_16 : decode cX8_reached 16 = .ok (.iconst 0, 1) := by decide +kernel
theorem dX8_reached_17 : decode cX8_reached 17 = .ok (.istore 4, 2) := by decide +kernel
theorem dX8_reached_19 : decode cX8_reached 19 = .ok (.iload 4, 2) := by decide +kernel
theorem dX8_reached_21 : decode cX8_reached 21 = .ok (.bipush 26, 2) := by decide +kernel
theorem dX8_reached_23 : decode cX8_reached 23 = .ok (.if_icmp .ge 33, 3) := by decide +kernel
theorem dX8_reached_26 : decode cX8_reached 26 = .ok (.iload_n 2, 1) := by decide +kernel
theorem dX8_reached_27 : decode cX8_reached 27 = .ok (.iload_n 2, 1) := by decide +kernel
theorem dX8_reached_28 : decode cX8_reached 28 = .ok (.iload 4, 2) := by decide +kernel
theorem dX8_reached_30 : decode cX8_reached 30 = .ok (.ishr, 1) := by decide +kernel
theorem dX8_reached_31 : decode cX8_reached 31 = .ok (.iconst 1, 1) := by decide +kernel
theorem dX8_reached_32 : decode cX8_reached 32 = .ok (.iand, 1) := by decide +kernel
theorem dX8_reached_33 : decode cX8_reached 33 = .ok (.iconst 1, 1) := by decide +kernel
theorem dX8_reached_34 : decode cX8_reached 34 = .ok (.if_icmp .ne 13, 3) := by decide +kernel
theorem dX8_reached_37 : decode cX8_reached 37 = .ok (.aload_n 0, 1) := by decide +kernel
theorem dX8_reached_38 : decode cX8_reached 38 = .ok (.getfield 89, 3) := by decide +kernel
theorem dX8_reached_41 : decode cX8_reached 41 = .ok (.iload 4, 2) := by decide +kernel
theorem dX8_reached_43 : decode cX8_reached 43 = .ok (.iaload, 1) := by decide +kernel
theorem dX8_reached_44 : decode cX8_reached 44 = .ok (.goto 4, 3) := by decide +kernel
theorem dX8_reached_47 : decode cX8_reached 47 = .ok (.iconst 0, 1) := by decide +kernel
theorem dX8_reached_48 : decode cX8_reached 48 = .ok (.ior, 1) := by decide +kernel
theorem dX8_reached_49 : decode cX8_reached 49 = .ok (.istore_n 2, 1) := by decide +kernel
theorem dX8_reached_50 : decode cX8_reached 50 = .ok (.iinc 4 1, 3) := by decide +kernel
theorem dX8_reached_53 : decode cX8_reached 53 = .ok (.goto (-34), 3) := by decide +kernel
theorem dX8_reached_56 : decode cX8_reached 56 = .ok (.goto (-47), 3) := by decide +kernel
theorem dX8_reached_59 : decode cX8_reached 59 = .ok (.iload_n 2, 1) := by decide +kernel
theorem dX8_reached_60 : decode cX8_reached 60 = .ok (.ireturn, 1) := by decide +kernel
theorem dX8_callers_0 : decode cX8_callers 0 = .ok (.iconst 0, 1) := by decide +kernel
theorem dX8_callers_1 : decode cX8_callers 1 = .ok (.istore_n 3, 1) := by decide +kernel
theorem dX8_callers_2 : decode cX8_callers 2 = .ok (.iconst 0, 1) := by decide +kernel
theorem dX8_callers_3 : decode cX8_callers 3 = .ok (.istore 4, 2) := by decide +kernel
theorem dX8_callers_5 : decode cX8_callers 5 = .ok (.iload 4, 2) := by decide +kernel
theorem dX8_callers_7 : decode cX8_callers 7 = .ok (.bipush 26, 2) := by decide +kernel
theorem dX8_callers_9 : decode cX8_callers 9 = .ok (.if_icmp .ge 48, 3) := by decide +kernel
theorem dX8_callers_12 : decode cX8_callers 12 = .ok (.iload_n 3, 1) := by decide +kernel
theorem dX8_callers_13 : decode cX8_callers 13 = .ok (.iload_n 2, 1) := by decide +kernel
theorem dX8_callers_14 : decode cX8_callers 14 = .ok (.ifCond .eq 12, 3) := by decide +kernel
theorem dX8_callers_17 : decode cX8_callers 17 = .ok (.aload_n 0, 1) := by decide +kernel
theorem dX8_callers_18 : decode cX8_callers 18 = .ok (.iload 4, 2) := by decide +kernel
theorem dX8_callers_20 : decode cX8_callers 20 = .ok (.invokevirtual 251, 3) := by decide +kernel
theorem dX8_callers_23 : decode cX8_callers 23 = .ok (.goto 10, 3) := by decide +kernel
theorem dX8_callers_26 : decode cX8_callers 26 = .ok (.aload_n 0, 1) := by decide +kernel
theorem dX8_callers_27 : decode cX8_callers 27 = .ok (.getfield 89, 3) := by decide +kernel
theorem dX8_callers_30 : decode cX8_callers 30 = .ok (.iload 4, 2) := by decide +kernel
theorem dX8_callers_32 : decode cX8_callers 32 = .ok (.iaload, 1) := by decide +kernel
theorem dX8_callers_33 : decode cX8_callers 33 = .ok (.iload_n 1, 1) := by decide +kernel
theorem dX8_callers_34 : decode cX8_callers 34 = .ok (.ishr, 1) := by decide +kernel
theorem dX8_callers_35 : decode cX8_callers 35 = .ok (.iconst 1, 1) := by decide +kernel
theorem dX8_callers_36 : decode cX8_callers 36 = .ok (.iand, 1) := by decide +kernel
theorem dX8_callers_37 : decode cX8_callers 37 = .ok (.iconst 1, 1) := by decide +kernel
theorem dX8_callers_38 : decode cX8_callers 38 = .ok (.if_icmp .ne 10, 3) := by decide +kernel
theorem dX8_callers_41 : decode cX8_callers 41 = .ok (.iconst 1, 1) := by decide +kernel
theorem dX8_callers_42 : decode cX8_callers 42 = .ok (.iload 4, 2) := by decide +kernel
theorem dX8_callers_44 : decode cX8_callers 44 = .ok (.ishl, 1) := by decide +kernel
theorem dX8_callers_45 : decode cX8_callers 45 = .ok (.goto 4, 3) := by decide +kernel
theorem dX8_callers_48 : decode cX8_callers 48 = .ok (.iconst 0, 1) := by decide +kernel
theorem dX8_callers_49 : decode cX8_callers 49 = .ok (.ior, 1) := by decide +kernel
theorem dX8_callers_50 : decode cX8_callers 50 = .ok (.istore_n 3, 1) := by decide +kernel
theorem dX8_callers_51 : decode cX8_callers 51 = .ok (.iinc 4 1, 3) := by decide +kernel
theorem dX8_callers_54 : decode cX8_callers 54 = .ok (.goto (-49), 3) := by decide +kernel
theorem dX8_callers_57 : decode cX8_callers 57 = .ok (.iload_n 3, 1) := by decide +kernel
theorem dX8_callers_58 : decode cX8_callers 58 = .ok (.ireturn, 1) := by decide +kernel
theorem dX8_uses_0 : decode cX8_uses 0 = .ok (.aload_n 0, 1) := by decide +kernel
theorem dX8_uses_1 : decode cX8_uses 1 = .ok (.iload_n 1, 1) := by decide +kernel
theorem dX8_uses_2 : decode cX8_uses 2 = .ok (.invokestatic 132, 3) := by decide +kernel
theorem dX8_uses_5 : decode cX8_uses 5 = .ok (.ifCond .ne 7, 3) := by decide +kernel
theorem dX8_uses_8 : decode cX8_uses 8 = .ok (.iconst 1, 1) := by decide +kernel
theorem dX8_uses_9 : decode cX8_uses 9 = .ok (.goto 17, 3) := by decide +kernel
theorem dX8_uses_12 : decode cX8_uses 12 = .ok (.iload_n 2, 1) := by decide +kernel
theorem dX8_uses_13 : decode cX8_uses 13 = .ok (.iconst 0, 1) := by decide +kernel
theorem dX8_uses_14 : decode cX8_uses 14 = .ok (.iconst 3, 1) := by decide +kernel
theorem dX8_uses_15 : decode cX8_uses 15 = .ok (.invokestatic 102, 3) := by decide +kernel
theorem dX8_uses_18 : decode cX8_uses 18 = .ok (.ifCond .eq 7, 3) := by decide +kernel
theorem dX8_uses_21 : decode cX8_uses 21 = .ok (.iconst 0, 1) := by decide +kernel
theorem dX8_uses_22 : decode cX8_uses 22 = .ok (.goto 4, 3) := by decide +kernel
theorem dX8_uses_25 : decode cX8_uses 25 = .ok (.iconst 2, 1) := by decide +kernel
theorem dX8_uses_26 : decode cX8_uses 26 = .ok (.invokevirtual 116, 3) := by decide +kernel
theorem dX8_uses_29 : decode cX8_uses 29 = .ok (.ifCond .eq 5, 3) := by decide +kernel
theorem dX8_uses_32 : decode cX8_uses 32 = .ok (.iconst 0, 1) := by decide +kernel
theorem dX8_uses_33 : decode cX8_uses 33 = .ok (.ireturn, 1) := by decide +kernel
theorem dX8_uses_34 : decode cX8_uses 34 = .ok (.aload_n 0, 1) := by decide +kernel
theorem dX8_uses_35 : decode cX8_uses 35 = .ok (.invokevirtual 254, 3) := by decide +kernel
theorem dX8_uses_38 : decode cX8_uses 38 = .ok (.iload_n 2, 1) := by decide +kernel
theorem dX8_uses_39 : decode cX8_uses 39 = .ok (.ifCond .ne 12, 3) := by decide +kernel
theorem dX8_uses_42 : decode cX8_uses 42 = .ok (.aload_n 0, 1) := by decide +kernel
theorem dX8_uses_43 : decode cX8_uses 43 = .ok (.getfield 89, 3) := by decide +kernel
theorem dX8_uses_46 : decode cX8_uses 46 = .ok (.iload_n 1, 1) := by decide +kernel
theorem dX8_uses_47 : decode cX8_uses 47 = .ok (.iaload, 1) := by decide +kernel
theorem dX8_uses_48 : decode cX8_uses 48 = .ok (.goto 31, 3) := by decide +kernel
theorem dX8_uses_51 : decode cX8_uses 51 = .ok (.iload_n 2, 1) := by decide +kernel
theorem dX8_uses_52 : decode cX8_uses 52 = .ok (.iconst 1, 1) := by decide +kernel
theorem dX8_uses_53 : decode cX8_uses 53 = .ok (.if_icmp .ne 11, 3) := by decide +kernel
theorem dX8_uses_56 : decode cX8_uses 56 = .ok (.aload_n 0, 1) := by decide +kernel
theorem dX8_uses_57 : decode cX8_uses 57 = .ok (.iload_n 1, 1) := by decide +kernel
theorem dX8_uses_58 : decode cX8_uses 58 = .ok (.invokevirtual 251, 3) := by decide +kernel
theorem dX8_uses_61 : decode cX8_uses 61 = .ok (.goto 18, 3) := by decide +kernel
theorem dX8_uses_64 : decode cX8_uses 64 = .ok (.aload_n 0, 1) := by decide +kernel
theorem dX8_uses_65 : decode cX8_uses 65 = .ok (.iload_n 1, 1) := by decide +kernel
theorem dX8_uses_66 : decode cX8_uses 66 = .ok (.iload_n 2, 1) := by decide +kernel
theorem dX8_uses_67 : decode cX8_uses 67 = .ok (.iconst 3, 1) := by decide +kernel
theorem dX8_uses_68 : decode cX8_uses 68 = .ok (.if_icmp .ne 7, 3) := by decide +kernel
theorem dX8_uses_71 : decode cX8_uses 71 = .ok (.iconst 1, 1) := by decide +kernel
theorem dX8_uses_72 : decode cX8_uses 72 = .ok (.goto 4, 3) := by decide +kernel
theorem dX8_uses_75 : decode cX8_uses 75 = .ok (.iconst 0, 1) := by decide +kernel
theorem dX8_uses_76 : decode cX8_uses 76 = .ok (.invokevirtual 257, 3) := by decide +kernel
theorem dX8_uses_79 : decode cX8_uses 79 = .ok (.ireturn, 1) := by decide +kernel
theorem dX8_inRings_0 : decode cX8_inRings 0 = .ok (.aload_n 0, 1) := by decide +kernel
theorem dX8_inRings_1 : decode cX8_inRings 1 = .ok (.invokevirtual 254, 3) := by decide +kernel
theorem dX8_inRings_4 : decode cX8_inRings 4 = .ok (.iconst 0, 1) := by decide +kernel
theorem dX8_inRings_5 : decode cX8_inRings 5 = .ok (.istore_n 1, 1) := by decide +kernel
theorem dX8_inRings_6 : decode cX8_inRings 6 = .ok (.iconst 0, 1) := by decide +kernel
theorem dX8_inRings_7 : decode cX8_inRings 7 = .ok (.istore_n 2, 1) := by decide +kernel
theorem dX8_inRings_8 : decode cX8_inRings 8 = .ok (.iload_n 2, 1) := by decide +kernel
theorem dX8_inRings_9 : decode cX8_inRings 9 = .ok (.bipush 26, 2) := by decide +kernel
theorem dX8_inRings_11 : decode cX8_inRings 11 = .ok (.if_icmp .ge 32, 3) := by decide +kernel
theorem dX8_inRings_14 : decode cX8_inRings 14 = .ok (.iload_n 1, 1) := by decide +kernel
theorem dX8_inRings_15 : decode cX8_inRings 15 = .ok (.aload_n 0, 1) := by decide +kernel
theorem dX8_inRings_16 : decode cX8_inRings 16 = .ok (.iload_n 2, 1) := by decide +kernel
theorem dX8_inRings_17 : decode cX8_inRings 17 = .ok (.invokevirtual 251, 3) := by decide +kernel
theorem dX8_inRings_20 : decode cX8_inRings 20 = .ok (.iload_n 2, 1) := by decide +kernel
theorem dX8_inRings_21 : decode cX8_inRings 21 = .ok (.ishr, 1) := by decide +kernel
theorem dX8_inRings_22 : decode cX8_inRings 22 = .ok (.iconst 1, 1) := by decide +kernel
theorem dX8_inRings_23 : decode cX8_inRings 23 = .ok (.iand, 1) := by decide +kernel
theorem dX8_inRings_24 : decode cX8_inRings 24 = .ok (.iconst 1, 1) := by decide +kernel
theorem dX8_inRings_25 : decode cX8_inRings 25 = .ok (.if_icmp .ne 9, 3) := by decide +kernel
theorem dX8_inRings_28 : decode cX8_inRings 28 = .ok (.iconst 1, 1) := by decide +kernel
theorem dX8_inRings_29 : decode cX8_inRings 29 = .ok (.iload_n 2, 1) := by decide +kernel
theorem dX8_inRings_30 : decode cX8_inRings 30 = .ok (.ishl, 1) := by decide +kernel
theorem dX8_inRings_31 : decode cX8_inRings 31 = .ok (.goto 4, 3) := by decide +kernel
theorem dX8_inRings_34 : decode cX8_inRings 34 = .ok (.iconst 0, 1) := by decide +kernel
theorem dX8_inRings_35 : decode cX8_inRings 35 = .ok (.ior, 1) := by decide +kernel
theorem dX8_inRings_36 : decode cX8_inRings 36 = .ok (.istore_n 1, 1) := by decide +kernel
theorem dX8_inRings_37 : decode cX8_inRings 37 = .ok (.iinc 2 1, 3) := by decide +kernel
theorem dX8_inRings_40 : decode cX8_inRings 40 = .ok (.goto (-32), 3) := by decide +kernel
theorem dX8_inRings_43 : decode cX8_inRings 43 = .ok (.iload_n 1, 1) := by decide +kernel
theorem dX8_inRings_44 : decode cX8_inRings 44 = .ok (.ireturn, 1) := by decide +kernel
theorem dX8_rings_0 : decode cX8_rings 0 = .ok (.aload_n 0, 1) := by decide +kernel
theorem dX8_rings_1 : decode cX8_rings 1 = .ok (.iconst 0, 1) := by decide +kernel
theorem dX8_rings_2 : decode cX8_rings 2 = .ok (.putfield 98, 3) := by decide +kernel
theorem dX8_rings_5 : decode cX8_rings 5 = .ok (.aload_n 0, 1) := by decide +kernel
theorem dX8_rings_6 : decode cX8_rings 6 = .ok (.invokevirtual 260, 3) := by decide +kernel
theorem dX8_rings_9 : decode cX8_rings 9 = .ok (.ireturn, 1) := by decide +kernel
theorem dX8_all_0 : decode cX8_all 0 = .ok (.iconst 0, 1) := by decide +kernel
theorem dX8_all_1 : decode cX8_all 1 = .ok (.istore_n 1, 1) := by decide +kernel
theorem dX8_all_2 : decode cX8_all 2 = .ok (.iconst 0, 1) := by decide +kernel
theorem dX8_all_3 : decode cX8_all 3 = .ok (.istore_n 2, 1) := by decide +kernel
theorem dX8_all_4 : decode cX8_all 4 = .ok (.iload_n 2, 1) := by decide +kernel
theorem dX8_all_5 : decode cX8_all 5 = .ok (.bipush 26, 2) := by decide +kernel
theorem dX8_all_7 : decode cX8_all 7 = .ok (.if_icmp .ge 27, 3) := by decide +kernel
theorem dX8_all_10 : decode cX8_all 10 = .ok (.iload_n 1, 1) := by decide +kernel
theorem dX8_all_11 : decode cX8_all 11 = .ok (.aload_n 0, 1) := by decide +kernel
theorem dX8_all_12 : decode cX8_all 12 = .ok (.iload_n 2, 1) := by decide +kernel
theorem dX8_all_13 : decode cX8_all 13 = .ok (.invokevirtual 112, 3) := by decide +kernel
theorem dX8_all_16 : decode cX8_all 16 = .ok (.ifCond .eq 9, 3) := by decide +kernel
theorem dX8_all_19 : decode cX8_all 19 = .ok (.iconst 1, 1) := by decide +kernel
theorem dX8_all_20 : decode cX8_all 20 = .ok (.iload_n 2, 1) := by decide +kernel
theorem dX8_all_21 : decode cX8_all 21 = .ok (.ishl, 1) := by decide +kernel
theorem dX8_all_22 : decode cX8_all 22 = .ok (.goto 4, 3) := by decide +kernel
theorem dX8_all_25 : decode cX8_all 25 = .ok (.iconst 0, 1) := by decide +kernel
theorem dX8_all_26 : decode cX8_all 26 = .ok (.ior, 1) := by decide +kernel
theorem dX8_all_27 : decode cX8_all 27 = .ok (.istore_n 1, 1) := by decide +kernel
theorem dX8_all_28 : decode cX8_all 28 = .ok (.iinc 2 1, 3) := by decide +kernel
theorem dX8_all_31 : decode cX8_all 31 = .ok (.goto (-27), 3) := by decide +kernel
theorem dX8_all_34 : decode cX8_all 34 = .ok (.iload_n 1, 1) := by decide +kernel
theorem dX8_all_35 : decode cX8_all 35 = .ok (.ireturn, 1) := by decide +kernel
theorem dX8_missing_0 : decode cX8_missing 0 = .ok (.aload_n 0, 1) := by decide +kernel
theorem dX8_missing_1 : decode cX8_missing 1 = .ok (.iconst 0, 1) := by decide +kernel
theorem dX8_missing_2 : decode cX8_missing 2 = .ok (.putfield 98, 3) := by decide +kernel
theorem dX8_missing_5 : decode cX8_missing 5 = .ok (.iconst 0, 1) := by decide +kernel
theorem dX8_missing_6 : decode cX8_missing 6 = .ok (.istore_n 1, 1) := by decide +kernel
theorem dX8_missing_7 : decode cX8_missing 7 = .ok (.iconst 0, 1) := by decide +kernel
theorem dX8_missing_8 : decode cX8_missing 8 = .ok (.istore_n 2, 1) := by decide +kernel
theorem dX8_missing_9 : decode cX8_missing 9 = .ok (.iload_n 2, 1) := by decide +kernel
theorem dX8_missing_10 : decode cX8_missing 10 = .ok (.bipush 26, 2) := by decide +kernel
theorem dX8_missing_12 : decode cX8_missing 12 = .ok (.if_icmp .ge 17, 3) := by decide +kernel
theorem dX8_missing_15 : decode cX8_missing 15 = .ok (.iload_n 1, 1) := by decide +kernel
theorem dX8_missing_16 : decode cX8_missing 16 = .ok (.aload_n 0, 1) := by decide +kernel
theorem dX8_missing_17 : decode cX8_missing 17 = .ok (.iload_n 2, 1) := by decide +kernel
theorem dX8_missing_18 : decode cX8_missing 18 = .ok (.invokevirtual 248, 3) := by decide +kernel
theorem dX8_missing_21 : decode cX8_missing 21 = .ok (.ior, 1) := by decide +kernel
theorem dX8_missing_22 : decode cX8_missing 22 = .ok (.istore_n 1, 1) := by decide +kernel
theorem dX8_missing_23 : decode cX8_missing 23 = .ok (.iinc 2 1, 3) := by decide +kernel
theorem dX8_missing_26 : decode cX8_missing 26 = .ok (.goto (-17), 3) := by decide +kernel
theorem dX8_missing_29 : decode cX8_missing 29 = .ok (.iload_n 1, 1) := by decide +kernel
theorem dX8_missing_30 : decode cX8_missing 30 = .ok (.aload_n 0, 1) := by decide +kernel
theorem dX8_missing_31 : decode cX8_missing 31 = .ok (.invokevirtual 263, 3) := by decide +kernel
theorem dX8_missing_34 : decode cX8_missing 34 = .ok (.iconst (-1), 1) := by decide +kernel
theorem dX8_missing_35 : decode cX8_missing 35 = .ok (.ixor, 1) := by decide +kernel
theorem dX8_missing_36 : decode cX8_missing 36 = .ok (.iand, 1) := by decide +kernel
theorem dX8_missing_37 : decode cX8_missing 37 = .ok (.ireturn, 1) := by decide +kernel
theorem dX8_chain_0 : decode cX8_chain 0 = .ok (.aload_n 0, 1) := by decide +kernel
theorem dX8_chain_1 : decode cX8_chain 1 = .ok (.iload_n 1, 1) := by decide +kernel
theorem dX8_chain_2 : decode cX8_chain 2 = .ok (.invokestatic 132, 3) := by decide +kernel
theorem dX8_chain_5 : decode cX8_chain 5 = .ok (.ifCond .eq 7, 3) := by decide +kernel
theorem dX8_chain_8 : decode cX8_chain 8 = .ok (.iconst 0, 1) := by decide +kernel
theorem dX8_chain_9 : decode cX8_chain 9 = .ok (.goto 4, 3) := by decide +kernel
theorem dX8_chain_12 : decode cX8_chain 12 = .ok (.iconst 1, 1) := by decide +kernel
theorem dX8_chain_13 : decode cX8_chain 13 = .ok (.invokevirtual 116, 3) := by decide +kernel
theorem dX8_chain_16 : decode cX8_chain 16 = .ok (.ifCond .eq 5, 3) := by decide +kernel
theorem dX8_chain_19 : decode cX8_chain 19 = .ok (.iconst 0, 1) := by decide +kernel
theorem dX8_chain_20 : decode cX8_chain 20 = .ok (.ireturn, 1) := by decide +kernel
theorem dX8_chain_21 : decode cX8_chain 21 = .ok (.aload_n 0, 1) := by decide +kernel
theorem dX8_chain_22 : decode cX8_chain 22 = .ok (.iload_n 1, 1) := by decide +kernel
theorem dX8_chain_23 : decode cX8_chain 23 = .ok (.invokevirtual 112, 3) := by decide +kernel
theorem dX8_chain_26 : decode cX8_chain 26 = .ok (.ifCond .ne 5, 3) := by decide +kernel
theorem dX8_chain_29 : decode cX8_chain 29 = .ok (.iconst 0, 1) := by decide +kernel
theorem dX8_chain_30 : decode cX8_chain 30 = .ok (.ireturn, 1) := by decide +kernel
theorem dX8_chain_31 : decode cX8_chain 31 = .ok (.aload_n 0, 1) := by decide +kernel
theorem dX8_chain_32 : decode cX8_chain 32 = .ok (.invokevirtual 260, 3) := by decide +kernel
theorem dX8_chain_35 : decode cX8_chain 35 = .ok (.istore_n 2, 1) := by decide +kernel
theorem dX8_chain_36 : decode cX8_chain 36 = .ok (.aload_n 0, 1) := by decide +kernel
theorem dX8_chain_37 : decode cX8_chain 37 = .ok (.iload_n 1, 1) := by decide +kernel
theorem dX8_chain_38 : decode cX8_chain 38 = .ok (.invokevirtual 251, 3) := by decide +kernel
theorem dX8_chain_41 : decode cX8_chain 41 = .ok (.iconst 1, 1) := by decide +kernel
theorem dX8_chain_42 : decode cX8_chain 42 = .ok (.iload_n 1, 1) := by decide +kernel
theorem dX8_chain_43 : decode cX8_chain 43 = .ok (.ishl, 1) := by decide +kernel
theorem dX8_chain_44 : decode cX8_chain 44 = .ok (.ior, 1) := by decide +kernel
theorem dX8_chain_45 : decode cX8_chain 45 = .ok (.iload_n 2, 1) := by decide +kernel
theorem dX8_chain_46 : decode cX8_chain 46 = .ok (.iand, 1) := by decide +kernel
theorem dX8_chain_47 : decode cX8_chain 47 = .ok (.ifCond .eq 5, 3) := by decide +kernel
theorem dX8_chain_50 : decode cX8_chain 50 = .ok (.iconst (-1), 1) := by decide +kernel
theorem dX8_chain_51 : decode cX8_chain 51 = .ok (.ireturn, 1) := by decide +kernel
theorem dX8_chain_52 : decode cX8_chain 52 = .ok (.iconst 0, 1) := by decide +kernel
theorem dX8_chain_53 : decode cX8_chain 53 = .ok (.istore_n 3, 1) := by decide +kernel
theorem dX8_chain_54 : decode cX8_chain 54 = .ok (.iload_n 3, 1) := by decide +kernel
theorem dX8_chain_55 : decode cX8_chain 55 = .ok (.bipush 26, 2) := by decide +kernel
theorem dX8_chain_57 : decode cX8_chain 57 = .ok (.if_icmp .ge 28, 3) := by decide +kernel
theorem dX8_chain_60 : decode cX8_chain 60 = .ok (.aload_n 0, 1) := by decide +kernel
theorem dX8_chain_61 : decode cX8_chain 61 = .ok (.getfield 92, 3) := by decide +kernel
theorem dX8_chain_64 : decode cX8_chain 64 = .ok (.iload_n 3, 1) := by decide +kernel
theorem dX8_chain_65 : decode cX8_chain 65 = .ok (.aload_n 0, 1) := by decide +kernel
theorem dX8_chain_66 : decode cX8_chain 66 = .ok (.iload_n 3, 1) := by decide +kernel
theorem dX8_chain_67 : decode cX8_chain 67 = .ok (.invokevirtual 112, 3) := by decide +kernel
theorem dX8_chain_70 : decode cX8_chain 70 = .ok (.ifCond .eq 7, 3) := by decide +kernel
theorem dX8_chain_73 : decode cX8_chain 73 = .ok (.iconst 1, 1) := by decide +kernel
theorem dX8_chain_74 : decode cX8_chain 74 = .ok (.goto 4, 3) := by decide +kernel
theorem dX8_chain_77 : decode cX8_chain 77 = .ok (.iconst 0, 1) := by decide +kernel
theorem dX8_chain_78 : decode cX8_chain 78 = .ok (.iastore, 1) := by decide +kernel
theorem dX8_chain_79 : decode cX8_chain 79 = .ok (.iinc 3 1, 3) := by decide +kernel
theorem dX8_chain_82 : decode cX8_chain 82 = .ok (.goto (-28), 3) := by decide +kernel
theorem dX8_chain_85 : decode cX8_chain 85 = .ok (.iconst 0, 1) := by decide +kernel
theorem dX8_chain_86 : decode cX8_chain 86 = .ok (.istore_n 3, 1) := by decide +kernel
theorem dX8_chain_87 : decode cX8_chain 87 = .ok (.iload_n 3, 1) := by decide +kernel
theorem dX8_chain_88 : decode cX8_chain 88 = .ok (.bipush 26, 2) := by decide +kernel
theorem dX8_chain_90 : decode cX8_chain 90 = .ok (.if_icmp .ge 133, 3) := by decide +kernel
theorem dX8_chain_93 : decode cX8_chain 93 = .ok (.iconst 0, 1) := by decide +kernel
theorem dX8_chain_94 : decode cX8_chain 94 = .ok (.istore 4, 2) := by decide +kernel
theorem dX8_chain_96 : decode cX8_chain 96 = .ok (.iload 4, 2) := by decide +kernel
theorem dX8_chain_98 : decode cX8_chain 98 = .ok (.bipush 26, 2) := by decide +kernel
theorem dX8_chain_100 : decode cX8_chain 100 = .ok (.if_icmp .ge 117, 3) := by decide +kernel
theorem dX8_chain_103 : decode cX8_chain 103 = .ok (.iconst 0, 1) := by decide +kernel
theorem dX8_chain_104 : decode cX8_chain 104 = .ok (.istore 5, 2) := by decide +kernel
theorem dX8_chain_106 : decode cX8_chain 106 = .ok (.iload 5, 2) := by decide +kernel
theorem dX8_chain_108 : decode cX8_chain 108 = .ok (.bipush 26, 2) := by decide +kernel
theorem dX8_chain_110 : decode cX8_chain 110 = .ok (.if_icmp .ge 101, 3) := by decide +kernel
theorem dX8_chain_113 : decode cX8_chain 113 = .ok (.aload_n 0, 1) := by decide +kernel
theorem dX8_chain_114 : decode cX8_chain 114 = .ok (.getfield 89, 3) := by decide +kernel
theorem dX8_chain_117 : decode cX8_chain 117 = .ok (.iload 4, 2) := by decide +kernel
theorem dX8_chain_119 : decode cX8_chain 119 = .ok (.iaload, 1) := by decide +kernel
theorem dX8_chain_120 : decode cX8_chain 120 = .ok (.iload 5, 2) := by decide +kernel
theorem dX8_chain_122 : decode cX8_chain 122 = .ok (.ishr, 1) := by decide +kernel
theorem dX8_chain_123 : decode cX8_chain 123 = .ok (.iconst 1, 1) := by decide +kernel
theorem dX8_chain_124 : decode cX8_chain 124 = .ok (.iand, 1) := by decide +kernel
theorem dX8_chain_125 : decode cX8_chain 125 = .ok (.iconst 1, 1) := by decide +kernel
theorem dX8_chain_126 : decode cX8_chain 126 = .ok (.if_icmp .ne 45, 3) := by decide +kernel
theorem dX8_chain_129 : decode cX8_chain 129 = .ok (.aload_n 0, 1) := by decide +kernel
theorem dX8_chain_130 : decode cX8_chain 130 = .ok (.iload 5, 2) := by decide +kernel
theorem dX8_chain_132 : decode cX8_chain 132 = .ok (.invokevirtual 112, 3) := by decide +kernel
theorem dX8_chain_135 : decode cX8_chain 135 = .ok (.ifCond .eq 36, 3) := by decide +kernel
theorem dX8_chain_138 : decode cX8_chain 138 = .ok (.aload_n 0, 1) := by decide +kernel
theorem dX8_chain_139 : decode cX8_chain 139 = .ok (.getfield 92, 3) := by decide +kernel
theorem dX8_chain_142 : decode cX8_chain 142 = .ok (.iload 5, 2) := by decide +kernel
theorem dX8_chain_144 : decode cX8_chain 144 = .ok (.iaload, 1) := by decide +kernel
theorem dX8_chain_145 : decode cX8_chain 145 = .ok (.aload_n 0, 1) := by decide +kernel
theorem dX8_chain_146 : decode cX8_chain 146 = .ok (.getfield 92, 3) := by decide +kernel
theorem dX8_chain_149 : decode cX8_chain 149 = .ok (.iload 4, 2) := by decide +kernel
theorem dX8_chain_151 : decode cX8_chain 151 = .ok (.iaload, 1) := by decide +kernel
theorem dX8_chain_152 : decode cX8_chain 152 = .ok (.if_icmp .lt 19, 3) := by decide +kernel
theorem dX8_chain_155 : decode cX8_chain 155 = .ok (.aload_n 0, 1) := by decide +kernel
theorem dX8_chain_156 : decode cX8_chain 156 = .ok (.getfield 92, 3) := by decide +kernel
theorem dX8_chain_159 : decode cX8_chain 159 = .ok (.iload 5, 2) := by decide +kernel
theorem dX8_chain_161 : decode cX8_chain 161 = .ok (.iaload, 1) := by decide +kernel
theorem dX8_chain_162 : decode cX8_chain 162 = .ok (.bipush 26, 2) := by decide +kernel
theorem dX8_chain_164 : decode cX8_chain 164 = .ok (.if_icmp .ge 7, 3) := by decide +kernel
theorem dX8_chain_167 : decode cX8_chain 167 = .ok (.iconst 1, 1) := by decide +kernel
theorem dX8_chain_168 : decode cX8_chain 168 = .ok (.goto 4, 3) := by decide +kernel
theorem dX8_chain_171 : decode cX8_chain 171 = .ok (.iconst 0, 1) := by decide +kernel
theorem dX8_chain_172 : decode cX8_chain 172 = .ok (.istore 6, 2) := by decide +kernel
theorem dX8_chain_174 : decode cX8_chain 174 = .ok (.aload_n 0, 1) := by decide +kernel
theorem dX8_chain_175 : decode cX8_chain 175 = .ok (.getfield 92, 3) := by decide +kernel
theorem dX8_chain_178 : decode cX8_chain 178 = .ok (.iload 4, 2) := by decide +kernel
theorem dX8_chain_180 : decode cX8_chain 180 = .ok (.iload 6, 2) := by decide +kernel
theorem dX8_chain_182 : decode cX8_chain 182 = .ok (.ifCond .eq 15, 3) := by decide +kernel
theorem dX8_chain_185 : decode cX8_chain 185 = .ok (.aload_n 0, 1) := by decide +kernel
theorem dX8_chain_186 : decode cX8_chain 186 = .ok (.getfield 92, 3) := by decide +kernel
theorem dX8_chain_189 : decode cX8_chain 189 = .ok (.iload 5, 2) := by decide +kernel
theorem dX8_chain_191 : decode cX8_chain 191 = .ok (.iaload, 1) := by decide +kernel
theorem dX8_chain_192 : decode cX8_chain 192 = .ok (.iconst 1, 1) := by decide +kernel
theorem dX8_chain_193 : decode cX8_chain 193 = .ok (.iadd, 1) := by decide +kernel
theorem dX8_chain_194 : decode cX8_chain 194 = .ok (.goto 10, 3) := by decide +kernel
theorem dX8_chain_197 : decode cX8_chain 197 = .ok (.aload_n 0, 1) := by decide +kernel
theorem dX8_chain_198 : decode cX8_chain 198 = .ok (.getfield 92, 3) := by decide +kernel
theorem dX8_chain_201 : decode cX8_chain 201 = .ok (.iload 4, 2) := by decide +kernel
theorem dX8_chain_203 : decode cX8_chain 203 = .ok (.iaload, 1) := by decide +kernel
theorem dX8_chain_204 : decode cX8_chain 204 = .ok (.iastore, 1) := by decide +kernel
theorem dX8_chain_205 : decode cX8_chain 205 = .ok (.iinc 5 1, 3) := by decide +kernel
theorem dX8_chain_208 : decode cX8_chain 208 = .ok (.goto (-102), 3) := by decide +kernel
theorem dX8_chain_211 : decode cX8_chain 211 = .ok (.iinc 4 1, 3) := by decide +kernel
theorem dX8_chain_214 : decode cX8_chain 214 = .ok (.goto (-118), 3) := by decide +kernel
theorem dX8_chain_217 : decode cX8_chain 217 = .ok (.iinc 3 1, 3) := by decide +kernel
theorem dX8_chain_220 : decode cX8_chain 220 = .ok (.goto (-133), 3) := by decide +kernel
theorem dX8_chain_223 : decode cX8_chain 223 = .ok (.aload_n 0, 1) := by decide +kernel
theorem dX8_chain_224 : decode cX8_chain 224 = .ok (.getfield 92, 3) := by decide +kernel
theorem dX8_chain_227 : decode cX8_chain 227 = .ok (.iload_n 1, 1) := by decide +kernel
theorem dX8_chain_228 : decode cX8_chain 228 = .ok (.iaload, 1) := by decide +kernel
theorem dX8_chain_229 : decode cX8_chain 229 = .ok (.ireturn, 1) := by decide +kernel
theorem dX8_ifDefined_0 : decode cX8_ifDefined 0 = .ok (.aload_n 0, 1) := by decide +kernel
theorem dX8_ifDefined_1 : decode cX8_ifDefined 1 = .ok (.iload_n 1, 1) := by decide +kernel
theorem dX8_ifDefined_2 : decode cX8_ifDefined 2 = .ok (.invokestatic 132, 3) := by decide +kernel
theorem dX8_ifDefined_5 : decode cX8_ifDefined 5 = .ok (.ifCond .ne 7, 3) := by decide +kernel
theorem dX8_ifDefined_8 : decode cX8_ifDefined 8 = .ok (.iconst 1, 1) := by decide +kernel
theorem dX8_ifDefined_9 : decode cX8_ifDefined 9 = .ok (.goto 15, 3) := by decide +kernel
theorem dX8_ifDefined_12 : decode cX8_ifDefined 12 = .ok (.aload_n 0, 1) := by decide +kernel
theorem dX8_ifDefined_13 : decode cX8_ifDefined 13 = .ok (.invokevirtual 139, 3) := by decide +kernel
theorem dX8_ifDefined_16 : decode cX8_ifDefined 16 = .ok (.ifCond .eq 7, 3) := by decide +kernel
theorem dX8_ifDefined_19 : decode cX8_ifDefined 19 = .ok (.iconst 0, 1) := by decide +kernel
theorem dX8_ifDefined_20 : decode cX8_ifDefined 20 = .ok (.goto 4, 3) := by decide +kernel
theorem dX8_ifDefined_23 : decode cX8_ifDefined 23 = .ok (.iconst 2, 1) := by decide +kernel
theorem dX8_ifDefined_24 : decode cX8_ifDefined 24 = .ok (.invokevirtual 116, 3) := by decide +kernel
theorem dX8_ifDefined_27 : decode cX8_ifDefined 27 = .ok (.ifCond .eq 5, 3) := by decide +kernel
theorem dX8_ifDefined_30 : decode cX8_ifDefined 30 = .ok (.iconst 0, 1) := by decide +kernel
theorem dX8_ifDefined_31 : decode cX8_ifDefined 31 = .ok (.ireturn, 1) := by decide +kernel
theorem dX8_ifDefined_32 : decode cX8_ifDefined 32 = .ok (.aload_n 0, 1) := by decide +kernel
theorem dX8_ifDefined_33 : decode cX8_ifDefined 33 = .ok (.getfield 7, 3) := by decide +kernel
theorem dX8_ifDefined_36 : decode cX8_ifDefined 36 = .ok (.iload_n 1, 1) := by decide +kernel
theorem dX8_ifDefined_37 : decode cX8_ifDefined 37 = .ok (.iaload, 1) := by decide +kernel
theorem dX8_ifDefined_38 : decode cX8_ifDefined 38 = .ok (.istore_n 2, 1) := by decide +kernel
theorem dX8_ifDefined_39 : decode cX8_ifDefined 39 = .ok (.iconst 0, 1) := by decide +kernel
theorem dX8_ifDefined_40 : decode cX8_ifDefined 40 = .ok (.istore_n 3, 1) := by decide +kernel
theorem dX8_ifDefined_41 : decode cX8_ifDefined 41 = .ok (.iload_n 3, 1) := by decide +kernel
theorem dX8_ifDefined_42 : decode cX8_ifDefined 42 = .ok (.bipush 60, 2) := by decide +kernel
theorem dX8_ifDefined_44 : decode cX8_ifDefined 44 = .ok (.if_icmp .ge 29, 3) := by decide +kernel
theorem dX8_ifDefined_47 : decode cX8_ifDefined 47 = .ok (.aload_n 0, 1) := by decide +kernel
theorem dX8_ifDefined_48 : decode cX8_ifDefined 48 = .ok (.getfield 95, 3) := by decide +kernel
theorem dX8_ifDefined_51 : decode cX8_ifDefined 51 = .ok (.iload_n 3, 1) := by decide +kernel
theorem dX8_ifDefined_52 : decode cX8_ifDefined 52 = .ok (.aload_n 0, 1) := by decide +kernel
theorem dX8_ifDefined_53 : decode cX8_ifDefined 53 = .ok (.getfield 7, 3) := by decide +kernel
theorem dX8_ifDefined_56 : decode cX8_ifDefined 56 = .ok (.bipush 26, 2) := by decide +kernel
theorem dX8_ifDefined_58 : decode cX8_ifDefined 58 = .ok (.bipush 60, 2) := by decide +kernel
theorem dX8_ifDefined_60 : decode cX8_ifDefined 60 = .ok (.iload_n 1, 1) := by decide +kernel
theorem dX8_ifDefined_61 : decode cX8_ifDefined 61 = .ok (.imul, 1) := by decide +kernel
theorem dX8_ifDefined_62 : decode cX8_ifDefined 62 = .ok (.iadd, 1) := by decide +kernel
theorem dX8_ifDefined_63 : decode cX8_ifDefined 63 = .ok (.iload_n 3, 1) := by decide +kernel
theorem dX8_ifDefined_64 : decode cX8_ifDefined 64 = .ok (.iadd, 1) := by decide +kernel
theorem dX8_ifDefined_65 : decode cX8_ifDefined 65 = .ok (.iaload, 1) := by decide +kernel
theorem dX8_ifDefined_66 : decode cX8_ifDefined 66 = .ok (.iastore, 1) := by decide +kernel
theorem dX8_ifDefined_67 : decode cX8_ifDefined 67 = .ok (.iinc 3 1, 3) := by decide +kernel
theorem dX8_ifDefined_70 : decode cX8_ifDefined 70 = .ok (.goto (-29), 3) := by decide +kernel
theorem dX8_ifDefined_73 : decode cX8_ifDefined 73 = .ok (.aload_n 0, 1) := by decide +kernel
theorem dX8_ifDefined_74 : decode cX8_ifDefined 74 = .ok (.iload_n 1, 1) := by decide +kernel
theorem dX8_ifDefined_75 : decode cX8_ifDefined 75 = .ok (.invokevirtual 146, 3) := by decide +kernel
theorem dX8_ifDefined_78 : decode cX8_ifDefined 78 = .ok (.aload_n 0, 1) := by decide +kernel
theorem dX8_ifDefined_79 : decode cX8_ifDefined 79 = .ok (.invokevirtual 260, 3) := by decide +kernel
theorem dX8_ifDefined_82 : decode cX8_ifDefined 82 = .ok (.istore_n 3, 1) := by decide +kernel
theorem dX8_ifDefined_83 : decode cX8_ifDefined 83 = .ok (.aload_n 0, 1) := by decide +kernel
theorem dX8_ifDefined_84 : decode cX8_ifDefined 84 = .ok (.getfield 7, 3) := by decide +kernel
theorem dX8_ifDefined_87 : decode cX8_ifDefined 87 = .ok (.iload_n 1, 1) := by decide +kernel
theorem dX8_ifDefined_88 : decode cX8_ifDefined 88 = .ok (.iload_n 2, 1) := by decide +kernel
theorem dX8_ifDefined_89 : decode cX8_ifDefined 89 = .ok (.iastore, 1) := by decide +kernel
theorem dX8_ifDefined_90 : decode cX8_ifDefined 90 = .ok (.iconst 0, 1) := by decide +kernel
theorem dX8_ifDefined_91 : decode cX8_ifDefined 91 = .ok (.istore 4, 2) := by decide +kernel
theorem dX8_ifDefined_93 : decode cX8_ifDefined 93 = .ok (.iload 4, 2) := by decide +kernel
theorem dX8_ifDefined_95 : decode cX8_ifDefined 95 = .ok (.bipush 60, 2) := by decide +kernel
theorem dX8_ifDefined_97 : decode cX8_ifDefined 97 = .ok (.if_icmp .ge 31, 3) := by decide +kernel
theorem dX8_ifDefined_100 : decode cX8_ifDefined 100 = .ok (.aload_n 0, 1) := by decide +kernel
theorem dX8_ifDefined_101 : decode cX8_ifDefined 101 = .ok (.getfield 7, 3) := by decide +kernel
theorem dX8_ifDefined_104 : decode cX8_ifDefined 104 = .ok (.bipush 26, 2) := by decide +kernel
theorem dX8_ifDefined_106 : decode cX8_ifDefined 106 = .ok (.bipush 60, 2) := by decide +kernel
theorem dX8_ifDefined_108 : decode cX8_ifDefined 108 = .ok (.iload_n 1, 1) := by decide +kernel
theorem dX8_ifDefined_109 : decode cX8_ifDefined 109 = .ok (.imul, 1) := by decide +kernel
theorem dX8_ifDefined_110 : decode cX8_ifDefined 110 = .ok (.iadd, 1) := by decide +kernel
theorem dX8_ifDefined_111 : decode cX8_ifDefined 111 = .ok (.iload 4, 2) := by decide +kernel
theorem dX8_ifDefined_113 : decode cX8_ifDefined 113 = .ok (.iadd, 1) := by decide +kernel
theorem dX8_ifDefined_114 : decode cX8_ifDefined 114 = .ok (.aload_n 0, 1) := by decide +kernel
theorem dX8_ifDefined_115 : decode cX8_ifDefined 115 = .ok (.getfield 95, 3) := by decide +kernel
theorem dX8_ifDefined_118 : decode cX8_ifDefined 118 = .ok (.iload 4, 2) := by decide +kernel
theorem dX8_ifDefined_120 : decode cX8_ifDefined 120 = .ok (.iaload, 1) := by decide +kernel
theorem dX8_ifDefined_121 : decode cX8_ifDefined 121 = .ok (.iastore, 1) := by decide +kernel
theorem dX8_ifDefined_122 : decode cX8_ifDefined 122 = .ok (.iinc 4 1, 3) := by decide +kernel
theorem dX8_ifDefined_125 : decode cX8_ifDefined 125 = .ok (.goto (-32), 3) := by decide +kernel
theorem dX8_ifDefined_128 : decode cX8_ifDefined 128 = .ok (.iload_n 3, 1) := by decide +kernel
theorem dX8_ifDefined_129 : decode cX8_ifDefined 129 = .ok (.ireturn, 1) := by decide +kernel
theorem dX8_sign_0 : decode cX8_sign 0 = .ok (.aload_n 0, 1) := by decide +kernel
theorem dX8_sign_1 : decode cX8_sign 1 = .ok (.iload_n 1, 1) := by decide +kernel
theorem dX8_sign_2 : decode cX8_sign 2 = .ok (.ifCond .ge 7, 3) := by decide +kernel
theorem dX8_sign_5 : decode cX8_sign 5 = .ok (.iconst 1, 1) := by decide +kernel
theorem dX8_sign_6 : decode cX8_sign 6 = .ok (.goto 4, 3) := by decide +kernel
theorem dX8_sign_9 : decode cX8_sign 9 = .ok (.iconst 0, 1) := by decide +kernel
theorem dX8_sign_10 : decode cX8_sign 10 = .ok (.invokevirtual 116, 3) := by decide +kernel
theorem dX8_sign_13 : decode cX8_sign 13 = .ok (.ifCond .eq 5, 3) := by decide +kernel
theorem dX8_sign_16 : decode cX8_sign 16 = .ok (.iconst 0, 1) := by decide +kernel
theorem dX8_sign_17 : decode cX8_sign 17 = .ok (.ireturn, 1) := by decide +kernel
theorem dX8_sign_18 : decode cX8_sign 18 = .ok (.iload_n 1, 1) := by decide +kernel
theorem dX8_sign_19 : decode cX8_sign 19 = .ok (.aload_n 0, 1) := by decide +kernel
theorem dX8_sign_20 : decode cX8_sign 20 = .ok (.getfield 7, 3) := by decide +kernel
theorem dX8_sign_23 : decode cX8_sign 23 = .ok (.sipush 1587, 3) := by decide +kernel
theorem dX8_sign_26 : decode cX8_sign 26 = .ok (.iaload, 1) := by decide +kernel
theorem dX8_sign_27 : decode cX8_sign 27 = .ok (.if_icmp .ge 16, 3) := by decide +kernel
theorem dX8_sign_30 : decode cX8_sign 30 = .ok (.aload_n 0, 1) := by decide +kernel
theorem dX8_sign_31 : decode cX8_sign 31 = .ok (.getfield 7, 3) := by decide +kernel
theorem dX8_sign_34 : decode cX8_sign 34 = .ok (.sipush 1588, 3) := by decide +kernel
theorem dX8_sign_37 : decode cX8_sign 37 = .ok (.iload_n 1, 1) := by decide +kernel
theorem dX8_sign_38 : decode cX8_sign 38 = .ok (.iadd, 1) := by decide +kernel
theorem dX8_sign_39 : decode cX8_sign 39 = .ok (.iaload, 1) := by decide +kernel
theorem dX8_sign_40 : decode cX8_sign 40 = .ok (.goto 4, 3) := by decide +kernel
theorem dX8_sign_43 : decode cX8_sign 43 = .ok (.iconst (-1), 1) := by decide +kernel
theorem dX8_sign_44 : decode cX8_sign 44 = .ok (.ireturn, 1) := by decide +kernel
theorem dX8_signsAs_0 : decode cX8_signsAs 0 = .ok (.iconst 0, 1) := by decide +kernel
theorem dX8_signsAs_1 : decode cX8_signsAs 1 = .ok (.istore_n 2, 1) := by decide +kernel
theorem dX8_signsAs_2 : decode cX8_signsAs 2 = .ok (.iconst 0, 1) := by decide +kernel
theorem dX8_signsAs_3 : decode cX8_signsAs 3 = .ok (.istore_n 3, 1) := by decide +kernel
theorem dX8_signsAs_4 : decode cX8_signsAs 4 = .ok (.iload_n 3, 1) := by decide +kernel
theorem dX8_signsAs_5 : decode cX8_signsAs 5 = .ok (.aload_n 0, 1) := by decide +kernel
theorem dX8_signsAs_6 : decode cX8_signsAs 6 = .ok (.getfield 7, 3) := by decide +kernel
theorem dX8_signsAs_9 : decode cX8_signsAs 9 = .ok (.sipush 1587, 3) := by decide +kernel
theorem dX8_signsAs_12 : decode cX8_signsAs 12 = .ok (.iaload, 1) := by decide +kernel
theorem dX8_signsAs_13 : decode cX8_signsAs 13 = .ok (.if_icmp .ge 31, 3) := by decide +kernel
theorem dX8_signsAs_16 : decode cX8_signsAs 16 = .ok (.iload_n 2, 1) := by decide +kernel
theorem dX8_signsAs_17 : decode cX8_signsAs 17 = .ok (.aload_n 0, 1) := by decide +kernel
theorem dX8_signsAs_18 : decode cX8_signsAs 18 = .ok (.getfield 7, 3) := by decide +kernel
theorem dX8_signsAs_21 : decode cX8_signsAs 21 = .ok (.sipush 1588, 3) := by decide +kernel
theorem dX8_signsAs_24 : decode cX8_signsAs 24 = .ok (.iload_n 3, 1) := by decide +kernel
theorem dX8_signsAs_25 : decode cX8_signsAs 25 = .ok (.iadd, 1) := by decide +kernel
theorem dX8_signsAs_26 : decode cX8_signsAs 26 = .ok (.iaload, 1) := by decide +kernel
theorem dX8_signsAs_27 : decode cX8_signsAs 27 = .ok (.iload_n 1, 1) := by decide +kernel
theorem dX8_signsAs_28 : decode cX8_signsAs 28 = .ok (.if_icmp .ne 7, 3) := by decide +kernel
theorem dX8_signsAs_31 : decode cX8_signsAs 31 = .ok (.iconst 1, 1) := by decide +kernel
theorem dX8_signsAs_32 : decode cX8_signsAs 32 = .ok (.goto 4, 3) := by decide +kernel
theorem dX8_signsAs_35 : decode cX8_signsAs 35 = .ok (.iconst 0, 1) := by decide +kernel
theorem dX8_signsAs_36 : decode cX8_signsAs 36 = .ok (.iadd, 1) := by decide +kernel
theorem dX8_signsAs_37 : decode cX8_signsAs 37 = .ok (.istore_n 2, 1) := by decide +kernel
theorem dX8_signsAs_38 : decode cX8_signsAs 38 = .ok (.iinc 3 1, 3) := by decide +kernel
theorem dX8_signsAs_41 : decode cX8_signsAs 41 = .ok (.goto (-37), 3) := by decide +kernel
theorem dX8_signsAs_44 : decode cX8_signsAs 44 = .ok (.iload_n 2, 1) := by decide +kernel
theorem dX8_signsAs_45 : decode cX8_signsAs 45 = .ok (.ireturn, 1) := by decide +kernel
theorem dX8_result_0 : decode cX8_result 0 = .ok (.aload_n 0, 1) := by decide +kernel
theorem dX8_result_1 : decode cX8_result 1 = .ok (.iload_n 1, 1) := by decide +kernel
theorem dX8_result_2 : decode cX8_result 2 = .ok (.iconst 0, 1) := by decide +kernel
theorem dX8_result_3 : decode cX8_result 3 = .ok (.bipush 7, 2) := by decide +kernel
theorem dX8_result_5 : decode cX8_result 5 = .ok (.invokestatic 102, 3) := by decide +kernel
theorem dX8_result_8 : decode cX8_result 8 = .ok (.ifCond .eq 7, 3) := by decide +kernel
theorem dX8_result_11 : decode cX8_result 11 = .ok (.iconst 0, 1) := by decide +kernel
theorem dX8_result_12 : decode cX8_result 12 = .ok (.goto 4, 3) := by decide +kernel
theorem dX8_result_15 : decode cX8_result 15 = .ok (.iconst 1, 1) := by decide +kernel
theorem dX8_result_16 : decode cX8_result 16 = .ok (.invokevirtual 116, 3) := by decide +kernel
theorem dX8_result_19 : decode cX8_result 19 = .ok (.ifCond .eq 5, 3) := by decide +kernel
theorem dX8_result_22 : decode cX8_result 22 = .ok (.iconst 0, 1) := by decide +kernel
theorem dX8_result_23 : decode cX8_result 23 = .ok (.ireturn, 1) := by decide +kernel
theorem dX8_result_24 : decode cX8_result 24 = .ok (.iload_n 1, 1) := by decide +kernel
theorem dX8_result_25 : decode cX8_result 25 = .ok (.tableswitch 98 0 6 #[43, 52, 59, 66, 73, 80, 89], 43) := by decide +kernel
theorem dX8_result_68 : decode cX8_result 68 = .ok (.aload_n 0, 1) := by decide +kernel
theorem dX8_result_69 : decode cX8_result 69 = .ok (.getfield 7, 3) := by decide +kernel
theorem dX8_result_72 : decode cX8_result 72 = .ok (.sipush 1587, 3) := by decide +kernel
theorem dX8_result_75 : decode cX8_result 75 = .ok (.iaload, 1) := by decide +kernel
theorem dX8_result_76 : decode cX8_result 76 = .ok (.ireturn, 1) := by decide +kernel
theorem dX8_result_77 : decode cX8_result 77 = .ok (.aload_n 0, 1) := by decide +kernel
theorem dX8_result_78 : decode cX8_result 78 = .ok (.bipush 35, 2) := by decide +kernel
theorem dX8_result_80 : decode cX8_result 80 = .ok (.invokevirtual 266, 3) := by decide +kernel
theorem dX8_result_83 : decode cX8_result 83 = .ok (.ireturn, 1) := by decide +kernel
theorem dX8_result_84 : decode cX8_result 84 = .ok (.aload_n 0, 1) := by decide +kernel
theorem dX8_result_85 : decode cX8_result 85 = .ok (.bipush 37, 2) := by decide +kernel
theorem dX8_result_87 : decode cX8_result 87 = .ok (.invokevirtual 266, 3) := by decide +kernel
theorem dX8_result_90 : decode cX8_result 90 = .ok (.ireturn, 1) := by decide +kernel
theorem dX8_result_91 : decode cX8_result 91 = .ok (.aload_n 0, 1) := by decide +kernel
theorem dX8_result_92 : decode cX8_result 92 = .ok (.bipush 36, 2) := by decide +kernel
theorem dX8_result_94 : decode cX8_result 94 = .ok (.invokevirtual 266, 3) := by decide +kernel
theorem dX8_result_97 : decode cX8_result 97 = .ok (.ireturn, 1) := by decide +kernel
theorem dX8_result_98 : decode cX8_result 98 = .ok (.aload_n 0, 1) := by decide +kernel
theorem dX8_result_99 : decode cX8_result 99 = .ok (.bipush 63, 2) := by decide +kernel
theorem dX8_result_101 : decode cX8_result 101 = .ok (.invokevirtual 266, 3) := by decide +kernel
theorem dX8_result_104 : decode cX8_result 104 = .ok (.ireturn, 1) := by decide +kernel
theorem dX8_result_105 : decode cX8_result 105 = .ok (.aload_n 0, 1) := by decide +kernel
theorem dX8_result_106 : decode cX8_result 106 = .ok (.getfield 7, 3) := by decide +kernel
theorem dX8_result_109 : decode cX8_result 109 = .ok (.sipush 1788, 3) := by decide +kernel
theorem dX8_result_112 : decode cX8_result 112 = .ok (.iaload, 1) := by decide +kernel
theorem dX8_result_113 : decode cX8_result 113 = .ok (.ireturn, 1) := by decide +kernel
theorem dX8_result_114 : decode cX8_result 114 = .ok (.aload_n 0, 1) := by decide +kernel
theorem dX8_result_115 : decode cX8_result 115 = .ok (.getfield 7, 3) := by decide +kernel
theorem dX8_result_118 : decode cX8_result 118 = .ok (.sipush 1789, 3) := by decide +kernel
theorem dX8_result_121 : decode cX8_result 121 = .ok (.iaload, 1) := by decide +kernel
theorem dX8_result_122 : decode cX8_result 122 = .ok (.ireturn, 1) := by decide +kernel
theorem dX8_result_123 : decode cX8_result 123 = .ok (.aload_n 0, 1) := by decide +kernel
theorem dX8_result_124 : decode cX8_result 124 = .ok (.getfield 7, 3) := by decide +kernel
theorem dX8_result_127 : decode cX8_result 127 = .ok (.sipush 1792, 3) := by decide +kernel
theorem dX8_result_130 : decode cX8_result 130 = .ok (.iaload, 1) := by decide +kernel
theorem dX8_result_131 : decode cX8_result 131 = .ok (.ireturn, 1) := by decide +kernel
theorem dX8_trace_0 : decode cX8_trace 0 = .ok (.aload_n 0, 1) := by decide +kernel
theorem dX8_trace_1 : decode cX8_trace 1 = .ok (.iload_n 1, 1) := by decide +kernel
theorem dX8_trace_2 : decode cX8_trace 2 = .ok (.ifCond .lt 12, 3) := by decide +kernel
theorem dX8_trace_5 : decode cX8_trace 5 = .ok (.iload_n 2, 1) := by decide +kernel
theorem dX8_trace_6 : decode cX8_trace 6 = .ok (.iconst 0, 1) := by decide +kernel
theorem dX8_trace_7 : decode cX8_trace 7 = .ok (.iconst 5, 1) := by decide +kernel
theorem dX8_trace_8 : decode cX8_trace 8 = .ok (.invokestatic 102, 3) := by decide +kernel
theorem dX8_trace_11 : decode cX8_trace 11 = .ok (.ifCond .ne 7, 3) := by decide +kernel
theorem dX8_trace_14 : decode cX8_trace 14 = .ok (.iconst 1, 1) := by decide +kernel
theorem dX8_trace_15 : decode cX8_trace 15 = .ok (.goto 4, 3) := by decide +kernel
theorem dX8_trace_18 : decode cX8_trace 18 = .ok (.iconst 0, 1) := by decide +kernel
theorem dX8_trace_19 : decode cX8_trace 19 = .ok (.invokevirtual 116, 3) := by decide +kernel
theorem dX8_trace_22 : decode cX8_trace 22 = .ok (.ifCond .eq 5, 3) := by decide +kernel
theorem dX8_trace_25 : decode cX8_trace 25 = .ok (.iconst 0, 1) := by decide +kernel
theorem dX8_trace_26 : decode cX8_trace 26 = .ok (.ireturn, 1) := by decide +kernel
theorem dX8_trace_27 : decode cX8_trace 27 = .ok (.iload_n 1, 1) := by decide +kernel
theorem dX8_trace_28 : decode cX8_trace 28 = .ok (.aload_n 0, 1) := by decide +kernel
theorem dX8_trace_29 : decode cX8_trace 29 = .ok (.getfield 7, 3) := by decide +kernel
theorem dX8_trace_32 : decode cX8_trace 32 = .ok (.sipush 1792, 3) := by decide +kernel
theorem dX8_trace_35 : decode cX8_trace 35 = .ok (.iaload, 1) := by decide +kernel
theorem dX8_trace_36 : decode cX8_trace 36 = .ok (.if_icmp .ge 21, 3) := by decide +kernel
theorem dX8_trace_39 : decode cX8_trace 39 = .ok (.aload_n 0, 1) := by decide +kernel
theorem dX8_trace_40 : decode cX8_trace 40 = .ok (.getfield 7, 3) := by decide +kernel
theorem dX8_trace_43 : decode cX8_trace 43 = .ok (.sipush 1793, 3) := by decide +kernel
theorem dX8_trace_46 : decode cX8_trace 46 = .ok (.bipush 6, 2) := by decide +kernel
theorem dX8_trace_48 : decode cX8_trace 48 = .ok (.iload_n 1, 1) := by decide +kernel
theorem dX8_trace_49 : decode cX8_trace 49 = .ok (.imul, 1) := by decide +kernel
theorem dX8_trace_50 : decode cX8_trace 50 = .ok (.iadd, 1) := by decide +kernel
theorem dX8_trace_51 : decode cX8_trace 51 = .ok (.iload_n 2, 1) := by decide +kernel
theorem dX8_trace_52 : decode cX8_trace 52 = .ok (.iadd, 1) := by decide +kernel
theorem dX8_trace_53 : decode cX8_trace 53 = .ok (.iaload, 1) := by decide +kernel
theorem dX8_trace_54 : decode cX8_trace 54 = .ok (.goto 4, 3) := by decide +kernel
theorem dX8_trace_57 : decode cX8_trace 57 = .ok (.iconst (-1), 1) := by decide +kernel
theorem dX8_trace_58 : decode cX8_trace 58 = .ok (.ireturn, 1) := by decide +kernel
theorem dX8_lengthOf_0 : decode cX8_lengthOf 0 = .ok (.aload_n 0, 1) := by decide +kernel
theorem dX8_lengthOf_1 : decode cX8_lengthOf 1 = .ok (.iload_n 1, 1) := by decide +kernel
theorem dX8_lengthOf_2 : decode cX8_lengthOf 2 = .ok (.invokestatic 132, 3) := by decide +kernel
theorem dX8_lengthOf_5 : decode cX8_lengthOf 5 = .ok (.ifCond .ne 7, 3) := by decide +kernel
theorem dX8_lengthOf_8 : decode cX8_lengthOf 8 = .ok (.iconst 1, 1) := by decide +kernel
theorem dX8_lengthOf_9 : decode cX8_lengthOf 9 = .ok (.goto 18, 3) := by decide +kernel
theorem dX8_lengthOf_12 : decode cX8_lengthOf 12 = .ok (.iload_n 2, 1) := by decide +kernel
theorem dX8_lengthOf_13 : decode cX8_lengthOf 13 = .ok (.iconst 0, 1) := by decide +kernel
theorem dX8_lengthOf_14 : decode cX8_lengthOf 14 = .ok (.bipush 20, 2) := by decide +kernel
theorem dX8_lengthOf_16 : decode cX8_lengthOf 16 = .ok (.invokestatic 102, 3) := by decide +kernel
theorem dX8_lengthOf_19 : decode cX8_lengthOf 19 = .ok (.ifCond .eq 7, 3) := by decide +kernel
theorem dX8_lengthOf_22 : decode cX8_lengthOf 22 = .ok (.iconst 0, 1) := by decide +kernel
theorem dX8_lengthOf_23 : decode cX8_lengthOf 23 = .ok (.goto 4, 3) := by decide +kernel
theorem dX8_lengthOf_26 : decode cX8_lengthOf 26 = .ok (.iconst 2, 1) := by decide +kernel
theorem dX8_lengthOf_27 : decode cX8_lengthOf 27 = .ok (.invokevirtual 116, 3) := by decide +kernel
theorem dX8_lengthOf_30 : decode cX8_lengthOf 30 = .ok (.ifCond .eq 5, 3) := by decide +kernel
theorem dX8_lengthOf_33 : decode cX8_lengthOf 33 = .ok (.iconst 0, 1) := by decide +kernel
theorem dX8_lengthOf_34 : decode cX8_lengthOf 34 = .ok (.ireturn, 1) := by decide +kernel
theorem dX8_lengthOf_35 : decode cX8_lengthOf 35 = .ok (.aload_n 0, 1) := by decide +kernel
theorem dX8_lengthOf_36 : decode cX8_lengthOf 36 = .ok (.iload_n 1, 1) := by decide +kernel
theorem dX8_lengthOf_37 : decode cX8_lengthOf 37 = .ok (.invokevirtual 112, 3) := by decide +kernel
theorem dX8_lengthOf_40 : decode cX8_lengthOf 40 = .ok (.ifCond .ne 5, 3) := by decide +kernel
theorem dX8_lengthOf_43 : decode cX8_lengthOf 43 = .ok (.iconst (-1), 1) := by decide +kernel
theorem dX8_lengthOf_44 : decode cX8_lengthOf 44 = .ok (.ireturn, 1) := by decide +kernel
theorem dX8_lengthOf_45 : decode cX8_lengthOf 45 = .ok (.aload_n 0, 1) := by decide +kernel
theorem dX8_lengthOf_46 : decode cX8_lengthOf 46 = .ok (.bipush 27, 2) := by decide +kernel
theorem dX8_lengthOf_48 : decode cX8_lengthOf 48 = .ok (.invokevirtual 229, 3) := by decide +kernel
theorem dX8_lengthOf_51 : decode cX8_lengthOf 51 = .ok (.aload_n 0, 1) := by decide +kernel
theorem dX8_lengthOf_52 : decode cX8_lengthOf 52 = .ok (.iload_n 2, 1) := by decide +kernel
theorem dX8_lengthOf_53 : decode cX8_lengthOf 53 = .ok (.putfield 188, 3) := by decide +kernel
theorem dX8_lengthOf_56 : decode cX8_lengthOf 56 = .ok (.aload_n 0, 1) := by decide +kernel
theorem dX8_lengthOf_57 : decode cX8_lengthOf 57 = .ok (.iload_n 1, 1) := by decide +kernel
theorem dX8_lengthOf_58 : decode cX8_lengthOf 58 = .ok (.invokevirtual 185, 3) := by decide +kernel
theorem dX8_lengthOf_61 : decode cX8_lengthOf 61 = .ok (.aload_n 0, 1) := by decide +kernel
theorem dX8_lengthOf_62 : decode cX8_lengthOf 62 = .ok (.invokevirtual 232, 3) := by decide +kernel
theorem dX8_lengthOf_65 : decode cX8_lengthOf 65 = .ok (.ifCond .eq 12, 3) := by decide +kernel
theorem dX8_lengthOf_68 : decode cX8_lengthOf 68 = .ok (.aload_n 0, 1) := by decide +kernel
theorem dX8_lengthOf_69 : decode cX8_lengthOf 69 = .ok (.getfield 59, 3) := by decide +kernel
theorem dX8_lengthOf_72 : decode cX8_lengthOf 72 = .ok (.iconst 0, 1) := by decide +kernel
theorem dX8_lengthOf_73 : decode cX8_lengthOf 73 = .ok (.iaload, 1) := by decide +kernel
theorem dX8_lengthOf_74 : decode cX8_lengthOf 74 = .ok (.goto 4, 3) := by decide +kernel
theorem dX8_lengthOf_77 : decode cX8_lengthOf 77 = .ok (.iconst (-1), 1) := by decide +kernel
theorem dX8_lengthOf_78 : decode cX8_lengthOf 78 = .ok (.ireturn, 1) := by decide +kernel
theorem dX8_callsOfAll_0 : decode cX8_callsOfAll 0 = .ok (.iconst 0, 1) := by decide +kernel
theorem dX8_callsOfAll_1 : decode cX8_callsOfAll 1 = .ok (.istore_n 1, 1) := by decide +kernel
theorem dX8_callsOfAll_2 : decode cX8_callsOfAll 2 = .ok (.iconst 0, 1) := by decide +kernel
theorem dX8_callsOfAll_3 : decode cX8_callsOfAll 3 = .ok (.istore_n 2, 1) := by decide +kernel
theorem dX8_callsOfAll_4 : decode cX8_callsOfAll 4 = .ok (.iload_n 2, 1) := by decide +kernel
theorem dX8_callsOfAll_5 : decode cX8_callsOfAll 5 = .ok (.bipush 26, 2) := by decide +kernel
theorem dX8_callsOfAll_7 : decode cX8_callsOfAll 7 = .ok (.if_icmp .ge 17, 3) := by decide +kernel
theorem dX8_callsOfAll_10 : decode cX8_callsOfAll 10 = .ok (.iload_n 1, 1) := by decide +kernel
theorem dX8_callsOfAll_11 : decode cX8_callsOfAll 11 = .ok (.aload_n 0, 1) := by decide +kernel
theorem dX8_callsOfAll_12 : decode cX8_callsOfAll 12 = .ok (.iload_n 2, 1) := by decide +kernel
theorem dX8_callsOfAll_13 : decode cX8_callsOfAll 13 = .ok (.invokevirtual 238, 3) := by decide +kernel
theorem dX8_callsOfAll_16 : decode cX8_callsOfAll 16 = .ok (.iadd, 1) := by decide +kernel
theorem dX8_callsOfAll_17 : decode cX8_callsOfAll 17 = .ok (.istore_n 1, 1) := by decide +kernel
theorem dX8_callsOfAll_18 : decode cX8_callsOfAll 18 = .ok (.iinc 2 1, 3) := by decide +kernel
theorem dX8_callsOfAll_21 : decode cX8_callsOfAll 21 = .ok (.goto (-17), 3) := by decide +kernel
theorem dX8_callsOfAll_24 : decode cX8_callsOfAll 24 = .ok (.iload_n 1, 1) := by decide +kernel
theorem dX8_callsOfAll_25 : decode cX8_callsOfAll 25 = .ok (.ireturn, 1) := by decide +kernel
theorem dX8_count_0 : decode cX8_count 0 = .ok (.aload_n 0, 1) := by decide +kernel
theorem dX8_count_1 : decode cX8_count 1 = .ok (.iload_n 1, 1) := by decide +kernel
theorem dX8_count_2 : decode cX8_count 2 = .ok (.iconst 0, 1) := by decide +kernel
theorem dX8_count_3 : decode cX8_count 3 = .ok (.bipush 7, 2) := by decide +kernel
theorem dX8_count_5 : decode cX8_count 5 = .ok (.invokestatic 102, 3) := by decide +kernel
theorem dX8_count_8 : decode cX8_count 8 = .ok (.ifCond .eq 7, 3) := by decide +kernel
theorem dX8_count_11 : decode cX8_count 11 = .ok (.iconst 0, 1) := by decide +kernel
theorem dX8_count_12 : decode cX8_count 12 = .ok (.goto 4, 3) := by decide +kernel
theorem dX8_count_15 : decode cX8_count 15 = .ok (.iconst 1, 1) := by decide +kernel
theorem dX8_count_16 : decode cX8_count 16 = .ok (.invokevirtual 116, 3) := by decide +kernel
theorem dX8_count_19 : decode cX8_count 19 = .ok (.ifCond .eq 5, 3) := by decide +kernel
theorem dX8_count_22 : decode cX8_count 22 = .ok (.iconst 0, 1) := by decide +kernel
theorem dX8_count_23 : decode cX8_count 23 = .ok (.ireturn, 1) := by decide +kernel
theorem dX8_count_24 : decode cX8_count 24 = .ok (.iload_n 1, 1) := by decide +kernel
theorem dX8_count_25 : decode cX8_count 25 = .ok (.tableswitch 90 0 6 #[43, 48, 53, 62, 71, 80, 85], 43) := by decide +kernel
theorem dX8_count_68 : decode cX8_count 68 = .ok (.aload_n 0, 1) := by decide +kernel
theorem dX8_count_69 : decode cX8_count 69 = .ok (.invokevirtual 153, 3) := by decide +kernel
theorem dX8_count_72 : decode cX8_count 72 = .ok (.ireturn, 1) := by decide +kernel
theorem dX8_count_73 : decode cX8_count 73 = .ok (.aload_n 0, 1) := by decide +kernel
theorem dX8_count_74 : decode cX8_count 74 = .ok (.invokevirtual 263, 3) := by decide +kernel
theorem dX8_count_77 : decode cX8_count 77 = .ok (.ireturn, 1) := by decide +kernel
theorem dX8_count_78 : decode cX8_count 78 = .ok (.aload_n 0, 1) := by decide +kernel
theorem dX8_count_79 : decode cX8_count 79 = .ok (.getfield 7, 3) := by decide +kernel
theorem dX8_count_82 : decode cX8_count 82 = .ok (.sipush 1586, 3) := by decide +kernel
theorem dX8_count_85 : decode cX8_count 85 = .ok (.iaload, 1) := by decide +kernel
theorem dX8_count_86 : decode cX8_count 86 = .ok (.ireturn, 1) := by decide +kernel
theorem dX8_count_87 : decode cX8_count 87 = .ok (.aload_n 0, 1) := by decide +kernel
theorem dX8_count_88 : decode cX8_count 88 = .ok (.getfield 7, 3) := by decide +kernel
theorem dX8_count_91 : decode cX8_count 91 = .ok (.sipush 1790, 3) := by decide +kernel
theorem dX8_count_94 : decode cX8_count 94 = .ok (.iaload, 1) := by decide +kernel
theorem dX8_count_95 : decode cX8_count 95 = .ok (.ireturn, 1) := by decide +kernel
theorem dX8_count_96 : decode cX8_count 96 = .ok (.aload_n 0, 1) := by decide +kernel
theorem dX8_count_97 : decode cX8_count 97 = .ok (.getfield 7, 3) := by decide +kernel
theorem dX8_count_100 : decode cX8_count 100 = .ok (.sipush 1791, 3) := by decide +kernel
theorem dX8_count_103 : decode cX8_count 103 = .ok (.iaload, 1) := by decide +kernel
theorem dX8_count_104 : decode cX8_count 104 = .ok (.ireturn, 1) := by decide +kernel
theorem dX8_count_105 : decode cX8_count 105 = .ok (.aload_n 0, 1) := by decide +kernel
theorem dX8_count_106 : decode cX8_count 106 = .ok (.invokevirtual 269, 3) := by decide +kernel
theorem dX8_count_109 : decode cX8_count 109 = .ok (.ireturn, 1) := by decide +kernel
theorem dX8_count_110 : decode cX8_count 110 = .ok (.aload_n 0, 1) := by decide +kernel
theorem dX8_count_111 : decode cX8_count 111 = .ok (.getfield 109, 3) := by decide +kernel
theorem dX8_count_114 : decode cX8_count 114 = .ok (.ireturn, 1) := by decide +kernel
theorem dX8_count_115 : decode cX8_count 115 = .ok (.aload_n 0, 1) := by decide +kernel
theorem dX8_count_116 : decode cX8_count 116 = .ok (.getfield 106, 3) := by decide +kernel
theorem dX8_count_119 : decode cX8_count 119 = .ok (.ireturn, 1) := by decide +kernel
theorem dX8_meanHoles_0 : decode cX8_meanHoles 0 = .ok (.aload_n 0, 1) := by decide +kernel
theorem dX8_meanHoles_1 : decode cX8_meanHoles 1 = .ok (.iconst 0, 1) := by decide +kernel
theorem dX8_meanHoles_2 : decode cX8_meanHoles 2 = .ok (.putfield 98, 3) := by decide +kernel
theorem dX8_meanHoles_5 : decode cX8_meanHoles 5 = .ok (.iconst 0, 1) := by decide +kernel
theorem dX8_meanHoles_6 : decode cX8_meanHoles 6 = .ok (.istore_n 1, 1) := by decide +kernel
theorem dX8_meanHoles_7 : decode cX8_meanHoles 7 = .ok (.iconst 0, 1) := by decide +kernel
theorem dX8_meanHoles_8 : decode cX8_meanHoles 8 = .ok (.istore_n 2, 1) := by decide +kernel
theorem dX8_meanHoles_9 : decode cX8_meanHoles 9 = .ok (.iload_n 2, 1) := by decide +kernel
theorem dX8_meanHoles_10 : decode cX8_meanHoles 10 = .ok (.bipush 26, 2) := by decide +kernel
theorem dX8_meanHoles_12 : decode cX8_meanHoles 12 = .ok (.if_icmp .ge 35, 3) := by decide +kernel
theorem dX8_meanHoles_15 : decode cX8_meanHoles 15 = .ok (.iload_n 1, 1) := by decide +kernel
theorem dX8_meanHoles_16 : decode cX8_meanHoles 16 = .ok (.aload_n 0, 1) := by decide +kernel
theorem dX8_meanHoles_17 : decode cX8_meanHoles 17 = .ok (.iload_n 2, 1) := by decide +kernel
theorem dX8_meanHoles_18 : decode cX8_meanHoles 18 = .ok (.invokevirtual 112, 3) := by decide +kernel
theorem dX8_meanHoles_21 : decode cX8_meanHoles 21 = .ok (.ifCond .eq 17, 3) := by decide +kernel
theorem dX8_meanHoles_24 : decode cX8_meanHoles 24 = .ok (.aload_n 0, 1) := by decide +kernel
theorem dX8_meanHoles_25 : decode cX8_meanHoles 25 = .ok (.iload_n 2, 1) := by decide +kernel
theorem dX8_meanHoles_26 : decode cX8_meanHoles 26 = .ok (.aload_n 0, 1) := by decide +kernel
theorem dX8_meanHoles_27 : decode cX8_meanHoles 27 = .ok (.getfield 7, 3) := by decide +kernel
theorem dX8_meanHoles_30 : decode cX8_meanHoles 30 = .ok (.iload_n 2, 1) := by decide +kernel
theorem dX8_meanHoles_31 : decode cX8_meanHoles 31 = .ok (.iaload, 1) := by decide +kernel
theorem dX8_meanHoles_32 : decode cX8_meanHoles 32 = .ok (.invokevirtual 150, 3) := by decide +kernel
theorem dX8_meanHoles_35 : decode cX8_meanHoles 35 = .ok (.goto 4, 3) := by decide +kernel
theorem dX8_meanHoles_38 : decode cX8_meanHoles 38 = .ok (.iconst 0, 1) := by decide +kernel
theorem dX8_meanHoles_39 : decode cX8_meanHoles 39 = .ok (.iadd, 1) := by decide +kernel
theorem dX8_meanHoles_40 : decode cX8_meanHoles 40 = .ok (.istore_n 1, 1) := by decide +kernel
theorem dX8_meanHoles_41 : decode cX8_meanHoles 41 = .ok (.iinc 2 1, 3) := by decide +kernel
theorem dX8_meanHoles_44 : decode cX8_meanHoles 44 = .ok (.goto (-35), 3) := by decide +kernel
theorem dX8_meanHoles_47 : decode cX8_meanHoles 47 = .ok (.aload_n 0, 1) := by decide +kernel
theorem dX8_meanHoles_48 : decode cX8_meanHoles 48 = .ok (.invokevirtual 153, 3) := by decide +kernel
theorem dX8_meanHoles_51 : decode cX8_meanHoles 51 = .ok (.ifCond .ne 7, 3) := by decide +kernel
theorem dX8_meanHoles_54 : decode cX8_meanHoles 54 = .ok (.dconst 0, 1) := by decide +kernel
theorem dX8_meanHoles_55 : decode cX8_meanHoles 55 = .ok (.goto 11, 3) := by decide +kernel
theorem dX8_meanHoles_58 : decode cX8_meanHoles 58 = .ok (.iload_n 1, 1) := by decide +kernel
theorem dX8_meanHoles_59 : decode cX8_meanHoles 59 = .ok (.i2d, 1) := by decide +kernel
theorem dX8_meanHoles_60 : decode cX8_meanHoles 60 = .ok (.aload_n 0, 1) := by decide +kernel
theorem dX8_meanHoles_61 : decode cX8_meanHoles 61 = .ok (.invokevirtual 153, 3) := by decide +kernel
theorem dX8_meanHoles_64 : decode cX8_meanHoles 64 = .ok (.i2d, 1) := by decide +kernel
theorem dX8_meanHoles_65 : decode cX8_meanHoles 65 = .ok (.ddiv, 1) := by decide +kernel
theorem dX8_meanHoles_66 : decode cX8_meanHoles 66 = .ok (.dreturn, 1) := by decide +kernel
theorem dJ6_bitCount_0f7a4_0 : decode cJ6_bitCount_0f7a4 0 = .ok (.iload_n 0, 1) := by decide +kernel
theorem dJ6_bitCount_0f7a4_1 : decode cJ6_bitCount_0f7a4 1 = .ok (.iload_n 0, 1) := by decide +kernel
theorem dJ6_bitCount_0f7a4_2 : decode cJ6_bitCount_0f7a4 2 = .ok (.iconst 1, 1) := by decide +kernel
theorem dJ6_bitCount_0f7a4_3 : decode cJ6_bitCount_0f7a4 3 = .ok (.iushr, 1) := by decide +kernel
theorem dJ6_bitCount_0f7a4_4 : decode cJ6_bitCount_0f7a4 4 = .ok (.ldc_w 265, 3) := by decide +kernel
theorem dJ6_bitCount_0f7a4_7 : decode cJ6_bitCount_0f7a4 7 = .ok (.iand, 1) := by decide +kernel
theorem dJ6_bitCount_0f7a4_8 : decode cJ6_bitCount_0f7a4 8 = .ok (.isub, 1) := by decide +kernel
theorem dJ6_bitCount_0f7a4_9 : decode cJ6_bitCount_0f7a4 9 = .ok (.istore_n 0, 1) := by decide +kernel
theorem dJ6_bitCount_0f7a4_10 : decode cJ6_bitCount_0f7a4 10 = .ok (.iload_n 0, 1) := by decide +kernel
theorem dJ6_bitCount_0f7a4_11 : decode cJ6_bitCount_0f7a4 11 = .ok (.ldc_w 266, 3) := by decide +kernel
theorem dJ6_bitCount_0f7a4_14 : decode cJ6_bitCount_0f7a4 14 = .ok (.iand, 1) := by decide +kernel
theorem dJ6_bitCount_0f7a4_15 : decode cJ6_bitCount_0f7a4 15 = .ok (.iload_n 0, 1) := by decide +kernel
theorem dJ6_bitCount_0f7a4_16 : decode cJ6_bitCount_0f7a4 16 = .ok (.iconst 2, 1) := by decide +kernel
theorem dJ6_bitCount_0f7a4_17 : decode cJ6_bitCount_0f7a4 17 = .ok (.iushr, 1) := by decide +kernel
theorem dJ6_bitCount_0f7a4_18 : decode cJ6_bitCount_0f7a4 18 = .ok (.ldc_w 266, 3) := by decide +kernel
theorem dJ6_bitCount_0f7a4_21 : decode cJ6_bitCount_0f7a4 21 = .ok (.iand, 1) := by decide +kernel
theorem dJ6_bitCount_0f7a4_22 : decode cJ6_bitCount_0f7a4 22 = .ok (.iadd, 1) := by decide +kernel
theorem dJ6_bitCount_0f7a4_23 : decode cJ6_bitCount_0f7a4 23 = .ok (.istore_n 0, 1) := by decide +kernel
theorem dJ6_bitCount_0f7a4_24 : decode cJ6_bitCount_0f7a4 24 = .ok (.iload_n 0, 1) := by decide +kernel
theorem dJ6_bitCount_0f7a4_25 : decode cJ6_bitCount_0f7a4 25 = .ok (.iload_n 0, 1) := by decide +kernel
theorem dJ6_bitCount_0f7a4_26 : decode cJ6_bitCount_0f7a4 26 = .ok (.iconst 4, 1) := by decide +kernel
theorem dJ6_bitCount_0f7a4_27 : decode cJ6_bitCount_0f7a4 27 = .ok (.iushr, 1) := by decide +kernel
theorem dJ6_bitCount_0f7a4_28 : decode cJ6_bitCount_0f7a4 28 = .ok (.iadd, 1) := by decide +kernel
theorem dJ6_bitCount_0f7a4_29 : decode cJ6_bitCount_0f7a4 29 = .ok (.ldc_w 267, 3) := by decide +kernel
theorem dJ6_bitCount_0f7a4_32 : decode cJ6_bitCount_0f7a4 32 = .ok (.iand, 1) := by decide +kernel
theorem dJ6_bitCount_0f7a4_33 : decode cJ6_bitCount_0f7a4 33 = .ok (.istore_n 0, 1) := by decide +kernel
theorem dJ6_bitCount_0f7a4_34 : decode cJ6_bitCount_0f7a4 34 = .ok (.iload_n 0, 1) := by decide +kernel
theorem dJ6_bitCount_0f7a4_35 : decode cJ6_bitCount_0f7a4 35 = .ok (.iload_n 0, 1) := by decide +kernel
theorem dJ6_bitCount_0f7a4_36 : decode cJ6_bitCount_0f7a4 36 = .ok (.bipush 8, 2) := by decide +kernel
theorem dJ6_bitCount_0f7a4_38 : decode cJ6_bitCount_0f7a4 38 = .ok (.iushr, 1) := by decide +kernel
theorem dJ6_bitCount_0f7a4_39 : decode cJ6_bitCount_0f7a4 39 = .ok (.iadd, 1) := by decide +kernel
theorem dJ6_bitCount_0f7a4_40 : decode cJ6_bitCount_0f7a4 40 = .ok (.istore_n 0, 1) := by decide +kernel
theorem dJ6_bitCount_0f7a4_41 : decode cJ6_bitCount_0f7a4 41 = .ok (.iload_n 0, 1) := by decide +kernel
theorem dJ6_bitCount_0f7a4_42 : decode cJ6_bitCount_0f7a4 42 = .ok (.iload_n 0, 1) := by decide +kernel
theorem dJ6_bitCount_0f7a4_43 : decode cJ6_bitCount_0f7a4 43 = .ok (.bipush 16, 2) := by decide +kernel
theorem dJ6_bitCount_0f7a4_45 : decode cJ6_bitCount_0f7a4 45 = .ok (.iushr, 1) := by decide +kernel
theorem dJ6_bitCount_0f7a4_46 : decode cJ6_bitCount_0f7a4 46 = .ok (.iadd, 1) := by decide +kernel
theorem dJ6_bitCount_0f7a4_47 : decode cJ6_bitCount_0f7a4 47 = .ok (.istore_n 0, 1) := by decide +kernel
theorem dJ6_bitCount_0f7a4_48 : decode cJ6_bitCount_0f7a4 48 = .ok (.iload_n 0, 1) := by decide +kernel
theorem dJ6_bitCount_0f7a4_49 : decode cJ6_bitCount_0f7a4 49 = .ok (.bipush 63, 2) := by decide +kernel
theorem dJ6_bitCount_0f7a4_51 : decode cJ6_bitCount_0f7a4 51 = .ok (.iand, 1) := by decide +kernel
theorem dJ6_bitCount_0f7a4_52 : decode cJ6_bitCount_0f7a4 52 = .ok (.ireturn, 1) := by decide +kernel
theorem dJ9_max_7cf53_0 : decode cJ9_max_7cf53 0 = .ok (.iload_n 0, 1) := by decide +kernel
theorem dJ9_max_7cf53_1 : decode cJ9_max_7cf53 1 = .ok (.iload_n 1, 1) := by decide +kernel
theorem dJ9_max_7cf53_2 : decode cJ9_max_7cf53 2 = .ok (.if_icmp .lt 7, 3) := by decide +kernel
theorem dJ9_max_7cf53_5 : decode cJ9_max_7cf53 5 = .ok (.iload_n 0, 1) := by decide +kernel
theorem dJ9_max_7cf53_6 : decode cJ9_max_7cf53 6 = .ok (.goto 4, 3) := by decide +kernel
theorem dJ9_max_7cf53_9 : decode cJ9_max_7cf53 9 = .ok (.iload_n 1, 1) := by decide +kernel
theorem dJ9_max_7cf53_10 : decode cJ9_max_7cf53 10 = .ok (.ireturn, 1) := by decide +kernel
theorem dJ9_min_7cf53_0 : decode cJ9_min_7cf53 0 = .ok (.iload_n 0, 1) := by decide +kernel
theorem dJ9_min_7cf53_1 : decode cJ9_min_7cf53 1 = .ok (.iload_n 1, 1) := by decide +kernel
theorem dJ9_min_7cf53_2 : decode cJ9_min_7cf53 2 = .ok (.if_icmp .gt 7, 3) := by decide +kernel
theorem dJ9_min_7cf53_5 : decode cJ9_min_7cf53 5 = .ok (.iload_n 0, 1) := by decide +kernel
theorem dJ9_min_7cf53_6 : decode cJ9_min_7cf53 6 = .ok (.goto 4, 3) := by decide +kernel
theorem dJ9_min_7cf53_9 : decode cJ9_min_7cf53 9 = .ok (.iload_n 1, 1) := by decide +kernel
theorem dJ9_min_7cf53_10 : decode cJ9_min_7cf53 10 = .ok (.ireturn, 1) := by decide +kernel
theorem dJ7_copyOf_59c91_0 : decode cJ7_copyOf_59c91 0 = .ok (.iload_n 1, 1) := by decide +kernel
theorem dJ7_copyOf_59c91_1 : decode cJ7_copyOf_59c91 1 = .ok (.aload_n 0, 1) := by decide +kernel
theorem dJ7_copyOf_59c91_2 : decode cJ7_copyOf_59c91 2 = .ok (.arraylength, 1) := by decide +kernel
theorem dJ7_copyOf_59c91_3 : decode cJ7_copyOf_59c91 3 = .ok (.if_icmp .ne 11, 3) := by decide +kernel
theorem dJ7_copyOf_59c91_6 : decode cJ7_copyOf_59c91 6 = .ok (.aload_n 0, 1) := by decide +kernel
theorem dJ7_copyOf_59c91_7 : decode cJ7_copyOf_59c91 7 = .ok (.invokevirtual 316, 3) := by decide +kernel
theorem dJ7_copyOf_59c91_10 : decode cJ7_copyOf_59c91 10 = .ok (.checkcast 317, 3) := by decide +kernel
theorem dJ7_copyOf_59c91_13 : decode cJ7_copyOf_59c91 13 = .ok (.areturn, 1) := by decide +kernel
theorem dJ7_copyOf_59c91_14 : decode cJ7_copyOf_59c91 14 = .ok (.iload_n 1, 1) := by decide +kernel
theorem dJ7_copyOf_59c91_15 : decode cJ7_copyOf_59c91 15 = .ok (.newarray .int, 2) := by decide +kernel
theorem dJ7_copyOf_59c91_17 : decode cJ7_copyOf_59c91 17 = .ok (.astore_n 2, 1) := by decide +kernel
theorem dJ7_copyOf_59c91_18 : decode cJ7_copyOf_59c91 18 = .ok (.aload_n 0, 1) := by decide +kernel
theorem dJ7_copyOf_59c91_19 : decode cJ7_copyOf_59c91 19 = .ok (.iconst 0, 1) := by decide +kernel
theorem dJ7_copyOf_59c91_20 : decode cJ7_copyOf_59c91 20 = .ok (.aload_n 2, 1) := by decide +kernel
theorem dJ7_copyOf_59c91_21 : decode cJ7_copyOf_59c91 21 = .ok (.iconst 0, 1) := by decide +kernel
theorem dJ7_copyOf_59c91_22 : decode cJ7_copyOf_59c91 22 = .ok (.aload_n 0, 1) := by decide +kernel
theorem dJ7_copyOf_59c91_23 : decode cJ7_copyOf_59c91 23 = .ok (.arraylength, 1) := by decide +kernel
theorem dJ7_copyOf_59c91_24 : decode cJ7_copyOf_59c91 24 = .ok (.iload_n 1, 1) := by decide +kernel
theorem dJ7_copyOf_59c91_25 : decode cJ7_copyOf_59c91 25 = .ok (.invokestatic 304, 3) := by decide +kernel
theorem dJ7_copyOf_59c91_28 : decode cJ7_copyOf_59c91 28 = .ok (.invokestatic 150, 3) := by decide +kernel
theorem dJ7_copyOf_59c91_31 : decode cJ7_copyOf_59c91 31 = .ok (.aload_n 2, 1) := by decide +kernel
theorem dJ7_copyOf_59c91_32 : decode cJ7_copyOf_59c91 32 = .ok (.areturn, 1) := by decide +kernel
theorem dL_define_0 : decode cL_define 0 = .ok (.aload_n 2, 1) := by decide +kernel
theorem dL_define_1 : decode cL_define 1 = .ok (.iconst 0, 1) := by decide +kernel
theorem dL_define_2 : decode cL_define 2 = .ok (.aload_n 0, 1) := by decide +kernel
theorem dL_define_3 : decode cL_define 3 = .ok (.iload_n 1, 1) := by decide +kernel
theorem dL_define_4 : decode cL_define 4 = .ok (.invokevirtual 7, 3) := by decide +kernel
theorem dL_define_7 : decode cL_define 7 = .ok (.i2l, 1) := by decide +kernel
theorem dL_define_8 : decode cL_define 8 = .ok (.lastore, 1) := by decide +kernel
theorem dL_define_9 : decode cL_define 9 = .ok (.goto 9, 3) := by decide +kernel
theorem dL_define_12 : decode cL_define 12 = .ok (.astore_n 3, 1) := by decide +kernel
theorem dL_define_13 : decode cL_define 13 = .ok (.iconst 1, 1) := by decide +kernel
theorem dL_define_14 : decode cL_define 14 = .ok (.ireturn, 1) := by decide +kernel
theorem dL_define_15 : decode cL_define 15 = .ok (.astore_n 3, 1) := by decide +kernel
theorem dL_define_16 : decode cL_define 16 = .ok (.iconst 2, 1) := by decide +kernel
theorem dL_define_17 : decode cL_define 17 = .ok (.ireturn, 1) := by decide +kernel
theorem dL_define_18 : decode cL_define 18 = .ok (.iconst 0, 1) := by decide +kernel
theorem dL_define_19 : decode cL_define 19 = .ok (.ireturn, 1) := by decide +kernel
theorem dL_remove_0 : decode cL_remove 0 = .ok (.aload_n 2, 1) := by decide +kernel
theorem dL_remove_1 : decode cL_remove 1 = .ok (.iconst 0, 1) := by decide +kernel
theorem dL_remove_2 : decode cL_remove 2 = .ok (.aload_n 0, 1) := by decide +kernel
theorem dL_remove_3 : decode cL_remove 3 = .ok (.iload_n 1, 1) := by decide +kernel
theorem dL_remove_4 : decode cL_remove 4 = .ok (.invokevirtual 17, 3) := by decide +kernel
theorem dL_remove_7 : decode cL_remove 7 = .ok (.i2l, 1) := by decide +kernel
theorem dL_remove_8 : decode cL_remove 8 = .ok (.lastore, 1) := by decide +kernel
theorem dL_remove_9 : decode cL_remove 9 = .ok (.goto 9, 3) := by decide +kernel
theorem dL_remove_12 : decode cL_remove 12 = .ok (.astore_n 3, 1) := by decide +kernel
theorem dL_remove_13 : decode cL_remove 13 = .ok (.iconst 1, 1) := by decide +kernel
theorem dL_remove_14 : decode cL_remove 14 = .ok (.ireturn, 1) := by decide +kernel
theorem dL_remove_15 : decode cL_remove 15 = .ok (.astore_n 3, 1) := by decide +kernel
theorem dL_remove_16 : decode cL_remove 16 = .ok (.iconst 2, 1) := by decide +kernel
theorem dL_remove_17 : decode cL_remove 17 = .ok (.ireturn, 1) := by decide +kernel
theorem dL_remove_18 : decode cL_remove 18 = .ok (.iconst 0, 1) := by decide +kernel
theorem dL_remove_19 : decode cL_remove 19 = .ok (.ireturn, 1) := by decide +kernel
theorem dL_exchange_0 : decode cL_exchange 0 = .ok (.aload_n 3, 1) := by decide +kernel
theorem dL_exchange_1 : decode cL_exchange 1 = .ok (.iconst 0, 1) := by decide +kernel
theorem dL_exchange_2 : decode cL_exchange 2 = .ok (.aload_n 0, 1) := by decide +kernel
theorem dL_exchange_3 : decode cL_exchange 3 = .ok (.iload_n 1, 1) := by decide +kernel
theorem dL_exchange_4 : decode cL_exchange 4 = .ok (.iload_n 2, 1) := by decide +kernel
theorem dL_exchange_5 : decode cL_exchange 5 = .ok (.invokevirtual 22, 3) := by decide +kernel
theorem dL_exchange_8 : decode cL_exchange 8 = .ok (.i2l, 1) := by decide +kernel
theorem dL_exchange_9 : decode cL_exchange 9 = .ok (.lastore, 1) := by decide +kernel
theorem dL_exchange_10 : decode cL_exchange 10 = .ok (.goto 7, 3) := by decide +kernel
theorem dL_exchange_13 : decode cL_exchange 13 = .ok (.astore 4, 2) := by decide +kernel
theorem dL_exchange_15 : decode cL_exchange 15 = .ok (.iconst 1, 1) := by decide +kernel
theorem dL_exchange_16 : decode cL_exchange 16 = .ok (.ireturn, 1) := by decide +kernel
theorem dL_exchange_17 : decode cL_exchange 17 = .ok (.iconst 0, 1) := by decide +kernel
theorem dL_exchange_18 : decode cL_exchange 18 = .ok (.ireturn, 1) := by decide +kernel
theorem dL_set_0 : decode cL_set 0 = .ok (.aload_n 2, 1) := by decide +kernel
theorem dL_set_1 : decode cL_set 1 = .ok (.iconst 0, 1) := by decide +kernel
theorem dL_set_2 : decode cL_set 2 = .ok (.aload_n 0, 1) := by decide +kernel
theorem dL_set_3 : decode cL_set 3 = .ok (.iload_n 1, 1) := by decide +kernel
theorem dL_set_4 : decode cL_set 4 = .ok (.invokevirtual 26, 3) := by decide +kernel
theorem dL_set_7 : decode cL_set 7 = .ok (.i2l, 1) := by decide +kernel
theorem dL_set_8 : decode cL_set 8 = .ok (.lastore, 1) := by decide +kernel
theorem dL_set_9 : decode cL_set 9 = .ok (.goto 6, 3) := by decide +kernel
theorem dL_set_12 : decode cL_set 12 = .ok (.astore_n 3, 1) := by decide +kernel
theorem dL_set_13 : decode cL_set 13 = .ok (.iconst 1, 1) := by decide +kernel
theorem dL_set_14 : decode cL_set 14 = .ok (.ireturn, 1) := by decide +kernel
theorem dL_set_15 : decode cL_set 15 = .ok (.iconst 0, 1) := by decide +kernel
theorem dL_set_16 : decode cL_set 16 = .ok (.ireturn, 1) := by decide +kernel
theorem dL_expand_0 : decode cL_expand 0 = .ok (.aload_n 1, 1) := by decide +kernel
theorem dL_expand_1 : decode cL_expand 1 = .ok (.iconst 0, 1) := by decide +kernel
theorem dL_expand_2 : decode cL_expand 2 = .ok (.aload_n 0, 1) := by decide +kernel
theorem dL_expand_3 : decode cL_expand 3 = .ok (.invokevirtual 29, 3) := by decide +kernel
theorem dL_expand_6 : decode cL_expand 6 = .ok (.i2l, 1) := by decide +kernel
theorem dL_expand_7 : decode cL_expand 7 = .ok (.lastore, 1) := by decide +kernel
theorem dL_expand_8 : decode cL_expand 8 = .ok (.goto 6, 3) := by decide +kernel
theorem dL_expand_11 : decode cL_expand 11 = .ok (.astore_n 2, 1) := by decide +kernel
theorem dL_expand_12 : decode cL_expand 12 = .ok (.iconst 1, 1) := by decide +kernel
theorem dL_expand_13 : decode cL_expand 13 = .ok (.ireturn, 1) := by decide +kernel
theorem dL_expand_14 : decode cL_expand 14 = .ok (.iconst 0, 1) := by decide +kernel
theorem dL_expand_15 : decode cL_expand 15 = .ok (.ireturn, 1) := by decide +kernel
theorem dL_append_0 : decode cL_append 0 = .ok (.aload_n 2, 1) := by decide +kernel
theorem dL_append_1 : decode cL_append 1 = .ok (.iconst 0, 1) := by decide +kernel
theorem dL_append_2 : decode cL_append 2 = .ok (.aload_n 0, 1) := by decide +kernel
theorem dL_append_3 : decode cL_append 3 = .ok (.iload_n 1, 1) := by decide +kernel
theorem dL_append_4 : decode cL_append 4 = .ok (.invokevirtual 33, 3) := by decide +kernel
theorem dL_append_7 : decode cL_append 7 = .ok (.i2l, 1) := by decide +kernel
theorem dL_append_8 : decode cL_append 8 = .ok (.lastore, 1) := by decide +kernel
theorem dL_append_9 : decode cL_append 9 = .ok (.goto 9, 3) := by decide +kernel
theorem dL_append_12 : decode cL_append 12 = .ok (.astore_n 3, 1) := by decide +kernel
theorem dL_append_13 : decode cL_append 13 = .ok (.iconst 1, 1) := by decide +kernel
theorem dL_append_14 : decode cL_append 14 = .ok (.ireturn, 1) := by decide +kernel
theorem dL_append_15 : decode cL_append 15 = .ok (.astore_n 3, 1) := by decide +kernel
theorem dL_append_16 : decode cL_append 16 = .ok (.iconst 2, 1) := by decide +kernel
theorem dL_append_17 : decode cL_append 17 = .ok (.ireturn, 1) := by decide +kernel
theorem dL_append_18 : decode cL_append 18 = .ok (.iconst 0, 1) := by decide +kernel
theorem dL_append_19 : decode cL_append 19 = .ok (.ireturn, 1) := by decide +kernel
theorem dL_load_0 : decode cL_load 0 = .ok (.aload_n 2, 1) := by decide +kernel
theorem dL_load_1 : decode cL_load 1 = .ok (.iconst 0, 1) := by decide +kernel
theorem dL_load_2 : decode cL_load 2 = .ok (.aload_n 0, 1) := by decide +kernel
theorem dL_load_3 : decode cL_load 3 = .ok (.iload_n 1, 1) := by decide +kernel
theorem dL_load_4 : decode cL_load 4 = .ok (.invokevirtual 36, 3) := by decide +kernel
theorem dL_load_7 : decode cL_load 7 = .ok (.i2l, 1) := by decide +kernel
theorem dL_load_8 : decode cL_load 8 = .ok (.lastore, 1) := by decide +kernel
theorem dL_load_9 : decode cL_load 9 = .ok (.goto 9, 3) := by decide +kernel
theorem dL_load_12 : decode cL_load 12 = .ok (.astore_n 3, 1) := by decide +kernel
theorem dL_load_13 : decode cL_load 13 = .ok (.iconst 1, 1) := by decide +kernel
theorem dL_load_14 : decode cL_load 14 = .ok (.ireturn, 1) := by decide +kernel
theorem dL_load_15 : decode cL_load 15 = .ok (.astore_n 3, 1) := by decide +kernel
theorem dL_load_16 : decode cL_load 16 = .ok (.iconst 2, 1) := by decide +kernel
theorem dL_load_17 : decode cL_load 17 = .ok (.ireturn, 1) := by decide +kernel
theorem dL_load_18 : decode cL_load 18 = .ok (.iconst 0, 1) := by decide +kernel
theorem dL_load_19 : decode cL_load 19 = .ok (.ireturn, 1) := by decide +kernel
theorem dL_undo_0 : decode cL_undo 0 = .ok (.aload_n 1, 1) := by decide +kernel
theorem dL_undo_1 : decode cL_undo 1 = .ok (.iconst 0, 1) := by decide +kernel
theorem dL_undo_2 : decode cL_undo 2 = .ok (.aload_n 0, 1) := by decide +kernel
theorem dL_undo_3 : decode cL_undo 3 = .ok (.invokevirtual 39, 3) := by decide +kernel
theorem dL_undo_6 : decode cL_undo 6 = .ok (.i2l, 1) := by decide +kernel
theorem dL_undo_7 : decode cL_undo 7 = .ok (.lastore, 1) := by decide +kernel
theorem dL_undo_8 : decode cL_undo 8 = .ok (.goto 6, 3) := by decide +kernel
theorem dL_undo_11 : decode cL_undo 11 = .ok (.astore_n 2, 1) := by decide +kernel
theorem dL_undo_12 : decode cL_undo 12 = .ok (.iconst 1, 1) := by decide +kernel
theorem dL_undo_13 : decode cL_undo 13 = .ok (.ireturn, 1) := by decide +kernel
theorem dL_undo_14 : decode cL_undo 14 = .ok (.iconst 0, 1) := by decide +kernel
theorem dL_undo_15 : decode cL_undo 15 = .ok (.ireturn, 1) := by decide +kernel
theorem dL_keep_0 : decode cL_keep 0 = .ok (.aload_n 2, 1) := by decide +kernel
theorem dL_keep_1 : decode cL_keep 1 = .ok (.iconst 0, 1) := by decide +kernel
theorem dL_keep_2 : decode cL_keep 2 = .ok (.aload_n 0, 1) := by decide +kernel
theorem dL_keep_3 : decode cL_keep 3 = .ok (.iload_n 1, 1) := by decide +kernel
theorem dL_keep_4 : decode cL_keep 4 = .ok (.invokevirtual 42, 3) := by decide +kernel
theorem dL_keep_7 : decode cL_keep 7 = .ok (.i2l, 1) := by decide +kernel
theorem dL_keep_8 : decode cL_keep 8 = .ok (.lastore, 1) := by decide +kernel
theorem dL_keep_9 : decode cL_keep 9 = .ok (.goto 6, 3) := by decide +kernel
theorem dL_keep_12 : decode cL_keep 12 = .ok (.astore_n 3, 1) := by decide +kernel
theorem dL_keep_13 : decode cL_keep 13 = .ok (.iconst 1, 1) := by decide +kernel
theorem dL_keep_14 : decode cL_keep 14 = .ok (.ireturn, 1) := by decide +kernel
theorem dL_keep_15 : decode cL_keep 15 = .ok (.iconst 0, 1) := by decide +kernel
theorem dL_keep_16 : decode cL_keep 16 = .ok (.ireturn, 1) := by decide +kernel
theorem dL_goBack_0 : decode cL_goBack 0 = .ok (.aload_n 2, 1) := by decide +kernel
theorem dL_goBack_1 : decode cL_goBack 1 = .ok (.iconst 0, 1) := by decide +kernel
theorem dL_goBack_2 : decode cL_goBack 2 = .ok (.aload_n 0, 1) := by decide +kernel
theorem dL_goBack_3 : decode cL_goBack 3 = .ok (.iload_n 1, 1) := by decide +kernel
theorem dL_goBack_4 : decode cL_goBack 4 = .ok (.invokevirtual 45, 3) := by decide +kernel
theorem dL_goBack_7 : decode cL_goBack 7 = .ok (.i2l, 1) := by decide +kernel
theorem dL_goBack_8 : decode cL_goBack 8 = .ok (.lastore, 1) := by decide +kernel
theorem dL_goBack_9 : decode cL_goBack 9 = .ok (.goto 9, 3) := by decide +kernel
theorem dL_goBack_12 : decode cL_goBack 12 = .ok (.astore_n 3, 1) := by decide +kernel
theorem dL_goBack_13 : decode cL_goBack 13 = .ok (.iconst 1, 1) := by decide +kernel
theorem dL_goBack_14 : decode cL_goBack 14 = .ok (.ireturn, 1) := by decide +kernel
theorem dL_goBack_15 : decode cL_goBack 15 = .ok (.astore_n 3, 1) := by decide +kernel
theorem dL_goBack_16 : decode cL_goBack 16 = .ok (.iconst 2, 1) := by decide +kernel
theorem dL_goBack_17 : decode cL_goBack 17 = .ok (.ireturn, 1) := by decide +kernel
theorem dL_goBack_18 : decode cL_goBack 18 = .ok (.iconst 0, 1) := by decide +kernel
theorem dL_goBack_19 : decode cL_goBack 19 = .ok (.ireturn, 1) := by decide +kernel
theorem dL_body_0 : decode cL_body 0 = .ok (.aload_n 3, 1) := by decide +kernel
theorem dL_body_1 : decode cL_body 1 = .ok (.iconst 0, 1) := by decide +kernel
theorem dL_body_2 : decode cL_body 2 = .ok (.aload_n 0, 1) := by decide +kernel
theorem dL_body_3 : decode cL_body 3 = .ok (.iload_n 1, 1) := by decide +kernel
theorem dL_body_4 : decode cL_body 4 = .ok (.iload_n 2, 1) := by decide +kernel
theorem dL_body_5 : decode cL_body 5 = .ok (.invokevirtual 48, 3) := by decide +kernel
theorem dL_body_8 : decode cL_body 8 = .ok (.i2l, 1) := by decide +kernel
theorem dL_body_9 : decode cL_body 9 = .ok (.lastore, 1) := by decide +kernel
theorem dL_body_10 : decode cL_body 10 = .ok (.goto 11, 3) := by decide +kernel
theorem dL_body_13 : decode cL_body 13 = .ok (.astore 4, 2) := by decide +kernel
theorem dL_body_15 : decode cL_body 15 = .ok (.iconst 1, 1) := by decide +kernel
theorem dL_body_16 : decode cL_body 16 = .ok (.ireturn, 1) := by decide +kernel
theorem dL_body_17 : decode cL_body 17 = .ok (.astore 4, 2) := by decide +kernel
theorem dL_body_19 : decode cL_body 19 = .ok (.iconst 2, 1) := by decide +kernel
theorem dL_body_20 : decode cL_body 20 = .ok (.ireturn, 1) := by decide +kernel
theorem dL_body_21 : decode cL_body 21 = .ok (.iconst 0, 1) := by decide +kernel
theorem dL_body_22 : decode cL_body 22 = .ok (.ireturn, 1) := by decide +kernel
theorem dL_uses_0 : decode cL_uses 0 = .ok (.aload_n 3, 1) := by decide +kernel
theorem dL_uses_1 : decode cL_uses 1 = .ok (.iconst 0, 1) := by decide +kernel
theorem dL_uses_2 : decode cL_uses 2 = .ok (.aload_n 0, 1) := by decide +kernel
theorem dL_uses_3 : decode cL_uses 3 = .ok (.iload_n 1, 1) := by decide +kernel
theorem dL_uses_4 : decode cL_uses 4 = .ok (.iload_n 2, 1) := by decide +kernel
theorem dL_uses_5 : decode cL_uses 5 = .ok (.invokevirtual 51, 3) := by decide +kernel
theorem dL_uses_8 : decode cL_uses 8 = .ok (.i2l, 1) := by decide +kernel
theorem dL_uses_9 : decode cL_uses 9 = .ok (.lastore, 1) := by decide +kernel
theorem dL_uses_10 : decode cL_uses 10 = .ok (.goto 11, 3) := by decide +kernel
theorem dL_uses_13 : decode cL_uses 13 = .ok (.astore 4, 2) := by decide +kernel
theorem dL_uses_15 : decode cL_uses 15 = .ok (.iconst 1, 1) := by decide +kernel
theorem dL_uses_16 : decode cL_uses 16 = .ok (.ireturn, 1) := by decide +kernel
theorem dL_uses_17 : decode cL_uses 17 = .ok (.astore 4, 2) := by decide +kernel
theorem dL_uses_19 : decode cL_uses 19 = .ok (.iconst 2, 1) := by decide +kernel
theorem dL_uses_20 : decode cL_uses 20 = .ok (.ireturn, 1) := by decide +kernel
theorem dL_uses_21 : decode cL_uses 21 = .ok (.iconst 0, 1) := by decide +kernel
theorem dL_uses_22 : decode cL_uses 22 = .ok (.ireturn, 1) := by decide +kernel
theorem dL_chain_0 : decode cL_chain 0 = .ok (.aload_n 2, 1) := by decide +kernel
theorem dL_chain_1 : decode cL_chain 1 = .ok (.iconst 0, 1) := by decide +kernel
theorem dL_chain_2 : decode cL_chain 2 = .ok (.aload_n 0, 1) := by decide +kernel
theorem dL_chain_3 : decode cL_chain 3 = .ok (.iload_n 1, 1) := by decide +kernel
theorem dL_chain_4 : decode cL_chain 4 = .ok (.invokevirtual 54, 3) := by decide +kernel
theorem dL_chain_7 : decode cL_chain 7 = .ok (.i2l, 1) := by decide +kernel
theorem dL_chain_8 : decode cL_chain 8 = .ok (.lastore, 1) := by decide +kernel
theorem dL_chain_9 : decode cL_chain 9 = .ok (.goto 6, 3) := by decide +kernel
theorem dL_chain_12 : decode cL_chain 12 = .ok (.astore_n 3, 1) := by decide +kernel
theorem dL_chain_13 : decode cL_chain 13 = .ok (.iconst 1, 1) := by decide +kernel
theorem dL_chain_14 : decode cL_chain 14 = .ok (.ireturn, 1) := by decide +kernel
theorem dL_chain_15 : decode cL_chain 15 = .ok (.iconst 0, 1) := by decide +kernel
theorem dL_chain_16 : decode cL_chain 16 = .ok (.ireturn, 1) := by decide +kernel
theorem dL_ifDefined_0 : decode cL_ifDefined 0 = .ok (.aload_n 2, 1) := by decide +kernel
theorem dL_ifDefined_1 : decode cL_ifDefined 1 = .ok (.iconst 0, 1) := by decide +kernel
theorem dL_ifDefined_2 : decode cL_ifDefined 2 = .ok (.aload_n 0, 1) := by decide +kernel
theorem dL_ifDefined_3 : decode cL_ifDefined 3 = .ok (.iload_n 1, 1) := by decide +kernel
theorem dL_ifDefined_4 : decode cL_ifDefined 4 = .ok (.invokevirtual 57, 3) := by decide +kernel
theorem dL_ifDefined_7 : decode cL_ifDefined 7 = .ok (.i2l, 1) := by decide +kernel
theorem dL_ifDefined_8 : decode cL_ifDefined 8 = .ok (.lastore, 1) := by decide +kernel
theorem dL_ifDefined_9 : decode cL_ifDefined 9 = .ok (.goto 9, 3) := by decide +kernel
theorem dL_ifDefined_12 : decode cL_ifDefined 12 = .ok (.astore_n 3, 1) := by decide +kernel
theorem dL_ifDefined_13 : decode cL_ifDefined 13 = .ok (.iconst 1, 1) := by decide +kernel
theorem dL_ifDefined_14 : decode cL_ifDefined 14 = .ok (.ireturn, 1) := by decide +kernel
theorem dL_ifDefined_15 : decode cL_ifDefined 15 = .ok (.astore_n 3, 1) := by decide +kernel
theorem dL_ifDefined_16 : decode cL_ifDefined 16 = .ok (.iconst 2, 1) := by decide +kernel
theorem dL_ifDefined_17 : decode cL_ifDefined 17 = .ok (.ireturn, 1) := by decide +kernel
theorem dL_ifDefined_18 : decode cL_ifDefined 18 = .ok (.iconst 0, 1) := by decide +kernel
theorem dL_ifDefined_19 : decode cL_ifDefined 19 = .ok (.ireturn, 1) := by decide +kernel
theorem dL_sign_0 : decode cL_sign 0 = .ok (.aload_n 2, 1) := by decide +kernel
theorem dL_sign_1 : decode cL_sign 1 = .ok (.iconst 0, 1) := by decide +kernel
theorem dL_sign_2 : decode cL_sign 2 = .ok (.aload_n 0, 1) := by decide +kernel
theorem dL_sign_3 : decode cL_sign 3 = .ok (.iload_n 1, 1) := by decide +kernel
theorem dL_sign_4 : decode cL_sign 4 = .ok (.invokevirtual 60, 3) := by decide +kernel
theorem dL_sign_7 : decode cL_sign 7 = .ok (.i2l, 1) := by decide +kernel
theorem dL_sign_8 : decode cL_sign 8 = .ok (.lastore, 1) := by decide +kernel
theorem dL_sign_9 : decode cL_sign 9 = .ok (.goto 6, 3) := by decide +kernel
theorem dL_sign_12 : decode cL_sign 12 = .ok (.astore_n 3, 1) := by decide +kernel
theorem dL_sign_13 : decode cL_sign 13 = .ok (.iconst 1, 1) := by decide +kernel
theorem dL_sign_14 : decode cL_sign 14 = .ok (.ireturn, 1) := by decide +kernel
theorem dL_sign_15 : decode cL_sign 15 = .ok (.iconst 0, 1) := by decide +kernel
theorem dL_sign_16 : decode cL_sign 16 = .ok (.ireturn, 1) := by decide +kernel
theorem dL_result_0 : decode cL_result 0 = .ok (.aload_n 2, 1) := by decide +kernel
theorem dL_result_1 : decode cL_result 1 = .ok (.iconst 0, 1) := by decide +kernel
theorem dL_result_2 : decode cL_result 2 = .ok (.aload_n 0, 1) := by decide +kernel
theorem dL_result_3 : decode cL_result 3 = .ok (.iload_n 1, 1) := by decide +kernel
theorem dL_result_4 : decode cL_result 4 = .ok (.invokevirtual 63, 3) := by decide +kernel
theorem dL_result_7 : decode cL_result 7 = .ok (.i2l, 1) := by decide +kernel
theorem dL_result_8 : decode cL_result 8 = .ok (.lastore, 1) := by decide +kernel
theorem dL_result_9 : decode cL_result 9 = .ok (.goto 6, 3) := by decide +kernel
theorem dL_result_12 : decode cL_result 12 = .ok (.astore_n 3, 1) := by decide +kernel
theorem dL_result_13 : decode cL_result 13 = .ok (.iconst 1, 1) := by decide +kernel
theorem dL_result_14 : decode cL_result 14 = .ok (.ireturn, 1) := by decide +kernel
theorem dL_result_15 : decode cL_result 15 = .ok (.iconst 0, 1) := by decide +kernel
theorem dL_result_16 : decode cL_result 16 = .ok (.ireturn, 1) := by decide +kernel
theorem dL_trace_0 : decode cL_trace 0 = .ok (.aload_n 3, 1) := by decide +kernel
theorem dL_trace_1 : decode cL_trace 1 = .ok (.iconst 0, 1) := by decide +kernel
theorem dL_trace_2 : decode cL_trace 2 = .ok (.aload_n 0, 1) := by decide +kernel
theorem dL_trace_3 : decode cL_trace 3 = .ok (.iload_n 1, 1) := by decide +kernel
theorem dL_trace_4 : decode cL_trace 4 = .ok (.iload_n 2, 1) := by decide +kernel
theorem dL_trace_5 : decode cL_trace 5 = .ok (.invokevirtual 66, 3) := by decide +kernel
theorem dL_trace_8 : decode cL_trace 8 = .ok (.i2l, 1) := by decide +kernel
theorem dL_trace_9 : decode cL_trace 9 = .ok (.lastore, 1) := by decide +kernel
theorem dL_trace_10 : decode cL_trace 10 = .ok (.goto 7, 3) := by decide +kernel
theorem dL_trace_13 : decode cL_trace 13 = .ok (.astore 4, 2) := by decide +kernel
theorem dL_trace_15 : decode cL_trace 15 = .ok (.iconst 1, 1) := by decide +kernel
theorem dL_trace_16 : decode cL_trace 16 = .ok (.ireturn, 1) := by decide +kernel
theorem dL_trace_17 : decode cL_trace 17 = .ok (.iconst 0, 1) := by decide +kernel
theorem dL_trace_18 : decode cL_trace 18 = .ok (.ireturn, 1) := by decide +kernel
theorem dL_lengthOf_0 : decode cL_lengthOf 0 = .ok (.aload_n 3, 1) := by decide +kernel
theorem dL_lengthOf_1 : decode cL_lengthOf 1 = .ok (.iconst 0, 1) := by decide +kernel
theorem dL_lengthOf_2 : decode cL_lengthOf 2 = .ok (.aload_n 0, 1) := by decide +kernel
theorem dL_lengthOf_3 : decode cL_lengthOf 3 = .ok (.iload_n 1, 1) := by decide +kernel
theorem dL_lengthOf_4 : decode cL_lengthOf 4 = .ok (.iload_n 2, 1) := by decide +kernel
theorem dL_lengthOf_5 : decode cL_lengthOf 5 = .ok (.invokevirtual 69, 3) := by decide +kernel
theorem dL_lengthOf_8 : decode cL_lengthOf 8 = .ok (.i2l, 1) := by decide +kernel
theorem dL_lengthOf_9 : decode cL_lengthOf 9 = .ok (.lastore, 1) := by decide +kernel
theorem dL_lengthOf_10 : decode cL_lengthOf 10 = .ok (.goto 11, 3) := by decide +kernel
theorem dL_lengthOf_13 : decode cL_lengthOf 13 = .ok (.astore 4, 2) := by decide +kernel
theorem dL_lengthOf_15 : decode cL_lengthOf 15 = .ok (.iconst 1, 1) := by decide +kernel
theorem dL_lengthOf_16 : decode cL_lengthOf 16 = .ok (.ireturn, 1) := by decide +kernel
theorem dL_lengthOf_17 : decode cL_lengthOf 17 = .ok (.astore 4, 2) := by decide +kernel
theorem dL_lengthOf_19 : decode cL_lengthOf 19 = .ok (.iconst 2, 1) := by decide +kernel
theorem dL_lengthOf_20 : decode cL_lengthOf 20 = .ok (.ireturn, 1) := by decide +kernel
theorem dL_lengthOf_21 : decode cL_lengthOf 21 = .ok (.iconst 0, 1) := by decide +kernel
theorem dL_lengthOf_22 : decode cL_lengthOf 22 = .ok (.ireturn, 1) := by decide +kernel
theorem dL_count_0 : decode cL_count 0 = .ok (.aload_n 2, 1) := by decide +kernel
theorem dL_count_1 : decode cL_count 1 = .ok (.iconst 0, 1) := by decide +kernel
theorem dL_count_2 : decode cL_count 2 = .ok (.aload_n 0, 1) := by decide +kernel
theorem dL_count_3 : decode cL_count 3 = .ok (.iload_n 1, 1) := by decide +kernel
theorem dL_count_4 : decode cL_count 4 = .ok (.invokevirtual 72, 3) := by decide +kernel
theorem dL_count_7 : decode cL_count 7 = .ok (.i2l, 1) := by decide +kernel
theorem dL_count_8 : decode cL_count 8 = .ok (.lastore, 1) := by decide +kernel
theorem dL_count_9 : decode cL_count 9 = .ok (.goto 6, 3) := by decide +kernel
theorem dL_count_12 : decode cL_count 12 = .ok (.astore_n 3, 1) := by decide +kernel
theorem dL_count_13 : decode cL_count 13 = .ok (.iconst 1, 1) := by decide +kernel
theorem dL_count_14 : decode cL_count 14 = .ok (.ireturn, 1) := by decide +kernel
theorem dL_count_15 : decode cL_count 15 = .ok (.iconst 0, 1) := by decide +kernel
theorem dL_count_16 : decode cL_count 16 = .ok (.ireturn, 1) := by decide +kernel
theorem dL_law_0 : decode cL_law 0 = .ok (.new 8, 3) := by decide +kernel
theorem dL_law_3 : decode cL_law 3 = .ok (.dup, 1) := by decide +kernel
theorem dL_law_4 : decode cL_law 4 = .ok (.invokespecial 75, 3) := by decide +kernel
theorem dL_law_7 : decode cL_law 7 = .ok (.astore_n 1, 1) := by decide +kernel
theorem dL_law_8 : decode cL_law 8 = .ok (.new 76, 3) := by decide +kernel
theorem dL_law_11 : decode cL_law 11 = .ok (.dup, 1) := by decide +kernel
theorem dL_law_12 : decode cL_law 12 = .ok (.invokespecial 78, 3) := by decide +kernel
theorem dL_law_15 : decode cL_law 15 = .ok (.astore_n 2, 1) := by decide +kernel
theorem dL_law_16 : decode cL_law 16 = .ok (.iconst 1, 1) := by decide +kernel
theorem dL_law_17 : decode cL_law 17 = .ok (.newarray .long, 2) := by decide +kernel
theorem dL_law_19 : decode cL_law 19 = .ok (.astore_n 3, 1) := by decide +kernel
theorem dL_law_20 : decode cL_law 20 = .ok (.iconst 0, 1) := by decide +kernel
theorem dL_law_21 : decode cL_law 21 = .ok (.istore 4, 2) := by decide +kernel
theorem dL_law_23 : decode cL_law 23 = .ok (.iload 4, 2) := by decide +kernel
theorem dL_law_25 : decode cL_law 25 = .ok (.aload_n 0, 1) := by decide +kernel
theorem dL_law_26 : decode cL_law 26 = .ok (.arraylength, 1) := by decide +kernel
theorem dL_law_27 : decode cL_law 27 = .ok (.iconst 3, 1) := by decide +kernel
theorem dL_law_28 : decode cL_law 28 = .ok (.isub, 1) := by decide +kernel
theorem dL_law_29 : decode cL_law 29 = .ok (.if_icmp .gt 1318, 3) := by decide +kernel
theorem dL_law_32 : decode cL_law 32 = .ok (.aload_n 0, 1) := by decide +kernel
theorem dL_law_33 : decode cL_law 33 = .ok (.iload 4, 2) := by decide +kernel
theorem dL_law_35 : decode cL_law 35 = .ok (.iaload, 1) := by decide +kernel
theorem dL_law_36 : decode cL_law 36 = .ok (.bipush 31, 2) := by decide +kernel
theorem dL_law_38 : decode cL_law 38 = .ok (.iand, 1) := by decide +kernel
theorem dL_law_39 : decode cL_law 39 = .ok (.tableswitch 1302 0 23 #[109, 165, 221, 289, 345, 389, 445, 458, 471, 527, 571, 627, 683, 751, 819, 832, 845, 901, 957, 1013, 1069, 1137, 1205, 1261], 109) := by decide +kernel
theorem dL_law_148 : decode cL_law 148 = .ok (.aload_n 1, 1) := by decide +kernel
theorem dL_law_149 : decode cL_law 149 = .ok (.aload_n 0, 1) := by decide +kernel
theorem dL_law_150 : decode cL_law 150 = .ok (.iload 4, 2) := by decide +kernel
theorem dL_law_152 : decode cL_law 152 = .ok (.iconst 1, 1) := by decide +kernel
theorem dL_law_153 : decode cL_law 153 = .ok (.iadd, 1) := by decide +kernel
theorem dL_law_154 : decode cL_law 154 = .ok (.iaload, 1) := by decide +kernel
theorem dL_law_155 : decode cL_law 155 = .ok (.aload_n 3, 1) := by decide +kernel
theorem dL_law_156 : decode cL_law 156 = .ok (.invokestatic 79, 3) := by decide +kernel
theorem dL_law_159 : decode cL_law 159 = .ok (.istore 5, 2) := by decide +kernel
theorem dL_law_161 : decode cL_law 161 = .ok (.aload_n 2, 1) := by decide +kernel
theorem dL_law_162 : decode cL_law 162 = .ok (.aload_n 0, 1) := by decide +kernel
theorem dL_law_163 : decode cL_law 163 = .ok (.iload 4, 2) := by decide +kernel
theorem dL_law_165 : decode cL_law 165 = .ok (.iconst 1, 1) := by decide +kernel
theorem dL_law_166 : decode cL_law 166 = .ok (.iadd, 1) := by decide +kernel
theorem dL_law_167 : decode cL_law 167 = .ok (.iaload, 1) := by decide +kernel
theorem dL_law_168 : decode cL_law 168 = .ok (.invokevirtual 84, 3) := by decide +kernel
theorem dL_law_171 : decode cL_law 171 = .ok (.istore 6, 2) := by decide +kernel
theorem dL_law_173 : decode cL_law 173 = .ok (.aload_n 2, 1) := by decide +kernel
theorem dL_law_174 : decode cL_law 174 = .ok (.invokevirtual 85, 3) := by decide +kernel
theorem dL_law_177 : decode cL_law 177 = .ok (.iload 5, 2) := by decide +kernel
theorem dL_law_179 : decode cL_law 179 = .ok (.if_icmp .eq 5, 3) := by decide +kernel
theorem dL_law_182 : decode cL_law 182 = .ok (.iconst 0, 1) := by decide +kernel
theorem dL_law_183 : decode cL_law 183 = .ok (.ireturn, 1) := by decide +kernel
theorem dL_law_184 : decode cL_law 184 = .ok (.iload 5, 2) := by decide +kernel
theorem dL_law_186 : decode cL_law 186 = .ok (.ifCond .ne 15, 3) := by decide +kernel
theorem dL_law_189 : decode cL_law 189 = .ok (.aload_n 3, 1) := by decide +kernel
theorem dL_law_190 : decode cL_law 190 = .ok (.iconst 0, 1) := by decide +kernel
theorem dL_law_191 : decode cL_law 191 = .ok (.laload, 1) := by decide +kernel
theorem dL_law_192 : decode cL_law 192 = .ok (.iload 6, 2) := by decide +kernel
theorem dL_law_194 : decode cL_law 194 = .ok (.i2l, 1) := by decide +kernel
theorem dL_law_195 : decode cL_law 195 = .ok (.lcmp, 1) := by decide +kernel
theorem dL_law_196 : decode cL_law 196 = .ok (.ifCond .eq 5, 3) := by decide +kernel
theorem dL_law_199 : decode cL_law 199 = .ok (.iconst 0, 1) := by decide +kernel
theorem dL_law_200 : decode cL_law 200 = .ok (.ireturn, 1) := by decide +kernel
theorem dL_law_201 : decode cL_law 201 = .ok (.goto 1140, 3) := by decide +kernel
theorem dL_law_204 : decode cL_law 204 = .ok (.aload_n 1, 1) := by decide +kernel
theorem dL_law_205 : decode cL_law 205 = .ok (.aload_n 0, 1) := by decide +kernel
theorem dL_law_206 : decode cL_law 206 = .ok (.iload 4, 2) := by decide +kernel
theorem dL_law_208 : decode cL_law 208 = .ok (.iconst 1, 1) := by decide +kernel
theorem dL_law_209 : decode cL_law 209 = .ok (.iadd, 1) := by decide +kernel
theorem dL_law_210 : decode cL_law 210 = .ok (.iaload, 1) := by decide +kernel
theorem dL_law_211 : decode cL_law 211 = .ok (.aload_n 3, 1) := by decide +kernel
theorem dL_law_212 : decode cL_law 212 = .ok (.invokestatic 88, 3) := by decide +kernel
theorem dL_law_215 : decode cL_law 215 = .ok (.istore 5, 2) := by decide +kernel
theorem dL_law_217 : decode cL_law 217 = .ok (.aload_n 2, 1) := by decide +kernel
theorem dL_law_218 : decode cL_law 218 = .ok (.aload_n 0, 1) := by decide +kernel
theorem dL_law_219 : decode cL_law 219 = .ok (.iload 4, 2) := by decide +kernel
theorem dL_law_221 : decode cL_law 221 = .ok (.iconst 1, 1) := by decide +kernel
theorem dL_law_222 : decode cL_law 222 = .ok (.iadd, 1) := by decide +kernel
theorem dL_law_223 : decode cL_law 223 = .ok (.iaload, 1) := by decide +kernel
theorem dL_law_224 : decode cL_law 224 = .ok (.invokevirtual 90, 3) := by decide +kernel
theorem dL_law_227 : decode cL_law 227 = .ok (.istore 6, 2) := by decide +kernel
theorem dL_law_229 : decode cL_law 229 = .ok (.aload_n 2, 1) := by decide +kernel
theorem dL_law_230 : decode cL_law 230 = .ok (.invokevirtual 85, 3) := by decide +kernel
theorem dL_law_233 : decode cL_law 233 = .ok (.iload 5, 2) := by decide +kernel
theorem dL_law_235 : decode cL_law 235 = .ok (.if_icmp .eq 5, 3) := by decide +kernel
theorem dL_law_238 : decode cL_law 238 = .ok (.iconst 0, 1) := by decide +kernel
theorem dL_law_239 : decode cL_law 239 = .ok (.ireturn, 1) := by decide +kernel
theorem dL_law_240 : decode cL_law 240 = .ok (.iload 5, 2) := by decide +kernel
theorem dL_law_242 : decode cL_law 242 = .ok (.ifCond .ne 15, 3) := by decide +kernel
theorem dL_law_245 : decode cL_law 245 = .ok (.aload_n 3, 1) := by decide +kernel
theorem dL_law_246 : decode cL_law 246 = .ok (.iconst 0, 1) := by decide +kernel
theorem dL_law_247 : decode cL_law 247 = .ok (.laload, 1) := by decide +kernel
theorem dL_law_248 : decode cL_law 248 = .ok (.iload 6, 2) := by decide +kernel
theorem dL_law_250 : decode cL_law 250 = .ok (.i2l, 1) := by decide +kernel
theorem dL_law_251 : decode cL_law 251 = .ok (.lcmp, 1) := by decide +kernel
theorem dL_law_252 : decode cL_law 252 = .ok (.ifCond .eq 5, 3) := by decide +kernel
theorem dL_law_255 : decode cL_law 255 = .ok (.iconst 0, 1) := by decide +kernel
theorem dL_law_256 : decode cL_law 256 = .ok (.ireturn, 1) := by decide +kernel
theorem dL_law_257 : decode cL_law 257 = .ok (.goto 1084, 3) := by decide +kernel
theorem dL_law_260 : decode cL_law 260 = .ok (.aload_n 1, 1) := by decide +kernel
theorem dL_law_261 : decode cL_law 261 = .ok (.aload_n 0, 1) := by decide +kernel
theorem dL_law_262 : decode cL_law 262 = .ok (.iload 4, 2) := by decide +kernel
theorem dL_law_264 : decode cL_law 264 = .ok (.iconst 1, 1) := by decide +kernel
theorem dL_law_265 : decode cL_law 265 = .ok (.iadd, 1) := by decide +kernel
theorem dL_law_266 : decode cL_law 266 = .ok (.iaload, 1) := by decide +kernel
theorem dL_law_267 : decode cL_law 267 = .ok (.aload_n 0, 1) := by decide +kernel
theorem dL_law_268 : decode cL_law 268 = .ok (.iload 4, 2) := by decide +kernel
theorem dL_law_270 : decode cL_law 270 = .ok (.iconst 2, 1) := by decide +kernel
theorem dL_law_271 : decode cL_law 271 = .ok (.iadd, 1) := by decide +kernel
theorem dL_law_272 : decode cL_law 272 = .ok (.iaload, 1) := by decide +kernel
theorem dL_law_273 : decode cL_law 273 = .ok (.aload_n 3, 1) := by decide +kernel
theorem dL_law_274 : decode cL_law 274 = .ok (.invokestatic 91, 3) := by decide +kernel
theorem dL_law_277 : decode cL_law 277 = .ok (.istore 5, 2) := by decide +kernel
theorem dL_law_279 : decode cL_law 279 = .ok (.aload_n 2, 1) := by decide +kernel
theorem dL_law_280 : decode cL_law 280 = .ok (.aload_n 0, 1) := by decide +kernel
theorem dL_law_281 : decode cL_law 281 = .ok (.iload 4, 2) := by decide +kernel
theorem dL_law_283 : decode cL_law 283 = .ok (.iconst 1, 1) := by decide +kernel
theorem dL_law_284 : decode cL_law 284 = .ok (.iadd, 1) := by decide +kernel
theorem dL_law_285 : decode cL_law 285 = .ok (.iaload, 1) := by decide +kernel
theorem dL_law_286 : decode cL_law 286 = .ok (.aload_n 0, 1) := by decide +kernel
theorem dL_law_287 : decode cL_law 287 = .ok (.iload 4, 2) := by decide +kernel
theorem dL_law_289 : decode cL_law 289 = .ok (.iconst 2, 1) := by decide +kernel
theorem dL_law_290 : decode cL_law 290 = .ok (.iadd, 1) := by decide +kernel
theorem dL_law_291 : decode cL_law 291 = .ok (.iaload, 1) := by decide +kernel
theorem dL_law_292 : decode cL_law 292 = .ok (.invokevirtual 94, 3) := by decide +kernel
theorem dL_law_295 : decode cL_law 295 = .ok (.istore 6, 2) := by decide +kernel
theorem dL_law_297 : decode cL_law 297 = .ok (.aload_n 2, 1) := by decide +kernel
theorem dL_law_298 : decode cL_law 298 = .ok (.invokevirtual 85, 3) := by decide +kernel
theorem dL_law_301 : decode cL_law 301 = .ok (.iload 5, 2) := by decide +kernel
theorem dL_law_303 : decode cL_law 303 = .ok (.if_icmp .eq 5, 3) := by decide +kernel
theorem dL_law_306 : decode cL_law 306 = .ok (.iconst 0, 1) := by decide +kernel
theorem dL_law_307 : decode cL_law 307 = .ok (.ireturn, 1) := by decide +kernel
theorem dL_law_308 : decode cL_law 308 = .ok (.iload 5, 2) := by decide +kernel
theorem dL_law_310 : decode cL_law 310 = .ok (.ifCond .ne 15, 3) := by decide +kernel
theorem dL_law_313 : decode cL_law 313 = .ok (.aload_n 3, 1) := by decide +kernel
theorem dL_law_314 : decode cL_law 314 = .ok (.iconst 0, 1) := by decide +kernel
theorem dL_law_315 : decode cL_law 315 = .ok (.laload, 1) := by decide +kernel
theorem dL_law_316 : decode cL_law 316 = .ok (.iload 6, 2) := by decide +kernel
theorem dL_law_318 : decode cL_law 318 = .ok (.i2l, 1) := by decide +kernel
theorem dL_law_319 : decode cL_law 319 = .ok (.lcmp, 1) := by decide +kernel
theorem dL_law_320 : decode cL_law 320 = .ok (.ifCond .eq 5, 3) := by decide +kernel
theorem dL_law_323 : decode cL_law 323 = .ok (.iconst 0, 1) := by decide +kernel
theorem dL_law_324 : decode cL_law 324 = .ok (.ireturn, 1) := by decide +kernel
theorem dL_law_325 : decode cL_law 325 = .ok (.goto 1016, 3) := by decide +kernel
theorem dL_law_328 : decode cL_law 328 = .ok (.aload_n 1, 1) := by decide +kernel
theorem dL_law_329 : decode cL_law 329 = .ok (.aload_n 0, 1) := by decide +kernel
theorem dL_law_330 : decode cL_law 330 = .ok (.iload 4, 2) := by decide +kernel
theorem dL_law_332 : decode cL_law 332 = .ok (.iconst 1, 1) := by decide +kernel
theorem dL_law_333 : decode cL_law 333 = .ok (.iadd, 1) := by decide +kernel
theorem dL_law_334 : decode cL_law 334 = .ok (.iaload, 1) := by decide +kernel
theorem dL_law_335 : decode cL_law 335 = .ok (.aload_n 3, 1) := by decide +kernel
theorem dL_law_336 : decode cL_law 336 = .ok (.invokestatic 95, 3) := by decide +kernel
theorem dL_law_339 : decode cL_law 339 = .ok (.istore 5, 2) := by decide +kernel
theorem dL_law_341 : decode cL_law 341 = .ok (.aload_n 2, 1) := by decide +kernel
theorem dL_law_342 : decode cL_law 342 = .ok (.aload_n 0, 1) := by decide +kernel
theorem dL_law_343 : decode cL_law 343 = .ok (.iload 4, 2) := by decide +kernel
theorem dL_law_345 : decode cL_law 345 = .ok (.iconst 1, 1) := by decide +kernel
theorem dL_law_346 : decode cL_law 346 = .ok (.iadd, 1) := by decide +kernel
theorem dL_law_347 : decode cL_law 347 = .ok (.iaload, 1) := by decide +kernel
theorem dL_law_348 : decode cL_law 348 = .ok (.invokevirtual 97, 3) := by decide +kernel
theorem dL_law_351 : decode cL_law 351 = .ok (.istore 6, 2) := by decide +kernel
theorem dL_law_353 : decode cL_law 353 = .ok (.aload_n 2, 1) := by decide +kernel
theorem dL_law_354 : decode cL_law 354 = .ok (.invokevirtual 85, 3) := by decide +kernel
theorem dL_law_357 : decode cL_law 357 = .ok (.iload 5, 2) := by decide +kernel
theorem dL_law_359 : decode cL_law 359 = .ok (.if_icmp .eq 5, 3) := by decide +kernel
theorem dL_law_362 : decode cL_law 362 = .ok (.iconst 0, 1) := by decide +kernel
theorem dL_law_363 : decode cL_law 363 = .ok (.ireturn, 1) := by decide +kernel
theorem dL_law_364 : decode cL_law 364 = .ok (.iload 5, 2) := by decide +kernel
theorem dL_law_366 : decode cL_law 366 = .ok (.ifCond .ne 15, 3) := by decide +kernel
theorem dL_law_369 : decode cL_law 369 = .ok (.aload_n 3, 1) := by decide +kernel
theorem dL_law_370 : decode cL_law 370 = .ok (.iconst 0, 1) := by decide +kernel
theorem dL_law_371 : decode cL_law 371 = .ok (.laload, 1) := by decide +kernel
theorem dL_law_372 : decode cL_law 372 = .ok (.iload 6, 2) := by decide +kernel
theorem dL_law_374 : decode cL_law 374 = .ok (.i2l, 1) := by decide +kernel
theorem dL_law_375 : decode cL_law 375 = .ok (.lcmp, 1) := by decide +kernel
theorem dL_law_376 : decode cL_law 376 = .ok (.ifCond .eq 5, 3) := by decide +kernel
theorem dL_law_379 : decode cL_law 379 = .ok (.iconst 0, 1) := by decide +kernel
theorem dL_law_380 : decode cL_law 380 = .ok (.ireturn, 1) := by decide +kernel
theorem dL_law_381 : decode cL_law 381 = .ok (.goto 960, 3) := by decide +kernel
theorem dL_law_384 : decode cL_law 384 = .ok (.aload_n 1, 1) := by decide +kernel
theorem dL_law_385 : decode cL_law 385 = .ok (.aload_n 3, 1) := by decide +kernel
theorem dL_law_386 : decode cL_law 386 = .ok (.invokestatic 98, 3) := by decide +kernel
theorem dL_law_389 : decode cL_law 389 = .ok (.istore 5, 2) := by decide +kernel
theorem dL_law_391 : decode cL_law 391 = .ok (.aload_n 2, 1) := by decide +kernel
theorem dL_law_392 : decode cL_law 392 = .ok (.invokevirtual 101, 3) := by decide +kernel
theorem dL_law_395 : decode cL_law 395 = .ok (.istore 6, 2) := by decide +kernel
theorem dL_law_397 : decode cL_law 397 = .ok (.aload_n 2, 1) := by decide +kernel
theorem dL_law_398 : decode cL_law 398 = .ok (.invokevirtual 85, 3) := by decide +kernel
theorem dL_law_401 : decode cL_law 401 = .ok (.iload 5, 2) := by decide +kernel
theorem dL_law_403 : decode cL_law 403 = .ok (.if_icmp .eq 5, 3) := by decide +kernel
theorem dL_law_406 : decode cL_law 406 = .ok (.iconst 0, 1) := by decide +kernel
theorem dL_law_407 : decode cL_law 407 = .ok (.ireturn, 1) := by decide +kernel
theorem dL_law_408 : decode cL_law 408 = .ok (.iload 5, 2) := by decide +kernel
theorem dL_law_410 : decode cL_law 410 = .ok (.ifCond .ne 15, 3) := by decide +kernel
theorem dL_law_413 : decode cL_law 413 = .ok (.aload_n 3, 1) := by decide +kernel
theorem dL_law_414 : decode cL_law 414 = .ok (.iconst 0, 1) := by decide +kernel
theorem dL_law_415 : decode cL_law 415 = .ok (.laload, 1) := by decide +kernel
theorem dL_law_416 : decode cL_law 416 = .ok (.iload 6, 2) := by decide +kernel
theorem dL_law_418 : decode cL_law 418 = .ok (.i2l, 1) := by decide +kernel
theorem dL_law_419 : decode cL_law 419 = .ok (.lcmp, 1) := by decide +kernel
theorem dL_law_420 : decode cL_law 420 = .ok (.ifCond .eq 5, 3) := by decide +kernel
theorem dL_law_423 : decode cL_law 423 = .ok (.iconst 0, 1) := by decide +kernel
theorem dL_law_424 : decode cL_law 424 = .ok (.ireturn, 1) := by decide +kernel
theorem dL_law_425 : decode cL_law 425 = .ok (.goto 916, 3) := by decide +kernel
theorem dL_law_428 : decode cL_law 428 = .ok (.aload_n 1, 1) := by decide +kernel
theorem dL_law_429 : decode cL_law 429 = .ok (.aload_n 0, 1) := by decide +kernel
theorem dL_law_430 : decode cL_law 430 = .ok (.iload 4, 2) := by decide +kernel
theorem dL_law_432 : decode cL_law 432 = .ok (.iconst 1, 1) := by decide +kernel
theorem dL_law_433 : decode cL_law 433 = .ok (.iadd, 1) := by decide +kernel
theorem dL_law_434 : decode cL_law 434 = .ok (.iaload, 1) := by decide +kernel
theorem dL_law_435 : decode cL_law 435 = .ok (.aload_n 3, 1) := by decide +kernel
theorem dL_law_436 : decode cL_law 436 = .ok (.invokestatic 102, 3) := by decide +kernel
theorem dL_law_439 : decode cL_law 439 = .ok (.istore 5, 2) := by decide +kernel
theorem dL_law_441 : decode cL_law 441 = .ok (.aload_n 2, 1) := by decide +kernel
theorem dL_law_442 : decode cL_law 442 = .ok (.aload_n 0, 1) := by decide +kernel
theorem dL_law_443 : decode cL_law 443 = .ok (.iload 4, 2) := by decide +kernel
theorem dL_law_445 : decode cL_law 445 = .ok (.iconst 1, 1) := by decide +kernel
theorem dL_law_446 : decode cL_law 446 = .ok (.iadd, 1) := by decide +kernel
theorem dL_law_447 : decode cL_law 447 = .ok (.iaload, 1) := by decide +kernel
theorem dL_law_448 : decode cL_law 448 = .ok (.invokevirtual 104, 3) := by decide +kernel
theorem dL_law_451 : decode cL_law 451 = .ok (.istore 6, 2) := by decide +kernel
theorem dL_law_453 : decode cL_law 453 = .ok (.aload_n 2, 1) := by decide +kernel
theorem dL_law_454 : decode cL_law 454 = .ok (.invokevirtual 85, 3) := by decide +kernel
theorem dL_law_457 : decode cL_law 457 = .ok (.iload 5, 2) := by decide +kernel
theorem dL_law_459 : decode cL_law 459 = .ok (.if_icmp .eq 5, 3) := by decide +kernel
theorem dL_law_462 : decode cL_law 462 = .ok (.iconst 0, 1) := by decide +kernel
theorem dL_law_463 : decode cL_law 463 = .ok (.ireturn, 1) := by decide +kernel
theorem dL_law_464 : decode cL_law 464 = .ok (.iload 5, 2) := by decide +kernel
theorem dL_law_466 : decode cL_law 466 = .ok (.ifCond .ne 15, 3) := by decide +kernel
theorem dL_law_469 : decode cL_law 469 = .ok (.aload_n 3, 1) := by decide +kernel
theorem dL_law_470 : decode cL_law 470 = .ok (.iconst 0, 1) := by decide +kernel
theorem dL_law_471 : decode cL_law 471 = .ok (.laload, 1) := by decide +kernel
theorem dL_law_472 : decode cL_law 472 = .ok (.iload 6, 2) := by decide +kernel
theorem dL_law_474 : decode cL_law 474 = .ok (.i2l, 1) := by decide +kernel
theorem dL_law_475 : decode cL_law 475 = .ok (.lcmp, 1) := by decide +kernel
theorem dL_law_476 : decode cL_law 476 = .ok (.ifCond .eq 5, 3) := by decide +kernel
theorem dL_law_479 : decode cL_law 479 = .ok (.iconst 0, 1) := by decide +kernel
theorem dL_law_480 : decode cL_law 480 = .ok (.ireturn, 1) := by decide +kernel
theorem dL_law_481 : decode cL_law 481 = .ok (.goto 860, 3) := by decide +kernel
theorem dL_law_484 : decode cL_law 484 = .ok (.aload_n 1, 1) := by decide +kernel
theorem dL_law_485 : decode cL_law 485 = .ok (.invokevirtual 105, 3) := by decide +kernel
theorem dL_law_488 : decode cL_law 488 = .ok (.aload_n 2, 1) := by decide +kernel
theorem dL_law_489 : decode cL_law 489 = .ok (.invokevirtual 108, 3) := by decide +kernel
theorem dL_law_492 : decode cL_law 492 = .ok (.if_icmp .eq 849, 3) := by decide +kernel
theorem dL_law_495 : decode cL_law 495 = .ok (.iconst 0, 1) := by decide +kernel
theorem dL_law_496 : decode cL_law 496 = .ok (.ireturn, 1) := by decide +kernel
theorem dL_law_497 : decode cL_law 497 = .ok (.aload_n 1, 1) := by decide +kernel
theorem dL_law_498 : decode cL_law 498 = .ok (.invokevirtual 109, 3) := by decide +kernel
theorem dL_law_501 : decode cL_law 501 = .ok (.aload_n 2, 1) := by decide +kernel
theorem dL_law_502 : decode cL_law 502 = .ok (.invokevirtual 112, 3) := by decide +kernel
theorem dL_law_505 : decode cL_law 505 = .ok (.if_icmp .eq 836, 3) := by decide +kernel
theorem dL_law_508 : decode cL_law 508 = .ok (.iconst 0, 1) := by decide +kernel
theorem dL_law_509 : decode cL_law 509 = .ok (.ireturn, 1) := by decide +kernel
theorem dL_law_510 : decode cL_law 510 = .ok (.aload_n 1, 1) := by decide +kernel
theorem dL_law_511 : decode cL_law 511 = .ok (.aload_n 0, 1) := by decide +kernel
theorem dL_law_512 : decode cL_law 512 = .ok (.iload 4, 2) := by decide +kernel
theorem dL_law_514 : decode cL_law 514 = .ok (.iconst 1, 1) := by decide +kernel
theorem dL_law_515 : decode cL_law 515 = .ok (.iadd, 1) := by decide +kernel
theorem dL_law_516 : decode cL_law 516 = .ok (.iaload, 1) := by decide +kernel
theorem dL_law_517 : decode cL_law 517 = .ok (.aload_n 3, 1) := by decide +kernel
theorem dL_law_518 : decode cL_law 518 = .ok (.invokestatic 113, 3) := by decide +kernel
theorem dL_law_521 : decode cL_law 521 = .ok (.istore 5, 2) := by decide +kernel
theorem dL_law_523 : decode cL_law 523 = .ok (.aload_n 2, 1) := by decide +kernel
theorem dL_law_524 : decode cL_law 524 = .ok (.aload_n 0, 1) := by decide +kernel
theorem dL_law_525 : decode cL_law 525 = .ok (.iload 4, 2) := by decide +kernel
theorem dL_law_527 : decode cL_law 527 = .ok (.iconst 1, 1) := by decide +kernel
theorem dL_law_528 : decode cL_law 528 = .ok (.iadd, 1) := by decide +kernel
theorem dL_law_529 : decode cL_law 529 = .ok (.iaload, 1) := by decide +kernel
theorem dL_law_530 : decode cL_law 530 = .ok (.invokevirtual 115, 3) := by decide +kernel
theorem dL_law_533 : decode cL_law 533 = .ok (.istore 6, 2) := by decide +kernel
theorem dL_law_535 : decode cL_law 535 = .ok (.aload_n 2, 1) := by decide +kernel
theorem dL_law_536 : decode cL_law 536 = .ok (.invokevirtual 85, 3) := by decide +kernel
theorem dL_law_539 : decode cL_law 539 = .ok (.iload 5, 2) := by decide +kernel
theorem dL_law_541 : decode cL_law 541 = .ok (.if_icmp .eq 5, 3) := by decide +kernel
theorem dL_law_544 : decode cL_law 544 = .ok (.iconst 0, 1) := by decide +kernel
theorem dL_law_545 : decode cL_law 545 = .ok (.ireturn, 1) := by decide +kernel
theorem dL_law_546 : decode cL_law 546 = .ok (.iload 5, 2) := by decide +kernel
theorem dL_law_548 : decode cL_law 548 = .ok (.ifCond .ne 15, 3) := by decide +kernel
theorem dL_law_551 : decode cL_law 551 = .ok (.aload_n 3, 1) := by decide +kernel
theorem dL_law_552 : decode cL_law 552 = .ok (.iconst 0, 1) := by decide +kernel
theorem dL_law_553 : decode cL_law 553 = .ok (.laload, 1) := by decide +kernel
theorem dL_law_554 : decode cL_law 554 = .ok (.iload 6, 2) := by decide +kernel
theorem dL_law_556 : decode cL_law 556 = .ok (.i2l, 1) := by decide +kernel
theorem dL_law_557 : decode cL_law 557 = .ok (.lcmp, 1) := by decide +kernel
theorem dL_law_558 : decode cL_law 558 = .ok (.ifCond .eq 5, 3) := by decide +kernel
theorem dL_law_561 : decode cL_law 561 = .ok (.iconst 0, 1) := by decide +kernel
theorem dL_law_562 : decode cL_law 562 = .ok (.ireturn, 1) := by decide +kernel
theorem dL_law_563 : decode cL_law 563 = .ok (.goto 778, 3) := by decide +kernel
theorem dL_law_566 : decode cL_law 566 = .ok (.aload_n 1, 1) := by decide +kernel
theorem dL_law_567 : decode cL_law 567 = .ok (.aload_n 3, 1) := by decide +kernel
theorem dL_law_568 : decode cL_law 568 = .ok (.invokestatic 116, 3) := by decide +kernel
theorem dL_law_571 : decode cL_law 571 = .ok (.istore 5, 2) := by decide +kernel
theorem dL_law_573 : decode cL_law 573 = .ok (.aload_n 2, 1) := by decide +kernel
theorem dL_law_574 : decode cL_law 574 = .ok (.invokevirtual 118, 3) := by decide +kernel
theorem dL_law_577 : decode cL_law 577 = .ok (.istore 6, 2) := by decide +kernel
theorem dL_law_579 : decode cL_law 579 = .ok (.aload_n 2, 1) := by decide +kernel
theorem dL_law_580 : decode cL_law 580 = .ok (.invokevirtual 85, 3) := by decide +kernel
theorem dL_law_583 : decode cL_law 583 = .ok (.iload 5, 2) := by decide +kernel
theorem dL_law_585 : decode cL_law 585 = .ok (.if_icmp .eq 5, 3) := by decide +kernel
theorem dL_law_588 : decode cL_law 588 = .ok (.iconst 0, 1) := by decide +kernel
theorem dL_law_589 : decode cL_law 589 = .ok (.ireturn, 1) := by decide +kernel
theorem dL_law_590 : decode cL_law 590 = .ok (.iload 5, 2) := by decide +kernel
theorem dL_law_592 : decode cL_law 592 = .ok (.ifCond .ne 15, 3) := by decide +kernel
theorem dL_law_595 : decode cL_law 595 = .ok (.aload_n 3, 1) := by decide +kernel
theorem dL_law_596 : decode cL_law 596 = .ok (.iconst 0, 1) := by decide +kernel
theorem dL_law_597 : decode cL_law 597 = .ok (.laload, 1) := by decide +kernel
theorem dL_law_598 : decode cL_law 598 = .ok (.iload 6, 2) := by decide +kernel
theorem dL_law_600 : decode cL_law 600 = .ok (.i2l, 1) := by decide +kernel
theorem dL_law_601 : decode cL_law 601 = .ok (.lcmp, 1) := by decide +kernel
theorem dL_law_602 : decode cL_law 602 = .ok (.ifCond .eq 5, 3) := by decide +kernel
theorem dL_law_605 : decode cL_law 605 = .ok (.iconst 0, 1) := by decide +kernel
theorem dL_law_606 : decode cL_law 606 = .ok (.ireturn, 1) := by decide +kernel
theorem dL_law_607 : decode cL_law 607 = .ok (.goto 734, 3) := by decide +kernel
theorem dL_law_610 : decode cL_law 610 = .ok (.aload_n 1, 1) := by decide +kernel
theorem dL_law_611 : decode cL_law 611 = .ok (.aload_n 0, 1) := by decide +kernel
theorem dL_law_612 : decode cL_law 612 = .ok (.iload 4, 2) := by decide +kernel
theorem dL_law_614 : decode cL_law 614 = .ok (.iconst 1, 1) := by decide +kernel
theorem dL_law_615 : decode cL_law 615 = .ok (.iadd, 1) := by decide +kernel
theorem dL_law_616 : decode cL_law 616 = .ok (.iaload, 1) := by decide +kernel
theorem dL_law_617 : decode cL_law 617 = .ok (.aload_n 3, 1) := by decide +kernel
theorem dL_law_618 : decode cL_law 618 = .ok (.invokestatic 119, 3) := by decide +kernel
theorem dL_law_621 : decode cL_law 621 = .ok (.istore 5, 2) := by decide +kernel
theorem dL_law_623 : decode cL_law 623 = .ok (.aload_n 2, 1) := by decide +kernel
theorem dL_law_624 : decode cL_law 624 = .ok (.aload_n 0, 1) := by decide +kernel
theorem dL_law_625 : decode cL_law 625 = .ok (.iload 4, 2) := by decide +kernel
theorem dL_law_627 : decode cL_law 627 = .ok (.iconst 1, 1) := by decide +kernel
theorem dL_law_628 : decode cL_law 628 = .ok (.iadd, 1) := by decide +kernel
theorem dL_law_629 : decode cL_law 629 = .ok (.iaload, 1) := by decide +kernel
theorem dL_law_630 : decode cL_law 630 = .ok (.invokevirtual 121, 3) := by decide +kernel
theorem dL_law_633 : decode cL_law 633 = .ok (.istore 6, 2) := by decide +kernel
theorem dL_law_635 : decode cL_law 635 = .ok (.aload_n 2, 1) := by decide +kernel
theorem dL_law_636 : decode cL_law 636 = .ok (.invokevirtual 85, 3) := by decide +kernel
theorem dL_law_639 : decode cL_law 639 = .ok (.iload 5, 2) := by decide +kernel
theorem dL_law_641 : decode cL_law 641 = .ok (.if_icmp .eq 5, 3) := by decide +kernel
theorem dL_law_644 : decode cL_law 644 = .ok (.iconst 0, 1) := by decide +kernel
theorem dL_law_645 : decode cL_law 645 = .ok (.ireturn, 1) := by decide +kernel
theorem dL_law_646 : decode cL_law 646 = .ok (.iload 5, 2) := by decide +kernel
theorem dL_law_648 : decode cL_law 648 = .ok (.ifCond .ne 15, 3) := by decide +kernel
theorem dL_law_651 : decode cL_law 651 = .ok (.aload_n 3, 1) := by decide +kernel
theorem dL_law_652 : decode cL_law 652 = .ok (.iconst 0, 1) := by decide +kernel
theorem dL_law_653 : decode cL_law 653 = .ok (.laload, 1) := by decide +kernel
theorem dL_law_654 : decode cL_law 654 = .ok (.iload 6, 2) := by decide +kernel
theorem dL_law_656 : decode cL_law 656 = .ok (.i2l, 1) := by decide +kernel
theorem dL_law_657 : decode cL_law 657 = .ok (.lcmp, 1) := by decide +kernel
theorem dL_law_658 : decode cL_law 658 = .ok (.ifCond .eq 5, 3) := by decide +kernel
theorem dL_law_661 : decode cL_law 661 = .ok (.iconst 0, 1) := by decide +kernel
theorem dL_law_662 : decode cL_law 662 = .ok (.ireturn, 1) := by decide +kernel
theorem dL_law_663 : decode cL_law 663 = .ok (.goto 678, 3) := by decide +kernel
theorem dL_law_666 : decode cL_law 666 = .ok (.aload_n 1, 1) := by decide +kernel
theorem dL_law_667 : decode cL_law 667 = .ok (.aload_n 0, 1) := by decide +kernel
theorem dL_law_668 : decode cL_law 668 = .ok (.iload 4, 2) := by decide +kernel
theorem dL_law_670 : decode cL_law 670 = .ok (.iconst 1, 1) := by decide +kernel
theorem dL_law_671 : decode cL_law 671 = .ok (.iadd, 1) := by decide +kernel
theorem dL_law_672 : decode cL_law 672 = .ok (.iaload, 1) := by decide +kernel
theorem dL_law_673 : decode cL_law 673 = .ok (.aload_n 3, 1) := by decide +kernel
theorem dL_law_674 : decode cL_law 674 = .ok (.invokestatic 122, 3) := by decide +kernel
theorem dL_law_677 : decode cL_law 677 = .ok (.istore 5, 2) := by decide +kernel
theorem dL_law_679 : decode cL_law 679 = .ok (.aload_n 2, 1) := by decide +kernel
theorem dL_law_680 : decode cL_law 680 = .ok (.aload_n 0, 1) := by decide +kernel
theorem dL_law_681 : decode cL_law 681 = .ok (.iload 4, 2) := by decide +kernel
theorem dL_law_683 : decode cL_law 683 = .ok (.iconst 1, 1) := by decide +kernel
theorem dL_law_684 : decode cL_law 684 = .ok (.iadd, 1) := by decide +kernel
theorem dL_law_685 : decode cL_law 685 = .ok (.iaload, 1) := by decide +kernel
theorem dL_law_686 : decode cL_law 686 = .ok (.invokevirtual 124, 3) := by decide +kernel
theorem dL_law_689 : decode cL_law 689 = .ok (.istore 6, 2) := by decide +kernel
theorem dL_law_691 : decode cL_law 691 = .ok (.aload_n 2, 1) := by decide +kernel
theorem dL_law_692 : decode cL_law 692 = .ok (.invokevirtual 85, 3) := by decide +kernel
theorem dL_law_695 : decode cL_law 695 = .ok (.iload 5, 2) := by decide +kernel
theorem dL_law_697 : decode cL_law 697 = .ok (.if_icmp .eq 5, 3) := by decide +kernel
theorem dL_law_700 : decode cL_law 700 = .ok (.iconst 0, 1) := by decide +kernel
theorem dL_law_701 : decode cL_law 701 = .ok (.ireturn, 1) := by decide +kernel
theorem dL_law_702 : decode cL_law 702 = .ok (.iload 5, 2) := by decide +kernel
theorem dL_law_704 : decode cL_law 704 = .ok (.ifCond .ne 15, 3) := by decide +kernel
theorem dL_law_707 : decode cL_law 707 = .ok (.aload_n 3, 1) := by decide +kernel
theorem dL_law_708 : decode cL_law 708 = .ok (.iconst 0, 1) := by decide +kernel
theorem dL_law_709 : decode cL_law 709 = .ok (.laload, 1) := by decide +kernel
theorem dL_law_710 : decode cL_law 710 = .ok (.iload 6, 2) := by decide +kernel
theorem dL_law_712 : decode cL_law 712 = .ok (.i2l, 1) := by decide +kernel
theorem dL_law_713 : decode cL_law 713 = .ok (.lcmp, 1) := by decide +kernel
theorem dL_law_714 : decode cL_law 714 = .ok (.ifCond .eq 5, 3) := by decide +kernel
theorem dL_law_717 : decode cL_law 717 = .ok (.iconst 0, 1) := by decide +kernel
theorem dL_law_718 : decode cL_law 718 = .ok (.ireturn, 1) := by decide +kernel
theorem dL_law_719 : decode cL_law 719 = .ok (.goto 622, 3) := by decide +kernel
theorem dL_law_722 : decode cL_law 722 = .ok (.aload_n 1, 1) := by decide +kernel
theorem dL_law_723 : decode cL_law 723 = .ok (.aload_n 0, 1) := by decide +kernel
theorem dL_law_724 : decode cL_law 724 = .ok (.iload 4, 2) := by decide +kernel
theorem dL_law_726 : decode cL_law 726 = .ok (.iconst 1, 1) := by decide +kernel
theorem dL_law_727 : decode cL_law 727 = .ok (.iadd, 1) := by decide +kernel
theorem dL_law_728 : decode cL_law 728 = .ok (.iaload, 1) := by decide +kernel
theorem dL_law_729 : decode cL_law 729 = .ok (.aload_n 0, 1) := by decide +kernel
theorem dL_law_730 : decode cL_law 730 = .ok (.iload 4, 2) := by decide +kernel
theorem dL_law_732 : decode cL_law 732 = .ok (.iconst 2, 1) := by decide +kernel
theorem dL_law_733 : decode cL_law 733 = .ok (.iadd, 1) := by decide +kernel
theorem dL_law_734 : decode cL_law 734 = .ok (.iaload, 1) := by decide +kernel
theorem dL_law_735 : decode cL_law 735 = .ok (.aload_n 3, 1) := by decide +kernel
theorem dL_law_736 : decode cL_law 736 = .ok (.invokestatic 125, 3) := by decide +kernel
theorem dL_law_739 : decode cL_law 739 = .ok (.istore 5, 2) := by decide +kernel
theorem dL_law_741 : decode cL_law 741 = .ok (.aload_n 2, 1) := by decide +kernel
theorem dL_law_742 : decode cL_law 742 = .ok (.aload_n 0, 1) := by decide +kernel
theorem dL_law_743 : decode cL_law 743 = .ok (.iload 4, 2) := by decide +kernel
theorem dL_law_745 : decode cL_law 745 = .ok (.iconst 1, 1) := by decide +kernel
theorem dL_law_746 : decode cL_law 746 = .ok (.iadd, 1) := by decide +kernel
theorem dL_law_747 : decode cL_law 747 = .ok (.iaload, 1) := by decide +kernel
theorem dL_law_748 : decode cL_law 748 = .ok (.aload_n 0, 1) := by decide +kernel
theorem dL_law_749 : decode cL_law 749 = .ok (.iload 4, 2) := by decide +kernel
theorem dL_law_751 : decode cL_law 751 = .ok (.iconst 2, 1) := by decide +kernel
theorem dL_law_752 : decode cL_law 752 = .ok (.iadd, 1) := by decide +kernel
theorem dL_law_753 : decode cL_law 753 = .ok (.iaload, 1) := by decide +kernel
theorem dL_law_754 : decode cL_law 754 = .ok (.invokevirtual 127, 3) := by decide +kernel
theorem dL_law_757 : decode cL_law 757 = .ok (.istore 6, 2) := by decide +kernel
theorem dL_law_759 : decode cL_law 759 = .ok (.aload_n 2, 1) := by decide +kernel
theorem dL_law_760 : decode cL_law 760 = .ok (.invokevirtual 85, 3) := by decide +kernel
theorem dL_law_763 : decode cL_law 763 = .ok (.iload 5, 2) := by decide +kernel
theorem dL_law_765 : decode cL_law 765 = .ok (.if_icmp .eq 5, 3) := by decide +kernel
theorem dL_law_768 : decode cL_law 768 = .ok (.iconst 0, 1) := by decide +kernel
theorem dL_law_769 : decode cL_law 769 = .ok (.ireturn, 1) := by decide +kernel
theorem dL_law_770 : decode cL_law 770 = .ok (.iload 5, 2) := by decide +kernel
theorem dL_law_772 : decode cL_law 772 = .ok (.ifCond .ne 15, 3) := by decide +kernel
theorem dL_law_775 : decode cL_law 775 = .ok (.aload_n 3, 1) := by decide +kernel
theorem dL_law_776 : decode cL_law 776 = .ok (.iconst 0, 1) := by decide +kernel
theorem dL_law_777 : decode cL_law 777 = .ok (.laload, 1) := by decide +kernel
theorem dL_law_778 : decode cL_law 778 = .ok (.iload 6, 2) := by decide +kernel
theorem dL_law_780 : decode cL_law 780 = .ok (.i2l, 1) := by decide +kernel
theorem dL_law_781 : decode cL_law 781 = .ok (.lcmp, 1) := by decide +kernel
theorem dL_law_782 : decode cL_law 782 = .ok (.ifCond .eq 5, 3) := by decide +kernel
theorem dL_law_785 : decode cL_law 785 = .ok (.iconst 0, 1) := by decide +kernel
theorem dL_law_786 : decode cL_law 786 = .ok (.ireturn, 1) := by decide +kernel
theorem dL_law_787 : decode cL_law 787 = .ok (.goto 554, 3) := by decide +kernel
theorem dL_law_790 : decode cL_law 790 = .ok (.aload_n 1, 1) := by decide +kernel
theorem dL_law_791 : decode cL_law 791 = .ok (.aload_n 0, 1) := by decide +kernel
theorem dL_law_792 : decode cL_law 792 = .ok (.iload 4, 2) := by decide +kernel
theorem dL_law_794 : decode cL_law 794 = .ok (.iconst 1, 1) := by decide +kernel
theorem dL_law_795 : decode cL_law 795 = .ok (.iadd, 1) := by decide +kernel
theorem dL_law_796 : decode cL_law 796 = .ok (.iaload, 1) := by decide +kernel
theorem dL_law_797 : decode cL_law 797 = .ok (.aload_n 0, 1) := by decide +kernel
theorem dL_law_798 : decode cL_law 798 = .ok (.iload 4, 2) := by decide +kernel
theorem dL_law_800 : decode cL_law 800 = .ok (.iconst 2, 1) := by decide +kernel
theorem dL_law_801 : decode cL_law 801 = .ok (.iadd, 1) := by decide +kernel
theorem dL_law_802 : decode cL_law 802 = .ok (.iaload, 1) := by decide +kernel
theorem dL_law_803 : decode cL_law 803 = .ok (.aload_n 3, 1) := by decide +kernel
theorem dL_law_804 : decode cL_law 804 = .ok (.invokestatic 128, 3) := by decide +kernel
theorem dL_law_807 : decode cL_law 807 = .ok (.istore 5, 2) := by decide +kernel
theorem dL_law_809 : decode cL_law 809 = .ok (.aload_n 2, 1) := by decide +kernel
theorem dL_law_810 : decode cL_law 810 = .ok (.aload_n 0, 1) := by decide +kernel
theorem dL_law_811 : decode cL_law 811 = .ok (.iload 4, 2) := by decide +kernel
theorem dL_law_813 : decode cL_law 813 = .ok (.iconst 1, 1) := by decide +kernel
theorem dL_law_814 : decode cL_law 814 = .ok (.iadd, 1) := by decide +kernel
theorem dL_law_815 : decode cL_law 815 = .ok (.iaload, 1) := by decide +kernel
theorem dL_law_816 : decode cL_law 816 = .ok (.aload_n 0, 1) := by decide +kernel
theorem dL_law_817 : decode cL_law 817 = .ok (.iload 4, 2) := by decide +kernel
theorem dL_law_819 : decode cL_law 819 = .ok (.iconst 2, 1) := by decide +kernel
theorem dL_law_820 : decode cL_law 820 = .ok (.iadd, 1) := by decide +kernel
theorem dL_law_821 : decode cL_law 821 = .ok (.iaload, 1) := by decide +kernel
theorem dL_law_822 : decode cL_law 822 = .ok (.invokevirtual 130, 3) := by decide +kernel
theorem dL_law_825 : decode cL_law 825 = .ok (.istore 6, 2) := by decide +kernel
theorem dL_law_827 : decode cL_law 827 = .ok (.aload_n 2, 1) := by decide +kernel
theorem dL_law_828 : decode cL_law 828 = .ok (.invokevirtual 85, 3) := by decide +kernel
theorem dL_law_831 : decode cL_law 831 = .ok (.iload 5, 2) := by decide +kernel
theorem dL_law_833 : decode cL_law 833 = .ok (.if_icmp .eq 5, 3) := by decide +kernel
theorem dL_law_836 : decode cL_law 836 = .ok (.iconst 0, 1) := by decide +kernel
theorem dL_law_837 : decode cL_law 837 = .ok (.ireturn, 1) := by decide +kernel
theorem dL_law_838 : decode cL_law 838 = .ok (.iload 5, 2) := by decide +kernel
theorem dL_law_840 : decode cL_law 840 = .ok (.ifCond .ne 15, 3) := by decide +kernel
theorem dL_law_843 : decode cL_law 843 = .ok (.aload_n 3, 1) := by decide +kernel
theorem dL_law_844 : decode cL_law 844 = .ok (.iconst 0, 1) := by decide +kernel
theorem dL_law_845 : decode cL_law 845 = .ok (.laload, 1) := by decide +kernel
theorem dL_law_846 : decode cL_law 846 = .ok (.iload 6, 2) := by decide +kernel
theorem dL_law_848 : decode cL_law 848 = .ok (.i2l, 1) := by decide +kernel
theorem dL_law_849 : decode cL_law 849 = .ok (.lcmp, 1) := by decide +kernel
theorem dL_law_850 : decode cL_law 850 = .ok (.ifCond .eq 5, 3) := by decide +kernel
theorem dL_law_853 : decode cL_law 853 = .ok (.iconst 0, 1) := by decide +kernel
theorem dL_law_854 : decode cL_law 854 = .ok (.ireturn, 1) := by decide +kernel
theorem dL_law_855 : decode cL_law 855 = .ok (.goto 486, 3) := by decide +kernel
theorem dL_law_858 : decode cL_law 858 = .ok (.aload_n 1, 1) := by decide +kernel
theorem dL_law_859 : decode cL_law 859 = .ok (.invokevirtual 131, 3) := by decide +kernel
theorem dL_law_862 : decode cL_law 862 = .ok (.aload_n 2, 1) := by decide +kernel
theorem dL_law_863 : decode cL_law 863 = .ok (.invokevirtual 134, 3) := by decide +kernel
theorem dL_law_866 : decode cL_law 866 = .ok (.if_icmp .eq 475, 3) := by decide +kernel
theorem dL_law_869 : decode cL_law 869 = .ok (.iconst 0, 1) := by decide +kernel
theorem dL_law_870 : decode cL_law 870 = .ok (.ireturn, 1) := by decide +kernel
theorem dL_law_871 : decode cL_law 871 = .ok (.aload_n 1, 1) := by decide +kernel
theorem dL_law_872 : decode cL_law 872 = .ok (.invokevirtual 135, 3) := by decide +kernel
theorem dL_law_875 : decode cL_law 875 = .ok (.aload_n 2, 1) := by decide +kernel
theorem dL_law_876 : decode cL_law 876 = .ok (.invokevirtual 138, 3) := by decide +kernel
theorem dL_law_879 : decode cL_law 879 = .ok (.if_icmp .eq 462, 3) := by decide +kernel
theorem dL_law_882 : decode cL_law 882 = .ok (.iconst 0, 1) := by decide +kernel
theorem dL_law_883 : decode cL_law 883 = .ok (.ireturn, 1) := by decide +kernel
theorem dL_law_884 : decode cL_law 884 = .ok (.aload_n 1, 1) := by decide +kernel
theorem dL_law_885 : decode cL_law 885 = .ok (.aload_n 0, 1) := by decide +kernel
theorem dL_law_886 : decode cL_law 886 = .ok (.iload 4, 2) := by decide +kernel
theorem dL_law_888 : decode cL_law 888 = .ok (.iconst 1, 1) := by decide +kernel
theorem dL_law_889 : decode cL_law 889 = .ok (.iadd, 1) := by decide +kernel
theorem dL_law_890 : decode cL_law 890 = .ok (.iaload, 1) := by decide +kernel
theorem dL_law_891 : decode cL_law 891 = .ok (.aload_n 3, 1) := by decide +kernel
theorem dL_law_892 : decode cL_law 892 = .ok (.invokestatic 139, 3) := by decide +kernel
theorem dL_law_895 : decode cL_law 895 = .ok (.istore 5, 2) := by decide +kernel
theorem dL_law_897 : decode cL_law 897 = .ok (.aload_n 2, 1) := by decide +kernel
theorem dL_law_898 : decode cL_law 898 = .ok (.aload_n 0, 1) := by decide +kernel
theorem dL_law_899 : decode cL_law 899 = .ok (.iload 4, 2) := by decide +kernel
theorem dL_law_901 : decode cL_law 901 = .ok (.iconst 1, 1) := by decide +kernel
theorem dL_law_902 : decode cL_law 902 = .ok (.iadd, 1) := by decide +kernel
theorem dL_law_903 : decode cL_law 903 = .ok (.iaload, 1) := by decide +kernel
theorem dL_law_904 : decode cL_law 904 = .ok (.invokevirtual 141, 3) := by decide +kernel
theorem dL_law_907 : decode cL_law 907 = .ok (.istore 6, 2) := by decide +kernel
theorem dL_law_909 : decode cL_law 909 = .ok (.aload_n 2, 1) := by decide +kernel
theorem dL_law_910 : decode cL_law 910 = .ok (.invokevirtual 85, 3) := by decide +kernel
theorem dL_law_913 : decode cL_law 913 = .ok (.iload 5, 2) := by decide +kernel
theorem dL_law_915 : decode cL_law 915 = .ok (.if_icmp .eq 5, 3) := by decide +kernel
theorem dL_law_918 : decode cL_law 918 = .ok (.iconst 0, 1) := by decide +kernel
theorem dL_law_919 : decode cL_law 919 = .ok (.ireturn, 1) := by decide +kernel
theorem dL_law_920 : decode cL_law 920 = .ok (.iload 5, 2) := by decide +kernel
theorem dL_law_922 : decode cL_law 922 = .ok (.ifCond .ne 15, 3) := by decide +kernel
theorem dL_law_925 : decode cL_law 925 = .ok (.aload_n 3, 1) := by decide +kernel
theorem dL_law_926 : decode cL_law 926 = .ok (.iconst 0, 1) := by decide +kernel
theorem dL_law_927 : decode cL_law 927 = .ok (.laload, 1) := by decide +kernel
theorem dL_law_928 : decode cL_law 928 = .ok (.iload 6, 2) := by decide +kernel
theorem dL_law_930 : decode cL_law 930 = .ok (.i2l, 1) := by decide +kernel
theorem dL_law_931 : decode cL_law 931 = .ok (.lcmp, 1) := by decide +kernel
theorem dL_law_932 : decode cL_law 932 = .ok (.ifCond .eq 5, 3) := by decide +kernel
theorem dL_law_935 : decode cL_law 935 = .ok (.iconst 0, 1) := by decide +kernel
theorem dL_law_936 : decode cL_law 936 = .ok (.ireturn, 1) := by decide +kernel
theorem dL_law_937 : decode cL_law 937 = .ok (.goto 404, 3) := by decide +kernel
theorem dL_law_940 : decode cL_law 940 = .ok (.aload_n 1, 1) := by decide +kernel
theorem dL_law_941 : decode cL_law 941 = .ok (.aload_n 0, 1) := by decide +kernel
theorem dL_law_942 : decode cL_law 942 = .ok (.iload 4, 2) := by decide +kernel
theorem dL_law_944 : decode cL_law 944 = .ok (.iconst 1, 1) := by decide +kernel
theorem dL_law_945 : decode cL_law 945 = .ok (.iadd, 1) := by decide +kernel
theorem dL_law_946 : decode cL_law 946 = .ok (.iaload, 1) := by decide +kernel
theorem dL_law_947 : decode cL_law 947 = .ok (.aload_n 3, 1) := by decide +kernel
theorem dL_law_948 : decode cL_law 948 = .ok (.invokestatic 142, 3) := by decide +kernel
theorem dL_law_951 : decode cL_law 951 = .ok (.istore 5, 2) := by decide +kernel
theorem dL_law_953 : decode cL_law 953 = .ok (.aload_n 2, 1) := by decide +kernel
theorem dL_law_954 : decode cL_law 954 = .ok (.aload_n 0, 1) := by decide +kernel
theorem dL_law_955 : decode cL_law 955 = .ok (.iload 4, 2) := by decide +kernel
theorem dL_law_957 : decode cL_law 957 = .ok (.iconst 1, 1) := by decide +kernel
theorem dL_law_958 : decode cL_law 958 = .ok (.iadd, 1) := by decide +kernel
theorem dL_law_959 : decode cL_law 959 = .ok (.iaload, 1) := by decide +kernel
theorem dL_law_960 : decode cL_law 960 = .ok (.invokevirtual 144, 3) := by decide +kernel
theorem dL_law_963 : decode cL_law 963 = .ok (.istore 6, 2) := by decide +kernel
theorem dL_law_965 : decode cL_law 965 = .ok (.aload_n 2, 1) := by decide +kernel
theorem dL_law_966 : decode cL_law 966 = .ok (.invokevirtual 85, 3) := by decide +kernel
theorem dL_law_969 : decode cL_law 969 = .ok (.iload 5, 2) := by decide +kernel
theorem dL_law_971 : decode cL_law 971 = .ok (.if_icmp .eq 5, 3) := by decide +kernel
theorem dL_law_974 : decode cL_law 974 = .ok (.iconst 0, 1) := by decide +kernel
theorem dL_law_975 : decode cL_law 975 = .ok (.ireturn, 1) := by decide +kernel
theorem dL_law_976 : decode cL_law 976 = .ok (.iload 5, 2) := by decide +kernel
theorem dL_law_978 : decode cL_law 978 = .ok (.ifCond .ne 15, 3) := by decide +kernel
theorem dL_law_981 : decode cL_law 981 = .ok (.aload_n 3, 1) := by decide +kernel
theorem dL_law_982 : decode cL_law 982 = .ok (.iconst 0, 1) := by decide +kernel
theorem dL_law_983 : decode cL_law 983 = .ok (.laload, 1) := by decide +kernel
theorem dL_law_984 : decode cL_law 984 = .ok (.iload 6, 2) := by decide +kernel
theorem dL_law_986 : decode cL_law 986 = .ok (.i2l, 1) := by decide +kernel
theorem dL_law_987 : decode cL_law 987 = .ok (.lcmp, 1) := by decide +kernel
theorem dL_law_988 : decode cL_law 988 = .ok (.ifCond .eq 5, 3) := by decide +kernel
theorem dL_law_991 : decode cL_law 991 = .ok (.iconst 0, 1) := by decide +kernel
theorem dL_law_992 : decode cL_law 992 = .ok (.ireturn, 1) := by decide +kernel
theorem dL_law_993 : decode cL_law 993 = .ok (.goto 348, 3) := by decide +kernel
theorem dL_law_996 : decode cL_law 996 = .ok (.aload_n 1, 1) := by decide +kernel
theorem dL_law_997 : decode cL_law 997 = .ok (.aload_n 0, 1) := by decide +kernel
theorem dL_law_998 : decode cL_law 998 = .ok (.iload 4, 2) := by decide +kernel
theorem dL_law_1000 : decode cL_law 1000 = .ok (.iconst 1, 1) := by decide +kernel
theorem dL_law_1001 : decode cL_law 1001 = .ok (.iadd, 1) := by decide +kernel
theorem dL_law_1002 : decode cL_law 1002 = .ok (.iaload, 1) := by decide +kernel
theorem dL_law_1003 : decode cL_law 1003 = .ok (.aload_n 3, 1) := by decide +kernel
theorem dL_law_1004 : decode cL_law 1004 = .ok (.invokestatic 145, 3) := by decide +kernel
theorem dL_law_1007 : decode cL_law 1007 = .ok (.istore 5, 2) := by decide +kernel
theorem dL_law_1009 : decode cL_law 1009 = .ok (.aload_n 2, 1) := by decide +kernel
theorem dL_law_1010 : decode cL_law 1010 = .ok (.aload_n 0, 1) := by decide +kernel
theorem dL_law_1011 : decode cL_law 1011 = .ok (.iload 4, 2) := by decide +kernel
theorem dL_law_1013 : decode cL_law 1013 = .ok (.iconst 1, 1) := by decide +kernel
theorem dL_law_1014 : decode cL_law 1014 = .ok (.iadd, 1) := by decide +kernel
theorem dL_law_1015 : decode cL_law 1015 = .ok (.iaload, 1) := by decide +kernel
theorem dL_law_1016 : decode cL_law 1016 = .ok (.invokevirtual 147, 3) := by decide +kernel
theorem dL_law_1019 : decode cL_law 1019 = .ok (.istore 6, 2) := by decide +kernel
theorem dL_law_1021 : decode cL_law 1021 = .ok (.aload_n 2, 1) := by decide +kernel
theorem dL_law_1022 : decode cL_law 1022 = .ok (.invokevirtual 85, 3) := by decide +kernel
theorem dL_law_1025 : decode cL_law 1025 = .ok (.iload 5, 2) := by decide +kernel
theorem dL_law_1027 : decode cL_law 1027 = .ok (.if_icmp .eq 5, 3) := by decide +kernel
theorem dL_law_1030 : decode cL_law 1030 = .ok (.iconst 0, 1) := by decide +kernel
theorem dL_law_1031 : decode cL_law 1031 = .ok (.ireturn, 1) := by decide +kernel
theorem dL_law_1032 : decode cL_law 1032 = .ok (.iload 5, 2) := by decide +kernel
theorem dL_law_1034 : decode cL_law 1034 = .ok (.ifCond .ne 15, 3) := by decide +kernel
theorem dL_law_1037 : decode cL_law 1037 = .ok (.aload_n 3, 1) := by decide +kernel
theorem dL_law_1038 : decode cL_law 1038 = .ok (.iconst 0, 1) := by decide +kernel
theorem dL_law_1039 : decode cL_law 1039 = .ok (.laload, 1) := by decide +kernel
theorem dL_law_1040 : decode cL_law 1040 = .ok (.iload 6, 2) := by decide +kernel
theorem dL_law_1042 : decode cL_law 1042 = .ok (.i2l, 1) := by decide +kernel
theorem dL_law_1043 : decode cL_law 1043 = .ok (.lcmp, 1) := by decide +kernel
theorem dL_law_1044 : decode cL_law 1044 = .ok (.ifCond .eq 5, 3) := by decide +kernel
theorem dL_law_1047 : decode cL_law 1047 = .ok (.iconst 0, 1) := by decide +kernel
theorem dL_law_1048 : decode cL_law 1048 = .ok (.ireturn, 1) := by decide +kernel
theorem dL_law_1049 : decode cL_law 1049 = .ok (.goto 292, 3) := by decide +kernel
theorem dL_law_1052 : decode cL_law 1052 = .ok (.aload_n 1, 1) := by decide +kernel
theorem dL_law_1053 : decode cL_law 1053 = .ok (.aload_n 0, 1) := by decide +kernel
theorem dL_law_1054 : decode cL_law 1054 = .ok (.iload 4, 2) := by decide +kernel
theorem dL_law_1056 : decode cL_law 1056 = .ok (.iconst 1, 1) := by decide +kernel
theorem dL_law_1057 : decode cL_law 1057 = .ok (.iadd, 1) := by decide +kernel
theorem dL_law_1058 : decode cL_law 1058 = .ok (.iaload, 1) := by decide +kernel
theorem dL_law_1059 : decode cL_law 1059 = .ok (.aload_n 3, 1) := by decide +kernel
theorem dL_law_1060 : decode cL_law 1060 = .ok (.invokestatic 148, 3) := by decide +kernel
theorem dL_law_1063 : decode cL_law 1063 = .ok (.istore 5, 2) := by decide +kernel
theorem dL_law_1065 : decode cL_law 1065 = .ok (.aload_n 2, 1) := by decide +kernel
theorem dL_law_1066 : decode cL_law 1066 = .ok (.aload_n 0, 1) := by decide +kernel
theorem dL_law_1067 : decode cL_law 1067 = .ok (.iload 4, 2) := by decide +kernel
theorem dL_law_1069 : decode cL_law 1069 = .ok (.iconst 1, 1) := by decide +kernel
theorem dL_law_1070 : decode cL_law 1070 = .ok (.iadd, 1) := by decide +kernel
theorem dL_law_1071 : decode cL_law 1071 = .ok (.iaload, 1) := by decide +kernel
theorem dL_law_1072 : decode cL_law 1072 = .ok (.invokevirtual 150, 3) := by decide +kernel
theorem dL_law_1075 : decode cL_law 1075 = .ok (.istore 6, 2) := by decide +kernel
theorem dL_law_1077 : decode cL_law 1077 = .ok (.aload_n 2, 1) := by decide +kernel
theorem dL_law_1078 : decode cL_law 1078 = .ok (.invokevirtual 85, 3) := by decide +kernel
theorem dL_law_1081 : decode cL_law 1081 = .ok (.iload 5, 2) := by decide +kernel
theorem dL_law_1083 : decode cL_law 1083 = .ok (.if_icmp .eq 5, 3) := by decide +kernel
theorem dL_law_1086 : decode cL_law 1086 = .ok (.iconst 0, 1) := by decide +kernel
theorem dL_law_1087 : decode cL_law 1087 = .ok (.ireturn, 1) := by decide +kernel
theorem dL_law_1088 : decode cL_law 1088 = .ok (.iload 5, 2) := by decide +kernel
theorem dL_law_1090 : decode cL_law 1090 = .ok (.ifCond .ne 15, 3) := by decide +kernel
theorem dL_law_1093 : decode cL_law 1093 = .ok (.aload_n 3, 1) := by decide +kernel
theorem dL_law_1094 : decode cL_law 1094 = .ok (.iconst 0, 1) := by decide +kernel
theorem dL_law_1095 : decode cL_law 1095 = .ok (.laload, 1) := by decide +kernel
theorem dL_law_1096 : decode cL_law 1096 = .ok (.iload 6, 2) := by decide +kernel
theorem dL_law_1098 : decode cL_law 1098 = .ok (.i2l, 1) := by decide +kernel
theorem dL_law_1099 : decode cL_law 1099 = .ok (.lcmp, 1) := by decide +kernel
theorem dL_law_1100 : decode cL_law 1100 = .ok (.ifCond .eq 5, 3) := by decide +kernel
theorem dL_law_1103 : decode cL_law 1103 = .ok (.iconst 0, 1) := by decide +kernel
theorem dL_law_1104 : decode cL_law 1104 = .ok (.ireturn, 1) := by decide +kernel
theorem dL_law_1105 : decode cL_law 1105 = .ok (.goto 236, 3) := by decide +kernel
theorem dL_law_1108 : decode cL_law 1108 = .ok (.aload_n 1, 1) := by decide +kernel
theorem dL_law_1109 : decode cL_law 1109 = .ok (.aload_n 0, 1) := by decide +kernel
theorem dL_law_1110 : decode cL_law 1110 = .ok (.iload 4, 2) := by decide +kernel
theorem dL_law_1112 : decode cL_law 1112 = .ok (.iconst 1, 1) := by decide +kernel
theorem dL_law_1113 : decode cL_law 1113 = .ok (.iadd, 1) := by decide +kernel
theorem dL_law_1114 : decode cL_law 1114 = .ok (.iaload, 1) := by decide +kernel
theorem dL_law_1115 : decode cL_law 1115 = .ok (.aload_n 0, 1) := by decide +kernel
theorem dL_law_1116 : decode cL_law 1116 = .ok (.iload 4, 2) := by decide +kernel
theorem dL_law_1118 : decode cL_law 1118 = .ok (.iconst 2, 1) := by decide +kernel
theorem dL_law_1119 : decode cL_law 1119 = .ok (.iadd, 1) := by decide +kernel
theorem dL_law_1120 : decode cL_law 1120 = .ok (.iaload, 1) := by decide +kernel
theorem dL_law_1121 : decode cL_law 1121 = .ok (.aload_n 3, 1) := by decide +kernel
theorem dL_law_1122 : decode cL_law 1122 = .ok (.invokestatic 151, 3) := by decide +kernel
theorem dL_law_1125 : decode cL_law 1125 = .ok (.istore 5, 2) := by decide +kernel
theorem dL_law_1127 : decode cL_law 1127 = .ok (.aload_n 2, 1) := by decide +kernel
theorem dL_law_1128 : decode cL_law 1128 = .ok (.aload_n 0, 1) := by decide +kernel
theorem dL_law_1129 : decode cL_law 1129 = .ok (.iload 4, 2) := by decide +kernel
theorem dL_law_1131 : decode cL_law 1131 = .ok (.iconst 1, 1) := by decide +kernel
theorem dL_law_1132 : decode cL_law 1132 = .ok (.iadd, 1) := by decide +kernel
theorem dL_law_1133 : decode cL_law 1133 = .ok (.iaload, 1) := by decide +kernel
theorem dL_law_1134 : decode cL_law 1134 = .ok (.aload_n 0, 1) := by decide +kernel
theorem dL_law_1135 : decode cL_law 1135 = .ok (.iload 4, 2) := by decide +kernel
theorem dL_law_1137 : decode cL_law 1137 = .ok (.iconst 2, 1) := by decide +kernel
theorem dL_law_1138 : decode cL_law 1138 = .ok (.iadd, 1) := by decide +kernel
theorem dL_law_1139 : decode cL_law 1139 = .ok (.iaload, 1) := by decide +kernel
theorem dL_law_1140 : decode cL_law 1140 = .ok (.invokevirtual 153, 3) := by decide +kernel
theorem dL_law_1143 : decode cL_law 1143 = .ok (.istore 6, 2) := by decide +kernel
theorem dL_law_1145 : decode cL_law 1145 = .ok (.aload_n 2, 1) := by decide +kernel
theorem dL_law_1146 : decode cL_law 1146 = .ok (.invokevirtual 85, 3) := by decide +kernel
theorem dL_law_1149 : decode cL_law 1149 = .ok (.iload 5, 2) := by decide +kernel
theorem dL_law_1151 : decode cL_law 1151 = .ok (.if_icmp .eq 5, 3) := by decide +kernel
theorem dL_law_1154 : decode cL_law 1154 = .ok (.iconst 0, 1) := by decide +kernel
theorem dL_law_1155 : decode cL_law 1155 = .ok (.ireturn, 1) := by decide +kernel
theorem dL_law_1156 : decode cL_law 1156 = .ok (.iload 5, 2) := by decide +kernel
theorem dL_law_1158 : decode cL_law 1158 = .ok (.ifCond .ne 15, 3) := by decide +kernel
theorem dL_law_1161 : decode cL_law 1161 = .ok (.aload_n 3, 1) := by decide +kernel
theorem dL_law_1162 : decode cL_law 1162 = .ok (.iconst 0, 1) := by decide +kernel
theorem dL_law_1163 : decode cL_law 1163 = .ok (.laload, 1) := by decide +kernel
theorem dL_law_1164 : decode cL_law 1164 = .ok (.iload 6, 2) := by decide +kernel
theorem dL_law_1166 : decode cL_law 1166 = .ok (.i2l, 1) := by decide +kernel
theorem dL_law_1167 : decode cL_law 1167 = .ok (.lcmp, 1) := by decide +kernel
theorem dL_law_1168 : decode cL_law 1168 = .ok (.ifCond .eq 5, 3) := by decide +kernel
theorem dL_law_1171 : decode cL_law 1171 = .ok (.iconst 0, 1) := by decide +kernel
theorem dL_law_1172 : decode cL_law 1172 = .ok (.ireturn, 1) := by decide +kernel
theorem dL_law_1173 : decode cL_law 1173 = .ok (.goto 168, 3) := by decide +kernel
theorem dL_law_1176 : decode cL_law 1176 = .ok (.aload_n 1, 1) := by decide +kernel
theorem dL_law_1177 : decode cL_law 1177 = .ok (.aload_n 0, 1) := by decide +kernel
theorem dL_law_1178 : decode cL_law 1178 = .ok (.iload 4, 2) := by decide +kernel
theorem dL_law_1180 : decode cL_law 1180 = .ok (.iconst 1, 1) := by decide +kernel
theorem dL_law_1181 : decode cL_law 1181 = .ok (.iadd, 1) := by decide +kernel
theorem dL_law_1182 : decode cL_law 1182 = .ok (.iaload, 1) := by decide +kernel
theorem dL_law_1183 : decode cL_law 1183 = .ok (.aload_n 0, 1) := by decide +kernel
theorem dL_law_1184 : decode cL_law 1184 = .ok (.iload 4, 2) := by decide +kernel
theorem dL_law_1186 : decode cL_law 1186 = .ok (.iconst 2, 1) := by decide +kernel
theorem dL_law_1187 : decode cL_law 1187 = .ok (.iadd, 1) := by decide +kernel
theorem dL_law_1188 : decode cL_law 1188 = .ok (.iaload, 1) := by decide +kernel
theorem dL_law_1189 : decode cL_law 1189 = .ok (.aload_n 3, 1) := by decide +kernel
theorem dL_law_1190 : decode cL_law 1190 = .ok (.invokestatic 154, 3) := by decide +kernel
theorem dL_law_1193 : decode cL_law 1193 = .ok (.istore 5, 2) := by decide +kernel
theorem dL_law_1195 : decode cL_law 1195 = .ok (.aload_n 2, 1) := by decide +kernel
theorem dL_law_1196 : decode cL_law 1196 = .ok (.aload_n 0, 1) := by decide +kernel
theorem dL_law_1197 : decode cL_law 1197 = .ok (.iload 4, 2) := by decide +kernel
theorem dL_law_1199 : decode cL_law 1199 = .ok (.iconst 1, 1) := by decide +kernel
theorem dL_law_1200 : decode cL_law 1200 = .ok (.iadd, 1) := by decide +kernel
theorem dL_law_1201 : decode cL_law 1201 = .ok (.iaload, 1) := by decide +kernel
theorem dL_law_1202 : decode cL_law 1202 = .ok (.aload_n 0, 1) := by decide +kernel
theorem dL_law_1203 : decode cL_law 1203 = .ok (.iload 4, 2) := by decide +kernel
theorem dL_law_1205 : decode cL_law 1205 = .ok (.iconst 2, 1) := by decide +kernel
theorem dL_law_1206 : decode cL_law 1206 = .ok (.iadd, 1) := by decide +kernel
theorem dL_law_1207 : decode cL_law 1207 = .ok (.iaload, 1) := by decide +kernel
theorem dL_law_1208 : decode cL_law 1208 = .ok (.invokevirtual 156, 3) := by decide +kernel
theorem dL_law_1211 : decode cL_law 1211 = .ok (.istore 6, 2) := by decide +kernel
theorem dL_law_1213 : decode cL_law 1213 = .ok (.aload_n 2, 1) := by decide +kernel
theorem dL_law_1214 : decode cL_law 1214 = .ok (.invokevirtual 85, 3) := by decide +kernel
theorem dL_law_1217 : decode cL_law 1217 = .ok (.iload 5, 2) := by decide +kernel
theorem dL_law_1219 : decode cL_law 1219 = .ok (.if_icmp .eq 5, 3) := by decide +kernel
theorem dL_law_1222 : decode cL_law 1222 = .ok (.iconst 0, 1) := by decide +kernel
theorem dL_law_1223 : decode cL_law 1223 = .ok (.ireturn, 1) := by decide +kernel
theorem dL_law_1224 : decode cL_law 1224 = .ok (.iload 5, 2) := by decide +kernel
theorem dL_law_1226 : decode cL_law 1226 = .ok (.ifCond .ne 15, 3) := by decide +kernel
theorem dL_law_1229 : decode cL_law 1229 = .ok (.aload_n 3, 1) := by decide +kernel
theorem dL_law_1230 : decode cL_law 1230 = .ok (.iconst 0, 1) := by decide +kernel
theorem dL_law_1231 : decode cL_law 1231 = .ok (.laload, 1) := by decide +kernel
theorem dL_law_1232 : decode cL_law 1232 = .ok (.iload 6, 2) := by decide +kernel
theorem dL_law_1234 : decode cL_law 1234 = .ok (.i2l, 1) := by decide +kernel
theorem dL_law_1235 : decode cL_law 1235 = .ok (.lcmp, 1) := by decide +kernel
theorem dL_law_1236 : decode cL_law 1236 = .ok (.ifCond .eq 5, 3) := by decide +kernel
theorem dL_law_1239 : decode cL_law 1239 = .ok (.iconst 0, 1) := by decide +kernel
theorem dL_law_1240 : decode cL_law 1240 = .ok (.ireturn, 1) := by decide +kernel
theorem dL_law_1241 : decode cL_law 1241 = .ok (.goto 100, 3) := by decide +kernel
theorem dL_law_1244 : decode cL_law 1244 = .ok (.aload_n 1, 1) := by decide +kernel
theorem dL_law_1245 : decode cL_law 1245 = .ok (.aload_n 0, 1) := by decide +kernel
theorem dL_law_1246 : decode cL_law 1246 = .ok (.iload 4, 2) := by decide +kernel
theorem dL_law_1248 : decode cL_law 1248 = .ok (.iconst 1, 1) := by decide +kernel
theorem dL_law_1249 : decode cL_law 1249 = .ok (.iadd, 1) := by decide +kernel
theorem dL_law_1250 : decode cL_law 1250 = .ok (.iaload, 1) := by decide +kernel
theorem dL_law_1251 : decode cL_law 1251 = .ok (.aload_n 3, 1) := by decide +kernel
theorem dL_law_1252 : decode cL_law 1252 = .ok (.invokestatic 157, 3) := by decide +kernel
theorem dL_law_1255 : decode cL_law 1255 = .ok (.istore 5, 2) := by decide +kernel
theorem dL_law_1257 : decode cL_law 1257 = .ok (.aload_n 2, 1) := by decide +kernel
theorem dL_law_1258 : decode cL_law 1258 = .ok (.aload_n 0, 1) := by decide +kernel
theorem dL_law_1259 : decode cL_law 1259 = .ok (.iload 4, 2) := by decide +kernel
theorem dL_law_1261 : decode cL_law 1261 = .ok (.iconst 1, 1) := by decide +kernel
theorem dL_law_1262 : decode cL_law 1262 = .ok (.iadd, 1) := by decide +kernel
theorem dL_law_1263 : decode cL_law 1263 = .ok (.iaload, 1) := by decide +kernel
theorem dL_law_1264 : decode cL_law 1264 = .ok (.invokevirtual 159, 3) := by decide +kernel
theorem dL_law_1267 : decode cL_law 1267 = .ok (.istore 6, 2) := by decide +kernel
theorem dL_law_1269 : decode cL_law 1269 = .ok (.aload_n 2, 1) := by decide +kernel
theorem dL_law_1270 : decode cL_law 1270 = .ok (.invokevirtual 85, 3) := by decide +kernel
theorem dL_law_1273 : decode cL_law 1273 = .ok (.iload 5, 2) := by decide +kernel
theorem dL_law_1275 : decode cL_law 1275 = .ok (.if_icmp .eq 5, 3) := by decide +kernel
theorem dL_law_1278 : decode cL_law 1278 = .ok (.iconst 0, 1) := by decide +kernel
theorem dL_law_1279 : decode cL_law 1279 = .ok (.ireturn, 1) := by decide +kernel
theorem dL_law_1280 : decode cL_law 1280 = .ok (.iload 5, 2) := by decide +kernel
theorem dL_law_1282 : decode cL_law 1282 = .ok (.ifCond .ne 15, 3) := by decide +kernel
theorem dL_law_1285 : decode cL_law 1285 = .ok (.aload_n 3, 1) := by decide +kernel
theorem dL_law_1286 : decode cL_law 1286 = .ok (.iconst 0, 1) := by decide +kernel
theorem dL_law_1287 : decode cL_law 1287 = .ok (.laload, 1) := by decide +kernel
theorem dL_law_1288 : decode cL_law 1288 = .ok (.iload 6, 2) := by decide +kernel
theorem dL_law_1290 : decode cL_law 1290 = .ok (.i2l, 1) := by decide +kernel
theorem dL_law_1291 : decode cL_law 1291 = .ok (.lcmp, 1) := by decide +kernel
theorem dL_law_1292 : decode cL_law 1292 = .ok (.ifCond .eq 5, 3) := by decide +kernel
theorem dL_law_1295 : decode cL_law 1295 = .ok (.iconst 0, 1) := by decide +kernel
theorem dL_law_1296 : decode cL_law 1296 = .ok (.ireturn, 1) := by decide +kernel
theorem dL_law_1297 : decode cL_law 1297 = .ok (.goto 44, 3) := by decide +kernel
theorem dL_law_1300 : decode cL_law 1300 = .ok (.aload_n 1, 1) := by decide +kernel
theorem dL_law_1301 : decode cL_law 1301 = .ok (.invokevirtual 160, 3) := by decide +kernel
theorem dL_law_1304 : decode cL_law 1304 = .ok (.dstore 5, 2) := by decide +kernel
theorem dL_law_1306 : decode cL_law 1306 = .ok (.aload_n 2, 1) := by decide +kernel
theorem dL_law_1307 : decode cL_law 1307 = .ok (.invokevirtual 164, 3) := by decide +kernel
theorem dL_law_1310 : decode cL_law 1310 = .ok (.dstore 7, 2) := by decide +kernel
theorem dL_law_1312 : decode cL_law 1312 = .ok (.dload 5, 2) := by decide +kernel
theorem dL_law_1314 : decode cL_law 1314 = .ok (.dload 7, 2) := by decide +kernel
theorem dL_law_1316 : decode cL_law 1316 = .ok (.dcmp .l, 1) := by decide +kernel
theorem dL_law_1317 : decode cL_law 1317 = .ok (.ifCond .eq 21, 3) := by decide +kernel
theorem dL_law_1320 : decode cL_law 1320 = .ok (.dload 5, 2) := by decide +kernel
theorem dL_law_1322 : decode cL_law 1322 = .ok (.dload 5, 2) := by decide +kernel
theorem dL_law_1324 : decode cL_law 1324 = .ok (.dcmp .l, 1) := by decide +kernel
theorem dL_law_1325 : decode cL_law 1325 = .ok (.ifCond .eq 11, 3) := by decide +kernel
theorem dL_law_1328 : decode cL_law 1328 = .ok (.dload 7, 2) := by decide +kernel
theorem dL_law_1330 : decode cL_law 1330 = .ok (.dload 7, 2) := by decide +kernel
theorem dL_law_1332 : decode cL_law 1332 = .ok (.dcmp .l, 1) := by decide +kernel
theorem dL_law_1333 : decode cL_law 1333 = .ok (.ifCond .ne 5, 3) := by decide +kernel
theorem dL_law_1336 : decode cL_law 1336 = .ok (.iconst 0, 1) := by decide +kernel
theorem dL_law_1337 : decode cL_law 1337 = .ok (.ireturn, 1) := by decide +kernel
theorem dL_law_1338 : decode cL_law 1338 = .ok (.goto 3, 3) := by decide +kernel
theorem dL_law_1341 : decode cL_law 1341 = .ok (.iinc 4 3, 3) := by decide +kernel
theorem dL_law_1344 : decode cL_law 1344 = .ok (.goto (-1321), 3) := by decide +kernel
theorem dL_law_1347 : decode cL_law 1347 = .ok (.iconst 1, 1) := by decide +kernel
theorem dL_law_1348 : decode cL_law 1348 = .ok (.ireturn, 1) := by decide +kernel
end
section
/-- the good words of the tables: every method's words behind its own code -/
def G0 : List Cond := lw_tbl.filter goodWord
theorem gq {w : Cond} (h : w ∈ lw_tbl) (g : goodWord w = true) : w ∈ G0 := List.mem_filter.mpr ⟨h, g⟩
theorem g0_good {w : Cond} (h : w ∈ G0) : goodWord w = true := (List.mem_filter.mp h).2
theorem g0_tbl {w : Cond} (h : w ∈ G0) : w ∈ lw_tbl := (List.mem_filter.mp h).1
def gw (y : MethodName) (b : ByteArray) (n : Nat) (r : Option FieldType) : List Cond := .code y b n r :: G0
theorem g0_in {w : Cond} (h : w ∈ G0) : w ∈ G0 ∧ ((w.onTables && w.keeps) = true ∨ ∃ ty, w = .arrayClass ty) := ⟨h, good_of_word (g0_good h)⟩
theorem gw_in {y : MethodName} {b : ByteArray} {n : Nat} {r : Option FieldType} (h : Cond.code y b n r ∈ G0) : GoodIn G0 (gw y b n r) := fun w hw => (List.mem_cons.mp hw).elim (fun e => by rw [e]; exact g0_in h) (fun q => g0_in q)
theorem gv_in {own C : String} {ix : Nat} {y : MethodName} {b : ByteArray} {n : Nat} {r : Option FieldType} (h1 : Cond.methodLink own ix y ∈ G0) (h2 : Cond.instanceMethod y ∈ G0) (h3 : Cond.selects C y y ∈ G0) (h4 : Cond.initialized C ∈ G0) (h5 : Cond.code y b n r ∈ G0) : GoodIn G0 (wsV own ix C y (gw y b n r)) := fun w hw => by
  rcases List.mem_append.mp hw with q | q
  · simp only [List.mem_cons, List.not_mem_nil, or_false] at q
    rcases q with rfl | rfl | rfl | rfl
    · exact g0_in h1
    · exact g0_in h2
    · exact g0_in h3
    · exact g0_in h4
  · exact gw_in h5 w q
theorem gs_in {own : String} {ix : Nat} {y : MethodName} {b : ByteArray} {n : Nat} {r : Option FieldType} (h1 : Cond.methodLink own ix y ∈ G0) (h2 : Cond.static y ∈ G0) (h4 : Cond.initialized own ∈ G0) (h5 : Cond.code y b n r ∈ G0) : GoodIn G0 (wsS own ix y (gw y b n r)) := fun w hw => by
  rcases List.mem_append.mp hw with q | q
  · simp only [List.mem_cons, List.not_mem_nil, or_false] at q
    rcases q with rfl | rfl | rfl
    · exact g0_in h1
    · exact g0_in h2
    · exact g0_in h4
  · exact gw_in h5 w q
theorem gsS_in {own : String} {ix : Nat} {y : MethodName} {b : ByteArray} {n : Nat} {r : Option FieldType} (h1 : Cond.methodLink own ix y ∈ G0) (h2 : Cond.static y ∈ G0) (h4 : Cond.initialized y.cls ∈ G0) (h5 : Cond.code y b n r ∈ G0) : GoodIn G0 (va_wsS own ix y (gw y b n r)) := fun w hw => by
  rcases List.mem_append.mp hw with q | q
  · simp only [List.mem_cons, List.not_mem_nil, or_false] at q
    rcases q with rfl | rfl | rfl
    · exact g0_in h1
    · exact g0_in h2
    · exact g0_in h4
  · exact gw_in h5 w q
theorem se_yX4_startOver : Cond.selects RX4 yX4_startOver yX4_startOver ∈ G0 := gq (List.mem_of_getElem? (i := 0) (by decide +kernel)) rfl
theorem se_yX4_accepts : Cond.selects RX4 yX4_accepts yX4_accepts ∈ G0 := gq (List.mem_of_getElem? (i := 1) (by decide +kernel)) rfl
theorem se_yX4_noteCall : Cond.selects RX4 yX4_noteCall yX4_noteCall ∈ G0 := gq (List.mem_of_getElem? (i := 2) (by decide +kernel)) rfl
theorem se_yX4_opensCall : Cond.selects RX4 yX4_opensCall yX4_opensCall ∈ G0 := gq (List.mem_of_getElem? (i := 3) (by decide +kernel)) rfl
theorem se_yX4_addsArgument : Cond.selects RX4 yX4_addsArgument yX4_addsArgument ∈ G0 := gq (List.mem_of_getElem? (i := 4) (by decide +kernel)) rfl
theorem se_yX4_closesCall : Cond.selects RX4 yX4_closesCall yX4_closesCall ∈ G0 := gq (List.mem_of_getElem? (i := 5) (by decide +kernel)) rfl
theorem se_yX0_followCalls : Cond.selects RX0 yX0_followCalls yX0_followCalls ∈ G0 := gq (List.mem_of_getElem? (i := 6) (by decide +kernel)) rfl
theorem se_yX0_calledInBodiesOf : Cond.selects RX0 yX0_calledInBodiesOf yX0_calledInBodiesOf ∈ G0 := gq (List.mem_of_getElem? (i := 7) (by decide +kernel)) rfl
theorem se_yX7_requireCompleteText : Cond.selects RX7 yX7_requireCompleteText yX7_requireCompleteText ∈ G0 := gq (List.mem_of_getElem? (i := 9) (by decide +kernel)) rfl
theorem se_yX7_copyOfBuffer : Cond.selects RX7 yX7_copyOfBuffer yX7_copyOfBuffer ∈ G0 := gq (List.mem_of_getElem? (i := 10) (by decide +kernel)) rfl
theorem se_yX7_requireDefinition : Cond.selects RX7 yX7_requireDefinition yX7_requireDefinition ∈ G0 := gq (List.mem_of_getElem? (i := 11) (by decide +kernel)) rfl
theorem se_yX1_startOver : Cond.selects RX1 yX1_startOver yX1_startOver ∈ G0 := gq (List.mem_of_getElem? (i := 12) (by decide +kernel)) rfl
theorem se_yX1_setMark : Cond.selects RX1 yX1_setMark yX1_setMark ∈ G0 := gq (List.mem_of_getElem? (i := 13) (by decide +kernel)) rfl
theorem se_yX1_writeText : Cond.selects RX1 yX1_writeText yX1_writeText ∈ G0 := gq (List.mem_of_getElem? (i := 14) (by decide +kernel)) rfl
theorem se_yX1_fillHole : Cond.selects RX1 yX1_fillHole yX1_fillHole ∈ G0 := gq (List.mem_of_getElem? (i := 15) (by decide +kernel)) rfl
theorem se_yX1_writeSign : Cond.selects RX1 yX1_writeSign yX1_writeSign ∈ G0 := gq (List.mem_of_getElem? (i := 16) (by decide +kernel)) rfl
theorem se_yX1_takesMore : Cond.selects RX1 yX1_takesMore yX1_takesMore ∈ G0 := gq (List.mem_of_getElem? (i := 17) (by decide +kernel)) rfl
theorem se_yX1_markAt : Cond.selects RX1 yX1_markAt yX1_markAt ∈ G0 := gq (List.mem_of_getElem? (i := 18) (by decide +kernel)) rfl
theorem se_yX1_writeCopy : Cond.selects RX1 yX1_writeCopy yX1_writeCopy ∈ G0 := gq (List.mem_of_getElem? (i := 19) (by decide +kernel)) rfl
theorem se_yX1_moveSigns : Cond.selects RX1 yX1_moveSigns yX1_moveSigns ∈ G0 := gq (List.mem_of_getElem? (i := 20) (by decide +kernel)) rfl
theorem se_yX1_letCallWait : Cond.selects RX1 yX1_letCallWait yX1_letCallWait ∈ G0 := gq (List.mem_of_getElem? (i := 21) (by decide +kernel)) rfl
theorem se_yX1_finishCall : Cond.selects RX1 yX1_finishCall yX1_finishCall ∈ G0 := gq (List.mem_of_getElem? (i := 22) (by decide +kernel)) rfl
theorem se_yX1_endingOf : Cond.selects RX1 yX1_endingOf yX1_endingOf ∈ G0 := gq (List.mem_of_getElem? (i := 23) (by decide +kernel)) rfl
theorem se_yX1_writeBody : Cond.selects RX1 yX1_writeBody yX1_writeBody ∈ G0 := gq (List.mem_of_getElem? (i := 24) (by decide +kernel)) rfl
theorem se_yX1_listCall : Cond.selects RX1 yX1_listCall yX1_listCall ∈ G0 := gq (List.mem_of_getElem? (i := 25) (by decide +kernel)) rfl
theorem se_yX8_refused : Cond.selects RX8 yX8_refused yX8_refused ∈ G0 := gq (List.mem_of_getElem? (i := 26) (by decide +kernel)) rfl
theorem se_yX8_error : Cond.selects RX8 yX8_error yX8_error ∈ G0 := gq (List.mem_of_getElem? (i := 27) (by decide +kernel)) rfl
theorem se_yX8_isDefined : Cond.selects RX8 yX8_isDefined yX8_isDefined ∈ G0 := gq (List.mem_of_getElem? (i := 28) (by decide +kernel)) rfl
theorem se_yX8_isWhole : Cond.selects RX8 yX8_isWhole yX8_isWhole ∈ G0 := gq (List.mem_of_getElem? (i := 29) (by decide +kernel)) rfl
theorem se_yX8_saves : Cond.selects RX8 yX8_saves yX8_saves ∈ G0 := gq (List.mem_of_getElem? (i := 30) (by decide +kernel)) rfl
theorem se_yX8_lays : Cond.selects RX8 yX8_lays yX8_lays ∈ G0 := gq (List.mem_of_getElem? (i := 31) (by decide +kernel)) rfl
theorem se_yX8_holesOf : Cond.selects RX8 yX8_holesOf yX8_holesOf ∈ G0 := gq (List.mem_of_getElem? (i := 32) (by decide +kernel)) rfl
theorem se_yX8_signOf : Cond.selects RX8 yX8_signOf yX8_signOf ∈ G0 := gq (List.mem_of_getElem? (i := 33) (by decide +kernel)) rfl
theorem se_yX8_defined : Cond.selects RX8 yX8_defined yX8_defined ∈ G0 := gq (List.mem_of_getElem? (i := 34) (by decide +kernel)) rfl
theorem se_yX8_begins : Cond.selects RX8 yX8_begins yX8_begins ∈ G0 := gq (List.mem_of_getElem? (i := 35) (by decide +kernel)) rfl
theorem se_yX8_measures : Cond.selects RX8 yX8_measures yX8_measures ∈ G0 := gq (List.mem_of_getElem? (i := 36) (by decide +kernel)) rfl
theorem se_yX8_longOf : Cond.selects RX8 yX8_longOf yX8_longOf ∈ G0 := gq (List.mem_of_getElem? (i := 37) (by decide +kernel)) rfl
theorem se_yX8_reads : Cond.selects RX8 yX8_reads yX8_reads ∈ G0 := gq (List.mem_of_getElem? (i := 38) (by decide +kernel)) rfl
theorem se_yX8_goesOn : Cond.selects RX8 yX8_goesOn yX8_goesOn ∈ G0 := gq (List.mem_of_getElem? (i := 39) (by decide +kernel)) rfl
theorem se_yX8_isOpen : Cond.selects RX8 yX8_isOpen yX8_isOpen ∈ G0 := gq (List.mem_of_getElem? (i := 40) (by decide +kernel)) rfl
theorem se_yX8_writes : Cond.selects RX8 yX8_writes yX8_writes ∈ G0 := gq (List.mem_of_getElem? (i := 41) (by decide +kernel)) rfl
theorem se_yX8_notes : Cond.selects RX8 yX8_notes yX8_notes ∈ G0 := gq (List.mem_of_getElem? (i := 42) (by decide +kernel)) rfl
theorem se_yX8_opens : Cond.selects RX8 yX8_opens yX8_opens ∈ G0 := gq (List.mem_of_getElem? (i := 43) (by decide +kernel)) rfl
theorem se_yX8_filling : Cond.selects RX8 yX8_filling yX8_filling ∈ G0 := gq (List.mem_of_getElem? (i := 44) (by decide +kernel)) rfl
theorem se_yX8_spells : Cond.selects RX8 yX8_spells yX8_spells ∈ G0 := gq (List.mem_of_getElem? (i := 45) (by decide +kernel)) rfl
theorem se_yX8_enters : Cond.selects RX8 yX8_enters yX8_enters ∈ G0 := gq (List.mem_of_getElem? (i := 46) (by decide +kernel)) rfl
theorem se_yX8_calls : Cond.selects RX8 yX8_calls yX8_calls ∈ G0 := gq (List.mem_of_getElem? (i := 47) (by decide +kernel)) rfl
theorem se_yX8_skips : Cond.selects RX8 yX8_skips yX8_skips ∈ G0 := gq (List.mem_of_getElem? (i := 48) (by decide +kernel)) rfl
theorem se_yX8_puts : Cond.selects RX8 yX8_puts yX8_puts ∈ G0 := gq (List.mem_of_getElem? (i := 49) (by decide +kernel)) rfl
theorem se_yX8_fills : Cond.selects RX8 yX8_fills yX8_fills ∈ G0 := gq (List.mem_of_getElem? (i := 50) (by decide +kernel)) rfl
theorem se_yX8_callsOf : Cond.selects RX8 yX8_callsOf yX8_callsOf ∈ G0 := gq (List.mem_of_getElem? (i := 51) (by decide +kernel)) rfl
theorem se_yX8_mostOf : Cond.selects RX8 yX8_mostOf yX8_mostOf ∈ G0 := gq (List.mem_of_getElem? (i := 52) (by decide +kernel)) rfl
theorem se_yX8_plainOf : Cond.selects RX8 yX8_plainOf yX8_plainOf ∈ G0 := gq (List.mem_of_getElem? (i := 53) (by decide +kernel)) rfl
theorem se_yX8_laysSets : Cond.selects RX8 yX8_laysSets yX8_laysSets ∈ G0 := gq (List.mem_of_getElem? (i := 54) (by decide +kernel)) rfl
theorem se_yX8_called : Cond.selects RX8 yX8_called yX8_called ∈ G0 := gq (List.mem_of_getElem? (i := 55) (by decide +kernel)) rfl
theorem se_yX8_reached : Cond.selects RX8 yX8_reached yX8_reached ∈ G0 := gq (List.mem_of_getElem? (i := 56) (by decide +kernel)) rfl
theorem se_yX8_callers : Cond.selects RX8 yX8_callers yX8_callers ∈ G0 := gq (List.mem_of_getElem? (i := 57) (by decide +kernel)) rfl
theorem se_yX8_inRings : Cond.selects RX8 yX8_inRings yX8_inRings ∈ G0 := gq (List.mem_of_getElem? (i := 58) (by decide +kernel)) rfl
theorem se_yX8_all : Cond.selects RX8 yX8_all yX8_all ∈ G0 := gq (List.mem_of_getElem? (i := 59) (by decide +kernel)) rfl
theorem se_yX8_signsAs : Cond.selects RX8 yX8_signsAs yX8_signsAs ∈ G0 := gq (List.mem_of_getElem? (i := 60) (by decide +kernel)) rfl
theorem se_yX8_callsOfAll : Cond.selects RX8 yX8_callsOfAll yX8_callsOfAll ∈ G0 := gq (List.mem_of_getElem? (i := 61) (by decide +kernel)) rfl
theorem ini_L : Cond.initialized RL ∈ G0 := gq (List.mem_of_getElem? (i := 62) (by decide +kernel)) rfl
theorem ini_X7 : Cond.initialized RX7 ∈ G0 := gq (List.mem_of_getElem? (i := 63) (by decide +kernel)) rfl
theorem ini_X5 : Cond.initialized RX5 ∈ G0 := gq (List.mem_of_getElem? (i := 64) (by decide +kernel)) rfl
theorem ini_X3 : Cond.initialized RX3 ∈ G0 := gq (List.mem_of_getElem? (i := 65) (by decide +kernel)) rfl
theorem ini_X2 : Cond.initialized RX2 ∈ G0 := gq (List.mem_of_getElem? (i := 66) (by decide +kernel)) rfl
theorem ini_X4 : Cond.initialized RX4 ∈ G0 := gq (List.mem_of_getElem? (i := 67) (by decide +kernel)) rfl
theorem ini_X0 : Cond.initialized RX0 ∈ G0 := gq (List.mem_of_getElem? (i := 68) (by decide +kernel)) rfl
theorem ini_X1 : Cond.initialized RX1 ∈ G0 := gq (List.mem_of_getElem? (i := 69) (by decide +kernel)) rfl
theorem ini_X8 : Cond.initialized RX8 ∈ G0 := gq (List.mem_of_getElem? (i := 70) (by decide +kernel)) rfl
theorem ini_J9 : Cond.initialized RJ9 ∈ G0 := gq (List.mem_of_getElem? (i := 75) (by decide +kernel)) rfl
theorem ini_X6 : Cond.initialized RX6 ∈ G0 := gq (List.mem_of_getElem? (i := 77) (by decide +kernel)) rfl
theorem ini_J7 : Cond.initialized RJ7 ∈ G0 := gq (List.mem_of_getElem? (i := 78) (by decide +kernel)) rfl
theorem ini_J10 : Cond.initialized RJ10 ∈ G0 := gq (List.mem_of_getElem? (i := 79) (by decide +kernel)) rfl
theorem ini_J6 : Cond.initialized RJ6 ∈ G0 := gq (List.mem_of_getElem? (i := 81) (by decide +kernel)) rfl
theorem cl_L_8 : Cond.classLink RL 8 RX7 ∈ G0 := gq (List.mem_of_getElem? (i := 82) (by decide +kernel)) rfl
theorem ins_X7 : Cond.instantiable RX7 7 ∈ G0 := gq (List.mem_of_getElem? (i := 83) (by decide +kernel)) rfl
theorem ml_L_75 : Cond.methodLink RL 75 yX7_init ∈ G0 := gq (List.mem_of_getElem? (i := 84) (by decide +kernel)) rfl
theorem im_yX7_init : Cond.instanceMethod yX7_init ∈ G0 := gq (List.mem_of_getElem? (i := 85) (by decide +kernel)) rfl
theorem cd_yX7_init : Cond.code yX7_init cX7_init 1 none ∈ G0 := gq (List.mem_of_getElem? (i := 86) (by decide +kernel)) rfl
theorem ml_X7_1 : Cond.methodLink RX7 1 objectInit ∈ G0 := gq (List.mem_of_getElem? (i := 87) (by decide +kernel)) rfl
theorem im_oi : Cond.instanceMethod objectInit ∈ G0 := gq (List.mem_of_getElem? (i := 88) (by decide +kernel)) rfl
theorem cd_oi : Cond.code objectInit ⟨#[0xb1]⟩ 1 none ∈ G0 := gq (List.mem_of_getElem? (i := 89) (by decide +kernel)) rfl
theorem cl_X7_7 : Cond.classLink RX7 7 RX5 ∈ G0 := gq (List.mem_of_getElem? (i := 90) (by decide +kernel)) rfl
theorem ins_X5 : Cond.instantiable RX5 5 ∈ G0 := gq (List.mem_of_getElem? (i := 91) (by decide +kernel)) rfl
theorem im_yX5_init : Cond.instanceMethod yX5_init ∈ G0 := gq (List.mem_of_getElem? (i := 93) (by decide +kernel)) rfl
theorem cd_yX5_init : Cond.code yX5_init cX5_init 1 none ∈ G0 := gq (List.mem_of_getElem? (i := 94) (by decide +kernel)) rfl
theorem ml_X5_3 : Cond.methodLink RX5 3 objectInit ∈ G0 := gq (List.mem_of_getElem? (i := 95) (by decide +kernel)) rfl
theorem cl_X5_9 : Cond.classLink RX5 9 RX6 ∈ G0 := gq (List.mem_of_getElem? (i := 96) (by decide +kernel)) rfl
theorem cl_X5_17 : Cond.classLink RX5 17 RX3 ∈ G0 := gq (List.mem_of_getElem? (i := 98) (by decide +kernel)) rfl
theorem ins_X3 : Cond.instantiable RX3 4 ∈ G0 := gq (List.mem_of_getElem? (i := 99) (by decide +kernel)) rfl
theorem ml_X5_19 : Cond.methodLink RX5 19 yX3_init ∈ G0 := gq (List.mem_of_getElem? (i := 100) (by decide +kernel)) rfl
theorem im_yX3_init : Cond.instanceMethod yX3_init ∈ G0 := gq (List.mem_of_getElem? (i := 101) (by decide +kernel)) rfl
theorem cd_yX3_init : Cond.code yX3_init cX3_init 5 none ∈ G0 := gq (List.mem_of_getElem? (i := 102) (by decide +kernel)) rfl
theorem ml_X3_3 : Cond.methodLink RX3 3 objectInit ∈ G0 := gq (List.mem_of_getElem? (i := 103) (by decide +kernel)) rfl
theorem fl_X3_9 : Cond.fieldLink RX3 9 RX3 (TX3 0).2.1 (TX3 0).2.2.1 ∈ G0 := gq (List.mem_of_getElem? (i := 104) (by decide +kernel)) rfl
theorem fl_X7_118 : Cond.fieldLink RX7 118 RX3 (TX3 0).2.1 (TX3 0).2.2.1 ∈ G0 := gq (List.mem_of_getElem? (i := 105) (by decide +kernel)) rfl
theorem fl_X3_18 : Cond.fieldLink RX3 18 RX3 (TX3 1).2.1 (TX3 1).2.2.1 ∈ G0 := gq (List.mem_of_getElem? (i := 106) (by decide +kernel)) rfl
theorem fl_X7_221 : Cond.fieldLink RX7 221 RX3 (TX3 1).2.1 (TX3 1).2.2.1 ∈ G0 := gq (List.mem_of_getElem? (i := 107) (by decide +kernel)) rfl
theorem fl_X3_22 : Cond.fieldLink RX3 22 RX3 (TX3 2).2.1 (TX3 2).2.2.1 ∈ G0 := gq (List.mem_of_getElem? (i := 108) (by decide +kernel)) rfl
theorem fl_X7_224 : Cond.fieldLink RX7 224 RX3 (TX3 2).2.1 (TX3 2).2.2.1 ∈ G0 := gq (List.mem_of_getElem? (i := 109) (by decide +kernel)) rfl
theorem fl_X3_15 : Cond.fieldLink RX3 15 RX3 (TX3 3).2.1 (TX3 3).2.2.1 ∈ G0 := gq (List.mem_of_getElem? (i := 110) (by decide +kernel)) rfl
theorem fl_X5_11 : Cond.fieldLink RX5 11 RX5 (TX5 0).2.1 (TX5 0).2.2.1 ∈ G0 := gq (List.mem_of_getElem? (i := 121) (by decide +kernel)) rfl
theorem fl_X5_22 : Cond.fieldLink RX5 22 RX5 (TX5 1).2.1 (TX5 1).2.2.1 ∈ G0 := gq (List.mem_of_getElem? (i := 122) (by decide +kernel)) rfl
theorem fl_X7_111 : Cond.fieldLink RX7 111 RX5 (TX5 1).2.1 (TX5 1).2.2.1 ∈ G0 := gq (List.mem_of_getElem? (i := 123) (by decide +kernel)) rfl
theorem fl_X5_26 : Cond.fieldLink RX5 26 RX5 (TX5 2).2.1 (TX5 2).2.2.1 ∈ G0 := gq (List.mem_of_getElem? (i := 124) (by decide +kernel)) rfl
theorem fl_X7_97 : Cond.fieldLink RX7 97 RX5 (TX5 2).2.1 (TX5 2).2.2.1 ∈ G0 := gq (List.mem_of_getElem? (i := 125) (by decide +kernel)) rfl
theorem fl_X1_142 : Cond.fieldLink RX1 142 RX5 (TX5 2).2.1 (TX5 2).2.2.1 ∈ G0 := gq (List.mem_of_getElem? (i := 126) (by decide +kernel)) rfl
theorem fl_X5_30 : Cond.fieldLink RX5 30 RX5 (TX5 3).2.1 (TX5 3).2.2.1 ∈ G0 := gq (List.mem_of_getElem? (i := 127) (by decide +kernel)) rfl
theorem fl_X7_115 : Cond.fieldLink RX7 115 RX5 (TX5 3).2.1 (TX5 3).2.2.1 ∈ G0 := gq (List.mem_of_getElem? (i := 128) (by decide +kernel)) rfl
theorem fl_X5_33 : Cond.fieldLink RX5 33 RX5 (TX5 4).2.1 (TX5 4).2.2.1 ∈ G0 := gq (List.mem_of_getElem? (i := 129) (by decide +kernel)) rfl
theorem fl_X7_104 : Cond.fieldLink RX7 104 RX5 (TX5 4).2.1 (TX5 4).2.2.1 ∈ G0 := gq (List.mem_of_getElem? (i := 130) (by decide +kernel)) rfl
theorem cl_X7_16 : Cond.classLink RX7 16 RX2 ∈ G0 := gq (List.mem_of_getElem? (i := 142) (by decide +kernel)) rfl
theorem ins_X2 : Cond.instantiable RX2 4 ∈ G0 := gq (List.mem_of_getElem? (i := 143) (by decide +kernel)) rfl
theorem im_yX2_init : Cond.instanceMethod yX2_init ∈ G0 := gq (List.mem_of_getElem? (i := 145) (by decide +kernel)) rfl
theorem cd_yX2_init : Cond.code yX2_init cX2_init 1 none ∈ G0 := gq (List.mem_of_getElem? (i := 146) (by decide +kernel)) rfl
theorem ml_X2_3 : Cond.methodLink RX2 3 objectInit ∈ G0 := gq (List.mem_of_getElem? (i := 147) (by decide +kernel)) rfl
theorem cl_X2_9 : Cond.classLink RX2 9 RX5 ∈ G0 := gq (List.mem_of_getElem? (i := 148) (by decide +kernel)) rfl
theorem fl_X2_11 : Cond.fieldLink RX2 11 RX2 (TX2 0).2.1 (TX2 0).2.2.1 ∈ G0 := gq (List.mem_of_getElem? (i := 150) (by decide +kernel)) rfl
theorem fl_X2_17 : Cond.fieldLink RX2 17 RX2 (TX2 1).2.1 (TX2 1).2.2.1 ∈ G0 := gq (List.mem_of_getElem? (i := 151) (by decide +kernel)) rfl
theorem fl_X2_20 : Cond.fieldLink RX2 20 RX2 (TX2 2).2.1 (TX2 2).2.2.1 ∈ G0 := gq (List.mem_of_getElem? (i := 152) (by decide +kernel)) rfl
theorem fl_X2_24 : Cond.fieldLink RX2 24 RX2 (TX2 3).2.1 (TX2 3).2.2.1 ∈ G0 := gq (List.mem_of_getElem? (i := 153) (by decide +kernel)) rfl
theorem fl_X7_150 : Cond.fieldLink RX7 150 RX2 (TX2 3).2.1 (TX2 3).2.2.1 ∈ G0 := gq (List.mem_of_getElem? (i := 154) (by decide +kernel)) rfl
theorem cl_X7_27 : Cond.classLink RX7 27 RX4 ∈ G0 := gq (List.mem_of_getElem? (i := 164) (by decide +kernel)) rfl
theorem ins_X4 : Cond.instantiable RX4 10 ∈ G0 := gq (List.mem_of_getElem? (i := 165) (by decide +kernel)) rfl
theorem im_yX4_init : Cond.instanceMethod yX4_init ∈ G0 := gq (List.mem_of_getElem? (i := 167) (by decide +kernel)) rfl
theorem cd_yX4_init : Cond.code yX4_init cX4_init 1 none ∈ G0 := gq (List.mem_of_getElem? (i := 168) (by decide +kernel)) rfl
theorem ml_X4_3 : Cond.methodLink RX4 3 objectInit ∈ G0 := gq (List.mem_of_getElem? (i := 169) (by decide +kernel)) rfl
theorem fl_X4_9 : Cond.fieldLink RX4 9 RX4 (TX4 0).2.1 (TX4 0).2.2.1 ∈ G0 := gq (List.mem_of_getElem? (i := 170) (by decide +kernel)) rfl
theorem fl_X4_15 : Cond.fieldLink RX4 15 RX4 (TX4 1).2.1 (TX4 1).2.2.1 ∈ G0 := gq (List.mem_of_getElem? (i := 171) (by decide +kernel)) rfl
theorem fl_X4_19 : Cond.fieldLink RX4 19 RX4 (TX4 2).2.1 (TX4 2).2.2.1 ∈ G0 := gq (List.mem_of_getElem? (i := 172) (by decide +kernel)) rfl
theorem fl_X4_22 : Cond.fieldLink RX4 22 RX4 (TX4 3).2.1 (TX4 3).2.2.1 ∈ G0 := gq (List.mem_of_getElem? (i := 173) (by decide +kernel)) rfl
theorem fl_X7_134 : Cond.fieldLink RX7 134 RX4 (TX4 3).2.1 (TX4 3).2.2.1 ∈ G0 := gq (List.mem_of_getElem? (i := 174) (by decide +kernel)) rfl
theorem fl_X6_13 : Cond.fieldLink RX6 13 RX4 (TX4 4).2.1 (TX4 4).2.2.1 ∈ G0 := gq (List.mem_of_getElem? (i := 175) (by decide +kernel)) rfl
theorem fl_X4_25 : Cond.fieldLink RX4 25 RX4 (TX4 4).2.1 (TX4 4).2.2.1 ∈ G0 := gq (List.mem_of_getElem? (i := 176) (by decide +kernel)) rfl
theorem fl_X6_20 : Cond.fieldLink RX6 20 RX4 (TX4 5).2.1 (TX4 5).2.2.1 ∈ G0 := gq (List.mem_of_getElem? (i := 177) (by decide +kernel)) rfl
theorem fl_X4_28 : Cond.fieldLink RX4 28 RX4 (TX4 5).2.1 (TX4 5).2.2.1 ∈ G0 := gq (List.mem_of_getElem? (i := 178) (by decide +kernel)) rfl
theorem fl_X6_24 : Cond.fieldLink RX6 24 RX4 (TX4 6).2.1 (TX4 6).2.2.1 ∈ G0 := gq (List.mem_of_getElem? (i := 179) (by decide +kernel)) rfl
theorem fl_X4_31 : Cond.fieldLink RX4 31 RX4 (TX4 6).2.1 (TX4 6).2.2.1 ∈ G0 := gq (List.mem_of_getElem? (i := 180) (by decide +kernel)) rfl
theorem fl_X6_28 : Cond.fieldLink RX6 28 RX4 (TX4 7).2.1 (TX4 7).2.2.1 ∈ G0 := gq (List.mem_of_getElem? (i := 181) (by decide +kernel)) rfl
theorem fl_X4_34 : Cond.fieldLink RX4 34 RX4 (TX4 7).2.1 (TX4 7).2.2.1 ∈ G0 := gq (List.mem_of_getElem? (i := 182) (by decide +kernel)) rfl
theorem fl_X6_32 : Cond.fieldLink RX6 32 RX4 (TX4 8).2.1 (TX4 8).2.2.1 ∈ G0 := gq (List.mem_of_getElem? (i := 183) (by decide +kernel)) rfl
theorem fl_X4_37 : Cond.fieldLink RX4 37 RX4 (TX4 8).2.1 (TX4 8).2.2.1 ∈ G0 := gq (List.mem_of_getElem? (i := 184) (by decide +kernel)) rfl
theorem fl_X6_36 : Cond.fieldLink RX6 36 RX4 (TX4 9).2.1 (TX4 9).2.2.1 ∈ G0 := gq (List.mem_of_getElem? (i := 185) (by decide +kernel)) rfl
theorem fl_X4_40 : Cond.fieldLink RX4 40 RX4 (TX4 9).2.1 (TX4 9).2.2.1 ∈ G0 := gq (List.mem_of_getElem? (i := 186) (by decide +kernel)) rfl
theorem fl_X7_210 : Cond.fieldLink RX7 210 RX4 (TX4 9).2.1 (TX4 9).2.2.1 ∈ G0 := gq (List.mem_of_getElem? (i := 187) (by decide +kernel)) rfl
theorem cl_X7_34 : Cond.classLink RX7 34 RX0 ∈ G0 := gq (List.mem_of_getElem? (i := 209) (by decide +kernel)) rfl
theorem ins_X0 : Cond.instantiable RX0 3 ∈ G0 := gq (List.mem_of_getElem? (i := 210) (by decide +kernel)) rfl
theorem im_yX0_init : Cond.instanceMethod yX0_init ∈ G0 := gq (List.mem_of_getElem? (i := 212) (by decide +kernel)) rfl
theorem cd_yX0_init : Cond.code yX0_init cX0_init 1 none ∈ G0 := gq (List.mem_of_getElem? (i := 213) (by decide +kernel)) rfl
theorem ml_X0_3 : Cond.methodLink RX0 3 objectInit ∈ G0 := gq (List.mem_of_getElem? (i := 214) (by decide +kernel)) rfl
theorem fl_X0_9 : Cond.fieldLink RX0 9 RX0 (TX0 0).2.1 (TX0 0).2.2.1 ∈ G0 := gq (List.mem_of_getElem? (i := 215) (by decide +kernel)) rfl
theorem fl_X0_15 : Cond.fieldLink RX0 15 RX0 (TX0 1).2.1 (TX0 1).2.2.1 ∈ G0 := gq (List.mem_of_getElem? (i := 216) (by decide +kernel)) rfl
theorem fl_X0_18 : Cond.fieldLink RX0 18 RX0 (TX0 2).2.1 (TX0 2).2.2.1 ∈ G0 := gq (List.mem_of_getElem? (i := 217) (by decide +kernel)) rfl
theorem cl_X7_41 : Cond.classLink RX7 41 RX1 ∈ G0 := gq (List.mem_of_getElem? (i := 225) (by decide +kernel)) rfl
theorem ins_X1 : Cond.instantiable RX1 14 ∈ G0 := gq (List.mem_of_getElem? (i := 226) (by decide +kernel)) rfl
theorem im_yX1_init : Cond.instanceMethod yX1_init ∈ G0 := gq (List.mem_of_getElem? (i := 228) (by decide +kernel)) rfl
theorem cd_yX1_init : Cond.code yX1_init cX1_init 1 none ∈ G0 := gq (List.mem_of_getElem? (i := 229) (by decide +kernel)) rfl
theorem ml_X1_5 : Cond.methodLink RX1 5 objectInit ∈ G0 := gq (List.mem_of_getElem? (i := 230) (by decide +kernel)) rfl
theorem fl_X1_11 : Cond.fieldLink RX1 11 RX1 (TX1 0).2.1 (TX1 0).2.2.1 ∈ G0 := gq (List.mem_of_getElem? (i := 231) (by decide +kernel)) rfl
theorem fl_X1_15 : Cond.fieldLink RX1 15 RX1 (TX1 1).2.1 (TX1 1).2.2.1 ∈ G0 := gq (List.mem_of_getElem? (i := 232) (by decide +kernel)) rfl
theorem fl_X1_18 : Cond.fieldLink RX1 18 RX1 (TX1 2).2.1 (TX1 2).2.2.1 ∈ G0 := gq (List.mem_of_getElem? (i := 233) (by decide +kernel)) rfl
theorem fl_X1_21 : Cond.fieldLink RX1 21 RX1 (TX1 3).2.1 (TX1 3).2.2.1 ∈ G0 := gq (List.mem_of_getElem? (i := 234) (by decide +kernel)) rfl
theorem fl_X1_24 : Cond.fieldLink RX1 24 RX1 (TX1 4).2.1 (TX1 4).2.2.1 ∈ G0 := gq (List.mem_of_getElem? (i := 235) (by decide +kernel)) rfl
theorem fl_X1_27 : Cond.fieldLink RX1 27 RX1 (TX1 5).2.1 (TX1 5).2.2.1 ∈ G0 := gq (List.mem_of_getElem? (i := 236) (by decide +kernel)) rfl
theorem fl_X1_31 : Cond.fieldLink RX1 31 RX1 (TX1 6).2.1 (TX1 6).2.2.1 ∈ G0 := gq (List.mem_of_getElem? (i := 237) (by decide +kernel)) rfl
theorem fl_X1_34 : Cond.fieldLink RX1 34 RX1 (TX1 7).2.1 (TX1 7).2.2.1 ∈ G0 := gq (List.mem_of_getElem? (i := 238) (by decide +kernel)) rfl
theorem fl_X1_37 : Cond.fieldLink RX1 37 RX1 (TX1 8).2.1 (TX1 8).2.2.1 ∈ G0 := gq (List.mem_of_getElem? (i := 239) (by decide +kernel)) rfl
theorem fl_X1_40 : Cond.fieldLink RX1 40 RX1 (TX1 9).2.1 (TX1 9).2.2.1 ∈ G0 := gq (List.mem_of_getElem? (i := 240) (by decide +kernel)) rfl
theorem fl_X1_43 : Cond.fieldLink RX1 43 RX1 (TX1 10).2.1 (TX1 10).2.2.1 ∈ G0 := gq (List.mem_of_getElem? (i := 241) (by decide +kernel)) rfl
theorem fl_X1_46 : Cond.fieldLink RX1 46 RX1 (TX1 11).2.1 (TX1 11).2.2.1 ∈ G0 := gq (List.mem_of_getElem? (i := 242) (by decide +kernel)) rfl
theorem fl_X1_49 : Cond.fieldLink RX1 49 RX1 (TX1 12).2.1 (TX1 12).2.2.1 ∈ G0 := gq (List.mem_of_getElem? (i := 243) (by decide +kernel)) rfl
theorem fl_X1_53 : Cond.fieldLink RX1 53 RX1 (TX1 13).2.1 (TX1 13).2.2.1 ∈ G0 := gq (List.mem_of_getElem? (i := 244) (by decide +kernel)) rfl
theorem fl_X7_10 : Cond.fieldLink RX7 10 RX7 (TX7 0).2.1 (TX7 0).2.2.1 ∈ G0 := gq (List.mem_of_getElem? (i := 274) (by decide +kernel)) rfl
theorem fl_X7_19 : Cond.fieldLink RX7 19 RX7 (TX7 1).2.1 (TX7 1).2.2.1 ∈ G0 := gq (List.mem_of_getElem? (i := 275) (by decide +kernel)) rfl
theorem fl_X7_23 : Cond.fieldLink RX7 23 RX7 (TX7 2).2.1 (TX7 2).2.2.1 ∈ G0 := gq (List.mem_of_getElem? (i := 276) (by decide +kernel)) rfl
theorem fl_X7_30 : Cond.fieldLink RX7 30 RX7 (TX7 3).2.1 (TX7 3).2.2.1 ∈ G0 := gq (List.mem_of_getElem? (i := 277) (by decide +kernel)) rfl
theorem fl_X7_37 : Cond.fieldLink RX7 37 RX7 (TX7 4).2.1 (TX7 4).2.2.1 ∈ G0 := gq (List.mem_of_getElem? (i := 278) (by decide +kernel)) rfl
theorem fl_X7_44 : Cond.fieldLink RX7 44 RX7 (TX7 5).2.1 (TX7 5).2.2.1 ∈ G0 := gq (List.mem_of_getElem? (i := 279) (by decide +kernel)) rfl
theorem fl_X7_48 : Cond.fieldLink RX7 48 RX7 (TX7 6).2.1 (TX7 6).2.2.1 ∈ G0 := gq (List.mem_of_getElem? (i := 280) (by decide +kernel)) rfl
theorem ml_L_105 : Cond.methodLink RL 105 yX7_clearBuffer ∈ G0 := gq (List.mem_of_getElem? (i := 296) (by decide +kernel)) rfl
theorem im_yX7_clearBuffer : Cond.instanceMethod yX7_clearBuffer ∈ G0 := gq (List.mem_of_getElem? (i := 297) (by decide +kernel)) rfl
theorem se_yX7_clearBuffer : Cond.selects RX7 yX7_clearBuffer yX7_clearBuffer ∈ G0 := gq (List.mem_of_getElem? (i := 298) (by decide +kernel)) rfl
theorem cd_yX7_clearBuffer : Cond.code yX7_clearBuffer cX7_clearBuffer 2 (some (FieldType.int)) ∈ G0 := gq (List.mem_of_getElem? (i := 299) (by decide +kernel)) rfl
theorem ml_L_109 : Cond.methodLink RL 109 yX7_firstError ∈ G0 := gq (List.mem_of_getElem? (i := 300) (by decide +kernel)) rfl
theorem im_yX7_firstError : Cond.instanceMethod yX7_firstError ∈ G0 := gq (List.mem_of_getElem? (i := 301) (by decide +kernel)) rfl
theorem se_yX7_firstError : Cond.selects RX7 yX7_firstError yX7_firstError ∈ G0 := gq (List.mem_of_getElem? (i := 302) (by decide +kernel)) rfl
theorem cd_yX7_firstError : Cond.code yX7_firstError cX7_firstError 1 (some (FieldType.int)) ∈ G0 := gq (List.mem_of_getElem? (i := 303) (by decide +kernel)) rfl
theorem ml_X7_130 : Cond.methodLink RX7 130 yX4_readText ∈ G0 := gq (List.mem_of_getElem? (i := 304) (by decide +kernel)) rfl
theorem im_yX4_readText : Cond.instanceMethod yX4_readText ∈ G0 := gq (List.mem_of_getElem? (i := 305) (by decide +kernel)) rfl
theorem se_yX4_readText : Cond.selects RX4 yX4_readText yX4_readText ∈ G0 := gq (List.mem_of_getElem? (i := 306) (by decide +kernel)) rfl
theorem cd_yX4_readText : Cond.code yX4_readText cX4_readText 5 none ∈ G0 := gq (List.mem_of_getElem? (i := 307) (by decide +kernel)) rfl
theorem ml_X4_43 : Cond.methodLink RX4 43 yX4_startOver ∈ G0 := gq (List.mem_of_getElem? (i := 308) (by decide +kernel)) rfl
theorem im_yX4_startOver : Cond.instanceMethod yX4_startOver ∈ G0 := gq (List.mem_of_getElem? (i := 310) (by decide +kernel)) rfl
theorem cd_yX4_startOver : Cond.code yX4_startOver cX4_startOver 2 none ∈ G0 := gq (List.mem_of_getElem? (i := 311) (by decide +kernel)) rfl
theorem ml_X4_47 : Cond.methodLink RX4 47 yX4_accepts ∈ G0 := gq (List.mem_of_getElem? (i := 312) (by decide +kernel)) rfl
theorem im_yX4_accepts : Cond.instanceMethod yX4_accepts ∈ G0 := gq (List.mem_of_getElem? (i := 314) (by decide +kernel)) rfl
theorem cd_yX4_accepts : Cond.code yX4_accepts cX4_accepts 3 (some (FieldType.boolean)) ∈ G0 := gq (List.mem_of_getElem? (i := 315) (by decide +kernel)) rfl
theorem sm_yX7_isAbbreviation : Cond.static yX7_isAbbreviation ∈ G0 := gq (List.mem_of_getElem? (i := 317) (by decide +kernel)) rfl
theorem cd_yX7_isAbbreviation : Cond.code yX7_isAbbreviation cX7_isAbbreviation 1 (some (FieldType.boolean)) ∈ G0 := gq (List.mem_of_getElem? (i := 318) (by decide +kernel)) rfl
theorem ml_X4_55 : Cond.methodLink RX4 55 yX4_noteCall ∈ G0 := gq (List.mem_of_getElem? (i := 319) (by decide +kernel)) rfl
theorem im_yX4_noteCall : Cond.instanceMethod yX4_noteCall ∈ G0 := gq (List.mem_of_getElem? (i := 321) (by decide +kernel)) rfl
theorem cd_yX4_noteCall : Cond.code yX4_noteCall cX4_noteCall 2 none ∈ G0 := gq (List.mem_of_getElem? (i := 322) (by decide +kernel)) rfl
theorem ml_X4_68 : Cond.methodLink RX4 68 yJ9_max_7cf53 ∈ G0 := gq (List.mem_of_getElem? (i := 323) (by decide +kernel)) rfl
theorem sm_yJ9_max_7cf53 : Cond.static yJ9_max_7cf53 ∈ G0 := gq (List.mem_of_getElem? (i := 324) (by decide +kernel)) rfl
theorem cd_yJ9_max_7cf53 : Cond.code yJ9_max_7cf53 cJ9_max_7cf53 2 (some (FieldType.int)) ∈ G0 := gq (List.mem_of_getElem? (i := 325) (by decide +kernel)) rfl
theorem ml_X4_58 : Cond.methodLink RX4 58 yX4_opensCall ∈ G0 := gq (List.mem_of_getElem? (i := 326) (by decide +kernel)) rfl
theorem im_yX4_opensCall : Cond.instanceMethod yX4_opensCall ∈ G0 := gq (List.mem_of_getElem? (i := 328) (by decide +kernel)) rfl
theorem cd_yX4_opensCall : Cond.code yX4_opensCall cX4_opensCall 1 (some (FieldType.boolean)) ∈ G0 := gq (List.mem_of_getElem? (i := 329) (by decide +kernel)) rfl
theorem ml_X4_62 : Cond.methodLink RX4 62 yX4_addsArgument ∈ G0 := gq (List.mem_of_getElem? (i := 330) (by decide +kernel)) rfl
theorem im_yX4_addsArgument : Cond.instanceMethod yX4_addsArgument ∈ G0 := gq (List.mem_of_getElem? (i := 332) (by decide +kernel)) rfl
theorem cd_yX4_addsArgument : Cond.code yX4_addsArgument cX4_addsArgument 2 (some (FieldType.boolean)) ∈ G0 := gq (List.mem_of_getElem? (i := 333) (by decide +kernel)) rfl
theorem ml_X4_65 : Cond.methodLink RX4 65 yX4_closesCall ∈ G0 := gq (List.mem_of_getElem? (i := 334) (by decide +kernel)) rfl
theorem im_yX4_closesCall : Cond.instanceMethod yX4_closesCall ∈ G0 := gq (List.mem_of_getElem? (i := 336) (by decide +kernel)) rfl
theorem cd_yX4_closesCall : Cond.code yX4_closesCall cX4_closesCall 1 (some (FieldType.boolean)) ∈ G0 := gq (List.mem_of_getElem? (i := 337) (by decide +kernel)) rfl
theorem ml_L_131 : Cond.methodLink RL 131 yX7_rings ∈ G0 := gq (List.mem_of_getElem? (i := 338) (by decide +kernel)) rfl
theorem im_yX7_rings : Cond.instanceMethod yX7_rings ∈ G0 := gq (List.mem_of_getElem? (i := 339) (by decide +kernel)) rfl
theorem se_yX7_rings : Cond.selects RX7 yX7_rings yX7_rings ∈ G0 := gq (List.mem_of_getElem? (i := 340) (by decide +kernel)) rfl
theorem cd_yX7_rings : Cond.code yX7_rings cX7_rings 1 (some (FieldType.int)) ∈ G0 := gq (List.mem_of_getElem? (i := 341) (by decide +kernel)) rfl
theorem ml_X7_185 : Cond.methodLink RX7 185 yX0_takeFrom ∈ G0 := gq (List.mem_of_getElem? (i := 342) (by decide +kernel)) rfl
theorem im_yX0_takeFrom : Cond.instanceMethod yX0_takeFrom ∈ G0 := gq (List.mem_of_getElem? (i := 343) (by decide +kernel)) rfl
theorem se_yX0_takeFrom : Cond.selects RX0 yX0_takeFrom yX0_takeFrom ∈ G0 := gq (List.mem_of_getElem? (i := 344) (by decide +kernel)) rfl
theorem cd_yX0_takeFrom : Cond.code yX0_takeFrom cX0_takeFrom 4 none ∈ G0 := gq (List.mem_of_getElem? (i := 345) (by decide +kernel)) rfl
theorem ml_X0_22 : Cond.methodLink RX0 22 yX5_definedSet ∈ G0 := gq (List.mem_of_getElem? (i := 346) (by decide +kernel)) rfl
theorem im_yX5_definedSet : Cond.instanceMethod yX5_definedSet ∈ G0 := gq (List.mem_of_getElem? (i := 347) (by decide +kernel)) rfl
theorem se_yX5_definedSet : Cond.selects RX5 yX5_definedSet yX5_definedSet ∈ G0 := gq (List.mem_of_getElem? (i := 348) (by decide +kernel)) rfl
theorem cd_yX5_definedSet : Cond.code yX5_definedSet cX5_definedSet 3 (some (FieldType.int)) ∈ G0 := gq (List.mem_of_getElem? (i := 349) (by decide +kernel)) rfl
theorem ml_X0_28 : Cond.methodLink RX0 28 yX5_definitionOf ∈ G0 := gq (List.mem_of_getElem? (i := 350) (by decide +kernel)) rfl
theorem im_yX5_definitionOf : Cond.instanceMethod yX5_definitionOf ∈ G0 := gq (List.mem_of_getElem? (i := 351) (by decide +kernel)) rfl
theorem se_yX5_definitionOf : Cond.selects RX5 yX5_definitionOf yX5_definitionOf ∈ G0 := gq (List.mem_of_getElem? (i := 352) (by decide +kernel)) rfl
theorem cd_yX5_definitionOf : Cond.code yX5_definitionOf cX5_definitionOf 2 (some ((FieldType.object "AbbreviationBook$Text"))) ∈ G0 := gq (List.mem_of_getElem? (i := 353) (by decide +kernel)) rfl
theorem sm_yX7_isLetter : Cond.static yX7_isLetter ∈ G0 := gq (List.mem_of_getElem? (i := 355) (by decide +kernel)) rfl
theorem cd_yX7_isLetter : Cond.code yX7_isLetter cX7_isLetter 1 (some (FieldType.boolean)) ∈ G0 := gq (List.mem_of_getElem? (i := 356) (by decide +kernel)) rfl
theorem ml_X7_201 : Cond.methodLink RX7 201 yX0_inRings ∈ G0 := gq (List.mem_of_getElem? (i := 357) (by decide +kernel)) rfl
theorem im_yX0_inRings : Cond.instanceMethod yX0_inRings ∈ G0 := gq (List.mem_of_getElem? (i := 358) (by decide +kernel)) rfl
theorem se_yX0_inRings : Cond.selects RX0 yX0_inRings yX0_inRings ∈ G0 := gq (List.mem_of_getElem? (i := 359) (by decide +kernel)) rfl
theorem cd_yX0_inRings : Cond.code yX0_inRings cX0_inRings 3 (some (FieldType.int)) ∈ G0 := gq (List.mem_of_getElem? (i := 360) (by decide +kernel)) rfl
theorem ml_X0_40 : Cond.methodLink RX0 40 yX0_followCalls ∈ G0 := gq (List.mem_of_getElem? (i := 361) (by decide +kernel)) rfl
theorem im_yX0_followCalls : Cond.instanceMethod yX0_followCalls ∈ G0 := gq (List.mem_of_getElem? (i := 363) (by decide +kernel)) rfl
theorem cd_yX0_followCalls : Cond.code yX0_followCalls cX0_followCalls 3 none ∈ G0 := gq (List.mem_of_getElem? (i := 364) (by decide +kernel)) rfl
theorem ml_X0_43 : Cond.methodLink RX0 43 yX0_holds ∈ G0 := gq (List.mem_of_getElem? (i := 365) (by decide +kernel)) rfl
theorem sm_yX0_holds : Cond.static yX0_holds ∈ G0 := gq (List.mem_of_getElem? (i := 366) (by decide +kernel)) rfl
theorem cd_yX0_holds : Cond.code yX0_holds cX0_holds 2 (some (FieldType.boolean)) ∈ G0 := gq (List.mem_of_getElem? (i := 367) (by decide +kernel)) rfl
theorem ml_L_135 : Cond.methodLink RL 135 yX7_missing ∈ G0 := gq (List.mem_of_getElem? (i := 369) (by decide +kernel)) rfl
theorem im_yX7_missing : Cond.instanceMethod yX7_missing ∈ G0 := gq (List.mem_of_getElem? (i := 370) (by decide +kernel)) rfl
theorem se_yX7_missing : Cond.selects RX7 yX7_missing yX7_missing ∈ G0 := gq (List.mem_of_getElem? (i := 371) (by decide +kernel)) rfl
theorem cd_yX7_missing : Cond.code yX7_missing cX7_missing 1 (some (FieldType.int)) ∈ G0 := gq (List.mem_of_getElem? (i := 372) (by decide +kernel)) rfl
theorem ml_X7_204 : Cond.methodLink RX7 204 yX0_calledButNotDefined ∈ G0 := gq (List.mem_of_getElem? (i := 373) (by decide +kernel)) rfl
theorem im_yX0_calledButNotDefined : Cond.instanceMethod yX0_calledButNotDefined ∈ G0 := gq (List.mem_of_getElem? (i := 374) (by decide +kernel)) rfl
theorem se_yX0_calledButNotDefined : Cond.selects RX0 yX0_calledButNotDefined yX0_calledButNotDefined ∈ G0 := gq (List.mem_of_getElem? (i := 375) (by decide +kernel)) rfl
theorem cd_yX0_calledButNotDefined : Cond.code yX0_calledButNotDefined cX0_calledButNotDefined 1 (some (FieldType.int)) ∈ G0 := gq (List.mem_of_getElem? (i := 376) (by decide +kernel)) rfl
theorem ml_X0_47 : Cond.methodLink RX0 47 yX0_calledInBodiesOf ∈ G0 := gq (List.mem_of_getElem? (i := 377) (by decide +kernel)) rfl
theorem im_yX0_calledInBodiesOf : Cond.instanceMethod yX0_calledInBodiesOf ∈ G0 := gq (List.mem_of_getElem? (i := 379) (by decide +kernel)) rfl
theorem cd_yX0_calledInBodiesOf : Cond.code yX0_calledInBodiesOf cX0_calledInBodiesOf 4 (some (FieldType.int)) ∈ G0 := gq (List.mem_of_getElem? (i := 380) (by decide +kernel)) rfl
theorem ml_L_160 : Cond.methodLink RL 160 yX7_meanHoles ∈ G0 := gq (List.mem_of_getElem? (i := 381) (by decide +kernel)) rfl
theorem im_yX7_meanHoles : Cond.instanceMethod yX7_meanHoles ∈ G0 := gq (List.mem_of_getElem? (i := 382) (by decide +kernel)) rfl
theorem se_yX7_meanHoles : Cond.selects RX7 yX7_meanHoles yX7_meanHoles ∈ G0 := gq (List.mem_of_getElem? (i := 383) (by decide +kernel)) rfl
theorem cd_yX7_meanHoles : Cond.code yX7_meanHoles cX7_meanHoles 2 (some (FieldType.double)) ∈ G0 := gq (List.mem_of_getElem? (i := 384) (by decide +kernel)) rfl
theorem ml_X7_83 : Cond.methodLink RX7 83 yX5_definedCount ∈ G0 := gq (List.mem_of_getElem? (i := 385) (by decide +kernel)) rfl
theorem im_yX5_definedCount : Cond.instanceMethod yX5_definedCount ∈ G0 := gq (List.mem_of_getElem? (i := 386) (by decide +kernel)) rfl
theorem se_yX5_definedCount : Cond.selects RX5 yX5_definedCount yX5_definedCount ∈ G0 := gq (List.mem_of_getElem? (i := 387) (by decide +kernel)) rfl
theorem cd_yX5_definedCount : Cond.code yX5_definedCount cX5_definedCount 1 (some (FieldType.int)) ∈ G0 := gq (List.mem_of_getElem? (i := 388) (by decide +kernel)) rfl
theorem ml_X5_40 : Cond.methodLink RX5 40 yX5_definedSet ∈ G0 := gq (List.mem_of_getElem? (i := 389) (by decide +kernel)) rfl
theorem ml_X5_44 : Cond.methodLink RX5 44 yJ6_bitCount_0f7a4 ∈ G0 := gq (List.mem_of_getElem? (i := 390) (by decide +kernel)) rfl
theorem sm_yJ6_bitCount_0f7a4 : Cond.static yJ6_bitCount_0f7a4 ∈ G0 := gq (List.mem_of_getElem? (i := 391) (by decide +kernel)) rfl
theorem cd_yJ6_bitCount_0f7a4 : Cond.code yJ6_bitCount_0f7a4 cJ6_bitCount_0f7a4 1 (some (FieldType.int)) ∈ G0 := gq (List.mem_of_getElem? (i := 392) (by decide +kernel)) rfl
theorem ml_X7_245 : Cond.methodLink RX7 245 yX5_holesOfBodies ∈ G0 := gq (List.mem_of_getElem? (i := 396) (by decide +kernel)) rfl
theorem im_yX5_holesOfBodies : Cond.instanceMethod yX5_holesOfBodies ∈ G0 := gq (List.mem_of_getElem? (i := 397) (by decide +kernel)) rfl
theorem se_yX5_holesOfBodies : Cond.selects RX5 yX5_holesOfBodies yX5_holesOfBodies ∈ G0 := gq (List.mem_of_getElem? (i := 398) (by decide +kernel)) rfl
theorem cd_yX5_holesOfBodies : Cond.code yX5_holesOfBodies cX5_holesOfBodies 4 (some (FieldType.int)) ∈ G0 := gq (List.mem_of_getElem? (i := 399) (by decide +kernel)) rfl
theorem ml_L_79 : Cond.methodLink RL 79 yL_define ∈ G0 := gq (List.mem_of_getElem? (i := 400) (by decide +kernel)) rfl
theorem sm_yL_define : Cond.static yL_define ∈ G0 := gq (List.mem_of_getElem? (i := 401) (by decide +kernel)) rfl
theorem ml_L_7 : Cond.methodLink RL 7 yX7_define ∈ G0 := gq (List.mem_of_getElem? (i := 405) (by decide +kernel)) rfl
theorem im_yX7_define : Cond.instanceMethod yX7_define ∈ G0 := gq (List.mem_of_getElem? (i := 406) (by decide +kernel)) rfl
theorem se_yX7_define : Cond.selects RX7 yX7_define yX7_define ∈ G0 := gq (List.mem_of_getElem? (i := 407) (by decide +kernel)) rfl
theorem cd_yX7_define : Cond.code yX7_define cX7_define 3 (some (FieldType.int)) ∈ G0 := gq (List.mem_of_getElem? (i := 408) (by decide +kernel)) rfl
theorem ml_X7_52 : Cond.methodLink RX7 52 yX7_requireLetter ∈ G0 := gq (List.mem_of_getElem? (i := 409) (by decide +kernel)) rfl
theorem sm_yX7_requireLetter : Cond.static yX7_requireLetter ∈ G0 := gq (List.mem_of_getElem? (i := 410) (by decide +kernel)) rfl
theorem cd_yX7_requireLetter : Cond.code yX7_requireLetter cX7_requireLetter 1 none ∈ G0 := gq (List.mem_of_getElem? (i := 411) (by decide +kernel)) rfl
theorem ml_X7_248 : Cond.methodLink RX7 248 yX7_isLetter ∈ G0 := gq (List.mem_of_getElem? (i := 412) (by decide +kernel)) rfl
theorem ml_X7_56 : Cond.methodLink RX7 56 yX7_requireCompleteText ∈ G0 := gq (List.mem_of_getElem? (i := 481) (by decide +kernel)) rfl
theorem im_yX7_requireCompleteText : Cond.instanceMethod yX7_requireCompleteText ∈ G0 := gq (List.mem_of_getElem? (i := 483) (by decide +kernel)) rfl
theorem cd_yX7_requireCompleteText : Cond.code yX7_requireCompleteText cX7_requireCompleteText 1 none ∈ G0 := gq (List.mem_of_getElem? (i := 484) (by decide +kernel)) rfl
theorem ml_X7_272 : Cond.methodLink RX7 272 yX4_isComplete ∈ G0 := gq (List.mem_of_getElem? (i := 485) (by decide +kernel)) rfl
theorem im_yX4_isComplete : Cond.instanceMethod yX4_isComplete ∈ G0 := gq (List.mem_of_getElem? (i := 486) (by decide +kernel)) rfl
theorem se_yX4_isComplete : Cond.selects RX4 yX4_isComplete yX4_isComplete ∈ G0 := gq (List.mem_of_getElem? (i := 487) (by decide +kernel)) rfl
theorem cd_yX4_isComplete : Cond.code yX4_isComplete cX4_isComplete 1 (some (FieldType.boolean)) ∈ G0 := gq (List.mem_of_getElem? (i := 488) (by decide +kernel)) rfl
theorem ml_X7_59 : Cond.methodLink RX7 59 yX2_saveState ∈ G0 := gq (List.mem_of_getElem? (i := 505) (by decide +kernel)) rfl
theorem im_yX2_saveState : Cond.instanceMethod yX2_saveState ∈ G0 := gq (List.mem_of_getElem? (i := 506) (by decide +kernel)) rfl
theorem se_yX2_saveState : Cond.selects RX2 yX2_saveState yX2_saveState ∈ G0 := gq (List.mem_of_getElem? (i := 507) (by decide +kernel)) rfl
theorem cd_yX2_saveState : Cond.code yX2_saveState cX2_saveState 2 none ∈ G0 := gq (List.mem_of_getElem? (i := 508) (by decide +kernel)) rfl
theorem ml_X2_27 : Cond.methodLink RX2 27 yX2_copyInto ∈ G0 := gq (List.mem_of_getElem? (i := 509) (by decide +kernel)) rfl
theorem sm_yX2_copyInto : Cond.static yX2_copyInto ∈ G0 := gq (List.mem_of_getElem? (i := 510) (by decide +kernel)) rfl
theorem cd_yX2_copyInto : Cond.code yX2_copyInto cX2_copyInto 4 none ∈ G0 := gq (List.mem_of_getElem? (i := 511) (by decide +kernel)) rfl
theorem ml_X2_31 : Cond.methodLink RX2 31 yX5_copyFrom ∈ G0 := gq (List.mem_of_getElem? (i := 513) (by decide +kernel)) rfl
theorem im_yX5_copyFrom : Cond.instanceMethod yX5_copyFrom ∈ G0 := gq (List.mem_of_getElem? (i := 514) (by decide +kernel)) rfl
theorem se_yX5_copyFrom : Cond.selects RX5 yX5_copyFrom yX5_copyFrom ∈ G0 := gq (List.mem_of_getElem? (i := 515) (by decide +kernel)) rfl
theorem cd_yX5_copyFrom : Cond.code yX5_copyFrom cX5_copyFrom 3 none ∈ G0 := gq (List.mem_of_getElem? (i := 516) (by decide +kernel)) rfl
theorem cl_X7_63 : Cond.classLink RX7 63 RX6 ∈ G0 := gq (List.mem_of_getElem? (i := 517) (by decide +kernel)) rfl
theorem ins_X6 : Cond.instantiable RX6 7 ∈ G0 := gq (List.mem_of_getElem? (i := 518) (by decide +kernel)) rfl
theorem ml_X7_65 : Cond.methodLink RX7 65 yX7_copyOfBuffer ∈ G0 := gq (List.mem_of_getElem? (i := 519) (by decide +kernel)) rfl
theorem im_yX7_copyOfBuffer : Cond.instanceMethod yX7_copyOfBuffer ∈ G0 := gq (List.mem_of_getElem? (i := 521) (by decide +kernel)) rfl
theorem cd_yX7_copyOfBuffer : Cond.code yX7_copyOfBuffer cX7_copyOfBuffer 1 (some ((FieldType.array FieldType.int))) ∈ G0 := gq (List.mem_of_getElem? (i := 522) (by decide +kernel)) rfl
theorem ml_X7_138 : Cond.methodLink RX7 138 yJ9_min_7cf53 ∈ G0 := gq (List.mem_of_getElem? (i := 523) (by decide +kernel)) rfl
theorem sm_yJ9_min_7cf53 : Cond.static yJ9_min_7cf53 ∈ G0 := gq (List.mem_of_getElem? (i := 524) (by decide +kernel)) rfl
theorem cd_yJ9_min_7cf53 : Cond.code yJ9_min_7cf53 cJ9_min_7cf53 2 (some (FieldType.int)) ∈ G0 := gq (List.mem_of_getElem? (i := 525) (by decide +kernel)) rfl
theorem ml_X7_263 : Cond.methodLink RX7 263 yJ9_max_7cf53 ∈ G0 := gq (List.mem_of_getElem? (i := 526) (by decide +kernel)) rfl
theorem ml_X7_266 : Cond.methodLink RX7 266 yJ7_copyOf_59c91 ∈ G0 := gq (List.mem_of_getElem? (i := 527) (by decide +kernel)) rfl
theorem sm_yJ7_copyOf_59c91 : Cond.static yJ7_copyOf_59c91 ∈ G0 := gq (List.mem_of_getElem? (i := 528) (by decide +kernel)) rfl
theorem cd_yJ7_copyOf_59c91 : Cond.code yJ7_copyOf_59c91 cJ7_copyOf_59c91 3 (some ((FieldType.array FieldType.int))) ∈ G0 := gq (List.mem_of_getElem? (i := 529) (by decide +kernel)) rfl
theorem ml_J7_304 : Cond.methodLink RJ7 304 yJ9_min_7cf53 ∈ G0 := gq (List.mem_of_getElem? (i := 537) (by decide +kernel)) rfl
theorem ml_X7_69 : Cond.methodLink RX7 69 yX6_init ∈ G0 := gq (List.mem_of_getElem? (i := 541) (by decide +kernel)) rfl
theorem im_yX6_init : Cond.instanceMethod yX6_init ∈ G0 := gq (List.mem_of_getElem? (i := 542) (by decide +kernel)) rfl
theorem cd_yX6_init : Cond.code yX6_init cX6_init 3 none ∈ G0 := gq (List.mem_of_getElem? (i := 543) (by decide +kernel)) rfl
theorem ml_X6_1 : Cond.methodLink RX6 1 objectInit ∈ G0 := gq (List.mem_of_getElem? (i := 544) (by decide +kernel)) rfl
theorem fl_X6_7 : Cond.fieldLink RX6 7 RX6 (TX6 0).2.1 (TX6 0).2.2.1 ∈ G0 := gq (List.mem_of_getElem? (i := 545) (by decide +kernel)) rfl
theorem fl_X7_137 : Cond.fieldLink RX7 137 RX6 (TX6 0).2.1 (TX6 0).2.2.1 ∈ G0 := gq (List.mem_of_getElem? (i := 546) (by decide +kernel)) rfl
theorem fl_X1_145 : Cond.fieldLink RX1 145 RX6 (TX6 0).2.1 (TX6 0).2.2.1 ∈ G0 := gq (List.mem_of_getElem? (i := 547) (by decide +kernel)) rfl
theorem fl_X6_19 : Cond.fieldLink RX6 19 RX6 (TX6 1).2.1 (TX6 1).2.2.1 ∈ G0 := gq (List.mem_of_getElem? (i := 548) (by decide +kernel)) rfl
theorem fl_X7_76 : Cond.fieldLink RX7 76 RX6 (TX6 1).2.1 (TX6 1).2.2.1 ∈ G0 := gq (List.mem_of_getElem? (i := 549) (by decide +kernel)) rfl
theorem fl_X5_53 : Cond.fieldLink RX5 53 RX6 (TX6 1).2.1 (TX6 1).2.2.1 ∈ G0 := gq (List.mem_of_getElem? (i := 550) (by decide +kernel)) rfl
theorem fl_X6_23 : Cond.fieldLink RX6 23 RX6 (TX6 2).2.1 (TX6 2).2.2.1 ∈ G0 := gq (List.mem_of_getElem? (i := 551) (by decide +kernel)) rfl
theorem fl_X5_50 : Cond.fieldLink RX5 50 RX6 (TX6 2).2.1 (TX6 2).2.2.1 ∈ G0 := gq (List.mem_of_getElem? (i := 552) (by decide +kernel)) rfl
theorem fl_X7_173 : Cond.fieldLink RX7 173 RX6 (TX6 2).2.1 (TX6 2).2.2.1 ∈ G0 := gq (List.mem_of_getElem? (i := 553) (by decide +kernel)) rfl
theorem fl_X6_27 : Cond.fieldLink RX6 27 RX6 (TX6 3).2.1 (TX6 3).2.2.1 ∈ G0 := gq (List.mem_of_getElem? (i := 554) (by decide +kernel)) rfl
theorem fl_X7_176 : Cond.fieldLink RX7 176 RX6 (TX6 3).2.1 (TX6 3).2.2.1 ∈ G0 := gq (List.mem_of_getElem? (i := 555) (by decide +kernel)) rfl
theorem fl_X6_31 : Cond.fieldLink RX6 31 RX6 (TX6 4).2.1 (TX6 4).2.2.1 ∈ G0 := gq (List.mem_of_getElem? (i := 556) (by decide +kernel)) rfl
theorem fl_X7_179 : Cond.fieldLink RX7 179 RX6 (TX6 4).2.1 (TX6 4).2.2.1 ∈ G0 := gq (List.mem_of_getElem? (i := 557) (by decide +kernel)) rfl
theorem fl_X6_35 : Cond.fieldLink RX6 35 RX6 (TX6 5).2.1 (TX6 5).2.2.1 ∈ G0 := gq (List.mem_of_getElem? (i := 558) (by decide +kernel)) rfl
theorem fl_X7_182 : Cond.fieldLink RX7 182 RX6 (TX6 5).2.1 (TX6 5).2.2.1 ∈ G0 := gq (List.mem_of_getElem? (i := 559) (by decide +kernel)) rfl
theorem fl_X6_39 : Cond.fieldLink RX6 39 RX6 (TX6 6).2.1 (TX6 6).2.2.1 ∈ G0 := gq (List.mem_of_getElem? (i := 560) (by decide +kernel)) rfl
theorem fl_X0_32 : Cond.fieldLink RX0 32 RX6 (TX6 6).2.1 (TX6 6).2.2.1 ∈ G0 := gq (List.mem_of_getElem? (i := 561) (by decide +kernel)) rfl
theorem ml_X7_72 : Cond.methodLink RX7 72 yX5_putDefinition ∈ G0 := gq (List.mem_of_getElem? (i := 577) (by decide +kernel)) rfl
theorem im_yX5_putDefinition : Cond.instanceMethod yX5_putDefinition ∈ G0 := gq (List.mem_of_getElem? (i := 578) (by decide +kernel)) rfl
theorem se_yX5_putDefinition : Cond.selects RX5 yX5_putDefinition yX5_putDefinition ∈ G0 := gq (List.mem_of_getElem? (i := 579) (by decide +kernel)) rfl
theorem cd_yX5_putDefinition : Cond.code yX5_putDefinition cX5_putDefinition 3 none ∈ G0 := gq (List.mem_of_getElem? (i := 580) (by decide +kernel)) rfl
theorem ml_L_88 : Cond.methodLink RL 88 yL_remove ∈ G0 := gq (List.mem_of_getElem? (i := 581) (by decide +kernel)) rfl
theorem sm_yL_remove : Cond.static yL_remove ∈ G0 := gq (List.mem_of_getElem? (i := 582) (by decide +kernel)) rfl
theorem ml_L_17 : Cond.methodLink RL 17 yX7_remove ∈ G0 := gq (List.mem_of_getElem? (i := 585) (by decide +kernel)) rfl
theorem im_yX7_remove : Cond.instanceMethod yX7_remove ∈ G0 := gq (List.mem_of_getElem? (i := 586) (by decide +kernel)) rfl
theorem se_yX7_remove : Cond.selects RX7 yX7_remove yX7_remove ∈ G0 := gq (List.mem_of_getElem? (i := 587) (by decide +kernel)) rfl
theorem cd_yX7_remove : Cond.code yX7_remove cX7_remove 2 (some (FieldType.int)) ∈ G0 := gq (List.mem_of_getElem? (i := 588) (by decide +kernel)) rfl
theorem ml_X7_79 : Cond.methodLink RX7 79 yX7_requireDefinition ∈ G0 := gq (List.mem_of_getElem? (i := 589) (by decide +kernel)) rfl
theorem im_yX7_requireDefinition : Cond.instanceMethod yX7_requireDefinition ∈ G0 := gq (List.mem_of_getElem? (i := 591) (by decide +kernel)) rfl
theorem cd_yX7_requireDefinition : Cond.code yX7_requireDefinition cX7_requireDefinition 3 (some ((FieldType.object "AbbreviationBook$Text"))) ∈ G0 := gq (List.mem_of_getElem? (i := 592) (by decide +kernel)) rfl
theorem ml_X7_87 : Cond.methodLink RX7 87 yX5_definitionOf ∈ G0 := gq (List.mem_of_getElem? (i := 593) (by decide +kernel)) rfl
theorem ml_L_91 : Cond.methodLink RL 91 yL_exchange ∈ G0 := gq (List.mem_of_getElem? (i := 610) (by decide +kernel)) rfl
theorem sm_yL_exchange : Cond.static yL_exchange ∈ G0 := gq (List.mem_of_getElem? (i := 611) (by decide +kernel)) rfl
theorem ml_L_22 : Cond.methodLink RL 22 yX7_exchange ∈ G0 := gq (List.mem_of_getElem? (i := 613) (by decide +kernel)) rfl
theorem im_yX7_exchange : Cond.instanceMethod yX7_exchange ∈ G0 := gq (List.mem_of_getElem? (i := 614) (by decide +kernel)) rfl
theorem se_yX7_exchange : Cond.selects RX7 yX7_exchange yX7_exchange ∈ G0 := gq (List.mem_of_getElem? (i := 615) (by decide +kernel)) rfl
theorem cd_yX7_exchange : Cond.code yX7_exchange cX7_exchange 5 (some (FieldType.int)) ∈ G0 := gq (List.mem_of_getElem? (i := 616) (by decide +kernel)) rfl
theorem ml_L_95 : Cond.methodLink RL 95 yL_set ∈ G0 := gq (List.mem_of_getElem? (i := 617) (by decide +kernel)) rfl
theorem sm_yL_set : Cond.static yL_set ∈ G0 := gq (List.mem_of_getElem? (i := 618) (by decide +kernel)) rfl
theorem ml_L_26 : Cond.methodLink RL 26 yX7_set ∈ G0 := gq (List.mem_of_getElem? (i := 620) (by decide +kernel)) rfl
theorem im_yX7_set : Cond.instanceMethod yX7_set ∈ G0 := gq (List.mem_of_getElem? (i := 621) (by decide +kernel)) rfl
theorem se_yX7_set : Cond.selects RX7 yX7_set yX7_set ∈ G0 := gq (List.mem_of_getElem? (i := 622) (by decide +kernel)) rfl
theorem cd_yX7_set : Cond.code yX7_set cX7_set 3 (some (FieldType.int)) ∈ G0 := gq (List.mem_of_getElem? (i := 623) (by decide +kernel)) rfl
theorem ml_L_98 : Cond.methodLink RL 98 yL_expand ∈ G0 := gq (List.mem_of_getElem? (i := 625) (by decide +kernel)) rfl
theorem sm_yL_expand : Cond.static yL_expand ∈ G0 := gq (List.mem_of_getElem? (i := 626) (by decide +kernel)) rfl
theorem ml_L_29 : Cond.methodLink RL 29 yX7_expand ∈ G0 := gq (List.mem_of_getElem? (i := 628) (by decide +kernel)) rfl
theorem im_yX7_expand : Cond.instanceMethod yX7_expand ∈ G0 := gq (List.mem_of_getElem? (i := 629) (by decide +kernel)) rfl
theorem se_yX7_expand : Cond.selects RX7 yX7_expand yX7_expand ∈ G0 := gq (List.mem_of_getElem? (i := 630) (by decide +kernel)) rfl
theorem cd_yX7_expand : Cond.code yX7_expand cX7_expand 1 (some (FieldType.int)) ∈ G0 := gq (List.mem_of_getElem? (i := 631) (by decide +kernel)) rfl
theorem ml_X7_100 : Cond.methodLink RX7 100 yX1_writeResult ∈ G0 := gq (List.mem_of_getElem? (i := 632) (by decide +kernel)) rfl
theorem im_yX1_writeResult : Cond.instanceMethod yX1_writeResult ∈ G0 := gq (List.mem_of_getElem? (i := 633) (by decide +kernel)) rfl
theorem se_yX1_writeResult : Cond.selects RX1 yX1_writeResult yX1_writeResult ∈ G0 := gq (List.mem_of_getElem? (i := 634) (by decide +kernel)) rfl
theorem cd_yX1_writeResult : Cond.code yX1_writeResult cX1_writeResult 4 (some (FieldType.boolean)) ∈ G0 := gq (List.mem_of_getElem? (i := 635) (by decide +kernel)) rfl
theorem ml_X1_56 : Cond.methodLink RX1 56 yX1_startOver ∈ G0 := gq (List.mem_of_getElem? (i := 636) (by decide +kernel)) rfl
theorem im_yX1_startOver : Cond.instanceMethod yX1_startOver ∈ G0 := gq (List.mem_of_getElem? (i := 638) (by decide +kernel)) rfl
theorem cd_yX1_startOver : Cond.code yX1_startOver cX1_startOver 2 none ∈ G0 := gq (List.mem_of_getElem? (i := 639) (by decide +kernel)) rfl
theorem ml_X1_60 : Cond.methodLink RX1 60 yX1_setMark ∈ G0 := gq (List.mem_of_getElem? (i := 640) (by decide +kernel)) rfl
theorem im_yX1_setMark : Cond.instanceMethod yX1_setMark ∈ G0 := gq (List.mem_of_getElem? (i := 642) (by decide +kernel)) rfl
theorem cd_yX1_setMark : Cond.code yX1_setMark cX1_setMark 1 none ∈ G0 := gq (List.mem_of_getElem? (i := 643) (by decide +kernel)) rfl
theorem ml_X1_63 : Cond.methodLink RX1 63 yX1_writeText ∈ G0 := gq (List.mem_of_getElem? (i := 644) (by decide +kernel)) rfl
theorem im_yX1_writeText : Cond.instanceMethod yX1_writeText ∈ G0 := gq (List.mem_of_getElem? (i := 646) (by decide +kernel)) rfl
theorem cd_yX1_writeText : Cond.code yX1_writeText cX1_writeText 10 none ∈ G0 := gq (List.mem_of_getElem? (i := 647) (by decide +kernel)) rfl
theorem ml_X1_95 : Cond.methodLink RX1 95 yX1_fillHole ∈ G0 := gq (List.mem_of_getElem? (i := 648) (by decide +kernel)) rfl
theorem im_yX1_fillHole : Cond.instanceMethod yX1_fillHole ∈ G0 := gq (List.mem_of_getElem? (i := 650) (by decide +kernel)) rfl
theorem cd_yX1_fillHole : Cond.code yX1_fillHole cX1_fillHole 6 none ∈ G0 := gq (List.mem_of_getElem? (i := 651) (by decide +kernel)) rfl
theorem ml_X1_103 : Cond.methodLink RX1 103 yX1_writeSign ∈ G0 := gq (List.mem_of_getElem? (i := 652) (by decide +kernel)) rfl
theorem im_yX1_writeSign : Cond.instanceMethod yX1_writeSign ∈ G0 := gq (List.mem_of_getElem? (i := 654) (by decide +kernel)) rfl
theorem cd_yX1_writeSign : Cond.code yX1_writeSign cX1_writeSign 2 none ∈ G0 := gq (List.mem_of_getElem? (i := 655) (by decide +kernel)) rfl
theorem ml_X1_129 : Cond.methodLink RX1 129 yX1_takesMore ∈ G0 := gq (List.mem_of_getElem? (i := 656) (by decide +kernel)) rfl
theorem im_yX1_takesMore : Cond.instanceMethod yX1_takesMore ∈ G0 := gq (List.mem_of_getElem? (i := 658) (by decide +kernel)) rfl
theorem cd_yX1_takesMore : Cond.code yX1_takesMore cX1_takesMore 4 (some (FieldType.boolean)) ∈ G0 := gq (List.mem_of_getElem? (i := 659) (by decide +kernel)) rfl
theorem ml_X1_106 : Cond.methodLink RX1 106 yX1_markAt ∈ G0 := gq (List.mem_of_getElem? (i := 660) (by decide +kernel)) rfl
theorem im_yX1_markAt : Cond.instanceMethod yX1_markAt ∈ G0 := gq (List.mem_of_getElem? (i := 662) (by decide +kernel)) rfl
theorem cd_yX1_markAt : Cond.code yX1_markAt cX1_markAt 2 (some (FieldType.int)) ∈ G0 := gq (List.mem_of_getElem? (i := 663) (by decide +kernel)) rfl
theorem ml_X1_110 : Cond.methodLink RX1 110 yX1_writeCopy ∈ G0 := gq (List.mem_of_getElem? (i := 664) (by decide +kernel)) rfl
theorem im_yX1_writeCopy : Cond.instanceMethod yX1_writeCopy ∈ G0 := gq (List.mem_of_getElem? (i := 666) (by decide +kernel)) rfl
theorem cd_yX1_writeCopy : Cond.code yX1_writeCopy cX1_writeCopy 3 none ∈ G0 := gq (List.mem_of_getElem? (i := 667) (by decide +kernel)) rfl
theorem ml_X1_125 : Cond.methodLink RX1 125 yX1_moveSigns ∈ G0 := gq (List.mem_of_getElem? (i := 668) (by decide +kernel)) rfl
theorem im_yX1_moveSigns : Cond.instanceMethod yX1_moveSigns ∈ G0 := gq (List.mem_of_getElem? (i := 670) (by decide +kernel)) rfl
theorem cd_yX1_moveSigns : Cond.code yX1_moveSigns cX1_moveSigns 5 none ∈ G0 := gq (List.mem_of_getElem? (i := 671) (by decide +kernel)) rfl
theorem ml_X1_87 : Cond.methodLink RX1 87 yX1_letCallWait ∈ G0 := gq (List.mem_of_getElem? (i := 673) (by decide +kernel)) rfl
theorem im_yX1_letCallWait : Cond.instanceMethod yX1_letCallWait ∈ G0 := gq (List.mem_of_getElem? (i := 675) (by decide +kernel)) rfl
theorem cd_yX1_letCallWait : Cond.code yX1_letCallWait cX1_letCallWait 2 none ∈ G0 := gq (List.mem_of_getElem? (i := 676) (by decide +kernel)) rfl
theorem ml_X1_91 : Cond.methodLink RX1 91 yX1_finishCall ∈ G0 := gq (List.mem_of_getElem? (i := 677) (by decide +kernel)) rfl
theorem im_yX1_finishCall : Cond.instanceMethod yX1_finishCall ∈ G0 := gq (List.mem_of_getElem? (i := 679) (by decide +kernel)) rfl
theorem cd_yX1_finishCall : Cond.code yX1_finishCall cX1_finishCall 11 none ∈ G0 := gq (List.mem_of_getElem? (i := 680) (by decide +kernel)) rfl
theorem ml_X1_114 : Cond.methodLink RX1 114 yX1_endingOf ∈ G0 := gq (List.mem_of_getElem? (i := 681) (by decide +kernel)) rfl
theorem im_yX1_endingOf : Cond.instanceMethod yX1_endingOf ∈ G0 := gq (List.mem_of_getElem? (i := 683) (by decide +kernel)) rfl
theorem cd_yX1_endingOf : Cond.code yX1_endingOf cX1_endingOf 4 (some (FieldType.int)) ∈ G0 := gq (List.mem_of_getElem? (i := 684) (by decide +kernel)) rfl
theorem ml_X1_136 : Cond.methodLink RX1 136 yX5_definitionOf ∈ G0 := gq (List.mem_of_getElem? (i := 685) (by decide +kernel)) rfl
theorem ml_X1_118 : Cond.methodLink RX1 118 yX1_writeBody ∈ G0 := gq (List.mem_of_getElem? (i := 686) (by decide +kernel)) rfl
theorem im_yX1_writeBody : Cond.instanceMethod yX1_writeBody ∈ G0 := gq (List.mem_of_getElem? (i := 688) (by decide +kernel)) rfl
theorem cd_yX1_writeBody : Cond.code yX1_writeBody cX1_writeBody 7 none ∈ G0 := gq (List.mem_of_getElem? (i := 689) (by decide +kernel)) rfl
theorem ml_X1_73 : Cond.methodLink RX1 73 yJ9_max_7cf53 ∈ G0 := gq (List.mem_of_getElem? (i := 690) (by decide +kernel)) rfl
theorem ml_X1_122 : Cond.methodLink RX1 122 yX1_signOf ∈ G0 := gq (List.mem_of_getElem? (i := 691) (by decide +kernel)) rfl
theorem sm_yX1_signOf : Cond.static yX1_signOf ∈ G0 := gq (List.mem_of_getElem? (i := 692) (by decide +kernel)) rfl
theorem cd_yX1_signOf : Cond.code yX1_signOf cX1_signOf 1 (some (FieldType.int)) ∈ G0 := gq (List.mem_of_getElem? (i := 693) (by decide +kernel)) rfl
theorem ml_X1_132 : Cond.methodLink RX1 132 yX1_listCall ∈ G0 := gq (List.mem_of_getElem? (i := 694) (by decide +kernel)) rfl
theorem im_yX1_listCall : Cond.instanceMethod yX1_listCall ∈ G0 := gq (List.mem_of_getElem? (i := 696) (by decide +kernel)) rfl
theorem cd_yX1_listCall : Cond.code yX1_listCall cX1_listCall 8 none ∈ G0 := gq (List.mem_of_getElem? (i := 697) (by decide +kernel)) rfl
theorem ml_X7_107 : Cond.methodLink RX7 107 yX1_makeOutcome ∈ G0 := gq (List.mem_of_getElem? (i := 698) (by decide +kernel)) rfl
theorem im_yX1_makeOutcome : Cond.instanceMethod yX1_makeOutcome ∈ G0 := gq (List.mem_of_getElem? (i := 699) (by decide +kernel)) rfl
theorem se_yX1_makeOutcome : Cond.selects RX1 yX1_makeOutcome yX1_makeOutcome ∈ G0 := gq (List.mem_of_getElem? (i := 700) (by decide +kernel)) rfl
theorem cd_yX1_makeOutcome : Cond.code yX1_makeOutcome cX1_makeOutcome 3 (some ((FieldType.object "AbbreviationBook$Outcome"))) ∈ G0 := gq (List.mem_of_getElem? (i := 701) (by decide +kernel)) rfl
theorem ml_X1_67 : Cond.methodLink RX1 67 yJ9_min_7cf53 ∈ G0 := gq (List.mem_of_getElem? (i := 702) (by decide +kernel)) rfl
theorem cl_X1_76 : Cond.classLink RX1 76 RX3 ∈ G0 := gq (List.mem_of_getElem? (i := 703) (by decide +kernel)) rfl
theorem ml_X1_78 : Cond.methodLink RX1 78 yJ7_copyOf_59c91 ∈ G0 := gq (List.mem_of_getElem? (i := 704) (by decide +kernel)) rfl
theorem ml_X1_84 : Cond.methodLink RX1 84 yX3_init ∈ G0 := gq (List.mem_of_getElem? (i := 705) (by decide +kernel)) rfl
theorem ml_L_102 : Cond.methodLink RL 102 yL_append ∈ G0 := gq (List.mem_of_getElem? (i := 706) (by decide +kernel)) rfl
theorem sm_yL_append : Cond.static yL_append ∈ G0 := gq (List.mem_of_getElem? (i := 707) (by decide +kernel)) rfl
theorem ml_L_33 : Cond.methodLink RL 33 yX7_append ∈ G0 := gq (List.mem_of_getElem? (i := 709) (by decide +kernel)) rfl
theorem im_yX7_append : Cond.instanceMethod yX7_append ∈ G0 := gq (List.mem_of_getElem? (i := 710) (by decide +kernel)) rfl
theorem se_yX7_append : Cond.selects RX7 yX7_append yX7_append ∈ G0 := gq (List.mem_of_getElem? (i := 711) (by decide +kernel)) rfl
theorem cd_yX7_append : Cond.code yX7_append cX7_append 2 (some (FieldType.int)) ∈ G0 := gq (List.mem_of_getElem? (i := 712) (by decide +kernel)) rfl
theorem ml_L_113 : Cond.methodLink RL 113 yL_load ∈ G0 := gq (List.mem_of_getElem? (i := 715) (by decide +kernel)) rfl
theorem sm_yL_load : Cond.static yL_load ∈ G0 := gq (List.mem_of_getElem? (i := 716) (by decide +kernel)) rfl
theorem ml_L_36 : Cond.methodLink RL 36 yX7_load ∈ G0 := gq (List.mem_of_getElem? (i := 718) (by decide +kernel)) rfl
theorem im_yX7_load : Cond.instanceMethod yX7_load ∈ G0 := gq (List.mem_of_getElem? (i := 719) (by decide +kernel)) rfl
theorem se_yX7_load : Cond.selects RX7 yX7_load yX7_load ∈ G0 := gq (List.mem_of_getElem? (i := 720) (by decide +kernel)) rfl
theorem cd_yX7_load : Cond.code yX7_load cX7_load 5 (some (FieldType.int)) ∈ G0 := gq (List.mem_of_getElem? (i := 721) (by decide +kernel)) rfl
theorem ml_L_116 : Cond.methodLink RL 116 yL_undo ∈ G0 := gq (List.mem_of_getElem? (i := 722) (by decide +kernel)) rfl
theorem sm_yL_undo : Cond.static yL_undo ∈ G0 := gq (List.mem_of_getElem? (i := 723) (by decide +kernel)) rfl
theorem ml_L_39 : Cond.methodLink RL 39 yX7_undo ∈ G0 := gq (List.mem_of_getElem? (i := 725) (by decide +kernel)) rfl
theorem im_yX7_undo : Cond.instanceMethod yX7_undo ∈ G0 := gq (List.mem_of_getElem? (i := 726) (by decide +kernel)) rfl
theorem se_yX7_undo : Cond.selects RX7 yX7_undo yX7_undo ∈ G0 := gq (List.mem_of_getElem? (i := 727) (by decide +kernel)) rfl
theorem cd_yX7_undo : Cond.code yX7_undo cX7_undo 1 (some (FieldType.int)) ∈ G0 := gq (List.mem_of_getElem? (i := 728) (by decide +kernel)) rfl
theorem ml_X7_144 : Cond.methodLink RX7 144 yX2_restoreSaved ∈ G0 := gq (List.mem_of_getElem? (i := 729) (by decide +kernel)) rfl
theorem im_yX2_restoreSaved : Cond.instanceMethod yX2_restoreSaved ∈ G0 := gq (List.mem_of_getElem? (i := 730) (by decide +kernel)) rfl
theorem se_yX2_restoreSaved : Cond.selects RX2 yX2_restoreSaved yX2_restoreSaved ∈ G0 := gq (List.mem_of_getElem? (i := 731) (by decide +kernel)) rfl
theorem cd_yX2_restoreSaved : Cond.code yX2_restoreSaved cX2_restoreSaved 3 (some (FieldType.boolean)) ∈ G0 := gq (List.mem_of_getElem? (i := 732) (by decide +kernel)) rfl
theorem ml_L_119 : Cond.methodLink RL 119 yL_keep ∈ G0 := gq (List.mem_of_getElem? (i := 734) (by decide +kernel)) rfl
theorem sm_yL_keep : Cond.static yL_keep ∈ G0 := gq (List.mem_of_getElem? (i := 735) (by decide +kernel)) rfl
theorem ml_L_42 : Cond.methodLink RL 42 yX7_keep ∈ G0 := gq (List.mem_of_getElem? (i := 737) (by decide +kernel)) rfl
theorem im_yX7_keep : Cond.instanceMethod yX7_keep ∈ G0 := gq (List.mem_of_getElem? (i := 738) (by decide +kernel)) rfl
theorem se_yX7_keep : Cond.selects RX7 yX7_keep yX7_keep ∈ G0 := gq (List.mem_of_getElem? (i := 739) (by decide +kernel)) rfl
theorem cd_yX7_keep : Cond.code yX7_keep cX7_keep 2 (some (FieldType.int)) ∈ G0 := gq (List.mem_of_getElem? (i := 740) (by decide +kernel)) rfl
theorem ml_X7_153 : Cond.methodLink RX7 153 yX7_requireSlot ∈ G0 := gq (List.mem_of_getElem? (i := 741) (by decide +kernel)) rfl
theorem sm_yX7_requireSlot : Cond.static yX7_requireSlot ∈ G0 := gq (List.mem_of_getElem? (i := 742) (by decide +kernel)) rfl
theorem cd_yX7_requireSlot : Cond.code yX7_requireSlot cX7_requireSlot 1 none ∈ G0 := gq (List.mem_of_getElem? (i := 743) (by decide +kernel)) rfl
theorem ml_X7_156 : Cond.methodLink RX7 156 yX2_takeSnapshot ∈ G0 := gq (List.mem_of_getElem? (i := 745) (by decide +kernel)) rfl
theorem im_yX2_takeSnapshot : Cond.instanceMethod yX2_takeSnapshot ∈ G0 := gq (List.mem_of_getElem? (i := 746) (by decide +kernel)) rfl
theorem se_yX2_takeSnapshot : Cond.selects RX2 yX2_takeSnapshot yX2_takeSnapshot ∈ G0 := gq (List.mem_of_getElem? (i := 747) (by decide +kernel)) rfl
theorem cd_yX2_takeSnapshot : Cond.code yX2_takeSnapshot cX2_takeSnapshot 3 none ∈ G0 := gq (List.mem_of_getElem? (i := 748) (by decide +kernel)) rfl
theorem ml_L_122 : Cond.methodLink RL 122 yL_goBack ∈ G0 := gq (List.mem_of_getElem? (i := 749) (by decide +kernel)) rfl
theorem sm_yL_goBack : Cond.static yL_goBack ∈ G0 := gq (List.mem_of_getElem? (i := 750) (by decide +kernel)) rfl
theorem ml_L_45 : Cond.methodLink RL 45 yX7_goBack ∈ G0 := gq (List.mem_of_getElem? (i := 752) (by decide +kernel)) rfl
theorem im_yX7_goBack : Cond.instanceMethod yX7_goBack ∈ G0 := gq (List.mem_of_getElem? (i := 753) (by decide +kernel)) rfl
theorem se_yX7_goBack : Cond.selects RX7 yX7_goBack yX7_goBack ∈ G0 := gq (List.mem_of_getElem? (i := 754) (by decide +kernel)) rfl
theorem cd_yX7_goBack : Cond.code yX7_goBack cX7_goBack 3 (some (FieldType.int)) ∈ G0 := gq (List.mem_of_getElem? (i := 755) (by decide +kernel)) rfl
theorem ml_X7_160 : Cond.methodLink RX7 160 yX2_snapshotIn ∈ G0 := gq (List.mem_of_getElem? (i := 756) (by decide +kernel)) rfl
theorem im_yX2_snapshotIn : Cond.instanceMethod yX2_snapshotIn ∈ G0 := gq (List.mem_of_getElem? (i := 757) (by decide +kernel)) rfl
theorem se_yX2_snapshotIn : Cond.selects RX2 yX2_snapshotIn yX2_snapshotIn ∈ G0 := gq (List.mem_of_getElem? (i := 758) (by decide +kernel)) rfl
theorem cd_yX2_snapshotIn : Cond.code yX2_snapshotIn cX2_snapshotIn 2 (some ((FieldType.object "AbbreviationBook$State"))) ∈ G0 := gq (List.mem_of_getElem? (i := 759) (by decide +kernel)) rfl
theorem ml_X7_166 : Cond.methodLink RX7 166 yX5_copyFrom ∈ G0 := gq (List.mem_of_getElem? (i := 761) (by decide +kernel)) rfl
theorem ml_L_125 : Cond.methodLink RL 125 yL_body ∈ G0 := gq (List.mem_of_getElem? (i := 762) (by decide +kernel)) rfl
theorem sm_yL_body : Cond.static yL_body ∈ G0 := gq (List.mem_of_getElem? (i := 763) (by decide +kernel)) rfl
theorem ml_L_48 : Cond.methodLink RL 48 yX7_body ∈ G0 := gq (List.mem_of_getElem? (i := 765) (by decide +kernel)) rfl
theorem im_yX7_body : Cond.instanceMethod yX7_body ∈ G0 := gq (List.mem_of_getElem? (i := 766) (by decide +kernel)) rfl
theorem se_yX7_body : Cond.selects RX7 yX7_body yX7_body ∈ G0 := gq (List.mem_of_getElem? (i := 767) (by decide +kernel)) rfl
theorem cd_yX7_body : Cond.code yX7_body cX7_body 4 (some (FieldType.int)) ∈ G0 := gq (List.mem_of_getElem? (i := 768) (by decide +kernel)) rfl
theorem ml_X7_169 : Cond.methodLink RX7 169 yX7_requireWhat ∈ G0 := gq (List.mem_of_getElem? (i := 769) (by decide +kernel)) rfl
theorem sm_yX7_requireWhat : Cond.static yX7_requireWhat ∈ G0 := gq (List.mem_of_getElem? (i := 770) (by decide +kernel)) rfl
theorem cd_yX7_requireWhat : Cond.code yX7_requireWhat cX7_requireWhat 2 none ∈ G0 := gq (List.mem_of_getElem? (i := 771) (by decide +kernel)) rfl
theorem ml_L_128 : Cond.methodLink RL 128 yL_uses ∈ G0 := gq (List.mem_of_getElem? (i := 773) (by decide +kernel)) rfl
theorem sm_yL_uses : Cond.static yL_uses ∈ G0 := gq (List.mem_of_getElem? (i := 774) (by decide +kernel)) rfl
theorem ml_L_51 : Cond.methodLink RL 51 yX7_uses ∈ G0 := gq (List.mem_of_getElem? (i := 776) (by decide +kernel)) rfl
theorem im_yX7_uses : Cond.instanceMethod yX7_uses ∈ G0 := gq (List.mem_of_getElem? (i := 777) (by decide +kernel)) rfl
theorem se_yX7_uses : Cond.selects RX7 yX7_uses yX7_uses ∈ G0 := gq (List.mem_of_getElem? (i := 778) (by decide +kernel)) rfl
theorem cd_yX7_uses : Cond.code yX7_uses cX7_uses 3 (some (FieldType.int)) ∈ G0 := gq (List.mem_of_getElem? (i := 779) (by decide +kernel)) rfl
theorem ml_X7_188 : Cond.methodLink RX7 188 yX0_calledBy ∈ G0 := gq (List.mem_of_getElem? (i := 780) (by decide +kernel)) rfl
theorem im_yX0_calledBy : Cond.instanceMethod yX0_calledBy ∈ G0 := gq (List.mem_of_getElem? (i := 781) (by decide +kernel)) rfl
theorem se_yX0_calledBy : Cond.selects RX0 yX0_calledBy yX0_calledBy ∈ G0 := gq (List.mem_of_getElem? (i := 782) (by decide +kernel)) rfl
theorem cd_yX0_calledBy : Cond.code yX0_calledBy cX0_calledBy 2 (some (FieldType.int)) ∈ G0 := gq (List.mem_of_getElem? (i := 783) (by decide +kernel)) rfl
theorem ml_X7_192 : Cond.methodLink RX7 192 yX0_reachedFrom ∈ G0 := gq (List.mem_of_getElem? (i := 784) (by decide +kernel)) rfl
theorem im_yX0_reachedFrom : Cond.instanceMethod yX0_reachedFrom ∈ G0 := gq (List.mem_of_getElem? (i := 785) (by decide +kernel)) rfl
theorem se_yX0_reachedFrom : Cond.selects RX0 yX0_reachedFrom yX0_reachedFrom ∈ G0 := gq (List.mem_of_getElem? (i := 786) (by decide +kernel)) rfl
theorem cd_yX0_reachedFrom : Cond.code yX0_reachedFrom cX0_reachedFrom 2 (some (FieldType.int)) ∈ G0 := gq (List.mem_of_getElem? (i := 787) (by decide +kernel)) rfl
theorem ml_X7_195 : Cond.methodLink RX7 195 yX0_callersOf ∈ G0 := gq (List.mem_of_getElem? (i := 788) (by decide +kernel)) rfl
theorem im_yX0_callersOf : Cond.instanceMethod yX0_callersOf ∈ G0 := gq (List.mem_of_getElem? (i := 789) (by decide +kernel)) rfl
theorem se_yX0_callersOf : Cond.selects RX0 yX0_callersOf yX0_callersOf ∈ G0 := gq (List.mem_of_getElem? (i := 790) (by decide +kernel)) rfl
theorem cd_yX0_callersOf : Cond.code yX0_callersOf cX0_callersOf 4 (some (FieldType.int)) ∈ G0 := gq (List.mem_of_getElem? (i := 791) (by decide +kernel)) rfl
theorem ml_X7_198 : Cond.methodLink RX7 198 yX0_reaching ∈ G0 := gq (List.mem_of_getElem? (i := 792) (by decide +kernel)) rfl
theorem im_yX0_reaching : Cond.instanceMethod yX0_reaching ∈ G0 := gq (List.mem_of_getElem? (i := 793) (by decide +kernel)) rfl
theorem se_yX0_reaching : Cond.selects RX0 yX0_reaching yX0_reaching ∈ G0 := gq (List.mem_of_getElem? (i := 794) (by decide +kernel)) rfl
theorem cd_yX0_reaching : Cond.code yX0_reaching cX0_reaching 4 (some (FieldType.int)) ∈ G0 := gq (List.mem_of_getElem? (i := 795) (by decide +kernel)) rfl
theorem ml_L_139 : Cond.methodLink RL 139 yL_chain ∈ G0 := gq (List.mem_of_getElem? (i := 796) (by decide +kernel)) rfl
theorem sm_yL_chain : Cond.static yL_chain ∈ G0 := gq (List.mem_of_getElem? (i := 797) (by decide +kernel)) rfl
theorem ml_L_54 : Cond.methodLink RL 54 yX7_chain ∈ G0 := gq (List.mem_of_getElem? (i := 799) (by decide +kernel)) rfl
theorem im_yX7_chain : Cond.instanceMethod yX7_chain ∈ G0 := gq (List.mem_of_getElem? (i := 800) (by decide +kernel)) rfl
theorem se_yX7_chain : Cond.selects RX7 yX7_chain yX7_chain ∈ G0 := gq (List.mem_of_getElem? (i := 801) (by decide +kernel)) rfl
theorem cd_yX7_chain : Cond.code yX7_chain cX7_chain 2 (some (FieldType.int)) ∈ G0 := gq (List.mem_of_getElem? (i := 802) (by decide +kernel)) rfl
theorem ml_X7_207 : Cond.methodLink RX7 207 yX0_longestChain ∈ G0 := gq (List.mem_of_getElem? (i := 803) (by decide +kernel)) rfl
theorem im_yX0_longestChain : Cond.instanceMethod yX0_longestChain ∈ G0 := gq (List.mem_of_getElem? (i := 804) (by decide +kernel)) rfl
theorem se_yX0_longestChain : Cond.selects RX0 yX0_longestChain yX0_longestChain ∈ G0 := gq (List.mem_of_getElem? (i := 805) (by decide +kernel)) rfl
theorem cd_yX0_longestChain : Cond.code yX0_longestChain cX0_longestChain 4 (some (FieldType.int)) ∈ G0 := gq (List.mem_of_getElem? (i := 806) (by decide +kernel)) rfl
theorem ml_L_142 : Cond.methodLink RL 142 yL_ifDefined ∈ G0 := gq (List.mem_of_getElem? (i := 807) (by decide +kernel)) rfl
theorem sm_yL_ifDefined : Cond.static yL_ifDefined ∈ G0 := gq (List.mem_of_getElem? (i := 808) (by decide +kernel)) rfl
theorem ml_L_57 : Cond.methodLink RL 57 yX7_ifDefined ∈ G0 := gq (List.mem_of_getElem? (i := 810) (by decide +kernel)) rfl
theorem im_yX7_ifDefined : Cond.instanceMethod yX7_ifDefined ∈ G0 := gq (List.mem_of_getElem? (i := 811) (by decide +kernel)) rfl
theorem se_yX7_ifDefined : Cond.selects RX7 yX7_ifDefined yX7_ifDefined ∈ G0 := gq (List.mem_of_getElem? (i := 812) (by decide +kernel)) rfl
theorem cd_yX7_ifDefined : Cond.code yX7_ifDefined cX7_ifDefined 2 (some (FieldType.int)) ∈ G0 := gq (List.mem_of_getElem? (i := 813) (by decide +kernel)) rfl
theorem ml_X7_213 : Cond.methodLink RX7 213 yX0_tryBody ∈ G0 := gq (List.mem_of_getElem? (i := 814) (by decide +kernel)) rfl
theorem im_yX0_tryBody : Cond.instanceMethod yX0_tryBody ∈ G0 := gq (List.mem_of_getElem? (i := 815) (by decide +kernel)) rfl
theorem se_yX0_tryBody : Cond.selects RX0 yX0_tryBody yX0_tryBody ∈ G0 := gq (List.mem_of_getElem? (i := 816) (by decide +kernel)) rfl
theorem cd_yX0_tryBody : Cond.code yX0_tryBody cX0_tryBody 3 none ∈ G0 := gq (List.mem_of_getElem? (i := 817) (by decide +kernel)) rfl
theorem ml_L_145 : Cond.methodLink RL 145 yL_sign ∈ G0 := gq (List.mem_of_getElem? (i := 818) (by decide +kernel)) rfl
theorem sm_yL_sign : Cond.static yL_sign ∈ G0 := gq (List.mem_of_getElem? (i := 819) (by decide +kernel)) rfl
theorem ml_L_60 : Cond.methodLink RL 60 yX7_sign ∈ G0 := gq (List.mem_of_getElem? (i := 821) (by decide +kernel)) rfl
theorem im_yX7_sign : Cond.instanceMethod yX7_sign ∈ G0 := gq (List.mem_of_getElem? (i := 822) (by decide +kernel)) rfl
theorem se_yX7_sign : Cond.selects RX7 yX7_sign yX7_sign ∈ G0 := gq (List.mem_of_getElem? (i := 823) (by decide +kernel)) rfl
theorem cd_yX7_sign : Cond.code yX7_sign cX7_sign 3 (some (FieldType.int)) ∈ G0 := gq (List.mem_of_getElem? (i := 824) (by decide +kernel)) rfl
theorem ml_L_148 : Cond.methodLink RL 148 yL_result ∈ G0 := gq (List.mem_of_getElem? (i := 826) (by decide +kernel)) rfl
theorem sm_yL_result : Cond.static yL_result ∈ G0 := gq (List.mem_of_getElem? (i := 827) (by decide +kernel)) rfl
theorem ml_L_63 : Cond.methodLink RL 63 yX7_result ∈ G0 := gq (List.mem_of_getElem? (i := 829) (by decide +kernel)) rfl
theorem im_yX7_result : Cond.instanceMethod yX7_result ∈ G0 := gq (List.mem_of_getElem? (i := 830) (by decide +kernel)) rfl
theorem se_yX7_result : Cond.selects RX7 yX7_result yX7_result ∈ G0 := gq (List.mem_of_getElem? (i := 831) (by decide +kernel)) rfl
theorem cd_yX7_result : Cond.code yX7_result cX7_result 3 (some (FieldType.int)) ∈ G0 := gq (List.mem_of_getElem? (i := 832) (by decide +kernel)) rfl
theorem ml_X7_218 : Cond.methodLink RX7 218 yX3_occurrencesOf ∈ G0 := gq (List.mem_of_getElem? (i := 833) (by decide +kernel)) rfl
theorem im_yX3_occurrencesOf : Cond.instanceMethod yX3_occurrencesOf ∈ G0 := gq (List.mem_of_getElem? (i := 834) (by decide +kernel)) rfl
theorem se_yX3_occurrencesOf : Cond.selects RX3 yX3_occurrencesOf yX3_occurrencesOf ∈ G0 := gq (List.mem_of_getElem? (i := 835) (by decide +kernel)) rfl
theorem cd_yX3_occurrencesOf : Cond.code yX3_occurrencesOf cX3_occurrencesOf 4 (some (FieldType.int)) ∈ G0 := gq (List.mem_of_getElem? (i := 836) (by decide +kernel)) rfl
theorem ml_X7_227 : Cond.methodLink RX7 227 yX3_listedCalls ∈ G0 := gq (List.mem_of_getElem? (i := 837) (by decide +kernel)) rfl
theorem im_yX3_listedCalls : Cond.instanceMethod yX3_listedCalls ∈ G0 := gq (List.mem_of_getElem? (i := 838) (by decide +kernel)) rfl
theorem se_yX3_listedCalls : Cond.selects RX3 yX3_listedCalls yX3_listedCalls ∈ G0 := gq (List.mem_of_getElem? (i := 839) (by decide +kernel)) rfl
theorem cd_yX3_listedCalls : Cond.code yX3_listedCalls cX3_listedCalls 1 (some (FieldType.int)) ∈ G0 := gq (List.mem_of_getElem? (i := 840) (by decide +kernel)) rfl
theorem ml_L_151 : Cond.methodLink RL 151 yL_trace ∈ G0 := gq (List.mem_of_getElem? (i := 841) (by decide +kernel)) rfl
theorem sm_yL_trace : Cond.static yL_trace ∈ G0 := gq (List.mem_of_getElem? (i := 842) (by decide +kernel)) rfl
theorem ml_L_66 : Cond.methodLink RL 66 yX7_trace ∈ G0 := gq (List.mem_of_getElem? (i := 844) (by decide +kernel)) rfl
theorem im_yX7_trace : Cond.instanceMethod yX7_trace ∈ G0 := gq (List.mem_of_getElem? (i := 845) (by decide +kernel)) rfl
theorem se_yX7_trace : Cond.selects RX7 yX7_trace yX7_trace ∈ G0 := gq (List.mem_of_getElem? (i := 846) (by decide +kernel)) rfl
theorem cd_yX7_trace : Cond.code yX7_trace cX7_trace 3 (some (FieldType.int)) ∈ G0 := gq (List.mem_of_getElem? (i := 847) (by decide +kernel)) rfl
theorem ml_X7_230 : Cond.methodLink RX7 230 yX3_numberOfCall ∈ G0 := gq (List.mem_of_getElem? (i := 848) (by decide +kernel)) rfl
theorem im_yX3_numberOfCall : Cond.instanceMethod yX3_numberOfCall ∈ G0 := gq (List.mem_of_getElem? (i := 849) (by decide +kernel)) rfl
theorem se_yX3_numberOfCall : Cond.selects RX3 yX3_numberOfCall yX3_numberOfCall ∈ G0 := gq (List.mem_of_getElem? (i := 850) (by decide +kernel)) rfl
theorem cd_yX3_numberOfCall : Cond.code yX3_numberOfCall cX3_numberOfCall 3 (some (FieldType.int)) ∈ G0 := gq (List.mem_of_getElem? (i := 851) (by decide +kernel)) rfl
theorem ml_X3_25 : Cond.methodLink RX3 25 yX3_listedCalls ∈ G0 := gq (List.mem_of_getElem? (i := 852) (by decide +kernel)) rfl
theorem ml_L_154 : Cond.methodLink RL 154 yL_lengthOf ∈ G0 := gq (List.mem_of_getElem? (i := 853) (by decide +kernel)) rfl
theorem sm_yL_lengthOf : Cond.static yL_lengthOf ∈ G0 := gq (List.mem_of_getElem? (i := 854) (by decide +kernel)) rfl
theorem ml_L_69 : Cond.methodLink RL 69 yX7_lengthOf ∈ G0 := gq (List.mem_of_getElem? (i := 856) (by decide +kernel)) rfl
theorem im_yX7_lengthOf : Cond.instanceMethod yX7_lengthOf ∈ G0 := gq (List.mem_of_getElem? (i := 857) (by decide +kernel)) rfl
theorem se_yX7_lengthOf : Cond.selects RX7 yX7_lengthOf yX7_lengthOf ∈ G0 := gq (List.mem_of_getElem? (i := 858) (by decide +kernel)) rfl
theorem cd_yX7_lengthOf : Cond.code yX7_lengthOf cX7_lengthOf 4 (some (FieldType.int)) ∈ G0 := gq (List.mem_of_getElem? (i := 859) (by decide +kernel)) rfl
theorem ml_X7_235 : Cond.methodLink RX7 235 yX1_measureCall ∈ G0 := gq (List.mem_of_getElem? (i := 861) (by decide +kernel)) rfl
theorem im_yX1_measureCall : Cond.instanceMethod yX1_measureCall ∈ G0 := gq (List.mem_of_getElem? (i := 862) (by decide +kernel)) rfl
theorem se_yX1_measureCall : Cond.selects RX1 yX1_measureCall yX1_measureCall ∈ G0 := gq (List.mem_of_getElem? (i := 863) (by decide +kernel)) rfl
theorem cd_yX1_measureCall : Cond.code yX1_measureCall cX1_measureCall 6 (some (FieldType.int)) ∈ G0 := gq (List.mem_of_getElem? (i := 864) (by decide +kernel)) rfl
theorem ml_L_157 : Cond.methodLink RL 157 yL_count ∈ G0 := gq (List.mem_of_getElem? (i := 865) (by decide +kernel)) rfl
theorem sm_yL_count : Cond.static yL_count ∈ G0 := gq (List.mem_of_getElem? (i := 866) (by decide +kernel)) rfl
theorem ml_L_72 : Cond.methodLink RL 72 yX7_count ∈ G0 := gq (List.mem_of_getElem? (i := 868) (by decide +kernel)) rfl
theorem im_yX7_count : Cond.instanceMethod yX7_count ∈ G0 := gq (List.mem_of_getElem? (i := 869) (by decide +kernel)) rfl
theorem se_yX7_count : Cond.selects RX7 yX7_count yX7_count ∈ G0 := gq (List.mem_of_getElem? (i := 870) (by decide +kernel)) rfl
theorem cd_yX7_count : Cond.code yX7_count cX7_count 2 (some (FieldType.int)) ∈ G0 := gq (List.mem_of_getElem? (i := 871) (by decide +kernel)) rfl
theorem ml_X7_239 : Cond.methodLink RX7 239 yX5_definedSet ∈ G0 := gq (List.mem_of_getElem? (i := 872) (by decide +kernel)) rfl
theorem ml_X7_242 : Cond.methodLink RX7 242 yX5_callsOfBodies ∈ G0 := gq (List.mem_of_getElem? (i := 873) (by decide +kernel)) rfl
theorem im_yX5_callsOfBodies : Cond.instanceMethod yX5_callsOfBodies ∈ G0 := gq (List.mem_of_getElem? (i := 874) (by decide +kernel)) rfl
theorem se_yX5_callsOfBodies : Cond.selects RX5 yX5_callsOfBodies yX5_callsOfBodies ∈ G0 := gq (List.mem_of_getElem? (i := 875) (by decide +kernel)) rfl
theorem cd_yX5_callsOfBodies : Cond.code yX5_callsOfBodies cX5_callsOfBodies 4 (some (FieldType.int)) ∈ G0 := gq (List.mem_of_getElem? (i := 876) (by decide +kernel)) rfl
theorem cl_L_76 : Cond.classLink RL 76 RX8 ∈ G0 := gq (List.mem_of_getElem? (i := 877) (by decide +kernel)) rfl
theorem ins_X8 : Cond.instantiable RX8 43 ∈ G0 := gq (List.mem_of_getElem? (i := 878) (by decide +kernel)) rfl
theorem ml_L_78 : Cond.methodLink RL 78 yX8_init ∈ G0 := gq (List.mem_of_getElem? (i := 879) (by decide +kernel)) rfl
theorem im_yX8_init : Cond.instanceMethod yX8_init ∈ G0 := gq (List.mem_of_getElem? (i := 880) (by decide +kernel)) rfl
theorem cd_yX8_init : Cond.code yX8_init cX8_init 2 none ∈ G0 := gq (List.mem_of_getElem? (i := 881) (by decide +kernel)) rfl
theorem ml_X8_1 : Cond.methodLink RX8 1 objectInit ∈ G0 := gq (List.mem_of_getElem? (i := 882) (by decide +kernel)) rfl
theorem fl_X8_7 : Cond.fieldLink RX8 7 RX8 (TX8 0).2.1 (TX8 0).2.2.1 ∈ G0 := gq (List.mem_of_getElem? (i := 883) (by decide +kernel)) rfl
theorem fl_X8_13 : Cond.fieldLink RX8 13 RX8 (TX8 1).2.1 (TX8 1).2.2.1 ∈ G0 := gq (List.mem_of_getElem? (i := 884) (by decide +kernel)) rfl
theorem fl_X8_109 : Cond.fieldLink RX8 109 RX8 (TX8 2).2.1 (TX8 2).2.2.1 ∈ G0 := gq (List.mem_of_getElem? (i := 885) (by decide +kernel)) rfl
theorem fl_X8_16 : Cond.fieldLink RX8 16 RX8 (TX8 3).2.1 (TX8 3).2.2.1 ∈ G0 := gq (List.mem_of_getElem? (i := 886) (by decide +kernel)) rfl
theorem fl_X8_19 : Cond.fieldLink RX8 19 RX8 (TX8 4).2.1 (TX8 4).2.2.1 ∈ G0 := gq (List.mem_of_getElem? (i := 887) (by decide +kernel)) rfl
theorem fl_X8_23 : Cond.fieldLink RX8 23 RX8 (TX8 5).2.1 (TX8 5).2.2.1 ∈ G0 := gq (List.mem_of_getElem? (i := 888) (by decide +kernel)) rfl
theorem fl_X8_106 : Cond.fieldLink RX8 106 RX8 (TX8 6).2.1 (TX8 6).2.2.1 ∈ G0 := gq (List.mem_of_getElem? (i := 889) (by decide +kernel)) rfl
theorem fl_X8_98 : Cond.fieldLink RX8 98 RX8 (TX8 7).2.1 (TX8 7).2.2.1 ∈ G0 := gq (List.mem_of_getElem? (i := 890) (by decide +kernel)) rfl
theorem fl_X8_26 : Cond.fieldLink RX8 26 RX8 (TX8 8).2.1 (TX8 8).2.2.1 ∈ G0 := gq (List.mem_of_getElem? (i := 891) (by decide +kernel)) rfl
theorem fl_X8_119 : Cond.fieldLink RX8 119 RX8 (TX8 9).2.1 (TX8 9).2.2.1 ∈ G0 := gq (List.mem_of_getElem? (i := 892) (by decide +kernel)) rfl
theorem fl_X8_29 : Cond.fieldLink RX8 29 RX8 (TX8 10).2.1 (TX8 10).2.2.1 ∈ G0 := gq (List.mem_of_getElem? (i := 893) (by decide +kernel)) rfl
theorem fl_X8_32 : Cond.fieldLink RX8 32 RX8 (TX8 11).2.1 (TX8 11).2.2.1 ∈ G0 := gq (List.mem_of_getElem? (i := 894) (by decide +kernel)) rfl
theorem fl_X8_35 : Cond.fieldLink RX8 35 RX8 (TX8 12).2.1 (TX8 12).2.2.1 ∈ G0 := gq (List.mem_of_getElem? (i := 895) (by decide +kernel)) rfl
theorem fl_X8_38 : Cond.fieldLink RX8 38 RX8 (TX8 13).2.1 (TX8 13).2.2.1 ∈ G0 := gq (List.mem_of_getElem? (i := 896) (by decide +kernel)) rfl
theorem fl_X8_41 : Cond.fieldLink RX8 41 RX8 (TX8 14).2.1 (TX8 14).2.2.1 ∈ G0 := gq (List.mem_of_getElem? (i := 897) (by decide +kernel)) rfl
theorem fl_X8_44 : Cond.fieldLink RX8 44 RX8 (TX8 15).2.1 (TX8 15).2.2.1 ∈ G0 := gq (List.mem_of_getElem? (i := 898) (by decide +kernel)) rfl
theorem fl_X8_47 : Cond.fieldLink RX8 47 RX8 (TX8 16).2.1 (TX8 16).2.2.1 ∈ G0 := gq (List.mem_of_getElem? (i := 899) (by decide +kernel)) rfl
theorem fl_X8_188 : Cond.fieldLink RX8 188 RX8 (TX8 17).2.1 (TX8 17).2.2.1 ∈ G0 := gq (List.mem_of_getElem? (i := 900) (by decide +kernel)) rfl
theorem fl_X8_166 : Cond.fieldLink RX8 166 RX8 (TX8 18).2.1 (TX8 18).2.2.1 ∈ G0 := gq (List.mem_of_getElem? (i := 901) (by decide +kernel)) rfl
theorem fl_X8_50 : Cond.fieldLink RX8 50 RX8 (TX8 19).2.1 (TX8 19).2.2.1 ∈ G0 := gq (List.mem_of_getElem? (i := 902) (by decide +kernel)) rfl
theorem fl_X8_53 : Cond.fieldLink RX8 53 RX8 (TX8 20).2.1 (TX8 20).2.2.1 ∈ G0 := gq (List.mem_of_getElem? (i := 903) (by decide +kernel)) rfl
theorem fl_X8_56 : Cond.fieldLink RX8 56 RX8 (TX8 21).2.1 (TX8 21).2.2.1 ∈ G0 := gq (List.mem_of_getElem? (i := 904) (by decide +kernel)) rfl
theorem fl_X8_156 : Cond.fieldLink RX8 156 RX8 (TX8 22).2.1 (TX8 22).2.2.1 ∈ G0 := gq (List.mem_of_getElem? (i := 905) (by decide +kernel)) rfl
theorem fl_X8_59 : Cond.fieldLink RX8 59 RX8 (TX8 23).2.1 (TX8 23).2.2.1 ∈ G0 := gq (List.mem_of_getElem? (i := 906) (by decide +kernel)) rfl
theorem fl_X8_159 : Cond.fieldLink RX8 159 RX8 (TX8 24).2.1 (TX8 24).2.2.1 ∈ G0 := gq (List.mem_of_getElem? (i := 907) (by decide +kernel)) rfl
theorem fl_X8_169 : Cond.fieldLink RX8 169 RX8 (TX8 25).2.1 (TX8 25).2.2.1 ∈ G0 := gq (List.mem_of_getElem? (i := 908) (by decide +kernel)) rfl
theorem fl_X8_172 : Cond.fieldLink RX8 172 RX8 (TX8 26).2.1 (TX8 26).2.2.1 ∈ G0 := gq (List.mem_of_getElem? (i := 909) (by decide +kernel)) rfl
theorem fl_X8_62 : Cond.fieldLink RX8 62 RX8 (TX8 27).2.1 (TX8 27).2.2.1 ∈ G0 := gq (List.mem_of_getElem? (i := 910) (by decide +kernel)) rfl
theorem fl_X8_163 : Cond.fieldLink RX8 163 RX8 (TX8 28).2.1 (TX8 28).2.2.1 ∈ G0 := gq (List.mem_of_getElem? (i := 911) (by decide +kernel)) rfl
theorem fl_X8_65 : Cond.fieldLink RX8 65 RX8 (TX8 29).2.1 (TX8 29).2.2.1 ∈ G0 := gq (List.mem_of_getElem? (i := 912) (by decide +kernel)) rfl
theorem fl_X8_68 : Cond.fieldLink RX8 68 RX8 (TX8 30).2.1 (TX8 30).2.2.1 ∈ G0 := gq (List.mem_of_getElem? (i := 913) (by decide +kernel)) rfl
theorem fl_X8_71 : Cond.fieldLink RX8 71 RX8 (TX8 31).2.1 (TX8 31).2.2.1 ∈ G0 := gq (List.mem_of_getElem? (i := 914) (by decide +kernel)) rfl
theorem fl_X8_208 : Cond.fieldLink RX8 208 RX8 (TX8 32).2.1 (TX8 32).2.2.1 ∈ G0 := gq (List.mem_of_getElem? (i := 915) (by decide +kernel)) rfl
theorem fl_X8_74 : Cond.fieldLink RX8 74 RX8 (TX8 33).2.1 (TX8 33).2.2.1 ∈ G0 := gq (List.mem_of_getElem? (i := 916) (by decide +kernel)) rfl
theorem fl_X8_77 : Cond.fieldLink RX8 77 RX8 (TX8 34).2.1 (TX8 34).2.2.1 ∈ G0 := gq (List.mem_of_getElem? (i := 917) (by decide +kernel)) rfl
theorem fl_X8_80 : Cond.fieldLink RX8 80 RX8 (TX8 35).2.1 (TX8 35).2.2.1 ∈ G0 := gq (List.mem_of_getElem? (i := 918) (by decide +kernel)) rfl
theorem fl_X8_83 : Cond.fieldLink RX8 83 RX8 (TX8 36).2.1 (TX8 36).2.2.1 ∈ G0 := gq (List.mem_of_getElem? (i := 919) (by decide +kernel)) rfl
theorem fl_X8_86 : Cond.fieldLink RX8 86 RX8 (TX8 37).2.1 (TX8 37).2.2.1 ∈ G0 := gq (List.mem_of_getElem? (i := 920) (by decide +kernel)) rfl
theorem fl_X8_211 : Cond.fieldLink RX8 211 RX8 (TX8 38).2.1 (TX8 38).2.2.1 ∈ G0 := gq (List.mem_of_getElem? (i := 921) (by decide +kernel)) rfl
theorem fl_X8_205 : Cond.fieldLink RX8 205 RX8 (TX8 39).2.1 (TX8 39).2.2.1 ∈ G0 := gq (List.mem_of_getElem? (i := 922) (by decide +kernel)) rfl
theorem fl_X8_89 : Cond.fieldLink RX8 89 RX8 (TX8 40).2.1 (TX8 40).2.2.1 ∈ G0 := gq (List.mem_of_getElem? (i := 923) (by decide +kernel)) rfl
theorem fl_X8_92 : Cond.fieldLink RX8 92 RX8 (TX8 41).2.1 (TX8 41).2.2.1 ∈ G0 := gq (List.mem_of_getElem? (i := 924) (by decide +kernel)) rfl
theorem fl_X8_95 : Cond.fieldLink RX8 95 RX8 (TX8 42).2.1 (TX8 42).2.2.1 ∈ G0 := gq (List.mem_of_getElem? (i := 925) (by decide +kernel)) rfl
theorem ml_L_85 : Cond.methodLink RL 85 yX8_thrown ∈ G0 := gq (List.mem_of_getElem? (i := 1014) (by decide +kernel)) rfl
theorem im_yX8_thrown : Cond.instanceMethod yX8_thrown ∈ G0 := gq (List.mem_of_getElem? (i := 1015) (by decide +kernel)) rfl
theorem se_yX8_thrown : Cond.selects RX8 yX8_thrown yX8_thrown ∈ G0 := gq (List.mem_of_getElem? (i := 1016) (by decide +kernel)) rfl
theorem cd_yX8_thrown : Cond.code yX8_thrown cX8_thrown 1 (some (FieldType.int)) ∈ G0 := gq (List.mem_of_getElem? (i := 1017) (by decide +kernel)) rfl
theorem ml_L_104 : Cond.methodLink RL 104 yX8_append ∈ G0 := gq (List.mem_of_getElem? (i := 1018) (by decide +kernel)) rfl
theorem im_yX8_append : Cond.instanceMethod yX8_append ∈ G0 := gq (List.mem_of_getElem? (i := 1019) (by decide +kernel)) rfl
theorem se_yX8_append : Cond.selects RX8 yX8_append yX8_append ∈ G0 := gq (List.mem_of_getElem? (i := 1020) (by decide +kernel)) rfl
theorem cd_yX8_append : Cond.code yX8_append cX8_append 2 (some (FieldType.int)) ∈ G0 := gq (List.mem_of_getElem? (i := 1021) (by decide +kernel)) rfl
theorem ml_X8_102 : Cond.methodLink RX8 102 yX8_in ∈ G0 := gq (List.mem_of_getElem? (i := 1022) (by decide +kernel)) rfl
theorem sm_yX8_in : Cond.static yX8_in ∈ G0 := gq (List.mem_of_getElem? (i := 1023) (by decide +kernel)) rfl
theorem cd_yX8_in : Cond.code yX8_in cX8_in 3 (some (FieldType.boolean)) ∈ G0 := gq (List.mem_of_getElem? (i := 1024) (by decide +kernel)) rfl
theorem ml_X8_116 : Cond.methodLink RX8 116 yX8_refused ∈ G0 := gq (List.mem_of_getElem? (i := 1025) (by decide +kernel)) rfl
theorem im_yX8_refused : Cond.instanceMethod yX8_refused ∈ G0 := gq (List.mem_of_getElem? (i := 1027) (by decide +kernel)) rfl
theorem cd_yX8_refused : Cond.code yX8_refused cX8_refused 2 (some (FieldType.boolean)) ∈ G0 := gq (List.mem_of_getElem? (i := 1028) (by decide +kernel)) rfl
theorem ml_L_108 : Cond.methodLink RL 108 yX8_clearBuffer ∈ G0 := gq (List.mem_of_getElem? (i := 1029) (by decide +kernel)) rfl
theorem im_yX8_clearBuffer : Cond.instanceMethod yX8_clearBuffer ∈ G0 := gq (List.mem_of_getElem? (i := 1030) (by decide +kernel)) rfl
theorem se_yX8_clearBuffer : Cond.selects RX8 yX8_clearBuffer yX8_clearBuffer ∈ G0 := gq (List.mem_of_getElem? (i := 1031) (by decide +kernel)) rfl
theorem cd_yX8_clearBuffer : Cond.code yX8_clearBuffer cX8_clearBuffer 2 (some (FieldType.int)) ∈ G0 := gq (List.mem_of_getElem? (i := 1032) (by decide +kernel)) rfl
theorem ml_L_112 : Cond.methodLink RL 112 yX8_firstError ∈ G0 := gq (List.mem_of_getElem? (i := 1033) (by decide +kernel)) rfl
theorem im_yX8_firstError : Cond.instanceMethod yX8_firstError ∈ G0 := gq (List.mem_of_getElem? (i := 1034) (by decide +kernel)) rfl
theorem se_yX8_firstError : Cond.selects RX8 yX8_firstError yX8_firstError ∈ G0 := gq (List.mem_of_getElem? (i := 1035) (by decide +kernel)) rfl
theorem cd_yX8_firstError : Cond.code yX8_firstError cX8_firstError 1 (some (FieldType.int)) ∈ G0 := gq (List.mem_of_getElem? (i := 1036) (by decide +kernel)) rfl
theorem ml_X8_128 : Cond.methodLink RX8 128 yX8_error ∈ G0 := gq (List.mem_of_getElem? (i := 1037) (by decide +kernel)) rfl
theorem im_yX8_error : Cond.instanceMethod yX8_error ∈ G0 := gq (List.mem_of_getElem? (i := 1039) (by decide +kernel)) rfl
theorem cd_yX8_error : Cond.code yX8_error cX8_error 5 (some (FieldType.int)) ∈ G0 := gq (List.mem_of_getElem? (i := 1040) (by decide +kernel)) rfl
theorem ml_X8_122 : Cond.methodLink RX8 122 yX8_isPlain ∈ G0 := gq (List.mem_of_getElem? (i := 1041) (by decide +kernel)) rfl
theorem sm_yX8_isPlain : Cond.static yX8_isPlain ∈ G0 := gq (List.mem_of_getElem? (i := 1042) (by decide +kernel)) rfl
theorem cd_yX8_isPlain : Cond.code yX8_isPlain cX8_isPlain 1 (some (FieldType.boolean)) ∈ G0 := gq (List.mem_of_getElem? (i := 1043) (by decide +kernel)) rfl
theorem ml_X8_125 : Cond.methodLink RX8 125 yX8_isCall ∈ G0 := gq (List.mem_of_getElem? (i := 1044) (by decide +kernel)) rfl
theorem sm_yX8_isCall : Cond.static yX8_isCall ∈ G0 := gq (List.mem_of_getElem? (i := 1045) (by decide +kernel)) rfl
theorem cd_yX8_isCall : Cond.code yX8_isCall cX8_isCall 1 (some (FieldType.boolean)) ∈ G0 := gq (List.mem_of_getElem? (i := 1046) (by decide +kernel)) rfl
theorem ml_L_115 : Cond.methodLink RL 115 yX8_load ∈ G0 := gq (List.mem_of_getElem? (i := 1047) (by decide +kernel)) rfl
theorem im_yX8_load : Cond.instanceMethod yX8_load ∈ G0 := gq (List.mem_of_getElem? (i := 1048) (by decide +kernel)) rfl
theorem se_yX8_load : Cond.selects RX8 yX8_load yX8_load ∈ G0 := gq (List.mem_of_getElem? (i := 1049) (by decide +kernel)) rfl
theorem cd_yX8_load : Cond.code yX8_load cX8_load 3 (some (FieldType.int)) ∈ G0 := gq (List.mem_of_getElem? (i := 1050) (by decide +kernel)) rfl
theorem ml_X8_132 : Cond.methodLink RX8 132 yX8_isLetter ∈ G0 := gq (List.mem_of_getElem? (i := 1051) (by decide +kernel)) rfl
theorem sm_yX8_isLetter : Cond.static yX8_isLetter ∈ G0 := gq (List.mem_of_getElem? (i := 1052) (by decide +kernel)) rfl
theorem cd_yX8_isLetter : Cond.code yX8_isLetter cX8_isLetter 1 (some (FieldType.boolean)) ∈ G0 := gq (List.mem_of_getElem? (i := 1053) (by decide +kernel)) rfl
theorem ml_X8_112 : Cond.methodLink RX8 112 yX8_isDefined ∈ G0 := gq (List.mem_of_getElem? (i := 1054) (by decide +kernel)) rfl
theorem im_yX8_isDefined : Cond.instanceMethod yX8_isDefined ∈ G0 := gq (List.mem_of_getElem? (i := 1056) (by decide +kernel)) rfl
theorem cd_yX8_isDefined : Cond.code yX8_isDefined cX8_isDefined 2 (some (FieldType.boolean)) ∈ G0 := gq (List.mem_of_getElem? (i := 1057) (by decide +kernel)) rfl
theorem ml_L_84 : Cond.methodLink RL 84 yX8_define ∈ G0 := gq (List.mem_of_getElem? (i := 1058) (by decide +kernel)) rfl
theorem im_yX8_define : Cond.instanceMethod yX8_define ∈ G0 := gq (List.mem_of_getElem? (i := 1059) (by decide +kernel)) rfl
theorem se_yX8_define : Cond.selects RX8 yX8_define yX8_define ∈ G0 := gq (List.mem_of_getElem? (i := 1060) (by decide +kernel)) rfl
theorem cd_yX8_define : Cond.code yX8_define cX8_define 2 (some (FieldType.int)) ∈ G0 := gq (List.mem_of_getElem? (i := 1061) (by decide +kernel)) rfl
theorem ml_X8_139 : Cond.methodLink RX8 139 yX8_isWhole ∈ G0 := gq (List.mem_of_getElem? (i := 1062) (by decide +kernel)) rfl
theorem im_yX8_isWhole : Cond.instanceMethod yX8_isWhole ∈ G0 := gq (List.mem_of_getElem? (i := 1064) (by decide +kernel)) rfl
theorem cd_yX8_isWhole : Cond.code yX8_isWhole cX8_isWhole 1 (some (FieldType.boolean)) ∈ G0 := gq (List.mem_of_getElem? (i := 1065) (by decide +kernel)) rfl
theorem ml_X8_143 : Cond.methodLink RX8 143 yX8_saves ∈ G0 := gq (List.mem_of_getElem? (i := 1066) (by decide +kernel)) rfl
theorem im_yX8_saves : Cond.instanceMethod yX8_saves ∈ G0 := gq (List.mem_of_getElem? (i := 1068) (by decide +kernel)) rfl
theorem cd_yX8_saves : Cond.code yX8_saves cX8_saves 2 none ∈ G0 := gq (List.mem_of_getElem? (i := 1069) (by decide +kernel)) rfl
theorem ml_X8_146 : Cond.methodLink RX8 146 yX8_lays ∈ G0 := gq (List.mem_of_getElem? (i := 1070) (by decide +kernel)) rfl
theorem im_yX8_lays : Cond.instanceMethod yX8_lays ∈ G0 := gq (List.mem_of_getElem? (i := 1072) (by decide +kernel)) rfl
theorem cd_yX8_lays : Cond.code yX8_lays cX8_lays 3 none ∈ G0 := gq (List.mem_of_getElem? (i := 1073) (by decide +kernel)) rfl
theorem ml_X8_150 : Cond.methodLink RX8 150 yX8_holesOf ∈ G0 := gq (List.mem_of_getElem? (i := 1074) (by decide +kernel)) rfl
theorem im_yX8_holesOf : Cond.instanceMethod yX8_holesOf ∈ G0 := gq (List.mem_of_getElem? (i := 1076) (by decide +kernel)) rfl
theorem cd_yX8_holesOf : Cond.code yX8_holesOf cX8_holesOf 5 (some (FieldType.int)) ∈ G0 := gq (List.mem_of_getElem? (i := 1077) (by decide +kernel)) rfl
theorem ml_X8_135 : Cond.methodLink RX8 135 yX8_signOf ∈ G0 := gq (List.mem_of_getElem? (i := 1078) (by decide +kernel)) rfl
theorem im_yX8_signOf : Cond.instanceMethod yX8_signOf ∈ G0 := gq (List.mem_of_getElem? (i := 1080) (by decide +kernel)) rfl
theorem cd_yX8_signOf : Cond.code yX8_signOf cX8_signOf 3 (some (FieldType.int)) ∈ G0 := gq (List.mem_of_getElem? (i := 1081) (by decide +kernel)) rfl
theorem ml_L_90 : Cond.methodLink RL 90 yX8_remove ∈ G0 := gq (List.mem_of_getElem? (i := 1082) (by decide +kernel)) rfl
theorem im_yX8_remove : Cond.instanceMethod yX8_remove ∈ G0 := gq (List.mem_of_getElem? (i := 1083) (by decide +kernel)) rfl
theorem se_yX8_remove : Cond.selects RX8 yX8_remove yX8_remove ∈ G0 := gq (List.mem_of_getElem? (i := 1084) (by decide +kernel)) rfl
theorem cd_yX8_remove : Cond.code yX8_remove cX8_remove 2 (some (FieldType.int)) ∈ G0 := gq (List.mem_of_getElem? (i := 1085) (by decide +kernel)) rfl
theorem ml_X8_153 : Cond.methodLink RX8 153 yX8_defined ∈ G0 := gq (List.mem_of_getElem? (i := 1086) (by decide +kernel)) rfl
theorem im_yX8_defined : Cond.instanceMethod yX8_defined ∈ G0 := gq (List.mem_of_getElem? (i := 1088) (by decide +kernel)) rfl
theorem cd_yX8_defined : Cond.code yX8_defined cX8_defined 3 (some (FieldType.int)) ∈ G0 := gq (List.mem_of_getElem? (i := 1089) (by decide +kernel)) rfl
theorem ml_L_94 : Cond.methodLink RL 94 yX8_exchange ∈ G0 := gq (List.mem_of_getElem? (i := 1090) (by decide +kernel)) rfl
theorem im_yX8_exchange : Cond.instanceMethod yX8_exchange ∈ G0 := gq (List.mem_of_getElem? (i := 1091) (by decide +kernel)) rfl
theorem se_yX8_exchange : Cond.selects RX8 yX8_exchange yX8_exchange ∈ G0 := gq (List.mem_of_getElem? (i := 1092) (by decide +kernel)) rfl
theorem cd_yX8_exchange : Cond.code yX8_exchange cX8_exchange 6 (some (FieldType.int)) ∈ G0 := gq (List.mem_of_getElem? (i := 1093) (by decide +kernel)) rfl
theorem ml_L_97 : Cond.methodLink RL 97 yX8_set ∈ G0 := gq (List.mem_of_getElem? (i := 1094) (by decide +kernel)) rfl
theorem im_yX8_set : Cond.instanceMethod yX8_set ∈ G0 := gq (List.mem_of_getElem? (i := 1095) (by decide +kernel)) rfl
theorem se_yX8_set : Cond.selects RX8 yX8_set yX8_set ∈ G0 := gq (List.mem_of_getElem? (i := 1096) (by decide +kernel)) rfl
theorem cd_yX8_set : Cond.code yX8_set cX8_set 3 (some (FieldType.int)) ∈ G0 := gq (List.mem_of_getElem? (i := 1097) (by decide +kernel)) rfl
theorem ml_L_101 : Cond.methodLink RL 101 yX8_expand ∈ G0 := gq (List.mem_of_getElem? (i := 1098) (by decide +kernel)) rfl
theorem im_yX8_expand : Cond.instanceMethod yX8_expand ∈ G0 := gq (List.mem_of_getElem? (i := 1099) (by decide +kernel)) rfl
theorem se_yX8_expand : Cond.selects RX8 yX8_expand yX8_expand ∈ G0 := gq (List.mem_of_getElem? (i := 1100) (by decide +kernel)) rfl
theorem cd_yX8_expand : Cond.code yX8_expand cX8_expand 2 (some (FieldType.int)) ∈ G0 := gq (List.mem_of_getElem? (i := 1101) (by decide +kernel)) rfl
theorem ml_X8_229 : Cond.methodLink RX8 229 yX8_begins ∈ G0 := gq (List.mem_of_getElem? (i := 1102) (by decide +kernel)) rfl
theorem im_yX8_begins : Cond.instanceMethod yX8_begins ∈ G0 := gq (List.mem_of_getElem? (i := 1104) (by decide +kernel)) rfl
theorem cd_yX8_begins : Cond.code yX8_begins cX8_begins 2 none ∈ G0 := gq (List.mem_of_getElem? (i := 1105) (by decide +kernel)) rfl
theorem ml_X8_232 : Cond.methodLink RX8 232 yX8_measures ∈ G0 := gq (List.mem_of_getElem? (i := 1106) (by decide +kernel)) rfl
theorem im_yX8_measures : Cond.instanceMethod yX8_measures ∈ G0 := gq (List.mem_of_getElem? (i := 1108) (by decide +kernel)) rfl
theorem cd_yX8_measures : Cond.code yX8_measures cX8_measures 1 (some (FieldType.boolean)) ∈ G0 := gq (List.mem_of_getElem? (i := 1109) (by decide +kernel)) rfl
theorem ml_X8_191 : Cond.methodLink RX8 191 yX8_longOf ∈ G0 := gq (List.mem_of_getElem? (i := 1110) (by decide +kernel)) rfl
theorem im_yX8_longOf : Cond.instanceMethod yX8_longOf ∈ G0 := gq (List.mem_of_getElem? (i := 1112) (by decide +kernel)) rfl
theorem cd_yX8_longOf : Cond.code yX8_longOf cX8_longOf 2 (some (FieldType.int)) ∈ G0 := gq (List.mem_of_getElem? (i := 1113) (by decide +kernel)) rfl
theorem ml_X8_202 : Cond.methodLink RX8 202 yX8_reads ∈ G0 := gq (List.mem_of_getElem? (i := 1114) (by decide +kernel)) rfl
theorem im_yX8_reads : Cond.instanceMethod yX8_reads ∈ G0 := gq (List.mem_of_getElem? (i := 1116) (by decide +kernel)) rfl
theorem cd_yX8_reads : Cond.code yX8_reads cX8_reads 3 none ∈ G0 := gq (List.mem_of_getElem? (i := 1117) (by decide +kernel)) rfl
theorem ml_X8_195 : Cond.methodLink RX8 195 yX8_goesOn ∈ G0 := gq (List.mem_of_getElem? (i := 1118) (by decide +kernel)) rfl
theorem im_yX8_goesOn : Cond.instanceMethod yX8_goesOn ∈ G0 := gq (List.mem_of_getElem? (i := 1120) (by decide +kernel)) rfl
theorem cd_yX8_goesOn : Cond.code yX8_goesOn cX8_goesOn 6 none ∈ G0 := gq (List.mem_of_getElem? (i := 1121) (by decide +kernel)) rfl
theorem ml_X8_175 : Cond.methodLink RX8 175 yX8_isOpen ∈ G0 := gq (List.mem_of_getElem? (i := 1122) (by decide +kernel)) rfl
theorem im_yX8_isOpen : Cond.instanceMethod yX8_isOpen ∈ G0 := gq (List.mem_of_getElem? (i := 1124) (by decide +kernel)) rfl
theorem cd_yX8_isOpen : Cond.code yX8_isOpen cX8_isOpen 4 (some (FieldType.boolean)) ∈ G0 := gq (List.mem_of_getElem? (i := 1125) (by decide +kernel)) rfl
theorem ml_X8_178 : Cond.methodLink RX8 178 yX8_writes ∈ G0 := gq (List.mem_of_getElem? (i := 1126) (by decide +kernel)) rfl
theorem im_yX8_writes : Cond.instanceMethod yX8_writes ∈ G0 := gq (List.mem_of_getElem? (i := 1128) (by decide +kernel)) rfl
theorem cd_yX8_writes : Cond.code yX8_writes cX8_writes 2 none ∈ G0 := gq (List.mem_of_getElem? (i := 1129) (by decide +kernel)) rfl
theorem ml_X8_181 : Cond.methodLink RX8 181 yX8_notes ∈ G0 := gq (List.mem_of_getElem? (i := 1130) (by decide +kernel)) rfl
theorem im_yX8_notes : Cond.instanceMethod yX8_notes ∈ G0 := gq (List.mem_of_getElem? (i := 1132) (by decide +kernel)) rfl
theorem cd_yX8_notes : Cond.code yX8_notes cX8_notes 7 none ∈ G0 := gq (List.mem_of_getElem? (i := 1133) (by decide +kernel)) rfl
theorem ml_X8_185 : Cond.methodLink RX8 185 yX8_opens ∈ G0 := gq (List.mem_of_getElem? (i := 1134) (by decide +kernel)) rfl
theorem im_yX8_opens : Cond.instanceMethod yX8_opens ∈ G0 := gq (List.mem_of_getElem? (i := 1136) (by decide +kernel)) rfl
theorem cd_yX8_opens : Cond.code yX8_opens cX8_opens 2 none ∈ G0 := gq (List.mem_of_getElem? (i := 1137) (by decide +kernel)) rfl
theorem ml_X8_199 : Cond.methodLink RX8 199 yX8_filling ∈ G0 := gq (List.mem_of_getElem? (i := 1138) (by decide +kernel)) rfl
theorem im_yX8_filling : Cond.instanceMethod yX8_filling ∈ G0 := gq (List.mem_of_getElem? (i := 1140) (by decide +kernel)) rfl
theorem cd_yX8_filling : Cond.code yX8_filling cX8_filling 2 (some (FieldType.int)) ∈ G0 := gq (List.mem_of_getElem? (i := 1141) (by decide +kernel)) rfl
theorem ml_X8_235 : Cond.methodLink RX8 235 yX8_spells ∈ G0 := gq (List.mem_of_getElem? (i := 1142) (by decide +kernel)) rfl
theorem im_yX8_spells : Cond.instanceMethod yX8_spells ∈ G0 := gq (List.mem_of_getElem? (i := 1144) (by decide +kernel)) rfl
theorem cd_yX8_spells : Cond.code yX8_spells cX8_spells 2 none ∈ G0 := gq (List.mem_of_getElem? (i := 1145) (by decide +kernel)) rfl
theorem ml_X8_220 : Cond.methodLink RX8 220 yX8_enters ∈ G0 := gq (List.mem_of_getElem? (i := 1146) (by decide +kernel)) rfl
theorem im_yX8_enters : Cond.instanceMethod yX8_enters ∈ G0 := gq (List.mem_of_getElem? (i := 1148) (by decide +kernel)) rfl
theorem cd_yX8_enters : Cond.code yX8_enters cX8_enters 4 none ∈ G0 := gq (List.mem_of_getElem? (i := 1149) (by decide +kernel)) rfl
theorem ml_X8_224 : Cond.methodLink RX8 224 yX8_calls ∈ G0 := gq (List.mem_of_getElem? (i := 1150) (by decide +kernel)) rfl
theorem im_yX8_calls : Cond.instanceMethod yX8_calls ∈ G0 := gq (List.mem_of_getElem? (i := 1152) (by decide +kernel)) rfl
theorem cd_yX8_calls : Cond.code yX8_calls cX8_calls 7 none ∈ G0 := gq (List.mem_of_getElem? (i := 1153) (by decide +kernel)) rfl
theorem ml_X8_214 : Cond.methodLink RX8 214 yX8_skips ∈ G0 := gq (List.mem_of_getElem? (i := 1154) (by decide +kernel)) rfl
theorem im_yX8_skips : Cond.instanceMethod yX8_skips ∈ G0 := gq (List.mem_of_getElem? (i := 1156) (by decide +kernel)) rfl
theorem cd_yX8_skips : Cond.code yX8_skips cX8_skips 4 none ∈ G0 := gq (List.mem_of_getElem? (i := 1157) (by decide +kernel)) rfl
theorem ml_X8_217 : Cond.methodLink RX8 217 yX8_puts ∈ G0 := gq (List.mem_of_getElem? (i := 1158) (by decide +kernel)) rfl
theorem im_yX8_puts : Cond.instanceMethod yX8_puts ∈ G0 := gq (List.mem_of_getElem? (i := 1160) (by decide +kernel)) rfl
theorem cd_yX8_puts : Cond.code yX8_puts cX8_puts 2 none ∈ G0 := gq (List.mem_of_getElem? (i := 1161) (by decide +kernel)) rfl
theorem ml_X8_226 : Cond.methodLink RX8 226 yX8_fills ∈ G0 := gq (List.mem_of_getElem? (i := 1162) (by decide +kernel)) rfl
theorem im_yX8_fills : Cond.instanceMethod yX8_fills ∈ G0 := gq (List.mem_of_getElem? (i := 1164) (by decide +kernel)) rfl
theorem cd_yX8_fills : Cond.code yX8_fills cX8_fills 3 none ∈ G0 := gq (List.mem_of_getElem? (i := 1165) (by decide +kernel)) rfl
theorem ml_L_118 : Cond.methodLink RL 118 yX8_undo ∈ G0 := gq (List.mem_of_getElem? (i := 1166) (by decide +kernel)) rfl
theorem im_yX8_undo : Cond.instanceMethod yX8_undo ∈ G0 := gq (List.mem_of_getElem? (i := 1167) (by decide +kernel)) rfl
theorem se_yX8_undo : Cond.selects RX8 yX8_undo yX8_undo ∈ G0 := gq (List.mem_of_getElem? (i := 1168) (by decide +kernel)) rfl
theorem cd_yX8_undo : Cond.code yX8_undo cX8_undo 2 (some (FieldType.int)) ∈ G0 := gq (List.mem_of_getElem? (i := 1169) (by decide +kernel)) rfl
theorem ml_L_121 : Cond.methodLink RL 121 yX8_keep ∈ G0 := gq (List.mem_of_getElem? (i := 1170) (by decide +kernel)) rfl
theorem im_yX8_keep : Cond.instanceMethod yX8_keep ∈ G0 := gq (List.mem_of_getElem? (i := 1171) (by decide +kernel)) rfl
theorem se_yX8_keep : Cond.selects RX8 yX8_keep yX8_keep ∈ G0 := gq (List.mem_of_getElem? (i := 1172) (by decide +kernel)) rfl
theorem cd_yX8_keep : Cond.code yX8_keep cX8_keep 3 (some (FieldType.int)) ∈ G0 := gq (List.mem_of_getElem? (i := 1173) (by decide +kernel)) rfl
theorem ml_L_124 : Cond.methodLink RL 124 yX8_goBack ∈ G0 := gq (List.mem_of_getElem? (i := 1174) (by decide +kernel)) rfl
theorem im_yX8_goBack : Cond.instanceMethod yX8_goBack ∈ G0 := gq (List.mem_of_getElem? (i := 1175) (by decide +kernel)) rfl
theorem se_yX8_goBack : Cond.selects RX8 yX8_goBack yX8_goBack ∈ G0 := gq (List.mem_of_getElem? (i := 1176) (by decide +kernel)) rfl
theorem cd_yX8_goBack : Cond.code yX8_goBack cX8_goBack 3 (some (FieldType.int)) ∈ G0 := gq (List.mem_of_getElem? (i := 1177) (by decide +kernel)) rfl
theorem ml_L_127 : Cond.methodLink RL 127 yX8_body ∈ G0 := gq (List.mem_of_getElem? (i := 1178) (by decide +kernel)) rfl
theorem im_yX8_body : Cond.instanceMethod yX8_body ∈ G0 := gq (List.mem_of_getElem? (i := 1179) (by decide +kernel)) rfl
theorem se_yX8_body : Cond.selects RX8 yX8_body yX8_body ∈ G0 := gq (List.mem_of_getElem? (i := 1180) (by decide +kernel)) rfl
theorem cd_yX8_body : Cond.code yX8_body cX8_body 3 (some (FieldType.int)) ∈ G0 := gq (List.mem_of_getElem? (i := 1181) (by decide +kernel)) rfl
theorem ml_X8_238 : Cond.methodLink RX8 238 yX8_callsOf ∈ G0 := gq (List.mem_of_getElem? (i := 1182) (by decide +kernel)) rfl
theorem im_yX8_callsOf : Cond.instanceMethod yX8_callsOf ∈ G0 := gq (List.mem_of_getElem? (i := 1184) (by decide +kernel)) rfl
theorem cd_yX8_callsOf : Cond.code yX8_callsOf cX8_callsOf 4 (some (FieldType.int)) ∈ G0 := gq (List.mem_of_getElem? (i := 1185) (by decide +kernel)) rfl
theorem ml_X8_241 : Cond.methodLink RX8 241 yX8_mostOf ∈ G0 := gq (List.mem_of_getElem? (i := 1186) (by decide +kernel)) rfl
theorem im_yX8_mostOf : Cond.instanceMethod yX8_mostOf ∈ G0 := gq (List.mem_of_getElem? (i := 1188) (by decide +kernel)) rfl
theorem cd_yX8_mostOf : Cond.code yX8_mostOf cX8_mostOf 8 (some (FieldType.int)) ∈ G0 := gq (List.mem_of_getElem? (i := 1189) (by decide +kernel)) rfl
theorem ml_X8_245 : Cond.methodLink RX8 245 yX8_plainOf ∈ G0 := gq (List.mem_of_getElem? (i := 1190) (by decide +kernel)) rfl
theorem im_yX8_plainOf : Cond.instanceMethod yX8_plainOf ∈ G0 := gq (List.mem_of_getElem? (i := 1192) (by decide +kernel)) rfl
theorem cd_yX8_plainOf : Cond.code yX8_plainOf cX8_plainOf 4 (some (FieldType.int)) ∈ G0 := gq (List.mem_of_getElem? (i := 1193) (by decide +kernel)) rfl
theorem ml_L_130 : Cond.methodLink RL 130 yX8_uses ∈ G0 := gq (List.mem_of_getElem? (i := 1194) (by decide +kernel)) rfl
theorem im_yX8_uses : Cond.instanceMethod yX8_uses ∈ G0 := gq (List.mem_of_getElem? (i := 1195) (by decide +kernel)) rfl
theorem se_yX8_uses : Cond.selects RX8 yX8_uses yX8_uses ∈ G0 := gq (List.mem_of_getElem? (i := 1196) (by decide +kernel)) rfl
theorem cd_yX8_uses : Cond.code yX8_uses cX8_uses 3 (some (FieldType.int)) ∈ G0 := gq (List.mem_of_getElem? (i := 1197) (by decide +kernel)) rfl
theorem ml_X8_254 : Cond.methodLink RX8 254 yX8_laysSets ∈ G0 := gq (List.mem_of_getElem? (i := 1198) (by decide +kernel)) rfl
theorem im_yX8_laysSets : Cond.instanceMethod yX8_laysSets ∈ G0 := gq (List.mem_of_getElem? (i := 1200) (by decide +kernel)) rfl
theorem cd_yX8_laysSets : Cond.code yX8_laysSets cX8_laysSets 2 none ∈ G0 := gq (List.mem_of_getElem? (i := 1201) (by decide +kernel)) rfl
theorem ml_X8_248 : Cond.methodLink RX8 248 yX8_called ∈ G0 := gq (List.mem_of_getElem? (i := 1202) (by decide +kernel)) rfl
theorem im_yX8_called : Cond.instanceMethod yX8_called ∈ G0 := gq (List.mem_of_getElem? (i := 1204) (by decide +kernel)) rfl
theorem cd_yX8_called : Cond.code yX8_called cX8_called 5 (some (FieldType.int)) ∈ G0 := gq (List.mem_of_getElem? (i := 1205) (by decide +kernel)) rfl
theorem ml_X8_251 : Cond.methodLink RX8 251 yX8_reached ∈ G0 := gq (List.mem_of_getElem? (i := 1206) (by decide +kernel)) rfl
theorem im_yX8_reached : Cond.instanceMethod yX8_reached ∈ G0 := gq (List.mem_of_getElem? (i := 1208) (by decide +kernel)) rfl
theorem cd_yX8_reached : Cond.code yX8_reached cX8_reached 5 (some (FieldType.int)) ∈ G0 := gq (List.mem_of_getElem? (i := 1209) (by decide +kernel)) rfl
theorem ml_X8_257 : Cond.methodLink RX8 257 yX8_callers ∈ G0 := gq (List.mem_of_getElem? (i := 1210) (by decide +kernel)) rfl
theorem im_yX8_callers : Cond.instanceMethod yX8_callers ∈ G0 := gq (List.mem_of_getElem? (i := 1212) (by decide +kernel)) rfl
theorem cd_yX8_callers : Cond.code yX8_callers cX8_callers 5 (some (FieldType.int)) ∈ G0 := gq (List.mem_of_getElem? (i := 1213) (by decide +kernel)) rfl
theorem ml_L_134 : Cond.methodLink RL 134 yX8_rings ∈ G0 := gq (List.mem_of_getElem? (i := 1214) (by decide +kernel)) rfl
theorem im_yX8_rings : Cond.instanceMethod yX8_rings ∈ G0 := gq (List.mem_of_getElem? (i := 1215) (by decide +kernel)) rfl
theorem se_yX8_rings : Cond.selects RX8 yX8_rings yX8_rings ∈ G0 := gq (List.mem_of_getElem? (i := 1216) (by decide +kernel)) rfl
theorem cd_yX8_rings : Cond.code yX8_rings cX8_rings 1 (some (FieldType.int)) ∈ G0 := gq (List.mem_of_getElem? (i := 1217) (by decide +kernel)) rfl
theorem ml_X8_260 : Cond.methodLink RX8 260 yX8_inRings ∈ G0 := gq (List.mem_of_getElem? (i := 1218) (by decide +kernel)) rfl
theorem im_yX8_inRings : Cond.instanceMethod yX8_inRings ∈ G0 := gq (List.mem_of_getElem? (i := 1220) (by decide +kernel)) rfl
theorem cd_yX8_inRings : Cond.code yX8_inRings cX8_inRings 3 (some (FieldType.int)) ∈ G0 := gq (List.mem_of_getElem? (i := 1221) (by decide +kernel)) rfl
theorem ml_L_138 : Cond.methodLink RL 138 yX8_missing ∈ G0 := gq (List.mem_of_getElem? (i := 1222) (by decide +kernel)) rfl
theorem im_yX8_missing : Cond.instanceMethod yX8_missing ∈ G0 := gq (List.mem_of_getElem? (i := 1223) (by decide +kernel)) rfl
theorem se_yX8_missing : Cond.selects RX8 yX8_missing yX8_missing ∈ G0 := gq (List.mem_of_getElem? (i := 1224) (by decide +kernel)) rfl
theorem cd_yX8_missing : Cond.code yX8_missing cX8_missing 3 (some (FieldType.int)) ∈ G0 := gq (List.mem_of_getElem? (i := 1225) (by decide +kernel)) rfl
theorem ml_X8_263 : Cond.methodLink RX8 263 yX8_all ∈ G0 := gq (List.mem_of_getElem? (i := 1226) (by decide +kernel)) rfl
theorem im_yX8_all : Cond.instanceMethod yX8_all ∈ G0 := gq (List.mem_of_getElem? (i := 1228) (by decide +kernel)) rfl
theorem cd_yX8_all : Cond.code yX8_all cX8_all 3 (some (FieldType.int)) ∈ G0 := gq (List.mem_of_getElem? (i := 1229) (by decide +kernel)) rfl
theorem ml_L_141 : Cond.methodLink RL 141 yX8_chain ∈ G0 := gq (List.mem_of_getElem? (i := 1230) (by decide +kernel)) rfl
theorem im_yX8_chain : Cond.instanceMethod yX8_chain ∈ G0 := gq (List.mem_of_getElem? (i := 1231) (by decide +kernel)) rfl
theorem se_yX8_chain : Cond.selects RX8 yX8_chain yX8_chain ∈ G0 := gq (List.mem_of_getElem? (i := 1232) (by decide +kernel)) rfl
theorem cd_yX8_chain : Cond.code yX8_chain cX8_chain 7 (some (FieldType.int)) ∈ G0 := gq (List.mem_of_getElem? (i := 1233) (by decide +kernel)) rfl
theorem ml_L_144 : Cond.methodLink RL 144 yX8_ifDefined ∈ G0 := gq (List.mem_of_getElem? (i := 1234) (by decide +kernel)) rfl
theorem im_yX8_ifDefined : Cond.instanceMethod yX8_ifDefined ∈ G0 := gq (List.mem_of_getElem? (i := 1235) (by decide +kernel)) rfl
theorem se_yX8_ifDefined : Cond.selects RX8 yX8_ifDefined yX8_ifDefined ∈ G0 := gq (List.mem_of_getElem? (i := 1236) (by decide +kernel)) rfl
theorem cd_yX8_ifDefined : Cond.code yX8_ifDefined cX8_ifDefined 5 (some (FieldType.int)) ∈ G0 := gq (List.mem_of_getElem? (i := 1237) (by decide +kernel)) rfl
theorem ml_L_147 : Cond.methodLink RL 147 yX8_sign ∈ G0 := gq (List.mem_of_getElem? (i := 1238) (by decide +kernel)) rfl
theorem im_yX8_sign : Cond.instanceMethod yX8_sign ∈ G0 := gq (List.mem_of_getElem? (i := 1239) (by decide +kernel)) rfl
theorem se_yX8_sign : Cond.selects RX8 yX8_sign yX8_sign ∈ G0 := gq (List.mem_of_getElem? (i := 1240) (by decide +kernel)) rfl
theorem cd_yX8_sign : Cond.code yX8_sign cX8_sign 2 (some (FieldType.int)) ∈ G0 := gq (List.mem_of_getElem? (i := 1241) (by decide +kernel)) rfl
theorem ml_L_150 : Cond.methodLink RL 150 yX8_result ∈ G0 := gq (List.mem_of_getElem? (i := 1242) (by decide +kernel)) rfl
theorem im_yX8_result : Cond.instanceMethod yX8_result ∈ G0 := gq (List.mem_of_getElem? (i := 1243) (by decide +kernel)) rfl
theorem se_yX8_result : Cond.selects RX8 yX8_result yX8_result ∈ G0 := gq (List.mem_of_getElem? (i := 1244) (by decide +kernel)) rfl
theorem cd_yX8_result : Cond.code yX8_result cX8_result 2 (some (FieldType.int)) ∈ G0 := gq (List.mem_of_getElem? (i := 1245) (by decide +kernel)) rfl
theorem ml_X8_266 : Cond.methodLink RX8 266 yX8_signsAs ∈ G0 := gq (List.mem_of_getElem? (i := 1246) (by decide +kernel)) rfl
theorem im_yX8_signsAs : Cond.instanceMethod yX8_signsAs ∈ G0 := gq (List.mem_of_getElem? (i := 1248) (by decide +kernel)) rfl
theorem cd_yX8_signsAs : Cond.code yX8_signsAs cX8_signsAs 4 (some (FieldType.int)) ∈ G0 := gq (List.mem_of_getElem? (i := 1249) (by decide +kernel)) rfl
theorem ml_L_153 : Cond.methodLink RL 153 yX8_trace ∈ G0 := gq (List.mem_of_getElem? (i := 1250) (by decide +kernel)) rfl
theorem im_yX8_trace : Cond.instanceMethod yX8_trace ∈ G0 := gq (List.mem_of_getElem? (i := 1251) (by decide +kernel)) rfl
theorem se_yX8_trace : Cond.selects RX8 yX8_trace yX8_trace ∈ G0 := gq (List.mem_of_getElem? (i := 1252) (by decide +kernel)) rfl
theorem cd_yX8_trace : Cond.code yX8_trace cX8_trace 3 (some (FieldType.int)) ∈ G0 := gq (List.mem_of_getElem? (i := 1253) (by decide +kernel)) rfl
theorem ml_L_156 : Cond.methodLink RL 156 yX8_lengthOf ∈ G0 := gq (List.mem_of_getElem? (i := 1254) (by decide +kernel)) rfl
theorem im_yX8_lengthOf : Cond.instanceMethod yX8_lengthOf ∈ G0 := gq (List.mem_of_getElem? (i := 1255) (by decide +kernel)) rfl
theorem se_yX8_lengthOf : Cond.selects RX8 yX8_lengthOf yX8_lengthOf ∈ G0 := gq (List.mem_of_getElem? (i := 1256) (by decide +kernel)) rfl
theorem cd_yX8_lengthOf : Cond.code yX8_lengthOf cX8_lengthOf 3 (some (FieldType.int)) ∈ G0 := gq (List.mem_of_getElem? (i := 1257) (by decide +kernel)) rfl
theorem ml_L_159 : Cond.methodLink RL 159 yX8_count ∈ G0 := gq (List.mem_of_getElem? (i := 1258) (by decide +kernel)) rfl
theorem im_yX8_count : Cond.instanceMethod yX8_count ∈ G0 := gq (List.mem_of_getElem? (i := 1259) (by decide +kernel)) rfl
theorem se_yX8_count : Cond.selects RX8 yX8_count yX8_count ∈ G0 := gq (List.mem_of_getElem? (i := 1260) (by decide +kernel)) rfl
theorem cd_yX8_count : Cond.code yX8_count cX8_count 2 (some (FieldType.int)) ∈ G0 := gq (List.mem_of_getElem? (i := 1261) (by decide +kernel)) rfl
theorem ml_X8_269 : Cond.methodLink RX8 269 yX8_callsOfAll ∈ G0 := gq (List.mem_of_getElem? (i := 1262) (by decide +kernel)) rfl
theorem im_yX8_callsOfAll : Cond.instanceMethod yX8_callsOfAll ∈ G0 := gq (List.mem_of_getElem? (i := 1264) (by decide +kernel)) rfl
theorem cd_yX8_callsOfAll : Cond.code yX8_callsOfAll cX8_callsOfAll 3 (some (FieldType.int)) ∈ G0 := gq (List.mem_of_getElem? (i := 1265) (by decide +kernel)) rfl
theorem ml_L_164 : Cond.methodLink RL 164 yX8_meanHoles ∈ G0 := gq (List.mem_of_getElem? (i := 1266) (by decide +kernel)) rfl
theorem im_yX8_meanHoles : Cond.instanceMethod yX8_meanHoles ∈ G0 := gq (List.mem_of_getElem? (i := 1267) (by decide +kernel)) rfl
theorem se_yX8_meanHoles : Cond.selects RX8 yX8_meanHoles yX8_meanHoles ∈ G0 := gq (List.mem_of_getElem? (i := 1268) (by decide +kernel)) rfl
theorem cd_yX8_meanHoles : Cond.code yX8_meanHoles cX8_meanHoles 3 (some (FieldType.double)) ∈ G0 := gq (List.mem_of_getElem? (i := 1269) (by decide +kernel)) rfl
theorem wl_X0 : ∀ w ∈ u_ws RX0 TX0 3, w ∈ G0 := fun w h => gq ((show ∀ w ∈ u_ws RX0 TX0 3, w ∈ lw_tbl by decide +kernel) w h) ((show ∀ w ∈ u_ws RX0 TX0 3, goodWord w = true by decide +kernel) w h)
theorem wl_X1 : ∀ w ∈ u_ws RX1 TX1 14, w ∈ G0 := fun w h => gq ((show ∀ w ∈ u_ws RX1 TX1 14, w ∈ lw_tbl by decide +kernel) w h) ((show ∀ w ∈ u_ws RX1 TX1 14, goodWord w = true by decide +kernel) w h)
theorem wl_X2 : ∀ w ∈ u_ws RX2 TX2 4, w ∈ G0 := fun w h => gq ((show ∀ w ∈ u_ws RX2 TX2 4, w ∈ lw_tbl by decide +kernel) w h) ((show ∀ w ∈ u_ws RX2 TX2 4, goodWord w = true by decide +kernel) w h)
theorem wl_X3 : ∀ w ∈ u_ws RX3 TX3 4, w ∈ G0 := fun w h => gq ((show ∀ w ∈ u_ws RX3 TX3 4, w ∈ lw_tbl by decide +kernel) w h) ((show ∀ w ∈ u_ws RX3 TX3 4, goodWord w = true by decide +kernel) w h)
theorem wl_X4 : ∀ w ∈ u_ws RX4 TX4 10, w ∈ G0 := fun w h => gq ((show ∀ w ∈ u_ws RX4 TX4 10, w ∈ lw_tbl by decide +kernel) w h) ((show ∀ w ∈ u_ws RX4 TX4 10, goodWord w = true by decide +kernel) w h)
theorem wl_X5 : ∀ w ∈ u_ws RX5 TX5 5, w ∈ G0 := fun w h => gq ((show ∀ w ∈ u_ws RX5 TX5 5, w ∈ lw_tbl by decide +kernel) w h) ((show ∀ w ∈ u_ws RX5 TX5 5, goodWord w = true by decide +kernel) w h)
theorem wl_X6 : ∀ w ∈ u_ws RX6 TX6 7, w ∈ G0 := fun w h => gq ((show ∀ w ∈ u_ws RX6 TX6 7, w ∈ lw_tbl by decide +kernel) w h) ((show ∀ w ∈ u_ws RX6 TX6 7, goodWord w = true by decide +kernel) w h)
theorem wl_X7 : ∀ w ∈ u_ws RX7 TX7 7, w ∈ G0 := fun w h => gq ((show ∀ w ∈ u_ws RX7 TX7 7, w ∈ lw_tbl by decide +kernel) w h) ((show ∀ w ∈ u_ws RX7 TX7 7, goodWord w = true by decide +kernel) w h)
theorem wl_X8 : ∀ w ∈ u_ws RX8 TX8 43, w ∈ G0 := fun w h => gq ((show ∀ w ∈ u_ws RX8 TX8 43, w ∈ lw_tbl by decide +kernel) w h) ((show ∀ w ∈ u_ws RX8 TX8 43, goodWord w = true by decide +kernel) w h)
end
section
/-! MEMORY: a world is a partial map from ids to cells, with an address for each id; one bundle (Mm) holds at a frame: the tables, the cells, the addresses apart, all of them free, nothing else changed -/
abbrev tysK (κ : Nat → ClassId) : List (ClassId × FieldType) := [(κ 0, .int), (κ 1, .boolean), (κ 2, .object RX6), (κ 3, .object RX5), (κ 4, .long)]
def Mm (D : va_G) (κ : Nat → ClassId) (A : Nat → Prop) (ad : Nat → Nat) (M : Nat → Option va_E) (s : State) (H : Heap) (locs : List Loc) : Prop :=
  va_K D vwCl (tysK κ) s ∧ (∀ i e, M i = some e → va_at D vwCl (ad i, e) H ∧ A (ad i)) ∧ (∀ i j e e', M i = some e → M j = some e' → ad i = ad j → i = j) ∧ (∀ q, s.heap.size ≤ q → A q) ∧ va_S A s.heap H locs
def MW (D : va_G) (κ : Nat → ClassId) (A : Nat → Prop) (ad : Nat → Nat) (M : Nat → Option va_E) (U : State) : Prop := Mm D κ A ad M U U.heap []
theorem MW.blind {D : va_G} {κ : Nat → ClassId} {A : Nat → Prop} {ad : Nat → Nat} {M : Nat → Option va_E} {U : State} {g : JFrame} {mk : MethodId} {a : Array Value} (h : MW D κ A ad M U) : MW D κ A ad M (U.calling g mk a) := by
  obtain ⟨h1, h2, h3, h4, h5⟩ := h
  exact ⟨va_K.moved (u := U) (U := U.calling g mk a) (Vm.Alike.refl U.vm) h1, h2, h3, h4, h5⟩
theorem Mm.out {D : va_G} {κ : Nat → ClassId} {A : Nat → Prop} {ad : Nat → Nat} {M : Nat → Option va_E} {s t : State} {H : Heap} {locs : List Loc} (h : Mm D κ A ad M s H locs) (ht : t.heap = H) (hv : s.vm.Alike t.vm) : MW D κ A ad M t := by
  obtain ⟨h1, h2, h3, h4, h5⟩ := h
  subst ht
  exact ⟨va_K.moved hv h1, h2, h3, fun q hq => h4 q (Nat.le_trans h5.1 hq), va_S.rf⟩
theorem Mm.at {D : va_G} {κ : Nat → ClassId} {A : Nat → Prop} {ad : Nat → Nat} {M : Nat → Option va_E} {s : State} {H : Heap} {locs : List Loc} (h : Mm D κ A ad M s H locs) {i : Nat} {e : va_E} (hi : M i = some e) : va_P D vwCl [(ad i, e)] H := by
  intro k q hk
  cases k with
  | zero => cases hk; exact (h.2.1 i e hi).1
  | succ k => simp at hk
theorem Mm.put {D : va_G} {κ : Nat → ClassId} {A : Nat → Prop} {ad : Nat → Nat} {M M' : Nat → Option va_E} {s : State} {H H1 : Heap} {locs : List Loc} {i sl : Nat} {e0 e : va_E} (h : Mm D κ A ad M s H locs) (hi : M i = some e0) (hi' : M' i = some e) (hj : ∀ j, j ≠ i → M' j = M j) (he : va_at D vwCl (ad i, e) H1) (hz : H1.size = H.size) (hq : ∀ q : Nat, q ≠ ad i → H1[q]? = H[q]?) : Mm D κ A ad M' s H1 (locs ++ [⟨ad i, sl⟩]) := by
  obtain ⟨h1, h2, h3, h4, h5⟩ := h
  have dom : ∀ j x, M' j = some x → ∃ y, M j = some y := by
    intro j x hx
    by_cases hji : j = i
    · subst hji; exact ⟨_, hi⟩
    · exact ⟨x, by rw [← hj j hji]; exact hx⟩
  refine ⟨h1, fun j x hx => ?_, fun j k x y hx hy hxy => ?_, h4, h5.put hz hq (h2 i _ hi).2⟩
  · by_cases hji : j = i
    · subst hji
      have hxe : x = e := Option.some.inj (hx.symm.trans hi')
      subst hxe
      exact ⟨he, (h2 j _ hi).2⟩
    · have hx' : M j = some x := by rw [← hj j hji]; exact hx
      obtain ⟨g1, g2⟩ := h2 j x hx'
      exact ⟨g1.kept (hq _ (fun z => hji (h3 j i _ _ hx' hi z))), g2⟩
  · obtain ⟨x', hx'⟩ := dom j x hx
    obtain ⟨y', hy'⟩ := dom k y hy
    exact h3 j k x' y' hx' hy' hxy
theorem Mm.next {D : va_G} {κ : Nat → ClassId} {A : Nat → Prop} {ad ad' : Nat → Nat} {M M' : Nat → Option va_E} {s t : State} {H H1 : Heap} {locs locs1 : List Loc} (h : Mm D κ A ad M s H locs) (hB : MW D κ A ad' M' t) (ht : t.heap = H1) (hS : va_S A s.heap H1 locs1) : Mm D κ A ad' M' s H1 locs1 := by
  subst ht
  exact ⟨h.1, hB.2.1, hB.2.2.1, h.2.2.2.1, hS⟩
theorem Mm.same {D : va_G} {κ : Nat → ClassId} {A : Nat → Prop} {ad : Nat → Nat} {M M' : Nat → Option va_E} {s : State} {H : Heap} {locs : List Loc} (h : Mm D κ A ad M s H locs) (e : ∀ i, M' i = M i) : Mm D κ A ad M' s H locs := by
  have : M' = M := funext e
  rw [this]; exact h
section MEM
variable {p : Program} {l : Launch} {e : Env} {R : Room} {s : State} {m : MethodId} {args : Array Value} {below : List Frame} {meth : Method} {c : Code} {H : Heap} {locs : List Loc} {cells slots : Nat} {Q : State → Prop}
variable {cc : ByteArray} {pc nL : Nat} {ls : Array Slot} {rest : List Value} {D : va_G} {κ : Nat → ClassId} {A : Nat → Prop} {ad : Nat → Nat} {M : Nat → Option va_E} {own : String}
theorem m_get (X : CallFix p m c cc nL s args G0 own) (G : Mm D κ A ad M s H locs) {i ci k N index : Nat} {C : String} {T : u_T} {fs : List Value} {v : Value} (hM : M i = some (.inr (ci, fs))) (hc : vwCl[ci]? = some (C, T, N)) (hw : ∀ w ∈ u_ws C T N, w ∈ G0) (hk : k < N) (hl : Cond.fieldLink own index C (T k).2.1 (T k).2.2.1 ∈ G0) (ho : (T k).1 = C) (hv : fs[k]? = some v) (hdg : decode cc pc = .ok (.getfield index, 3))
    (kk : W p l e R s m args below meth c H locs cells slots Q (F0 m (pc + 3) ls (v :: rest))) : W p l e R s m args below meth c H locs cells slots Q (F0 m pc ls (.ref (ad i) :: rest)) :=
  va_get X.1 X.2.1 X.2.2.2.2 hw X.2.2.2.1 G.1 (G.at hM) 0 rfl hc k hk (X.2.2.2.2 _ hl) (fun x hx => by rw [ho] at hx; exact hx) hv hdg kk
theorem m_put (X : CallFix p m c cc nL s args G0 own) (G : Mm D κ A ad M s H locs) {i ci k N index : Nat} {C : String} {T : u_T} {fs : List Value} {v : Value} {M' : Nat → Option va_E} {ty0 : Nat → FieldType} (hM : M i = some (.inr (ci, fs))) (hc : vwCl[ci]? = some (C, T, N)) (hw : ∀ w ∈ u_ws C T N, w ∈ G0) (hty : ∀ k, k < N → parseFieldDescriptor (T k).2.2.1 = some (ty0 k)) (hnm : ∀ a, a < N → ∀ b, b < N → a ≠ b → (T a).2.1 ≠ (T b).2.1) (hk : k < N) (hl : Cond.fieldLink own index C (T k).2.1 (T k).2.2.1 ∈ G0) (ho : (T k).1 = C) (hfin : (T k).2.2.2 = false) (hn : narrow (ty0 k) v = v) (hfit : fits (ty0 k) v = true) (hlen : k < fs.length)
    (hM' : M' i = some (.inr (ci, fs.set k v))) (hj : ∀ j, j ≠ i → M' j = M j) (hdg : decode cc pc = .ok (.putfield index, 3))
    (kk : ∀ (H1 : Heap) (locs1 : List Loc), Mm D κ A ad M' s H1 locs1 → W p l e R s m args below meth c H1 locs1 cells slots Q (F0 m (pc + 3) ls rest)) : W p l e R s m args below meth c H locs cells slots Q (F0 m pc ls (v :: .ref (ad i) :: rest)) := by
  have hts := X.2.2.2.2
  have hK := G.1
  have hap := va_apart (own := own) hts hw ty0 hty hnm hK hc
  obtain ⟨r, h1, cell, q1, q2, q3, q4⟩ := (G.2.1 i _ hM).1
  have hr : r = (C, T, N) := Option.some.inj (h1.symm.trans hc)
  subst hr
  obtain ⟨hS, hfc, kC, hkC, hkind⟩ := hK.1 ci _ hc
  obtain ⟨cf, kf, fi, f, hi, hsl⟩ := hS k hk
  have hlay := hts _ (hw _ (u_in_lay hk))
  unfold u_lay at hlay
  rw [if_neg (by rw [hfin]; decide)] at hlay
  have hst := (u_facts hfc hkC (u_lays hts hw hk) hi).1
  have h6 := u_store hfc hkC hkind hlay hi (hty k hk) hn hfit
  refine W.putK X.1 X.2.1 (f := f) ⟨X.2.2.2.1, hts _ hl, ⟨_, _, _, by rw [ho] at hi; exact hi⟩, hst⟩ (by rw [q2]; exact h6) q1 q3 (by rw [hsl]; exact k2_hasslot (q4 k hk)) rfl rfl hdg fun H' e1 e2 e3 => ?_
  rw [hsl] at e1 ⊢
  exact kk H' _ (G.put hM hM' hj ⟨_, hc, t_OB.to (V := updV (vp_V fs) k v) ⟨_, e1, q2, q3, t_set q4 hap hk v⟩ (fun j _ => vp_updV_set hlen v j)⟩ e2 e3)
theorem m_iald (X : CallFix p m c cc nL s args G0 own) (G : Mm D κ A ad M s H locs) {i n : Nat} {f : Nat → Int32} {x : Int32} (hM : M i = some (.inl (κ 0, n, .inl f))) (hin : vp_in x n) (hdg : decode cc pc = .ok (.iaload, 1))
    (kk : W p l e R s m args below meth c H locs cells slots Q (F0 m (pc + 1) ls (.int (f x.toNatClampNeg) :: rest))) : W p l e R s m args below meth c H locs cells slots Q (F0 m pc ls (.int x :: .ref (ad i) :: rest)) :=
  va_iald X.1 X.2.1 G.1 (G.at hM) 0 0 rfl rfl hin hdg kk
theorem m_zald (X : CallFix p m c cc nL s args G0 own) (G : Mm D κ A ad M s H locs) {i n : Nat} {f : Nat → Int32} {x : Int32} (hM : M i = some (.inl (κ 1, n, .inl f))) (hin : vp_in x n) (hdg : decode cc pc = .ok (.baload, 1))
    (kk : W p l e R s m args below meth c H locs cells slots Q (F0 m (pc + 1) ls (.int (f x.toNatClampNeg) :: rest))) : W p l e R s m args below meth c H locs cells slots Q (F0 m pc ls (.int x :: .ref (ad i) :: rest)) :=
  va_zald X.1 X.2.1 G.1 (G.at hM) 0 1 rfl rfl hin hdg kk
theorem m_alen (X : CallFix p m c cc nL s args G0 own) (G : Mm D κ A ad M s H locs) {i n t0 : Nat} {cA : ClassId} {ty : FieldType} {x : vp_A} (hM : M i = some (.inl (cA, x))) (ht : (tysK κ)[t0]? = some (cA, ty)) (hn : x.1 = n) (hdg : decode cc pc = .ok (.arraylength, 1))
    (kk : W p l e R s m args below meth c H locs cells slots Q (F0 m (pc + 1) ls (.int (Int32.ofNat n) :: rest))) : W p l e R s m args below meth c H locs cells slots Q (F0 m pc ls (.ref (ad i) :: rest)) :=
  va_alen X.1 X.2.1 G.1 (G.at hM) 0 t0 rfl ht (by rw [hn]) hdg kk
theorem m_iast (X : CallFix p m c cc nL s args G0 own) (G : Mm D κ A ad M s H locs) {i n : Nat} {f : Nat → Int32} {x v : Int32} {M' : Nat → Option va_E} (hM : M i = some (.inl (κ 0, n, .inl f))) (hin : vp_in x n) (hM' : M' i = some (.inl (κ 0, n, .inl (upd f x.toNatClampNeg v)))) (hj : ∀ j, j ≠ i → M' j = M j) (hdg : decode cc pc = .ok (.iastore, 1))
    (kk : ∀ (H1 : Heap) (locs1 : List Loc), Mm D κ A ad M' s H1 locs1 → W p l e R s m args below meth c H1 locs1 cells slots Q (F0 m (pc + 1) ls rest)) : W p l e R s m args below meth c H locs cells slots Q (F0 m pc ls (.int v :: .int x :: .ref (ad i) :: rest)) := by
  refine W.iast X.1 X.2.1 (G.2.1 i _ hM).1 ((G.1.2 0 (κ 0, .int) rfl).1 n (fun j => .int (f j))) (fun q => by cases q) (by show ¬ (x < 0 ∨ (arrV _ _ _).slots.size ≤ _); rw [arrV_size]; exact hin) rfl rfl hdg fun H1 e z oq => ?_
  refine kk H1 _ (G.put hM hM' hj ?_ z oq)
  show H1[ad i]? = some (vp_cell _ _)
  rw [e]
  rw [vp_cell_i, vp_cell_i, arrV_store]
  congr 2
  funext q
  by_cases hq : q = x.toNatClampNeg
  · subst hq
    simp [updV, upd]
  · simp [updV, upd, hq]
theorem m_zast (X : CallFix p m c cc nL s args G0 own) (G : Mm D κ A ad M s H locs) {i n : Nat} {f : Nat → Int32} {x v : Int32} {M' : Nat → Option va_E} (hM : M i = some (.inl (κ 1, n, .inl f))) (hin : vp_in x n) (hM' : M' i = some (.inl (κ 1, n, .inl (upd f x.toNatClampNeg (vp_nar .boolean v))))) (hj : ∀ j, j ≠ i → M' j = M j) (hdg : decode cc pc = .ok (.bastore, 1))
    (kk : ∀ (H1 : Heap) (locs1 : List Loc), Mm D κ A ad M' s H1 locs1 → W p l e R s m args below meth c H1 locs1 cells slots Q (F0 m (pc + 1) ls rest)) : W p l e R s m args below meth c H locs cells slots Q (F0 m pc ls (.int v :: .int x :: .ref (ad i) :: rest)) := by
  refine W.zast X.1 X.2.1 (G.2.1 i _ hM).1 ((G.1.2 1 (κ 1, .boolean) rfl).1 n (fun j => .int (f j))) (fun q => by cases q) (by show ¬ (x < 0 ∨ (arrV _ _ _).slots.size ≤ _); rw [arrV_size]; exact hin) rfl rfl hdg fun H1 e z oq => ?_
  refine kk H1 _ (G.put hM hM' hj ?_ z oq)
  show H1[ad i]? = some (vp_cell _ _)
  rw [e]
  rw [vp_cell_i, vp_cell_i, arrV_store]
  congr 2
  funext q
  by_cases hq : q = x.toNatClampNeg
  · subst hq
    simp [updV, upd, vp_nar]
    try rfl
  · simp [updV, upd, hq]
end MEM
/-- a method's ends: what it answers is known, the world behind it too -/
abbrev QI (D : va_G) (κ : Nat → ClassId) (A : Nat → Prop) (ad : Nat → Nat) (M' : Nat → Option va_E) (v : Int32) : Array Value → State → Outcome → State → Prop := va_Qi (fun (x : Int32) (_ : Unit) => x = v) (fun _ t => MW D κ A ad M' t) A
abbrev QV (D : va_G) (κ : Nat → ClassId) (A : Nat → Prop) (ad : Nat → Nat) (M' : Nat → Option va_E) : Array Value → State → Outcome → State → Prop := va_Qv (fun (_ : Unit) => True) (fun _ t => MW D κ A ad M' t) A
/-- any method's head -/
theorem met_of {l : Launch} {y : MethodName} {own : String} {b : ByteArray} {nL : Nat} {ret : Option FieldType} {rm : Room} {As : List Value} {D : va_G} {κ : Nat → ClassId} {A : Nat → Prop} {ad : Nat → Nat} {M : Nat → Option va_E} {Qc : Array Value → State → Outcome → State → Prop} {mc ms : Nat} (hy : plainName y.cls = true) (ho : y.cls = own) (hn : (lg_sl As).length ≤ nL)
    (body : ∀ (p : Program) (e : Env) (s : State) (m : MethodId) (below : List Frame) (meth : Method) (c : Code) (ls : Array Slot), CallFix p m c b nL s As.toArray G0 own → meth.sig.returnType = ret → meth.locks = false → Mm D κ A ad M s s.heap [] → lv_has ls nL (lv_args 0 As) → W p l e rm s m As.toArray below meth c s.heap [] 0 0 (MQ below Qc As.toArray s mc ms A) (F0 m 0 ls [])) : Met l y (gw y b nL ret) rm (va_Pc As (MW D κ A ad M)) Qc mc ms A := by
  refine Met.ofW (cc := b) (maxL := nL) (ret := ret) hy rfl ?_
  intro p e s m args below meth c s₁ B hml hv
  obtain ⟨rfl, hG⟩ := hv
  have hts := atoms_spec (ws := gw y b nL ret) B.pre
  have hown : s.vm.findClass own = some m.cls := by rw [← ho]; exact findClass_of_methodNamed B.named
  have hl := lv_entry As (n := nL) hn
  rw [lg_entry_eq]
  exact body p e s m below meth c _ ⟨B.exec, B.bytes, hml, hown, fun w hw => hts w (List.mem_cons_of_mem _ hw)⟩ B.returns B.notSynchronized hG hl
section MCALL
variable {p : Program} {l : Launch} {e : Env} {R : Room} {s : State} {m : MethodId} {args : Array Value} {below : List Frame} {meth : Method} {c : Code} {H : Heap} {locs : List Loc} {cells slots : Nat} {Q : State → Prop}
variable {cc : ByteArray} {pc nL : Nat} {ls : Array Slot} {rest : List Value} {D : va_G} {κ : Nat → ClassId} {A : Nat → Prop} {ad : Nat → Nat} {M M' : Nat → Option va_E} {own : String} {lv : List (Nat × Value)}
theorem m_iret (X : CallFix p m c cc nL s args G0 own) (G : Mm D κ A ad M s H locs) {x v : Int32} (hr : meth.sig.returnType = some .int) (hl : meth.locks = false) (hdg : decode cc pc = .ok (.ireturn, 1)) (hx : x = v) (hM : M = M') : W p l e R s m args below meth c H locs cells slots (MQ below (QI D κ A ad M' v) args s cells slots A) (F0 m pc ls [.int x]) := by
  subst hx; subst hM
  exact W.iret X.1 X.2.1 hr (fun t ht hW => ⟨⟨x, (), rfl, rfl, G.out ht hW.alike⟩, G.2.2.2.2.F ht⟩) G.2.2.2.2.2.2 hdg hl
theorem m_zret (X : CallFix p m c cc nL s args G0 own) (G : Mm D κ A ad M s H locs) {x v : Int32} (hr : meth.sig.returnType = some .boolean) (hl : meth.locks = false) (hdg : decode cc pc = .ok (.ireturn, 1)) (hz : x = 0 ∨ x = 1) (hx : x = v) (hM : M = M') : W p l e R s m args below meth c H locs cells slots (MQ below (QI D κ A ad M' v) args s cells slots A) (F0 m pc ls [.int x]) := by
  subst hx; subst hM
  exact W.zret X.1 X.2.1 hr (by rcases hz with rfl | rfl <;> rfl) (fun t ht hW => ⟨⟨x, (), rfl, rfl, G.out ht hW.alike⟩, G.2.2.2.2.F ht⟩) G.2.2.2.2.2.2 hdg hl
theorem m_vret (X : CallFix p m c cc nL s args G0 own) (G : Mm D κ A ad M s H locs) (hr : meth.sig.returnType = none) (hl : meth.locks = false) (hdg : decode cc pc = .ok (.return_, 1)) (hM : M = M') : W p l e R s m args below meth c H locs cells slots (MQ below (QV D κ A ad M') args s cells slots A) (F0 m pc ls []) := by
  subst hM
  exact W.vret X.1 X.2.1 hr (fun t ht hW => ⟨⟨(), rfl, trivial, G.out ht hW.alike⟩, G.2.2.2.2.F ht⟩) G.2.2.2.2.2.2 hdg hl
theorem m_recv (G : Mm D κ A ad M s H locs) {i ci : Nat} {fs : List Value} {C : String} {T : u_T} {N : Nat} (hM : M i = some (.inr (ci, fs))) (hc : vwCl[ci]? = some (C, T, N)) : ∃ cell : Cell, H[ad i]? = some cell ∧ cell.vm.isStatics = false ∧ s.vm.findClass C = some cell.cls := va_recv (q := (C, T, N)) G.1 (G.at hM) hc (q0 := 0) rfl
theorem m_pre (G : Mm D κ A ad M s H locs) {U : State} (hU : U.heap = H) (hW : s.WarmedH U.vm) : MW D κ A ad M U := G.out hU hW.alike
theorem m_calli (X : CallFix p m c cc nL s args G0 own) (G : Mm D κ A ad M s H locs) {i ci N n index maxL : Nat} {fs As st : List Value} {C : String} {T : u_T} {y : MethodName} {b : ByteArray} {ret : FieldType} {rm : Room} {v : Int32}
    (hM : Met l y (gw y b maxL (some ret)) rm (va_Pc (.ref (ad i) :: As) (MW D κ A ad M)) (QI D κ A ad M' v) rm.cells rm.slots A) (hi : M i = some (.inr (ci, fs))) (hc : vwCl[ci]? = some (C, T, N)) (hG : GoodIn G0 (wsV own index C y (gw y b maxL (some ret))))
    (hd : y.cls = C ∧ y.cls ≠ "java/lang/invoke/MethodHandle" ∧ y.cls ≠ "java/lang/invoke/VarHandle" ∧ (parseMethodDescriptor y.desc).map (fun d => d.parameters.length) = some n) (hR : rm.frames + 1 ≤ R.frames ∧ 8 + (maxL + 11) + rm.locals ≤ R.locals) (hn : As.length = n) (hl : lv_has ls nL lv) (hst : st = As.reverse ++ .ref (ad i) :: rest) (hW : 2 * (F0 m pc ls st).monitorRoom + (rest.map fun v => v.category).sum ≤ 8) (hdg : decode cc pc = .ok (.invokevirtual index, 3)) (hf : cells + rm.cells ≤ R.cells ∧ slots + rm.slots ≤ R.slots)
    (kk : ∀ (H1 : Heap) (locs1 : List Loc), Mm D κ A ad M' s H1 locs1 → W p l e R s m args below meth c H1 locs1 (cells + rm.cells) (slots + rm.slots) Q (F0 m (pc + 3) ls (.int v :: rest))) : W p l e R s m args below meth c H locs cells slots Q (F0 m pc ls st) := by
  refine va_calli (va_runV X hM (cwV n X.2.2.2.2 hG rfl rfl rfl hd hR) ⟨fun a U g mk q => ⟨q.1, q.2.blind⟩, m_recv G hi hc, fun U hU hW => ⟨rfl, m_pre G hU hW⟩⟩ rfl hn hl.1 hst hW hdg hf) G.2.2.2.2 (fun q _ h => h) (fun q h => h) (fun r u t H1 locs1 ht hvm hw hB hz hk hS => ?_)
  subst hw
  exact kk H1 locs1 (G.next hB ht hS)
theorem m_callv (X : CallFix p m c cc nL s args G0 own) (G : Mm D κ A ad M s H locs) {i ci N n index maxL : Nat} {fs As st : List Value} {C : String} {T : u_T} {y : MethodName} {b : ByteArray} {rm : Room}
    (hM : Met l y (gw y b maxL none) rm (va_Pc (.ref (ad i) :: As) (MW D κ A ad M)) (QV D κ A ad M') rm.cells rm.slots A) (hi : M i = some (.inr (ci, fs))) (hc : vwCl[ci]? = some (C, T, N)) (hG : GoodIn G0 (wsV own index C y (gw y b maxL none)))
    (hd : y.cls = C ∧ y.cls ≠ "java/lang/invoke/MethodHandle" ∧ y.cls ≠ "java/lang/invoke/VarHandle" ∧ (parseMethodDescriptor y.desc).map (fun d => d.parameters.length) = some n) (hR : rm.frames + 1 ≤ R.frames ∧ 8 + (maxL + 11) + rm.locals ≤ R.locals) (hn : As.length = n) (hl : lv_has ls nL lv) (hst : st = As.reverse ++ .ref (ad i) :: rest) (hW : 2 * (F0 m pc ls st).monitorRoom + (rest.map fun v => v.category).sum ≤ 8) (hdg : decode cc pc = .ok (.invokevirtual index, 3)) (hf : cells + rm.cells ≤ R.cells ∧ slots + rm.slots ≤ R.slots)
    (kk : ∀ (H1 : Heap) (locs1 : List Loc), Mm D κ A ad M' s H1 locs1 → W p l e R s m args below meth c H1 locs1 (cells + rm.cells) (slots + rm.slots) Q (F0 m (pc + 3) ls rest)) : W p l e R s m args below meth c H locs cells slots Q (F0 m pc ls st) := by
  refine va_callv (va_runV X hM (cwV n X.2.2.2.2 hG rfl rfl rfl hd hR) ⟨fun a U g mk q => ⟨q.1, q.2.blind⟩, m_recv G hi hc, fun U hU hW => ⟨rfl, m_pre G hU hW⟩⟩ rfl hn hl.1 hst hW hdg hf) G.2.2.2.2 (fun q _ h => h) (fun q h => h) (fun u t H1 locs1 ht hvm hw hB hz hk hS => ?_)
  exact kk H1 locs1 (G.next hB ht hS)
theorem m_callsi (X : CallFix p m c cc nL s args G0 own) (G : Mm D κ A ad M s H locs) {n index maxL : Nat} {As st : List Value} {y : MethodName} {b : ByteArray} {ret : FieldType} {rm : Room} {v : Int32}
    (hM : Met l y (gw y b maxL (some ret)) rm (va_Pc As (MW D κ A ad M)) (QI D κ A ad M' v) rm.cells rm.slots A) (hG : GoodIn G0 (va_wsS own index y (gw y b maxL (some ret))))
    (hd : y.cls ≠ "java/lang/invoke/MethodHandle" ∧ y.cls ≠ "java/lang/invoke/VarHandle" ∧ (parseMethodDescriptor y.desc).map (fun d => d.parameters.length) = some n) (hR : rm.frames + 1 ≤ R.frames ∧ 8 + (maxL + 11) + rm.locals ≤ R.locals) (hn : As.length = n) (hl : lv_has ls nL lv) (hst : st = As.reverse ++ rest) (hW : 2 * (F0 m pc ls st).monitorRoom + (rest.map fun v => v.category).sum ≤ 8) (hdg : decode cc pc = .ok (.invokestatic index, 3)) (hf : cells + rm.cells ≤ R.cells ∧ slots + rm.slots ≤ R.slots)
    (kk : ∀ (H1 : Heap) (locs1 : List Loc), Mm D κ A ad M' s H1 locs1 → W p l e R s m args below meth c H1 locs1 (cells + rm.cells) (slots + rm.slots) Q (F0 m (pc + 3) ls (.int v :: rest))) : W p l e R s m args below meth c H locs cells slots Q (F0 m pc ls st) := by
  refine va_calli (va_runS X hM (va_cwS n X.2.2.2.2 hG rfl rfl rfl hd hR) ⟨fun a U g mk q => ⟨q.1, q.2.blind⟩, fun U hU hW => ⟨rfl, m_pre G hU hW⟩⟩ rfl hn hl.1 hst hW hdg hf) G.2.2.2.2 (fun q _ h => h) (fun q h => h) (fun r u t H1 locs1 ht hvm hw hB hz hk hS => ?_)
  subst hw
  exact kk H1 locs1 (G.next hB ht hS)
end MCALL
end
section
/-! COMBINATORS: what a method does, as a function of options: none where the machine would throw or a loop would not end -/
abbrev MS : Type := Nat → Nat → Int32
def up2 (z : MS) (a k : Nat) (v : Int32) : MS := fun x => if x = a then upd (z a) k v else z x
theorem up2_same (z : MS) (a k : Nat) (v : Int32) : up2 z a k v a = upd (z a) k v := if_pos rfl
theorem up2_ne (z : MS) {a k b : Nat} {v : Int32} (h : b ≠ a) : up2 z a k v b = z b := if_neg h
theorem up2_at (z : MS) (a k : Nat) (v : Int32) (b j : Nat) : up2 z a k v b j = if b = a ∧ j = k then v else z b j := by
  unfold up2
  by_cases hb : b = a
  · subst hb
    by_cases hj : j = k
    · simp [upd, hj]
    · simp [upd, hj]
  · simp [hb]
def rd {ρ : Type} (f : Nat → Int32) (n : Nat) (x : Int32) (K : Int32 → Option ρ) : Option ρ := if x < 0 ∨ n ≤ x.toNatClampNeg then none else K (f x.toNatClampNeg)
def wr {ρ : Type} (z : MS) (a n : Nat) (x v : Int32) (K : MS → Option ρ) : Option ρ := if x < 0 ∨ n ≤ x.toNatClampNeg then none else K (up2 z a x.toNatClampNeg v)
def bd {α ρ : Type} (x : α) (K : α → Option ρ) : Option ρ := K x
def bz {ρ : Type} (v : Int32) (K : Option ρ) : Option ρ := if v = 0 ∨ v = 1 then K else none
def nz {ρ : Type} (v : Int32) (K : Option ρ) : Option ρ := if v = 0 then none else K
def jp {κ : Type} {ρ : Type} (k : κ) (f : κ → Option ρ) : Option ρ := f k
def bn {α ρ : Type} : Option α → (α → Option ρ) → Option ρ
  | none, _ => none
  | some a, K => K a
def bn2 {α β ρ : Type} : Option (α × β) → (α → β → Option ρ) → Option ρ
  | none, _ => none
  | some a, K => K a.1 a.2
def li {σ ρ : Type} : Option ρ → Option (σ ⊕ ρ)
  | none => none
  | some a => some (.inr a)
theorem rd_some {ρ : Type} {f : Nat → Int32} {n : Nat} {x : Int32} {K : Int32 → Option ρ} {y : ρ} (h : rd f n x K = some y) : vp_in x n ∧ K (f x.toNatClampNeg) = some y := by
  unfold rd at h
  by_cases c : x < 0 ∨ n ≤ x.toNatClampNeg
  · rw [if_pos c] at h; cases h
  · rw [if_neg c] at h; exact ⟨c, h⟩
theorem wr_some {ρ : Type} {z : MS} {a n : Nat} {x v : Int32} {K : MS → Option ρ} {y : ρ} (h : wr z a n x v K = some y) : vp_in x n ∧ ∃ z1, z1 = up2 z a x.toNatClampNeg v ∧ K z1 = some y := by
  unfold wr at h
  by_cases c : x < 0 ∨ n ≤ x.toNatClampNeg
  · rw [if_pos c] at h; cases h
  · rw [if_neg c] at h; exact ⟨c, _, rfl, h⟩
theorem bd_some {α ρ : Type} {x : α} {K : α → Option ρ} {y : ρ} (h : bd x K = some y) : ∃ a, a = x ∧ K a = some y := ⟨x, rfl, h⟩
theorem bd_at {α ρ : Type} {x a : α} {K : α → Option ρ} {y : ρ} (h : bd x K = some y) (e : a = x) : K a = some y := by rw [e]; exact h
theorem bz_some {ρ : Type} {v : Int32} {K : Option ρ} {y : ρ} (h : bz v K = some y) : (v = 0 ∨ v = 1) ∧ K = some y := by
  unfold bz at h
  by_cases c : v = 0 ∨ v = 1
  · rw [if_pos c] at h; exact ⟨c, h⟩
  · rw [if_neg c] at h; cases h
theorem nz_some {ρ : Type} {v : Int32} {K : Option ρ} {y : ρ} (h : nz v K = some y) : ¬ v = 0 ∧ K = some y := by
  unfold nz at h
  by_cases c : v = 0
  · rw [if_pos c] at h; cases h
  · rw [if_neg c] at h; exact ⟨c, h⟩
theorem jp_some {κ ρ : Type} {k : κ} {f : κ → Option ρ} {y : ρ} (h : jp k f = some y) : ∃ k', k' = k ∧ f k' = some y := ⟨k, rfl, h⟩
theorem bn_some {α ρ : Type} {x : Option α} {K : α → Option ρ} {y : ρ} (h : bn x K = some y) : ∃ a, x = some a ∧ K a = some y := by
  cases x with
  | none => cases h
  | some a => exact ⟨a, rfl, h⟩
theorem bn2_some {α β ρ : Type} {x : Option (α × β)} {K : α → β → Option ρ} {y : ρ} (h : bn2 x K = some y) : ∃ a b, x = some (a, b) ∧ K a b = some y := by
  cases x with
  | none => cases h
  | some a => exact ⟨a.1, a.2, rfl, h⟩
theorem li_some {σ ρ : Type} {x : Option ρ} {y : σ ⊕ ρ} (h : li x = some y) : ∃ y', x = some y' ∧ y = .inr y' := by
  cases x with
  | none => cases h
  | some a => exact ⟨a, rfl, (Option.some.inj h).symm⟩
theorem it_pos {α : Type} {c : Prop} [Decidable c] {a b y : α} (h : (if c then a else b) = y) (hc : c) : a = y := by rw [if_pos hc] at h; exact h
theorem it_neg {α : Type} {c : Prop} [Decidable c] {a b y : α} (h : (if c then a else b) = y) (hc : ¬ c) : b = y := by rw [if_neg hc] at h; exact h
def loopN {σ ρ : Type} (f : σ → Option (σ ⊕ ρ)) : Nat → σ → Option ρ
  | 0, _ => none
  | n + 1, s => match f s with
    | none => none
    | some (.inl s') => loopN f n s'
    | some (.inr r) => some r
noncomputable def Loop {σ ρ : Type} (f : σ → Option (σ ⊕ ρ)) (s : σ) : Option ρ := by
  classical
  exact if h : ∃ n, loopN f n s ≠ none then loopN f (Classical.choose h) s else none
theorem loopN_le {σ ρ : Type} {f : σ → Option (σ ⊕ ρ)} {r : ρ} : ∀ {n k : Nat} {s : σ}, n ≤ k → loopN f n s = some r → loopN f k s = some r
  | 0, _, _, _, h => by cases h
  | n + 1, 0, _, hk, _ => absurd hk (by omega)
  | n + 1, k + 1, s, hk, h => by
    unfold loopN at h ⊢
    cases hf : f s with
    | none => rw [hf] at h; cases h
    | some z =>
      rw [hf] at h
      cases z with
      | inl s' => exact loopN_le (Nat.le_of_succ_le_succ hk) h
      | inr r' => exact h
theorem Loop_some {σ ρ : Type} {f : σ → Option (σ ⊕ ρ)} {s : σ} {r : ρ} (h : Loop f s = some r) : ∃ n, loopN f n s = some r := by
  unfold Loop at h
  split at h
  · exact ⟨_, h⟩
  · cases h
theorem Loop_of {σ ρ : Type} {f : σ → Option (σ ⊕ ρ)} {s : σ} {r : ρ} {n : Nat} (h : loopN f n s = some r) : Loop f s = some r := by
  have hx : ∃ n, loopN f n s ≠ none := ⟨n, by rw [h]; exact fun q => by cases q⟩
  unfold Loop
  rw [dif_pos hx]
  have h2 := Classical.choose_spec hx
  cases h3 : loopN f (Classical.choose hx) s with
  | none => exact absurd h3 h2
  | some r' =>
    rcases Nat.le_total n (Classical.choose hx) with q | q
    · exact h3.symm.trans (loopN_le q h)
    · exact (loopN_le q h3).symm.trans h
/-- what holds behind each round, if it holds of what the round leaves, holds of the start -/
theorem Loop_ind {σ ρ : Type} {f : σ → Option (σ ⊕ ρ)} {r : ρ} {P : σ → Prop} (step : ∀ s z, f s = some z → (∀ s', z = .inl s' → P s') → (∀ r', z = .inr r' → r' = r) → P s) {s : σ} (h : Loop f s = some r) : P s := by
  have h2 := Loop_some h
  clear h
  obtain ⟨n, h⟩ := h2
  induction n generalizing s with
  | zero => cases h
  | succ n ih =>
    unfold loopN at h
    cases hf : f s with
    | none => rw [hf] at h; cases h
    | some z =>
      rw [hf] at h
      refine step s z hf (fun s' e => ?_) (fun r' e => ?_)
      · subst e; exact ih h
      · subst e; exact Option.some.inj h
/-- a loop that goes on, and one that ends -/
theorem Loop_inl {σ ρ : Type} {f : σ → Option (σ ⊕ ρ)} {s s' : σ} (h : f s = some (.inl s')) : Loop f s = Loop f s' := by
  cases h1 : Loop f s' with
  | some r =>
    obtain ⟨n, hn⟩ := Loop_some h1
    exact Loop_of (n := n + 1) (by unfold loopN; rw [h]; exact hn)
  | none =>
    cases h2 : Loop f s with
    | none => rfl
    | some r =>
      obtain ⟨n, hn⟩ := Loop_some h2
      cases n with
      | zero => cases hn
      | succ n =>
        unfold loopN at hn
        rw [h] at hn
        rw [Loop_of hn] at h1
        cases h1
theorem Loop_inr {σ ρ : Type} {f : σ → Option (σ ⊕ ρ)} {s : σ} {r : ρ} (h : f s = some (.inr r)) : Loop f s = some r := Loop_of (n := 1) (by unfold loopN; rw [h])
/-- total: an invariant and a measure that falls -/
theorem Loop_tot {σ ρ : Type} {f : σ → Option (σ ⊕ ρ)} (I : σ → Prop) (μ : σ → Nat) (Q : ρ → Prop) (hs : ∀ s, I s → (∃ s', f s = some (.inl s') ∧ I s' ∧ μ s' < μ s) ∨ ∃ r, f s = some (.inr r) ∧ Q r) : ∀ s, I s → ∃ r, Loop f s = some r ∧ Q r := by
  have key : ∀ (n : Nat) (s : σ), μ s < n → I s → ∃ r, Loop f s = some r ∧ Q r := by
    intro n
    induction n with
    | zero => intro s h; exact absurd h (by omega)
    | succ n ih =>
      intro s hm hI
      rcases hs s hI with ⟨s', h1, h2, h3⟩ | ⟨r, h1, h2⟩
      · rw [Loop_inl h1]
        exact ih s' (by omega) h2
      · exact ⟨r, Loop_inr h1, h2⟩
  exact fun s hI => key _ s (Nat.lt_succ_self _) hI
theorem rd_in {ρ : Type} {f : Nat → Int32} {n : Nat} {x : Int32} {K : Int32 → Option ρ} (h : vp_in x n) : rd f n x K = K (f x.toNatClampNeg) := if_neg h
theorem wr_in {ρ : Type} {z : MS} {a n : Nat} {x v : Int32} {K : MS → Option ρ} (h : vp_in x n) : wr z a n x v K = K (up2 z a x.toNatClampNeg v) := if_neg h
theorem rd_nI {ρ : Type} {f : Nat → Int32} {n k : Nat} {K : Int32 → Option ρ} (h : k < n) (hn : n < 2 ^ 31) : rd f n (nI k) K = K (f k) := by
  rw [rd_in (vp_in_nI h hn), nI_clamp (Nat.lt_trans h hn)]
theorem wr_nI {ρ : Type} {z : MS} {a n k : Nat} {v : Int32} {K : MS → Option ρ} (h : k < n) (hn : n < 2 ^ 31) : wr z a n (nI k) v K = K (up2 z a k v) := by
  rw [wr_in (vp_in_nI h hn), nI_clamp (Nat.lt_trans h hn)]
end
section
/-! THE REFERENCE'S WORLD: the object at id 43, the array of slot k at id k; its state: z 43 k is the field in slot k, z k i the element i of the array in slot k -/
def isA8 : Nat → Bool := fun k => decide (k < 43) && decide (tyX8 k ≠ .int) && decide (tyX8 k ≠ .boolean)
def len8 : Nat → Nat := fun k => match k with
  | 0 => 2153 | 1 => 12918 | 3 => 4306 | 4 => 2 | 5 => 60 | 8 => 60 | 10 => 14 | 11 => 14 | 12 => 14 | 13 => 14 | 14 => 14 | 15 => 14 | 16 => 84 | 19 => 400 | 20 => 400 | 21 => 2400 | 23 => 401 | 27 => 360 | 29 => 430 | 30 => 430 | 31 => 430 | 33 => 62 | 34 => 62 | 35 => 62 | 36 => 62 | 37 => 372 | 40 => 26 | 41 => 26 | 42 => 60
  | _ => 0
def obj8 (ad : Nat → Nat) (z : MS) : List Value := (List.range 43).map fun k => if isA8 k = true then Value.ref (ad k) else .int (z 43 k)
def celM (κ : Nat → ClassId) (ad : Nat → Nat) (r0 : Nat → Option va_E) (z : MS) : Nat → Option va_E := fun i =>
  if i = 43 then some (.inr (8, obj8 ad z)) else if isA8 i = true then some (.inl (if i = 4 then κ 1 else κ 0, len8 i, .inl (z i))) else r0 i
theorem celM_o {κ : Nat → ClassId} {ad : Nat → Nat} {r0 : Nat → Option va_E} {z : MS} : celM κ ad r0 z 43 = some (.inr (8, obj8 ad z)) := if_pos rfl
theorem celM_a {κ : Nat → ClassId} {ad : Nat → Nat} {r0 : Nat → Option va_E} {z : MS} {i : Nat} (h : isA8 i = true) (h4 : i ≠ 4) : celM κ ad r0 z i = some (.inl (κ 0, len8 i, .inl (z i))) := by
  unfold celM
  rw [if_neg (fun q => by subst q; exact absurd h (by decide +kernel)), if_pos h, if_neg h4]
theorem celM_4 {κ : Nat → ClassId} {ad : Nat → Nat} {r0 : Nat → Option va_E} {z : MS} : celM κ ad r0 z 4 = some (.inl (κ 1, 2, .inl (z 4))) := by
  unfold celM
  rw [if_neg (by decide), if_pos (by decide +kernel), if_pos rfl]
  rfl
theorem obj8_get {ad : Nat → Nat} {z : MS} {k : Nat} (hk : k < 43) : (obj8 ad z)[k]? = some (if isA8 k = true then Value.ref (ad k) else .int (z 43 k)) := by
  unfold obj8
  rw [List.getElem?_map, List.getElem?_range hk]
  rfl
theorem obj8_set {ad : Nat → Nat} {z : MS} {k : Nat} {v : Int32} (hk : k < 43) (h : isA8 k = false) : (obj8 ad z).set k (.int v) = obj8 ad (up2 z 43 k v) := by
  apply List.ext_getElem?
  intro j
  by_cases hj : j < 43
  · rw [obj8_get hj]
    by_cases e : j = k
    · subst e
      rw [List.getElem?_set_self (by simp [obj8]; exact hj), if_neg (by rw [h]; decide), up2_same]
      simp [upd]
    · rw [List.getElem?_set_ne (Ne.symm e), obj8_get hj, up2_same]
      simp [upd, e]
  · rw [List.getElem?_eq_none (by simp [obj8]; omega), List.getElem?_eq_none (by simp [obj8]; omega)]
theorem celM_up {κ : Nat → ClassId} {ad : Nat → Nat} {r0 : Nat → Option va_E} {z : MS} {a k : Nat} {v : Int32} (j : Nat) (h : j ≠ a) (ha : a = 43 ∨ (isA8 a = true ∧ j ≠ 43)) : celM κ ad r0 (up2 z a k v) j = celM κ ad r0 z j := by
  unfold celM
  rcases ha with rfl | ⟨h1, h2⟩
  · rw [if_neg h, if_neg h, up2_ne z h]
  · rw [if_neg h2, if_neg h2, up2_ne z h]
theorem obj8_arr {ad : Nat → Nat} {z : MS} {a k : Nat} {v : Int32} (h : a ≠ 43) : obj8 ad (up2 z a k v) = obj8 ad z := by
  unfold obj8
  rw [up2_ne z (Ne.symm h)]
theorem celM_arr {κ : Nat → ClassId} {ad : Nat → Nat} {r0 : Nat → Option va_E} {z : MS} {a k : Nat} {v : Int32} (ha : isA8 a = true) (j : Nat) (h : j ≠ a) : celM κ ad r0 (up2 z a k v) j = celM κ ad r0 z j := by
  by_cases e : j = 43
  · subst e
    rw [celM_o, celM_o, obj8_arr (fun q => h q.symm)]
  · exact celM_up j h (Or.inr ⟨ha, e⟩)
theorem T8_cls : ∀ k, k < 43 → (TX8 k).1 = RX8 := by decide +kernel
theorem T8_int : ∀ k, k < 43 → tyX8 k = .int → isA8 k = false ∧ (TX8 k).2.2.2 = false := by decide +kernel
theorem T8_bool : ∀ k, k < 43 → tyX8 k = .boolean → isA8 k = false ∧ (TX8 k).2.2.2 = false := by decide +kernel
section ML
variable {p : Program} {l : Launch} {e : Env} {R : Room} {s : State} {m : MethodId} {args : Array Value} {below : List Frame} {meth : Method} {c : Code} {H : Heap} {locs : List Loc} {cells slots : Nat} {Q : State → Prop}
variable {cc : ByteArray} {pc nL : Nat} {ls : Array Slot} {rest : List Value} {D : va_G} {κ : Nat → ClassId} {A : Nat → Prop} {ad : Nat → Nat} {r0 : Nat → Option va_E} {z : MS} {own : String} {lv : List (Nat × Value)}
theorem M_geti (X : CallFix p m c cc nL s args G0 own) (G : Mm D κ A ad (celM κ ad r0 z) s H locs) (k : Nat) {index : Nat} (hk : k < 43) (ha : isA8 k = false) (hl : Cond.fieldLink own index RX8 (TX8 k).2.1 (TX8 k).2.2.1 ∈ G0) (hdg : decode cc pc = .ok (.getfield index, 3))
    (kk : W p l e R s m args below meth c H locs cells slots Q (F0 m (pc + 3) ls (.int (z 43 k) :: rest))) : W p l e R s m args below meth c H locs cells slots Q (F0 m pc ls (.ref (ad 43) :: rest)) :=
  m_get X G celM_o rfl wl_X8 hk hl (T8_cls k hk) (by rw [obj8_get hk, ha]; rfl) hdg kk
theorem M_getr (X : CallFix p m c cc nL s args G0 own) (G : Mm D κ A ad (celM κ ad r0 z) s H locs) (k : Nat) {index : Nat} (hk : k < 43) (ha : isA8 k = true) (hl : Cond.fieldLink own index RX8 (TX8 k).2.1 (TX8 k).2.2.1 ∈ G0) (hdg : decode cc pc = .ok (.getfield index, 3))
    (kk : W p l e R s m args below meth c H locs cells slots Q (F0 m (pc + 3) ls (.ref (ad k) :: rest))) : W p l e R s m args below meth c H locs cells slots Q (F0 m pc ls (.ref (ad 43) :: rest)) :=
  m_get X G celM_o rfl wl_X8 hk hl (T8_cls k hk) (by rw [obj8_get hk, ha]; rfl) hdg kk
theorem M_puti (X : CallFix p m c cc nL s args G0 own) (G : Mm D κ A ad (celM κ ad r0 z) s H locs) (k : Nat) {index : Nat} {v : Int32} {z1 : MS} (hz : z1 = up2 z 43 k v) (hk : k < 43) (ht : tyX8 k = .int) (hl : Cond.fieldLink own index RX8 (TX8 k).2.1 (TX8 k).2.2.1 ∈ G0) (hdg : decode cc pc = .ok (.putfield index, 3))
    (kk : ∀ (H : Heap) (locs : List Loc), Mm D κ A ad (celM κ ad r0 z1) s H locs → W p l e R s m args below meth c H locs cells slots Q (F0 m (pc + 3) ls rest)) : W p l e R s m args below meth c H locs cells slots Q (F0 m pc ls (.int v :: .ref (ad 43) :: rest)) := by
  subst hz
  obtain ⟨ha, hf⟩ := T8_int k hk ht
  exact m_put X G celM_o rfl wl_X8 tyX8_ok nmX8 hk hl (T8_cls k hk) hf (by rw [ht]; exact vp_nar_int v) (by rw [ht]; rfl) (by simp [obj8]; exact hk) (by rw [celM_o, obj8_set hk ha]) (fun j hj => celM_up j hj (Or.inl rfl)) hdg kk
theorem M_putz (X : CallFix p m c cc nL s args G0 own) (G : Mm D κ A ad (celM κ ad r0 z) s H locs) (k : Nat) {index : Nat} {v : Int32} {z1 : MS} (hz : z1 = up2 z 43 k v) (hk : k < 43) (ht : tyX8 k = .boolean) (hv : v = 0 ∨ v = 1) (hl : Cond.fieldLink own index RX8 (TX8 k).2.1 (TX8 k).2.2.1 ∈ G0) (hdg : decode cc pc = .ok (.putfield index, 3))
    (kk : ∀ (H : Heap) (locs : List Loc), Mm D κ A ad (celM κ ad r0 z1) s H locs → W p l e R s m args below meth c H locs cells slots Q (F0 m (pc + 3) ls rest)) : W p l e R s m args below meth c H locs cells slots Q (F0 m pc ls (.int v :: .ref (ad 43) :: rest)) := by
  subst hz
  obtain ⟨ha, hf⟩ := T8_bool k hk ht
  exact m_put X G celM_o rfl wl_X8 tyX8_ok nmX8 hk hl (T8_cls k hk) hf (by rw [ht]; rcases hv with rfl | rfl <;> rfl) (by rw [ht]; rcases hv with rfl | rfl <;> rfl) (by simp [obj8]; exact hk) (by rw [celM_o, obj8_set hk ha]) (fun j hj => celM_up j hj (Or.inl rfl)) hdg kk
theorem M_iald (X : CallFix p m c cc nL s args G0 own) (G : Mm D κ A ad (celM κ ad r0 z) s H locs) {i n : Nat} {x : Int32} (hi : isA8 i = true) (h4 : i ≠ 4) (hn : len8 i = n) (hin : vp_in x n) (hdg : decode cc pc = .ok (.iaload, 1))
    (kk : W p l e R s m args below meth c H locs cells slots Q (F0 m (pc + 1) ls (.int (z i x.toNatClampNeg) :: rest))) : W p l e R s m args below meth c H locs cells slots Q (F0 m pc ls (.int x :: .ref (ad i) :: rest)) :=
  m_iald X G (celM_a hi h4) (by rw [hn]; exact hin) hdg kk
theorem M_zald (X : CallFix p m c cc nL s args G0 own) (G : Mm D κ A ad (celM κ ad r0 z) s H locs) {x : Int32} (hin : vp_in x 2) (hdg : decode cc pc = .ok (.baload, 1))
    (kk : W p l e R s m args below meth c H locs cells slots Q (F0 m (pc + 1) ls (.int (z 4 x.toNatClampNeg) :: rest))) : W p l e R s m args below meth c H locs cells slots Q (F0 m pc ls (.int x :: .ref (ad 4) :: rest)) :=
  m_zald X G celM_4 hin hdg kk
theorem M_iast (X : CallFix p m c cc nL s args G0 own) (G : Mm D κ A ad (celM κ ad r0 z) s H locs) {i n : Nat} {x v : Int32} {z1 : MS} (hz : z1 = up2 z i x.toNatClampNeg v) (hi : isA8 i = true) (h4 : i ≠ 4) (hn : len8 i = n) (hin : vp_in x n) (hdg : decode cc pc = .ok (.iastore, 1))
    (kk : ∀ (H : Heap) (locs : List Loc), Mm D κ A ad (celM κ ad r0 z1) s H locs → W p l e R s m args below meth c H locs cells slots Q (F0 m (pc + 1) ls rest)) : W p l e R s m args below meth c H locs cells slots Q (F0 m pc ls (.int v :: .int x :: .ref (ad i) :: rest)) := by
  subst hz
  exact m_iast X G (celM_a hi h4) (by rw [hn]; exact hin) (by rw [celM_a hi h4, up2_same]) (fun j hj => celM_arr hi j hj) hdg kk
theorem M_zast (X : CallFix p m c cc nL s args G0 own) (G : Mm D κ A ad (celM κ ad r0 z) s H locs) {x v : Int32} {z1 : MS} (hz : z1 = up2 z 4 x.toNatClampNeg v) (hv : v = 0 ∨ v = 1) (hin : vp_in x 2) (hdg : decode cc pc = .ok (.bastore, 1))
    (kk : ∀ (H : Heap) (locs : List Loc), Mm D κ A ad (celM κ ad r0 z1) s H locs → W p l e R s m args below meth c H locs cells slots Q (F0 m (pc + 1) ls rest)) : W p l e R s m args below meth c H locs cells slots Q (F0 m pc ls (.int v :: .int x :: .ref (ad 4) :: rest)) := by
  subst hz
  have e : vp_nar .boolean v = v := by rcases hv with rfl | rfl <;> rfl
  exact m_zast X G celM_4 hin (by rw [celM_4, up2_same, e]) (fun j hj => celM_arr (by decide +kernel) j hj) hdg kk
theorem M_calli (X : CallFix p m c cc nL s args G0 own) (G : Mm D κ A ad (celM κ ad r0 z) s H locs) {n index maxL : Nat} {As st : List Value} {y : MethodName} {b : ByteArray} {ret : FieldType} {rm : Room} {v : Int32} {z1 : MS} (h0 : rm.cells = 0) (h1 : rm.slots = 0)
    (hM : Met l y (gw y b maxL (some ret)) rm (va_Pc (.ref (ad 43) :: As) (MW D κ A ad (celM κ ad r0 z))) (QI D κ A ad (celM κ ad r0 z1) v) 0 0 A) (hG : GoodIn G0 (wsV own index RX8 y (gw y b maxL (some ret))))
    (hd : y.cls = RX8 ∧ y.cls ≠ "java/lang/invoke/MethodHandle" ∧ y.cls ≠ "java/lang/invoke/VarHandle" ∧ (parseMethodDescriptor y.desc).map (fun d => d.parameters.length) = some n) (hR : rm.frames + 1 ≤ R.frames ∧ 8 + (maxL + 11) + rm.locals ≤ R.locals) (hn : As.length = n) (hl : lv_has ls nL lv) (hst : st = As.reverse ++ .ref (ad 43) :: rest) (hW : 2 * (F0 m pc ls st).monitorRoom + (rest.map fun v => v.category).sum ≤ 8) (hdg : decode cc pc = .ok (.invokevirtual index, 3)) (hf : cells ≤ R.cells ∧ slots ≤ R.slots)
    (kk : ∀ (H : Heap) (locs : List Loc), Mm D κ A ad (celM κ ad r0 z1) s H locs → W p l e R s m args below meth c H locs cells slots Q (F0 m (pc + 3) ls (.int v :: rest))) : W p l e R s m args below meth c H locs cells slots Q (F0 m pc ls st) :=
  m_calli X G (rm := rm) (by rw [h0, h1]; exact hM) celM_o rfl hG hd hR hn hl hst hW hdg (by rw [h0, h1]; exact hf) (by rw [h0, h1]; exact kk)
theorem M_callv (X : CallFix p m c cc nL s args G0 own) (G : Mm D κ A ad (celM κ ad r0 z) s H locs) {n index maxL : Nat} {As st : List Value} {y : MethodName} {b : ByteArray} {rm : Room} {z1 : MS} (h0 : rm.cells = 0) (h1 : rm.slots = 0)
    (hM : Met l y (gw y b maxL none) rm (va_Pc (.ref (ad 43) :: As) (MW D κ A ad (celM κ ad r0 z))) (QV D κ A ad (celM κ ad r0 z1)) 0 0 A) (hG : GoodIn G0 (wsV own index RX8 y (gw y b maxL none)))
    (hd : y.cls = RX8 ∧ y.cls ≠ "java/lang/invoke/MethodHandle" ∧ y.cls ≠ "java/lang/invoke/VarHandle" ∧ (parseMethodDescriptor y.desc).map (fun d => d.parameters.length) = some n) (hR : rm.frames + 1 ≤ R.frames ∧ 8 + (maxL + 11) + rm.locals ≤ R.locals) (hn : As.length = n) (hl : lv_has ls nL lv) (hst : st = As.reverse ++ .ref (ad 43) :: rest) (hW : 2 * (F0 m pc ls st).monitorRoom + (rest.map fun v => v.category).sum ≤ 8) (hdg : decode cc pc = .ok (.invokevirtual index, 3)) (hf : cells ≤ R.cells ∧ slots ≤ R.slots)
    (kk : ∀ (H : Heap) (locs : List Loc), Mm D κ A ad (celM κ ad r0 z1) s H locs → W p l e R s m args below meth c H locs cells slots Q (F0 m (pc + 3) ls rest)) : W p l e R s m args below meth c H locs cells slots Q (F0 m pc ls st) :=
  m_callv X G (rm := rm) (by rw [h0, h1]; exact hM) celM_o rfl hG hd hR hn hl hst hW hdg (by rw [h0, h1]; exact hf) (by rw [h0, h1]; exact kk)
theorem m_callsi0 (X : CallFix p m c cc nL s args G0 own) {M : Nat → Option va_E} (G : Mm D κ A ad M s H locs) {n index maxL : Nat} {As st : List Value} {y : MethodName} {b : ByteArray} {ret : FieldType} {rm : Room} {v : Int32} (h0 : rm.cells = 0) (h1 : rm.slots = 0)
    (hM : Met l y (gw y b maxL (some ret)) rm (va_Pc As (MW D κ A ad M)) (QI D κ A ad M v) 0 0 A) (hG : GoodIn G0 (va_wsS own index y (gw y b maxL (some ret))))
    (hd : y.cls ≠ "java/lang/invoke/MethodHandle" ∧ y.cls ≠ "java/lang/invoke/VarHandle" ∧ (parseMethodDescriptor y.desc).map (fun d => d.parameters.length) = some n) (hR : rm.frames + 1 ≤ R.frames ∧ 8 + (maxL + 11) + rm.locals ≤ R.locals) (hn : As.length = n) (hl : lv_has ls nL lv) (hst : st = As.reverse ++ rest) (hW : 2 * (F0 m pc ls st).monitorRoom + (rest.map fun v => v.category).sum ≤ 8) (hdg : decode cc pc = .ok (.invokestatic index, 3)) (hf : cells ≤ R.cells ∧ slots ≤ R.slots)
    (kk : ∀ (H : Heap) (locs : List Loc), Mm D κ A ad M s H locs → W p l e R s m args below meth c H locs cells slots Q (F0 m (pc + 3) ls (.int v :: rest))) : W p l e R s m args below meth c H locs cells slots Q (F0 m pc ls st) :=
  m_callsi X G (rm := rm) (by rw [h0, h1]; exact hM) hG hd hR hn hl hst hW hdg (by rw [h0, h1]; exact hf) (by rw [h0, h1]; exact kk)
end ML
theorem sw_out {x : Int32} {n : Nat} (hn : n < 2 ^ 31) (h : ∀ k, k ≤ n → x ≠ nI k) : x.toInt < 0 ∨ (n : Int) < x.toInt := by
  by_cases h0 : x.toInt < 0
  · exact Or.inl h0
  · refine Or.inr ?_
    by_cases h1 : x.toInt ≤ n
    · obtain ⟨j, hj⟩ := Int.eq_ofNat_of_zero_le (Int.not_lt.mp h0)
      refine absurd ?_ (h j (by omega))
      apply Int32.toInt_inj.mp
      rw [hj, nI_toInt (by omega)]
    · omega
end
section
/-! THE REFERENCE, laid by wip/whole/walk.py: F8_: what a method does; c8_: the machine does it -/
theorem g_X8_102 : GoodIn G0 (va_wsS RX8 102 yX8_in (gw yX8_in cX8_in 3 (some (FieldType.boolean)))) := gsS_in ml_X8_102 sm_yX8_in ini_X8 cd_yX8_in
theorem hs_yX8_in : yX8_in.cls ≠ "java/lang/invoke/MethodHandle" ∧ yX8_in.cls ≠ "java/lang/invoke/VarHandle" ∧ (parseMethodDescriptor yX8_in.desc).map (fun d => d.parameters.length) = some 3 := by decide +kernel
theorem g_X8_112 : GoodIn G0 (wsV RX8 112 RX8 yX8_isDefined (gw yX8_isDefined cX8_isDefined 2 (some (FieldType.boolean)))) := gv_in ml_X8_112 im_yX8_isDefined se_yX8_isDefined ini_X8 cd_yX8_isDefined
theorem hd_yX8_isDefined : yX8_isDefined.cls = RX8 ∧ yX8_isDefined.cls ≠ "java/lang/invoke/MethodHandle" ∧ yX8_isDefined.cls ≠ "java/lang/invoke/VarHandle" ∧ (parseMethodDescriptor yX8_isDefined.desc).map (fun d => d.parameters.length) = some 1 := by decide +kernel
theorem g_X8_116 : GoodIn G0 (wsV RX8 116 RX8 yX8_refused (gw yX8_refused cX8_refused 2 (some (FieldType.boolean)))) := gv_in ml_X8_116 im_yX8_refused se_yX8_refused ini_X8 cd_yX8_refused
theorem hd_yX8_refused : yX8_refused.cls = RX8 ∧ yX8_refused.cls ≠ "java/lang/invoke/MethodHandle" ∧ yX8_refused.cls ≠ "java/lang/invoke/VarHandle" ∧ (parseMethodDescriptor yX8_refused.desc).map (fun d => d.parameters.length) = some 1 := by decide +kernel
theorem g_X8_122 : GoodIn G0 (va_wsS RX8 122 yX8_isPlain (gw yX8_isPlain cX8_isPlain 1 (some (FieldType.boolean)))) := gsS_in ml_X8_122 sm_yX8_isPlain ini_X8 cd_yX8_isPlain
theorem hs_yX8_isPlain : yX8_isPlain.cls ≠ "java/lang/invoke/MethodHandle" ∧ yX8_isPlain.cls ≠ "java/lang/invoke/VarHandle" ∧ (parseMethodDescriptor yX8_isPlain.desc).map (fun d => d.parameters.length) = some 1 := by decide +kernel
theorem g_X8_125 : GoodIn G0 (va_wsS RX8 125 yX8_isCall (gw yX8_isCall cX8_isCall 1 (some (FieldType.boolean)))) := gsS_in ml_X8_125 sm_yX8_isCall ini_X8 cd_yX8_isCall
theorem hs_yX8_isCall : yX8_isCall.cls ≠ "java/lang/invoke/MethodHandle" ∧ yX8_isCall.cls ≠ "java/lang/invoke/VarHandle" ∧ (parseMethodDescriptor yX8_isCall.desc).map (fun d => d.parameters.length) = some 1 := by decide +kernel
theorem g_X8_128 : GoodIn G0 (wsV RX8 128 RX8 yX8_error (gw yX8_error cX8_error 5 (some (FieldType.int)))) := gv_in ml_X8_128 im_yX8_error se_yX8_error ini_X8 cd_yX8_error
theorem hd_yX8_error : yX8_error.cls = RX8 ∧ yX8_error.cls ≠ "java/lang/invoke/MethodHandle" ∧ yX8_error.cls ≠ "java/lang/invoke/VarHandle" ∧ (parseMethodDescriptor yX8_error.desc).map (fun d => d.parameters.length) = some 0 := by decide +kernel
theorem g_X8_132 : GoodIn G0 (va_wsS RX8 132 yX8_isLetter (gw yX8_isLetter cX8_isLetter 1 (some (FieldType.boolean)))) := gsS_in ml_X8_132 sm_yX8_isLetter ini_X8 cd_yX8_isLetter
theorem hs_yX8_isLetter : yX8_isLetter.cls ≠ "java/lang/invoke/MethodHandle" ∧ yX8_isLetter.cls ≠ "java/lang/invoke/VarHandle" ∧ (parseMethodDescriptor yX8_isLetter.desc).map (fun d => d.parameters.length) = some 1 := by decide +kernel
theorem g_X8_135 : GoodIn G0 (wsV RX8 135 RX8 yX8_signOf (gw yX8_signOf cX8_signOf 3 (some (FieldType.int)))) := gv_in ml_X8_135 im_yX8_signOf se_yX8_signOf ini_X8 cd_yX8_signOf
theorem hd_yX8_signOf : yX8_signOf.cls = RX8 ∧ yX8_signOf.cls ≠ "java/lang/invoke/MethodHandle" ∧ yX8_signOf.cls ≠ "java/lang/invoke/VarHandle" ∧ (parseMethodDescriptor yX8_signOf.desc).map (fun d => d.parameters.length) = some 2 := by decide +kernel
theorem g_X8_139 : GoodIn G0 (wsV RX8 139 RX8 yX8_isWhole (gw yX8_isWhole cX8_isWhole 1 (some (FieldType.boolean)))) := gv_in ml_X8_139 im_yX8_isWhole se_yX8_isWhole ini_X8 cd_yX8_isWhole
theorem hd_yX8_isWhole : yX8_isWhole.cls = RX8 ∧ yX8_isWhole.cls ≠ "java/lang/invoke/MethodHandle" ∧ yX8_isWhole.cls ≠ "java/lang/invoke/VarHandle" ∧ (parseMethodDescriptor yX8_isWhole.desc).map (fun d => d.parameters.length) = some 0 := by decide +kernel
theorem g_X8_143 : GoodIn G0 (wsV RX8 143 RX8 yX8_saves (gw yX8_saves cX8_saves 2 none)) := gv_in ml_X8_143 im_yX8_saves se_yX8_saves ini_X8 cd_yX8_saves
theorem hd_yX8_saves : yX8_saves.cls = RX8 ∧ yX8_saves.cls ≠ "java/lang/invoke/MethodHandle" ∧ yX8_saves.cls ≠ "java/lang/invoke/VarHandle" ∧ (parseMethodDescriptor yX8_saves.desc).map (fun d => d.parameters.length) = some 0 := by decide +kernel
theorem g_X8_146 : GoodIn G0 (wsV RX8 146 RX8 yX8_lays (gw yX8_lays cX8_lays 3 none)) := gv_in ml_X8_146 im_yX8_lays se_yX8_lays ini_X8 cd_yX8_lays
theorem hd_yX8_lays : yX8_lays.cls = RX8 ∧ yX8_lays.cls ≠ "java/lang/invoke/MethodHandle" ∧ yX8_lays.cls ≠ "java/lang/invoke/VarHandle" ∧ (parseMethodDescriptor yX8_lays.desc).map (fun d => d.parameters.length) = some 1 := by decide +kernel
theorem g_X8_150 : GoodIn G0 (wsV RX8 150 RX8 yX8_holesOf (gw yX8_holesOf cX8_holesOf 5 (some (FieldType.int)))) := gv_in ml_X8_150 im_yX8_holesOf se_yX8_holesOf ini_X8 cd_yX8_holesOf
theorem hd_yX8_holesOf : yX8_holesOf.cls = RX8 ∧ yX8_holesOf.cls ≠ "java/lang/invoke/MethodHandle" ∧ yX8_holesOf.cls ≠ "java/lang/invoke/VarHandle" ∧ (parseMethodDescriptor yX8_holesOf.desc).map (fun d => d.parameters.length) = some 2 := by decide +kernel
theorem g_X8_153 : GoodIn G0 (wsV RX8 153 RX8 yX8_defined (gw yX8_defined cX8_defined 3 (some (FieldType.int)))) := gv_in ml_X8_153 im_yX8_defined se_yX8_defined ini_X8 cd_yX8_defined
theorem hd_yX8_defined : yX8_defined.cls = RX8 ∧ yX8_defined.cls ≠ "java/lang/invoke/MethodHandle" ∧ yX8_defined.cls ≠ "java/lang/invoke/VarHandle" ∧ (parseMethodDescriptor yX8_defined.desc).map (fun d => d.parameters.length) = some 0 := by decide +kernel
theorem g_X8_175 : GoodIn G0 (wsV RX8 175 RX8 yX8_isOpen (gw yX8_isOpen cX8_isOpen 4 (some (FieldType.boolean)))) := gv_in ml_X8_175 im_yX8_isOpen se_yX8_isOpen ini_X8 cd_yX8_isOpen
theorem hd_yX8_isOpen : yX8_isOpen.cls = RX8 ∧ yX8_isOpen.cls ≠ "java/lang/invoke/MethodHandle" ∧ yX8_isOpen.cls ≠ "java/lang/invoke/VarHandle" ∧ (parseMethodDescriptor yX8_isOpen.desc).map (fun d => d.parameters.length) = some 1 := by decide +kernel
theorem g_X8_178 : GoodIn G0 (wsV RX8 178 RX8 yX8_writes (gw yX8_writes cX8_writes 2 none)) := gv_in ml_X8_178 im_yX8_writes se_yX8_writes ini_X8 cd_yX8_writes
theorem hd_yX8_writes : yX8_writes.cls = RX8 ∧ yX8_writes.cls ≠ "java/lang/invoke/MethodHandle" ∧ yX8_writes.cls ≠ "java/lang/invoke/VarHandle" ∧ (parseMethodDescriptor yX8_writes.desc).map (fun d => d.parameters.length) = some 1 := by decide +kernel
theorem g_X8_181 : GoodIn G0 (wsV RX8 181 RX8 yX8_notes (gw yX8_notes cX8_notes 7 none)) := gv_in ml_X8_181 im_yX8_notes se_yX8_notes ini_X8 cd_yX8_notes
theorem hd_yX8_notes : yX8_notes.cls = RX8 ∧ yX8_notes.cls ≠ "java/lang/invoke/MethodHandle" ∧ yX8_notes.cls ≠ "java/lang/invoke/VarHandle" ∧ (parseMethodDescriptor yX8_notes.desc).map (fun d => d.parameters.length) = some 6 := by decide +kernel
theorem g_X8_185 : GoodIn G0 (wsV RX8 185 RX8 yX8_opens (gw yX8_opens cX8_opens 2 none)) := gv_in ml_X8_185 im_yX8_opens se_yX8_opens ini_X8 cd_yX8_opens
theorem hd_yX8_opens : yX8_opens.cls = RX8 ∧ yX8_opens.cls ≠ "java/lang/invoke/MethodHandle" ∧ yX8_opens.cls ≠ "java/lang/invoke/VarHandle" ∧ (parseMethodDescriptor yX8_opens.desc).map (fun d => d.parameters.length) = some 1 := by decide +kernel
theorem g_X8_191 : GoodIn G0 (wsV RX8 191 RX8 yX8_longOf (gw yX8_longOf cX8_longOf 2 (some (FieldType.int)))) := gv_in ml_X8_191 im_yX8_longOf se_yX8_longOf ini_X8 cd_yX8_longOf
theorem hd_yX8_longOf : yX8_longOf.cls = RX8 ∧ yX8_longOf.cls ≠ "java/lang/invoke/MethodHandle" ∧ yX8_longOf.cls ≠ "java/lang/invoke/VarHandle" ∧ (parseMethodDescriptor yX8_longOf.desc).map (fun d => d.parameters.length) = some 1 := by decide +kernel
theorem g_X8_195 : GoodIn G0 (wsV RX8 195 RX8 yX8_goesOn (gw yX8_goesOn cX8_goesOn 6 none)) := gv_in ml_X8_195 im_yX8_goesOn se_yX8_goesOn ini_X8 cd_yX8_goesOn
theorem hd_yX8_goesOn : yX8_goesOn.cls = RX8 ∧ yX8_goesOn.cls ≠ "java/lang/invoke/MethodHandle" ∧ yX8_goesOn.cls ≠ "java/lang/invoke/VarHandle" ∧ (parseMethodDescriptor yX8_goesOn.desc).map (fun d => d.parameters.length) = some 2 := by decide +kernel
theorem g_X8_199 : GoodIn G0 (wsV RX8 199 RX8 yX8_filling (gw yX8_filling cX8_filling 2 (some (FieldType.int)))) := gv_in ml_X8_199 im_yX8_filling se_yX8_filling ini_X8 cd_yX8_filling
theorem hd_yX8_filling : yX8_filling.cls = RX8 ∧ yX8_filling.cls ≠ "java/lang/invoke/MethodHandle" ∧ yX8_filling.cls ≠ "java/lang/invoke/VarHandle" ∧ (parseMethodDescriptor yX8_filling.desc).map (fun d => d.parameters.length) = some 0 := by decide +kernel
theorem g_X8_202 : GoodIn G0 (wsV RX8 202 RX8 yX8_reads (gw yX8_reads cX8_reads 3 none)) := gv_in ml_X8_202 im_yX8_reads se_yX8_reads ini_X8 cd_yX8_reads
theorem hd_yX8_reads : yX8_reads.cls = RX8 ∧ yX8_reads.cls ≠ "java/lang/invoke/MethodHandle" ∧ yX8_reads.cls ≠ "java/lang/invoke/VarHandle" ∧ (parseMethodDescriptor yX8_reads.desc).map (fun d => d.parameters.length) = some 0 := by decide +kernel
theorem g_X8_214 : GoodIn G0 (wsV RX8 214 RX8 yX8_skips (gw yX8_skips cX8_skips 4 none)) := gv_in ml_X8_214 im_yX8_skips se_yX8_skips ini_X8 cd_yX8_skips
theorem hd_yX8_skips : yX8_skips.cls = RX8 ∧ yX8_skips.cls ≠ "java/lang/invoke/MethodHandle" ∧ yX8_skips.cls ≠ "java/lang/invoke/VarHandle" ∧ (parseMethodDescriptor yX8_skips.desc).map (fun d => d.parameters.length) = some 0 := by decide +kernel
theorem g_X8_217 : GoodIn G0 (wsV RX8 217 RX8 yX8_puts (gw yX8_puts cX8_puts 2 none)) := gv_in ml_X8_217 im_yX8_puts se_yX8_puts ini_X8 cd_yX8_puts
theorem hd_yX8_puts : yX8_puts.cls = RX8 ∧ yX8_puts.cls ≠ "java/lang/invoke/MethodHandle" ∧ yX8_puts.cls ≠ "java/lang/invoke/VarHandle" ∧ (parseMethodDescriptor yX8_puts.desc).map (fun d => d.parameters.length) = some 1 := by decide +kernel
theorem g_X8_220 : GoodIn G0 (wsV RX8 220 RX8 yX8_enters (gw yX8_enters cX8_enters 4 none)) := gv_in ml_X8_220 im_yX8_enters se_yX8_enters ini_X8 cd_yX8_enters
theorem hd_yX8_enters : yX8_enters.cls = RX8 ∧ yX8_enters.cls ≠ "java/lang/invoke/MethodHandle" ∧ yX8_enters.cls ≠ "java/lang/invoke/VarHandle" ∧ (parseMethodDescriptor yX8_enters.desc).map (fun d => d.parameters.length) = some 3 := by decide +kernel
theorem g_X8_224 : GoodIn G0 (wsV RX8 224 RX8 yX8_calls (gw yX8_calls cX8_calls 7 none)) := gv_in ml_X8_224 im_yX8_calls se_yX8_calls ini_X8 cd_yX8_calls
theorem hd_yX8_calls : yX8_calls.cls = RX8 ∧ yX8_calls.cls ≠ "java/lang/invoke/MethodHandle" ∧ yX8_calls.cls ≠ "java/lang/invoke/VarHandle" ∧ (parseMethodDescriptor yX8_calls.desc).map (fun d => d.parameters.length) = some 1 := by decide +kernel
theorem g_X8_226 : GoodIn G0 (wsV RX8 226 RX8 yX8_fills (gw yX8_fills cX8_fills 3 none)) := gv_in ml_X8_226 im_yX8_fills se_yX8_fills ini_X8 cd_yX8_fills
theorem hd_yX8_fills : yX8_fills.cls = RX8 ∧ yX8_fills.cls ≠ "java/lang/invoke/MethodHandle" ∧ yX8_fills.cls ≠ "java/lang/invoke/VarHandle" ∧ (parseMethodDescriptor yX8_fills.desc).map (fun d => d.parameters.length) = some 0 := by decide +kernel
theorem g_X8_229 : GoodIn G0 (wsV RX8 229 RX8 yX8_begins (gw yX8_begins cX8_begins 2 none)) := gv_in ml_X8_229 im_yX8_begins se_yX8_begins ini_X8 cd_yX8_begins
theorem hd_yX8_begins : yX8_begins.cls = RX8 ∧ yX8_begins.cls ≠ "java/lang/invoke/MethodHandle" ∧ yX8_begins.cls ≠ "java/lang/invoke/VarHandle" ∧ (parseMethodDescriptor yX8_begins.desc).map (fun d => d.parameters.length) = some 1 := by decide +kernel
theorem g_X8_232 : GoodIn G0 (wsV RX8 232 RX8 yX8_measures (gw yX8_measures cX8_measures 1 (some (FieldType.boolean)))) := gv_in ml_X8_232 im_yX8_measures se_yX8_measures ini_X8 cd_yX8_measures
theorem hd_yX8_measures : yX8_measures.cls = RX8 ∧ yX8_measures.cls ≠ "java/lang/invoke/MethodHandle" ∧ yX8_measures.cls ≠ "java/lang/invoke/VarHandle" ∧ (parseMethodDescriptor yX8_measures.desc).map (fun d => d.parameters.length) = some 0 := by decide +kernel
theorem g_X8_235 : GoodIn G0 (wsV RX8 235 RX8 yX8_spells (gw yX8_spells cX8_spells 2 none)) := gv_in ml_X8_235 im_yX8_spells se_yX8_spells ini_X8 cd_yX8_spells
theorem hd_yX8_spells : yX8_spells.cls = RX8 ∧ yX8_spells.cls ≠ "java/lang/invoke/MethodHandle" ∧ yX8_spells.cls ≠ "java/lang/invoke/VarHandle" ∧ (parseMethodDescriptor yX8_spells.desc).map (fun d => d.parameters.length) = some 0 := by decide +kernel
theorem g_X8_238 : GoodIn G0 (wsV RX8 238 RX8 yX8_callsOf (gw yX8_callsOf cX8_callsOf 4 (some (FieldType.int)))) := gv_in ml_X8_238 im_yX8_callsOf se_yX8_callsOf ini_X8 cd_yX8_callsOf
theorem hd_yX8_callsOf : yX8_callsOf.cls = RX8 ∧ yX8_callsOf.cls ≠ "java/lang/invoke/MethodHandle" ∧ yX8_callsOf.cls ≠ "java/lang/invoke/VarHandle" ∧ (parseMethodDescriptor yX8_callsOf.desc).map (fun d => d.parameters.length) = some 1 := by decide +kernel
theorem g_X8_241 : GoodIn G0 (wsV RX8 241 RX8 yX8_mostOf (gw yX8_mostOf cX8_mostOf 8 (some (FieldType.int)))) := gv_in ml_X8_241 im_yX8_mostOf se_yX8_mostOf ini_X8 cd_yX8_mostOf
theorem hd_yX8_mostOf : yX8_mostOf.cls = RX8 ∧ yX8_mostOf.cls ≠ "java/lang/invoke/MethodHandle" ∧ yX8_mostOf.cls ≠ "java/lang/invoke/VarHandle" ∧ (parseMethodDescriptor yX8_mostOf.desc).map (fun d => d.parameters.length) = some 2 := by decide +kernel
theorem g_X8_245 : GoodIn G0 (wsV RX8 245 RX8 yX8_plainOf (gw yX8_plainOf cX8_plainOf 4 (some (FieldType.int)))) := gv_in ml_X8_245 im_yX8_plainOf se_yX8_plainOf ini_X8 cd_yX8_plainOf
theorem hd_yX8_plainOf : yX8_plainOf.cls = RX8 ∧ yX8_plainOf.cls ≠ "java/lang/invoke/MethodHandle" ∧ yX8_plainOf.cls ≠ "java/lang/invoke/VarHandle" ∧ (parseMethodDescriptor yX8_plainOf.desc).map (fun d => d.parameters.length) = some 1 := by decide +kernel
theorem g_X8_248 : GoodIn G0 (wsV RX8 248 RX8 yX8_called (gw yX8_called cX8_called 5 (some (FieldType.int)))) := gv_in ml_X8_248 im_yX8_called se_yX8_called ini_X8 cd_yX8_called
theorem hd_yX8_called : yX8_called.cls = RX8 ∧ yX8_called.cls ≠ "java/lang/invoke/MethodHandle" ∧ yX8_called.cls ≠ "java/lang/invoke/VarHandle" ∧ (parseMethodDescriptor yX8_called.desc).map (fun d => d.parameters.length) = some 1 := by decide +kernel
theorem g_X8_251 : GoodIn G0 (wsV RX8 251 RX8 yX8_reached (gw yX8_reached cX8_reached 5 (some (FieldType.int)))) := gv_in ml_X8_251 im_yX8_reached se_yX8_reached ini_X8 cd_yX8_reached
theorem hd_yX8_reached : yX8_reached.cls = RX8 ∧ yX8_reached.cls ≠ "java/lang/invoke/MethodHandle" ∧ yX8_reached.cls ≠ "java/lang/invoke/VarHandle" ∧ (parseMethodDescriptor yX8_reached.desc).map (fun d => d.parameters.length) = some 1 := by decide +kernel
theorem g_X8_254 : GoodIn G0 (wsV RX8 254 RX8 yX8_laysSets (gw yX8_laysSets cX8_laysSets 2 none)) := gv_in ml_X8_254 im_yX8_laysSets se_yX8_laysSets ini_X8 cd_yX8_laysSets
theorem hd_yX8_laysSets : yX8_laysSets.cls = RX8 ∧ yX8_laysSets.cls ≠ "java/lang/invoke/MethodHandle" ∧ yX8_laysSets.cls ≠ "java/lang/invoke/VarHandle" ∧ (parseMethodDescriptor yX8_laysSets.desc).map (fun d => d.parameters.length) = some 0 := by decide +kernel
theorem g_X8_257 : GoodIn G0 (wsV RX8 257 RX8 yX8_callers (gw yX8_callers cX8_callers 5 (some (FieldType.int)))) := gv_in ml_X8_257 im_yX8_callers se_yX8_callers ini_X8 cd_yX8_callers
theorem hd_yX8_callers : yX8_callers.cls = RX8 ∧ yX8_callers.cls ≠ "java/lang/invoke/MethodHandle" ∧ yX8_callers.cls ≠ "java/lang/invoke/VarHandle" ∧ (parseMethodDescriptor yX8_callers.desc).map (fun d => d.parameters.length) = some 2 := by decide +kernel
theorem g_X8_260 : GoodIn G0 (wsV RX8 260 RX8 yX8_inRings (gw yX8_inRings cX8_inRings 3 (some (FieldType.int)))) := gv_in ml_X8_260 im_yX8_inRings se_yX8_inRings ini_X8 cd_yX8_inRings
theorem hd_yX8_inRings : yX8_inRings.cls = RX8 ∧ yX8_inRings.cls ≠ "java/lang/invoke/MethodHandle" ∧ yX8_inRings.cls ≠ "java/lang/invoke/VarHandle" ∧ (parseMethodDescriptor yX8_inRings.desc).map (fun d => d.parameters.length) = some 0 := by decide +kernel
theorem g_X8_263 : GoodIn G0 (wsV RX8 263 RX8 yX8_all (gw yX8_all cX8_all 3 (some (FieldType.int)))) := gv_in ml_X8_263 im_yX8_all se_yX8_all ini_X8 cd_yX8_all
theorem hd_yX8_all : yX8_all.cls = RX8 ∧ yX8_all.cls ≠ "java/lang/invoke/MethodHandle" ∧ yX8_all.cls ≠ "java/lang/invoke/VarHandle" ∧ (parseMethodDescriptor yX8_all.desc).map (fun d => d.parameters.length) = some 0 := by decide +kernel
theorem g_X8_266 : GoodIn G0 (wsV RX8 266 RX8 yX8_signsAs (gw yX8_signsAs cX8_signsAs 4 (some (FieldType.int)))) := gv_in ml_X8_266 im_yX8_signsAs se_yX8_signsAs ini_X8 cd_yX8_signsAs
theorem hd_yX8_signsAs : yX8_signsAs.cls = RX8 ∧ yX8_signsAs.cls ≠ "java/lang/invoke/MethodHandle" ∧ yX8_signsAs.cls ≠ "java/lang/invoke/VarHandle" ∧ (parseMethodDescriptor yX8_signsAs.desc).map (fun d => d.parameters.length) = some 1 := by decide +kernel
theorem g_X8_269 : GoodIn G0 (wsV RX8 269 RX8 yX8_callsOfAll (gw yX8_callsOfAll cX8_callsOfAll 3 (some (FieldType.int)))) := gv_in ml_X8_269 im_yX8_callsOfAll se_yX8_callsOfAll ini_X8 cd_yX8_callsOfAll
theorem hd_yX8_callsOfAll : yX8_callsOfAll.cls = RX8 ∧ yX8_callsOfAll.cls ≠ "java/lang/invoke/MethodHandle" ∧ yX8_callsOfAll.cls ≠ "java/lang/invoke/VarHandle" ∧ (parseMethodDescriptor yX8_callsOfAll.desc).map (fun d => d.parameters.length) = some 0 := by decide +kernel
abbrev rm8_thrown : Room := { frames := 0, cells := 0, slots := 0, locals := 0 }
def F8_thrown (z : MS)  : Option (Int32) :=
  some (z 43 7)
set_option maxHeartbeats 4000000 in
set_option maxRecDepth 100000 in
theorem c8_thrown (l : Launch) (D : va_G) (κ : Nat → ClassId) (A : Nat → Prop) (ad : Nat → Nat) (r0 : Nat → Option va_E) (z : MS)  (res : Int32) (h : F8_thrown z  = some res) : Met l yX8_thrown (gw yX8_thrown cX8_thrown 1 (some (FieldType.int))) rm8_thrown (va_Pc [.ref (ad 43)] (MW D κ A ad (celM κ ad r0 z))) (QI D κ A ad (celM κ ad r0 z) res) 0 0 A := by
  refine met_of (own := RX8) (by decide +kernel) rfl (Nat.le_of_ble_eq_true rfl) ?_
  intro p e s m below meth c ls X hr hlk G hl
  have hl : lv_has ls 1 [(0, .ref (ad 43))] := hl
  unfold F8_thrown at h
  refine lv_aload_n (pc := 0) X.1 X.2.1 dX8_thrown_0 rfl (lv_at hl 0 rfl) ?_
  refine M_geti (pc := 1) X G 7 (by decide) (by decide +kernel) fl_X8_98 dX8_thrown_1 ?_
  have h := Option.some.inj h
  exact m_iret (pc := 4) X G hr hlk dX8_thrown_4 h rfl

abbrev rm8_refused : Room := { frames := 0, cells := 0, slots := 0, locals := 0 }
def F8_refused (z : MS) (p0 : Int32) : Option (MS × Int32) :=
  bd (up2 z 43 7 p0) fun z1 =>
  jp (fun (x4 : Int32) => bz x4 (some (z1, x4))) fun k2 =>
  if p0 ≤ 0 then
  k2 0
  else
  k2 1
set_option maxHeartbeats 4000000 in
set_option maxRecDepth 100000 in
theorem c8_refused (l : Launch) (D : va_G) (κ : Nat → ClassId) (A : Nat → Prop) (ad : Nat → Nat) (r0 : Nat → Option va_E) (z : MS) (p0 : Int32) (res : MS × Int32) (h : F8_refused z p0 = some res) : Met l yX8_refused (gw yX8_refused cX8_refused 2 (some (FieldType.boolean))) rm8_refused (va_Pc [.ref (ad 43), .int p0] (MW D κ A ad (celM κ ad r0 z))) (QI D κ A ad (celM κ ad r0 res.1) res.2) 0 0 A := by
  refine met_of (own := RX8) (by decide +kernel) rfl (Nat.le_of_ble_eq_true rfl) ?_
  intro p e s m below meth c ls X hr hlk G hl
  have hl : lv_has ls 2 [(0, .ref (ad 43)), (1, .int p0)] := hl
  unfold F8_refused at h
  refine lv_aload_n (pc := 0) X.1 X.2.1 dX8_refused_0 rfl (lv_at hl 0 rfl) ?_
  refine lv_iload_n (pc := 1) X.1 X.2.1 dX8_refused_1 rfl (lv_at hl 1 rfl) ?_
  obtain ⟨z1, ez1, h⟩ := bd_some h
  refine M_puti (pc := 2) X G 7 ez1 (by decide) (by decide +kernel) fl_X8_98 dX8_refused_2 (fun H locs G => ?_)
  refine lv_iload_n (pc := 5) X.1 X.2.1 dX8_refused_5 rfl (lv_at hl 1 rfl) ?_
  obtain ⟨k2, ek2, h⟩ := jp_some h
  have hk2 : ∀ (x4 : Int32) (H : Heap) (locs : List Loc) (ls : Array Slot), k2 x4 = some res → Mm D κ A ad (celM κ ad r0 z1) s H locs → lv_has ls 2 [] → W p l e rm8_refused s m [.ref (ad 43), .int p0].toArray below meth c H locs 0 0 (MQ below (QI D κ A ad (celM κ ad r0 res.1) res.2) [.ref (ad 43), .int p0].toArray s 0 0 A) (F0 m 14 ls [.int x4]) := by
    intro x4 H locs ls h G hl
    rw [ek2] at h
    try dsimp only at h
    obtain ⟨hb, h⟩ := bz_some h
    have h := Option.some.inj h
    exact m_zret (pc := 14) X G hr hlk dX8_refused_14 hb (congrArg Prod.snd h) (congrArg (fun q : MS × Int32 => celM κ ad r0 q.1) h)
  refine lv_if_le (pc := 6) (tgt := 13) X.1 X.2.1 dX8_refused_6 (by decide) (fun hc3 => ?_) (fun hc3 => ?_)
  · have h := it_pos h hc3
    refine lv_iconst (pc := 13) (v := 0) X.1 X.2.1 dX8_refused_13 (by decide) ?_
    exact hk2 0 _ _ ls h G (lv_sub hl [] rfl)
  · have h := it_neg h hc3
    refine lv_iconst (pc := 9) (v := 1) X.1 X.2.1 dX8_refused_9 (by decide) ?_
    refine lv_goto (pc := 10) (tgt := 14) X.1 X.2.1 dX8_refused_10 (by decide) ?_
    exact hk2 1 _ _ ls h G (lv_sub hl [] rfl)

abbrev rm8_in : Room := { frames := 0, cells := 0, slots := 0, locals := 0 }
def F8_in (p0 p1 p2 : Int32) : Option (Int32) :=
  jp (fun (x5 : Int32) => bz x5 (some x5)) fun k1 =>
  jp (fun (_ : Unit) => k1 0) fun k2 =>
  if p0 < p1 then
  k2 ()
  else
  if p2 < p0 then
  k2 ()
  else
  k1 1
set_option maxHeartbeats 4000000 in
set_option maxRecDepth 100000 in
theorem c8_in (l : Launch) (D : va_G) (κ : Nat → ClassId) (A : Nat → Prop) (ad : Nat → Nat) (M : Nat → Option va_E) (p0 p1 p2 : Int32) (res : Int32) (h : F8_in p0 p1 p2 = some res) : Met l yX8_in (gw yX8_in cX8_in 3 (some (FieldType.boolean))) rm8_in (va_Pc [.int p0, .int p1, .int p2] (MW D κ A ad M)) (QI D κ A ad M res) 0 0 A := by
  refine met_of (own := RX8) (by decide +kernel) rfl (Nat.le_of_ble_eq_true rfl) ?_
  intro p e s m below meth c ls X hr hlk G hl
  have hl : lv_has ls 3 [(0, .int p0), (1, .int p1), (2, .int p2)] := hl
  unfold F8_in at h
  refine lv_iload_n (pc := 0) X.1 X.2.1 dX8_in_0 rfl (lv_at hl 0 rfl) ?_
  refine lv_iload_n (pc := 1) X.1 X.2.1 dX8_in_1 rfl (lv_at hl 1 rfl) ?_
  obtain ⟨k1, ek1, h⟩ := jp_some h
  have hk1 : ∀ (x5 : Int32) (H : Heap) (locs : List Loc) (ls : Array Slot), k1 x5 = some res → Mm D κ A ad M s H locs → lv_has ls 3 [] → W p l e rm8_in s m [.int p0, .int p1, .int p2].toArray below meth c H locs 0 0 (MQ below (QI D κ A ad M res) [.int p0, .int p1, .int p2].toArray s 0 0 A) (F0 m 15 ls [.int x5]) := by
    intro x5 H locs ls h G hl
    rw [ek1] at h
    try dsimp only at h
    obtain ⟨hb, h⟩ := bz_some h
    have h := Option.some.inj h
    exact m_zret (pc := 15) X G hr hlk dX8_in_15 hb h rfl
  obtain ⟨k2, ek2, h⟩ := jp_some h
  have hk2 : ∀  (H : Heap) (locs : List Loc) (ls : Array Slot), k2 () = some res → Mm D κ A ad M s H locs → lv_has ls 3 [] → W p l e rm8_in s m [.int p0, .int p1, .int p2].toArray below meth c H locs 0 0 (MQ below (QI D κ A ad M res) [.int p0, .int p1, .int p2].toArray s 0 0 A) (F0 m 14 ls []) := by
    intro  H locs ls h G hl
    rw [ek2] at h
    try dsimp only at h
    refine lv_iconst (pc := 14) (v := 0) X.1 X.2.1 dX8_in_14 (by decide) ?_
    exact hk1 0 _ _ ls h G (lv_sub hl [] rfl)
  refine lv_icmp_lt (pc := 2) (tgt := 14) X.1 X.2.1 dX8_in_2 (by decide) (fun hc3 => ?_) (fun hc3 => ?_)
  · have h := it_pos h hc3
    exact hk2  _ _ ls h G (lv_sub hl [] rfl)
  · have h := it_neg h hc3
    refine lv_iload_n (pc := 5) X.1 X.2.1 dX8_in_5 rfl (lv_at hl 0 rfl) ?_
    refine lv_iload_n (pc := 6) X.1 X.2.1 dX8_in_6 rfl (lv_at hl 2 rfl) ?_
    refine lv_icmp_gt (pc := 7) (tgt := 14) X.1 X.2.1 dX8_in_7 (by decide) (fun hc4 => ?_) (fun hc4 => ?_)
    · have h := it_pos h hc4
      exact hk2  _ _ ls h G (lv_sub hl [] rfl)
    · have h := it_neg h hc4
      refine lv_iconst (pc := 10) (v := 1) X.1 X.2.1 dX8_in_10 (by decide) ?_
      refine lv_goto (pc := 11) (tgt := 15) X.1 X.2.1 dX8_in_11 (by decide) ?_
      exact hk1 1 _ _ ls h G (lv_sub hl [] rfl)

abbrev rm8_isLetter : Room := { frames := 1, cells := 0, slots := 0, locals := 22 }
def F8_isLetter (p0 : Int32) : Option (Int32) :=
  bn (F8_in p0 0 25) fun x1 =>
  bz x1 (some x1)
set_option maxHeartbeats 4000000 in
set_option maxRecDepth 100000 in
theorem c8_isLetter (l : Launch) (D : va_G) (κ : Nat → ClassId) (A : Nat → Prop) (ad : Nat → Nat) (M : Nat → Option va_E) (p0 : Int32) (res : Int32) (h : F8_isLetter p0 = some res) : Met l yX8_isLetter (gw yX8_isLetter cX8_isLetter 1 (some (FieldType.boolean))) rm8_isLetter (va_Pc [.int p0] (MW D κ A ad M)) (QI D κ A ad M res) 0 0 A := by
  refine met_of (own := RX8) (by decide +kernel) rfl (Nat.le_of_ble_eq_true rfl) ?_
  intro p e s m below meth c ls X hr hlk G hl
  have hl : lv_has ls 1 [(0, .int p0)] := hl
  unfold F8_isLetter at h
  refine lv_iload_n (pc := 0) X.1 X.2.1 dX8_isLetter_0 rfl (lv_at hl 0 rfl) ?_
  refine lv_iconst (pc := 1) (v := 0) X.1 X.2.1 dX8_isLetter_1 (by decide) ?_
  refine lv_bipush (pc := 2) (v := 25) X.1 X.2.1 dX8_isLetter_2 (by decide) ?_
  obtain ⟨x1, ex1, h⟩ := bn_some h
  refine m_callsi0 (pc := 4) (v := x1) (As := [.int p0, .int 0, .int 25]) (rest := []) X G (rm := rm8_in) rfl rfl (c8_in l D κ A ad M p0 0 25 x1 ex1) g_X8_102 hs_yX8_in ⟨Nat.le_of_ble_eq_true rfl, Nat.le_of_ble_eq_true rfl⟩ rfl hl rfl (lv_room (Nat.le_of_ble_eq_true rfl)) dX8_isLetter_4 ⟨Nat.le_of_ble_eq_true rfl, Nat.le_of_ble_eq_true rfl⟩ (fun H locs G => ?_)
  obtain ⟨hb, h⟩ := bz_some h
  have h := Option.some.inj h
  exact m_zret (pc := 7) X G hr hlk dX8_isLetter_7 hb h rfl

abbrev rm8_isDefined : Room := { frames := 0, cells := 0, slots := 0, locals := 0 }
def F8_isDefined (z : MS) (p0 : Int32) : Option (Int32) :=
  rd (z 0) 2153 p0 fun x1 =>
  jp (fun (x4 : Int32) => bz x4 (some x4)) fun k2 =>
  if x1 < 0 then
  k2 0
  else
  k2 1
set_option maxHeartbeats 4000000 in
set_option maxRecDepth 100000 in
theorem c8_isDefined (l : Launch) (D : va_G) (κ : Nat → ClassId) (A : Nat → Prop) (ad : Nat → Nat) (r0 : Nat → Option va_E) (z : MS) (p0 : Int32) (res : Int32) (h : F8_isDefined z p0 = some res) : Met l yX8_isDefined (gw yX8_isDefined cX8_isDefined 2 (some (FieldType.boolean))) rm8_isDefined (va_Pc [.ref (ad 43), .int p0] (MW D κ A ad (celM κ ad r0 z))) (QI D κ A ad (celM κ ad r0 z) res) 0 0 A := by
  refine met_of (own := RX8) (by decide +kernel) rfl (Nat.le_of_ble_eq_true rfl) ?_
  intro p e s m below meth c ls X hr hlk G hl
  have hl : lv_has ls 2 [(0, .ref (ad 43)), (1, .int p0)] := hl
  unfold F8_isDefined at h
  refine lv_aload_n (pc := 0) X.1 X.2.1 dX8_isDefined_0 rfl (lv_at hl 0 rfl) ?_
  refine M_getr (pc := 1) X G 0 (by decide) (by decide +kernel) fl_X8_7 dX8_isDefined_1 ?_
  refine lv_iload_n (pc := 4) X.1 X.2.1 dX8_isDefined_4 rfl (lv_at hl 1 rfl) ?_
  obtain ⟨hix1, h⟩ := rd_some h
  refine M_iald (pc := 5) X G (i := 0) (n := 2153) (by decide +kernel) (by decide) rfl hix1 dX8_isDefined_5 ?_
  refine lv_topi (fun x1 ex1 => ?_)
  rw [← ex1] at h
  obtain ⟨k2, ek2, h⟩ := jp_some h
  have hk2 : ∀ (x4 : Int32) (H : Heap) (locs : List Loc) (ls : Array Slot), k2 x4 = some res → Mm D κ A ad (celM κ ad r0 z) s H locs → lv_has ls 2 [] → W p l e rm8_isDefined s m [.ref (ad 43), .int p0].toArray below meth c H locs 0 0 (MQ below (QI D κ A ad (celM κ ad r0 z) res) [.ref (ad 43), .int p0].toArray s 0 0 A) (F0 m 14 ls [.int x4]) := by
    intro x4 H locs ls h G hl
    rw [ek2] at h
    try dsimp only at h
    obtain ⟨hb, h⟩ := bz_some h
    have h := Option.some.inj h
    exact m_zret (pc := 14) X G hr hlk dX8_isDefined_14 hb h rfl
  refine lv_if_lt (pc := 6) (tgt := 13) X.1 X.2.1 dX8_isDefined_6 (by decide) (fun hc3 => ?_) (fun hc3 => ?_)
  · have h := it_pos h hc3
    refine lv_iconst (pc := 13) (v := 0) X.1 X.2.1 dX8_isDefined_13 (by decide) ?_
    exact hk2 0 _ _ ls h G (lv_sub hl [] rfl)
  · have h := it_neg h hc3
    refine lv_iconst (pc := 9) (v := 1) X.1 X.2.1 dX8_isDefined_9 (by decide) ?_
    refine lv_goto (pc := 10) (tgt := 14) X.1 X.2.1 dX8_isDefined_10 (by decide) ?_
    exact hk2 1 _ _ ls h G (lv_sub hl [] rfl)

abbrev rm8_longOf : Room := { frames := 0, cells := 0, slots := 0, locals := 0 }
def F8_longOf (z : MS) (p0 : Int32) : Option (Int32) :=
  jp (fun (x5 : Int32) => some x5) fun k1 =>
  if ¬ p0 = 27 then
  if ¬ p0 = 26 then
  rd (z 0) 2153 p0 fun x4 =>
  k1 x4
  else
  k1 (z 43 6)
  else
  k1 0
set_option maxHeartbeats 4000000 in
set_option maxRecDepth 100000 in
theorem c8_longOf (l : Launch) (D : va_G) (κ : Nat → ClassId) (A : Nat → Prop) (ad : Nat → Nat) (r0 : Nat → Option va_E) (z : MS) (p0 : Int32) (res : Int32) (h : F8_longOf z p0 = some res) : Met l yX8_longOf (gw yX8_longOf cX8_longOf 2 (some (FieldType.int))) rm8_longOf (va_Pc [.ref (ad 43), .int p0] (MW D κ A ad (celM κ ad r0 z))) (QI D κ A ad (celM κ ad r0 z) res) 0 0 A := by
  refine met_of (own := RX8) (by decide +kernel) rfl (Nat.le_of_ble_eq_true rfl) ?_
  intro p e s m below meth c ls X hr hlk G hl
  have hl : lv_has ls 2 [(0, .ref (ad 43)), (1, .int p0)] := hl
  unfold F8_longOf at h
  refine lv_iload_n (pc := 0) X.1 X.2.1 dX8_longOf_0 rfl (lv_at hl 1 rfl) ?_
  refine lv_bipush (pc := 1) (v := 27) X.1 X.2.1 dX8_longOf_1 (by decide) ?_
  obtain ⟨k1, ek1, h⟩ := jp_some h
  have hk1 : ∀ (x5 : Int32) (H : Heap) (locs : List Loc) (ls : Array Slot), k1 x5 = some res → Mm D κ A ad (celM κ ad r0 z) s H locs → lv_has ls 2 [] → W p l e rm8_longOf s m [.ref (ad 43), .int p0].toArray below meth c H locs 0 0 (MQ below (QI D κ A ad (celM κ ad r0 z) res) [.ref (ad 43), .int p0].toArray s 0 0 A) (F0 m 29 ls [.int x5]) := by
    intro x5 H locs ls h G hl
    rw [ek1] at h
    try dsimp only at h
    have h := Option.some.inj h
    exact m_iret (pc := 29) X G hr hlk dX8_longOf_29 h rfl
  refine lv_icmp_ne (pc := 3) (tgt := 10) X.1 X.2.1 dX8_longOf_3 (by decide) (fun hc2 => ?_) (fun hc2 => ?_)
  · have h := it_pos h hc2
    refine lv_iload_n (pc := 10) X.1 X.2.1 dX8_longOf_10 rfl (lv_at hl 1 rfl) ?_
    refine lv_bipush (pc := 11) (v := 26) X.1 X.2.1 dX8_longOf_11 (by decide) ?_
    refine lv_icmp_ne (pc := 13) (tgt := 23) X.1 X.2.1 dX8_longOf_13 (by decide) (fun hc3 => ?_) (fun hc3 => ?_)
    · have h := it_pos h hc3
      refine lv_aload_n (pc := 23) X.1 X.2.1 dX8_longOf_23 rfl (lv_at hl 0 rfl) ?_
      refine M_getr (pc := 24) X G 0 (by decide) (by decide +kernel) fl_X8_7 dX8_longOf_24 ?_
      refine lv_iload_n (pc := 27) X.1 X.2.1 dX8_longOf_27 rfl (lv_at hl 1 rfl) ?_
      obtain ⟨hix4, h⟩ := rd_some h
      refine M_iald (pc := 28) X G (i := 0) (n := 2153) (by decide +kernel) (by decide) rfl hix4 dX8_longOf_28 ?_
      refine lv_topi (fun x4 ex4 => ?_)
      rw [← ex4] at h
      exact hk1 x4 _ _ ls h G (lv_sub hl [] rfl)
    · have h := it_neg h (fun q => q hc3)
      refine lv_aload_n (pc := 16) X.1 X.2.1 dX8_longOf_16 rfl (lv_at hl 0 rfl) ?_
      refine M_geti (pc := 17) X G 6 (by decide) (by decide +kernel) fl_X8_106 dX8_longOf_17 ?_
      refine lv_goto (pc := 20) (tgt := 29) X.1 X.2.1 dX8_longOf_20 (by decide) ?_
      exact hk1 (z 43 6) _ _ ls h G (lv_sub hl [] rfl)
  · have h := it_neg h (fun q => q hc2)
    refine lv_iconst (pc := 6) (v := 0) X.1 X.2.1 dX8_longOf_6 (by decide) ?_
    refine lv_goto (pc := 7) (tgt := 29) X.1 X.2.1 dX8_longOf_7 (by decide) ?_
    exact hk1 0 _ _ ls h G (lv_sub hl [] rfl)

abbrev rm8_signOf : Room := { frames := 0, cells := 0, slots := 0, locals := 0 }
def F8_signOf (z : MS) (p0 p1 : Int32) : Option (Int32) :=
  jp (fun (x5 : Int32) => some x5) fun k1 =>
  if ¬ p0 = 26 then
  rd (z 0) 2153 ((26 + (60 * p0)) + p1) fun x3 =>
  k1 x3
  else
  rd (z 5) 60 p1 fun x4 =>
  k1 x4
set_option maxHeartbeats 4000000 in
set_option maxRecDepth 100000 in
theorem c8_signOf (l : Launch) (D : va_G) (κ : Nat → ClassId) (A : Nat → Prop) (ad : Nat → Nat) (r0 : Nat → Option va_E) (z : MS) (p0 p1 : Int32) (res : Int32) (h : F8_signOf z p0 p1 = some res) : Met l yX8_signOf (gw yX8_signOf cX8_signOf 3 (some (FieldType.int))) rm8_signOf (va_Pc [.ref (ad 43), .int p0, .int p1] (MW D κ A ad (celM κ ad r0 z))) (QI D κ A ad (celM κ ad r0 z) res) 0 0 A := by
  refine met_of (own := RX8) (by decide +kernel) rfl (Nat.le_of_ble_eq_true rfl) ?_
  intro p e s m below meth c ls X hr hlk G hl
  have hl : lv_has ls 3 [(0, .ref (ad 43)), (1, .int p0), (2, .int p1)] := hl
  unfold F8_signOf at h
  refine lv_iload_n (pc := 0) X.1 X.2.1 dX8_signOf_0 rfl (lv_at hl 1 rfl) ?_
  refine lv_bipush (pc := 1) (v := 26) X.1 X.2.1 dX8_signOf_1 (by decide) ?_
  obtain ⟨k1, ek1, h⟩ := jp_some h
  have hk1 : ∀ (x5 : Int32) (H : Heap) (locs : List Loc) (ls : Array Slot), k1 x5 = some res → Mm D κ A ad (celM κ ad r0 z) s H locs → lv_has ls 3 [] → W p l e rm8_signOf s m [.ref (ad 43), .int p0, .int p1].toArray below meth c H locs 0 0 (MQ below (QI D κ A ad (celM κ ad r0 z) res) [.ref (ad 43), .int p0, .int p1].toArray s 0 0 A) (F0 m 29 ls [.int x5]) := by
    intro x5 H locs ls h G hl
    rw [ek1] at h
    try dsimp only at h
    have h := Option.some.inj h
    exact m_iret (pc := 29) X G hr hlk dX8_signOf_29 h rfl
  refine lv_icmp_ne (pc := 3) (tgt := 15) X.1 X.2.1 dX8_signOf_3 (by decide) (fun hc2 => ?_) (fun hc2 => ?_)
  · have h := it_pos h hc2
    refine lv_aload_n (pc := 15) X.1 X.2.1 dX8_signOf_15 rfl (lv_at hl 0 rfl) ?_
    refine M_getr (pc := 16) X G 0 (by decide) (by decide +kernel) fl_X8_7 dX8_signOf_16 ?_
    refine lv_bipush (pc := 19) (v := 26) X.1 X.2.1 dX8_signOf_19 (by decide) ?_
    refine lv_bipush (pc := 21) (v := 60) X.1 X.2.1 dX8_signOf_21 (by decide) ?_
    refine lv_iload_n (pc := 23) X.1 X.2.1 dX8_signOf_23 rfl (lv_at hl 1 rfl) ?_
    refine lv_imul (pc := 24) X.1 X.2.1 dX8_signOf_24 ?_
    refine lv_iadd (pc := 25) X.1 X.2.1 dX8_signOf_25 ?_
    refine lv_iload_n (pc := 26) X.1 X.2.1 dX8_signOf_26 rfl (lv_at hl 2 rfl) ?_
    refine lv_iadd (pc := 27) X.1 X.2.1 dX8_signOf_27 ?_
    obtain ⟨hix3, h⟩ := rd_some h
    refine M_iald (pc := 28) X G (i := 0) (n := 2153) (by decide +kernel) (by decide) rfl hix3 dX8_signOf_28 ?_
    refine lv_topi (fun x3 ex3 => ?_)
    rw [← ex3] at h
    exact hk1 x3 _ _ ls h G (lv_sub hl [] rfl)
  · have h := it_neg h (fun q => q hc2)
    refine lv_aload_n (pc := 6) X.1 X.2.1 dX8_signOf_6 rfl (lv_at hl 0 rfl) ?_
    refine M_getr (pc := 7) X G 5 (by decide) (by decide +kernel) fl_X8_23 dX8_signOf_7 ?_
    refine lv_iload_n (pc := 10) X.1 X.2.1 dX8_signOf_10 rfl (lv_at hl 2 rfl) ?_
    obtain ⟨hix4, h⟩ := rd_some h
    refine M_iald (pc := 11) X G (i := 5) (n := 60) (by decide +kernel) (by decide) rfl hix4 dX8_signOf_11 ?_
    refine lv_topi (fun x4 ex4 => ?_)
    rw [← ex4] at h
    refine lv_goto (pc := 12) (tgt := 29) X.1 X.2.1 dX8_signOf_12 (by decide) ?_
    exact hk1 x4 _ _ ls h G (lv_sub hl [] rfl)

abbrev rm8_isCall : Room := { frames := 1, cells := 0, slots := 0, locals := 22 }
def F8_isCall (p0 : Int32) : Option (Int32) :=
  bn (F8_in p0 65 90) fun x1 =>
  bz x1 (some x1)
set_option maxHeartbeats 4000000 in
set_option maxRecDepth 100000 in
theorem c8_isCall (l : Launch) (D : va_G) (κ : Nat → ClassId) (A : Nat → Prop) (ad : Nat → Nat) (M : Nat → Option va_E) (p0 : Int32) (res : Int32) (h : F8_isCall p0 = some res) : Met l yX8_isCall (gw yX8_isCall cX8_isCall 1 (some (FieldType.boolean))) rm8_isCall (va_Pc [.int p0] (MW D κ A ad M)) (QI D κ A ad M res) 0 0 A := by
  refine met_of (own := RX8) (by decide +kernel) rfl (Nat.le_of_ble_eq_true rfl) ?_
  intro p e s m below meth c ls X hr hlk G hl
  have hl : lv_has ls 1 [(0, .int p0)] := hl
  unfold F8_isCall at h
  refine lv_iload_n (pc := 0) X.1 X.2.1 dX8_isCall_0 rfl (lv_at hl 0 rfl) ?_
  refine lv_bipush (pc := 1) (v := 65) X.1 X.2.1 dX8_isCall_1 (by decide) ?_
  refine lv_bipush (pc := 3) (v := 90) X.1 X.2.1 dX8_isCall_3 (by decide) ?_
  obtain ⟨x1, ex1, h⟩ := bn_some h
  refine m_callsi0 (pc := 5) (v := x1) (As := [.int p0, .int 65, .int 90]) (rest := []) X G (rm := rm8_in) rfl rfl (c8_in l D κ A ad M p0 65 90 x1 ex1) g_X8_102 hs_yX8_in ⟨Nat.le_of_ble_eq_true rfl, Nat.le_of_ble_eq_true rfl⟩ rfl hl rfl (lv_room (Nat.le_of_ble_eq_true rfl)) dX8_isCall_5 ⟨Nat.le_of_ble_eq_true rfl, Nat.le_of_ble_eq_true rfl⟩ (fun H locs G => ?_)
  obtain ⟨hb, h⟩ := bz_some h
  have h := Option.some.inj h
  exact m_zret (pc := 8) X G hr hlk dX8_isCall_8 hb h rfl

abbrev rm8_isPlain : Room := { frames := 1, cells := 0, slots := 0, locals := 22 }
def F8_isPlain (p0 : Int32) : Option (Int32) :=
  bn (F8_in p0 97 122) fun x1 =>
  jp (fun (x6 : Int32) => bz x6 (some x6)) fun k2 =>
  jp (fun (_ : Unit) => k2 1) fun k3 =>
  if ¬ x1 = 0 then
  k3 ()
  else
  if ¬ p0 = 95 then
  k2 0
  else
  k3 ()
set_option maxHeartbeats 4000000 in
set_option maxRecDepth 100000 in
theorem c8_isPlain (l : Launch) (D : va_G) (κ : Nat → ClassId) (A : Nat → Prop) (ad : Nat → Nat) (M : Nat → Option va_E) (p0 : Int32) (res : Int32) (h : F8_isPlain p0 = some res) : Met l yX8_isPlain (gw yX8_isPlain cX8_isPlain 1 (some (FieldType.boolean))) rm8_isPlain (va_Pc [.int p0] (MW D κ A ad M)) (QI D κ A ad M res) 0 0 A := by
  refine met_of (own := RX8) (by decide +kernel) rfl (Nat.le_of_ble_eq_true rfl) ?_
  intro p e s m below meth c ls X hr hlk G hl
  have hl : lv_has ls 1 [(0, .int p0)] := hl
  unfold F8_isPlain at h
  refine lv_iload_n (pc := 0) X.1 X.2.1 dX8_isPlain_0 rfl (lv_at hl 0 rfl) ?_
  refine lv_bipush (pc := 1) (v := 97) X.1 X.2.1 dX8_isPlain_1 (by decide) ?_
  refine lv_bipush (pc := 3) (v := 122) X.1 X.2.1 dX8_isPlain_3 (by decide) ?_
  obtain ⟨x1, ex1, h⟩ := bn_some h
  refine m_callsi0 (pc := 5) (v := x1) (As := [.int p0, .int 97, .int 122]) (rest := []) X G (rm := rm8_in) rfl rfl (c8_in l D κ A ad M p0 97 122 x1 ex1) g_X8_102 hs_yX8_in ⟨Nat.le_of_ble_eq_true rfl, Nat.le_of_ble_eq_true rfl⟩ rfl hl rfl (lv_room (Nat.le_of_ble_eq_true rfl)) dX8_isPlain_5 ⟨Nat.le_of_ble_eq_true rfl, Nat.le_of_ble_eq_true rfl⟩ (fun H locs G => ?_)
  obtain ⟨k2, ek2, h⟩ := jp_some h
  have hk2 : ∀ (x6 : Int32) (H : Heap) (locs : List Loc) (ls : Array Slot), k2 x6 = some res → Mm D κ A ad M s H locs → lv_has ls 1 [] → W p l e rm8_isPlain s m [.int p0].toArray below meth c H locs 0 0 (MQ below (QI D κ A ad M res) [.int p0].toArray s 0 0 A) (F0 m 22 ls [.int x6]) := by
    intro x6 H locs ls h G hl
    rw [ek2] at h
    try dsimp only at h
    obtain ⟨hb, h⟩ := bz_some h
    have h := Option.some.inj h
    exact m_zret (pc := 22) X G hr hlk dX8_isPlain_22 hb h rfl
  obtain ⟨k3, ek3, h⟩ := jp_some h
  have hk3 : ∀  (H : Heap) (locs : List Loc) (ls : Array Slot), k3 () = some res → Mm D κ A ad M s H locs → lv_has ls 1 [] → W p l e rm8_isPlain s m [.int p0].toArray below meth c H locs 0 0 (MQ below (QI D κ A ad M res) [.int p0].toArray s 0 0 A) (F0 m 17 ls []) := by
    intro  H locs ls h G hl
    rw [ek3] at h
    try dsimp only at h
    refine lv_iconst (pc := 17) (v := 1) X.1 X.2.1 dX8_isPlain_17 (by decide) ?_
    refine lv_goto (pc := 18) (tgt := 22) X.1 X.2.1 dX8_isPlain_18 (by decide) ?_
    exact hk2 1 _ _ ls h G (lv_sub hl [] rfl)
  refine lv_if_ne (pc := 8) (tgt := 17) X.1 X.2.1 dX8_isPlain_8 (by decide) (fun hc4 => ?_) (fun hc4 => ?_)
  · have h := it_pos h hc4
    exact hk3  _ _ ls h G (lv_sub hl [] rfl)
  · have h := it_neg h (fun q => q hc4)
    refine lv_iload_n (pc := 11) X.1 X.2.1 dX8_isPlain_11 rfl (lv_at hl 0 rfl) ?_
    refine lv_bipush (pc := 12) (v := 95) X.1 X.2.1 dX8_isPlain_12 (by decide) ?_
    refine lv_icmp_ne (pc := 14) (tgt := 21) X.1 X.2.1 dX8_isPlain_14 (by decide) (fun hc5 => ?_) (fun hc5 => ?_)
    · have h := it_pos h hc5
      refine lv_iconst (pc := 21) (v := 0) X.1 X.2.1 dX8_isPlain_21 (by decide) ?_
      exact hk2 0 _ _ ls h G (lv_sub hl [] rfl)
    · have h := it_neg h (fun q => q hc5)
      exact hk3  _ _ ls h G (lv_sub hl [] rfl)

abbrev rm8_saves : Room := { frames := 0, cells := 0, slots := 0, locals := 0 }
noncomputable def F8_saves (z : MS)  : Option (MS) :=
  jp (fun (z10 : MS) => Loop (fun (q : Int32 × MS) => (fun (x11 : Int32) (z12 : MS) =>
  if 2153 ≤ x11 then
  bd (up2 z12 43 2 ((z12 43 2) + 1)) fun z14 =>
  some (.inr z14)
  else
  rd (z12 0) 2153 x11 fun x15 =>
  wr z12 1 12918 ((2153 * (z12 43 2)) + x11) x15 fun z16 =>
  bd (x11 + 1) fun x17 =>
  some (.inl (x17, z16))) q.1 q.2) (0, z10)) fun k1 =>
  if ¬ (z 43 2) = 6 then
  k1 z
  else
  Loop (fun (q : Int32 × MS) => (fun (x3 : Int32) (z4 : MS) =>
  if 10765 ≤ x3 then
  bd (up2 z4 43 2 ((z4 43 2) - 1)) fun z6 =>
  li (k1 z6)
  else
  rd (z4 1) 12918 (2153 + x3) fun x7 =>
  wr z4 1 12918 x3 x7 fun z8 =>
  bd (x3 + 1) fun x9 =>
  some (.inl (x9, z8))) q.1 q.2) (0, z)
set_option maxHeartbeats 4000000 in
set_option maxRecDepth 100000 in
theorem c8_saves (l : Launch) (D : va_G) (κ : Nat → ClassId) (A : Nat → Prop) (ad : Nat → Nat) (r0 : Nat → Option va_E) (z : MS)  (res : MS) (h : F8_saves z  = some res) : Met l yX8_saves (gw yX8_saves cX8_saves 2 none) rm8_saves (va_Pc [.ref (ad 43)] (MW D κ A ad (celM κ ad r0 z))) (QV D κ A ad (celM κ ad r0 res)) 0 0 A := by
  refine met_of (own := RX8) (by decide +kernel) rfl (Nat.le_of_ble_eq_true rfl) ?_
  intro p e s m below meth c ls X hr hlk G hl
  have hl : lv_has ls 2 [(0, .ref (ad 43))] := hl
  unfold F8_saves at h
  refine lv_aload_n (pc := 0) X.1 X.2.1 dX8_saves_0 rfl (lv_at hl 0 rfl) ?_
  refine M_geti (pc := 1) X G 2 (by decide) (by decide +kernel) fl_X8_109 dX8_saves_1 ?_
  refine lv_bipush (pc := 4) (v := 6) X.1 X.2.1 dX8_saves_4 (by decide) ?_
  obtain ⟨k1, ek1, h⟩ := jp_some h
  have hk1 : ∀ (z10 : MS) (H : Heap) (locs : List Loc) (ls : Array Slot), k1 z10 = some res → Mm D κ A ad (celM κ ad r0 z10) s H locs → lv_has ls 2 [(0, .ref (ad 43))] → W p l e rm8_saves s m [.ref (ad 43)].toArray below meth c H locs 0 0 (MQ below (QV D κ A ad (celM κ ad r0 res)) [.ref (ad 43)].toArray s 0 0 A) (F0 m 50 ls []) := by
    intro z10 H locs ls h G hl
    rw [ek1] at h
    try dsimp only at h
    refine lv_iconst (pc := 50) (v := 0) X.1 X.2.1 dX8_saves_50 (by decide) ?_
    refine lv_istore_n (pc := 51) (lv' := [(1, .int 0), (0, .ref (ad 43))]) X.1 X.2.1 dX8_saves_51 rfl hl (by decide) rfl (fun ls hl => ?_)
    refine Loop_ind (P := fun (q : Int32 × MS) => ∀ (H : Heap) (locs : List Loc) (ls : Array Slot), Mm D κ A ad (celM κ ad r0 q.2) s H locs → lv_has ls 2 [(0, .ref (ad 43)), (1, .int q.1)] → W p l e rm8_saves s m [.ref (ad 43)].toArray below meth c H locs 0 0 (MQ below (QV D κ A ad (celM κ ad r0 res)) [.ref (ad 43)].toArray s 0 0 A) (F0 m 52 ls [])) ?_ h _ _ ls G (lv_sub hl [1, 0] rfl)
    intro q y1 h ih1 hz1 H locs ls G hl
    obtain ⟨x11, z12⟩ := q
    try dsimp only at h ih1 G hl ⊢
    refine lv_iload_n (pc := 52) X.1 X.2.1 dX8_saves_52 rfl (lv_at hl 1 rfl) ?_
    refine lv_sipush (pc := 53) (v := 2153) X.1 X.2.1 dX8_saves_53 (by decide) ?_
    refine lv_icmp_ge (pc := 56) (tgt := 86) X.1 X.2.1 dX8_saves_56 (by decide) (fun hc13 => ?_) (fun hc13 => ?_)
    · have h := it_pos h hc13
      refine lv_aload_n (pc := 86) X.1 X.2.1 dX8_saves_86 rfl (lv_at hl 0 rfl) ?_
      refine lv_dup (pc := 87) X.1 X.2.1 dX8_saves_87 rfl ?_
      refine M_geti (pc := 88) X G 2 (by decide) (by decide +kernel) fl_X8_109 dX8_saves_88 ?_
      refine lv_iconst (pc := 91) (v := 1) X.1 X.2.1 dX8_saves_91 (by decide) ?_
      refine lv_iadd (pc := 92) X.1 X.2.1 dX8_saves_92 ?_
      obtain ⟨z14, ez14, h⟩ := bd_some h
      refine M_puti (pc := 93) X G 2 ez14 (by decide) (by decide +kernel) fl_X8_109 dX8_saves_93 (fun H locs G => ?_)
      have h := Option.some.inj h
      have h := hz1 _ h.symm
      exact m_vret (pc := 96) X G hr hlk dX8_saves_96 (congrArg (celM κ ad r0) h)
    · have h := it_neg h hc13
      refine lv_aload_n (pc := 59) X.1 X.2.1 dX8_saves_59 rfl (lv_at hl 0 rfl) ?_
      refine M_getr (pc := 60) X G 1 (by decide) (by decide +kernel) fl_X8_13 dX8_saves_60 ?_
      refine lv_sipush (pc := 63) (v := 2153) X.1 X.2.1 dX8_saves_63 (by decide) ?_
      refine lv_aload_n (pc := 66) X.1 X.2.1 dX8_saves_66 rfl (lv_at hl 0 rfl) ?_
      refine M_geti (pc := 67) X G 2 (by decide) (by decide +kernel) fl_X8_109 dX8_saves_67 ?_
      refine lv_imul (pc := 70) X.1 X.2.1 dX8_saves_70 ?_
      refine lv_iload_n (pc := 71) X.1 X.2.1 dX8_saves_71 rfl (lv_at hl 1 rfl) ?_
      refine lv_iadd (pc := 72) X.1 X.2.1 dX8_saves_72 ?_
      refine lv_aload_n (pc := 73) X.1 X.2.1 dX8_saves_73 rfl (lv_at hl 0 rfl) ?_
      refine M_getr (pc := 74) X G 0 (by decide) (by decide +kernel) fl_X8_7 dX8_saves_74 ?_
      refine lv_iload_n (pc := 77) X.1 X.2.1 dX8_saves_77 rfl (lv_at hl 1 rfl) ?_
      obtain ⟨hix15, h⟩ := rd_some h
      refine M_iald (pc := 78) X G (i := 0) (n := 2153) (by decide +kernel) (by decide) rfl hix15 dX8_saves_78 ?_
      refine lv_topi (fun x15 ex15 => ?_)
      rw [← ex15] at h
      obtain ⟨hiz16, z16, ez16, h⟩ := wr_some h
      refine M_iast (pc := 79) X G (i := 1) (n := 12918) ez16 (by decide +kernel) (by decide) rfl hiz16 dX8_saves_79 (fun H locs G => ?_)
      obtain ⟨x17, ex17, h⟩ := bd_some h
      refine lv_iinc (pc := 80) (v := x17) (lv' := [(1, .int x17), (0, .ref (ad 43))]) X.1 X.2.1 dX8_saves_80 hl (k := 1) rfl (by rw [ex17]; rfl) (by decide) rfl (fun ls hl => ?_)
      refine lv_goto (pc := 83) (tgt := 52) X.1 X.2.1 dX8_saves_83 (by decide) ?_
      have h := Option.some.inj h
      exact ih1 _ h.symm _ _ ls G (lv_sub hl [1, 0] rfl)
  refine lv_icmp_ne (pc := 6) (tgt := 50) X.1 X.2.1 dX8_saves_6 (by decide) (fun hc2 => ?_) (fun hc2 => ?_)
  · have h := it_pos h hc2
    exact hk1 z _ _ ls h G (lv_sub hl [0] rfl)
  · have h := it_neg h (fun q => q hc2)
    refine lv_iconst (pc := 9) (v := 0) X.1 X.2.1 dX8_saves_9 (by decide) ?_
    refine lv_istore_n (pc := 10) (lv' := [(1, .int 0), (0, .ref (ad 43))]) X.1 X.2.1 dX8_saves_10 rfl hl (by decide) rfl (fun ls hl => ?_)
    refine Loop_ind (P := fun (q : Int32 × MS) => ∀ (H : Heap) (locs : List Loc) (ls : Array Slot), Mm D κ A ad (celM κ ad r0 q.2) s H locs → lv_has ls 2 [(0, .ref (ad 43)), (1, .int q.1)] → W p l e rm8_saves s m [.ref (ad 43)].toArray below meth c H locs 0 0 (MQ below (QV D κ A ad (celM κ ad r0 res)) [.ref (ad 43)].toArray s 0 0 A) (F0 m 11 ls [])) ?_ h _ _ ls G (lv_sub hl [1, 0] rfl)
    intro q y1 h ih1 hz1 H locs ls G hl
    obtain ⟨x3, z4⟩ := q
    try dsimp only at h ih1 G hl ⊢
    refine lv_iload_n (pc := 11) X.1 X.2.1 dX8_saves_11 rfl (lv_at hl 1 rfl) ?_
    refine lv_sipush (pc := 12) (v := 10765) X.1 X.2.1 dX8_saves_12 (by decide) ?_
    refine lv_icmp_ge (pc := 15) (tgt := 40) X.1 X.2.1 dX8_saves_15 (by decide) (fun hc5 => ?_) (fun hc5 => ?_)
    · have h := it_pos h hc5
      refine lv_aload_n (pc := 40) X.1 X.2.1 dX8_saves_40 rfl (lv_at hl 0 rfl) ?_
      refine lv_dup (pc := 41) X.1 X.2.1 dX8_saves_41 rfl ?_
      refine M_geti (pc := 42) X G 2 (by decide) (by decide +kernel) fl_X8_109 dX8_saves_42 ?_
      refine lv_iconst (pc := 45) (v := 1) X.1 X.2.1 dX8_saves_45 (by decide) ?_
      refine lv_isub (pc := 46) X.1 X.2.1 dX8_saves_46 ?_
      obtain ⟨z6, ez6, h⟩ := bd_some h
      refine M_puti (pc := 47) X G 2 ez6 (by decide) (by decide +kernel) fl_X8_109 dX8_saves_47 (fun H locs G => ?_)
      obtain ⟨w1, h, eq1⟩ := li_some h
      have h := h.trans (congrArg some (hz1 _ eq1))
      exact hk1 z6 _ _ ls h G (lv_sub hl [0] rfl)
    · have h := it_neg h hc5
      refine lv_aload_n (pc := 18) X.1 X.2.1 dX8_saves_18 rfl (lv_at hl 0 rfl) ?_
      refine M_getr (pc := 19) X G 1 (by decide) (by decide +kernel) fl_X8_13 dX8_saves_19 ?_
      refine lv_iload_n (pc := 22) X.1 X.2.1 dX8_saves_22 rfl (lv_at hl 1 rfl) ?_
      refine lv_aload_n (pc := 23) X.1 X.2.1 dX8_saves_23 rfl (lv_at hl 0 rfl) ?_
      refine M_getr (pc := 24) X G 1 (by decide) (by decide +kernel) fl_X8_13 dX8_saves_24 ?_
      refine lv_sipush (pc := 27) (v := 2153) X.1 X.2.1 dX8_saves_27 (by decide) ?_
      refine lv_iload_n (pc := 30) X.1 X.2.1 dX8_saves_30 rfl (lv_at hl 1 rfl) ?_
      refine lv_iadd (pc := 31) X.1 X.2.1 dX8_saves_31 ?_
      obtain ⟨hix7, h⟩ := rd_some h
      refine M_iald (pc := 32) X G (i := 1) (n := 12918) (by decide +kernel) (by decide) rfl hix7 dX8_saves_32 ?_
      refine lv_topi (fun x7 ex7 => ?_)
      rw [← ex7] at h
      obtain ⟨hiz8, z8, ez8, h⟩ := wr_some h
      refine M_iast (pc := 33) X G (i := 1) (n := 12918) ez8 (by decide +kernel) (by decide) rfl hiz8 dX8_saves_33 (fun H locs G => ?_)
      obtain ⟨x9, ex9, h⟩ := bd_some h
      refine lv_iinc (pc := 34) (v := x9) (lv' := [(1, .int x9), (0, .ref (ad 43))]) X.1 X.2.1 dX8_saves_34 hl (k := 1) rfl (by rw [ex9]; rfl) (by decide) rfl (fun ls hl => ?_)
      refine lv_goto (pc := 37) (tgt := 11) X.1 X.2.1 dX8_saves_37 (by decide) ?_
      have h := Option.some.inj h
      exact ih1 _ h.symm _ _ ls G (lv_sub hl [1, 0] rfl)

abbrev rm8_defined : Room := { frames := 1, cells := 0, slots := 0, locals := 21 }
noncomputable def F8_defined (z : MS)  : Option (Int32) :=
  Loop (fun (q : Int32 × Int32) => (fun (x1 : Int32) (x2 : Int32) =>
  if 26 ≤ x2 then
  some (.inr x1)
  else
  bn (F8_isDefined z x2) fun x4 =>
  jp (fun (x7 : Int32) => bd (x1 + x7) fun x8 =>
  bd (x2 + 1) fun x9 =>
  some (.inl (x8, x9))) fun k5 =>
  if x4 = 0 then
  k5 0
  else
  k5 1) q.1 q.2) (0, 0)
set_option maxHeartbeats 4000000 in
set_option maxRecDepth 100000 in
theorem c8_defined (l : Launch) (D : va_G) (κ : Nat → ClassId) (A : Nat → Prop) (ad : Nat → Nat) (r0 : Nat → Option va_E) (z : MS)  (res : Int32) (h : F8_defined z  = some res) : Met l yX8_defined (gw yX8_defined cX8_defined 3 (some (FieldType.int))) rm8_defined (va_Pc [.ref (ad 43)] (MW D κ A ad (celM κ ad r0 z))) (QI D κ A ad (celM κ ad r0 z) res) 0 0 A := by
  refine met_of (own := RX8) (by decide +kernel) rfl (Nat.le_of_ble_eq_true rfl) ?_
  intro p e s m below meth c ls X hr hlk G hl
  have hl : lv_has ls 3 [(0, .ref (ad 43))] := hl
  unfold F8_defined at h
  refine lv_iconst (pc := 0) (v := 0) X.1 X.2.1 dX8_defined_0 (by decide) ?_
  refine lv_istore_n (pc := 1) (lv' := [(1, .int 0), (0, .ref (ad 43))]) X.1 X.2.1 dX8_defined_1 rfl hl (by decide) rfl (fun ls hl => ?_)
  refine lv_iconst (pc := 2) (v := 0) X.1 X.2.1 dX8_defined_2 (by decide) ?_
  refine lv_istore_n (pc := 3) (lv' := [(2, .int 0), (1, .int 0), (0, .ref (ad 43))]) X.1 X.2.1 dX8_defined_3 rfl hl (by decide) rfl (fun ls hl => ?_)
  refine Loop_ind (P := fun (q : Int32 × Int32) => ∀ (H : Heap) (locs : List Loc) (ls : Array Slot), Mm D κ A ad (celM κ ad r0 z) s H locs → lv_has ls 3 [(0, .ref (ad 43)), (1, .int q.1), (2, .int q.2)] → W p l e rm8_defined s m [.ref (ad 43)].toArray below meth c H locs 0 0 (MQ below (QI D κ A ad (celM κ ad r0 z) res) [.ref (ad 43)].toArray s 0 0 A) (F0 m 4 ls [])) ?_ h _ _ ls G (lv_sub hl [2, 1, 0] rfl)
  intro q y1 h ih1 hz1 H locs ls G hl
  obtain ⟨x1, x2⟩ := q
  try dsimp only at h ih1 G hl ⊢
  refine lv_iload_n (pc := 4) X.1 X.2.1 dX8_defined_4 rfl (lv_at hl 2 rfl) ?_
  refine lv_bipush (pc := 5) (v := 26) X.1 X.2.1 dX8_defined_5 (by decide) ?_
  refine lv_icmp_ge (pc := 7) (tgt := 32) X.1 X.2.1 dX8_defined_7 (by decide) (fun hc3 => ?_) (fun hc3 => ?_)
  · have h := it_pos h hc3
    refine lv_iload_n (pc := 32) X.1 X.2.1 dX8_defined_32 rfl (lv_at hl 1 rfl) ?_
    have h := Option.some.inj h
    have h := hz1 _ h.symm
    exact m_iret (pc := 33) X G hr hlk dX8_defined_33 h rfl
  · have h := it_neg h hc3
    refine lv_iload_n (pc := 10) X.1 X.2.1 dX8_defined_10 rfl (lv_at hl 1 rfl) ?_
    refine lv_aload_n (pc := 11) X.1 X.2.1 dX8_defined_11 rfl (lv_at hl 0 rfl) ?_
    refine lv_iload_n (pc := 12) X.1 X.2.1 dX8_defined_12 rfl (lv_at hl 2 rfl) ?_
    obtain ⟨x4, ex4, h⟩ := bn_some h
    refine M_calli (pc := 13) (z1 := z) (v := x4) (As := [.int x2]) (rest := [.int x1]) X G (rm := rm8_isDefined) rfl rfl (c8_isDefined l D κ A ad r0 z x2 x4 ex4) g_X8_112 hd_yX8_isDefined ⟨Nat.le_of_ble_eq_true rfl, Nat.le_of_ble_eq_true rfl⟩ rfl hl rfl (lv_room (Nat.le_of_ble_eq_true rfl)) dX8_defined_13 ⟨Nat.le_of_ble_eq_true rfl, Nat.le_of_ble_eq_true rfl⟩ (fun H locs G => ?_)
    obtain ⟨k5, ek5, h⟩ := jp_some h
    have hk5 : ∀ (x7 : Int32) (H : Heap) (locs : List Loc) (ls : Array Slot), k5 x7 = some y1 → Mm D κ A ad (celM κ ad r0 z) s H locs → lv_has ls 3 [(0, .ref (ad 43)), (2, .int x2)] → W p l e rm8_defined s m [.ref (ad 43)].toArray below meth c H locs 0 0 (MQ below (QI D κ A ad (celM κ ad r0 z) res) [.ref (ad 43)].toArray s 0 0 A) (F0 m 24 ls [.int x7, .int x1]) := by
      intro x7 H locs ls h G hl
      rw [ek5] at h
      try dsimp only at h
      refine lv_iadd (pc := 24) X.1 X.2.1 dX8_defined_24 ?_
      refine lv_topi (fun x8 ex8 => ?_)
      have h := bd_at h ex8
      refine lv_istore_n (pc := 25) (lv' := [(1, .int x8), (0, .ref (ad 43)), (2, .int x2)]) X.1 X.2.1 dX8_defined_25 rfl hl (by decide) rfl (fun ls hl => ?_)
      obtain ⟨x9, ex9, h⟩ := bd_some h
      refine lv_iinc (pc := 26) (v := x9) (lv' := [(2, .int x9), (1, .int x8), (0, .ref (ad 43))]) X.1 X.2.1 dX8_defined_26 hl (k := 2) rfl (by rw [ex9]; rfl) (by decide) rfl (fun ls hl => ?_)
      refine lv_goto (pc := 29) (tgt := 4) X.1 X.2.1 dX8_defined_29 (by decide) ?_
      have h := Option.some.inj h
      exact ih1 _ h.symm _ _ ls G (lv_sub hl [2, 1, 0] rfl)
    refine lv_if_eq (pc := 16) (tgt := 23) X.1 X.2.1 dX8_defined_16 (by decide) (fun hc6 => ?_) (fun hc6 => ?_)
    · have h := it_pos h hc6
      refine lv_iconst (pc := 23) (v := 0) X.1 X.2.1 dX8_defined_23 (by decide) ?_
      exact hk5 0 _ _ ls h G (lv_sub hl [0, 2] rfl)
    · have h := it_neg h hc6
      refine lv_iconst (pc := 19) (v := 1) X.1 X.2.1 dX8_defined_19 (by decide) ?_
      refine lv_goto (pc := 20) (tgt := 24) X.1 X.2.1 dX8_defined_20 (by decide) ?_
      exact hk5 1 _ _ ls h G (lv_sub hl [0, 2] rfl)

abbrev rm8_append : Room := { frames := 1, cells := 0, slots := 0, locals := 22 }
def F8_append (z : MS) (p0 : Int32) : Option (MS × Int32) :=
  bn (F8_in p0 33 126) fun x1 =>
  jp (fun (x5 : Int32) => bn2 (F8_refused z x5) fun z7 x6 =>
  if x6 = 0 then
  wr z7 5 60 (z7 43 6) p0 fun z9 =>
  bd (up2 z9 43 6 ((z9 43 6) + 1)) fun z10 =>
  some (z10, z10 43 6)
  else
  some (z7, 0)) fun k2 =>
  if ¬ x1 = 0 then
  if ¬ (z 43 6) = 60 then
  k2 0
  else
  k2 2
  else
  k2 1
set_option maxHeartbeats 4000000 in
set_option maxRecDepth 100000 in
theorem c8_append (l : Launch) (D : va_G) (κ : Nat → ClassId) (A : Nat → Prop) (ad : Nat → Nat) (r0 : Nat → Option va_E) (z : MS) (p0 : Int32) (res : MS × Int32) (h : F8_append z p0 = some res) : Met l yX8_append (gw yX8_append cX8_append 2 (some (FieldType.int))) rm8_append (va_Pc [.ref (ad 43), .int p0] (MW D κ A ad (celM κ ad r0 z))) (QI D κ A ad (celM κ ad r0 res.1) res.2) 0 0 A := by
  refine met_of (own := RX8) (by decide +kernel) rfl (Nat.le_of_ble_eq_true rfl) ?_
  intro p e s m below meth c ls X hr hlk G hl
  have hl : lv_has ls 2 [(0, .ref (ad 43)), (1, .int p0)] := hl
  unfold F8_append at h
  refine lv_aload_n (pc := 0) X.1 X.2.1 dX8_append_0 rfl (lv_at hl 0 rfl) ?_
  refine lv_iload_n (pc := 1) X.1 X.2.1 dX8_append_1 rfl (lv_at hl 1 rfl) ?_
  refine lv_bipush (pc := 2) (v := 33) X.1 X.2.1 dX8_append_2 (by decide) ?_
  refine lv_bipush (pc := 4) (v := 126) X.1 X.2.1 dX8_append_4 (by decide) ?_
  obtain ⟨x1, ex1, h⟩ := bn_some h
  refine m_callsi0 (pc := 6) (v := x1) (As := [.int p0, .int 33, .int 126]) (rest := [.ref (ad 43)]) X G (rm := rm8_in) rfl rfl (c8_in l D κ A ad (celM κ ad r0 z) p0 33 126 x1 ex1) g_X8_102 hs_yX8_in ⟨Nat.le_of_ble_eq_true rfl, Nat.le_of_ble_eq_true rfl⟩ rfl hl rfl (lv_room (Nat.le_of_ble_eq_true rfl)) dX8_append_6 ⟨Nat.le_of_ble_eq_true rfl, Nat.le_of_ble_eq_true rfl⟩ (fun H locs G => ?_)
  obtain ⟨k2, ek2, h⟩ := jp_some h
  have hk2 : ∀ (x5 : Int32) (H : Heap) (locs : List Loc) (ls : Array Slot), k2 x5 = some res → Mm D κ A ad (celM κ ad r0 z) s H locs → lv_has ls 2 [(0, .ref (ad 43)), (1, .int p0)] → W p l e rm8_append s m [.ref (ad 43), .int p0].toArray below meth c H locs 0 0 (MQ below (QI D κ A ad (celM κ ad r0 res.1) res.2) [.ref (ad 43), .int p0].toArray s 0 0 A) (F0 m 30 ls [.int x5, .ref (ad 43)]) := by
    intro x5 H locs ls h G hl
    rw [ek2] at h
    try dsimp only at h
    obtain ⟨z7, x6, ex6, h⟩ := bn2_some h
    refine M_calli (pc := 30) (z1 := z7) (v := x6) (As := [.int x5]) (rest := []) X G (rm := rm8_refused) rfl rfl (c8_refused l D κ A ad r0 z x5 (z7, x6) ex6) g_X8_116 hd_yX8_refused ⟨Nat.le_of_ble_eq_true rfl, Nat.le_of_ble_eq_true rfl⟩ rfl hl rfl (lv_room (Nat.le_of_ble_eq_true rfl)) dX8_append_30 ⟨Nat.le_of_ble_eq_true rfl, Nat.le_of_ble_eq_true rfl⟩ (fun H locs G => ?_)
    refine lv_if_eq (pc := 33) (tgt := 38) X.1 X.2.1 dX8_append_33 (by decide) (fun hc8 => ?_) (fun hc8 => ?_)
    · have h := it_pos h hc8
      refine lv_aload_n (pc := 38) X.1 X.2.1 dX8_append_38 rfl (lv_at hl 0 rfl) ?_
      refine M_getr (pc := 39) X G 5 (by decide) (by decide +kernel) fl_X8_23 dX8_append_39 ?_
      refine lv_aload_n (pc := 42) X.1 X.2.1 dX8_append_42 rfl (lv_at hl 0 rfl) ?_
      refine M_geti (pc := 43) X G 6 (by decide) (by decide +kernel) fl_X8_106 dX8_append_43 ?_
      refine lv_iload_n (pc := 46) X.1 X.2.1 dX8_append_46 rfl (lv_at hl 1 rfl) ?_
      obtain ⟨hiz9, z9, ez9, h⟩ := wr_some h
      refine M_iast (pc := 47) X G (i := 5) (n := 60) ez9 (by decide +kernel) (by decide) rfl hiz9 dX8_append_47 (fun H locs G => ?_)
      refine lv_aload_n (pc := 48) X.1 X.2.1 dX8_append_48 rfl (lv_at hl 0 rfl) ?_
      refine lv_dup (pc := 49) X.1 X.2.1 dX8_append_49 rfl ?_
      refine M_geti (pc := 50) X G 6 (by decide) (by decide +kernel) fl_X8_106 dX8_append_50 ?_
      refine lv_iconst (pc := 53) (v := 1) X.1 X.2.1 dX8_append_53 (by decide) ?_
      refine lv_iadd (pc := 54) X.1 X.2.1 dX8_append_54 ?_
      obtain ⟨z10, ez10, h⟩ := bd_some h
      refine M_puti (pc := 55) X G 6 ez10 (by decide) (by decide +kernel) fl_X8_106 dX8_append_55 (fun H locs G => ?_)
      refine lv_aload_n (pc := 58) X.1 X.2.1 dX8_append_58 rfl (lv_at hl 0 rfl) ?_
      refine M_geti (pc := 59) X G 6 (by decide) (by decide +kernel) fl_X8_106 dX8_append_59 ?_
      have h := Option.some.inj h
      exact m_iret (pc := 62) X G hr hlk dX8_append_62 (congrArg Prod.snd h) (congrArg (fun q : MS × Int32 => celM κ ad r0 q.1) h)
    · have h := it_neg h hc8
      refine lv_iconst (pc := 36) (v := 0) X.1 X.2.1 dX8_append_36 (by decide) ?_
      have h := Option.some.inj h
      exact m_iret (pc := 37) X G hr hlk dX8_append_37 (congrArg Prod.snd h) (congrArg (fun q : MS × Int32 => celM κ ad r0 q.1) h)
  refine lv_if_ne (pc := 9) (tgt := 16) X.1 X.2.1 dX8_append_9 (by decide) (fun hc3 => ?_) (fun hc3 => ?_)
  · have h := it_pos h hc3
    refine lv_aload_n (pc := 16) X.1 X.2.1 dX8_append_16 rfl (lv_at hl 0 rfl) ?_
    refine M_geti (pc := 17) X G 6 (by decide) (by decide +kernel) fl_X8_106 dX8_append_17 ?_
    refine lv_bipush (pc := 20) (v := 60) X.1 X.2.1 dX8_append_20 (by decide) ?_
    refine lv_icmp_ne (pc := 22) (tgt := 29) X.1 X.2.1 dX8_append_22 (by decide) (fun hc4 => ?_) (fun hc4 => ?_)
    · have h := it_pos h hc4
      refine lv_iconst (pc := 29) (v := 0) X.1 X.2.1 dX8_append_29 (by decide) ?_
      exact hk2 0 _ _ ls h G (lv_sub hl [0, 1] rfl)
    · have h := it_neg h (fun q => q hc4)
      refine lv_iconst (pc := 25) (v := 2) X.1 X.2.1 dX8_append_25 (by decide) ?_
      refine lv_goto (pc := 26) (tgt := 30) X.1 X.2.1 dX8_append_26 (by decide) ?_
      exact hk2 2 _ _ ls h G (lv_sub hl [0, 1] rfl)
  · have h := it_neg h (fun q => q hc3)
    refine lv_iconst (pc := 12) (v := 1) X.1 X.2.1 dX8_append_12 (by decide) ?_
    refine lv_goto (pc := 13) (tgt := 30) X.1 X.2.1 dX8_append_13 (by decide) ?_
    exact hk2 1 _ _ ls h G (lv_sub hl [0, 1] rfl)

abbrev rm8_clearBuffer : Room := { frames := 0, cells := 0, slots := 0, locals := 0 }
def F8_clearBuffer (z : MS)  : Option (MS × Int32) :=
  bd (up2 z 43 7 0) fun z1 =>
  bd (z1 43 6) fun x2 =>
  bd (up2 z1 43 6 0) fun z3 =>
  some (z3, x2)
set_option maxHeartbeats 4000000 in
set_option maxRecDepth 100000 in
theorem c8_clearBuffer (l : Launch) (D : va_G) (κ : Nat → ClassId) (A : Nat → Prop) (ad : Nat → Nat) (r0 : Nat → Option va_E) (z : MS)  (res : MS × Int32) (h : F8_clearBuffer z  = some res) : Met l yX8_clearBuffer (gw yX8_clearBuffer cX8_clearBuffer 2 (some (FieldType.int))) rm8_clearBuffer (va_Pc [.ref (ad 43)] (MW D κ A ad (celM κ ad r0 z))) (QI D κ A ad (celM κ ad r0 res.1) res.2) 0 0 A := by
  refine met_of (own := RX8) (by decide +kernel) rfl (Nat.le_of_ble_eq_true rfl) ?_
  intro p e s m below meth c ls X hr hlk G hl
  have hl : lv_has ls 2 [(0, .ref (ad 43))] := hl
  unfold F8_clearBuffer at h
  refine lv_aload_n (pc := 0) X.1 X.2.1 dX8_clearBuffer_0 rfl (lv_at hl 0 rfl) ?_
  refine lv_iconst (pc := 1) (v := 0) X.1 X.2.1 dX8_clearBuffer_1 (by decide) ?_
  obtain ⟨z1, ez1, h⟩ := bd_some h
  refine M_puti (pc := 2) X G 7 ez1 (by decide) (by decide +kernel) fl_X8_98 dX8_clearBuffer_2 (fun H locs G => ?_)
  refine lv_aload_n (pc := 5) X.1 X.2.1 dX8_clearBuffer_5 rfl (lv_at hl 0 rfl) ?_
  refine M_geti (pc := 6) X G 6 (by decide) (by decide +kernel) fl_X8_106 dX8_clearBuffer_6 ?_
  refine lv_topi (fun x2 ex2 => ?_)
  have h := bd_at h ex2
  refine lv_istore_n (pc := 9) (lv' := [(1, .int x2), (0, .ref (ad 43))]) X.1 X.2.1 dX8_clearBuffer_9 rfl hl (by decide) rfl (fun ls hl => ?_)
  refine lv_aload_n (pc := 10) X.1 X.2.1 dX8_clearBuffer_10 rfl (lv_at hl 1 rfl) ?_
  refine lv_iconst (pc := 11) (v := 0) X.1 X.2.1 dX8_clearBuffer_11 (by decide) ?_
  obtain ⟨z3, ez3, h⟩ := bd_some h
  refine M_puti (pc := 12) X G 6 ez3 (by decide) (by decide +kernel) fl_X8_106 dX8_clearBuffer_12 (fun H locs G => ?_)
  refine lv_iload_n (pc := 15) X.1 X.2.1 dX8_clearBuffer_15 rfl (lv_at hl 0 rfl) ?_
  have h := Option.some.inj h
  exact m_iret (pc := 16) X G hr hlk dX8_clearBuffer_16 (congrArg Prod.snd h) (congrArg (fun q : MS × Int32 => celM κ ad r0 q.1) h)

abbrev rm8_error : Room := { frames := 2, cells := 0, slots := 0, locals := 42 }
noncomputable def F8_error (z : MS)  : Option (MS × Int32) :=
  bd (up2 z 43 9 0) fun z1 =>
  Loop (fun (q : Int32 × Int32 × MS) => (fun (x2 : Int32) (x3 : Int32) (z4 : MS) =>
  if (z4 43 6) ≤ x3 then
  some (.inr (z4, z4 43 6))
  else
  rd (z4 5) 60 x3 fun x6 =>
  bn (F8_isPlain x6) fun x7 =>
  jp (fun (x25 : Int32) => if ¬ x25 = 0 then
  jp (fun (z31 : MS) => jp (fun (z35 : MS) => jp (fun (z40 : MS) => bn (F8_isCall x6) fun x41 =>
  bd (x3 + 1) fun x42 =>
  some (.inl (x41, x42, z40))) fun k36 =>
  if ¬ x6 = 44 then
  k36 z35
  else
  rd (z35 8) 60 ((z35 43 9) - 1) fun x38 =>
  wr z35 8 60 ((z35 43 9) - 1) (x38 + 1) fun z39 =>
  k36 z39) fun k32 =>
  if ¬ x6 = 41 then
  k32 z31
  else
  bd (up2 z31 43 9 ((z31 43 9) - 1)) fun z34 =>
  k32 z34) fun k27 =>
  if ¬ x6 = 40 then
  k27 z4
  else
  wr z4 8 60 (z4 43 9) 1 fun z29 =>
  bd (up2 z29 43 9 ((z29 43 9) + 1)) fun z30 =>
  k27 z30
  else
  some (.inr (z4, x3))) fun k8 =>
  jp (fun (_ : Unit) => k8 1) fun k9 =>
  if ¬ x7 = 0 then
  k9 ()
  else
  if x6 = 63 then
  k9 ()
  else
  bn (F8_isCall x6) fun x12 =>
  if ¬ x12 = 0 then
  k9 ()
  else
  jp (fun (_ : Unit) => jp (fun (_ : Unit) => jp (fun (_ : Unit) => k8 0) fun k20 =>
  if ¬ x6 = 44 then
  k20 ()
  else
  if (z4 43 9) ≤ 0 then
  k20 ()
  else
  rd (z4 8) 60 ((z4 43 9) - 1) fun x23 =>
  if 6 ≤ x23 then
  k20 ()
  else
  k9 ()) fun k17 =>
  if ¬ x6 = 41 then
  k17 ()
  else
  if (0 : Int32) < (z4 43 9) then
  k9 ()
  else
  k17 ()) fun k14 =>
  if ¬ x6 = 40 then
  k14 ()
  else
  if ¬ x2 = 0 then
  k9 ()
  else
  k14 ()) q.1 q.2.1 q.2.2) (0, 0, z1)
set_option maxHeartbeats 4000000 in
set_option maxRecDepth 100000 in
theorem c8_error (l : Launch) (D : va_G) (κ : Nat → ClassId) (A : Nat → Prop) (ad : Nat → Nat) (r0 : Nat → Option va_E) (z : MS)  (res : MS × Int32) (h : F8_error z  = some res) : Met l yX8_error (gw yX8_error cX8_error 5 (some (FieldType.int))) rm8_error (va_Pc [.ref (ad 43)] (MW D κ A ad (celM κ ad r0 z))) (QI D κ A ad (celM κ ad r0 res.1) res.2) 0 0 A := by
  refine met_of (own := RX8) (by decide +kernel) rfl (Nat.le_of_ble_eq_true rfl) ?_
  intro p e s m below meth c ls X hr hlk G hl
  have hl : lv_has ls 5 [(0, .ref (ad 43))] := hl
  unfold F8_error at h
  refine lv_aload_n (pc := 0) X.1 X.2.1 dX8_error_0 rfl (lv_at hl 0 rfl) ?_
  refine lv_iconst (pc := 1) (v := 0) X.1 X.2.1 dX8_error_1 (by decide) ?_
  obtain ⟨z1, ez1, h⟩ := bd_some h
  refine M_puti (pc := 2) X G 9 ez1 (by decide) (by decide +kernel) fl_X8_119 dX8_error_2 (fun H locs G => ?_)
  refine lv_iconst (pc := 5) (v := 0) X.1 X.2.1 dX8_error_5 (by decide) ?_
  refine lv_istore_n (pc := 6) (lv' := [(1, .int 0), (0, .ref (ad 43))]) X.1 X.2.1 dX8_error_6 rfl hl (by decide) rfl (fun ls hl => ?_)
  refine lv_iconst (pc := 7) (v := 0) X.1 X.2.1 dX8_error_7 (by decide) ?_
  refine lv_istore_n (pc := 8) (lv' := [(2, .int 0), (1, .int 0), (0, .ref (ad 43))]) X.1 X.2.1 dX8_error_8 rfl hl (by decide) rfl (fun ls hl => ?_)
  refine Loop_ind (P := fun (q : Int32 × Int32 × MS) => ∀ (H : Heap) (locs : List Loc) (ls : Array Slot), Mm D κ A ad (celM κ ad r0 q.2.2) s H locs → lv_has ls 5 [(0, .ref (ad 43)), (1, .int q.1), (2, .int q.2.1)] → W p l e rm8_error s m [.ref (ad 43)].toArray below meth c H locs 0 0 (MQ below (QI D κ A ad (celM κ ad r0 res.1) res.2) [.ref (ad 43)].toArray s 0 0 A) (F0 m 9 ls [])) ?_ h _ _ ls G (lv_sub hl [2, 1, 0] rfl)
  intro q y1 h ih1 hz1 H locs ls G hl
  obtain ⟨x2, x3, z4⟩ := q
  try dsimp only at h ih1 G hl ⊢
  refine lv_iload_n (pc := 9) X.1 X.2.1 dX8_error_9 rfl (lv_at hl 2 rfl) ?_
  refine lv_aload_n (pc := 10) X.1 X.2.1 dX8_error_10 rfl (lv_at hl 0 rfl) ?_
  refine M_geti (pc := 11) X G 6 (by decide) (by decide +kernel) fl_X8_106 dX8_error_11 ?_
  refine lv_icmp_ge (pc := 14) (tgt := 184) X.1 X.2.1 dX8_error_14 (by decide) (fun hc5 => ?_) (fun hc5 => ?_)
  · have h := it_pos h hc5
    refine lv_aload_n (pc := 184) X.1 X.2.1 dX8_error_184 rfl (lv_at hl 0 rfl) ?_
    refine M_geti (pc := 185) X G 6 (by decide) (by decide +kernel) fl_X8_106 dX8_error_185 ?_
    have h := Option.some.inj h
    have h := hz1 _ h.symm
    exact m_iret (pc := 188) X G hr hlk dX8_error_188 (congrArg Prod.snd h) (congrArg (fun q : MS × Int32 => celM κ ad r0 q.1) h)
  · have h := it_neg h hc5
    refine lv_aload_n (pc := 17) X.1 X.2.1 dX8_error_17 rfl (lv_at hl 0 rfl) ?_
    refine M_getr (pc := 18) X G 5 (by decide) (by decide +kernel) fl_X8_23 dX8_error_18 ?_
    refine lv_iload_n (pc := 21) X.1 X.2.1 dX8_error_21 rfl (lv_at hl 2 rfl) ?_
    obtain ⟨hix6, h⟩ := rd_some h
    refine M_iald (pc := 22) X G (i := 5) (n := 60) (by decide +kernel) (by decide) rfl hix6 dX8_error_22 ?_
    refine lv_topi (fun x6 ex6 => ?_)
    rw [← ex6] at h
    refine lv_istore_n (pc := 23) (lv' := [(3, .int x6), (0, .ref (ad 43)), (1, .int x2), (2, .int x3)]) X.1 X.2.1 dX8_error_23 rfl hl (by decide) rfl (fun ls hl => ?_)
    refine lv_iload_n (pc := 24) X.1 X.2.1 dX8_error_24 rfl (lv_at hl 0 rfl) ?_
    obtain ⟨x7, ex7, h⟩ := bn_some h
    refine m_callsi0 (pc := 25) (v := x7) (As := [.int x6]) (rest := []) X G (rm := rm8_isPlain) rfl rfl (c8_isPlain l D κ A ad (celM κ ad r0 z4) x6 x7 ex7) g_X8_122 hs_yX8_isPlain ⟨Nat.le_of_ble_eq_true rfl, Nat.le_of_ble_eq_true rfl⟩ rfl hl rfl (lv_room (Nat.le_of_ble_eq_true rfl)) dX8_error_25 ⟨Nat.le_of_ble_eq_true rfl, Nat.le_of_ble_eq_true rfl⟩ (fun H locs G => ?_)
    obtain ⟨k8, ek8, h⟩ := jp_some h
    have hk8 : ∀ (x25 : Int32) (H : Heap) (locs : List Loc) (ls : Array Slot), k8 x25 = some y1 → Mm D κ A ad (celM κ ad r0 z4) s H locs → lv_has ls 5 [(0, .ref (ad 43)), (2, .int x3), (3, .int x6)] → W p l e rm8_error s m [.ref (ad 43)].toArray below meth c H locs 0 0 (MQ below (QI D κ A ad (celM κ ad r0 res.1) res.2) [.ref (ad 43)].toArray s 0 0 A) (F0 m 101 ls [.int x25]) := by
      intro x25 H locs ls h G hl
      rw [ek8] at h
      try dsimp only at h
      refine lv_istore (pc := 101) (lv' := [(4, .int x25), (0, .ref (ad 43)), (2, .int x3), (3, .int x6)]) X.1 X.2.1 dX8_error_101 hl (by decide) rfl (fun ls hl => ?_)
      refine lv_iload (pc := 103) X.1 X.2.1 dX8_error_103 (lv_at hl 0 rfl) ?_
      refine lv_if_ne (pc := 105) (tgt := 110) X.1 X.2.1 dX8_error_105 (by decide) (fun hc26 => ?_) (fun hc26 => ?_)
      · have h := it_pos h hc26
        refine lv_iload_n (pc := 110) X.1 X.2.1 dX8_error_110 rfl (lv_at hl 3 rfl) ?_
        refine lv_bipush (pc := 111) (v := 40) X.1 X.2.1 dX8_error_111 (by decide) ?_
        obtain ⟨k27, ek27, h⟩ := jp_some h
        have hk27 : ∀ (z31 : MS) (H : Heap) (locs : List Loc) (ls : Array Slot), k27 z31 = some y1 → Mm D κ A ad (celM κ ad r0 z31) s H locs → lv_has ls 5 [(0, .ref (ad 43)), (2, .int x3), (3, .int x6)] → W p l e rm8_error s m [.ref (ad 43)].toArray below meth c H locs 0 0 (MQ below (QI D κ A ad (celM κ ad r0 res.1) res.2) [.ref (ad 43)].toArray s 0 0 A) (F0 m 136 ls []) := by
          intro z31 H locs ls h G hl
          rw [ek27] at h
          try dsimp only at h
          refine lv_iload_n (pc := 136) X.1 X.2.1 dX8_error_136 rfl (lv_at hl 2 rfl) ?_
          refine lv_bipush (pc := 137) (v := 41) X.1 X.2.1 dX8_error_137 (by decide) ?_
          obtain ⟨k32, ek32, h⟩ := jp_some h
          have hk32 : ∀ (z35 : MS) (H : Heap) (locs : List Loc) (ls : Array Slot), k32 z35 = some y1 → Mm D κ A ad (celM κ ad r0 z35) s H locs → lv_has ls 5 [(0, .ref (ad 43)), (2, .int x3), (3, .int x6)] → W p l e rm8_error s m [.ref (ad 43)].toArray below meth c H locs 0 0 (MQ below (QI D κ A ad (celM κ ad r0 res.1) res.2) [.ref (ad 43)].toArray s 0 0 A) (F0 m 152 ls []) := by
            intro z35 H locs ls h G hl
            rw [ek32] at h
            try dsimp only at h
            refine lv_iload_n (pc := 152) X.1 X.2.1 dX8_error_152 rfl (lv_at hl 2 rfl) ?_
            refine lv_bipush (pc := 153) (v := 44) X.1 X.2.1 dX8_error_153 (by decide) ?_
            obtain ⟨k36, ek36, h⟩ := jp_some h
            have hk36 : ∀ (z40 : MS) (H : Heap) (locs : List Loc) (ls : Array Slot), k36 z40 = some y1 → Mm D κ A ad (celM κ ad r0 z40) s H locs → lv_has ls 5 [(0, .ref (ad 43)), (2, .int x3), (3, .int x6)] → W p l e rm8_error s m [.ref (ad 43)].toArray below meth c H locs 0 0 (MQ below (QI D κ A ad (celM κ ad r0 res.1) res.2) [.ref (ad 43)].toArray s 0 0 A) (F0 m 173 ls []) := by
              intro z40 H locs ls h G hl
              rw [ek36] at h
              try dsimp only at h
              refine lv_iload_n (pc := 173) X.1 X.2.1 dX8_error_173 rfl (lv_at hl 2 rfl) ?_
              obtain ⟨x41, ex41, h⟩ := bn_some h
              refine m_callsi0 (pc := 174) (v := x41) (As := [.int x6]) (rest := []) X G (rm := rm8_isCall) rfl rfl (c8_isCall l D κ A ad (celM κ ad r0 z40) x6 x41 ex41) g_X8_125 hs_yX8_isCall ⟨Nat.le_of_ble_eq_true rfl, Nat.le_of_ble_eq_true rfl⟩ rfl hl rfl (lv_room (Nat.le_of_ble_eq_true rfl)) dX8_error_174 ⟨Nat.le_of_ble_eq_true rfl, Nat.le_of_ble_eq_true rfl⟩ (fun H locs G => ?_)
              refine lv_istore_n (pc := 177) (lv' := [(1, .int x41), (0, .ref (ad 43)), (2, .int x3), (3, .int x6)]) X.1 X.2.1 dX8_error_177 rfl hl (by decide) rfl (fun ls hl => ?_)
              obtain ⟨x42, ex42, h⟩ := bd_some h
              refine lv_iinc (pc := 178) (v := x42) (lv' := [(2, .int x42), (1, .int x41), (0, .ref (ad 43)), (3, .int x6)]) X.1 X.2.1 dX8_error_178 hl (k := 2) rfl (by rw [ex42]; rfl) (by decide) rfl (fun ls hl => ?_)
              refine lv_goto (pc := 181) (tgt := 9) X.1 X.2.1 dX8_error_181 (by decide) ?_
              have h := Option.some.inj h
              exact ih1 _ h.symm _ _ ls G (lv_sub hl [2, 1, 0] rfl)
            refine lv_icmp_ne (pc := 155) (tgt := 173) X.1 X.2.1 dX8_error_155 (by decide) (fun hc37 => ?_) (fun hc37 => ?_)
            · have h := it_pos h hc37
              exact hk36 z35 _ _ ls h G (lv_sub hl [0, 1, 2] rfl)
            · have h := it_neg h (fun q => q hc37)
              refine lv_aload_n (pc := 158) X.1 X.2.1 dX8_error_158 rfl (lv_at hl 0 rfl) ?_
              refine M_getr (pc := 159) X G 8 (by decide) (by decide +kernel) fl_X8_26 dX8_error_159 ?_
              refine lv_aload_n (pc := 162) X.1 X.2.1 dX8_error_162 rfl (lv_at hl 0 rfl) ?_
              refine M_geti (pc := 163) X G 9 (by decide) (by decide +kernel) fl_X8_119 dX8_error_163 ?_
              refine lv_iconst (pc := 166) (v := 1) X.1 X.2.1 dX8_error_166 (by decide) ?_
              refine lv_isub (pc := 167) X.1 X.2.1 dX8_error_167 ?_
              refine lv_dup2_11 (pc := 168) X.1 X.2.1 dX8_error_168 rfl rfl ?_
              obtain ⟨hix38, h⟩ := rd_some h
              refine M_iald (pc := 169) X G (i := 8) (n := 60) (by decide +kernel) (by decide) rfl hix38 dX8_error_169 ?_
              refine lv_topi (fun x38 ex38 => ?_)
              rw [← ex38] at h
              refine lv_iconst (pc := 170) (v := 1) X.1 X.2.1 dX8_error_170 (by decide) ?_
              refine lv_iadd (pc := 171) X.1 X.2.1 dX8_error_171 ?_
              obtain ⟨hiz39, z39, ez39, h⟩ := wr_some h
              refine M_iast (pc := 172) X G (i := 8) (n := 60) ez39 (by decide +kernel) (by decide) rfl hiz39 dX8_error_172 (fun H locs G => ?_)
              exact hk36 z39 _ _ ls h G (lv_sub hl [0, 1, 2] rfl)
          refine lv_icmp_ne (pc := 139) (tgt := 152) X.1 X.2.1 dX8_error_139 (by decide) (fun hc33 => ?_) (fun hc33 => ?_)
          · have h := it_pos h hc33
            exact hk32 z31 _ _ ls h G (lv_sub hl [0, 1, 2] rfl)
          · have h := it_neg h (fun q => q hc33)
            refine lv_aload_n (pc := 142) X.1 X.2.1 dX8_error_142 rfl (lv_at hl 0 rfl) ?_
            refine lv_dup (pc := 143) X.1 X.2.1 dX8_error_143 rfl ?_
            refine M_geti (pc := 144) X G 9 (by decide) (by decide +kernel) fl_X8_119 dX8_error_144 ?_
            refine lv_iconst (pc := 147) (v := 1) X.1 X.2.1 dX8_error_147 (by decide) ?_
            refine lv_isub (pc := 148) X.1 X.2.1 dX8_error_148 ?_
            obtain ⟨z34, ez34, h⟩ := bd_some h
            refine M_puti (pc := 149) X G 9 ez34 (by decide) (by decide +kernel) fl_X8_119 dX8_error_149 (fun H locs G => ?_)
            exact hk32 z34 _ _ ls h G (lv_sub hl [0, 1, 2] rfl)
        refine lv_icmp_ne (pc := 113) (tgt := 136) X.1 X.2.1 dX8_error_113 (by decide) (fun hc28 => ?_) (fun hc28 => ?_)
        · have h := it_pos h hc28
          exact hk27 z4 _ _ ls h G (lv_sub hl [1, 2, 3] rfl)
        · have h := it_neg h (fun q => q hc28)
          refine lv_aload_n (pc := 116) X.1 X.2.1 dX8_error_116 rfl (lv_at hl 1 rfl) ?_
          refine M_getr (pc := 117) X G 8 (by decide) (by decide +kernel) fl_X8_26 dX8_error_117 ?_
          refine lv_aload_n (pc := 120) X.1 X.2.1 dX8_error_120 rfl (lv_at hl 1 rfl) ?_
          refine M_geti (pc := 121) X G 9 (by decide) (by decide +kernel) fl_X8_119 dX8_error_121 ?_
          refine lv_iconst (pc := 124) (v := 1) X.1 X.2.1 dX8_error_124 (by decide) ?_
          obtain ⟨hiz29, z29, ez29, h⟩ := wr_some h
          refine M_iast (pc := 125) X G (i := 8) (n := 60) ez29 (by decide +kernel) (by decide) rfl hiz29 dX8_error_125 (fun H locs G => ?_)
          refine lv_aload_n (pc := 126) X.1 X.2.1 dX8_error_126 rfl (lv_at hl 1 rfl) ?_
          refine lv_dup (pc := 127) X.1 X.2.1 dX8_error_127 rfl ?_
          refine M_geti (pc := 128) X G 9 (by decide) (by decide +kernel) fl_X8_119 dX8_error_128 ?_
          refine lv_iconst (pc := 131) (v := 1) X.1 X.2.1 dX8_error_131 (by decide) ?_
          refine lv_iadd (pc := 132) X.1 X.2.1 dX8_error_132 ?_
          obtain ⟨z30, ez30, h⟩ := bd_some h
          refine M_puti (pc := 133) X G 9 ez30 (by decide) (by decide +kernel) fl_X8_119 dX8_error_133 (fun H locs G => ?_)
          exact hk27 z30 _ _ ls h G (lv_sub hl [1, 2, 3] rfl)
      · have h := it_neg h (fun q => q hc26)
        refine lv_iload_n (pc := 108) X.1 X.2.1 dX8_error_108 rfl (lv_at hl 2 rfl) ?_
        have h := Option.some.inj h
        have h := hz1 _ h.symm
        exact m_iret (pc := 109) X G hr hlk dX8_error_109 (congrArg Prod.snd h) (congrArg (fun q : MS × Int32 => celM κ ad r0 q.1) h)
    obtain ⟨k9, ek9, h⟩ := jp_some h
    have hk9 : ∀  (H : Heap) (locs : List Loc) (ls : Array Slot), k9 () = some y1 → Mm D κ A ad (celM κ ad r0 z4) s H locs → lv_has ls 5 [(0, .ref (ad 43)), (2, .int x3), (3, .int x6)] → W p l e rm8_error s m [.ref (ad 43)].toArray below meth c H locs 0 0 (MQ below (QI D κ A ad (celM κ ad r0 res.1) res.2) [.ref (ad 43)].toArray s 0 0 A) (F0 m 96 ls []) := by
      intro  H locs ls h G hl
      rw [ek9] at h
      try dsimp only at h
      refine lv_iconst (pc := 96) (v := 1) X.1 X.2.1 dX8_error_96 (by decide) ?_
      refine lv_goto (pc := 97) (tgt := 101) X.1 X.2.1 dX8_error_97 (by decide) ?_
      exact hk8 1 _ _ ls h G (lv_sub hl [0, 1, 2] rfl)
    refine lv_if_ne (pc := 28) (tgt := 96) X.1 X.2.1 dX8_error_28 (by decide) (fun hc10 => ?_) (fun hc10 => ?_)
    · have h := it_pos h hc10
      exact hk9  _ _ ls h G (lv_sub hl [1, 3, 0] rfl)
    · have h := it_neg h (fun q => q hc10)
      refine lv_iload_n (pc := 31) X.1 X.2.1 dX8_error_31 rfl (lv_at hl 0 rfl) ?_
      refine lv_bipush (pc := 32) (v := 63) X.1 X.2.1 dX8_error_32 (by decide) ?_
      refine lv_icmp_eq (pc := 34) (tgt := 96) X.1 X.2.1 dX8_error_34 (by decide) (fun hc11 => ?_) (fun hc11 => ?_)
      · have h := it_pos h hc11
        exact hk9  _ _ ls h G (lv_sub hl [1, 3, 0] rfl)
      · have h := it_neg h hc11
        refine lv_iload_n (pc := 37) X.1 X.2.1 dX8_error_37 rfl (lv_at hl 0 rfl) ?_
        obtain ⟨x12, ex12, h⟩ := bn_some h
        refine m_callsi0 (pc := 38) (v := x12) (As := [.int x6]) (rest := []) X G (rm := rm8_isCall) rfl rfl (c8_isCall l D κ A ad (celM κ ad r0 z4) x6 x12 ex12) g_X8_125 hs_yX8_isCall ⟨Nat.le_of_ble_eq_true rfl, Nat.le_of_ble_eq_true rfl⟩ rfl hl rfl (lv_room (Nat.le_of_ble_eq_true rfl)) dX8_error_38 ⟨Nat.le_of_ble_eq_true rfl, Nat.le_of_ble_eq_true rfl⟩ (fun H locs G => ?_)
        refine lv_if_ne (pc := 41) (tgt := 96) X.1 X.2.1 dX8_error_41 (by decide) (fun hc13 => ?_) (fun hc13 => ?_)
        · have h := it_pos h hc13
          exact hk9  _ _ ls h G (lv_sub hl [1, 3, 0] rfl)
        · have h := it_neg h (fun q => q hc13)
          refine lv_iload_n (pc := 44) X.1 X.2.1 dX8_error_44 rfl (lv_at hl 0 rfl) ?_
          refine lv_bipush (pc := 45) (v := 40) X.1 X.2.1 dX8_error_45 (by decide) ?_
          obtain ⟨k14, ek14, h⟩ := jp_some h
          have hk14 : ∀  (H : Heap) (locs : List Loc) (ls : Array Slot), k14 () = some y1 → Mm D κ A ad (celM κ ad r0 z4) s H locs → lv_has ls 5 [(0, .ref (ad 43)), (2, .int x3), (3, .int x6)] → W p l e rm8_error s m [.ref (ad 43)].toArray below meth c H locs 0 0 (MQ below (QI D κ A ad (celM κ ad r0 res.1) res.2) [.ref (ad 43)].toArray s 0 0 A) (F0 m 54 ls []) := by
            intro  H locs ls h G hl
            rw [ek14] at h
            try dsimp only at h
            refine lv_iload_n (pc := 54) X.1 X.2.1 dX8_error_54 rfl (lv_at hl 2 rfl) ?_
            refine lv_bipush (pc := 55) (v := 41) X.1 X.2.1 dX8_error_55 (by decide) ?_
            obtain ⟨k17, ek17, h⟩ := jp_some h
            have hk17 : ∀  (H : Heap) (locs : List Loc) (ls : Array Slot), k17 () = some y1 → Mm D κ A ad (celM κ ad r0 z4) s H locs → lv_has ls 5 [(0, .ref (ad 43)), (2, .int x3), (3, .int x6)] → W p l e rm8_error s m [.ref (ad 43)].toArray below meth c H locs 0 0 (MQ below (QI D κ A ad (celM κ ad r0 res.1) res.2) [.ref (ad 43)].toArray s 0 0 A) (F0 m 67 ls []) := by
              intro  H locs ls h G hl
              rw [ek17] at h
              try dsimp only at h
              refine lv_iload_n (pc := 67) X.1 X.2.1 dX8_error_67 rfl (lv_at hl 2 rfl) ?_
              refine lv_bipush (pc := 68) (v := 44) X.1 X.2.1 dX8_error_68 (by decide) ?_
              obtain ⟨k20, ek20, h⟩ := jp_some h
              have hk20 : ∀  (H : Heap) (locs : List Loc) (ls : Array Slot), k20 () = some y1 → Mm D κ A ad (celM κ ad r0 z4) s H locs → lv_has ls 5 [(0, .ref (ad 43)), (2, .int x3), (3, .int x6)] → W p l e rm8_error s m [.ref (ad 43)].toArray below meth c H locs 0 0 (MQ below (QI D κ A ad (celM κ ad r0 res.1) res.2) [.ref (ad 43)].toArray s 0 0 A) (F0 m 100 ls []) := by
                intro  H locs ls h G hl
                rw [ek20] at h
                try dsimp only at h
                refine lv_iconst (pc := 100) (v := 0) X.1 X.2.1 dX8_error_100 (by decide) ?_
                exact hk8 0 _ _ ls h G (lv_sub hl [0, 1, 2] rfl)
              refine lv_icmp_ne (pc := 70) (tgt := 100) X.1 X.2.1 dX8_error_70 (by decide) (fun hc21 => ?_) (fun hc21 => ?_)
              · have h := it_pos h hc21
                exact hk20  _ _ ls h G (lv_sub hl [0, 1, 2] rfl)
              · have h := it_neg h (fun q => q hc21)
                refine lv_aload_n (pc := 73) X.1 X.2.1 dX8_error_73 rfl (lv_at hl 0 rfl) ?_
                refine M_geti (pc := 74) X G 9 (by decide) (by decide +kernel) fl_X8_119 dX8_error_74 ?_
                refine lv_if_le (pc := 77) (tgt := 100) X.1 X.2.1 dX8_error_77 (by decide) (fun hc22 => ?_) (fun hc22 => ?_)
                · have h := it_pos h hc22
                  exact hk20  _ _ ls h G (lv_sub hl [0, 1, 2] rfl)
                · have h := it_neg h hc22
                  refine lv_aload_n (pc := 80) X.1 X.2.1 dX8_error_80 rfl (lv_at hl 0 rfl) ?_
                  refine M_getr (pc := 81) X G 8 (by decide) (by decide +kernel) fl_X8_26 dX8_error_81 ?_
                  refine lv_aload_n (pc := 84) X.1 X.2.1 dX8_error_84 rfl (lv_at hl 0 rfl) ?_
                  refine M_geti (pc := 85) X G 9 (by decide) (by decide +kernel) fl_X8_119 dX8_error_85 ?_
                  refine lv_iconst (pc := 88) (v := 1) X.1 X.2.1 dX8_error_88 (by decide) ?_
                  refine lv_isub (pc := 89) X.1 X.2.1 dX8_error_89 ?_
                  obtain ⟨hix23, h⟩ := rd_some h
                  refine M_iald (pc := 90) X G (i := 8) (n := 60) (by decide +kernel) (by decide) rfl hix23 dX8_error_90 ?_
                  refine lv_topi (fun x23 ex23 => ?_)
                  rw [← ex23] at h
                  refine lv_bipush (pc := 91) (v := 6) X.1 X.2.1 dX8_error_91 (by decide) ?_
                  refine lv_icmp_ge (pc := 93) (tgt := 100) X.1 X.2.1 dX8_error_93 (by decide) (fun hc24 => ?_) (fun hc24 => ?_)
                  · have h := it_pos h hc24
                    exact hk20  _ _ ls h G (lv_sub hl [0, 1, 2] rfl)
                  · have h := it_neg h hc24
                    exact hk9  _ _ ls h G (lv_sub hl [0, 1, 2] rfl)
            refine lv_icmp_ne (pc := 57) (tgt := 67) X.1 X.2.1 dX8_error_57 (by decide) (fun hc18 => ?_) (fun hc18 => ?_)
            · have h := it_pos h hc18
              exact hk17  _ _ ls h G (lv_sub hl [0, 1, 2] rfl)
            · have h := it_neg h (fun q => q hc18)
              refine lv_aload_n (pc := 60) X.1 X.2.1 dX8_error_60 rfl (lv_at hl 0 rfl) ?_
              refine M_geti (pc := 61) X G 9 (by decide) (by decide +kernel) fl_X8_119 dX8_error_61 ?_
              refine lv_if_gt (pc := 64) (tgt := 96) X.1 X.2.1 dX8_error_64 (by decide) (fun hc19 => ?_) (fun hc19 => ?_)
              · have h := it_pos h hc19
                exact hk9  _ _ ls h G (lv_sub hl [0, 1, 2] rfl)
              · have h := it_neg h hc19
                exact hk17  _ _ ls h G (lv_sub hl [0, 1, 2] rfl)
          refine lv_icmp_ne (pc := 47) (tgt := 54) X.1 X.2.1 dX8_error_47 (by decide) (fun hc15 => ?_) (fun hc15 => ?_)
          · have h := it_pos h hc15
            exact hk14  _ _ ls h G (lv_sub hl [1, 3, 0] rfl)
          · have h := it_neg h (fun q => q hc15)
            refine lv_iload_n (pc := 50) X.1 X.2.1 dX8_error_50 rfl (lv_at hl 2 rfl) ?_
            refine lv_if_ne (pc := 51) (tgt := 96) X.1 X.2.1 dX8_error_51 (by decide) (fun hc16 => ?_) (fun hc16 => ?_)
            · have h := it_pos h hc16
              exact hk9  _ _ ls h G (lv_sub hl [1, 3, 0] rfl)
            · have h := it_neg h (fun q => q hc16)
              exact hk14  _ _ ls h G (lv_sub hl [1, 3, 0] rfl)
end
