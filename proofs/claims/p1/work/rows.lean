section
-- ===== PART A: goes FIRST, ahead of the names: the tables' words, and 'selects' of the private methods out of them =====
/-- a private method of a class that the tables say can be made, by its rows of tables_1 -/
def lw_okq (q : MethodName × Nat) : Prop := (q.1.cls ≠ "java/lang/invoke/MethodHandle" ∧ q.1.cls ≠ "java/lang/invoke/VarHandle") ∧ Cond.instantiable q.1.cls q.2 ∈ tables_1 ∧ Cond.privateMethod q.1 ∈ tables_1 ∧ Cond.instanceMethod q.1 ∈ tables_1
theorem lw_p0 : lw_okq (⟨"java/lang/Throwable", "fillInStackTrace", "(I)Ljava/lang/Throwable;"⟩, 6) := ⟨⟨by decide +kernel, by decide +kernel⟩, List.mem_of_getElem? (i := 273) (by decide +kernel), List.mem_of_getElem? (i := 271) (by decide +kernel), List.mem_of_getElem? (i := 272) (by decide +kernel)⟩
theorem lw_p1 : lw_okq (⟨"java/util/ArrayList", "add", "(Ljava/lang/Object;[Ljava/lang/Object;I)V"⟩, 3) := ⟨⟨by decide +kernel, by decide +kernel⟩, List.mem_of_getElem? (i := 369) (by decide +kernel), List.mem_of_getElem? (i := 556) (by decide +kernel), List.mem_of_getElem? (i := 557) (by decide +kernel)⟩
theorem lw_p2 : lw_okq (⟨"java/util/ArrayList", "grow", "()[Ljava/lang/Object;"⟩, 3) := ⟨⟨by decide +kernel, by decide +kernel⟩, List.mem_of_getElem? (i := 369) (by decide +kernel), List.mem_of_getElem? (i := 560) (by decide +kernel), List.mem_of_getElem? (i := 561) (by decide +kernel)⟩
theorem lw_p3 : lw_okq (⟨"java/util/ArrayList", "grow", "(I)[Ljava/lang/Object;"⟩, 3) := ⟨⟨by decide +kernel, by decide +kernel⟩, List.mem_of_getElem? (i := 369) (by decide +kernel), List.mem_of_getElem? (i := 564) (by decide +kernel), List.mem_of_getElem? (i := 565) (by decide +kernel)⟩
theorem lw_p4 : lw_okq (⟨"MapFramer$Verifier", "checkOperand", "(III)V"⟩, 10) := ⟨⟨by decide +kernel, by decide +kernel⟩, List.mem_of_getElem? (i := 623) (by decide +kernel), List.mem_of_getElem? (i := 724) (by decide +kernel), List.mem_of_getElem? (i := 725) (by decide +kernel)⟩
theorem lw_p5 : lw_okq (⟨"MapFramer$Verifier", "hasMember", "(II)Z"⟩, 10) := ⟨⟨by decide +kernel, by decide +kernel⟩, List.mem_of_getElem? (i := 623) (by decide +kernel), List.mem_of_getElem? (i := 731) (by decide +kernel), List.mem_of_getElem? (i := 732) (by decide +kernel)⟩
theorem lw_p6 : lw_okq (⟨"MapFramer$Verifier", "isBeginning", "(I)Z"⟩, 10) := ⟨⟨by decide +kernel, by decide +kernel⟩, List.mem_of_getElem? (i := 623) (by decide +kernel), List.mem_of_getElem? (i := 759) (by decide +kernel), List.mem_of_getElem? (i := 760) (by decide +kernel)⟩
theorem lw_p7 : lw_okq (⟨"MapFramer$Verifier", "give", "(ILMapFramer$State;)V"⟩, 10) := ⟨⟨by decide +kernel, by decide +kernel⟩, List.mem_of_getElem? (i := 623) (by decide +kernel), List.mem_of_getElem? (i := 793) (by decide +kernel), List.mem_of_getElem? (i := 794) (by decide +kernel)⟩
theorem lw_p8 : lw_okq (⟨"MapFramer$Verifier", "await", "(I)V"⟩, 10) := ⟨⟨by decide +kernel, by decide +kernel⟩, List.mem_of_getElem? (i := 623) (by decide +kernel), List.mem_of_getElem? (i := 807) (by decide +kernel), List.mem_of_getElem? (i := 808) (by decide +kernel)⟩
theorem lw_p9 : lw_okq (⟨"MapFramer$Verifier", "look", "(I)V"⟩, 10) := ⟨⟨by decide +kernel, by decide +kernel⟩, List.mem_of_getElem? (i := 623) (by decide +kernel), List.mem_of_getElem? (i := 835) (by decide +kernel), List.mem_of_getElem? (i := 836) (by decide +kernel)⟩
theorem lw_p10 : lw_okq (⟨"MapFramer$Stepper", "pushConstant", "(I)V"⟩, 5) := ⟨⟨by decide +kernel, by decide +kernel⟩, List.mem_of_getElem? (i := 629) (by decide +kernel), List.mem_of_getElem? (i := 844) (by decide +kernel), List.mem_of_getElem? (i := 845) (by decide +kernel)⟩
theorem lw_p11 : lw_okq (⟨"MapFramer$Stepper", "push", "(I)V"⟩, 5) := ⟨⟨by decide +kernel, by decide +kernel⟩, List.mem_of_getElem? (i := 629) (by decide +kernel), List.mem_of_getElem? (i := 848) (by decide +kernel), List.mem_of_getElem? (i := 849) (by decide +kernel)⟩
theorem lw_p12 : lw_okq (⟨"MapFramer$Stepper", "fail", "(I)V"⟩, 5) := ⟨⟨by decide +kernel, by decide +kernel⟩, List.mem_of_getElem? (i := 629) (by decide +kernel), List.mem_of_getElem? (i := 856) (by decide +kernel), List.mem_of_getElem? (i := 857) (by decide +kernel)⟩
theorem lw_p13 : lw_okq (⟨"MapFramer$Stepper", "getElement", "(I)V"⟩, 5) := ⟨⟨by decide +kernel, by decide +kernel⟩, List.mem_of_getElem? (i := 629) (by decide +kernel), List.mem_of_getElem? (i := 863) (by decide +kernel), List.mem_of_getElem? (i := 864) (by decide +kernel)⟩
theorem lw_p14 : lw_okq (⟨"MapFramer$Stepper", "popAs", "(I)V"⟩, 5) := ⟨⟨by decide +kernel, by decide +kernel⟩, List.mem_of_getElem? (i := 629) (by decide +kernel), List.mem_of_getElem? (i := 867) (by decide +kernel), List.mem_of_getElem? (i := 868) (by decide +kernel)⟩
theorem lw_p15 : lw_okq (⟨"MapFramer$Stepper", "popClassArray", "()I"⟩, 5) := ⟨⟨by decide +kernel, by decide +kernel⟩, List.mem_of_getElem? (i := 629) (by decide +kernel), List.mem_of_getElem? (i := 879) (by decide +kernel), List.mem_of_getElem? (i := 880) (by decide +kernel)⟩
def lw_privs_1 : List (MethodName × Nat) := [(⟨"java/lang/Throwable", "fillInStackTrace", "(I)Ljava/lang/Throwable;"⟩, 6), (⟨"java/util/ArrayList", "add", "(Ljava/lang/Object;[Ljava/lang/Object;I)V"⟩, 3), (⟨"java/util/ArrayList", "grow", "()[Ljava/lang/Object;"⟩, 3), (⟨"java/util/ArrayList", "grow", "(I)[Ljava/lang/Object;"⟩, 3), (⟨"MapFramer$Verifier", "checkOperand", "(III)V"⟩, 10), (⟨"MapFramer$Verifier", "hasMember", "(II)Z"⟩, 10), (⟨"MapFramer$Verifier", "isBeginning", "(I)Z"⟩, 10), (⟨"MapFramer$Verifier", "give", "(ILMapFramer$State;)V"⟩, 10), (⟨"MapFramer$Verifier", "await", "(I)V"⟩, 10), (⟨"MapFramer$Verifier", "look", "(I)V"⟩, 10), (⟨"MapFramer$Stepper", "pushConstant", "(I)V"⟩, 5), (⟨"MapFramer$Stepper", "push", "(I)V"⟩, 5), (⟨"MapFramer$Stepper", "fail", "(I)V"⟩, 5), (⟨"MapFramer$Stepper", "getElement", "(I)V"⟩, 5), (⟨"MapFramer$Stepper", "popAs", "(I)V"⟩, 5), (⟨"MapFramer$Stepper", "popClassArray", "()I"⟩, 5)]
theorem lw_r1 : ∀ q ∈ lw_privs_1, lw_okq q := List.forall_mem_cons.mpr ⟨lw_p0, List.forall_mem_cons.mpr ⟨lw_p1, List.forall_mem_cons.mpr ⟨lw_p2, List.forall_mem_cons.mpr ⟨lw_p3, List.forall_mem_cons.mpr ⟨lw_p4, List.forall_mem_cons.mpr ⟨lw_p5, List.forall_mem_cons.mpr ⟨lw_p6, List.forall_mem_cons.mpr ⟨lw_p7, List.forall_mem_cons.mpr ⟨lw_p8, List.forall_mem_cons.mpr ⟨lw_p9, List.forall_mem_cons.mpr ⟨lw_p10, List.forall_mem_cons.mpr ⟨lw_p11, List.forall_mem_cons.mpr ⟨lw_p12, List.forall_mem_cons.mpr ⟨lw_p13, List.forall_mem_cons.mpr ⟨lw_p14, List.forall_mem_cons.mpr ⟨lw_p15, fun _ h => absurd h List.not_mem_nil⟩⟩⟩⟩⟩⟩⟩⟩⟩⟩⟩⟩⟩⟩⟩⟩
theorem lw_p16 : lw_okq (⟨"MapFramer$Stepper", "useLocal", "(I)V"⟩, 5) := ⟨⟨by decide +kernel, by decide +kernel⟩, List.mem_of_getElem? (i := 629) (by decide +kernel), List.mem_of_getElem? (i := 884) (by decide +kernel), List.mem_of_getElem? (i := 885) (by decide +kernel)⟩
theorem lw_p17 : lw_okq (⟨"MapFramer$Stepper", "wantLocal", "(I)V"⟩, 5) := ⟨⟨by decide +kernel, by decide +kernel⟩, List.mem_of_getElem? (i := 629) (by decide +kernel), List.mem_of_getElem? (i := 888) (by decide +kernel), List.mem_of_getElem? (i := 889) (by decide +kernel)⟩
theorem lw_p18 : lw_okq (⟨"MapFramer$Stepper", "operand", "()I"⟩, 5) := ⟨⟨by decide +kernel, by decide +kernel⟩, List.mem_of_getElem? (i := 629) (by decide +kernel), List.mem_of_getElem? (i := 892) (by decide +kernel), List.mem_of_getElem? (i := 893) (by decide +kernel)⟩
theorem lw_p19 : lw_okq (⟨"MapFramer$Stepper", "loadReference", "()V"⟩, 5) := ⟨⟨by decide +kernel, by decide +kernel⟩, List.mem_of_getElem? (i := 629) (by decide +kernel), List.mem_of_getElem? (i := 900) (by decide +kernel), List.mem_of_getElem? (i := 901) (by decide +kernel)⟩
theorem lw_p20 : lw_okq (⟨"MapFramer$Stepper", "wantReferenceOrUninitialized", "(I)V"⟩, 5) := ⟨⟨by decide +kernel, by decide +kernel⟩, List.mem_of_getElem? (i := 629) (by decide +kernel), List.mem_of_getElem? (i := 904) (by decide +kernel), List.mem_of_getElem? (i := 905) (by decide +kernel)⟩
theorem lw_p21 : lw_okq (⟨"MapFramer$Stepper", "storeReference", "()V"⟩, 5) := ⟨⟨by decide +kernel, by decide +kernel⟩, List.mem_of_getElem? (i := 629) (by decide +kernel), List.mem_of_getElem? (i := 913) (by decide +kernel), List.mem_of_getElem? (i := 914) (by decide +kernel)⟩
theorem lw_p22 : lw_okq (⟨"MapFramer$Stepper", "pop", "()I"⟩, 5) := ⟨⟨by decide +kernel, by decide +kernel⟩, List.mem_of_getElem? (i := 629) (by decide +kernel), List.mem_of_getElem? (i := 917) (by decide +kernel), List.mem_of_getElem? (i := 918) (by decide +kernel)⟩
theorem lw_p23 : lw_okq (⟨"MapFramer$Stepper", "putElement", "(I)V"⟩, 5) := ⟨⟨by decide +kernel, by decide +kernel⟩, List.mem_of_getElem? (i := 629) (by decide +kernel), List.mem_of_getElem? (i := 921) (by decide +kernel), List.mem_of_getElem? (i := 922) (by decide +kernel)⟩
theorem lw_p24 : lw_okq (⟨"MapFramer$Stepper", "popReference", "()I"⟩, 5) := ⟨⟨by decide +kernel, by decide +kernel⟩, List.mem_of_getElem? (i := 629) (by decide +kernel), List.mem_of_getElem? (i := 925) (by decide +kernel), List.mem_of_getElem? (i := 926) (by decide +kernel)⟩
theorem lw_p25 : lw_okq (⟨"MapFramer$Stepper", "moveOnStack", "(I)V"⟩, 5) := ⟨⟨by decide +kernel, by decide +kernel⟩, List.mem_of_getElem? (i := 629) (by decide +kernel), List.mem_of_getElem? (i := 929) (by decide +kernel), List.mem_of_getElem? (i := 930) (by decide +kernel)⟩
theorem lw_p26 : lw_okq (⟨"MapFramer$Stepper", "popSingle", "()I"⟩, 5) := ⟨⟨by decide +kernel, by decide +kernel⟩, List.mem_of_getElem? (i := 629) (by decide +kernel), List.mem_of_getElem? (i := 933) (by decide +kernel), List.mem_of_getElem? (i := 934) (by decide +kernel)⟩
theorem lw_p27 : lw_okq (⟨"MapFramer$Stepper", "dupTwo", "()V"⟩, 5) := ⟨⟨by decide +kernel, by decide +kernel⟩, List.mem_of_getElem? (i := 629) (by decide +kernel), List.mem_of_getElem? (i := 937) (by decide +kernel), List.mem_of_getElem? (i := 938) (by decide +kernel)⟩
theorem lw_p28 : lw_okq (⟨"MapFramer$Stepper", "reckon", "(I)V"⟩, 5) := ⟨⟨by decide +kernel, by decide +kernel⟩, List.mem_of_getElem? (i := 629) (by decide +kernel), List.mem_of_getElem? (i := 941) (by decide +kernel), List.mem_of_getElem? (i := 942) (by decide +kernel)⟩
theorem lw_p29 : lw_okq (⟨"MapFramer$Stepper", "popCondition", "(I)V"⟩, 5) := ⟨⟨by decide +kernel, by decide +kernel⟩, List.mem_of_getElem? (i := 629) (by decide +kernel), List.mem_of_getElem? (i := 946) (by decide +kernel), List.mem_of_getElem? (i := 947) (by decide +kernel)⟩
theorem lw_p30 : lw_okq (⟨"MapFramer$Stepper", "popResult", "(I)V"⟩, 5) := ⟨⟨by decide +kernel, by decide +kernel⟩, List.mem_of_getElem? (i := 629) (by decide +kernel), List.mem_of_getElem? (i := 950) (by decide +kernel), List.mem_of_getElem? (i := 951) (by decide +kernel)⟩
theorem lw_p31 : lw_okq (⟨"MapFramer$Stepper", "useField", "(I)V"⟩, 5) := ⟨⟨by decide +kernel, by decide +kernel⟩, List.mem_of_getElem? (i := 629) (by decide +kernel), List.mem_of_getElem? (i := 954) (by decide +kernel), List.mem_of_getElem? (i := 955) (by decide +kernel)⟩
def lw_privs_2 : List (MethodName × Nat) := [(⟨"MapFramer$Stepper", "useLocal", "(I)V"⟩, 5), (⟨"MapFramer$Stepper", "wantLocal", "(I)V"⟩, 5), (⟨"MapFramer$Stepper", "operand", "()I"⟩, 5), (⟨"MapFramer$Stepper", "loadReference", "()V"⟩, 5), (⟨"MapFramer$Stepper", "wantReferenceOrUninitialized", "(I)V"⟩, 5), (⟨"MapFramer$Stepper", "storeReference", "()V"⟩, 5), (⟨"MapFramer$Stepper", "pop", "()I"⟩, 5), (⟨"MapFramer$Stepper", "putElement", "(I)V"⟩, 5), (⟨"MapFramer$Stepper", "popReference", "()I"⟩, 5), (⟨"MapFramer$Stepper", "moveOnStack", "(I)V"⟩, 5), (⟨"MapFramer$Stepper", "popSingle", "()I"⟩, 5), (⟨"MapFramer$Stepper", "dupTwo", "()V"⟩, 5), (⟨"MapFramer$Stepper", "reckon", "(I)V"⟩, 5), (⟨"MapFramer$Stepper", "popCondition", "(I)V"⟩, 5), (⟨"MapFramer$Stepper", "popResult", "(I)V"⟩, 5), (⟨"MapFramer$Stepper", "useField", "(I)V"⟩, 5)]
theorem lw_r2 : ∀ q ∈ lw_privs_2, lw_okq q := List.forall_mem_cons.mpr ⟨lw_p16, List.forall_mem_cons.mpr ⟨lw_p17, List.forall_mem_cons.mpr ⟨lw_p18, List.forall_mem_cons.mpr ⟨lw_p19, List.forall_mem_cons.mpr ⟨lw_p20, List.forall_mem_cons.mpr ⟨lw_p21, List.forall_mem_cons.mpr ⟨lw_p22, List.forall_mem_cons.mpr ⟨lw_p23, List.forall_mem_cons.mpr ⟨lw_p24, List.forall_mem_cons.mpr ⟨lw_p25, List.forall_mem_cons.mpr ⟨lw_p26, List.forall_mem_cons.mpr ⟨lw_p27, List.forall_mem_cons.mpr ⟨lw_p28, List.forall_mem_cons.mpr ⟨lw_p29, List.forall_mem_cons.mpr ⟨lw_p30, List.forall_mem_cons.mpr ⟨lw_p31, fun _ h => absurd h List.not_mem_nil⟩⟩⟩⟩⟩⟩⟩⟩⟩⟩⟩⟩⟩⟩⟩⟩
theorem lw_p32 : lw_okq (⟨"MapFramer$Stepper", "callMethod", "()V"⟩, 5) := ⟨⟨by decide +kernel, by decide +kernel⟩, List.mem_of_getElem? (i := 629) (by decide +kernel), List.mem_of_getElem? (i := 966) (by decide +kernel), List.mem_of_getElem? (i := 967) (by decide +kernel)⟩
theorem lw_p33 : lw_okq (⟨"MapFramer$Stepper", "useObject", "(I)V"⟩, 5) := ⟨⟨by decide +kernel, by decide +kernel⟩, List.mem_of_getElem? (i := 629) (by decide +kernel), List.mem_of_getElem? (i := 971) (by decide +kernel), List.mem_of_getElem? (i := 972) (by decide +kernel)⟩
theorem lw_p34 : lw_okq (⟨"MapFramer$Stepper", "beginObject", "()V"⟩, 5) := ⟨⟨by decide +kernel, by decide +kernel⟩, List.mem_of_getElem? (i := 629) (by decide +kernel), List.mem_of_getElem? (i := 975) (by decide +kernel), List.mem_of_getElem? (i := 976) (by decide +kernel)⟩
theorem lw_p35 : lw_okq (⟨"MapFramer$Stepper", "newObject", "()V"⟩, 5) := ⟨⟨by decide +kernel, by decide +kernel⟩, List.mem_of_getElem? (i := 629) (by decide +kernel), List.mem_of_getElem? (i := 987) (by decide +kernel), List.mem_of_getElem? (i := 988) (by decide +kernel)⟩
theorem lw_p36 : lw_okq (⟨"MapFramer$Stepper", "popArray", "()V"⟩, 5) := ⟨⟨by decide +kernel, by decide +kernel⟩, List.mem_of_getElem? (i := 629) (by decide +kernel), List.mem_of_getElem? (i := 995) (by decide +kernel), List.mem_of_getElem? (i := 996) (by decide +kernel)⟩
theorem lw_p37 : lw_okq (⟨"MapFramer$Verifier", "giveHandler", "(LMapFramer$Handler;LMapFramer$State;I)V"⟩, 10) := ⟨⟨by decide +kernel, by decide +kernel⟩, List.mem_of_getElem? (i := 623) (by decide +kernel), List.mem_of_getElem? (i := 1010) (by decide +kernel), List.mem_of_getElem? (i := 1011) (by decide +kernel)⟩
theorem lw_p38 : lw_okq (⟨"MapFramer$Verifier", "handlersLeft", "()Ljava/util/ArrayList;"⟩, 10) := ⟨⟨by decide +kernel, by decide +kernel⟩, List.mem_of_getElem? (i := 623) (by decide +kernel), List.mem_of_getElem? (i := 1028) (by decide +kernel), List.mem_of_getElem? (i := 1029) (by decide +kernel)⟩
theorem lw_p39 : lw_okq (⟨"MapFramer$Verifier", "nextRow", "(I)I"⟩, 10) := ⟨⟨by decide +kernel, by decide +kernel⟩, List.mem_of_getElem? (i := 623) (by decide +kernel), List.mem_of_getElem? (i := 1035) (by decide +kernel), List.mem_of_getElem? (i := 1036) (by decide +kernel)⟩
theorem lw_p40 : lw_okq (⟨"MapFramer$Verifier", "rowEnd", "(I)I"⟩, 10) := ⟨⟨by decide +kernel, by decide +kernel⟩, List.mem_of_getElem? (i := 623) (by decide +kernel), List.mem_of_getElem? (i := 1039) (by decide +kernel), List.mem_of_getElem? (i := 1040) (by decide +kernel)⟩
theorem lw_p41 : lw_okq (⟨"java/util/ArrayList", "fastRemove", "([Ljava/lang/Object;I)V"⟩, 3) := ⟨⟨by decide +kernel, by decide +kernel⟩, List.mem_of_getElem? (i := 369) (by decide +kernel), List.mem_of_getElem? (i := 1053) (by decide +kernel), List.mem_of_getElem? (i := 1054) (by decide +kernel)⟩
theorem lw_p42 : lw_okq (⟨"java/util/ArrayList", "rangeCheckForAdd", "(I)V"⟩, 3) := ⟨⟨by decide +kernel, by decide +kernel⟩, List.mem_of_getElem? (i := 369) (by decide +kernel), List.mem_of_getElem? (i := 1063) (by decide +kernel), List.mem_of_getElem? (i := 1064) (by decide +kernel)⟩
theorem lw_p43 : lw_okq (⟨"java/util/ArrayList", "outOfBoundsMsg", "(I)Ljava/lang/String;"⟩, 3) := ⟨⟨by decide +kernel, by decide +kernel⟩, List.mem_of_getElem? (i := 369) (by decide +kernel), List.mem_of_getElem? (i := 1076) (by decide +kernel), List.mem_of_getElem? (i := 1077) (by decide +kernel)⟩
theorem lw_p44 : lw_okq (⟨"MapFramer$Verifier", "markBehind", "([ZI)V"⟩, 10) := ⟨⟨by decide +kernel, by decide +kernel⟩, List.mem_of_getElem? (i := 623) (by decide +kernel), List.mem_of_getElem? (i := 1368) (by decide +kernel), List.mem_of_getElem? (i := 1369) (by decide +kernel)⟩
theorem lw_p45 : lw_okq (⟨"MapFramer$FrameWriter", "listLocals", "(LMapFramer$State;)V"⟩, 9) := ⟨⟨by decide +kernel, by decide +kernel⟩, List.mem_of_getElem? (i := 1375) (by decide +kernel), List.mem_of_getElem? (i := 1415) (by decide +kernel), List.mem_of_getElem? (i := 1416) (by decide +kernel)⟩
theorem lw_p46 : lw_okq (⟨"MapFramer$FrameWriter", "writeShortest", "(I)V"⟩, 9) := ⟨⟨by decide +kernel, by decide +kernel⟩, List.mem_of_getElem? (i := 1375) (by decide +kernel), List.mem_of_getElem? (i := 1420) (by decide +kernel), List.mem_of_getElem? (i := 1421) (by decide +kernel)⟩
theorem lw_p47 : lw_okq (⟨"MapFramer$FrameWriter", "isOnePartOfOther", "()Z"⟩, 9) := ⟨⟨by decide +kernel, by decide +kernel⟩, List.mem_of_getElem? (i := 1375) (by decide +kernel), List.mem_of_getElem? (i := 1424) (by decide +kernel), List.mem_of_getElem? (i := 1425) (by decide +kernel)⟩
def lw_privs_3 : List (MethodName × Nat) := [(⟨"MapFramer$Stepper", "callMethod", "()V"⟩, 5), (⟨"MapFramer$Stepper", "useObject", "(I)V"⟩, 5), (⟨"MapFramer$Stepper", "beginObject", "()V"⟩, 5), (⟨"MapFramer$Stepper", "newObject", "()V"⟩, 5), (⟨"MapFramer$Stepper", "popArray", "()V"⟩, 5), (⟨"MapFramer$Verifier", "giveHandler", "(LMapFramer$Handler;LMapFramer$State;I)V"⟩, 10), (⟨"MapFramer$Verifier", "handlersLeft", "()Ljava/util/ArrayList;"⟩, 10), (⟨"MapFramer$Verifier", "nextRow", "(I)I"⟩, 10), (⟨"MapFramer$Verifier", "rowEnd", "(I)I"⟩, 10), (⟨"java/util/ArrayList", "fastRemove", "([Ljava/lang/Object;I)V"⟩, 3), (⟨"java/util/ArrayList", "rangeCheckForAdd", "(I)V"⟩, 3), (⟨"java/util/ArrayList", "outOfBoundsMsg", "(I)Ljava/lang/String;"⟩, 3), (⟨"MapFramer$Verifier", "markBehind", "([ZI)V"⟩, 10), (⟨"MapFramer$FrameWriter", "listLocals", "(LMapFramer$State;)V"⟩, 9), (⟨"MapFramer$FrameWriter", "writeShortest", "(I)V"⟩, 9), (⟨"MapFramer$FrameWriter", "isOnePartOfOther", "()Z"⟩, 9)]
theorem lw_r3 : ∀ q ∈ lw_privs_3, lw_okq q := List.forall_mem_cons.mpr ⟨lw_p32, List.forall_mem_cons.mpr ⟨lw_p33, List.forall_mem_cons.mpr ⟨lw_p34, List.forall_mem_cons.mpr ⟨lw_p35, List.forall_mem_cons.mpr ⟨lw_p36, List.forall_mem_cons.mpr ⟨lw_p37, List.forall_mem_cons.mpr ⟨lw_p38, List.forall_mem_cons.mpr ⟨lw_p39, List.forall_mem_cons.mpr ⟨lw_p40, List.forall_mem_cons.mpr ⟨lw_p41, List.forall_mem_cons.mpr ⟨lw_p42, List.forall_mem_cons.mpr ⟨lw_p43, List.forall_mem_cons.mpr ⟨lw_p44, List.forall_mem_cons.mpr ⟨lw_p45, List.forall_mem_cons.mpr ⟨lw_p46, List.forall_mem_cons.mpr ⟨lw_p47, fun _ h => absurd h List.not_mem_nil⟩⟩⟩⟩⟩⟩⟩⟩⟩⟩⟩⟩⟩⟩⟩⟩
theorem lw_p48 : lw_okq (⟨"MapFramer$FrameWriter", "putKind", "(II)V"⟩, 9) := ⟨⟨by decide +kernel, by decide +kernel⟩, List.mem_of_getElem? (i := 1375) (by decide +kernel), List.mem_of_getElem? (i := 1428) (by decide +kernel), List.mem_of_getElem? (i := 1429) (by decide +kernel)⟩
theorem lw_p49 : lw_okq (⟨"MapFramer$FrameWriter", "put", "(I)V"⟩, 9) := ⟨⟨by decide +kernel, by decide +kernel⟩, List.mem_of_getElem? (i := 1375) (by decide +kernel), List.mem_of_getElem? (i := 1432) (by decide +kernel), List.mem_of_getElem? (i := 1433) (by decide +kernel)⟩
theorem lw_p50 : lw_okq (⟨"MapFramer$FrameWriter", "putPair", "(I)V"⟩, 9) := ⟨⟨by decide +kernel, by decide +kernel⟩, List.mem_of_getElem? (i := 1375) (by decide +kernel), List.mem_of_getElem? (i := 1437) (by decide +kernel), List.mem_of_getElem? (i := 1438) (by decide +kernel)⟩
theorem lw_p51 : lw_okq (⟨"MapFramer$FrameWriter", "putTypes", "([III)V"⟩, 9) := ⟨⟨by decide +kernel, by decide +kernel⟩, List.mem_of_getElem? (i := 1375) (by decide +kernel), List.mem_of_getElem? (i := 1441) (by decide +kernel), List.mem_of_getElem? (i := 1442) (by decide +kernel)⟩
theorem lw_p52 : lw_okq (⟨"MapFramer$FrameWriter", "putType", "(I)V"⟩, 9) := ⟨⟨by decide +kernel, by decide +kernel⟩, List.mem_of_getElem? (i := 1375) (by decide +kernel), List.mem_of_getElem? (i := 1445) (by decide +kernel), List.mem_of_getElem? (i := 1446) (by decide +kernel)⟩
theorem lw_p53 : lw_okq (⟨"MapFramer$Machine", "step", "(I)V"⟩, 14) := ⟨⟨by decide +kernel, by decide +kernel⟩, List.mem_of_getElem? (i := 90) (by decide +kernel), List.mem_of_getElem? (i := 1548) (by decide +kernel), List.mem_of_getElem? (i := 1549) (by decide +kernel)⟩
theorem lw_p54 : lw_okq (⟨"MapFramer$Machine", "pushConstant", "(I)V"⟩, 14) := ⟨⟨by decide +kernel, by decide +kernel⟩, List.mem_of_getElem? (i := 90) (by decide +kernel), List.mem_of_getElem? (i := 1553) (by decide +kernel), List.mem_of_getElem? (i := 1554) (by decide +kernel)⟩
theorem lw_p55 : lw_okq (⟨"MapFramer$Machine", "getElement", "(I)V"⟩, 14) := ⟨⟨by decide +kernel, by decide +kernel⟩, List.mem_of_getElem? (i := 90) (by decide +kernel), List.mem_of_getElem? (i := 1572) (by decide +kernel), List.mem_of_getElem? (i := 1573) (by decide +kernel)⟩
theorem lw_p56 : lw_okq (⟨"MapFramer$Machine", "useLocal", "(I)V"⟩, 14) := ⟨⟨by decide +kernel, by decide +kernel⟩, List.mem_of_getElem? (i := 90) (by decide +kernel), List.mem_of_getElem? (i := 1597) (by decide +kernel), List.mem_of_getElem? (i := 1598) (by decide +kernel)⟩
theorem lw_p57 : lw_okq (⟨"MapFramer$Machine", "operand", "()I"⟩, 14) := ⟨⟨by decide +kernel, by decide +kernel⟩, List.mem_of_getElem? (i := 90) (by decide +kernel), List.mem_of_getElem? (i := 1601) (by decide +kernel), List.mem_of_getElem? (i := 1602) (by decide +kernel)⟩
theorem lw_p58 : lw_okq (⟨"MapFramer$Machine", "putElement", "(I)V"⟩, 14) := ⟨⟨by decide +kernel, by decide +kernel⟩, List.mem_of_getElem? (i := 90) (by decide +kernel), List.mem_of_getElem? (i := 1614) (by decide +kernel), List.mem_of_getElem? (i := 1615) (by decide +kernel)⟩
theorem lw_p59 : lw_okq (⟨"MapFramer$Machine", "isOf", "(II)Z"⟩, 14) := ⟨⟨by decide +kernel, by decide +kernel⟩, List.mem_of_getElem? (i := 90) (by decide +kernel), List.mem_of_getElem? (i := 1622) (by decide +kernel), List.mem_of_getElem? (i := 1623) (by decide +kernel)⟩
theorem lw_p60 : lw_okq (⟨"MapFramer$Machine", "moveOnStack", "(I)V"⟩, 14) := ⟨⟨by decide +kernel, by decide +kernel⟩, List.mem_of_getElem? (i := 90) (by decide +kernel), List.mem_of_getElem? (i := 1631) (by decide +kernel), List.mem_of_getElem? (i := 1632) (by decide +kernel)⟩
theorem lw_p61 : lw_okq (⟨"MapFramer$Machine", "increase", "()V"⟩, 14) := ⟨⟨by decide +kernel, by decide +kernel⟩, List.mem_of_getElem? (i := 90) (by decide +kernel), List.mem_of_getElem? (i := 1635) (by decide +kernel), List.mem_of_getElem? (i := 1636) (by decide +kernel)⟩
theorem lw_p62 : lw_okq (⟨"MapFramer$Machine", "reckon", "(I)V"⟩, 14) := ⟨⟨by decide +kernel, by decide +kernel⟩, List.mem_of_getElem? (i := 90) (by decide +kernel), List.mem_of_getElem? (i := 1639) (by decide +kernel), List.mem_of_getElem? (i := 1640) (by decide +kernel)⟩
theorem lw_p63 : lw_okq (⟨"MapFramer$Machine", "reckonInts", "(III)V"⟩, 14) := ⟨⟨by decide +kernel, by decide +kernel⟩, List.mem_of_getElem? (i := 90) (by decide +kernel), List.mem_of_getElem? (i := 1644) (by decide +kernel), List.mem_of_getElem? (i := 1645) (by decide +kernel)⟩
def lw_privs_4 : List (MethodName × Nat) := [(⟨"MapFramer$FrameWriter", "putKind", "(II)V"⟩, 9), (⟨"MapFramer$FrameWriter", "put", "(I)V"⟩, 9), (⟨"MapFramer$FrameWriter", "putPair", "(I)V"⟩, 9), (⟨"MapFramer$FrameWriter", "putTypes", "([III)V"⟩, 9), (⟨"MapFramer$FrameWriter", "putType", "(I)V"⟩, 9), (⟨"MapFramer$Machine", "step", "(I)V"⟩, 14), (⟨"MapFramer$Machine", "pushConstant", "(I)V"⟩, 14), (⟨"MapFramer$Machine", "getElement", "(I)V"⟩, 14), (⟨"MapFramer$Machine", "useLocal", "(I)V"⟩, 14), (⟨"MapFramer$Machine", "operand", "()I"⟩, 14), (⟨"MapFramer$Machine", "putElement", "(I)V"⟩, 14), (⟨"MapFramer$Machine", "isOf", "(II)Z"⟩, 14), (⟨"MapFramer$Machine", "moveOnStack", "(I)V"⟩, 14), (⟨"MapFramer$Machine", "increase", "()V"⟩, 14), (⟨"MapFramer$Machine", "reckon", "(I)V"⟩, 14), (⟨"MapFramer$Machine", "reckonInts", "(III)V"⟩, 14)]
theorem lw_r4 : ∀ q ∈ lw_privs_4, lw_okq q := List.forall_mem_cons.mpr ⟨lw_p48, List.forall_mem_cons.mpr ⟨lw_p49, List.forall_mem_cons.mpr ⟨lw_p50, List.forall_mem_cons.mpr ⟨lw_p51, List.forall_mem_cons.mpr ⟨lw_p52, List.forall_mem_cons.mpr ⟨lw_p53, List.forall_mem_cons.mpr ⟨lw_p54, List.forall_mem_cons.mpr ⟨lw_p55, List.forall_mem_cons.mpr ⟨lw_p56, List.forall_mem_cons.mpr ⟨lw_p57, List.forall_mem_cons.mpr ⟨lw_p58, List.forall_mem_cons.mpr ⟨lw_p59, List.forall_mem_cons.mpr ⟨lw_p60, List.forall_mem_cons.mpr ⟨lw_p61, List.forall_mem_cons.mpr ⟨lw_p62, List.forall_mem_cons.mpr ⟨lw_p63, fun _ h => absurd h List.not_mem_nil⟩⟩⟩⟩⟩⟩⟩⟩⟩⟩⟩⟩⟩⟩⟩⟩
theorem lw_p64 : lw_okq (⟨"MapFramer$Machine", "reckonLongs", "(IJJ)V"⟩, 14) := ⟨⟨by decide +kernel, by decide +kernel⟩, List.mem_of_getElem? (i := 90) (by decide +kernel), List.mem_of_getElem? (i := 1648) (by decide +kernel), List.mem_of_getElem? (i := 1649) (by decide +kernel)⟩
theorem lw_p65 : lw_okq (⟨"MapFramer$Machine", "branch", "(I)V"⟩, 14) := ⟨⟨by decide +kernel, by decide +kernel⟩, List.mem_of_getElem? (i := 90) (by decide +kernel), List.mem_of_getElem? (i := 1653) (by decide +kernel), List.mem_of_getElem? (i := 1654) (by decide +kernel)⟩
theorem lw_p66 : lw_okq (⟨"MapFramer$Machine", "isTaken", "(I)Z"⟩, 14) := ⟨⟨by decide +kernel, by decide +kernel⟩, List.mem_of_getElem? (i := 90) (by decide +kernel), List.mem_of_getElem? (i := 1657) (by decide +kernel), List.mem_of_getElem? (i := 1658) (by decide +kernel)⟩
theorem lw_p67 : lw_okq (⟨"MapFramer$Machine", "leave", "()V"⟩, 14) := ⟨⟨by decide +kernel, by decide +kernel⟩, List.mem_of_getElem? (i := 90) (by decide +kernel), List.mem_of_getElem? (i := 1665) (by decide +kernel), List.mem_of_getElem? (i := 1666) (by decide +kernel)⟩
theorem lw_p68 : lw_okq (⟨"MapFramer$Machine", "useField", "(II)V"⟩, 14) := ⟨⟨by decide +kernel, by decide +kernel⟩, List.mem_of_getElem? (i := 90) (by decide +kernel), List.mem_of_getElem? (i := 1672) (by decide +kernel), List.mem_of_getElem? (i := 1673) (by decide +kernel)⟩
theorem lw_p69 : lw_okq (⟨"MapFramer$Machine", "enter", "()V"⟩, 14) := ⟨⟨by decide +kernel, by decide +kernel⟩, List.mem_of_getElem? (i := 90) (by decide +kernel), List.mem_of_getElem? (i := 1677) (by decide +kernel), List.mem_of_getElem? (i := 1678) (by decide +kernel)⟩
theorem lw_p70 : lw_okq (⟨"MapFramer$Machine", "useObject", "(I)V"⟩, 14) := ⟨⟨by decide +kernel, by decide +kernel⟩, List.mem_of_getElem? (i := 90) (by decide +kernel), List.mem_of_getElem? (i := 1683) (by decide +kernel), List.mem_of_getElem? (i := 1684) (by decide +kernel)⟩
theorem lw_p71 : lw_okq (⟨"MapFramer$Machine", "pushMade", "(II)V"⟩, 14) := ⟨⟨by decide +kernel, by decide +kernel⟩, List.mem_of_getElem? (i := 90) (by decide +kernel), List.mem_of_getElem? (i := 1687) (by decide +kernel), List.mem_of_getElem? (i := 1688) (by decide +kernel)⟩
theorem lw_p72 : lw_okq (⟨"MapFramer$Machine", "makeArray", "(I)V"⟩, 14) := ⟨⟨by decide +kernel, by decide +kernel⟩, List.mem_of_getElem? (i := 90) (by decide +kernel), List.mem_of_getElem? (i := 1698) (by decide +kernel), List.mem_of_getElem? (i := 1699) (by decide +kernel)⟩
theorem lw_p73 : lw_okq (⟨"MapFramer$Machine", "pushLength", "()V"⟩, 14) := ⟨⟨by decide +kernel, by decide +kernel⟩, List.mem_of_getElem? (i := 90) (by decide +kernel), List.mem_of_getElem? (i := 1702) (by decide +kernel), List.mem_of_getElem? (i := 1703) (by decide +kernel)⟩
theorem lw_p74 : lw_okq (⟨"MapFramer$Machine", "cast", "()V"⟩, 14) := ⟨⟨by decide +kernel, by decide +kernel⟩, List.mem_of_getElem? (i := 90) (by decide +kernel), List.mem_of_getElem? (i := 1707) (by decide +kernel), List.mem_of_getElem? (i := 1708) (by decide +kernel)⟩
theorem lw_p75 : lw_okq (⟨"MapFramer$Machine", "settle", "()V"⟩, 14) := ⟨⟨by decide +kernel, by decide +kernel⟩, List.mem_of_getElem? (i := 90) (by decide +kernel), List.mem_of_getElem? (i := 1711) (by decide +kernel), List.mem_of_getElem? (i := 1712) (by decide +kernel)⟩
theorem lw_p76 : lw_okq (⟨"MapFramer$Machine", "toss", "()V"⟩, 14) := ⟨⟨by decide +kernel, by decide +kernel⟩, List.mem_of_getElem? (i := 90) (by decide +kernel), List.mem_of_getElem? (i := 1715) (by decide +kernel), List.mem_of_getElem? (i := 1716) (by decide +kernel)⟩
theorem lw_p77 : lw_okq (⟨"MapFramer$Machine", "handlerOf", "(LMapFramer$Call;I)LMapFramer$Handler;"⟩, 14) := ⟨⟨by decide +kernel, by decide +kernel⟩, List.mem_of_getElem? (i := 90) (by decide +kernel), List.mem_of_getElem? (i := 1719) (by decide +kernel), List.mem_of_getElem? (i := 1720) (by decide +kernel)⟩
theorem lw_p78 : lw_okq (⟨"MapFramerModel", "isClass", "(I)Z"⟩, 71) := ⟨⟨by decide +kernel, by decide +kernel⟩, List.mem_of_getElem? (i := 1736) (by decide +kernel), List.mem_of_getElem? (i := 1963) (by decide +kernel), List.mem_of_getElem? (i := 1964) (by decide +kernel)⟩
theorem lw_p79 : lw_okq (⟨"MapFramerModel", "fails", "(I)I"⟩, 71) := ⟨⟨by decide +kernel, by decide +kernel⟩, List.mem_of_getElem? (i := 1736) (by decide +kernel), List.mem_of_getElem? (i := 1967) (by decide +kernel), List.mem_of_getElem? (i := 1968) (by decide +kernel)⟩
def lw_privs_5 : List (MethodName × Nat) := [(⟨"MapFramer$Machine", "reckonLongs", "(IJJ)V"⟩, 14), (⟨"MapFramer$Machine", "branch", "(I)V"⟩, 14), (⟨"MapFramer$Machine", "isTaken", "(I)Z"⟩, 14), (⟨"MapFramer$Machine", "leave", "()V"⟩, 14), (⟨"MapFramer$Machine", "useField", "(II)V"⟩, 14), (⟨"MapFramer$Machine", "enter", "()V"⟩, 14), (⟨"MapFramer$Machine", "useObject", "(I)V"⟩, 14), (⟨"MapFramer$Machine", "pushMade", "(II)V"⟩, 14), (⟨"MapFramer$Machine", "makeArray", "(I)V"⟩, 14), (⟨"MapFramer$Machine", "pushLength", "()V"⟩, 14), (⟨"MapFramer$Machine", "cast", "()V"⟩, 14), (⟨"MapFramer$Machine", "settle", "()V"⟩, 14), (⟨"MapFramer$Machine", "toss", "()V"⟩, 14), (⟨"MapFramer$Machine", "handlerOf", "(LMapFramer$Call;I)LMapFramer$Handler;"⟩, 14), (⟨"MapFramerModel", "isClass", "(I)Z"⟩, 71), (⟨"MapFramerModel", "fails", "(I)I"⟩, 71)]
theorem lw_r5 : ∀ q ∈ lw_privs_5, lw_okq q := List.forall_mem_cons.mpr ⟨lw_p64, List.forall_mem_cons.mpr ⟨lw_p65, List.forall_mem_cons.mpr ⟨lw_p66, List.forall_mem_cons.mpr ⟨lw_p67, List.forall_mem_cons.mpr ⟨lw_p68, List.forall_mem_cons.mpr ⟨lw_p69, List.forall_mem_cons.mpr ⟨lw_p70, List.forall_mem_cons.mpr ⟨lw_p71, List.forall_mem_cons.mpr ⟨lw_p72, List.forall_mem_cons.mpr ⟨lw_p73, List.forall_mem_cons.mpr ⟨lw_p74, List.forall_mem_cons.mpr ⟨lw_p75, List.forall_mem_cons.mpr ⟨lw_p76, List.forall_mem_cons.mpr ⟨lw_p77, List.forall_mem_cons.mpr ⟨lw_p78, List.forall_mem_cons.mpr ⟨lw_p79, fun _ h => absurd h List.not_mem_nil⟩⟩⟩⟩⟩⟩⟩⟩⟩⟩⟩⟩⟩⟩⟩⟩
theorem lw_p80 : lw_okq (⟨"MapFramerModel", "isType", "(I)Z"⟩, 71) := ⟨⟨by decide +kernel, by decide +kernel⟩, List.mem_of_getElem? (i := 1736) (by decide +kernel), List.mem_of_getElem? (i := 1975) (by decide +kernel), List.mem_of_getElem? (i := 1976) (by decide +kernel)⟩
theorem lw_p81 : lw_okq (⟨"MapFramerModel", "isMethod", "(I)Z"⟩, 71) := ⟨⟨by decide +kernel, by decide +kernel⟩, List.mem_of_getElem? (i := 1736) (by decide +kernel), List.mem_of_getElem? (i := 1991) (by decide +kernel), List.mem_of_getElem? (i := 1992) (by decide +kernel)⟩
theorem lw_p82 : lw_okq (⟨"MapFramerModel", "argumentLocals", "(I)I"⟩, 71) := ⟨⟨by decide +kernel, by decide +kernel⟩, List.mem_of_getElem? (i := 1736) (by decide +kernel), List.mem_of_getElem? (i := 1995) (by decide +kernel), List.mem_of_getElem? (i := 1996) (by decide +kernel)⟩
theorem lw_p83 : lw_okq (⟨"MapFramerModel", "subs", "(II)Z"⟩, 71) := ⟨⟨by decide +kernel, by decide +kernel⟩, List.mem_of_getElem? (i := 1736) (by decide +kernel), List.mem_of_getElem? (i := 2003) (by decide +kernel), List.mem_of_getElem? (i := 2004) (by decide +kernel)⟩
theorem lw_p84 : lw_okq (⟨"MapFramerModel", "isFormed", "(I)Z"⟩, 71) := ⟨⟨by decide +kernel, by decide +kernel⟩, List.mem_of_getElem? (i := 1736) (by decide +kernel), List.mem_of_getElem? (i := 2011) (by decide +kernel), List.mem_of_getElem? (i := 2012) (by decide +kernel)⟩
theorem lw_p85 : lw_okq (⟨"MapFramerModel", "wrong", "(II)I"⟩, 71) := ⟨⟨by decide +kernel, by decide +kernel⟩, List.mem_of_getElem? (i := 1736) (by decide +kernel), List.mem_of_getElem? (i := 2015) (by decide +kernel), List.mem_of_getElem? (i := 2016) (by decide +kernel)⟩
theorem lw_p86 : lw_okq (⟨"MapFramerModel", "at", "(II)I"⟩, 71) := ⟨⟨by decide +kernel, by decide +kernel⟩, List.mem_of_getElem? (i := 1736) (by decide +kernel), List.mem_of_getElem? (i := 2019) (by decide +kernel), List.mem_of_getElem? (i := 2020) (by decide +kernel)⟩
theorem lw_p87 : lw_okq (⟨"MapFramerModel", "faulty", "(II)Z"⟩, 71) := ⟨⟨by decide +kernel, by decide +kernel⟩, List.mem_of_getElem? (i := 1736) (by decide +kernel), List.mem_of_getElem? (i := 2029) (by decide +kernel), List.mem_of_getElem? (i := 2030) (by decide +kernel)⟩
theorem lw_p88 : lw_okq (⟨"MapFramerModel", "target", "(II)I"⟩, 71) := ⟨⟨by decide +kernel, by decide +kernel⟩, List.mem_of_getElem? (i := 1736) (by decide +kernel), List.mem_of_getElem? (i := 2036) (by decide +kernel), List.mem_of_getElem? (i := 2037) (by decide +kernel)⟩
theorem lw_p89 : lw_okq (⟨"MapFramerModel", "isBeginning", "(II)Z"⟩, 71) := ⟨⟨by decide +kernel, by decide +kernel⟩, List.mem_of_getElem? (i := 1736) (by decide +kernel), List.mem_of_getElem? (i := 2040) (by decide +kernel), List.mem_of_getElem? (i := 2041) (by decide +kernel)⟩
theorem lw_p90 : lw_okq (⟨"MapFramerModel", "flows", "()Z"⟩, 71) := ⟨⟨by decide +kernel, by decide +kernel⟩, List.mem_of_getElem? (i := 1736) (by decide +kernel), List.mem_of_getElem? (i := 2044) (by decide +kernel), List.mem_of_getElem? (i := 2045) (by decide +kernel)⟩
theorem lw_p91 : lw_okq (⟨"MapFramerModel", "give", "(I)Z"⟩, 71) := ⟨⟨by decide +kernel, by decide +kernel⟩, List.mem_of_getElem? (i := 1736) (by decide +kernel), List.mem_of_getElem? (i := 2048) (by decide +kernel), List.mem_of_getElem? (i := 2049) (by decide +kernel)⟩
theorem lw_p92 : lw_okq (⟨"MapFramerModel", "merge", "(II)I"⟩, 71) := ⟨⟨by decide +kernel, by decide +kernel⟩, List.mem_of_getElem? (i := 1736) (by decide +kernel), List.mem_of_getElem? (i := 2052) (by decide +kernel), List.mem_of_getElem? (i := 2053) (by decide +kernel)⟩
theorem lw_p93 : lw_okq (⟨"MapFramerModel", "nearest", "(II)I"⟩, 71) := ⟨⟨by decide +kernel, by decide +kernel⟩, List.mem_of_getElem? (i := 1736) (by decide +kernel), List.mem_of_getElem? (i := 2062) (by decide +kernel), List.mem_of_getElem? (i := 2063) (by decide +kernel)⟩
theorem lw_p94 : lw_okq (⟨"MapFramerModel", "look", "(I)Z"⟩, 71) := ⟨⟨by decide +kernel, by decide +kernel⟩, List.mem_of_getElem? (i := 1736) (by decide +kernel), List.mem_of_getElem? (i := 2069) (by decide +kernel), List.mem_of_getElem? (i := 2070) (by decide +kernel)⟩
theorem lw_p95 : lw_okq (⟨"MapFramerModel", "simulate", "(II)V"⟩, 71) := ⟨⟨by decide +kernel, by decide +kernel⟩, List.mem_of_getElem? (i := 1736) (by decide +kernel), List.mem_of_getElem? (i := 2073) (by decide +kernel), List.mem_of_getElem? (i := 2074) (by decide +kernel)⟩
def lw_privs_6 : List (MethodName × Nat) := [(⟨"MapFramerModel", "isType", "(I)Z"⟩, 71), (⟨"MapFramerModel", "isMethod", "(I)Z"⟩, 71), (⟨"MapFramerModel", "argumentLocals", "(I)I"⟩, 71), (⟨"MapFramerModel", "subs", "(II)Z"⟩, 71), (⟨"MapFramerModel", "isFormed", "(I)Z"⟩, 71), (⟨"MapFramerModel", "wrong", "(II)I"⟩, 71), (⟨"MapFramerModel", "at", "(II)I"⟩, 71), (⟨"MapFramerModel", "faulty", "(II)Z"⟩, 71), (⟨"MapFramerModel", "target", "(II)I"⟩, 71), (⟨"MapFramerModel", "isBeginning", "(II)Z"⟩, 71), (⟨"MapFramerModel", "flows", "()Z"⟩, 71), (⟨"MapFramerModel", "give", "(I)Z"⟩, 71), (⟨"MapFramerModel", "merge", "(II)I"⟩, 71), (⟨"MapFramerModel", "nearest", "(II)I"⟩, 71), (⟨"MapFramerModel", "look", "(I)Z"⟩, 71), (⟨"MapFramerModel", "simulate", "(II)V"⟩, 71)]
theorem lw_r6 : ∀ q ∈ lw_privs_6, lw_okq q := List.forall_mem_cons.mpr ⟨lw_p80, List.forall_mem_cons.mpr ⟨lw_p81, List.forall_mem_cons.mpr ⟨lw_p82, List.forall_mem_cons.mpr ⟨lw_p83, List.forall_mem_cons.mpr ⟨lw_p84, List.forall_mem_cons.mpr ⟨lw_p85, List.forall_mem_cons.mpr ⟨lw_p86, List.forall_mem_cons.mpr ⟨lw_p87, List.forall_mem_cons.mpr ⟨lw_p88, List.forall_mem_cons.mpr ⟨lw_p89, List.forall_mem_cons.mpr ⟨lw_p90, List.forall_mem_cons.mpr ⟨lw_p91, List.forall_mem_cons.mpr ⟨lw_p92, List.forall_mem_cons.mpr ⟨lw_p93, List.forall_mem_cons.mpr ⟨lw_p94, List.forall_mem_cons.mpr ⟨lw_p95, fun _ h => absurd h List.not_mem_nil⟩⟩⟩⟩⟩⟩⟩⟩⟩⟩⟩⟩⟩⟩⟩⟩
theorem lw_p96 : lw_okq (⟨"MapFramerModel", "push", "(I)V"⟩, 71) := ⟨⟨by decide +kernel, by decide +kernel⟩, List.mem_of_getElem? (i := 1736) (by decide +kernel), List.mem_of_getElem? (i := 2077) (by decide +kernel), List.mem_of_getElem? (i := 2078) (by decide +kernel)⟩
theorem lw_p97 : lw_okq (⟨"MapFramerModel", "words", "()I"⟩, 71) := ⟨⟨by decide +kernel, by decide +kernel⟩, List.mem_of_getElem? (i := 1736) (by decide +kernel), List.mem_of_getElem? (i := 2081) (by decide +kernel), List.mem_of_getElem? (i := 2082) (by decide +kernel)⟩
theorem lw_p98 : lw_okq (⟨"MapFramerModel", "miss", "(I)V"⟩, 71) := ⟨⟨by decide +kernel, by decide +kernel⟩, List.mem_of_getElem? (i := 1736) (by decide +kernel), List.mem_of_getElem? (i := 2085) (by decide +kernel), List.mem_of_getElem? (i := 2086) (by decide +kernel)⟩
theorem lw_p99 : lw_okq (⟨"MapFramerModel", "load", "(II)V"⟩, 71) := ⟨⟨by decide +kernel, by decide +kernel⟩, List.mem_of_getElem? (i := 1736) (by decide +kernel), List.mem_of_getElem? (i := 2089) (by decide +kernel), List.mem_of_getElem? (i := 2090) (by decide +kernel)⟩
theorem lw_p100 : lw_okq (⟨"MapFramerModel", "store", "(II)V"⟩, 71) := ⟨⟨by decide +kernel, by decide +kernel⟩, List.mem_of_getElem? (i := 1736) (by decide +kernel), List.mem_of_getElem? (i := 2096) (by decide +kernel), List.mem_of_getElem? (i := 2097) (by decide +kernel)⟩
theorem lw_p101 : lw_okq (⟨"MapFramerModel", "pop", "()I"⟩, 71) := ⟨⟨by decide +kernel, by decide +kernel⟩, List.mem_of_getElem? (i := 1736) (by decide +kernel), List.mem_of_getElem? (i := 2100) (by decide +kernel), List.mem_of_getElem? (i := 2101) (by decide +kernel)⟩
theorem lw_p102 : lw_okq (⟨"MapFramerModel", "put", "(II)V"⟩, 71) := ⟨⟨by decide +kernel, by decide +kernel⟩, List.mem_of_getElem? (i := 1736) (by decide +kernel), List.mem_of_getElem? (i := 2104) (by decide +kernel), List.mem_of_getElem? (i := 2105) (by decide +kernel)⟩
theorem lw_p103 : lw_okq (⟨"MapFramerModel", "arrays", "(I)V"⟩, 71) := ⟨⟨by decide +kernel, by decide +kernel⟩, List.mem_of_getElem? (i := 1736) (by decide +kernel), List.mem_of_getElem? (i := 2108) (by decide +kernel), List.mem_of_getElem? (i := 2109) (by decide +kernel)⟩
theorem lw_p104 : lw_okq (⟨"MapFramerModel", "popReference", "()I"⟩, 71) := ⟨⟨by decide +kernel, by decide +kernel⟩, List.mem_of_getElem? (i := 1736) (by decide +kernel), List.mem_of_getElem? (i := 2112) (by decide +kernel), List.mem_of_getElem? (i := 2113) (by decide +kernel)⟩
theorem lw_p105 : lw_okq (⟨"MapFramerModel", "want", "(I)V"⟩, 71) := ⟨⟨by decide +kernel, by decide +kernel⟩, List.mem_of_getElem? (i := 1736) (by decide +kernel), List.mem_of_getElem? (i := 2116) (by decide +kernel), List.mem_of_getElem? (i := 2117) (by decide +kernel)⟩
theorem lw_p106 : lw_okq (⟨"MapFramerModel", "goesInto", "(II)Z"⟩, 71) := ⟨⟨by decide +kernel, by decide +kernel⟩, List.mem_of_getElem? (i := 1736) (by decide +kernel), List.mem_of_getElem? (i := 2120) (by decide +kernel), List.mem_of_getElem? (i := 2121) (by decide +kernel)⟩
theorem lw_p107 : lw_okq (⟨"MapFramerModel", "goesIntoObject", "(II)Z"⟩, 71) := ⟨⟨by decide +kernel, by decide +kernel⟩, List.mem_of_getElem? (i := 1736) (by decide +kernel), List.mem_of_getElem? (i := 2124) (by decide +kernel), List.mem_of_getElem? (i := 2125) (by decide +kernel)⟩
theorem lw_p108 : lw_okq (⟨"MapFramerModel", "popArray", "(I)I"⟩, 71) := ⟨⟨by decide +kernel, by decide +kernel⟩, List.mem_of_getElem? (i := 1736) (by decide +kernel), List.mem_of_getElem? (i := 2128) (by decide +kernel), List.mem_of_getElem? (i := 2129) (by decide +kernel)⟩
theorem lw_p109 : lw_okq (⟨"MapFramerModel", "shuffle", "(I)V"⟩, 71) := ⟨⟨by decide +kernel, by decide +kernel⟩, List.mem_of_getElem? (i := 1736) (by decide +kernel), List.mem_of_getElem? (i := 2132) (by decide +kernel), List.mem_of_getElem? (i := 2133) (by decide +kernel)⟩
theorem lw_p110 : lw_okq (⟨"MapFramerModel", "popOne", "()I"⟩, 71) := ⟨⟨by decide +kernel, by decide +kernel⟩, List.mem_of_getElem? (i := 1736) (by decide +kernel), List.mem_of_getElem? (i := 2136) (by decide +kernel), List.mem_of_getElem? (i := 2137) (by decide +kernel)⟩
theorem lw_p111 : lw_okq (⟨"MapFramerModel", "reckon", "(I)V"⟩, 71) := ⟨⟨by decide +kernel, by decide +kernel⟩, List.mem_of_getElem? (i := 1736) (by decide +kernel), List.mem_of_getElem? (i := 2140) (by decide +kernel), List.mem_of_getElem? (i := 2141) (by decide +kernel)⟩
def lw_privs_7 : List (MethodName × Nat) := [(⟨"MapFramerModel", "push", "(I)V"⟩, 71), (⟨"MapFramerModel", "words", "()I"⟩, 71), (⟨"MapFramerModel", "miss", "(I)V"⟩, 71), (⟨"MapFramerModel", "load", "(II)V"⟩, 71), (⟨"MapFramerModel", "store", "(II)V"⟩, 71), (⟨"MapFramerModel", "pop", "()I"⟩, 71), (⟨"MapFramerModel", "put", "(II)V"⟩, 71), (⟨"MapFramerModel", "arrays", "(I)V"⟩, 71), (⟨"MapFramerModel", "popReference", "()I"⟩, 71), (⟨"MapFramerModel", "want", "(I)V"⟩, 71), (⟨"MapFramerModel", "goesInto", "(II)Z"⟩, 71), (⟨"MapFramerModel", "goesIntoObject", "(II)Z"⟩, 71), (⟨"MapFramerModel", "popArray", "(I)I"⟩, 71), (⟨"MapFramerModel", "shuffle", "(I)V"⟩, 71), (⟨"MapFramerModel", "popOne", "()I"⟩, 71), (⟨"MapFramerModel", "reckon", "(I)V"⟩, 71)]
theorem lw_r7 : ∀ q ∈ lw_privs_7, lw_okq q := List.forall_mem_cons.mpr ⟨lw_p96, List.forall_mem_cons.mpr ⟨lw_p97, List.forall_mem_cons.mpr ⟨lw_p98, List.forall_mem_cons.mpr ⟨lw_p99, List.forall_mem_cons.mpr ⟨lw_p100, List.forall_mem_cons.mpr ⟨lw_p101, List.forall_mem_cons.mpr ⟨lw_p102, List.forall_mem_cons.mpr ⟨lw_p103, List.forall_mem_cons.mpr ⟨lw_p104, List.forall_mem_cons.mpr ⟨lw_p105, List.forall_mem_cons.mpr ⟨lw_p106, List.forall_mem_cons.mpr ⟨lw_p107, List.forall_mem_cons.mpr ⟨lw_p108, List.forall_mem_cons.mpr ⟨lw_p109, List.forall_mem_cons.mpr ⟨lw_p110, List.forall_mem_cons.mpr ⟨lw_p111, fun _ h => absurd h List.not_mem_nil⟩⟩⟩⟩⟩⟩⟩⟩⟩⟩⟩⟩⟩⟩⟩⟩
theorem lw_p112 : lw_okq (⟨"MapFramerModel", "test", "(I)V"⟩, 71) := ⟨⟨by decide +kernel, by decide +kernel⟩, List.mem_of_getElem? (i := 1736) (by decide +kernel), List.mem_of_getElem? (i := 2144) (by decide +kernel), List.mem_of_getElem? (i := 2145) (by decide +kernel)⟩
theorem lw_p113 : lw_okq (⟨"MapFramerModel", "leave", "(I)V"⟩, 71) := ⟨⟨by decide +kernel, by decide +kernel⟩, List.mem_of_getElem? (i := 1736) (by decide +kernel), List.mem_of_getElem? (i := 2148) (by decide +kernel), List.mem_of_getElem? (i := 2149) (by decide +kernel)⟩
theorem lw_p114 : lw_okq (⟨"MapFramerModel", "fieldOf", "(II)V"⟩, 71) := ⟨⟨by decide +kernel, by decide +kernel⟩, List.mem_of_getElem? (i := 1736) (by decide +kernel), List.mem_of_getElem? (i := 2152) (by decide +kernel), List.mem_of_getElem? (i := 2153) (by decide +kernel)⟩
theorem lw_p115 : lw_okq (⟨"MapFramerModel", "call", "(I)V"⟩, 71) := ⟨⟨by decide +kernel, by decide +kernel⟩, List.mem_of_getElem? (i := 1736) (by decide +kernel), List.mem_of_getElem? (i := 2156) (by decide +kernel), List.mem_of_getElem? (i := 2157) (by decide +kernel)⟩
theorem lw_p116 : lw_okq (⟨"MapFramerModel", "objects", "(II)V"⟩, 71) := ⟨⟨by decide +kernel, by decide +kernel⟩, List.mem_of_getElem? (i := 1736) (by decide +kernel), List.mem_of_getElem? (i := 2160) (by decide +kernel), List.mem_of_getElem? (i := 2161) (by decide +kernel)⟩
theorem lw_p117 : lw_okq (⟨"MapFramerModel", "turn", "(II)Z"⟩, 71) := ⟨⟨by decide +kernel, by decide +kernel⟩, List.mem_of_getElem? (i := 1736) (by decide +kernel), List.mem_of_getElem? (i := 2164) (by decide +kernel), List.mem_of_getElem? (i := 2165) (by decide +kernel)⟩
theorem lw_p118 : lw_okq (⟨"MapFramerModel", "toHandler", "(I[I)Z"⟩, 71) := ⟨⟨by decide +kernel, by decide +kernel⟩, List.mem_of_getElem? (i := 1736) (by decide +kernel), List.mem_of_getElem? (i := 2171) (by decide +kernel), List.mem_of_getElem? (i := 2172) (by decide +kernel)⟩
theorem lw_p119 : lw_okq (⟨"MapFramerModel", "giveLocals", "([I)V"⟩, 71) := ⟨⟨by decide +kernel, by decide +kernel⟩, List.mem_of_getElem? (i := 1736) (by decide +kernel), List.mem_of_getElem? (i := 2175) (by decide +kernel), List.mem_of_getElem? (i := 2176) (by decide +kernel)⟩
theorem lw_p120 : lw_okq (⟨"MapFramerModel", "buries", "()Z"⟩, 71) := ⟨⟨by decide +kernel, by decide +kernel⟩, List.mem_of_getElem? (i := 1736) (by decide +kernel), List.mem_of_getElem? (i := 2179) (by decide +kernel), List.mem_of_getElem? (i := 2180) (by decide +kernel)⟩
theorem lw_p121 : lw_okq (⟨"MapFramerModel", "addCut", "(IIII)V"⟩, 71) := ⟨⟨by decide +kernel, by decide +kernel⟩, List.mem_of_getElem? (i := 1736) (by decide +kernel), List.mem_of_getElem? (i := 2183) (by decide +kernel), List.mem_of_getElem? (i := 2184) (by decide +kernel)⟩
theorem lw_p122 : lw_okq (⟨"MapFramerModel", "isDead", "(I)Z"⟩, 71) := ⟨⟨by decide +kernel, by decide +kernel⟩, List.mem_of_getElem? (i := 1736) (by decide +kernel), List.mem_of_getElem? (i := 2187) (by decide +kernel), List.mem_of_getElem? (i := 2188) (by decide +kernel)⟩
theorem lw_p123 : lw_okq (⟨"MapFramerModel", "rowEnd", "(I)I"⟩, 71) := ⟨⟨by decide +kernel, by decide +kernel⟩, List.mem_of_getElem? (i := 1736) (by decide +kernel), List.mem_of_getElem? (i := 2191) (by decide +kernel), List.mem_of_getElem? (i := 2192) (by decide +kernel)⟩
theorem lw_p124 : lw_okq (⟨"MapFramerModel", "cut", "(II)V"⟩, 71) := ⟨⟨by decide +kernel, by decide +kernel⟩, List.mem_of_getElem? (i := 1736) (by decide +kernel), List.mem_of_getElem? (i := 2195) (by decide +kernel), List.mem_of_getElem? (i := 2196) (by decide +kernel)⟩
theorem lw_p125 : lw_okq (⟨"MapFramerModel", "findFrames", "()I"⟩, 71) := ⟨⟨by decide +kernel, by decide +kernel⟩, List.mem_of_getElem? (i := 1736) (by decide +kernel), List.mem_of_getElem? (i := 2199) (by decide +kernel), List.mem_of_getElem? (i := 2200) (by decide +kernel)⟩
theorem lw_p126 : lw_okq (⟨"MapFramerModel", "frame", "(I)V"⟩, 71) := ⟨⟨by decide +kernel, by decide +kernel⟩, List.mem_of_getElem? (i := 1736) (by decide +kernel), List.mem_of_getElem? (i := 2203) (by decide +kernel), List.mem_of_getElem? (i := 2204) (by decide +kernel)⟩
theorem lw_p127 : lw_okq (⟨"MapFramerModel", "writeAll", "(I)V"⟩, 71) := ⟨⟨by decide +kernel, by decide +kernel⟩, List.mem_of_getElem? (i := 1736) (by decide +kernel), List.mem_of_getElem? (i := 2211) (by decide +kernel), List.mem_of_getElem? (i := 2212) (by decide +kernel)⟩
def lw_privs_8 : List (MethodName × Nat) := [(⟨"MapFramerModel", "test", "(I)V"⟩, 71), (⟨"MapFramerModel", "leave", "(I)V"⟩, 71), (⟨"MapFramerModel", "fieldOf", "(II)V"⟩, 71), (⟨"MapFramerModel", "call", "(I)V"⟩, 71), (⟨"MapFramerModel", "objects", "(II)V"⟩, 71), (⟨"MapFramerModel", "turn", "(II)Z"⟩, 71), (⟨"MapFramerModel", "toHandler", "(I[I)Z"⟩, 71), (⟨"MapFramerModel", "giveLocals", "([I)V"⟩, 71), (⟨"MapFramerModel", "buries", "()Z"⟩, 71), (⟨"MapFramerModel", "addCut", "(IIII)V"⟩, 71), (⟨"MapFramerModel", "isDead", "(I)Z"⟩, 71), (⟨"MapFramerModel", "rowEnd", "(I)I"⟩, 71), (⟨"MapFramerModel", "cut", "(II)V"⟩, 71), (⟨"MapFramerModel", "findFrames", "()I"⟩, 71), (⟨"MapFramerModel", "frame", "(I)V"⟩, 71), (⟨"MapFramerModel", "writeAll", "(I)V"⟩, 71)]
theorem lw_r8 : ∀ q ∈ lw_privs_8, lw_okq q := List.forall_mem_cons.mpr ⟨lw_p112, List.forall_mem_cons.mpr ⟨lw_p113, List.forall_mem_cons.mpr ⟨lw_p114, List.forall_mem_cons.mpr ⟨lw_p115, List.forall_mem_cons.mpr ⟨lw_p116, List.forall_mem_cons.mpr ⟨lw_p117, List.forall_mem_cons.mpr ⟨lw_p118, List.forall_mem_cons.mpr ⟨lw_p119, List.forall_mem_cons.mpr ⟨lw_p120, List.forall_mem_cons.mpr ⟨lw_p121, List.forall_mem_cons.mpr ⟨lw_p122, List.forall_mem_cons.mpr ⟨lw_p123, List.forall_mem_cons.mpr ⟨lw_p124, List.forall_mem_cons.mpr ⟨lw_p125, List.forall_mem_cons.mpr ⟨lw_p126, List.forall_mem_cons.mpr ⟨lw_p127, fun _ h => absurd h List.not_mem_nil⟩⟩⟩⟩⟩⟩⟩⟩⟩⟩⟩⟩⟩⟩⟩⟩
theorem lw_p128 : lw_okq (⟨"MapFramerModel", "listLocals", "(II)V"⟩, 71) := ⟨⟨by decide +kernel, by decide +kernel⟩, List.mem_of_getElem? (i := 1736) (by decide +kernel), List.mem_of_getElem? (i := 2215) (by decide +kernel), List.mem_of_getElem? (i := 2216) (by decide +kernel)⟩
theorem lw_p129 : lw_okq (⟨"MapFramerModel", "writeFrame", "(III)V"⟩, 71) := ⟨⟨by decide +kernel, by decide +kernel⟩, List.mem_of_getElem? (i := 1736) (by decide +kernel), List.mem_of_getElem? (i := 2219) (by decide +kernel), List.mem_of_getElem? (i := 2220) (by decide +kernel)⟩
theorem lw_p130 : lw_okq (⟨"MapFramerModel", "beginAlike", "(I)Z"⟩, 71) := ⟨⟨by decide +kernel, by decide +kernel⟩, List.mem_of_getElem? (i := 1736) (by decide +kernel), List.mem_of_getElem? (i := 2223) (by decide +kernel), List.mem_of_getElem? (i := 2224) (by decide +kernel)⟩
theorem lw_p131 : lw_okq (⟨"MapFramerModel", "write", "(I)V"⟩, 71) := ⟨⟨by decide +kernel, by decide +kernel⟩, List.mem_of_getElem? (i := 1736) (by decide +kernel), List.mem_of_getElem? (i := 2227) (by decide +kernel), List.mem_of_getElem? (i := 2228) (by decide +kernel)⟩
theorem lw_p132 : lw_okq (⟨"MapFramerModel", "writeTwo", "(I)V"⟩, 71) := ⟨⟨by decide +kernel, by decide +kernel⟩, List.mem_of_getElem? (i := 1736) (by decide +kernel), List.mem_of_getElem? (i := 2231) (by decide +kernel), List.mem_of_getElem? (i := 2232) (by decide +kernel)⟩
theorem lw_p133 : lw_okq (⟨"MapFramerModel", "stackAt", "(III)I"⟩, 71) := ⟨⟨by decide +kernel, by decide +kernel⟩, List.mem_of_getElem? (i := 1736) (by decide +kernel), List.mem_of_getElem? (i := 2235) (by decide +kernel), List.mem_of_getElem? (i := 2236) (by decide +kernel)⟩
theorem lw_p134 : lw_okq (⟨"MapFramerModel", "writeType", "(I)V"⟩, 71) := ⟨⟨by decide +kernel, by decide +kernel⟩, List.mem_of_getElem? (i := 1736) (by decide +kernel), List.mem_of_getElem? (i := 2239) (by decide +kernel), List.mem_of_getElem? (i := 2240) (by decide +kernel)⟩
theorem lw_p135 : lw_okq (⟨"MapFramerModel", "isReady", "(I)Z"⟩, 71) := ⟨⟨by decide +kernel, by decide +kernel⟩, List.mem_of_getElem? (i := 1736) (by decide +kernel), List.mem_of_getElem? (i := 2263) (by decide +kernel), List.mem_of_getElem? (i := 2264) (by decide +kernel)⟩
theorem lw_p136 : lw_okq (⟨"MapFramerModel", "enter", "(I)V"⟩, 71) := ⟨⟨by decide +kernel, by decide +kernel⟩, List.mem_of_getElem? (i := 1736) (by decide +kernel), List.mem_of_getElem? (i := 2271) (by decide +kernel), List.mem_of_getElem? (i := 2272) (by decide +kernel)⟩
theorem lw_p137 : lw_okq (⟨"MapFramerModel", "setLocal", "(IJ)V"⟩, 71) := ⟨⟨by decide +kernel, by decide +kernel⟩, List.mem_of_getElem? (i := 1736) (by decide +kernel), List.mem_of_getElem? (i := 2275) (by decide +kernel), List.mem_of_getElem? (i := 2276) (by decide +kernel)⟩
theorem lw_p138 : lw_okq (⟨"MapFramerModel", "step", "()V"⟩, 71) := ⟨⟨by decide +kernel, by decide +kernel⟩, List.mem_of_getElem? (i := 1736) (by decide +kernel), List.mem_of_getElem? (i := 2279) (by decide +kernel), List.mem_of_getElem? (i := 2280) (by decide +kernel)⟩
theorem lw_p139 : lw_okq (⟨"MapFramerModel", "runArray", "(II)V"⟩, 71) := ⟨⟨by decide +kernel, by decide +kernel⟩, List.mem_of_getElem? (i := 1736) (by decide +kernel), List.mem_of_getElem? (i := 2283) (by decide +kernel), List.mem_of_getElem? (i := 2284) (by decide +kernel)⟩
theorem lw_p140 : lw_okq (⟨"MapFramerModel", "take", "()J"⟩, 71) := ⟨⟨by decide +kernel, by decide +kernel⟩, List.mem_of_getElem? (i := 1736) (by decide +kernel), List.mem_of_getElem? (i := 2287) (by decide +kernel), List.mem_of_getElem? (i := 2288) (by decide +kernel)⟩
theorem lw_p141 : lw_okq (⟨"MapFramerModel", "raiseNew", "()V"⟩, 71) := ⟨⟨by decide +kernel, by decide +kernel⟩, List.mem_of_getElem? (i := 1736) (by decide +kernel), List.mem_of_getElem? (i := 2291) (by decide +kernel), List.mem_of_getElem? (i := 2292) (by decide +kernel)⟩
theorem lw_p142 : lw_okq (⟨"MapFramerModel", "thing", "(II)I"⟩, 71) := ⟨⟨by decide +kernel, by decide +kernel⟩, List.mem_of_getElem? (i := 1736) (by decide +kernel), List.mem_of_getElem? (i := 2295) (by decide +kernel), List.mem_of_getElem? (i := 2296) (by decide +kernel)⟩
theorem lw_p143 : lw_okq (⟨"MapFramerModel", "over", "(I)V"⟩, 71) := ⟨⟨by decide +kernel, by decide +kernel⟩, List.mem_of_getElem? (i := 1736) (by decide +kernel), List.mem_of_getElem? (i := 2299) (by decide +kernel), List.mem_of_getElem? (i := 2300) (by decide +kernel)⟩
def lw_privs_9 : List (MethodName × Nat) := [(⟨"MapFramerModel", "listLocals", "(II)V"⟩, 71), (⟨"MapFramerModel", "writeFrame", "(III)V"⟩, 71), (⟨"MapFramerModel", "beginAlike", "(I)Z"⟩, 71), (⟨"MapFramerModel", "write", "(I)V"⟩, 71), (⟨"MapFramerModel", "writeTwo", "(I)V"⟩, 71), (⟨"MapFramerModel", "stackAt", "(III)I"⟩, 71), (⟨"MapFramerModel", "writeType", "(I)V"⟩, 71), (⟨"MapFramerModel", "isReady", "(I)Z"⟩, 71), (⟨"MapFramerModel", "enter", "(I)V"⟩, 71), (⟨"MapFramerModel", "setLocal", "(IJ)V"⟩, 71), (⟨"MapFramerModel", "step", "()V"⟩, 71), (⟨"MapFramerModel", "runArray", "(II)V"⟩, 71), (⟨"MapFramerModel", "take", "()J"⟩, 71), (⟨"MapFramerModel", "raiseNew", "()V"⟩, 71), (⟨"MapFramerModel", "thing", "(II)I"⟩, 71), (⟨"MapFramerModel", "over", "(I)V"⟩, 71)]
theorem lw_r9 : ∀ q ∈ lw_privs_9, lw_okq q := List.forall_mem_cons.mpr ⟨lw_p128, List.forall_mem_cons.mpr ⟨lw_p129, List.forall_mem_cons.mpr ⟨lw_p130, List.forall_mem_cons.mpr ⟨lw_p131, List.forall_mem_cons.mpr ⟨lw_p132, List.forall_mem_cons.mpr ⟨lw_p133, List.forall_mem_cons.mpr ⟨lw_p134, List.forall_mem_cons.mpr ⟨lw_p135, List.forall_mem_cons.mpr ⟨lw_p136, List.forall_mem_cons.mpr ⟨lw_p137, List.forall_mem_cons.mpr ⟨lw_p138, List.forall_mem_cons.mpr ⟨lw_p139, List.forall_mem_cons.mpr ⟨lw_p140, List.forall_mem_cons.mpr ⟨lw_p141, List.forall_mem_cons.mpr ⟨lw_p142, List.forall_mem_cons.mpr ⟨lw_p143, fun _ h => absurd h List.not_mem_nil⟩⟩⟩⟩⟩⟩⟩⟩⟩⟩⟩⟩⟩⟩⟩⟩
theorem lw_p144 : lw_okq (⟨"MapFramerModel", "raise", "(I)V"⟩, 71) := ⟨⟨by decide +kernel, by decide +kernel⟩, List.mem_of_getElem? (i := 1736) (by decide +kernel), List.mem_of_getElem? (i := 2303) (by decide +kernel), List.mem_of_getElem? (i := 2304) (by decide +kernel)⟩
theorem lw_p145 : lw_okq (⟨"MapFramerModel", "lay", "(J)V"⟩, 71) := ⟨⟨by decide +kernel, by decide +kernel⟩, List.mem_of_getElem? (i := 1736) (by decide +kernel), List.mem_of_getElem? (i := 2307) (by decide +kernel), List.mem_of_getElem? (i := 2308) (by decide +kernel)⟩
theorem lw_p146 : lw_okq (⟨"MapFramerModel", "goTo", "(I)V"⟩, 71) := ⟨⟨by decide +kernel, by decide +kernel⟩, List.mem_of_getElem? (i := 1736) (by decide +kernel), List.mem_of_getElem? (i := 2311) (by decide +kernel), List.mem_of_getElem? (i := 2312) (by decide +kernel)⟩
theorem lw_p147 : lw_okq (⟨"MapFramerModel", "runReckon", "(IIII)V"⟩, 71) := ⟨⟨by decide +kernel, by decide +kernel⟩, List.mem_of_getElem? (i := 1736) (by decide +kernel), List.mem_of_getElem? (i := 2315) (by decide +kernel), List.mem_of_getElem? (i := 2316) (by decide +kernel)⟩
theorem lw_p148 : lw_okq (⟨"MapFramerModel", "localOf", "(I)J"⟩, 71) := ⟨⟨by decide +kernel, by decide +kernel⟩, List.mem_of_getElem? (i := 1736) (by decide +kernel), List.mem_of_getElem? (i := 2322) (by decide +kernel), List.mem_of_getElem? (i := 2323) (by decide +kernel)⟩
theorem lw_p149 : lw_okq (⟨"MapFramerModel", "runBranch", "(IIII)V"⟩, 71) := ⟨⟨by decide +kernel, by decide +kernel⟩, List.mem_of_getElem? (i := 1736) (by decide +kernel), List.mem_of_getElem? (i := 2326) (by decide +kernel), List.mem_of_getElem? (i := 2327) (by decide +kernel)⟩
theorem lw_p150 : lw_okq (⟨"MapFramerModel", "runReturn", "(I)V"⟩, 71) := ⟨⟨by decide +kernel, by decide +kernel⟩, List.mem_of_getElem? (i := 1736) (by decide +kernel), List.mem_of_getElem? (i := 2333) (by decide +kernel), List.mem_of_getElem? (i := 2334) (by decide +kernel)⟩
theorem lw_p151 : lw_okq (⟨"MapFramerModel", "runField", "(III)V"⟩, 71) := ⟨⟨by decide +kernel, by decide +kernel⟩, List.mem_of_getElem? (i := 1736) (by decide +kernel), List.mem_of_getElem? (i := 2337) (by decide +kernel), List.mem_of_getElem? (i := 2338) (by decide +kernel)⟩
theorem lw_p152 : lw_okq (⟨"MapFramerModel", "runCall", "(I)V"⟩, 71) := ⟨⟨by decide +kernel, by decide +kernel⟩, List.mem_of_getElem? (i := 1736) (by decide +kernel), List.mem_of_getElem? (i := 2341) (by decide +kernel), List.mem_of_getElem? (i := 2342) (by decide +kernel)⟩
theorem lw_p153 : lw_okq (⟨"MapFramerModel", "runObject", "(III)V"⟩, 71) := ⟨⟨by decide +kernel, by decide +kernel⟩, List.mem_of_getElem? (i := 1736) (by decide +kernel), List.mem_of_getElem? (i := 2345) (by decide +kernel), List.mem_of_getElem? (i := 2346) (by decide +kernel)⟩
theorem lw_p154 : lw_okq (⟨"MapFramerModel", "runShuffle", "(III)V"⟩, 71) := ⟨⟨by decide +kernel, by decide +kernel⟩, List.mem_of_getElem? (i := 1736) (by decide +kernel), List.mem_of_getElem? (i := 2350) (by decide +kernel), List.mem_of_getElem? (i := 2351) (by decide +kernel)⟩
def lw_privs_10 : List (MethodName × Nat) := [(⟨"MapFramerModel", "raise", "(I)V"⟩, 71), (⟨"MapFramerModel", "lay", "(J)V"⟩, 71), (⟨"MapFramerModel", "goTo", "(I)V"⟩, 71), (⟨"MapFramerModel", "runReckon", "(IIII)V"⟩, 71), (⟨"MapFramerModel", "localOf", "(I)J"⟩, 71), (⟨"MapFramerModel", "runBranch", "(IIII)V"⟩, 71), (⟨"MapFramerModel", "runReturn", "(I)V"⟩, 71), (⟨"MapFramerModel", "runField", "(III)V"⟩, 71), (⟨"MapFramerModel", "runCall", "(I)V"⟩, 71), (⟨"MapFramerModel", "runObject", "(III)V"⟩, 71), (⟨"MapFramerModel", "runShuffle", "(III)V"⟩, 71)]
theorem lw_r10 : ∀ q ∈ lw_privs_10, lw_okq q := List.forall_mem_cons.mpr ⟨lw_p144, List.forall_mem_cons.mpr ⟨lw_p145, List.forall_mem_cons.mpr ⟨lw_p146, List.forall_mem_cons.mpr ⟨lw_p147, List.forall_mem_cons.mpr ⟨lw_p148, List.forall_mem_cons.mpr ⟨lw_p149, List.forall_mem_cons.mpr ⟨lw_p150, List.forall_mem_cons.mpr ⟨lw_p151, List.forall_mem_cons.mpr ⟨lw_p152, List.forall_mem_cons.mpr ⟨lw_p153, List.forall_mem_cons.mpr ⟨lw_p154, fun _ h => absurd h List.not_mem_nil⟩⟩⟩⟩⟩⟩⟩⟩⟩⟩⟩
def lw_privs : List (MethodName × Nat) := lw_privs_1 ++ (lw_privs_2 ++ (lw_privs_3 ++ (lw_privs_4 ++ (lw_privs_5 ++ (lw_privs_6 ++ (lw_privs_7 ++ (lw_privs_8 ++ (lw_privs_9 ++ (lw_privs_10)))))))))
def lw_tbl : List Cond := k2_sels lw_privs ++ tables_1
theorem lw_privs_ok : ∀ q ∈ lw_privs, lw_okq q := by
  show ∀ q ∈ lw_privs_1 ++ (lw_privs_2 ++ (lw_privs_3 ++ (lw_privs_4 ++ (lw_privs_5 ++ (lw_privs_6 ++ (lw_privs_7 ++ (lw_privs_8 ++ (lw_privs_9 ++ (lw_privs_10))))))))), lw_okq q
  exact List.forall_mem_append.mpr ⟨lw_r1, List.forall_mem_append.mpr ⟨lw_r2, List.forall_mem_append.mpr ⟨lw_r3, List.forall_mem_append.mpr ⟨lw_r4, List.forall_mem_append.mpr ⟨lw_r5, List.forall_mem_append.mpr ⟨lw_r6, List.forall_mem_append.mpr ⟨lw_r7, List.forall_mem_append.mpr ⟨lw_r8, List.forall_mem_append.mpr ⟨lw_r9, lw_r10⟩⟩⟩⟩⟩⟩⟩⟩⟩
/-! ===== BEGIN words of one list among another's, by their places ===== -/
theorem goodIn_r {big : List Cond} (ws : List Cond) (ps : List Nat) (hp : ws = ps.filterMap (fun i => big[i]?)) (h : ws.all goodWord = true) : GoodIn big ws := by
  intro w hw
  have h1 := List.all_eq_true.mp h w hw
  rw [hp] at hw
  obtain ⟨i, -, hi⟩ := List.mem_filterMap.mp hw
  have hm : w ∈ big := by first | exact List.mem_of_getElem? hi | exact List.getElem?_mem hi
  exact ⟨hm, good_of_word h1⟩
theorem goodIn_app {big a b : List Cond} (ha : GoodIn big a) (hb : GoodIn big b) : GoodIn big (a ++ b) := fun w h => (List.mem_append.mp h).elim (ha w) (hb w)
theorem goodIn_ca {big a b : List Cond} {c : Cond} (ha : GoodIn big (c :: a)) (hb : GoodIn big b) : GoodIn big (c :: (a ++ b)) := fun w h => (List.mem_cons.mp h).elim (fun e => ha w (List.mem_cons.mpr (Or.inl e))) (fun h => (List.mem_append.mp h).elim (fun h => ha w (List.mem_cons.mpr (Or.inr h))) (hb w))
theorem goodIn_sub {big ws : List Cond} (hm : ∀ w ∈ ws, w ∈ big) (h : ws.all goodWord = true) : GoodIn big ws := fun w hw => ⟨hm w hw, good_of_word (List.all_eq_true.mp h w hw)⟩
/-! ===== END ===== -/

/-! ===== BEGIN exceptions that leave a method, and their catching by the caller (launches without stack traces) ===== -/
section VXA
/-! The laws vx_back, vx_callV, vx_callS, vx_callSW, vx_throw0, vx_throwS follow proofs of the library, with one case more: JvmDerived/Free/Laws.lean (Back.of_free), Shelf42/LK1.lean (callV, callS), Shelf/KitTraced.lean (throwNew0V, throwNewS). -/
/-- where a method has thrown q: the class by its name, the cell, what was written, the world -/
def vx_T (XC : String → State → State → Prop) (st : State) (q : Addr) (t : State) (mc ms : Nat) (free : Addr → Prop) : Prop :=
  ∃ (E : String) (ce : Cell) (L : List Loc), XC E st t ∧ t.heap[q]? = some ce ∧ ce.vm = .none ∧ st.vm.findClass E = some ce.cls ∧ st.WarmedH t.vm ∧ st.sameButNew ({ t with vm := st.vm } : State) L mc ms ∧ ∀ z ∈ L, free z.base
def vx_Q (Qc : Array Value → State → Outcome → State → Prop) (XC : String → State → State → Prop) (mc ms : Nat) (free : Addr → Prop) : Array Value → State → Outcome → State → Prop := fun a st o t =>
  (Qc a st o t ∧ ∃ L, FrameEnd st o t L mc ms ∧ ∀ q ∈ L, free q.base) ∨ ∃ q, o = .threw q ∧ vx_T XC st q t mc ms free
/-- a callee that returns or throws -/
def vx_Met (l : Launch) (y : MethodName) (ws : List Cond) (rm : Room) (Pc : Array Value → State → Prop) (Qc : Array Value → State → Outcome → State → Prop) (XC : String → State → State → Prop) (mc ms : Nat) (free : Addr → Prop) : Prop :=
  MetFree l y (headSpec ws rm) Pc (fun _ _ _ _ _ => True) (vx_Q Qc XC mc ms free)
def vx_Post (XC : String → State → State → Prop) (mc ms : Nat) (free : Addr → Prop) : Pt → Array Value → Addr → Pt → Prop := fun A a q B =>
  ∃ (g : JFrame) (mk : MethodId) (t : State) (L : List Loc) (E : String) (ce : Cell), B.U.heap = t.heap ∧ B.U.vm = t.vm ∧ XC E (A.U.calling g mk a) t ∧ t.heap[q]? = some ce ∧ ce.vm = .none ∧ A.U.vm.findClass E = some ce.cls ∧ B.locs = A.locs ++ L ∧ (∀ z ∈ L, free z.base) ∧ B.cells = A.cells + mc ∧ B.slots = A.slots + ms
def vx_Back (l : Launch) (R : Room) (p : Program) (e : Env) (below : List Frame) (s : State) (sargs : Array Value) (y : MethodName) (len W9 : Nat)
    (Pre : Pt → Array Value → Prop) (Post : Pt → Array Value → Option Value → Pt → Prop) (PostX : Pt → Array Value → Addr → Pt → Prop) : Prop :=
  ∀ (m : MethodId) (meth : Method) (c : Code) (A : Pt) (g : JFrame) (ig : Instr) (mk : MethodId) (a : Array Value),
    Stand p l e R s m sargs below meth c A.U A.locs A.cells A.slots → g.method = m → g.locals.size = c.maxLocals → decode c.code g.pc = .ok (ig, len) →
    2 * g.monitorRoom + (g.stack.map fun v => v.category).sum ≤ W9 → A.U.methodNamed? y = some mk → Pre A a →
    (∃ (v : Option Value) (B : Pt), Stand p l e R s m sargs below meth c B.U B.locs B.cells B.slots ∧ Post A a v B ∧
      Steps p.tables e below (doInvoke e (A.U.setTop g) [] mk a).1 (B.U.setTop { g with pc := g.pc + len, stack := v.toList ++ g.stack })) ∨
    (∃ (q : Addr) (B : Pt), Stand p l e R s m sargs below meth c B.U B.locs B.cells B.slots ∧ PostX A a q B ∧
      Steps p.tables e below (doInvoke e (A.U.setTop g) [] mk a).1 ((B.U.setTop g).pushFrame (.throwing q)))
section Payer
variable {l : Launch} {R : Room} {p : Program} {e : Env} {below : List Frame} {s : State} {sargs : Array Value} {y : MethodName} {len W9 : Nat}
theorem vx_back {ws : List Cond} {rm : Room} {Pc : Array Value → State → Prop} {Qc : Array Value → State → Outcome → State → Prop} {XC : String → State → State → Prop} {mc ms : Nat} {free : Addr → Prop} {bytes : ByteArray} {maxL : Nat} {ret : Option FieldType}
    (hM : vx_Met l y ws rm Pc Qc XC mc ms free) (hblind : FrameBlind Pc) (hrc : rm.cells = mc) (hrs : rm.slots = ms)
    (hframes : rm.frames + 1 ≤ R.frames) (hlocals : W9 + (maxL + 11) + rm.locals ≤ R.locals)
    (hws : ∀ w ∈ ws, ∀ a' U, s.WarmedH U.vm → w.before a' U = true) (hcode : Cond.code y bytes maxL ret ∈ ws) (hinit : ∀ a' U, s.WarmedH U.vm → (Cond.initialized y.cls).before a' U = true) :
    vx_Back l R p e below s sargs y len W9 (PreOf R mc ms Pc) (PostOf Qc mc ms free) (vx_Post XC mc ms free) := by
  intro m meth c A g ig mk a X hg hsize hdg hW hn hp
  have h1 : (headSpec ws rm).pre.before a A.U = true := atoms_intro fun w hw => hws w hw _ _ X.warmed
  have h2 : (Cond.code y bytes maxL ret).before a A.U = true := hws _ hcode _ _ X.warmed
  have h3 : (Cond.initialized y.cls).before a A.U = true := hinit _ _ X.warmed
  have h4 : A.cells + (headSpec ws rm).room.cells ≤ R.cells := by rw [show (headSpec ws rm).room.cells = mc from hrc]; exact hp.1
  have h5 : A.slots + (headSpec ws rm).room.slots ≤ R.slots := by rw [show (headSpec ws rm).room.slots = ms from hrs]; exact hp.2.1
  have hPc : Pc a (A.U.calling g mk a) := hblind _ _ _ _ hp.2.2
  obtain ⟨U, Ls, c0, s0⟩ := A
  dsimp only [Pt.U, Pt.locs, Pt.cells, Pt.slots] at h1 h2 h3 h4 h5 X hn hPc ⊢
  obtain ⟨methY, cY, hmY, hcY, -, hlY, -, -, -, -⟩ := Cond.code_spec hn h2
  obtain ⟨kY, hkY, -⟩ := className_of_methodNamed hn
  have hinitY : kY.init = .initialized := Cond.initialized_spec (findClass_of_methodNamed hn) hkY h3
  have h : At U g.method c below := by rw [hg]; exact X.here
  have hlocals9 : W9 + (maxL + 11) + (headSpec ws rm).room.locals ≤ R.locals := hlocals
  have happ : (headSpec ws rm).appliesLoose y e.platform (U.calling g mk a) = true :=
    Spec.appliesLoose_calling (g := g) h hdg hn hkY hinitY
      (X.room_calling (g := g) (R' := (headSpec ws rm).room) hsize hmY hcY hframes (by rw [hlY]; omega) h4 h5) h1
  obtain ⟨mid, hmid⟩ := h.above
  have hfr : (U.setTop g).frames = (.java g :: mid) ++ below := by rw [State.frames_setTop' g h.top, hmid]; rfl
  obtain ⟨o, s₂, hsteps, -, hend, hq⟩ := Steps.callFree hM p X.admits X.cas X.clock (acts := []) hfr happ hPc trivial
  have hq' : vx_Q Qc XC mc ms free a (U.calling g mk a) o s₂ := hq
  rw [State.frames_setTop' g h.top] at hend
  obtain ⟨g₀, hg0⟩ := Option.isSome_iff_exists.mp h.top
  obtain ⟨r, hr⟩ := State.topJava?_eq_some.mp hg0
  have hr' : (({ U with heap := s₂.heap, slotsUsed := s₂.slotsUsed } : State).setVm s₂.vm).frames = .java g₀ :: r := hr
  rcases hq' with ⟨hqc, L, hfe, hL⟩ | ⟨q, rfl, E, ce, L, hx, hce, hcv, hcl, hW₂, hsm, hL⟩
  · obtain ⟨⟨v, rfl⟩, hW₂, e2, q2, q3, q4, q5, q6⟩ := id hfe
    have e3 : s₂ = ({ (U.calling g mk a).setFrames s₂.frames with heap := s₂.heap, slotsUsed := s₂.slotsUsed } : State).setVm s₂.vm := by
      have : s₂ = ({ s₂ with vm := (U.calling g mk a).vm } : State).setVm s₂.vm := rfl
      rw [e2] at this
      exact this
    obtain ⟨c₂, i₂, len₂, hc₂, hd₂, hf₂⟩ := hend
    have hW' : U.WarmedH s₂.vm := hW₂
    have hcc : c₂ = c := by
      have h1 : s₂.code? g.method = U.code? g.method := by
        rw [State.code?_eq, State.code?_eq, hW'.alike.method?]
      exact Option.some.inj (hc₂.symm.trans (h1.trans h.code))
    subst hcc
    have hlen : len₂ = len := by rw [hdg] at hd₂; cases hd₂; rfl
    subst hlen
    have hs₂ : s₂ = (({ U with heap := s₂.heap, slotsUsed := s₂.slotsUsed } : State).setVm s₂.vm).setTop { g with pc := g.pc + len₂, stack := v.toList ++ g.stack } := by
      refine e3.trans ?_
      rw [hf₂, State.calling_eq h.top, State.setFrames_setFrames, State.setTop_of_frames _ hr', hr]
      rfl
    have hsame : U.sameButNew ({ U with heap := s₂.heap, slotsUsed := s₂.slotsUsed } : State) L mc ms := by
      refine ⟨?_, q2, q3, q4, q5, q6⟩
      obtain ⟨t, ht, -⟩ := State.frames_cons hr
      show ({ U with heap := s₂.heap, slotsUsed := s₂.slotsUsed } : State) = { U.setFrames U.frames with heap := s₂.heap, slotsUsed := s₂.slotsUsed }
      rw [State.setFrames_self ht]
    subst hg
    refine Or.inl ⟨v, ⟨(({ U with heap := s₂.heap, slotsUsed := s₂.slotsUsed } : State).setVm s₂.vm), Ls ++ L, c0 + mc, s0 + ms⟩,
      ⟨X.admits, X.cas, X.clock, X.frames, X.room, X.hears, X.method, X.code, (X.here.setHeapUsed s₂.heap s₂.slotsUsed).setVm hW'.alike, X.tail, State.WarmedH.trans X.warmed hW', X.limits, X.bytes, X.same.trans (hsame.setVm s.vm)⟩,
      ⟨g, mk, s₂, L, rfl, rfl, hqc, rfl, hL, rfl, rfl⟩, ?_⟩
    show Steps p.tables e below _ ((({ U with heap := s₂.heap, slotsUsed := s₂.slotsUsed } : State).setVm s₂.vm).setTop { g with pc := g.pc + len₂, stack := v.toList ++ g.stack })
    rw [← hs₂]
    exact hsteps
  · obtain ⟨e2, q2, q3, q4, q5, q6⟩ := id hsm
    have e3 : s₂ = ({ (U.calling g mk a).setFrames s₂.frames with heap := s₂.heap, slotsUsed := s₂.slotsUsed } : State).setVm s₂.vm := by
      have : s₂ = ({ s₂ with vm := (U.calling g mk a).vm } : State).setVm s₂.vm := rfl
      rw [e2] at this
      exact this
    have hf₂ : s₂.frames = .throwing q :: .java g :: U.frames.tail := hend
    have hW' : U.WarmedH s₂.vm := hW₂
    have hs₂ : s₂ = ((({ U with heap := s₂.heap, slotsUsed := s₂.slotsUsed } : State).setVm s₂.vm).setTop g).pushFrame (.throwing q) := by
      refine e3.trans ?_
      rw [hf₂, State.calling_eq h.top, State.setFrames_setFrames, State.pushFrame, State.frames_setTop _ hr', State.setTop_of_frames _ hr', State.setFrames_setFrames, hr]
      rfl
    have hsame : U.sameButNew ({ U with heap := s₂.heap, slotsUsed := s₂.slotsUsed } : State) L mc ms := by
      refine ⟨?_, q2, q3, q4, q5, q6⟩
      obtain ⟨t, ht, -⟩ := State.frames_cons hr
      show ({ U with heap := s₂.heap, slotsUsed := s₂.slotsUsed } : State) = { U.setFrames U.frames with heap := s₂.heap, slotsUsed := s₂.slotsUsed }
      rw [State.setFrames_self ht]
    subst hg
    refine Or.inr ⟨q, ⟨(({ U with heap := s₂.heap, slotsUsed := s₂.slotsUsed } : State).setVm s₂.vm), Ls ++ L, c0 + mc, s0 + ms⟩,
      ⟨X.admits, X.cas, X.clock, X.frames, X.room, X.hears, X.method, X.code, (X.here.setHeapUsed s₂.heap s₂.slotsUsed).setVm hW'.alike, X.tail, State.WarmedH.trans X.warmed hW', X.limits, X.bytes, X.same.trans (hsame.setVm s.vm)⟩,
      ⟨g, mk, s₂, L, E, ce, rfl, rfl, hx, hce, hcv, hcl, rfl, hL, rfl, rfl⟩, ?_⟩
    show Steps p.tables e below _ (((({ U with heap := s₂.heap, slotsUsed := s₂.slotsUsed } : State).setVm s₂.vm).setTop g).pushFrame (.throwing q))
    rw [← hs₂]
    exact hsteps
end Payer
section Calls
variable {p : Program} {l : Launch} {e : Env} {R : Room} {s : State} {m : MethodId} {args : Array Value} {below : List Frame} {meth : Method} {c : Code} {T : State} {locs : List Loc} {cells slots : Nat}
theorem vx_callV (X : Stand p l e R s m args below meth c T locs cells slots) (hexec : p.tables.exec = Jvm.exec) {own C : String} {index : Nat} {y : MethodName} {bytes : ByteArray} {maxL : Nat} {ret : Option FieldType}
    (hown : s.vm.findClass own = some m.cls) (hlink : (Cond.methodLink own index y).before args s = true) (hinst : (Cond.instanceMethod y).before args s = true) (hsel : (Cond.selects C y y).before args s = true)
    (hcode : (Cond.code y bytes maxL ret).before args s = true) (hy : y.cls ≠ "java/lang/invoke/MethodHandle" ∧ y.cls ≠ "java/lang/invoke/VarHandle")
    {W9 : Nat} {Pre : Pt → Array Value → Prop} {Post : Pt → Array Value → Option Value → Pt → Prop} {PostX : Pt → Array Value → Addr → Pt → Prop} (hK : vx_Back l R p e below s args y 3 W9 Pre Post PostX)
    {b : Addr} {cellB : Cell} (hcell : T.heap[b]? = some cellB) (hobj : cellB.vm.isStatics = false) (hcls : s.vm.findClass C = some cellB.cls)
    {g : JFrame} (hg : g.method = m) (hsize : g.locals.size = c.maxLocals) {argsL rest : List Value} (hlen : ∀ sig, parseMethodDescriptor y.desc = some sig → argsL.length = sig.parameters.length)
    (hstack : g.stack = argsL.reverse ++ .ref b :: rest) (hW : 2 * g.monitorRoom + (rest.map fun v => v.category).sum ≤ W9) (hdg : decode c.code g.pc = .ok (.invokevirtual index, 3))
    (hpre : ∀ vm₁, s.WarmedH vm₁ → Pre ⟨T.setVm vm₁, locs, cells, slots⟩ (Value.ref b :: argsL).toArray) :
    (∃ (v : Option Value) (vm₁ : Vm) (B : Pt), s.WarmedH vm₁ ∧ Stand p l e R s m args below meth c B.U B.locs B.cells B.slots ∧ Post ⟨T.setVm vm₁, locs, cells, slots⟩ (Value.ref b :: argsL).toArray v B ∧
      ∀ target, Steps p.tables e below (B.U.setTop { g with pc := g.pc + 3, stack := v.toList ++ rest }) target → Steps p.tables e below (T.setTop g) target) ∨
    (∃ (q : Addr) (vm₁ : Vm) (B : Pt), s.WarmedH vm₁ ∧ Stand p l e R s m args below meth c B.U B.locs B.cells B.slots ∧ PostX ⟨T.setVm vm₁, locs, cells, slots⟩ (Value.ref b :: argsL).toArray q B ∧
      Steps p.tables e below (T.setTop g) ((B.U.setTop { g with stack := rest }).pushFrame (.throwing q))) := by
  obtain ⟨mk, methM, hnamed, hmethM, hstM, habM⟩ := Cond.instanceMethod_spec hinst
  obtain ⟨methM', cM, hmethM', -, -, -, -, -, -, hsigM⟩ := Cond.code_spec hnamed hcode
  cases hmethM.symm.trans hmethM'
  obtain ⟨c2, r2, m2, q1, q2, q3, q4, kP, hkP, hkPi⟩ := Cond.selects_spec hsel
  cases hcls.symm.trans q1
  cases (State.methodFound?_of_named hnamed hy).symm.trans q2
  cases hnamed.symm.trans q3
  have hselP : selectMethod e.platform s.vm cellB.cls mk = .method mk := by rw [Launch.admits_selectMethod X.admits]; exact q4
  obtain ⟨vm₁, X₁, hstep₁⟩ := X.invokevirtual hexec hown hlink hnamed hmethM hstM hkP hkPi hy (a := b) (cell := cellB) hcell
    (fun z h => by rw [h] at hobj; cases hobj) hselP hmethM habM hkP hkPi (g := g) hg (argsL := argsL) (rest := rest) (hlen _ hsigM) hstack hdg
  rcases hK m meth c ⟨T.setVm vm₁, locs, cells, slots⟩ { g with stack := rest } (.invokevirtual index) mk (Value.ref b :: argsL).toArray X₁ hg hsize hdg hW (X₁.named hnamed) (hpre vm₁ X₁.warmed) with ⟨v, B, X', hpost, hsteps⟩ | ⟨q, B, X', hpost, hsteps⟩
  · exact Or.inl ⟨v, vm₁, B, X₁.warmed, X', hpost, fun target h => hstep₁ _ fun acts => by rw [doInvoke_state]; exact hsteps.trans h⟩
  · exact Or.inr ⟨q, vm₁, B, X₁.warmed, X', hpost, hstep₁ _ fun acts => by rw [doInvoke_state]; exact hsteps⟩
theorem vx_callS (X : Stand p l e R s m args below meth c T locs cells slots) (hexec : p.tables.exec = Jvm.exec) {own : String} {index : Nat} {y : MethodName} {bytes : ByteArray} {maxL : Nat} {ret : Option FieldType}
    (hown : s.vm.findClass own = some m.cls) (hlink : (Cond.methodLink own index y).before args s = true) (hstat : (Cond.static y).before args s = true) (hinit : (Cond.initialized y.cls).before args s = true)
    (hcode : (Cond.code y bytes maxL ret).before args s = true) (hy : y.cls ≠ "java/lang/invoke/MethodHandle" ∧ y.cls ≠ "java/lang/invoke/VarHandle")
    {W9 : Nat} {Pre : Pt → Array Value → Prop} {Post : Pt → Array Value → Option Value → Pt → Prop} {PostX : Pt → Array Value → Addr → Pt → Prop} (hK : vx_Back l R p e below s args y 3 W9 Pre Post PostX)
    {g : JFrame} (hg : g.method = m) (hsize : g.locals.size = c.maxLocals) {argsL rest : List Value} (hlen : ∀ sig, parseMethodDescriptor y.desc = some sig → argsL.length = sig.parameters.length)
    (hstack : g.stack = argsL.reverse ++ rest) (hW : 2 * g.monitorRoom + (rest.map fun v => v.category).sum ≤ W9) (hdg : decode c.code g.pc = .ok (.invokestatic index, 3))
    (hpre : ∀ vm₁, s.WarmedH vm₁ → Pre ⟨T.setVm vm₁, locs, cells, slots⟩ argsL.toArray) :
    (∃ (v : Option Value) (vm₁ : Vm) (B : Pt), s.WarmedH vm₁ ∧ Stand p l e R s m args below meth c B.U B.locs B.cells B.slots ∧ Post ⟨T.setVm vm₁, locs, cells, slots⟩ argsL.toArray v B ∧
      ∀ target, Steps p.tables e below (B.U.setTop { g with pc := g.pc + 3, stack := v.toList ++ rest }) target → Steps p.tables e below (T.setTop g) target) ∨
    (∃ (q : Addr) (vm₁ : Vm) (B : Pt), s.WarmedH vm₁ ∧ Stand p l e R s m args below meth c B.U B.locs B.cells B.slots ∧ PostX ⟨T.setVm vm₁, locs, cells, slots⟩ argsL.toArray q B ∧
      Steps p.tables e below (T.setTop g) ((B.U.setTop { g with stack := rest }).pushFrame (.throwing q))) := by
  obtain ⟨mk, hnamed⟩ := Cond.code_named hcode
  obtain ⟨methM, cM, hmethM, -, -, -, -, -, -, hsigM⟩ := Cond.code_spec hnamed hcode
  have hstatic : methM.isStatic = true := Cond.static_spec hnamed hmethM hstat
  obtain ⟨kP, hkP, -⟩ := className_of_methodNamed hnamed
  have hinitP : kP.init = .initialized := Cond.initialized_spec (findClass_of_methodNamed hnamed) hkP hinit
  obtain ⟨vm₁, X₁, hstep₁⟩ := X.invokestatic hexec hown hlink hnamed hmethM hstatic hkP hinitP hy (g := g) hg (argsL := argsL) (rest := rest) (hlen _ hsigM) hstack hdg
  rcases hK m meth c ⟨T.setVm vm₁, locs, cells, slots⟩ { g with stack := rest } (.invokestatic index) mk argsL.toArray X₁ hg hsize hdg hW (X₁.named hnamed) (hpre vm₁ X₁.warmed) with ⟨v, B, X', hpost, hsteps⟩ | ⟨q, B, X', hpost, hsteps⟩
  · exact Or.inl ⟨v, vm₁, B, X₁.warmed, X', hpost, fun target h => hstep₁ _ fun acts => by rw [doInvoke_state]; exact hsteps.trans h⟩
  · exact Or.inr ⟨q, vm₁, B, X₁.warmed, X', hpost, hstep₁ _ fun acts => by rw [doInvoke_state]; exact hsteps⟩
end Calls
theorem vx_cls {s : State} {T : State} {vm₁ : Vm} {E : String} {k : ClassId} (hW : s.WarmedH vm₁) (h : (T.setVm vm₁).vm.findClass E = some k) : s.vm.findClass E = some k := by
  have h1 : vm₁.findClass E = some k := h
  rw [hW.alike.findClass] at h1
  exact h1
/-- the method's frame g, with q thrown over it -/
def vx_W (p : Program) (l : Launch) (e : Env) (R : Room) (s : State) (m : MethodId) (args : Array Value) (below : List Frame) (meth : Method) (c : Code) (H : Heap) (locs : List Loc) (cells slots : Nat) (Q : State → Prop) (g : JFrame) (q : Addr) : Prop :=
  ∀ T : State, T.heap = H → Stand p l e R s m args below meth c T locs cells slots → ∃ t, Steps p.tables e below ((T.setTop g).pushFrame (.throwing q)) t ∧ Q t
def vx_Run (p : Program) (l : Launch) (e : Env) (R : Room) (s : State) (m : MethodId) (args : Array Value) (below : List Frame) (meth : Method) (c : Code) (H : Heap) (locs : List Loc) (cells slots mc ms : Nat) (g : JFrame) (rest : List Value) (Qa : State → Outcome → State → Prop) (XC : String → State → State → Prop) (free : Addr → Prop) : Prop :=
  ∀ T : State, T.heap = H → Stand p l e R s m args below meth c T locs cells slots →
    (∃ (v : Option Value) (st₀ t T' : State) (L : List Loc), st₀.heap = H ∧ Stand p l e R s m args below meth c T' (locs ++ L) (cells + mc) (slots + ms) ∧ (∀ q ∈ L, free q.base) ∧ T'.heap = t.heap ∧ T'.vm = t.vm ∧ Qa st₀ (.returned v) t ∧
      Goes p e below T g T' { g with pc := g.pc + 3, stack := v.toList ++ rest }) ∨
    (∃ (q : Addr) (st₀ t T' : State) (L : List Loc) (E : String) (ce : Cell), st₀.heap = H ∧ Stand p l e R s m args below meth c T' (locs ++ L) (cells + mc) (slots + ms) ∧ (∀ z ∈ L, free z.base) ∧ T'.heap = t.heap ∧ T'.vm = t.vm ∧ XC E st₀ t ∧ t.heap[q]? = some ce ∧ ce.vm = .none ∧ s.vm.findClass E = some ce.cls ∧
      Steps p.tables e below (T.setTop g) ((T'.setTop { g with stack := rest }).pushFrame (.throwing q)))
def vx_X {S : Type} (px : S → Prop) (B : String → S → State → Prop) (A : Nat → Prop) : String → State → State → Prop := fun E st t => ∃ u : S, px u ∧ B E u t ∧ va_F A st t
section Runs
variable {p : Program} {l : Launch} {e : Env} {R : Room} {s : State} {m : MethodId} {args : Array Value} {below : List Frame} {meth : Method} {c : Code} {H : Heap} {locs : List Loc} {cells slots : Nat}
variable {y : MethodName} {bytes cc : ByteArray} {maxL nL mc ms n index : Nat} {ret : Option FieldType} {ws : List Cond} {rm : Room} {Pc : Array Value → State → Prop} {Qc : Array Value → State → Outcome → State → Prop} {XC : String → State → State → Prop} {free : Addr → Prop} {Ts : List Cond} {own C : String} {b : Addr} {As rest : List Value} {g : JFrame}
theorem vx_callBack (cb : CallB R s args own index y bytes maxL ret ws rm mc ms n) (hM : vx_Met l y ws rm Pc Qc XC mc ms free) (hbl : FrameBlind Pc) : vx_Back l R p e below s args y 3 8 (PreOf R mc ms Pc) (PostOf Qc mc ms free) (vx_Post XC mc ms free) := by
  obtain ⟨hrc, hrs, hfr, hlo, hws, hcw, -, hini, -⟩ := cb
  exact vx_back (bytes := bytes) (maxL := maxL) (ret := ret) hM hbl hrc hrs hfr hlo hws hcw (fun a' U hW => word_at hW (Or.inl (by first | rfl | simp [Cond.onTables, Cond.keeps, Cond.steady])) hini)
theorem vx_runV (S : CallFix p m c cc nL s args Ts own) (hM : vx_Met l y ws rm Pc Qc XC mc ms free) (cw : CallW R s args own C index y bytes maxL ret ws rm mc ms n) (hp : PreV s H C b Pc As)
    (hg : g.method = m) (hn : As.length = n) (hsize : g.locals.size = nL) (hstack : g.stack = As.reverse ++ .ref b :: rest) (hW : 2 * g.monitorRoom + (rest.map fun v => v.category).sum ≤ 8) (hdg : decode cc g.pc = .ok (.invokevirtual index, 3)) (hf : cells + mc ≤ R.cells ∧ slots + ms ≤ R.slots) :
    vx_Run p l e R s m args below meth c H locs cells slots mc ms g rest (Qc (Value.ref b :: As).toArray) XC free := by
  have hK : vx_Back l R p e below s args y 3 8 (PreOf R mc ms Pc) (PostOf Qc mc ms free) (vx_Post XC mc ms free) := vx_callBack cw.1 hM hp.1
  obtain ⟨⟨-, -, -, -, -, -, hcode, -, hy, hlen, hl⟩, hin, hse⟩ := cw
  obtain ⟨hx, hb, hml, ho, -⟩ := S
  obtain ⟨-, ⟨cellB, hcB, hoB, hclB⟩, hPc⟩ := hp
  intro T hT X
  rcases vx_callV X hx (C := C) (bytes := bytes) (maxL := maxL) (ret := ret) ho hl hin hse hcode hy hK (by rw [hT]; exact hcB) hoB hclB hg (hsize.trans hml.symm) (argsL := As) (rest := rest) (fun sig h => hn.trans (hlen sig h)) hstack hW (by rw [hb]; exact hdg)
    (fun vm₁ hW₁ => ⟨hf.1, hf.2, hPc (T.setVm vm₁) hT hW₁⟩) with ⟨v, vm₁, ⟨U', l2, c2, s2⟩, hW₁, X', ⟨g', mk, t, L, e1, e2, hq, h1, hL, h2, h3⟩, st⟩ | ⟨q, vm₁, ⟨U', l2, c2, s2⟩, hW₁, X', ⟨g', mk, t, L, E, ce, e1, e2, hq, hce, hcv, hcl, h1, hL, h2, h3⟩, st⟩
  · dsimp only [Pt.U, Pt.locs, Pt.cells, Pt.slots] at X' e1 e2 h1 h2 h3 st
    subst h1; subst h2; subst h3
    exact Or.inl ⟨v, (T.setVm vm₁).calling g' mk (Value.ref b :: As).toArray, t, U', L, hT, X', hL, e1, e2, hq, st⟩
  · dsimp only [Pt.U, Pt.locs, Pt.cells, Pt.slots] at X' e1 e2 h1 h2 h3 st hcl
    subst h1; subst h2; subst h3
    exact Or.inr ⟨q, (T.setVm vm₁).calling g' mk (Value.ref b :: As).toArray, t, U', L, E, ce, hT, X', hL, e1, e2, hq, hce, hcv, vx_cls hW₁ hcl, st⟩
theorem vx_runS (S : CallFix p m c cc nL s args Ts own) (hM : vx_Met l y ws rm Pc Qc XC mc ms free) (cw : CallB R s args own index y bytes maxL ret ws rm mc ms n ∧ (Cond.static y).before args s = true) (hp : PreS s H Pc As)
    (hg : g.method = m) (hn : As.length = n) (hsize : g.locals.size = nL) (hstack : g.stack = As.reverse ++ rest) (hW : 2 * g.monitorRoom + (rest.map fun v => v.category).sum ≤ 8) (hdg : decode cc g.pc = .ok (.invokestatic index, 3)) (hf : cells + mc ≤ R.cells ∧ slots + ms ≤ R.slots) :
    vx_Run p l e R s m args below meth c H locs cells slots mc ms g rest (Qc As.toArray) XC free := by
  have hK : vx_Back l R p e below s args y 3 8 (PreOf R mc ms Pc) (PostOf Qc mc ms free) (vx_Post XC mc ms free) := vx_callBack cw.1 hM hp.1
  obtain ⟨⟨-, -, -, -, -, -, hcode, hini, hy, hlen, hl⟩, hstt⟩ := cw
  obtain ⟨hx, hb, hml, ho, -⟩ := S
  intro T hT X
  rcases vx_callS X hx (bytes := bytes) (maxL := maxL) (ret := ret) ho hl hstt hini hcode hy hK hg (hsize.trans hml.symm) (argsL := As) (rest := rest) (fun sig h => hn.trans (hlen sig h)) hstack hW (by rw [hb]; exact hdg)
    (fun vm₁ hW₁ => ⟨hf.1, hf.2, hp.2 (T.setVm vm₁) hT hW₁⟩) with ⟨v, vm₁, ⟨U', l2, c2, s2⟩, hW₁, X', ⟨g', mk, t, L, e1, e2, hq, h1, hL, h2, h3⟩, st⟩ | ⟨q, vm₁, ⟨U', l2, c2, s2⟩, hW₁, X', ⟨g', mk, t, L, E, ce, e1, e2, hq, hce, hcv, hcl, h1, hL, h2, h3⟩, st⟩
  · dsimp only [Pt.U, Pt.locs, Pt.cells, Pt.slots] at X' e1 e2 h1 h2 h3 st
    subst h1; subst h2; subst h3
    exact Or.inl ⟨v, (T.setVm vm₁).calling g' mk As.toArray, t, U', L, hT, X', hL, e1, e2, hq, st⟩
  · dsimp only [Pt.U, Pt.locs, Pt.cells, Pt.slots] at X' e1 e2 h1 h2 h3 st hcl
    subst h1; subst h2; subst h3
    exact Or.inr ⟨q, (T.setVm vm₁).calling g' mk As.toArray, t, U', L, E, ce, hT, X', hL, e1, e2, hq, hce, hcv, vx_cls hW₁ hcl, st⟩
end Runs
section Rows
variable {p : Program} {l : Launch} {e : Env} {R : Room} {s : State} {m : MethodId} {args : Array Value} {below : List Frame} {meth : Method} {c : Code} {H : Heap} {locs : List Loc} {cells slots : Nat} {Q : State → Prop}
variable {mc ms : Nat} {free : Addr → Prop} {A0 A1 : Nat → Prop} {H0 : Heap} {a : Array Value} {pc : Nat} {ls : Array Slot} {st0 rest : List Value}
theorem vx_keep {st₀ t T' : State} {L : List Loc} (h0 : st₀.heap = H) (e1 : T'.heap = t.heap) (hS : va_S A0 H0 H locs) (hA : ∀ q, q < H.size → A1 q → A0 q) (hf : ∀ q, free q → A0 q) (hL : ∀ q ∈ L, free q.base) (hF : va_F A1 st₀ t) :
    H.size ≤ T'.heap.size ∧ (∀ q : Nat, q < H.size → ¬ A1 q → T'.heap[q]? = H[q]?) ∧ va_S A0 H0 T'.heap (locs ++ L) := by
  obtain ⟨hz, hk⟩ := hF
  rw [h0] at hz hk
  exact ⟨by rw [e1]; exact hz, fun q h1 h2 => by rw [e1]; exact hk q h1 h2,
    ⟨Nat.le_trans hS.1 (by rw [e1]; exact hz), fun q h1 h2 => by rw [e1, hk q (Nat.lt_of_lt_of_le h1 hS.1) (fun z => h2 (hA q (Nat.lt_of_lt_of_le h1 hS.1) z))]; exact hS.2.1 q h1 h2, fun q hq => by
      rcases List.mem_append.mp hq with h | h
      · exact hS.2.2 q h
      · exact hf _ (hL q h)⟩⟩
theorem vx_calli {S SX : Type} {post : Int32 → S → Prop} {px : SX → Prop} {B : S → State → Prop} {BX : String → SX → State → Prop} {AX : Nat → Prop} (hr : vx_Run p l e R s m args below meth c H locs cells slots mc ms (F0 m pc ls st0) rest (va_Qi post B A1 a) (vx_X px BX AX) free) (hS : va_S A0 H0 H locs) (hA : ∀ q, q < H.size → A1 q → A0 q) (hf : ∀ q, free q → A0 q) (hAX : ∀ q, q < H.size → AX q → A0 q)
    (kx : ∀ (E : String) (ce : Cell) (q9 : Addr) (u : SX) (t : State) (H1 : Heap) (locs1 : List Loc), t.heap = H1 → s.vm.Alike t.vm → px u → BX E u t → H.size ≤ H1.size → (∀ q : Nat, q < H.size → ¬ AX q → H1[q]? = H[q]?) → va_S A0 H0 H1 locs1 → H1[q9]? = some ce → ce.vm = .none → s.vm.findClass E = some ce.cls → vx_W p l e R s m args below meth c H1 locs1 (cells + mc) (slots + ms) Q (F0 m pc ls rest) q9)
    (kk : ∀ (r : Int32) (u : S) (t : State) (H1 : Heap) (locs1 : List Loc), t.heap = H1 → s.vm.Alike t.vm → post r u → B u t → H.size ≤ H1.size → (∀ q : Nat, q < H.size → ¬ A1 q → H1[q]? = H[q]?) → va_S A0 H0 H1 locs1 → W p l e R s m args below meth c H1 locs1 (cells + mc) (slots + ms) Q (F0 m (pc + 3) ls (.int r :: rest))) : W p l e R s m args below meth c H locs cells slots Q (F0 m pc ls st0) := by
  intro T hT X
  rcases hr T hT X with ⟨v, st₀, t, T', L, h0, X', hL, e1, e2, ⟨⟨r, u, hv, hp, hb⟩, hF⟩, st⟩ | ⟨q, st₀, t, T', L, E, ce, h0, X', hL, e1, e2, ⟨u, hp, hb, hF⟩, hce, hcv, hcl, st⟩
  · cases hv
    obtain ⟨k1, k2, k3⟩ := vx_keep h0 e1 hS hA hf hL hF
    obtain ⟨t2, a1, b1⟩ := kk r u t T'.heap (locs ++ L) e1.symm (by rw [← e2]; exact X'.warmed.alike) hp hb k1 k2 k3 T' rfl X'
    exact ⟨t2, st t2 a1, b1⟩
  · obtain ⟨k1, k2, k3⟩ := vx_keep h0 e1 hS hAX hf hL hF
    obtain ⟨t2, a1, b1⟩ := kx E ce q u t T'.heap (locs ++ L) e1.symm (by rw [← e2]; exact X'.warmed.alike) hp hb k1 k2 k3 (by rw [e1]; exact hce) hcv hcl T' rfl X'
    exact ⟨t2, st.trans a1, b1⟩
theorem vx_calll {S SX : Type} {post : Int64 → S → Prop} {px : SX → Prop} {B : S → State → Prop} {BX : String → SX → State → Prop} {AX : Nat → Prop} (hr : vx_Run p l e R s m args below meth c H locs cells slots mc ms (F0 m pc ls st0) rest (va_Ql post B A1 a) (vx_X px BX AX) free) (hS : va_S A0 H0 H locs) (hA : ∀ q, q < H.size → A1 q → A0 q) (hf : ∀ q, free q → A0 q) (hAX : ∀ q, q < H.size → AX q → A0 q)
    (kx : ∀ (E : String) (ce : Cell) (q9 : Addr) (u : SX) (t : State) (H1 : Heap) (locs1 : List Loc), t.heap = H1 → s.vm.Alike t.vm → px u → BX E u t → H.size ≤ H1.size → (∀ q : Nat, q < H.size → ¬ AX q → H1[q]? = H[q]?) → va_S A0 H0 H1 locs1 → H1[q9]? = some ce → ce.vm = .none → s.vm.findClass E = some ce.cls → vx_W p l e R s m args below meth c H1 locs1 (cells + mc) (slots + ms) Q (F0 m pc ls rest) q9)
    (kk : ∀ (r : Int64) (u : S) (t : State) (H1 : Heap) (locs1 : List Loc), t.heap = H1 → s.vm.Alike t.vm → post r u → B u t → H.size ≤ H1.size → (∀ q : Nat, q < H.size → ¬ A1 q → H1[q]? = H[q]?) → va_S A0 H0 H1 locs1 → W p l e R s m args below meth c H1 locs1 (cells + mc) (slots + ms) Q (F0 m (pc + 3) ls (.long r :: rest))) : W p l e R s m args below meth c H locs cells slots Q (F0 m pc ls st0) := by
  intro T hT X
  rcases hr T hT X with ⟨v, st₀, t, T', L, h0, X', hL, e1, e2, ⟨⟨r, u, hv, hp, hb⟩, hF⟩, st⟩ | ⟨q, st₀, t, T', L, E, ce, h0, X', hL, e1, e2, ⟨u, hp, hb, hF⟩, hce, hcv, hcl, st⟩
  · cases hv
    obtain ⟨k1, k2, k3⟩ := vx_keep h0 e1 hS hA hf hL hF
    obtain ⟨t2, a1, b1⟩ := kk r u t T'.heap (locs ++ L) e1.symm (by rw [← e2]; exact X'.warmed.alike) hp hb k1 k2 k3 T' rfl X'
    exact ⟨t2, st t2 a1, b1⟩
  · obtain ⟨k1, k2, k3⟩ := vx_keep h0 e1 hS hAX hf hL hF
    obtain ⟨t2, a1, b1⟩ := kx E ce q u t T'.heap (locs ++ L) e1.symm (by rw [← e2]; exact X'.warmed.alike) hp hb k1 k2 k3 (by rw [e1]; exact hce) hcv hcl T' rfl X'
    exact ⟨t2, st.trans a1, b1⟩
theorem vx_callf {S SX : Type} {post : UInt32 → S → Prop} {px : SX → Prop} {B : S → State → Prop} {BX : String → SX → State → Prop} {AX : Nat → Prop} (hr : vx_Run p l e R s m args below meth c H locs cells slots mc ms (F0 m pc ls st0) rest (va_Qf post B A1 a) (vx_X px BX AX) free) (hS : va_S A0 H0 H locs) (hA : ∀ q, q < H.size → A1 q → A0 q) (hf : ∀ q, free q → A0 q) (hAX : ∀ q, q < H.size → AX q → A0 q)
    (kx : ∀ (E : String) (ce : Cell) (q9 : Addr) (u : SX) (t : State) (H1 : Heap) (locs1 : List Loc), t.heap = H1 → s.vm.Alike t.vm → px u → BX E u t → H.size ≤ H1.size → (∀ q : Nat, q < H.size → ¬ AX q → H1[q]? = H[q]?) → va_S A0 H0 H1 locs1 → H1[q9]? = some ce → ce.vm = .none → s.vm.findClass E = some ce.cls → vx_W p l e R s m args below meth c H1 locs1 (cells + mc) (slots + ms) Q (F0 m pc ls rest) q9)
    (kk : ∀ (r : UInt32) (u : S) (t : State) (H1 : Heap) (locs1 : List Loc), t.heap = H1 → s.vm.Alike t.vm → post r u → B u t → H.size ≤ H1.size → (∀ q : Nat, q < H.size → ¬ A1 q → H1[q]? = H[q]?) → va_S A0 H0 H1 locs1 → W p l e R s m args below meth c H1 locs1 (cells + mc) (slots + ms) Q (F0 m (pc + 3) ls (.float r :: rest))) : W p l e R s m args below meth c H locs cells slots Q (F0 m pc ls st0) := by
  intro T hT X
  rcases hr T hT X with ⟨v, st₀, t, T', L, h0, X', hL, e1, e2, ⟨⟨r, u, hv, hp, hb⟩, hF⟩, st⟩ | ⟨q, st₀, t, T', L, E, ce, h0, X', hL, e1, e2, ⟨u, hp, hb, hF⟩, hce, hcv, hcl, st⟩
  · cases hv
    obtain ⟨k1, k2, k3⟩ := vx_keep h0 e1 hS hA hf hL hF
    obtain ⟨t2, a1, b1⟩ := kk r u t T'.heap (locs ++ L) e1.symm (by rw [← e2]; exact X'.warmed.alike) hp hb k1 k2 k3 T' rfl X'
    exact ⟨t2, st t2 a1, b1⟩
  · obtain ⟨k1, k2, k3⟩ := vx_keep h0 e1 hS hAX hf hL hF
    obtain ⟨t2, a1, b1⟩ := kx E ce q u t T'.heap (locs ++ L) e1.symm (by rw [← e2]; exact X'.warmed.alike) hp hb k1 k2 k3 (by rw [e1]; exact hce) hcv hcl T' rfl X'
    exact ⟨t2, st.trans a1, b1⟩
theorem vx_calld {S SX : Type} {post : UInt64 → S → Prop} {px : SX → Prop} {B : S → State → Prop} {BX : String → SX → State → Prop} {AX : Nat → Prop} (hr : vx_Run p l e R s m args below meth c H locs cells slots mc ms (F0 m pc ls st0) rest (va_Qd post B A1 a) (vx_X px BX AX) free) (hS : va_S A0 H0 H locs) (hA : ∀ q, q < H.size → A1 q → A0 q) (hf : ∀ q, free q → A0 q) (hAX : ∀ q, q < H.size → AX q → A0 q)
    (kx : ∀ (E : String) (ce : Cell) (q9 : Addr) (u : SX) (t : State) (H1 : Heap) (locs1 : List Loc), t.heap = H1 → s.vm.Alike t.vm → px u → BX E u t → H.size ≤ H1.size → (∀ q : Nat, q < H.size → ¬ AX q → H1[q]? = H[q]?) → va_S A0 H0 H1 locs1 → H1[q9]? = some ce → ce.vm = .none → s.vm.findClass E = some ce.cls → vx_W p l e R s m args below meth c H1 locs1 (cells + mc) (slots + ms) Q (F0 m pc ls rest) q9)
    (kk : ∀ (r : UInt64) (u : S) (t : State) (H1 : Heap) (locs1 : List Loc), t.heap = H1 → s.vm.Alike t.vm → post r u → B u t → H.size ≤ H1.size → (∀ q : Nat, q < H.size → ¬ A1 q → H1[q]? = H[q]?) → va_S A0 H0 H1 locs1 → W p l e R s m args below meth c H1 locs1 (cells + mc) (slots + ms) Q (F0 m (pc + 3) ls (.double r :: rest))) : W p l e R s m args below meth c H locs cells slots Q (F0 m pc ls st0) := by
  intro T hT X
  rcases hr T hT X with ⟨v, st₀, t, T', L, h0, X', hL, e1, e2, ⟨⟨r, u, hv, hp, hb⟩, hF⟩, st⟩ | ⟨q, st₀, t, T', L, E, ce, h0, X', hL, e1, e2, ⟨u, hp, hb, hF⟩, hce, hcv, hcl, st⟩
  · cases hv
    obtain ⟨k1, k2, k3⟩ := vx_keep h0 e1 hS hA hf hL hF
    obtain ⟨t2, a1, b1⟩ := kk r u t T'.heap (locs ++ L) e1.symm (by rw [← e2]; exact X'.warmed.alike) hp hb k1 k2 k3 T' rfl X'
    exact ⟨t2, st t2 a1, b1⟩
  · obtain ⟨k1, k2, k3⟩ := vx_keep h0 e1 hS hAX hf hL hF
    obtain ⟨t2, a1, b1⟩ := kx E ce q u t T'.heap (locs ++ L) e1.symm (by rw [← e2]; exact X'.warmed.alike) hp hb k1 k2 k3 (by rw [e1]; exact hce) hcv hcl T' rfl X'
    exact ⟨t2, st.trans a1, b1⟩
theorem vx_callv {S SX : Type} {post : S → Prop} {px : SX → Prop} {B : S → State → Prop} {BX : String → SX → State → Prop} {AX : Nat → Prop} (hr : vx_Run p l e R s m args below meth c H locs cells slots mc ms (F0 m pc ls st0) rest (va_Qv post B A1 a) (vx_X px BX AX) free) (hS : va_S A0 H0 H locs) (hA : ∀ q, q < H.size → A1 q → A0 q) (hf : ∀ q, free q → A0 q) (hAX : ∀ q, q < H.size → AX q → A0 q)
    (kx : ∀ (E : String) (ce : Cell) (q9 : Addr) (u : SX) (t : State) (H1 : Heap) (locs1 : List Loc), t.heap = H1 → s.vm.Alike t.vm → px u → BX E u t → H.size ≤ H1.size → (∀ q : Nat, q < H.size → ¬ AX q → H1[q]? = H[q]?) → va_S A0 H0 H1 locs1 → H1[q9]? = some ce → ce.vm = .none → s.vm.findClass E = some ce.cls → vx_W p l e R s m args below meth c H1 locs1 (cells + mc) (slots + ms) Q (F0 m pc ls rest) q9)
    (kk : ∀ (u : S) (t : State) (H1 : Heap) (locs1 : List Loc), t.heap = H1 → s.vm.Alike t.vm → post u → B u t → H.size ≤ H1.size → (∀ q : Nat, q < H.size → ¬ A1 q → H1[q]? = H[q]?) → va_S A0 H0 H1 locs1 → W p l e R s m args below meth c H1 locs1 (cells + mc) (slots + ms) Q (F0 m (pc + 3) ls (rest))) : W p l e R s m args below meth c H locs cells slots Q (F0 m pc ls st0) := by
  intro T hT X
  rcases hr T hT X with ⟨v, st₀, t, T', L, h0, X', hL, e1, e2, ⟨⟨u, hv, hp, hb⟩, hF⟩, st⟩ | ⟨q, st₀, t, T', L, E, ce, h0, X', hL, e1, e2, ⟨u, hp, hb, hF⟩, hce, hcv, hcl, st⟩
  · cases hv
    obtain ⟨k1, k2, k3⟩ := vx_keep h0 e1 hS hA hf hL hF
    obtain ⟨t2, a1, b1⟩ := kk u t T'.heap (locs ++ L) e1.symm (by rw [← e2]; exact X'.warmed.alike) hp hb k1 k2 k3 T' rfl X'
    exact ⟨t2, st t2 a1, b1⟩
  · obtain ⟨k1, k2, k3⟩ := vx_keep h0 e1 hS hAX hf hL hF
    obtain ⟨t2, a1, b1⟩ := kx E ce q u t T'.heap (locs ++ L) e1.symm (by rw [← e2]; exact X'.warmed.alike) hp hb k1 k2 k3 (by rw [e1]; exact hce) hcv hcl T' rfl X'
    exact ⟨t2, st.trans a1, b1⟩
end Rows
section Ends
variable {p : Program} {l : Launch} {e : Env} {R : Room} {s : State} {m : MethodId} {args : Array Value} {below : List Frame} {meth : Method} {c : Code} {H : Heap} {locs : List Loc} {cells slots : Nat} {Q : State → Prop}
variable {mc ms : Nat} {free : Addr → Prop} {A0 A1 : Nat → Prop} {H0 : Heap} {a : Array Value} {ls : Array Slot} {st0 rest : List Value}
variable {Qc : Array Value → State → Outcome → State → Prop} {XC : String → State → State → Prop}
/-- what a body that may throw owes at its end -/
def vx_MQ (below : List Frame) (Qc : Array Value → State → Outcome → State → Prop) (XC : String → State → State → Prop) (a : Array Value) (s : State) (mc ms : Nat) (free : Addr → Prop) : State → Prop := fun t =>
  ∃ o, t.status = .running ∧ Ended t below o ∧ vx_Q Qc XC mc ms free a s o t
theorem vx_ret {g : JFrame} {mc ms : Nat} (k : W p l e R s m args below meth c H locs cells slots (MQ below Qc args s mc ms free) g) : W p l e R s m args below meth c H locs cells slots (vx_MQ below Qc XC args s mc ms free) g := by
  intro T hT X
  obtain ⟨t, a1, o, b1, b2, b3, b4⟩ := k T hT X
  exact ⟨t, a1, o, b1, b2, Or.inl ⟨b3, b4⟩⟩
/-- not caught here: it goes on to the caller -/
theorem vx_widen {g : JFrame} {q : Addr} {k n : Nat} (h1 : cells ≤ k) (h2 : slots ≤ n) (kk : vx_W p l e R s m args below meth c H locs k n Q g q) : vx_W p l e R s m args below meth c H locs cells slots Q g q := fun T hT X => kk T hT (stand_widen X h1 h2)
theorem vx_out {pc : Nat} {E : String} {ce : Cell} {q : Addr} {mc ms : Nat} (hout : ∀ x ∈ c.exceptionTable.toList, covers x pc = false) (hlocks : meth.locks = false) (hcell : H[q]? = some ce) (hv : ce.vm = .none) (hcl : s.vm.findClass E = some ce.cls)
    (hx : ∀ t : State, t.heap = H → s.vm.Alike t.vm → XC E s t) (hf : ∀ z ∈ locs, free z.base) (hc : cells ≤ mc) (hs : slots ≤ ms) :
    vx_W p l e R s m args below meth c H locs cells slots (vx_MQ below Qc XC args s mc ms free) (F0 m pc ls rest) q := by
  intro T hT X
  obtain ⟨st1, hrun, hend, hW, hsm⟩ := X.leaveThrown q (g := F0 m pc ls rest) rfl rfl rfl hout hlocks
  have hcell9 : (T.setFrames (.throwing q :: below)).heap[q]? = some ce := by
    show T.heap[q]? = some ce
    rw [hT]; exact hcell
  exact ⟨_, st1, .threw q, hrun, hend, Or.inr ⟨q, rfl, E, ce, locs, hx _ hT hW.alike, hcell9, hv, hcl, hW, hsm.mono hc hs, hf⟩⟩
theorem vx_frame {U : State} {k n : Nat} (h : s.sameButNew ({ U with vm := s.vm } : State) locs k n) : s.heap.size ≤ U.heap.size ∧ ∀ q : Nat, q < s.heap.size → (∀ z ∈ locs, z.base ≠ q) → U.heap[q]? = s.heap[q]? := by
  obtain ⟨-, h2, -, -, -, h6⟩ := h
  refine ⟨h2, fun q hq hz => ?_⟩
  obtain ⟨c9, e1, e2, e3, e4⟩ := h6 q _ (Array.getElem?_eq_getElem hq)
  have hs : c9.slots = (s.heap[q]).slots := Array.ext_getElem? fun i => e4 i fun hm => hz _ hm rfl
  have h9 : c9 = s.heap[q] := by
    rw [hs] at e2
    exact e2
  have e5 : U.heap[q]? = some c9 := e1
  rw [e5, h9, Array.getElem?_eq_getElem hq]
/-- the words of a throw but the four that speak of the heap -/
def vx_no (w : Cond) : Bool := decide (w ≠ .isRef (.static Bundle.tN "UNASSIGNED_STACK" Bundle.steD)) && decide (w ≠ .isRef (.static Bundle.tN "SUPPRESSED_SENTINEL" Bundle.listD)) && decide (w ≠ .laysStatic Bundle.tN "UNASSIGNED_STACK" Bundle.steD) && decide (w ≠ .laysStatic Bundle.tN "SUPPRESSED_SENTINEL" Bundle.listD)
def vx_at0 (own : String) (ic : Nat) (X : String) (names : List String) : List Cond := (Bundle.ownAtoms0 own ic X names).filter vx_no
def vx_atS (own : String) (ic : Nat) (X : String) (names : List String) : List Cond := (Bundle.ownAtoms own ic X names).filter vx_no
/-- a word that the tables alone decide, or a good one -/
def vx_ot (w : Cond) : Bool := w.onTables || goodWord w
theorem vx_ot_at {args a' : Array Value} {s U : State} {w : Cond} (hW : s.WarmedH U.vm) (hvm : s.vm = U.vm) (hg : vx_ot w = true) (h : w.before args s = true) : w.before a' U = true := by
  simp only [vx_ot, Bool.or_eq_true] at hg
  rcases hg with hg | hg
  · exact va_tabs hg hvm h
  · exact word_at hW (good_of_word hg) h
/-- a list's words: the good ones out of the method's own list, the others by premises of their own -/
theorem vx_hat {args : Array Value} {s : State} {L B : List Cond} (h1 : ∀ w ∈ L.filter goodWord, w.before args s = true) (h2 : ∀ w ∈ L.filter (fun w => !goodWord w), w ∈ B) (h3 : ∀ w ∈ B, w.before args s = true) : ∀ w ∈ L, w.before args s = true := by
  intro w hw
  by_cases g : goodWord w = true
  · exact h1 w (List.mem_filter.mpr ⟨hw, g⟩)
  · refine h3 w (h2 w (List.mem_filter.mpr ⟨hw, ?_⟩))
    show (!goodWord w) = true
    cases hgw : goodWord w
    · rfl
    · exact absurd hgw g
theorem vx_c {args : Array Value} {s : State} {w : Cond} {B : List Cond} (h : w.before args s = true) (t : ∀ w ∈ B, w.before args s = true) : ∀ w' ∈ w :: B, w'.before args s = true := fun w' h' => (List.mem_cons.mp h').elim (fun e => by rw [e]; exact h) (t w')
theorem vx_n {args : Array Value} {s : State} : ∀ w ∈ ([] : List Cond), w.before args s = true := fun _ h => nomatch h
theorem vx_own {args : Array Value} {s : State} {L : List Cond} (h1 : ∀ w ∈ L.filter vx_no, w.before args s = true)
    (hU : (Cond.isRef (.static Bundle.tN "UNASSIGNED_STACK" Bundle.steD)).before args s = true) (hN : (Cond.isRef (.static Bundle.tN "SUPPRESSED_SENTINEL" Bundle.listD)).before args s = true)
    (lU : (Cond.laysStatic Bundle.tN "UNASSIGNED_STACK" Bundle.steD).before args s = true) (lN : (Cond.laysStatic Bundle.tN "SUPPRESSED_SENTINEL" Bundle.listD).before args s = true) : ∀ w ∈ L, w.before args s = true := by
  intro w hw
  by_cases e1 : w = .isRef (.static Bundle.tN "UNASSIGNED_STACK" Bundle.steD)
  · rw [e1]; exact hU
  · by_cases e2 : w = .isRef (.static Bundle.tN "SUPPRESSED_SENTINEL" Bundle.listD)
    · rw [e2]; exact hN
    · by_cases e3 : w = .laysStatic Bundle.tN "UNASSIGNED_STACK" Bundle.steD
      · rw [e3]; exact lU
      · by_cases e4 : w = .laysStatic Bundle.tN "SUPPRESSED_SENTINEL" Bundle.listD
        · rw [e4]; exact lN
        · exact h1 w (List.mem_filter.mpr ⟨hw, by unfold vx_no; rw [decide_eq_true e1, decide_eq_true e2, decide_eq_true e3, decide_eq_true e4]; rfl⟩)
/-- where a static field lies, its class's statics cell in H -/
def vx_L (C n d : String) (A : Nat → Prop) (U : State) (H : Heap) : Prop := ∃ (c : ClassId) (k : Class) (i : Nat) (f : Field) (a : Nat) (cell : Cell), U.vm.findClass C = some c ∧ U.fieldFound? C n d = some (c, k, i, f) ∧ f.isStatic = true ∧ k.statics = some a ∧ H[a]? = some cell ∧ cell.vm.isStatics = true ∧ cell.cls = c ∧ f.slot < cell.slots.size ∧ k.staticTypes[f.slot]? = some f.type ∧ ¬ A a
theorem vx_L.moved {C n d : String} {A : Nat → Prop} {u U : State} {H : Heap} (hvm : u.vm.Alike U.vm) (h : vx_L C n d A u H) : vx_L C n d A U H := by
  obtain ⟨c, k, i, f, a, cell, h1, h2, h3, h4, h5, h6, h7, h8, h9, h10⟩ := h
  obtain ⟨k', hi', he⟩ := State.fieldFound?_setVm hvm h2
  exact ⟨c, k', i, f, a, cell, by rw [hvm.findClass]; exact h1, hi', h3, by rw [he]; exact h4, h5, h6, h7, h8, by rw [he]; exact h9, h10⟩
theorem vx_L.kept {C n d : String} {A : Nat → Prop} {U : State} {H H1 : Heap} (h : vx_L C n d A U H) (hq : ∀ a : Nat, a < H.size → ¬ A a → H1[a]? = H[a]?) : vx_L C n d A U H1 := by
  obtain ⟨c, k, i, f, a, cell, h1, h2, h3, h4, h5, h6, h7, h8, h9, h10⟩ := h
  exact ⟨c, k, i, f, a, cell, h1, h2, h3, h4, by rw [hq a (Array.getElem?_eq_some_iff.mp h5).1 h10]; exact h5, h6, h7, h8, h9, h10⟩
theorem vx_L.narrow {C n d : String} {A B : Nat → Prop} {U : State} {H : Heap} (h : vx_L C n d A U H) (hAB : ∀ q, B q → A q) : vx_L C n d B U H := by
  obtain ⟨c, k, i, f, a, cell, h1, h2, h3, h4, h5, h6, h7, h8, h9, h10⟩ := h
  exact ⟨c, k, i, f, a, cell, h1, h2, h3, h4, h5, h6, h7, h8, h9, fun z => h10 (hAB _ z)⟩
theorem vx_L.word {C n d : String} {A : Nat → Prop} {s : State} {args : Array Value} (h : vx_L C n d A s s.heap) : (Cond.laysStatic C n d).before args s = true := by
  obtain ⟨c, k, i, f, a, cell, h1, h2, h3, h4, h5, h6, h7, h8, h9, -⟩ := h
  show (Cond.laysStatic C n d).holds args s none s [] = true
  exact Cond.laysStatic_of h1 h2 h3 h4 h5 h6 h7 h8 h9
/-- .. and what it holds: null or some reference -/
def vx_Zq (C n d : String) (A : Nat → Prop) (U : State) (H : Heap) : Prop := va_Zq C n d A U H ∧ vx_L C n d A U H
theorem vx_Zq.moved {C n d : String} {A : Nat → Prop} {u U : State} {H : Heap} (hvm : u.vm.Alike U.vm) (h : vx_Zq C n d A u H) : vx_Zq C n d A U H := ⟨va_Zq.moved hvm h.1, vx_L.moved hvm h.2⟩
theorem vx_Zq.kept {C n d : String} {A : Nat → Prop} {U : State} {H H1 : Heap} (h : vx_Zq C n d A U H) (hq : ∀ a : Nat, a < H.size → ¬ A a → H1[a]? = H[a]?) : vx_Zq C n d A U H1 := ⟨va_Zq.kept h.1 hq, vx_L.kept h.2 hq⟩
theorem vx_Zq.narrow {C n d : String} {A B : Nat → Prop} {U : State} {H : Heap} (h : vx_Zq C n d A U H) (hAB : ∀ q, B q → A q) : vx_Zq C n d B U H := ⟨va_Zq.narrow h.1 hAB, vx_L.narrow h.2 hAB⟩
theorem vx_Zqof {args : Array Value} {s : State} {C n d : String} {A : Nat → Prop} (hl : (Cond.laysStatic C n d).before args s = true) (hini : (Cond.initialized C).before args s = true) (h : (Cond.isRef (.static C n d)).before args s = true) (hA : ∀ a : Nat, a < s.heap.size → ¬ A a) : vx_Zq C n d A s s.heap := by
  refine ⟨va_Zqof hl hini h hA, ?_⟩
  obtain ⟨c, k, i, f, a, cell, h1, h2, h3, h4, h5, h6, h7, h8, h9⟩ := Cond.laysStatic_spec hl
  exact ⟨c, k, i, f, a, cell, h1, h2, h3, h4, h5, h6, h7, h8, h9, hA a (Array.getElem?_eq_some_iff.mp h5).1⟩
theorem vx_isRef {C n d : String} {v : Value} {A : Nat → Prop} {s : State} {args : Array Value} (h : va_Z C n d v A s s.heap) (hv : v.isRef = true) : (Cond.isRef (.static C n d)).before args s = true := by
  obtain ⟨cf, kf, fi, f, a, cell, h1, h2, h3, h4, h5, h6, h7, -⟩ := h
  have he : (Term.static C n d).eval args s none [] s = some v := by
    simp [Term.eval, State.fieldNamed?, h1, h2, h4, h5, h6, h7]
  simp only [Cond.before, Cond.holds, Cond.value, he]
  cases v <;> simp_all [Value.isRef]
theorem vx_isRefq {C n d : String} {A : Nat → Prop} {s : State} {args : Array Value} (h : va_Zq C n d A s s.heap) : (Cond.isRef (.static C n d)).before args s = true := by
  rcases h with h | ⟨t, h⟩
  · exact vx_isRef h rfl
  · exact vx_isRef h rfl
/-- the same frame, seen from here: as if the method were called anew in this heap -/
theorem vx_rebase {T : State} (X : Stand p l e R s m args below meth c T locs cells slots) {R' : Room} (hf : R'.frames ≤ R.frames) (hl : R'.locals ≤ R.locals) (hc : cells + R'.cells ≤ R.cells) (hs : slots + R'.slots ≤ R.slots) :
    Stand p l e R' ((T.setVm s.vm).setFrames (.invoking m args :: below)) m args below meth c T [] 0 0 := by
  have htop : (T.setVm s.vm).topJava?.isSome := X.here.top
  have hF : ((T.setVm s.vm).setFrames (.invoking m args :: below)).frames = .invoking m args :: below := State.frames_setFrames _ (State.cur_lt_of_top htop)
  obtain ⟨g₀, hg0⟩ := Option.isSome_iff_exists.mp htop
  obtain ⟨r, hr⟩ := State.topJava?_eq_some.mp hg0
  have hl9 : e.platform.stackLimits (T.setVm s.vm).me = e.platform.stackLimits s.me := X.limits
  have hb9 : (T.setVm s.vm).me.stackBytes = s.me.stackBytes := X.bytes
  refine ⟨X.admits, X.cas, X.clock, hF, ?_, X.hears, X.method, X.code, X.here, X.tail, X.warmed, ?_, ?_, ?_⟩
  · have h := X.room
    have hU : ((T.setVm s.vm).setFrames (.invoking m args :: below)).localsInUse = s.localsInUse := by
      rw [State.localsInUse_invoking hF (meth := meth) (c := c) X.method X.code, State.localsInUse_invoking X.frames X.method X.code]
    simp only [State.hasRoom, Bool.and_eq_true, decide_eq_true_eq] at h ⊢
    obtain ⟨⟨⟨⟨h1, h2, h3, h4, h5, h6⟩, h7⟩, h8⟩, h9⟩ := h
    rw [X.frames, List.length_cons] at h2 h3
    have q1 := X.heapSize
    have q2 := X.used
    simp only [hF, hU, List.length_cons, State.stackLimits_setFrames, State.stackBytes_setFrames, hl9, hb9]
    refine ⟨⟨⟨⟨by omega, by omega, by omega, by omega, by omega, h6⟩, ?_⟩, ?_⟩, X.book⟩
    · show T.heap.size + R'.cells ≤ e.platform.maxCells
      omega
    · show T.slotsUsed + R'.slots ≤ e.platform.maxSlots
      omega
  · rw [State.stackLimits_setFrames]; rfl
  · rw [State.stackBytes_setFrames]; rfl
  · refine ⟨?_, Nat.le_refl _, Nat.le_refl _, ?_, ?_, fun a c9 h9 => ⟨c9, h9, rfl, rfl, fun _ _ => rfl⟩⟩
    · obtain ⟨t, ht, -⟩ := State.frames_cons hr
      show T.setVm s.vm = { ((T.setVm s.vm).setFrames (.invoking m args :: below)).setFrames (T.setVm s.vm).frames with heap := T.heap, slotsUsed := T.slotsUsed }
      rw [State.setFrames_setFrames, State.setFrames_self ht]
      rfl
    · show T.slotsUsed = T.slotsUsed + ((T.heap.toList.drop T.heap.size).map (·.slots.size)).sum
      rw [List.drop_eq_nil_of_le (Nat.le_of_eq Array.length_toList)]
      rfl
    · show ((T.heap.toList.drop T.heap.size).map (·.slots.size)).sum ≤ 0
      rw [List.drop_eq_nil_of_le (Nat.le_of_eq Array.length_toList)]
      exact Nat.le_refl _
/-- 'throw new E()': new; dup; invokespecial; athrow -/
theorem vx_throw0 {cc : ByteArray} {pc : Nat} (hexec : p.tables.exec = Jvm.exec) (hb : c.code = cc) (hl : l.stackTraces = false) {own cls : String} {names : List String} {ik ic mc ms : Nat} {A : Nat → Prop}
    (hown : s.vm.findClass own = some m.cls) (hcls : Bundle.fit cls = true) (hnames : ∀ n ∈ names, Bundle.fit n = true)
    (hk : (Cond.classLink own ik cls).before args s = true) (hini : (Cond.initialized cls).before args s = true) (hat : ∀ w ∈ vx_at0 own ic cls names, w.before args s = true)
    (hgood : ∀ w ∈ Cond.classLink own ik cls :: Cond.initialized cls :: vx_at0 own ic cls names, vx_ot w = true)
    (hU : vx_Zq Bundle.tN "UNASSIGNED_STACK" Bundle.steD A s s.heap) (hN : vx_Zq Bundle.tN "SUPPRESSED_SENTINEL" Bundle.listD A s s.heap) (hS : va_S A s.heap H locs) (hsize : ls.size = c.maxLocals)
    (d0 : decode cc pc = .ok (.new ik, 3)) (d3 : decode cc (pc + 3) = .ok (.dup, 1)) (d4 : decode cc (pc + 4) = .ok (.invokespecial ic, 3)) (d7 : decode cc (pc + 7) = .ok (.athrow, 1))
    (hout : ∀ x ∈ c.exceptionTable.toList, covers x (pc + 7) = false)
    (hRframes : names.length + 3 < R.frames) (hRlocals : (rest.map fun v => v.category).sum + (13 * (names.length + 1) + 42) ≤ R.locals) (hRcells : cells + 1 ≤ R.cells) (hRslots : slots + 6 ≤ R.slots) (hlocks : meth.locks = false)
    (hx : ∀ t : State, s.vm.Alike t.vm → H.size ≤ t.heap.size → (∀ q : Nat, q < H.size → t.heap[q]? = H[q]?) → XC cls s t)
    (hf : ∀ z ∈ locs, free z.base) (hc : cells + 1 ≤ mc) (hs : slots + 6 ≤ ms) :
    W p l e R s m args below meth c H locs cells slots (vx_MQ below Qc XC args s mc ms free) (F0 m pc ls rest) := by
  intro T hT X
  have htr : e.platform.stackTraces = false := (show e.platform.stackTraces = l.stackTraces by rw [X.admits.platform]).trans hl
  have Y := vx_rebase X (R' := { frames := R.frames, locals := R.locals, cells := 1, slots := 6 }) (Nat.le_refl _) (Nat.le_refl _) hRcells hRslots
  obtain ⟨s', hA⟩ : ∃ z, z = (T.setVm s.vm).setFrames (.invoking m args :: below) := ⟨_, rfl⟩
  rw [← hA] at Y
  have hvm : s'.vm = s.vm := by rw [hA]; rfl
  have hhp : s'.heap = H := by rw [hA]; exact hT
  have hW0 : s.WarmedH s'.vm := by rw [hvm]; exact State.WarmedH.refl s
  have hat' : ∀ w ∈ vx_at0 own ic cls names, w.before args s' = true := fun w hw => vx_ot_at hW0 hvm.symm (hgood w (List.mem_cons_of_mem _ (List.mem_cons_of_mem _ hw))) (hat w hw)
  have hk' : (Cond.classLink own ik cls).before args s' = true := vx_ot_at hW0 hvm.symm (hgood _ List.mem_cons_self) hk
  have hini' : (Cond.initialized cls).before args s' = true := vx_ot_at hW0 hvm.symm (hgood _ (List.mem_cons_of_mem _ List.mem_cons_self)) hini
  have hU' : vx_Zq Bundle.tN "UNASSIGNED_STACK" Bundle.steD A s' s'.heap := by rw [hhp]; exact vx_Zq.moved hW0.alike (hU.kept hS.2.1)
  have hN' : vx_Zq Bundle.tN "SUPPRESSED_SENTINEL" Bundle.listD A s' s'.heap := by rw [hhp]; exact vx_Zq.moved hW0.alike (hN.kept hS.2.1)
  have h : ∀ w ∈ Bundle.ownAtoms0 own ic cls names, w.before args s' = true := vx_own hat' (vx_isRefq hU'.1) (vx_isRefq hN'.1) hU'.2.word hN'.2.word
  have hown' : s'.vm.findClass own = some m.cls := by rw [hvm]; exact hown
  have hins : (Cond.instantiable cls 6).before args s' = true := h _ (by simp [Bundle.ownAtoms0])
  obtain ⟨vm₁, cX, kX, hfX, hkX, -, -, X₁, st1⟩ := Y.newCold hexec (own := own) (C := cls) (index := ik) (n := 6) hown' hk' hins hini'
    (g := F0 m pc ls rest) rfl (by rw [hb]; exact d0) (Nat.le_refl _) (Nat.le_refl _)
  generalize hT1 : (T.setVm vm₁).pushCell { cls := cX, slots := kX.instanceTypes.map defaultValue, vm := .none } = T1 at X₁ st1
  have hcat : (Value.ref T.heap.size).category = 1 := rfl
  have hcellA : T1.heap[T.heap.size]? = some (freshCell cX kX) := by rw [← hT1]; exact State.heap_pushCell_size _ _
  have d3' : decode c.code (pc + 3) = .ok (.dup, 1) := by rw [hb]; exact d3
  obtain ⟨U, hsteps, hrun, hend, hW, hsame, ce, hce, hO⟩ := X₁.ctorThrow0 hexec htr (own := own) (cls := cls) (names := names) (ic := ic) hown' hcls hnames h (fun x hx => nomatch hx) hfX hkX hcellA (by rw [hhp, hT]; exact Nat.le_refl _)
    (g := { method := m, pc := pc + 4, locals := ls, stack := .ref T.heap.size :: .ref T.heap.size :: rest, locked := none }) rfl hsize rfl rfl (rest := rest) rfl
    (by rw [hb]; exact d4) (by rw [hb]; exact d7) hout hRframes (by simp only [List.map_cons, List.sum_cons, hcat]; omega) hlocks
  obtain ⟨f1, f2⟩ := vx_frame hsame
  rw [hhp] at f1 f2
  have hWs : s.WarmedH U.vm := State.WarmedH.trans hW0 hW
  have hcl : s.vm.findClass cls = some ce.cls := by
    have h9 := hO.cls
    rw [hvm] at h9
    exact h9
  have hall : s.sameButNew ({ U with vm := s.vm } : State) locs mc ms := by
    subst hA
    obtain ⟨e1, e2⟩ := hsame
    rw [State.setFrames_setFrames] at e1
    have h2 : (T.setVm s.vm).sameButNew ({ U with vm := s.vm } : State) [] (0 + 1) (0 + 6) := ⟨e1, e2⟩
    have h3 := X.same.trans h2
    rw [List.append_nil] at h3
    exact h3.mono hc hs
  refine ⟨U, ?_, .threw T.heap.size, hrun, hend, Or.inr ⟨T.heap.size, rfl, cls, ce, locs, hx U hWs.alike f1 (fun q hq => f2 q hq (fun z hz => nomatch hz)), hce, hO.vm, hcl, hWs, hall, hf⟩⟩
  refine st1 _ ?_
  show Steps p.tables e below (T1.setTop { method := m, pc := pc + 3, locals := ls, stack := .ref T.heap.size :: rest, locked := none }) _
  jvm_step X₁.here [X₁.here.top, hexec, d3', Value.category]
  exact hsteps
/-- 'throw new E("text")': new; dup; ldc; invokespecial; athrow -/
theorem vx_throwS {cc : ByteArray} {pc : Nat} (hexec : p.tables.exec = Jvm.exec) (hb : c.code = cc) (hl : l.stackTraces = false) {own cls text : String} {names : List String} {ik is ic mc ms sa : Nat} {A : Nat → Prop}
    (hown : s.vm.findClass own = some m.cls) (hcls : Bundle.fit cls = true) (hnames : ∀ n ∈ names, Bundle.fit n = true)
    (hk : (Cond.classLink own ik cls).before args s = true) (hini : (Cond.initialized cls).before args s = true) (hstr : vk_R own is text sa s) (hat : ∀ w ∈ vx_atS own ic cls names, w.before args s = true)
    (hgood : ∀ w ∈ Cond.classLink own ik cls :: Cond.initialized cls :: vx_atS own ic cls names, vx_ot w = true)
    (hU : vx_Zq Bundle.tN "UNASSIGNED_STACK" Bundle.steD A s s.heap) (hN : vx_Zq Bundle.tN "SUPPRESSED_SENTINEL" Bundle.listD A s s.heap) (hS : va_S A s.heap H locs) (hsize : ls.size = c.maxLocals)
    (d0 : decode cc pc = .ok (.new ik, 3)) (d3 : decode cc (pc + 3) = .ok (.dup, 1)) (d4 : decode cc (pc + 4) = .ok (.ldc is, 2)) (d6 : decode cc (pc + 6) = .ok (.invokespecial ic, 3)) (d9 : decode cc (pc + 9) = .ok (.athrow, 1))
    (hout : ∀ x ∈ c.exceptionTable.toList, covers x (pc + 9) = false)
    (hRframes : names.length + 3 < R.frames) (hRlocals : (rest.map fun v => v.category).sum + (13 * (names.length + 1) + 43) ≤ R.locals) (hRcells : cells + 1 ≤ R.cells) (hRslots : slots + 6 ≤ R.slots) (hlocks : meth.locks = false)
    (hx : ∀ t : State, s.vm.Alike t.vm → H.size ≤ t.heap.size → (∀ q : Nat, q < H.size → t.heap[q]? = H[q]?) → XC cls s t)
    (hf : ∀ z ∈ locs, free z.base) (hc : cells + 1 ≤ mc) (hs : slots + 6 ≤ ms) :
    W p l e R s m args below meth c H locs cells slots (vx_MQ below Qc XC args s mc ms free) (F0 m pc ls rest) := by
  intro T hT X
  have htr : e.platform.stackTraces = false := (show e.platform.stackTraces = l.stackTraces by rw [X.admits.platform]).trans hl
  have Y := vx_rebase X (R' := { frames := R.frames, locals := R.locals, cells := 1, slots := 6 }) (Nat.le_refl _) (Nat.le_refl _) hRcells hRslots
  obtain ⟨s', hA⟩ : ∃ z, z = (T.setVm s.vm).setFrames (.invoking m args :: below) := ⟨_, rfl⟩
  rw [← hA] at Y
  have hvm : s'.vm = s.vm := by rw [hA]; rfl
  have hhp : s'.heap = H := by rw [hA]; exact hT
  have hW0 : s.WarmedH s'.vm := by rw [hvm]; exact State.WarmedH.refl s
  have hat' : ∀ w ∈ vx_atS own ic cls names, w.before args s' = true := fun w hw => vx_ot_at hW0 hvm.symm (hgood w (List.mem_cons_of_mem _ (List.mem_cons_of_mem _ hw))) (hat w hw)
  have hk' : (Cond.classLink own ik cls).before args s' = true := vx_ot_at hW0 hvm.symm (hgood _ List.mem_cons_self) hk
  have hini' : (Cond.initialized cls).before args s' = true := vx_ot_at hW0 hvm.symm (hgood _ (List.mem_cons_of_mem _ List.mem_cons_self)) hini
  have hU' : vx_Zq Bundle.tN "UNASSIGNED_STACK" Bundle.steD A s' s'.heap := by rw [hhp]; exact vx_Zq.moved hW0.alike (hU.kept hS.2.1)
  have hN' : vx_Zq Bundle.tN "SUPPRESSED_SENTINEL" Bundle.listD A s' s'.heap := by rw [hhp]; exact vx_Zq.moved hW0.alike (hN.kept hS.2.1)
  have h : ∀ w ∈ Bundle.ownAtoms own ic cls names, w.before args s' = true := vx_own hat' (vx_isRefq hU'.1) (vx_isRefq hN'.1) hU'.2.word hN'.2.word
  have hown' : s'.vm.findClass own = some m.cls := by rw [hvm]; exact hown
  have hins : (Cond.instantiable cls 6).before args s' = true := h _ (by simp [Bundle.ownAtoms])
  obtain ⟨vm₁, cX, kX, hfX, hkX, -, -, X₁, st1⟩ := Y.newCold hexec (own := own) (C := cls) (index := ik) (n := 6) hown' hk' hins hini'
    (g := F0 m pc ls rest) rfl (by rw [hb]; exact d0) (Nat.le_refl _) (Nat.le_refl _)
  generalize hT1 : (T.setVm vm₁).pushCell { cls := cX, slots := kX.instanceTypes.map defaultValue, vm := .none } = T1 at X₁ st1
  have hcat : (Value.ref T.heap.size).category = 1 := rfl
  have hcellA : T1.heap[T.heap.size]? = some (freshCell cX kX) := by rw [← hT1]; exact State.heap_pushCell_size _ _
  have d3' : decode c.code (pc + 3) = .ok (.dup, 1) := by rw [hb]; exact d3
  have d4' : decode c.code (pc + 4) = .ok (.ldc is, 2) := by rw [hb]; exact d4
  have hstr' : vk_R own is text sa s' := vk_R.warm hW0 hstr
  obtain ⟨U, hsteps, hrun, hend, hW, hsame, ce, hce, hO⟩ := X₁.ctorThrowS hexec htr (own := own) (cls := cls) (names := names) (ic := ic) hown' hcls hnames h (fun x hx => nomatch hx) hfX hkX hcellA (by rw [hhp, hT]; exact Nat.le_refl _) (msg := .ref sa) rfl
    (g := { method := m, pc := pc + 6, locals := ls, stack := .ref sa :: .ref T.heap.size :: .ref T.heap.size :: rest, locked := none }) rfl hsize rfl rfl (rest := rest) rfl
    (by rw [hb]; exact d6) (by rw [hb]; exact d9) hout hRframes (by simp only [List.map_cons, List.sum_cons, hcat]; omega) hlocks
  obtain ⟨f1, f2⟩ := vx_frame hsame
  rw [hhp] at f1 f2
  have hWs : s.WarmedH U.vm := State.WarmedH.trans hW0 hW
  have hcl : s.vm.findClass cls = some ce.cls := by
    have h9 := hO.cls
    rw [hvm] at h9
    exact h9
  have hall : s.sameButNew ({ U with vm := s.vm } : State) locs mc ms := by
    subst hA
    obtain ⟨e1, e2⟩ := hsame
    rw [State.setFrames_setFrames] at e1
    have h2 : (T.setVm s.vm).sameButNew ({ U with vm := s.vm } : State) [] (0 + 1) (0 + 6) := ⟨e1, e2⟩
    have h3 := X.same.trans h2
    rw [List.append_nil] at h3
    exact h3.mono hc hs
  refine ⟨U, ?_, .threw T.heap.size, hrun, hend, Or.inr ⟨T.heap.size, rfl, cls, ce, locs, hx U hWs.alike f1 (fun q hq => f2 q hq (fun z hz => nomatch hz)), hce, hO.vm, hcl, hWs, hall, hf⟩⟩
  refine st1 _ ?_
  show Steps p.tables e below (T1.setTop { method := m, pc := pc + 3, locals := ls, stack := .ref T.heap.size :: rest, locked := none }) _
  jvm_step X₁.here [X₁.here.top, hexec, d3', Value.category]
  exact X₁.ldcString hexec (own := own) (text := text) (index := is) (a := sa) hown' hstr'.1 hstr'.2
    (g := { method := m, pc := pc + 4, locals := ls, stack := .ref T.heap.size :: .ref T.heap.size :: rest, locked := none }) rfl d4' _ hsteps
/-- 'throw new E("text")', the text by a wide index -/
theorem vx_throwSW {cc : ByteArray} {pc : Nat} (hexec : p.tables.exec = Jvm.exec) (hb : c.code = cc) (hl : l.stackTraces = false) {own cls text : String} {names : List String} {ik is ic mc ms sa : Nat} {A : Nat → Prop}
    (hown : s.vm.findClass own = some m.cls) (hcls : Bundle.fit cls = true) (hnames : ∀ n ∈ names, Bundle.fit n = true)
    (hk : (Cond.classLink own ik cls).before args s = true) (hini : (Cond.initialized cls).before args s = true) (hstr : vk_R own is text sa s) (hat : ∀ w ∈ vx_atS own ic cls names, w.before args s = true)
    (hgood : ∀ w ∈ Cond.classLink own ik cls :: Cond.initialized cls :: vx_atS own ic cls names, vx_ot w = true)
    (hU : vx_Zq Bundle.tN "UNASSIGNED_STACK" Bundle.steD A s s.heap) (hN : vx_Zq Bundle.tN "SUPPRESSED_SENTINEL" Bundle.listD A s s.heap) (hS : va_S A s.heap H locs) (hsize : ls.size = c.maxLocals)
    (d0 : decode cc pc = .ok (.new ik, 3)) (d3 : decode cc (pc + 3) = .ok (.dup, 1)) (d4 : decode cc (pc + 4) = .ok (.ldc_w is, 3)) (d7 : decode cc (pc + 7) = .ok (.invokespecial ic, 3)) (d10 : decode cc (pc + 10) = .ok (.athrow, 1))
    (hout : ∀ x ∈ c.exceptionTable.toList, covers x (pc + 10) = false)
    (hRframes : names.length + 3 < R.frames) (hRlocals : (rest.map fun v => v.category).sum + (13 * (names.length + 1) + 43) ≤ R.locals) (hRcells : cells + 1 ≤ R.cells) (hRslots : slots + 6 ≤ R.slots) (hlocks : meth.locks = false)
    (hx : ∀ t : State, s.vm.Alike t.vm → H.size ≤ t.heap.size → (∀ q : Nat, q < H.size → t.heap[q]? = H[q]?) → XC cls s t)
    (hf : ∀ z ∈ locs, free z.base) (hc : cells + 1 ≤ mc) (hs : slots + 6 ≤ ms) :
    W p l e R s m args below meth c H locs cells slots (vx_MQ below Qc XC args s mc ms free) (F0 m pc ls rest) := by
  intro T hT X
  have htr : e.platform.stackTraces = false := (show e.platform.stackTraces = l.stackTraces by rw [X.admits.platform]).trans hl
  have Y := vx_rebase X (R' := { frames := R.frames, locals := R.locals, cells := 1, slots := 6 }) (Nat.le_refl _) (Nat.le_refl _) hRcells hRslots
  obtain ⟨s', hA⟩ : ∃ z, z = (T.setVm s.vm).setFrames (.invoking m args :: below) := ⟨_, rfl⟩
  rw [← hA] at Y
  have hvm : s'.vm = s.vm := by rw [hA]; rfl
  have hhp : s'.heap = H := by rw [hA]; exact hT
  have hW0 : s.WarmedH s'.vm := by rw [hvm]; exact State.WarmedH.refl s
  have hat' : ∀ w ∈ vx_atS own ic cls names, w.before args s' = true := fun w hw => vx_ot_at hW0 hvm.symm (hgood w (List.mem_cons_of_mem _ (List.mem_cons_of_mem _ hw))) (hat w hw)
  have hk' : (Cond.classLink own ik cls).before args s' = true := vx_ot_at hW0 hvm.symm (hgood _ List.mem_cons_self) hk
  have hini' : (Cond.initialized cls).before args s' = true := vx_ot_at hW0 hvm.symm (hgood _ (List.mem_cons_of_mem _ List.mem_cons_self)) hini
  have hU' : vx_Zq Bundle.tN "UNASSIGNED_STACK" Bundle.steD A s' s'.heap := by rw [hhp]; exact vx_Zq.moved hW0.alike (hU.kept hS.2.1)
  have hN' : vx_Zq Bundle.tN "SUPPRESSED_SENTINEL" Bundle.listD A s' s'.heap := by rw [hhp]; exact vx_Zq.moved hW0.alike (hN.kept hS.2.1)
  have h : ∀ w ∈ Bundle.ownAtoms own ic cls names, w.before args s' = true := vx_own hat' (vx_isRefq hU'.1) (vx_isRefq hN'.1) hU'.2.word hN'.2.word
  have hown' : s'.vm.findClass own = some m.cls := by rw [hvm]; exact hown
  have hins : (Cond.instantiable cls 6).before args s' = true := h _ (by simp [Bundle.ownAtoms])
  obtain ⟨vm₁, cX, kX, hfX, hkX, -, -, X₁, st1⟩ := Y.newCold hexec (own := own) (C := cls) (index := ik) (n := 6) hown' hk' hins hini'
    (g := F0 m pc ls rest) rfl (by rw [hb]; exact d0) (Nat.le_refl _) (Nat.le_refl _)
  generalize hT1 : (T.setVm vm₁).pushCell { cls := cX, slots := kX.instanceTypes.map defaultValue, vm := .none } = T1 at X₁ st1
  have hcat : (Value.ref T.heap.size).category = 1 := rfl
  have hcellA : T1.heap[T.heap.size]? = some (freshCell cX kX) := by rw [← hT1]; exact State.heap_pushCell_size _ _
  have d3' : decode c.code (pc + 3) = .ok (.dup, 1) := by rw [hb]; exact d3
  have d4' : decode c.code (pc + 4) = .ok (.ldc_w is, 3) := by rw [hb]; exact d4
  have hstr' : vk_R own is text sa s' := vk_R.warm hW0 hstr
  obtain ⟨U, hsteps, hrun, hend, hW, hsame, ce, hce, hO⟩ := X₁.ctorThrowS hexec htr (own := own) (cls := cls) (names := names) (ic := ic) hown' hcls hnames h (fun x hx => nomatch hx) hfX hkX hcellA (by rw [hhp, hT]; exact Nat.le_refl _) (msg := .ref sa) rfl
    (g := { method := m, pc := pc + 7, locals := ls, stack := .ref sa :: .ref T.heap.size :: .ref T.heap.size :: rest, locked := none }) rfl hsize rfl rfl (rest := rest) rfl
    (by rw [hb]; exact d7) (by rw [hb]; exact d10) hout hRframes (by simp only [List.map_cons, List.sum_cons, hcat]; omega) hlocks
  obtain ⟨f1, f2⟩ := vx_frame hsame
  rw [hhp] at f1 f2
  have hWs : s.WarmedH U.vm := State.WarmedH.trans hW0 hW
  have hcl : s.vm.findClass cls = some ce.cls := by
    have h9 := hO.cls
    rw [hvm] at h9
    exact h9
  have hall : s.sameButNew ({ U with vm := s.vm } : State) locs mc ms := by
    subst hA
    obtain ⟨e1, e2⟩ := hsame
    rw [State.setFrames_setFrames] at e1
    have h2 : (T.setVm s.vm).sameButNew ({ U with vm := s.vm } : State) [] (0 + 1) (0 + 6) := ⟨e1, e2⟩
    have h3 := X.same.trans h2
    rw [List.append_nil] at h3
    exact h3.mono hc hs
  refine ⟨U, ?_, .threw T.heap.size, hrun, hend, Or.inr ⟨T.heap.size, rfl, cls, ce, locs, hx U hWs.alike f1 (fun q hq => f2 q hq (fun z hz => nomatch hz)), hce, hO.vm, hcl, hWs, hall, hf⟩⟩
  refine st1 _ ?_
  show Steps p.tables e below (T1.setTop { method := m, pc := pc + 3, locals := ls, stack := .ref T.heap.size :: rest, locked := none }) _
  jvm_step X₁.here [X₁.here.top, hexec, d3', Value.category]
  exact X₁.ldcStringW hexec (own := own) (text := text) (index := is) (a := sa) hown' hstr'.1 hstr'.2
    (g := { method := m, pc := pc + 4, locals := ls, stack := .ref T.heap.size :: .ref T.heap.size :: rest, locked := none }) rfl d4' _ hsteps
end Ends
section Bodies
variable {l : Launch}
theorem vx_ofW {y : MethodName} {ws ws' : List Cond} {rm : Room} {Pc : Array Value → State → Prop} {Qc : Array Value → State → Outcome → State → Prop} {XC : String → State → State → Prop} {mc ms : Nat} {free : Addr → Prop} {cc : ByteArray} {maxL : Nat} {ret : Option FieldType}
    (hy : plainName y.cls = true) (hw : ws = Cond.code y cc maxL ret :: ws')
    (body : ∀ p e s m args below meth c s₁, BodyLoose p l y (headSpec ws rm) cc maxL ret e s m args below meth c s₁ → c.maxLocals = maxL → (∀ x ∈ c.exceptionTable.toList, False) → Pc args s →
      W p l e (headSpec ws rm).room s m args below meth c s.heap [] 0 0 (vx_MQ below Qc XC args s mc ms free) (entryFrame m args maxL)) : vx_Met l y ws rm Pc Qc XC mc ms free := by
  refine MetFree.of_bodyS (code := cc) (maxLocals := maxL) (ret := ret) hy ?_ ?_
  · intro args s m h hn
    obtain ⟨meth, c, h1, h2, h3, h4, h5, h6, -, -⟩ := Cond.code_spec hn (atoms_spec (ws := ws) h _ (by rw [hw]; exact List.mem_cons_self))
    exact ⟨meth, c, h1, h2, h3, h4, h5, h6⟩
  · intro p e s m args below meth c s₁ B hml hP _
    have hh0 : s₁.heap = s.heap := by rw [B.state]; rfl
    have ht : ∀ x ∈ c.exceptionTable.toList, False := by
      obtain ⟨meth9, c9, h1, h2, -, -, -, -, h7, -⟩ := Cond.code_spec B.named (atoms_spec (ws := ws) B.pre _ (by rw [hw]; exact List.mem_cons_self))
      cases Option.some.inj (h1.symm.trans B.method)
      cases Option.some.inj (h2.symm.trans (Stand.of_body B).code)
      intro x hx
      rw [Array.isEmpty_iff.mp h7] at hx
      cases hx
    obtain ⟨t, a1, o, b1, b2, b3⟩ := body p e s m args below meth c s₁ B hml ht hP s₁ hh0 (Stand.of_body B)
    exact ⟨t, o, a1, b1, b2, b3⟩
/-- the table of a body with handlers -/
theorem vx_table {p : Program} {x y : MethodName} {S : Spec} {cc bytes : ByteArray} {maxL maxL' : Nat} {ret ret' : Option FieldType} {e : Env} {s s₁ : State} {m : MethodId} {args : Array Value} {below : List Frame} {meth : Method} {c : Code} {hh : List (Nat × Nat × Nat × Nat)}
    (B : BodyLoose p l y S cc maxL ret e s m args below meth c s₁) (h : (Cond.codeWith y bytes maxL' ret' hh).before args s = true) : c.exceptionTable.toList = tableOf hh := by
  obtain ⟨m9, meth9, c9, hn9, h1, h2, -, -, h6, -⟩ := Cond.codeWith_spec h
  cases Option.some.inj (hn9.symm.trans B.named)
  cases Option.some.inj (h1.symm.trans B.method)
  cases Option.some.inj (h2.symm.trans (Stand.of_body B).code)
  rw [← h6, table_eq]
end Bodies
end VXA
/-! ===== END ===== -/
/-! ===== BEGIN a static call of a method with an exception table ===== -/
section VXS
variable {p : Program} {l : Launch} {e : Env} {R : Room} {s : State} {m : MethodId} {args : Array Value} {below : List Frame} {meth : Method} {c : Code} {T : State} {H : Heap} {locs : List Loc} {cells slots : Nat}
abbrev vx_CSW (R : Room) (s : State) (args : Array Value) (own : String) (index : Nat) (y : MethodName) (bytes : ByteArray) (maxL : Nat) (ret : Option FieldType) (hh : List (Nat × Nat × Nat × Nat)) (ws : List Cond) (rm : Room) (mc ms n : Nat) : Prop :=
  (rm.cells = mc ∧ rm.slots = ms ∧ rm.frames + 1 ≤ R.frames ∧ 8 + (maxL + 11) + rm.locals ≤ R.locals ∧ (∀ w ∈ ws, ∀ (a' : Array Value) (U : State), s.WarmedH U.vm → w.before a' U = true) ∧ Cond.codeWith y bytes maxL ret hh ∈ ws) ∧
  (Cond.codeWith y bytes maxL ret hh).before args s = true ∧ (Cond.initialized y.cls).before args s = true ∧ (y.cls ≠ "java/lang/invoke/MethodHandle" ∧ y.cls ≠ "java/lang/invoke/VarHandle") ∧
  (∀ sig, parseMethodDescriptor y.desc = some sig → n = sig.parameters.length) ∧ (Cond.methodLink own index y).before args s = true ∧ (Cond.static y).before args s = true
theorem vx_cwSW {own : String} {index maxL mc ms : Nat} {y : MethodName} {bytes : ByteArray} {ret : Option FieldType} {hh : List (Nat × Nat × Nat × Nat)} {Ts ws ws' : List Cond} {rm : Room} (n : Nat) (ht : ∀ w ∈ Ts, w.before args s = true) (hT : GoodIn Ts (va_wsS own index y ws)) (hw : ws = Cond.codeWith y bytes maxL ret hh :: ws') (hrc : rm.cells = mc) (hrs : rm.slots = ms)
    (hd : y.cls ≠ "java/lang/invoke/MethodHandle" ∧ y.cls ≠ "java/lang/invoke/VarHandle" ∧ (parseMethodDescriptor y.desc).map (fun d => d.parameters.length) = some n) (hR : rm.frames + 1 ≤ R.frames ∧ 8 + (maxL + 11) + rm.locals ≤ R.locals) :
    vx_CSW R s args own index y bytes maxL ret hh ws rm mc ms n := by
  have ok : ∀ w ∈ va_wsS own index y ws, w.before args s = true := fun w h => ht w (hT w h).1
  have hG : GoodIn Ts ws := fun w h => hT w (by unfold va_wsS; exact List.mem_append_right _ h)
  have hc : Cond.codeWith y bytes maxL ret hh ∈ ws := by rw [hw]; exact List.mem_cons_self
  refine ⟨⟨hrc, hrs, hR.1, hR.2, pay_in ht hG, hc⟩, ht _ (hG _ hc).1, ok _ (by simp [va_wsS]), ⟨hd.1, hd.2.1⟩, fun sig h => ?_, ok _ (by simp [va_wsS]), ok _ (by simp [va_wsS])⟩
  have h2 := hd.2.2
  rw [h] at h2
  exact (Option.some.inj h2).symm
theorem vx_callSW (X : Stand p l e R s m args below meth c T locs cells slots) (hexec : p.tables.exec = Jvm.exec) {own : String} {index : Nat} {y : MethodName} {bytes : ByteArray} {maxL : Nat} {ret : Option FieldType} {hh : List (Nat × Nat × Nat × Nat)}
    (hown : s.vm.findClass own = some m.cls) (hlink : (Cond.methodLink own index y).before args s = true) (hstat : (Cond.static y).before args s = true) (hinit : (Cond.initialized y.cls).before args s = true)
    (hcode : (Cond.codeWith y bytes maxL ret hh).before args s = true) (hy : y.cls ≠ "java/lang/invoke/MethodHandle" ∧ y.cls ≠ "java/lang/invoke/VarHandle")
    {W9 : Nat} {Pre : Pt → Array Value → Prop} {Post : Pt → Array Value → Option Value → Pt → Prop} (hK : Back l R p e below s args y 3 W9 Pre Post)
    {g : JFrame} (hg : g.method = m) (hsize : g.locals.size = c.maxLocals) {argsL rest : List Value} (hlen : ∀ sig, parseMethodDescriptor y.desc = some sig → argsL.length = sig.parameters.length)
    (hstack : g.stack = argsL.reverse ++ rest) (hW : 2 * g.monitorRoom + (rest.map fun v => v.category).sum ≤ W9) (hdg : decode c.code g.pc = .ok (.invokestatic index, 3))
    (hpre : ∀ vm₁, s.WarmedH vm₁ → Pre ⟨T.setVm vm₁, locs, cells, slots⟩ argsL.toArray) :
    ∃ (v : Option Value) (vm₁ : Vm) (B : Pt), s.WarmedH vm₁ ∧ Stand p l e R s m args below meth c B.U B.locs B.cells B.slots ∧ Post ⟨T.setVm vm₁, locs, cells, slots⟩ argsL.toArray v B ∧
      ∀ target, Steps p.tables e below (B.U.setTop { g with pc := g.pc + 3, stack := v.toList ++ rest }) target → Steps p.tables e below (T.setTop g) target := by
  obtain ⟨mk, methM, cM, hnamed, hmethM, -, -, -, -, -, -, hsigM⟩ := Cond.codeWith_spec hcode
  have hstatic : methM.isStatic = true := Cond.static_spec hnamed hmethM hstat
  obtain ⟨kP, hkP, -⟩ := className_of_methodNamed hnamed
  have hinitP : kP.init = .initialized := Cond.initialized_spec (findClass_of_methodNamed hnamed) hkP hinit
  obtain ⟨vm₁, X₁, hstep₁⟩ := X.invokestatic hexec hown hlink hnamed hmethM hstatic hkP hinitP hy (g := g) hg (argsL := argsL) (rest := rest) (hlen _ hsigM) hstack hdg
  obtain ⟨v, B, X', hpost, hsteps⟩ := hK m meth c ⟨T.setVm vm₁, locs, cells, slots⟩ { g with stack := rest } (.invokestatic index) mk argsL.toArray X₁ hg hsize hdg hW (X₁.named hnamed) (hpre vm₁ X₁.warmed)
  exact ⟨v, vm₁, B, X₁.warmed, X', hpost, fun target h => hstep₁ _ fun acts => by rw [doInvoke_state]; exact hsteps.trans h⟩
theorem vx_runSW {y : MethodName} {bytes cc : ByteArray} {maxL nL mc ms n index : Nat} {ret : Option FieldType} {hh : List (Nat × Nat × Nat × Nat)} {ws : List Cond} {rm : Room} {Pc : Array Value → State → Prop} {Qc : Array Value → State → Outcome → State → Prop} {free : Addr → Prop} {Ts : List Cond} {own : String} {As rest : List Value} {g : JFrame}
    (S : CallFix p m c cc nL s args Ts own) (hM : Met l y ws rm Pc Qc mc ms free) (cw : vx_CSW R s args own index y bytes maxL ret hh ws rm mc ms n) (hp : PreS s H Pc As)
    (hg : g.method = m) (hn : As.length = n) (hsize : g.locals.size = nL) (hstack : g.stack = As.reverse ++ rest) (hW : 2 * g.monitorRoom + (rest.map fun v => v.category).sum ≤ 8) (hdg : decode cc g.pc = .ok (.invokestatic index, 3)) (hf : cells + mc ≤ R.cells ∧ slots + ms ≤ R.slots) :
    va_Run p l e R s m args below meth c H locs cells slots mc ms g rest (Qc As.toArray) (free) := by
  obtain ⟨⟨hrc, hrs, hfr, hlo, hws, hcw⟩, hcode, hini, hy, hlen, hl, hstt⟩ := cw
  have hK : Back l R p e below s args y 3 8 (PreOf R mc ms Pc) (PostOf Qc mc ms free) := va_backW (hh := hh) (bytes := bytes) (maxL := maxL) (ret := ret) hM hp.1 hrc hrs hfr hlo hws hcw (fun a' U hW => word_at hW (Or.inl (by first | rfl | simp [Cond.onTables, Cond.keeps, Cond.steady])) hini)
  obtain ⟨hx, hb, hml, ho, -⟩ := S
  intro T hT X
  obtain ⟨v, vm₁, ⟨U', l2, c2, s2⟩, hW₁, X', ⟨g', mk, t, L, e1, e2, hq, h1, hL, h2, h3⟩, st⟩ := vx_callSW X hx (hh := hh) (bytes := bytes) (maxL := maxL) (ret := ret) ho hl hstt hini hcode hy hK hg (hsize.trans hml.symm) (argsL := As) (rest := rest) (fun sig h => hn.trans (hlen sig h)) hstack hW (by rw [hb]; exact hdg)
    (fun vm₁ hW₁ => ⟨hf.1, hf.2, hp.2 (T.setVm vm₁) hT hW₁⟩)
  dsimp only [Pt.U, Pt.locs, Pt.cells, Pt.slots] at X' e1 e2 h1 h2 h3 st
  subst h1; subst h2; subst h3
  exact ⟨v, (T.setVm vm₁).calling g' mk As.toArray, t, U', L, hT, X', hL, e1, e2, hq, st⟩
/-- a thing of a world lies in the heap -/
theorem vx_lt {D : va_G} {cl : List vw_C} {ws : va_W} {H1 : Heap} (h : va_P D cl ws H1) {k : Nat} {q : Nat × va_E} (hk : ws[k]? = some q) : q.1 < H1.size := (h k q hk).lt
end VXS
/-! ===== END ===== -/
/-! ===== BEGIN methods with a table of their own: called by a name, returning or throwing ===== -/
section VXH
/-! vx_backW, vx_callVX, vx_callSX, vx_callVW, vx_runVW, vx_runVX, vx_runSX, vx_ofWH follow the same proofs as their sisters above (Free/Laws.lean, Shelf42/LK1.lean); vx_outP calls Shelf42/NT130.lean (outThrough). -/
section
variable {l : Launch} {R : Room} {p : Program} {e : Env} {below : List Frame} {s : State} {sargs : Array Value} {y : MethodName} {len W9 : Nat}
theorem vx_backW {ws : List Cond} {rm : Room} {Pc : Array Value → State → Prop} {Qc : Array Value → State → Outcome → State → Prop} {XC : String → State → State → Prop} {mc ms : Nat} {free : Addr → Prop} {bytes : ByteArray} {maxL : Nat} {ret : Option FieldType} {hh : List (Nat × Nat × Nat × Nat)}
    (hM : vx_Met l y ws rm Pc Qc XC mc ms free) (hblind : FrameBlind Pc) (hrc : rm.cells = mc) (hrs : rm.slots = ms)
    (hframes : rm.frames + 1 ≤ R.frames) (hlocals : W9 + (maxL + 11) + rm.locals ≤ R.locals)
    (hws : ∀ w ∈ ws, ∀ a' U, s.WarmedH U.vm → w.before a' U = true) (hcode : Cond.codeWith y bytes maxL ret hh ∈ ws) (hinit : ∀ a' U, s.WarmedH U.vm → (Cond.initialized y.cls).before a' U = true) :
    vx_Back l R p e below s sargs y len W9 (PreOf R mc ms Pc) (PostOf Qc mc ms free) (vx_Post XC mc ms free) := by
  intro m meth c A g ig mk a X hg hsize hdg hW hn hp
  have h1 : (headSpec ws rm).pre.before a A.U = true := atoms_intro fun w hw => hws w hw _ _ X.warmed
  have h2 : (Cond.codeWith y bytes maxL ret hh).before a A.U = true := hws _ hcode _ _ X.warmed
  have h3 : (Cond.initialized y.cls).before a A.U = true := hinit _ _ X.warmed
  have h4 : A.cells + (headSpec ws rm).room.cells ≤ R.cells := by rw [show (headSpec ws rm).room.cells = mc from hrc]; exact hp.1
  have h5 : A.slots + (headSpec ws rm).room.slots ≤ R.slots := by rw [show (headSpec ws rm).room.slots = ms from hrs]; exact hp.2.1
  have hPc : Pc a (A.U.calling g mk a) := hblind _ _ _ _ hp.2.2
  obtain ⟨U, Ls, c0, s0⟩ := A
  dsimp only [Pt.U, Pt.locs, Pt.cells, Pt.slots] at h1 h2 h3 h4 h5 X hn hPc ⊢
  obtain ⟨m9, methY, cY, hn9, hmY, hcY, -, hlY, -⟩ := Cond.codeWith_spec h2
  cases Option.some.inj (hn9.symm.trans hn)
  obtain ⟨kY, hkY, -⟩ := className_of_methodNamed hn
  have hinitY : kY.init = .initialized := Cond.initialized_spec (findClass_of_methodNamed hn) hkY h3
  have h : At U g.method c below := by rw [hg]; exact X.here
  have hlocals9 : W9 + (maxL + 11) + (headSpec ws rm).room.locals ≤ R.locals := hlocals
  have happ : (headSpec ws rm).appliesLoose y e.platform (U.calling g mk a) = true :=
    Spec.appliesLoose_calling (g := g) h hdg hn hkY hinitY
      (X.room_calling (g := g) (R' := (headSpec ws rm).room) hsize hmY hcY hframes (by rw [hlY]; omega) h4 h5) h1
  obtain ⟨mid, hmid⟩ := h.above
  have hfr : (U.setTop g).frames = (.java g :: mid) ++ below := by rw [State.frames_setTop' g h.top, hmid]; rfl
  obtain ⟨o, s₂, hsteps, -, hend, hq⟩ := Steps.callFree hM p X.admits X.cas X.clock (acts := []) hfr happ hPc trivial
  have hq' : vx_Q Qc XC mc ms free a (U.calling g mk a) o s₂ := hq
  rw [State.frames_setTop' g h.top] at hend
  obtain ⟨g₀, hg0⟩ := Option.isSome_iff_exists.mp h.top
  obtain ⟨r, hr⟩ := State.topJava?_eq_some.mp hg0
  have hr' : (({ U with heap := s₂.heap, slotsUsed := s₂.slotsUsed } : State).setVm s₂.vm).frames = .java g₀ :: r := hr
  rcases hq' with ⟨hqc, L, hfe, hL⟩ | ⟨q, rfl, E, ce, L, hx, hce, hcv, hcl, hW₂, hsm, hL⟩
  · obtain ⟨⟨v, rfl⟩, hW₂, e2, q2, q3, q4, q5, q6⟩ := id hfe
    have e3 : s₂ = ({ (U.calling g mk a).setFrames s₂.frames with heap := s₂.heap, slotsUsed := s₂.slotsUsed } : State).setVm s₂.vm := by
      have : s₂ = ({ s₂ with vm := (U.calling g mk a).vm } : State).setVm s₂.vm := rfl
      rw [e2] at this
      exact this
    obtain ⟨c₂, i₂, len₂, hc₂, hd₂, hf₂⟩ := hend
    have hW' : U.WarmedH s₂.vm := hW₂
    have hcc : c₂ = c := by
      have h1 : s₂.code? g.method = U.code? g.method := by
        rw [State.code?_eq, State.code?_eq, hW'.alike.method?]
      exact Option.some.inj (hc₂.symm.trans (h1.trans h.code))
    subst hcc
    have hlen : len₂ = len := by rw [hdg] at hd₂; cases hd₂; rfl
    subst hlen
    have hs₂ : s₂ = (({ U with heap := s₂.heap, slotsUsed := s₂.slotsUsed } : State).setVm s₂.vm).setTop { g with pc := g.pc + len₂, stack := v.toList ++ g.stack } := by
      refine e3.trans ?_
      rw [hf₂, State.calling_eq h.top, State.setFrames_setFrames, State.setTop_of_frames _ hr', hr]
      rfl
    have hsame : U.sameButNew ({ U with heap := s₂.heap, slotsUsed := s₂.slotsUsed } : State) L mc ms := by
      refine ⟨?_, q2, q3, q4, q5, q6⟩
      obtain ⟨t, ht, -⟩ := State.frames_cons hr
      show ({ U with heap := s₂.heap, slotsUsed := s₂.slotsUsed } : State) = { U.setFrames U.frames with heap := s₂.heap, slotsUsed := s₂.slotsUsed }
      rw [State.setFrames_self ht]
    subst hg
    refine Or.inl ⟨v, ⟨(({ U with heap := s₂.heap, slotsUsed := s₂.slotsUsed } : State).setVm s₂.vm), Ls ++ L, c0 + mc, s0 + ms⟩,
      ⟨X.admits, X.cas, X.clock, X.frames, X.room, X.hears, X.method, X.code, (X.here.setHeapUsed s₂.heap s₂.slotsUsed).setVm hW'.alike, X.tail, State.WarmedH.trans X.warmed hW', X.limits, X.bytes, X.same.trans (hsame.setVm s.vm)⟩,
      ⟨g, mk, s₂, L, rfl, rfl, hqc, rfl, hL, rfl, rfl⟩, ?_⟩
    show Steps p.tables e below _ ((({ U with heap := s₂.heap, slotsUsed := s₂.slotsUsed } : State).setVm s₂.vm).setTop { g with pc := g.pc + len₂, stack := v.toList ++ g.stack })
    rw [← hs₂]
    exact hsteps
  · obtain ⟨e2, q2, q3, q4, q5, q6⟩ := id hsm
    have e3 : s₂ = ({ (U.calling g mk a).setFrames s₂.frames with heap := s₂.heap, slotsUsed := s₂.slotsUsed } : State).setVm s₂.vm := by
      have : s₂ = ({ s₂ with vm := (U.calling g mk a).vm } : State).setVm s₂.vm := rfl
      rw [e2] at this
      exact this
    have hf₂ : s₂.frames = .throwing q :: .java g :: U.frames.tail := hend
    have hW' : U.WarmedH s₂.vm := hW₂
    have hs₂ : s₂ = ((({ U with heap := s₂.heap, slotsUsed := s₂.slotsUsed } : State).setVm s₂.vm).setTop g).pushFrame (.throwing q) := by
      refine e3.trans ?_
      rw [hf₂, State.calling_eq h.top, State.setFrames_setFrames, State.pushFrame, State.frames_setTop _ hr', State.setTop_of_frames _ hr', State.setFrames_setFrames, hr]
      rfl
    have hsame : U.sameButNew ({ U with heap := s₂.heap, slotsUsed := s₂.slotsUsed } : State) L mc ms := by
      refine ⟨?_, q2, q3, q4, q5, q6⟩
      obtain ⟨t, ht, -⟩ := State.frames_cons hr
      show ({ U with heap := s₂.heap, slotsUsed := s₂.slotsUsed } : State) = { U.setFrames U.frames with heap := s₂.heap, slotsUsed := s₂.slotsUsed }
      rw [State.setFrames_self ht]
    subst hg
    refine Or.inr ⟨q, ⟨(({ U with heap := s₂.heap, slotsUsed := s₂.slotsUsed } : State).setVm s₂.vm), Ls ++ L, c0 + mc, s0 + ms⟩,
      ⟨X.admits, X.cas, X.clock, X.frames, X.room, X.hears, X.method, X.code, (X.here.setHeapUsed s₂.heap s₂.slotsUsed).setVm hW'.alike, X.tail, State.WarmedH.trans X.warmed hW', X.limits, X.bytes, X.same.trans (hsame.setVm s.vm)⟩,
      ⟨g, mk, s₂, L, E, ce, rfl, rfl, hx, hce, hcv, hcl, rfl, hL, rfl, rfl⟩, ?_⟩
    show Steps p.tables e below _ (((({ U with heap := s₂.heap, slotsUsed := s₂.slotsUsed } : State).setVm s₂.vm).setTop g).pushFrame (.throwing q))
    rw [← hs₂]
    exact hsteps
end
variable {p : Program} {l : Launch} {e : Env} {R : Room} {s : State} {m : MethodId} {args : Array Value} {below : List Frame} {meth : Method} {c : Code} {T : State} {H : Heap} {locs : List Loc} {cells slots : Nat}
theorem vx_callVX (X : Stand p l e R s m args below meth c T locs cells slots) (hexec : p.tables.exec = Jvm.exec) {own C : String} {index : Nat} {y : MethodName} {bytes : ByteArray} {maxL : Nat} {ret : Option FieldType} {hh : List (Nat × Nat × Nat × Nat)}
    (hown : s.vm.findClass own = some m.cls) (hlink : (Cond.methodLink own index y).before args s = true) (hinst : (Cond.instanceMethod y).before args s = true) (hsel : (Cond.selects C y y).before args s = true)
    (hcode : (Cond.codeWith y bytes maxL ret hh).before args s = true) (hy : y.cls ≠ "java/lang/invoke/MethodHandle" ∧ y.cls ≠ "java/lang/invoke/VarHandle")
    {W9 : Nat} {Pre : Pt → Array Value → Prop} {Post : Pt → Array Value → Option Value → Pt → Prop} {PostX : Pt → Array Value → Addr → Pt → Prop} (hK : vx_Back l R p e below s args y 3 W9 Pre Post PostX)
    {b : Addr} {cellB : Cell} (hcell : T.heap[b]? = some cellB) (hobj : cellB.vm.isStatics = false) (hcls : s.vm.findClass C = some cellB.cls)
    {g : JFrame} (hg : g.method = m) (hsize : g.locals.size = c.maxLocals) {argsL rest : List Value} (hlen : ∀ sig, parseMethodDescriptor y.desc = some sig → argsL.length = sig.parameters.length)
    (hstack : g.stack = argsL.reverse ++ .ref b :: rest) (hW : 2 * g.monitorRoom + (rest.map fun v => v.category).sum ≤ W9) (hdg : decode c.code g.pc = .ok (.invokevirtual index, 3))
    (hpre : ∀ vm₁, s.WarmedH vm₁ → Pre ⟨T.setVm vm₁, locs, cells, slots⟩ (Value.ref b :: argsL).toArray) :
    (∃ (v : Option Value) (vm₁ : Vm) (B : Pt), s.WarmedH vm₁ ∧ Stand p l e R s m args below meth c B.U B.locs B.cells B.slots ∧ Post ⟨T.setVm vm₁, locs, cells, slots⟩ (Value.ref b :: argsL).toArray v B ∧
      ∀ target, Steps p.tables e below (B.U.setTop { g with pc := g.pc + 3, stack := v.toList ++ rest }) target → Steps p.tables e below (T.setTop g) target) ∨
    (∃ (q : Addr) (vm₁ : Vm) (B : Pt), s.WarmedH vm₁ ∧ Stand p l e R s m args below meth c B.U B.locs B.cells B.slots ∧ PostX ⟨T.setVm vm₁, locs, cells, slots⟩ (Value.ref b :: argsL).toArray q B ∧
      Steps p.tables e below (T.setTop g) ((B.U.setTop { g with stack := rest }).pushFrame (.throwing q))) := by
  obtain ⟨mk, methM, hnamed, hmethM, hstM, habM⟩ := Cond.instanceMethod_spec hinst
  obtain ⟨m8, methM', cM, hn8, hmethM', -, -, -, -, -, -, hsigM⟩ := Cond.codeWith_spec hcode
  cases Option.some.inj (hn8.symm.trans hnamed)
  cases hmethM.symm.trans hmethM'
  obtain ⟨c2, r2, m2, q1, q2, q3, q4, kP, hkP, hkPi⟩ := Cond.selects_spec hsel
  cases hcls.symm.trans q1
  cases (State.methodFound?_of_named hnamed hy).symm.trans q2
  cases hnamed.symm.trans q3
  have hselP : selectMethod e.platform s.vm cellB.cls mk = .method mk := by rw [Launch.admits_selectMethod X.admits]; exact q4
  obtain ⟨vm₁, X₁, hstep₁⟩ := X.invokevirtual hexec hown hlink hnamed hmethM hstM hkP hkPi hy (a := b) (cell := cellB) hcell
    (fun z h => by rw [h] at hobj; cases hobj) hselP hmethM habM hkP hkPi (g := g) hg (argsL := argsL) (rest := rest) (hlen _ hsigM) hstack hdg
  rcases hK m meth c ⟨T.setVm vm₁, locs, cells, slots⟩ { g with stack := rest } (.invokevirtual index) mk (Value.ref b :: argsL).toArray X₁ hg hsize hdg hW (X₁.named hnamed) (hpre vm₁ X₁.warmed) with ⟨v, B, X', hpost, hsteps⟩ | ⟨q, B, X', hpost, hsteps⟩
  · exact Or.inl ⟨v, vm₁, B, X₁.warmed, X', hpost, fun target h => hstep₁ _ fun acts => by rw [doInvoke_state]; exact hsteps.trans h⟩
  · exact Or.inr ⟨q, vm₁, B, X₁.warmed, X', hpost, hstep₁ _ fun acts => by rw [doInvoke_state]; exact hsteps⟩
theorem vx_callSX (X : Stand p l e R s m args below meth c T locs cells slots) (hexec : p.tables.exec = Jvm.exec) {own : String} {index : Nat} {y : MethodName} {bytes : ByteArray} {maxL : Nat} {ret : Option FieldType} {hh : List (Nat × Nat × Nat × Nat)}
    (hown : s.vm.findClass own = some m.cls) (hlink : (Cond.methodLink own index y).before args s = true) (hstat : (Cond.static y).before args s = true) (hinit : (Cond.initialized y.cls).before args s = true)
    (hcode : (Cond.codeWith y bytes maxL ret hh).before args s = true) (hy : y.cls ≠ "java/lang/invoke/MethodHandle" ∧ y.cls ≠ "java/lang/invoke/VarHandle")
    {W9 : Nat} {Pre : Pt → Array Value → Prop} {Post : Pt → Array Value → Option Value → Pt → Prop} {PostX : Pt → Array Value → Addr → Pt → Prop} (hK : vx_Back l R p e below s args y 3 W9 Pre Post PostX)
    {g : JFrame} (hg : g.method = m) (hsize : g.locals.size = c.maxLocals) {argsL rest : List Value} (hlen : ∀ sig, parseMethodDescriptor y.desc = some sig → argsL.length = sig.parameters.length)
    (hstack : g.stack = argsL.reverse ++ rest) (hW : 2 * g.monitorRoom + (rest.map fun v => v.category).sum ≤ W9) (hdg : decode c.code g.pc = .ok (.invokestatic index, 3))
    (hpre : ∀ vm₁, s.WarmedH vm₁ → Pre ⟨T.setVm vm₁, locs, cells, slots⟩ argsL.toArray) :
    (∃ (v : Option Value) (vm₁ : Vm) (B : Pt), s.WarmedH vm₁ ∧ Stand p l e R s m args below meth c B.U B.locs B.cells B.slots ∧ Post ⟨T.setVm vm₁, locs, cells, slots⟩ argsL.toArray v B ∧
      ∀ target, Steps p.tables e below (B.U.setTop { g with pc := g.pc + 3, stack := v.toList ++ rest }) target → Steps p.tables e below (T.setTop g) target) ∨
    (∃ (q : Addr) (vm₁ : Vm) (B : Pt), s.WarmedH vm₁ ∧ Stand p l e R s m args below meth c B.U B.locs B.cells B.slots ∧ PostX ⟨T.setVm vm₁, locs, cells, slots⟩ argsL.toArray q B ∧
      Steps p.tables e below (T.setTop g) ((B.U.setTop { g with stack := rest }).pushFrame (.throwing q))) := by
  obtain ⟨mk, methM, cM, hnamed, hmethM, -, -, -, -, -, -, hsigM⟩ := Cond.codeWith_spec hcode
  have hstatic : methM.isStatic = true := Cond.static_spec hnamed hmethM hstat
  obtain ⟨kP, hkP, -⟩ := className_of_methodNamed hnamed
  have hinitP : kP.init = .initialized := Cond.initialized_spec (findClass_of_methodNamed hnamed) hkP hinit
  obtain ⟨vm₁, X₁, hstep₁⟩ := X.invokestatic hexec hown hlink hnamed hmethM hstatic hkP hinitP hy (g := g) hg (argsL := argsL) (rest := rest) (hlen _ hsigM) hstack hdg
  rcases hK m meth c ⟨T.setVm vm₁, locs, cells, slots⟩ { g with stack := rest } (.invokestatic index) mk argsL.toArray X₁ hg hsize hdg hW (X₁.named hnamed) (hpre vm₁ X₁.warmed) with ⟨v, B, X', hpost, hsteps⟩ | ⟨q, B, X', hpost, hsteps⟩
  · exact Or.inl ⟨v, vm₁, B, X₁.warmed, X', hpost, fun target h => hstep₁ _ fun acts => by rw [doInvoke_state]; exact hsteps.trans h⟩
  · exact Or.inr ⟨q, vm₁, B, X₁.warmed, X', hpost, hstep₁ _ fun acts => by rw [doInvoke_state]; exact hsteps⟩
theorem vx_callVW (X : Stand p l e R s m args below meth c T locs cells slots) (hexec : p.tables.exec = Jvm.exec) {own C : String} {index : Nat} {y : MethodName} {bytes : ByteArray} {maxL : Nat} {ret : Option FieldType} {hh : List (Nat × Nat × Nat × Nat)}
    (hown : s.vm.findClass own = some m.cls) (hlink : (Cond.methodLink own index y).before args s = true) (hinst : (Cond.instanceMethod y).before args s = true) (hsel : (Cond.selects C y y).before args s = true)
    (hcode : (Cond.codeWith y bytes maxL ret hh).before args s = true) (hy : y.cls ≠ "java/lang/invoke/MethodHandle" ∧ y.cls ≠ "java/lang/invoke/VarHandle")
    {W9 : Nat} {Pre : Pt → Array Value → Prop} {Post : Pt → Array Value → Option Value → Pt → Prop} (hK : Back l R p e below s args y 3 W9 Pre Post)
    {b : Addr} {cellB : Cell} (hcell : T.heap[b]? = some cellB) (hobj : cellB.vm.isStatics = false) (hcls : s.vm.findClass C = some cellB.cls)
    {g : JFrame} (hg : g.method = m) (hsize : g.locals.size = c.maxLocals) {argsL rest : List Value} (hlen : ∀ sig, parseMethodDescriptor y.desc = some sig → argsL.length = sig.parameters.length)
    (hstack : g.stack = argsL.reverse ++ .ref b :: rest) (hW : 2 * g.monitorRoom + (rest.map fun v => v.category).sum ≤ W9) (hdg : decode c.code g.pc = .ok (.invokevirtual index, 3))
    (hpre : ∀ vm₁, s.WarmedH vm₁ → Pre ⟨T.setVm vm₁, locs, cells, slots⟩ (Value.ref b :: argsL).toArray) :
    ∃ (v : Option Value) (vm₁ : Vm) (B : Pt), s.WarmedH vm₁ ∧ Stand p l e R s m args below meth c B.U B.locs B.cells B.slots ∧ Post ⟨T.setVm vm₁, locs, cells, slots⟩ (Value.ref b :: argsL).toArray v B ∧
      ∀ target, Steps p.tables e below (B.U.setTop { g with pc := g.pc + 3, stack := v.toList ++ rest }) target → Steps p.tables e below (T.setTop g) target := by
  obtain ⟨mk, methM, hnamed, hmethM, hstM, habM⟩ := Cond.instanceMethod_spec hinst
  obtain ⟨m8, methM', cM, hn8, hmethM', -, -, -, -, -, -, hsigM⟩ := Cond.codeWith_spec hcode
  cases Option.some.inj (hn8.symm.trans hnamed)
  cases hmethM.symm.trans hmethM'
  obtain ⟨c2, r2, m2, q1, q2, q3, q4, kP, hkP, hkPi⟩ := Cond.selects_spec hsel
  cases hcls.symm.trans q1
  cases (State.methodFound?_of_named hnamed hy).symm.trans q2
  cases hnamed.symm.trans q3
  have hselP : selectMethod e.platform s.vm cellB.cls mk = .method mk := by rw [Launch.admits_selectMethod X.admits]; exact q4
  obtain ⟨vm₁, X₁, hstep₁⟩ := X.invokevirtual hexec hown hlink hnamed hmethM hstM hkP hkPi hy (a := b) (cell := cellB) hcell
    (fun z h => by rw [h] at hobj; cases hobj) hselP hmethM habM hkP hkPi (g := g) hg (argsL := argsL) (rest := rest) (hlen _ hsigM) hstack hdg
  obtain ⟨v, B, X', hpost, hsteps⟩ := hK m meth c ⟨T.setVm vm₁, locs, cells, slots⟩ { g with stack := rest } (.invokevirtual index) mk (Value.ref b :: argsL).toArray X₁ hg hsize hdg hW (X₁.named hnamed) (hpre vm₁ X₁.warmed)
  exact ⟨v, vm₁, B, X₁.warmed, X', hpost, fun target h => hstep₁ _ fun acts => by rw [doInvoke_state]; exact hsteps.trans h⟩
abbrev vx_CVW (R : Room) (s : State) (args : Array Value) (own C : String) (index : Nat) (y : MethodName) (bytes : ByteArray) (maxL : Nat) (ret : Option FieldType) (hh : List (Nat × Nat × Nat × Nat)) (ws : List Cond) (rm : Room) (mc ms n : Nat) : Prop :=
  (rm.cells = mc ∧ rm.slots = ms ∧ rm.frames + 1 ≤ R.frames ∧ 8 + (maxL + 11) + rm.locals ≤ R.locals ∧ (∀ w ∈ ws, ∀ (a' : Array Value) (U : State), s.WarmedH U.vm → w.before a' U = true) ∧ Cond.codeWith y bytes maxL ret hh ∈ ws) ∧
  (Cond.codeWith y bytes maxL ret hh).before args s = true ∧ (Cond.initialized y.cls).before args s = true ∧ (y.cls ≠ "java/lang/invoke/MethodHandle" ∧ y.cls ≠ "java/lang/invoke/VarHandle") ∧
  (∀ sig, parseMethodDescriptor y.desc = some sig → n = sig.parameters.length) ∧ (Cond.methodLink own index y).before args s = true ∧ (Cond.instanceMethod y).before args s = true ∧ (Cond.selects C y y).before args s = true
theorem vx_cwVW {own C : String} {index maxL mc ms : Nat} {y : MethodName} {bytes : ByteArray} {ret : Option FieldType} {hh : List (Nat × Nat × Nat × Nat)} {Ts ws ws' : List Cond} {rm : Room} (n : Nat) (ht : ∀ w ∈ Ts, w.before args s = true) (hT : GoodIn Ts (wsV own index C y ws)) (hw : ws = Cond.codeWith y bytes maxL ret hh :: ws') (hrc : rm.cells = mc) (hrs : rm.slots = ms)
    (hd : y.cls = C ∧ y.cls ≠ "java/lang/invoke/MethodHandle" ∧ y.cls ≠ "java/lang/invoke/VarHandle" ∧ (parseMethodDescriptor y.desc).map (fun d => d.parameters.length) = some n) (hR : rm.frames + 1 ≤ R.frames ∧ 8 + (maxL + 11) + rm.locals ≤ R.locals) :
    vx_CVW R s args own C index y bytes maxL ret hh ws rm mc ms n := by
  obtain ⟨hC, hd⟩ := hd
  subst hC
  have ok : ∀ w ∈ wsV own index y.cls y ws, w.before args s = true := fun w h => ht w (hT w h).1
  have hG : GoodIn Ts ws := fun w h => hT w (by unfold wsV; exact List.mem_append_right _ h)
  have hc : Cond.codeWith y bytes maxL ret hh ∈ ws := by rw [hw]; exact List.mem_cons_self
  refine ⟨⟨hrc, hrs, hR.1, hR.2, pay_in ht hG, hc⟩, ht _ (hG _ hc).1, ok _ (by simp [wsV]), ⟨hd.1, hd.2.1⟩, fun sig h => ?_, ok _ (by simp [wsV]), ok _ (by simp [wsV]), ok _ (by simp [wsV])⟩
  have h2 := hd.2.2
  rw [h] at h2
  exact (Option.some.inj h2).symm
theorem vx_runVW {y : MethodName} {bytes cc : ByteArray} {maxL nL mc ms n index : Nat} {ret : Option FieldType} {hh : List (Nat × Nat × Nat × Nat)} {ws : List Cond} {rm : Room} {Pc : Array Value → State → Prop} {Qc : Array Value → State → Outcome → State → Prop} {free : Addr → Prop} {Ts : List Cond} {own C : String} {b : Addr} {As rest : List Value} {g : JFrame}
    (S : CallFix p m c cc nL s args Ts own) (hM : Met l y ws rm Pc Qc mc ms free) (cw : vx_CVW R s args own C index y bytes maxL ret hh ws rm mc ms n) (hp : PreV s H C b Pc As)
    (hg : g.method = m) (hn : As.length = n) (hsize : g.locals.size = nL) (hstack : g.stack = As.reverse ++ .ref b :: rest) (hW : 2 * g.monitorRoom + (rest.map fun v => v.category).sum ≤ 8) (hdg : decode cc g.pc = .ok (.invokevirtual index, 3)) (hf : cells + mc ≤ R.cells ∧ slots + ms ≤ R.slots) :
    va_Run p l e R s m args below meth c H locs cells slots mc ms g rest (Qc (Value.ref b :: As).toArray) free := by
  obtain ⟨⟨hrc, hrs, hfr, hlo, hws, hcw⟩, hcode, hini, hy, hlen, hl, hin, hse⟩ := cw
  have hK : Back l R p e below s args y 3 8 (PreOf R mc ms Pc) (PostOf Qc mc ms free) := va_backW (hh := hh) (bytes := bytes) (maxL := maxL) (ret := ret) hM hp.1 hrc hrs hfr hlo hws hcw (fun a' U hW => word_at hW (Or.inl (by first | rfl | simp [Cond.onTables, Cond.keeps, Cond.steady])) hini)
  obtain ⟨hx, hb, hml, ho, -⟩ := S
  obtain ⟨-, ⟨cellB, hcB, hoB, hclB⟩, hPc⟩ := hp
  intro T hT X
  obtain ⟨v, vm₁, ⟨U', l2, c2, s2⟩, hW₁, X', ⟨g', mk, t, L, e1, e2, hq, h1, hL, h2, h3⟩, st⟩ := vx_callVW X hx (C := C) (hh := hh) (bytes := bytes) (maxL := maxL) (ret := ret) ho hl hin hse hcode hy hK (by rw [hT]; exact hcB) hoB hclB hg (hsize.trans hml.symm) (argsL := As) (rest := rest) (fun sig h => hn.trans (hlen sig h)) hstack hW (by rw [hb]; exact hdg)
    (fun vm₁ hW₁ => ⟨hf.1, hf.2, hPc (T.setVm vm₁) hT hW₁⟩)
  dsimp only [Pt.U, Pt.locs, Pt.cells, Pt.slots] at X' e1 e2 h1 h2 h3 st
  subst h1; subst h2; subst h3
  exact ⟨v, (T.setVm vm₁).calling g' mk (Value.ref b :: As).toArray, t, U', L, hT, X', hL, e1, e2, hq, st⟩
section
variable {y : MethodName} {bytes cc : ByteArray} {maxL nL mc ms n index : Nat} {ret : Option FieldType} {ws : List Cond} {rm : Room} {Pc : Array Value → State → Prop} {Qc : Array Value → State → Outcome → State → Prop} {XC : String → State → State → Prop} {free : Addr → Prop} {Ts : List Cond} {own C : String} {b : Addr} {As rest : List Value} {g : JFrame}
theorem vx_runVX {hh : List (Nat × Nat × Nat × Nat)} (S : CallFix p m c cc nL s args Ts own) (hM : vx_Met l y ws rm Pc Qc XC mc ms free) (cw : vx_CVW R s args own C index y bytes maxL ret hh ws rm mc ms n) (hp : PreV s H C b Pc As)
    (hg : g.method = m) (hn : As.length = n) (hsize : g.locals.size = nL) (hstack : g.stack = As.reverse ++ .ref b :: rest) (hW : 2 * g.monitorRoom + (rest.map fun v => v.category).sum ≤ 8) (hdg : decode cc g.pc = .ok (.invokevirtual index, 3)) (hf : cells + mc ≤ R.cells ∧ slots + ms ≤ R.slots) :
    vx_Run p l e R s m args below meth c H locs cells slots mc ms g rest (Qc (Value.ref b :: As).toArray) XC free := by
  obtain ⟨⟨hrc, hrs, hfr, hlo, hws, hcw⟩, hcode, hini, hy, hlen, hl, hin, hse⟩ := cw
  have hK : vx_Back l R p e below s args y 3 8 (PreOf R mc ms Pc) (PostOf Qc mc ms free) (vx_Post XC mc ms free) := vx_backW (hh := hh) (bytes := bytes) (maxL := maxL) (ret := ret) hM hp.1 hrc hrs hfr hlo hws hcw (fun a' U hW => word_at hW (Or.inl (by first | rfl | simp [Cond.onTables, Cond.keeps, Cond.steady])) hini)
  obtain ⟨hx, hb, hml, ho, -⟩ := S
  obtain ⟨-, ⟨cellB, hcB, hoB, hclB⟩, hPc⟩ := hp
  intro T hT X
  rcases vx_callVX X hx (C := C) (hh := hh) (bytes := bytes) (maxL := maxL) (ret := ret) ho hl hin hse hcode hy hK (by rw [hT]; exact hcB) hoB hclB hg (hsize.trans hml.symm) (argsL := As) (rest := rest) (fun sig h => hn.trans (hlen sig h)) hstack hW (by rw [hb]; exact hdg)
    (fun vm₁ hW₁ => ⟨hf.1, hf.2, hPc (T.setVm vm₁) hT hW₁⟩) with ⟨v, vm₁, ⟨U', l2, c2, s2⟩, hW₁, X', ⟨g', mk, t, L, e1, e2, hq, h1, hL, h2, h3⟩, st⟩ | ⟨q, vm₁, ⟨U', l2, c2, s2⟩, hW₁, X', ⟨g', mk, t, L, E, ce, e1, e2, hq, hce, hcv, hcl, h1, hL, h2, h3⟩, st⟩
  · dsimp only [Pt.U, Pt.locs, Pt.cells, Pt.slots] at X' e1 e2 h1 h2 h3 st
    subst h1; subst h2; subst h3
    exact Or.inl ⟨v, (T.setVm vm₁).calling g' mk (Value.ref b :: As).toArray, t, U', L, hT, X', hL, e1, e2, hq, st⟩
  · dsimp only [Pt.U, Pt.locs, Pt.cells, Pt.slots] at X' e1 e2 h1 h2 h3 st hcl
    subst h1; subst h2; subst h3
    exact Or.inr ⟨q, (T.setVm vm₁).calling g' mk (Value.ref b :: As).toArray, t, U', L, E, ce, hT, X', hL, e1, e2, hq, hce, hcv, vx_cls hW₁ hcl, st⟩
theorem vx_runSX {hh : List (Nat × Nat × Nat × Nat)} (S : CallFix p m c cc nL s args Ts own) (hM : vx_Met l y ws rm Pc Qc XC mc ms free) (cw : vx_CSW R s args own index y bytes maxL ret hh ws rm mc ms n) (hp : PreS s H Pc As)
    (hg : g.method = m) (hn : As.length = n) (hsize : g.locals.size = nL) (hstack : g.stack = As.reverse ++ rest) (hW : 2 * g.monitorRoom + (rest.map fun v => v.category).sum ≤ 8) (hdg : decode cc g.pc = .ok (.invokestatic index, 3)) (hf : cells + mc ≤ R.cells ∧ slots + ms ≤ R.slots) :
    vx_Run p l e R s m args below meth c H locs cells slots mc ms g rest (Qc As.toArray) XC free := by
  obtain ⟨⟨hrc, hrs, hfr, hlo, hws, hcw⟩, hcode, hini, hy, hlen, hl, hstt⟩ := cw
  have hK : vx_Back l R p e below s args y 3 8 (PreOf R mc ms Pc) (PostOf Qc mc ms free) (vx_Post XC mc ms free) := vx_backW (hh := hh) (bytes := bytes) (maxL := maxL) (ret := ret) hM hp.1 hrc hrs hfr hlo hws hcw (fun a' U hW => word_at hW (Or.inl (by first | rfl | simp [Cond.onTables, Cond.keeps, Cond.steady])) hini)
  obtain ⟨hx, hb, hml, ho, -⟩ := S
  intro T hT X
  rcases vx_callSX X hx (hh := hh) (bytes := bytes) (maxL := maxL) (ret := ret) ho hl hstt hini hcode hy hK hg (hsize.trans hml.symm) (argsL := As) (rest := rest) (fun sig h => hn.trans (hlen sig h)) hstack hW (by rw [hb]; exact hdg)
    (fun vm₁ hW₁ => ⟨hf.1, hf.2, hp.2 (T.setVm vm₁) hT hW₁⟩) with ⟨v, vm₁, ⟨U', l2, c2, s2⟩, hW₁, X', ⟨g', mk, t, L, e1, e2, hq, h1, hL, h2, h3⟩, st⟩ | ⟨q, vm₁, ⟨U', l2, c2, s2⟩, hW₁, X', ⟨g', mk, t, L, E, ce, e1, e2, hq, hce, hcv, hcl, h1, hL, h2, h3⟩, st⟩
  · dsimp only [Pt.U, Pt.locs, Pt.cells, Pt.slots] at X' e1 e2 h1 h2 h3 st
    subst h1; subst h2; subst h3
    exact Or.inl ⟨v, (T.setVm vm₁).calling g' mk As.toArray, t, U', L, hT, X', hL, e1, e2, hq, st⟩
  · dsimp only [Pt.U, Pt.locs, Pt.cells, Pt.slots] at X' e1 e2 h1 h2 h3 st hcl
    subst h1; subst h2; subst h3
    exact Or.inr ⟨q, (T.setVm vm₁).calling g' mk As.toArray, t, U', L, E, ce, hT, X', hL, e1, e2, hq, hce, hcv, vx_cls hW₁ hcl, st⟩
end
end VXH
theorem vx_ofWH {l : Launch} {y : MethodName} {ws ws' : List Cond} {rm : Room} {Pc : Array Value → State → Prop} {Qc : Array Value → State → Outcome → State → Prop} {XC : String → State → State → Prop} {mc ms : Nat} {free : Addr → Prop} {cc : ByteArray} {maxL : Nat} {ret : Option FieldType} {hh : List (Nat × Nat × Nat × Nat)}
    (hy : plainName y.cls = true) (hw : ws = Cond.codeWith y cc maxL ret hh :: ws')
    (body : ∀ p e s m args below meth c s₁, BodyLoose p l y (headSpec ws rm) cc maxL ret e s m args below meth c s₁ → c.maxLocals = maxL → Pc args s →
      W p l e (headSpec ws rm).room s m args below meth c s.heap [] 0 0 (vx_MQ below Qc XC args s mc ms free) (entryFrame m args maxL)) : vx_Met l y ws rm Pc Qc XC mc ms free := by
  refine MetFree.of_bodyS (code := cc) (maxLocals := maxL) (ret := ret) hy ?_ ?_
  · intro args s m h hn
    obtain ⟨m9, meth, c, hn9, h1, h2, h3, h4, -, h5, h6, -⟩ := Cond.codeWith_spec (atoms_spec (ws := ws) h _ (by rw [hw]; exact List.mem_cons_self))
    cases hn.symm.trans hn9
    exact ⟨meth, c, h1, h2, h3, h4, h5, h6⟩
  · intro p e s m args below meth c s₁ B hml hP _
    have hh0 : s₁.heap = s.heap := by rw [B.state]; rfl
    obtain ⟨t, a1, o, b1, b2, b3⟩ := body p e s m args below meth c s₁ B hml hP s₁ hh0 (Stand.of_body B)
    exact ⟨t, o, a1, b1, b2, b3⟩
/-! ===== END ===== -/
end
section
/-! names: classes, fields, words, decode rows (printed by my own program out of the listing and the tables) -/
abbrev R_C : String := "MapFramer$Call"
def T_C : u_T := fun k => match k with
  | 0 => ("MapFramer$Call", "method", "LMapFramer$Method;", false)
  | 1 => ("MapFramer$Call", "place", "I", false)
  | 2 => ("MapFramer$Call", "locals", "[J", true)
  | 3 => ("MapFramer$Call", "stack", "[J", true)
  | _ => ("MapFramer$Call", "size", "I", false)
def ty_C : Nat → FieldType := fun k => match k with
  | 0 => .object "MapFramer$Method"
  | 1 => .int
  | 2 => .array .long
  | 3 => .array .long
  | _ => .int
theorem nm_C : ∀ a, a < 5 → ∀ b, b < 5 → a ≠ b → (T_C a).2.1 ≠ (T_C b).2.1 := by decide +kernel
theorem tok_C : ∀ k, k < 5 → parseFieldDescriptor (T_C k).2.2.1 = some (ty_C k) := by decide +kernel
theorem df_C : ∀ j, j < 5 → defaultValue (ty_C j) = vp_V [.null, .int 0, .null, .null, .int 0] j := by decide +kernel
abbrev R_H : String := "MapFramer$Heap"
def T_H : u_T := fun k => match k with
  | 0 => ("MapFramer$Heap", "types", "[I", true)
  | 1 => ("MapFramer$Heap", "lengths", "[I", true)
  | 2 => ("MapFramer$Heap", "values", "[J", true)
  | _ => ("MapFramer$Heap", "made", "I", false)
def ty_H : Nat → FieldType := fun k => match k with
  | 0 => .array .int
  | 1 => .array .int
  | 2 => .array .long
  | _ => .int
theorem nm_H : ∀ a, a < 4 → ∀ b, b < 4 → a ≠ b → (T_H a).2.1 ≠ (T_H b).2.1 := by decide +kernel
theorem tok_H : ∀ k, k < 4 → parseFieldDescriptor (T_H k).2.2.1 = some (ty_H k) := by decide +kernel
theorem df_H : ∀ j, j < 4 → defaultValue (ty_H j) = vp_V [.null, .null, .null, .int 0] j := by decide +kernel
abbrev R_K : String := "MapFramer$Machine"
def T_K : u_T := fun k => match k with
  | 0 => ("MapFramer$Machine", "heap", "LMapFramer$Heap;", true)
  | 1 => ("MapFramer$Machine", "statics", "[J", true)
  | 2 => ("MapFramer$Machine", "calls", "[LMapFramer$Call;", true)
  | 3 => ("MapFramer$Machine", "world", "LMapFramer$World;", false)
  | 4 => ("MapFramer$Machine", "depth", "I", false)
  | 5 => ("MapFramer$Machine", "call", "LMapFramer$Call;", false)
  | 6 => ("MapFramer$Machine", "next", "I", false)
  | 7 => ("MapFramer$Machine", "raises", "Z", false)
  | 8 => ("MapFramer$Machine", "tossed", "I", false)
  | 9 => ("MapFramer$Machine", "resultType", "I", false)
  | 10 => ("MapFramer$Machine", "result", "J", false)
  | 11 => ("MapFramer$Machine", "outcome", "I", false)
  | 12 => ("MapFramer$Machine", "used", "I", false)
  | _ => ("MapFramer$Machine", "thrownClass", "I", false)
def ty_K : Nat → FieldType := fun k => match k with
  | 0 => .object "MapFramer$Heap"
  | 1 => .array .long
  | 2 => .array (.object "MapFramer$Call")
  | 3 => .object "MapFramer$World"
  | 4 => .int
  | 5 => .object "MapFramer$Call"
  | 6 => .int
  | 7 => .boolean
  | 8 => .int
  | 9 => .int
  | 10 => .long
  | 11 => .int
  | 12 => .int
  | _ => .int
theorem nm_K : ∀ a, a < 14 → ∀ b, b < 14 → a ≠ b → (T_K a).2.1 ≠ (T_K b).2.1 := by decide +kernel
theorem tok_K : ∀ k, k < 14 → parseFieldDescriptor (T_K k).2.2.1 = some (ty_K k) := by decide +kernel
theorem df_K : ∀ j, j < 14 → defaultValue (ty_K j) = vp_V [.null, .null, .null, .null, .int 0, .null, .int 0, .int 0, .int 0, .int 0, .long 0, .int 0, .int 0, .int 0] j := by decide +kernel
abbrev R_W : String := "MapFramer$World"
def T_W : u_T := fun k => match k with
  | 0 => ("MapFramer$World", "parents", "[I", true)
  | 1 => ("MapFramer$World", "supers", "[I", true)
  | 2 => ("MapFramer$World", "interfaces", "[Z", true)
  | 3 => ("MapFramer$World", "classCount", "I", false)
  | 4 => ("MapFramer$World", "fieldClasses", "[I", true)
  | 5 => ("MapFramer$World", "fieldTypes", "[I", true)
  | 6 => ("MapFramer$World", "fieldStatics", "[Z", true)
  | 7 => ("MapFramer$World", "fieldCount", "I", false)
  | 8 => ("MapFramer$World", "methods", "[LMapFramer$Method;", true)
  | _ => ("MapFramer$World", "methodCount", "I", false)
def ty_W : Nat → FieldType := fun k => match k with
  | 0 => .array .int
  | 1 => .array .int
  | 2 => .array .boolean
  | 3 => .int
  | 4 => .array .int
  | 5 => .array .int
  | 6 => .array .boolean
  | 7 => .int
  | 8 => .array (.object "MapFramer$Method")
  | _ => .int
theorem nm_W : ∀ a, a < 10 → ∀ b, b < 10 → a ≠ b → (T_W a).2.1 ≠ (T_W b).2.1 := by decide +kernel
theorem tok_W : ∀ k, k < 10 → parseFieldDescriptor (T_W k).2.2.1 = some (ty_W k) := by decide +kernel
theorem df_W : ∀ j, j < 10 → defaultValue (ty_W j) = vp_V [.null, .null, .null, .int 0, .null, .null, .null, .int 0, .null, .int 0] j := by decide +kernel
abbrev R_F : String := "MapFramer"
def T_F : u_T := fun k => match k with
  | 0 => ("MapFramer", "world", "LMapFramer$World;", true)
  | 1 => ("MapFramer", "machine", "LMapFramer$Machine;", true)
  | 2 => ("MapFramer", "tape", "[I", true)
  | _ => ("MapFramer", "tapeLength", "I", false)
def ty_F : Nat → FieldType := fun k => match k with
  | 0 => .object "MapFramer$World"
  | 1 => .object "MapFramer$Machine"
  | 2 => .array .int
  | _ => .int
theorem nm_F : ∀ a, a < 4 → ∀ b, b < 4 → a ≠ b → (T_F a).2.1 ≠ (T_F b).2.1 := by decide +kernel
theorem tok_F : ∀ k, k < 4 → parseFieldDescriptor (T_F k).2.2.1 = some (ty_F k) := by decide +kernel
theorem df_F : ∀ j, j < 4 → defaultValue (ty_F j) = vp_V [.null, .null, .null, .int 0] j := by decide +kernel
abbrev R_M : String := "MapFramerModel"
def T_M : u_T := fun k => match k with
  | 0 => ("MapFramerModel", "thrown", "I", false)
  | 1 => ("MapFramerModel", "classes", "I", false)
  | 2 => ("MapFramerModel", "above", "[I", true)
  | 3 => ("MapFramerModel", "isFace", "[Z", true)
  | 4 => ("MapFramerModel", "fields", "I", false)
  | 5 => ("MapFramerModel", "fieldClass", "[I", true)
  | 6 => ("MapFramerModel", "fieldType", "[I", true)
  | 7 => ("MapFramerModel", "fieldStatic", "[Z", true)
  | 8 => ("MapFramerModel", "methods", "I", false)
  | 9 => ("MapFramerModel", "arguments", "[I", true)
  | 10 => ("MapFramerModel", "argumentCount", "[I", true)
  | 11 => ("MapFramerModel", "results", "[I", true)
  | 12 => ("MapFramerModel", "sizes", "[I", true)
  | 13 => ("MapFramerModel", "codes", "[I", true)
  | 14 => ("MapFramerModel", "maxStack", "[I", true)
  | 15 => ("MapFramerModel", "maxLocals", "[I", true)
  | 16 => ("MapFramerModel", "handlers", "[I", true)
  | 17 => ("MapFramerModel", "handlerFrom", "[I", true)
  | 18 => ("MapFramerModel", "handlerTo", "[I", true)
  | 19 => ("MapFramerModel", "handlerPlace", "[I", true)
  | 20 => ("MapFramerModel", "handlerClass", "[I", true)
  | 21 => ("MapFramerModel", "verified", "[Z", true)
  | 22 => ("MapFramerModel", "fault", "[I", true)
  | 23 => ("MapFramerModel", "faultAt", "[I", true)
  | 24 => ("MapFramerModel", "taped", "I", false)
  | 25 => ("MapFramerModel", "tape", "[I", true)
  | 26 => ("MapFramerModel", "begins", "[Z", true)
  | 27 => ("MapFramerModel", "high", "[I", true)
  | 28 => ("MapFramerModel", "locals", "[I", true)
  | 29 => ("MapFramerModel", "stacks", "[I", true)
  | 30 => ("MapFramerModel", "due", "[Z", true)
  | 31 => ("MapFramerModel", "dead", "[Z", true)
  | 32 => ("MapFramerModel", "framed", "[Z", true)
  | 33 => ("MapFramerModel", "method", "I", false)
  | 34 => ("MapFramerModel", "here", "I", false)
  | 35 => ("MapFramerModel", "bad", "I", false)
  | 36 => ("MapFramerModel", "badAt", "I", false)
  | 37 => ("MapFramerModel", "local", "[I", true)
  | 38 => ("MapFramerModel", "before", "[I", true)
  | 39 => ("MapFramerModel", "stack", "[I", true)
  | 40 => ("MapFramerModel", "many", "I", false)
  | 41 => ("MapFramerModel", "given", "[I", true)
  | 42 => ("MapFramerModel", "givenStack", "[I", true)
  | 43 => ("MapFramerModel", "givenMany", "I", false)
  | 44 => ("MapFramerModel", "mostStack", "I", false)
  | 45 => ("MapFramerModel", "cuts", "I", false)
  | 46 => ("MapFramerModel", "cutFrom", "[I", true)
  | 47 => ("MapFramerModel", "cutTo", "[I", true)
  | 48 => ("MapFramerModel", "cutPlace", "[I", true)
  | 49 => ("MapFramerModel", "cutClass", "[I", true)
  | 50 => ("MapFramerModel", "written", "I", false)
  | 51 => ("MapFramerModel", "bytes", "[I", true)
  | 52 => ("MapFramerModel", "was", "[I", true)
  | 53 => ("MapFramerModel", "wasMany", "I", false)
  | 54 => ("MapFramerModel", "now", "[I", true)
  | 55 => ("MapFramerModel", "nowMany", "I", false)
  | 56 => ("MapFramerModel", "ends", "[I", true)
  | 57 => ("MapFramerModel", "statics", "[J", true)
  | 58 => ("MapFramerModel", "things", "I", false)
  | 59 => ("MapFramerModel", "thingType", "[I", true)
  | 60 => ("MapFramerModel", "thingSize", "[I", true)
  | 61 => ("MapFramerModel", "elements", "[J", true)
  | 62 => ("MapFramerModel", "slots", "[J", true)
  | 63 => ("MapFramerModel", "deep", "I", false)
  | 64 => ("MapFramerModel", "callMethod", "[I", true)
  | 65 => ("MapFramerModel", "callPlace", "[I", true)
  | 66 => ("MapFramerModel", "callHigh", "[I", true)
  | 67 => ("MapFramerModel", "values", "[J", true)
  | 68 => ("MapFramerModel", "piles", "[J", true)
  | 69 => ("MapFramerModel", "running", "Z", false)
  | _ => ("MapFramerModel", "answer", "J", false)
def ty_M : Nat → FieldType := fun k => match k with
  | 0 => .int
  | 1 => .int
  | 2 => .array .int
  | 3 => .array .boolean
  | 4 => .int
  | 5 => .array .int
  | 6 => .array .int
  | 7 => .array .boolean
  | 8 => .int
  | 9 => .array .int
  | 10 => .array .int
  | 11 => .array .int
  | 12 => .array .int
  | 13 => .array .int
  | 14 => .array .int
  | 15 => .array .int
  | 16 => .array .int
  | 17 => .array .int
  | 18 => .array .int
  | 19 => .array .int
  | 20 => .array .int
  | 21 => .array .boolean
  | 22 => .array .int
  | 23 => .array .int
  | 24 => .int
  | 25 => .array .int
  | 26 => .array .boolean
  | 27 => .array .int
  | 28 => .array .int
  | 29 => .array .int
  | 30 => .array .boolean
  | 31 => .array .boolean
  | 32 => .array .boolean
  | 33 => .int
  | 34 => .int
  | 35 => .int
  | 36 => .int
  | 37 => .array .int
  | 38 => .array .int
  | 39 => .array .int
  | 40 => .int
  | 41 => .array .int
  | 42 => .array .int
  | 43 => .int
  | 44 => .int
  | 45 => .int
  | 46 => .array .int
  | 47 => .array .int
  | 48 => .array .int
  | 49 => .array .int
  | 50 => .int
  | 51 => .array .int
  | 52 => .array .int
  | 53 => .int
  | 54 => .array .int
  | 55 => .int
  | 56 => .array .int
  | 57 => .array .long
  | 58 => .int
  | 59 => .array .int
  | 60 => .array .int
  | 61 => .array .long
  | 62 => .array .long
  | 63 => .int
  | 64 => .array .int
  | 65 => .array .int
  | 66 => .array .int
  | 67 => .array .long
  | 68 => .array .long
  | 69 => .boolean
  | _ => .long
theorem nm_M : ∀ a, a < 71 → ∀ b, b < 71 → a ≠ b → (T_M a).2.1 ≠ (T_M b).2.1 := by decide +kernel
theorem tok_M : ∀ k, k < 71 → parseFieldDescriptor (T_M k).2.2.1 = some (ty_M k) := by decide +kernel
theorem df_M : ∀ j, j < 71 → defaultValue (ty_M j) = vp_V [.int 0, .int 0, .null, .null, .int 0, .null, .null, .null, .int 0, .null, .null, .null, .null, .null, .null, .null, .null, .null, .null, .null, .null, .null, .null, .null, .int 0, .null, .null, .null, .null, .null, .null, .null, .null, .int 0, .int 0, .int 0, .int 0, .null, .null, .null, .int 0, .null, .null, .int 0, .int 0, .int 0, .null, .null, .null, .null, .int 0, .null, .null, .int 0, .null, .int 0, .null, .null, .int 0, .null, .null, .null, .null, .int 0, .null, .null, .null, .null, .null, .int 0, .long 0] j := by decide +kernel
abbrev R_E : String := "MapFramer$Method"
def T_E : u_T := fun k => match k with
  | 0 => ("MapFramer$Method", "arguments", "[I", true)
  | 1 => ("MapFramer$Method", "result", "I", true)
  | 2 => ("MapFramer$Method", "code", "[I", false)
  | 3 => ("MapFramer$Method", "maxStack", "I", false)
  | 4 => ("MapFramer$Method", "maxLocals", "I", false)
  | 5 => ("MapFramer$Method", "handlers", "Ljava/util/ArrayList;", false)
  | 6 => ("MapFramer$Method", "verified", "Z", false)
  | 7 => ("MapFramer$Method", "fault", "I", false)
  | 8 => ("MapFramer$Method", "faultAt", "I", false)
  | 9 => ("MapFramer$Method", "states", "[LMapFramer$State;", false)
  | 10 => ("MapFramer$Method", "frames", "[I", false)
  | 11 => ("MapFramer$Method", "frameCount", "I", false)
  | _ => ("MapFramer$Method", "called", "I", false)
def ty_E : Nat → FieldType := fun k => match k with
  | 0 => .array .int
  | 1 => .int
  | 2 => .array .int
  | 3 => .int
  | 4 => .int
  | 5 => .object "java/util/ArrayList"
  | 6 => .boolean
  | 7 => .int
  | 8 => .int
  | 9 => .array (.object "MapFramer$State")
  | 10 => .array .int
  | 11 => .int
  | _ => .int
theorem nm_E : ∀ a, a < 13 → ∀ b, b < 13 → a ≠ b → (T_E a).2.1 ≠ (T_E b).2.1 := by decide +kernel
theorem tok_E : ∀ k, k < 13 → parseFieldDescriptor (T_E k).2.2.1 = some (ty_E k) := by decide +kernel
theorem df_E : ∀ j, j < 13 → defaultValue (ty_E j) = vp_V [.null, .int 0, .null, .int 0, .int 0, .null, .int 0, .int 0, .int 0, .null, .null, .int 0, .int 0] j := by decide +kernel
abbrev R_A : String := "java/util/ArrayList"
def T_A : u_T := fun k => match k with
  | 0 => ("java/util/AbstractList", "modCount", "I", false)
  | 1 => ("java/util/ArrayList", "elementData", "[Ljava/lang/Object;", false)
  | _ => ("java/util/ArrayList", "size", "I", false)
def ty_A : Nat → FieldType := fun k => match k with
  | 0 => .int
  | 1 => .array (.object "java/lang/Object")
  | _ => .int
theorem nm_A : ∀ a, a < 3 → ∀ b, b < 3 → a ≠ b → (T_A a).2.1 ≠ (T_A b).2.1 := by decide +kernel
theorem tok_A : ∀ k, k < 3 → parseFieldDescriptor (T_A k).2.2.1 = some (ty_A k) := by decide +kernel
theorem df_A : ∀ j, j < 3 → defaultValue (ty_A j) = vp_V [.int 0, .null, .int 0] j := by decide +kernel
abbrev vwCl : List vw_C := [(R_C, T_C, 5), (R_H, T_H, 4), (R_K, T_K, 14), (R_W, T_W, 10), (R_F, T_F, 4), (R_M, T_M, 71), (R_E, T_E, 13), (R_A, T_A, 3)]
def bigW : List Cond := lw_tbl.filter goodWord
theorem inB_1 {w : Cond} (i : Nat) (h : tables_1_1[i]? = some w) (g : goodWord w = true) : w ∈ bigW := List.mem_filter.mpr ⟨List.mem_append_right _ (List.mem_append_left _ (List.mem_of_getElem? h)), g⟩
theorem inB_2 {w : Cond} (i : Nat) (h : tables_1_2[i]? = some w) (g : goodWord w = true) : w ∈ bigW := List.mem_filter.mpr ⟨List.mem_append_right _ (List.mem_append_right _ (List.mem_append_left _ (List.mem_of_getElem? h))), g⟩
theorem inB_3 {w : Cond} (i : Nat) (h : tables_1_3[i]? = some w) (g : goodWord w = true) : w ∈ bigW := List.mem_filter.mpr ⟨List.mem_append_right _ (List.mem_append_right _ (List.mem_append_right _ (List.mem_append_left _ (List.mem_of_getElem? h)))), g⟩
theorem inB_4 {w : Cond} (i : Nat) (h : tables_1_4[i]? = some w) (g : goodWord w = true) : w ∈ bigW := List.mem_filter.mpr ⟨List.mem_append_right _ (List.mem_append_right _ (List.mem_append_right _ (List.mem_append_right _ (List.mem_append_left _ (List.mem_of_getElem? h))))), g⟩
theorem inB_5 {w : Cond} (i : Nat) (h : tables_1_5[i]? = some w) (g : goodWord w = true) : w ∈ bigW := List.mem_filter.mpr ⟨List.mem_append_right _ (List.mem_append_right _ (List.mem_append_right _ (List.mem_append_right _ (List.mem_append_right _ (List.mem_append_left _ (List.mem_of_getElem? h)))))), g⟩
theorem inB_6 {w : Cond} (i : Nat) (h : tables_1_6[i]? = some w) (g : goodWord w = true) : w ∈ bigW := List.mem_filter.mpr ⟨List.mem_append_right _ (List.mem_append_right _ (List.mem_append_right _ (List.mem_append_right _ (List.mem_append_right _ (List.mem_append_right _ (List.mem_append_left _ (List.mem_of_getElem? h))))))), g⟩
theorem inB_7 {w : Cond} (i : Nat) (h : tables_1_7[i]? = some w) (g : goodWord w = true) : w ∈ bigW := List.mem_filter.mpr ⟨List.mem_append_right _ (List.mem_append_right _ (List.mem_append_right _ (List.mem_append_right _ (List.mem_append_right _ (List.mem_append_right _ (List.mem_append_right _ (List.mem_append_left _ (List.mem_of_getElem? h)))))))), g⟩
theorem inB_8 {w : Cond} (i : Nat) (h : tables_1_8[i]? = some w) (g : goodWord w = true) : w ∈ bigW := List.mem_filter.mpr ⟨List.mem_append_right _ (List.mem_append_right _ (List.mem_append_right _ (List.mem_append_right _ (List.mem_append_right _ (List.mem_append_right _ (List.mem_append_right _ (List.mem_append_right _ (List.mem_append_left _ (List.mem_of_getElem? h))))))))), g⟩
theorem inB_9 {w : Cond} (i : Nat) (h : tables_1_9[i]? = some w) (g : goodWord w = true) : w ∈ bigW := List.mem_filter.mpr ⟨List.mem_append_right _ (List.mem_append_right _ (List.mem_append_right _ (List.mem_append_right _ (List.mem_append_right _ (List.mem_append_right _ (List.mem_append_right _ (List.mem_append_right _ (List.mem_append_right _ (List.mem_append_left _ (List.mem_of_getElem? h)))))))))), g⟩
theorem inB_10 {w : Cond} (i : Nat) (h : tables_1_10[i]? = some w) (g : goodWord w = true) : w ∈ bigW := List.mem_filter.mpr ⟨List.mem_append_right _ (List.mem_append_right _ (List.mem_append_right _ (List.mem_append_right _ (List.mem_append_right _ (List.mem_append_right _ (List.mem_append_right _ (List.mem_append_right _ (List.mem_append_right _ (List.mem_append_right _ (List.mem_of_getElem? h)))))))))), g⟩
theorem inS {y : MethodName} {n : Nat} (h : (y, n) ∈ lw_privs) : Cond.selects y.cls y y ∈ bigW := List.mem_filter.mpr ⟨List.mem_append_left _ (List.mem_map.mpr ⟨(y, n), h, rfl⟩), rfl⟩
end
section
/-! rows of my own: pure words, calls, exceptions -/
/-! pure words of the fresh state -/
theorem z0 : (0 : Int32).toInt = 0 := by decide
theorem z1 : (1 : Int32).toInt = 1 := by decide
theorem z2 : (2 : Int32).toInt = 2 := by decide
theorem z4 : (4 : Int32).toInt = 4 := by decide
theorem z16 : (16 : Int32).toInt = 16 := by decide
theorem z32 : (32 : Int32).toInt = 32 := by decide
theorem z34 : (34 : Int32).toInt = 34 := by decide
theorem z64 : (64 : Int32).toInt = 64 := by decide
theorem z66 : (66 : Int32).toInt = 66 := by decide
/-- class c is known in a fresh world -/
def hasC (c : Int32) : Prop := 0 ≤ c.toInt ∧ c.toInt < 2
/-- a type of a value in a fresh world -/
def valT (t : Int32) : Prop := (1 ≤ t.toInt ∧ t.toInt ≤ 4) ∨ (32 ≤ t.toInt ∧ t.toInt < 34) ∨ (64 ≤ t.toInt ∧ t.toInt < 66)
theorem sub_range (t : Int32) : -2147483648 ≤ t.toInt ∧ t.toInt < 2147483648 := by
  have h1 := Int32.le_toInt t
  have h2 := Int32.toInt_lt t
  constructor <;> omega
theorem hasC_32 (t : Int32) : hasC (t - 32) ↔ (32 ≤ t.toInt ∧ t.toInt < 34) := by
  have h := sub_range t
  unfold hasC
  rw [Int32.toInt_sub, z32, Int.bmod]
  omega
theorem hasC_64 (t : Int32) : hasC (t - 64) ↔ (64 ≤ t.toInt ∧ t.toInt < 66) := by
  have h := sub_range t
  unfold hasC
  rw [Int32.toInt_sub, z64, Int.bmod]
  omega
/-- the k-th type of a packed row, as the class reads it -/
def argX (p k : Int32) : Int32 := ((p.toUInt32 >>> ((8 * k : Int32).toUInt32 &&& Int32.toUInt32 31)).toInt32) &&& 255
theorem hasC_0 : hasC 0 := by unfold hasC; rw [z0]; decide
/-- how many types a packed row holds -/
def argI (p : Int32) : Int32 := if argX p 0 = 0 then 0 else if argX p 1 = 0 then 1 else if argX p 2 = 0 then 2 else if argX p 3 = 0 then 3 else 4
theorem argI_cases (p : Int32) : (argI p = 0 ∧ argX p 0 = 0) ∨ (argI p = 1 ∧ ¬ argX p 0 = 0 ∧ argX p 1 = 0) ∨ (argI p = 2 ∧ ¬ argX p 0 = 0 ∧ ¬ argX p 1 = 0 ∧ argX p 2 = 0) ∨ (argI p = 3 ∧ ¬ argX p 0 = 0 ∧ ¬ argX p 1 = 0 ∧ ¬ argX p 2 = 0 ∧ argX p 3 = 0) ∨ (argI p = 4 ∧ ¬ argX p 0 = 0 ∧ ¬ argX p 1 = 0 ∧ ¬ argX p 2 = 0 ∧ ¬ argX p 3 = 0) := by
  unfold argI
  by_cases h0 : argX p 0 = 0
  · exact Or.inl ⟨if_pos h0, h0⟩
  · by_cases h1 : argX p 1 = 0
    · exact Or.inr (Or.inl ⟨by rw [if_neg h0, if_pos h1], h0, h1⟩)
    · by_cases h2 : argX p 2 = 0
      · exact Or.inr (Or.inr (Or.inl ⟨by rw [if_neg h0, if_neg h1, if_pos h2], h0, h1, h2⟩))
      · by_cases h3 : argX p 3 = 0
        · exact Or.inr (Or.inr (Or.inr (Or.inl ⟨by rw [if_neg h0, if_neg h1, if_neg h2, if_pos h3], h0, h1, h2, h3⟩)))
        · exact Or.inr (Or.inr (Or.inr (Or.inr ⟨by rw [if_neg h0, if_neg h1, if_neg h2, if_neg h3], h0, h1, h2, h3⟩)))
/-- a class may be told: under no interface -/
def okC (pr bz : Int32) : Prop := ¬ bz = 0 ∨ hasC pr
/-- a field may be told -/
def okF (ow ty bz : Int32) : Prop := hasC ow ∧ valT ty ∧ (¬ bz = 0 ∨ ¬ ow = 0)
/-- a method's types -/
def okA (p : Int32) : Prop := ¬ argX p 0 = 0 → valT (argX p 0) ∧ (¬ argX p 1 = 0 → valT (argX p 1) ∧ (¬ argX p 2 = 0 → valT (argX p 2) ∧ (¬ argX p 3 = 0 → valT (argX p 3))))
def okM (p rs : Int32) : Prop := okA p ∧ (rs = 0 ∨ valT rs)
def cntF (x : Int32) : Int32 := if x = 0 then 2 else if x = 1 ∨ x = 2 ∨ x = 3 then 0 else -1
theorem i_eq {x y : Int32} (h : x.toInt = y.toInt) : x = y := Int32.toInt_inj.mp h
theorem sw_4 (x : Int32) : x = 0 ∨ x = 1 ∨ x = 2 ∨ x = 3 ∨ (x.toInt < 0 ∨ 3 < x.toInt) := by
  by_cases h : x.toInt < 0 ∨ 3 < x.toInt
  · exact Or.inr (Or.inr (Or.inr (Or.inr h)))
  · rcases (show x.toInt = 0 ∨ x.toInt = 1 ∨ x.toInt = 2 ∨ x.toInt = 3 by omega) with h | h | h | h
    · exact Or.inl (i_eq (by rw [h]; decide))
    · exact Or.inr (Or.inl (i_eq (by rw [h]; decide)))
    · exact Or.inr (Or.inr (Or.inl (i_eq (by rw [h]; decide))))
    · exact Or.inr (Or.inr (Or.inr (Or.inl (i_eq (by rw [h]; decide)))))
theorem sw_out {x : Int32} (h : x.toInt < 0 ∨ 3 < x.toInt) : ¬ x = 0 ∧ ¬ x = 1 ∧ ¬ x = 2 ∧ ¬ x = 3 := by
  refine ⟨fun e => ?_, fun e => ?_, fun e => ?_, fun e => ?_⟩ <;> subst e <;> revert h <;> decide
theorem cnt_out {x : Int32} (h : x.toInt < 0 ∨ 3 < x.toInt) : cntF x = -1 := by
  obtain ⟨h0, h1, h2, h3⟩ := sw_out h
  simp [cntF, h0, h1, h2, h3]

section Top
variable {p : Program} {l : Launch} {e : Env} {R : Room} {s : State} {m : MethodId} {args : Array Value} {below : List Frame} {meth : Method} {cx : Code} {H : Heap} {locs : List Loc} {cells slots : Nat} {Q : State → Prop} {pc : Nat} {ls : Array Slot} {rest : List Value}
theorem tp_i {x : Int32} (v : Int32) (h : x = v) (k : W p l e R s m args below meth cx H locs cells slots Q (F0 m pc ls (.int v :: rest))) : W p l e R s m args below meth cx H locs cells slots Q (F0 m pc ls (.int x :: rest)) := by
  subst h; exact k
theorem tp_l {x : Int64} (v : Int64) (h : x = v) (k : W p l e R s m args below meth cx H locs cells slots Q (F0 m pc ls (.long v :: rest))) : W p l e R s m args below meth cx H locs cells slots Q (F0 m pc ls (.long x :: rest)) := by
  subst h; exact k
end Top
theorem vz_i (cA : ClassId) (n : Nat) : vp_cell cA (n, .inl (fun _ => 0)) = arrV cA n (fun _ => defaultValue .int) := rfl
theorem vz_z (cA : ClassId) (n : Nat) : vp_cell cA (n, .inl (fun _ => 0)) = arrV cA n (fun _ => defaultValue .boolean) := rfl
theorem vz_l (cA : ClassId) (n : Nat) : vp_cell cA (n, .inr (.inl (fun _ => 0))) = arrV cA n (fun _ => defaultValue .long) := rfl
theorem ro_keep {D : va_G} {cl : List vw_C} {ws : va_W} {H H1 : Heap} (h : va_P D cl ws H) (hk : ∀ q : Nat, q < H.size → ¬ False → H1[q]? = H[q]?) : va_P D cl ws H1 := h.kept (fun k q hq => hk q.1 (h k q hq).lt id)
theorem nil_P {D : va_G} {cl : List vw_C} {H : Heap} : va_P D cl [] H := fun k q h => by simp at h
theorem nil_D {A : Nat → Prop} : va_D A [] := ⟨fun i j p q h => by simp at h, fun k q h => by simp at h⟩
theorem gB {Ts : List Cond} (hs : ∀ w ∈ bigW, w ∈ Ts) {w : Cond} (h : w ∈ bigW) : w ∈ Ts ∧ ((w.onTables && w.keeps) = true ∨ ∃ ty, w = .arrayClass ty) := ⟨hs w h, good_of_word (List.mem_filter.mp h).2⟩
theorem gC {Ts : List Cond} (hs : ∀ w ∈ bigW, w ∈ Ts) {w0 : Cond} (h5 : w0 ∈ bigW) : GoodIn Ts (w0 :: bigW) := fun w hw => by
  rcases List.mem_cons.mp hw with h | h
  · subst h; exact gB hs h5
  · exact gB hs h
theorem gV {Ts : List Cond} (hs : ∀ w ∈ bigW, w ∈ Ts) {own C : String} {idx : Nat} {y : MethodName} {w0 : Cond} (h1 : Cond.methodLink own idx y ∈ bigW) (h2 : Cond.instanceMethod y ∈ bigW) (h3 : Cond.selects C y y ∈ bigW) (h4 : Cond.initialized C ∈ bigW) (h5 : w0 ∈ bigW) : GoodIn Ts (wsV own idx C y (w0 :: bigW)) := by
  intro w hw
  rcases List.mem_append.mp hw with h | h
  · simp only [List.mem_cons, List.not_mem_nil, or_false] at h
    rcases h with h | h | h | h <;> subst h
    · exact gB hs h1
    · exact gB hs h2
    · exact gB hs h3
    · exact gB hs h4
  · exact gC hs h5 w h
theorem gS {Ts : List Cond} (hs : ∀ w ∈ bigW, w ∈ Ts) {own : String} {idx : Nat} {y : MethodName} {w0 : Cond} (h1 : Cond.methodLink own idx y ∈ bigW) (h2 : Cond.static y ∈ bigW) (h4 : Cond.initialized y.cls ∈ bigW) (h5 : w0 ∈ bigW) : GoodIn Ts (va_wsS own idx y (w0 :: bigW)) := by
  intro w hw
  rcases List.mem_append.mp hw with h | h
  · simp only [List.mem_cons, List.not_mem_nil, or_false] at h
    rcases h with h | h | h <;> subst h
    · exact gB hs h1
    · exact gB hs h2
    · exact gB hs h4
  · exact gC hs h5 w h
abbrev yx_R : MethodName := ⟨"java/lang/RuntimeException", "<init>", "(Ljava/lang/String;)V"⟩
abbrev yx_E : MethodName := ⟨"java/lang/Exception", "<init>", "(Ljava/lang/String;)V"⟩
abbrev yx_T : MethodName := ⟨"java/lang/Throwable", "<init>", "(Ljava/lang/String;)V"⟩
def exT : List (Nat × String) := [(37, "no such class to be under"), (60, "no such class or type"), (62, "objects of this class have no fields"), (81, "no such argument type"), (83, "no such result type"), (97, "no such method, or not so many bytes"), (105, "no such stack or locals"), (132, "no such method with code, or class"), (137, "no such place"), (163, "no such method with code"), (206, "no such method, or nothing so numbered about it"), (215, "no such byte of code"), (217, "no such byte of frames"), (219, "no such handler, or nothing so numbered of it"), (241, "no state there"), (250, "no such local, nor so many on the stack"), (261, "no such method to run, or no such fuel")]

def xwP (E : String) (U : State) : Prop := va_Nw (.castable E E) U ∧ va_Nw (.declares yx_R) U ∧ va_Nw (.declares yx_E) U ∧ va_Nw (.declares yx_T) U
/-- what the constructors need beside good words -/
def tbP (U : State) : Prop := va_Nw (.methodLinkNest "MapFramer$Machine" 11 ⟨"MapFramer$Heap", "<init>", "()V"⟩ "MapFramer") U ∧ va_Nw (.methodLinkNest "MapFramer$Machine" 37 ⟨"MapFramer$Call", "<init>", "()V"⟩ "MapFramer") U ∧ va_AO "MapFramer$Method" U ∧ va_AO "MapFramer$Call" U ∧ va_AO "MapFramer$State" U
theorem tbP_calling {U : State} {g : JFrame} {mk : MethodId} {a : Array Value} (h : tbP U) : tbP (U.calling g mk a) := ⟨va_Nw.same rfl rfl h.1, va_Nw.same rfl rfl h.2.1, va_AO.moved (u := U) (U := U.calling g mk a) (Vm.Alike.refl U.vm) h.2.2.1, va_AO.moved (u := U) (U := U.calling g mk a) (Vm.Alike.refl U.vm) h.2.2.2.1, va_AO.moved (u := U) (U := U.calling g mk a) (Vm.Alike.refl U.vm) h.2.2.2.2⟩
theorem tbP_go {s : State} (h : tbP s) (U : State) (hW : s.WarmedH U.vm) : tbP U := ⟨va_Nw.warmM hW h.1, va_Nw.warmM hW h.2.1, va_AO.moved hW.alike h.2.2.1, va_AO.moved hW.alike h.2.2.2.1, va_AO.moved hW.alike h.2.2.2.2⟩
/-- the empty array of an ArrayList's start -/
def zaP (A : Nat → Prop) (U : State) : Prop := ∃ t : Nat, va_Z "java/util/ArrayList" "DEFAULTCAPACITY_EMPTY_ELEMENTDATA" "[Ljava/lang/Object;" (.ref t) A U U.heap
/-- what a throw needs beside good words -/
def exP (A : Nat → Prop) (U : State) : Prop := vx_Zq Bundle.tN "UNASSIGNED_STACK" Bundle.steD A U U.heap ∧ vx_Zq Bundle.tN "SUPPRESSED_SENTINEL" Bundle.listD A U U.heap ∧ xwP "java/lang/IllegalArgumentException" U ∧ xwP "java/lang/IndexOutOfBoundsException" U ∧ (∀ q ∈ exT, ∃ a, vk_R "MapFramer" q.1 q.2 a U) ∧ tbP U ∧ zaP A U
theorem xwP_same {E : String} {u U : State} (h : u.vm = U.vm) (hx : xwP E u) : xwP E U := ⟨va_Nw.same rfl h hx.1, va_Nw.same rfl h hx.2.1, va_Nw.same rfl h hx.2.2.1, va_Nw.same rfl h hx.2.2.2⟩
theorem xwP_warm {E : String} {s U : State} (hW : s.WarmedH U.vm) (hx : xwP E s) : xwP E U := ⟨va_Nw.warmC hW hx.1, va_Nw.warmD hW hx.2.1, va_Nw.warmD hW hx.2.2.1, va_Nw.warmD hW hx.2.2.2⟩
theorem exP_calling {A : Nat → Prop} {U : State} {g : JFrame} {mk : MethodId} {a : Array Value} (h : exP A U) : exP A (U.calling g mk a) :=
  ⟨vx_Zq.moved (u := U) (U := U.calling g mk a) (Vm.Alike.refl U.vm) h.1, vx_Zq.moved (u := U) (U := U.calling g mk a) (Vm.Alike.refl U.vm) h.2.1, xwP_same rfl h.2.2.1, xwP_same rfl h.2.2.2.1, fun q hq => (h.2.2.2.2.1 q hq).elim fun a ha => ⟨a, vk_R.same rfl ha⟩, tbP_calling h.2.2.2.2.2.1, h.2.2.2.2.2.2.elim fun t ht => ⟨t, va_Z.moved (u := U) (U := U.calling g mk a) (Vm.Alike.refl U.vm) ht⟩⟩
theorem exP_go {A B : Nat → Prop} {s : State} {H : Heap} {locs : List Loc} (h : exP A s) (hS : va_S A s.heap H locs) (hBA : ∀ q, B q → A q) (U : State) (hU : U.heap = H) (hW : s.WarmedH U.vm) : exP B U := by
  refine ⟨?_, ?_, xwP_warm hW h.2.2.1, xwP_warm hW h.2.2.2.1, fun q hq => (h.2.2.2.2.1 q hq).elim fun a ha => ⟨a, vk_R.warm hW ha⟩, tbP_go h.2.2.2.2.2.1 U hW, h.2.2.2.2.2.2.elim fun t ht => ⟨t, by rw [hU]; exact ((va_Z.moved hW.alike ht).kept hS.2.1).narrow hBA⟩⟩
  · rw [hU]; exact ((vx_Zq.moved hW.alike h.1).kept hS.2.1).narrow hBA
  · rw [hU]; exact ((vx_Zq.moved hW.alike h.2.1).kept hS.2.1).narrow hBA
section Blind
variable {av : List Value} {D : va_G} {cl : List vw_C} {ws : va_W} {tys : List (ClassId × FieldType)} {sz : Nat} {A : Nat → Prop}
theorem kB {U : State} {g : JFrame} {mk : MethodId} {a : Array Value} (q : va_K D cl tys U) : va_K D cl tys (U.calling g mk a) := va_K.moved (u := U) (U := U.calling g mk a) (Vm.Alike.refl U.vm) q
theorem bl_0000 : FrameBlind (va_Pc av (fun U => va_P D cl ws U.heap ∧ va_K D cl tys U)) := fun a U g mk q => by obtain ⟨q0, qP, qK⟩ := q; exact ⟨q0, qP, kB qK⟩
theorem bl_0010 : FrameBlind (va_Pc av (fun U => va_P D cl ws U.heap ∧ va_K D cl tys U ∧ exP A U)) := fun a U g mk q => by obtain ⟨q0, qP, qK, qx⟩ := q; exact ⟨q0, qP, kB qK, exP_calling qx⟩
theorem bl_1000 : FrameBlind (va_Pc av (fun U => U.heap.size = sz ∧ va_P D cl ws U.heap ∧ va_K D cl tys U ∧ va_D (fun _ => True) ws)) := fun a U g mk q => by obtain ⟨q0, q1, qP, qK, qD⟩ := q; exact ⟨q0, q1, qP, kB qK, qD⟩
theorem bl_1010 : FrameBlind (va_Pc av (fun U => U.heap.size = sz ∧ va_P D cl ws U.heap ∧ va_K D cl tys U ∧ va_D (fun _ => True) ws ∧ exP A U)) := fun a U g mk q => by obtain ⟨q0, q1, qP, qK, qD, qx⟩ := q; exact ⟨q0, q1, qP, kB qK, qD, exP_calling qx⟩
end Blind
section Catch
/-- the search at a row that covers the place and whose class takes the object -/
theorem fc_go {e : Env} {S : State} {f : JFrame} {a : Addr} {x : ExceptionTableEntry} {t : List ExceptionTableEntry} {cT : ClassId} {cell : Cell} {k1 k2 : Class} (hcov : covers x f.pc = true) (h0 : x.catchType ≠ 0)
    (hlk : S.vm.ClassLinks e.platform f.method.cls x.catchType cT) (hcell : S.heap[a]? = some cell) (hobj : ∀ k, cell.vm ≠ .statics k)
    (hk1 : (S.vm.noted f.method.cls x.catchType (.cls cT)).classes[cell.cls]? = some k1) (hk2 : (S.vm.noted f.method.cls x.catchType (.cls cT)).classes[cT]? = some k2) (hfit : (S.vm.noted f.method.cls x.catchType (.cls cT)).assignable cell.cls cT = true)
    (Q9 : Handler → Pre) (E9 : CtlPost) (d9 : Bool) (acts9 : List Action) : wp (findHandler.go f a (x :: t)) Q9 E9 e d9 acts9 S ↔ Q9 (.found x.handlerPc) d9 acts9 (S.setVm (S.vm.noted f.method.cls x.catchType (.cls cT))) := by
  obtain ⟨ha, ht⟩ := (resolveClass_links e.toSetting hlk).op (op := VmOp.resolveClass f.method.cls x.catchType) rfl
  simp only [covers] at hcov
  simp [findHandler.go, hcov, h0, ha, ht, hcell, hobj, hk1, hk2, hfit, VmOp.dirties, VmOp.acts]
theorem fc_step {e : Env} {S : State} {a : Addr} {f : JFrame} {r : List Frame} {pc : Nat} {vm' : Vm} (hfind : ∀ (Q9 : Handler → Pre) (E9 : CtlPost) (d9 : Bool) (acts9 : List Action), wp (findHandler f a) Q9 E9 e d9 acts9 S ↔ Q9 (.found pc) d9 acts9 (S.setVm vm')) :
    (stepThrowing e S a (.java f :: r)).1 = (S.setVm vm').setFrames (.java { f with pc := pc, stack := [.ref a] } :: r) := by
  simp only [stepThrowing, searchFrame, vmDo]
  generalize hr : Sem.go _ e false [] S = res
  obtain ⟨as, rfl, -⟩ := Sem.eq_ok_of hr (a := Handler.found pc) (s' := S.setVm vm') (acts' := []) (by simp [hfind _ _ _ _])
  rfl
variable {p : Program} {l : Launch} {e : Env} {R : Room} {s : State} {m : MethodId} {args : Array Value} {below : List Frame} {meth : Method} {cx : Code} {H : Heap} {locs : List Loc} {cells slots : Nat} {Q : State → Prop} {pc : Nat} {ls : Array Slot} {rest : List Value}
/-- the first row of the method's own table takes what was thrown: its class is linked, cold or warm -/
theorem fc_catch {own name : String} {E : String} {ce : Cell} {q : Addr} (hown : s.vm.findClass own = some m.cls) (x : ExceptionTableEntry) (suf : List ExceptionTableEntry) (hsplit : cx.exceptionTable.toList = x :: suf)
    (hcov : covers x pc = true) (h0 : x.catchType ≠ 0) (hlink : (Cond.classLink own x.catchType name).before args s = true) (hcast : (Cond.castable E name).before args s = true)
    (hcell : H[q]? = some ce) (hv : ce.vm = .none) (hcl : s.vm.findClass E = some ce.cls)
    (kk : W p l e R s m args below meth cx H locs cells slots Q (F0 m x.handlerPc ls [.ref q])) : vx_W p l e R s m args below meth cx H locs cells slots Q (F0 m pc ls rest) q := by
  intro T hT X
  have hpl : e.platform.magicAccessors = ({} : Platform).magicAccessors := by rw [X.admits.platform]
  obtain ⟨c3, c4, hc3, hc4, hasg⟩ := Cond.castable_spec hcast
  cases Option.some.inj (hc3.symm.trans hcl)
  obtain ⟨c5, hc5, hlk⟩ := Cond.classLink_spec hown hlink e.platform hpl
  cases Option.some.inj (hc4.symm.trans hc5)
  obtain ⟨dk, _, _, kt, hd, _, _, _, _, hkt, _, hopen⟩ := hlk.here
  have hW1 : s.WarmedH (T.vm.noted m.cls x.catchType (.cls c4)) := X.warmed.noted hd hopen (State.rightAt_cls hlk)
  obtain ⟨t, a1, b1⟩ := kk (T.setVm (T.vm.noted m.cls x.catchType (.cls c4))) hT (X.noted hW1)
  refine ⟨t, ?_, b1⟩
  obtain ⟨kt1, hkt1, -⟩ := hW1.alike.2.2 _ _ hkt
  have hfit1 : (T.vm.noted m.cls x.catchType (.cls c4)).assignable ce.cls c4 = true := by rw [hW1.alike.assignable]; exact hasg
  obtain ⟨ke1, hke1⟩ := Vm.classAt_of_assignable hfit1 ⟨kt1, hkt1⟩
  have hobj : ∀ k, ce.vm ≠ .statics k := fun k h => by rw [hv] at h; cases h
  have hcell9 : ((T.setTop (F0 m pc ls rest)).pushFrame (.throwing q)).heap[q]? = some ce := by show T.heap[q]? = some ce; rw [hT]; exact hcell
  have hm9 : ((T.setTop (F0 m pc ls rest)).pushFrame (.throwing q)).vm.method? (F0 m pc ls rest).method = some meth := X.method'
  have hA : At T (F0 m pc ls rest).method cx below := X.here
  obtain ⟨hgo, hw⟩ := hA.throwing q
  refine Steps.head hgo hw ?_
  rw [stepThread_throwing (frames_entered hA.top _), fc_step (vm' := T.vm.noted m.cls x.catchType (.cls c4)) (pc := x.handlerPc) (fun Q9 E9 d9 acts9 => by
    rw [Jvm.W.findHandler_eq hm9 X.code, hsplit]
    exact fc_go (S := (T.setTop (F0 m pc ls rest)).pushFrame (.throwing q)) (f := F0 m pc ls rest) hcov h0 (X.warmed.classLinks hlk) hcell9 hobj hke1 hkt1 hfit1 Q9 E9 d9 acts9)]
  obtain ⟨g₀, hfr⟩ := X.frames_eq
  have hfr1 : (T.setVm (T.vm.noted m.cls x.catchType (.cls c4))).frames = .java g₀ :: below := hfr
  rw [State.setTop_of_frames _ hfr1] at a1
  rw [hfr, List.tail_cons]
  have e1 : (((T.setTop (F0 m pc ls rest)).pushFrame (.throwing q)).setVm (T.vm.noted m.cls x.catchType (.cls c4))).setFrames (.java { F0 m pc ls rest with pc := x.handlerPc, stack := [.ref q] } :: below) = (T.setVm (T.vm.noted m.cls x.catchType (.cls c4))).setFrames (.java (F0 m x.handlerPc ls [.ref q]) :: below) := by
    rw [State.pushFrame, State.setTop_of_frames _ hfr, State.setFrames_setFrames]
    show ((T.setVm (T.vm.noted m.cls x.catchType (.cls c4))).setFrames _).setFrames _ = _
    rw [State.setFrames_setFrames]
  rw [e1]
  exact a1
end Catch
theorem xg_IllegalArgumentException_39_in : ∀ w ∈ (vx_atS "MapFramer" 39 "java/lang/IllegalArgumentException" ["java/lang/RuntimeException", "java/lang/Exception"]).filter goodWord, w ∈ bigW := fun w h => List.mem_filter.mpr ⟨(by decide +kernel : ∀ w ∈ (vx_atS "MapFramer" 39 "java/lang/IllegalArgumentException" ["java/lang/RuntimeException", "java/lang/Exception"]).filter goodWord, w ∈ lw_tbl) w h, (List.mem_filter.mp h).2⟩
theorem xg_IllegalArgumentException_39_ot : ∀ w ∈ Cond.classLink "MapFramer" 35 "java/lang/IllegalArgumentException" :: Cond.initialized "java/lang/IllegalArgumentException" :: (vx_atS "MapFramer" 39 "java/lang/IllegalArgumentException" ["java/lang/RuntimeException", "java/lang/Exception"]), vx_ot w = true := by decide +kernel
theorem xg_IllegalArgumentException_39_at {Ts : List Cond} {A : Nat → Prop} {args : Array Value} {s : State} (hts : ∀ w ∈ Ts, w.before args s = true) (hsub : ∀ w ∈ bigW, w ∈ Ts) (hex : exP A s) : ∀ w ∈ (vx_atS "MapFramer" 39 "java/lang/IllegalArgumentException" ["java/lang/RuntimeException", "java/lang/Exception"]), w.before args s = true :=
  vx_hat (L := (vx_atS "MapFramer" 39 "java/lang/IllegalArgumentException" ["java/lang/RuntimeException", "java/lang/Exception"])) (B := [.castable "java/lang/IllegalArgumentException" "java/lang/IllegalArgumentException", .declares yx_R, .declares yx_E, .declares yx_T]) (fun w hw => hts w (hsub w (xg_IllegalArgumentException_39_in w hw))) (by decide +kernel) (vx_c (va_Nw.use rfl hex.2.2.1.1) (vx_c (va_Nw.use rfl hex.2.2.1.2.1) (vx_c (va_Nw.use rfl hex.2.2.1.2.2.1) (vx_c (va_Nw.use rfl hex.2.2.1.2.2.2) vx_n))))
theorem xg_IndexOutOfBoundsException_208_in : ∀ w ∈ (vx_atS "MapFramer" 208 "java/lang/IndexOutOfBoundsException" ["java/lang/RuntimeException", "java/lang/Exception"]).filter goodWord, w ∈ bigW := fun w h => List.mem_filter.mpr ⟨(by decide +kernel : ∀ w ∈ (vx_atS "MapFramer" 208 "java/lang/IndexOutOfBoundsException" ["java/lang/RuntimeException", "java/lang/Exception"]).filter goodWord, w ∈ lw_tbl) w h, (List.mem_filter.mp h).2⟩
theorem xg_IndexOutOfBoundsException_208_ot : ∀ w ∈ Cond.classLink "MapFramer" 204 "java/lang/IndexOutOfBoundsException" :: Cond.initialized "java/lang/IndexOutOfBoundsException" :: (vx_atS "MapFramer" 208 "java/lang/IndexOutOfBoundsException" ["java/lang/RuntimeException", "java/lang/Exception"]), vx_ot w = true := by decide +kernel
theorem xg_IndexOutOfBoundsException_208_at {Ts : List Cond} {A : Nat → Prop} {args : Array Value} {s : State} (hts : ∀ w ∈ Ts, w.before args s = true) (hsub : ∀ w ∈ bigW, w ∈ Ts) (hex : exP A s) : ∀ w ∈ (vx_atS "MapFramer" 208 "java/lang/IndexOutOfBoundsException" ["java/lang/RuntimeException", "java/lang/Exception"]), w.before args s = true :=
  vx_hat (L := (vx_atS "MapFramer" 208 "java/lang/IndexOutOfBoundsException" ["java/lang/RuntimeException", "java/lang/Exception"])) (B := [.castable "java/lang/IndexOutOfBoundsException" "java/lang/IndexOutOfBoundsException", .declares yx_R, .declares yx_E, .declares yx_T]) (fun w hw => hts w (hsub w (xg_IndexOutOfBoundsException_208_in w hw))) (by decide +kernel) (vx_c (va_Nw.use rfl hex.2.2.2.1.1) (vx_c (va_Nw.use rfl hex.2.2.2.1.2.1) (vx_c (va_Nw.use rfl hex.2.2.2.1.2.2.1) (vx_c (va_Nw.use rfl hex.2.2.2.1.2.2.2) vx_n))))
end
section
abbrev y_W_hasClass : MethodName := ⟨"MapFramer$World", "hasClass", "(I)Z"⟩
abbrev y_W_isProperClass : MethodName := ⟨"MapFramer$World", "isProperClass", "(I)Z"⟩
abbrev y_W_isValueType : MethodName := ⟨"MapFramer$World", "isValueType", "(I)Z"⟩
abbrev y_W_methodAt : MethodName := ⟨"MapFramer$World", "methodAt", "(I)LMapFramer$Method;"⟩
theorem w_0 : (Cond.fieldLink "MapFramer$World" 37 "MapFramer$World" "classCount" "I" : Cond) ∈ bigW := inB_1 56 (by decide +kernel) rfl
theorem w_1 : (Cond.methodLink "MapFramer$World" 58 ⟨"MapFramer$World", "hasClass", "(I)Z"⟩ : Cond) ∈ bigW := inB_1 228 (by decide +kernel) rfl
theorem w_2 : (Cond.instanceMethod ⟨"MapFramer$World", "hasClass", "(I)Z"⟩ : Cond) ∈ bigW := inB_1 229 (by decide +kernel) rfl
theorem w_3 : (Cond.selects "MapFramer$World" ⟨"MapFramer$World", "hasClass", "(I)Z"⟩ ⟨"MapFramer$World", "hasClass", "(I)Z"⟩ : Cond) ∈ bigW := inB_1 230 (by decide +kernel) rfl
theorem w_4 : (Cond.initialized "MapFramer$World" : Cond) ∈ bigW := inB_1 2 (by decide +kernel) rfl
theorem w_5 : (Cond.code ⟨"MapFramer$World", "hasClass", "(I)Z"⟩ prog_12_method_8_code 2 (some .boolean) : Cond) ∈ bigW := inB_1 231 rfl rfl
theorem w_6 : (Cond.fieldLink "MapFramer$World" 18 "MapFramer$World" "interfaces" "[Z" : Cond) ∈ bigW := inB_1 55 (by decide +kernel) rfl
theorem w_7 : (Cond.fieldLink "MapFramer$World" 52 "MapFramer$World" "methodCount" "I" : Cond) ∈ bigW := inB_1 64 (by decide +kernel) rfl
theorem w_8 : (Cond.lays "MapFramer$Call" "MapFramer$Call" "method" "LMapFramer$Method;" : Cond) ∈ bigW := inB_1 132 (by decide +kernel) rfl
theorem w_9 : (Cond.lays "MapFramer$Call" "MapFramer$Call" "place" "I" : Cond) ∈ bigW := inB_1 134 (by decide +kernel) rfl
theorem w_10 : (Cond.laysFinal "MapFramer$Call" "MapFramer$Call" "locals" "[J" : Cond) ∈ bigW := inB_1 136 (by decide +kernel) rfl
theorem w_11 : (Cond.laysFinal "MapFramer$Call" "MapFramer$Call" "stack" "[J" : Cond) ∈ bigW := inB_1 138 (by decide +kernel) rfl
theorem w_12 : (Cond.lays "MapFramer$Call" "MapFramer$Call" "size" "I" : Cond) ∈ bigW := inB_1 140 (by decide +kernel) rfl
theorem w_13 : (Cond.laysFinal "MapFramer$Heap" "MapFramer$Heap" "types" "[I" : Cond) ∈ bigW := inB_1 107 (by decide +kernel) rfl
theorem w_14 : (Cond.laysFinal "MapFramer$Heap" "MapFramer$Heap" "lengths" "[I" : Cond) ∈ bigW := inB_1 109 (by decide +kernel) rfl
theorem w_15 : (Cond.laysFinal "MapFramer$Heap" "MapFramer$Heap" "values" "[J" : Cond) ∈ bigW := inB_1 111 (by decide +kernel) rfl
theorem w_16 : (Cond.lays "MapFramer$Heap" "MapFramer$Heap" "made" "I" : Cond) ∈ bigW := inB_1 113 (by decide +kernel) rfl
theorem w_17 : (Cond.laysFinal "MapFramer$Machine" "MapFramer$Machine" "heap" "LMapFramer$Heap;" : Cond) ∈ bigW := inB_1 161 (by decide +kernel) rfl
theorem w_18 : (Cond.laysFinal "MapFramer$Machine" "MapFramer$Machine" "statics" "[J" : Cond) ∈ bigW := inB_1 163 (by decide +kernel) rfl
theorem w_19 : (Cond.laysFinal "MapFramer$Machine" "MapFramer$Machine" "calls" "[LMapFramer$Call;" : Cond) ∈ bigW := inB_1 165 (by decide +kernel) rfl
theorem w_20 : (Cond.lays "MapFramer$Machine" "MapFramer$Machine" "world" "LMapFramer$World;" : Cond) ∈ bigW := inB_1 167 (by decide +kernel) rfl
theorem w_21 : (Cond.lays "MapFramer$Machine" "MapFramer$Machine" "depth" "I" : Cond) ∈ bigW := inB_1 169 (by decide +kernel) rfl
theorem w_22 : (Cond.lays "MapFramer$Machine" "MapFramer$Machine" "call" "LMapFramer$Call;" : Cond) ∈ bigW := inB_1 171 (by decide +kernel) rfl
theorem w_23 : (Cond.lays "MapFramer$Machine" "MapFramer$Machine" "next" "I" : Cond) ∈ bigW := inB_1 173 (by decide +kernel) rfl
theorem w_24 : (Cond.lays "MapFramer$Machine" "MapFramer$Machine" "raises" "Z" : Cond) ∈ bigW := inB_1 175 (by decide +kernel) rfl
theorem w_25 : (Cond.lays "MapFramer$Machine" "MapFramer$Machine" "tossed" "I" : Cond) ∈ bigW := inB_1 177 (by decide +kernel) rfl
theorem w_26 : (Cond.lays "MapFramer$Machine" "MapFramer$Machine" "resultType" "I" : Cond) ∈ bigW := inB_1 179 (by decide +kernel) rfl
theorem w_27 : (Cond.lays "MapFramer$Machine" "MapFramer$Machine" "result" "J" : Cond) ∈ bigW := inB_1 181 (by decide +kernel) rfl
theorem w_28 : (Cond.lays "MapFramer$Machine" "MapFramer$Machine" "outcome" "I" : Cond) ∈ bigW := inB_1 183 (by decide +kernel) rfl
theorem w_29 : (Cond.lays "MapFramer$Machine" "MapFramer$Machine" "used" "I" : Cond) ∈ bigW := inB_1 185 (by decide +kernel) rfl
theorem w_30 : (Cond.lays "MapFramer$Machine" "MapFramer$Machine" "thrownClass" "I" : Cond) ∈ bigW := inB_1 187 (by decide +kernel) rfl
theorem w_31 : (Cond.laysFinal "MapFramer$World" "MapFramer$World" "parents" "[I" : Cond) ∈ bigW := inB_1 66 (by decide +kernel) rfl
theorem w_32 : (Cond.laysFinal "MapFramer$World" "MapFramer$World" "supers" "[I" : Cond) ∈ bigW := inB_1 68 (by decide +kernel) rfl
theorem w_33 : (Cond.laysFinal "MapFramer$World" "MapFramer$World" "interfaces" "[Z" : Cond) ∈ bigW := inB_1 70 (by decide +kernel) rfl
theorem w_34 : (Cond.lays "MapFramer$World" "MapFramer$World" "classCount" "I" : Cond) ∈ bigW := inB_1 72 (by decide +kernel) rfl
theorem w_35 : (Cond.laysFinal "MapFramer$World" "MapFramer$World" "fieldClasses" "[I" : Cond) ∈ bigW := inB_1 74 (by decide +kernel) rfl
theorem w_36 : (Cond.laysFinal "MapFramer$World" "MapFramer$World" "fieldTypes" "[I" : Cond) ∈ bigW := inB_1 76 (by decide +kernel) rfl
theorem w_37 : (Cond.laysFinal "MapFramer$World" "MapFramer$World" "fieldStatics" "[Z" : Cond) ∈ bigW := inB_1 78 (by decide +kernel) rfl
theorem w_38 : (Cond.lays "MapFramer$World" "MapFramer$World" "fieldCount" "I" : Cond) ∈ bigW := inB_1 80 (by decide +kernel) rfl
theorem w_39 : (Cond.laysFinal "MapFramer$World" "MapFramer$World" "methods" "[LMapFramer$Method;" : Cond) ∈ bigW := inB_1 82 (by decide +kernel) rfl
theorem w_40 : (Cond.lays "MapFramer$World" "MapFramer$World" "methodCount" "I" : Cond) ∈ bigW := inB_1 84 (by decide +kernel) rfl
theorem w_41 : (Cond.laysFinal "MapFramer" "MapFramer" "world" "LMapFramer$World;" : Cond) ∈ bigW := inB_1 194 (by decide +kernel) rfl
theorem w_42 : (Cond.laysFinal "MapFramer" "MapFramer" "machine" "LMapFramer$Machine;" : Cond) ∈ bigW := inB_1 196 (by decide +kernel) rfl
theorem w_43 : (Cond.laysFinal "MapFramer" "MapFramer" "tape" "[I" : Cond) ∈ bigW := inB_1 198 (by decide +kernel) rfl
theorem w_44 : (Cond.lays "MapFramer" "MapFramer" "tapeLength" "I" : Cond) ∈ bigW := inB_1 200 (by decide +kernel) rfl
theorem w_45 : (Cond.lays "MapFramerModel" "MapFramerModel" "thrown" "I" : Cond) ∈ bigW := inB_8 131 (by decide +kernel) rfl
theorem w_46 : (Cond.lays "MapFramerModel" "MapFramerModel" "classes" "I" : Cond) ∈ bigW := inB_8 133 (by decide +kernel) rfl
theorem w_47 : (Cond.laysFinal "MapFramerModel" "MapFramerModel" "above" "[I" : Cond) ∈ bigW := inB_8 135 (by decide +kernel) rfl
theorem w_48 : (Cond.laysFinal "MapFramerModel" "MapFramerModel" "isFace" "[Z" : Cond) ∈ bigW := inB_8 137 (by decide +kernel) rfl
theorem w_49 : (Cond.lays "MapFramerModel" "MapFramerModel" "fields" "I" : Cond) ∈ bigW := inB_8 139 (by decide +kernel) rfl
theorem w_50 : (Cond.laysFinal "MapFramerModel" "MapFramerModel" "fieldClass" "[I" : Cond) ∈ bigW := inB_8 141 (by decide +kernel) rfl
theorem w_51 : (Cond.laysFinal "MapFramerModel" "MapFramerModel" "fieldType" "[I" : Cond) ∈ bigW := inB_8 143 (by decide +kernel) rfl
theorem w_52 : (Cond.laysFinal "MapFramerModel" "MapFramerModel" "fieldStatic" "[Z" : Cond) ∈ bigW := inB_8 145 (by decide +kernel) rfl
theorem w_53 : (Cond.lays "MapFramerModel" "MapFramerModel" "methods" "I" : Cond) ∈ bigW := inB_8 147 (by decide +kernel) rfl
theorem w_54 : (Cond.laysFinal "MapFramerModel" "MapFramerModel" "arguments" "[I" : Cond) ∈ bigW := inB_8 149 (by decide +kernel) rfl
theorem w_55 : (Cond.laysFinal "MapFramerModel" "MapFramerModel" "argumentCount" "[I" : Cond) ∈ bigW := inB_8 151 (by decide +kernel) rfl
theorem w_56 : (Cond.laysFinal "MapFramerModel" "MapFramerModel" "results" "[I" : Cond) ∈ bigW := inB_8 153 (by decide +kernel) rfl
theorem w_57 : (Cond.laysFinal "MapFramerModel" "MapFramerModel" "sizes" "[I" : Cond) ∈ bigW := inB_8 155 (by decide +kernel) rfl
theorem w_58 : (Cond.laysFinal "MapFramerModel" "MapFramerModel" "codes" "[I" : Cond) ∈ bigW := inB_8 157 (by decide +kernel) rfl
theorem w_59 : (Cond.laysFinal "MapFramerModel" "MapFramerModel" "maxStack" "[I" : Cond) ∈ bigW := inB_8 159 (by decide +kernel) rfl
theorem w_60 : (Cond.laysFinal "MapFramerModel" "MapFramerModel" "maxLocals" "[I" : Cond) ∈ bigW := inB_8 161 (by decide +kernel) rfl
theorem w_61 : (Cond.laysFinal "MapFramerModel" "MapFramerModel" "handlers" "[I" : Cond) ∈ bigW := inB_8 163 (by decide +kernel) rfl
theorem w_62 : (Cond.laysFinal "MapFramerModel" "MapFramerModel" "handlerFrom" "[I" : Cond) ∈ bigW := inB_8 165 (by decide +kernel) rfl
theorem w_63 : (Cond.laysFinal "MapFramerModel" "MapFramerModel" "handlerTo" "[I" : Cond) ∈ bigW := inB_8 167 (by decide +kernel) rfl
theorem w_64 : (Cond.laysFinal "MapFramerModel" "MapFramerModel" "handlerPlace" "[I" : Cond) ∈ bigW := inB_8 169 (by decide +kernel) rfl
theorem w_65 : (Cond.laysFinal "MapFramerModel" "MapFramerModel" "handlerClass" "[I" : Cond) ∈ bigW := inB_8 171 (by decide +kernel) rfl
theorem w_66 : (Cond.laysFinal "MapFramerModel" "MapFramerModel" "verified" "[Z" : Cond) ∈ bigW := inB_8 173 (by decide +kernel) rfl
theorem w_67 : (Cond.laysFinal "MapFramerModel" "MapFramerModel" "fault" "[I" : Cond) ∈ bigW := inB_8 175 (by decide +kernel) rfl
theorem w_68 : (Cond.laysFinal "MapFramerModel" "MapFramerModel" "faultAt" "[I" : Cond) ∈ bigW := inB_8 177 (by decide +kernel) rfl
theorem w_69 : (Cond.lays "MapFramerModel" "MapFramerModel" "taped" "I" : Cond) ∈ bigW := inB_8 179 (by decide +kernel) rfl
theorem w_70 : (Cond.laysFinal "MapFramerModel" "MapFramerModel" "tape" "[I" : Cond) ∈ bigW := inB_8 181 (by decide +kernel) rfl
theorem w_71 : (Cond.laysFinal "MapFramerModel" "MapFramerModel" "begins" "[Z" : Cond) ∈ bigW := inB_8 183 (by decide +kernel) rfl
theorem w_72 : (Cond.laysFinal "MapFramerModel" "MapFramerModel" "high" "[I" : Cond) ∈ bigW := inB_8 185 (by decide +kernel) rfl
theorem w_73 : (Cond.laysFinal "MapFramerModel" "MapFramerModel" "locals" "[I" : Cond) ∈ bigW := inB_8 187 (by decide +kernel) rfl
theorem w_74 : (Cond.laysFinal "MapFramerModel" "MapFramerModel" "stacks" "[I" : Cond) ∈ bigW := inB_8 189 (by decide +kernel) rfl
theorem w_75 : (Cond.laysFinal "MapFramerModel" "MapFramerModel" "due" "[Z" : Cond) ∈ bigW := inB_8 191 (by decide +kernel) rfl
theorem w_76 : (Cond.laysFinal "MapFramerModel" "MapFramerModel" "dead" "[Z" : Cond) ∈ bigW := inB_8 193 (by decide +kernel) rfl
theorem w_77 : (Cond.laysFinal "MapFramerModel" "MapFramerModel" "framed" "[Z" : Cond) ∈ bigW := inB_8 195 (by decide +kernel) rfl
theorem w_78 : (Cond.lays "MapFramerModel" "MapFramerModel" "method" "I" : Cond) ∈ bigW := inB_8 197 (by decide +kernel) rfl
theorem w_79 : (Cond.lays "MapFramerModel" "MapFramerModel" "here" "I" : Cond) ∈ bigW := inB_8 199 (by decide +kernel) rfl
theorem w_80 : (Cond.lays "MapFramerModel" "MapFramerModel" "bad" "I" : Cond) ∈ bigW := inB_8 201 (by decide +kernel) rfl
theorem w_81 : (Cond.lays "MapFramerModel" "MapFramerModel" "badAt" "I" : Cond) ∈ bigW := inB_8 203 (by decide +kernel) rfl
theorem w_82 : (Cond.laysFinal "MapFramerModel" "MapFramerModel" "local" "[I" : Cond) ∈ bigW := inB_8 205 (by decide +kernel) rfl
theorem w_83 : (Cond.laysFinal "MapFramerModel" "MapFramerModel" "before" "[I" : Cond) ∈ bigW := inB_8 207 (by decide +kernel) rfl
theorem w_84 : (Cond.laysFinal "MapFramerModel" "MapFramerModel" "stack" "[I" : Cond) ∈ bigW := inB_8 209 (by decide +kernel) rfl
theorem w_85 : (Cond.lays "MapFramerModel" "MapFramerModel" "many" "I" : Cond) ∈ bigW := inB_8 211 (by decide +kernel) rfl
theorem w_86 : (Cond.laysFinal "MapFramerModel" "MapFramerModel" "given" "[I" : Cond) ∈ bigW := inB_8 213 (by decide +kernel) rfl
theorem w_87 : (Cond.laysFinal "MapFramerModel" "MapFramerModel" "givenStack" "[I" : Cond) ∈ bigW := inB_8 215 (by decide +kernel) rfl
theorem w_88 : (Cond.lays "MapFramerModel" "MapFramerModel" "givenMany" "I" : Cond) ∈ bigW := inB_8 217 (by decide +kernel) rfl
theorem w_89 : (Cond.lays "MapFramerModel" "MapFramerModel" "mostStack" "I" : Cond) ∈ bigW := inB_8 219 (by decide +kernel) rfl
theorem w_90 : (Cond.lays "MapFramerModel" "MapFramerModel" "cuts" "I" : Cond) ∈ bigW := inB_8 221 (by decide +kernel) rfl
theorem w_91 : (Cond.laysFinal "MapFramerModel" "MapFramerModel" "cutFrom" "[I" : Cond) ∈ bigW := inB_8 223 (by decide +kernel) rfl
theorem w_92 : (Cond.laysFinal "MapFramerModel" "MapFramerModel" "cutTo" "[I" : Cond) ∈ bigW := inB_8 225 (by decide +kernel) rfl
theorem w_93 : (Cond.laysFinal "MapFramerModel" "MapFramerModel" "cutPlace" "[I" : Cond) ∈ bigW := inB_8 227 (by decide +kernel) rfl
theorem w_94 : (Cond.laysFinal "MapFramerModel" "MapFramerModel" "cutClass" "[I" : Cond) ∈ bigW := inB_8 229 (by decide +kernel) rfl
theorem w_95 : (Cond.lays "MapFramerModel" "MapFramerModel" "written" "I" : Cond) ∈ bigW := inB_8 231 (by decide +kernel) rfl
theorem w_96 : (Cond.laysFinal "MapFramerModel" "MapFramerModel" "bytes" "[I" : Cond) ∈ bigW := inB_8 233 (by decide +kernel) rfl
theorem w_97 : (Cond.laysFinal "MapFramerModel" "MapFramerModel" "was" "[I" : Cond) ∈ bigW := inB_8 235 (by decide +kernel) rfl
theorem w_98 : (Cond.lays "MapFramerModel" "MapFramerModel" "wasMany" "I" : Cond) ∈ bigW := inB_8 237 (by decide +kernel) rfl
theorem w_99 : (Cond.laysFinal "MapFramerModel" "MapFramerModel" "now" "[I" : Cond) ∈ bigW := inB_8 239 (by decide +kernel) rfl
theorem w_100 : (Cond.lays "MapFramerModel" "MapFramerModel" "nowMany" "I" : Cond) ∈ bigW := inB_9 1 (by decide +kernel) rfl
theorem w_101 : (Cond.laysFinal "MapFramerModel" "MapFramerModel" "ends" "[I" : Cond) ∈ bigW := inB_9 3 (by decide +kernel) rfl
theorem w_102 : (Cond.laysFinal "MapFramerModel" "MapFramerModel" "statics" "[J" : Cond) ∈ bigW := inB_9 5 (by decide +kernel) rfl
theorem w_103 : (Cond.lays "MapFramerModel" "MapFramerModel" "things" "I" : Cond) ∈ bigW := inB_9 7 (by decide +kernel) rfl
theorem w_104 : (Cond.laysFinal "MapFramerModel" "MapFramerModel" "thingType" "[I" : Cond) ∈ bigW := inB_9 9 (by decide +kernel) rfl
theorem w_105 : (Cond.laysFinal "MapFramerModel" "MapFramerModel" "thingSize" "[I" : Cond) ∈ bigW := inB_9 11 (by decide +kernel) rfl
theorem w_106 : (Cond.laysFinal "MapFramerModel" "MapFramerModel" "elements" "[J" : Cond) ∈ bigW := inB_9 13 (by decide +kernel) rfl
theorem w_107 : (Cond.laysFinal "MapFramerModel" "MapFramerModel" "slots" "[J" : Cond) ∈ bigW := inB_9 15 (by decide +kernel) rfl
theorem w_108 : (Cond.lays "MapFramerModel" "MapFramerModel" "deep" "I" : Cond) ∈ bigW := inB_9 17 (by decide +kernel) rfl
theorem w_109 : (Cond.laysFinal "MapFramerModel" "MapFramerModel" "callMethod" "[I" : Cond) ∈ bigW := inB_9 19 (by decide +kernel) rfl
theorem w_110 : (Cond.laysFinal "MapFramerModel" "MapFramerModel" "callPlace" "[I" : Cond) ∈ bigW := inB_9 21 (by decide +kernel) rfl
theorem w_111 : (Cond.laysFinal "MapFramerModel" "MapFramerModel" "callHigh" "[I" : Cond) ∈ bigW := inB_9 23 (by decide +kernel) rfl
theorem w_112 : (Cond.laysFinal "MapFramerModel" "MapFramerModel" "values" "[J" : Cond) ∈ bigW := inB_9 25 (by decide +kernel) rfl
theorem w_113 : (Cond.laysFinal "MapFramerModel" "MapFramerModel" "piles" "[J" : Cond) ∈ bigW := inB_9 27 (by decide +kernel) rfl
theorem w_114 : (Cond.lays "MapFramerModel" "MapFramerModel" "running" "Z" : Cond) ∈ bigW := inB_9 29 (by decide +kernel) rfl
theorem w_115 : (Cond.lays "MapFramerModel" "MapFramerModel" "answer" "J" : Cond) ∈ bigW := inB_9 31 (by decide +kernel) rfl
theorem w_116 : (Cond.laysFinal "MapFramer$Method" "MapFramer$Method" "arguments" "[I" : Cond) ∈ bigW := inB_2 193 (by decide +kernel) rfl
theorem w_117 : (Cond.laysFinal "MapFramer$Method" "MapFramer$Method" "result" "I" : Cond) ∈ bigW := inB_2 195 (by decide +kernel) rfl
theorem w_118 : (Cond.lays "MapFramer$Method" "MapFramer$Method" "code" "[I" : Cond) ∈ bigW := inB_2 197 (by decide +kernel) rfl
theorem w_119 : (Cond.lays "MapFramer$Method" "MapFramer$Method" "maxStack" "I" : Cond) ∈ bigW := inB_2 199 (by decide +kernel) rfl
theorem w_120 : (Cond.lays "MapFramer$Method" "MapFramer$Method" "maxLocals" "I" : Cond) ∈ bigW := inB_2 201 (by decide +kernel) rfl
theorem w_121 : (Cond.lays "MapFramer$Method" "MapFramer$Method" "handlers" "Ljava/util/ArrayList;" : Cond) ∈ bigW := inB_2 203 (by decide +kernel) rfl
theorem w_122 : (Cond.lays "MapFramer$Method" "MapFramer$Method" "verified" "Z" : Cond) ∈ bigW := inB_2 205 (by decide +kernel) rfl
theorem w_123 : (Cond.lays "MapFramer$Method" "MapFramer$Method" "fault" "I" : Cond) ∈ bigW := inB_2 207 (by decide +kernel) rfl
theorem w_124 : (Cond.lays "MapFramer$Method" "MapFramer$Method" "faultAt" "I" : Cond) ∈ bigW := inB_2 209 (by decide +kernel) rfl
theorem w_125 : (Cond.lays "MapFramer$Method" "MapFramer$Method" "states" "[LMapFramer$State;" : Cond) ∈ bigW := inB_2 211 (by decide +kernel) rfl
theorem w_126 : (Cond.lays "MapFramer$Method" "MapFramer$Method" "frames" "[I" : Cond) ∈ bigW := inB_2 213 (by decide +kernel) rfl
theorem w_127 : (Cond.lays "MapFramer$Method" "MapFramer$Method" "frameCount" "I" : Cond) ∈ bigW := inB_2 215 (by decide +kernel) rfl
theorem w_128 : (Cond.lays "MapFramer$Method" "MapFramer$Method" "called" "I" : Cond) ∈ bigW := inB_2 217 (by decide +kernel) rfl
theorem w_129 : (Cond.lays "java/util/ArrayList" "java/util/AbstractList" "modCount" "I" : Cond) ∈ bigW := inB_2 151 (by decide +kernel) rfl
theorem w_130 : (Cond.lays "java/util/ArrayList" "java/util/ArrayList" "elementData" "[Ljava/lang/Object;" : Cond) ∈ bigW := inB_2 147 (by decide +kernel) rfl
theorem w_131 : (Cond.lays "java/util/ArrayList" "java/util/ArrayList" "size" "I" : Cond) ∈ bigW := inB_2 149 (by decide +kernel) rfl
theorem uk_C : ∀ k, k < 5 → u_lay R_C T_C k ∈ bigW := fun k hk => match k, hk with | 0, _ => w_8 | 1, _ => w_9 | 2, _ => w_10 | 3, _ => w_11 | 4, _ => w_12 | k + 5, hk => absurd hk (by omega)
theorem uw_C : ∀ w ∈ u_ws R_C T_C 5, w ∈ bigW := fun w h => by obtain ⟨k, hk, rfl⟩ := List.mem_map.mp h; exact uk_C k (List.mem_range.mp hk)
theorem uk_H : ∀ k, k < 4 → u_lay R_H T_H k ∈ bigW := fun k hk => match k, hk with | 0, _ => w_13 | 1, _ => w_14 | 2, _ => w_15 | 3, _ => w_16 | k + 4, hk => absurd hk (by omega)
theorem uw_H : ∀ w ∈ u_ws R_H T_H 4, w ∈ bigW := fun w h => by obtain ⟨k, hk, rfl⟩ := List.mem_map.mp h; exact uk_H k (List.mem_range.mp hk)
theorem uk_K : ∀ k, k < 14 → u_lay R_K T_K k ∈ bigW := fun k hk => match k, hk with | 0, _ => w_17 | 1, _ => w_18 | 2, _ => w_19 | 3, _ => w_20 | 4, _ => w_21 | 5, _ => w_22 | 6, _ => w_23 | 7, _ => w_24 | 8, _ => w_25 | 9, _ => w_26 | 10, _ => w_27 | 11, _ => w_28 | 12, _ => w_29 | 13, _ => w_30 | k + 14, hk => absurd hk (by omega)
theorem uw_K : ∀ w ∈ u_ws R_K T_K 14, w ∈ bigW := fun w h => by obtain ⟨k, hk, rfl⟩ := List.mem_map.mp h; exact uk_K k (List.mem_range.mp hk)
theorem uk_W : ∀ k, k < 10 → u_lay R_W T_W k ∈ bigW := fun k hk => match k, hk with | 0, _ => w_31 | 1, _ => w_32 | 2, _ => w_33 | 3, _ => w_34 | 4, _ => w_35 | 5, _ => w_36 | 6, _ => w_37 | 7, _ => w_38 | 8, _ => w_39 | 9, _ => w_40 | k + 10, hk => absurd hk (by omega)
theorem uw_W : ∀ w ∈ u_ws R_W T_W 10, w ∈ bigW := fun w h => by obtain ⟨k, hk, rfl⟩ := List.mem_map.mp h; exact uk_W k (List.mem_range.mp hk)
theorem uk_F : ∀ k, k < 4 → u_lay R_F T_F k ∈ bigW := fun k hk => match k, hk with | 0, _ => w_41 | 1, _ => w_42 | 2, _ => w_43 | 3, _ => w_44 | k + 4, hk => absurd hk (by omega)
theorem uw_F : ∀ w ∈ u_ws R_F T_F 4, w ∈ bigW := fun w h => by obtain ⟨k, hk, rfl⟩ := List.mem_map.mp h; exact uk_F k (List.mem_range.mp hk)
theorem uk_M : ∀ k, k < 71 → u_lay R_M T_M k ∈ bigW := fun k hk => match k, hk with | 0, _ => w_45 | 1, _ => w_46 | 2, _ => w_47 | 3, _ => w_48 | 4, _ => w_49 | 5, _ => w_50 | 6, _ => w_51 | 7, _ => w_52 | 8, _ => w_53 | 9, _ => w_54 | 10, _ => w_55 | 11, _ => w_56 | 12, _ => w_57 | 13, _ => w_58 | 14, _ => w_59 | 15, _ => w_60 | 16, _ => w_61 | 17, _ => w_62 | 18, _ => w_63 | 19, _ => w_64 | 20, _ => w_65 | 21, _ => w_66 | 22, _ => w_67 | 23, _ => w_68 | 24, _ => w_69 | 25, _ => w_70 | 26, _ => w_71 | 27, _ => w_72 | 28, _ => w_73 | 29, _ => w_74 | 30, _ => w_75 | 31, _ => w_76 | 32, _ => w_77 | 33, _ => w_78 | 34, _ => w_79 | 35, _ => w_80 | 36, _ => w_81 | 37, _ => w_82 | 38, _ => w_83 | 39, _ => w_84 | 40, _ => w_85 | 41, _ => w_86 | 42, _ => w_87 | 43, _ => w_88 | 44, _ => w_89 | 45, _ => w_90 | 46, _ => w_91 | 47, _ => w_92 | 48, _ => w_93 | 49, _ => w_94 | 50, _ => w_95 | 51, _ => w_96 | 52, _ => w_97 | 53, _ => w_98 | 54, _ => w_99 | 55, _ => w_100 | 56, _ => w_101 | 57, _ => w_102 | 58, _ => w_103 | 59, _ => w_104 | 60, _ => w_105 | 61, _ => w_106 | 62, _ => w_107 | 63, _ => w_108 | 64, _ => w_109 | 65, _ => w_110 | 66, _ => w_111 | 67, _ => w_112 | 68, _ => w_113 | 69, _ => w_114 | 70, _ => w_115 | k + 71, hk => absurd hk (by omega)
theorem uw_M : ∀ w ∈ u_ws R_M T_M 71, w ∈ bigW := fun w h => by obtain ⟨k, hk, rfl⟩ := List.mem_map.mp h; exact uk_M k (List.mem_range.mp hk)
theorem uk_E : ∀ k, k < 13 → u_lay R_E T_E k ∈ bigW := fun k hk => match k, hk with | 0, _ => w_116 | 1, _ => w_117 | 2, _ => w_118 | 3, _ => w_119 | 4, _ => w_120 | 5, _ => w_121 | 6, _ => w_122 | 7, _ => w_123 | 8, _ => w_124 | 9, _ => w_125 | 10, _ => w_126 | 11, _ => w_127 | 12, _ => w_128 | k + 13, hk => absurd hk (by omega)
theorem uw_E : ∀ w ∈ u_ws R_E T_E 13, w ∈ bigW := fun w h => by obtain ⟨k, hk, rfl⟩ := List.mem_map.mp h; exact uk_E k (List.mem_range.mp hk)
theorem uk_A : ∀ k, k < 3 → u_lay R_A T_A k ∈ bigW := fun k hk => match k, hk with | 0, _ => w_129 | 1, _ => w_130 | 2, _ => w_131 | k + 3, hk => absurd hk (by omega)
theorem uw_A : ∀ w ∈ u_ws R_A T_A 3, w ∈ bigW := fun w h => by obtain ⟨k, hk, rfl⟩ := List.mem_map.mp h; exact uk_A k (List.mem_range.mp hk)
theorem d_W_hasClass_0 : decode prog_12_method_8_code 0 = .ok (.iload_n 1, 1) := by decide +kernel
theorem d_W_hasClass_1 : decode prog_12_method_8_code 1 = .ok (.ifCond .lt 15, 3) := by decide +kernel
theorem d_W_hasClass_4 : decode prog_12_method_8_code 4 = .ok (.iload_n 1, 1) := by decide +kernel
theorem d_W_hasClass_5 : decode prog_12_method_8_code 5 = .ok (.aload_n 0, 1) := by decide +kernel
theorem d_W_hasClass_6 : decode prog_12_method_8_code 6 = .ok (.getfield 37, 3) := by decide +kernel
theorem d_W_hasClass_9 : decode prog_12_method_8_code 9 = .ok (.if_icmp .ge 7, 3) := by decide +kernel
theorem d_W_hasClass_12 : decode prog_12_method_8_code 12 = .ok (.iconst 1, 1) := by decide +kernel
theorem d_W_hasClass_13 : decode prog_12_method_8_code 13 = .ok (.goto 4, 3) := by decide +kernel
theorem d_W_hasClass_16 : decode prog_12_method_8_code 16 = .ok (.iconst 0, 1) := by decide +kernel
theorem d_W_hasClass_17 : decode prog_12_method_8_code 17 = .ok (.ireturn, 1) := by decide +kernel
theorem d_W_isProperClass_0 : decode prog_12_method_9_code 0 = .ok (.aload_n 0, 1) := by decide +kernel
theorem d_W_isProperClass_1 : decode prog_12_method_9_code 1 = .ok (.iload_n 1, 1) := by decide +kernel
theorem d_W_isProperClass_2 : decode prog_12_method_9_code 2 = .ok (.invokevirtual 58, 3) := by decide +kernel
theorem d_W_isProperClass_5 : decode prog_12_method_9_code 5 = .ok (.ifCond .eq 16, 3) := by decide +kernel
theorem d_W_isProperClass_8 : decode prog_12_method_9_code 8 = .ok (.aload_n 0, 1) := by decide +kernel
theorem d_W_isProperClass_9 : decode prog_12_method_9_code 9 = .ok (.getfield 18, 3) := by decide +kernel
theorem d_W_isProperClass_12 : decode prog_12_method_9_code 12 = .ok (.iload_n 1, 1) := by decide +kernel
theorem d_W_isProperClass_13 : decode prog_12_method_9_code 13 = .ok (.baload, 1) := by decide +kernel
theorem d_W_isProperClass_14 : decode prog_12_method_9_code 14 = .ok (.ifCond .ne 7, 3) := by decide +kernel
theorem d_W_isProperClass_17 : decode prog_12_method_9_code 17 = .ok (.iconst 1, 1) := by decide +kernel
theorem d_W_isProperClass_18 : decode prog_12_method_9_code 18 = .ok (.goto 4, 3) := by decide +kernel
theorem d_W_isProperClass_21 : decode prog_12_method_9_code 21 = .ok (.iconst 0, 1) := by decide +kernel
theorem d_W_isProperClass_22 : decode prog_12_method_9_code 22 = .ok (.ireturn, 1) := by decide +kernel
theorem d_W_isValueType_0 : decode prog_12_method_11_code 0 = .ok (.iload_n 1, 1) := by decide +kernel
theorem d_W_isValueType_1 : decode prog_12_method_11_code 1 = .ok (.iconst 1, 1) := by decide +kernel
theorem d_W_isValueType_2 : decode prog_12_method_11_code 2 = .ok (.if_icmp .lt 8, 3) := by decide +kernel
theorem d_W_isValueType_5 : decode prog_12_method_11_code 5 = .ok (.iload_n 1, 1) := by decide +kernel
theorem d_W_isValueType_6 : decode prog_12_method_11_code 6 = .ok (.iconst 4, 1) := by decide +kernel
theorem d_W_isValueType_7 : decode prog_12_method_11_code 7 = .ok (.if_icmp .le 25, 3) := by decide +kernel
theorem d_W_isValueType_10 : decode prog_12_method_11_code 10 = .ok (.aload_n 0, 1) := by decide +kernel
theorem d_W_isValueType_11 : decode prog_12_method_11_code 11 = .ok (.iload_n 1, 1) := by decide +kernel
theorem d_W_isValueType_12 : decode prog_12_method_11_code 12 = .ok (.bipush 32, 2) := by decide +kernel
theorem d_W_isValueType_14 : decode prog_12_method_11_code 14 = .ok (.isub, 1) := by decide +kernel
theorem d_W_isValueType_15 : decode prog_12_method_11_code 15 = .ok (.invokevirtual 58, 3) := by decide +kernel
theorem d_W_isValueType_18 : decode prog_12_method_11_code 18 = .ok (.ifCond .ne 14, 3) := by decide +kernel
theorem d_W_isValueType_21 : decode prog_12_method_11_code 21 = .ok (.aload_n 0, 1) := by decide +kernel
theorem d_W_isValueType_22 : decode prog_12_method_11_code 22 = .ok (.iload_n 1, 1) := by decide +kernel
theorem d_W_isValueType_23 : decode prog_12_method_11_code 23 = .ok (.bipush 64, 2) := by decide +kernel
theorem d_W_isValueType_25 : decode prog_12_method_11_code 25 = .ok (.isub, 1) := by decide +kernel
theorem d_W_isValueType_26 : decode prog_12_method_11_code 26 = .ok (.invokevirtual 58, 3) := by decide +kernel
theorem d_W_isValueType_29 : decode prog_12_method_11_code 29 = .ok (.ifCond .eq 7, 3) := by decide +kernel
theorem d_W_isValueType_32 : decode prog_12_method_11_code 32 = .ok (.iconst 1, 1) := by decide +kernel
theorem d_W_isValueType_33 : decode prog_12_method_11_code 33 = .ok (.goto 4, 3) := by decide +kernel
theorem d_W_isValueType_36 : decode prog_12_method_11_code 36 = .ok (.iconst 0, 1) := by decide +kernel
theorem d_W_isValueType_37 : decode prog_12_method_11_code 37 = .ok (.ireturn, 1) := by decide +kernel
theorem d_W_methodAt_0 : decode prog_12_method_7_code 0 = .ok (.iload_n 1, 1) := by decide +kernel
theorem d_W_methodAt_1 : decode prog_12_method_7_code 1 = .ok (.ifCond .lt 20, 3) := by decide +kernel
theorem d_W_methodAt_4 : decode prog_12_method_7_code 4 = .ok (.iload_n 1, 1) := by decide +kernel
theorem d_W_methodAt_5 : decode prog_12_method_7_code 5 = .ok (.aload_n 0, 1) := by decide +kernel
theorem d_W_methodAt_6 : decode prog_12_method_7_code 6 = .ok (.getfield 52, 3) := by decide +kernel
theorem d_W_methodAt_9 : decode prog_12_method_7_code 9 = .ok (.if_icmp .ge 12, 3) := by decide +kernel
theorem d_W_methodAt_21 : decode prog_12_method_7_code 21 = .ok (.aconst_null, 1) := by decide +kernel
theorem d_W_methodAt_22 : decode prog_12_method_7_code 22 = .ok (.areturn, 1) := by decide +kernel

abbrev ws_k_W_hasClass (w wp wu wi wc wt wx wm : Nat) : va_W := [(w, .inr (3, [.ref wp, .ref wu, .ref wi, .int 2, .ref wc, .ref wt, .ref wx, .int 0, .ref wm, .int 0]))]
set_option maxHeartbeats 4000000 in
set_option maxRecDepth 100000 in
theorem k_W_hasClass (l : Launch) (dC : Nat → ClassId) (dI : Nat → Nat → Nat) (w wp wu wi wc wt wx wm : Nat) (cv : Int32) : Met l y_W_hasClass (Cond.code y_W_hasClass prog_12_method_8_code 2 (some .boolean) :: bigW) ({ frames := 0, cells := 0, slots := 0, locals := 0 } : Room) (va_Pc [.ref w, .int cv] (fun U => va_P (dC, dI) vwCl (ws_k_W_hasClass w wp wu wi wc wt wx wm) U.heap ∧ va_K (dC, dI) vwCl [] U)) (va_Qi (fun (r : Int32) (u : Unit) => (r = 1 ∧ hasC cv) ∨ (r = 0 ∧ ¬ hasC cv)) (fun _ _ => True) (fun _ => False)) 0 0 (fun _ => False) := by
  refine Met.ofW (cc := prog_12_method_8_code) (maxL := 2) (ret := (some .boolean)) (by decide) rfl ?_
  intro p e s m args below meth cx s₁ B hml hv
  obtain ⟨rfl, hP, hK⟩ := hv
  have hx := B.exec
  have hb := B.bytes
  have hr := B.returns
  have hts := atoms_spec (ws := (Cond.code y_W_hasClass prog_12_method_8_code 2 (some .boolean) :: bigW)) B.pre
  have hsub : ∀ w ∈ bigW, w ∈ (Cond.code y_W_hasClass prog_12_method_8_code 2 (some .boolean) :: bigW) := fun w h => List.mem_cons_of_mem _ h
  have hown : s.vm.findClass "MapFramer$World" = some m.cls := findClass_of_methodNamed B.named
  have hlocks := B.notSynchronized
  have hS : va_S (fun _ => False) s.heap s.heap [] := va_S.rf
  have hP : va_P (dC, dI) vwCl [(w, .inr (3, [.ref wp, .ref wu, .ref wi, .int 2, .ref wc, .ref wt, .ref wx, .int 0, .ref wm, .int 0]))] s.heap := hP
  have hl := lv_entry ([.ref w, .int cv]) (n := 2) (Nat.le_of_ble_eq_true rfl)
  rw [lg_entry_eq]
  generalize (lg_sl ([.ref w, .int cv]) ++ List.replicate (2 - (lg_sl ([.ref w, .int cv])).length) Slot.unset).toArray = ls at hl ⊢
  have hl : lv_has ls 2 [(0, .ref w), (1, .int cv)] := hl
  refine lv_iload_n hx hb d_W_hasClass_0 rfl (lv_at hl 1 rfl) ?_
  refine lv_if_lt (tgt := 16) hx hb d_W_hasClass_1 (by decide) (fun c_1 => ?_) (fun c_1 => ?_)
  · skip
    refine lv_iconst (v := 0) hx hb d_W_hasClass_16 (by decide) ?_
    refine W.widen (k := 0) (n := 0) (Nat.le_of_ble_eq_true rfl) (Nat.le_of_ble_eq_true rfl) ?_
    exact W.zret (v := 0) hx hb hr rfl (fun t ht hW => ⟨⟨0, (), rfl, Or.inr ⟨rfl, by (try simp only [Int32.le_iff_toInt_le, Int32.lt_iff_toInt_lt, z0, z1, z2, z4, z16, z32, z34, z64, z66] at c_1); unfold hasC; omega⟩, trivial⟩, hS.F ht⟩) hS.2.2 d_W_hasClass_17
  · skip
    refine lv_iload_n hx hb d_W_hasClass_4 rfl (lv_at hl 1 rfl) ?_
    refine lv_aload_n hx hb d_W_hasClass_5 rfl (lv_at hl 0 rfl) ?_
    refine va_get (D := (dC, dI)) (ci := 3) (v := .int 2) (C := R_W) (T := T_W) (N := 10) hx hb hts (fun w h => hsub w (uw_W w h)) hown hK hP 0 rfl rfl 3 (by decide) (hts _ (hsub _ w_0)) (fun _ h9 => h9) rfl d_W_hasClass_6 ?_
    refine lv_icmp_ge (tgt := 16) hx hb d_W_hasClass_9 (by decide) (fun c_2 => ?_) (fun c_2 => ?_)
    · skip
      refine lv_iconst (v := 0) hx hb d_W_hasClass_16 (by decide) ?_
      refine W.widen (k := 0) (n := 0) (Nat.le_of_ble_eq_true rfl) (Nat.le_of_ble_eq_true rfl) ?_
      exact W.zret (v := 0) hx hb hr rfl (fun t ht hW => ⟨⟨0, (), rfl, Or.inr ⟨rfl, by (try simp only [Int32.le_iff_toInt_le, Int32.lt_iff_toInt_lt, z0, z1, z2, z4, z16, z32, z34, z64, z66] at c_1 c_2); unfold hasC; omega⟩, trivial⟩, hS.F ht⟩) hS.2.2 d_W_hasClass_17
    · skip
      refine lv_iconst (v := 1) hx hb d_W_hasClass_12 (by decide) ?_
      refine lv_goto (tgt := 17) hx hb d_W_hasClass_13 (by decide) ?_
      refine W.widen (k := 0) (n := 0) (Nat.le_of_ble_eq_true rfl) (Nat.le_of_ble_eq_true rfl) ?_
      exact W.zret (v := 1) hx hb hr rfl (fun t ht hW => ⟨⟨1, (), rfl, Or.inl ⟨rfl, by (try simp only [Int32.le_iff_toInt_le, Int32.lt_iff_toInt_lt, z0, z1, z2, z4, z16, z32, z34, z64, z66] at c_1 c_2); unfold hasC; omega⟩, trivial⟩, hS.F ht⟩) hS.2.2 d_W_hasClass_17

abbrev ws_k_W_isProperClass (w wp wu wi wc wt wx wm : Nat) (kZ : ClassId) : va_W := [(w, .inr (3, [.ref wp, .ref wu, .ref wi, .int 2, .ref wc, .ref wt, .ref wx, .int 0, .ref wm, .int 0])), (wi, .inl (kZ, 16, .inl (fun _ => 0)))]
set_option maxHeartbeats 4000000 in
set_option maxRecDepth 100000 in
theorem k_W_isProperClass (l : Launch) (dC : Nat → ClassId) (dI : Nat → Nat → Nat) (w wp wu wi wc wt wx wm : Nat) (kZ : ClassId) (cv : Int32) : Met l y_W_isProperClass (Cond.code y_W_isProperClass prog_12_method_9_code 2 (some .boolean) :: bigW) ({ frames := 1, cells := 0, slots := 0, locals := 21 } : Room) (va_Pc [.ref w, .int cv] (fun U => va_P (dC, dI) vwCl (ws_k_W_isProperClass w wp wu wi wc wt wx wm kZ) U.heap ∧ va_K (dC, dI) vwCl [(kZ, .boolean)] U)) (va_Qi (fun (r : Int32) (u : Unit) => (r = 1 ∧ hasC cv) ∨ (r = 0 ∧ ¬ hasC cv)) (fun _ _ => True) (fun _ => False)) 0 0 (fun _ => False) := by
  refine Met.ofW (cc := prog_12_method_9_code) (maxL := 2) (ret := (some .boolean)) (by decide) rfl ?_
  intro p e s m args below meth cx s₁ B hml hv
  obtain ⟨rfl, hP, hK⟩ := hv
  have hx := B.exec
  have hb := B.bytes
  have hr := B.returns
  have hts := atoms_spec (ws := (Cond.code y_W_isProperClass prog_12_method_9_code 2 (some .boolean) :: bigW)) B.pre
  have hsub : ∀ w ∈ bigW, w ∈ (Cond.code y_W_isProperClass prog_12_method_9_code 2 (some .boolean) :: bigW) := fun w h => List.mem_cons_of_mem _ h
  have hown : s.vm.findClass "MapFramer$World" = some m.cls := findClass_of_methodNamed B.named
  have hlocks := B.notSynchronized
  have hS : va_S (fun _ => False) s.heap s.heap [] := va_S.rf
  have hP : va_P (dC, dI) vwCl [(w, .inr (3, [.ref wp, .ref wu, .ref wi, .int 2, .ref wc, .ref wt, .ref wx, .int 0, .ref wm, .int 0])), (wi, .inl (kZ, 16, .inl (fun _ => 0)))] s.heap := hP
  have hl := lv_entry ([.ref w, .int cv]) (n := 2) (Nat.le_of_ble_eq_true rfl)
  rw [lg_entry_eq]
  generalize (lg_sl ([.ref w, .int cv]) ++ List.replicate (2 - (lg_sl ([.ref w, .int cv])).length) Slot.unset).toArray = ls at hl ⊢
  have hl : lv_has ls 2 [(0, .ref w), (1, .int cv)] := hl
  refine lv_aload_n hx hb d_W_isProperClass_0 rfl (lv_at hl 0 rfl) ?_
  refine lv_iload_n hx hb d_W_isProperClass_1 rfl (lv_at hl 1 rfl) ?_
  have hPc := hP.sub (ws' := [(w, .inr (3, [.ref wp, .ref wu, .ref wi, .int 2, .ref wc, .ref wt, .ref wx, .int 0, .ref wm, .int 0]))]) [0] rfl
  have hKc := hK.sub (tys' := []) [] rfl
  refine va_calli (va_runV (As := [.int cv]) (rest := []) ⟨hx, hb, hml, hown, hts⟩ (k_W_hasClass l dC dI w wp wu wi wc wt wx wm cv) (cwV 1 hts (gV hsub w_1 w_2 w_3 w_4 w_5) rfl rfl rfl (by decide +kernel) ⟨Nat.le_of_ble_eq_true rfl, Nat.le_of_ble_eq_true rfl⟩) ⟨bl_0000, va_recv hKc hPc (ci := 3) (q0 := 0) rfl rfl, fun U hU hW => ⟨rfl, by rw [hU]; exact hPc, va_K.moved hW.alike hKc⟩⟩ rfl rfl hl.1 rfl (lv_room (Nat.le_of_ble_eq_true rfl)) d_W_isProperClass_2 ⟨Nat.le_of_ble_eq_true rfl, Nat.le_of_ble_eq_true rfl⟩) hS (fun q _ h => h.elim) (fun q h => h.elim) (fun r_2 u_3 t H1 locs ht hvm hw hB hz1 hk1 hS => ?_)
  have hP := ro_keep hP hk1
  generalize H1 = H at hP hS ⊢
  refine W.widen (k := 0) (n := 0) (Nat.le_of_ble_eq_true rfl) (Nat.le_of_ble_eq_true rfl) ?_
  rcases hw with ⟨hr9, hw⟩ | ⟨hr9, hw⟩
  · subst hr9
    have p_4 := hw
    refine lv_if_eq (tgt := 21) hx hb d_W_isProperClass_5 (by decide) (fun c_5 => ?_) (fun c_5 => ?_)
    · skip
      first | exact absurd c_5 (by decide) | exact absurd (by decide) c_5
    · skip
      refine lv_aload_n hx hb d_W_isProperClass_8 rfl (lv_at hl 0 rfl) ?_
      refine va_get (D := (dC, dI)) (ci := 3) (v := .ref wi) (C := R_W) (T := T_W) (N := 10) hx hb hts (fun w h => hsub w (uw_W w h)) hown hK hP 0 rfl rfl 2 (by decide) (hts _ (hsub _ w_6)) (fun _ h9 => h9) rfl d_W_isProperClass_9 ?_
      refine lv_iload_n hx hb d_W_isProperClass_12 rfl (lv_at hl 1 rfl) ?_
      refine va_zald hx hb hK hP 1 0 rfl rfl (vp_in_iff.mpr (by have h9 := p_4; unfold hasC at h9; omega)) d_W_isProperClass_13 ?_
      refine tp_i 0 (rfl) ?_
      refine lv_if_ne (tgt := 21) hx hb d_W_isProperClass_14 (by decide) (fun c_6 => ?_) (fun c_6 => ?_)
      · skip
        first | exact absurd c_6 (by decide) | exact absurd (by decide) c_6
      · skip
        refine lv_iconst (v := 1) hx hb d_W_isProperClass_17 (by decide) ?_
        refine lv_goto (tgt := 22) hx hb d_W_isProperClass_18 (by decide) ?_
        refine W.widen (k := 0) (n := 0) (Nat.le_of_ble_eq_true rfl) (Nat.le_of_ble_eq_true rfl) ?_
        exact W.zret (v := 1) hx hb hr rfl (fun t ht hW => ⟨⟨1, (), rfl, Or.inl ⟨rfl, p_4⟩, trivial⟩, hS.F ht⟩) hS.2.2 d_W_isProperClass_22
  · subst hr9
    have p_7 := hw
    refine lv_if_eq (tgt := 21) hx hb d_W_isProperClass_5 (by decide) (fun c_8 => ?_) (fun c_8 => ?_)
    · skip
      refine lv_iconst (v := 0) hx hb d_W_isProperClass_21 (by decide) ?_
      refine W.widen (k := 0) (n := 0) (Nat.le_of_ble_eq_true rfl) (Nat.le_of_ble_eq_true rfl) ?_
      exact W.zret (v := 0) hx hb hr rfl (fun t ht hW => ⟨⟨0, (), rfl, Or.inr ⟨rfl, p_7⟩, trivial⟩, hS.F ht⟩) hS.2.2 d_W_isProperClass_22
    · skip
      first | exact absurd c_8 (by decide) | exact absurd (by decide) c_8

abbrev ws_k_W_isValueType (w wp wu wi wc wt wx wm : Nat) : va_W := [(w, .inr (3, [.ref wp, .ref wu, .ref wi, .int 2, .ref wc, .ref wt, .ref wx, .int 0, .ref wm, .int 0]))]
set_option maxHeartbeats 4000000 in
set_option maxRecDepth 100000 in
theorem k_W_isValueType (l : Launch) (dC : Nat → ClassId) (dI : Nat → Nat → Nat) (w wp wu wi wc wt wx wm : Nat) (tv : Int32) : Met l y_W_isValueType (Cond.code y_W_isValueType prog_12_method_11_code 2 (some .boolean) :: bigW) ({ frames := 1, cells := 0, slots := 0, locals := 21 } : Room) (va_Pc [.ref w, .int tv] (fun U => va_P (dC, dI) vwCl (ws_k_W_isValueType w wp wu wi wc wt wx wm) U.heap ∧ va_K (dC, dI) vwCl [] U)) (va_Qi (fun (r : Int32) (u : Unit) => (r = 1 ∧ valT tv) ∨ (r = 0 ∧ ¬ valT tv)) (fun _ _ => True) (fun _ => False)) 0 0 (fun _ => False) := by
  refine Met.ofW (cc := prog_12_method_11_code) (maxL := 2) (ret := (some .boolean)) (by decide) rfl ?_
  intro p e s m args below meth cx s₁ B hml hv
  obtain ⟨rfl, hP, hK⟩ := hv
  have hx := B.exec
  have hb := B.bytes
  have hr := B.returns
  have hts := atoms_spec (ws := (Cond.code y_W_isValueType prog_12_method_11_code 2 (some .boolean) :: bigW)) B.pre
  have hsub : ∀ w ∈ bigW, w ∈ (Cond.code y_W_isValueType prog_12_method_11_code 2 (some .boolean) :: bigW) := fun w h => List.mem_cons_of_mem _ h
  have hown : s.vm.findClass "MapFramer$World" = some m.cls := findClass_of_methodNamed B.named
  have hlocks := B.notSynchronized
  have hS : va_S (fun _ => False) s.heap s.heap [] := va_S.rf
  have hP : va_P (dC, dI) vwCl [(w, .inr (3, [.ref wp, .ref wu, .ref wi, .int 2, .ref wc, .ref wt, .ref wx, .int 0, .ref wm, .int 0]))] s.heap := hP
  have hl := lv_entry ([.ref w, .int tv]) (n := 2) (Nat.le_of_ble_eq_true rfl)
  rw [lg_entry_eq]
  generalize (lg_sl ([.ref w, .int tv]) ++ List.replicate (2 - (lg_sl ([.ref w, .int tv])).length) Slot.unset).toArray = ls at hl ⊢
  have hl : lv_has ls 2 [(0, .ref w), (1, .int tv)] := hl
  refine lv_iload_n hx hb d_W_isValueType_0 rfl (lv_at hl 1 rfl) ?_
  refine lv_iconst (v := 1) hx hb d_W_isValueType_1 (by decide) ?_
  refine lv_icmp_lt (tgt := 10) hx hb d_W_isValueType_2 (by decide) (fun c_1 => ?_) (fun c_1 => ?_)
  · skip
    refine lv_aload_n hx hb d_W_isValueType_10 rfl (lv_at hl 0 rfl) ?_
    refine lv_iload_n hx hb d_W_isValueType_11 rfl (lv_at hl 1 rfl) ?_
    refine lv_bipush (v := 32) hx hb d_W_isValueType_12 (by decide) ?_
    refine lv_isub hx hb d_W_isValueType_14 ?_
    refine lv_topi (fun x_2 ex_2 => ?_)
    have hPc := hP.sub (ws' := [(w, .inr (3, [.ref wp, .ref wu, .ref wi, .int 2, .ref wc, .ref wt, .ref wx, .int 0, .ref wm, .int 0]))]) [0] rfl
    have hKc := hK.sub (tys' := []) [] rfl
    refine va_calli (va_runV (As := [.int x_2]) (rest := []) ⟨hx, hb, hml, hown, hts⟩ (k_W_hasClass l dC dI w wp wu wi wc wt wx wm x_2) (cwV 1 hts (gV hsub w_1 w_2 w_3 w_4 w_5) rfl rfl rfl (by decide +kernel) ⟨Nat.le_of_ble_eq_true rfl, Nat.le_of_ble_eq_true rfl⟩) ⟨bl_0000, va_recv hKc hPc (ci := 3) (q0 := 0) rfl rfl, fun U hU hW => ⟨rfl, by rw [hU]; exact hPc, va_K.moved hW.alike hKc⟩⟩ rfl rfl hl.1 rfl (lv_room (Nat.le_of_ble_eq_true rfl)) d_W_isValueType_15 ⟨Nat.le_of_ble_eq_true rfl, Nat.le_of_ble_eq_true rfl⟩) hS (fun q _ h => h.elim) (fun q h => h.elim) (fun r_4 u_5 t H1 locs ht hvm hw hB hz1 hk1 hS => ?_)
    have hP := ro_keep hP hk1
    generalize H1 = H at hP hS ⊢
    refine W.widen (k := 0) (n := 0) (Nat.le_of_ble_eq_true rfl) (Nat.le_of_ble_eq_true rfl) ?_
    rcases hw with ⟨hr9, hw⟩ | ⟨hr9, hw⟩
    · subst hr9
      have p_6 := hw
      refine lv_if_ne (tgt := 32) hx hb d_W_isValueType_18 (by decide) (fun c_7 => ?_) (fun c_7 => ?_)
      · skip
        refine lv_iconst (v := 1) hx hb d_W_isValueType_32 (by decide) ?_
        refine lv_goto (tgt := 37) hx hb d_W_isValueType_33 (by decide) ?_
        refine W.widen (k := 0) (n := 0) (Nat.le_of_ble_eq_true rfl) (Nat.le_of_ble_eq_true rfl) ?_
        exact W.zret (v := 1) hx hb hr rfl (fun t ht hW => ⟨⟨1, (), rfl, Or.inl ⟨rfl, by (try simp only [Int32.le_iff_toInt_le, Int32.lt_iff_toInt_lt, z0, z1, z2, z4, z16, z32, z34, z64, z66] at c_1); rw [ex_2, hasC_32] at p_6; unfold valT; omega⟩, trivial⟩, hS.F ht⟩) hS.2.2 d_W_isValueType_37
      · skip
        first | exact absurd c_7 (by decide) | exact absurd (by decide) c_7
    · subst hr9
      have p_8 := hw
      refine lv_if_ne (tgt := 32) hx hb d_W_isValueType_18 (by decide) (fun c_9 => ?_) (fun c_9 => ?_)
      · skip
        first | exact absurd c_9 (by decide) | exact absurd (by decide) c_9
      · skip
        refine lv_aload_n hx hb d_W_isValueType_21 rfl (lv_at hl 0 rfl) ?_
        refine lv_iload_n hx hb d_W_isValueType_22 rfl (lv_at hl 1 rfl) ?_
        refine lv_bipush (v := 64) hx hb d_W_isValueType_23 (by decide) ?_
        refine lv_isub hx hb d_W_isValueType_25 ?_
        refine lv_topi (fun x_10 ex_10 => ?_)
        have hPc := hP.sub (ws' := [(w, .inr (3, [.ref wp, .ref wu, .ref wi, .int 2, .ref wc, .ref wt, .ref wx, .int 0, .ref wm, .int 0]))]) [0] rfl
        have hKc := hK.sub (tys' := []) [] rfl
        refine va_calli (va_runV (As := [.int x_10]) (rest := []) ⟨hx, hb, hml, hown, hts⟩ (k_W_hasClass l dC dI w wp wu wi wc wt wx wm x_10) (cwV 1 hts (gV hsub w_1 w_2 w_3 w_4 w_5) rfl rfl rfl (by decide +kernel) ⟨Nat.le_of_ble_eq_true rfl, Nat.le_of_ble_eq_true rfl⟩) ⟨bl_0000, va_recv hKc hPc (ci := 3) (q0 := 0) rfl rfl, fun U hU hW => ⟨rfl, by rw [hU]; exact hPc, va_K.moved hW.alike hKc⟩⟩ rfl rfl hl.1 rfl (lv_room (Nat.le_of_ble_eq_true rfl)) d_W_isValueType_26 ⟨Nat.le_of_ble_eq_true rfl, Nat.le_of_ble_eq_true rfl⟩) hS (fun q _ h => h.elim) (fun q h => h.elim) (fun r_12 u_13 t H1 locs ht hvm hw hB hz1 hk1 hS => ?_)
        have hP := ro_keep hP hk1
        generalize H1 = H at hP hS ⊢
        refine W.widen (k := 0) (n := 0) (Nat.le_of_ble_eq_true rfl) (Nat.le_of_ble_eq_true rfl) ?_
        rcases hw with ⟨hr9, hw⟩ | ⟨hr9, hw⟩
        · subst hr9
          have p_14 := hw
          refine lv_if_eq (tgt := 36) hx hb d_W_isValueType_29 (by decide) (fun c_15 => ?_) (fun c_15 => ?_)
          · skip
            first | exact absurd c_15 (by decide) | exact absurd (by decide) c_15
          · skip
            refine lv_iconst (v := 1) hx hb d_W_isValueType_32 (by decide) ?_
            refine lv_goto (tgt := 37) hx hb d_W_isValueType_33 (by decide) ?_
            refine W.widen (k := 0) (n := 0) (Nat.le_of_ble_eq_true rfl) (Nat.le_of_ble_eq_true rfl) ?_
            exact W.zret (v := 1) hx hb hr rfl (fun t ht hW => ⟨⟨1, (), rfl, Or.inl ⟨rfl, by (try simp only [Int32.le_iff_toInt_le, Int32.lt_iff_toInt_lt, z0, z1, z2, z4, z16, z32, z34, z64, z66] at c_1); rw [ex_2, hasC_32] at p_8; rw [ex_10, hasC_64] at p_14; unfold valT; omega⟩, trivial⟩, hS.F ht⟩) hS.2.2 d_W_isValueType_37
        · subst hr9
          have p_16 := hw
          refine lv_if_eq (tgt := 36) hx hb d_W_isValueType_29 (by decide) (fun c_17 => ?_) (fun c_17 => ?_)
          · skip
            refine lv_iconst (v := 0) hx hb d_W_isValueType_36 (by decide) ?_
            refine W.widen (k := 0) (n := 0) (Nat.le_of_ble_eq_true rfl) (Nat.le_of_ble_eq_true rfl) ?_
            exact W.zret (v := 0) hx hb hr rfl (fun t ht hW => ⟨⟨0, (), rfl, Or.inr ⟨rfl, by (try simp only [Int32.le_iff_toInt_le, Int32.lt_iff_toInt_lt, z0, z1, z2, z4, z16, z32, z34, z64, z66] at c_1); rw [ex_2, hasC_32] at p_8; rw [ex_10, hasC_64] at p_16; unfold valT; omega⟩, trivial⟩, hS.F ht⟩) hS.2.2 d_W_isValueType_37
          · skip
            first | exact absurd c_17 (by decide) | exact absurd (by decide) c_17
  · skip
    refine lv_iload_n hx hb d_W_isValueType_5 rfl (lv_at hl 1 rfl) ?_
    refine lv_iconst (v := 4) hx hb d_W_isValueType_6 (by decide) ?_
    refine lv_icmp_le (tgt := 32) hx hb d_W_isValueType_7 (by decide) (fun c_18 => ?_) (fun c_18 => ?_)
    · skip
      refine lv_iconst (v := 1) hx hb d_W_isValueType_32 (by decide) ?_
      refine lv_goto (tgt := 37) hx hb d_W_isValueType_33 (by decide) ?_
      refine W.widen (k := 0) (n := 0) (Nat.le_of_ble_eq_true rfl) (Nat.le_of_ble_eq_true rfl) ?_
      exact W.zret (v := 1) hx hb hr rfl (fun t ht hW => ⟨⟨1, (), rfl, Or.inl ⟨rfl, by (try simp only [Int32.le_iff_toInt_le, Int32.lt_iff_toInt_lt, z0, z1, z2, z4, z16, z32, z34, z64, z66] at c_1 c_18); skip; unfold valT; omega⟩, trivial⟩, hS.F ht⟩) hS.2.2 d_W_isValueType_37
    · skip
      refine lv_aload_n hx hb d_W_isValueType_10 rfl (lv_at hl 0 rfl) ?_
      refine lv_iload_n hx hb d_W_isValueType_11 rfl (lv_at hl 1 rfl) ?_
      refine lv_bipush (v := 32) hx hb d_W_isValueType_12 (by decide) ?_
      refine lv_isub hx hb d_W_isValueType_14 ?_
      refine lv_topi (fun x_19 ex_19 => ?_)
      have hPc := hP.sub (ws' := [(w, .inr (3, [.ref wp, .ref wu, .ref wi, .int 2, .ref wc, .ref wt, .ref wx, .int 0, .ref wm, .int 0]))]) [0] rfl
      have hKc := hK.sub (tys' := []) [] rfl
      refine va_calli (va_runV (As := [.int x_19]) (rest := []) ⟨hx, hb, hml, hown, hts⟩ (k_W_hasClass l dC dI w wp wu wi wc wt wx wm x_19) (cwV 1 hts (gV hsub w_1 w_2 w_3 w_4 w_5) rfl rfl rfl (by decide +kernel) ⟨Nat.le_of_ble_eq_true rfl, Nat.le_of_ble_eq_true rfl⟩) ⟨bl_0000, va_recv hKc hPc (ci := 3) (q0 := 0) rfl rfl, fun U hU hW => ⟨rfl, by rw [hU]; exact hPc, va_K.moved hW.alike hKc⟩⟩ rfl rfl hl.1 rfl (lv_room (Nat.le_of_ble_eq_true rfl)) d_W_isValueType_15 ⟨Nat.le_of_ble_eq_true rfl, Nat.le_of_ble_eq_true rfl⟩) hS (fun q _ h => h.elim) (fun q h => h.elim) (fun r_21 u_22 t H1 locs ht hvm hw hB hz1 hk1 hS => ?_)
      have hP := ro_keep hP hk1
      generalize H1 = H at hP hS ⊢
      refine W.widen (k := 0) (n := 0) (Nat.le_of_ble_eq_true rfl) (Nat.le_of_ble_eq_true rfl) ?_
      rcases hw with ⟨hr9, hw⟩ | ⟨hr9, hw⟩
      · subst hr9
        have p_23 := hw
        refine lv_if_ne (tgt := 32) hx hb d_W_isValueType_18 (by decide) (fun c_24 => ?_) (fun c_24 => ?_)
        · skip
          refine lv_iconst (v := 1) hx hb d_W_isValueType_32 (by decide) ?_
          refine lv_goto (tgt := 37) hx hb d_W_isValueType_33 (by decide) ?_
          refine W.widen (k := 0) (n := 0) (Nat.le_of_ble_eq_true rfl) (Nat.le_of_ble_eq_true rfl) ?_
          exact W.zret (v := 1) hx hb hr rfl (fun t ht hW => ⟨⟨1, (), rfl, Or.inl ⟨rfl, by (try simp only [Int32.le_iff_toInt_le, Int32.lt_iff_toInt_lt, z0, z1, z2, z4, z16, z32, z34, z64, z66] at c_1 c_18); rw [ex_19, hasC_32] at p_23; unfold valT; omega⟩, trivial⟩, hS.F ht⟩) hS.2.2 d_W_isValueType_37
        · skip
          first | exact absurd c_24 (by decide) | exact absurd (by decide) c_24
      · subst hr9
        have p_25 := hw
        refine lv_if_ne (tgt := 32) hx hb d_W_isValueType_18 (by decide) (fun c_26 => ?_) (fun c_26 => ?_)
        · skip
          first | exact absurd c_26 (by decide) | exact absurd (by decide) c_26
        · skip
          refine lv_aload_n hx hb d_W_isValueType_21 rfl (lv_at hl 0 rfl) ?_
          refine lv_iload_n hx hb d_W_isValueType_22 rfl (lv_at hl 1 rfl) ?_
          refine lv_bipush (v := 64) hx hb d_W_isValueType_23 (by decide) ?_
          refine lv_isub hx hb d_W_isValueType_25 ?_
          refine lv_topi (fun x_27 ex_27 => ?_)
          have hPc := hP.sub (ws' := [(w, .inr (3, [.ref wp, .ref wu, .ref wi, .int 2, .ref wc, .ref wt, .ref wx, .int 0, .ref wm, .int 0]))]) [0] rfl
          have hKc := hK.sub (tys' := []) [] rfl
          refine va_calli (va_runV (As := [.int x_27]) (rest := []) ⟨hx, hb, hml, hown, hts⟩ (k_W_hasClass l dC dI w wp wu wi wc wt wx wm x_27) (cwV 1 hts (gV hsub w_1 w_2 w_3 w_4 w_5) rfl rfl rfl (by decide +kernel) ⟨Nat.le_of_ble_eq_true rfl, Nat.le_of_ble_eq_true rfl⟩) ⟨bl_0000, va_recv hKc hPc (ci := 3) (q0 := 0) rfl rfl, fun U hU hW => ⟨rfl, by rw [hU]; exact hPc, va_K.moved hW.alike hKc⟩⟩ rfl rfl hl.1 rfl (lv_room (Nat.le_of_ble_eq_true rfl)) d_W_isValueType_26 ⟨Nat.le_of_ble_eq_true rfl, Nat.le_of_ble_eq_true rfl⟩) hS (fun q _ h => h.elim) (fun q h => h.elim) (fun r_29 u_30 t H1 locs ht hvm hw hB hz1 hk1 hS => ?_)
          have hP := ro_keep hP hk1
          generalize H1 = H at hP hS ⊢
          refine W.widen (k := 0) (n := 0) (Nat.le_of_ble_eq_true rfl) (Nat.le_of_ble_eq_true rfl) ?_
          rcases hw with ⟨hr9, hw⟩ | ⟨hr9, hw⟩
          · subst hr9
            have p_31 := hw
            refine lv_if_eq (tgt := 36) hx hb d_W_isValueType_29 (by decide) (fun c_32 => ?_) (fun c_32 => ?_)
            · skip
              first | exact absurd c_32 (by decide) | exact absurd (by decide) c_32
            · skip
              refine lv_iconst (v := 1) hx hb d_W_isValueType_32 (by decide) ?_
              refine lv_goto (tgt := 37) hx hb d_W_isValueType_33 (by decide) ?_
              refine W.widen (k := 0) (n := 0) (Nat.le_of_ble_eq_true rfl) (Nat.le_of_ble_eq_true rfl) ?_
              exact W.zret (v := 1) hx hb hr rfl (fun t ht hW => ⟨⟨1, (), rfl, Or.inl ⟨rfl, by (try simp only [Int32.le_iff_toInt_le, Int32.lt_iff_toInt_lt, z0, z1, z2, z4, z16, z32, z34, z64, z66] at c_1 c_18); rw [ex_19, hasC_32] at p_25; rw [ex_27, hasC_64] at p_31; unfold valT; omega⟩, trivial⟩, hS.F ht⟩) hS.2.2 d_W_isValueType_37
          · subst hr9
            have p_33 := hw
            refine lv_if_eq (tgt := 36) hx hb d_W_isValueType_29 (by decide) (fun c_34 => ?_) (fun c_34 => ?_)
            · skip
              refine lv_iconst (v := 0) hx hb d_W_isValueType_36 (by decide) ?_
              refine W.widen (k := 0) (n := 0) (Nat.le_of_ble_eq_true rfl) (Nat.le_of_ble_eq_true rfl) ?_
              exact W.zret (v := 0) hx hb hr rfl (fun t ht hW => ⟨⟨0, (), rfl, Or.inr ⟨rfl, by (try simp only [Int32.le_iff_toInt_le, Int32.lt_iff_toInt_lt, z0, z1, z2, z4, z16, z32, z34, z64, z66] at c_1 c_18); rw [ex_19, hasC_32] at p_25; rw [ex_27, hasC_64] at p_33; unfold valT; omega⟩, trivial⟩, hS.F ht⟩) hS.2.2 d_W_isValueType_37
            · skip
              first | exact absurd c_34 (by decide) | exact absurd (by decide) c_34

abbrev ws_k_W_methodAt (w wp wu wi wc wt wx wm : Nat) : va_W := [(w, .inr (3, [.ref wp, .ref wu, .ref wi, .int 2, .ref wc, .ref wt, .ref wx, .int 0, .ref wm, .int 0]))]
set_option maxHeartbeats 4000000 in
set_option maxRecDepth 100000 in
theorem k_W_methodAt (l : Launch) (dC : Nat → ClassId) (dI : Nat → Nat → Nat) (w wp wu wi wc wt wx wm : Nat) (i : Int32) : Met l y_W_methodAt (Cond.code y_W_methodAt prog_12_method_7_code 2 (some (.object "MapFramer$Method")) :: bigW) ({ frames := 0, cells := 0, slots := 0, locals := 0 } : Room) (va_Pc [.ref w, .int i] (fun U => va_P (dC, dI) vwCl (ws_k_W_methodAt w wp wu wi wc wt wx wm) U.heap ∧ va_K (dC, dI) vwCl [] U)) (va_Qq (fun (r : Option Nat) (u : Unit) => r = none) (fun _ _ => True) (fun _ => False)) 0 0 (fun _ => False) := by
  refine Met.ofW (cc := prog_12_method_7_code) (maxL := 2) (ret := (some (.object "MapFramer$Method"))) (by decide) rfl ?_
  intro p e s m args below meth cx s₁ B hml hv
  obtain ⟨rfl, hP, hK⟩ := hv
  have hx := B.exec
  have hb := B.bytes
  have hr := B.returns
  have hts := atoms_spec (ws := (Cond.code y_W_methodAt prog_12_method_7_code 2 (some (.object "MapFramer$Method")) :: bigW)) B.pre
  have hsub : ∀ w ∈ bigW, w ∈ (Cond.code y_W_methodAt prog_12_method_7_code 2 (some (.object "MapFramer$Method")) :: bigW) := fun w h => List.mem_cons_of_mem _ h
  have hown : s.vm.findClass "MapFramer$World" = some m.cls := findClass_of_methodNamed B.named
  have hlocks := B.notSynchronized
  have hS : va_S (fun _ => False) s.heap s.heap [] := va_S.rf
  have hP : va_P (dC, dI) vwCl [(w, .inr (3, [.ref wp, .ref wu, .ref wi, .int 2, .ref wc, .ref wt, .ref wx, .int 0, .ref wm, .int 0]))] s.heap := hP
  have hl := lv_entry ([.ref w, .int i]) (n := 2) (Nat.le_of_ble_eq_true rfl)
  rw [lg_entry_eq]
  generalize (lg_sl ([.ref w, .int i]) ++ List.replicate (2 - (lg_sl ([.ref w, .int i])).length) Slot.unset).toArray = ls at hl ⊢
  have hl : lv_has ls 2 [(0, .ref w), (1, .int i)] := hl
  refine lv_iload_n hx hb d_W_methodAt_0 rfl (lv_at hl 1 rfl) ?_
  refine lv_if_lt (tgt := 21) hx hb d_W_methodAt_1 (by decide) (fun c_1 => ?_) (fun c_1 => ?_)
  · skip
    refine lv_null hx hb d_W_methodAt_21 ?_
    refine W.widen (k := 0) (n := 0) (Nat.le_of_ble_eq_true rfl) (Nat.le_of_ble_eq_true rfl) ?_
    exact W.aret (v := .null) hx hb hr (Or.inl ⟨_, rfl⟩) (Or.inl rfl) (fun t ht hW => ⟨⟨none, (), rfl, rfl, trivial⟩, hS.F ht⟩) hS.2.2 d_W_methodAt_22
  · skip
    refine lv_iload_n hx hb d_W_methodAt_4 rfl (lv_at hl 1 rfl) ?_
    refine lv_aload_n hx hb d_W_methodAt_5 rfl (lv_at hl 0 rfl) ?_
    refine va_get (D := (dC, dI)) (ci := 3) (v := .int 0) (C := R_W) (T := T_W) (N := 10) hx hb hts (fun w h => hsub w (uw_W w h)) hown hK hP 0 rfl rfl 9 (by decide) (hts _ (hsub _ w_7)) (fun _ h9 => h9) rfl d_W_methodAt_6 ?_
    refine lv_icmp_ge (tgt := 21) hx hb d_W_methodAt_9 (by decide) (fun c_2 => ?_) (fun c_2 => ?_)
    · skip
      refine lv_null hx hb d_W_methodAt_21 ?_
      refine W.widen (k := 0) (n := 0) (Nat.le_of_ble_eq_true rfl) (Nat.le_of_ble_eq_true rfl) ?_
      exact W.aret (v := .null) hx hb hr (Or.inl ⟨_, rfl⟩) (Or.inl rfl) (fun t ht hW => ⟨⟨none, (), rfl, rfl, trivial⟩, hS.F ht⟩) hS.2.2 d_W_methodAt_22
    · skip
      exact absurd (Int32.not_lt.mp c_1) c_2
end
section
abbrev y_W_addClass : MethodName := ⟨"MapFramer$World", "addClass", "(IZ)I"⟩
abbrev y_W_addField : MethodName := ⟨"MapFramer$World", "addField", "(IIZ)I"⟩
abbrev y_W_argumentType : MethodName := ⟨"MapFramer$World", "argumentType", "(II)I"⟩
abbrev y_W_argumentCount : MethodName := ⟨"MapFramer$World", "argumentCount", "(I)I"⟩
abbrev y_java_util_AbstractCollection_init : MethodName := ⟨"java/util/AbstractCollection", "<init>", "()V"⟩
abbrev y_java_util_AbstractList_init : MethodName := ⟨"java/util/AbstractList", "<init>", "()V"⟩
abbrev y_java_util_ArrayList_init : MethodName := ⟨"java/util/ArrayList", "<init>", "()V"⟩
abbrev y_E_init : MethodName := ⟨"MapFramer$Method", "<init>", "([II)V"⟩
abbrev y_W_addMethod : MethodName := ⟨"MapFramer$World", "addMethod", "(II)I"⟩
theorem w_132 : (Cond.fieldLink "MapFramer$World" 11 "MapFramer$World" "parents" "[I" : Cond) ∈ bigW := inB_1 53 (by decide +kernel) rfl
theorem w_133 : (Cond.fieldLink "MapFramer$World" 15 "MapFramer$World" "supers" "[I" : Cond) ∈ bigW := inB_1 54 (by decide +kernel) rfl
theorem w_134 : (Cond.fieldLink "MapFramer$World" 22 "MapFramer$World" "fieldClasses" "[I" : Cond) ∈ bigW := inB_1 58 (by decide +kernel) rfl
theorem w_135 : (Cond.fieldLink "MapFramer$World" 41 "MapFramer$World" "fieldCount" "I" : Cond) ∈ bigW := inB_1 61 (by decide +kernel) rfl
theorem w_136 : (Cond.fieldLink "MapFramer$World" 25 "MapFramer$World" "fieldTypes" "[I" : Cond) ∈ bigW := inB_1 59 (by decide +kernel) rfl
theorem w_137 : (Cond.fieldLink "MapFramer$World" 28 "MapFramer$World" "fieldStatics" "[Z" : Cond) ∈ bigW := inB_1 60 (by decide +kernel) rfl
theorem w_138 : (Cond.methodLink "MapFramer$World" 48 ⟨"MapFramer$World", "argumentType", "(II)I"⟩ : Cond) ∈ bigW := inB_2 111 (by decide +kernel) rfl
theorem w_139 : (Cond.static ⟨"MapFramer$World", "argumentType", "(II)I"⟩ : Cond) ∈ bigW := inB_2 112 (by decide +kernel) rfl
theorem w_140 : (Cond.code ⟨"MapFramer$World", "argumentType", "(II)I"⟩ prog_12_method_5_code 2 (some .int) : Cond) ∈ bigW := inB_2 113 rfl rfl
theorem w_141 : (Cond.methodLink "java/util/AbstractCollection" 1 ⟨"java/lang/Object", "<init>", "()V"⟩ : Cond) ∈ bigW := inB_2 139 (by decide +kernel) rfl
theorem w_142 : (Cond.instanceMethod ⟨"java/lang/Object", "<init>", "()V"⟩ : Cond) ∈ bigW := inB_1 43 (by decide +kernel) rfl
theorem w_143 : (Cond.code ⟨"java/lang/Object", "<init>", "()V"⟩ object_method_1_code 1 none : Cond) ∈ bigW := inB_1 44 rfl rfl
theorem w_144 : (Cond.methodLink "java/util/AbstractList" 1 ⟨"java/util/AbstractCollection", "<init>", "()V"⟩ : Cond) ∈ bigW := inB_2 136 (by decide +kernel) rfl
theorem w_145 : (Cond.code ⟨"java/util/AbstractCollection", "<init>", "()V"⟩ prog_34_method_1_code 1 none : Cond) ∈ bigW := inB_2 138 rfl rfl
theorem w_146 : (Cond.initialized "java/util/AbstractCollection" : Cond) ∈ bigW := inB_1 13 (by decide +kernel) rfl
theorem w_147 : (Cond.instanceMethod ⟨"java/util/AbstractCollection", "<init>", "()V"⟩ : Cond) ∈ bigW := inB_2 137 (by decide +kernel) rfl
theorem w_148 : (Cond.fieldLink "java/util/AbstractList" 7 "java/util/AbstractList" "modCount" "I" : Cond) ∈ bigW := inB_2 144 (by decide +kernel) rfl
theorem w_149 : (Cond.methodLink "java/util/ArrayList" 1 ⟨"java/util/AbstractList", "<init>", "()V"⟩ : Cond) ∈ bigW := inB_2 133 (by decide +kernel) rfl
theorem w_150 : (Cond.code ⟨"java/util/AbstractList", "<init>", "()V"⟩ prog_35_method_1_code 1 none : Cond) ∈ bigW := inB_2 135 rfl rfl
theorem w_151 : (Cond.initialized "java/util/AbstractList" : Cond) ∈ bigW := inB_1 14 (by decide +kernel) rfl
theorem w_152 : (Cond.instanceMethod ⟨"java/util/AbstractList", "<init>", "()V"⟩ : Cond) ∈ bigW := inB_2 134 (by decide +kernel) rfl
theorem w_153 : (Cond.fieldLink "java/util/ArrayList" 39 "java/util/ArrayList" "DEFAULTCAPACITY_EMPTY_ELEMENTDATA" "[Ljava/lang/Object;" : Cond) ∈ bigW := inB_2 140 (by decide +kernel) rfl
theorem w_154 : (Cond.fieldLink "java/util/ArrayList" 9 "java/util/ArrayList" "elementData" "[Ljava/lang/Object;" : Cond) ∈ bigW := inB_2 142 (by decide +kernel) rfl
theorem w_155 : (Cond.methodLink "MapFramer$Method" 3 ⟨"java/lang/Object", "<init>", "()V"⟩ : Cond) ∈ bigW := inB_2 127 (by decide +kernel) rfl
theorem w_156 : (Cond.arrayClass .int : Cond) ∈ bigW := inB_1 87 (by decide +kernel) rfl
theorem w_157 : (Cond.fieldLink "MapFramer$Method" 9 "MapFramer$Method" "code" "[I" : Cond) ∈ bigW := inB_2 164 (by decide +kernel) rfl
theorem w_158 : (Cond.classLink "MapFramer$Method" 15 "java/util/ArrayList" : Cond) ∈ bigW := inB_2 128 (by decide +kernel) rfl
theorem w_159 : (Cond.instantiable "java/util/ArrayList" 3 : Cond) ∈ bigW := inB_2 129 (by decide +kernel) rfl
theorem w_160 : (Cond.initialized "java/util/ArrayList" : Cond) ∈ bigW := inB_1 15 (by decide +kernel) rfl
theorem w_161 : (Cond.methodLink "MapFramer$Method" 17 ⟨"java/util/ArrayList", "<init>", "()V"⟩ : Cond) ∈ bigW := inB_2 130 (by decide +kernel) rfl
theorem w_162 : (Cond.code ⟨"java/util/ArrayList", "<init>", "()V"⟩ prog_36_method_2_code 1 none : Cond) ∈ bigW := inB_2 132 rfl rfl
theorem w_163 : (Cond.instanceMethod ⟨"java/util/ArrayList", "<init>", "()V"⟩ : Cond) ∈ bigW := inB_2 131 (by decide +kernel) rfl
theorem w_164 : (Cond.fieldLink "MapFramer$Method" 18 "MapFramer$Method" "handlers" "Ljava/util/ArrayList;" : Cond) ∈ bigW := inB_2 172 (by decide +kernel) rfl
theorem w_165 : (Cond.fieldLink "MapFramer$Method" 22 "MapFramer$Method" "faultAt" "I" : Cond) ∈ bigW := inB_2 181 (by decide +kernel) rfl
theorem w_166 : (Cond.classLink "MapFramer$Method" 26 "MapFramer$State" : Cond) ∈ bigW := inB_2 154 (by decide +kernel) rfl
theorem w_167 : (Cond.fieldLink "MapFramer$Method" 28 "MapFramer$Method" "states" "[LMapFramer$State;" : Cond) ∈ bigW := inB_2 183 (by decide +kernel) rfl
theorem w_168 : (Cond.fieldLink "MapFramer$Method" 32 "MapFramer$Method" "frames" "[I" : Cond) ∈ bigW := inB_2 185 (by decide +kernel) rfl
theorem w_169 : (Cond.fieldLink "MapFramer$Method" 35 "MapFramer$Method" "arguments" "[I" : Cond) ∈ bigW := inB_2 157 (by decide +kernel) rfl
theorem w_170 : (Cond.fieldLink "MapFramer$Method" 38 "MapFramer$Method" "result" "I" : Cond) ∈ bigW := inB_2 161 (by decide +kernel) rfl
theorem w_171 : (Cond.methodLink "MapFramer$World" 44 ⟨"MapFramer$World", "argumentCount", "(I)I"⟩ : Cond) ∈ bigW := inB_2 122 (by decide +kernel) rfl
theorem w_172 : (Cond.static ⟨"MapFramer$World", "argumentCount", "(I)I"⟩ : Cond) ∈ bigW := inB_2 109 (by decide +kernel) rfl
theorem w_173 : (Cond.code ⟨"MapFramer$World", "argumentCount", "(I)I"⟩ prog_12_method_6_code 2 (some .int) : Cond) ∈ bigW := inB_2 110 rfl rfl
theorem w_174 : (Cond.fieldLink "MapFramer$World" 33 "MapFramer$World" "methods" "[LMapFramer$Method;" : Cond) ∈ bigW := inB_1 63 (by decide +kernel) rfl
theorem w_175 : (Cond.classLink "MapFramer$World" 31 "MapFramer$Method" : Cond) ∈ bigW := inB_1 51 (by decide +kernel) rfl
theorem w_176 : (Cond.instantiable "MapFramer$Method" 13 : Cond) ∈ bigW := inB_2 123 (by decide +kernel) rfl
theorem w_177 : (Cond.initialized "MapFramer$Method" : Cond) ∈ bigW := inB_1 12 (by decide +kernel) rfl
theorem w_178 : (Cond.methodLink "MapFramer$World" 55 ⟨"MapFramer$Method", "<init>", "([II)V"⟩ : Cond) ∈ bigW := inB_2 124 (by decide +kernel) rfl
theorem w_179 : (Cond.code ⟨"MapFramer$Method", "<init>", "([II)V"⟩ prog_7_method_1_code 3 none : Cond) ∈ bigW := inB_2 126 rfl rfl
theorem w_180 : (Cond.instanceMethod ⟨"MapFramer$Method", "<init>", "([II)V"⟩ : Cond) ∈ bigW := inB_2 125 (by decide +kernel) rfl
theorem d_W_addClass_0 : decode prog_12_method_2_code 0 = .ok (.aload_n 0, 1) := by decide +kernel
theorem d_W_addClass_1 : decode prog_12_method_2_code 1 = .ok (.getfield 11, 3) := by decide +kernel
theorem d_W_addClass_4 : decode prog_12_method_2_code 4 = .ok (.aload_n 0, 1) := by decide +kernel
theorem d_W_addClass_5 : decode prog_12_method_2_code 5 = .ok (.getfield 37, 3) := by decide +kernel
theorem d_W_addClass_8 : decode prog_12_method_2_code 8 = .ok (.iload_n 1, 1) := by decide +kernel
theorem d_W_addClass_9 : decode prog_12_method_2_code 9 = .ok (.iastore, 1) := by decide +kernel
theorem d_W_addClass_10 : decode prog_12_method_2_code 10 = .ok (.aload_n 0, 1) := by decide +kernel
theorem d_W_addClass_11 : decode prog_12_method_2_code 11 = .ok (.getfield 15, 3) := by decide +kernel
theorem d_W_addClass_14 : decode prog_12_method_2_code 14 = .ok (.aload_n 0, 1) := by decide +kernel
theorem d_W_addClass_15 : decode prog_12_method_2_code 15 = .ok (.getfield 37, 3) := by decide +kernel
theorem d_W_addClass_18 : decode prog_12_method_2_code 18 = .ok (.aload_n 0, 1) := by decide +kernel
theorem d_W_addClass_19 : decode prog_12_method_2_code 19 = .ok (.getfield 15, 3) := by decide +kernel
theorem d_W_addClass_22 : decode prog_12_method_2_code 22 = .ok (.iload_n 1, 1) := by decide +kernel
theorem d_W_addClass_23 : decode prog_12_method_2_code 23 = .ok (.iaload, 1) := by decide +kernel
theorem d_W_addClass_24 : decode prog_12_method_2_code 24 = .ok (.iconst 1, 1) := by decide +kernel
theorem d_W_addClass_25 : decode prog_12_method_2_code 25 = .ok (.aload_n 0, 1) := by decide +kernel
theorem d_W_addClass_26 : decode prog_12_method_2_code 26 = .ok (.getfield 37, 3) := by decide +kernel
theorem d_W_addClass_29 : decode prog_12_method_2_code 29 = .ok (.ishl, 1) := by decide +kernel
theorem d_W_addClass_30 : decode prog_12_method_2_code 30 = .ok (.ior, 1) := by decide +kernel
theorem d_W_addClass_31 : decode prog_12_method_2_code 31 = .ok (.iastore, 1) := by decide +kernel
theorem d_W_addClass_32 : decode prog_12_method_2_code 32 = .ok (.aload_n 0, 1) := by decide +kernel
theorem d_W_addClass_33 : decode prog_12_method_2_code 33 = .ok (.getfield 18, 3) := by decide +kernel
theorem d_W_addClass_36 : decode prog_12_method_2_code 36 = .ok (.aload_n 0, 1) := by decide +kernel
theorem d_W_addClass_37 : decode prog_12_method_2_code 37 = .ok (.getfield 37, 3) := by decide +kernel
theorem d_W_addClass_40 : decode prog_12_method_2_code 40 = .ok (.iload_n 2, 1) := by decide +kernel
theorem d_W_addClass_41 : decode prog_12_method_2_code 41 = .ok (.bastore, 1) := by decide +kernel
theorem d_W_addClass_42 : decode prog_12_method_2_code 42 = .ok (.aload_n 0, 1) := by decide +kernel
theorem d_W_addClass_43 : decode prog_12_method_2_code 43 = .ok (.dup, 1) := by decide +kernel
theorem d_W_addClass_44 : decode prog_12_method_2_code 44 = .ok (.getfield 37, 3) := by decide +kernel
theorem d_W_addClass_47 : decode prog_12_method_2_code 47 = .ok (.iconst 1, 1) := by decide +kernel
theorem d_W_addClass_48 : decode prog_12_method_2_code 48 = .ok (.iadd, 1) := by decide +kernel
theorem d_W_addClass_49 : decode prog_12_method_2_code 49 = .ok (.putfield 37, 3) := by decide +kernel
theorem d_W_addClass_52 : decode prog_12_method_2_code 52 = .ok (.aload_n 0, 1) := by decide +kernel
theorem d_W_addClass_53 : decode prog_12_method_2_code 53 = .ok (.getfield 37, 3) := by decide +kernel
theorem d_W_addClass_56 : decode prog_12_method_2_code 56 = .ok (.iconst 1, 1) := by decide +kernel
theorem d_W_addClass_57 : decode prog_12_method_2_code 57 = .ok (.isub, 1) := by decide +kernel
theorem d_W_addClass_58 : decode prog_12_method_2_code 58 = .ok (.ireturn, 1) := by decide +kernel
theorem d_W_addField_0 : decode prog_12_method_3_code 0 = .ok (.aload_n 0, 1) := by decide +kernel
theorem d_W_addField_1 : decode prog_12_method_3_code 1 = .ok (.getfield 22, 3) := by decide +kernel
theorem d_W_addField_4 : decode prog_12_method_3_code 4 = .ok (.aload_n 0, 1) := by decide +kernel
theorem d_W_addField_5 : decode prog_12_method_3_code 5 = .ok (.getfield 41, 3) := by decide +kernel
theorem d_W_addField_8 : decode prog_12_method_3_code 8 = .ok (.iload_n 1, 1) := by decide +kernel
theorem d_W_addField_9 : decode prog_12_method_3_code 9 = .ok (.iastore, 1) := by decide +kernel
theorem d_W_addField_10 : decode prog_12_method_3_code 10 = .ok (.aload_n 0, 1) := by decide +kernel
theorem d_W_addField_11 : decode prog_12_method_3_code 11 = .ok (.getfield 25, 3) := by decide +kernel
theorem d_W_addField_14 : decode prog_12_method_3_code 14 = .ok (.aload_n 0, 1) := by decide +kernel
theorem d_W_addField_15 : decode prog_12_method_3_code 15 = .ok (.getfield 41, 3) := by decide +kernel
theorem d_W_addField_18 : decode prog_12_method_3_code 18 = .ok (.iload_n 2, 1) := by decide +kernel
theorem d_W_addField_19 : decode prog_12_method_3_code 19 = .ok (.iastore, 1) := by decide +kernel
theorem d_W_addField_20 : decode prog_12_method_3_code 20 = .ok (.aload_n 0, 1) := by decide +kernel
theorem d_W_addField_21 : decode prog_12_method_3_code 21 = .ok (.getfield 28, 3) := by decide +kernel
theorem d_W_addField_24 : decode prog_12_method_3_code 24 = .ok (.aload_n 0, 1) := by decide +kernel
theorem d_W_addField_25 : decode prog_12_method_3_code 25 = .ok (.getfield 41, 3) := by decide +kernel
theorem d_W_addField_28 : decode prog_12_method_3_code 28 = .ok (.iload_n 3, 1) := by decide +kernel
theorem d_W_addField_29 : decode prog_12_method_3_code 29 = .ok (.bastore, 1) := by decide +kernel
theorem d_W_addField_30 : decode prog_12_method_3_code 30 = .ok (.aload_n 0, 1) := by decide +kernel
theorem d_W_addField_31 : decode prog_12_method_3_code 31 = .ok (.dup, 1) := by decide +kernel
theorem d_W_addField_32 : decode prog_12_method_3_code 32 = .ok (.getfield 41, 3) := by decide +kernel
theorem d_W_addField_35 : decode prog_12_method_3_code 35 = .ok (.iconst 1, 1) := by decide +kernel
theorem d_W_addField_36 : decode prog_12_method_3_code 36 = .ok (.iadd, 1) := by decide +kernel
theorem d_W_addField_37 : decode prog_12_method_3_code 37 = .ok (.putfield 41, 3) := by decide +kernel
theorem d_W_addField_40 : decode prog_12_method_3_code 40 = .ok (.aload_n 0, 1) := by decide +kernel
theorem d_W_addField_41 : decode prog_12_method_3_code 41 = .ok (.getfield 41, 3) := by decide +kernel
theorem d_W_addField_44 : decode prog_12_method_3_code 44 = .ok (.iconst 1, 1) := by decide +kernel
theorem d_W_addField_45 : decode prog_12_method_3_code 45 = .ok (.isub, 1) := by decide +kernel
theorem d_W_addField_46 : decode prog_12_method_3_code 46 = .ok (.ireturn, 1) := by decide +kernel
theorem d_W_argumentType_0 : decode prog_12_method_5_code 0 = .ok (.iload_n 0, 1) := by decide +kernel
theorem d_W_argumentType_1 : decode prog_12_method_5_code 1 = .ok (.bipush 8, 2) := by decide +kernel
theorem d_W_argumentType_3 : decode prog_12_method_5_code 3 = .ok (.iload_n 1, 1) := by decide +kernel
theorem d_W_argumentType_4 : decode prog_12_method_5_code 4 = .ok (.imul, 1) := by decide +kernel
theorem d_W_argumentType_5 : decode prog_12_method_5_code 5 = .ok (.iushr, 1) := by decide +kernel
theorem d_W_argumentType_6 : decode prog_12_method_5_code 6 = .ok (.sipush 255, 3) := by decide +kernel
theorem d_W_argumentType_9 : decode prog_12_method_5_code 9 = .ok (.iand, 1) := by decide +kernel
theorem d_W_argumentType_10 : decode prog_12_method_5_code 10 = .ok (.ireturn, 1) := by decide +kernel
theorem d_W_argumentCount_0 : decode prog_12_method_6_code 0 = .ok (.iconst 0, 1) := by decide +kernel
theorem d_W_argumentCount_1 : decode prog_12_method_6_code 1 = .ok (.istore_n 1, 1) := by decide +kernel
theorem d_W_argumentCount_2 : decode prog_12_method_6_code 2 = .ok (.iload_n 1, 1) := by decide +kernel
theorem d_W_argumentCount_3 : decode prog_12_method_6_code 3 = .ok (.iconst 4, 1) := by decide +kernel
theorem d_W_argumentCount_4 : decode prog_12_method_6_code 4 = .ok (.if_icmp .ge 17, 3) := by decide +kernel
theorem d_W_argumentCount_7 : decode prog_12_method_6_code 7 = .ok (.iload_n 0, 1) := by decide +kernel
theorem d_W_argumentCount_8 : decode prog_12_method_6_code 8 = .ok (.iload_n 1, 1) := by decide +kernel
theorem d_W_argumentCount_9 : decode prog_12_method_6_code 9 = .ok (.invokestatic 48, 3) := by decide +kernel
theorem d_W_argumentCount_12 : decode prog_12_method_6_code 12 = .ok (.ifCond .eq 9, 3) := by decide +kernel
theorem d_W_argumentCount_15 : decode prog_12_method_6_code 15 = .ok (.iinc 1 1, 3) := by decide +kernel
theorem d_W_argumentCount_18 : decode prog_12_method_6_code 18 = .ok (.goto (-16), 3) := by decide +kernel
theorem d_W_argumentCount_21 : decode prog_12_method_6_code 21 = .ok (.iload_n 1, 1) := by decide +kernel
theorem d_W_argumentCount_22 : decode prog_12_method_6_code 22 = .ok (.ireturn, 1) := by decide +kernel
theorem d_java_util_AbstractCollection_init_0 : decode prog_34_method_1_code 0 = .ok (.aload_n 0, 1) := by decide +kernel
theorem d_java_util_AbstractCollection_init_1 : decode prog_34_method_1_code 1 = .ok (.invokespecial 1, 3) := by decide +kernel
theorem d_java_util_AbstractCollection_init_4 : decode prog_34_method_1_code 4 = .ok (.return_, 1) := by decide +kernel
theorem d_java_util_AbstractList_init_0 : decode prog_35_method_1_code 0 = .ok (.aload_n 0, 1) := by decide +kernel
theorem d_java_util_AbstractList_init_1 : decode prog_35_method_1_code 1 = .ok (.invokespecial 1, 3) := by decide +kernel
theorem d_java_util_AbstractList_init_4 : decode prog_35_method_1_code 4 = .ok (.aload_n 0, 1) := by decide +kernel
theorem d_java_util_AbstractList_init_5 : decode prog_35_method_1_code 5 = .ok (.iconst 0, 1) := by decide +kernel
theorem d_java_util_AbstractList_init_6 : decode prog_35_method_1_code 6 = .ok (.putfield 7, 3) := by decide +kernel
theorem d_java_util_AbstractList_init_9 : decode prog_35_method_1_code 9 = .ok (.return_, 1) := by decide +kernel
theorem d_java_util_ArrayList_init_0 : decode prog_36_method_2_code 0 = .ok (.aload_n 0, 1) := by decide +kernel
theorem d_java_util_ArrayList_init_1 : decode prog_36_method_2_code 1 = .ok (.invokespecial 1, 3) := by decide +kernel
theorem d_java_util_ArrayList_init_4 : decode prog_36_method_2_code 4 = .ok (.aload_n 0, 1) := by decide +kernel
theorem d_java_util_ArrayList_init_5 : decode prog_36_method_2_code 5 = .ok (.getstatic 39, 3) := by decide +kernel
theorem d_java_util_ArrayList_init_8 : decode prog_36_method_2_code 8 = .ok (.putfield 9, 3) := by decide +kernel
theorem d_java_util_ArrayList_init_11 : decode prog_36_method_2_code 11 = .ok (.return_, 1) := by decide +kernel
theorem d_E_init_0 : decode prog_7_method_1_code 0 = .ok (.aload_n 0, 1) := by decide +kernel
theorem d_E_init_1 : decode prog_7_method_1_code 1 = .ok (.invokespecial 3, 3) := by decide +kernel
theorem d_E_init_4 : decode prog_7_method_1_code 4 = .ok (.aload_n 0, 1) := by decide +kernel
theorem d_E_init_5 : decode prog_7_method_1_code 5 = .ok (.iconst 0, 1) := by decide +kernel
theorem d_E_init_6 : decode prog_7_method_1_code 6 = .ok (.newarray .int, 2) := by decide +kernel
theorem d_E_init_8 : decode prog_7_method_1_code 8 = .ok (.putfield 9, 3) := by decide +kernel
theorem d_E_init_11 : decode prog_7_method_1_code 11 = .ok (.aload_n 0, 1) := by decide +kernel
theorem d_E_init_12 : decode prog_7_method_1_code 12 = .ok (.new 15, 3) := by decide +kernel
theorem d_E_init_15 : decode prog_7_method_1_code 15 = .ok (.dup, 1) := by decide +kernel
theorem d_E_init_16 : decode prog_7_method_1_code 16 = .ok (.invokespecial 17, 3) := by decide +kernel
theorem d_E_init_19 : decode prog_7_method_1_code 19 = .ok (.putfield 18, 3) := by decide +kernel
theorem d_E_init_22 : decode prog_7_method_1_code 22 = .ok (.aload_n 0, 1) := by decide +kernel
theorem d_E_init_23 : decode prog_7_method_1_code 23 = .ok (.iconst (-1), 1) := by decide +kernel
theorem d_E_init_24 : decode prog_7_method_1_code 24 = .ok (.putfield 22, 3) := by decide +kernel
theorem d_E_init_27 : decode prog_7_method_1_code 27 = .ok (.aload_n 0, 1) := by decide +kernel
theorem d_E_init_28 : decode prog_7_method_1_code 28 = .ok (.iconst 0, 1) := by decide +kernel
theorem d_E_init_29 : decode prog_7_method_1_code 29 = .ok (.anewarray 26, 3) := by decide +kernel
theorem d_E_init_32 : decode prog_7_method_1_code 32 = .ok (.putfield 28, 3) := by decide +kernel
theorem d_E_init_35 : decode prog_7_method_1_code 35 = .ok (.aload_n 0, 1) := by decide +kernel
theorem d_E_init_36 : decode prog_7_method_1_code 36 = .ok (.iconst 0, 1) := by decide +kernel
theorem d_E_init_37 : decode prog_7_method_1_code 37 = .ok (.newarray .int, 2) := by decide +kernel
theorem d_E_init_39 : decode prog_7_method_1_code 39 = .ok (.putfield 32, 3) := by decide +kernel
theorem d_E_init_42 : decode prog_7_method_1_code 42 = .ok (.aload_n 0, 1) := by decide +kernel
theorem d_E_init_43 : decode prog_7_method_1_code 43 = .ok (.aload_n 1, 1) := by decide +kernel
theorem d_E_init_44 : decode prog_7_method_1_code 44 = .ok (.putfield 35, 3) := by decide +kernel
theorem d_E_init_47 : decode prog_7_method_1_code 47 = .ok (.aload_n 0, 1) := by decide +kernel
theorem d_E_init_48 : decode prog_7_method_1_code 48 = .ok (.iload_n 2, 1) := by decide +kernel
theorem d_E_init_49 : decode prog_7_method_1_code 49 = .ok (.putfield 38, 3) := by decide +kernel
theorem d_E_init_52 : decode prog_7_method_1_code 52 = .ok (.return_, 1) := by decide +kernel
theorem d_W_addMethod_0 : decode prog_12_method_4_code 0 = .ok (.iload_n 1, 1) := by decide +kernel
theorem d_W_addMethod_1 : decode prog_12_method_4_code 1 = .ok (.invokestatic 44, 3) := by decide +kernel
theorem d_W_addMethod_4 : decode prog_12_method_4_code 4 = .ok (.newarray .int, 2) := by decide +kernel
theorem d_W_addMethod_6 : decode prog_12_method_4_code 6 = .ok (.astore_n 3, 1) := by decide +kernel
theorem d_W_addMethod_7 : decode prog_12_method_4_code 7 = .ok (.iconst 0, 1) := by decide +kernel
theorem d_W_addMethod_8 : decode prog_12_method_4_code 8 = .ok (.istore 4, 2) := by decide +kernel
theorem d_W_addMethod_10 : decode prog_12_method_4_code 10 = .ok (.iload 4, 2) := by decide +kernel
theorem d_W_addMethod_12 : decode prog_12_method_4_code 12 = .ok (.aload_n 3, 1) := by decide +kernel
theorem d_W_addMethod_13 : decode prog_12_method_4_code 13 = .ok (.arraylength, 1) := by decide +kernel
theorem d_W_addMethod_14 : decode prog_12_method_4_code 14 = .ok (.if_icmp .ge 19, 3) := by decide +kernel
theorem d_W_addMethod_17 : decode prog_12_method_4_code 17 = .ok (.aload_n 3, 1) := by decide +kernel
theorem d_W_addMethod_18 : decode prog_12_method_4_code 18 = .ok (.iload 4, 2) := by decide +kernel
theorem d_W_addMethod_20 : decode prog_12_method_4_code 20 = .ok (.iload_n 1, 1) := by decide +kernel
theorem d_W_addMethod_21 : decode prog_12_method_4_code 21 = .ok (.iload 4, 2) := by decide +kernel
theorem d_W_addMethod_23 : decode prog_12_method_4_code 23 = .ok (.invokestatic 48, 3) := by decide +kernel
theorem d_W_addMethod_26 : decode prog_12_method_4_code 26 = .ok (.iastore, 1) := by decide +kernel
theorem d_W_addMethod_27 : decode prog_12_method_4_code 27 = .ok (.iinc 4 1, 3) := by decide +kernel
theorem d_W_addMethod_30 : decode prog_12_method_4_code 30 = .ok (.goto (-20), 3) := by decide +kernel
theorem d_W_addMethod_33 : decode prog_12_method_4_code 33 = .ok (.aload_n 0, 1) := by decide +kernel
theorem d_W_addMethod_34 : decode prog_12_method_4_code 34 = .ok (.getfield 33, 3) := by decide +kernel
theorem d_W_addMethod_37 : decode prog_12_method_4_code 37 = .ok (.aload_n 0, 1) := by decide +kernel
theorem d_W_addMethod_38 : decode prog_12_method_4_code 38 = .ok (.getfield 52, 3) := by decide +kernel
theorem d_W_addMethod_41 : decode prog_12_method_4_code 41 = .ok (.new 31, 3) := by decide +kernel
theorem d_W_addMethod_44 : decode prog_12_method_4_code 44 = .ok (.dup, 1) := by decide +kernel
theorem d_W_addMethod_45 : decode prog_12_method_4_code 45 = .ok (.aload_n 3, 1) := by decide +kernel
theorem d_W_addMethod_46 : decode prog_12_method_4_code 46 = .ok (.iload_n 2, 1) := by decide +kernel
theorem d_W_addMethod_47 : decode prog_12_method_4_code 47 = .ok (.invokespecial 55, 3) := by decide +kernel
theorem d_W_addMethod_50 : decode prog_12_method_4_code 50 = .ok (.aastore, 1) := by decide +kernel
theorem d_W_addMethod_51 : decode prog_12_method_4_code 51 = .ok (.aload_n 0, 1) := by decide +kernel
theorem d_W_addMethod_52 : decode prog_12_method_4_code 52 = .ok (.dup, 1) := by decide +kernel
theorem d_W_addMethod_53 : decode prog_12_method_4_code 53 = .ok (.getfield 52, 3) := by decide +kernel
theorem d_W_addMethod_56 : decode prog_12_method_4_code 56 = .ok (.iconst 1, 1) := by decide +kernel
theorem d_W_addMethod_57 : decode prog_12_method_4_code 57 = .ok (.iadd, 1) := by decide +kernel
theorem d_W_addMethod_58 : decode prog_12_method_4_code 58 = .ok (.putfield 52, 3) := by decide +kernel
theorem d_W_addMethod_61 : decode prog_12_method_4_code 61 = .ok (.aload_n 0, 1) := by decide +kernel
theorem d_W_addMethod_62 : decode prog_12_method_4_code 62 = .ok (.getfield 52, 3) := by decide +kernel
theorem d_W_addMethod_65 : decode prog_12_method_4_code 65 = .ok (.iconst 1, 1) := by decide +kernel
theorem d_W_addMethod_66 : decode prog_12_method_4_code 66 = .ok (.isub, 1) := by decide +kernel
theorem d_W_addMethod_67 : decode prog_12_method_4_code 67 = .ok (.ireturn, 1) := by decide +kernel

abbrev ws_k_W_addClass (w wp wu wi wc wt wx wm : Nat) (kp ku ki : ClassId) (fp fu : Nat → Int32) : va_W := [(w, .inr (3, [.ref wp, .ref wu, .ref wi, .int 2, .ref wc, .ref wt, .ref wx, .int 0, .ref wm, .int 0])), (wp, .inl (kp, 16, .inl fp)), (wu, .inl (ku, 16, .inl fu)), (wi, .inl (ki, 16, .inl (fun _ => 0)))]
set_option maxHeartbeats 4000000 in
set_option maxRecDepth 100000 in
theorem k_W_addClass (l : Launch) (dC : Nat → ClassId) (dI : Nat → Nat → Nat) (w wp wu wi wc wt wx wm : Nat) (kp ku ki : ClassId) (fp fu : Nat → Int32) (pr bz : Int32) (hpr : hasC pr) (sz : Nat) : Met l y_W_addClass (Cond.code y_W_addClass prog_12_method_2_code 3 (some .int) :: bigW) ({ frames := 0, cells := 0, slots := 0, locals := 0 } : Room) (va_Pc [.ref w, .int pr, .int bz] (fun U => U.heap.size = sz ∧ va_P (dC, dI) vwCl (ws_k_W_addClass w wp wu wi wc wt wx wm kp ku ki fp fu) U.heap ∧ va_K (dC, dI) vwCl [(kp, .int), (ku, .int), (ki, .boolean)] U ∧ va_D (fun _ => True) (ws_k_W_addClass w wp wu wi wc wt wx wm kp ku ki fp fu))) (va_Qi (fun (r : Int32) (u : Unit) => r = 2) (fun _ _ => True) (va_A (ws_k_W_addClass w wp wu wi wc wt wx wm kp ku ki fp fu) sz)) 0 0 (va_A (ws_k_W_addClass w wp wu wi wc wt wx wm kp ku ki fp fu) sz) := by
  refine Met.ofW (cc := prog_12_method_2_code) (maxL := 3) (ret := (some .int)) (by decide) rfl ?_
  intro p e s m args below meth cx s₁ B hml hv
  obtain ⟨rfl, hsz, hP, hK, hD0⟩ := hv
  have hx := B.exec
  have hb := B.bytes
  have hr := B.returns
  have hts := atoms_spec (ws := (Cond.code y_W_addClass prog_12_method_2_code 3 (some .int) :: bigW)) B.pre
  have hsub : ∀ w ∈ bigW, w ∈ (Cond.code y_W_addClass prog_12_method_2_code 3 (some .int) :: bigW) := fun w h => List.mem_cons_of_mem _ h
  have hown : s.vm.findClass "MapFramer$World" = some m.cls := findClass_of_methodNamed B.named
  have hlocks := B.notSynchronized
  subst hsz
  have hD := hD0.self (sz := s.heap.size)
  generalize hAe : va_A (ws_k_W_addClass w wp wu wi wc wt wx wm kp ku ki fp fu) s.heap.size = A at hD ⊢
  have hA : ∀ q : Nat, s.heap.size ≤ q → A q := fun q h => by rw [← hAe]; exact Or.inr h
  have hS : va_S A s.heap s.heap [] := va_S.rf
  have hP : va_P (dC, dI) vwCl [(w, .inr (3, [.ref wp, .ref wu, .ref wi, .int 2, .ref wc, .ref wt, .ref wx, .int 0, .ref wm, .int 0])), (wp, .inl (kp, 16, .inl fp)), (wu, .inl (ku, 16, .inl fu)), (wi, .inl (ki, 16, .inl (fun _ => 0)))] s.heap := hP
  have hD : va_D A [(w, .inr (3, [.ref wp, .ref wu, .ref wi, .int 2, .ref wc, .ref wt, .ref wx, .int 0, .ref wm, .int 0])), (wp, .inl (kp, 16, .inl fp)), (wu, .inl (ku, 16, .inl fu)), (wi, .inl (ki, 16, .inl (fun _ => 0)))] := hD
  have hl := lv_entry ([.ref w, .int pr, .int bz]) (n := 3) (Nat.le_of_ble_eq_true rfl)
  rw [lg_entry_eq]
  generalize (lg_sl ([.ref w, .int pr, .int bz]) ++ List.replicate (3 - (lg_sl ([.ref w, .int pr, .int bz])).length) Slot.unset).toArray = ls at hl ⊢
  have hl : lv_has ls 3 [(0, .ref w), (1, .int pr), (2, .int bz)] := hl
  refine lv_aload_n hx hb d_W_addClass_0 rfl (lv_at hl 0 rfl) ?_
  refine va_get (D := (dC, dI)) (ci := 3) (v := .ref wp) (C := R_W) (T := T_W) (N := 10) hx hb hts (fun w h => hsub w (uw_W w h)) hown hK hP 0 rfl rfl 0 (by decide) (hts _ (hsub _ w_132)) (fun _ h9 => h9) rfl d_W_addClass_1 ?_
  refine lv_aload_n hx hb d_W_addClass_4 rfl (lv_at hl 0 rfl) ?_
  refine va_get (D := (dC, dI)) (ci := 3) (v := .int 2) (C := R_W) (T := T_W) (N := 10) hx hb hts (fun w h => hsub w (uw_W w h)) hown hK hP 0 rfl rfl 3 (by decide) (hts _ (hsub _ w_0)) (fun _ h9 => h9) rfl d_W_addClass_5 ?_
  refine lv_iload_n hx hb d_W_addClass_8 rfl (lv_at hl 1 rfl) ?_
  refine va_iast hx hb hK hP hD hS 1 0 rfl rfl (vp_in_iff.mpr (by decide)) d_W_addClass_9 (fun H locs hP hD hS => ?_)
  have hP : va_P (dC, dI) vwCl [(w, .inr (3, [.ref wp, .ref wu, .ref wi, .int 2, .ref wc, .ref wt, .ref wx, .int 0, .ref wm, .int 0])), (wp, .inl (kp, 16, .inl (upd fp (2 : Int32).toNatClampNeg pr))), (wu, .inl (ku, 16, .inl fu)), (wi, .inl (ki, 16, .inl (fun _ => 0)))] H := hP
  have hD : va_D A [(w, .inr (3, [.ref wp, .ref wu, .ref wi, .int 2, .ref wc, .ref wt, .ref wx, .int 0, .ref wm, .int 0])), (wp, .inl (kp, 16, .inl (upd fp (2 : Int32).toNatClampNeg pr))), (wu, .inl (ku, 16, .inl fu)), (wi, .inl (ki, 16, .inl (fun _ => 0)))] := hD
  refine lv_aload_n hx hb d_W_addClass_10 rfl (lv_at hl 0 rfl) ?_
  refine va_get (D := (dC, dI)) (ci := 3) (v := .ref wu) (C := R_W) (T := T_W) (N := 10) hx hb hts (fun w h => hsub w (uw_W w h)) hown hK hP 0 rfl rfl 1 (by decide) (hts _ (hsub _ w_133)) (fun _ h9 => h9) rfl d_W_addClass_11 ?_
  refine lv_aload_n hx hb d_W_addClass_14 rfl (lv_at hl 0 rfl) ?_
  refine va_get (D := (dC, dI)) (ci := 3) (v := .int 2) (C := R_W) (T := T_W) (N := 10) hx hb hts (fun w h => hsub w (uw_W w h)) hown hK hP 0 rfl rfl 3 (by decide) (hts _ (hsub _ w_0)) (fun _ h9 => h9) rfl d_W_addClass_15 ?_
  refine lv_aload_n hx hb d_W_addClass_18 rfl (lv_at hl 0 rfl) ?_
  refine va_get (D := (dC, dI)) (ci := 3) (v := .ref wu) (C := R_W) (T := T_W) (N := 10) hx hb hts (fun w h => hsub w (uw_W w h)) hown hK hP 0 rfl rfl 1 (by decide) (hts _ (hsub _ w_133)) (fun _ h9 => h9) rfl d_W_addClass_19 ?_
  refine lv_iload_n hx hb d_W_addClass_22 rfl (lv_at hl 1 rfl) ?_
  refine va_iald hx hb hK hP 2 1 rfl rfl (vp_in_iff.mpr (by have h9 := hpr; unfold hasC at h9; omega)) d_W_addClass_23 ?_
  refine lv_topi (fun x_1 ex_1 => ?_)
  refine lv_iconst (v := 1) hx hb d_W_addClass_24 (by decide) ?_
  refine lv_aload_n hx hb d_W_addClass_25 rfl (lv_at hl 0 rfl) ?_
  refine va_get (D := (dC, dI)) (ci := 3) (v := .int 2) (C := R_W) (T := T_W) (N := 10) hx hb hts (fun w h => hsub w (uw_W w h)) hown hK hP 0 rfl rfl 3 (by decide) (hts _ (hsub _ w_0)) (fun _ h9 => h9) rfl d_W_addClass_26 ?_
  refine lv_ishl hx hb d_W_addClass_29 ?_
  refine tp_i 4 (by decide) ?_
  refine lv_ior hx hb d_W_addClass_30 ?_
  refine lv_topi (fun x_2 ex_2 => ?_)
  refine va_iast hx hb hK hP hD hS 2 1 rfl rfl (vp_in_iff.mpr (by decide)) d_W_addClass_31 (fun H locs hP hD hS => ?_)
  have hP : va_P (dC, dI) vwCl [(w, .inr (3, [.ref wp, .ref wu, .ref wi, .int 2, .ref wc, .ref wt, .ref wx, .int 0, .ref wm, .int 0])), (wp, .inl (kp, 16, .inl (upd fp (2 : Int32).toNatClampNeg pr))), (wu, .inl (ku, 16, .inl (upd fu (2 : Int32).toNatClampNeg x_2))), (wi, .inl (ki, 16, .inl (fun _ => 0)))] H := hP
  have hD : va_D A [(w, .inr (3, [.ref wp, .ref wu, .ref wi, .int 2, .ref wc, .ref wt, .ref wx, .int 0, .ref wm, .int 0])), (wp, .inl (kp, 16, .inl (upd fp (2 : Int32).toNatClampNeg pr))), (wu, .inl (ku, 16, .inl (upd fu (2 : Int32).toNatClampNeg x_2))), (wi, .inl (ki, 16, .inl (fun _ => 0)))] := hD
  refine lv_aload_n hx hb d_W_addClass_32 rfl (lv_at hl 0 rfl) ?_
  refine va_get (D := (dC, dI)) (ci := 3) (v := .ref wi) (C := R_W) (T := T_W) (N := 10) hx hb hts (fun w h => hsub w (uw_W w h)) hown hK hP 0 rfl rfl 2 (by decide) (hts _ (hsub _ w_6)) (fun _ h9 => h9) rfl d_W_addClass_33 ?_
  refine lv_aload_n hx hb d_W_addClass_36 rfl (lv_at hl 0 rfl) ?_
  refine va_get (D := (dC, dI)) (ci := 3) (v := .int 2) (C := R_W) (T := T_W) (N := 10) hx hb hts (fun w h => hsub w (uw_W w h)) hown hK hP 0 rfl rfl 3 (by decide) (hts _ (hsub _ w_0)) (fun _ h9 => h9) rfl d_W_addClass_37 ?_
  refine lv_iload_n hx hb d_W_addClass_40 rfl (lv_at hl 2 rfl) ?_
  refine va_zast hx hb hK hP hD hS 3 2 rfl rfl (vp_in_iff.mpr (by decide)) d_W_addClass_41 (fun H locs hP hD hS => ?_)
  have hP : va_P (dC, dI) vwCl [(w, .inr (3, [.ref wp, .ref wu, .ref wi, .int 2, .ref wc, .ref wt, .ref wx, .int 0, .ref wm, .int 0])), (wp, .inl (kp, 16, .inl (upd fp (2 : Int32).toNatClampNeg pr))), (wu, .inl (ku, 16, .inl (upd fu (2 : Int32).toNatClampNeg x_2))), (wi, .inl (ki, 16, .inl (upd (fun _ => 0) (2 : Int32).toNatClampNeg (vp_nar .boolean bz))))] H := hP
  have hD : va_D A [(w, .inr (3, [.ref wp, .ref wu, .ref wi, .int 2, .ref wc, .ref wt, .ref wx, .int 0, .ref wm, .int 0])), (wp, .inl (kp, 16, .inl (upd fp (2 : Int32).toNatClampNeg pr))), (wu, .inl (ku, 16, .inl (upd fu (2 : Int32).toNatClampNeg x_2))), (wi, .inl (ki, 16, .inl (upd (fun _ => 0) (2 : Int32).toNatClampNeg (vp_nar .boolean bz))))] := hD
  refine lv_aload_n hx hb d_W_addClass_42 rfl (lv_at hl 0 rfl) ?_
  refine lv_dup hx hb d_W_addClass_43 rfl ?_
  refine va_get (D := (dC, dI)) (ci := 3) (v := .int 2) (C := R_W) (T := T_W) (N := 10) hx hb hts (fun w h => hsub w (uw_W w h)) hown hK hP 0 rfl rfl 3 (by decide) (hts _ (hsub _ w_0)) (fun _ h9 => h9) rfl d_W_addClass_44 ?_
  refine lv_iconst (v := 1) hx hb d_W_addClass_47 (by decide) ?_
  refine lv_iadd hx hb d_W_addClass_48 ?_
  refine tp_i 3 (by decide) ?_
  refine va_put (D := (dC, dI)) (ci := 3) (v := .int 3) (ty := .int) (C := R_W) (T := T_W) (N := 10) hx hb hts (fun w h => hsub w (uw_W w h)) ty_W tok_W nm_W hown hK hP hD hS 0 rfl rfl 3 (by decide) (hts _ (hsub _ w_0)) (fun _ h9 => h9) rfl (by decide +kernel) rfl rfl (Nat.le_of_ble_eq_true rfl) d_W_addClass_49 (fun H locs hP hD hS => ?_)
  have hP : va_P (dC, dI) vwCl [(w, .inr (3, [.ref wp, .ref wu, .ref wi, .int 3, .ref wc, .ref wt, .ref wx, .int 0, .ref wm, .int 0])), (wp, .inl (kp, 16, .inl (upd fp (2 : Int32).toNatClampNeg pr))), (wu, .inl (ku, 16, .inl (upd fu (2 : Int32).toNatClampNeg x_2))), (wi, .inl (ki, 16, .inl (upd (fun _ => 0) (2 : Int32).toNatClampNeg (vp_nar .boolean bz))))] H := hP
  have hD : va_D A [(w, .inr (3, [.ref wp, .ref wu, .ref wi, .int 3, .ref wc, .ref wt, .ref wx, .int 0, .ref wm, .int 0])), (wp, .inl (kp, 16, .inl (upd fp (2 : Int32).toNatClampNeg pr))), (wu, .inl (ku, 16, .inl (upd fu (2 : Int32).toNatClampNeg x_2))), (wi, .inl (ki, 16, .inl (upd (fun _ => 0) (2 : Int32).toNatClampNeg (vp_nar .boolean bz))))] := hD
  refine lv_aload_n hx hb d_W_addClass_52 rfl (lv_at hl 0 rfl) ?_
  refine va_get (D := (dC, dI)) (ci := 3) (v := .int 3) (C := R_W) (T := T_W) (N := 10) hx hb hts (fun w h => hsub w (uw_W w h)) hown hK hP 0 rfl rfl 3 (by decide) (hts _ (hsub _ w_0)) (fun _ h9 => h9) rfl d_W_addClass_53 ?_
  refine lv_iconst (v := 1) hx hb d_W_addClass_56 (by decide) ?_
  refine lv_isub hx hb d_W_addClass_57 ?_
  refine tp_i 2 (by decide) ?_
  refine W.widen (k := 0) (n := 0) (Nat.le_of_ble_eq_true rfl) (Nat.le_of_ble_eq_true rfl) ?_
  exact W.iret (v := 2) hx hb hr (fun t ht hW => ⟨⟨2, (), rfl, rfl, trivial⟩, hS.F ht⟩) hS.2.2 d_W_addClass_58

abbrev ws_k_W_addField (w wp wu wi wc wt wx wm : Nat) (kc kt kx : ClassId) : va_W := [(w, .inr (3, [.ref wp, .ref wu, .ref wi, .int 2, .ref wc, .ref wt, .ref wx, .int 0, .ref wm, .int 0])), (wc, .inl (kc, 16, .inl (fun _ => 0))), (wt, .inl (kt, 16, .inl (fun _ => 0))), (wx, .inl (kx, 16, .inl (fun _ => 0)))]
set_option maxHeartbeats 4000000 in
set_option maxRecDepth 100000 in
theorem k_W_addField (l : Launch) (dC : Nat → ClassId) (dI : Nat → Nat → Nat) (w wp wu wi wc wt wx wm : Nat) (kc kt kx : ClassId) (ow ty bz : Int32) (sz : Nat) : Met l y_W_addField (Cond.code y_W_addField prog_12_method_3_code 4 (some .int) :: bigW) ({ frames := 0, cells := 0, slots := 0, locals := 0 } : Room) (va_Pc [.ref w, .int ow, .int ty, .int bz] (fun U => U.heap.size = sz ∧ va_P (dC, dI) vwCl (ws_k_W_addField w wp wu wi wc wt wx wm kc kt kx) U.heap ∧ va_K (dC, dI) vwCl [(kc, .int), (kt, .int), (kx, .boolean)] U ∧ va_D (fun _ => True) (ws_k_W_addField w wp wu wi wc wt wx wm kc kt kx))) (va_Qi (fun (r : Int32) (u : Unit) => r = 0) (fun _ _ => True) (va_A (ws_k_W_addField w wp wu wi wc wt wx wm kc kt kx) sz)) 0 0 (va_A (ws_k_W_addField w wp wu wi wc wt wx wm kc kt kx) sz) := by
  refine Met.ofW (cc := prog_12_method_3_code) (maxL := 4) (ret := (some .int)) (by decide) rfl ?_
  intro p e s m args below meth cx s₁ B hml hv
  obtain ⟨rfl, hsz, hP, hK, hD0⟩ := hv
  have hx := B.exec
  have hb := B.bytes
  have hr := B.returns
  have hts := atoms_spec (ws := (Cond.code y_W_addField prog_12_method_3_code 4 (some .int) :: bigW)) B.pre
  have hsub : ∀ w ∈ bigW, w ∈ (Cond.code y_W_addField prog_12_method_3_code 4 (some .int) :: bigW) := fun w h => List.mem_cons_of_mem _ h
  have hown : s.vm.findClass "MapFramer$World" = some m.cls := findClass_of_methodNamed B.named
  have hlocks := B.notSynchronized
  subst hsz
  have hD := hD0.self (sz := s.heap.size)
  generalize hAe : va_A (ws_k_W_addField w wp wu wi wc wt wx wm kc kt kx) s.heap.size = A at hD ⊢
  have hA : ∀ q : Nat, s.heap.size ≤ q → A q := fun q h => by rw [← hAe]; exact Or.inr h
  have hS : va_S A s.heap s.heap [] := va_S.rf
  have hP : va_P (dC, dI) vwCl [(w, .inr (3, [.ref wp, .ref wu, .ref wi, .int 2, .ref wc, .ref wt, .ref wx, .int 0, .ref wm, .int 0])), (wc, .inl (kc, 16, .inl (fun _ => 0))), (wt, .inl (kt, 16, .inl (fun _ => 0))), (wx, .inl (kx, 16, .inl (fun _ => 0)))] s.heap := hP
  have hD : va_D A [(w, .inr (3, [.ref wp, .ref wu, .ref wi, .int 2, .ref wc, .ref wt, .ref wx, .int 0, .ref wm, .int 0])), (wc, .inl (kc, 16, .inl (fun _ => 0))), (wt, .inl (kt, 16, .inl (fun _ => 0))), (wx, .inl (kx, 16, .inl (fun _ => 0)))] := hD
  have hl := lv_entry ([.ref w, .int ow, .int ty, .int bz]) (n := 4) (Nat.le_of_ble_eq_true rfl)
  rw [lg_entry_eq]
  generalize (lg_sl ([.ref w, .int ow, .int ty, .int bz]) ++ List.replicate (4 - (lg_sl ([.ref w, .int ow, .int ty, .int bz])).length) Slot.unset).toArray = ls at hl ⊢
  have hl : lv_has ls 4 [(0, .ref w), (1, .int ow), (2, .int ty), (3, .int bz)] := hl
  refine lv_aload_n hx hb d_W_addField_0 rfl (lv_at hl 0 rfl) ?_
  refine va_get (D := (dC, dI)) (ci := 3) (v := .ref wc) (C := R_W) (T := T_W) (N := 10) hx hb hts (fun w h => hsub w (uw_W w h)) hown hK hP 0 rfl rfl 4 (by decide) (hts _ (hsub _ w_134)) (fun _ h9 => h9) rfl d_W_addField_1 ?_
  refine lv_aload_n hx hb d_W_addField_4 rfl (lv_at hl 0 rfl) ?_
  refine va_get (D := (dC, dI)) (ci := 3) (v := .int 0) (C := R_W) (T := T_W) (N := 10) hx hb hts (fun w h => hsub w (uw_W w h)) hown hK hP 0 rfl rfl 7 (by decide) (hts _ (hsub _ w_135)) (fun _ h9 => h9) rfl d_W_addField_5 ?_
  refine lv_iload_n hx hb d_W_addField_8 rfl (lv_at hl 1 rfl) ?_
  refine va_iast hx hb hK hP hD hS 1 0 rfl rfl (vp_in_iff.mpr (by decide)) d_W_addField_9 (fun H locs hP hD hS => ?_)
  have hP : va_P (dC, dI) vwCl [(w, .inr (3, [.ref wp, .ref wu, .ref wi, .int 2, .ref wc, .ref wt, .ref wx, .int 0, .ref wm, .int 0])), (wc, .inl (kc, 16, .inl (upd (fun _ => 0) (0 : Int32).toNatClampNeg ow))), (wt, .inl (kt, 16, .inl (fun _ => 0))), (wx, .inl (kx, 16, .inl (fun _ => 0)))] H := hP
  have hD : va_D A [(w, .inr (3, [.ref wp, .ref wu, .ref wi, .int 2, .ref wc, .ref wt, .ref wx, .int 0, .ref wm, .int 0])), (wc, .inl (kc, 16, .inl (upd (fun _ => 0) (0 : Int32).toNatClampNeg ow))), (wt, .inl (kt, 16, .inl (fun _ => 0))), (wx, .inl (kx, 16, .inl (fun _ => 0)))] := hD
  refine lv_aload_n hx hb d_W_addField_10 rfl (lv_at hl 0 rfl) ?_
  refine va_get (D := (dC, dI)) (ci := 3) (v := .ref wt) (C := R_W) (T := T_W) (N := 10) hx hb hts (fun w h => hsub w (uw_W w h)) hown hK hP 0 rfl rfl 5 (by decide) (hts _ (hsub _ w_136)) (fun _ h9 => h9) rfl d_W_addField_11 ?_
  refine lv_aload_n hx hb d_W_addField_14 rfl (lv_at hl 0 rfl) ?_
  refine va_get (D := (dC, dI)) (ci := 3) (v := .int 0) (C := R_W) (T := T_W) (N := 10) hx hb hts (fun w h => hsub w (uw_W w h)) hown hK hP 0 rfl rfl 7 (by decide) (hts _ (hsub _ w_135)) (fun _ h9 => h9) rfl d_W_addField_15 ?_
  refine lv_iload_n hx hb d_W_addField_18 rfl (lv_at hl 2 rfl) ?_
  refine va_iast hx hb hK hP hD hS 2 1 rfl rfl (vp_in_iff.mpr (by decide)) d_W_addField_19 (fun H locs hP hD hS => ?_)
  have hP : va_P (dC, dI) vwCl [(w, .inr (3, [.ref wp, .ref wu, .ref wi, .int 2, .ref wc, .ref wt, .ref wx, .int 0, .ref wm, .int 0])), (wc, .inl (kc, 16, .inl (upd (fun _ => 0) (0 : Int32).toNatClampNeg ow))), (wt, .inl (kt, 16, .inl (upd (fun _ => 0) (0 : Int32).toNatClampNeg ty))), (wx, .inl (kx, 16, .inl (fun _ => 0)))] H := hP
  have hD : va_D A [(w, .inr (3, [.ref wp, .ref wu, .ref wi, .int 2, .ref wc, .ref wt, .ref wx, .int 0, .ref wm, .int 0])), (wc, .inl (kc, 16, .inl (upd (fun _ => 0) (0 : Int32).toNatClampNeg ow))), (wt, .inl (kt, 16, .inl (upd (fun _ => 0) (0 : Int32).toNatClampNeg ty))), (wx, .inl (kx, 16, .inl (fun _ => 0)))] := hD
  refine lv_aload_n hx hb d_W_addField_20 rfl (lv_at hl 0 rfl) ?_
  refine va_get (D := (dC, dI)) (ci := 3) (v := .ref wx) (C := R_W) (T := T_W) (N := 10) hx hb hts (fun w h => hsub w (uw_W w h)) hown hK hP 0 rfl rfl 6 (by decide) (hts _ (hsub _ w_137)) (fun _ h9 => h9) rfl d_W_addField_21 ?_
  refine lv_aload_n hx hb d_W_addField_24 rfl (lv_at hl 0 rfl) ?_
  refine va_get (D := (dC, dI)) (ci := 3) (v := .int 0) (C := R_W) (T := T_W) (N := 10) hx hb hts (fun w h => hsub w (uw_W w h)) hown hK hP 0 rfl rfl 7 (by decide) (hts _ (hsub _ w_135)) (fun _ h9 => h9) rfl d_W_addField_25 ?_
  refine lv_iload_n hx hb d_W_addField_28 rfl (lv_at hl 3 rfl) ?_
  refine va_zast hx hb hK hP hD hS 3 2 rfl rfl (vp_in_iff.mpr (by decide)) d_W_addField_29 (fun H locs hP hD hS => ?_)
  have hP : va_P (dC, dI) vwCl [(w, .inr (3, [.ref wp, .ref wu, .ref wi, .int 2, .ref wc, .ref wt, .ref wx, .int 0, .ref wm, .int 0])), (wc, .inl (kc, 16, .inl (upd (fun _ => 0) (0 : Int32).toNatClampNeg ow))), (wt, .inl (kt, 16, .inl (upd (fun _ => 0) (0 : Int32).toNatClampNeg ty))), (wx, .inl (kx, 16, .inl (upd (fun _ => 0) (0 : Int32).toNatClampNeg (vp_nar .boolean bz))))] H := hP
  have hD : va_D A [(w, .inr (3, [.ref wp, .ref wu, .ref wi, .int 2, .ref wc, .ref wt, .ref wx, .int 0, .ref wm, .int 0])), (wc, .inl (kc, 16, .inl (upd (fun _ => 0) (0 : Int32).toNatClampNeg ow))), (wt, .inl (kt, 16, .inl (upd (fun _ => 0) (0 : Int32).toNatClampNeg ty))), (wx, .inl (kx, 16, .inl (upd (fun _ => 0) (0 : Int32).toNatClampNeg (vp_nar .boolean bz))))] := hD
  refine lv_aload_n hx hb d_W_addField_30 rfl (lv_at hl 0 rfl) ?_
  refine lv_dup hx hb d_W_addField_31 rfl ?_
  refine va_get (D := (dC, dI)) (ci := 3) (v := .int 0) (C := R_W) (T := T_W) (N := 10) hx hb hts (fun w h => hsub w (uw_W w h)) hown hK hP 0 rfl rfl 7 (by decide) (hts _ (hsub _ w_135)) (fun _ h9 => h9) rfl d_W_addField_32 ?_
  refine lv_iconst (v := 1) hx hb d_W_addField_35 (by decide) ?_
  refine lv_iadd hx hb d_W_addField_36 ?_
  refine tp_i 1 (by decide) ?_
  refine va_put (D := (dC, dI)) (ci := 3) (v := .int 1) (ty := .int) (C := R_W) (T := T_W) (N := 10) hx hb hts (fun w h => hsub w (uw_W w h)) ty_W tok_W nm_W hown hK hP hD hS 0 rfl rfl 7 (by decide) (hts _ (hsub _ w_135)) (fun _ h9 => h9) rfl (by decide +kernel) rfl rfl (Nat.le_of_ble_eq_true rfl) d_W_addField_37 (fun H locs hP hD hS => ?_)
  have hP : va_P (dC, dI) vwCl [(w, .inr (3, [.ref wp, .ref wu, .ref wi, .int 2, .ref wc, .ref wt, .ref wx, .int 1, .ref wm, .int 0])), (wc, .inl (kc, 16, .inl (upd (fun _ => 0) (0 : Int32).toNatClampNeg ow))), (wt, .inl (kt, 16, .inl (upd (fun _ => 0) (0 : Int32).toNatClampNeg ty))), (wx, .inl (kx, 16, .inl (upd (fun _ => 0) (0 : Int32).toNatClampNeg (vp_nar .boolean bz))))] H := hP
  have hD : va_D A [(w, .inr (3, [.ref wp, .ref wu, .ref wi, .int 2, .ref wc, .ref wt, .ref wx, .int 1, .ref wm, .int 0])), (wc, .inl (kc, 16, .inl (upd (fun _ => 0) (0 : Int32).toNatClampNeg ow))), (wt, .inl (kt, 16, .inl (upd (fun _ => 0) (0 : Int32).toNatClampNeg ty))), (wx, .inl (kx, 16, .inl (upd (fun _ => 0) (0 : Int32).toNatClampNeg (vp_nar .boolean bz))))] := hD
  refine lv_aload_n hx hb d_W_addField_40 rfl (lv_at hl 0 rfl) ?_
  refine va_get (D := (dC, dI)) (ci := 3) (v := .int 1) (C := R_W) (T := T_W) (N := 10) hx hb hts (fun w h => hsub w (uw_W w h)) hown hK hP 0 rfl rfl 7 (by decide) (hts _ (hsub _ w_135)) (fun _ h9 => h9) rfl d_W_addField_41 ?_
  refine lv_iconst (v := 1) hx hb d_W_addField_44 (by decide) ?_
  refine lv_isub hx hb d_W_addField_45 ?_
  refine tp_i 0 (by decide) ?_
  refine W.widen (k := 0) (n := 0) (Nat.le_of_ble_eq_true rfl) (Nat.le_of_ble_eq_true rfl) ?_
  exact W.iret (v := 0) hx hb hr (fun t ht hW => ⟨⟨0, (), rfl, rfl, trivial⟩, hS.F ht⟩) hS.2.2 d_W_addField_46

abbrev ws_k_W_argumentType : va_W := []
set_option maxHeartbeats 4000000 in
set_option maxRecDepth 100000 in
theorem k_W_argumentType (l : Launch) (dC : Nat → ClassId) (dI : Nat → Nat → Nat) (pk ix : Int32) : Met l y_W_argumentType (Cond.code y_W_argumentType prog_12_method_5_code 2 (some .int) :: bigW) ({ frames := 0, cells := 0, slots := 0, locals := 0 } : Room) (va_Pc [.int pk, .int ix] (fun U => va_P (dC, dI) vwCl (ws_k_W_argumentType) U.heap ∧ va_K (dC, dI) vwCl [] U)) (va_Qi (fun (r : Int32) (u : Unit) => r = argX pk ix) (fun _ _ => True) (fun _ => False)) 0 0 (fun _ => False) := by
  refine Met.ofW (cc := prog_12_method_5_code) (maxL := 2) (ret := (some .int)) (by decide) rfl ?_
  intro p e s m args below meth cx s₁ B hml hv
  obtain ⟨rfl, hP, hK⟩ := hv
  have hx := B.exec
  have hb := B.bytes
  have hr := B.returns
  have hts := atoms_spec (ws := (Cond.code y_W_argumentType prog_12_method_5_code 2 (some .int) :: bigW)) B.pre
  have hsub : ∀ w ∈ bigW, w ∈ (Cond.code y_W_argumentType prog_12_method_5_code 2 (some .int) :: bigW) := fun w h => List.mem_cons_of_mem _ h
  have hown : s.vm.findClass "MapFramer$World" = some m.cls := findClass_of_methodNamed B.named
  have hlocks := B.notSynchronized
  have hS : va_S (fun _ => False) s.heap s.heap [] := va_S.rf
  have hP : va_P (dC, dI) vwCl [] s.heap := hP
  have hl := lv_entry ([.int pk, .int ix]) (n := 2) (Nat.le_of_ble_eq_true rfl)
  rw [lg_entry_eq]
  generalize (lg_sl ([.int pk, .int ix]) ++ List.replicate (2 - (lg_sl ([.int pk, .int ix])).length) Slot.unset).toArray = ls at hl ⊢
  have hl : lv_has ls 2 [(0, .int pk), (1, .int ix)] := hl
  refine lv_iload_n hx hb d_W_argumentType_0 rfl (lv_at hl 0 rfl) ?_
  refine lv_bipush (v := 8) hx hb d_W_argumentType_1 (by decide) ?_
  refine lv_iload_n hx hb d_W_argumentType_3 rfl (lv_at hl 1 rfl) ?_
  refine lv_imul hx hb d_W_argumentType_4 ?_
  refine lv_topi (fun x_1 ex_1 => ?_)
  refine lv_iushr (v := ((pk : Int32).toUInt32 >>> ((x_1 : Int32).toUInt32 &&& Int32.toUInt32 31)).toInt32) hx hb d_W_argumentType_5 rfl ?_
  refine lv_topi (fun x_2 ex_2 => ?_)
  refine lv_sipush (v := 255) hx hb d_W_argumentType_6 (by decide) ?_
  refine lv_iand hx hb d_W_argumentType_9 ?_
  refine lv_topi (fun x_3 ex_3 => ?_)
  refine W.widen (k := 0) (n := 0) (Nat.le_of_ble_eq_true rfl) (Nat.le_of_ble_eq_true rfl) ?_
  exact W.iret (v := x_3) hx hb hr (fun t ht hW => ⟨⟨x_3, (), rfl, by rw [ex_3, ex_2, ex_1]; rfl, trivial⟩, hS.F ht⟩) hS.2.2 d_W_argumentType_10

abbrev ws_k_W_argumentCount : va_W := []
set_option maxHeartbeats 4000000 in
set_option maxRecDepth 100000 in
theorem k_W_argumentCount (l : Launch) (dC : Nat → ClassId) (dI : Nat → Nat → Nat) (pk : Int32) : Met l y_W_argumentCount (Cond.code y_W_argumentCount prog_12_method_6_code 2 (some .int) :: bigW) ({ frames := 1, cells := 0, slots := 0, locals := 21 } : Room) (va_Pc [.int pk] (fun U => va_P (dC, dI) vwCl (ws_k_W_argumentCount) U.heap ∧ va_K (dC, dI) vwCl [] U)) (va_Qi (fun (r : Int32) (u : Unit) => r = argI pk) (fun _ _ => True) (fun _ => False)) 0 0 (fun _ => False) := by
  refine Met.ofW (cc := prog_12_method_6_code) (maxL := 2) (ret := (some .int)) (by decide) rfl ?_
  intro p e s m args below meth cx s₁ B hml hv
  obtain ⟨rfl, hP, hK⟩ := hv
  have hx := B.exec
  have hb := B.bytes
  have hr := B.returns
  have hts := atoms_spec (ws := (Cond.code y_W_argumentCount prog_12_method_6_code 2 (some .int) :: bigW)) B.pre
  have hsub : ∀ w ∈ bigW, w ∈ (Cond.code y_W_argumentCount prog_12_method_6_code 2 (some .int) :: bigW) := fun w h => List.mem_cons_of_mem _ h
  have hown : s.vm.findClass "MapFramer$World" = some m.cls := findClass_of_methodNamed B.named
  have hlocks := B.notSynchronized
  have hS : va_S (fun _ => False) s.heap s.heap [] := va_S.rf
  have hP : va_P (dC, dI) vwCl [] s.heap := hP
  have hl := lv_entry ([.int pk]) (n := 2) (Nat.le_of_ble_eq_true rfl)
  rw [lg_entry_eq]
  generalize (lg_sl ([.int pk]) ++ List.replicate (2 - (lg_sl ([.int pk])).length) Slot.unset).toArray = ls at hl ⊢
  have hl : lv_has ls 2 [(0, .int pk)] := hl
  refine lv_iconst (v := 0) hx hb d_W_argumentCount_0 (by decide) ?_
  refine lv_istore_n (lv' := [(1, .int 0), (0, .int pk)]) hx hb d_W_argumentCount_1 rfl hl (by decide) rfl (fun ls hl => ?_)
  refine lv_iload_n hx hb d_W_argumentCount_2 rfl (lv_at hl 0 rfl) ?_
  refine lv_iconst (v := 4) hx hb d_W_argumentCount_3 (by decide) ?_
  refine lv_icmp_ge (tgt := 21) hx hb d_W_argumentCount_4 (by decide) (fun c_1 => ?_) (fun c_1 => ?_)
  · skip
    first | exact absurd c_1 (by decide) | exact absurd (by decide) c_1
  · skip
    refine lv_iload_n hx hb d_W_argumentCount_7 rfl (lv_at hl 1 rfl) ?_
    refine lv_iload_n hx hb d_W_argumentCount_8 rfl (lv_at hl 0 rfl) ?_
    have hPc := hP.sub (ws' := []) [] rfl
    have hKc := hK.sub (tys' := []) [] rfl
    refine va_calli (va_runS (As := [.int pk, .int 0]) (rest := []) ⟨hx, hb, hml, hown, hts⟩ (k_W_argumentType l dC dI pk 0) (va_cwS 2 hts (gS hsub w_138 w_139 w_4 w_140) rfl rfl rfl (by decide +kernel) ⟨Nat.le_of_ble_eq_true rfl, Nat.le_of_ble_eq_true rfl⟩) ⟨bl_0000, fun U hU hW => ⟨rfl, by rw [hU]; exact hPc, va_K.moved hW.alike hKc⟩⟩ rfl rfl hl.1 rfl (lv_room (Nat.le_of_ble_eq_true rfl)) d_W_argumentCount_9 ⟨Nat.le_of_ble_eq_true rfl, Nat.le_of_ble_eq_true rfl⟩) hS (fun q _ h => h.elim) (fun q h => h.elim) (fun r_3 u_4 t H1 locs ht hvm hw hB hz1 hk1 hS => ?_)
    have hP := ro_keep hP hk1
    generalize H1 = H at hP hS ⊢
    refine W.widen (k := 0) (n := 0) (Nat.le_of_ble_eq_true rfl) (Nat.le_of_ble_eq_true rfl) ?_
    subst hw
    refine lv_if_eq (tgt := 21) hx hb d_W_argumentCount_12 (by decide) (fun c_5 => ?_) (fun c_5 => ?_)
    · skip
      refine lv_iload_n hx hb d_W_argumentCount_21 rfl (lv_at hl 0 rfl) ?_
      refine W.widen (k := 0) (n := 0) (Nat.le_of_ble_eq_true rfl) (Nat.le_of_ble_eq_true rfl) ?_
      exact W.iret (v := 0) hx hb hr (fun t ht hW => ⟨⟨0, (), rfl, by simp [argI, c_5], trivial⟩, hS.F ht⟩) hS.2.2 d_W_argumentCount_22
    · skip
      refine lv_iinc (v := 1) (lv' := [(1, .int 1), (0, .int pk)]) hx hb d_W_argumentCount_15 hl (k := 0) rfl (by decide) (by decide) rfl (fun ls hl => ?_)
      refine lv_goto (tgt := 2) hx hb d_W_argumentCount_18 (by decide) ?_
      refine lv_iload_n hx hb d_W_argumentCount_2 rfl (lv_at hl 0 rfl) ?_
      refine lv_iconst (v := 4) hx hb d_W_argumentCount_3 (by decide) ?_
      refine lv_icmp_ge (tgt := 21) hx hb d_W_argumentCount_4 (by decide) (fun c_6 => ?_) (fun c_6 => ?_)
      · skip
        first | exact absurd c_6 (by decide) | exact absurd (by decide) c_6
      · skip
        refine lv_iload_n hx hb d_W_argumentCount_7 rfl (lv_at hl 1 rfl) ?_
        refine lv_iload_n hx hb d_W_argumentCount_8 rfl (lv_at hl 0 rfl) ?_
        have hPc := hP.sub (ws' := []) [] rfl
        have hKc := hK.sub (tys' := []) [] rfl
        refine va_calli (va_runS (As := [.int pk, .int 1]) (rest := []) ⟨hx, hb, hml, hown, hts⟩ (k_W_argumentType l dC dI pk 1) (va_cwS 2 hts (gS hsub w_138 w_139 w_4 w_140) rfl rfl rfl (by decide +kernel) ⟨Nat.le_of_ble_eq_true rfl, Nat.le_of_ble_eq_true rfl⟩) ⟨bl_0000, fun U hU hW => ⟨rfl, by rw [hU]; exact hPc, va_K.moved hW.alike hKc⟩⟩ rfl rfl hl.1 rfl (lv_room (Nat.le_of_ble_eq_true rfl)) d_W_argumentCount_9 ⟨Nat.le_of_ble_eq_true rfl, Nat.le_of_ble_eq_true rfl⟩) hS (fun q _ h => h.elim) (fun q h => h.elim) (fun r_8 u_9 t H1 locs ht hvm hw hB hz1 hk1 hS => ?_)
        have hP := ro_keep hP hk1
        generalize H1 = H at hP hS ⊢
        refine W.widen (k := 0) (n := 0) (Nat.le_of_ble_eq_true rfl) (Nat.le_of_ble_eq_true rfl) ?_
        subst hw
        refine lv_if_eq (tgt := 21) hx hb d_W_argumentCount_12 (by decide) (fun c_10 => ?_) (fun c_10 => ?_)
        · skip
          refine lv_iload_n hx hb d_W_argumentCount_21 rfl (lv_at hl 0 rfl) ?_
          refine W.widen (k := 0) (n := 0) (Nat.le_of_ble_eq_true rfl) (Nat.le_of_ble_eq_true rfl) ?_
          exact W.iret (v := 1) hx hb hr (fun t ht hW => ⟨⟨1, (), rfl, by simp [argI, c_5, c_10], trivial⟩, hS.F ht⟩) hS.2.2 d_W_argumentCount_22
        · skip
          refine lv_iinc (v := 2) (lv' := [(1, .int 2), (0, .int pk)]) hx hb d_W_argumentCount_15 hl (k := 0) rfl (by decide) (by decide) rfl (fun ls hl => ?_)
          refine lv_goto (tgt := 2) hx hb d_W_argumentCount_18 (by decide) ?_
          refine lv_iload_n hx hb d_W_argumentCount_2 rfl (lv_at hl 0 rfl) ?_
          refine lv_iconst (v := 4) hx hb d_W_argumentCount_3 (by decide) ?_
          refine lv_icmp_ge (tgt := 21) hx hb d_W_argumentCount_4 (by decide) (fun c_11 => ?_) (fun c_11 => ?_)
          · skip
            first | exact absurd c_11 (by decide) | exact absurd (by decide) c_11
          · skip
            refine lv_iload_n hx hb d_W_argumentCount_7 rfl (lv_at hl 1 rfl) ?_
            refine lv_iload_n hx hb d_W_argumentCount_8 rfl (lv_at hl 0 rfl) ?_
            have hPc := hP.sub (ws' := []) [] rfl
            have hKc := hK.sub (tys' := []) [] rfl
            refine va_calli (va_runS (As := [.int pk, .int 2]) (rest := []) ⟨hx, hb, hml, hown, hts⟩ (k_W_argumentType l dC dI pk 2) (va_cwS 2 hts (gS hsub w_138 w_139 w_4 w_140) rfl rfl rfl (by decide +kernel) ⟨Nat.le_of_ble_eq_true rfl, Nat.le_of_ble_eq_true rfl⟩) ⟨bl_0000, fun U hU hW => ⟨rfl, by rw [hU]; exact hPc, va_K.moved hW.alike hKc⟩⟩ rfl rfl hl.1 rfl (lv_room (Nat.le_of_ble_eq_true rfl)) d_W_argumentCount_9 ⟨Nat.le_of_ble_eq_true rfl, Nat.le_of_ble_eq_true rfl⟩) hS (fun q _ h => h.elim) (fun q h => h.elim) (fun r_13 u_14 t H1 locs ht hvm hw hB hz1 hk1 hS => ?_)
            have hP := ro_keep hP hk1
            generalize H1 = H at hP hS ⊢
            refine W.widen (k := 0) (n := 0) (Nat.le_of_ble_eq_true rfl) (Nat.le_of_ble_eq_true rfl) ?_
            subst hw
            refine lv_if_eq (tgt := 21) hx hb d_W_argumentCount_12 (by decide) (fun c_15 => ?_) (fun c_15 => ?_)
            · skip
              refine lv_iload_n hx hb d_W_argumentCount_21 rfl (lv_at hl 0 rfl) ?_
              refine W.widen (k := 0) (n := 0) (Nat.le_of_ble_eq_true rfl) (Nat.le_of_ble_eq_true rfl) ?_
              exact W.iret (v := 2) hx hb hr (fun t ht hW => ⟨⟨2, (), rfl, by simp [argI, c_5, c_10, c_15], trivial⟩, hS.F ht⟩) hS.2.2 d_W_argumentCount_22
            · skip
              refine lv_iinc (v := 3) (lv' := [(1, .int 3), (0, .int pk)]) hx hb d_W_argumentCount_15 hl (k := 0) rfl (by decide) (by decide) rfl (fun ls hl => ?_)
              refine lv_goto (tgt := 2) hx hb d_W_argumentCount_18 (by decide) ?_
              refine lv_iload_n hx hb d_W_argumentCount_2 rfl (lv_at hl 0 rfl) ?_
              refine lv_iconst (v := 4) hx hb d_W_argumentCount_3 (by decide) ?_
              refine lv_icmp_ge (tgt := 21) hx hb d_W_argumentCount_4 (by decide) (fun c_16 => ?_) (fun c_16 => ?_)
              · skip
                first | exact absurd c_16 (by decide) | exact absurd (by decide) c_16
              · skip
                refine lv_iload_n hx hb d_W_argumentCount_7 rfl (lv_at hl 1 rfl) ?_
                refine lv_iload_n hx hb d_W_argumentCount_8 rfl (lv_at hl 0 rfl) ?_
                have hPc := hP.sub (ws' := []) [] rfl
                have hKc := hK.sub (tys' := []) [] rfl
                refine va_calli (va_runS (As := [.int pk, .int 3]) (rest := []) ⟨hx, hb, hml, hown, hts⟩ (k_W_argumentType l dC dI pk 3) (va_cwS 2 hts (gS hsub w_138 w_139 w_4 w_140) rfl rfl rfl (by decide +kernel) ⟨Nat.le_of_ble_eq_true rfl, Nat.le_of_ble_eq_true rfl⟩) ⟨bl_0000, fun U hU hW => ⟨rfl, by rw [hU]; exact hPc, va_K.moved hW.alike hKc⟩⟩ rfl rfl hl.1 rfl (lv_room (Nat.le_of_ble_eq_true rfl)) d_W_argumentCount_9 ⟨Nat.le_of_ble_eq_true rfl, Nat.le_of_ble_eq_true rfl⟩) hS (fun q _ h => h.elim) (fun q h => h.elim) (fun r_18 u_19 t H1 locs ht hvm hw hB hz1 hk1 hS => ?_)
                have hP := ro_keep hP hk1
                generalize H1 = H at hP hS ⊢
                refine W.widen (k := 0) (n := 0) (Nat.le_of_ble_eq_true rfl) (Nat.le_of_ble_eq_true rfl) ?_
                subst hw
                refine lv_if_eq (tgt := 21) hx hb d_W_argumentCount_12 (by decide) (fun c_20 => ?_) (fun c_20 => ?_)
                · skip
                  refine lv_iload_n hx hb d_W_argumentCount_21 rfl (lv_at hl 0 rfl) ?_
                  refine W.widen (k := 0) (n := 0) (Nat.le_of_ble_eq_true rfl) (Nat.le_of_ble_eq_true rfl) ?_
                  exact W.iret (v := 3) hx hb hr (fun t ht hW => ⟨⟨3, (), rfl, by simp [argI, c_5, c_10, c_15, c_20], trivial⟩, hS.F ht⟩) hS.2.2 d_W_argumentCount_22
                · skip
                  refine lv_iinc (v := 4) (lv' := [(1, .int 4), (0, .int pk)]) hx hb d_W_argumentCount_15 hl (k := 0) rfl (by decide) (by decide) rfl (fun ls hl => ?_)
                  refine lv_goto (tgt := 2) hx hb d_W_argumentCount_18 (by decide) ?_
                  refine lv_iload_n hx hb d_W_argumentCount_2 rfl (lv_at hl 0 rfl) ?_
                  refine lv_iconst (v := 4) hx hb d_W_argumentCount_3 (by decide) ?_
                  refine lv_icmp_ge (tgt := 21) hx hb d_W_argumentCount_4 (by decide) (fun c_21 => ?_) (fun c_21 => ?_)
                  · skip
                    refine lv_iload_n hx hb d_W_argumentCount_21 rfl (lv_at hl 0 rfl) ?_
                    refine W.widen (k := 0) (n := 0) (Nat.le_of_ble_eq_true rfl) (Nat.le_of_ble_eq_true rfl) ?_
                    exact W.iret (v := 4) hx hb hr (fun t ht hW => ⟨⟨4, (), rfl, by simp [argI, c_5, c_10, c_15, c_20], trivial⟩, hS.F ht⟩) hS.2.2 d_W_argumentCount_22
                  · skip
                    first | exact absurd c_21 (by decide) | exact absurd (by decide) c_21

abbrev ws_k_java_util_AbstractCollection_init : va_W := []
set_option maxHeartbeats 4000000 in
set_option maxRecDepth 100000 in
theorem k_java_util_AbstractCollection_init (l : Launch) (dC : Nat → ClassId) (dI : Nat → Nat → Nat) (q : Nat) : Met l y_java_util_AbstractCollection_init (Cond.code y_java_util_AbstractCollection_init prog_34_method_1_code 1 none :: bigW) ({ frames := 1, cells := 0, slots := 0, locals := 12 } : Room) (va_Pc [.ref q] (fun U => va_P (dC, dI) vwCl (ws_k_java_util_AbstractCollection_init) U.heap ∧ va_K (dC, dI) vwCl [] U)) (va_Qv (fun (u : Unit) => True) (fun _ _ => True) (fun _ => False)) 0 0 (fun _ => False) := by
  refine Met.ofW (cc := prog_34_method_1_code) (maxL := 1) (ret := none) (by decide) rfl ?_
  intro p e s m args below meth cx s₁ B hml hv
  obtain ⟨rfl, hP, hK⟩ := hv
  have hx := B.exec
  have hb := B.bytes
  have hr := B.returns
  have hts := atoms_spec (ws := (Cond.code y_java_util_AbstractCollection_init prog_34_method_1_code 1 none :: bigW)) B.pre
  have hsub : ∀ w ∈ bigW, w ∈ (Cond.code y_java_util_AbstractCollection_init prog_34_method_1_code 1 none :: bigW) := fun w h => List.mem_cons_of_mem _ h
  have hown : s.vm.findClass "java/util/AbstractCollection" = some m.cls := findClass_of_methodNamed B.named
  have hlocks := B.notSynchronized
  have hin : meth.name = "<init>" := (name_of_methodNamed B.named B.method).1
  have hS : va_S (fun _ => False) s.heap s.heap [] := va_S.rf
  have hP : va_P (dC, dI) vwCl [] s.heap := hP
  have hl := lv_entry ([.ref q]) (n := 1) (Nat.le_of_ble_eq_true rfl)
  rw [lg_entry_eq]
  generalize (lg_sl ([.ref q]) ++ List.replicate (1 - (lg_sl ([.ref q])).length) Slot.unset).toArray = ls at hl ⊢
  have hl : lv_has ls 1 [(0, .ref q)] := hl
  refine lv_aload_n hx hb d_java_util_AbstractCollection_init_0 rfl (lv_at hl 0 rfl) ?_
  refine W.objInit hx hb hown (hts _ (hsub _ w_141)) (hts _ (hsub _ w_142)) (hts _ (hsub _ w_143)) rfl (by rw [hml]; exact hl.1) rfl d_java_util_AbstractCollection_init_1 (Nat.le_of_ble_eq_true rfl) (Nat.le_of_ble_eq_true rfl) ?_
  refine W.eq (g2 := F0 m 4 ls []) rfl ?_
  refine W.widen (k := 0) (n := 0) (Nat.le_of_ble_eq_true rfl) (Nat.le_of_ble_eq_true rfl) ?_
  exact W.vret hx hb hr (fun t ht hW => ⟨⟨(), rfl, trivial, trivial⟩, hS.F ht⟩) hS.2.2 d_java_util_AbstractCollection_init_4

abbrev ws_k_java_util_AbstractList_init (q : Nat) : va_W := [(q, .inr (7, [.int 0, .null, .int 0]))]
set_option maxHeartbeats 4000000 in
set_option maxRecDepth 100000 in
theorem k_java_util_AbstractList_init (l : Launch) (dC : Nat → ClassId) (dI : Nat → Nat → Nat) (q : Nat) (sz : Nat) : Met l y_java_util_AbstractList_init (Cond.code y_java_util_AbstractList_init prog_35_method_1_code 1 none :: bigW) ({ frames := 2, cells := 0, slots := 0, locals := 32 } : Room) (va_Pc [.ref q] (fun U => U.heap.size = sz ∧ va_P (dC, dI) vwCl (ws_k_java_util_AbstractList_init q) U.heap ∧ va_K (dC, dI) vwCl [] U ∧ va_D (fun _ => True) (ws_k_java_util_AbstractList_init q))) (va_Qv (fun (u : Unit) => True) (fun _ t => va_P (dC, dI) vwCl (ws_k_java_util_AbstractList_init q) t.heap ∧ va_K (dC, dI) vwCl [] t ∧ va_D (va_A (ws_k_java_util_AbstractList_init q) sz) (ws_k_java_util_AbstractList_init q)) (va_A (ws_k_java_util_AbstractList_init q) sz)) 0 0 (va_A (ws_k_java_util_AbstractList_init q) sz) := by
  refine Met.ofW (cc := prog_35_method_1_code) (maxL := 1) (ret := none) (by decide) rfl ?_
  intro p e s m args below meth cx s₁ B hml hv
  obtain ⟨rfl, hsz, hP, hK, hD0⟩ := hv
  have hx := B.exec
  have hb := B.bytes
  have hr := B.returns
  have hts := atoms_spec (ws := (Cond.code y_java_util_AbstractList_init prog_35_method_1_code 1 none :: bigW)) B.pre
  have hsub : ∀ w ∈ bigW, w ∈ (Cond.code y_java_util_AbstractList_init prog_35_method_1_code 1 none :: bigW) := fun w h => List.mem_cons_of_mem _ h
  have hown : s.vm.findClass "java/util/AbstractList" = some m.cls := findClass_of_methodNamed B.named
  have hlocks := B.notSynchronized
  have hin : meth.name = "<init>" := (name_of_methodNamed B.named B.method).1
  subst hsz
  have hD := hD0.self (sz := s.heap.size)
  generalize hAe : va_A (ws_k_java_util_AbstractList_init q) s.heap.size = A at hD ⊢
  have hA : ∀ q : Nat, s.heap.size ≤ q → A q := fun q h => by rw [← hAe]; exact Or.inr h
  have hS : va_S A s.heap s.heap [] := va_S.rf
  have hP : va_P (dC, dI) vwCl [(q, .inr (7, [.int 0, .null, .int 0]))] s.heap := hP
  have hD : va_D A [(q, .inr (7, [.int 0, .null, .int 0]))] := hD
  have hl := lv_entry ([.ref q]) (n := 1) (Nat.le_of_ble_eq_true rfl)
  rw [lg_entry_eq]
  generalize (lg_sl ([.ref q]) ++ List.replicate (1 - (lg_sl ([.ref q])).length) Slot.unset).toArray = ls at hl ⊢
  have hl : lv_has ls 1 [(0, .ref q)] := hl
  refine lv_aload_n hx hb d_java_util_AbstractList_init_0 rfl (lv_at hl 0 rfl) ?_
  have hPc := hP.sub (ws' := []) [] rfl
  have hKc := hK.sub (tys' := []) [] rfl
  refine va_callv (va_runI (As := []) (rest := []) ⟨hx, hb, hml, hown, hts⟩ (k_java_util_AbstractCollection_init l dC dI q) (cwI 0 hts (gC hsub w_145) rfl rfl rfl (hts _ (hsub _ w_146)) (hts _ (hsub _ w_144)) (hts _ (hsub _ w_147)) rfl (by decide +kernel) ⟨Nat.le_of_ble_eq_true rfl, Nat.le_of_ble_eq_true rfl⟩) ⟨bl_0000, fun U hU hW => ⟨rfl, by rw [hU]; exact hPc, va_K.moved hW.alike hKc⟩⟩ rfl rfl hl.1 rfl (lv_room (Nat.le_of_ble_eq_true rfl)) d_java_util_AbstractList_init_1 ⟨Nat.le_of_ble_eq_true rfl, Nat.le_of_ble_eq_true rfl⟩) hS (fun q _ h => h.elim) (fun q h => h.elim) (fun u_3 t H1 locs ht hvm hw hB hz1 hk1 hS => ?_)
  have hP := ro_keep hP hk1
  generalize H1 = H at hP hS ⊢
  refine W.widen (k := 0) (n := 0) (Nat.le_of_ble_eq_true rfl) (Nat.le_of_ble_eq_true rfl) ?_
  refine lv_aload_n hx hb d_java_util_AbstractList_init_4 rfl (lv_at hl 0 rfl) ?_
  refine lv_iconst (v := 0) hx hb d_java_util_AbstractList_init_5 (by decide) ?_
  refine va_put (D := (dC, dI)) (ci := 7) (v := .int 0) (ty := .int) (C := R_A) (T := T_A) (N := 3) hx hb hts (fun w h => hsub w (uw_A w h)) ty_A tok_A nm_A hown hK hP hD hS 0 rfl rfl 0 (by decide) (hts _ (hsub _ w_148)) (fun _ h9 => h9) rfl (by decide +kernel) rfl rfl (Nat.le_of_ble_eq_true rfl) d_java_util_AbstractList_init_6 (fun H locs hP hD hS => ?_)
  have hP : va_P (dC, dI) vwCl [(q, .inr (7, [.int 0, .null, .int 0]))] H := hP
  have hD : va_D A [(q, .inr (7, [.int 0, .null, .int 0]))] := hD
  refine W.widen (k := 0) (n := 0) (Nat.le_of_ble_eq_true rfl) (Nat.le_of_ble_eq_true rfl) ?_
  exact W.vret hx hb hr (fun t ht hW => ⟨⟨(), rfl, trivial, by rw [ht]; exact hP, va_K.moved hW.alike (hK.sub (tys' := []) [] rfl), hD⟩, hS.F ht⟩) hS.2.2 d_java_util_AbstractList_init_9

abbrev ws_k_java_util_ArrayList_init (q : Nat) : va_W := [(q, .inr (7, [.int 0, .null, .int 0]))]
set_option maxHeartbeats 4000000 in
set_option maxRecDepth 100000 in
theorem k_java_util_ArrayList_init (l : Launch) (dC : Nat → ClassId) (dI : Nat → Nat → Nat) (q : Nat) (sz : Nat) : Met l y_java_util_ArrayList_init (Cond.code y_java_util_ArrayList_init prog_36_method_2_code 1 none :: bigW) ({ frames := 3, cells := 0, slots := 0, locals := 52 } : Room) (va_Pc [.ref q] (fun U => U.heap.size = sz ∧ va_P (dC, dI) vwCl (ws_k_java_util_ArrayList_init q) U.heap ∧ va_K (dC, dI) vwCl [] U ∧ va_D (fun _ => True) (ws_k_java_util_ArrayList_init q) ∧ exP (va_A (ws_k_java_util_ArrayList_init q) sz) U)) (va_Qv (fun (u : Unit) => True) (fun _ _ => True) (va_A (ws_k_java_util_ArrayList_init q) sz)) 0 0 (va_A (ws_k_java_util_ArrayList_init q) sz) := by
  refine Met.ofW (cc := prog_36_method_2_code) (maxL := 1) (ret := none) (by decide) rfl ?_
  intro p e s m args below meth cx s₁ B hml hv
  obtain ⟨rfl, hsz, hP, hK, hD0, hex⟩ := hv
  have hx := B.exec
  have hb := B.bytes
  have hr := B.returns
  have hts := atoms_spec (ws := (Cond.code y_java_util_ArrayList_init prog_36_method_2_code 1 none :: bigW)) B.pre
  have hsub : ∀ w ∈ bigW, w ∈ (Cond.code y_java_util_ArrayList_init prog_36_method_2_code 1 none :: bigW) := fun w h => List.mem_cons_of_mem _ h
  have hown : s.vm.findClass "java/util/ArrayList" = some m.cls := findClass_of_methodNamed B.named
  have hlocks := B.notSynchronized
  have hin : meth.name = "<init>" := (name_of_methodNamed B.named B.method).1
  subst hsz
  have hD := hD0.self (sz := s.heap.size)
  generalize hAe : va_A (ws_k_java_util_ArrayList_init q) s.heap.size = A at hD hex ⊢
  have hA : ∀ q : Nat, s.heap.size ≤ q → A q := fun q h => by rw [← hAe]; exact Or.inr h
  have hS : va_S A s.heap s.heap [] := va_S.rf
  have hP : va_P (dC, dI) vwCl [(q, .inr (7, [.int 0, .null, .int 0]))] s.heap := hP
  have hD : va_D A [(q, .inr (7, [.int 0, .null, .int 0]))] := hD
  have hl := lv_entry ([.ref q]) (n := 1) (Nat.le_of_ble_eq_true rfl)
  rw [lg_entry_eq]
  generalize (lg_sl ([.ref q]) ++ List.replicate (1 - (lg_sl ([.ref q])).length) Slot.unset).toArray = ls at hl ⊢
  have hl : lv_has ls 1 [(0, .ref q)] := hl
  have htb := hex.2.2.2.2.2.1
  refine lv_aload_n hx hb d_java_util_ArrayList_init_0 rfl (lv_at hl 0 rfl) ?_
  have hPc := hP.sub (ws' := [(q, .inr (7, [.int 0, .null, .int 0]))]) [0] rfl
  have hKc := hK.sub (tys' := []) [] rfl
  have hDc := hD.sub (ws' := [(q, .inr (7, [.int 0, .null, .int 0]))]) [0] (by decide) rfl
  have hFc := va_free (wc := [(q, .inr (7, [.int 0, .null, .int 0]))]) hD hS hA [0] rfl
  refine va_callv (va_runI (As := []) (rest := []) ⟨hx, hb, hml, hown, hts⟩ (k_java_util_AbstractList_init l dC dI q s.heap.size) (cwI 0 hts (gC hsub w_150) rfl rfl rfl (hts _ (hsub _ w_151)) (hts _ (hsub _ w_149)) (hts _ (hsub _ w_152)) rfl (by decide +kernel) ⟨Nat.le_of_ble_eq_true rfl, Nat.le_of_ble_eq_true rfl⟩) ⟨bl_1000, fun U hU hW => ⟨rfl, by rw [hU], by rw [hU]; exact hPc, va_K.moved hW.alike hKc, hDc.weaken (fun _ _ _ _ => trivial)⟩⟩ rfl rfl hl.1 rfl (lv_room (Nat.le_of_ble_eq_true rfl)) d_java_util_ArrayList_init_1 ⟨Nat.le_of_ble_eq_true rfl, Nat.le_of_ble_eq_true rfl⟩) hS (fun q _ h => hFc q h) hFc (fun u_3 t H1 locs ht hvm hw hB hz1 hk1 hS => ?_)
  obtain ⟨hP1, hK1, hD1⟩ := hB
  rw [ht] at hP1
  have hK1 := va_K.moved hvm.symm hK1
  obtain ⟨hP, hD⟩ := va_join (wr := []) (w1 := [(q, .inr (7, [.int 0, .null, .int 0]))]) hP hD [0] [] rfl rfl (by decide) (by decide) hk1 hFc hP1 hD1
  have hK := (hK.sub (tys' := []) [] rfl).app hK1
  generalize H1 = H at hP hS ⊢
  have hP : va_P (dC, dI) vwCl [(q, .inr (7, [.int 0, .null, .int 0]))] H := hP
  have hD : va_D A [(q, .inr (7, [.int 0, .null, .int 0]))] := hD
  have hK : va_K (dC, dI) vwCl [] s := hK
  refine W.widen (k := 0) (n := 0) (Nat.le_of_ble_eq_true rfl) (Nat.le_of_ble_eq_true rfl) ?_
  refine lv_aload_n hx hb d_java_util_ArrayList_init_4 rfl (lv_at hl 0 rfl) ?_
  obtain ⟨za9, hza⟩ := hex.2.2.2.2.2.2
  refine va_gets (v := .ref za9) hx hb hza hS hown (hts _ (hsub _ w_153)) (fun _ h9 => h9) d_java_util_ArrayList_init_5 ?_
  refine va_put (D := (dC, dI)) (ci := 7) (v := .ref za9) (ty := (.array (.object "java/lang/Object"))) (C := R_A) (T := T_A) (N := 3) hx hb hts (fun w h => hsub w (uw_A w h)) ty_A tok_A nm_A hown hK hP hD hS 0 rfl rfl 1 (by decide) (hts _ (hsub _ w_154)) (fun _ h9 => h9) rfl (by decide +kernel) rfl rfl (Nat.le_of_ble_eq_true rfl) d_java_util_ArrayList_init_8 (fun H locs hP hD hS => ?_)
  have hP : va_P (dC, dI) vwCl [(q, .inr (7, [.int 0, .ref za9, .int 0]))] H := hP
  have hD : va_D A [(q, .inr (7, [.int 0, .ref za9, .int 0]))] := hD
  refine W.widen (k := 0) (n := 0) (Nat.le_of_ble_eq_true rfl) (Nat.le_of_ble_eq_true rfl) ?_
  exact W.vret hx hb hr (fun t ht hW => ⟨⟨(), rfl, trivial, trivial⟩, hS.F ht⟩) hS.2.2 d_java_util_ArrayList_init_11

abbrev ws_k_E_init (q : Nat) : va_W := [(q, .inr (6, [.null, .int 0, .null, .int 0, .int 0, .null, .int 0, .int 0, .int 0, .null, .null, .int 0, .int 0]))]
set_option maxHeartbeats 4000000 in
set_option maxRecDepth 100000 in
theorem k_E_init (l : Launch) (dC : Nat → ClassId) (dI : Nat → Nat → Nat) (q ta : Nat) (rs : Int32) (sz : Nat) : Met l y_E_init (Cond.code y_E_init prog_7_method_1_code 3 none :: bigW) ({ frames := 4, cells := 4, slots := 3, locals := 72 } : Room) (va_Pc [.ref q, .ref ta, .int rs] (fun U => U.heap.size = sz ∧ va_P (dC, dI) vwCl (ws_k_E_init q) U.heap ∧ va_K (dC, dI) vwCl [] U ∧ va_D (fun _ => True) (ws_k_E_init q) ∧ exP (va_A (ws_k_E_init q) sz) U)) (va_Qv (fun (u : Unit) => True) (fun _ t => ∃ (q1 q2 q3 q4 : Nat), va_P (dC, dI) vwCl [(q, .inr (6, [.ref ta, .int rs, .ref q1, .int 0, .int 0, .ref q2, .int 0, .int 0, .int (-1), .ref q3, .ref q4, .int 0, .int 0]))] t.heap ∧ va_K (dC, dI) vwCl [] t ∧ va_D (va_A (ws_k_E_init q) sz) [(q, .inr (6, [.ref ta, .int rs, .ref q1, .int 0, .int 0, .ref q2, .int 0, .int 0, .int (-1), .ref q3, .ref q4, .int 0, .int 0]))]) (va_A (ws_k_E_init q) sz)) 4 3 (va_A (ws_k_E_init q) sz) := by
  refine Met.ofW (cc := prog_7_method_1_code) (maxL := 3) (ret := none) (by decide) rfl ?_
  intro p e s m args below meth cx s₁ B hml hv
  obtain ⟨rfl, hsz, hP, hK, hD0, hex⟩ := hv
  have hx := B.exec
  have hb := B.bytes
  have hr := B.returns
  have hts := atoms_spec (ws := (Cond.code y_E_init prog_7_method_1_code 3 none :: bigW)) B.pre
  have hsub : ∀ w ∈ bigW, w ∈ (Cond.code y_E_init prog_7_method_1_code 3 none :: bigW) := fun w h => List.mem_cons_of_mem _ h
  have hown : s.vm.findClass "MapFramer$Method" = some m.cls := findClass_of_methodNamed B.named
  have hlocks := B.notSynchronized
  have hin : meth.name = "<init>" := (name_of_methodNamed B.named B.method).1
  subst hsz
  have hD := hD0.self (sz := s.heap.size)
  generalize hAe : va_A (ws_k_E_init q) s.heap.size = A at hD hex ⊢
  have hA : ∀ q : Nat, s.heap.size ≤ q → A q := fun q h => by rw [← hAe]; exact Or.inr h
  have hS : va_S A s.heap s.heap [] := va_S.rf
  have hP : va_P (dC, dI) vwCl [(q, .inr (6, [.null, .int 0, .null, .int 0, .int 0, .null, .int 0, .int 0, .int 0, .null, .null, .int 0, .int 0]))] s.heap := hP
  have hD : va_D A [(q, .inr (6, [.null, .int 0, .null, .int 0, .int 0, .null, .int 0, .int 0, .int 0, .null, .null, .int 0, .int 0]))] := hD
  have hl := lv_entry ([.ref q, .ref ta, .int rs]) (n := 3) (Nat.le_of_ble_eq_true rfl)
  rw [lg_entry_eq]
  generalize (lg_sl ([.ref q, .ref ta, .int rs]) ++ List.replicate (3 - (lg_sl ([.ref q, .ref ta, .int rs])).length) Slot.unset).toArray = ls at hl ⊢
  have hl : lv_has ls 3 [(0, .ref q), (1, .ref ta), (2, .int rs)] := hl
  have htb := hex.2.2.2.2.2.1
  refine lv_aload_n hx hb d_E_init_0 rfl (lv_at hl 0 rfl) ?_
  refine W.objInit hx hb hown (hts _ (hsub _ w_155)) (hts _ (hsub _ w_142)) (hts _ (hsub _ w_143)) rfl (by rw [hml]; exact hl.1) rfl d_E_init_1 (Nat.le_of_ble_eq_true rfl) (Nat.le_of_ble_eq_true rfl) ?_
  refine W.eq (g2 := F0 m 4 ls []) rfl ?_
  refine lv_aload_n hx hb d_E_init_4 rfl (lv_at hl 0 rfl) ?_
  refine lv_iconst (v := 0) hx hb d_E_init_5 (by decide) ?_
  refine va_newa (atype := .int) (ty := .int) (N' := 0) (a0 := (0, .inl (fun _ => 0))) hx hb (hts _ (hsub _ w_156)) rfl hK hP hD hS hA (fun _ => vz_i _ _) (by decide) (by decide) (Nat.le_of_ble_eq_true rfl) (Nat.le_of_ble_eq_true rfl) (Nat.le_of_ble_eq_true rfl) d_E_init_6 (fun q_1 k_2 H hK hP hD hS => ?_)
  have hK : va_K (dC, dI) vwCl [(k_2, .int)] s := hK
  have hP : va_P (dC, dI) vwCl [(q, .inr (6, [.null, .int 0, .null, .int 0, .int 0, .null, .int 0, .int 0, .int 0, .null, .null, .int 0, .int 0])), (q_1, .inl (k_2, 0, .inl (fun _ => 0)))] H := hP
  have hD : va_D A [(q, .inr (6, [.null, .int 0, .null, .int 0, .int 0, .null, .int 0, .int 0, .int 0, .null, .null, .int 0, .int 0])), (q_1, .inl (k_2, 0, .inl (fun _ => 0)))] := hD
  refine W.widen (k := 1) (n := 0) (Nat.le_of_ble_eq_true rfl) (Nat.le_of_ble_eq_true rfl) ?_
  refine va_put (D := (dC, dI)) (ci := 6) (v := .ref q_1) (ty := (.array .int)) (C := R_E) (T := T_E) (N := 13) hx hb hts (fun w h => hsub w (uw_E w h)) ty_E tok_E nm_E hown hK hP hD hS 0 rfl rfl 2 (by decide) (hts _ (hsub _ w_157)) (fun _ h9 => h9) rfl (by decide +kernel) rfl rfl (Nat.le_of_ble_eq_true rfl) d_E_init_8 (fun H locs hP hD hS => ?_)
  have hP : va_P (dC, dI) vwCl [(q, .inr (6, [.null, .int 0, .ref q_1, .int 0, .int 0, .null, .int 0, .int 0, .int 0, .null, .null, .int 0, .int 0])), (q_1, .inl (k_2, 0, .inl (fun _ => 0)))] H := hP
  have hD : va_D A [(q, .inr (6, [.null, .int 0, .ref q_1, .int 0, .int 0, .null, .int 0, .int 0, .int 0, .null, .null, .int 0, .int 0])), (q_1, .inl (k_2, 0, .inl (fun _ => 0)))] := hD
  refine lv_aload_n hx hb d_E_init_11 rfl (lv_at hl 0 rfl) ?_
  refine va_new (ci := 7) (fs := [.int 0, .null, .int 0]) (C := R_A) (T := T_A) (N := 3) hx hb hts (fun w h => hsub w (uw_A w h)) ty_A tok_A hown (hts _ (hsub _ w_158)) (hts _ (hsub _ w_159)) (hts _ (hsub _ w_160)) hK hP hD hS hA rfl (fun j hj => df_A j hj) (Nat.le_of_ble_eq_true rfl) (Nat.le_of_ble_eq_true rfl) d_E_init_12 (fun q_3 H hP hD hS => ?_)
  have hP : va_P (dC, dI) vwCl [(q, .inr (6, [.null, .int 0, .ref q_1, .int 0, .int 0, .null, .int 0, .int 0, .int 0, .null, .null, .int 0, .int 0])), (q_1, .inl (k_2, 0, .inl (fun _ => 0))), (q_3, .inr (7, [.int 0, .null, .int 0]))] H := hP
  have hD : va_D A [(q, .inr (6, [.null, .int 0, .ref q_1, .int 0, .int 0, .null, .int 0, .int 0, .int 0, .null, .null, .int 0, .int 0])), (q_1, .inl (k_2, 0, .inl (fun _ => 0))), (q_3, .inr (7, [.int 0, .null, .int 0]))] := hD
  refine W.widen (k := 2) (n := 3) (Nat.le_of_ble_eq_true rfl) (Nat.le_of_ble_eq_true rfl) ?_
  refine lv_dup hx hb d_E_init_15 rfl ?_
  have hPc := hP.sub (ws' := [(q_3, .inr (7, [.int 0, .null, .int 0]))]) [2] rfl
  have hKc := hK.sub (tys' := []) [] rfl
  have hDc := hD.sub (ws' := [(q_3, .inr (7, [.int 0, .null, .int 0]))]) [2] (by decide) rfl
  have hFc := va_free (wc := [(q_3, .inr (7, [.int 0, .null, .int 0]))]) hD hS hA [2] rfl
  refine va_callv (va_runI (As := []) (rest := [.ref q_3, .ref q]) ⟨hx, hb, hml, hown, hts⟩ (k_java_util_ArrayList_init l dC dI q_3 H.size) (cwI 0 hts (gC hsub w_162) rfl rfl rfl (hts _ (hsub _ w_160)) (hts _ (hsub _ w_161)) (hts _ (hsub _ w_163)) rfl (by decide +kernel) ⟨Nat.le_of_ble_eq_true rfl, Nat.le_of_ble_eq_true rfl⟩) ⟨bl_1010, fun U hU hW => ⟨rfl, by rw [hU], by rw [hU]; exact hPc, va_K.moved hW.alike hKc, hDc.weaken (fun _ _ _ _ => trivial), exP_go hex hS (fun q h => hFc q h) U hU hW⟩⟩ rfl rfl hl.1 rfl (lv_room (Nat.le_of_ble_eq_true rfl)) d_E_init_16 ⟨Nat.le_of_ble_eq_true rfl, Nat.le_of_ble_eq_true rfl⟩) hS (fun q _ h => hFc q h) hFc (fun u_6 t H1 locs ht hvm hw hB hz1 hk1 hS => ?_)
  have hP1 : va_P (dC, dI) vwCl [] H1 := nil_P
  have hD1 : va_D (va_A [(q_3, .inr (7, [.int 0, .null, .int 0]))] H.size) [] := nil_D
  have hK1 : va_K (dC, dI) vwCl [] s := hK.sub (tys' := []) [] rfl
  obtain ⟨hP, hD⟩ := va_join (wr := [(q, .inr (6, [.null, .int 0, .ref q_1, .int 0, .int 0, .null, .int 0, .int 0, .int 0, .null, .null, .int 0, .int 0])), (q_1, .inl (k_2, 0, .inl (fun _ => 0)))]) (w1 := []) hP hD [2] [0, 1] rfl rfl (by decide) (by decide) hk1 hFc hP1 hD1
  have hK := (hK.sub (tys' := [(k_2, .int)]) [0] rfl).app hK1
  generalize H1 = H at hP hS ⊢
  have hP : va_P (dC, dI) vwCl [(q, .inr (6, [.null, .int 0, .ref q_1, .int 0, .int 0, .null, .int 0, .int 0, .int 0, .null, .null, .int 0, .int 0])), (q_1, .inl (k_2, 0, .inl (fun _ => 0)))] H := hP
  have hD : va_D A [(q, .inr (6, [.null, .int 0, .ref q_1, .int 0, .int 0, .null, .int 0, .int 0, .int 0, .null, .null, .int 0, .int 0])), (q_1, .inl (k_2, 0, .inl (fun _ => 0)))] := hD
  have hK : va_K (dC, dI) vwCl [(k_2, .int)] s := hK
  refine W.widen (k := 2) (n := 3) (Nat.le_of_ble_eq_true rfl) (Nat.le_of_ble_eq_true rfl) ?_
  refine va_put (D := (dC, dI)) (ci := 6) (v := .ref q_3) (ty := (.object "java/util/ArrayList")) (C := R_E) (T := T_E) (N := 13) hx hb hts (fun w h => hsub w (uw_E w h)) ty_E tok_E nm_E hown hK hP hD hS 0 rfl rfl 5 (by decide) (hts _ (hsub _ w_164)) (fun _ h9 => h9) rfl (by decide +kernel) rfl rfl (Nat.le_of_ble_eq_true rfl) d_E_init_19 (fun H locs hP hD hS => ?_)
  have hP : va_P (dC, dI) vwCl [(q, .inr (6, [.null, .int 0, .ref q_1, .int 0, .int 0, .ref q_3, .int 0, .int 0, .int 0, .null, .null, .int 0, .int 0])), (q_1, .inl (k_2, 0, .inl (fun _ => 0)))] H := hP
  have hD : va_D A [(q, .inr (6, [.null, .int 0, .ref q_1, .int 0, .int 0, .ref q_3, .int 0, .int 0, .int 0, .null, .null, .int 0, .int 0])), (q_1, .inl (k_2, 0, .inl (fun _ => 0)))] := hD
  refine lv_aload_n hx hb d_E_init_22 rfl (lv_at hl 0 rfl) ?_
  refine lv_iconst (v := (-1)) hx hb d_E_init_23 (by decide) ?_
  refine va_put (D := (dC, dI)) (ci := 6) (v := .int (-1)) (ty := .int) (C := R_E) (T := T_E) (N := 13) hx hb hts (fun w h => hsub w (uw_E w h)) ty_E tok_E nm_E hown hK hP hD hS 0 rfl rfl 8 (by decide) (hts _ (hsub _ w_165)) (fun _ h9 => h9) rfl (by decide +kernel) rfl rfl (Nat.le_of_ble_eq_true rfl) d_E_init_24 (fun H locs hP hD hS => ?_)
  have hP : va_P (dC, dI) vwCl [(q, .inr (6, [.null, .int 0, .ref q_1, .int 0, .int 0, .ref q_3, .int 0, .int 0, .int (-1), .null, .null, .int 0, .int 0])), (q_1, .inl (k_2, 0, .inl (fun _ => 0)))] H := hP
  have hD : va_D A [(q, .inr (6, [.null, .int 0, .ref q_1, .int 0, .int 0, .ref q_3, .int 0, .int 0, .int (-1), .null, .null, .int 0, .int 0])), (q_1, .inl (k_2, 0, .inl (fun _ => 0)))] := hD
  refine lv_aload_n hx hb d_E_init_27 rfl (lv_at hl 0 rfl) ?_
  refine lv_iconst (v := 0) hx hb d_E_init_28 (by decide) ?_
  refine va_newq (N' := 0) hx hb hown (hts _ (hsub _ w_166)) htb.2.2.2.2 hK hP hD hS hA (by decide) (by decide) (Nat.le_of_ble_eq_true rfl) (Nat.le_of_ble_eq_true rfl) (Nat.le_of_ble_eq_true rfl) d_E_init_29 (fun q_7 k_8 H hK hP hD hS => ?_)
  have hK : va_K (dC, dI) vwCl [(k_2, .int), (k_8, .object "MapFramer$State")] s := hK
  have hP : va_P (dC, dI) vwCl [(q, .inr (6, [.null, .int 0, .ref q_1, .int 0, .int 0, .ref q_3, .int 0, .int 0, .int (-1), .null, .null, .int 0, .int 0])), (q_1, .inl (k_2, 0, .inl (fun _ => 0))), (q_7, .inl (k_8, 0, .inr (.inr (.inr (.inr (fun _ => none))))))] H := hP
  have hD : va_D A [(q, .inr (6, [.null, .int 0, .ref q_1, .int 0, .int 0, .ref q_3, .int 0, .int 0, .int (-1), .null, .null, .int 0, .int 0])), (q_1, .inl (k_2, 0, .inl (fun _ => 0))), (q_7, .inl (k_8, 0, .inr (.inr (.inr (.inr (fun _ => none))))))] := hD
  refine W.widen (k := 3) (n := 3) (Nat.le_of_ble_eq_true rfl) (Nat.le_of_ble_eq_true rfl) ?_
  refine va_put (D := (dC, dI)) (ci := 6) (v := .ref q_7) (ty := (.array (.object "MapFramer$State"))) (C := R_E) (T := T_E) (N := 13) hx hb hts (fun w h => hsub w (uw_E w h)) ty_E tok_E nm_E hown hK hP hD hS 0 rfl rfl 9 (by decide) (hts _ (hsub _ w_167)) (fun _ h9 => h9) rfl (by decide +kernel) rfl rfl (Nat.le_of_ble_eq_true rfl) d_E_init_32 (fun H locs hP hD hS => ?_)
  have hP : va_P (dC, dI) vwCl [(q, .inr (6, [.null, .int 0, .ref q_1, .int 0, .int 0, .ref q_3, .int 0, .int 0, .int (-1), .ref q_7, .null, .int 0, .int 0])), (q_1, .inl (k_2, 0, .inl (fun _ => 0))), (q_7, .inl (k_8, 0, .inr (.inr (.inr (.inr (fun _ => none))))))] H := hP
  have hD : va_D A [(q, .inr (6, [.null, .int 0, .ref q_1, .int 0, .int 0, .ref q_3, .int 0, .int 0, .int (-1), .ref q_7, .null, .int 0, .int 0])), (q_1, .inl (k_2, 0, .inl (fun _ => 0))), (q_7, .inl (k_8, 0, .inr (.inr (.inr (.inr (fun _ => none))))))] := hD
  refine lv_aload_n hx hb d_E_init_35 rfl (lv_at hl 0 rfl) ?_
  refine lv_iconst (v := 0) hx hb d_E_init_36 (by decide) ?_
  refine va_newa (atype := .int) (ty := .int) (N' := 0) (a0 := (0, .inl (fun _ => 0))) hx hb (hts _ (hsub _ w_156)) rfl hK hP hD hS hA (fun _ => vz_i _ _) (by decide) (by decide) (Nat.le_of_ble_eq_true rfl) (Nat.le_of_ble_eq_true rfl) (Nat.le_of_ble_eq_true rfl) d_E_init_37 (fun q_9 k_10 H hK hP hD hS => ?_)
  have hK : va_K (dC, dI) vwCl [(k_2, .int), (k_8, .object "MapFramer$State"), (k_10, .int)] s := hK
  have hP : va_P (dC, dI) vwCl [(q, .inr (6, [.null, .int 0, .ref q_1, .int 0, .int 0, .ref q_3, .int 0, .int 0, .int (-1), .ref q_7, .null, .int 0, .int 0])), (q_1, .inl (k_2, 0, .inl (fun _ => 0))), (q_7, .inl (k_8, 0, .inr (.inr (.inr (.inr (fun _ => none)))))), (q_9, .inl (k_10, 0, .inl (fun _ => 0)))] H := hP
  have hD : va_D A [(q, .inr (6, [.null, .int 0, .ref q_1, .int 0, .int 0, .ref q_3, .int 0, .int 0, .int (-1), .ref q_7, .null, .int 0, .int 0])), (q_1, .inl (k_2, 0, .inl (fun _ => 0))), (q_7, .inl (k_8, 0, .inr (.inr (.inr (.inr (fun _ => none)))))), (q_9, .inl (k_10, 0, .inl (fun _ => 0)))] := hD
  refine W.widen (k := 4) (n := 3) (Nat.le_of_ble_eq_true rfl) (Nat.le_of_ble_eq_true rfl) ?_
  refine va_put (D := (dC, dI)) (ci := 6) (v := .ref q_9) (ty := (.array .int)) (C := R_E) (T := T_E) (N := 13) hx hb hts (fun w h => hsub w (uw_E w h)) ty_E tok_E nm_E hown hK hP hD hS 0 rfl rfl 10 (by decide) (hts _ (hsub _ w_168)) (fun _ h9 => h9) rfl (by decide +kernel) rfl rfl (Nat.le_of_ble_eq_true rfl) d_E_init_39 (fun H locs hP hD hS => ?_)
  have hP : va_P (dC, dI) vwCl [(q, .inr (6, [.null, .int 0, .ref q_1, .int 0, .int 0, .ref q_3, .int 0, .int 0, .int (-1), .ref q_7, .ref q_9, .int 0, .int 0])), (q_1, .inl (k_2, 0, .inl (fun _ => 0))), (q_7, .inl (k_8, 0, .inr (.inr (.inr (.inr (fun _ => none)))))), (q_9, .inl (k_10, 0, .inl (fun _ => 0)))] H := hP
  have hD : va_D A [(q, .inr (6, [.null, .int 0, .ref q_1, .int 0, .int 0, .ref q_3, .int 0, .int 0, .int (-1), .ref q_7, .ref q_9, .int 0, .int 0])), (q_1, .inl (k_2, 0, .inl (fun _ => 0))), (q_7, .inl (k_8, 0, .inr (.inr (.inr (.inr (fun _ => none)))))), (q_9, .inl (k_10, 0, .inl (fun _ => 0)))] := hD
  refine lv_aload_n hx hb d_E_init_42 rfl (lv_at hl 0 rfl) ?_
  refine lv_aload_n hx hb d_E_init_43 rfl (lv_at hl 1 rfl) ?_
  refine va_putF (D := (dC, dI)) (ci := 6) (v := .ref ta) (ty := (.array .int)) (C := R_E) (T := T_E) (N := 13) hx hb hts (fun w h => hsub w (uw_E w h)) ty_E tok_E nm_E hown hK hP hD hS 0 rfl rfl 0 (by decide) (hts _ (hsub _ w_169)) (fun _ h9 => h9) rfl hin rfl (by decide +kernel) rfl rfl (Nat.le_of_ble_eq_true rfl) d_E_init_44 (fun H locs hP hD hS => ?_)
  have hP : va_P (dC, dI) vwCl [(q, .inr (6, [.ref ta, .int 0, .ref q_1, .int 0, .int 0, .ref q_3, .int 0, .int 0, .int (-1), .ref q_7, .ref q_9, .int 0, .int 0])), (q_1, .inl (k_2, 0, .inl (fun _ => 0))), (q_7, .inl (k_8, 0, .inr (.inr (.inr (.inr (fun _ => none)))))), (q_9, .inl (k_10, 0, .inl (fun _ => 0)))] H := hP
  have hD : va_D A [(q, .inr (6, [.ref ta, .int 0, .ref q_1, .int 0, .int 0, .ref q_3, .int 0, .int 0, .int (-1), .ref q_7, .ref q_9, .int 0, .int 0])), (q_1, .inl (k_2, 0, .inl (fun _ => 0))), (q_7, .inl (k_8, 0, .inr (.inr (.inr (.inr (fun _ => none)))))), (q_9, .inl (k_10, 0, .inl (fun _ => 0)))] := hD
  refine lv_aload_n hx hb d_E_init_47 rfl (lv_at hl 0 rfl) ?_
  refine lv_iload_n hx hb d_E_init_48 rfl (lv_at hl 2 rfl) ?_
  refine va_putF (D := (dC, dI)) (ci := 6) (v := .int rs) (ty := .int) (C := R_E) (T := T_E) (N := 13) hx hb hts (fun w h => hsub w (uw_E w h)) ty_E tok_E nm_E hown hK hP hD hS 0 rfl rfl 1 (by decide) (hts _ (hsub _ w_170)) (fun _ h9 => h9) rfl hin rfl (by decide +kernel) rfl rfl (Nat.le_of_ble_eq_true rfl) d_E_init_49 (fun H locs hP hD hS => ?_)
  have hP : va_P (dC, dI) vwCl [(q, .inr (6, [.ref ta, .int rs, .ref q_1, .int 0, .int 0, .ref q_3, .int 0, .int 0, .int (-1), .ref q_7, .ref q_9, .int 0, .int 0])), (q_1, .inl (k_2, 0, .inl (fun _ => 0))), (q_7, .inl (k_8, 0, .inr (.inr (.inr (.inr (fun _ => none)))))), (q_9, .inl (k_10, 0, .inl (fun _ => 0)))] H := hP
  have hD : va_D A [(q, .inr (6, [.ref ta, .int rs, .ref q_1, .int 0, .int 0, .ref q_3, .int 0, .int 0, .int (-1), .ref q_7, .ref q_9, .int 0, .int 0])), (q_1, .inl (k_2, 0, .inl (fun _ => 0))), (q_7, .inl (k_8, 0, .inr (.inr (.inr (.inr (fun _ => none)))))), (q_9, .inl (k_10, 0, .inl (fun _ => 0)))] := hD
  refine W.widen (k := 4) (n := 3) (Nat.le_of_ble_eq_true rfl) (Nat.le_of_ble_eq_true rfl) ?_
  exact W.vret hx hb hr (fun t ht hW => ⟨⟨(), rfl, trivial, q_1, q_3, q_7, q_9, by rw [ht]; exact hP.sub [0] rfl, va_K.moved hW.alike (hK.sub (tys' := []) [] rfl), hD.sub [0] (by decide) rfl⟩, hS.F ht⟩) hS.2.2 d_E_init_52

abbrev ws_k_W_addMethod (w wp wu wi wc wt wx wm : Nat) (km : ClassId) (fm : Nat → Option Nat) : va_W := [(w, .inr (3, [.ref wp, .ref wu, .ref wi, .int 2, .ref wc, .ref wt, .ref wx, .int 0, .ref wm, .int 0])), (wm, .inl (km, 8, .inr (.inr (.inr (.inr fm)))))]
set_option maxHeartbeats 4000000 in
set_option maxRecDepth 100000 in
theorem k_W_addMethod (l : Launch) (dC : Nat → ClassId) (dI : Nat → Nat → Nat) (w wp wu wi wc wt wx wm : Nat) (km : ClassId) (fm : Nat → Option Nat) (pk rs : Int32) (sz : Nat) : Met l y_W_addMethod (Cond.code y_W_addMethod prog_12_method_4_code 5 (some .int) :: bigW) ({ frames := 5, cells := 6, slots := 20, locals := 94 } : Room) (va_Pc [.ref w, .int pk, .int rs] (fun U => U.heap.size = sz ∧ va_P (dC, dI) vwCl (ws_k_W_addMethod w wp wu wi wc wt wx wm km fm) U.heap ∧ va_K (dC, dI) vwCl [(km, .object "MapFramer$Method")] U ∧ va_D (fun _ => True) (ws_k_W_addMethod w wp wu wi wc wt wx wm km fm) ∧ exP (va_A (ws_k_W_addMethod w wp wu wi wc wt wx wm km fm) sz) U)) (va_Qi (fun (r : Int32) (u : Unit) => r = 0) (fun _ _ => True) (va_A (ws_k_W_addMethod w wp wu wi wc wt wx wm km fm) sz)) 6 20 (va_A (ws_k_W_addMethod w wp wu wi wc wt wx wm km fm) sz) := by
  refine Met.ofW (cc := prog_12_method_4_code) (maxL := 5) (ret := (some .int)) (by decide) rfl ?_
  intro p e s m args below meth cx s₁ B hml hv
  obtain ⟨rfl, hsz, hP, hK, hD0, hex⟩ := hv
  have hx := B.exec
  have hb := B.bytes
  have hr := B.returns
  have hts := atoms_spec (ws := (Cond.code y_W_addMethod prog_12_method_4_code 5 (some .int) :: bigW)) B.pre
  have hsub : ∀ w ∈ bigW, w ∈ (Cond.code y_W_addMethod prog_12_method_4_code 5 (some .int) :: bigW) := fun w h => List.mem_cons_of_mem _ h
  have hown : s.vm.findClass "MapFramer$World" = some m.cls := findClass_of_methodNamed B.named
  have hlocks := B.notSynchronized
  subst hsz
  have hD := hD0.self (sz := s.heap.size)
  generalize hAe : va_A (ws_k_W_addMethod w wp wu wi wc wt wx wm km fm) s.heap.size = A at hD hex ⊢
  have hA : ∀ q : Nat, s.heap.size ≤ q → A q := fun q h => by rw [← hAe]; exact Or.inr h
  have hS : va_S A s.heap s.heap [] := va_S.rf
  have hP : va_P (dC, dI) vwCl [(w, .inr (3, [.ref wp, .ref wu, .ref wi, .int 2, .ref wc, .ref wt, .ref wx, .int 0, .ref wm, .int 0])), (wm, .inl (km, 8, .inr (.inr (.inr (.inr fm)))))] s.heap := hP
  have hD : va_D A [(w, .inr (3, [.ref wp, .ref wu, .ref wi, .int 2, .ref wc, .ref wt, .ref wx, .int 0, .ref wm, .int 0])), (wm, .inl (km, 8, .inr (.inr (.inr (.inr fm)))))] := hD
  have hl := lv_entry ([.ref w, .int pk, .int rs]) (n := 5) (Nat.le_of_ble_eq_true rfl)
  rw [lg_entry_eq]
  generalize (lg_sl ([.ref w, .int pk, .int rs]) ++ List.replicate (5 - (lg_sl ([.ref w, .int pk, .int rs])).length) Slot.unset).toArray = ls at hl ⊢
  have hl : lv_has ls 5 [(0, .ref w), (1, .int pk), (2, .int rs)] := hl
  have htb := hex.2.2.2.2.2.1
  refine lv_iload_n hx hb d_W_addMethod_0 rfl (lv_at hl 1 rfl) ?_
  have hPc := hP.sub (ws' := []) [] rfl
  have hKc := hK.sub (tys' := []) [] rfl
  refine va_calli (va_runS (As := [.int pk]) (rest := []) ⟨hx, hb, hml, hown, hts⟩ (k_W_argumentCount l dC dI pk) (va_cwS 1 hts (gS hsub w_171 w_172 w_4 w_173) rfl rfl rfl (by decide +kernel) ⟨Nat.le_of_ble_eq_true rfl, Nat.le_of_ble_eq_true rfl⟩) ⟨bl_0000, fun U hU hW => ⟨rfl, by rw [hU]; exact hPc, va_K.moved hW.alike hKc⟩⟩ rfl rfl hl.1 rfl (lv_room (Nat.le_of_ble_eq_true rfl)) d_W_addMethod_1 ⟨Nat.le_of_ble_eq_true rfl, Nat.le_of_ble_eq_true rfl⟩) hS (fun q _ h => h.elim) (fun q h => h.elim) (fun r_2 u_3 t H1 locs ht hvm hw hB hz1 hk1 hS => ?_)
  have hP := ro_keep hP hk1
  generalize H1 = H at hP hS ⊢
  refine W.widen (k := 0) (n := 0) (Nat.le_of_ble_eq_true rfl) (Nat.le_of_ble_eq_true rfl) ?_
  rcases argI_cases pk with ⟨hn, g0⟩ | ⟨hn, g0, g1⟩ | ⟨hn, g0, g1, g2⟩ | ⟨hn, g0, g1, g2, g3⟩ | ⟨hn, g0, g1, g2, g3⟩
  · obtain rfl : r_2 = 0 := hw.trans hn
    refine va_newa (atype := .int) (ty := .int) (N' := 0) (a0 := (0, .inl (fun _ => 0))) hx hb (hts _ (hsub _ w_156)) rfl hK hP hD hS hA (fun _ => vz_i _ _) (by decide) (by decide) (Nat.le_of_ble_eq_true rfl) (Nat.le_of_ble_eq_true rfl) (Nat.le_of_ble_eq_true rfl) d_W_addMethod_4 (fun q_4 k_5 H hK hP hD hS => ?_)
    have hK : va_K (dC, dI) vwCl [(km, .object "MapFramer$Method"), (k_5, .int)] s := hK
    have hP : va_P (dC, dI) vwCl [(w, .inr (3, [.ref wp, .ref wu, .ref wi, .int 2, .ref wc, .ref wt, .ref wx, .int 0, .ref wm, .int 0])), (wm, .inl (km, 8, .inr (.inr (.inr (.inr fm))))), (q_4, .inl (k_5, 0, .inl (fun _ => 0)))] H := hP
    have hD : va_D A [(w, .inr (3, [.ref wp, .ref wu, .ref wi, .int 2, .ref wc, .ref wt, .ref wx, .int 0, .ref wm, .int 0])), (wm, .inl (km, 8, .inr (.inr (.inr (.inr fm))))), (q_4, .inl (k_5, 0, .inl (fun _ => 0)))] := hD
    refine W.widen (k := 1) (n := 0) (Nat.le_of_ble_eq_true rfl) (Nat.le_of_ble_eq_true rfl) ?_
    refine lv_astore_n (lv' := [(3, .ref q_4), (0, .ref w), (1, .int pk), (2, .int rs)]) hx hb d_W_addMethod_6 rfl hl (by decide) rfl (fun ls hl => ?_)
    refine lv_iconst (v := 0) hx hb d_W_addMethod_7 (by decide) ?_
    refine lv_istore (lv' := [(4, .int 0), (3, .ref q_4), (0, .ref w), (1, .int pk), (2, .int rs)]) hx hb d_W_addMethod_8 hl (by decide) rfl (fun ls hl => ?_)
    refine lv_iload hx hb d_W_addMethod_10 (lv_at hl 0 rfl) ?_
    refine lv_aload_n hx hb d_W_addMethod_12 rfl (lv_at hl 1 rfl) ?_
    refine va_alen (v := 0) hx hb hK hP 2 1 rfl rfl rfl d_W_addMethod_13 ?_
    refine lv_icmp_ge (tgt := 33) hx hb d_W_addMethod_14 (by decide) (fun c_6 => ?_) (fun c_6 => ?_)
    · skip
      refine lv_aload_n hx hb d_W_addMethod_33 rfl (lv_at hl 2 rfl) ?_
      refine va_get (D := (dC, dI)) (ci := 3) (v := .ref wm) (C := R_W) (T := T_W) (N := 10) hx hb hts (fun w h => hsub w (uw_W w h)) hown hK hP 0 rfl rfl 8 (by decide) (hts _ (hsub _ w_174)) (fun _ h9 => h9) rfl d_W_addMethod_34 ?_
      refine lv_aload_n hx hb d_W_addMethod_37 rfl (lv_at hl 2 rfl) ?_
      refine va_get (D := (dC, dI)) (ci := 3) (v := .int 0) (C := R_W) (T := T_W) (N := 10) hx hb hts (fun w h => hsub w (uw_W w h)) hown hK hP 0 rfl rfl 9 (by decide) (hts _ (hsub _ w_7)) (fun _ h9 => h9) rfl d_W_addMethod_38 ?_
      refine va_new (ci := 6) (fs := [.null, .int 0, .null, .int 0, .int 0, .null, .int 0, .int 0, .int 0, .null, .null, .int 0, .int 0]) (C := R_E) (T := T_E) (N := 13) hx hb hts (fun w h => hsub w (uw_E w h)) ty_E tok_E hown (hts _ (hsub _ w_175)) (hts _ (hsub _ w_176)) (hts _ (hsub _ w_177)) hK hP hD hS hA rfl (fun j hj => df_E j hj) (Nat.le_of_ble_eq_true rfl) (Nat.le_of_ble_eq_true rfl) d_W_addMethod_41 (fun q_7 H hP hD hS => ?_)
      have hP : va_P (dC, dI) vwCl [(w, .inr (3, [.ref wp, .ref wu, .ref wi, .int 2, .ref wc, .ref wt, .ref wx, .int 0, .ref wm, .int 0])), (wm, .inl (km, 8, .inr (.inr (.inr (.inr fm))))), (q_4, .inl (k_5, 0, .inl (fun _ => 0))), (q_7, .inr (6, [.null, .int 0, .null, .int 0, .int 0, .null, .int 0, .int 0, .int 0, .null, .null, .int 0, .int 0]))] H := hP
      have hD : va_D A [(w, .inr (3, [.ref wp, .ref wu, .ref wi, .int 2, .ref wc, .ref wt, .ref wx, .int 0, .ref wm, .int 0])), (wm, .inl (km, 8, .inr (.inr (.inr (.inr fm))))), (q_4, .inl (k_5, 0, .inl (fun _ => 0))), (q_7, .inr (6, [.null, .int 0, .null, .int 0, .int 0, .null, .int 0, .int 0, .int 0, .null, .null, .int 0, .int 0]))] := hD
      refine W.widen (k := 2) (n := 13) (Nat.le_of_ble_eq_true rfl) (Nat.le_of_ble_eq_true rfl) ?_
      refine lv_dup hx hb d_W_addMethod_44 rfl ?_
      refine lv_aload_n hx hb d_W_addMethod_45 rfl (lv_at hl 1 rfl) ?_
      refine lv_iload_n hx hb d_W_addMethod_46 rfl (lv_at hl 4 rfl) ?_
      have hPc := hP.sub (ws' := [(q_7, .inr (6, [.null, .int 0, .null, .int 0, .int 0, .null, .int 0, .int 0, .int 0, .null, .null, .int 0, .int 0]))]) [3] rfl
      have hKc := hK.sub (tys' := []) [] rfl
      have hDc := hD.sub (ws' := [(q_7, .inr (6, [.null, .int 0, .null, .int 0, .int 0, .null, .int 0, .int 0, .int 0, .null, .null, .int 0, .int 0]))]) [3] (by decide) rfl
      have hFc := va_free (wc := [(q_7, .inr (6, [.null, .int 0, .null, .int 0, .int 0, .null, .int 0, .int 0, .int 0, .null, .null, .int 0, .int 0]))]) hD hS hA [3] rfl
      refine va_callv (va_runI (As := [.ref q_4, .int rs]) (rest := [.ref q_7, .int 0, .ref wm]) ⟨hx, hb, hml, hown, hts⟩ (k_E_init l dC dI q_7 q_4 rs H.size) (cwI 2 hts (gC hsub w_179) rfl rfl rfl (hts _ (hsub _ w_177)) (hts _ (hsub _ w_178)) (hts _ (hsub _ w_180)) rfl (by decide +kernel) ⟨Nat.le_of_ble_eq_true rfl, Nat.le_of_ble_eq_true rfl⟩) ⟨bl_1010, fun U hU hW => ⟨rfl, by rw [hU], by rw [hU]; exact hPc, va_K.moved hW.alike hKc, hDc.weaken (fun _ _ _ _ => trivial), exP_go hex hS (fun q h => hFc q h) U hU hW⟩⟩ rfl rfl hl.1 rfl (lv_room (Nat.le_of_ble_eq_true rfl)) d_W_addMethod_47 ⟨Nat.le_of_ble_eq_true rfl, Nat.le_of_ble_eq_true rfl⟩) hS (fun q _ h => hFc q h) hFc (fun u_10 t H1 locs ht hvm hw hB hz1 hk1 hS => ?_)
      obtain ⟨q_11, q_12, q_13, q_14, hP1, hK1, hD1⟩ := hB
      rw [ht] at hP1
      have hK1 := va_K.moved hvm.symm hK1
      obtain ⟨hP, hD⟩ := va_join (wr := [(w, .inr (3, [.ref wp, .ref wu, .ref wi, .int 2, .ref wc, .ref wt, .ref wx, .int 0, .ref wm, .int 0])), (wm, .inl (km, 8, .inr (.inr (.inr (.inr fm))))), (q_4, .inl (k_5, 0, .inl (fun _ => 0)))]) (w1 := [(q_7, .inr (6, [.ref q_4, .int rs, .ref q_11, .int 0, .int 0, .ref q_12, .int 0, .int 0, .int (-1), .ref q_13, .ref q_14, .int 0, .int 0]))]) hP hD [3] [0, 1, 2] rfl rfl (by decide) (by decide) hk1 hFc hP1 hD1
      have hK := (hK.sub (tys' := [(km, .object "MapFramer$Method"), (k_5, .int)]) [0, 1] rfl).app hK1
      generalize H1 = H at hP hS ⊢
      have hP : va_P (dC, dI) vwCl [(w, .inr (3, [.ref wp, .ref wu, .ref wi, .int 2, .ref wc, .ref wt, .ref wx, .int 0, .ref wm, .int 0])), (wm, .inl (km, 8, .inr (.inr (.inr (.inr fm))))), (q_4, .inl (k_5, 0, .inl (fun _ => 0))), (q_7, .inr (6, [.ref q_4, .int rs, .ref q_11, .int 0, .int 0, .ref q_12, .int 0, .int 0, .int (-1), .ref q_13, .ref q_14, .int 0, .int 0]))] H := hP
      have hD : va_D A [(w, .inr (3, [.ref wp, .ref wu, .ref wi, .int 2, .ref wc, .ref wt, .ref wx, .int 0, .ref wm, .int 0])), (wm, .inl (km, 8, .inr (.inr (.inr (.inr fm))))), (q_4, .inl (k_5, 0, .inl (fun _ => 0))), (q_7, .inr (6, [.ref q_4, .int rs, .ref q_11, .int 0, .int 0, .ref q_12, .int 0, .int 0, .int (-1), .ref q_13, .ref q_14, .int 0, .int 0]))] := hD
      have hK : va_K (dC, dI) vwCl [(km, .object "MapFramer$Method"), (k_5, .int)] s := hK
      refine W.widen (k := 6) (n := 16) (Nat.le_of_ble_eq_true rfl) (Nat.le_of_ble_eq_true rfl) ?_
      refine va_astq (r := (R_E, T_E, 13)) hx hb hK hP hD hS 1 0 3 6 rfl rfl rfl rfl (vp_in_iff.mpr (by decide)) d_W_addMethod_50 (fun H locs hP hD hS => ?_)
      have hP : va_P (dC, dI) vwCl [(w, .inr (3, [.ref wp, .ref wu, .ref wi, .int 2, .ref wc, .ref wt, .ref wx, .int 0, .ref wm, .int 0])), (wm, .inl (km, 8, .inr (.inr (.inr (.inr (va_up fm (0 : Int32).toNatClampNeg (some q_7))))))), (q_4, .inl (k_5, 0, .inl (fun _ => 0))), (q_7, .inr (6, [.ref q_4, .int rs, .ref q_11, .int 0, .int 0, .ref q_12, .int 0, .int 0, .int (-1), .ref q_13, .ref q_14, .int 0, .int 0]))] H := hP
      have hD : va_D A [(w, .inr (3, [.ref wp, .ref wu, .ref wi, .int 2, .ref wc, .ref wt, .ref wx, .int 0, .ref wm, .int 0])), (wm, .inl (km, 8, .inr (.inr (.inr (.inr (va_up fm (0 : Int32).toNatClampNeg (some q_7))))))), (q_4, .inl (k_5, 0, .inl (fun _ => 0))), (q_7, .inr (6, [.ref q_4, .int rs, .ref q_11, .int 0, .int 0, .ref q_12, .int 0, .int 0, .int (-1), .ref q_13, .ref q_14, .int 0, .int 0]))] := hD
      refine lv_aload_n hx hb d_W_addMethod_51 rfl (lv_at hl 2 rfl) ?_
      refine lv_dup hx hb d_W_addMethod_52 rfl ?_
      refine va_get (D := (dC, dI)) (ci := 3) (v := .int 0) (C := R_W) (T := T_W) (N := 10) hx hb hts (fun w h => hsub w (uw_W w h)) hown hK hP 0 rfl rfl 9 (by decide) (hts _ (hsub _ w_7)) (fun _ h9 => h9) rfl d_W_addMethod_53 ?_
      refine lv_iconst (v := 1) hx hb d_W_addMethod_56 (by decide) ?_
      refine lv_iadd hx hb d_W_addMethod_57 ?_
      refine tp_i 1 (by decide) ?_
      refine va_put (D := (dC, dI)) (ci := 3) (v := .int 1) (ty := .int) (C := R_W) (T := T_W) (N := 10) hx hb hts (fun w h => hsub w (uw_W w h)) ty_W tok_W nm_W hown hK hP hD hS 0 rfl rfl 9 (by decide) (hts _ (hsub _ w_7)) (fun _ h9 => h9) rfl (by decide +kernel) rfl rfl (Nat.le_of_ble_eq_true rfl) d_W_addMethod_58 (fun H locs hP hD hS => ?_)
      have hP : va_P (dC, dI) vwCl [(w, .inr (3, [.ref wp, .ref wu, .ref wi, .int 2, .ref wc, .ref wt, .ref wx, .int 0, .ref wm, .int 1])), (wm, .inl (km, 8, .inr (.inr (.inr (.inr (va_up fm (0 : Int32).toNatClampNeg (some q_7))))))), (q_4, .inl (k_5, 0, .inl (fun _ => 0))), (q_7, .inr (6, [.ref q_4, .int rs, .ref q_11, .int 0, .int 0, .ref q_12, .int 0, .int 0, .int (-1), .ref q_13, .ref q_14, .int 0, .int 0]))] H := hP
      have hD : va_D A [(w, .inr (3, [.ref wp, .ref wu, .ref wi, .int 2, .ref wc, .ref wt, .ref wx, .int 0, .ref wm, .int 1])), (wm, .inl (km, 8, .inr (.inr (.inr (.inr (va_up fm (0 : Int32).toNatClampNeg (some q_7))))))), (q_4, .inl (k_5, 0, .inl (fun _ => 0))), (q_7, .inr (6, [.ref q_4, .int rs, .ref q_11, .int 0, .int 0, .ref q_12, .int 0, .int 0, .int (-1), .ref q_13, .ref q_14, .int 0, .int 0]))] := hD
      refine lv_aload_n hx hb d_W_addMethod_61 rfl (lv_at hl 2 rfl) ?_
      refine va_get (D := (dC, dI)) (ci := 3) (v := .int 1) (C := R_W) (T := T_W) (N := 10) hx hb hts (fun w h => hsub w (uw_W w h)) hown hK hP 0 rfl rfl 9 (by decide) (hts _ (hsub _ w_7)) (fun _ h9 => h9) rfl d_W_addMethod_62 ?_
      refine lv_iconst (v := 1) hx hb d_W_addMethod_65 (by decide) ?_
      refine lv_isub hx hb d_W_addMethod_66 ?_
      refine tp_i 0 (by decide) ?_
      refine W.widen (k := 6) (n := 20) (Nat.le_of_ble_eq_true rfl) (Nat.le_of_ble_eq_true rfl) ?_
      exact W.iret (v := 0) hx hb hr (fun t ht hW => ⟨⟨0, (), rfl, rfl, trivial⟩, hS.F ht⟩) hS.2.2 d_W_addMethod_67
    · skip
      first | exact absurd c_6 (by decide) | exact absurd (by decide) c_6
  · obtain rfl : r_2 = 1 := hw.trans hn
    refine va_newa (atype := .int) (ty := .int) (N' := 1) (a0 := (1, .inl (fun _ => 0))) hx hb (hts _ (hsub _ w_156)) rfl hK hP hD hS hA (fun _ => vz_i _ _) (by decide) (by decide) (Nat.le_of_ble_eq_true rfl) (Nat.le_of_ble_eq_true rfl) (Nat.le_of_ble_eq_true rfl) d_W_addMethod_4 (fun q_15 k_16 H hK hP hD hS => ?_)
    have hK : va_K (dC, dI) vwCl [(km, .object "MapFramer$Method"), (k_16, .int)] s := hK
    have hP : va_P (dC, dI) vwCl [(w, .inr (3, [.ref wp, .ref wu, .ref wi, .int 2, .ref wc, .ref wt, .ref wx, .int 0, .ref wm, .int 0])), (wm, .inl (km, 8, .inr (.inr (.inr (.inr fm))))), (q_15, .inl (k_16, 1, .inl (fun _ => 0)))] H := hP
    have hD : va_D A [(w, .inr (3, [.ref wp, .ref wu, .ref wi, .int 2, .ref wc, .ref wt, .ref wx, .int 0, .ref wm, .int 0])), (wm, .inl (km, 8, .inr (.inr (.inr (.inr fm))))), (q_15, .inl (k_16, 1, .inl (fun _ => 0)))] := hD
    refine W.widen (k := 1) (n := 1) (Nat.le_of_ble_eq_true rfl) (Nat.le_of_ble_eq_true rfl) ?_
    refine lv_astore_n (lv' := [(3, .ref q_15), (0, .ref w), (1, .int pk), (2, .int rs)]) hx hb d_W_addMethod_6 rfl hl (by decide) rfl (fun ls hl => ?_)
    refine lv_iconst (v := 0) hx hb d_W_addMethod_7 (by decide) ?_
    refine lv_istore (lv' := [(4, .int 0), (3, .ref q_15), (0, .ref w), (1, .int pk), (2, .int rs)]) hx hb d_W_addMethod_8 hl (by decide) rfl (fun ls hl => ?_)
    refine lv_iload hx hb d_W_addMethod_10 (lv_at hl 0 rfl) ?_
    refine lv_aload_n hx hb d_W_addMethod_12 rfl (lv_at hl 1 rfl) ?_
    refine va_alen (v := 1) hx hb hK hP 2 1 rfl rfl rfl d_W_addMethod_13 ?_
    refine lv_icmp_ge (tgt := 33) hx hb d_W_addMethod_14 (by decide) (fun c_17 => ?_) (fun c_17 => ?_)
    · skip
      first | exact absurd c_17 (by decide) | exact absurd (by decide) c_17
    · skip
      refine lv_aload_n hx hb d_W_addMethod_17 rfl (lv_at hl 1 rfl) ?_
      refine lv_iload hx hb d_W_addMethod_18 (lv_at hl 0 rfl) ?_
      refine lv_iload_n hx hb d_W_addMethod_20 rfl (lv_at hl 3 rfl) ?_
      refine lv_iload hx hb d_W_addMethod_21 (lv_at hl 0 rfl) ?_
      have hPc := hP.sub (ws' := []) [] rfl
      have hKc := hK.sub (tys' := []) [] rfl
      refine va_calli (va_runS (As := [.int pk, .int 0]) (rest := [.int 0, .ref q_15]) ⟨hx, hb, hml, hown, hts⟩ (k_W_argumentType l dC dI pk 0) (va_cwS 2 hts (gS hsub w_138 w_139 w_4 w_140) rfl rfl rfl (by decide +kernel) ⟨Nat.le_of_ble_eq_true rfl, Nat.le_of_ble_eq_true rfl⟩) ⟨bl_0000, fun U hU hW => ⟨rfl, by rw [hU]; exact hPc, va_K.moved hW.alike hKc⟩⟩ rfl rfl hl.1 rfl (lv_room (Nat.le_of_ble_eq_true rfl)) d_W_addMethod_23 ⟨Nat.le_of_ble_eq_true rfl, Nat.le_of_ble_eq_true rfl⟩) hS (fun q _ h => h.elim) (fun q h => h.elim) (fun r_19 u_20 t H1 locs ht hvm hw hB hz1 hk1 hS => ?_)
      have hP := ro_keep hP hk1
      generalize H1 = H at hP hS ⊢
      refine W.widen (k := 1) (n := 1) (Nat.le_of_ble_eq_true rfl) (Nat.le_of_ble_eq_true rfl) ?_
      subst hw
      refine va_iast hx hb hK hP hD hS 2 1 rfl rfl (vp_in_iff.mpr (by decide)) d_W_addMethod_26 (fun H locs hP hD hS => ?_)
      have hP : va_P (dC, dI) vwCl [(w, .inr (3, [.ref wp, .ref wu, .ref wi, .int 2, .ref wc, .ref wt, .ref wx, .int 0, .ref wm, .int 0])), (wm, .inl (km, 8, .inr (.inr (.inr (.inr fm))))), (q_15, .inl (k_16, 1, .inl (upd (fun _ => 0) (0 : Int32).toNatClampNeg (argX pk 0))))] H := hP
      have hD : va_D A [(w, .inr (3, [.ref wp, .ref wu, .ref wi, .int 2, .ref wc, .ref wt, .ref wx, .int 0, .ref wm, .int 0])), (wm, .inl (km, 8, .inr (.inr (.inr (.inr fm))))), (q_15, .inl (k_16, 1, .inl (upd (fun _ => 0) (0 : Int32).toNatClampNeg (argX pk 0))))] := hD
      refine lv_iinc (v := 1) (lv' := [(4, .int 1), (3, .ref q_15), (0, .ref w), (1, .int pk), (2, .int rs)]) hx hb d_W_addMethod_27 hl (k := 0) rfl (by decide) (by decide) rfl (fun ls hl => ?_)
      refine lv_goto (tgt := 10) hx hb d_W_addMethod_30 (by decide) ?_
      refine lv_iload hx hb d_W_addMethod_10 (lv_at hl 0 rfl) ?_
      refine lv_aload_n hx hb d_W_addMethod_12 rfl (lv_at hl 1 rfl) ?_
      refine va_alen (v := 1) hx hb hK hP 2 1 rfl rfl rfl d_W_addMethod_13 ?_
      refine lv_icmp_ge (tgt := 33) hx hb d_W_addMethod_14 (by decide) (fun c_21 => ?_) (fun c_21 => ?_)
      · skip
        refine lv_aload_n hx hb d_W_addMethod_33 rfl (lv_at hl 2 rfl) ?_
        refine va_get (D := (dC, dI)) (ci := 3) (v := .ref wm) (C := R_W) (T := T_W) (N := 10) hx hb hts (fun w h => hsub w (uw_W w h)) hown hK hP 0 rfl rfl 8 (by decide) (hts _ (hsub _ w_174)) (fun _ h9 => h9) rfl d_W_addMethod_34 ?_
        refine lv_aload_n hx hb d_W_addMethod_37 rfl (lv_at hl 2 rfl) ?_
        refine va_get (D := (dC, dI)) (ci := 3) (v := .int 0) (C := R_W) (T := T_W) (N := 10) hx hb hts (fun w h => hsub w (uw_W w h)) hown hK hP 0 rfl rfl 9 (by decide) (hts _ (hsub _ w_7)) (fun _ h9 => h9) rfl d_W_addMethod_38 ?_
        refine va_new (ci := 6) (fs := [.null, .int 0, .null, .int 0, .int 0, .null, .int 0, .int 0, .int 0, .null, .null, .int 0, .int 0]) (C := R_E) (T := T_E) (N := 13) hx hb hts (fun w h => hsub w (uw_E w h)) ty_E tok_E hown (hts _ (hsub _ w_175)) (hts _ (hsub _ w_176)) (hts _ (hsub _ w_177)) hK hP hD hS hA rfl (fun j hj => df_E j hj) (Nat.le_of_ble_eq_true rfl) (Nat.le_of_ble_eq_true rfl) d_W_addMethod_41 (fun q_22 H hP hD hS => ?_)
        have hP : va_P (dC, dI) vwCl [(w, .inr (3, [.ref wp, .ref wu, .ref wi, .int 2, .ref wc, .ref wt, .ref wx, .int 0, .ref wm, .int 0])), (wm, .inl (km, 8, .inr (.inr (.inr (.inr fm))))), (q_15, .inl (k_16, 1, .inl (upd (fun _ => 0) (0 : Int32).toNatClampNeg (argX pk 0)))), (q_22, .inr (6, [.null, .int 0, .null, .int 0, .int 0, .null, .int 0, .int 0, .int 0, .null, .null, .int 0, .int 0]))] H := hP
        have hD : va_D A [(w, .inr (3, [.ref wp, .ref wu, .ref wi, .int 2, .ref wc, .ref wt, .ref wx, .int 0, .ref wm, .int 0])), (wm, .inl (km, 8, .inr (.inr (.inr (.inr fm))))), (q_15, .inl (k_16, 1, .inl (upd (fun _ => 0) (0 : Int32).toNatClampNeg (argX pk 0)))), (q_22, .inr (6, [.null, .int 0, .null, .int 0, .int 0, .null, .int 0, .int 0, .int 0, .null, .null, .int 0, .int 0]))] := hD
        refine W.widen (k := 2) (n := 14) (Nat.le_of_ble_eq_true rfl) (Nat.le_of_ble_eq_true rfl) ?_
        refine lv_dup hx hb d_W_addMethod_44 rfl ?_
        refine lv_aload_n hx hb d_W_addMethod_45 rfl (lv_at hl 1 rfl) ?_
        refine lv_iload_n hx hb d_W_addMethod_46 rfl (lv_at hl 4 rfl) ?_
        have hPc := hP.sub (ws' := [(q_22, .inr (6, [.null, .int 0, .null, .int 0, .int 0, .null, .int 0, .int 0, .int 0, .null, .null, .int 0, .int 0]))]) [3] rfl
        have hKc := hK.sub (tys' := []) [] rfl
        have hDc := hD.sub (ws' := [(q_22, .inr (6, [.null, .int 0, .null, .int 0, .int 0, .null, .int 0, .int 0, .int 0, .null, .null, .int 0, .int 0]))]) [3] (by decide) rfl
        have hFc := va_free (wc := [(q_22, .inr (6, [.null, .int 0, .null, .int 0, .int 0, .null, .int 0, .int 0, .int 0, .null, .null, .int 0, .int 0]))]) hD hS hA [3] rfl
        refine va_callv (va_runI (As := [.ref q_15, .int rs]) (rest := [.ref q_22, .int 0, .ref wm]) ⟨hx, hb, hml, hown, hts⟩ (k_E_init l dC dI q_22 q_15 rs H.size) (cwI 2 hts (gC hsub w_179) rfl rfl rfl (hts _ (hsub _ w_177)) (hts _ (hsub _ w_178)) (hts _ (hsub _ w_180)) rfl (by decide +kernel) ⟨Nat.le_of_ble_eq_true rfl, Nat.le_of_ble_eq_true rfl⟩) ⟨bl_1010, fun U hU hW => ⟨rfl, by rw [hU], by rw [hU]; exact hPc, va_K.moved hW.alike hKc, hDc.weaken (fun _ _ _ _ => trivial), exP_go hex hS (fun q h => hFc q h) U hU hW⟩⟩ rfl rfl hl.1 rfl (lv_room (Nat.le_of_ble_eq_true rfl)) d_W_addMethod_47 ⟨Nat.le_of_ble_eq_true rfl, Nat.le_of_ble_eq_true rfl⟩) hS (fun q _ h => hFc q h) hFc (fun u_25 t H1 locs ht hvm hw hB hz1 hk1 hS => ?_)
        obtain ⟨q_26, q_27, q_28, q_29, hP1, hK1, hD1⟩ := hB
        rw [ht] at hP1
        have hK1 := va_K.moved hvm.symm hK1
        obtain ⟨hP, hD⟩ := va_join (wr := [(w, .inr (3, [.ref wp, .ref wu, .ref wi, .int 2, .ref wc, .ref wt, .ref wx, .int 0, .ref wm, .int 0])), (wm, .inl (km, 8, .inr (.inr (.inr (.inr fm))))), (q_15, .inl (k_16, 1, .inl (upd (fun _ => 0) (0 : Int32).toNatClampNeg (argX pk 0))))]) (w1 := [(q_22, .inr (6, [.ref q_15, .int rs, .ref q_26, .int 0, .int 0, .ref q_27, .int 0, .int 0, .int (-1), .ref q_28, .ref q_29, .int 0, .int 0]))]) hP hD [3] [0, 1, 2] rfl rfl (by decide) (by decide) hk1 hFc hP1 hD1
        have hK := (hK.sub (tys' := [(km, .object "MapFramer$Method"), (k_16, .int)]) [0, 1] rfl).app hK1
        generalize H1 = H at hP hS ⊢
        have hP : va_P (dC, dI) vwCl [(w, .inr (3, [.ref wp, .ref wu, .ref wi, .int 2, .ref wc, .ref wt, .ref wx, .int 0, .ref wm, .int 0])), (wm, .inl (km, 8, .inr (.inr (.inr (.inr fm))))), (q_15, .inl (k_16, 1, .inl (upd (fun _ => 0) (0 : Int32).toNatClampNeg (argX pk 0)))), (q_22, .inr (6, [.ref q_15, .int rs, .ref q_26, .int 0, .int 0, .ref q_27, .int 0, .int 0, .int (-1), .ref q_28, .ref q_29, .int 0, .int 0]))] H := hP
        have hD : va_D A [(w, .inr (3, [.ref wp, .ref wu, .ref wi, .int 2, .ref wc, .ref wt, .ref wx, .int 0, .ref wm, .int 0])), (wm, .inl (km, 8, .inr (.inr (.inr (.inr fm))))), (q_15, .inl (k_16, 1, .inl (upd (fun _ => 0) (0 : Int32).toNatClampNeg (argX pk 0)))), (q_22, .inr (6, [.ref q_15, .int rs, .ref q_26, .int 0, .int 0, .ref q_27, .int 0, .int 0, .int (-1), .ref q_28, .ref q_29, .int 0, .int 0]))] := hD
        have hK : va_K (dC, dI) vwCl [(km, .object "MapFramer$Method"), (k_16, .int)] s := hK
        refine W.widen (k := 6) (n := 17) (Nat.le_of_ble_eq_true rfl) (Nat.le_of_ble_eq_true rfl) ?_
        refine va_astq (r := (R_E, T_E, 13)) hx hb hK hP hD hS 1 0 3 6 rfl rfl rfl rfl (vp_in_iff.mpr (by decide)) d_W_addMethod_50 (fun H locs hP hD hS => ?_)
        have hP : va_P (dC, dI) vwCl [(w, .inr (3, [.ref wp, .ref wu, .ref wi, .int 2, .ref wc, .ref wt, .ref wx, .int 0, .ref wm, .int 0])), (wm, .inl (km, 8, .inr (.inr (.inr (.inr (va_up fm (0 : Int32).toNatClampNeg (some q_22))))))), (q_15, .inl (k_16, 1, .inl (upd (fun _ => 0) (0 : Int32).toNatClampNeg (argX pk 0)))), (q_22, .inr (6, [.ref q_15, .int rs, .ref q_26, .int 0, .int 0, .ref q_27, .int 0, .int 0, .int (-1), .ref q_28, .ref q_29, .int 0, .int 0]))] H := hP
        have hD : va_D A [(w, .inr (3, [.ref wp, .ref wu, .ref wi, .int 2, .ref wc, .ref wt, .ref wx, .int 0, .ref wm, .int 0])), (wm, .inl (km, 8, .inr (.inr (.inr (.inr (va_up fm (0 : Int32).toNatClampNeg (some q_22))))))), (q_15, .inl (k_16, 1, .inl (upd (fun _ => 0) (0 : Int32).toNatClampNeg (argX pk 0)))), (q_22, .inr (6, [.ref q_15, .int rs, .ref q_26, .int 0, .int 0, .ref q_27, .int 0, .int 0, .int (-1), .ref q_28, .ref q_29, .int 0, .int 0]))] := hD
        refine lv_aload_n hx hb d_W_addMethod_51 rfl (lv_at hl 2 rfl) ?_
        refine lv_dup hx hb d_W_addMethod_52 rfl ?_
        refine va_get (D := (dC, dI)) (ci := 3) (v := .int 0) (C := R_W) (T := T_W) (N := 10) hx hb hts (fun w h => hsub w (uw_W w h)) hown hK hP 0 rfl rfl 9 (by decide) (hts _ (hsub _ w_7)) (fun _ h9 => h9) rfl d_W_addMethod_53 ?_
        refine lv_iconst (v := 1) hx hb d_W_addMethod_56 (by decide) ?_
        refine lv_iadd hx hb d_W_addMethod_57 ?_
        refine tp_i 1 (by decide) ?_
        refine va_put (D := (dC, dI)) (ci := 3) (v := .int 1) (ty := .int) (C := R_W) (T := T_W) (N := 10) hx hb hts (fun w h => hsub w (uw_W w h)) ty_W tok_W nm_W hown hK hP hD hS 0 rfl rfl 9 (by decide) (hts _ (hsub _ w_7)) (fun _ h9 => h9) rfl (by decide +kernel) rfl rfl (Nat.le_of_ble_eq_true rfl) d_W_addMethod_58 (fun H locs hP hD hS => ?_)
        have hP : va_P (dC, dI) vwCl [(w, .inr (3, [.ref wp, .ref wu, .ref wi, .int 2, .ref wc, .ref wt, .ref wx, .int 0, .ref wm, .int 1])), (wm, .inl (km, 8, .inr (.inr (.inr (.inr (va_up fm (0 : Int32).toNatClampNeg (some q_22))))))), (q_15, .inl (k_16, 1, .inl (upd (fun _ => 0) (0 : Int32).toNatClampNeg (argX pk 0)))), (q_22, .inr (6, [.ref q_15, .int rs, .ref q_26, .int 0, .int 0, .ref q_27, .int 0, .int 0, .int (-1), .ref q_28, .ref q_29, .int 0, .int 0]))] H := hP
        have hD : va_D A [(w, .inr (3, [.ref wp, .ref wu, .ref wi, .int 2, .ref wc, .ref wt, .ref wx, .int 0, .ref wm, .int 1])), (wm, .inl (km, 8, .inr (.inr (.inr (.inr (va_up fm (0 : Int32).toNatClampNeg (some q_22))))))), (q_15, .inl (k_16, 1, .inl (upd (fun _ => 0) (0 : Int32).toNatClampNeg (argX pk 0)))), (q_22, .inr (6, [.ref q_15, .int rs, .ref q_26, .int 0, .int 0, .ref q_27, .int 0, .int 0, .int (-1), .ref q_28, .ref q_29, .int 0, .int 0]))] := hD
        refine lv_aload_n hx hb d_W_addMethod_61 rfl (lv_at hl 2 rfl) ?_
        refine va_get (D := (dC, dI)) (ci := 3) (v := .int 1) (C := R_W) (T := T_W) (N := 10) hx hb hts (fun w h => hsub w (uw_W w h)) hown hK hP 0 rfl rfl 9 (by decide) (hts _ (hsub _ w_7)) (fun _ h9 => h9) rfl d_W_addMethod_62 ?_
        refine lv_iconst (v := 1) hx hb d_W_addMethod_65 (by decide) ?_
        refine lv_isub hx hb d_W_addMethod_66 ?_
        refine tp_i 0 (by decide) ?_
        refine W.widen (k := 6) (n := 20) (Nat.le_of_ble_eq_true rfl) (Nat.le_of_ble_eq_true rfl) ?_
        exact W.iret (v := 0) hx hb hr (fun t ht hW => ⟨⟨0, (), rfl, rfl, trivial⟩, hS.F ht⟩) hS.2.2 d_W_addMethod_67
      · skip
        first | exact absurd c_21 (by decide) | exact absurd (by decide) c_21
  · obtain rfl : r_2 = 2 := hw.trans hn
    refine va_newa (atype := .int) (ty := .int) (N' := 2) (a0 := (2, .inl (fun _ => 0))) hx hb (hts _ (hsub _ w_156)) rfl hK hP hD hS hA (fun _ => vz_i _ _) (by decide) (by decide) (Nat.le_of_ble_eq_true rfl) (Nat.le_of_ble_eq_true rfl) (Nat.le_of_ble_eq_true rfl) d_W_addMethod_4 (fun q_30 k_31 H hK hP hD hS => ?_)
    have hK : va_K (dC, dI) vwCl [(km, .object "MapFramer$Method"), (k_31, .int)] s := hK
    have hP : va_P (dC, dI) vwCl [(w, .inr (3, [.ref wp, .ref wu, .ref wi, .int 2, .ref wc, .ref wt, .ref wx, .int 0, .ref wm, .int 0])), (wm, .inl (km, 8, .inr (.inr (.inr (.inr fm))))), (q_30, .inl (k_31, 2, .inl (fun _ => 0)))] H := hP
    have hD : va_D A [(w, .inr (3, [.ref wp, .ref wu, .ref wi, .int 2, .ref wc, .ref wt, .ref wx, .int 0, .ref wm, .int 0])), (wm, .inl (km, 8, .inr (.inr (.inr (.inr fm))))), (q_30, .inl (k_31, 2, .inl (fun _ => 0)))] := hD
    refine W.widen (k := 1) (n := 2) (Nat.le_of_ble_eq_true rfl) (Nat.le_of_ble_eq_true rfl) ?_
    refine lv_astore_n (lv' := [(3, .ref q_30), (0, .ref w), (1, .int pk), (2, .int rs)]) hx hb d_W_addMethod_6 rfl hl (by decide) rfl (fun ls hl => ?_)
    refine lv_iconst (v := 0) hx hb d_W_addMethod_7 (by decide) ?_
    refine lv_istore (lv' := [(4, .int 0), (3, .ref q_30), (0, .ref w), (1, .int pk), (2, .int rs)]) hx hb d_W_addMethod_8 hl (by decide) rfl (fun ls hl => ?_)
    refine lv_iload hx hb d_W_addMethod_10 (lv_at hl 0 rfl) ?_
    refine lv_aload_n hx hb d_W_addMethod_12 rfl (lv_at hl 1 rfl) ?_
    refine va_alen (v := 2) hx hb hK hP 2 1 rfl rfl rfl d_W_addMethod_13 ?_
    refine lv_icmp_ge (tgt := 33) hx hb d_W_addMethod_14 (by decide) (fun c_32 => ?_) (fun c_32 => ?_)
    · skip
      first | exact absurd c_32 (by decide) | exact absurd (by decide) c_32
    · skip
      refine lv_aload_n hx hb d_W_addMethod_17 rfl (lv_at hl 1 rfl) ?_
      refine lv_iload hx hb d_W_addMethod_18 (lv_at hl 0 rfl) ?_
      refine lv_iload_n hx hb d_W_addMethod_20 rfl (lv_at hl 3 rfl) ?_
      refine lv_iload hx hb d_W_addMethod_21 (lv_at hl 0 rfl) ?_
      have hPc := hP.sub (ws' := []) [] rfl
      have hKc := hK.sub (tys' := []) [] rfl
      refine va_calli (va_runS (As := [.int pk, .int 0]) (rest := [.int 0, .ref q_30]) ⟨hx, hb, hml, hown, hts⟩ (k_W_argumentType l dC dI pk 0) (va_cwS 2 hts (gS hsub w_138 w_139 w_4 w_140) rfl rfl rfl (by decide +kernel) ⟨Nat.le_of_ble_eq_true rfl, Nat.le_of_ble_eq_true rfl⟩) ⟨bl_0000, fun U hU hW => ⟨rfl, by rw [hU]; exact hPc, va_K.moved hW.alike hKc⟩⟩ rfl rfl hl.1 rfl (lv_room (Nat.le_of_ble_eq_true rfl)) d_W_addMethod_23 ⟨Nat.le_of_ble_eq_true rfl, Nat.le_of_ble_eq_true rfl⟩) hS (fun q _ h => h.elim) (fun q h => h.elim) (fun r_34 u_35 t H1 locs ht hvm hw hB hz1 hk1 hS => ?_)
      have hP := ro_keep hP hk1
      generalize H1 = H at hP hS ⊢
      refine W.widen (k := 1) (n := 2) (Nat.le_of_ble_eq_true rfl) (Nat.le_of_ble_eq_true rfl) ?_
      subst hw
      refine va_iast hx hb hK hP hD hS 2 1 rfl rfl (vp_in_iff.mpr (by decide)) d_W_addMethod_26 (fun H locs hP hD hS => ?_)
      have hP : va_P (dC, dI) vwCl [(w, .inr (3, [.ref wp, .ref wu, .ref wi, .int 2, .ref wc, .ref wt, .ref wx, .int 0, .ref wm, .int 0])), (wm, .inl (km, 8, .inr (.inr (.inr (.inr fm))))), (q_30, .inl (k_31, 2, .inl (upd (fun _ => 0) (0 : Int32).toNatClampNeg (argX pk 0))))] H := hP
      have hD : va_D A [(w, .inr (3, [.ref wp, .ref wu, .ref wi, .int 2, .ref wc, .ref wt, .ref wx, .int 0, .ref wm, .int 0])), (wm, .inl (km, 8, .inr (.inr (.inr (.inr fm))))), (q_30, .inl (k_31, 2, .inl (upd (fun _ => 0) (0 : Int32).toNatClampNeg (argX pk 0))))] := hD
      refine lv_iinc (v := 1) (lv' := [(4, .int 1), (3, .ref q_30), (0, .ref w), (1, .int pk), (2, .int rs)]) hx hb d_W_addMethod_27 hl (k := 0) rfl (by decide) (by decide) rfl (fun ls hl => ?_)
      refine lv_goto (tgt := 10) hx hb d_W_addMethod_30 (by decide) ?_
      refine lv_iload hx hb d_W_addMethod_10 (lv_at hl 0 rfl) ?_
      refine lv_aload_n hx hb d_W_addMethod_12 rfl (lv_at hl 1 rfl) ?_
      refine va_alen (v := 2) hx hb hK hP 2 1 rfl rfl rfl d_W_addMethod_13 ?_
      refine lv_icmp_ge (tgt := 33) hx hb d_W_addMethod_14 (by decide) (fun c_36 => ?_) (fun c_36 => ?_)
      · skip
        first | exact absurd c_36 (by decide) | exact absurd (by decide) c_36
      · skip
        refine lv_aload_n hx hb d_W_addMethod_17 rfl (lv_at hl 1 rfl) ?_
        refine lv_iload hx hb d_W_addMethod_18 (lv_at hl 0 rfl) ?_
        refine lv_iload_n hx hb d_W_addMethod_20 rfl (lv_at hl 3 rfl) ?_
        refine lv_iload hx hb d_W_addMethod_21 (lv_at hl 0 rfl) ?_
        have hPc := hP.sub (ws' := []) [] rfl
        have hKc := hK.sub (tys' := []) [] rfl
        refine va_calli (va_runS (As := [.int pk, .int 1]) (rest := [.int 1, .ref q_30]) ⟨hx, hb, hml, hown, hts⟩ (k_W_argumentType l dC dI pk 1) (va_cwS 2 hts (gS hsub w_138 w_139 w_4 w_140) rfl rfl rfl (by decide +kernel) ⟨Nat.le_of_ble_eq_true rfl, Nat.le_of_ble_eq_true rfl⟩) ⟨bl_0000, fun U hU hW => ⟨rfl, by rw [hU]; exact hPc, va_K.moved hW.alike hKc⟩⟩ rfl rfl hl.1 rfl (lv_room (Nat.le_of_ble_eq_true rfl)) d_W_addMethod_23 ⟨Nat.le_of_ble_eq_true rfl, Nat.le_of_ble_eq_true rfl⟩) hS (fun q _ h => h.elim) (fun q h => h.elim) (fun r_38 u_39 t H1 locs ht hvm hw hB hz1 hk1 hS => ?_)
        have hP := ro_keep hP hk1
        generalize H1 = H at hP hS ⊢
        refine W.widen (k := 1) (n := 2) (Nat.le_of_ble_eq_true rfl) (Nat.le_of_ble_eq_true rfl) ?_
        subst hw
        refine va_iast hx hb hK hP hD hS 2 1 rfl rfl (vp_in_iff.mpr (by decide)) d_W_addMethod_26 (fun H locs hP hD hS => ?_)
        have hP : va_P (dC, dI) vwCl [(w, .inr (3, [.ref wp, .ref wu, .ref wi, .int 2, .ref wc, .ref wt, .ref wx, .int 0, .ref wm, .int 0])), (wm, .inl (km, 8, .inr (.inr (.inr (.inr fm))))), (q_30, .inl (k_31, 2, .inl (upd (upd (fun _ => 0) (0 : Int32).toNatClampNeg (argX pk 0)) (1 : Int32).toNatClampNeg (argX pk 1))))] H := hP
        have hD : va_D A [(w, .inr (3, [.ref wp, .ref wu, .ref wi, .int 2, .ref wc, .ref wt, .ref wx, .int 0, .ref wm, .int 0])), (wm, .inl (km, 8, .inr (.inr (.inr (.inr fm))))), (q_30, .inl (k_31, 2, .inl (upd (upd (fun _ => 0) (0 : Int32).toNatClampNeg (argX pk 0)) (1 : Int32).toNatClampNeg (argX pk 1))))] := hD
        refine lv_iinc (v := 2) (lv' := [(4, .int 2), (3, .ref q_30), (0, .ref w), (1, .int pk), (2, .int rs)]) hx hb d_W_addMethod_27 hl (k := 0) rfl (by decide) (by decide) rfl (fun ls hl => ?_)
        refine lv_goto (tgt := 10) hx hb d_W_addMethod_30 (by decide) ?_
        refine lv_iload hx hb d_W_addMethod_10 (lv_at hl 0 rfl) ?_
        refine lv_aload_n hx hb d_W_addMethod_12 rfl (lv_at hl 1 rfl) ?_
        refine va_alen (v := 2) hx hb hK hP 2 1 rfl rfl rfl d_W_addMethod_13 ?_
        refine lv_icmp_ge (tgt := 33) hx hb d_W_addMethod_14 (by decide) (fun c_40 => ?_) (fun c_40 => ?_)
        · skip
          refine lv_aload_n hx hb d_W_addMethod_33 rfl (lv_at hl 2 rfl) ?_
          refine va_get (D := (dC, dI)) (ci := 3) (v := .ref wm) (C := R_W) (T := T_W) (N := 10) hx hb hts (fun w h => hsub w (uw_W w h)) hown hK hP 0 rfl rfl 8 (by decide) (hts _ (hsub _ w_174)) (fun _ h9 => h9) rfl d_W_addMethod_34 ?_
          refine lv_aload_n hx hb d_W_addMethod_37 rfl (lv_at hl 2 rfl) ?_
          refine va_get (D := (dC, dI)) (ci := 3) (v := .int 0) (C := R_W) (T := T_W) (N := 10) hx hb hts (fun w h => hsub w (uw_W w h)) hown hK hP 0 rfl rfl 9 (by decide) (hts _ (hsub _ w_7)) (fun _ h9 => h9) rfl d_W_addMethod_38 ?_
          refine va_new (ci := 6) (fs := [.null, .int 0, .null, .int 0, .int 0, .null, .int 0, .int 0, .int 0, .null, .null, .int 0, .int 0]) (C := R_E) (T := T_E) (N := 13) hx hb hts (fun w h => hsub w (uw_E w h)) ty_E tok_E hown (hts _ (hsub _ w_175)) (hts _ (hsub _ w_176)) (hts _ (hsub _ w_177)) hK hP hD hS hA rfl (fun j hj => df_E j hj) (Nat.le_of_ble_eq_true rfl) (Nat.le_of_ble_eq_true rfl) d_W_addMethod_41 (fun q_41 H hP hD hS => ?_)
          have hP : va_P (dC, dI) vwCl [(w, .inr (3, [.ref wp, .ref wu, .ref wi, .int 2, .ref wc, .ref wt, .ref wx, .int 0, .ref wm, .int 0])), (wm, .inl (km, 8, .inr (.inr (.inr (.inr fm))))), (q_30, .inl (k_31, 2, .inl (upd (upd (fun _ => 0) (0 : Int32).toNatClampNeg (argX pk 0)) (1 : Int32).toNatClampNeg (argX pk 1)))), (q_41, .inr (6, [.null, .int 0, .null, .int 0, .int 0, .null, .int 0, .int 0, .int 0, .null, .null, .int 0, .int 0]))] H := hP
          have hD : va_D A [(w, .inr (3, [.ref wp, .ref wu, .ref wi, .int 2, .ref wc, .ref wt, .ref wx, .int 0, .ref wm, .int 0])), (wm, .inl (km, 8, .inr (.inr (.inr (.inr fm))))), (q_30, .inl (k_31, 2, .inl (upd (upd (fun _ => 0) (0 : Int32).toNatClampNeg (argX pk 0)) (1 : Int32).toNatClampNeg (argX pk 1)))), (q_41, .inr (6, [.null, .int 0, .null, .int 0, .int 0, .null, .int 0, .int 0, .int 0, .null, .null, .int 0, .int 0]))] := hD
          refine W.widen (k := 2) (n := 15) (Nat.le_of_ble_eq_true rfl) (Nat.le_of_ble_eq_true rfl) ?_
          refine lv_dup hx hb d_W_addMethod_44 rfl ?_
          refine lv_aload_n hx hb d_W_addMethod_45 rfl (lv_at hl 1 rfl) ?_
          refine lv_iload_n hx hb d_W_addMethod_46 rfl (lv_at hl 4 rfl) ?_
          have hPc := hP.sub (ws' := [(q_41, .inr (6, [.null, .int 0, .null, .int 0, .int 0, .null, .int 0, .int 0, .int 0, .null, .null, .int 0, .int 0]))]) [3] rfl
          have hKc := hK.sub (tys' := []) [] rfl
          have hDc := hD.sub (ws' := [(q_41, .inr (6, [.null, .int 0, .null, .int 0, .int 0, .null, .int 0, .int 0, .int 0, .null, .null, .int 0, .int 0]))]) [3] (by decide) rfl
          have hFc := va_free (wc := [(q_41, .inr (6, [.null, .int 0, .null, .int 0, .int 0, .null, .int 0, .int 0, .int 0, .null, .null, .int 0, .int 0]))]) hD hS hA [3] rfl
          refine va_callv (va_runI (As := [.ref q_30, .int rs]) (rest := [.ref q_41, .int 0, .ref wm]) ⟨hx, hb, hml, hown, hts⟩ (k_E_init l dC dI q_41 q_30 rs H.size) (cwI 2 hts (gC hsub w_179) rfl rfl rfl (hts _ (hsub _ w_177)) (hts _ (hsub _ w_178)) (hts _ (hsub _ w_180)) rfl (by decide +kernel) ⟨Nat.le_of_ble_eq_true rfl, Nat.le_of_ble_eq_true rfl⟩) ⟨bl_1010, fun U hU hW => ⟨rfl, by rw [hU], by rw [hU]; exact hPc, va_K.moved hW.alike hKc, hDc.weaken (fun _ _ _ _ => trivial), exP_go hex hS (fun q h => hFc q h) U hU hW⟩⟩ rfl rfl hl.1 rfl (lv_room (Nat.le_of_ble_eq_true rfl)) d_W_addMethod_47 ⟨Nat.le_of_ble_eq_true rfl, Nat.le_of_ble_eq_true rfl⟩) hS (fun q _ h => hFc q h) hFc (fun u_44 t H1 locs ht hvm hw hB hz1 hk1 hS => ?_)
          obtain ⟨q_45, q_46, q_47, q_48, hP1, hK1, hD1⟩ := hB
          rw [ht] at hP1
          have hK1 := va_K.moved hvm.symm hK1
          obtain ⟨hP, hD⟩ := va_join (wr := [(w, .inr (3, [.ref wp, .ref wu, .ref wi, .int 2, .ref wc, .ref wt, .ref wx, .int 0, .ref wm, .int 0])), (wm, .inl (km, 8, .inr (.inr (.inr (.inr fm))))), (q_30, .inl (k_31, 2, .inl (upd (upd (fun _ => 0) (0 : Int32).toNatClampNeg (argX pk 0)) (1 : Int32).toNatClampNeg (argX pk 1))))]) (w1 := [(q_41, .inr (6, [.ref q_30, .int rs, .ref q_45, .int 0, .int 0, .ref q_46, .int 0, .int 0, .int (-1), .ref q_47, .ref q_48, .int 0, .int 0]))]) hP hD [3] [0, 1, 2] rfl rfl (by decide) (by decide) hk1 hFc hP1 hD1
          have hK := (hK.sub (tys' := [(km, .object "MapFramer$Method"), (k_31, .int)]) [0, 1] rfl).app hK1
          generalize H1 = H at hP hS ⊢
          have hP : va_P (dC, dI) vwCl [(w, .inr (3, [.ref wp, .ref wu, .ref wi, .int 2, .ref wc, .ref wt, .ref wx, .int 0, .ref wm, .int 0])), (wm, .inl (km, 8, .inr (.inr (.inr (.inr fm))))), (q_30, .inl (k_31, 2, .inl (upd (upd (fun _ => 0) (0 : Int32).toNatClampNeg (argX pk 0)) (1 : Int32).toNatClampNeg (argX pk 1)))), (q_41, .inr (6, [.ref q_30, .int rs, .ref q_45, .int 0, .int 0, .ref q_46, .int 0, .int 0, .int (-1), .ref q_47, .ref q_48, .int 0, .int 0]))] H := hP
          have hD : va_D A [(w, .inr (3, [.ref wp, .ref wu, .ref wi, .int 2, .ref wc, .ref wt, .ref wx, .int 0, .ref wm, .int 0])), (wm, .inl (km, 8, .inr (.inr (.inr (.inr fm))))), (q_30, .inl (k_31, 2, .inl (upd (upd (fun _ => 0) (0 : Int32).toNatClampNeg (argX pk 0)) (1 : Int32).toNatClampNeg (argX pk 1)))), (q_41, .inr (6, [.ref q_30, .int rs, .ref q_45, .int 0, .int 0, .ref q_46, .int 0, .int 0, .int (-1), .ref q_47, .ref q_48, .int 0, .int 0]))] := hD
          have hK : va_K (dC, dI) vwCl [(km, .object "MapFramer$Method"), (k_31, .int)] s := hK
          refine W.widen (k := 6) (n := 18) (Nat.le_of_ble_eq_true rfl) (Nat.le_of_ble_eq_true rfl) ?_
          refine va_astq (r := (R_E, T_E, 13)) hx hb hK hP hD hS 1 0 3 6 rfl rfl rfl rfl (vp_in_iff.mpr (by decide)) d_W_addMethod_50 (fun H locs hP hD hS => ?_)
          have hP : va_P (dC, dI) vwCl [(w, .inr (3, [.ref wp, .ref wu, .ref wi, .int 2, .ref wc, .ref wt, .ref wx, .int 0, .ref wm, .int 0])), (wm, .inl (km, 8, .inr (.inr (.inr (.inr (va_up fm (0 : Int32).toNatClampNeg (some q_41))))))), (q_30, .inl (k_31, 2, .inl (upd (upd (fun _ => 0) (0 : Int32).toNatClampNeg (argX pk 0)) (1 : Int32).toNatClampNeg (argX pk 1)))), (q_41, .inr (6, [.ref q_30, .int rs, .ref q_45, .int 0, .int 0, .ref q_46, .int 0, .int 0, .int (-1), .ref q_47, .ref q_48, .int 0, .int 0]))] H := hP
          have hD : va_D A [(w, .inr (3, [.ref wp, .ref wu, .ref wi, .int 2, .ref wc, .ref wt, .ref wx, .int 0, .ref wm, .int 0])), (wm, .inl (km, 8, .inr (.inr (.inr (.inr (va_up fm (0 : Int32).toNatClampNeg (some q_41))))))), (q_30, .inl (k_31, 2, .inl (upd (upd (fun _ => 0) (0 : Int32).toNatClampNeg (argX pk 0)) (1 : Int32).toNatClampNeg (argX pk 1)))), (q_41, .inr (6, [.ref q_30, .int rs, .ref q_45, .int 0, .int 0, .ref q_46, .int 0, .int 0, .int (-1), .ref q_47, .ref q_48, .int 0, .int 0]))] := hD
          refine lv_aload_n hx hb d_W_addMethod_51 rfl (lv_at hl 2 rfl) ?_
          refine lv_dup hx hb d_W_addMethod_52 rfl ?_
          refine va_get (D := (dC, dI)) (ci := 3) (v := .int 0) (C := R_W) (T := T_W) (N := 10) hx hb hts (fun w h => hsub w (uw_W w h)) hown hK hP 0 rfl rfl 9 (by decide) (hts _ (hsub _ w_7)) (fun _ h9 => h9) rfl d_W_addMethod_53 ?_
          refine lv_iconst (v := 1) hx hb d_W_addMethod_56 (by decide) ?_
          refine lv_iadd hx hb d_W_addMethod_57 ?_
          refine tp_i 1 (by decide) ?_
          refine va_put (D := (dC, dI)) (ci := 3) (v := .int 1) (ty := .int) (C := R_W) (T := T_W) (N := 10) hx hb hts (fun w h => hsub w (uw_W w h)) ty_W tok_W nm_W hown hK hP hD hS 0 rfl rfl 9 (by decide) (hts _ (hsub _ w_7)) (fun _ h9 => h9) rfl (by decide +kernel) rfl rfl (Nat.le_of_ble_eq_true rfl) d_W_addMethod_58 (fun H locs hP hD hS => ?_)
          have hP : va_P (dC, dI) vwCl [(w, .inr (3, [.ref wp, .ref wu, .ref wi, .int 2, .ref wc, .ref wt, .ref wx, .int 0, .ref wm, .int 1])), (wm, .inl (km, 8, .inr (.inr (.inr (.inr (va_up fm (0 : Int32).toNatClampNeg (some q_41))))))), (q_30, .inl (k_31, 2, .inl (upd (upd (fun _ => 0) (0 : Int32).toNatClampNeg (argX pk 0)) (1 : Int32).toNatClampNeg (argX pk 1)))), (q_41, .inr (6, [.ref q_30, .int rs, .ref q_45, .int 0, .int 0, .ref q_46, .int 0, .int 0, .int (-1), .ref q_47, .ref q_48, .int 0, .int 0]))] H := hP
          have hD : va_D A [(w, .inr (3, [.ref wp, .ref wu, .ref wi, .int 2, .ref wc, .ref wt, .ref wx, .int 0, .ref wm, .int 1])), (wm, .inl (km, 8, .inr (.inr (.inr (.inr (va_up fm (0 : Int32).toNatClampNeg (some q_41))))))), (q_30, .inl (k_31, 2, .inl (upd (upd (fun _ => 0) (0 : Int32).toNatClampNeg (argX pk 0)) (1 : Int32).toNatClampNeg (argX pk 1)))), (q_41, .inr (6, [.ref q_30, .int rs, .ref q_45, .int 0, .int 0, .ref q_46, .int 0, .int 0, .int (-1), .ref q_47, .ref q_48, .int 0, .int 0]))] := hD
          refine lv_aload_n hx hb d_W_addMethod_61 rfl (lv_at hl 2 rfl) ?_
          refine va_get (D := (dC, dI)) (ci := 3) (v := .int 1) (C := R_W) (T := T_W) (N := 10) hx hb hts (fun w h => hsub w (uw_W w h)) hown hK hP 0 rfl rfl 9 (by decide) (hts _ (hsub _ w_7)) (fun _ h9 => h9) rfl d_W_addMethod_62 ?_
          refine lv_iconst (v := 1) hx hb d_W_addMethod_65 (by decide) ?_
          refine lv_isub hx hb d_W_addMethod_66 ?_
          refine tp_i 0 (by decide) ?_
          refine W.widen (k := 6) (n := 20) (Nat.le_of_ble_eq_true rfl) (Nat.le_of_ble_eq_true rfl) ?_
          exact W.iret (v := 0) hx hb hr (fun t ht hW => ⟨⟨0, (), rfl, rfl, trivial⟩, hS.F ht⟩) hS.2.2 d_W_addMethod_67
        · skip
          first | exact absurd c_40 (by decide) | exact absurd (by decide) c_40
  · obtain rfl : r_2 = 3 := hw.trans hn
    refine va_newa (atype := .int) (ty := .int) (N' := 3) (a0 := (3, .inl (fun _ => 0))) hx hb (hts _ (hsub _ w_156)) rfl hK hP hD hS hA (fun _ => vz_i _ _) (by decide) (by decide) (Nat.le_of_ble_eq_true rfl) (Nat.le_of_ble_eq_true rfl) (Nat.le_of_ble_eq_true rfl) d_W_addMethod_4 (fun q_49 k_50 H hK hP hD hS => ?_)
    have hK : va_K (dC, dI) vwCl [(km, .object "MapFramer$Method"), (k_50, .int)] s := hK
    have hP : va_P (dC, dI) vwCl [(w, .inr (3, [.ref wp, .ref wu, .ref wi, .int 2, .ref wc, .ref wt, .ref wx, .int 0, .ref wm, .int 0])), (wm, .inl (km, 8, .inr (.inr (.inr (.inr fm))))), (q_49, .inl (k_50, 3, .inl (fun _ => 0)))] H := hP
    have hD : va_D A [(w, .inr (3, [.ref wp, .ref wu, .ref wi, .int 2, .ref wc, .ref wt, .ref wx, .int 0, .ref wm, .int 0])), (wm, .inl (km, 8, .inr (.inr (.inr (.inr fm))))), (q_49, .inl (k_50, 3, .inl (fun _ => 0)))] := hD
    refine W.widen (k := 1) (n := 3) (Nat.le_of_ble_eq_true rfl) (Nat.le_of_ble_eq_true rfl) ?_
    refine lv_astore_n (lv' := [(3, .ref q_49), (0, .ref w), (1, .int pk), (2, .int rs)]) hx hb d_W_addMethod_6 rfl hl (by decide) rfl (fun ls hl => ?_)
    refine lv_iconst (v := 0) hx hb d_W_addMethod_7 (by decide) ?_
    refine lv_istore (lv' := [(4, .int 0), (3, .ref q_49), (0, .ref w), (1, .int pk), (2, .int rs)]) hx hb d_W_addMethod_8 hl (by decide) rfl (fun ls hl => ?_)
    refine lv_iload hx hb d_W_addMethod_10 (lv_at hl 0 rfl) ?_
    refine lv_aload_n hx hb d_W_addMethod_12 rfl (lv_at hl 1 rfl) ?_
    refine va_alen (v := 3) hx hb hK hP 2 1 rfl rfl rfl d_W_addMethod_13 ?_
    refine lv_icmp_ge (tgt := 33) hx hb d_W_addMethod_14 (by decide) (fun c_51 => ?_) (fun c_51 => ?_)
    · skip
      first | exact absurd c_51 (by decide) | exact absurd (by decide) c_51
    · skip
      refine lv_aload_n hx hb d_W_addMethod_17 rfl (lv_at hl 1 rfl) ?_
      refine lv_iload hx hb d_W_addMethod_18 (lv_at hl 0 rfl) ?_
      refine lv_iload_n hx hb d_W_addMethod_20 rfl (lv_at hl 3 rfl) ?_
      refine lv_iload hx hb d_W_addMethod_21 (lv_at hl 0 rfl) ?_
      have hPc := hP.sub (ws' := []) [] rfl
      have hKc := hK.sub (tys' := []) [] rfl
      refine va_calli (va_runS (As := [.int pk, .int 0]) (rest := [.int 0, .ref q_49]) ⟨hx, hb, hml, hown, hts⟩ (k_W_argumentType l dC dI pk 0) (va_cwS 2 hts (gS hsub w_138 w_139 w_4 w_140) rfl rfl rfl (by decide +kernel) ⟨Nat.le_of_ble_eq_true rfl, Nat.le_of_ble_eq_true rfl⟩) ⟨bl_0000, fun U hU hW => ⟨rfl, by rw [hU]; exact hPc, va_K.moved hW.alike hKc⟩⟩ rfl rfl hl.1 rfl (lv_room (Nat.le_of_ble_eq_true rfl)) d_W_addMethod_23 ⟨Nat.le_of_ble_eq_true rfl, Nat.le_of_ble_eq_true rfl⟩) hS (fun q _ h => h.elim) (fun q h => h.elim) (fun r_53 u_54 t H1 locs ht hvm hw hB hz1 hk1 hS => ?_)
      have hP := ro_keep hP hk1
      generalize H1 = H at hP hS ⊢
      refine W.widen (k := 1) (n := 3) (Nat.le_of_ble_eq_true rfl) (Nat.le_of_ble_eq_true rfl) ?_
      subst hw
      refine va_iast hx hb hK hP hD hS 2 1 rfl rfl (vp_in_iff.mpr (by decide)) d_W_addMethod_26 (fun H locs hP hD hS => ?_)
      have hP : va_P (dC, dI) vwCl [(w, .inr (3, [.ref wp, .ref wu, .ref wi, .int 2, .ref wc, .ref wt, .ref wx, .int 0, .ref wm, .int 0])), (wm, .inl (km, 8, .inr (.inr (.inr (.inr fm))))), (q_49, .inl (k_50, 3, .inl (upd (fun _ => 0) (0 : Int32).toNatClampNeg (argX pk 0))))] H := hP
      have hD : va_D A [(w, .inr (3, [.ref wp, .ref wu, .ref wi, .int 2, .ref wc, .ref wt, .ref wx, .int 0, .ref wm, .int 0])), (wm, .inl (km, 8, .inr (.inr (.inr (.inr fm))))), (q_49, .inl (k_50, 3, .inl (upd (fun _ => 0) (0 : Int32).toNatClampNeg (argX pk 0))))] := hD
      refine lv_iinc (v := 1) (lv' := [(4, .int 1), (3, .ref q_49), (0, .ref w), (1, .int pk), (2, .int rs)]) hx hb d_W_addMethod_27 hl (k := 0) rfl (by decide) (by decide) rfl (fun ls hl => ?_)
      refine lv_goto (tgt := 10) hx hb d_W_addMethod_30 (by decide) ?_
      refine lv_iload hx hb d_W_addMethod_10 (lv_at hl 0 rfl) ?_
      refine lv_aload_n hx hb d_W_addMethod_12 rfl (lv_at hl 1 rfl) ?_
      refine va_alen (v := 3) hx hb hK hP 2 1 rfl rfl rfl d_W_addMethod_13 ?_
      refine lv_icmp_ge (tgt := 33) hx hb d_W_addMethod_14 (by decide) (fun c_55 => ?_) (fun c_55 => ?_)
      · skip
        first | exact absurd c_55 (by decide) | exact absurd (by decide) c_55
      · skip
        refine lv_aload_n hx hb d_W_addMethod_17 rfl (lv_at hl 1 rfl) ?_
        refine lv_iload hx hb d_W_addMethod_18 (lv_at hl 0 rfl) ?_
        refine lv_iload_n hx hb d_W_addMethod_20 rfl (lv_at hl 3 rfl) ?_
        refine lv_iload hx hb d_W_addMethod_21 (lv_at hl 0 rfl) ?_
        have hPc := hP.sub (ws' := []) [] rfl
        have hKc := hK.sub (tys' := []) [] rfl
        refine va_calli (va_runS (As := [.int pk, .int 1]) (rest := [.int 1, .ref q_49]) ⟨hx, hb, hml, hown, hts⟩ (k_W_argumentType l dC dI pk 1) (va_cwS 2 hts (gS hsub w_138 w_139 w_4 w_140) rfl rfl rfl (by decide +kernel) ⟨Nat.le_of_ble_eq_true rfl, Nat.le_of_ble_eq_true rfl⟩) ⟨bl_0000, fun U hU hW => ⟨rfl, by rw [hU]; exact hPc, va_K.moved hW.alike hKc⟩⟩ rfl rfl hl.1 rfl (lv_room (Nat.le_of_ble_eq_true rfl)) d_W_addMethod_23 ⟨Nat.le_of_ble_eq_true rfl, Nat.le_of_ble_eq_true rfl⟩) hS (fun q _ h => h.elim) (fun q h => h.elim) (fun r_57 u_58 t H1 locs ht hvm hw hB hz1 hk1 hS => ?_)
        have hP := ro_keep hP hk1
        generalize H1 = H at hP hS ⊢
        refine W.widen (k := 1) (n := 3) (Nat.le_of_ble_eq_true rfl) (Nat.le_of_ble_eq_true rfl) ?_
        subst hw
        refine va_iast hx hb hK hP hD hS 2 1 rfl rfl (vp_in_iff.mpr (by decide)) d_W_addMethod_26 (fun H locs hP hD hS => ?_)
        have hP : va_P (dC, dI) vwCl [(w, .inr (3, [.ref wp, .ref wu, .ref wi, .int 2, .ref wc, .ref wt, .ref wx, .int 0, .ref wm, .int 0])), (wm, .inl (km, 8, .inr (.inr (.inr (.inr fm))))), (q_49, .inl (k_50, 3, .inl (upd (upd (fun _ => 0) (0 : Int32).toNatClampNeg (argX pk 0)) (1 : Int32).toNatClampNeg (argX pk 1))))] H := hP
        have hD : va_D A [(w, .inr (3, [.ref wp, .ref wu, .ref wi, .int 2, .ref wc, .ref wt, .ref wx, .int 0, .ref wm, .int 0])), (wm, .inl (km, 8, .inr (.inr (.inr (.inr fm))))), (q_49, .inl (k_50, 3, .inl (upd (upd (fun _ => 0) (0 : Int32).toNatClampNeg (argX pk 0)) (1 : Int32).toNatClampNeg (argX pk 1))))] := hD
        refine lv_iinc (v := 2) (lv' := [(4, .int 2), (3, .ref q_49), (0, .ref w), (1, .int pk), (2, .int rs)]) hx hb d_W_addMethod_27 hl (k := 0) rfl (by decide) (by decide) rfl (fun ls hl => ?_)
        refine lv_goto (tgt := 10) hx hb d_W_addMethod_30 (by decide) ?_
        refine lv_iload hx hb d_W_addMethod_10 (lv_at hl 0 rfl) ?_
        refine lv_aload_n hx hb d_W_addMethod_12 rfl (lv_at hl 1 rfl) ?_
        refine va_alen (v := 3) hx hb hK hP 2 1 rfl rfl rfl d_W_addMethod_13 ?_
        refine lv_icmp_ge (tgt := 33) hx hb d_W_addMethod_14 (by decide) (fun c_59 => ?_) (fun c_59 => ?_)
        · skip
          first | exact absurd c_59 (by decide) | exact absurd (by decide) c_59
        · skip
          refine lv_aload_n hx hb d_W_addMethod_17 rfl (lv_at hl 1 rfl) ?_
          refine lv_iload hx hb d_W_addMethod_18 (lv_at hl 0 rfl) ?_
          refine lv_iload_n hx hb d_W_addMethod_20 rfl (lv_at hl 3 rfl) ?_
          refine lv_iload hx hb d_W_addMethod_21 (lv_at hl 0 rfl) ?_
          have hPc := hP.sub (ws' := []) [] rfl
          have hKc := hK.sub (tys' := []) [] rfl
          refine va_calli (va_runS (As := [.int pk, .int 2]) (rest := [.int 2, .ref q_49]) ⟨hx, hb, hml, hown, hts⟩ (k_W_argumentType l dC dI pk 2) (va_cwS 2 hts (gS hsub w_138 w_139 w_4 w_140) rfl rfl rfl (by decide +kernel) ⟨Nat.le_of_ble_eq_true rfl, Nat.le_of_ble_eq_true rfl⟩) ⟨bl_0000, fun U hU hW => ⟨rfl, by rw [hU]; exact hPc, va_K.moved hW.alike hKc⟩⟩ rfl rfl hl.1 rfl (lv_room (Nat.le_of_ble_eq_true rfl)) d_W_addMethod_23 ⟨Nat.le_of_ble_eq_true rfl, Nat.le_of_ble_eq_true rfl⟩) hS (fun q _ h => h.elim) (fun q h => h.elim) (fun r_61 u_62 t H1 locs ht hvm hw hB hz1 hk1 hS => ?_)
          have hP := ro_keep hP hk1
          generalize H1 = H at hP hS ⊢
          refine W.widen (k := 1) (n := 3) (Nat.le_of_ble_eq_true rfl) (Nat.le_of_ble_eq_true rfl) ?_
          subst hw
          refine va_iast hx hb hK hP hD hS 2 1 rfl rfl (vp_in_iff.mpr (by decide)) d_W_addMethod_26 (fun H locs hP hD hS => ?_)
          have hP : va_P (dC, dI) vwCl [(w, .inr (3, [.ref wp, .ref wu, .ref wi, .int 2, .ref wc, .ref wt, .ref wx, .int 0, .ref wm, .int 0])), (wm, .inl (km, 8, .inr (.inr (.inr (.inr fm))))), (q_49, .inl (k_50, 3, .inl (upd (upd (upd (fun _ => 0) (0 : Int32).toNatClampNeg (argX pk 0)) (1 : Int32).toNatClampNeg (argX pk 1)) (2 : Int32).toNatClampNeg (argX pk 2))))] H := hP
          have hD : va_D A [(w, .inr (3, [.ref wp, .ref wu, .ref wi, .int 2, .ref wc, .ref wt, .ref wx, .int 0, .ref wm, .int 0])), (wm, .inl (km, 8, .inr (.inr (.inr (.inr fm))))), (q_49, .inl (k_50, 3, .inl (upd (upd (upd (fun _ => 0) (0 : Int32).toNatClampNeg (argX pk 0)) (1 : Int32).toNatClampNeg (argX pk 1)) (2 : Int32).toNatClampNeg (argX pk 2))))] := hD
          refine lv_iinc (v := 3) (lv' := [(4, .int 3), (3, .ref q_49), (0, .ref w), (1, .int pk), (2, .int rs)]) hx hb d_W_addMethod_27 hl (k := 0) rfl (by decide) (by decide) rfl (fun ls hl => ?_)
          refine lv_goto (tgt := 10) hx hb d_W_addMethod_30 (by decide) ?_
          refine lv_iload hx hb d_W_addMethod_10 (lv_at hl 0 rfl) ?_
          refine lv_aload_n hx hb d_W_addMethod_12 rfl (lv_at hl 1 rfl) ?_
          refine va_alen (v := 3) hx hb hK hP 2 1 rfl rfl rfl d_W_addMethod_13 ?_
          refine lv_icmp_ge (tgt := 33) hx hb d_W_addMethod_14 (by decide) (fun c_63 => ?_) (fun c_63 => ?_)
          · skip
            refine lv_aload_n hx hb d_W_addMethod_33 rfl (lv_at hl 2 rfl) ?_
            refine va_get (D := (dC, dI)) (ci := 3) (v := .ref wm) (C := R_W) (T := T_W) (N := 10) hx hb hts (fun w h => hsub w (uw_W w h)) hown hK hP 0 rfl rfl 8 (by decide) (hts _ (hsub _ w_174)) (fun _ h9 => h9) rfl d_W_addMethod_34 ?_
            refine lv_aload_n hx hb d_W_addMethod_37 rfl (lv_at hl 2 rfl) ?_
            refine va_get (D := (dC, dI)) (ci := 3) (v := .int 0) (C := R_W) (T := T_W) (N := 10) hx hb hts (fun w h => hsub w (uw_W w h)) hown hK hP 0 rfl rfl 9 (by decide) (hts _ (hsub _ w_7)) (fun _ h9 => h9) rfl d_W_addMethod_38 ?_
            refine va_new (ci := 6) (fs := [.null, .int 0, .null, .int 0, .int 0, .null, .int 0, .int 0, .int 0, .null, .null, .int 0, .int 0]) (C := R_E) (T := T_E) (N := 13) hx hb hts (fun w h => hsub w (uw_E w h)) ty_E tok_E hown (hts _ (hsub _ w_175)) (hts _ (hsub _ w_176)) (hts _ (hsub _ w_177)) hK hP hD hS hA rfl (fun j hj => df_E j hj) (Nat.le_of_ble_eq_true rfl) (Nat.le_of_ble_eq_true rfl) d_W_addMethod_41 (fun q_64 H hP hD hS => ?_)
            have hP : va_P (dC, dI) vwCl [(w, .inr (3, [.ref wp, .ref wu, .ref wi, .int 2, .ref wc, .ref wt, .ref wx, .int 0, .ref wm, .int 0])), (wm, .inl (km, 8, .inr (.inr (.inr (.inr fm))))), (q_49, .inl (k_50, 3, .inl (upd (upd (upd (fun _ => 0) (0 : Int32).toNatClampNeg (argX pk 0)) (1 : Int32).toNatClampNeg (argX pk 1)) (2 : Int32).toNatClampNeg (argX pk 2)))), (q_64, .inr (6, [.null, .int 0, .null, .int 0, .int 0, .null, .int 0, .int 0, .int 0, .null, .null, .int 0, .int 0]))] H := hP
            have hD : va_D A [(w, .inr (3, [.ref wp, .ref wu, .ref wi, .int 2, .ref wc, .ref wt, .ref wx, .int 0, .ref wm, .int 0])), (wm, .inl (km, 8, .inr (.inr (.inr (.inr fm))))), (q_49, .inl (k_50, 3, .inl (upd (upd (upd (fun _ => 0) (0 : Int32).toNatClampNeg (argX pk 0)) (1 : Int32).toNatClampNeg (argX pk 1)) (2 : Int32).toNatClampNeg (argX pk 2)))), (q_64, .inr (6, [.null, .int 0, .null, .int 0, .int 0, .null, .int 0, .int 0, .int 0, .null, .null, .int 0, .int 0]))] := hD
            refine W.widen (k := 2) (n := 16) (Nat.le_of_ble_eq_true rfl) (Nat.le_of_ble_eq_true rfl) ?_
            refine lv_dup hx hb d_W_addMethod_44 rfl ?_
            refine lv_aload_n hx hb d_W_addMethod_45 rfl (lv_at hl 1 rfl) ?_
            refine lv_iload_n hx hb d_W_addMethod_46 rfl (lv_at hl 4 rfl) ?_
            have hPc := hP.sub (ws' := [(q_64, .inr (6, [.null, .int 0, .null, .int 0, .int 0, .null, .int 0, .int 0, .int 0, .null, .null, .int 0, .int 0]))]) [3] rfl
            have hKc := hK.sub (tys' := []) [] rfl
            have hDc := hD.sub (ws' := [(q_64, .inr (6, [.null, .int 0, .null, .int 0, .int 0, .null, .int 0, .int 0, .int 0, .null, .null, .int 0, .int 0]))]) [3] (by decide) rfl
            have hFc := va_free (wc := [(q_64, .inr (6, [.null, .int 0, .null, .int 0, .int 0, .null, .int 0, .int 0, .int 0, .null, .null, .int 0, .int 0]))]) hD hS hA [3] rfl
            refine va_callv (va_runI (As := [.ref q_49, .int rs]) (rest := [.ref q_64, .int 0, .ref wm]) ⟨hx, hb, hml, hown, hts⟩ (k_E_init l dC dI q_64 q_49 rs H.size) (cwI 2 hts (gC hsub w_179) rfl rfl rfl (hts _ (hsub _ w_177)) (hts _ (hsub _ w_178)) (hts _ (hsub _ w_180)) rfl (by decide +kernel) ⟨Nat.le_of_ble_eq_true rfl, Nat.le_of_ble_eq_true rfl⟩) ⟨bl_1010, fun U hU hW => ⟨rfl, by rw [hU], by rw [hU]; exact hPc, va_K.moved hW.alike hKc, hDc.weaken (fun _ _ _ _ => trivial), exP_go hex hS (fun q h => hFc q h) U hU hW⟩⟩ rfl rfl hl.1 rfl (lv_room (Nat.le_of_ble_eq_true rfl)) d_W_addMethod_47 ⟨Nat.le_of_ble_eq_true rfl, Nat.le_of_ble_eq_true rfl⟩) hS (fun q _ h => hFc q h) hFc (fun u_67 t H1 locs ht hvm hw hB hz1 hk1 hS => ?_)
            obtain ⟨q_68, q_69, q_70, q_71, hP1, hK1, hD1⟩ := hB
            rw [ht] at hP1
            have hK1 := va_K.moved hvm.symm hK1
            obtain ⟨hP, hD⟩ := va_join (wr := [(w, .inr (3, [.ref wp, .ref wu, .ref wi, .int 2, .ref wc, .ref wt, .ref wx, .int 0, .ref wm, .int 0])), (wm, .inl (km, 8, .inr (.inr (.inr (.inr fm))))), (q_49, .inl (k_50, 3, .inl (upd (upd (upd (fun _ => 0) (0 : Int32).toNatClampNeg (argX pk 0)) (1 : Int32).toNatClampNeg (argX pk 1)) (2 : Int32).toNatClampNeg (argX pk 2))))]) (w1 := [(q_64, .inr (6, [.ref q_49, .int rs, .ref q_68, .int 0, .int 0, .ref q_69, .int 0, .int 0, .int (-1), .ref q_70, .ref q_71, .int 0, .int 0]))]) hP hD [3] [0, 1, 2] rfl rfl (by decide) (by decide) hk1 hFc hP1 hD1
            have hK := (hK.sub (tys' := [(km, .object "MapFramer$Method"), (k_50, .int)]) [0, 1] rfl).app hK1
            generalize H1 = H at hP hS ⊢
            have hP : va_P (dC, dI) vwCl [(w, .inr (3, [.ref wp, .ref wu, .ref wi, .int 2, .ref wc, .ref wt, .ref wx, .int 0, .ref wm, .int 0])), (wm, .inl (km, 8, .inr (.inr (.inr (.inr fm))))), (q_49, .inl (k_50, 3, .inl (upd (upd (upd (fun _ => 0) (0 : Int32).toNatClampNeg (argX pk 0)) (1 : Int32).toNatClampNeg (argX pk 1)) (2 : Int32).toNatClampNeg (argX pk 2)))), (q_64, .inr (6, [.ref q_49, .int rs, .ref q_68, .int 0, .int 0, .ref q_69, .int 0, .int 0, .int (-1), .ref q_70, .ref q_71, .int 0, .int 0]))] H := hP
            have hD : va_D A [(w, .inr (3, [.ref wp, .ref wu, .ref wi, .int 2, .ref wc, .ref wt, .ref wx, .int 0, .ref wm, .int 0])), (wm, .inl (km, 8, .inr (.inr (.inr (.inr fm))))), (q_49, .inl (k_50, 3, .inl (upd (upd (upd (fun _ => 0) (0 : Int32).toNatClampNeg (argX pk 0)) (1 : Int32).toNatClampNeg (argX pk 1)) (2 : Int32).toNatClampNeg (argX pk 2)))), (q_64, .inr (6, [.ref q_49, .int rs, .ref q_68, .int 0, .int 0, .ref q_69, .int 0, .int 0, .int (-1), .ref q_70, .ref q_71, .int 0, .int 0]))] := hD
            have hK : va_K (dC, dI) vwCl [(km, .object "MapFramer$Method"), (k_50, .int)] s := hK
            refine W.widen (k := 6) (n := 19) (Nat.le_of_ble_eq_true rfl) (Nat.le_of_ble_eq_true rfl) ?_
            refine va_astq (r := (R_E, T_E, 13)) hx hb hK hP hD hS 1 0 3 6 rfl rfl rfl rfl (vp_in_iff.mpr (by decide)) d_W_addMethod_50 (fun H locs hP hD hS => ?_)
            have hP : va_P (dC, dI) vwCl [(w, .inr (3, [.ref wp, .ref wu, .ref wi, .int 2, .ref wc, .ref wt, .ref wx, .int 0, .ref wm, .int 0])), (wm, .inl (km, 8, .inr (.inr (.inr (.inr (va_up fm (0 : Int32).toNatClampNeg (some q_64))))))), (q_49, .inl (k_50, 3, .inl (upd (upd (upd (fun _ => 0) (0 : Int32).toNatClampNeg (argX pk 0)) (1 : Int32).toNatClampNeg (argX pk 1)) (2 : Int32).toNatClampNeg (argX pk 2)))), (q_64, .inr (6, [.ref q_49, .int rs, .ref q_68, .int 0, .int 0, .ref q_69, .int 0, .int 0, .int (-1), .ref q_70, .ref q_71, .int 0, .int 0]))] H := hP
            have hD : va_D A [(w, .inr (3, [.ref wp, .ref wu, .ref wi, .int 2, .ref wc, .ref wt, .ref wx, .int 0, .ref wm, .int 0])), (wm, .inl (km, 8, .inr (.inr (.inr (.inr (va_up fm (0 : Int32).toNatClampNeg (some q_64))))))), (q_49, .inl (k_50, 3, .inl (upd (upd (upd (fun _ => 0) (0 : Int32).toNatClampNeg (argX pk 0)) (1 : Int32).toNatClampNeg (argX pk 1)) (2 : Int32).toNatClampNeg (argX pk 2)))), (q_64, .inr (6, [.ref q_49, .int rs, .ref q_68, .int 0, .int 0, .ref q_69, .int 0, .int 0, .int (-1), .ref q_70, .ref q_71, .int 0, .int 0]))] := hD
            refine lv_aload_n hx hb d_W_addMethod_51 rfl (lv_at hl 2 rfl) ?_
            refine lv_dup hx hb d_W_addMethod_52 rfl ?_
            refine va_get (D := (dC, dI)) (ci := 3) (v := .int 0) (C := R_W) (T := T_W) (N := 10) hx hb hts (fun w h => hsub w (uw_W w h)) hown hK hP 0 rfl rfl 9 (by decide) (hts _ (hsub _ w_7)) (fun _ h9 => h9) rfl d_W_addMethod_53 ?_
            refine lv_iconst (v := 1) hx hb d_W_addMethod_56 (by decide) ?_
            refine lv_iadd hx hb d_W_addMethod_57 ?_
            refine tp_i 1 (by decide) ?_
            refine va_put (D := (dC, dI)) (ci := 3) (v := .int 1) (ty := .int) (C := R_W) (T := T_W) (N := 10) hx hb hts (fun w h => hsub w (uw_W w h)) ty_W tok_W nm_W hown hK hP hD hS 0 rfl rfl 9 (by decide) (hts _ (hsub _ w_7)) (fun _ h9 => h9) rfl (by decide +kernel) rfl rfl (Nat.le_of_ble_eq_true rfl) d_W_addMethod_58 (fun H locs hP hD hS => ?_)
            have hP : va_P (dC, dI) vwCl [(w, .inr (3, [.ref wp, .ref wu, .ref wi, .int 2, .ref wc, .ref wt, .ref wx, .int 0, .ref wm, .int 1])), (wm, .inl (km, 8, .inr (.inr (.inr (.inr (va_up fm (0 : Int32).toNatClampNeg (some q_64))))))), (q_49, .inl (k_50, 3, .inl (upd (upd (upd (fun _ => 0) (0 : Int32).toNatClampNeg (argX pk 0)) (1 : Int32).toNatClampNeg (argX pk 1)) (2 : Int32).toNatClampNeg (argX pk 2)))), (q_64, .inr (6, [.ref q_49, .int rs, .ref q_68, .int 0, .int 0, .ref q_69, .int 0, .int 0, .int (-1), .ref q_70, .ref q_71, .int 0, .int 0]))] H := hP
            have hD : va_D A [(w, .inr (3, [.ref wp, .ref wu, .ref wi, .int 2, .ref wc, .ref wt, .ref wx, .int 0, .ref wm, .int 1])), (wm, .inl (km, 8, .inr (.inr (.inr (.inr (va_up fm (0 : Int32).toNatClampNeg (some q_64))))))), (q_49, .inl (k_50, 3, .inl (upd (upd (upd (fun _ => 0) (0 : Int32).toNatClampNeg (argX pk 0)) (1 : Int32).toNatClampNeg (argX pk 1)) (2 : Int32).toNatClampNeg (argX pk 2)))), (q_64, .inr (6, [.ref q_49, .int rs, .ref q_68, .int 0, .int 0, .ref q_69, .int 0, .int 0, .int (-1), .ref q_70, .ref q_71, .int 0, .int 0]))] := hD
            refine lv_aload_n hx hb d_W_addMethod_61 rfl (lv_at hl 2 rfl) ?_
            refine va_get (D := (dC, dI)) (ci := 3) (v := .int 1) (C := R_W) (T := T_W) (N := 10) hx hb hts (fun w h => hsub w (uw_W w h)) hown hK hP 0 rfl rfl 9 (by decide) (hts _ (hsub _ w_7)) (fun _ h9 => h9) rfl d_W_addMethod_62 ?_
            refine lv_iconst (v := 1) hx hb d_W_addMethod_65 (by decide) ?_
            refine lv_isub hx hb d_W_addMethod_66 ?_
            refine tp_i 0 (by decide) ?_
            refine W.widen (k := 6) (n := 20) (Nat.le_of_ble_eq_true rfl) (Nat.le_of_ble_eq_true rfl) ?_
            exact W.iret (v := 0) hx hb hr (fun t ht hW => ⟨⟨0, (), rfl, rfl, trivial⟩, hS.F ht⟩) hS.2.2 d_W_addMethod_67
          · skip
            first | exact absurd c_63 (by decide) | exact absurd (by decide) c_63
  · obtain rfl : r_2 = 4 := hw.trans hn
    refine va_newa (atype := .int) (ty := .int) (N' := 4) (a0 := (4, .inl (fun _ => 0))) hx hb (hts _ (hsub _ w_156)) rfl hK hP hD hS hA (fun _ => vz_i _ _) (by decide) (by decide) (Nat.le_of_ble_eq_true rfl) (Nat.le_of_ble_eq_true rfl) (Nat.le_of_ble_eq_true rfl) d_W_addMethod_4 (fun q_72 k_73 H hK hP hD hS => ?_)
    have hK : va_K (dC, dI) vwCl [(km, .object "MapFramer$Method"), (k_73, .int)] s := hK
    have hP : va_P (dC, dI) vwCl [(w, .inr (3, [.ref wp, .ref wu, .ref wi, .int 2, .ref wc, .ref wt, .ref wx, .int 0, .ref wm, .int 0])), (wm, .inl (km, 8, .inr (.inr (.inr (.inr fm))))), (q_72, .inl (k_73, 4, .inl (fun _ => 0)))] H := hP
    have hD : va_D A [(w, .inr (3, [.ref wp, .ref wu, .ref wi, .int 2, .ref wc, .ref wt, .ref wx, .int 0, .ref wm, .int 0])), (wm, .inl (km, 8, .inr (.inr (.inr (.inr fm))))), (q_72, .inl (k_73, 4, .inl (fun _ => 0)))] := hD
    refine W.widen (k := 1) (n := 4) (Nat.le_of_ble_eq_true rfl) (Nat.le_of_ble_eq_true rfl) ?_
    refine lv_astore_n (lv' := [(3, .ref q_72), (0, .ref w), (1, .int pk), (2, .int rs)]) hx hb d_W_addMethod_6 rfl hl (by decide) rfl (fun ls hl => ?_)
    refine lv_iconst (v := 0) hx hb d_W_addMethod_7 (by decide) ?_
    refine lv_istore (lv' := [(4, .int 0), (3, .ref q_72), (0, .ref w), (1, .int pk), (2, .int rs)]) hx hb d_W_addMethod_8 hl (by decide) rfl (fun ls hl => ?_)
    refine lv_iload hx hb d_W_addMethod_10 (lv_at hl 0 rfl) ?_
    refine lv_aload_n hx hb d_W_addMethod_12 rfl (lv_at hl 1 rfl) ?_
    refine va_alen (v := 4) hx hb hK hP 2 1 rfl rfl rfl d_W_addMethod_13 ?_
    refine lv_icmp_ge (tgt := 33) hx hb d_W_addMethod_14 (by decide) (fun c_74 => ?_) (fun c_74 => ?_)
    · skip
      first | exact absurd c_74 (by decide) | exact absurd (by decide) c_74
    · skip
      refine lv_aload_n hx hb d_W_addMethod_17 rfl (lv_at hl 1 rfl) ?_
      refine lv_iload hx hb d_W_addMethod_18 (lv_at hl 0 rfl) ?_
      refine lv_iload_n hx hb d_W_addMethod_20 rfl (lv_at hl 3 rfl) ?_
      refine lv_iload hx hb d_W_addMethod_21 (lv_at hl 0 rfl) ?_
      have hPc := hP.sub (ws' := []) [] rfl
      have hKc := hK.sub (tys' := []) [] rfl
      refine va_calli (va_runS (As := [.int pk, .int 0]) (rest := [.int 0, .ref q_72]) ⟨hx, hb, hml, hown, hts⟩ (k_W_argumentType l dC dI pk 0) (va_cwS 2 hts (gS hsub w_138 w_139 w_4 w_140) rfl rfl rfl (by decide +kernel) ⟨Nat.le_of_ble_eq_true rfl, Nat.le_of_ble_eq_true rfl⟩) ⟨bl_0000, fun U hU hW => ⟨rfl, by rw [hU]; exact hPc, va_K.moved hW.alike hKc⟩⟩ rfl rfl hl.1 rfl (lv_room (Nat.le_of_ble_eq_true rfl)) d_W_addMethod_23 ⟨Nat.le_of_ble_eq_true rfl, Nat.le_of_ble_eq_true rfl⟩) hS (fun q _ h => h.elim) (fun q h => h.elim) (fun r_76 u_77 t H1 locs ht hvm hw hB hz1 hk1 hS => ?_)
      have hP := ro_keep hP hk1
      generalize H1 = H at hP hS ⊢
      refine W.widen (k := 1) (n := 4) (Nat.le_of_ble_eq_true rfl) (Nat.le_of_ble_eq_true rfl) ?_
      subst hw
      refine va_iast hx hb hK hP hD hS 2 1 rfl rfl (vp_in_iff.mpr (by decide)) d_W_addMethod_26 (fun H locs hP hD hS => ?_)
      have hP : va_P (dC, dI) vwCl [(w, .inr (3, [.ref wp, .ref wu, .ref wi, .int 2, .ref wc, .ref wt, .ref wx, .int 0, .ref wm, .int 0])), (wm, .inl (km, 8, .inr (.inr (.inr (.inr fm))))), (q_72, .inl (k_73, 4, .inl (upd (fun _ => 0) (0 : Int32).toNatClampNeg (argX pk 0))))] H := hP
      have hD : va_D A [(w, .inr (3, [.ref wp, .ref wu, .ref wi, .int 2, .ref wc, .ref wt, .ref wx, .int 0, .ref wm, .int 0])), (wm, .inl (km, 8, .inr (.inr (.inr (.inr fm))))), (q_72, .inl (k_73, 4, .inl (upd (fun _ => 0) (0 : Int32).toNatClampNeg (argX pk 0))))] := hD
      refine lv_iinc (v := 1) (lv' := [(4, .int 1), (3, .ref q_72), (0, .ref w), (1, .int pk), (2, .int rs)]) hx hb d_W_addMethod_27 hl (k := 0) rfl (by decide) (by decide) rfl (fun ls hl => ?_)
      refine lv_goto (tgt := 10) hx hb d_W_addMethod_30 (by decide) ?_
      refine lv_iload hx hb d_W_addMethod_10 (lv_at hl 0 rfl) ?_
      refine lv_aload_n hx hb d_W_addMethod_12 rfl (lv_at hl 1 rfl) ?_
      refine va_alen (v := 4) hx hb hK hP 2 1 rfl rfl rfl d_W_addMethod_13 ?_
      refine lv_icmp_ge (tgt := 33) hx hb d_W_addMethod_14 (by decide) (fun c_78 => ?_) (fun c_78 => ?_)
      · skip
        first | exact absurd c_78 (by decide) | exact absurd (by decide) c_78
      · skip
        refine lv_aload_n hx hb d_W_addMethod_17 rfl (lv_at hl 1 rfl) ?_
        refine lv_iload hx hb d_W_addMethod_18 (lv_at hl 0 rfl) ?_
        refine lv_iload_n hx hb d_W_addMethod_20 rfl (lv_at hl 3 rfl) ?_
        refine lv_iload hx hb d_W_addMethod_21 (lv_at hl 0 rfl) ?_
        have hPc := hP.sub (ws' := []) [] rfl
        have hKc := hK.sub (tys' := []) [] rfl
        refine va_calli (va_runS (As := [.int pk, .int 1]) (rest := [.int 1, .ref q_72]) ⟨hx, hb, hml, hown, hts⟩ (k_W_argumentType l dC dI pk 1) (va_cwS 2 hts (gS hsub w_138 w_139 w_4 w_140) rfl rfl rfl (by decide +kernel) ⟨Nat.le_of_ble_eq_true rfl, Nat.le_of_ble_eq_true rfl⟩) ⟨bl_0000, fun U hU hW => ⟨rfl, by rw [hU]; exact hPc, va_K.moved hW.alike hKc⟩⟩ rfl rfl hl.1 rfl (lv_room (Nat.le_of_ble_eq_true rfl)) d_W_addMethod_23 ⟨Nat.le_of_ble_eq_true rfl, Nat.le_of_ble_eq_true rfl⟩) hS (fun q _ h => h.elim) (fun q h => h.elim) (fun r_80 u_81 t H1 locs ht hvm hw hB hz1 hk1 hS => ?_)
        have hP := ro_keep hP hk1
        generalize H1 = H at hP hS ⊢
        refine W.widen (k := 1) (n := 4) (Nat.le_of_ble_eq_true rfl) (Nat.le_of_ble_eq_true rfl) ?_
        subst hw
        refine va_iast hx hb hK hP hD hS 2 1 rfl rfl (vp_in_iff.mpr (by decide)) d_W_addMethod_26 (fun H locs hP hD hS => ?_)
        have hP : va_P (dC, dI) vwCl [(w, .inr (3, [.ref wp, .ref wu, .ref wi, .int 2, .ref wc, .ref wt, .ref wx, .int 0, .ref wm, .int 0])), (wm, .inl (km, 8, .inr (.inr (.inr (.inr fm))))), (q_72, .inl (k_73, 4, .inl (upd (upd (fun _ => 0) (0 : Int32).toNatClampNeg (argX pk 0)) (1 : Int32).toNatClampNeg (argX pk 1))))] H := hP
        have hD : va_D A [(w, .inr (3, [.ref wp, .ref wu, .ref wi, .int 2, .ref wc, .ref wt, .ref wx, .int 0, .ref wm, .int 0])), (wm, .inl (km, 8, .inr (.inr (.inr (.inr fm))))), (q_72, .inl (k_73, 4, .inl (upd (upd (fun _ => 0) (0 : Int32).toNatClampNeg (argX pk 0)) (1 : Int32).toNatClampNeg (argX pk 1))))] := hD
        refine lv_iinc (v := 2) (lv' := [(4, .int 2), (3, .ref q_72), (0, .ref w), (1, .int pk), (2, .int rs)]) hx hb d_W_addMethod_27 hl (k := 0) rfl (by decide) (by decide) rfl (fun ls hl => ?_)
        refine lv_goto (tgt := 10) hx hb d_W_addMethod_30 (by decide) ?_
        refine lv_iload hx hb d_W_addMethod_10 (lv_at hl 0 rfl) ?_
        refine lv_aload_n hx hb d_W_addMethod_12 rfl (lv_at hl 1 rfl) ?_
        refine va_alen (v := 4) hx hb hK hP 2 1 rfl rfl rfl d_W_addMethod_13 ?_
        refine lv_icmp_ge (tgt := 33) hx hb d_W_addMethod_14 (by decide) (fun c_82 => ?_) (fun c_82 => ?_)
        · skip
          first | exact absurd c_82 (by decide) | exact absurd (by decide) c_82
        · skip
          refine lv_aload_n hx hb d_W_addMethod_17 rfl (lv_at hl 1 rfl) ?_
          refine lv_iload hx hb d_W_addMethod_18 (lv_at hl 0 rfl) ?_
          refine lv_iload_n hx hb d_W_addMethod_20 rfl (lv_at hl 3 rfl) ?_
          refine lv_iload hx hb d_W_addMethod_21 (lv_at hl 0 rfl) ?_
          have hPc := hP.sub (ws' := []) [] rfl
          have hKc := hK.sub (tys' := []) [] rfl
          refine va_calli (va_runS (As := [.int pk, .int 2]) (rest := [.int 2, .ref q_72]) ⟨hx, hb, hml, hown, hts⟩ (k_W_argumentType l dC dI pk 2) (va_cwS 2 hts (gS hsub w_138 w_139 w_4 w_140) rfl rfl rfl (by decide +kernel) ⟨Nat.le_of_ble_eq_true rfl, Nat.le_of_ble_eq_true rfl⟩) ⟨bl_0000, fun U hU hW => ⟨rfl, by rw [hU]; exact hPc, va_K.moved hW.alike hKc⟩⟩ rfl rfl hl.1 rfl (lv_room (Nat.le_of_ble_eq_true rfl)) d_W_addMethod_23 ⟨Nat.le_of_ble_eq_true rfl, Nat.le_of_ble_eq_true rfl⟩) hS (fun q _ h => h.elim) (fun q h => h.elim) (fun r_84 u_85 t H1 locs ht hvm hw hB hz1 hk1 hS => ?_)
          have hP := ro_keep hP hk1
          generalize H1 = H at hP hS ⊢
          refine W.widen (k := 1) (n := 4) (Nat.le_of_ble_eq_true rfl) (Nat.le_of_ble_eq_true rfl) ?_
          subst hw
          refine va_iast hx hb hK hP hD hS 2 1 rfl rfl (vp_in_iff.mpr (by decide)) d_W_addMethod_26 (fun H locs hP hD hS => ?_)
          have hP : va_P (dC, dI) vwCl [(w, .inr (3, [.ref wp, .ref wu, .ref wi, .int 2, .ref wc, .ref wt, .ref wx, .int 0, .ref wm, .int 0])), (wm, .inl (km, 8, .inr (.inr (.inr (.inr fm))))), (q_72, .inl (k_73, 4, .inl (upd (upd (upd (fun _ => 0) (0 : Int32).toNatClampNeg (argX pk 0)) (1 : Int32).toNatClampNeg (argX pk 1)) (2 : Int32).toNatClampNeg (argX pk 2))))] H := hP
          have hD : va_D A [(w, .inr (3, [.ref wp, .ref wu, .ref wi, .int 2, .ref wc, .ref wt, .ref wx, .int 0, .ref wm, .int 0])), (wm, .inl (km, 8, .inr (.inr (.inr (.inr fm))))), (q_72, .inl (k_73, 4, .inl (upd (upd (upd (fun _ => 0) (0 : Int32).toNatClampNeg (argX pk 0)) (1 : Int32).toNatClampNeg (argX pk 1)) (2 : Int32).toNatClampNeg (argX pk 2))))] := hD
          refine lv_iinc (v := 3) (lv' := [(4, .int 3), (3, .ref q_72), (0, .ref w), (1, .int pk), (2, .int rs)]) hx hb d_W_addMethod_27 hl (k := 0) rfl (by decide) (by decide) rfl (fun ls hl => ?_)
          refine lv_goto (tgt := 10) hx hb d_W_addMethod_30 (by decide) ?_
          refine lv_iload hx hb d_W_addMethod_10 (lv_at hl 0 rfl) ?_
          refine lv_aload_n hx hb d_W_addMethod_12 rfl (lv_at hl 1 rfl) ?_
          refine va_alen (v := 4) hx hb hK hP 2 1 rfl rfl rfl d_W_addMethod_13 ?_
          refine lv_icmp_ge (tgt := 33) hx hb d_W_addMethod_14 (by decide) (fun c_86 => ?_) (fun c_86 => ?_)
          · skip
            first | exact absurd c_86 (by decide) | exact absurd (by decide) c_86
          · skip
            refine lv_aload_n hx hb d_W_addMethod_17 rfl (lv_at hl 1 rfl) ?_
            refine lv_iload hx hb d_W_addMethod_18 (lv_at hl 0 rfl) ?_
            refine lv_iload_n hx hb d_W_addMethod_20 rfl (lv_at hl 3 rfl) ?_
            refine lv_iload hx hb d_W_addMethod_21 (lv_at hl 0 rfl) ?_
            have hPc := hP.sub (ws' := []) [] rfl
            have hKc := hK.sub (tys' := []) [] rfl
            refine va_calli (va_runS (As := [.int pk, .int 3]) (rest := [.int 3, .ref q_72]) ⟨hx, hb, hml, hown, hts⟩ (k_W_argumentType l dC dI pk 3) (va_cwS 2 hts (gS hsub w_138 w_139 w_4 w_140) rfl rfl rfl (by decide +kernel) ⟨Nat.le_of_ble_eq_true rfl, Nat.le_of_ble_eq_true rfl⟩) ⟨bl_0000, fun U hU hW => ⟨rfl, by rw [hU]; exact hPc, va_K.moved hW.alike hKc⟩⟩ rfl rfl hl.1 rfl (lv_room (Nat.le_of_ble_eq_true rfl)) d_W_addMethod_23 ⟨Nat.le_of_ble_eq_true rfl, Nat.le_of_ble_eq_true rfl⟩) hS (fun q _ h => h.elim) (fun q h => h.elim) (fun r_88 u_89 t H1 locs ht hvm hw hB hz1 hk1 hS => ?_)
            have hP := ro_keep hP hk1
            generalize H1 = H at hP hS ⊢
            refine W.widen (k := 1) (n := 4) (Nat.le_of_ble_eq_true rfl) (Nat.le_of_ble_eq_true rfl) ?_
            subst hw
            refine va_iast hx hb hK hP hD hS 2 1 rfl rfl (vp_in_iff.mpr (by decide)) d_W_addMethod_26 (fun H locs hP hD hS => ?_)
            have hP : va_P (dC, dI) vwCl [(w, .inr (3, [.ref wp, .ref wu, .ref wi, .int 2, .ref wc, .ref wt, .ref wx, .int 0, .ref wm, .int 0])), (wm, .inl (km, 8, .inr (.inr (.inr (.inr fm))))), (q_72, .inl (k_73, 4, .inl (upd (upd (upd (upd (fun _ => 0) (0 : Int32).toNatClampNeg (argX pk 0)) (1 : Int32).toNatClampNeg (argX pk 1)) (2 : Int32).toNatClampNeg (argX pk 2)) (3 : Int32).toNatClampNeg (argX pk 3))))] H := hP
            have hD : va_D A [(w, .inr (3, [.ref wp, .ref wu, .ref wi, .int 2, .ref wc, .ref wt, .ref wx, .int 0, .ref wm, .int 0])), (wm, .inl (km, 8, .inr (.inr (.inr (.inr fm))))), (q_72, .inl (k_73, 4, .inl (upd (upd (upd (upd (fun _ => 0) (0 : Int32).toNatClampNeg (argX pk 0)) (1 : Int32).toNatClampNeg (argX pk 1)) (2 : Int32).toNatClampNeg (argX pk 2)) (3 : Int32).toNatClampNeg (argX pk 3))))] := hD
            refine lv_iinc (v := 4) (lv' := [(4, .int 4), (3, .ref q_72), (0, .ref w), (1, .int pk), (2, .int rs)]) hx hb d_W_addMethod_27 hl (k := 0) rfl (by decide) (by decide) rfl (fun ls hl => ?_)
            refine lv_goto (tgt := 10) hx hb d_W_addMethod_30 (by decide) ?_
            refine lv_iload hx hb d_W_addMethod_10 (lv_at hl 0 rfl) ?_
            refine lv_aload_n hx hb d_W_addMethod_12 rfl (lv_at hl 1 rfl) ?_
            refine va_alen (v := 4) hx hb hK hP 2 1 rfl rfl rfl d_W_addMethod_13 ?_
            refine lv_icmp_ge (tgt := 33) hx hb d_W_addMethod_14 (by decide) (fun c_90 => ?_) (fun c_90 => ?_)
            · skip
              refine lv_aload_n hx hb d_W_addMethod_33 rfl (lv_at hl 2 rfl) ?_
              refine va_get (D := (dC, dI)) (ci := 3) (v := .ref wm) (C := R_W) (T := T_W) (N := 10) hx hb hts (fun w h => hsub w (uw_W w h)) hown hK hP 0 rfl rfl 8 (by decide) (hts _ (hsub _ w_174)) (fun _ h9 => h9) rfl d_W_addMethod_34 ?_
              refine lv_aload_n hx hb d_W_addMethod_37 rfl (lv_at hl 2 rfl) ?_
              refine va_get (D := (dC, dI)) (ci := 3) (v := .int 0) (C := R_W) (T := T_W) (N := 10) hx hb hts (fun w h => hsub w (uw_W w h)) hown hK hP 0 rfl rfl 9 (by decide) (hts _ (hsub _ w_7)) (fun _ h9 => h9) rfl d_W_addMethod_38 ?_
              refine va_new (ci := 6) (fs := [.null, .int 0, .null, .int 0, .int 0, .null, .int 0, .int 0, .int 0, .null, .null, .int 0, .int 0]) (C := R_E) (T := T_E) (N := 13) hx hb hts (fun w h => hsub w (uw_E w h)) ty_E tok_E hown (hts _ (hsub _ w_175)) (hts _ (hsub _ w_176)) (hts _ (hsub _ w_177)) hK hP hD hS hA rfl (fun j hj => df_E j hj) (Nat.le_of_ble_eq_true rfl) (Nat.le_of_ble_eq_true rfl) d_W_addMethod_41 (fun q_91 H hP hD hS => ?_)
              have hP : va_P (dC, dI) vwCl [(w, .inr (3, [.ref wp, .ref wu, .ref wi, .int 2, .ref wc, .ref wt, .ref wx, .int 0, .ref wm, .int 0])), (wm, .inl (km, 8, .inr (.inr (.inr (.inr fm))))), (q_72, .inl (k_73, 4, .inl (upd (upd (upd (upd (fun _ => 0) (0 : Int32).toNatClampNeg (argX pk 0)) (1 : Int32).toNatClampNeg (argX pk 1)) (2 : Int32).toNatClampNeg (argX pk 2)) (3 : Int32).toNatClampNeg (argX pk 3)))), (q_91, .inr (6, [.null, .int 0, .null, .int 0, .int 0, .null, .int 0, .int 0, .int 0, .null, .null, .int 0, .int 0]))] H := hP
              have hD : va_D A [(w, .inr (3, [.ref wp, .ref wu, .ref wi, .int 2, .ref wc, .ref wt, .ref wx, .int 0, .ref wm, .int 0])), (wm, .inl (km, 8, .inr (.inr (.inr (.inr fm))))), (q_72, .inl (k_73, 4, .inl (upd (upd (upd (upd (fun _ => 0) (0 : Int32).toNatClampNeg (argX pk 0)) (1 : Int32).toNatClampNeg (argX pk 1)) (2 : Int32).toNatClampNeg (argX pk 2)) (3 : Int32).toNatClampNeg (argX pk 3)))), (q_91, .inr (6, [.null, .int 0, .null, .int 0, .int 0, .null, .int 0, .int 0, .int 0, .null, .null, .int 0, .int 0]))] := hD
              refine W.widen (k := 2) (n := 17) (Nat.le_of_ble_eq_true rfl) (Nat.le_of_ble_eq_true rfl) ?_
              refine lv_dup hx hb d_W_addMethod_44 rfl ?_
              refine lv_aload_n hx hb d_W_addMethod_45 rfl (lv_at hl 1 rfl) ?_
              refine lv_iload_n hx hb d_W_addMethod_46 rfl (lv_at hl 4 rfl) ?_
              have hPc := hP.sub (ws' := [(q_91, .inr (6, [.null, .int 0, .null, .int 0, .int 0, .null, .int 0, .int 0, .int 0, .null, .null, .int 0, .int 0]))]) [3] rfl
              have hKc := hK.sub (tys' := []) [] rfl
              have hDc := hD.sub (ws' := [(q_91, .inr (6, [.null, .int 0, .null, .int 0, .int 0, .null, .int 0, .int 0, .int 0, .null, .null, .int 0, .int 0]))]) [3] (by decide) rfl
              have hFc := va_free (wc := [(q_91, .inr (6, [.null, .int 0, .null, .int 0, .int 0, .null, .int 0, .int 0, .int 0, .null, .null, .int 0, .int 0]))]) hD hS hA [3] rfl
              refine va_callv (va_runI (As := [.ref q_72, .int rs]) (rest := [.ref q_91, .int 0, .ref wm]) ⟨hx, hb, hml, hown, hts⟩ (k_E_init l dC dI q_91 q_72 rs H.size) (cwI 2 hts (gC hsub w_179) rfl rfl rfl (hts _ (hsub _ w_177)) (hts _ (hsub _ w_178)) (hts _ (hsub _ w_180)) rfl (by decide +kernel) ⟨Nat.le_of_ble_eq_true rfl, Nat.le_of_ble_eq_true rfl⟩) ⟨bl_1010, fun U hU hW => ⟨rfl, by rw [hU], by rw [hU]; exact hPc, va_K.moved hW.alike hKc, hDc.weaken (fun _ _ _ _ => trivial), exP_go hex hS (fun q h => hFc q h) U hU hW⟩⟩ rfl rfl hl.1 rfl (lv_room (Nat.le_of_ble_eq_true rfl)) d_W_addMethod_47 ⟨Nat.le_of_ble_eq_true rfl, Nat.le_of_ble_eq_true rfl⟩) hS (fun q _ h => hFc q h) hFc (fun u_94 t H1 locs ht hvm hw hB hz1 hk1 hS => ?_)
              obtain ⟨q_95, q_96, q_97, q_98, hP1, hK1, hD1⟩ := hB
              rw [ht] at hP1
              have hK1 := va_K.moved hvm.symm hK1
              obtain ⟨hP, hD⟩ := va_join (wr := [(w, .inr (3, [.ref wp, .ref wu, .ref wi, .int 2, .ref wc, .ref wt, .ref wx, .int 0, .ref wm, .int 0])), (wm, .inl (km, 8, .inr (.inr (.inr (.inr fm))))), (q_72, .inl (k_73, 4, .inl (upd (upd (upd (upd (fun _ => 0) (0 : Int32).toNatClampNeg (argX pk 0)) (1 : Int32).toNatClampNeg (argX pk 1)) (2 : Int32).toNatClampNeg (argX pk 2)) (3 : Int32).toNatClampNeg (argX pk 3))))]) (w1 := [(q_91, .inr (6, [.ref q_72, .int rs, .ref q_95, .int 0, .int 0, .ref q_96, .int 0, .int 0, .int (-1), .ref q_97, .ref q_98, .int 0, .int 0]))]) hP hD [3] [0, 1, 2] rfl rfl (by decide) (by decide) hk1 hFc hP1 hD1
              have hK := (hK.sub (tys' := [(km, .object "MapFramer$Method"), (k_73, .int)]) [0, 1] rfl).app hK1
              generalize H1 = H at hP hS ⊢
              have hP : va_P (dC, dI) vwCl [(w, .inr (3, [.ref wp, .ref wu, .ref wi, .int 2, .ref wc, .ref wt, .ref wx, .int 0, .ref wm, .int 0])), (wm, .inl (km, 8, .inr (.inr (.inr (.inr fm))))), (q_72, .inl (k_73, 4, .inl (upd (upd (upd (upd (fun _ => 0) (0 : Int32).toNatClampNeg (argX pk 0)) (1 : Int32).toNatClampNeg (argX pk 1)) (2 : Int32).toNatClampNeg (argX pk 2)) (3 : Int32).toNatClampNeg (argX pk 3)))), (q_91, .inr (6, [.ref q_72, .int rs, .ref q_95, .int 0, .int 0, .ref q_96, .int 0, .int 0, .int (-1), .ref q_97, .ref q_98, .int 0, .int 0]))] H := hP
              have hD : va_D A [(w, .inr (3, [.ref wp, .ref wu, .ref wi, .int 2, .ref wc, .ref wt, .ref wx, .int 0, .ref wm, .int 0])), (wm, .inl (km, 8, .inr (.inr (.inr (.inr fm))))), (q_72, .inl (k_73, 4, .inl (upd (upd (upd (upd (fun _ => 0) (0 : Int32).toNatClampNeg (argX pk 0)) (1 : Int32).toNatClampNeg (argX pk 1)) (2 : Int32).toNatClampNeg (argX pk 2)) (3 : Int32).toNatClampNeg (argX pk 3)))), (q_91, .inr (6, [.ref q_72, .int rs, .ref q_95, .int 0, .int 0, .ref q_96, .int 0, .int 0, .int (-1), .ref q_97, .ref q_98, .int 0, .int 0]))] := hD
              have hK : va_K (dC, dI) vwCl [(km, .object "MapFramer$Method"), (k_73, .int)] s := hK
              refine W.widen (k := 6) (n := 20) (Nat.le_of_ble_eq_true rfl) (Nat.le_of_ble_eq_true rfl) ?_
              refine va_astq (r := (R_E, T_E, 13)) hx hb hK hP hD hS 1 0 3 6 rfl rfl rfl rfl (vp_in_iff.mpr (by decide)) d_W_addMethod_50 (fun H locs hP hD hS => ?_)
              have hP : va_P (dC, dI) vwCl [(w, .inr (3, [.ref wp, .ref wu, .ref wi, .int 2, .ref wc, .ref wt, .ref wx, .int 0, .ref wm, .int 0])), (wm, .inl (km, 8, .inr (.inr (.inr (.inr (va_up fm (0 : Int32).toNatClampNeg (some q_91))))))), (q_72, .inl (k_73, 4, .inl (upd (upd (upd (upd (fun _ => 0) (0 : Int32).toNatClampNeg (argX pk 0)) (1 : Int32).toNatClampNeg (argX pk 1)) (2 : Int32).toNatClampNeg (argX pk 2)) (3 : Int32).toNatClampNeg (argX pk 3)))), (q_91, .inr (6, [.ref q_72, .int rs, .ref q_95, .int 0, .int 0, .ref q_96, .int 0, .int 0, .int (-1), .ref q_97, .ref q_98, .int 0, .int 0]))] H := hP
              have hD : va_D A [(w, .inr (3, [.ref wp, .ref wu, .ref wi, .int 2, .ref wc, .ref wt, .ref wx, .int 0, .ref wm, .int 0])), (wm, .inl (km, 8, .inr (.inr (.inr (.inr (va_up fm (0 : Int32).toNatClampNeg (some q_91))))))), (q_72, .inl (k_73, 4, .inl (upd (upd (upd (upd (fun _ => 0) (0 : Int32).toNatClampNeg (argX pk 0)) (1 : Int32).toNatClampNeg (argX pk 1)) (2 : Int32).toNatClampNeg (argX pk 2)) (3 : Int32).toNatClampNeg (argX pk 3)))), (q_91, .inr (6, [.ref q_72, .int rs, .ref q_95, .int 0, .int 0, .ref q_96, .int 0, .int 0, .int (-1), .ref q_97, .ref q_98, .int 0, .int 0]))] := hD
              refine lv_aload_n hx hb d_W_addMethod_51 rfl (lv_at hl 2 rfl) ?_
              refine lv_dup hx hb d_W_addMethod_52 rfl ?_
              refine va_get (D := (dC, dI)) (ci := 3) (v := .int 0) (C := R_W) (T := T_W) (N := 10) hx hb hts (fun w h => hsub w (uw_W w h)) hown hK hP 0 rfl rfl 9 (by decide) (hts _ (hsub _ w_7)) (fun _ h9 => h9) rfl d_W_addMethod_53 ?_
              refine lv_iconst (v := 1) hx hb d_W_addMethod_56 (by decide) ?_
              refine lv_iadd hx hb d_W_addMethod_57 ?_
              refine tp_i 1 (by decide) ?_
              refine va_put (D := (dC, dI)) (ci := 3) (v := .int 1) (ty := .int) (C := R_W) (T := T_W) (N := 10) hx hb hts (fun w h => hsub w (uw_W w h)) ty_W tok_W nm_W hown hK hP hD hS 0 rfl rfl 9 (by decide) (hts _ (hsub _ w_7)) (fun _ h9 => h9) rfl (by decide +kernel) rfl rfl (Nat.le_of_ble_eq_true rfl) d_W_addMethod_58 (fun H locs hP hD hS => ?_)
              have hP : va_P (dC, dI) vwCl [(w, .inr (3, [.ref wp, .ref wu, .ref wi, .int 2, .ref wc, .ref wt, .ref wx, .int 0, .ref wm, .int 1])), (wm, .inl (km, 8, .inr (.inr (.inr (.inr (va_up fm (0 : Int32).toNatClampNeg (some q_91))))))), (q_72, .inl (k_73, 4, .inl (upd (upd (upd (upd (fun _ => 0) (0 : Int32).toNatClampNeg (argX pk 0)) (1 : Int32).toNatClampNeg (argX pk 1)) (2 : Int32).toNatClampNeg (argX pk 2)) (3 : Int32).toNatClampNeg (argX pk 3)))), (q_91, .inr (6, [.ref q_72, .int rs, .ref q_95, .int 0, .int 0, .ref q_96, .int 0, .int 0, .int (-1), .ref q_97, .ref q_98, .int 0, .int 0]))] H := hP
              have hD : va_D A [(w, .inr (3, [.ref wp, .ref wu, .ref wi, .int 2, .ref wc, .ref wt, .ref wx, .int 0, .ref wm, .int 1])), (wm, .inl (km, 8, .inr (.inr (.inr (.inr (va_up fm (0 : Int32).toNatClampNeg (some q_91))))))), (q_72, .inl (k_73, 4, .inl (upd (upd (upd (upd (fun _ => 0) (0 : Int32).toNatClampNeg (argX pk 0)) (1 : Int32).toNatClampNeg (argX pk 1)) (2 : Int32).toNatClampNeg (argX pk 2)) (3 : Int32).toNatClampNeg (argX pk 3)))), (q_91, .inr (6, [.ref q_72, .int rs, .ref q_95, .int 0, .int 0, .ref q_96, .int 0, .int 0, .int (-1), .ref q_97, .ref q_98, .int 0, .int 0]))] := hD
              refine lv_aload_n hx hb d_W_addMethod_61 rfl (lv_at hl 2 rfl) ?_
              refine va_get (D := (dC, dI)) (ci := 3) (v := .int 1) (C := R_W) (T := T_W) (N := 10) hx hb hts (fun w h => hsub w (uw_W w h)) hown hK hP 0 rfl rfl 9 (by decide) (hts _ (hsub _ w_7)) (fun _ h9 => h9) rfl d_W_addMethod_62 ?_
              refine lv_iconst (v := 1) hx hb d_W_addMethod_65 (by decide) ?_
              refine lv_isub hx hb d_W_addMethod_66 ?_
              refine tp_i 0 (by decide) ?_
              refine W.widen (k := 6) (n := 20) (Nat.le_of_ble_eq_true rfl) (Nat.le_of_ble_eq_true rfl) ?_
              exact W.iret (v := 0) hx hb hr (fun t ht hW => ⟨⟨0, (), rfl, rfl, trivial⟩, hS.F ht⟩) hS.2.2 d_W_addMethod_67
            · skip
              first | exact absurd c_90 (by decide) | exact absurd (by decide) c_90
end
section
abbrev y_F_cls : MethodName := ⟨"MapFramer", "cls", "(IZ)I"⟩
abbrev y_F_field : MethodName := ⟨"MapFramer", "field", "(IIZ)I"⟩
abbrev y_F_method : MethodName := ⟨"MapFramer", "method", "(II)I"⟩
abbrev y_F_feed : MethodName := ⟨"MapFramer", "feed", "(I)Z"⟩
abbrev y_F_code : MethodName := ⟨"MapFramer", "code", "(IIII)V"⟩
abbrev y_F_handler : MethodName := ⟨"MapFramer", "handler", "(IIIII)I"⟩
abbrev y_F_verify : MethodName := ⟨"MapFramer", "verify", "(I)I"⟩
abbrev y_F_about : MethodName := ⟨"MapFramer", "about", "(II)I"⟩
abbrev y_F_codeAt : MethodName := ⟨"MapFramer", "codeAt", "(II)I"⟩
abbrev y_F_frameAt : MethodName := ⟨"MapFramer", "frameAt", "(II)I"⟩
abbrev y_F_handlerAt : MethodName := ⟨"MapFramer", "handlerAt", "(III)I"⟩
abbrev y_F_typeAt : MethodName := ⟨"MapFramer", "typeAt", "(III)I"⟩
abbrev y_F_run : MethodName := ⟨"MapFramer", "run", "(IJJI)J"⟩
abbrev y_F_end : MethodName := ⟨"MapFramer", "end", "(I)I"⟩
abbrev y_F_count : MethodName := ⟨"MapFramer", "count", "(I)I"⟩
theorem w_181 : (Cond.fieldLink "MapFramer" 10 "MapFramer" "world" "LMapFramer$World;" : Cond) ∈ bigW := inB_1 190 (by decide +kernel) rfl
theorem w_182 : (Cond.fieldLink "MapFramer" 42 "MapFramer$World" "classCount" "I" : Cond) ∈ bigW := inB_1 57 (by decide +kernel) rfl
theorem w_183 : (Cond.methodLink "MapFramer" 50 ⟨"MapFramer$World", "addClass", "(IZ)I"⟩ : Cond) ∈ bigW := inB_2 78 (by decide +kernel) rfl
theorem w_184 : (Cond.instanceMethod ⟨"MapFramer$World", "addClass", "(IZ)I"⟩ : Cond) ∈ bigW := inB_2 79 (by decide +kernel) rfl
theorem w_185 : (Cond.selects "MapFramer$World" ⟨"MapFramer$World", "addClass", "(IZ)I"⟩ ⟨"MapFramer$World", "addClass", "(IZ)I"⟩ : Cond) ∈ bigW := inB_2 80 (by decide +kernel) rfl
theorem w_186 : (Cond.code ⟨"MapFramer$World", "addClass", "(IZ)I"⟩ prog_12_method_2_code 3 (some .int) : Cond) ∈ bigW := inB_2 81 rfl rfl
theorem w_187 : (Cond.methodLink "MapFramer" 31 ⟨"MapFramer$World", "isProperClass", "(I)Z"⟩ : Cond) ∈ bigW := inB_1 224 (by decide +kernel) rfl
theorem w_188 : (Cond.instanceMethod ⟨"MapFramer$World", "isProperClass", "(I)Z"⟩ : Cond) ∈ bigW := inB_1 225 (by decide +kernel) rfl
theorem w_189 : (Cond.selects "MapFramer$World" ⟨"MapFramer$World", "isProperClass", "(I)Z"⟩ ⟨"MapFramer$World", "isProperClass", "(I)Z"⟩ : Cond) ∈ bigW := inB_1 226 (by decide +kernel) rfl
theorem w_190 : (Cond.code ⟨"MapFramer$World", "isProperClass", "(I)Z"⟩ prog_12_method_9_code 2 (some .boolean) : Cond) ∈ bigW := inB_1 227 rfl rfl
theorem w_191 : (Cond.classLink "MapFramer" 35 "java/lang/IllegalArgumentException" : Cond) ∈ bigW := inB_1 232 (by decide +kernel) rfl
theorem w_192 : (Cond.initialized "java/lang/IllegalArgumentException" : Cond) ∈ bigW := inB_1 10 (by decide +kernel) rfl
theorem w_193 : (Cond.methodLink "MapFramer" 54 ⟨"MapFramer$World", "hasClass", "(I)Z"⟩ : Cond) ∈ bigW := inB_2 89 (by decide +kernel) rfl
theorem w_194 : (Cond.methodLink "MapFramer" 57 ⟨"MapFramer$World", "isValueType", "(I)Z"⟩ : Cond) ∈ bigW := inB_2 90 (by decide +kernel) rfl
theorem w_195 : (Cond.instanceMethod ⟨"MapFramer$World", "isValueType", "(I)Z"⟩ : Cond) ∈ bigW := inB_2 91 (by decide +kernel) rfl
theorem w_196 : (Cond.selects "MapFramer$World" ⟨"MapFramer$World", "isValueType", "(I)Z"⟩ ⟨"MapFramer$World", "isValueType", "(I)Z"⟩ : Cond) ∈ bigW := inB_2 92 (by decide +kernel) rfl
theorem w_197 : (Cond.code ⟨"MapFramer$World", "isValueType", "(I)Z"⟩ prog_12_method_11_code 2 (some .boolean) : Cond) ∈ bigW := inB_2 93 rfl rfl
theorem w_198 : (Cond.fieldLink "MapFramer" 64 "MapFramer$World" "fieldCount" "I" : Cond) ∈ bigW := inB_1 62 (by decide +kernel) rfl
theorem w_199 : (Cond.methodLink "MapFramer" 69 ⟨"MapFramer$World", "addField", "(IIZ)I"⟩ : Cond) ∈ bigW := inB_2 97 (by decide +kernel) rfl
theorem w_200 : (Cond.instanceMethod ⟨"MapFramer$World", "addField", "(IIZ)I"⟩ : Cond) ∈ bigW := inB_2 98 (by decide +kernel) rfl
theorem w_201 : (Cond.selects "MapFramer$World" ⟨"MapFramer$World", "addField", "(IIZ)I"⟩ ⟨"MapFramer$World", "addField", "(IIZ)I"⟩ : Cond) ∈ bigW := inB_2 99 (by decide +kernel) rfl
theorem w_202 : (Cond.code ⟨"MapFramer$World", "addField", "(IIZ)I"⟩ prog_12_method_3_code 4 (some .int) : Cond) ∈ bigW := inB_2 100 rfl rfl
theorem w_203 : (Cond.methodLink "MapFramer" 73 ⟨"MapFramer$World", "argumentCount", "(I)I"⟩ : Cond) ∈ bigW := inB_2 108 (by decide +kernel) rfl
theorem w_204 : (Cond.fieldLink "MapFramer" 85 "MapFramer$World" "methodCount" "I" : Cond) ∈ bigW := inB_1 65 (by decide +kernel) rfl
theorem w_205 : (Cond.methodLink "MapFramer" 90 ⟨"MapFramer$World", "addMethod", "(II)I"⟩ : Cond) ∈ bigW := inB_2 118 (by decide +kernel) rfl
theorem w_206 : (Cond.instanceMethod ⟨"MapFramer$World", "addMethod", "(II)I"⟩ : Cond) ∈ bigW := inB_2 119 (by decide +kernel) rfl
theorem w_207 : (Cond.selects "MapFramer$World" ⟨"MapFramer$World", "addMethod", "(II)I"⟩ ⟨"MapFramer$World", "addMethod", "(II)I"⟩ : Cond) ∈ bigW := inB_2 120 (by decide +kernel) rfl
theorem w_208 : (Cond.code ⟨"MapFramer$World", "addMethod", "(II)I"⟩ prog_12_method_4_code 5 (some .int) : Cond) ∈ bigW := inB_2 121 rfl rfl
theorem w_209 : (Cond.methodLink "MapFramer" 77 ⟨"MapFramer$World", "argumentType", "(II)I"⟩ : Cond) ∈ bigW := inB_2 114 (by decide +kernel) rfl
theorem w_210 : (Cond.fieldLink "MapFramer" 27 "MapFramer" "tapeLength" "I" : Cond) ∈ bigW := inB_1 193 (by decide +kernel) rfl
theorem w_211 : (Cond.fieldLink "MapFramer" 23 "MapFramer" "tape" "[I" : Cond) ∈ bigW := inB_1 192 (by decide +kernel) rfl
theorem w_212 : (Cond.methodLink "MapFramer" 93 ⟨"MapFramer$World", "methodAt", "(I)LMapFramer$Method;"⟩ : Cond) ∈ bigW := inB_2 227 (by decide +kernel) rfl
theorem w_213 : (Cond.instanceMethod ⟨"MapFramer$World", "methodAt", "(I)LMapFramer$Method;"⟩ : Cond) ∈ bigW := inB_2 228 (by decide +kernel) rfl
theorem w_214 : (Cond.selects "MapFramer$World" ⟨"MapFramer$World", "methodAt", "(I)LMapFramer$Method;"⟩ ⟨"MapFramer$World", "methodAt", "(I)LMapFramer$Method;"⟩ : Cond) ∈ bigW := inB_2 229 (by decide +kernel) rfl
theorem w_215 : (Cond.code ⟨"MapFramer$World", "methodAt", "(I)LMapFramer$Method;"⟩ prog_12_method_7_code 2 (some (.object "MapFramer$Method")) : Cond) ∈ bigW := inB_2 230 rfl rfl
theorem w_216 : (Cond.classLink "MapFramer" 204 "java/lang/IndexOutOfBoundsException" : Cond) ∈ bigW := inB_7 23 (by decide +kernel) rfl
theorem w_217 : (Cond.initialized "java/lang/IndexOutOfBoundsException" : Cond) ∈ bigW := inB_1 27 (by decide +kernel) rfl
theorem w_218 : (Cond.fieldLink "MapFramer" 19 "MapFramer" "machine" "LMapFramer$Machine;" : Cond) ∈ bigW := inB_1 191 (by decide +kernel) rfl
theorem w_219 : (Cond.fieldLink "MapFramer" 275 "MapFramer$Machine" "outcome" "I" : Cond) ∈ bigW := inB_1 156 (by decide +kernel) rfl
theorem d_F_cls_0 : decode prog_1_method_2_code 0 = .ok (.iload_n 2, 1) := by decide +kernel
theorem d_F_cls_1 : decode prog_1_method_2_code 1 = .ok (.ifCond .ne 24, 3) := by decide +kernel
theorem d_F_cls_4 : decode prog_1_method_2_code 4 = .ok (.aload_n 0, 1) := by decide +kernel
theorem d_F_cls_5 : decode prog_1_method_2_code 5 = .ok (.getfield 10, 3) := by decide +kernel
theorem d_F_cls_8 : decode prog_1_method_2_code 8 = .ok (.iload_n 1, 1) := by decide +kernel
theorem d_F_cls_9 : decode prog_1_method_2_code 9 = .ok (.invokevirtual 31, 3) := by decide +kernel
theorem d_F_cls_12 : decode prog_1_method_2_code 12 = .ok (.ifCond .ne 13, 3) := by decide +kernel
theorem d_F_cls_15 : decode prog_1_method_2_code 15 = .ok (.new 35, 3) := by decide +kernel
theorem d_F_cls_18 : decode prog_1_method_2_code 18 = .ok (.dup, 1) := by decide +kernel
theorem d_F_cls_19 : decode prog_1_method_2_code 19 = .ok (.ldc 37, 2) := by decide +kernel
theorem d_F_cls_21 : decode prog_1_method_2_code 21 = .ok (.invokespecial 39, 3) := by decide +kernel
theorem d_F_cls_24 : decode prog_1_method_2_code 24 = .ok (.athrow, 1) := by decide +kernel
theorem d_F_cls_25 : decode prog_1_method_2_code 25 = .ok (.aload_n 0, 1) := by decide +kernel
theorem d_F_cls_26 : decode prog_1_method_2_code 26 = .ok (.getfield 10, 3) := by decide +kernel
theorem d_F_cls_29 : decode prog_1_method_2_code 29 = .ok (.getfield 42, 3) := by decide +kernel
theorem d_F_cls_32 : decode prog_1_method_2_code 32 = .ok (.bipush 16, 2) := by decide +kernel
theorem d_F_cls_34 : decode prog_1_method_2_code 34 = .ok (.if_icmp .lt 13, 3) := by decide +kernel
theorem d_F_cls_47 : decode prog_1_method_2_code 47 = .ok (.aload_n 0, 1) := by decide +kernel
theorem d_F_cls_48 : decode prog_1_method_2_code 48 = .ok (.getfield 10, 3) := by decide +kernel
theorem d_F_cls_51 : decode prog_1_method_2_code 51 = .ok (.iload_n 2, 1) := by decide +kernel
theorem d_F_cls_52 : decode prog_1_method_2_code 52 = .ok (.ifCond .eq 7, 3) := by decide +kernel
theorem d_F_cls_55 : decode prog_1_method_2_code 55 = .ok (.iconst 0, 1) := by decide +kernel
theorem d_F_cls_56 : decode prog_1_method_2_code 56 = .ok (.goto 4, 3) := by decide +kernel
theorem d_F_cls_59 : decode prog_1_method_2_code 59 = .ok (.iload_n 1, 1) := by decide +kernel
theorem d_F_cls_60 : decode prog_1_method_2_code 60 = .ok (.iload_n 2, 1) := by decide +kernel
theorem d_F_cls_61 : decode prog_1_method_2_code 61 = .ok (.invokevirtual 50, 3) := by decide +kernel
theorem d_F_cls_64 : decode prog_1_method_2_code 64 = .ok (.ireturn, 1) := by decide +kernel
theorem d_F_field_0 : decode prog_1_method_3_code 0 = .ok (.aload_n 0, 1) := by decide +kernel
theorem d_F_field_1 : decode prog_1_method_3_code 1 = .ok (.getfield 10, 3) := by decide +kernel
theorem d_F_field_4 : decode prog_1_method_3_code 4 = .ok (.iload_n 1, 1) := by decide +kernel
theorem d_F_field_5 : decode prog_1_method_3_code 5 = .ok (.invokevirtual 54, 3) := by decide +kernel
theorem d_F_field_8 : decode prog_1_method_3_code 8 = .ok (.ifCond .eq 14, 3) := by decide +kernel
theorem d_F_field_11 : decode prog_1_method_3_code 11 = .ok (.aload_n 0, 1) := by decide +kernel
theorem d_F_field_12 : decode prog_1_method_3_code 12 = .ok (.getfield 10, 3) := by decide +kernel
theorem d_F_field_15 : decode prog_1_method_3_code 15 = .ok (.iload_n 2, 1) := by decide +kernel
theorem d_F_field_16 : decode prog_1_method_3_code 16 = .ok (.invokevirtual 57, 3) := by decide +kernel
theorem d_F_field_19 : decode prog_1_method_3_code 19 = .ok (.ifCond .ne 13, 3) := by decide +kernel
theorem d_F_field_22 : decode prog_1_method_3_code 22 = .ok (.new 35, 3) := by decide +kernel
theorem d_F_field_25 : decode prog_1_method_3_code 25 = .ok (.dup, 1) := by decide +kernel
theorem d_F_field_26 : decode prog_1_method_3_code 26 = .ok (.ldc 60, 2) := by decide +kernel
theorem d_F_field_28 : decode prog_1_method_3_code 28 = .ok (.invokespecial 39, 3) := by decide +kernel
theorem d_F_field_31 : decode prog_1_method_3_code 31 = .ok (.athrow, 1) := by decide +kernel
theorem d_F_field_32 : decode prog_1_method_3_code 32 = .ok (.iload_n 3, 1) := by decide +kernel
theorem d_F_field_33 : decode prog_1_method_3_code 33 = .ok (.ifCond .ne 28, 3) := by decide +kernel
theorem d_F_field_36 : decode prog_1_method_3_code 36 = .ok (.iload_n 1, 1) := by decide +kernel
theorem d_F_field_37 : decode prog_1_method_3_code 37 = .ok (.ifCond .eq 14, 3) := by decide +kernel
theorem d_F_field_40 : decode prog_1_method_3_code 40 = .ok (.aload_n 0, 1) := by decide +kernel
theorem d_F_field_41 : decode prog_1_method_3_code 41 = .ok (.getfield 10, 3) := by decide +kernel
theorem d_F_field_44 : decode prog_1_method_3_code 44 = .ok (.iload_n 1, 1) := by decide +kernel
theorem d_F_field_45 : decode prog_1_method_3_code 45 = .ok (.invokevirtual 31, 3) := by decide +kernel
theorem d_F_field_48 : decode prog_1_method_3_code 48 = .ok (.ifCond .ne 13, 3) := by decide +kernel
theorem d_F_field_51 : decode prog_1_method_3_code 51 = .ok (.new 35, 3) := by decide +kernel
theorem d_F_field_54 : decode prog_1_method_3_code 54 = .ok (.dup, 1) := by decide +kernel
theorem d_F_field_55 : decode prog_1_method_3_code 55 = .ok (.ldc 62, 2) := by decide +kernel
theorem d_F_field_57 : decode prog_1_method_3_code 57 = .ok (.invokespecial 39, 3) := by decide +kernel
theorem d_F_field_60 : decode prog_1_method_3_code 60 = .ok (.athrow, 1) := by decide +kernel
theorem d_F_field_61 : decode prog_1_method_3_code 61 = .ok (.aload_n 0, 1) := by decide +kernel
theorem d_F_field_62 : decode prog_1_method_3_code 62 = .ok (.getfield 10, 3) := by decide +kernel
theorem d_F_field_65 : decode prog_1_method_3_code 65 = .ok (.getfield 64, 3) := by decide +kernel
theorem d_F_field_68 : decode prog_1_method_3_code 68 = .ok (.bipush 16, 2) := by decide +kernel
theorem d_F_field_70 : decode prog_1_method_3_code 70 = .ok (.if_icmp .lt 13, 3) := by decide +kernel
theorem d_F_field_83 : decode prog_1_method_3_code 83 = .ok (.aload_n 0, 1) := by decide +kernel
theorem d_F_field_84 : decode prog_1_method_3_code 84 = .ok (.getfield 10, 3) := by decide +kernel
theorem d_F_field_87 : decode prog_1_method_3_code 87 = .ok (.iload_n 1, 1) := by decide +kernel
theorem d_F_field_88 : decode prog_1_method_3_code 88 = .ok (.iload_n 2, 1) := by decide +kernel
theorem d_F_field_89 : decode prog_1_method_3_code 89 = .ok (.iload_n 3, 1) := by decide +kernel
theorem d_F_field_90 : decode prog_1_method_3_code 90 = .ok (.invokevirtual 69, 3) := by decide +kernel
theorem d_F_field_93 : decode prog_1_method_3_code 93 = .ok (.ireturn, 1) := by decide +kernel
theorem d_F_method_0 : decode prog_1_method_4_code 0 = .ok (.iload_n 1, 1) := by decide +kernel
theorem d_F_method_1 : decode prog_1_method_4_code 1 = .ok (.invokestatic 73, 3) := by decide +kernel
theorem d_F_method_4 : decode prog_1_method_4_code 4 = .ok (.istore_n 3, 1) := by decide +kernel
theorem d_F_method_5 : decode prog_1_method_4_code 5 = .ok (.iconst 0, 1) := by decide +kernel
theorem d_F_method_6 : decode prog_1_method_4_code 6 = .ok (.istore 4, 2) := by decide +kernel
theorem d_F_method_8 : decode prog_1_method_4_code 8 = .ok (.iload 4, 2) := by decide +kernel
theorem d_F_method_10 : decode prog_1_method_4_code 10 = .ok (.iload_n 3, 1) := by decide +kernel
theorem d_F_method_11 : decode prog_1_method_4_code 11 = .ok (.if_icmp .ge 35, 3) := by decide +kernel
theorem d_F_method_14 : decode prog_1_method_4_code 14 = .ok (.aload_n 0, 1) := by decide +kernel
theorem d_F_method_15 : decode prog_1_method_4_code 15 = .ok (.getfield 10, 3) := by decide +kernel
theorem d_F_method_18 : decode prog_1_method_4_code 18 = .ok (.iload_n 1, 1) := by decide +kernel
theorem d_F_method_19 : decode prog_1_method_4_code 19 = .ok (.iload 4, 2) := by decide +kernel
theorem d_F_method_21 : decode prog_1_method_4_code 21 = .ok (.invokestatic 77, 3) := by decide +kernel
theorem d_F_method_24 : decode prog_1_method_4_code 24 = .ok (.invokevirtual 57, 3) := by decide +kernel
theorem d_F_method_27 : decode prog_1_method_4_code 27 = .ok (.ifCond .ne 13, 3) := by decide +kernel
theorem d_F_method_30 : decode prog_1_method_4_code 30 = .ok (.new 35, 3) := by decide +kernel
theorem d_F_method_33 : decode prog_1_method_4_code 33 = .ok (.dup, 1) := by decide +kernel
theorem d_F_method_34 : decode prog_1_method_4_code 34 = .ok (.ldc 81, 2) := by decide +kernel
theorem d_F_method_36 : decode prog_1_method_4_code 36 = .ok (.invokespecial 39, 3) := by decide +kernel
theorem d_F_method_39 : decode prog_1_method_4_code 39 = .ok (.athrow, 1) := by decide +kernel
theorem d_F_method_40 : decode prog_1_method_4_code 40 = .ok (.iinc 4 1, 3) := by decide +kernel
theorem d_F_method_43 : decode prog_1_method_4_code 43 = .ok (.goto (-35), 3) := by decide +kernel
theorem d_F_method_46 : decode prog_1_method_4_code 46 = .ok (.iload_n 2, 1) := by decide +kernel
theorem d_F_method_47 : decode prog_1_method_4_code 47 = .ok (.ifCond .eq 24, 3) := by decide +kernel
theorem d_F_method_50 : decode prog_1_method_4_code 50 = .ok (.aload_n 0, 1) := by decide +kernel
theorem d_F_method_51 : decode prog_1_method_4_code 51 = .ok (.getfield 10, 3) := by decide +kernel
theorem d_F_method_54 : decode prog_1_method_4_code 54 = .ok (.iload_n 2, 1) := by decide +kernel
theorem d_F_method_55 : decode prog_1_method_4_code 55 = .ok (.invokevirtual 57, 3) := by decide +kernel
theorem d_F_method_58 : decode prog_1_method_4_code 58 = .ok (.ifCond .ne 13, 3) := by decide +kernel
theorem d_F_method_61 : decode prog_1_method_4_code 61 = .ok (.new 35, 3) := by decide +kernel
theorem d_F_method_64 : decode prog_1_method_4_code 64 = .ok (.dup, 1) := by decide +kernel
theorem d_F_method_65 : decode prog_1_method_4_code 65 = .ok (.ldc 83, 2) := by decide +kernel
theorem d_F_method_67 : decode prog_1_method_4_code 67 = .ok (.invokespecial 39, 3) := by decide +kernel
theorem d_F_method_70 : decode prog_1_method_4_code 70 = .ok (.athrow, 1) := by decide +kernel
theorem d_F_method_71 : decode prog_1_method_4_code 71 = .ok (.aload_n 0, 1) := by decide +kernel
theorem d_F_method_72 : decode prog_1_method_4_code 72 = .ok (.getfield 10, 3) := by decide +kernel
theorem d_F_method_75 : decode prog_1_method_4_code 75 = .ok (.getfield 85, 3) := by decide +kernel
theorem d_F_method_78 : decode prog_1_method_4_code 78 = .ok (.bipush 8, 2) := by decide +kernel
theorem d_F_method_80 : decode prog_1_method_4_code 80 = .ok (.if_icmp .lt 13, 3) := by decide +kernel
theorem d_F_method_93 : decode prog_1_method_4_code 93 = .ok (.aload_n 0, 1) := by decide +kernel
theorem d_F_method_94 : decode prog_1_method_4_code 94 = .ok (.getfield 10, 3) := by decide +kernel
theorem d_F_method_97 : decode prog_1_method_4_code 97 = .ok (.iload_n 1, 1) := by decide +kernel
theorem d_F_method_98 : decode prog_1_method_4_code 98 = .ok (.iload_n 2, 1) := by decide +kernel
theorem d_F_method_99 : decode prog_1_method_4_code 99 = .ok (.invokevirtual 90, 3) := by decide +kernel
theorem d_F_method_102 : decode prog_1_method_4_code 102 = .ok (.ireturn, 1) := by decide +kernel
theorem d_F_feed_0 : decode prog_1_method_5_code 0 = .ok (.aload_n 0, 1) := by decide +kernel
theorem d_F_feed_1 : decode prog_1_method_5_code 1 = .ok (.getfield 27, 3) := by decide +kernel
theorem d_F_feed_4 : decode prog_1_method_5_code 4 = .ok (.iconst 4, 1) := by decide +kernel
theorem d_F_feed_5 : decode prog_1_method_5_code 5 = .ok (.iadd, 1) := by decide +kernel
theorem d_F_feed_6 : decode prog_1_method_5_code 6 = .ok (.sipush 400, 3) := by decide +kernel
theorem d_F_feed_9 : decode prog_1_method_5_code 9 = .ok (.if_icmp .le 5, 3) := by decide +kernel
theorem d_F_feed_14 : decode prog_1_method_5_code 14 = .ok (.bipush 24, 2) := by decide +kernel
theorem d_F_feed_16 : decode prog_1_method_5_code 16 = .ok (.istore_n 2, 1) := by decide +kernel
theorem d_F_feed_17 : decode prog_1_method_5_code 17 = .ok (.iload_n 2, 1) := by decide +kernel
theorem d_F_feed_18 : decode prog_1_method_5_code 18 = .ok (.ifCond .lt 35, 3) := by decide +kernel
theorem d_F_feed_21 : decode prog_1_method_5_code 21 = .ok (.aload_n 0, 1) := by decide +kernel
theorem d_F_feed_22 : decode prog_1_method_5_code 22 = .ok (.getfield 23, 3) := by decide +kernel
theorem d_F_feed_25 : decode prog_1_method_5_code 25 = .ok (.aload_n 0, 1) := by decide +kernel
theorem d_F_feed_26 : decode prog_1_method_5_code 26 = .ok (.getfield 27, 3) := by decide +kernel
theorem d_F_feed_29 : decode prog_1_method_5_code 29 = .ok (.iload_n 1, 1) := by decide +kernel
theorem d_F_feed_30 : decode prog_1_method_5_code 30 = .ok (.iload_n 2, 1) := by decide +kernel
theorem d_F_feed_31 : decode prog_1_method_5_code 31 = .ok (.iushr, 1) := by decide +kernel
theorem d_F_feed_32 : decode prog_1_method_5_code 32 = .ok (.sipush 255, 3) := by decide +kernel
theorem d_F_feed_35 : decode prog_1_method_5_code 35 = .ok (.iand, 1) := by decide +kernel
theorem d_F_feed_36 : decode prog_1_method_5_code 36 = .ok (.iastore, 1) := by decide +kernel
theorem d_F_feed_37 : decode prog_1_method_5_code 37 = .ok (.aload_n 0, 1) := by decide +kernel
theorem d_F_feed_38 : decode prog_1_method_5_code 38 = .ok (.dup, 1) := by decide +kernel
theorem d_F_feed_39 : decode prog_1_method_5_code 39 = .ok (.getfield 27, 3) := by decide +kernel
theorem d_F_feed_42 : decode prog_1_method_5_code 42 = .ok (.iconst 1, 1) := by decide +kernel
theorem d_F_feed_43 : decode prog_1_method_5_code 43 = .ok (.iadd, 1) := by decide +kernel
theorem d_F_feed_44 : decode prog_1_method_5_code 44 = .ok (.putfield 27, 3) := by decide +kernel
theorem d_F_feed_47 : decode prog_1_method_5_code 47 = .ok (.iinc 2 (-8), 3) := by decide +kernel
theorem d_F_feed_50 : decode prog_1_method_5_code 50 = .ok (.goto (-33), 3) := by decide +kernel
theorem d_F_feed_53 : decode prog_1_method_5_code 53 = .ok (.iconst 1, 1) := by decide +kernel
theorem d_F_feed_54 : decode prog_1_method_5_code 54 = .ok (.ireturn, 1) := by decide +kernel
theorem d_F_code_0 : decode prog_1_method_6_code 0 = .ok (.aload_n 0, 1) := by decide +kernel
theorem d_F_code_1 : decode prog_1_method_6_code 1 = .ok (.getfield 27, 3) := by decide +kernel
theorem d_F_code_4 : decode prog_1_method_6_code 4 = .ok (.istore 5, 2) := by decide +kernel
theorem d_F_code_6 : decode prog_1_method_6_code 6 = .ok (.aload_n 0, 1) := by decide +kernel
theorem d_F_code_7 : decode prog_1_method_6_code 7 = .ok (.iconst 0, 1) := by decide +kernel
theorem d_F_code_8 : decode prog_1_method_6_code 8 = .ok (.putfield 27, 3) := by decide +kernel
theorem d_F_code_11 : decode prog_1_method_6_code 11 = .ok (.aload_n 0, 1) := by decide +kernel
theorem d_F_code_12 : decode prog_1_method_6_code 12 = .ok (.getfield 10, 3) := by decide +kernel
theorem d_F_code_15 : decode prog_1_method_6_code 15 = .ok (.iload_n 1, 1) := by decide +kernel
theorem d_F_code_16 : decode prog_1_method_6_code 16 = .ok (.invokevirtual 93, 3) := by decide +kernel
theorem d_F_code_19 : decode prog_1_method_6_code 19 = .ok (.astore 6, 2) := by decide +kernel
theorem d_F_code_21 : decode prog_1_method_6_code 21 = .ok (.aload 6, 2) := by decide +kernel
theorem d_F_code_23 : decode prog_1_method_6_code 23 = .ok (.ifnull 20, 3) := by decide +kernel
theorem d_F_code_43 : decode prog_1_method_6_code 43 = .ok (.new 35, 3) := by decide +kernel
theorem d_F_code_46 : decode prog_1_method_6_code 46 = .ok (.dup, 1) := by decide +kernel
theorem d_F_code_47 : decode prog_1_method_6_code 47 = .ok (.ldc 97, 2) := by decide +kernel
theorem d_F_code_49 : decode prog_1_method_6_code 49 = .ok (.invokespecial 39, 3) := by decide +kernel
theorem d_F_code_52 : decode prog_1_method_6_code 52 = .ok (.athrow, 1) := by decide +kernel
theorem d_F_handler_0 : decode prog_1_method_7_code 0 = .ok (.aload_n 0, 1) := by decide +kernel
theorem d_F_handler_1 : decode prog_1_method_7_code 1 = .ok (.getfield 10, 3) := by decide +kernel
theorem d_F_handler_4 : decode prog_1_method_7_code 4 = .ok (.iload_n 1, 1) := by decide +kernel
theorem d_F_handler_5 : decode prog_1_method_7_code 5 = .ok (.invokevirtual 93, 3) := by decide +kernel
theorem d_F_handler_8 : decode prog_1_method_7_code 8 = .ok (.astore 6, 2) := by decide +kernel
theorem d_F_handler_10 : decode prog_1_method_7_code 10 = .ok (.iload 5, 2) := by decide +kernel
theorem d_F_handler_12 : decode prog_1_method_7_code 12 = .ok (.iconst (-1), 1) := by decide +kernel
theorem d_F_handler_13 : decode prog_1_method_7_code 13 = .ok (.if_icmp .ne 7, 3) := by decide +kernel
theorem d_F_handler_16 : decode prog_1_method_7_code 16 = .ok (.iconst 1, 1) := by decide +kernel
theorem d_F_handler_17 : decode prog_1_method_7_code 17 = .ok (.goto 5, 3) := by decide +kernel
theorem d_F_handler_20 : decode prog_1_method_7_code 20 = .ok (.iload 5, 2) := by decide +kernel
theorem d_F_handler_22 : decode prog_1_method_7_code 22 = .ok (.istore 7, 2) := by decide +kernel
theorem d_F_handler_24 : decode prog_1_method_7_code 24 = .ok (.aload 6, 2) := by decide +kernel
theorem d_F_handler_26 : decode prog_1_method_7_code 26 = .ok (.ifnull 36, 3) := by decide +kernel
theorem d_F_handler_62 : decode prog_1_method_7_code 62 = .ok (.new 35, 3) := by decide +kernel
theorem d_F_handler_65 : decode prog_1_method_7_code 65 = .ok (.dup, 1) := by decide +kernel
theorem d_F_handler_66 : decode prog_1_method_7_code 66 = .ok (.ldc 132, 2) := by decide +kernel
theorem d_F_handler_68 : decode prog_1_method_7_code 68 = .ok (.invokespecial 39, 3) := by decide +kernel
theorem d_F_handler_71 : decode prog_1_method_7_code 71 = .ok (.athrow, 1) := by decide +kernel
theorem d_F_verify_0 : decode prog_1_method_9_code 0 = .ok (.aload_n 0, 1) := by decide +kernel
theorem d_F_verify_1 : decode prog_1_method_9_code 1 = .ok (.getfield 10, 3) := by decide +kernel
theorem d_F_verify_4 : decode prog_1_method_9_code 4 = .ok (.iload_n 1, 1) := by decide +kernel
theorem d_F_verify_5 : decode prog_1_method_9_code 5 = .ok (.invokevirtual 93, 3) := by decide +kernel
theorem d_F_verify_8 : decode prog_1_method_9_code 8 = .ok (.astore_n 2, 1) := by decide +kernel
theorem d_F_verify_9 : decode prog_1_method_9_code 9 = .ok (.aload_n 2, 1) := by decide +kernel
theorem d_F_verify_10 : decode prog_1_method_9_code 10 = .ok (.ifnull 10, 3) := by decide +kernel
theorem d_F_verify_20 : decode prog_1_method_9_code 20 = .ok (.new 35, 3) := by decide +kernel
theorem d_F_verify_23 : decode prog_1_method_9_code 23 = .ok (.dup, 1) := by decide +kernel
theorem d_F_verify_24 : decode prog_1_method_9_code 24 = .ok (.ldc 163, 2) := by decide +kernel
theorem d_F_verify_26 : decode prog_1_method_9_code 26 = .ok (.invokespecial 39, 3) := by decide +kernel
theorem d_F_verify_29 : decode prog_1_method_9_code 29 = .ok (.athrow, 1) := by decide +kernel
theorem d_F_about_0 : decode prog_1_method_10_code 0 = .ok (.aload_n 0, 1) := by decide +kernel
theorem d_F_about_1 : decode prog_1_method_10_code 1 = .ok (.getfield 10, 3) := by decide +kernel
theorem d_F_about_4 : decode prog_1_method_10_code 4 = .ok (.iload_n 1, 1) := by decide +kernel
theorem d_F_about_5 : decode prog_1_method_10_code 5 = .ok (.invokevirtual 93, 3) := by decide +kernel
theorem d_F_about_8 : decode prog_1_method_10_code 8 = .ok (.astore_n 3, 1) := by decide +kernel
theorem d_F_about_9 : decode prog_1_method_10_code 9 = .ok (.aload_n 3, 1) := by decide +kernel
theorem d_F_about_10 : decode prog_1_method_10_code 10 = .ok (.ifnull 13, 3) := by decide +kernel
theorem d_F_about_23 : decode prog_1_method_10_code 23 = .ok (.new 204, 3) := by decide +kernel
theorem d_F_about_26 : decode prog_1_method_10_code 26 = .ok (.dup, 1) := by decide +kernel
theorem d_F_about_27 : decode prog_1_method_10_code 27 = .ok (.ldc 206, 2) := by decide +kernel
theorem d_F_about_29 : decode prog_1_method_10_code 29 = .ok (.invokespecial 208, 3) := by decide +kernel
theorem d_F_about_32 : decode prog_1_method_10_code 32 = .ok (.athrow, 1) := by decide +kernel
theorem d_F_codeAt_0 : decode prog_1_method_11_code 0 = .ok (.aload_n 0, 1) := by decide +kernel
theorem d_F_codeAt_1 : decode prog_1_method_11_code 1 = .ok (.getfield 10, 3) := by decide +kernel
theorem d_F_codeAt_4 : decode prog_1_method_11_code 4 = .ok (.iload_n 1, 1) := by decide +kernel
theorem d_F_codeAt_5 : decode prog_1_method_11_code 5 = .ok (.invokevirtual 93, 3) := by decide +kernel
theorem d_F_codeAt_8 : decode prog_1_method_11_code 8 = .ok (.astore_n 3, 1) := by decide +kernel
theorem d_F_codeAt_9 : decode prog_1_method_11_code 9 = .ok (.aload_n 3, 1) := by decide +kernel
theorem d_F_codeAt_10 : decode prog_1_method_11_code 10 = .ok (.ifnull 16, 3) := by decide +kernel
theorem d_F_codeAt_26 : decode prog_1_method_11_code 26 = .ok (.new 204, 3) := by decide +kernel
theorem d_F_codeAt_29 : decode prog_1_method_11_code 29 = .ok (.dup, 1) := by decide +kernel
theorem d_F_codeAt_30 : decode prog_1_method_11_code 30 = .ok (.ldc 215, 2) := by decide +kernel
theorem d_F_codeAt_32 : decode prog_1_method_11_code 32 = .ok (.invokespecial 208, 3) := by decide +kernel
theorem d_F_codeAt_35 : decode prog_1_method_11_code 35 = .ok (.athrow, 1) := by decide +kernel
theorem d_F_frameAt_0 : decode prog_1_method_12_code 0 = .ok (.aload_n 0, 1) := by decide +kernel
theorem d_F_frameAt_1 : decode prog_1_method_12_code 1 = .ok (.getfield 10, 3) := by decide +kernel
theorem d_F_frameAt_4 : decode prog_1_method_12_code 4 = .ok (.iload_n 1, 1) := by decide +kernel
theorem d_F_frameAt_5 : decode prog_1_method_12_code 5 = .ok (.invokevirtual 93, 3) := by decide +kernel
theorem d_F_frameAt_8 : decode prog_1_method_12_code 8 = .ok (.astore_n 3, 1) := by decide +kernel
theorem d_F_frameAt_9 : decode prog_1_method_12_code 9 = .ok (.aload_n 3, 1) := by decide +kernel
theorem d_F_frameAt_10 : decode prog_1_method_12_code 10 = .ok (.ifnull 16, 3) := by decide +kernel
theorem d_F_frameAt_26 : decode prog_1_method_12_code 26 = .ok (.new 204, 3) := by decide +kernel
theorem d_F_frameAt_29 : decode prog_1_method_12_code 29 = .ok (.dup, 1) := by decide +kernel
theorem d_F_frameAt_30 : decode prog_1_method_12_code 30 = .ok (.ldc 217, 2) := by decide +kernel
theorem d_F_frameAt_32 : decode prog_1_method_12_code 32 = .ok (.invokespecial 208, 3) := by decide +kernel
theorem d_F_frameAt_35 : decode prog_1_method_12_code 35 = .ok (.athrow, 1) := by decide +kernel
theorem d_F_handlerAt_0 : decode prog_1_method_13_code 0 = .ok (.aload_n 0, 1) := by decide +kernel
theorem d_F_handlerAt_1 : decode prog_1_method_13_code 1 = .ok (.getfield 10, 3) := by decide +kernel
theorem d_F_handlerAt_4 : decode prog_1_method_13_code 4 = .ok (.iload_n 1, 1) := by decide +kernel
theorem d_F_handlerAt_5 : decode prog_1_method_13_code 5 = .ok (.invokevirtual 93, 3) := by decide +kernel
theorem d_F_handlerAt_8 : decode prog_1_method_13_code 8 = .ok (.astore 4, 2) := by decide +kernel
theorem d_F_handlerAt_10 : decode prog_1_method_13_code 10 = .ok (.aload 4, 2) := by decide +kernel
theorem d_F_handlerAt_12 : decode prog_1_method_13_code 12 = .ok (.ifnull 28, 3) := by decide +kernel
theorem d_F_handlerAt_40 : decode prog_1_method_13_code 40 = .ok (.new 204, 3) := by decide +kernel
theorem d_F_handlerAt_43 : decode prog_1_method_13_code 43 = .ok (.dup, 1) := by decide +kernel
theorem d_F_handlerAt_44 : decode prog_1_method_13_code 44 = .ok (.ldc 219, 2) := by decide +kernel
theorem d_F_handlerAt_46 : decode prog_1_method_13_code 46 = .ok (.invokespecial 208, 3) := by decide +kernel
theorem d_F_handlerAt_49 : decode prog_1_method_13_code 49 = .ok (.athrow, 1) := by decide +kernel
theorem d_F_typeAt_0 : decode prog_1_method_14_code 0 = .ok (.aload_n 0, 1) := by decide +kernel
theorem d_F_typeAt_1 : decode prog_1_method_14_code 1 = .ok (.getfield 10, 3) := by decide +kernel
theorem d_F_typeAt_4 : decode prog_1_method_14_code 4 = .ok (.iload_n 1, 1) := by decide +kernel
theorem d_F_typeAt_5 : decode prog_1_method_14_code 5 = .ok (.invokevirtual 93, 3) := by decide +kernel
theorem d_F_typeAt_8 : decode prog_1_method_14_code 8 = .ok (.astore 4, 2) := by decide +kernel
theorem d_F_typeAt_10 : decode prog_1_method_14_code 10 = .ok (.aload 4, 2) := by decide +kernel
theorem d_F_typeAt_12 : decode prog_1_method_14_code 12 = .ok (.ifnonnull 7, 3) := by decide +kernel
theorem d_F_typeAt_15 : decode prog_1_method_14_code 15 = .ok (.aconst_null, 1) := by decide +kernel
theorem d_F_typeAt_16 : decode prog_1_method_14_code 16 = .ok (.goto 9, 3) := by decide +kernel
theorem d_F_typeAt_25 : decode prog_1_method_14_code 25 = .ok (.astore 5, 2) := by decide +kernel
theorem d_F_typeAt_27 : decode prog_1_method_14_code 27 = .ok (.aload 5, 2) := by decide +kernel
theorem d_F_typeAt_29 : decode prog_1_method_14_code 29 = .ok (.ifnull 7, 3) := by decide +kernel
theorem d_F_typeAt_36 : decode prog_1_method_14_code 36 = .ok (.new 204, 3) := by decide +kernel
theorem d_F_typeAt_39 : decode prog_1_method_14_code 39 = .ok (.dup, 1) := by decide +kernel
theorem d_F_typeAt_40 : decode prog_1_method_14_code 40 = .ok (.ldc 241, 2) := by decide +kernel
theorem d_F_typeAt_42 : decode prog_1_method_14_code 42 = .ok (.invokespecial 208, 3) := by decide +kernel
theorem d_F_typeAt_45 : decode prog_1_method_14_code 45 = .ok (.athrow, 1) := by decide +kernel
theorem d_F_run_0 : decode prog_1_method_15_code 0 = .ok (.aload_n 0, 1) := by decide +kernel
theorem d_F_run_1 : decode prog_1_method_15_code 1 = .ok (.getfield 10, 3) := by decide +kernel
theorem d_F_run_4 : decode prog_1_method_15_code 4 = .ok (.iload_n 1, 1) := by decide +kernel
theorem d_F_run_5 : decode prog_1_method_15_code 5 = .ok (.invokevirtual 93, 3) := by decide +kernel
theorem d_F_run_8 : decode prog_1_method_15_code 8 = .ok (.astore 7, 2) := by decide +kernel
theorem d_F_run_10 : decode prog_1_method_15_code 10 = .ok (.aload 7, 2) := by decide +kernel
theorem d_F_run_12 : decode prog_1_method_15_code 12 = .ok (.ifnull 33, 3) := by decide +kernel
theorem d_F_run_45 : decode prog_1_method_15_code 45 = .ok (.new 35, 3) := by decide +kernel
theorem d_F_run_48 : decode prog_1_method_15_code 48 = .ok (.dup, 1) := by decide +kernel
theorem d_F_run_49 : decode prog_1_method_15_code 49 = .ok (.ldc_w 261, 3) := by decide +kernel
theorem d_F_run_52 : decode prog_1_method_15_code 52 = .ok (.invokespecial 39, 3) := by decide +kernel
theorem d_F_run_55 : decode prog_1_method_15_code 55 = .ok (.athrow, 1) := by decide +kernel
theorem d_F_end_0 : decode prog_1_method_16_code 0 = .ok (.aload_n 0, 1) := by decide +kernel
theorem d_F_end_1 : decode prog_1_method_16_code 1 = .ok (.getfield 19, 3) := by decide +kernel
theorem d_F_end_4 : decode prog_1_method_16_code 4 = .ok (.getfield 275, 3) := by decide +kernel
theorem d_F_end_7 : decode prog_1_method_16_code 7 = .ok (.iconst (-1), 1) := by decide +kernel
theorem d_F_end_8 : decode prog_1_method_16_code 8 = .ok (.if_icmp .ne 5, 3) := by decide +kernel
theorem d_F_end_11 : decode prog_1_method_16_code 11 = .ok (.iconst (-1), 1) := by decide +kernel
theorem d_F_end_12 : decode prog_1_method_16_code 12 = .ok (.ireturn, 1) := by decide +kernel
theorem d_F_count_0 : decode prog_1_method_17_code 0 = .ok (.iload_n 1, 1) := by decide +kernel
theorem d_F_count_1 : decode prog_1_method_17_code 1 = .ok (.tableswitch 60 0 3 #[31, 39, 47, 55], 31) := by decide +kernel
theorem d_F_count_32 : decode prog_1_method_17_code 32 = .ok (.aload_n 0, 1) := by decide +kernel
theorem d_F_count_33 : decode prog_1_method_17_code 33 = .ok (.getfield 10, 3) := by decide +kernel
theorem d_F_count_36 : decode prog_1_method_17_code 36 = .ok (.getfield 42, 3) := by decide +kernel
theorem d_F_count_39 : decode prog_1_method_17_code 39 = .ok (.ireturn, 1) := by decide +kernel
theorem d_F_count_40 : decode prog_1_method_17_code 40 = .ok (.aload_n 0, 1) := by decide +kernel
theorem d_F_count_41 : decode prog_1_method_17_code 41 = .ok (.getfield 10, 3) := by decide +kernel
theorem d_F_count_44 : decode prog_1_method_17_code 44 = .ok (.getfield 64, 3) := by decide +kernel
theorem d_F_count_47 : decode prog_1_method_17_code 47 = .ok (.ireturn, 1) := by decide +kernel
theorem d_F_count_48 : decode prog_1_method_17_code 48 = .ok (.aload_n 0, 1) := by decide +kernel
theorem d_F_count_49 : decode prog_1_method_17_code 49 = .ok (.getfield 10, 3) := by decide +kernel
theorem d_F_count_52 : decode prog_1_method_17_code 52 = .ok (.getfield 85, 3) := by decide +kernel
theorem d_F_count_55 : decode prog_1_method_17_code 55 = .ok (.ireturn, 1) := by decide +kernel
theorem d_F_count_56 : decode prog_1_method_17_code 56 = .ok (.aload_n 0, 1) := by decide +kernel
theorem d_F_count_57 : decode prog_1_method_17_code 57 = .ok (.getfield 27, 3) := by decide +kernel
theorem d_F_count_60 : decode prog_1_method_17_code 60 = .ok (.ireturn, 1) := by decide +kernel
theorem d_F_count_61 : decode prog_1_method_17_code 61 = .ok (.iconst (-1), 1) := by decide +kernel
theorem d_F_count_62 : decode prog_1_method_17_code 62 = .ok (.ireturn, 1) := by decide +kernel

abbrev ws_k_F_cls (f w k tp wp wu wi wc wt wx wm : Nat) (kp ku ki : ClassId) (fp fu : Nat → Int32) : va_W := [(f, .inr (4, [.ref w, .ref k, .ref tp, .int 0])), (w, .inr (3, [.ref wp, .ref wu, .ref wi, .int 2, .ref wc, .ref wt, .ref wx, .int 0, .ref wm, .int 0])), (wp, .inl (kp, 16, .inl fp)), (wu, .inl (ku, 16, .inl fu)), (wi, .inl (ki, 16, .inl (fun _ => 0)))]
set_option maxHeartbeats 4000000 in
set_option maxRecDepth 100000 in
theorem k_F_cls (l : Launch) (hl9 : l.stackTraces = false) (dC : Nat → ClassId) (dI : Nat → Nat → Nat) (f w k tp wp wu wi wc wt wx wm : Nat) (kp ku ki : ClassId) (fp fu : Nat → Int32) (pr bz : Int32) (sz : Nat) : vx_Met l y_F_cls (Cond.code y_F_cls prog_1_method_2_code 3 (some .int) :: bigW) ({ frames := 6, cells := 1, slots := 6, locals := 82 } : Room) (va_Pc [.ref f, .int pr, .int bz] (fun U => U.heap.size = sz ∧ va_P (dC, dI) vwCl (ws_k_F_cls f w k tp wp wu wi wc wt wx wm kp ku ki fp fu) U.heap ∧ va_K (dC, dI) vwCl [(kp, .int), (ku, .int), (ki, .boolean)] U ∧ va_D (fun _ => True) (ws_k_F_cls f w k tp wp wu wi wc wt wx wm kp ku ki fp fu) ∧ exP (va_A (ws_k_F_cls f w k tp wp wu wi wc wt wx wm kp ku ki fp fu) sz) U)) (va_Qi (fun (r : Int32) (u : Unit) => okC pr bz ∧ r = 2) (fun _ _ => True) (va_A (ws_k_F_cls f w k tp wp wu wi wc wt wx wm kp ku ki fp fu) sz)) (vx_X (S := Unit) (fun _ => ¬ okC pr bz) (fun E _ _ => E = "java/lang/IllegalArgumentException") (va_A (ws_k_F_cls f w k tp wp wu wi wc wt wx wm kp ku ki fp fu) sz)) 1 6 (va_A (ws_k_F_cls f w k tp wp wu wi wc wt wx wm kp ku ki fp fu) sz) := by
  refine vx_ofW (cc := prog_1_method_2_code) (maxL := 3) (ret := (some .int)) (by decide) rfl ?_
  intro p e s m args below meth cx s₁ B hml hnoh hv
  obtain ⟨rfl, hsz, hP, hK, hD0, hex⟩ := hv
  have hx := B.exec
  have hb := B.bytes
  have hr := B.returns
  have hts := atoms_spec (ws := (Cond.code y_F_cls prog_1_method_2_code 3 (some .int) :: bigW)) B.pre
  have hsub : ∀ w ∈ bigW, w ∈ (Cond.code y_F_cls prog_1_method_2_code 3 (some .int) :: bigW) := fun w h => List.mem_cons_of_mem _ h
  have hown : s.vm.findClass "MapFramer" = some m.cls := findClass_of_methodNamed B.named
  have hlocks := B.notSynchronized
  subst hsz
  have hD := hD0.self (sz := s.heap.size)
  generalize hAe : va_A (ws_k_F_cls f w k tp wp wu wi wc wt wx wm kp ku ki fp fu) s.heap.size = A at hD hex ⊢
  have hA : ∀ q : Nat, s.heap.size ≤ q → A q := fun q h => by rw [← hAe]; exact Or.inr h
  have hS : va_S A s.heap s.heap [] := va_S.rf
  have hP : va_P (dC, dI) vwCl [(f, .inr (4, [.ref w, .ref k, .ref tp, .int 0])), (w, .inr (3, [.ref wp, .ref wu, .ref wi, .int 2, .ref wc, .ref wt, .ref wx, .int 0, .ref wm, .int 0])), (wp, .inl (kp, 16, .inl fp)), (wu, .inl (ku, 16, .inl fu)), (wi, .inl (ki, 16, .inl (fun _ => 0)))] s.heap := hP
  have hD : va_D A [(f, .inr (4, [.ref w, .ref k, .ref tp, .int 0])), (w, .inr (3, [.ref wp, .ref wu, .ref wi, .int 2, .ref wc, .ref wt, .ref wx, .int 0, .ref wm, .int 0])), (wp, .inl (kp, 16, .inl fp)), (wu, .inl (ku, 16, .inl fu)), (wi, .inl (ki, 16, .inl (fun _ => 0)))] := hD
  have hl := lv_entry ([.ref f, .int pr, .int bz]) (n := 3) (Nat.le_of_ble_eq_true rfl)
  rw [lg_entry_eq]
  generalize (lg_sl ([.ref f, .int pr, .int bz]) ++ List.replicate (3 - (lg_sl ([.ref f, .int pr, .int bz])).length) Slot.unset).toArray = ls at hl ⊢
  have hl : lv_has ls 3 [(0, .ref f), (1, .int pr), (2, .int bz)] := hl
  refine lv_iload_n hx hb d_F_cls_0 rfl (lv_at hl 2 rfl) ?_
  refine lv_if_ne (tgt := 25) hx hb d_F_cls_1 (by decide) (fun c_1 => ?_) (fun c_1 => ?_)
  · skip
    refine lv_aload_n hx hb d_F_cls_25 rfl (lv_at hl 0 rfl) ?_
    refine va_get (D := (dC, dI)) (ci := 4) (v := .ref w) (C := R_F) (T := T_F) (N := 4) hx hb hts (fun w h => hsub w (uw_F w h)) hown hK hP 0 rfl rfl 0 (by decide) (hts _ (hsub _ w_181)) (fun _ h9 => h9) rfl d_F_cls_26 ?_
    refine va_get (D := (dC, dI)) (ci := 3) (v := .int 2) (C := R_W) (T := T_W) (N := 10) hx hb hts (fun w h => hsub w (uw_W w h)) hown hK hP 1 rfl rfl 3 (by decide) (hts _ (hsub _ w_182)) (fun _ h9 => h9) rfl d_F_cls_29 ?_
    refine lv_bipush (v := 16) hx hb d_F_cls_32 (by decide) ?_
    refine lv_icmp_lt (tgt := 47) hx hb d_F_cls_34 (by decide) (fun c_2 => ?_) (fun c_2 => ?_)
    · skip
      refine lv_aload_n hx hb d_F_cls_47 rfl (lv_at hl 0 rfl) ?_
      refine va_get (D := (dC, dI)) (ci := 4) (v := .ref w) (C := R_F) (T := T_F) (N := 4) hx hb hts (fun w h => hsub w (uw_F w h)) hown hK hP 0 rfl rfl 0 (by decide) (hts _ (hsub _ w_181)) (fun _ h9 => h9) rfl d_F_cls_48 ?_
      refine lv_iload_n hx hb d_F_cls_51 rfl (lv_at hl 2 rfl) ?_
      refine lv_if_eq (tgt := 59) hx hb d_F_cls_52 (by decide) (fun c_3 => ?_) (fun c_3 => ?_)
      · skip
        first | exact absurd c_3 c_1 | exact absurd c_1 c_3
      · skip
        refine lv_iconst (v := 0) hx hb d_F_cls_55 (by decide) ?_
        refine lv_goto (tgt := 60) hx hb d_F_cls_56 (by decide) ?_
        refine lv_iload_n hx hb d_F_cls_60 rfl (lv_at hl 2 rfl) ?_
        have hPc := hP.sub (ws' := [(w, .inr (3, [.ref wp, .ref wu, .ref wi, .int 2, .ref wc, .ref wt, .ref wx, .int 0, .ref wm, .int 0])), (wp, .inl (kp, 16, .inl fp)), (wu, .inl (ku, 16, .inl fu)), (wi, .inl (ki, 16, .inl (fun _ => 0)))]) [1, 2, 3, 4] rfl
        have hKc := hK.sub (tys' := [(kp, .int), (ku, .int), (ki, .boolean)]) [0, 1, 2] rfl
        have hDc := hD.sub (ws' := [(w, .inr (3, [.ref wp, .ref wu, .ref wi, .int 2, .ref wc, .ref wt, .ref wx, .int 0, .ref wm, .int 0])), (wp, .inl (kp, 16, .inl fp)), (wu, .inl (ku, 16, .inl fu)), (wi, .inl (ki, 16, .inl (fun _ => 0)))]) [1, 2, 3, 4] (by decide) rfl
        have hFc := va_free (wc := [(w, .inr (3, [.ref wp, .ref wu, .ref wi, .int 2, .ref wc, .ref wt, .ref wx, .int 0, .ref wm, .int 0])), (wp, .inl (kp, 16, .inl fp)), (wu, .inl (ku, 16, .inl fu)), (wi, .inl (ki, 16, .inl (fun _ => 0)))]) hD hS hA [1, 2, 3, 4] rfl
        refine va_calli (va_runV (As := [.int 0, .int bz]) (rest := []) ⟨hx, hb, hml, hown, hts⟩ (k_W_addClass l dC dI w wp wu wi wc wt wx wm kp ku ki fp fu 0 bz hasC_0 s.heap.size) (cwV 2 hts (gV hsub w_183 w_184 w_185 w_4 w_186) rfl rfl rfl (by decide +kernel) ⟨Nat.le_of_ble_eq_true rfl, Nat.le_of_ble_eq_true rfl⟩) ⟨bl_1000, va_recv hKc hPc (ci := 3) (q0 := 0) rfl rfl, fun U hU hW => ⟨rfl, by rw [hU], by rw [hU]; exact hPc, va_K.moved hW.alike hKc, hDc.weaken (fun _ _ _ _ => trivial)⟩⟩ rfl rfl hl.1 rfl (lv_room (Nat.le_of_ble_eq_true rfl)) d_F_cls_61 ⟨Nat.le_of_ble_eq_true rfl, Nat.le_of_ble_eq_true rfl⟩) hS (fun q _ h => hFc q h) hFc (fun r_5 u_6 t H1 locs ht hvm hw hB hz1 hk1 hS => ?_)
        have hP1 : va_P (dC, dI) vwCl [] H1 := nil_P
        have hD1 : va_D (va_A [(w, .inr (3, [.ref wp, .ref wu, .ref wi, .int 2, .ref wc, .ref wt, .ref wx, .int 0, .ref wm, .int 0])), (wp, .inl (kp, 16, .inl fp)), (wu, .inl (ku, 16, .inl fu)), (wi, .inl (ki, 16, .inl (fun _ => 0)))] s.heap.size) [] := nil_D
        have hK1 : va_K (dC, dI) vwCl [] s := hK.sub (tys' := []) [] rfl
        obtain ⟨hP, hD⟩ := va_join (wr := [(f, .inr (4, [.ref w, .ref k, .ref tp, .int 0]))]) (w1 := []) hP hD [1, 2, 3, 4] [0] rfl rfl (by decide) (by decide) hk1 hFc hP1 hD1
        have hK := (hK.sub (tys' := [(kp, .int), (ku, .int), (ki, .boolean)]) [0, 1, 2] rfl).app hK1
        generalize H1 = H at hP hS ⊢
        have hP : va_P (dC, dI) vwCl [(f, .inr (4, [.ref w, .ref k, .ref tp, .int 0]))] H := hP
        have hD : va_D A [(f, .inr (4, [.ref w, .ref k, .ref tp, .int 0]))] := hD
        have hK : va_K (dC, dI) vwCl [(kp, .int), (ku, .int), (ki, .boolean)] s := hK
        refine W.widen (k := 0) (n := 0) (Nat.le_of_ble_eq_true rfl) (Nat.le_of_ble_eq_true rfl) ?_
        subst hw
        refine vx_ret ?_
        refine W.widen (k := 1) (n := 6) (Nat.le_of_ble_eq_true rfl) (Nat.le_of_ble_eq_true rfl) ?_
        exact W.iret (v := 2) hx hb hr (fun t ht hW => ⟨⟨2, (), rfl, ⟨Or.inl c_1, rfl⟩, trivial⟩, hS.F ht⟩) hS.2.2 d_F_cls_64
    · skip
      first | exact absurd c_2 (by decide) | exact absurd (by decide) c_2
  · skip
    refine lv_aload_n hx hb d_F_cls_4 rfl (lv_at hl 0 rfl) ?_
    refine va_get (D := (dC, dI)) (ci := 4) (v := .ref w) (C := R_F) (T := T_F) (N := 4) hx hb hts (fun w h => hsub w (uw_F w h)) hown hK hP 0 rfl rfl 0 (by decide) (hts _ (hsub _ w_181)) (fun _ h9 => h9) rfl d_F_cls_5 ?_
    refine lv_iload_n hx hb d_F_cls_8 rfl (lv_at hl 1 rfl) ?_
    have hPc := hP.sub (ws' := [(w, .inr (3, [.ref wp, .ref wu, .ref wi, .int 2, .ref wc, .ref wt, .ref wx, .int 0, .ref wm, .int 0])), (wi, .inl (ki, 16, .inl (fun _ => 0)))]) [1, 4] rfl
    have hKc := hK.sub (tys' := [(ki, .boolean)]) [2] rfl
    refine va_calli (va_runV (As := [.int pr]) (rest := []) ⟨hx, hb, hml, hown, hts⟩ (k_W_isProperClass l dC dI w wp wu wi wc wt wx wm ki pr) (cwV 1 hts (gV hsub w_187 w_188 w_189 w_4 w_190) rfl rfl rfl (by decide +kernel) ⟨Nat.le_of_ble_eq_true rfl, Nat.le_of_ble_eq_true rfl⟩) ⟨bl_0000, va_recv hKc hPc (ci := 3) (q0 := 0) rfl rfl, fun U hU hW => ⟨rfl, by rw [hU]; exact hPc, va_K.moved hW.alike hKc⟩⟩ rfl rfl hl.1 rfl (lv_room (Nat.le_of_ble_eq_true rfl)) d_F_cls_9 ⟨Nat.le_of_ble_eq_true rfl, Nat.le_of_ble_eq_true rfl⟩) hS (fun q _ h => h.elim) (fun q h => h.elim) (fun r_8 u_9 t H1 locs ht hvm hw hB hz1 hk1 hS => ?_)
    have hP := ro_keep hP hk1
    generalize H1 = H at hP hS ⊢
    refine W.widen (k := 0) (n := 0) (Nat.le_of_ble_eq_true rfl) (Nat.le_of_ble_eq_true rfl) ?_
    rcases hw with ⟨hr9, hw⟩ | ⟨hr9, hw⟩
    · subst hr9
      have p_10 := hw
      refine lv_if_ne (tgt := 25) hx hb d_F_cls_12 (by decide) (fun c_11 => ?_) (fun c_11 => ?_)
      · skip
        refine lv_aload_n hx hb d_F_cls_25 rfl (lv_at hl 0 rfl) ?_
        refine va_get (D := (dC, dI)) (ci := 4) (v := .ref w) (C := R_F) (T := T_F) (N := 4) hx hb hts (fun w h => hsub w (uw_F w h)) hown hK hP 0 rfl rfl 0 (by decide) (hts _ (hsub _ w_181)) (fun _ h9 => h9) rfl d_F_cls_26 ?_
        refine va_get (D := (dC, dI)) (ci := 3) (v := .int 2) (C := R_W) (T := T_W) (N := 10) hx hb hts (fun w h => hsub w (uw_W w h)) hown hK hP 1 rfl rfl 3 (by decide) (hts _ (hsub _ w_182)) (fun _ h9 => h9) rfl d_F_cls_29 ?_
        refine lv_bipush (v := 16) hx hb d_F_cls_32 (by decide) ?_
        refine lv_icmp_lt (tgt := 47) hx hb d_F_cls_34 (by decide) (fun c_12 => ?_) (fun c_12 => ?_)
        · skip
          refine lv_aload_n hx hb d_F_cls_47 rfl (lv_at hl 0 rfl) ?_
          refine va_get (D := (dC, dI)) (ci := 4) (v := .ref w) (C := R_F) (T := T_F) (N := 4) hx hb hts (fun w h => hsub w (uw_F w h)) hown hK hP 0 rfl rfl 0 (by decide) (hts _ (hsub _ w_181)) (fun _ h9 => h9) rfl d_F_cls_48 ?_
          refine lv_iload_n hx hb d_F_cls_51 rfl (lv_at hl 2 rfl) ?_
          refine lv_if_eq (tgt := 59) hx hb d_F_cls_52 (by decide) (fun c_13 => ?_) (fun c_13 => ?_)
          · skip
            refine lv_iload_n hx hb d_F_cls_59 rfl (lv_at hl 1 rfl) ?_
            refine lv_iload_n hx hb d_F_cls_60 rfl (lv_at hl 2 rfl) ?_
            have hPc := hP.sub (ws' := [(w, .inr (3, [.ref wp, .ref wu, .ref wi, .int 2, .ref wc, .ref wt, .ref wx, .int 0, .ref wm, .int 0])), (wp, .inl (kp, 16, .inl fp)), (wu, .inl (ku, 16, .inl fu)), (wi, .inl (ki, 16, .inl (fun _ => 0)))]) [1, 2, 3, 4] rfl
            have hKc := hK.sub (tys' := [(kp, .int), (ku, .int), (ki, .boolean)]) [0, 1, 2] rfl
            have hDc := hD.sub (ws' := [(w, .inr (3, [.ref wp, .ref wu, .ref wi, .int 2, .ref wc, .ref wt, .ref wx, .int 0, .ref wm, .int 0])), (wp, .inl (kp, 16, .inl fp)), (wu, .inl (ku, 16, .inl fu)), (wi, .inl (ki, 16, .inl (fun _ => 0)))]) [1, 2, 3, 4] (by decide) rfl
            have hFc := va_free (wc := [(w, .inr (3, [.ref wp, .ref wu, .ref wi, .int 2, .ref wc, .ref wt, .ref wx, .int 0, .ref wm, .int 0])), (wp, .inl (kp, 16, .inl fp)), (wu, .inl (ku, 16, .inl fu)), (wi, .inl (ki, 16, .inl (fun _ => 0)))]) hD hS hA [1, 2, 3, 4] rfl
            refine va_calli (va_runV (As := [.int pr, .int bz]) (rest := []) ⟨hx, hb, hml, hown, hts⟩ (k_W_addClass l dC dI w wp wu wi wc wt wx wm kp ku ki fp fu pr bz p_10 H.size) (cwV 2 hts (gV hsub w_183 w_184 w_185 w_4 w_186) rfl rfl rfl (by decide +kernel) ⟨Nat.le_of_ble_eq_true rfl, Nat.le_of_ble_eq_true rfl⟩) ⟨bl_1000, va_recv hKc hPc (ci := 3) (q0 := 0) rfl rfl, fun U hU hW => ⟨rfl, by rw [hU], by rw [hU]; exact hPc, va_K.moved hW.alike hKc, hDc.weaken (fun _ _ _ _ => trivial)⟩⟩ rfl rfl hl.1 rfl (lv_room (Nat.le_of_ble_eq_true rfl)) d_F_cls_61 ⟨Nat.le_of_ble_eq_true rfl, Nat.le_of_ble_eq_true rfl⟩) hS (fun q _ h => hFc q h) hFc (fun r_15 u_16 t H1 locs ht hvm hw hB hz1 hk1 hS => ?_)
            have hP1 : va_P (dC, dI) vwCl [] H1 := nil_P
            have hD1 : va_D (va_A [(w, .inr (3, [.ref wp, .ref wu, .ref wi, .int 2, .ref wc, .ref wt, .ref wx, .int 0, .ref wm, .int 0])), (wp, .inl (kp, 16, .inl fp)), (wu, .inl (ku, 16, .inl fu)), (wi, .inl (ki, 16, .inl (fun _ => 0)))] H.size) [] := nil_D
            have hK1 : va_K (dC, dI) vwCl [] s := hK.sub (tys' := []) [] rfl
            obtain ⟨hP, hD⟩ := va_join (wr := [(f, .inr (4, [.ref w, .ref k, .ref tp, .int 0]))]) (w1 := []) hP hD [1, 2, 3, 4] [0] rfl rfl (by decide) (by decide) hk1 hFc hP1 hD1
            have hK := (hK.sub (tys' := [(kp, .int), (ku, .int), (ki, .boolean)]) [0, 1, 2] rfl).app hK1
            generalize H1 = H at hP hS ⊢
            have hP : va_P (dC, dI) vwCl [(f, .inr (4, [.ref w, .ref k, .ref tp, .int 0]))] H := hP
            have hD : va_D A [(f, .inr (4, [.ref w, .ref k, .ref tp, .int 0]))] := hD
            have hK : va_K (dC, dI) vwCl [(kp, .int), (ku, .int), (ki, .boolean)] s := hK
            refine W.widen (k := 0) (n := 0) (Nat.le_of_ble_eq_true rfl) (Nat.le_of_ble_eq_true rfl) ?_
            subst hw
            refine vx_ret ?_
            refine W.widen (k := 1) (n := 6) (Nat.le_of_ble_eq_true rfl) (Nat.le_of_ble_eq_true rfl) ?_
            exact W.iret (v := 2) hx hb hr (fun t ht hW => ⟨⟨2, (), rfl, ⟨Or.inr p_10, rfl⟩, trivial⟩, hS.F ht⟩) hS.2.2 d_F_cls_64
          · skip
            first | exact absurd c_13 c_1 | exact absurd c_1 c_13
        · skip
          first | exact absurd c_12 (by decide) | exact absurd (by decide) c_12
      · skip
        first | exact absurd c_11 (by decide) | exact absurd (by decide) c_11
    · subst hr9
      have p_17 := hw
      refine lv_if_ne (tgt := 25) hx hb d_F_cls_12 (by decide) (fun c_18 => ?_) (fun c_18 => ?_)
      · skip
        first | exact absurd c_18 (by decide) | exact absurd (by decide) c_18
      · skip
        obtain ⟨sa, hsa⟩ := hex.2.2.2.2.1 (37, "no such class to be under") (by decide)
        exact vx_throwS (sa := sa) (names := ["java/lang/RuntimeException", "java/lang/Exception"]) hx hb hl9 hown (by decide +kernel) (by decide +kernel) (hts _ (hsub _ w_191)) (hts _ (hsub _ w_192)) hsa (xg_IllegalArgumentException_39_at hts hsub hex) xg_IllegalArgumentException_39_ot hex.1 hex.2.1 hS (hl.1.trans hml.symm) d_F_cls_15 d_F_cls_18 d_F_cls_19 d_F_cls_21 d_F_cls_24 (fun x hx9 => (hnoh x hx9).elim) (Nat.le_of_ble_eq_true rfl) (Nat.le_of_ble_eq_true rfl) (Nat.le_of_ble_eq_true rfl) (Nat.le_of_ble_eq_true rfl) hlocks (fun t hal hz hk => ⟨(), fun h => Or.elim h (fun h => h c_1) p_17, rfl, Nat.le_trans hS.1 hz, fun q h1 h2 => by rw [hk q (Nat.lt_of_lt_of_le h1 hS.1)]; exact hS.2.1 q h1 h2⟩) hS.2.2 (Nat.le_of_ble_eq_true rfl) (Nat.le_of_ble_eq_true rfl)

abbrev ws_k_F_field (f w k tp wp wu wi wc wt wx wm : Nat) (ki kc kt kx : ClassId) : va_W := [(f, .inr (4, [.ref w, .ref k, .ref tp, .int 0])), (w, .inr (3, [.ref wp, .ref wu, .ref wi, .int 2, .ref wc, .ref wt, .ref wx, .int 0, .ref wm, .int 0])), (wi, .inl (ki, 16, .inl (fun _ => 0))), (wc, .inl (kc, 16, .inl (fun _ => 0))), (wt, .inl (kt, 16, .inl (fun _ => 0))), (wx, .inl (kx, 16, .inl (fun _ => 0)))]
set_option maxHeartbeats 4000000 in
set_option maxRecDepth 100000 in
theorem k_F_field (l : Launch) (hl9 : l.stackTraces = false) (dC : Nat → ClassId) (dI : Nat → Nat → Nat) (f w k tp wp wu wi wc wt wx wm : Nat) (ki kc kt kx : ClassId) (ow ty bz : Int32) (sz : Nat) : vx_Met l y_F_field (Cond.code y_F_field prog_1_method_3_code 4 (some .int) :: bigW) ({ frames := 6, cells := 1, slots := 6, locals := 82 } : Room) (va_Pc [.ref f, .int ow, .int ty, .int bz] (fun U => U.heap.size = sz ∧ va_P (dC, dI) vwCl (ws_k_F_field f w k tp wp wu wi wc wt wx wm ki kc kt kx) U.heap ∧ va_K (dC, dI) vwCl [(ki, .boolean), (kc, .int), (kt, .int), (kx, .boolean)] U ∧ va_D (fun _ => True) (ws_k_F_field f w k tp wp wu wi wc wt wx wm ki kc kt kx) ∧ exP (va_A (ws_k_F_field f w k tp wp wu wi wc wt wx wm ki kc kt kx) sz) U)) (va_Qi (fun (r : Int32) (u : Unit) => okF ow ty bz ∧ r = 0) (fun _ _ => True) (va_A (ws_k_F_field f w k tp wp wu wi wc wt wx wm ki kc kt kx) sz)) (vx_X (S := Unit) (fun _ => ¬ okF ow ty bz) (fun E _ _ => E = "java/lang/IllegalArgumentException") (va_A (ws_k_F_field f w k tp wp wu wi wc wt wx wm ki kc kt kx) sz)) 1 6 (va_A (ws_k_F_field f w k tp wp wu wi wc wt wx wm ki kc kt kx) sz) := by
  refine vx_ofW (cc := prog_1_method_3_code) (maxL := 4) (ret := (some .int)) (by decide) rfl ?_
  intro p e s m args below meth cx s₁ B hml hnoh hv
  obtain ⟨rfl, hsz, hP, hK, hD0, hex⟩ := hv
  have hx := B.exec
  have hb := B.bytes
  have hr := B.returns
  have hts := atoms_spec (ws := (Cond.code y_F_field prog_1_method_3_code 4 (some .int) :: bigW)) B.pre
  have hsub : ∀ w ∈ bigW, w ∈ (Cond.code y_F_field prog_1_method_3_code 4 (some .int) :: bigW) := fun w h => List.mem_cons_of_mem _ h
  have hown : s.vm.findClass "MapFramer" = some m.cls := findClass_of_methodNamed B.named
  have hlocks := B.notSynchronized
  subst hsz
  have hD := hD0.self (sz := s.heap.size)
  generalize hAe : va_A (ws_k_F_field f w k tp wp wu wi wc wt wx wm ki kc kt kx) s.heap.size = A at hD hex ⊢
  have hA : ∀ q : Nat, s.heap.size ≤ q → A q := fun q h => by rw [← hAe]; exact Or.inr h
  have hS : va_S A s.heap s.heap [] := va_S.rf
  have hP : va_P (dC, dI) vwCl [(f, .inr (4, [.ref w, .ref k, .ref tp, .int 0])), (w, .inr (3, [.ref wp, .ref wu, .ref wi, .int 2, .ref wc, .ref wt, .ref wx, .int 0, .ref wm, .int 0])), (wi, .inl (ki, 16, .inl (fun _ => 0))), (wc, .inl (kc, 16, .inl (fun _ => 0))), (wt, .inl (kt, 16, .inl (fun _ => 0))), (wx, .inl (kx, 16, .inl (fun _ => 0)))] s.heap := hP
  have hD : va_D A [(f, .inr (4, [.ref w, .ref k, .ref tp, .int 0])), (w, .inr (3, [.ref wp, .ref wu, .ref wi, .int 2, .ref wc, .ref wt, .ref wx, .int 0, .ref wm, .int 0])), (wi, .inl (ki, 16, .inl (fun _ => 0))), (wc, .inl (kc, 16, .inl (fun _ => 0))), (wt, .inl (kt, 16, .inl (fun _ => 0))), (wx, .inl (kx, 16, .inl (fun _ => 0)))] := hD
  have hl := lv_entry ([.ref f, .int ow, .int ty, .int bz]) (n := 4) (Nat.le_of_ble_eq_true rfl)
  rw [lg_entry_eq]
  generalize (lg_sl ([.ref f, .int ow, .int ty, .int bz]) ++ List.replicate (4 - (lg_sl ([.ref f, .int ow, .int ty, .int bz])).length) Slot.unset).toArray = ls at hl ⊢
  have hl : lv_has ls 4 [(0, .ref f), (1, .int ow), (2, .int ty), (3, .int bz)] := hl
  refine lv_aload_n hx hb d_F_field_0 rfl (lv_at hl 0 rfl) ?_
  refine va_get (D := (dC, dI)) (ci := 4) (v := .ref w) (C := R_F) (T := T_F) (N := 4) hx hb hts (fun w h => hsub w (uw_F w h)) hown hK hP 0 rfl rfl 0 (by decide) (hts _ (hsub _ w_181)) (fun _ h9 => h9) rfl d_F_field_1 ?_
  refine lv_iload_n hx hb d_F_field_4 rfl (lv_at hl 1 rfl) ?_
  have hPc := hP.sub (ws' := [(w, .inr (3, [.ref wp, .ref wu, .ref wi, .int 2, .ref wc, .ref wt, .ref wx, .int 0, .ref wm, .int 0]))]) [1] rfl
  have hKc := hK.sub (tys' := []) [] rfl
  refine va_calli (va_runV (As := [.int ow]) (rest := []) ⟨hx, hb, hml, hown, hts⟩ (k_W_hasClass l dC dI w wp wu wi wc wt wx wm ow) (cwV 1 hts (gV hsub w_193 w_2 w_3 w_4 w_5) rfl rfl rfl (by decide +kernel) ⟨Nat.le_of_ble_eq_true rfl, Nat.le_of_ble_eq_true rfl⟩) ⟨bl_0000, va_recv hKc hPc (ci := 3) (q0 := 0) rfl rfl, fun U hU hW => ⟨rfl, by rw [hU]; exact hPc, va_K.moved hW.alike hKc⟩⟩ rfl rfl hl.1 rfl (lv_room (Nat.le_of_ble_eq_true rfl)) d_F_field_5 ⟨Nat.le_of_ble_eq_true rfl, Nat.le_of_ble_eq_true rfl⟩) hS (fun q _ h => h.elim) (fun q h => h.elim) (fun r_2 u_3 t H1 locs ht hvm hw hB hz1 hk1 hS => ?_)
  have hP := ro_keep hP hk1
  generalize H1 = H at hP hS ⊢
  refine W.widen (k := 0) (n := 0) (Nat.le_of_ble_eq_true rfl) (Nat.le_of_ble_eq_true rfl) ?_
  rcases hw with ⟨hr9, hw⟩ | ⟨hr9, hw⟩
  · subst hr9
    have p_4 := hw
    refine lv_if_eq (tgt := 22) hx hb d_F_field_8 (by decide) (fun c_5 => ?_) (fun c_5 => ?_)
    · skip
      first | exact absurd c_5 (by decide) | exact absurd (by decide) c_5
    · skip
      refine lv_aload_n hx hb d_F_field_11 rfl (lv_at hl 0 rfl) ?_
      refine va_get (D := (dC, dI)) (ci := 4) (v := .ref w) (C := R_F) (T := T_F) (N := 4) hx hb hts (fun w h => hsub w (uw_F w h)) hown hK hP 0 rfl rfl 0 (by decide) (hts _ (hsub _ w_181)) (fun _ h9 => h9) rfl d_F_field_12 ?_
      refine lv_iload_n hx hb d_F_field_15 rfl (lv_at hl 2 rfl) ?_
      have hPc := hP.sub (ws' := [(w, .inr (3, [.ref wp, .ref wu, .ref wi, .int 2, .ref wc, .ref wt, .ref wx, .int 0, .ref wm, .int 0]))]) [1] rfl
      have hKc := hK.sub (tys' := []) [] rfl
      refine va_calli (va_runV (As := [.int ty]) (rest := []) ⟨hx, hb, hml, hown, hts⟩ (k_W_isValueType l dC dI w wp wu wi wc wt wx wm ty) (cwV 1 hts (gV hsub w_194 w_195 w_196 w_4 w_197) rfl rfl rfl (by decide +kernel) ⟨Nat.le_of_ble_eq_true rfl, Nat.le_of_ble_eq_true rfl⟩) ⟨bl_0000, va_recv hKc hPc (ci := 3) (q0 := 0) rfl rfl, fun U hU hW => ⟨rfl, by rw [hU]; exact hPc, va_K.moved hW.alike hKc⟩⟩ rfl rfl hl.1 rfl (lv_room (Nat.le_of_ble_eq_true rfl)) d_F_field_16 ⟨Nat.le_of_ble_eq_true rfl, Nat.le_of_ble_eq_true rfl⟩) hS (fun q _ h => h.elim) (fun q h => h.elim) (fun r_7 u_8 t H1 locs ht hvm hw hB hz1 hk1 hS => ?_)
      have hP := ro_keep hP hk1
      generalize H1 = H at hP hS ⊢
      refine W.widen (k := 0) (n := 0) (Nat.le_of_ble_eq_true rfl) (Nat.le_of_ble_eq_true rfl) ?_
      rcases hw with ⟨hr9, hw⟩ | ⟨hr9, hw⟩
      · subst hr9
        have p_9 := hw
        refine lv_if_ne (tgt := 32) hx hb d_F_field_19 (by decide) (fun c_10 => ?_) (fun c_10 => ?_)
        · skip
          refine lv_iload_n hx hb d_F_field_32 rfl (lv_at hl 3 rfl) ?_
          refine lv_if_ne (tgt := 61) hx hb d_F_field_33 (by decide) (fun c_11 => ?_) (fun c_11 => ?_)
          · skip
            refine lv_aload_n hx hb d_F_field_61 rfl (lv_at hl 0 rfl) ?_
            refine va_get (D := (dC, dI)) (ci := 4) (v := .ref w) (C := R_F) (T := T_F) (N := 4) hx hb hts (fun w h => hsub w (uw_F w h)) hown hK hP 0 rfl rfl 0 (by decide) (hts _ (hsub _ w_181)) (fun _ h9 => h9) rfl d_F_field_62 ?_
            refine va_get (D := (dC, dI)) (ci := 3) (v := .int 0) (C := R_W) (T := T_W) (N := 10) hx hb hts (fun w h => hsub w (uw_W w h)) hown hK hP 1 rfl rfl 7 (by decide) (hts _ (hsub _ w_198)) (fun _ h9 => h9) rfl d_F_field_65 ?_
            refine lv_bipush (v := 16) hx hb d_F_field_68 (by decide) ?_
            refine lv_icmp_lt (tgt := 83) hx hb d_F_field_70 (by decide) (fun c_12 => ?_) (fun c_12 => ?_)
            · skip
              refine lv_aload_n hx hb d_F_field_83 rfl (lv_at hl 0 rfl) ?_
              refine va_get (D := (dC, dI)) (ci := 4) (v := .ref w) (C := R_F) (T := T_F) (N := 4) hx hb hts (fun w h => hsub w (uw_F w h)) hown hK hP 0 rfl rfl 0 (by decide) (hts _ (hsub _ w_181)) (fun _ h9 => h9) rfl d_F_field_84 ?_
              refine lv_iload_n hx hb d_F_field_87 rfl (lv_at hl 1 rfl) ?_
              refine lv_iload_n hx hb d_F_field_88 rfl (lv_at hl 2 rfl) ?_
              refine lv_iload_n hx hb d_F_field_89 rfl (lv_at hl 3 rfl) ?_
              have hPc := hP.sub (ws' := [(w, .inr (3, [.ref wp, .ref wu, .ref wi, .int 2, .ref wc, .ref wt, .ref wx, .int 0, .ref wm, .int 0])), (wc, .inl (kc, 16, .inl (fun _ => 0))), (wt, .inl (kt, 16, .inl (fun _ => 0))), (wx, .inl (kx, 16, .inl (fun _ => 0)))]) [1, 3, 4, 5] rfl
              have hKc := hK.sub (tys' := [(kc, .int), (kt, .int), (kx, .boolean)]) [1, 2, 3] rfl
              have hDc := hD.sub (ws' := [(w, .inr (3, [.ref wp, .ref wu, .ref wi, .int 2, .ref wc, .ref wt, .ref wx, .int 0, .ref wm, .int 0])), (wc, .inl (kc, 16, .inl (fun _ => 0))), (wt, .inl (kt, 16, .inl (fun _ => 0))), (wx, .inl (kx, 16, .inl (fun _ => 0)))]) [1, 3, 4, 5] (by decide) rfl
              have hFc := va_free (wc := [(w, .inr (3, [.ref wp, .ref wu, .ref wi, .int 2, .ref wc, .ref wt, .ref wx, .int 0, .ref wm, .int 0])), (wc, .inl (kc, 16, .inl (fun _ => 0))), (wt, .inl (kt, 16, .inl (fun _ => 0))), (wx, .inl (kx, 16, .inl (fun _ => 0)))]) hD hS hA [1, 3, 4, 5] rfl
              refine va_calli (va_runV (As := [.int ow, .int ty, .int bz]) (rest := []) ⟨hx, hb, hml, hown, hts⟩ (k_W_addField l dC dI w wp wu wi wc wt wx wm kc kt kx ow ty bz H.size) (cwV 3 hts (gV hsub w_199 w_200 w_201 w_4 w_202) rfl rfl rfl (by decide +kernel) ⟨Nat.le_of_ble_eq_true rfl, Nat.le_of_ble_eq_true rfl⟩) ⟨bl_1000, va_recv hKc hPc (ci := 3) (q0 := 0) rfl rfl, fun U hU hW => ⟨rfl, by rw [hU], by rw [hU]; exact hPc, va_K.moved hW.alike hKc, hDc.weaken (fun _ _ _ _ => trivial)⟩⟩ rfl rfl hl.1 rfl (lv_room (Nat.le_of_ble_eq_true rfl)) d_F_field_90 ⟨Nat.le_of_ble_eq_true rfl, Nat.le_of_ble_eq_true rfl⟩) hS (fun q _ h => hFc q h) hFc (fun r_14 u_15 t H1 locs ht hvm hw hB hz1 hk1 hS => ?_)
              have hP1 : va_P (dC, dI) vwCl [] H1 := nil_P
              have hD1 : va_D (va_A [(w, .inr (3, [.ref wp, .ref wu, .ref wi, .int 2, .ref wc, .ref wt, .ref wx, .int 0, .ref wm, .int 0])), (wc, .inl (kc, 16, .inl (fun _ => 0))), (wt, .inl (kt, 16, .inl (fun _ => 0))), (wx, .inl (kx, 16, .inl (fun _ => 0)))] H.size) [] := nil_D
              have hK1 : va_K (dC, dI) vwCl [] s := hK.sub (tys' := []) [] rfl
              obtain ⟨hP, hD⟩ := va_join (wr := [(f, .inr (4, [.ref w, .ref k, .ref tp, .int 0])), (wi, .inl (ki, 16, .inl (fun _ => 0)))]) (w1 := []) hP hD [1, 3, 4, 5] [0, 2] rfl rfl (by decide) (by decide) hk1 hFc hP1 hD1
              have hK := (hK.sub (tys' := [(ki, .boolean), (kc, .int), (kt, .int), (kx, .boolean)]) [0, 1, 2, 3] rfl).app hK1
              generalize H1 = H at hP hS ⊢
              have hP : va_P (dC, dI) vwCl [(f, .inr (4, [.ref w, .ref k, .ref tp, .int 0])), (wi, .inl (ki, 16, .inl (fun _ => 0)))] H := hP
              have hD : va_D A [(f, .inr (4, [.ref w, .ref k, .ref tp, .int 0])), (wi, .inl (ki, 16, .inl (fun _ => 0)))] := hD
              have hK : va_K (dC, dI) vwCl [(ki, .boolean), (kc, .int), (kt, .int), (kx, .boolean)] s := hK
              refine W.widen (k := 0) (n := 0) (Nat.le_of_ble_eq_true rfl) (Nat.le_of_ble_eq_true rfl) ?_
              subst hw
              refine vx_ret ?_
              refine W.widen (k := 1) (n := 6) (Nat.le_of_ble_eq_true rfl) (Nat.le_of_ble_eq_true rfl) ?_
              exact W.iret (v := 0) hx hb hr (fun t ht hW => ⟨⟨0, (), rfl, ⟨⟨p_4, p_9, Or.inl c_11⟩, rfl⟩, trivial⟩, hS.F ht⟩) hS.2.2 d_F_field_93
            · skip
              first | exact absurd c_12 (by decide) | exact absurd (by decide) c_12
          · skip
            refine lv_iload_n hx hb d_F_field_36 rfl (lv_at hl 1 rfl) ?_
            refine lv_if_eq (tgt := 51) hx hb d_F_field_37 (by decide) (fun c_16 => ?_) (fun c_16 => ?_)
            · skip
              obtain ⟨sa, hsa⟩ := hex.2.2.2.2.1 (62, "objects of this class have no fields") (by decide)
              exact vx_throwS (sa := sa) (names := ["java/lang/RuntimeException", "java/lang/Exception"]) hx hb hl9 hown (by decide +kernel) (by decide +kernel) (hts _ (hsub _ w_191)) (hts _ (hsub _ w_192)) hsa (xg_IllegalArgumentException_39_at hts hsub hex) xg_IllegalArgumentException_39_ot hex.1 hex.2.1 hS (hl.1.trans hml.symm) d_F_field_51 d_F_field_54 d_F_field_55 d_F_field_57 d_F_field_60 (fun x hx9 => (hnoh x hx9).elim) (Nat.le_of_ble_eq_true rfl) (Nat.le_of_ble_eq_true rfl) (Nat.le_of_ble_eq_true rfl) (Nat.le_of_ble_eq_true rfl) hlocks (fun t hal hz hk => ⟨(), fun h => Or.elim h.2.2 (fun h => h c_11) (fun h => h c_16), rfl, Nat.le_trans hS.1 hz, fun q h1 h2 => by rw [hk q (Nat.lt_of_lt_of_le h1 hS.1)]; exact hS.2.1 q h1 h2⟩) hS.2.2 (Nat.le_of_ble_eq_true rfl) (Nat.le_of_ble_eq_true rfl)
            · skip
              refine lv_aload_n hx hb d_F_field_40 rfl (lv_at hl 0 rfl) ?_
              refine va_get (D := (dC, dI)) (ci := 4) (v := .ref w) (C := R_F) (T := T_F) (N := 4) hx hb hts (fun w h => hsub w (uw_F w h)) hown hK hP 0 rfl rfl 0 (by decide) (hts _ (hsub _ w_181)) (fun _ h9 => h9) rfl d_F_field_41 ?_
              refine lv_iload_n hx hb d_F_field_44 rfl (lv_at hl 1 rfl) ?_
              have hPc := hP.sub (ws' := [(w, .inr (3, [.ref wp, .ref wu, .ref wi, .int 2, .ref wc, .ref wt, .ref wx, .int 0, .ref wm, .int 0])), (wi, .inl (ki, 16, .inl (fun _ => 0)))]) [1, 2] rfl
              have hKc := hK.sub (tys' := [(ki, .boolean)]) [0] rfl
              refine va_calli (va_runV (As := [.int ow]) (rest := []) ⟨hx, hb, hml, hown, hts⟩ (k_W_isProperClass l dC dI w wp wu wi wc wt wx wm ki ow) (cwV 1 hts (gV hsub w_187 w_188 w_189 w_4 w_190) rfl rfl rfl (by decide +kernel) ⟨Nat.le_of_ble_eq_true rfl, Nat.le_of_ble_eq_true rfl⟩) ⟨bl_0000, va_recv hKc hPc (ci := 3) (q0 := 0) rfl rfl, fun U hU hW => ⟨rfl, by rw [hU]; exact hPc, va_K.moved hW.alike hKc⟩⟩ rfl rfl hl.1 rfl (lv_room (Nat.le_of_ble_eq_true rfl)) d_F_field_45 ⟨Nat.le_of_ble_eq_true rfl, Nat.le_of_ble_eq_true rfl⟩) hS (fun q _ h => h.elim) (fun q h => h.elim) (fun r_18 u_19 t H1 locs ht hvm hw hB hz1 hk1 hS => ?_)
              have hP := ro_keep hP hk1
              generalize H1 = H at hP hS ⊢
              refine W.widen (k := 0) (n := 0) (Nat.le_of_ble_eq_true rfl) (Nat.le_of_ble_eq_true rfl) ?_
              rcases hw with ⟨hr9, hw⟩ | ⟨hr9, hw⟩
              · subst hr9
                have p_20 := hw
                refine lv_if_ne (tgt := 61) hx hb d_F_field_48 (by decide) (fun c_21 => ?_) (fun c_21 => ?_)
                · skip
                  refine lv_aload_n hx hb d_F_field_61 rfl (lv_at hl 0 rfl) ?_
                  refine va_get (D := (dC, dI)) (ci := 4) (v := .ref w) (C := R_F) (T := T_F) (N := 4) hx hb hts (fun w h => hsub w (uw_F w h)) hown hK hP 0 rfl rfl 0 (by decide) (hts _ (hsub _ w_181)) (fun _ h9 => h9) rfl d_F_field_62 ?_
                  refine va_get (D := (dC, dI)) (ci := 3) (v := .int 0) (C := R_W) (T := T_W) (N := 10) hx hb hts (fun w h => hsub w (uw_W w h)) hown hK hP 1 rfl rfl 7 (by decide) (hts _ (hsub _ w_198)) (fun _ h9 => h9) rfl d_F_field_65 ?_
                  refine lv_bipush (v := 16) hx hb d_F_field_68 (by decide) ?_
                  refine lv_icmp_lt (tgt := 83) hx hb d_F_field_70 (by decide) (fun c_22 => ?_) (fun c_22 => ?_)
                  · skip
                    refine lv_aload_n hx hb d_F_field_83 rfl (lv_at hl 0 rfl) ?_
                    refine va_get (D := (dC, dI)) (ci := 4) (v := .ref w) (C := R_F) (T := T_F) (N := 4) hx hb hts (fun w h => hsub w (uw_F w h)) hown hK hP 0 rfl rfl 0 (by decide) (hts _ (hsub _ w_181)) (fun _ h9 => h9) rfl d_F_field_84 ?_
                    refine lv_iload_n hx hb d_F_field_87 rfl (lv_at hl 1 rfl) ?_
                    refine lv_iload_n hx hb d_F_field_88 rfl (lv_at hl 2 rfl) ?_
                    refine lv_iload_n hx hb d_F_field_89 rfl (lv_at hl 3 rfl) ?_
                    have hPc := hP.sub (ws' := [(w, .inr (3, [.ref wp, .ref wu, .ref wi, .int 2, .ref wc, .ref wt, .ref wx, .int 0, .ref wm, .int 0])), (wc, .inl (kc, 16, .inl (fun _ => 0))), (wt, .inl (kt, 16, .inl (fun _ => 0))), (wx, .inl (kx, 16, .inl (fun _ => 0)))]) [1, 3, 4, 5] rfl
                    have hKc := hK.sub (tys' := [(kc, .int), (kt, .int), (kx, .boolean)]) [1, 2, 3] rfl
                    have hDc := hD.sub (ws' := [(w, .inr (3, [.ref wp, .ref wu, .ref wi, .int 2, .ref wc, .ref wt, .ref wx, .int 0, .ref wm, .int 0])), (wc, .inl (kc, 16, .inl (fun _ => 0))), (wt, .inl (kt, 16, .inl (fun _ => 0))), (wx, .inl (kx, 16, .inl (fun _ => 0)))]) [1, 3, 4, 5] (by decide) rfl
                    have hFc := va_free (wc := [(w, .inr (3, [.ref wp, .ref wu, .ref wi, .int 2, .ref wc, .ref wt, .ref wx, .int 0, .ref wm, .int 0])), (wc, .inl (kc, 16, .inl (fun _ => 0))), (wt, .inl (kt, 16, .inl (fun _ => 0))), (wx, .inl (kx, 16, .inl (fun _ => 0)))]) hD hS hA [1, 3, 4, 5] rfl
                    refine va_calli (va_runV (As := [.int ow, .int ty, .int bz]) (rest := []) ⟨hx, hb, hml, hown, hts⟩ (k_W_addField l dC dI w wp wu wi wc wt wx wm kc kt kx ow ty bz H.size) (cwV 3 hts (gV hsub w_199 w_200 w_201 w_4 w_202) rfl rfl rfl (by decide +kernel) ⟨Nat.le_of_ble_eq_true rfl, Nat.le_of_ble_eq_true rfl⟩) ⟨bl_1000, va_recv hKc hPc (ci := 3) (q0 := 0) rfl rfl, fun U hU hW => ⟨rfl, by rw [hU], by rw [hU]; exact hPc, va_K.moved hW.alike hKc, hDc.weaken (fun _ _ _ _ => trivial)⟩⟩ rfl rfl hl.1 rfl (lv_room (Nat.le_of_ble_eq_true rfl)) d_F_field_90 ⟨Nat.le_of_ble_eq_true rfl, Nat.le_of_ble_eq_true rfl⟩) hS (fun q _ h => hFc q h) hFc (fun r_24 u_25 t H1 locs ht hvm hw hB hz1 hk1 hS => ?_)
                    have hP1 : va_P (dC, dI) vwCl [] H1 := nil_P
                    have hD1 : va_D (va_A [(w, .inr (3, [.ref wp, .ref wu, .ref wi, .int 2, .ref wc, .ref wt, .ref wx, .int 0, .ref wm, .int 0])), (wc, .inl (kc, 16, .inl (fun _ => 0))), (wt, .inl (kt, 16, .inl (fun _ => 0))), (wx, .inl (kx, 16, .inl (fun _ => 0)))] H.size) [] := nil_D
                    have hK1 : va_K (dC, dI) vwCl [] s := hK.sub (tys' := []) [] rfl
                    obtain ⟨hP, hD⟩ := va_join (wr := [(f, .inr (4, [.ref w, .ref k, .ref tp, .int 0])), (wi, .inl (ki, 16, .inl (fun _ => 0)))]) (w1 := []) hP hD [1, 3, 4, 5] [0, 2] rfl rfl (by decide) (by decide) hk1 hFc hP1 hD1
                    have hK := (hK.sub (tys' := [(ki, .boolean), (kc, .int), (kt, .int), (kx, .boolean)]) [0, 1, 2, 3] rfl).app hK1
                    generalize H1 = H at hP hS ⊢
                    have hP : va_P (dC, dI) vwCl [(f, .inr (4, [.ref w, .ref k, .ref tp, .int 0])), (wi, .inl (ki, 16, .inl (fun _ => 0)))] H := hP
                    have hD : va_D A [(f, .inr (4, [.ref w, .ref k, .ref tp, .int 0])), (wi, .inl (ki, 16, .inl (fun _ => 0)))] := hD
                    have hK : va_K (dC, dI) vwCl [(ki, .boolean), (kc, .int), (kt, .int), (kx, .boolean)] s := hK
                    refine W.widen (k := 0) (n := 0) (Nat.le_of_ble_eq_true rfl) (Nat.le_of_ble_eq_true rfl) ?_
                    subst hw
                    refine vx_ret ?_
                    refine W.widen (k := 1) (n := 6) (Nat.le_of_ble_eq_true rfl) (Nat.le_of_ble_eq_true rfl) ?_
                    exact W.iret (v := 0) hx hb hr (fun t ht hW => ⟨⟨0, (), rfl, ⟨⟨p_20, p_9, Or.inr c_16⟩, rfl⟩, trivial⟩, hS.F ht⟩) hS.2.2 d_F_field_93
                  · skip
                    first | exact absurd c_22 (by decide) | exact absurd (by decide) c_22
                · skip
                  first | exact absurd c_21 (by decide) | exact absurd (by decide) c_21
              · subst hr9
                have p_26 := hw
                first | exact absurd p_26 p_4 | exact absurd p_4 p_26
        · skip
          first | exact absurd c_10 (by decide) | exact absurd (by decide) c_10
      · subst hr9
        have p_27 := hw
        refine lv_if_ne (tgt := 32) hx hb d_F_field_19 (by decide) (fun c_28 => ?_) (fun c_28 => ?_)
        · skip
          first | exact absurd c_28 (by decide) | exact absurd (by decide) c_28
        · skip
          obtain ⟨sa, hsa⟩ := hex.2.2.2.2.1 (60, "no such class or type") (by decide)
          exact vx_throwS (sa := sa) (names := ["java/lang/RuntimeException", "java/lang/Exception"]) hx hb hl9 hown (by decide +kernel) (by decide +kernel) (hts _ (hsub _ w_191)) (hts _ (hsub _ w_192)) hsa (xg_IllegalArgumentException_39_at hts hsub hex) xg_IllegalArgumentException_39_ot hex.1 hex.2.1 hS (hl.1.trans hml.symm) d_F_field_22 d_F_field_25 d_F_field_26 d_F_field_28 d_F_field_31 (fun x hx9 => (hnoh x hx9).elim) (Nat.le_of_ble_eq_true rfl) (Nat.le_of_ble_eq_true rfl) (Nat.le_of_ble_eq_true rfl) (Nat.le_of_ble_eq_true rfl) hlocks (fun t hal hz hk => ⟨(), fun h => p_27 h.2.1, rfl, Nat.le_trans hS.1 hz, fun q h1 h2 => by rw [hk q (Nat.lt_of_lt_of_le h1 hS.1)]; exact hS.2.1 q h1 h2⟩) hS.2.2 (Nat.le_of_ble_eq_true rfl) (Nat.le_of_ble_eq_true rfl)
  · subst hr9
    have p_29 := hw
    refine lv_if_eq (tgt := 22) hx hb d_F_field_8 (by decide) (fun c_30 => ?_) (fun c_30 => ?_)
    · skip
      obtain ⟨sa, hsa⟩ := hex.2.2.2.2.1 (60, "no such class or type") (by decide)
      exact vx_throwS (sa := sa) (names := ["java/lang/RuntimeException", "java/lang/Exception"]) hx hb hl9 hown (by decide +kernel) (by decide +kernel) (hts _ (hsub _ w_191)) (hts _ (hsub _ w_192)) hsa (xg_IllegalArgumentException_39_at hts hsub hex) xg_IllegalArgumentException_39_ot hex.1 hex.2.1 hS (hl.1.trans hml.symm) d_F_field_22 d_F_field_25 d_F_field_26 d_F_field_28 d_F_field_31 (fun x hx9 => (hnoh x hx9).elim) (Nat.le_of_ble_eq_true rfl) (Nat.le_of_ble_eq_true rfl) (Nat.le_of_ble_eq_true rfl) (Nat.le_of_ble_eq_true rfl) hlocks (fun t hal hz hk => ⟨(), fun h => p_29 h.1, rfl, Nat.le_trans hS.1 hz, fun q h1 h2 => by rw [hk q (Nat.lt_of_lt_of_le h1 hS.1)]; exact hS.2.1 q h1 h2⟩) hS.2.2 (Nat.le_of_ble_eq_true rfl) (Nat.le_of_ble_eq_true rfl)
    · skip
      first | exact absurd c_30 (by decide) | exact absurd (by decide) c_30

abbrev ws_k_F_method (f w k tp wp wu wi wc wt wx wm : Nat) (km : ClassId) (fm : Nat → Option Nat) : va_W := [(f, .inr (4, [.ref w, .ref k, .ref tp, .int 0])), (w, .inr (3, [.ref wp, .ref wu, .ref wi, .int 2, .ref wc, .ref wt, .ref wx, .int 0, .ref wm, .int 0])), (wm, .inl (km, 8, .inr (.inr (.inr (.inr fm)))))]
set_option maxHeartbeats 4000000 in
set_option maxRecDepth 100000 in
theorem k_F_method (l : Launch) (hl9 : l.stackTraces = false) (dC : Nat → ClassId) (dI : Nat → Nat → Nat) (f w k tp wp wu wi wc wt wx wm : Nat) (km : ClassId) (fm : Nat → Option Nat) (pk rs : Int32) (sz : Nat) : vx_Met l y_F_method (Cond.code y_F_method prog_1_method_4_code 5 (some .int) :: bigW) ({ frames := 6, cells := 6, slots := 20, locals := 118 } : Room) (va_Pc [.ref f, .int pk, .int rs] (fun U => U.heap.size = sz ∧ va_P (dC, dI) vwCl (ws_k_F_method f w k tp wp wu wi wc wt wx wm km fm) U.heap ∧ va_K (dC, dI) vwCl [(km, .object "MapFramer$Method")] U ∧ va_D (fun _ => True) (ws_k_F_method f w k tp wp wu wi wc wt wx wm km fm) ∧ exP (va_A (ws_k_F_method f w k tp wp wu wi wc wt wx wm km fm) sz) U)) (va_Qi (fun (r : Int32) (u : Unit) => okM pk rs ∧ r = 0) (fun _ _ => True) (va_A (ws_k_F_method f w k tp wp wu wi wc wt wx wm km fm) sz)) (vx_X (S := Unit) (fun _ => ¬ okM pk rs) (fun E _ _ => E = "java/lang/IllegalArgumentException") (va_A (ws_k_F_method f w k tp wp wu wi wc wt wx wm km fm) sz)) 6 20 (va_A (ws_k_F_method f w k tp wp wu wi wc wt wx wm km fm) sz) := by
  refine vx_ofW (cc := prog_1_method_4_code) (maxL := 5) (ret := (some .int)) (by decide) rfl ?_
  intro p e s m args below meth cx s₁ B hml hnoh hv
  obtain ⟨rfl, hsz, hP, hK, hD0, hex⟩ := hv
  have hx := B.exec
  have hb := B.bytes
  have hr := B.returns
  have hts := atoms_spec (ws := (Cond.code y_F_method prog_1_method_4_code 5 (some .int) :: bigW)) B.pre
  have hsub : ∀ w ∈ bigW, w ∈ (Cond.code y_F_method prog_1_method_4_code 5 (some .int) :: bigW) := fun w h => List.mem_cons_of_mem _ h
  have hown : s.vm.findClass "MapFramer" = some m.cls := findClass_of_methodNamed B.named
  have hlocks := B.notSynchronized
  subst hsz
  have hD := hD0.self (sz := s.heap.size)
  generalize hAe : va_A (ws_k_F_method f w k tp wp wu wi wc wt wx wm km fm) s.heap.size = A at hD hex ⊢
  have hA : ∀ q : Nat, s.heap.size ≤ q → A q := fun q h => by rw [← hAe]; exact Or.inr h
  have hS : va_S A s.heap s.heap [] := va_S.rf
  have hP : va_P (dC, dI) vwCl [(f, .inr (4, [.ref w, .ref k, .ref tp, .int 0])), (w, .inr (3, [.ref wp, .ref wu, .ref wi, .int 2, .ref wc, .ref wt, .ref wx, .int 0, .ref wm, .int 0])), (wm, .inl (km, 8, .inr (.inr (.inr (.inr fm)))))] s.heap := hP
  have hD : va_D A [(f, .inr (4, [.ref w, .ref k, .ref tp, .int 0])), (w, .inr (3, [.ref wp, .ref wu, .ref wi, .int 2, .ref wc, .ref wt, .ref wx, .int 0, .ref wm, .int 0])), (wm, .inl (km, 8, .inr (.inr (.inr (.inr fm)))))] := hD
  have hl := lv_entry ([.ref f, .int pk, .int rs]) (n := 5) (Nat.le_of_ble_eq_true rfl)
  rw [lg_entry_eq]
  generalize (lg_sl ([.ref f, .int pk, .int rs]) ++ List.replicate (5 - (lg_sl ([.ref f, .int pk, .int rs])).length) Slot.unset).toArray = ls at hl ⊢
  have hl : lv_has ls 5 [(0, .ref f), (1, .int pk), (2, .int rs)] := hl
  refine lv_iload_n hx hb d_F_method_0 rfl (lv_at hl 1 rfl) ?_
  have hPc := hP.sub (ws' := []) [] rfl
  have hKc := hK.sub (tys' := []) [] rfl
  refine va_calli (va_runS (As := [.int pk]) (rest := []) ⟨hx, hb, hml, hown, hts⟩ (k_W_argumentCount l dC dI pk) (va_cwS 1 hts (gS hsub w_203 w_172 w_4 w_173) rfl rfl rfl (by decide +kernel) ⟨Nat.le_of_ble_eq_true rfl, Nat.le_of_ble_eq_true rfl⟩) ⟨bl_0000, fun U hU hW => ⟨rfl, by rw [hU]; exact hPc, va_K.moved hW.alike hKc⟩⟩ rfl rfl hl.1 rfl (lv_room (Nat.le_of_ble_eq_true rfl)) d_F_method_1 ⟨Nat.le_of_ble_eq_true rfl, Nat.le_of_ble_eq_true rfl⟩) hS (fun q _ h => h.elim) (fun q h => h.elim) (fun r_2 u_3 t H1 locs ht hvm hw hB hz1 hk1 hS => ?_)
  have hP := ro_keep hP hk1
  generalize H1 = H at hP hS ⊢
  refine W.widen (k := 0) (n := 0) (Nat.le_of_ble_eq_true rfl) (Nat.le_of_ble_eq_true rfl) ?_
  rcases argI_cases pk with ⟨hn, g0⟩ | ⟨hn, g0, g1⟩ | ⟨hn, g0, g1, g2⟩ | ⟨hn, g0, g1, g2, g3⟩ | ⟨hn, g0, g1, g2, g3⟩
  · obtain rfl : r_2 = 0 := hw.trans hn
    refine lv_istore_n (lv' := [(3, .int 0), (0, .ref f), (1, .int pk), (2, .int rs)]) hx hb d_F_method_4 rfl hl (by decide) rfl (fun ls hl => ?_)
    refine lv_iconst (v := 0) hx hb d_F_method_5 (by decide) ?_
    refine lv_istore (lv' := [(4, .int 0), (3, .int 0), (0, .ref f), (1, .int pk), (2, .int rs)]) hx hb d_F_method_6 hl (by decide) rfl (fun ls hl => ?_)
    refine lv_iload hx hb d_F_method_8 (lv_at hl 0 rfl) ?_
    refine lv_iload_n hx hb d_F_method_10 rfl (lv_at hl 1 rfl) ?_
    refine lv_icmp_ge (tgt := 46) hx hb d_F_method_11 (by decide) (fun c_4 => ?_) (fun c_4 => ?_)
    · skip
      refine lv_iload_n hx hb d_F_method_46 rfl (lv_at hl 4 rfl) ?_
      refine lv_if_eq (tgt := 71) hx hb d_F_method_47 (by decide) (fun c_5 => ?_) (fun c_5 => ?_)
      · skip
        refine lv_aload_n hx hb d_F_method_71 rfl (lv_at hl 2 rfl) ?_
        refine va_get (D := (dC, dI)) (ci := 4) (v := .ref w) (C := R_F) (T := T_F) (N := 4) hx hb hts (fun w h => hsub w (uw_F w h)) hown hK hP 0 rfl rfl 0 (by decide) (hts _ (hsub _ w_181)) (fun _ h9 => h9) rfl d_F_method_72 ?_
        refine va_get (D := (dC, dI)) (ci := 3) (v := .int 0) (C := R_W) (T := T_W) (N := 10) hx hb hts (fun w h => hsub w (uw_W w h)) hown hK hP 1 rfl rfl 9 (by decide) (hts _ (hsub _ w_204)) (fun _ h9 => h9) rfl d_F_method_75 ?_
        refine lv_bipush (v := 8) hx hb d_F_method_78 (by decide) ?_
        refine lv_icmp_lt (tgt := 93) hx hb d_F_method_80 (by decide) (fun c_6 => ?_) (fun c_6 => ?_)
        · skip
          refine lv_aload_n hx hb d_F_method_93 rfl (lv_at hl 2 rfl) ?_
          refine va_get (D := (dC, dI)) (ci := 4) (v := .ref w) (C := R_F) (T := T_F) (N := 4) hx hb hts (fun w h => hsub w (uw_F w h)) hown hK hP 0 rfl rfl 0 (by decide) (hts _ (hsub _ w_181)) (fun _ h9 => h9) rfl d_F_method_94 ?_
          refine lv_iload_n hx hb d_F_method_97 rfl (lv_at hl 3 rfl) ?_
          refine lv_iload_n hx hb d_F_method_98 rfl (lv_at hl 4 rfl) ?_
          have hPc := hP.sub (ws' := [(w, .inr (3, [.ref wp, .ref wu, .ref wi, .int 2, .ref wc, .ref wt, .ref wx, .int 0, .ref wm, .int 0])), (wm, .inl (km, 8, .inr (.inr (.inr (.inr fm)))))]) [1, 2] rfl
          have hKc := hK.sub (tys' := [(km, .object "MapFramer$Method")]) [0] rfl
          have hDc := hD.sub (ws' := [(w, .inr (3, [.ref wp, .ref wu, .ref wi, .int 2, .ref wc, .ref wt, .ref wx, .int 0, .ref wm, .int 0])), (wm, .inl (km, 8, .inr (.inr (.inr (.inr fm)))))]) [1, 2] (by decide) rfl
          have hFc := va_free (wc := [(w, .inr (3, [.ref wp, .ref wu, .ref wi, .int 2, .ref wc, .ref wt, .ref wx, .int 0, .ref wm, .int 0])), (wm, .inl (km, 8, .inr (.inr (.inr (.inr fm)))))]) hD hS hA [1, 2] rfl
          refine va_calli (va_runV (As := [.int pk, .int rs]) (rest := []) ⟨hx, hb, hml, hown, hts⟩ (k_W_addMethod l dC dI w wp wu wi wc wt wx wm km fm pk rs H.size) (cwV 2 hts (gV hsub w_205 w_206 w_207 w_4 w_208) rfl rfl rfl (by decide +kernel) ⟨Nat.le_of_ble_eq_true rfl, Nat.le_of_ble_eq_true rfl⟩) ⟨bl_1010, va_recv hKc hPc (ci := 3) (q0 := 0) rfl rfl, fun U hU hW => ⟨rfl, by rw [hU], by rw [hU]; exact hPc, va_K.moved hW.alike hKc, hDc.weaken (fun _ _ _ _ => trivial), exP_go hex hS (fun q h => hFc q h) U hU hW⟩⟩ rfl rfl hl.1 rfl (lv_room (Nat.le_of_ble_eq_true rfl)) d_F_method_99 ⟨Nat.le_of_ble_eq_true rfl, Nat.le_of_ble_eq_true rfl⟩) hS (fun q _ h => hFc q h) hFc (fun r_8 u_9 t H1 locs ht hvm hw hB hz1 hk1 hS => ?_)
          have hP1 : va_P (dC, dI) vwCl [] H1 := nil_P
          have hD1 : va_D (va_A [(w, .inr (3, [.ref wp, .ref wu, .ref wi, .int 2, .ref wc, .ref wt, .ref wx, .int 0, .ref wm, .int 0])), (wm, .inl (km, 8, .inr (.inr (.inr (.inr fm)))))] H.size) [] := nil_D
          have hK1 : va_K (dC, dI) vwCl [] s := hK.sub (tys' := []) [] rfl
          obtain ⟨hP, hD⟩ := va_join (wr := [(f, .inr (4, [.ref w, .ref k, .ref tp, .int 0]))]) (w1 := []) hP hD [1, 2] [0] rfl rfl (by decide) (by decide) hk1 hFc hP1 hD1
          have hK := (hK.sub (tys' := [(km, .object "MapFramer$Method")]) [0] rfl).app hK1
          generalize H1 = H at hP hS ⊢
          have hP : va_P (dC, dI) vwCl [(f, .inr (4, [.ref w, .ref k, .ref tp, .int 0]))] H := hP
          have hD : va_D A [(f, .inr (4, [.ref w, .ref k, .ref tp, .int 0]))] := hD
          have hK : va_K (dC, dI) vwCl [(km, .object "MapFramer$Method")] s := hK
          refine W.widen (k := 6) (n := 20) (Nat.le_of_ble_eq_true rfl) (Nat.le_of_ble_eq_true rfl) ?_
          subst hw
          refine vx_ret ?_
          refine W.widen (k := 6) (n := 20) (Nat.le_of_ble_eq_true rfl) (Nat.le_of_ble_eq_true rfl) ?_
          exact W.iret (v := 0) hx hb hr (fun t ht hW => ⟨⟨0, (), rfl, ⟨⟨by simp [okA, g0, c_5], Or.inl c_5⟩, rfl⟩, trivial⟩, hS.F ht⟩) hS.2.2 d_F_method_102
        · skip
          first | exact absurd c_6 (by decide) | exact absurd (by decide) c_6
      · skip
        refine lv_aload_n hx hb d_F_method_50 rfl (lv_at hl 2 rfl) ?_
        refine va_get (D := (dC, dI)) (ci := 4) (v := .ref w) (C := R_F) (T := T_F) (N := 4) hx hb hts (fun w h => hsub w (uw_F w h)) hown hK hP 0 rfl rfl 0 (by decide) (hts _ (hsub _ w_181)) (fun _ h9 => h9) rfl d_F_method_51 ?_
        refine lv_iload_n hx hb d_F_method_54 rfl (lv_at hl 4 rfl) ?_
        have hPc := hP.sub (ws' := [(w, .inr (3, [.ref wp, .ref wu, .ref wi, .int 2, .ref wc, .ref wt, .ref wx, .int 0, .ref wm, .int 0]))]) [1] rfl
        have hKc := hK.sub (tys' := []) [] rfl
        refine va_calli (va_runV (As := [.int rs]) (rest := []) ⟨hx, hb, hml, hown, hts⟩ (k_W_isValueType l dC dI w wp wu wi wc wt wx wm rs) (cwV 1 hts (gV hsub w_194 w_195 w_196 w_4 w_197) rfl rfl rfl (by decide +kernel) ⟨Nat.le_of_ble_eq_true rfl, Nat.le_of_ble_eq_true rfl⟩) ⟨bl_0000, va_recv hKc hPc (ci := 3) (q0 := 0) rfl rfl, fun U hU hW => ⟨rfl, by rw [hU]; exact hPc, va_K.moved hW.alike hKc⟩⟩ rfl rfl hl.1 rfl (lv_room (Nat.le_of_ble_eq_true rfl)) d_F_method_55 ⟨Nat.le_of_ble_eq_true rfl, Nat.le_of_ble_eq_true rfl⟩) hS (fun q _ h => h.elim) (fun q h => h.elim) (fun r_11 u_12 t H1 locs ht hvm hw hB hz1 hk1 hS => ?_)
        have hP := ro_keep hP hk1
        generalize H1 = H at hP hS ⊢
        refine W.widen (k := 0) (n := 0) (Nat.le_of_ble_eq_true rfl) (Nat.le_of_ble_eq_true rfl) ?_
        rcases hw with ⟨hr9, hw⟩ | ⟨hr9, hw⟩
        · subst hr9
          have p_13 := hw
          refine lv_if_ne (tgt := 71) hx hb d_F_method_58 (by decide) (fun c_14 => ?_) (fun c_14 => ?_)
          · skip
            refine lv_aload_n hx hb d_F_method_71 rfl (lv_at hl 2 rfl) ?_
            refine va_get (D := (dC, dI)) (ci := 4) (v := .ref w) (C := R_F) (T := T_F) (N := 4) hx hb hts (fun w h => hsub w (uw_F w h)) hown hK hP 0 rfl rfl 0 (by decide) (hts _ (hsub _ w_181)) (fun _ h9 => h9) rfl d_F_method_72 ?_
            refine va_get (D := (dC, dI)) (ci := 3) (v := .int 0) (C := R_W) (T := T_W) (N := 10) hx hb hts (fun w h => hsub w (uw_W w h)) hown hK hP 1 rfl rfl 9 (by decide) (hts _ (hsub _ w_204)) (fun _ h9 => h9) rfl d_F_method_75 ?_
            refine lv_bipush (v := 8) hx hb d_F_method_78 (by decide) ?_
            refine lv_icmp_lt (tgt := 93) hx hb d_F_method_80 (by decide) (fun c_15 => ?_) (fun c_15 => ?_)
            · skip
              refine lv_aload_n hx hb d_F_method_93 rfl (lv_at hl 2 rfl) ?_
              refine va_get (D := (dC, dI)) (ci := 4) (v := .ref w) (C := R_F) (T := T_F) (N := 4) hx hb hts (fun w h => hsub w (uw_F w h)) hown hK hP 0 rfl rfl 0 (by decide) (hts _ (hsub _ w_181)) (fun _ h9 => h9) rfl d_F_method_94 ?_
              refine lv_iload_n hx hb d_F_method_97 rfl (lv_at hl 3 rfl) ?_
              refine lv_iload_n hx hb d_F_method_98 rfl (lv_at hl 4 rfl) ?_
              have hPc := hP.sub (ws' := [(w, .inr (3, [.ref wp, .ref wu, .ref wi, .int 2, .ref wc, .ref wt, .ref wx, .int 0, .ref wm, .int 0])), (wm, .inl (km, 8, .inr (.inr (.inr (.inr fm)))))]) [1, 2] rfl
              have hKc := hK.sub (tys' := [(km, .object "MapFramer$Method")]) [0] rfl
              have hDc := hD.sub (ws' := [(w, .inr (3, [.ref wp, .ref wu, .ref wi, .int 2, .ref wc, .ref wt, .ref wx, .int 0, .ref wm, .int 0])), (wm, .inl (km, 8, .inr (.inr (.inr (.inr fm)))))]) [1, 2] (by decide) rfl
              have hFc := va_free (wc := [(w, .inr (3, [.ref wp, .ref wu, .ref wi, .int 2, .ref wc, .ref wt, .ref wx, .int 0, .ref wm, .int 0])), (wm, .inl (km, 8, .inr (.inr (.inr (.inr fm)))))]) hD hS hA [1, 2] rfl
              refine va_calli (va_runV (As := [.int pk, .int rs]) (rest := []) ⟨hx, hb, hml, hown, hts⟩ (k_W_addMethod l dC dI w wp wu wi wc wt wx wm km fm pk rs H.size) (cwV 2 hts (gV hsub w_205 w_206 w_207 w_4 w_208) rfl rfl rfl (by decide +kernel) ⟨Nat.le_of_ble_eq_true rfl, Nat.le_of_ble_eq_true rfl⟩) ⟨bl_1010, va_recv hKc hPc (ci := 3) (q0 := 0) rfl rfl, fun U hU hW => ⟨rfl, by rw [hU], by rw [hU]; exact hPc, va_K.moved hW.alike hKc, hDc.weaken (fun _ _ _ _ => trivial), exP_go hex hS (fun q h => hFc q h) U hU hW⟩⟩ rfl rfl hl.1 rfl (lv_room (Nat.le_of_ble_eq_true rfl)) d_F_method_99 ⟨Nat.le_of_ble_eq_true rfl, Nat.le_of_ble_eq_true rfl⟩) hS (fun q _ h => hFc q h) hFc (fun r_17 u_18 t H1 locs ht hvm hw hB hz1 hk1 hS => ?_)
              have hP1 : va_P (dC, dI) vwCl [] H1 := nil_P
              have hD1 : va_D (va_A [(w, .inr (3, [.ref wp, .ref wu, .ref wi, .int 2, .ref wc, .ref wt, .ref wx, .int 0, .ref wm, .int 0])), (wm, .inl (km, 8, .inr (.inr (.inr (.inr fm)))))] H.size) [] := nil_D
              have hK1 : va_K (dC, dI) vwCl [] s := hK.sub (tys' := []) [] rfl
              obtain ⟨hP, hD⟩ := va_join (wr := [(f, .inr (4, [.ref w, .ref k, .ref tp, .int 0]))]) (w1 := []) hP hD [1, 2] [0] rfl rfl (by decide) (by decide) hk1 hFc hP1 hD1
              have hK := (hK.sub (tys' := [(km, .object "MapFramer$Method")]) [0] rfl).app hK1
              generalize H1 = H at hP hS ⊢
              have hP : va_P (dC, dI) vwCl [(f, .inr (4, [.ref w, .ref k, .ref tp, .int 0]))] H := hP
              have hD : va_D A [(f, .inr (4, [.ref w, .ref k, .ref tp, .int 0]))] := hD
              have hK : va_K (dC, dI) vwCl [(km, .object "MapFramer$Method")] s := hK
              refine W.widen (k := 6) (n := 20) (Nat.le_of_ble_eq_true rfl) (Nat.le_of_ble_eq_true rfl) ?_
              subst hw
              refine vx_ret ?_
              refine W.widen (k := 6) (n := 20) (Nat.le_of_ble_eq_true rfl) (Nat.le_of_ble_eq_true rfl) ?_
              exact W.iret (v := 0) hx hb hr (fun t ht hW => ⟨⟨0, (), rfl, ⟨⟨by simp [okA, g0, c_5, p_13], Or.inr p_13⟩, rfl⟩, trivial⟩, hS.F ht⟩) hS.2.2 d_F_method_102
            · skip
              first | exact absurd c_15 (by decide) | exact absurd (by decide) c_15
          · skip
            first | exact absurd c_14 (by decide) | exact absurd (by decide) c_14
        · subst hr9
          have p_19 := hw
          refine lv_if_ne (tgt := 71) hx hb d_F_method_58 (by decide) (fun c_20 => ?_) (fun c_20 => ?_)
          · skip
            first | exact absurd c_20 (by decide) | exact absurd (by decide) c_20
          · skip
            obtain ⟨sa, hsa⟩ := hex.2.2.2.2.1 (83, "no such result type") (by decide)
            exact vx_throwS (sa := sa) (names := ["java/lang/RuntimeException", "java/lang/Exception"]) hx hb hl9 hown (by decide +kernel) (by decide +kernel) (hts _ (hsub _ w_191)) (hts _ (hsub _ w_192)) hsa (xg_IllegalArgumentException_39_at hts hsub hex) xg_IllegalArgumentException_39_ot hex.1 hex.2.1 hS (hl.1.trans hml.symm) d_F_method_61 d_F_method_64 d_F_method_65 d_F_method_67 d_F_method_70 (fun x hx9 => (hnoh x hx9).elim) (Nat.le_of_ble_eq_true rfl) (Nat.le_of_ble_eq_true rfl) (Nat.le_of_ble_eq_true rfl) (Nat.le_of_ble_eq_true rfl) hlocks (fun t hal hz hk => ⟨(), by intro h; obtain ⟨h1, h2⟩ := h; first | (simp [okA, g0, c_5, p_19] at h1; done) | (simp [g0, c_5, p_19] at h2; done), rfl, Nat.le_trans hS.1 hz, fun q h1 h2 => by rw [hk q (Nat.lt_of_lt_of_le h1 hS.1)]; exact hS.2.1 q h1 h2⟩) hS.2.2 (Nat.le_of_ble_eq_true rfl) (Nat.le_of_ble_eq_true rfl)
    · skip
      first | exact absurd c_4 (by decide) | exact absurd (by decide) c_4
  · obtain rfl : r_2 = 1 := hw.trans hn
    refine lv_istore_n (lv' := [(3, .int 1), (0, .ref f), (1, .int pk), (2, .int rs)]) hx hb d_F_method_4 rfl hl (by decide) rfl (fun ls hl => ?_)
    refine lv_iconst (v := 0) hx hb d_F_method_5 (by decide) ?_
    refine lv_istore (lv' := [(4, .int 0), (3, .int 1), (0, .ref f), (1, .int pk), (2, .int rs)]) hx hb d_F_method_6 hl (by decide) rfl (fun ls hl => ?_)
    refine lv_iload hx hb d_F_method_8 (lv_at hl 0 rfl) ?_
    refine lv_iload_n hx hb d_F_method_10 rfl (lv_at hl 1 rfl) ?_
    refine lv_icmp_ge (tgt := 46) hx hb d_F_method_11 (by decide) (fun c_21 => ?_) (fun c_21 => ?_)
    · skip
      first | exact absurd c_21 (by decide) | exact absurd (by decide) c_21
    · skip
      refine lv_aload_n hx hb d_F_method_14 rfl (lv_at hl 2 rfl) ?_
      refine va_get (D := (dC, dI)) (ci := 4) (v := .ref w) (C := R_F) (T := T_F) (N := 4) hx hb hts (fun w h => hsub w (uw_F w h)) hown hK hP 0 rfl rfl 0 (by decide) (hts _ (hsub _ w_181)) (fun _ h9 => h9) rfl d_F_method_15 ?_
      refine lv_iload_n hx hb d_F_method_18 rfl (lv_at hl 3 rfl) ?_
      refine lv_iload hx hb d_F_method_19 (lv_at hl 0 rfl) ?_
      have hPc := hP.sub (ws' := []) [] rfl
      have hKc := hK.sub (tys' := []) [] rfl
      refine va_calli (va_runS (As := [.int pk, .int 0]) (rest := [.ref w]) ⟨hx, hb, hml, hown, hts⟩ (k_W_argumentType l dC dI pk 0) (va_cwS 2 hts (gS hsub w_209 w_139 w_4 w_140) rfl rfl rfl (by decide +kernel) ⟨Nat.le_of_ble_eq_true rfl, Nat.le_of_ble_eq_true rfl⟩) ⟨bl_0000, fun U hU hW => ⟨rfl, by rw [hU]; exact hPc, va_K.moved hW.alike hKc⟩⟩ rfl rfl hl.1 rfl (lv_room (Nat.le_of_ble_eq_true rfl)) d_F_method_21 ⟨Nat.le_of_ble_eq_true rfl, Nat.le_of_ble_eq_true rfl⟩) hS (fun q _ h => h.elim) (fun q h => h.elim) (fun r_23 u_24 t H1 locs ht hvm hw hB hz1 hk1 hS => ?_)
      have hP := ro_keep hP hk1
      generalize H1 = H at hP hS ⊢
      refine W.widen (k := 0) (n := 0) (Nat.le_of_ble_eq_true rfl) (Nat.le_of_ble_eq_true rfl) ?_
      subst hw
      have hPc := hP.sub (ws' := [(w, .inr (3, [.ref wp, .ref wu, .ref wi, .int 2, .ref wc, .ref wt, .ref wx, .int 0, .ref wm, .int 0]))]) [1] rfl
      have hKc := hK.sub (tys' := []) [] rfl
      refine va_calli (va_runV (As := [.int (argX pk 0)]) (rest := []) ⟨hx, hb, hml, hown, hts⟩ (k_W_isValueType l dC dI w wp wu wi wc wt wx wm ((argX pk 0))) (cwV 1 hts (gV hsub w_194 w_195 w_196 w_4 w_197) rfl rfl rfl (by decide +kernel) ⟨Nat.le_of_ble_eq_true rfl, Nat.le_of_ble_eq_true rfl⟩) ⟨bl_0000, va_recv hKc hPc (ci := 3) (q0 := 0) rfl rfl, fun U hU hW => ⟨rfl, by rw [hU]; exact hPc, va_K.moved hW.alike hKc⟩⟩ rfl rfl hl.1 rfl (lv_room (Nat.le_of_ble_eq_true rfl)) d_F_method_24 ⟨Nat.le_of_ble_eq_true rfl, Nat.le_of_ble_eq_true rfl⟩) hS (fun q _ h => h.elim) (fun q h => h.elim) (fun r_26 u_27 t H1 locs ht hvm hw hB hz1 hk1 hS => ?_)
      have hP := ro_keep hP hk1
      generalize H1 = H at hP hS ⊢
      refine W.widen (k := 0) (n := 0) (Nat.le_of_ble_eq_true rfl) (Nat.le_of_ble_eq_true rfl) ?_
      rcases hw with ⟨hr9, hw⟩ | ⟨hr9, hw⟩
      · subst hr9
        have p_28 := hw
        refine lv_if_ne (tgt := 40) hx hb d_F_method_27 (by decide) (fun c_29 => ?_) (fun c_29 => ?_)
        · skip
          refine lv_iinc (v := 1) (lv' := [(4, .int 1), (3, .int 1), (0, .ref f), (1, .int pk), (2, .int rs)]) hx hb d_F_method_40 hl (k := 0) rfl (by decide) (by decide) rfl (fun ls hl => ?_)
          refine lv_goto (tgt := 8) hx hb d_F_method_43 (by decide) ?_
          refine lv_iload hx hb d_F_method_8 (lv_at hl 0 rfl) ?_
          refine lv_iload_n hx hb d_F_method_10 rfl (lv_at hl 1 rfl) ?_
          refine lv_icmp_ge (tgt := 46) hx hb d_F_method_11 (by decide) (fun c_30 => ?_) (fun c_30 => ?_)
          · skip
            refine lv_iload_n hx hb d_F_method_46 rfl (lv_at hl 4 rfl) ?_
            refine lv_if_eq (tgt := 71) hx hb d_F_method_47 (by decide) (fun c_31 => ?_) (fun c_31 => ?_)
            · skip
              refine lv_aload_n hx hb d_F_method_71 rfl (lv_at hl 2 rfl) ?_
              refine va_get (D := (dC, dI)) (ci := 4) (v := .ref w) (C := R_F) (T := T_F) (N := 4) hx hb hts (fun w h => hsub w (uw_F w h)) hown hK hP 0 rfl rfl 0 (by decide) (hts _ (hsub _ w_181)) (fun _ h9 => h9) rfl d_F_method_72 ?_
              refine va_get (D := (dC, dI)) (ci := 3) (v := .int 0) (C := R_W) (T := T_W) (N := 10) hx hb hts (fun w h => hsub w (uw_W w h)) hown hK hP 1 rfl rfl 9 (by decide) (hts _ (hsub _ w_204)) (fun _ h9 => h9) rfl d_F_method_75 ?_
              refine lv_bipush (v := 8) hx hb d_F_method_78 (by decide) ?_
              refine lv_icmp_lt (tgt := 93) hx hb d_F_method_80 (by decide) (fun c_32 => ?_) (fun c_32 => ?_)
              · skip
                refine lv_aload_n hx hb d_F_method_93 rfl (lv_at hl 2 rfl) ?_
                refine va_get (D := (dC, dI)) (ci := 4) (v := .ref w) (C := R_F) (T := T_F) (N := 4) hx hb hts (fun w h => hsub w (uw_F w h)) hown hK hP 0 rfl rfl 0 (by decide) (hts _ (hsub _ w_181)) (fun _ h9 => h9) rfl d_F_method_94 ?_
                refine lv_iload_n hx hb d_F_method_97 rfl (lv_at hl 3 rfl) ?_
                refine lv_iload_n hx hb d_F_method_98 rfl (lv_at hl 4 rfl) ?_
                have hPc := hP.sub (ws' := [(w, .inr (3, [.ref wp, .ref wu, .ref wi, .int 2, .ref wc, .ref wt, .ref wx, .int 0, .ref wm, .int 0])), (wm, .inl (km, 8, .inr (.inr (.inr (.inr fm)))))]) [1, 2] rfl
                have hKc := hK.sub (tys' := [(km, .object "MapFramer$Method")]) [0] rfl
                have hDc := hD.sub (ws' := [(w, .inr (3, [.ref wp, .ref wu, .ref wi, .int 2, .ref wc, .ref wt, .ref wx, .int 0, .ref wm, .int 0])), (wm, .inl (km, 8, .inr (.inr (.inr (.inr fm)))))]) [1, 2] (by decide) rfl
                have hFc := va_free (wc := [(w, .inr (3, [.ref wp, .ref wu, .ref wi, .int 2, .ref wc, .ref wt, .ref wx, .int 0, .ref wm, .int 0])), (wm, .inl (km, 8, .inr (.inr (.inr (.inr fm)))))]) hD hS hA [1, 2] rfl
                refine va_calli (va_runV (As := [.int pk, .int rs]) (rest := []) ⟨hx, hb, hml, hown, hts⟩ (k_W_addMethod l dC dI w wp wu wi wc wt wx wm km fm pk rs H.size) (cwV 2 hts (gV hsub w_205 w_206 w_207 w_4 w_208) rfl rfl rfl (by decide +kernel) ⟨Nat.le_of_ble_eq_true rfl, Nat.le_of_ble_eq_true rfl⟩) ⟨bl_1010, va_recv hKc hPc (ci := 3) (q0 := 0) rfl rfl, fun U hU hW => ⟨rfl, by rw [hU], by rw [hU]; exact hPc, va_K.moved hW.alike hKc, hDc.weaken (fun _ _ _ _ => trivial), exP_go hex hS (fun q h => hFc q h) U hU hW⟩⟩ rfl rfl hl.1 rfl (lv_room (Nat.le_of_ble_eq_true rfl)) d_F_method_99 ⟨Nat.le_of_ble_eq_true rfl, Nat.le_of_ble_eq_true rfl⟩) hS (fun q _ h => hFc q h) hFc (fun r_34 u_35 t H1 locs ht hvm hw hB hz1 hk1 hS => ?_)
                have hP1 : va_P (dC, dI) vwCl [] H1 := nil_P
                have hD1 : va_D (va_A [(w, .inr (3, [.ref wp, .ref wu, .ref wi, .int 2, .ref wc, .ref wt, .ref wx, .int 0, .ref wm, .int 0])), (wm, .inl (km, 8, .inr (.inr (.inr (.inr fm)))))] H.size) [] := nil_D
                have hK1 : va_K (dC, dI) vwCl [] s := hK.sub (tys' := []) [] rfl
                obtain ⟨hP, hD⟩ := va_join (wr := [(f, .inr (4, [.ref w, .ref k, .ref tp, .int 0]))]) (w1 := []) hP hD [1, 2] [0] rfl rfl (by decide) (by decide) hk1 hFc hP1 hD1
                have hK := (hK.sub (tys' := [(km, .object "MapFramer$Method")]) [0] rfl).app hK1
                generalize H1 = H at hP hS ⊢
                have hP : va_P (dC, dI) vwCl [(f, .inr (4, [.ref w, .ref k, .ref tp, .int 0]))] H := hP
                have hD : va_D A [(f, .inr (4, [.ref w, .ref k, .ref tp, .int 0]))] := hD
                have hK : va_K (dC, dI) vwCl [(km, .object "MapFramer$Method")] s := hK
                refine W.widen (k := 6) (n := 20) (Nat.le_of_ble_eq_true rfl) (Nat.le_of_ble_eq_true rfl) ?_
                subst hw
                refine vx_ret ?_
                refine W.widen (k := 6) (n := 20) (Nat.le_of_ble_eq_true rfl) (Nat.le_of_ble_eq_true rfl) ?_
                exact W.iret (v := 0) hx hb hr (fun t ht hW => ⟨⟨0, (), rfl, ⟨⟨by simp [okA, g0, g1, p_28, c_31], Or.inl c_31⟩, rfl⟩, trivial⟩, hS.F ht⟩) hS.2.2 d_F_method_102
              · skip
                first | exact absurd c_32 (by decide) | exact absurd (by decide) c_32
            · skip
              refine lv_aload_n hx hb d_F_method_50 rfl (lv_at hl 2 rfl) ?_
              refine va_get (D := (dC, dI)) (ci := 4) (v := .ref w) (C := R_F) (T := T_F) (N := 4) hx hb hts (fun w h => hsub w (uw_F w h)) hown hK hP 0 rfl rfl 0 (by decide) (hts _ (hsub _ w_181)) (fun _ h9 => h9) rfl d_F_method_51 ?_
              refine lv_iload_n hx hb d_F_method_54 rfl (lv_at hl 4 rfl) ?_
              have hPc := hP.sub (ws' := [(w, .inr (3, [.ref wp, .ref wu, .ref wi, .int 2, .ref wc, .ref wt, .ref wx, .int 0, .ref wm, .int 0]))]) [1] rfl
              have hKc := hK.sub (tys' := []) [] rfl
              refine va_calli (va_runV (As := [.int rs]) (rest := []) ⟨hx, hb, hml, hown, hts⟩ (k_W_isValueType l dC dI w wp wu wi wc wt wx wm rs) (cwV 1 hts (gV hsub w_194 w_195 w_196 w_4 w_197) rfl rfl rfl (by decide +kernel) ⟨Nat.le_of_ble_eq_true rfl, Nat.le_of_ble_eq_true rfl⟩) ⟨bl_0000, va_recv hKc hPc (ci := 3) (q0 := 0) rfl rfl, fun U hU hW => ⟨rfl, by rw [hU]; exact hPc, va_K.moved hW.alike hKc⟩⟩ rfl rfl hl.1 rfl (lv_room (Nat.le_of_ble_eq_true rfl)) d_F_method_55 ⟨Nat.le_of_ble_eq_true rfl, Nat.le_of_ble_eq_true rfl⟩) hS (fun q _ h => h.elim) (fun q h => h.elim) (fun r_37 u_38 t H1 locs ht hvm hw hB hz1 hk1 hS => ?_)
              have hP := ro_keep hP hk1
              generalize H1 = H at hP hS ⊢
              refine W.widen (k := 0) (n := 0) (Nat.le_of_ble_eq_true rfl) (Nat.le_of_ble_eq_true rfl) ?_
              rcases hw with ⟨hr9, hw⟩ | ⟨hr9, hw⟩
              · subst hr9
                have p_39 := hw
                refine lv_if_ne (tgt := 71) hx hb d_F_method_58 (by decide) (fun c_40 => ?_) (fun c_40 => ?_)
                · skip
                  refine lv_aload_n hx hb d_F_method_71 rfl (lv_at hl 2 rfl) ?_
                  refine va_get (D := (dC, dI)) (ci := 4) (v := .ref w) (C := R_F) (T := T_F) (N := 4) hx hb hts (fun w h => hsub w (uw_F w h)) hown hK hP 0 rfl rfl 0 (by decide) (hts _ (hsub _ w_181)) (fun _ h9 => h9) rfl d_F_method_72 ?_
                  refine va_get (D := (dC, dI)) (ci := 3) (v := .int 0) (C := R_W) (T := T_W) (N := 10) hx hb hts (fun w h => hsub w (uw_W w h)) hown hK hP 1 rfl rfl 9 (by decide) (hts _ (hsub _ w_204)) (fun _ h9 => h9) rfl d_F_method_75 ?_
                  refine lv_bipush (v := 8) hx hb d_F_method_78 (by decide) ?_
                  refine lv_icmp_lt (tgt := 93) hx hb d_F_method_80 (by decide) (fun c_41 => ?_) (fun c_41 => ?_)
                  · skip
                    refine lv_aload_n hx hb d_F_method_93 rfl (lv_at hl 2 rfl) ?_
                    refine va_get (D := (dC, dI)) (ci := 4) (v := .ref w) (C := R_F) (T := T_F) (N := 4) hx hb hts (fun w h => hsub w (uw_F w h)) hown hK hP 0 rfl rfl 0 (by decide) (hts _ (hsub _ w_181)) (fun _ h9 => h9) rfl d_F_method_94 ?_
                    refine lv_iload_n hx hb d_F_method_97 rfl (lv_at hl 3 rfl) ?_
                    refine lv_iload_n hx hb d_F_method_98 rfl (lv_at hl 4 rfl) ?_
                    have hPc := hP.sub (ws' := [(w, .inr (3, [.ref wp, .ref wu, .ref wi, .int 2, .ref wc, .ref wt, .ref wx, .int 0, .ref wm, .int 0])), (wm, .inl (km, 8, .inr (.inr (.inr (.inr fm)))))]) [1, 2] rfl
                    have hKc := hK.sub (tys' := [(km, .object "MapFramer$Method")]) [0] rfl
                    have hDc := hD.sub (ws' := [(w, .inr (3, [.ref wp, .ref wu, .ref wi, .int 2, .ref wc, .ref wt, .ref wx, .int 0, .ref wm, .int 0])), (wm, .inl (km, 8, .inr (.inr (.inr (.inr fm)))))]) [1, 2] (by decide) rfl
                    have hFc := va_free (wc := [(w, .inr (3, [.ref wp, .ref wu, .ref wi, .int 2, .ref wc, .ref wt, .ref wx, .int 0, .ref wm, .int 0])), (wm, .inl (km, 8, .inr (.inr (.inr (.inr fm)))))]) hD hS hA [1, 2] rfl
                    refine va_calli (va_runV (As := [.int pk, .int rs]) (rest := []) ⟨hx, hb, hml, hown, hts⟩ (k_W_addMethod l dC dI w wp wu wi wc wt wx wm km fm pk rs H.size) (cwV 2 hts (gV hsub w_205 w_206 w_207 w_4 w_208) rfl rfl rfl (by decide +kernel) ⟨Nat.le_of_ble_eq_true rfl, Nat.le_of_ble_eq_true rfl⟩) ⟨bl_1010, va_recv hKc hPc (ci := 3) (q0 := 0) rfl rfl, fun U hU hW => ⟨rfl, by rw [hU], by rw [hU]; exact hPc, va_K.moved hW.alike hKc, hDc.weaken (fun _ _ _ _ => trivial), exP_go hex hS (fun q h => hFc q h) U hU hW⟩⟩ rfl rfl hl.1 rfl (lv_room (Nat.le_of_ble_eq_true rfl)) d_F_method_99 ⟨Nat.le_of_ble_eq_true rfl, Nat.le_of_ble_eq_true rfl⟩) hS (fun q _ h => hFc q h) hFc (fun r_43 u_44 t H1 locs ht hvm hw hB hz1 hk1 hS => ?_)
                    have hP1 : va_P (dC, dI) vwCl [] H1 := nil_P
                    have hD1 : va_D (va_A [(w, .inr (3, [.ref wp, .ref wu, .ref wi, .int 2, .ref wc, .ref wt, .ref wx, .int 0, .ref wm, .int 0])), (wm, .inl (km, 8, .inr (.inr (.inr (.inr fm)))))] H.size) [] := nil_D
                    have hK1 : va_K (dC, dI) vwCl [] s := hK.sub (tys' := []) [] rfl
                    obtain ⟨hP, hD⟩ := va_join (wr := [(f, .inr (4, [.ref w, .ref k, .ref tp, .int 0]))]) (w1 := []) hP hD [1, 2] [0] rfl rfl (by decide) (by decide) hk1 hFc hP1 hD1
                    have hK := (hK.sub (tys' := [(km, .object "MapFramer$Method")]) [0] rfl).app hK1
                    generalize H1 = H at hP hS ⊢
                    have hP : va_P (dC, dI) vwCl [(f, .inr (4, [.ref w, .ref k, .ref tp, .int 0]))] H := hP
                    have hD : va_D A [(f, .inr (4, [.ref w, .ref k, .ref tp, .int 0]))] := hD
                    have hK : va_K (dC, dI) vwCl [(km, .object "MapFramer$Method")] s := hK
                    refine W.widen (k := 6) (n := 20) (Nat.le_of_ble_eq_true rfl) (Nat.le_of_ble_eq_true rfl) ?_
                    subst hw
                    refine vx_ret ?_
                    refine W.widen (k := 6) (n := 20) (Nat.le_of_ble_eq_true rfl) (Nat.le_of_ble_eq_true rfl) ?_
                    exact W.iret (v := 0) hx hb hr (fun t ht hW => ⟨⟨0, (), rfl, ⟨⟨by simp [okA, g0, g1, p_28, c_31, p_39], Or.inr p_39⟩, rfl⟩, trivial⟩, hS.F ht⟩) hS.2.2 d_F_method_102
                  · skip
                    first | exact absurd c_41 (by decide) | exact absurd (by decide) c_41
                · skip
                  first | exact absurd c_40 (by decide) | exact absurd (by decide) c_40
              · subst hr9
                have p_45 := hw
                refine lv_if_ne (tgt := 71) hx hb d_F_method_58 (by decide) (fun c_46 => ?_) (fun c_46 => ?_)
                · skip
                  first | exact absurd c_46 (by decide) | exact absurd (by decide) c_46
                · skip
                  obtain ⟨sa, hsa⟩ := hex.2.2.2.2.1 (83, "no such result type") (by decide)
                  exact vx_throwS (sa := sa) (names := ["java/lang/RuntimeException", "java/lang/Exception"]) hx hb hl9 hown (by decide +kernel) (by decide +kernel) (hts _ (hsub _ w_191)) (hts _ (hsub _ w_192)) hsa (xg_IllegalArgumentException_39_at hts hsub hex) xg_IllegalArgumentException_39_ot hex.1 hex.2.1 hS (hl.1.trans hml.symm) d_F_method_61 d_F_method_64 d_F_method_65 d_F_method_67 d_F_method_70 (fun x hx9 => (hnoh x hx9).elim) (Nat.le_of_ble_eq_true rfl) (Nat.le_of_ble_eq_true rfl) (Nat.le_of_ble_eq_true rfl) (Nat.le_of_ble_eq_true rfl) hlocks (fun t hal hz hk => ⟨(), by intro h; obtain ⟨h1, h2⟩ := h; first | (simp [okA, g0, g1, p_28, c_31, p_45] at h1; done) | (simp [g0, g1, p_28, c_31, p_45] at h2; done), rfl, Nat.le_trans hS.1 hz, fun q h1 h2 => by rw [hk q (Nat.lt_of_lt_of_le h1 hS.1)]; exact hS.2.1 q h1 h2⟩) hS.2.2 (Nat.le_of_ble_eq_true rfl) (Nat.le_of_ble_eq_true rfl)
          · skip
            first | exact absurd c_30 (by decide) | exact absurd (by decide) c_30
        · skip
          first | exact absurd c_29 (by decide) | exact absurd (by decide) c_29
      · subst hr9
        have p_47 := hw
        refine lv_if_ne (tgt := 40) hx hb d_F_method_27 (by decide) (fun c_48 => ?_) (fun c_48 => ?_)
        · skip
          first | exact absurd c_48 (by decide) | exact absurd (by decide) c_48
        · skip
          obtain ⟨sa, hsa⟩ := hex.2.2.2.2.1 (81, "no such argument type") (by decide)
          exact vx_throwS (sa := sa) (names := ["java/lang/RuntimeException", "java/lang/Exception"]) hx hb hl9 hown (by decide +kernel) (by decide +kernel) (hts _ (hsub _ w_191)) (hts _ (hsub _ w_192)) hsa (xg_IllegalArgumentException_39_at hts hsub hex) xg_IllegalArgumentException_39_ot hex.1 hex.2.1 hS (hl.1.trans hml.symm) d_F_method_30 d_F_method_33 d_F_method_34 d_F_method_36 d_F_method_39 (fun x hx9 => (hnoh x hx9).elim) (Nat.le_of_ble_eq_true rfl) (Nat.le_of_ble_eq_true rfl) (Nat.le_of_ble_eq_true rfl) (Nat.le_of_ble_eq_true rfl) hlocks (fun t hal hz hk => ⟨(), by intro h; obtain ⟨h1, h2⟩ := h; first | (simp [okA, g0, g1, p_47] at h1; done) | (simp [g0, g1, p_47] at h2; done), rfl, Nat.le_trans hS.1 hz, fun q h1 h2 => by rw [hk q (Nat.lt_of_lt_of_le h1 hS.1)]; exact hS.2.1 q h1 h2⟩) hS.2.2 (Nat.le_of_ble_eq_true rfl) (Nat.le_of_ble_eq_true rfl)
  · obtain rfl : r_2 = 2 := hw.trans hn
    refine lv_istore_n (lv' := [(3, .int 2), (0, .ref f), (1, .int pk), (2, .int rs)]) hx hb d_F_method_4 rfl hl (by decide) rfl (fun ls hl => ?_)
    refine lv_iconst (v := 0) hx hb d_F_method_5 (by decide) ?_
    refine lv_istore (lv' := [(4, .int 0), (3, .int 2), (0, .ref f), (1, .int pk), (2, .int rs)]) hx hb d_F_method_6 hl (by decide) rfl (fun ls hl => ?_)
    refine lv_iload hx hb d_F_method_8 (lv_at hl 0 rfl) ?_
    refine lv_iload_n hx hb d_F_method_10 rfl (lv_at hl 1 rfl) ?_
    refine lv_icmp_ge (tgt := 46) hx hb d_F_method_11 (by decide) (fun c_49 => ?_) (fun c_49 => ?_)
    · skip
      first | exact absurd c_49 (by decide) | exact absurd (by decide) c_49
    · skip
      refine lv_aload_n hx hb d_F_method_14 rfl (lv_at hl 2 rfl) ?_
      refine va_get (D := (dC, dI)) (ci := 4) (v := .ref w) (C := R_F) (T := T_F) (N := 4) hx hb hts (fun w h => hsub w (uw_F w h)) hown hK hP 0 rfl rfl 0 (by decide) (hts _ (hsub _ w_181)) (fun _ h9 => h9) rfl d_F_method_15 ?_
      refine lv_iload_n hx hb d_F_method_18 rfl (lv_at hl 3 rfl) ?_
      refine lv_iload hx hb d_F_method_19 (lv_at hl 0 rfl) ?_
      have hPc := hP.sub (ws' := []) [] rfl
      have hKc := hK.sub (tys' := []) [] rfl
      refine va_calli (va_runS (As := [.int pk, .int 0]) (rest := [.ref w]) ⟨hx, hb, hml, hown, hts⟩ (k_W_argumentType l dC dI pk 0) (va_cwS 2 hts (gS hsub w_209 w_139 w_4 w_140) rfl rfl rfl (by decide +kernel) ⟨Nat.le_of_ble_eq_true rfl, Nat.le_of_ble_eq_true rfl⟩) ⟨bl_0000, fun U hU hW => ⟨rfl, by rw [hU]; exact hPc, va_K.moved hW.alike hKc⟩⟩ rfl rfl hl.1 rfl (lv_room (Nat.le_of_ble_eq_true rfl)) d_F_method_21 ⟨Nat.le_of_ble_eq_true rfl, Nat.le_of_ble_eq_true rfl⟩) hS (fun q _ h => h.elim) (fun q h => h.elim) (fun r_51 u_52 t H1 locs ht hvm hw hB hz1 hk1 hS => ?_)
      have hP := ro_keep hP hk1
      generalize H1 = H at hP hS ⊢
      refine W.widen (k := 0) (n := 0) (Nat.le_of_ble_eq_true rfl) (Nat.le_of_ble_eq_true rfl) ?_
      subst hw
      have hPc := hP.sub (ws' := [(w, .inr (3, [.ref wp, .ref wu, .ref wi, .int 2, .ref wc, .ref wt, .ref wx, .int 0, .ref wm, .int 0]))]) [1] rfl
      have hKc := hK.sub (tys' := []) [] rfl
      refine va_calli (va_runV (As := [.int (argX pk 0)]) (rest := []) ⟨hx, hb, hml, hown, hts⟩ (k_W_isValueType l dC dI w wp wu wi wc wt wx wm ((argX pk 0))) (cwV 1 hts (gV hsub w_194 w_195 w_196 w_4 w_197) rfl rfl rfl (by decide +kernel) ⟨Nat.le_of_ble_eq_true rfl, Nat.le_of_ble_eq_true rfl⟩) ⟨bl_0000, va_recv hKc hPc (ci := 3) (q0 := 0) rfl rfl, fun U hU hW => ⟨rfl, by rw [hU]; exact hPc, va_K.moved hW.alike hKc⟩⟩ rfl rfl hl.1 rfl (lv_room (Nat.le_of_ble_eq_true rfl)) d_F_method_24 ⟨Nat.le_of_ble_eq_true rfl, Nat.le_of_ble_eq_true rfl⟩) hS (fun q _ h => h.elim) (fun q h => h.elim) (fun r_54 u_55 t H1 locs ht hvm hw hB hz1 hk1 hS => ?_)
      have hP := ro_keep hP hk1
      generalize H1 = H at hP hS ⊢
      refine W.widen (k := 0) (n := 0) (Nat.le_of_ble_eq_true rfl) (Nat.le_of_ble_eq_true rfl) ?_
      rcases hw with ⟨hr9, hw⟩ | ⟨hr9, hw⟩
      · subst hr9
        have p_56 := hw
        refine lv_if_ne (tgt := 40) hx hb d_F_method_27 (by decide) (fun c_57 => ?_) (fun c_57 => ?_)
        · skip
          refine lv_iinc (v := 1) (lv' := [(4, .int 1), (3, .int 2), (0, .ref f), (1, .int pk), (2, .int rs)]) hx hb d_F_method_40 hl (k := 0) rfl (by decide) (by decide) rfl (fun ls hl => ?_)
          refine lv_goto (tgt := 8) hx hb d_F_method_43 (by decide) ?_
          refine lv_iload hx hb d_F_method_8 (lv_at hl 0 rfl) ?_
          refine lv_iload_n hx hb d_F_method_10 rfl (lv_at hl 1 rfl) ?_
          refine lv_icmp_ge (tgt := 46) hx hb d_F_method_11 (by decide) (fun c_58 => ?_) (fun c_58 => ?_)
          · skip
            first | exact absurd c_58 (by decide) | exact absurd (by decide) c_58
          · skip
            refine lv_aload_n hx hb d_F_method_14 rfl (lv_at hl 2 rfl) ?_
            refine va_get (D := (dC, dI)) (ci := 4) (v := .ref w) (C := R_F) (T := T_F) (N := 4) hx hb hts (fun w h => hsub w (uw_F w h)) hown hK hP 0 rfl rfl 0 (by decide) (hts _ (hsub _ w_181)) (fun _ h9 => h9) rfl d_F_method_15 ?_
            refine lv_iload_n hx hb d_F_method_18 rfl (lv_at hl 3 rfl) ?_
            refine lv_iload hx hb d_F_method_19 (lv_at hl 0 rfl) ?_
            have hPc := hP.sub (ws' := []) [] rfl
            have hKc := hK.sub (tys' := []) [] rfl
            refine va_calli (va_runS (As := [.int pk, .int 1]) (rest := [.ref w]) ⟨hx, hb, hml, hown, hts⟩ (k_W_argumentType l dC dI pk 1) (va_cwS 2 hts (gS hsub w_209 w_139 w_4 w_140) rfl rfl rfl (by decide +kernel) ⟨Nat.le_of_ble_eq_true rfl, Nat.le_of_ble_eq_true rfl⟩) ⟨bl_0000, fun U hU hW => ⟨rfl, by rw [hU]; exact hPc, va_K.moved hW.alike hKc⟩⟩ rfl rfl hl.1 rfl (lv_room (Nat.le_of_ble_eq_true rfl)) d_F_method_21 ⟨Nat.le_of_ble_eq_true rfl, Nat.le_of_ble_eq_true rfl⟩) hS (fun q _ h => h.elim) (fun q h => h.elim) (fun r_60 u_61 t H1 locs ht hvm hw hB hz1 hk1 hS => ?_)
            have hP := ro_keep hP hk1
            generalize H1 = H at hP hS ⊢
            refine W.widen (k := 0) (n := 0) (Nat.le_of_ble_eq_true rfl) (Nat.le_of_ble_eq_true rfl) ?_
            subst hw
            have hPc := hP.sub (ws' := [(w, .inr (3, [.ref wp, .ref wu, .ref wi, .int 2, .ref wc, .ref wt, .ref wx, .int 0, .ref wm, .int 0]))]) [1] rfl
            have hKc := hK.sub (tys' := []) [] rfl
            refine va_calli (va_runV (As := [.int (argX pk 1)]) (rest := []) ⟨hx, hb, hml, hown, hts⟩ (k_W_isValueType l dC dI w wp wu wi wc wt wx wm ((argX pk 1))) (cwV 1 hts (gV hsub w_194 w_195 w_196 w_4 w_197) rfl rfl rfl (by decide +kernel) ⟨Nat.le_of_ble_eq_true rfl, Nat.le_of_ble_eq_true rfl⟩) ⟨bl_0000, va_recv hKc hPc (ci := 3) (q0 := 0) rfl rfl, fun U hU hW => ⟨rfl, by rw [hU]; exact hPc, va_K.moved hW.alike hKc⟩⟩ rfl rfl hl.1 rfl (lv_room (Nat.le_of_ble_eq_true rfl)) d_F_method_24 ⟨Nat.le_of_ble_eq_true rfl, Nat.le_of_ble_eq_true rfl⟩) hS (fun q _ h => h.elim) (fun q h => h.elim) (fun r_63 u_64 t H1 locs ht hvm hw hB hz1 hk1 hS => ?_)
            have hP := ro_keep hP hk1
            generalize H1 = H at hP hS ⊢
            refine W.widen (k := 0) (n := 0) (Nat.le_of_ble_eq_true rfl) (Nat.le_of_ble_eq_true rfl) ?_
            rcases hw with ⟨hr9, hw⟩ | ⟨hr9, hw⟩
            · subst hr9
              have p_65 := hw
              refine lv_if_ne (tgt := 40) hx hb d_F_method_27 (by decide) (fun c_66 => ?_) (fun c_66 => ?_)
              · skip
                refine lv_iinc (v := 2) (lv' := [(4, .int 2), (3, .int 2), (0, .ref f), (1, .int pk), (2, .int rs)]) hx hb d_F_method_40 hl (k := 0) rfl (by decide) (by decide) rfl (fun ls hl => ?_)
                refine lv_goto (tgt := 8) hx hb d_F_method_43 (by decide) ?_
                refine lv_iload hx hb d_F_method_8 (lv_at hl 0 rfl) ?_
                refine lv_iload_n hx hb d_F_method_10 rfl (lv_at hl 1 rfl) ?_
                refine lv_icmp_ge (tgt := 46) hx hb d_F_method_11 (by decide) (fun c_67 => ?_) (fun c_67 => ?_)
                · skip
                  refine lv_iload_n hx hb d_F_method_46 rfl (lv_at hl 4 rfl) ?_
                  refine lv_if_eq (tgt := 71) hx hb d_F_method_47 (by decide) (fun c_68 => ?_) (fun c_68 => ?_)
                  · skip
                    refine lv_aload_n hx hb d_F_method_71 rfl (lv_at hl 2 rfl) ?_
                    refine va_get (D := (dC, dI)) (ci := 4) (v := .ref w) (C := R_F) (T := T_F) (N := 4) hx hb hts (fun w h => hsub w (uw_F w h)) hown hK hP 0 rfl rfl 0 (by decide) (hts _ (hsub _ w_181)) (fun _ h9 => h9) rfl d_F_method_72 ?_
                    refine va_get (D := (dC, dI)) (ci := 3) (v := .int 0) (C := R_W) (T := T_W) (N := 10) hx hb hts (fun w h => hsub w (uw_W w h)) hown hK hP 1 rfl rfl 9 (by decide) (hts _ (hsub _ w_204)) (fun _ h9 => h9) rfl d_F_method_75 ?_
                    refine lv_bipush (v := 8) hx hb d_F_method_78 (by decide) ?_
                    refine lv_icmp_lt (tgt := 93) hx hb d_F_method_80 (by decide) (fun c_69 => ?_) (fun c_69 => ?_)
                    · skip
                      refine lv_aload_n hx hb d_F_method_93 rfl (lv_at hl 2 rfl) ?_
                      refine va_get (D := (dC, dI)) (ci := 4) (v := .ref w) (C := R_F) (T := T_F) (N := 4) hx hb hts (fun w h => hsub w (uw_F w h)) hown hK hP 0 rfl rfl 0 (by decide) (hts _ (hsub _ w_181)) (fun _ h9 => h9) rfl d_F_method_94 ?_
                      refine lv_iload_n hx hb d_F_method_97 rfl (lv_at hl 3 rfl) ?_
                      refine lv_iload_n hx hb d_F_method_98 rfl (lv_at hl 4 rfl) ?_
                      have hPc := hP.sub (ws' := [(w, .inr (3, [.ref wp, .ref wu, .ref wi, .int 2, .ref wc, .ref wt, .ref wx, .int 0, .ref wm, .int 0])), (wm, .inl (km, 8, .inr (.inr (.inr (.inr fm)))))]) [1, 2] rfl
                      have hKc := hK.sub (tys' := [(km, .object "MapFramer$Method")]) [0] rfl
                      have hDc := hD.sub (ws' := [(w, .inr (3, [.ref wp, .ref wu, .ref wi, .int 2, .ref wc, .ref wt, .ref wx, .int 0, .ref wm, .int 0])), (wm, .inl (km, 8, .inr (.inr (.inr (.inr fm)))))]) [1, 2] (by decide) rfl
                      have hFc := va_free (wc := [(w, .inr (3, [.ref wp, .ref wu, .ref wi, .int 2, .ref wc, .ref wt, .ref wx, .int 0, .ref wm, .int 0])), (wm, .inl (km, 8, .inr (.inr (.inr (.inr fm)))))]) hD hS hA [1, 2] rfl
                      refine va_calli (va_runV (As := [.int pk, .int rs]) (rest := []) ⟨hx, hb, hml, hown, hts⟩ (k_W_addMethod l dC dI w wp wu wi wc wt wx wm km fm pk rs H.size) (cwV 2 hts (gV hsub w_205 w_206 w_207 w_4 w_208) rfl rfl rfl (by decide +kernel) ⟨Nat.le_of_ble_eq_true rfl, Nat.le_of_ble_eq_true rfl⟩) ⟨bl_1010, va_recv hKc hPc (ci := 3) (q0 := 0) rfl rfl, fun U hU hW => ⟨rfl, by rw [hU], by rw [hU]; exact hPc, va_K.moved hW.alike hKc, hDc.weaken (fun _ _ _ _ => trivial), exP_go hex hS (fun q h => hFc q h) U hU hW⟩⟩ rfl rfl hl.1 rfl (lv_room (Nat.le_of_ble_eq_true rfl)) d_F_method_99 ⟨Nat.le_of_ble_eq_true rfl, Nat.le_of_ble_eq_true rfl⟩) hS (fun q _ h => hFc q h) hFc (fun r_71 u_72 t H1 locs ht hvm hw hB hz1 hk1 hS => ?_)
                      have hP1 : va_P (dC, dI) vwCl [] H1 := nil_P
                      have hD1 : va_D (va_A [(w, .inr (3, [.ref wp, .ref wu, .ref wi, .int 2, .ref wc, .ref wt, .ref wx, .int 0, .ref wm, .int 0])), (wm, .inl (km, 8, .inr (.inr (.inr (.inr fm)))))] H.size) [] := nil_D
                      have hK1 : va_K (dC, dI) vwCl [] s := hK.sub (tys' := []) [] rfl
                      obtain ⟨hP, hD⟩ := va_join (wr := [(f, .inr (4, [.ref w, .ref k, .ref tp, .int 0]))]) (w1 := []) hP hD [1, 2] [0] rfl rfl (by decide) (by decide) hk1 hFc hP1 hD1
                      have hK := (hK.sub (tys' := [(km, .object "MapFramer$Method")]) [0] rfl).app hK1
                      generalize H1 = H at hP hS ⊢
                      have hP : va_P (dC, dI) vwCl [(f, .inr (4, [.ref w, .ref k, .ref tp, .int 0]))] H := hP
                      have hD : va_D A [(f, .inr (4, [.ref w, .ref k, .ref tp, .int 0]))] := hD
                      have hK : va_K (dC, dI) vwCl [(km, .object "MapFramer$Method")] s := hK
                      refine W.widen (k := 6) (n := 20) (Nat.le_of_ble_eq_true rfl) (Nat.le_of_ble_eq_true rfl) ?_
                      subst hw
                      refine vx_ret ?_
                      refine W.widen (k := 6) (n := 20) (Nat.le_of_ble_eq_true rfl) (Nat.le_of_ble_eq_true rfl) ?_
                      exact W.iret (v := 0) hx hb hr (fun t ht hW => ⟨⟨0, (), rfl, ⟨⟨by simp [okA, g0, g1, g2, p_56, p_65, c_68], Or.inl c_68⟩, rfl⟩, trivial⟩, hS.F ht⟩) hS.2.2 d_F_method_102
                    · skip
                      first | exact absurd c_69 (by decide) | exact absurd (by decide) c_69
                  · skip
                    refine lv_aload_n hx hb d_F_method_50 rfl (lv_at hl 2 rfl) ?_
                    refine va_get (D := (dC, dI)) (ci := 4) (v := .ref w) (C := R_F) (T := T_F) (N := 4) hx hb hts (fun w h => hsub w (uw_F w h)) hown hK hP 0 rfl rfl 0 (by decide) (hts _ (hsub _ w_181)) (fun _ h9 => h9) rfl d_F_method_51 ?_
                    refine lv_iload_n hx hb d_F_method_54 rfl (lv_at hl 4 rfl) ?_
                    have hPc := hP.sub (ws' := [(w, .inr (3, [.ref wp, .ref wu, .ref wi, .int 2, .ref wc, .ref wt, .ref wx, .int 0, .ref wm, .int 0]))]) [1] rfl
                    have hKc := hK.sub (tys' := []) [] rfl
                    refine va_calli (va_runV (As := [.int rs]) (rest := []) ⟨hx, hb, hml, hown, hts⟩ (k_W_isValueType l dC dI w wp wu wi wc wt wx wm rs) (cwV 1 hts (gV hsub w_194 w_195 w_196 w_4 w_197) rfl rfl rfl (by decide +kernel) ⟨Nat.le_of_ble_eq_true rfl, Nat.le_of_ble_eq_true rfl⟩) ⟨bl_0000, va_recv hKc hPc (ci := 3) (q0 := 0) rfl rfl, fun U hU hW => ⟨rfl, by rw [hU]; exact hPc, va_K.moved hW.alike hKc⟩⟩ rfl rfl hl.1 rfl (lv_room (Nat.le_of_ble_eq_true rfl)) d_F_method_55 ⟨Nat.le_of_ble_eq_true rfl, Nat.le_of_ble_eq_true rfl⟩) hS (fun q _ h => h.elim) (fun q h => h.elim) (fun r_74 u_75 t H1 locs ht hvm hw hB hz1 hk1 hS => ?_)
                    have hP := ro_keep hP hk1
                    generalize H1 = H at hP hS ⊢
                    refine W.widen (k := 0) (n := 0) (Nat.le_of_ble_eq_true rfl) (Nat.le_of_ble_eq_true rfl) ?_
                    rcases hw with ⟨hr9, hw⟩ | ⟨hr9, hw⟩
                    · subst hr9
                      have p_76 := hw
                      refine lv_if_ne (tgt := 71) hx hb d_F_method_58 (by decide) (fun c_77 => ?_) (fun c_77 => ?_)
                      · skip
                        refine lv_aload_n hx hb d_F_method_71 rfl (lv_at hl 2 rfl) ?_
                        refine va_get (D := (dC, dI)) (ci := 4) (v := .ref w) (C := R_F) (T := T_F) (N := 4) hx hb hts (fun w h => hsub w (uw_F w h)) hown hK hP 0 rfl rfl 0 (by decide) (hts _ (hsub _ w_181)) (fun _ h9 => h9) rfl d_F_method_72 ?_
                        refine va_get (D := (dC, dI)) (ci := 3) (v := .int 0) (C := R_W) (T := T_W) (N := 10) hx hb hts (fun w h => hsub w (uw_W w h)) hown hK hP 1 rfl rfl 9 (by decide) (hts _ (hsub _ w_204)) (fun _ h9 => h9) rfl d_F_method_75 ?_
                        refine lv_bipush (v := 8) hx hb d_F_method_78 (by decide) ?_
                        refine lv_icmp_lt (tgt := 93) hx hb d_F_method_80 (by decide) (fun c_78 => ?_) (fun c_78 => ?_)
                        · skip
                          refine lv_aload_n hx hb d_F_method_93 rfl (lv_at hl 2 rfl) ?_
                          refine va_get (D := (dC, dI)) (ci := 4) (v := .ref w) (C := R_F) (T := T_F) (N := 4) hx hb hts (fun w h => hsub w (uw_F w h)) hown hK hP 0 rfl rfl 0 (by decide) (hts _ (hsub _ w_181)) (fun _ h9 => h9) rfl d_F_method_94 ?_
                          refine lv_iload_n hx hb d_F_method_97 rfl (lv_at hl 3 rfl) ?_
                          refine lv_iload_n hx hb d_F_method_98 rfl (lv_at hl 4 rfl) ?_
                          have hPc := hP.sub (ws' := [(w, .inr (3, [.ref wp, .ref wu, .ref wi, .int 2, .ref wc, .ref wt, .ref wx, .int 0, .ref wm, .int 0])), (wm, .inl (km, 8, .inr (.inr (.inr (.inr fm)))))]) [1, 2] rfl
                          have hKc := hK.sub (tys' := [(km, .object "MapFramer$Method")]) [0] rfl
                          have hDc := hD.sub (ws' := [(w, .inr (3, [.ref wp, .ref wu, .ref wi, .int 2, .ref wc, .ref wt, .ref wx, .int 0, .ref wm, .int 0])), (wm, .inl (km, 8, .inr (.inr (.inr (.inr fm)))))]) [1, 2] (by decide) rfl
                          have hFc := va_free (wc := [(w, .inr (3, [.ref wp, .ref wu, .ref wi, .int 2, .ref wc, .ref wt, .ref wx, .int 0, .ref wm, .int 0])), (wm, .inl (km, 8, .inr (.inr (.inr (.inr fm)))))]) hD hS hA [1, 2] rfl
                          refine va_calli (va_runV (As := [.int pk, .int rs]) (rest := []) ⟨hx, hb, hml, hown, hts⟩ (k_W_addMethod l dC dI w wp wu wi wc wt wx wm km fm pk rs H.size) (cwV 2 hts (gV hsub w_205 w_206 w_207 w_4 w_208) rfl rfl rfl (by decide +kernel) ⟨Nat.le_of_ble_eq_true rfl, Nat.le_of_ble_eq_true rfl⟩) ⟨bl_1010, va_recv hKc hPc (ci := 3) (q0 := 0) rfl rfl, fun U hU hW => ⟨rfl, by rw [hU], by rw [hU]; exact hPc, va_K.moved hW.alike hKc, hDc.weaken (fun _ _ _ _ => trivial), exP_go hex hS (fun q h => hFc q h) U hU hW⟩⟩ rfl rfl hl.1 rfl (lv_room (Nat.le_of_ble_eq_true rfl)) d_F_method_99 ⟨Nat.le_of_ble_eq_true rfl, Nat.le_of_ble_eq_true rfl⟩) hS (fun q _ h => hFc q h) hFc (fun r_80 u_81 t H1 locs ht hvm hw hB hz1 hk1 hS => ?_)
                          have hP1 : va_P (dC, dI) vwCl [] H1 := nil_P
                          have hD1 : va_D (va_A [(w, .inr (3, [.ref wp, .ref wu, .ref wi, .int 2, .ref wc, .ref wt, .ref wx, .int 0, .ref wm, .int 0])), (wm, .inl (km, 8, .inr (.inr (.inr (.inr fm)))))] H.size) [] := nil_D
                          have hK1 : va_K (dC, dI) vwCl [] s := hK.sub (tys' := []) [] rfl
                          obtain ⟨hP, hD⟩ := va_join (wr := [(f, .inr (4, [.ref w, .ref k, .ref tp, .int 0]))]) (w1 := []) hP hD [1, 2] [0] rfl rfl (by decide) (by decide) hk1 hFc hP1 hD1
                          have hK := (hK.sub (tys' := [(km, .object "MapFramer$Method")]) [0] rfl).app hK1
                          generalize H1 = H at hP hS ⊢
                          have hP : va_P (dC, dI) vwCl [(f, .inr (4, [.ref w, .ref k, .ref tp, .int 0]))] H := hP
                          have hD : va_D A [(f, .inr (4, [.ref w, .ref k, .ref tp, .int 0]))] := hD
                          have hK : va_K (dC, dI) vwCl [(km, .object "MapFramer$Method")] s := hK
                          refine W.widen (k := 6) (n := 20) (Nat.le_of_ble_eq_true rfl) (Nat.le_of_ble_eq_true rfl) ?_
                          subst hw
                          refine vx_ret ?_
                          refine W.widen (k := 6) (n := 20) (Nat.le_of_ble_eq_true rfl) (Nat.le_of_ble_eq_true rfl) ?_
                          exact W.iret (v := 0) hx hb hr (fun t ht hW => ⟨⟨0, (), rfl, ⟨⟨by simp [okA, g0, g1, g2, p_56, p_65, c_68, p_76], Or.inr p_76⟩, rfl⟩, trivial⟩, hS.F ht⟩) hS.2.2 d_F_method_102
                        · skip
                          first | exact absurd c_78 (by decide) | exact absurd (by decide) c_78
                      · skip
                        first | exact absurd c_77 (by decide) | exact absurd (by decide) c_77
                    · subst hr9
                      have p_82 := hw
                      refine lv_if_ne (tgt := 71) hx hb d_F_method_58 (by decide) (fun c_83 => ?_) (fun c_83 => ?_)
                      · skip
                        first | exact absurd c_83 (by decide) | exact absurd (by decide) c_83
                      · skip
                        obtain ⟨sa, hsa⟩ := hex.2.2.2.2.1 (83, "no such result type") (by decide)
                        exact vx_throwS (sa := sa) (names := ["java/lang/RuntimeException", "java/lang/Exception"]) hx hb hl9 hown (by decide +kernel) (by decide +kernel) (hts _ (hsub _ w_191)) (hts _ (hsub _ w_192)) hsa (xg_IllegalArgumentException_39_at hts hsub hex) xg_IllegalArgumentException_39_ot hex.1 hex.2.1 hS (hl.1.trans hml.symm) d_F_method_61 d_F_method_64 d_F_method_65 d_F_method_67 d_F_method_70 (fun x hx9 => (hnoh x hx9).elim) (Nat.le_of_ble_eq_true rfl) (Nat.le_of_ble_eq_true rfl) (Nat.le_of_ble_eq_true rfl) (Nat.le_of_ble_eq_true rfl) hlocks (fun t hal hz hk => ⟨(), by intro h; obtain ⟨h1, h2⟩ := h; first | (simp [okA, g0, g1, g2, p_56, p_65, c_68, p_82] at h1; done) | (simp [g0, g1, g2, p_56, p_65, c_68, p_82] at h2; done), rfl, Nat.le_trans hS.1 hz, fun q h1 h2 => by rw [hk q (Nat.lt_of_lt_of_le h1 hS.1)]; exact hS.2.1 q h1 h2⟩) hS.2.2 (Nat.le_of_ble_eq_true rfl) (Nat.le_of_ble_eq_true rfl)
                · skip
                  first | exact absurd c_67 (by decide) | exact absurd (by decide) c_67
              · skip
                first | exact absurd c_66 (by decide) | exact absurd (by decide) c_66
            · subst hr9
              have p_84 := hw
              refine lv_if_ne (tgt := 40) hx hb d_F_method_27 (by decide) (fun c_85 => ?_) (fun c_85 => ?_)
              · skip
                first | exact absurd c_85 (by decide) | exact absurd (by decide) c_85
              · skip
                obtain ⟨sa, hsa⟩ := hex.2.2.2.2.1 (81, "no such argument type") (by decide)
                exact vx_throwS (sa := sa) (names := ["java/lang/RuntimeException", "java/lang/Exception"]) hx hb hl9 hown (by decide +kernel) (by decide +kernel) (hts _ (hsub _ w_191)) (hts _ (hsub _ w_192)) hsa (xg_IllegalArgumentException_39_at hts hsub hex) xg_IllegalArgumentException_39_ot hex.1 hex.2.1 hS (hl.1.trans hml.symm) d_F_method_30 d_F_method_33 d_F_method_34 d_F_method_36 d_F_method_39 (fun x hx9 => (hnoh x hx9).elim) (Nat.le_of_ble_eq_true rfl) (Nat.le_of_ble_eq_true rfl) (Nat.le_of_ble_eq_true rfl) (Nat.le_of_ble_eq_true rfl) hlocks (fun t hal hz hk => ⟨(), by intro h; obtain ⟨h1, h2⟩ := h; first | (simp [okA, g0, g1, g2, p_56, p_84] at h1; done) | (simp [g0, g1, g2, p_56, p_84] at h2; done), rfl, Nat.le_trans hS.1 hz, fun q h1 h2 => by rw [hk q (Nat.lt_of_lt_of_le h1 hS.1)]; exact hS.2.1 q h1 h2⟩) hS.2.2 (Nat.le_of_ble_eq_true rfl) (Nat.le_of_ble_eq_true rfl)
        · skip
          first | exact absurd c_57 (by decide) | exact absurd (by decide) c_57
      · subst hr9
        have p_86 := hw
        refine lv_if_ne (tgt := 40) hx hb d_F_method_27 (by decide) (fun c_87 => ?_) (fun c_87 => ?_)
        · skip
          first | exact absurd c_87 (by decide) | exact absurd (by decide) c_87
        · skip
          obtain ⟨sa, hsa⟩ := hex.2.2.2.2.1 (81, "no such argument type") (by decide)
          exact vx_throwS (sa := sa) (names := ["java/lang/RuntimeException", "java/lang/Exception"]) hx hb hl9 hown (by decide +kernel) (by decide +kernel) (hts _ (hsub _ w_191)) (hts _ (hsub _ w_192)) hsa (xg_IllegalArgumentException_39_at hts hsub hex) xg_IllegalArgumentException_39_ot hex.1 hex.2.1 hS (hl.1.trans hml.symm) d_F_method_30 d_F_method_33 d_F_method_34 d_F_method_36 d_F_method_39 (fun x hx9 => (hnoh x hx9).elim) (Nat.le_of_ble_eq_true rfl) (Nat.le_of_ble_eq_true rfl) (Nat.le_of_ble_eq_true rfl) (Nat.le_of_ble_eq_true rfl) hlocks (fun t hal hz hk => ⟨(), by intro h; obtain ⟨h1, h2⟩ := h; first | (simp [okA, g0, g1, g2, p_86] at h1; done) | (simp [g0, g1, g2, p_86] at h2; done), rfl, Nat.le_trans hS.1 hz, fun q h1 h2 => by rw [hk q (Nat.lt_of_lt_of_le h1 hS.1)]; exact hS.2.1 q h1 h2⟩) hS.2.2 (Nat.le_of_ble_eq_true rfl) (Nat.le_of_ble_eq_true rfl)
  · obtain rfl : r_2 = 3 := hw.trans hn
    refine lv_istore_n (lv' := [(3, .int 3), (0, .ref f), (1, .int pk), (2, .int rs)]) hx hb d_F_method_4 rfl hl (by decide) rfl (fun ls hl => ?_)
    refine lv_iconst (v := 0) hx hb d_F_method_5 (by decide) ?_
    refine lv_istore (lv' := [(4, .int 0), (3, .int 3), (0, .ref f), (1, .int pk), (2, .int rs)]) hx hb d_F_method_6 hl (by decide) rfl (fun ls hl => ?_)
    refine lv_iload hx hb d_F_method_8 (lv_at hl 0 rfl) ?_
    refine lv_iload_n hx hb d_F_method_10 rfl (lv_at hl 1 rfl) ?_
    refine lv_icmp_ge (tgt := 46) hx hb d_F_method_11 (by decide) (fun c_88 => ?_) (fun c_88 => ?_)
    · skip
      first | exact absurd c_88 (by decide) | exact absurd (by decide) c_88
    · skip
      refine lv_aload_n hx hb d_F_method_14 rfl (lv_at hl 2 rfl) ?_
      refine va_get (D := (dC, dI)) (ci := 4) (v := .ref w) (C := R_F) (T := T_F) (N := 4) hx hb hts (fun w h => hsub w (uw_F w h)) hown hK hP 0 rfl rfl 0 (by decide) (hts _ (hsub _ w_181)) (fun _ h9 => h9) rfl d_F_method_15 ?_
      refine lv_iload_n hx hb d_F_method_18 rfl (lv_at hl 3 rfl) ?_
      refine lv_iload hx hb d_F_method_19 (lv_at hl 0 rfl) ?_
      have hPc := hP.sub (ws' := []) [] rfl
      have hKc := hK.sub (tys' := []) [] rfl
      refine va_calli (va_runS (As := [.int pk, .int 0]) (rest := [.ref w]) ⟨hx, hb, hml, hown, hts⟩ (k_W_argumentType l dC dI pk 0) (va_cwS 2 hts (gS hsub w_209 w_139 w_4 w_140) rfl rfl rfl (by decide +kernel) ⟨Nat.le_of_ble_eq_true rfl, Nat.le_of_ble_eq_true rfl⟩) ⟨bl_0000, fun U hU hW => ⟨rfl, by rw [hU]; exact hPc, va_K.moved hW.alike hKc⟩⟩ rfl rfl hl.1 rfl (lv_room (Nat.le_of_ble_eq_true rfl)) d_F_method_21 ⟨Nat.le_of_ble_eq_true rfl, Nat.le_of_ble_eq_true rfl⟩) hS (fun q _ h => h.elim) (fun q h => h.elim) (fun r_90 u_91 t H1 locs ht hvm hw hB hz1 hk1 hS => ?_)
      have hP := ro_keep hP hk1
      generalize H1 = H at hP hS ⊢
      refine W.widen (k := 0) (n := 0) (Nat.le_of_ble_eq_true rfl) (Nat.le_of_ble_eq_true rfl) ?_
      subst hw
      have hPc := hP.sub (ws' := [(w, .inr (3, [.ref wp, .ref wu, .ref wi, .int 2, .ref wc, .ref wt, .ref wx, .int 0, .ref wm, .int 0]))]) [1] rfl
      have hKc := hK.sub (tys' := []) [] rfl
      refine va_calli (va_runV (As := [.int (argX pk 0)]) (rest := []) ⟨hx, hb, hml, hown, hts⟩ (k_W_isValueType l dC dI w wp wu wi wc wt wx wm ((argX pk 0))) (cwV 1 hts (gV hsub w_194 w_195 w_196 w_4 w_197) rfl rfl rfl (by decide +kernel) ⟨Nat.le_of_ble_eq_true rfl, Nat.le_of_ble_eq_true rfl⟩) ⟨bl_0000, va_recv hKc hPc (ci := 3) (q0 := 0) rfl rfl, fun U hU hW => ⟨rfl, by rw [hU]; exact hPc, va_K.moved hW.alike hKc⟩⟩ rfl rfl hl.1 rfl (lv_room (Nat.le_of_ble_eq_true rfl)) d_F_method_24 ⟨Nat.le_of_ble_eq_true rfl, Nat.le_of_ble_eq_true rfl⟩) hS (fun q _ h => h.elim) (fun q h => h.elim) (fun r_93 u_94 t H1 locs ht hvm hw hB hz1 hk1 hS => ?_)
      have hP := ro_keep hP hk1
      generalize H1 = H at hP hS ⊢
      refine W.widen (k := 0) (n := 0) (Nat.le_of_ble_eq_true rfl) (Nat.le_of_ble_eq_true rfl) ?_
      rcases hw with ⟨hr9, hw⟩ | ⟨hr9, hw⟩
      · subst hr9
        have p_95 := hw
        refine lv_if_ne (tgt := 40) hx hb d_F_method_27 (by decide) (fun c_96 => ?_) (fun c_96 => ?_)
        · skip
          refine lv_iinc (v := 1) (lv' := [(4, .int 1), (3, .int 3), (0, .ref f), (1, .int pk), (2, .int rs)]) hx hb d_F_method_40 hl (k := 0) rfl (by decide) (by decide) rfl (fun ls hl => ?_)
          refine lv_goto (tgt := 8) hx hb d_F_method_43 (by decide) ?_
          refine lv_iload hx hb d_F_method_8 (lv_at hl 0 rfl) ?_
          refine lv_iload_n hx hb d_F_method_10 rfl (lv_at hl 1 rfl) ?_
          refine lv_icmp_ge (tgt := 46) hx hb d_F_method_11 (by decide) (fun c_97 => ?_) (fun c_97 => ?_)
          · skip
            first | exact absurd c_97 (by decide) | exact absurd (by decide) c_97
          · skip
            refine lv_aload_n hx hb d_F_method_14 rfl (lv_at hl 2 rfl) ?_
            refine va_get (D := (dC, dI)) (ci := 4) (v := .ref w) (C := R_F) (T := T_F) (N := 4) hx hb hts (fun w h => hsub w (uw_F w h)) hown hK hP 0 rfl rfl 0 (by decide) (hts _ (hsub _ w_181)) (fun _ h9 => h9) rfl d_F_method_15 ?_
            refine lv_iload_n hx hb d_F_method_18 rfl (lv_at hl 3 rfl) ?_
            refine lv_iload hx hb d_F_method_19 (lv_at hl 0 rfl) ?_
            have hPc := hP.sub (ws' := []) [] rfl
            have hKc := hK.sub (tys' := []) [] rfl
            refine va_calli (va_runS (As := [.int pk, .int 1]) (rest := [.ref w]) ⟨hx, hb, hml, hown, hts⟩ (k_W_argumentType l dC dI pk 1) (va_cwS 2 hts (gS hsub w_209 w_139 w_4 w_140) rfl rfl rfl (by decide +kernel) ⟨Nat.le_of_ble_eq_true rfl, Nat.le_of_ble_eq_true rfl⟩) ⟨bl_0000, fun U hU hW => ⟨rfl, by rw [hU]; exact hPc, va_K.moved hW.alike hKc⟩⟩ rfl rfl hl.1 rfl (lv_room (Nat.le_of_ble_eq_true rfl)) d_F_method_21 ⟨Nat.le_of_ble_eq_true rfl, Nat.le_of_ble_eq_true rfl⟩) hS (fun q _ h => h.elim) (fun q h => h.elim) (fun r_99 u_100 t H1 locs ht hvm hw hB hz1 hk1 hS => ?_)
            have hP := ro_keep hP hk1
            generalize H1 = H at hP hS ⊢
            refine W.widen (k := 0) (n := 0) (Nat.le_of_ble_eq_true rfl) (Nat.le_of_ble_eq_true rfl) ?_
            subst hw
            have hPc := hP.sub (ws' := [(w, .inr (3, [.ref wp, .ref wu, .ref wi, .int 2, .ref wc, .ref wt, .ref wx, .int 0, .ref wm, .int 0]))]) [1] rfl
            have hKc := hK.sub (tys' := []) [] rfl
            refine va_calli (va_runV (As := [.int (argX pk 1)]) (rest := []) ⟨hx, hb, hml, hown, hts⟩ (k_W_isValueType l dC dI w wp wu wi wc wt wx wm ((argX pk 1))) (cwV 1 hts (gV hsub w_194 w_195 w_196 w_4 w_197) rfl rfl rfl (by decide +kernel) ⟨Nat.le_of_ble_eq_true rfl, Nat.le_of_ble_eq_true rfl⟩) ⟨bl_0000, va_recv hKc hPc (ci := 3) (q0 := 0) rfl rfl, fun U hU hW => ⟨rfl, by rw [hU]; exact hPc, va_K.moved hW.alike hKc⟩⟩ rfl rfl hl.1 rfl (lv_room (Nat.le_of_ble_eq_true rfl)) d_F_method_24 ⟨Nat.le_of_ble_eq_true rfl, Nat.le_of_ble_eq_true rfl⟩) hS (fun q _ h => h.elim) (fun q h => h.elim) (fun r_102 u_103 t H1 locs ht hvm hw hB hz1 hk1 hS => ?_)
            have hP := ro_keep hP hk1
            generalize H1 = H at hP hS ⊢
            refine W.widen (k := 0) (n := 0) (Nat.le_of_ble_eq_true rfl) (Nat.le_of_ble_eq_true rfl) ?_
            rcases hw with ⟨hr9, hw⟩ | ⟨hr9, hw⟩
            · subst hr9
              have p_104 := hw
              refine lv_if_ne (tgt := 40) hx hb d_F_method_27 (by decide) (fun c_105 => ?_) (fun c_105 => ?_)
              · skip
                refine lv_iinc (v := 2) (lv' := [(4, .int 2), (3, .int 3), (0, .ref f), (1, .int pk), (2, .int rs)]) hx hb d_F_method_40 hl (k := 0) rfl (by decide) (by decide) rfl (fun ls hl => ?_)
                refine lv_goto (tgt := 8) hx hb d_F_method_43 (by decide) ?_
                refine lv_iload hx hb d_F_method_8 (lv_at hl 0 rfl) ?_
                refine lv_iload_n hx hb d_F_method_10 rfl (lv_at hl 1 rfl) ?_
                refine lv_icmp_ge (tgt := 46) hx hb d_F_method_11 (by decide) (fun c_106 => ?_) (fun c_106 => ?_)
                · skip
                  first | exact absurd c_106 (by decide) | exact absurd (by decide) c_106
                · skip
                  refine lv_aload_n hx hb d_F_method_14 rfl (lv_at hl 2 rfl) ?_
                  refine va_get (D := (dC, dI)) (ci := 4) (v := .ref w) (C := R_F) (T := T_F) (N := 4) hx hb hts (fun w h => hsub w (uw_F w h)) hown hK hP 0 rfl rfl 0 (by decide) (hts _ (hsub _ w_181)) (fun _ h9 => h9) rfl d_F_method_15 ?_
                  refine lv_iload_n hx hb d_F_method_18 rfl (lv_at hl 3 rfl) ?_
                  refine lv_iload hx hb d_F_method_19 (lv_at hl 0 rfl) ?_
                  have hPc := hP.sub (ws' := []) [] rfl
                  have hKc := hK.sub (tys' := []) [] rfl
                  refine va_calli (va_runS (As := [.int pk, .int 2]) (rest := [.ref w]) ⟨hx, hb, hml, hown, hts⟩ (k_W_argumentType l dC dI pk 2) (va_cwS 2 hts (gS hsub w_209 w_139 w_4 w_140) rfl rfl rfl (by decide +kernel) ⟨Nat.le_of_ble_eq_true rfl, Nat.le_of_ble_eq_true rfl⟩) ⟨bl_0000, fun U hU hW => ⟨rfl, by rw [hU]; exact hPc, va_K.moved hW.alike hKc⟩⟩ rfl rfl hl.1 rfl (lv_room (Nat.le_of_ble_eq_true rfl)) d_F_method_21 ⟨Nat.le_of_ble_eq_true rfl, Nat.le_of_ble_eq_true rfl⟩) hS (fun q _ h => h.elim) (fun q h => h.elim) (fun r_108 u_109 t H1 locs ht hvm hw hB hz1 hk1 hS => ?_)
                  have hP := ro_keep hP hk1
                  generalize H1 = H at hP hS ⊢
                  refine W.widen (k := 0) (n := 0) (Nat.le_of_ble_eq_true rfl) (Nat.le_of_ble_eq_true rfl) ?_
                  subst hw
                  have hPc := hP.sub (ws' := [(w, .inr (3, [.ref wp, .ref wu, .ref wi, .int 2, .ref wc, .ref wt, .ref wx, .int 0, .ref wm, .int 0]))]) [1] rfl
                  have hKc := hK.sub (tys' := []) [] rfl
                  refine va_calli (va_runV (As := [.int (argX pk 2)]) (rest := []) ⟨hx, hb, hml, hown, hts⟩ (k_W_isValueType l dC dI w wp wu wi wc wt wx wm ((argX pk 2))) (cwV 1 hts (gV hsub w_194 w_195 w_196 w_4 w_197) rfl rfl rfl (by decide +kernel) ⟨Nat.le_of_ble_eq_true rfl, Nat.le_of_ble_eq_true rfl⟩) ⟨bl_0000, va_recv hKc hPc (ci := 3) (q0 := 0) rfl rfl, fun U hU hW => ⟨rfl, by rw [hU]; exact hPc, va_K.moved hW.alike hKc⟩⟩ rfl rfl hl.1 rfl (lv_room (Nat.le_of_ble_eq_true rfl)) d_F_method_24 ⟨Nat.le_of_ble_eq_true rfl, Nat.le_of_ble_eq_true rfl⟩) hS (fun q _ h => h.elim) (fun q h => h.elim) (fun r_111 u_112 t H1 locs ht hvm hw hB hz1 hk1 hS => ?_)
                  have hP := ro_keep hP hk1
                  generalize H1 = H at hP hS ⊢
                  refine W.widen (k := 0) (n := 0) (Nat.le_of_ble_eq_true rfl) (Nat.le_of_ble_eq_true rfl) ?_
                  rcases hw with ⟨hr9, hw⟩ | ⟨hr9, hw⟩
                  · subst hr9
                    have p_113 := hw
                    refine lv_if_ne (tgt := 40) hx hb d_F_method_27 (by decide) (fun c_114 => ?_) (fun c_114 => ?_)
                    · skip
                      refine lv_iinc (v := 3) (lv' := [(4, .int 3), (3, .int 3), (0, .ref f), (1, .int pk), (2, .int rs)]) hx hb d_F_method_40 hl (k := 0) rfl (by decide) (by decide) rfl (fun ls hl => ?_)
                      refine lv_goto (tgt := 8) hx hb d_F_method_43 (by decide) ?_
                      refine lv_iload hx hb d_F_method_8 (lv_at hl 0 rfl) ?_
                      refine lv_iload_n hx hb d_F_method_10 rfl (lv_at hl 1 rfl) ?_
                      refine lv_icmp_ge (tgt := 46) hx hb d_F_method_11 (by decide) (fun c_115 => ?_) (fun c_115 => ?_)
                      · skip
                        refine lv_iload_n hx hb d_F_method_46 rfl (lv_at hl 4 rfl) ?_
                        refine lv_if_eq (tgt := 71) hx hb d_F_method_47 (by decide) (fun c_116 => ?_) (fun c_116 => ?_)
                        · skip
                          refine lv_aload_n hx hb d_F_method_71 rfl (lv_at hl 2 rfl) ?_
                          refine va_get (D := (dC, dI)) (ci := 4) (v := .ref w) (C := R_F) (T := T_F) (N := 4) hx hb hts (fun w h => hsub w (uw_F w h)) hown hK hP 0 rfl rfl 0 (by decide) (hts _ (hsub _ w_181)) (fun _ h9 => h9) rfl d_F_method_72 ?_
                          refine va_get (D := (dC, dI)) (ci := 3) (v := .int 0) (C := R_W) (T := T_W) (N := 10) hx hb hts (fun w h => hsub w (uw_W w h)) hown hK hP 1 rfl rfl 9 (by decide) (hts _ (hsub _ w_204)) (fun _ h9 => h9) rfl d_F_method_75 ?_
                          refine lv_bipush (v := 8) hx hb d_F_method_78 (by decide) ?_
                          refine lv_icmp_lt (tgt := 93) hx hb d_F_method_80 (by decide) (fun c_117 => ?_) (fun c_117 => ?_)
                          · skip
                            refine lv_aload_n hx hb d_F_method_93 rfl (lv_at hl 2 rfl) ?_
                            refine va_get (D := (dC, dI)) (ci := 4) (v := .ref w) (C := R_F) (T := T_F) (N := 4) hx hb hts (fun w h => hsub w (uw_F w h)) hown hK hP 0 rfl rfl 0 (by decide) (hts _ (hsub _ w_181)) (fun _ h9 => h9) rfl d_F_method_94 ?_
                            refine lv_iload_n hx hb d_F_method_97 rfl (lv_at hl 3 rfl) ?_
                            refine lv_iload_n hx hb d_F_method_98 rfl (lv_at hl 4 rfl) ?_
                            have hPc := hP.sub (ws' := [(w, .inr (3, [.ref wp, .ref wu, .ref wi, .int 2, .ref wc, .ref wt, .ref wx, .int 0, .ref wm, .int 0])), (wm, .inl (km, 8, .inr (.inr (.inr (.inr fm)))))]) [1, 2] rfl
                            have hKc := hK.sub (tys' := [(km, .object "MapFramer$Method")]) [0] rfl
                            have hDc := hD.sub (ws' := [(w, .inr (3, [.ref wp, .ref wu, .ref wi, .int 2, .ref wc, .ref wt, .ref wx, .int 0, .ref wm, .int 0])), (wm, .inl (km, 8, .inr (.inr (.inr (.inr fm)))))]) [1, 2] (by decide) rfl
                            have hFc := va_free (wc := [(w, .inr (3, [.ref wp, .ref wu, .ref wi, .int 2, .ref wc, .ref wt, .ref wx, .int 0, .ref wm, .int 0])), (wm, .inl (km, 8, .inr (.inr (.inr (.inr fm)))))]) hD hS hA [1, 2] rfl
                            refine va_calli (va_runV (As := [.int pk, .int rs]) (rest := []) ⟨hx, hb, hml, hown, hts⟩ (k_W_addMethod l dC dI w wp wu wi wc wt wx wm km fm pk rs H.size) (cwV 2 hts (gV hsub w_205 w_206 w_207 w_4 w_208) rfl rfl rfl (by decide +kernel) ⟨Nat.le_of_ble_eq_true rfl, Nat.le_of_ble_eq_true rfl⟩) ⟨bl_1010, va_recv hKc hPc (ci := 3) (q0 := 0) rfl rfl, fun U hU hW => ⟨rfl, by rw [hU], by rw [hU]; exact hPc, va_K.moved hW.alike hKc, hDc.weaken (fun _ _ _ _ => trivial), exP_go hex hS (fun q h => hFc q h) U hU hW⟩⟩ rfl rfl hl.1 rfl (lv_room (Nat.le_of_ble_eq_true rfl)) d_F_method_99 ⟨Nat.le_of_ble_eq_true rfl, Nat.le_of_ble_eq_true rfl⟩) hS (fun q _ h => hFc q h) hFc (fun r_119 u_120 t H1 locs ht hvm hw hB hz1 hk1 hS => ?_)
                            have hP1 : va_P (dC, dI) vwCl [] H1 := nil_P
                            have hD1 : va_D (va_A [(w, .inr (3, [.ref wp, .ref wu, .ref wi, .int 2, .ref wc, .ref wt, .ref wx, .int 0, .ref wm, .int 0])), (wm, .inl (km, 8, .inr (.inr (.inr (.inr fm)))))] H.size) [] := nil_D
                            have hK1 : va_K (dC, dI) vwCl [] s := hK.sub (tys' := []) [] rfl
                            obtain ⟨hP, hD⟩ := va_join (wr := [(f, .inr (4, [.ref w, .ref k, .ref tp, .int 0]))]) (w1 := []) hP hD [1, 2] [0] rfl rfl (by decide) (by decide) hk1 hFc hP1 hD1
                            have hK := (hK.sub (tys' := [(km, .object "MapFramer$Method")]) [0] rfl).app hK1
                            generalize H1 = H at hP hS ⊢
                            have hP : va_P (dC, dI) vwCl [(f, .inr (4, [.ref w, .ref k, .ref tp, .int 0]))] H := hP
                            have hD : va_D A [(f, .inr (4, [.ref w, .ref k, .ref tp, .int 0]))] := hD
                            have hK : va_K (dC, dI) vwCl [(km, .object "MapFramer$Method")] s := hK
                            refine W.widen (k := 6) (n := 20) (Nat.le_of_ble_eq_true rfl) (Nat.le_of_ble_eq_true rfl) ?_
                            subst hw
                            refine vx_ret ?_
                            refine W.widen (k := 6) (n := 20) (Nat.le_of_ble_eq_true rfl) (Nat.le_of_ble_eq_true rfl) ?_
                            exact W.iret (v := 0) hx hb hr (fun t ht hW => ⟨⟨0, (), rfl, ⟨⟨by simp [okA, g0, g1, g2, g3, p_95, p_104, p_113, c_116], Or.inl c_116⟩, rfl⟩, trivial⟩, hS.F ht⟩) hS.2.2 d_F_method_102
                          · skip
                            first | exact absurd c_117 (by decide) | exact absurd (by decide) c_117
                        · skip
                          refine lv_aload_n hx hb d_F_method_50 rfl (lv_at hl 2 rfl) ?_
                          refine va_get (D := (dC, dI)) (ci := 4) (v := .ref w) (C := R_F) (T := T_F) (N := 4) hx hb hts (fun w h => hsub w (uw_F w h)) hown hK hP 0 rfl rfl 0 (by decide) (hts _ (hsub _ w_181)) (fun _ h9 => h9) rfl d_F_method_51 ?_
                          refine lv_iload_n hx hb d_F_method_54 rfl (lv_at hl 4 rfl) ?_
                          have hPc := hP.sub (ws' := [(w, .inr (3, [.ref wp, .ref wu, .ref wi, .int 2, .ref wc, .ref wt, .ref wx, .int 0, .ref wm, .int 0]))]) [1] rfl
                          have hKc := hK.sub (tys' := []) [] rfl
                          refine va_calli (va_runV (As := [.int rs]) (rest := []) ⟨hx, hb, hml, hown, hts⟩ (k_W_isValueType l dC dI w wp wu wi wc wt wx wm rs) (cwV 1 hts (gV hsub w_194 w_195 w_196 w_4 w_197) rfl rfl rfl (by decide +kernel) ⟨Nat.le_of_ble_eq_true rfl, Nat.le_of_ble_eq_true rfl⟩) ⟨bl_0000, va_recv hKc hPc (ci := 3) (q0 := 0) rfl rfl, fun U hU hW => ⟨rfl, by rw [hU]; exact hPc, va_K.moved hW.alike hKc⟩⟩ rfl rfl hl.1 rfl (lv_room (Nat.le_of_ble_eq_true rfl)) d_F_method_55 ⟨Nat.le_of_ble_eq_true rfl, Nat.le_of_ble_eq_true rfl⟩) hS (fun q _ h => h.elim) (fun q h => h.elim) (fun r_122 u_123 t H1 locs ht hvm hw hB hz1 hk1 hS => ?_)
                          have hP := ro_keep hP hk1
                          generalize H1 = H at hP hS ⊢
                          refine W.widen (k := 0) (n := 0) (Nat.le_of_ble_eq_true rfl) (Nat.le_of_ble_eq_true rfl) ?_
                          rcases hw with ⟨hr9, hw⟩ | ⟨hr9, hw⟩
                          · subst hr9
                            have p_124 := hw
                            refine lv_if_ne (tgt := 71) hx hb d_F_method_58 (by decide) (fun c_125 => ?_) (fun c_125 => ?_)
                            · skip
                              refine lv_aload_n hx hb d_F_method_71 rfl (lv_at hl 2 rfl) ?_
                              refine va_get (D := (dC, dI)) (ci := 4) (v := .ref w) (C := R_F) (T := T_F) (N := 4) hx hb hts (fun w h => hsub w (uw_F w h)) hown hK hP 0 rfl rfl 0 (by decide) (hts _ (hsub _ w_181)) (fun _ h9 => h9) rfl d_F_method_72 ?_
                              refine va_get (D := (dC, dI)) (ci := 3) (v := .int 0) (C := R_W) (T := T_W) (N := 10) hx hb hts (fun w h => hsub w (uw_W w h)) hown hK hP 1 rfl rfl 9 (by decide) (hts _ (hsub _ w_204)) (fun _ h9 => h9) rfl d_F_method_75 ?_
                              refine lv_bipush (v := 8) hx hb d_F_method_78 (by decide) ?_
                              refine lv_icmp_lt (tgt := 93) hx hb d_F_method_80 (by decide) (fun c_126 => ?_) (fun c_126 => ?_)
                              · skip
                                refine lv_aload_n hx hb d_F_method_93 rfl (lv_at hl 2 rfl) ?_
                                refine va_get (D := (dC, dI)) (ci := 4) (v := .ref w) (C := R_F) (T := T_F) (N := 4) hx hb hts (fun w h => hsub w (uw_F w h)) hown hK hP 0 rfl rfl 0 (by decide) (hts _ (hsub _ w_181)) (fun _ h9 => h9) rfl d_F_method_94 ?_
                                refine lv_iload_n hx hb d_F_method_97 rfl (lv_at hl 3 rfl) ?_
                                refine lv_iload_n hx hb d_F_method_98 rfl (lv_at hl 4 rfl) ?_
                                have hPc := hP.sub (ws' := [(w, .inr (3, [.ref wp, .ref wu, .ref wi, .int 2, .ref wc, .ref wt, .ref wx, .int 0, .ref wm, .int 0])), (wm, .inl (km, 8, .inr (.inr (.inr (.inr fm)))))]) [1, 2] rfl
                                have hKc := hK.sub (tys' := [(km, .object "MapFramer$Method")]) [0] rfl
                                have hDc := hD.sub (ws' := [(w, .inr (3, [.ref wp, .ref wu, .ref wi, .int 2, .ref wc, .ref wt, .ref wx, .int 0, .ref wm, .int 0])), (wm, .inl (km, 8, .inr (.inr (.inr (.inr fm)))))]) [1, 2] (by decide) rfl
                                have hFc := va_free (wc := [(w, .inr (3, [.ref wp, .ref wu, .ref wi, .int 2, .ref wc, .ref wt, .ref wx, .int 0, .ref wm, .int 0])), (wm, .inl (km, 8, .inr (.inr (.inr (.inr fm)))))]) hD hS hA [1, 2] rfl
                                refine va_calli (va_runV (As := [.int pk, .int rs]) (rest := []) ⟨hx, hb, hml, hown, hts⟩ (k_W_addMethod l dC dI w wp wu wi wc wt wx wm km fm pk rs H.size) (cwV 2 hts (gV hsub w_205 w_206 w_207 w_4 w_208) rfl rfl rfl (by decide +kernel) ⟨Nat.le_of_ble_eq_true rfl, Nat.le_of_ble_eq_true rfl⟩) ⟨bl_1010, va_recv hKc hPc (ci := 3) (q0 := 0) rfl rfl, fun U hU hW => ⟨rfl, by rw [hU], by rw [hU]; exact hPc, va_K.moved hW.alike hKc, hDc.weaken (fun _ _ _ _ => trivial), exP_go hex hS (fun q h => hFc q h) U hU hW⟩⟩ rfl rfl hl.1 rfl (lv_room (Nat.le_of_ble_eq_true rfl)) d_F_method_99 ⟨Nat.le_of_ble_eq_true rfl, Nat.le_of_ble_eq_true rfl⟩) hS (fun q _ h => hFc q h) hFc (fun r_128 u_129 t H1 locs ht hvm hw hB hz1 hk1 hS => ?_)
                                have hP1 : va_P (dC, dI) vwCl [] H1 := nil_P
                                have hD1 : va_D (va_A [(w, .inr (3, [.ref wp, .ref wu, .ref wi, .int 2, .ref wc, .ref wt, .ref wx, .int 0, .ref wm, .int 0])), (wm, .inl (km, 8, .inr (.inr (.inr (.inr fm)))))] H.size) [] := nil_D
                                have hK1 : va_K (dC, dI) vwCl [] s := hK.sub (tys' := []) [] rfl
                                obtain ⟨hP, hD⟩ := va_join (wr := [(f, .inr (4, [.ref w, .ref k, .ref tp, .int 0]))]) (w1 := []) hP hD [1, 2] [0] rfl rfl (by decide) (by decide) hk1 hFc hP1 hD1
                                have hK := (hK.sub (tys' := [(km, .object "MapFramer$Method")]) [0] rfl).app hK1
                                generalize H1 = H at hP hS ⊢
                                have hP : va_P (dC, dI) vwCl [(f, .inr (4, [.ref w, .ref k, .ref tp, .int 0]))] H := hP
                                have hD : va_D A [(f, .inr (4, [.ref w, .ref k, .ref tp, .int 0]))] := hD
                                have hK : va_K (dC, dI) vwCl [(km, .object "MapFramer$Method")] s := hK
                                refine W.widen (k := 6) (n := 20) (Nat.le_of_ble_eq_true rfl) (Nat.le_of_ble_eq_true rfl) ?_
                                subst hw
                                refine vx_ret ?_
                                refine W.widen (k := 6) (n := 20) (Nat.le_of_ble_eq_true rfl) (Nat.le_of_ble_eq_true rfl) ?_
                                exact W.iret (v := 0) hx hb hr (fun t ht hW => ⟨⟨0, (), rfl, ⟨⟨by simp [okA, g0, g1, g2, g3, p_95, p_104, p_113, c_116, p_124], Or.inr p_124⟩, rfl⟩, trivial⟩, hS.F ht⟩) hS.2.2 d_F_method_102
                              · skip
                                first | exact absurd c_126 (by decide) | exact absurd (by decide) c_126
                            · skip
                              first | exact absurd c_125 (by decide) | exact absurd (by decide) c_125
                          · subst hr9
                            have p_130 := hw
                            refine lv_if_ne (tgt := 71) hx hb d_F_method_58 (by decide) (fun c_131 => ?_) (fun c_131 => ?_)
                            · skip
                              first | exact absurd c_131 (by decide) | exact absurd (by decide) c_131
                            · skip
                              obtain ⟨sa, hsa⟩ := hex.2.2.2.2.1 (83, "no such result type") (by decide)
                              exact vx_throwS (sa := sa) (names := ["java/lang/RuntimeException", "java/lang/Exception"]) hx hb hl9 hown (by decide +kernel) (by decide +kernel) (hts _ (hsub _ w_191)) (hts _ (hsub _ w_192)) hsa (xg_IllegalArgumentException_39_at hts hsub hex) xg_IllegalArgumentException_39_ot hex.1 hex.2.1 hS (hl.1.trans hml.symm) d_F_method_61 d_F_method_64 d_F_method_65 d_F_method_67 d_F_method_70 (fun x hx9 => (hnoh x hx9).elim) (Nat.le_of_ble_eq_true rfl) (Nat.le_of_ble_eq_true rfl) (Nat.le_of_ble_eq_true rfl) (Nat.le_of_ble_eq_true rfl) hlocks (fun t hal hz hk => ⟨(), by intro h; obtain ⟨h1, h2⟩ := h; first | (simp [okA, g0, g1, g2, g3, p_95, p_104, p_113, c_116, p_130] at h1; done) | (simp [g0, g1, g2, g3, p_95, p_104, p_113, c_116, p_130] at h2; done), rfl, Nat.le_trans hS.1 hz, fun q h1 h2 => by rw [hk q (Nat.lt_of_lt_of_le h1 hS.1)]; exact hS.2.1 q h1 h2⟩) hS.2.2 (Nat.le_of_ble_eq_true rfl) (Nat.le_of_ble_eq_true rfl)
                      · skip
                        first | exact absurd c_115 (by decide) | exact absurd (by decide) c_115
                    · skip
                      first | exact absurd c_114 (by decide) | exact absurd (by decide) c_114
                  · subst hr9
                    have p_132 := hw
                    refine lv_if_ne (tgt := 40) hx hb d_F_method_27 (by decide) (fun c_133 => ?_) (fun c_133 => ?_)
                    · skip
                      first | exact absurd c_133 (by decide) | exact absurd (by decide) c_133
                    · skip
                      obtain ⟨sa, hsa⟩ := hex.2.2.2.2.1 (81, "no such argument type") (by decide)
                      exact vx_throwS (sa := sa) (names := ["java/lang/RuntimeException", "java/lang/Exception"]) hx hb hl9 hown (by decide +kernel) (by decide +kernel) (hts _ (hsub _ w_191)) (hts _ (hsub _ w_192)) hsa (xg_IllegalArgumentException_39_at hts hsub hex) xg_IllegalArgumentException_39_ot hex.1 hex.2.1 hS (hl.1.trans hml.symm) d_F_method_30 d_F_method_33 d_F_method_34 d_F_method_36 d_F_method_39 (fun x hx9 => (hnoh x hx9).elim) (Nat.le_of_ble_eq_true rfl) (Nat.le_of_ble_eq_true rfl) (Nat.le_of_ble_eq_true rfl) (Nat.le_of_ble_eq_true rfl) hlocks (fun t hal hz hk => ⟨(), by intro h; obtain ⟨h1, h2⟩ := h; first | (simp [okA, g0, g1, g2, g3, p_95, p_104, p_132] at h1; done) | (simp [g0, g1, g2, g3, p_95, p_104, p_132] at h2; done), rfl, Nat.le_trans hS.1 hz, fun q h1 h2 => by rw [hk q (Nat.lt_of_lt_of_le h1 hS.1)]; exact hS.2.1 q h1 h2⟩) hS.2.2 (Nat.le_of_ble_eq_true rfl) (Nat.le_of_ble_eq_true rfl)
              · skip
                first | exact absurd c_105 (by decide) | exact absurd (by decide) c_105
            · subst hr9
              have p_134 := hw
              refine lv_if_ne (tgt := 40) hx hb d_F_method_27 (by decide) (fun c_135 => ?_) (fun c_135 => ?_)
              · skip
                first | exact absurd c_135 (by decide) | exact absurd (by decide) c_135
              · skip
                obtain ⟨sa, hsa⟩ := hex.2.2.2.2.1 (81, "no such argument type") (by decide)
                exact vx_throwS (sa := sa) (names := ["java/lang/RuntimeException", "java/lang/Exception"]) hx hb hl9 hown (by decide +kernel) (by decide +kernel) (hts _ (hsub _ w_191)) (hts _ (hsub _ w_192)) hsa (xg_IllegalArgumentException_39_at hts hsub hex) xg_IllegalArgumentException_39_ot hex.1 hex.2.1 hS (hl.1.trans hml.symm) d_F_method_30 d_F_method_33 d_F_method_34 d_F_method_36 d_F_method_39 (fun x hx9 => (hnoh x hx9).elim) (Nat.le_of_ble_eq_true rfl) (Nat.le_of_ble_eq_true rfl) (Nat.le_of_ble_eq_true rfl) (Nat.le_of_ble_eq_true rfl) hlocks (fun t hal hz hk => ⟨(), by intro h; obtain ⟨h1, h2⟩ := h; first | (simp [okA, g0, g1, g2, g3, p_95, p_134] at h1; done) | (simp [g0, g1, g2, g3, p_95, p_134] at h2; done), rfl, Nat.le_trans hS.1 hz, fun q h1 h2 => by rw [hk q (Nat.lt_of_lt_of_le h1 hS.1)]; exact hS.2.1 q h1 h2⟩) hS.2.2 (Nat.le_of_ble_eq_true rfl) (Nat.le_of_ble_eq_true rfl)
        · skip
          first | exact absurd c_96 (by decide) | exact absurd (by decide) c_96
      · subst hr9
        have p_136 := hw
        refine lv_if_ne (tgt := 40) hx hb d_F_method_27 (by decide) (fun c_137 => ?_) (fun c_137 => ?_)
        · skip
          first | exact absurd c_137 (by decide) | exact absurd (by decide) c_137
        · skip
          obtain ⟨sa, hsa⟩ := hex.2.2.2.2.1 (81, "no such argument type") (by decide)
          exact vx_throwS (sa := sa) (names := ["java/lang/RuntimeException", "java/lang/Exception"]) hx hb hl9 hown (by decide +kernel) (by decide +kernel) (hts _ (hsub _ w_191)) (hts _ (hsub _ w_192)) hsa (xg_IllegalArgumentException_39_at hts hsub hex) xg_IllegalArgumentException_39_ot hex.1 hex.2.1 hS (hl.1.trans hml.symm) d_F_method_30 d_F_method_33 d_F_method_34 d_F_method_36 d_F_method_39 (fun x hx9 => (hnoh x hx9).elim) (Nat.le_of_ble_eq_true rfl) (Nat.le_of_ble_eq_true rfl) (Nat.le_of_ble_eq_true rfl) (Nat.le_of_ble_eq_true rfl) hlocks (fun t hal hz hk => ⟨(), by intro h; obtain ⟨h1, h2⟩ := h; first | (simp [okA, g0, g1, g2, g3, p_136] at h1; done) | (simp [g0, g1, g2, g3, p_136] at h2; done), rfl, Nat.le_trans hS.1 hz, fun q h1 h2 => by rw [hk q (Nat.lt_of_lt_of_le h1 hS.1)]; exact hS.2.1 q h1 h2⟩) hS.2.2 (Nat.le_of_ble_eq_true rfl) (Nat.le_of_ble_eq_true rfl)
  · obtain rfl : r_2 = 4 := hw.trans hn
    refine lv_istore_n (lv' := [(3, .int 4), (0, .ref f), (1, .int pk), (2, .int rs)]) hx hb d_F_method_4 rfl hl (by decide) rfl (fun ls hl => ?_)
    refine lv_iconst (v := 0) hx hb d_F_method_5 (by decide) ?_
    refine lv_istore (lv' := [(4, .int 0), (3, .int 4), (0, .ref f), (1, .int pk), (2, .int rs)]) hx hb d_F_method_6 hl (by decide) rfl (fun ls hl => ?_)
    refine lv_iload hx hb d_F_method_8 (lv_at hl 0 rfl) ?_
    refine lv_iload_n hx hb d_F_method_10 rfl (lv_at hl 1 rfl) ?_
    refine lv_icmp_ge (tgt := 46) hx hb d_F_method_11 (by decide) (fun c_138 => ?_) (fun c_138 => ?_)
    · skip
      first | exact absurd c_138 (by decide) | exact absurd (by decide) c_138
    · skip
      refine lv_aload_n hx hb d_F_method_14 rfl (lv_at hl 2 rfl) ?_
      refine va_get (D := (dC, dI)) (ci := 4) (v := .ref w) (C := R_F) (T := T_F) (N := 4) hx hb hts (fun w h => hsub w (uw_F w h)) hown hK hP 0 rfl rfl 0 (by decide) (hts _ (hsub _ w_181)) (fun _ h9 => h9) rfl d_F_method_15 ?_
      refine lv_iload_n hx hb d_F_method_18 rfl (lv_at hl 3 rfl) ?_
      refine lv_iload hx hb d_F_method_19 (lv_at hl 0 rfl) ?_
      have hPc := hP.sub (ws' := []) [] rfl
      have hKc := hK.sub (tys' := []) [] rfl
      refine va_calli (va_runS (As := [.int pk, .int 0]) (rest := [.ref w]) ⟨hx, hb, hml, hown, hts⟩ (k_W_argumentType l dC dI pk 0) (va_cwS 2 hts (gS hsub w_209 w_139 w_4 w_140) rfl rfl rfl (by decide +kernel) ⟨Nat.le_of_ble_eq_true rfl, Nat.le_of_ble_eq_true rfl⟩) ⟨bl_0000, fun U hU hW => ⟨rfl, by rw [hU]; exact hPc, va_K.moved hW.alike hKc⟩⟩ rfl rfl hl.1 rfl (lv_room (Nat.le_of_ble_eq_true rfl)) d_F_method_21 ⟨Nat.le_of_ble_eq_true rfl, Nat.le_of_ble_eq_true rfl⟩) hS (fun q _ h => h.elim) (fun q h => h.elim) (fun r_140 u_141 t H1 locs ht hvm hw hB hz1 hk1 hS => ?_)
      have hP := ro_keep hP hk1
      generalize H1 = H at hP hS ⊢
      refine W.widen (k := 0) (n := 0) (Nat.le_of_ble_eq_true rfl) (Nat.le_of_ble_eq_true rfl) ?_
      subst hw
      have hPc := hP.sub (ws' := [(w, .inr (3, [.ref wp, .ref wu, .ref wi, .int 2, .ref wc, .ref wt, .ref wx, .int 0, .ref wm, .int 0]))]) [1] rfl
      have hKc := hK.sub (tys' := []) [] rfl
      refine va_calli (va_runV (As := [.int (argX pk 0)]) (rest := []) ⟨hx, hb, hml, hown, hts⟩ (k_W_isValueType l dC dI w wp wu wi wc wt wx wm ((argX pk 0))) (cwV 1 hts (gV hsub w_194 w_195 w_196 w_4 w_197) rfl rfl rfl (by decide +kernel) ⟨Nat.le_of_ble_eq_true rfl, Nat.le_of_ble_eq_true rfl⟩) ⟨bl_0000, va_recv hKc hPc (ci := 3) (q0 := 0) rfl rfl, fun U hU hW => ⟨rfl, by rw [hU]; exact hPc, va_K.moved hW.alike hKc⟩⟩ rfl rfl hl.1 rfl (lv_room (Nat.le_of_ble_eq_true rfl)) d_F_method_24 ⟨Nat.le_of_ble_eq_true rfl, Nat.le_of_ble_eq_true rfl⟩) hS (fun q _ h => h.elim) (fun q h => h.elim) (fun r_143 u_144 t H1 locs ht hvm hw hB hz1 hk1 hS => ?_)
      have hP := ro_keep hP hk1
      generalize H1 = H at hP hS ⊢
      refine W.widen (k := 0) (n := 0) (Nat.le_of_ble_eq_true rfl) (Nat.le_of_ble_eq_true rfl) ?_
      rcases hw with ⟨hr9, hw⟩ | ⟨hr9, hw⟩
      · subst hr9
        have p_145 := hw
        refine lv_if_ne (tgt := 40) hx hb d_F_method_27 (by decide) (fun c_146 => ?_) (fun c_146 => ?_)
        · skip
          refine lv_iinc (v := 1) (lv' := [(4, .int 1), (3, .int 4), (0, .ref f), (1, .int pk), (2, .int rs)]) hx hb d_F_method_40 hl (k := 0) rfl (by decide) (by decide) rfl (fun ls hl => ?_)
          refine lv_goto (tgt := 8) hx hb d_F_method_43 (by decide) ?_
          refine lv_iload hx hb d_F_method_8 (lv_at hl 0 rfl) ?_
          refine lv_iload_n hx hb d_F_method_10 rfl (lv_at hl 1 rfl) ?_
          refine lv_icmp_ge (tgt := 46) hx hb d_F_method_11 (by decide) (fun c_147 => ?_) (fun c_147 => ?_)
          · skip
            first | exact absurd c_147 (by decide) | exact absurd (by decide) c_147
          · skip
            refine lv_aload_n hx hb d_F_method_14 rfl (lv_at hl 2 rfl) ?_
            refine va_get (D := (dC, dI)) (ci := 4) (v := .ref w) (C := R_F) (T := T_F) (N := 4) hx hb hts (fun w h => hsub w (uw_F w h)) hown hK hP 0 rfl rfl 0 (by decide) (hts _ (hsub _ w_181)) (fun _ h9 => h9) rfl d_F_method_15 ?_
            refine lv_iload_n hx hb d_F_method_18 rfl (lv_at hl 3 rfl) ?_
            refine lv_iload hx hb d_F_method_19 (lv_at hl 0 rfl) ?_
            have hPc := hP.sub (ws' := []) [] rfl
            have hKc := hK.sub (tys' := []) [] rfl
            refine va_calli (va_runS (As := [.int pk, .int 1]) (rest := [.ref w]) ⟨hx, hb, hml, hown, hts⟩ (k_W_argumentType l dC dI pk 1) (va_cwS 2 hts (gS hsub w_209 w_139 w_4 w_140) rfl rfl rfl (by decide +kernel) ⟨Nat.le_of_ble_eq_true rfl, Nat.le_of_ble_eq_true rfl⟩) ⟨bl_0000, fun U hU hW => ⟨rfl, by rw [hU]; exact hPc, va_K.moved hW.alike hKc⟩⟩ rfl rfl hl.1 rfl (lv_room (Nat.le_of_ble_eq_true rfl)) d_F_method_21 ⟨Nat.le_of_ble_eq_true rfl, Nat.le_of_ble_eq_true rfl⟩) hS (fun q _ h => h.elim) (fun q h => h.elim) (fun r_149 u_150 t H1 locs ht hvm hw hB hz1 hk1 hS => ?_)
            have hP := ro_keep hP hk1
            generalize H1 = H at hP hS ⊢
            refine W.widen (k := 0) (n := 0) (Nat.le_of_ble_eq_true rfl) (Nat.le_of_ble_eq_true rfl) ?_
            subst hw
            have hPc := hP.sub (ws' := [(w, .inr (3, [.ref wp, .ref wu, .ref wi, .int 2, .ref wc, .ref wt, .ref wx, .int 0, .ref wm, .int 0]))]) [1] rfl
            have hKc := hK.sub (tys' := []) [] rfl
            refine va_calli (va_runV (As := [.int (argX pk 1)]) (rest := []) ⟨hx, hb, hml, hown, hts⟩ (k_W_isValueType l dC dI w wp wu wi wc wt wx wm ((argX pk 1))) (cwV 1 hts (gV hsub w_194 w_195 w_196 w_4 w_197) rfl rfl rfl (by decide +kernel) ⟨Nat.le_of_ble_eq_true rfl, Nat.le_of_ble_eq_true rfl⟩) ⟨bl_0000, va_recv hKc hPc (ci := 3) (q0 := 0) rfl rfl, fun U hU hW => ⟨rfl, by rw [hU]; exact hPc, va_K.moved hW.alike hKc⟩⟩ rfl rfl hl.1 rfl (lv_room (Nat.le_of_ble_eq_true rfl)) d_F_method_24 ⟨Nat.le_of_ble_eq_true rfl, Nat.le_of_ble_eq_true rfl⟩) hS (fun q _ h => h.elim) (fun q h => h.elim) (fun r_152 u_153 t H1 locs ht hvm hw hB hz1 hk1 hS => ?_)
            have hP := ro_keep hP hk1
            generalize H1 = H at hP hS ⊢
            refine W.widen (k := 0) (n := 0) (Nat.le_of_ble_eq_true rfl) (Nat.le_of_ble_eq_true rfl) ?_
            rcases hw with ⟨hr9, hw⟩ | ⟨hr9, hw⟩
            · subst hr9
              have p_154 := hw
              refine lv_if_ne (tgt := 40) hx hb d_F_method_27 (by decide) (fun c_155 => ?_) (fun c_155 => ?_)
              · skip
                refine lv_iinc (v := 2) (lv' := [(4, .int 2), (3, .int 4), (0, .ref f), (1, .int pk), (2, .int rs)]) hx hb d_F_method_40 hl (k := 0) rfl (by decide) (by decide) rfl (fun ls hl => ?_)
                refine lv_goto (tgt := 8) hx hb d_F_method_43 (by decide) ?_
                refine lv_iload hx hb d_F_method_8 (lv_at hl 0 rfl) ?_
                refine lv_iload_n hx hb d_F_method_10 rfl (lv_at hl 1 rfl) ?_
                refine lv_icmp_ge (tgt := 46) hx hb d_F_method_11 (by decide) (fun c_156 => ?_) (fun c_156 => ?_)
                · skip
                  first | exact absurd c_156 (by decide) | exact absurd (by decide) c_156
                · skip
                  refine lv_aload_n hx hb d_F_method_14 rfl (lv_at hl 2 rfl) ?_
                  refine va_get (D := (dC, dI)) (ci := 4) (v := .ref w) (C := R_F) (T := T_F) (N := 4) hx hb hts (fun w h => hsub w (uw_F w h)) hown hK hP 0 rfl rfl 0 (by decide) (hts _ (hsub _ w_181)) (fun _ h9 => h9) rfl d_F_method_15 ?_
                  refine lv_iload_n hx hb d_F_method_18 rfl (lv_at hl 3 rfl) ?_
                  refine lv_iload hx hb d_F_method_19 (lv_at hl 0 rfl) ?_
                  have hPc := hP.sub (ws' := []) [] rfl
                  have hKc := hK.sub (tys' := []) [] rfl
                  refine va_calli (va_runS (As := [.int pk, .int 2]) (rest := [.ref w]) ⟨hx, hb, hml, hown, hts⟩ (k_W_argumentType l dC dI pk 2) (va_cwS 2 hts (gS hsub w_209 w_139 w_4 w_140) rfl rfl rfl (by decide +kernel) ⟨Nat.le_of_ble_eq_true rfl, Nat.le_of_ble_eq_true rfl⟩) ⟨bl_0000, fun U hU hW => ⟨rfl, by rw [hU]; exact hPc, va_K.moved hW.alike hKc⟩⟩ rfl rfl hl.1 rfl (lv_room (Nat.le_of_ble_eq_true rfl)) d_F_method_21 ⟨Nat.le_of_ble_eq_true rfl, Nat.le_of_ble_eq_true rfl⟩) hS (fun q _ h => h.elim) (fun q h => h.elim) (fun r_158 u_159 t H1 locs ht hvm hw hB hz1 hk1 hS => ?_)
                  have hP := ro_keep hP hk1
                  generalize H1 = H at hP hS ⊢
                  refine W.widen (k := 0) (n := 0) (Nat.le_of_ble_eq_true rfl) (Nat.le_of_ble_eq_true rfl) ?_
                  subst hw
                  have hPc := hP.sub (ws' := [(w, .inr (3, [.ref wp, .ref wu, .ref wi, .int 2, .ref wc, .ref wt, .ref wx, .int 0, .ref wm, .int 0]))]) [1] rfl
                  have hKc := hK.sub (tys' := []) [] rfl
                  refine va_calli (va_runV (As := [.int (argX pk 2)]) (rest := []) ⟨hx, hb, hml, hown, hts⟩ (k_W_isValueType l dC dI w wp wu wi wc wt wx wm ((argX pk 2))) (cwV 1 hts (gV hsub w_194 w_195 w_196 w_4 w_197) rfl rfl rfl (by decide +kernel) ⟨Nat.le_of_ble_eq_true rfl, Nat.le_of_ble_eq_true rfl⟩) ⟨bl_0000, va_recv hKc hPc (ci := 3) (q0 := 0) rfl rfl, fun U hU hW => ⟨rfl, by rw [hU]; exact hPc, va_K.moved hW.alike hKc⟩⟩ rfl rfl hl.1 rfl (lv_room (Nat.le_of_ble_eq_true rfl)) d_F_method_24 ⟨Nat.le_of_ble_eq_true rfl, Nat.le_of_ble_eq_true rfl⟩) hS (fun q _ h => h.elim) (fun q h => h.elim) (fun r_161 u_162 t H1 locs ht hvm hw hB hz1 hk1 hS => ?_)
                  have hP := ro_keep hP hk1
                  generalize H1 = H at hP hS ⊢
                  refine W.widen (k := 0) (n := 0) (Nat.le_of_ble_eq_true rfl) (Nat.le_of_ble_eq_true rfl) ?_
                  rcases hw with ⟨hr9, hw⟩ | ⟨hr9, hw⟩
                  · subst hr9
                    have p_163 := hw
                    refine lv_if_ne (tgt := 40) hx hb d_F_method_27 (by decide) (fun c_164 => ?_) (fun c_164 => ?_)
                    · skip
                      refine lv_iinc (v := 3) (lv' := [(4, .int 3), (3, .int 4), (0, .ref f), (1, .int pk), (2, .int rs)]) hx hb d_F_method_40 hl (k := 0) rfl (by decide) (by decide) rfl (fun ls hl => ?_)
                      refine lv_goto (tgt := 8) hx hb d_F_method_43 (by decide) ?_
                      refine lv_iload hx hb d_F_method_8 (lv_at hl 0 rfl) ?_
                      refine lv_iload_n hx hb d_F_method_10 rfl (lv_at hl 1 rfl) ?_
                      refine lv_icmp_ge (tgt := 46) hx hb d_F_method_11 (by decide) (fun c_165 => ?_) (fun c_165 => ?_)
                      · skip
                        first | exact absurd c_165 (by decide) | exact absurd (by decide) c_165
                      · skip
                        refine lv_aload_n hx hb d_F_method_14 rfl (lv_at hl 2 rfl) ?_
                        refine va_get (D := (dC, dI)) (ci := 4) (v := .ref w) (C := R_F) (T := T_F) (N := 4) hx hb hts (fun w h => hsub w (uw_F w h)) hown hK hP 0 rfl rfl 0 (by decide) (hts _ (hsub _ w_181)) (fun _ h9 => h9) rfl d_F_method_15 ?_
                        refine lv_iload_n hx hb d_F_method_18 rfl (lv_at hl 3 rfl) ?_
                        refine lv_iload hx hb d_F_method_19 (lv_at hl 0 rfl) ?_
                        have hPc := hP.sub (ws' := []) [] rfl
                        have hKc := hK.sub (tys' := []) [] rfl
                        refine va_calli (va_runS (As := [.int pk, .int 3]) (rest := [.ref w]) ⟨hx, hb, hml, hown, hts⟩ (k_W_argumentType l dC dI pk 3) (va_cwS 2 hts (gS hsub w_209 w_139 w_4 w_140) rfl rfl rfl (by decide +kernel) ⟨Nat.le_of_ble_eq_true rfl, Nat.le_of_ble_eq_true rfl⟩) ⟨bl_0000, fun U hU hW => ⟨rfl, by rw [hU]; exact hPc, va_K.moved hW.alike hKc⟩⟩ rfl rfl hl.1 rfl (lv_room (Nat.le_of_ble_eq_true rfl)) d_F_method_21 ⟨Nat.le_of_ble_eq_true rfl, Nat.le_of_ble_eq_true rfl⟩) hS (fun q _ h => h.elim) (fun q h => h.elim) (fun r_167 u_168 t H1 locs ht hvm hw hB hz1 hk1 hS => ?_)
                        have hP := ro_keep hP hk1
                        generalize H1 = H at hP hS ⊢
                        refine W.widen (k := 0) (n := 0) (Nat.le_of_ble_eq_true rfl) (Nat.le_of_ble_eq_true rfl) ?_
                        subst hw
                        have hPc := hP.sub (ws' := [(w, .inr (3, [.ref wp, .ref wu, .ref wi, .int 2, .ref wc, .ref wt, .ref wx, .int 0, .ref wm, .int 0]))]) [1] rfl
                        have hKc := hK.sub (tys' := []) [] rfl
                        refine va_calli (va_runV (As := [.int (argX pk 3)]) (rest := []) ⟨hx, hb, hml, hown, hts⟩ (k_W_isValueType l dC dI w wp wu wi wc wt wx wm ((argX pk 3))) (cwV 1 hts (gV hsub w_194 w_195 w_196 w_4 w_197) rfl rfl rfl (by decide +kernel) ⟨Nat.le_of_ble_eq_true rfl, Nat.le_of_ble_eq_true rfl⟩) ⟨bl_0000, va_recv hKc hPc (ci := 3) (q0 := 0) rfl rfl, fun U hU hW => ⟨rfl, by rw [hU]; exact hPc, va_K.moved hW.alike hKc⟩⟩ rfl rfl hl.1 rfl (lv_room (Nat.le_of_ble_eq_true rfl)) d_F_method_24 ⟨Nat.le_of_ble_eq_true rfl, Nat.le_of_ble_eq_true rfl⟩) hS (fun q _ h => h.elim) (fun q h => h.elim) (fun r_170 u_171 t H1 locs ht hvm hw hB hz1 hk1 hS => ?_)
                        have hP := ro_keep hP hk1
                        generalize H1 = H at hP hS ⊢
                        refine W.widen (k := 0) (n := 0) (Nat.le_of_ble_eq_true rfl) (Nat.le_of_ble_eq_true rfl) ?_
                        rcases hw with ⟨hr9, hw⟩ | ⟨hr9, hw⟩
                        · subst hr9
                          have p_172 := hw
                          refine lv_if_ne (tgt := 40) hx hb d_F_method_27 (by decide) (fun c_173 => ?_) (fun c_173 => ?_)
                          · skip
                            refine lv_iinc (v := 4) (lv' := [(4, .int 4), (3, .int 4), (0, .ref f), (1, .int pk), (2, .int rs)]) hx hb d_F_method_40 hl (k := 0) rfl (by decide) (by decide) rfl (fun ls hl => ?_)
                            refine lv_goto (tgt := 8) hx hb d_F_method_43 (by decide) ?_
                            refine lv_iload hx hb d_F_method_8 (lv_at hl 0 rfl) ?_
                            refine lv_iload_n hx hb d_F_method_10 rfl (lv_at hl 1 rfl) ?_
                            refine lv_icmp_ge (tgt := 46) hx hb d_F_method_11 (by decide) (fun c_174 => ?_) (fun c_174 => ?_)
                            · skip
                              refine lv_iload_n hx hb d_F_method_46 rfl (lv_at hl 4 rfl) ?_
                              refine lv_if_eq (tgt := 71) hx hb d_F_method_47 (by decide) (fun c_175 => ?_) (fun c_175 => ?_)
                              · skip
                                refine lv_aload_n hx hb d_F_method_71 rfl (lv_at hl 2 rfl) ?_
                                refine va_get (D := (dC, dI)) (ci := 4) (v := .ref w) (C := R_F) (T := T_F) (N := 4) hx hb hts (fun w h => hsub w (uw_F w h)) hown hK hP 0 rfl rfl 0 (by decide) (hts _ (hsub _ w_181)) (fun _ h9 => h9) rfl d_F_method_72 ?_
                                refine va_get (D := (dC, dI)) (ci := 3) (v := .int 0) (C := R_W) (T := T_W) (N := 10) hx hb hts (fun w h => hsub w (uw_W w h)) hown hK hP 1 rfl rfl 9 (by decide) (hts _ (hsub _ w_204)) (fun _ h9 => h9) rfl d_F_method_75 ?_
                                refine lv_bipush (v := 8) hx hb d_F_method_78 (by decide) ?_
                                refine lv_icmp_lt (tgt := 93) hx hb d_F_method_80 (by decide) (fun c_176 => ?_) (fun c_176 => ?_)
                                · skip
                                  refine lv_aload_n hx hb d_F_method_93 rfl (lv_at hl 2 rfl) ?_
                                  refine va_get (D := (dC, dI)) (ci := 4) (v := .ref w) (C := R_F) (T := T_F) (N := 4) hx hb hts (fun w h => hsub w (uw_F w h)) hown hK hP 0 rfl rfl 0 (by decide) (hts _ (hsub _ w_181)) (fun _ h9 => h9) rfl d_F_method_94 ?_
                                  refine lv_iload_n hx hb d_F_method_97 rfl (lv_at hl 3 rfl) ?_
                                  refine lv_iload_n hx hb d_F_method_98 rfl (lv_at hl 4 rfl) ?_
                                  have hPc := hP.sub (ws' := [(w, .inr (3, [.ref wp, .ref wu, .ref wi, .int 2, .ref wc, .ref wt, .ref wx, .int 0, .ref wm, .int 0])), (wm, .inl (km, 8, .inr (.inr (.inr (.inr fm)))))]) [1, 2] rfl
                                  have hKc := hK.sub (tys' := [(km, .object "MapFramer$Method")]) [0] rfl
                                  have hDc := hD.sub (ws' := [(w, .inr (3, [.ref wp, .ref wu, .ref wi, .int 2, .ref wc, .ref wt, .ref wx, .int 0, .ref wm, .int 0])), (wm, .inl (km, 8, .inr (.inr (.inr (.inr fm)))))]) [1, 2] (by decide) rfl
                                  have hFc := va_free (wc := [(w, .inr (3, [.ref wp, .ref wu, .ref wi, .int 2, .ref wc, .ref wt, .ref wx, .int 0, .ref wm, .int 0])), (wm, .inl (km, 8, .inr (.inr (.inr (.inr fm)))))]) hD hS hA [1, 2] rfl
                                  refine va_calli (va_runV (As := [.int pk, .int rs]) (rest := []) ⟨hx, hb, hml, hown, hts⟩ (k_W_addMethod l dC dI w wp wu wi wc wt wx wm km fm pk rs H.size) (cwV 2 hts (gV hsub w_205 w_206 w_207 w_4 w_208) rfl rfl rfl (by decide +kernel) ⟨Nat.le_of_ble_eq_true rfl, Nat.le_of_ble_eq_true rfl⟩) ⟨bl_1010, va_recv hKc hPc (ci := 3) (q0 := 0) rfl rfl, fun U hU hW => ⟨rfl, by rw [hU], by rw [hU]; exact hPc, va_K.moved hW.alike hKc, hDc.weaken (fun _ _ _ _ => trivial), exP_go hex hS (fun q h => hFc q h) U hU hW⟩⟩ rfl rfl hl.1 rfl (lv_room (Nat.le_of_ble_eq_true rfl)) d_F_method_99 ⟨Nat.le_of_ble_eq_true rfl, Nat.le_of_ble_eq_true rfl⟩) hS (fun q _ h => hFc q h) hFc (fun r_178 u_179 t H1 locs ht hvm hw hB hz1 hk1 hS => ?_)
                                  have hP1 : va_P (dC, dI) vwCl [] H1 := nil_P
                                  have hD1 : va_D (va_A [(w, .inr (3, [.ref wp, .ref wu, .ref wi, .int 2, .ref wc, .ref wt, .ref wx, .int 0, .ref wm, .int 0])), (wm, .inl (km, 8, .inr (.inr (.inr (.inr fm)))))] H.size) [] := nil_D
                                  have hK1 : va_K (dC, dI) vwCl [] s := hK.sub (tys' := []) [] rfl
                                  obtain ⟨hP, hD⟩ := va_join (wr := [(f, .inr (4, [.ref w, .ref k, .ref tp, .int 0]))]) (w1 := []) hP hD [1, 2] [0] rfl rfl (by decide) (by decide) hk1 hFc hP1 hD1
                                  have hK := (hK.sub (tys' := [(km, .object "MapFramer$Method")]) [0] rfl).app hK1
                                  generalize H1 = H at hP hS ⊢
                                  have hP : va_P (dC, dI) vwCl [(f, .inr (4, [.ref w, .ref k, .ref tp, .int 0]))] H := hP
                                  have hD : va_D A [(f, .inr (4, [.ref w, .ref k, .ref tp, .int 0]))] := hD
                                  have hK : va_K (dC, dI) vwCl [(km, .object "MapFramer$Method")] s := hK
                                  refine W.widen (k := 6) (n := 20) (Nat.le_of_ble_eq_true rfl) (Nat.le_of_ble_eq_true rfl) ?_
                                  subst hw
                                  refine vx_ret ?_
                                  refine W.widen (k := 6) (n := 20) (Nat.le_of_ble_eq_true rfl) (Nat.le_of_ble_eq_true rfl) ?_
                                  exact W.iret (v := 0) hx hb hr (fun t ht hW => ⟨⟨0, (), rfl, ⟨⟨by simp [okA, g0, g1, g2, g3, p_145, p_154, p_163, p_172, c_175], Or.inl c_175⟩, rfl⟩, trivial⟩, hS.F ht⟩) hS.2.2 d_F_method_102
                                · skip
                                  first | exact absurd c_176 (by decide) | exact absurd (by decide) c_176
                              · skip
                                refine lv_aload_n hx hb d_F_method_50 rfl (lv_at hl 2 rfl) ?_
                                refine va_get (D := (dC, dI)) (ci := 4) (v := .ref w) (C := R_F) (T := T_F) (N := 4) hx hb hts (fun w h => hsub w (uw_F w h)) hown hK hP 0 rfl rfl 0 (by decide) (hts _ (hsub _ w_181)) (fun _ h9 => h9) rfl d_F_method_51 ?_
                                refine lv_iload_n hx hb d_F_method_54 rfl (lv_at hl 4 rfl) ?_
                                have hPc := hP.sub (ws' := [(w, .inr (3, [.ref wp, .ref wu, .ref wi, .int 2, .ref wc, .ref wt, .ref wx, .int 0, .ref wm, .int 0]))]) [1] rfl
                                have hKc := hK.sub (tys' := []) [] rfl
                                refine va_calli (va_runV (As := [.int rs]) (rest := []) ⟨hx, hb, hml, hown, hts⟩ (k_W_isValueType l dC dI w wp wu wi wc wt wx wm rs) (cwV 1 hts (gV hsub w_194 w_195 w_196 w_4 w_197) rfl rfl rfl (by decide +kernel) ⟨Nat.le_of_ble_eq_true rfl, Nat.le_of_ble_eq_true rfl⟩) ⟨bl_0000, va_recv hKc hPc (ci := 3) (q0 := 0) rfl rfl, fun U hU hW => ⟨rfl, by rw [hU]; exact hPc, va_K.moved hW.alike hKc⟩⟩ rfl rfl hl.1 rfl (lv_room (Nat.le_of_ble_eq_true rfl)) d_F_method_55 ⟨Nat.le_of_ble_eq_true rfl, Nat.le_of_ble_eq_true rfl⟩) hS (fun q _ h => h.elim) (fun q h => h.elim) (fun r_181 u_182 t H1 locs ht hvm hw hB hz1 hk1 hS => ?_)
                                have hP := ro_keep hP hk1
                                generalize H1 = H at hP hS ⊢
                                refine W.widen (k := 0) (n := 0) (Nat.le_of_ble_eq_true rfl) (Nat.le_of_ble_eq_true rfl) ?_
                                rcases hw with ⟨hr9, hw⟩ | ⟨hr9, hw⟩
                                · subst hr9
                                  have p_183 := hw
                                  refine lv_if_ne (tgt := 71) hx hb d_F_method_58 (by decide) (fun c_184 => ?_) (fun c_184 => ?_)
                                  · skip
                                    refine lv_aload_n hx hb d_F_method_71 rfl (lv_at hl 2 rfl) ?_
                                    refine va_get (D := (dC, dI)) (ci := 4) (v := .ref w) (C := R_F) (T := T_F) (N := 4) hx hb hts (fun w h => hsub w (uw_F w h)) hown hK hP 0 rfl rfl 0 (by decide) (hts _ (hsub _ w_181)) (fun _ h9 => h9) rfl d_F_method_72 ?_
                                    refine va_get (D := (dC, dI)) (ci := 3) (v := .int 0) (C := R_W) (T := T_W) (N := 10) hx hb hts (fun w h => hsub w (uw_W w h)) hown hK hP 1 rfl rfl 9 (by decide) (hts _ (hsub _ w_204)) (fun _ h9 => h9) rfl d_F_method_75 ?_
                                    refine lv_bipush (v := 8) hx hb d_F_method_78 (by decide) ?_
                                    refine lv_icmp_lt (tgt := 93) hx hb d_F_method_80 (by decide) (fun c_185 => ?_) (fun c_185 => ?_)
                                    · skip
                                      refine lv_aload_n hx hb d_F_method_93 rfl (lv_at hl 2 rfl) ?_
                                      refine va_get (D := (dC, dI)) (ci := 4) (v := .ref w) (C := R_F) (T := T_F) (N := 4) hx hb hts (fun w h => hsub w (uw_F w h)) hown hK hP 0 rfl rfl 0 (by decide) (hts _ (hsub _ w_181)) (fun _ h9 => h9) rfl d_F_method_94 ?_
                                      refine lv_iload_n hx hb d_F_method_97 rfl (lv_at hl 3 rfl) ?_
                                      refine lv_iload_n hx hb d_F_method_98 rfl (lv_at hl 4 rfl) ?_
                                      have hPc := hP.sub (ws' := [(w, .inr (3, [.ref wp, .ref wu, .ref wi, .int 2, .ref wc, .ref wt, .ref wx, .int 0, .ref wm, .int 0])), (wm, .inl (km, 8, .inr (.inr (.inr (.inr fm)))))]) [1, 2] rfl
                                      have hKc := hK.sub (tys' := [(km, .object "MapFramer$Method")]) [0] rfl
                                      have hDc := hD.sub (ws' := [(w, .inr (3, [.ref wp, .ref wu, .ref wi, .int 2, .ref wc, .ref wt, .ref wx, .int 0, .ref wm, .int 0])), (wm, .inl (km, 8, .inr (.inr (.inr (.inr fm)))))]) [1, 2] (by decide) rfl
                                      have hFc := va_free (wc := [(w, .inr (3, [.ref wp, .ref wu, .ref wi, .int 2, .ref wc, .ref wt, .ref wx, .int 0, .ref wm, .int 0])), (wm, .inl (km, 8, .inr (.inr (.inr (.inr fm)))))]) hD hS hA [1, 2] rfl
                                      refine va_calli (va_runV (As := [.int pk, .int rs]) (rest := []) ⟨hx, hb, hml, hown, hts⟩ (k_W_addMethod l dC dI w wp wu wi wc wt wx wm km fm pk rs H.size) (cwV 2 hts (gV hsub w_205 w_206 w_207 w_4 w_208) rfl rfl rfl (by decide +kernel) ⟨Nat.le_of_ble_eq_true rfl, Nat.le_of_ble_eq_true rfl⟩) ⟨bl_1010, va_recv hKc hPc (ci := 3) (q0 := 0) rfl rfl, fun U hU hW => ⟨rfl, by rw [hU], by rw [hU]; exact hPc, va_K.moved hW.alike hKc, hDc.weaken (fun _ _ _ _ => trivial), exP_go hex hS (fun q h => hFc q h) U hU hW⟩⟩ rfl rfl hl.1 rfl (lv_room (Nat.le_of_ble_eq_true rfl)) d_F_method_99 ⟨Nat.le_of_ble_eq_true rfl, Nat.le_of_ble_eq_true rfl⟩) hS (fun q _ h => hFc q h) hFc (fun r_187 u_188 t H1 locs ht hvm hw hB hz1 hk1 hS => ?_)
                                      have hP1 : va_P (dC, dI) vwCl [] H1 := nil_P
                                      have hD1 : va_D (va_A [(w, .inr (3, [.ref wp, .ref wu, .ref wi, .int 2, .ref wc, .ref wt, .ref wx, .int 0, .ref wm, .int 0])), (wm, .inl (km, 8, .inr (.inr (.inr (.inr fm)))))] H.size) [] := nil_D
                                      have hK1 : va_K (dC, dI) vwCl [] s := hK.sub (tys' := []) [] rfl
                                      obtain ⟨hP, hD⟩ := va_join (wr := [(f, .inr (4, [.ref w, .ref k, .ref tp, .int 0]))]) (w1 := []) hP hD [1, 2] [0] rfl rfl (by decide) (by decide) hk1 hFc hP1 hD1
                                      have hK := (hK.sub (tys' := [(km, .object "MapFramer$Method")]) [0] rfl).app hK1
                                      generalize H1 = H at hP hS ⊢
                                      have hP : va_P (dC, dI) vwCl [(f, .inr (4, [.ref w, .ref k, .ref tp, .int 0]))] H := hP
                                      have hD : va_D A [(f, .inr (4, [.ref w, .ref k, .ref tp, .int 0]))] := hD
                                      have hK : va_K (dC, dI) vwCl [(km, .object "MapFramer$Method")] s := hK
                                      refine W.widen (k := 6) (n := 20) (Nat.le_of_ble_eq_true rfl) (Nat.le_of_ble_eq_true rfl) ?_
                                      subst hw
                                      refine vx_ret ?_
                                      refine W.widen (k := 6) (n := 20) (Nat.le_of_ble_eq_true rfl) (Nat.le_of_ble_eq_true rfl) ?_
                                      exact W.iret (v := 0) hx hb hr (fun t ht hW => ⟨⟨0, (), rfl, ⟨⟨by simp [okA, g0, g1, g2, g3, p_145, p_154, p_163, p_172, c_175, p_183], Or.inr p_183⟩, rfl⟩, trivial⟩, hS.F ht⟩) hS.2.2 d_F_method_102
                                    · skip
                                      first | exact absurd c_185 (by decide) | exact absurd (by decide) c_185
                                  · skip
                                    first | exact absurd c_184 (by decide) | exact absurd (by decide) c_184
                                · subst hr9
                                  have p_189 := hw
                                  refine lv_if_ne (tgt := 71) hx hb d_F_method_58 (by decide) (fun c_190 => ?_) (fun c_190 => ?_)
                                  · skip
                                    first | exact absurd c_190 (by decide) | exact absurd (by decide) c_190
                                  · skip
                                    obtain ⟨sa, hsa⟩ := hex.2.2.2.2.1 (83, "no such result type") (by decide)
                                    exact vx_throwS (sa := sa) (names := ["java/lang/RuntimeException", "java/lang/Exception"]) hx hb hl9 hown (by decide +kernel) (by decide +kernel) (hts _ (hsub _ w_191)) (hts _ (hsub _ w_192)) hsa (xg_IllegalArgumentException_39_at hts hsub hex) xg_IllegalArgumentException_39_ot hex.1 hex.2.1 hS (hl.1.trans hml.symm) d_F_method_61 d_F_method_64 d_F_method_65 d_F_method_67 d_F_method_70 (fun x hx9 => (hnoh x hx9).elim) (Nat.le_of_ble_eq_true rfl) (Nat.le_of_ble_eq_true rfl) (Nat.le_of_ble_eq_true rfl) (Nat.le_of_ble_eq_true rfl) hlocks (fun t hal hz hk => ⟨(), by intro h; obtain ⟨h1, h2⟩ := h; first | (simp [okA, g0, g1, g2, g3, p_145, p_154, p_163, p_172, c_175, p_189] at h1; done) | (simp [g0, g1, g2, g3, p_145, p_154, p_163, p_172, c_175, p_189] at h2; done), rfl, Nat.le_trans hS.1 hz, fun q h1 h2 => by rw [hk q (Nat.lt_of_lt_of_le h1 hS.1)]; exact hS.2.1 q h1 h2⟩) hS.2.2 (Nat.le_of_ble_eq_true rfl) (Nat.le_of_ble_eq_true rfl)
                            · skip
                              first | exact absurd c_174 (by decide) | exact absurd (by decide) c_174
                          · skip
                            first | exact absurd c_173 (by decide) | exact absurd (by decide) c_173
                        · subst hr9
                          have p_191 := hw
                          refine lv_if_ne (tgt := 40) hx hb d_F_method_27 (by decide) (fun c_192 => ?_) (fun c_192 => ?_)
                          · skip
                            first | exact absurd c_192 (by decide) | exact absurd (by decide) c_192
                          · skip
                            obtain ⟨sa, hsa⟩ := hex.2.2.2.2.1 (81, "no such argument type") (by decide)
                            exact vx_throwS (sa := sa) (names := ["java/lang/RuntimeException", "java/lang/Exception"]) hx hb hl9 hown (by decide +kernel) (by decide +kernel) (hts _ (hsub _ w_191)) (hts _ (hsub _ w_192)) hsa (xg_IllegalArgumentException_39_at hts hsub hex) xg_IllegalArgumentException_39_ot hex.1 hex.2.1 hS (hl.1.trans hml.symm) d_F_method_30 d_F_method_33 d_F_method_34 d_F_method_36 d_F_method_39 (fun x hx9 => (hnoh x hx9).elim) (Nat.le_of_ble_eq_true rfl) (Nat.le_of_ble_eq_true rfl) (Nat.le_of_ble_eq_true rfl) (Nat.le_of_ble_eq_true rfl) hlocks (fun t hal hz hk => ⟨(), by intro h; obtain ⟨h1, h2⟩ := h; first | (simp [okA, g0, g1, g2, g3, p_145, p_154, p_163, p_191] at h1; done) | (simp [g0, g1, g2, g3, p_145, p_154, p_163, p_191] at h2; done), rfl, Nat.le_trans hS.1 hz, fun q h1 h2 => by rw [hk q (Nat.lt_of_lt_of_le h1 hS.1)]; exact hS.2.1 q h1 h2⟩) hS.2.2 (Nat.le_of_ble_eq_true rfl) (Nat.le_of_ble_eq_true rfl)
                    · skip
                      first | exact absurd c_164 (by decide) | exact absurd (by decide) c_164
                  · subst hr9
                    have p_193 := hw
                    refine lv_if_ne (tgt := 40) hx hb d_F_method_27 (by decide) (fun c_194 => ?_) (fun c_194 => ?_)
                    · skip
                      first | exact absurd c_194 (by decide) | exact absurd (by decide) c_194
                    · skip
                      obtain ⟨sa, hsa⟩ := hex.2.2.2.2.1 (81, "no such argument type") (by decide)
                      exact vx_throwS (sa := sa) (names := ["java/lang/RuntimeException", "java/lang/Exception"]) hx hb hl9 hown (by decide +kernel) (by decide +kernel) (hts _ (hsub _ w_191)) (hts _ (hsub _ w_192)) hsa (xg_IllegalArgumentException_39_at hts hsub hex) xg_IllegalArgumentException_39_ot hex.1 hex.2.1 hS (hl.1.trans hml.symm) d_F_method_30 d_F_method_33 d_F_method_34 d_F_method_36 d_F_method_39 (fun x hx9 => (hnoh x hx9).elim) (Nat.le_of_ble_eq_true rfl) (Nat.le_of_ble_eq_true rfl) (Nat.le_of_ble_eq_true rfl) (Nat.le_of_ble_eq_true rfl) hlocks (fun t hal hz hk => ⟨(), by intro h; obtain ⟨h1, h2⟩ := h; first | (simp [okA, g0, g1, g2, g3, p_145, p_154, p_193] at h1; done) | (simp [g0, g1, g2, g3, p_145, p_154, p_193] at h2; done), rfl, Nat.le_trans hS.1 hz, fun q h1 h2 => by rw [hk q (Nat.lt_of_lt_of_le h1 hS.1)]; exact hS.2.1 q h1 h2⟩) hS.2.2 (Nat.le_of_ble_eq_true rfl) (Nat.le_of_ble_eq_true rfl)
              · skip
                first | exact absurd c_155 (by decide) | exact absurd (by decide) c_155
            · subst hr9
              have p_195 := hw
              refine lv_if_ne (tgt := 40) hx hb d_F_method_27 (by decide) (fun c_196 => ?_) (fun c_196 => ?_)
              · skip
                first | exact absurd c_196 (by decide) | exact absurd (by decide) c_196
              · skip
                obtain ⟨sa, hsa⟩ := hex.2.2.2.2.1 (81, "no such argument type") (by decide)
                exact vx_throwS (sa := sa) (names := ["java/lang/RuntimeException", "java/lang/Exception"]) hx hb hl9 hown (by decide +kernel) (by decide +kernel) (hts _ (hsub _ w_191)) (hts _ (hsub _ w_192)) hsa (xg_IllegalArgumentException_39_at hts hsub hex) xg_IllegalArgumentException_39_ot hex.1 hex.2.1 hS (hl.1.trans hml.symm) d_F_method_30 d_F_method_33 d_F_method_34 d_F_method_36 d_F_method_39 (fun x hx9 => (hnoh x hx9).elim) (Nat.le_of_ble_eq_true rfl) (Nat.le_of_ble_eq_true rfl) (Nat.le_of_ble_eq_true rfl) (Nat.le_of_ble_eq_true rfl) hlocks (fun t hal hz hk => ⟨(), by intro h; obtain ⟨h1, h2⟩ := h; first | (simp [okA, g0, g1, g2, g3, p_145, p_195] at h1; done) | (simp [g0, g1, g2, g3, p_145, p_195] at h2; done), rfl, Nat.le_trans hS.1 hz, fun q h1 h2 => by rw [hk q (Nat.lt_of_lt_of_le h1 hS.1)]; exact hS.2.1 q h1 h2⟩) hS.2.2 (Nat.le_of_ble_eq_true rfl) (Nat.le_of_ble_eq_true rfl)
        · skip
          first | exact absurd c_146 (by decide) | exact absurd (by decide) c_146
      · subst hr9
        have p_197 := hw
        refine lv_if_ne (tgt := 40) hx hb d_F_method_27 (by decide) (fun c_198 => ?_) (fun c_198 => ?_)
        · skip
          first | exact absurd c_198 (by decide) | exact absurd (by decide) c_198
        · skip
          obtain ⟨sa, hsa⟩ := hex.2.2.2.2.1 (81, "no such argument type") (by decide)
          exact vx_throwS (sa := sa) (names := ["java/lang/RuntimeException", "java/lang/Exception"]) hx hb hl9 hown (by decide +kernel) (by decide +kernel) (hts _ (hsub _ w_191)) (hts _ (hsub _ w_192)) hsa (xg_IllegalArgumentException_39_at hts hsub hex) xg_IllegalArgumentException_39_ot hex.1 hex.2.1 hS (hl.1.trans hml.symm) d_F_method_30 d_F_method_33 d_F_method_34 d_F_method_36 d_F_method_39 (fun x hx9 => (hnoh x hx9).elim) (Nat.le_of_ble_eq_true rfl) (Nat.le_of_ble_eq_true rfl) (Nat.le_of_ble_eq_true rfl) (Nat.le_of_ble_eq_true rfl) hlocks (fun t hal hz hk => ⟨(), by intro h; obtain ⟨h1, h2⟩ := h; first | (simp [okA, g0, g1, g2, g3, p_197] at h1; done) | (simp [g0, g1, g2, g3, p_197] at h2; done), rfl, Nat.le_trans hS.1 hz, fun q h1 h2 => by rw [hk q (Nat.lt_of_lt_of_le h1 hS.1)]; exact hS.2.1 q h1 h2⟩) hS.2.2 (Nat.le_of_ble_eq_true rfl) (Nat.le_of_ble_eq_true rfl)

abbrev ws_k_F_feed (f w k tp : Nat) (kt9 : ClassId) : va_W := [(f, .inr (4, [.ref w, .ref k, .ref tp, .int 0])), (tp, .inl (kt9, 400, .inl (fun _ => 0)))]
set_option maxHeartbeats 4000000 in
set_option maxRecDepth 100000 in
theorem k_F_feed (l : Launch) (dC : Nat → ClassId) (dI : Nat → Nat → Nat) (f w k tp : Nat) (kt9 : ClassId) (by4 : Int32) (sz : Nat) : Met l y_F_feed (Cond.code y_F_feed prog_1_method_5_code 3 (some .boolean) :: bigW) ({ frames := 0, cells := 0, slots := 0, locals := 0 } : Room) (va_Pc [.ref f, .int by4] (fun U => U.heap.size = sz ∧ va_P (dC, dI) vwCl (ws_k_F_feed f w k tp kt9) U.heap ∧ va_K (dC, dI) vwCl [(kt9, .int)] U ∧ va_D (fun _ => True) (ws_k_F_feed f w k tp kt9))) (va_Qi (fun (r : Int32) (u : Unit) => r = 1) (fun _ _ => True) (va_A (ws_k_F_feed f w k tp kt9) sz)) 0 0 (va_A (ws_k_F_feed f w k tp kt9) sz) := by
  refine Met.ofW (cc := prog_1_method_5_code) (maxL := 3) (ret := (some .boolean)) (by decide) rfl ?_
  intro p e s m args below meth cx s₁ B hml hv
  obtain ⟨rfl, hsz, hP, hK, hD0⟩ := hv
  have hx := B.exec
  have hb := B.bytes
  have hr := B.returns
  have hts := atoms_spec (ws := (Cond.code y_F_feed prog_1_method_5_code 3 (some .boolean) :: bigW)) B.pre
  have hsub : ∀ w ∈ bigW, w ∈ (Cond.code y_F_feed prog_1_method_5_code 3 (some .boolean) :: bigW) := fun w h => List.mem_cons_of_mem _ h
  have hown : s.vm.findClass "MapFramer" = some m.cls := findClass_of_methodNamed B.named
  have hlocks := B.notSynchronized
  subst hsz
  have hD := hD0.self (sz := s.heap.size)
  generalize hAe : va_A (ws_k_F_feed f w k tp kt9) s.heap.size = A at hD ⊢
  have hA : ∀ q : Nat, s.heap.size ≤ q → A q := fun q h => by rw [← hAe]; exact Or.inr h
  have hS : va_S A s.heap s.heap [] := va_S.rf
  have hP : va_P (dC, dI) vwCl [(f, .inr (4, [.ref w, .ref k, .ref tp, .int 0])), (tp, .inl (kt9, 400, .inl (fun _ => 0)))] s.heap := hP
  have hD : va_D A [(f, .inr (4, [.ref w, .ref k, .ref tp, .int 0])), (tp, .inl (kt9, 400, .inl (fun _ => 0)))] := hD
  have hl := lv_entry ([.ref f, .int by4]) (n := 3) (Nat.le_of_ble_eq_true rfl)
  rw [lg_entry_eq]
  generalize (lg_sl ([.ref f, .int by4]) ++ List.replicate (3 - (lg_sl ([.ref f, .int by4])).length) Slot.unset).toArray = ls at hl ⊢
  have hl : lv_has ls 3 [(0, .ref f), (1, .int by4)] := hl
  refine lv_aload_n hx hb d_F_feed_0 rfl (lv_at hl 0 rfl) ?_
  refine va_get (D := (dC, dI)) (ci := 4) (v := .int 0) (C := R_F) (T := T_F) (N := 4) hx hb hts (fun w h => hsub w (uw_F w h)) hown hK hP 0 rfl rfl 3 (by decide) (hts _ (hsub _ w_210)) (fun _ h9 => h9) rfl d_F_feed_1 ?_
  refine lv_iconst (v := 4) hx hb d_F_feed_4 (by decide) ?_
  refine lv_iadd hx hb d_F_feed_5 ?_
  refine tp_i 4 (by decide) ?_
  refine lv_sipush (v := 400) hx hb d_F_feed_6 (by decide) ?_
  refine lv_icmp_le (tgt := 14) hx hb d_F_feed_9 (by decide) (fun c_1 => ?_) (fun c_1 => ?_)
  · skip
    refine lv_bipush (v := 24) hx hb d_F_feed_14 (by decide) ?_
    refine lv_istore_n (lv' := [(2, .int 24), (0, .ref f), (1, .int by4)]) hx hb d_F_feed_16 rfl hl (by decide) rfl (fun ls hl => ?_)
    refine lv_iload_n hx hb d_F_feed_17 rfl (lv_at hl 0 rfl) ?_
    refine lv_if_lt (tgt := 53) hx hb d_F_feed_18 (by decide) (fun c_2 => ?_) (fun c_2 => ?_)
    · skip
      first | exact absurd c_2 (by decide) | exact absurd (by decide) c_2
    · skip
      refine lv_aload_n hx hb d_F_feed_21 rfl (lv_at hl 1 rfl) ?_
      refine va_get (D := (dC, dI)) (ci := 4) (v := .ref tp) (C := R_F) (T := T_F) (N := 4) hx hb hts (fun w h => hsub w (uw_F w h)) hown hK hP 0 rfl rfl 2 (by decide) (hts _ (hsub _ w_211)) (fun _ h9 => h9) rfl d_F_feed_22 ?_
      refine lv_aload_n hx hb d_F_feed_25 rfl (lv_at hl 1 rfl) ?_
      refine va_get (D := (dC, dI)) (ci := 4) (v := .int 0) (C := R_F) (T := T_F) (N := 4) hx hb hts (fun w h => hsub w (uw_F w h)) hown hK hP 0 rfl rfl 3 (by decide) (hts _ (hsub _ w_210)) (fun _ h9 => h9) rfl d_F_feed_26 ?_
      refine lv_iload_n hx hb d_F_feed_29 rfl (lv_at hl 2 rfl) ?_
      refine lv_iload_n hx hb d_F_feed_30 rfl (lv_at hl 0 rfl) ?_
      refine lv_iushr (v := ((by4 : Int32).toUInt32 >>> ((24 : Int32).toUInt32 &&& Int32.toUInt32 31)).toInt32) hx hb d_F_feed_31 rfl ?_
      refine lv_topi (fun x_3 ex_3 => ?_)
      refine lv_sipush (v := 255) hx hb d_F_feed_32 (by decide) ?_
      refine lv_iand hx hb d_F_feed_35 ?_
      refine lv_topi (fun x_4 ex_4 => ?_)
      refine va_iast hx hb hK hP hD hS 1 0 rfl rfl (vp_in_iff.mpr (by decide)) d_F_feed_36 (fun H locs hP hD hS => ?_)
      have hP : va_P (dC, dI) vwCl [(f, .inr (4, [.ref w, .ref k, .ref tp, .int 0])), (tp, .inl (kt9, 400, .inl (upd (fun _ => 0) (0 : Int32).toNatClampNeg x_4)))] H := hP
      have hD : va_D A [(f, .inr (4, [.ref w, .ref k, .ref tp, .int 0])), (tp, .inl (kt9, 400, .inl (upd (fun _ => 0) (0 : Int32).toNatClampNeg x_4)))] := hD
      refine lv_aload_n hx hb d_F_feed_37 rfl (lv_at hl 1 rfl) ?_
      refine lv_dup hx hb d_F_feed_38 rfl ?_
      refine va_get (D := (dC, dI)) (ci := 4) (v := .int 0) (C := R_F) (T := T_F) (N := 4) hx hb hts (fun w h => hsub w (uw_F w h)) hown hK hP 0 rfl rfl 3 (by decide) (hts _ (hsub _ w_210)) (fun _ h9 => h9) rfl d_F_feed_39 ?_
      refine lv_iconst (v := 1) hx hb d_F_feed_42 (by decide) ?_
      refine lv_iadd hx hb d_F_feed_43 ?_
      refine tp_i 1 (by decide) ?_
      refine va_put (D := (dC, dI)) (ci := 4) (v := .int 1) (ty := .int) (C := R_F) (T := T_F) (N := 4) hx hb hts (fun w h => hsub w (uw_F w h)) ty_F tok_F nm_F hown hK hP hD hS 0 rfl rfl 3 (by decide) (hts _ (hsub _ w_210)) (fun _ h9 => h9) rfl (by decide +kernel) rfl rfl (Nat.le_of_ble_eq_true rfl) d_F_feed_44 (fun H locs hP hD hS => ?_)
      have hP : va_P (dC, dI) vwCl [(f, .inr (4, [.ref w, .ref k, .ref tp, .int 1])), (tp, .inl (kt9, 400, .inl (upd (fun _ => 0) (0 : Int32).toNatClampNeg x_4)))] H := hP
      have hD : va_D A [(f, .inr (4, [.ref w, .ref k, .ref tp, .int 1])), (tp, .inl (kt9, 400, .inl (upd (fun _ => 0) (0 : Int32).toNatClampNeg x_4)))] := hD
      refine lv_iinc (v := 16) (lv' := [(2, .int 16), (0, .ref f), (1, .int by4)]) hx hb d_F_feed_47 hl (k := 0) rfl (by decide) (by decide) rfl (fun ls hl => ?_)
      refine lv_goto (tgt := 17) hx hb d_F_feed_50 (by decide) ?_
      refine lv_iload_n hx hb d_F_feed_17 rfl (lv_at hl 0 rfl) ?_
      refine lv_if_lt (tgt := 53) hx hb d_F_feed_18 (by decide) (fun c_5 => ?_) (fun c_5 => ?_)
      · skip
        first | exact absurd c_5 (by decide) | exact absurd (by decide) c_5
      · skip
        refine lv_aload_n hx hb d_F_feed_21 rfl (lv_at hl 1 rfl) ?_
        refine va_get (D := (dC, dI)) (ci := 4) (v := .ref tp) (C := R_F) (T := T_F) (N := 4) hx hb hts (fun w h => hsub w (uw_F w h)) hown hK hP 0 rfl rfl 2 (by decide) (hts _ (hsub _ w_211)) (fun _ h9 => h9) rfl d_F_feed_22 ?_
        refine lv_aload_n hx hb d_F_feed_25 rfl (lv_at hl 1 rfl) ?_
        refine va_get (D := (dC, dI)) (ci := 4) (v := .int 1) (C := R_F) (T := T_F) (N := 4) hx hb hts (fun w h => hsub w (uw_F w h)) hown hK hP 0 rfl rfl 3 (by decide) (hts _ (hsub _ w_210)) (fun _ h9 => h9) rfl d_F_feed_26 ?_
        refine lv_iload_n hx hb d_F_feed_29 rfl (lv_at hl 2 rfl) ?_
        refine lv_iload_n hx hb d_F_feed_30 rfl (lv_at hl 0 rfl) ?_
        refine lv_iushr (v := ((by4 : Int32).toUInt32 >>> ((16 : Int32).toUInt32 &&& Int32.toUInt32 31)).toInt32) hx hb d_F_feed_31 rfl ?_
        refine lv_topi (fun x_6 ex_6 => ?_)
        refine lv_sipush (v := 255) hx hb d_F_feed_32 (by decide) ?_
        refine lv_iand hx hb d_F_feed_35 ?_
        refine lv_topi (fun x_7 ex_7 => ?_)
        refine va_iast hx hb hK hP hD hS 1 0 rfl rfl (vp_in_iff.mpr (by decide)) d_F_feed_36 (fun H locs hP hD hS => ?_)
        have hP : va_P (dC, dI) vwCl [(f, .inr (4, [.ref w, .ref k, .ref tp, .int 1])), (tp, .inl (kt9, 400, .inl (upd (upd (fun _ => 0) (0 : Int32).toNatClampNeg x_4) (1 : Int32).toNatClampNeg x_7)))] H := hP
        have hD : va_D A [(f, .inr (4, [.ref w, .ref k, .ref tp, .int 1])), (tp, .inl (kt9, 400, .inl (upd (upd (fun _ => 0) (0 : Int32).toNatClampNeg x_4) (1 : Int32).toNatClampNeg x_7)))] := hD
        refine lv_aload_n hx hb d_F_feed_37 rfl (lv_at hl 1 rfl) ?_
        refine lv_dup hx hb d_F_feed_38 rfl ?_
        refine va_get (D := (dC, dI)) (ci := 4) (v := .int 1) (C := R_F) (T := T_F) (N := 4) hx hb hts (fun w h => hsub w (uw_F w h)) hown hK hP 0 rfl rfl 3 (by decide) (hts _ (hsub _ w_210)) (fun _ h9 => h9) rfl d_F_feed_39 ?_
        refine lv_iconst (v := 1) hx hb d_F_feed_42 (by decide) ?_
        refine lv_iadd hx hb d_F_feed_43 ?_
        refine tp_i 2 (by decide) ?_
        refine va_put (D := (dC, dI)) (ci := 4) (v := .int 2) (ty := .int) (C := R_F) (T := T_F) (N := 4) hx hb hts (fun w h => hsub w (uw_F w h)) ty_F tok_F nm_F hown hK hP hD hS 0 rfl rfl 3 (by decide) (hts _ (hsub _ w_210)) (fun _ h9 => h9) rfl (by decide +kernel) rfl rfl (Nat.le_of_ble_eq_true rfl) d_F_feed_44 (fun H locs hP hD hS => ?_)
        have hP : va_P (dC, dI) vwCl [(f, .inr (4, [.ref w, .ref k, .ref tp, .int 2])), (tp, .inl (kt9, 400, .inl (upd (upd (fun _ => 0) (0 : Int32).toNatClampNeg x_4) (1 : Int32).toNatClampNeg x_7)))] H := hP
        have hD : va_D A [(f, .inr (4, [.ref w, .ref k, .ref tp, .int 2])), (tp, .inl (kt9, 400, .inl (upd (upd (fun _ => 0) (0 : Int32).toNatClampNeg x_4) (1 : Int32).toNatClampNeg x_7)))] := hD
        refine lv_iinc (v := 8) (lv' := [(2, .int 8), (0, .ref f), (1, .int by4)]) hx hb d_F_feed_47 hl (k := 0) rfl (by decide) (by decide) rfl (fun ls hl => ?_)
        refine lv_goto (tgt := 17) hx hb d_F_feed_50 (by decide) ?_
        refine lv_iload_n hx hb d_F_feed_17 rfl (lv_at hl 0 rfl) ?_
        refine lv_if_lt (tgt := 53) hx hb d_F_feed_18 (by decide) (fun c_8 => ?_) (fun c_8 => ?_)
        · skip
          first | exact absurd c_8 (by decide) | exact absurd (by decide) c_8
        · skip
          refine lv_aload_n hx hb d_F_feed_21 rfl (lv_at hl 1 rfl) ?_
          refine va_get (D := (dC, dI)) (ci := 4) (v := .ref tp) (C := R_F) (T := T_F) (N := 4) hx hb hts (fun w h => hsub w (uw_F w h)) hown hK hP 0 rfl rfl 2 (by decide) (hts _ (hsub _ w_211)) (fun _ h9 => h9) rfl d_F_feed_22 ?_
          refine lv_aload_n hx hb d_F_feed_25 rfl (lv_at hl 1 rfl) ?_
          refine va_get (D := (dC, dI)) (ci := 4) (v := .int 2) (C := R_F) (T := T_F) (N := 4) hx hb hts (fun w h => hsub w (uw_F w h)) hown hK hP 0 rfl rfl 3 (by decide) (hts _ (hsub _ w_210)) (fun _ h9 => h9) rfl d_F_feed_26 ?_
          refine lv_iload_n hx hb d_F_feed_29 rfl (lv_at hl 2 rfl) ?_
          refine lv_iload_n hx hb d_F_feed_30 rfl (lv_at hl 0 rfl) ?_
          refine lv_iushr (v := ((by4 : Int32).toUInt32 >>> ((8 : Int32).toUInt32 &&& Int32.toUInt32 31)).toInt32) hx hb d_F_feed_31 rfl ?_
          refine lv_topi (fun x_9 ex_9 => ?_)
          refine lv_sipush (v := 255) hx hb d_F_feed_32 (by decide) ?_
          refine lv_iand hx hb d_F_feed_35 ?_
          refine lv_topi (fun x_10 ex_10 => ?_)
          refine va_iast hx hb hK hP hD hS 1 0 rfl rfl (vp_in_iff.mpr (by decide)) d_F_feed_36 (fun H locs hP hD hS => ?_)
          have hP : va_P (dC, dI) vwCl [(f, .inr (4, [.ref w, .ref k, .ref tp, .int 2])), (tp, .inl (kt9, 400, .inl (upd (upd (upd (fun _ => 0) (0 : Int32).toNatClampNeg x_4) (1 : Int32).toNatClampNeg x_7) (2 : Int32).toNatClampNeg x_10)))] H := hP
          have hD : va_D A [(f, .inr (4, [.ref w, .ref k, .ref tp, .int 2])), (tp, .inl (kt9, 400, .inl (upd (upd (upd (fun _ => 0) (0 : Int32).toNatClampNeg x_4) (1 : Int32).toNatClampNeg x_7) (2 : Int32).toNatClampNeg x_10)))] := hD
          refine lv_aload_n hx hb d_F_feed_37 rfl (lv_at hl 1 rfl) ?_
          refine lv_dup hx hb d_F_feed_38 rfl ?_
          refine va_get (D := (dC, dI)) (ci := 4) (v := .int 2) (C := R_F) (T := T_F) (N := 4) hx hb hts (fun w h => hsub w (uw_F w h)) hown hK hP 0 rfl rfl 3 (by decide) (hts _ (hsub _ w_210)) (fun _ h9 => h9) rfl d_F_feed_39 ?_
          refine lv_iconst (v := 1) hx hb d_F_feed_42 (by decide) ?_
          refine lv_iadd hx hb d_F_feed_43 ?_
          refine tp_i 3 (by decide) ?_
          refine va_put (D := (dC, dI)) (ci := 4) (v := .int 3) (ty := .int) (C := R_F) (T := T_F) (N := 4) hx hb hts (fun w h => hsub w (uw_F w h)) ty_F tok_F nm_F hown hK hP hD hS 0 rfl rfl 3 (by decide) (hts _ (hsub _ w_210)) (fun _ h9 => h9) rfl (by decide +kernel) rfl rfl (Nat.le_of_ble_eq_true rfl) d_F_feed_44 (fun H locs hP hD hS => ?_)
          have hP : va_P (dC, dI) vwCl [(f, .inr (4, [.ref w, .ref k, .ref tp, .int 3])), (tp, .inl (kt9, 400, .inl (upd (upd (upd (fun _ => 0) (0 : Int32).toNatClampNeg x_4) (1 : Int32).toNatClampNeg x_7) (2 : Int32).toNatClampNeg x_10)))] H := hP
          have hD : va_D A [(f, .inr (4, [.ref w, .ref k, .ref tp, .int 3])), (tp, .inl (kt9, 400, .inl (upd (upd (upd (fun _ => 0) (0 : Int32).toNatClampNeg x_4) (1 : Int32).toNatClampNeg x_7) (2 : Int32).toNatClampNeg x_10)))] := hD
          refine lv_iinc (v := 0) (lv' := [(2, .int 0), (0, .ref f), (1, .int by4)]) hx hb d_F_feed_47 hl (k := 0) rfl (by decide) (by decide) rfl (fun ls hl => ?_)
          refine lv_goto (tgt := 17) hx hb d_F_feed_50 (by decide) ?_
          refine lv_iload_n hx hb d_F_feed_17 rfl (lv_at hl 0 rfl) ?_
          refine lv_if_lt (tgt := 53) hx hb d_F_feed_18 (by decide) (fun c_11 => ?_) (fun c_11 => ?_)
          · skip
            first | exact absurd c_11 (by decide) | exact absurd (by decide) c_11
          · skip
            refine lv_aload_n hx hb d_F_feed_21 rfl (lv_at hl 1 rfl) ?_
            refine va_get (D := (dC, dI)) (ci := 4) (v := .ref tp) (C := R_F) (T := T_F) (N := 4) hx hb hts (fun w h => hsub w (uw_F w h)) hown hK hP 0 rfl rfl 2 (by decide) (hts _ (hsub _ w_211)) (fun _ h9 => h9) rfl d_F_feed_22 ?_
            refine lv_aload_n hx hb d_F_feed_25 rfl (lv_at hl 1 rfl) ?_
            refine va_get (D := (dC, dI)) (ci := 4) (v := .int 3) (C := R_F) (T := T_F) (N := 4) hx hb hts (fun w h => hsub w (uw_F w h)) hown hK hP 0 rfl rfl 3 (by decide) (hts _ (hsub _ w_210)) (fun _ h9 => h9) rfl d_F_feed_26 ?_
            refine lv_iload_n hx hb d_F_feed_29 rfl (lv_at hl 2 rfl) ?_
            refine lv_iload_n hx hb d_F_feed_30 rfl (lv_at hl 0 rfl) ?_
            refine lv_iushr (v := ((by4 : Int32).toUInt32 >>> ((0 : Int32).toUInt32 &&& Int32.toUInt32 31)).toInt32) hx hb d_F_feed_31 rfl ?_
            refine lv_topi (fun x_12 ex_12 => ?_)
            refine lv_sipush (v := 255) hx hb d_F_feed_32 (by decide) ?_
            refine lv_iand hx hb d_F_feed_35 ?_
            refine lv_topi (fun x_13 ex_13 => ?_)
            refine va_iast hx hb hK hP hD hS 1 0 rfl rfl (vp_in_iff.mpr (by decide)) d_F_feed_36 (fun H locs hP hD hS => ?_)
            have hP : va_P (dC, dI) vwCl [(f, .inr (4, [.ref w, .ref k, .ref tp, .int 3])), (tp, .inl (kt9, 400, .inl (upd (upd (upd (upd (fun _ => 0) (0 : Int32).toNatClampNeg x_4) (1 : Int32).toNatClampNeg x_7) (2 : Int32).toNatClampNeg x_10) (3 : Int32).toNatClampNeg x_13)))] H := hP
            have hD : va_D A [(f, .inr (4, [.ref w, .ref k, .ref tp, .int 3])), (tp, .inl (kt9, 400, .inl (upd (upd (upd (upd (fun _ => 0) (0 : Int32).toNatClampNeg x_4) (1 : Int32).toNatClampNeg x_7) (2 : Int32).toNatClampNeg x_10) (3 : Int32).toNatClampNeg x_13)))] := hD
            refine lv_aload_n hx hb d_F_feed_37 rfl (lv_at hl 1 rfl) ?_
            refine lv_dup hx hb d_F_feed_38 rfl ?_
            refine va_get (D := (dC, dI)) (ci := 4) (v := .int 3) (C := R_F) (T := T_F) (N := 4) hx hb hts (fun w h => hsub w (uw_F w h)) hown hK hP 0 rfl rfl 3 (by decide) (hts _ (hsub _ w_210)) (fun _ h9 => h9) rfl d_F_feed_39 ?_
            refine lv_iconst (v := 1) hx hb d_F_feed_42 (by decide) ?_
            refine lv_iadd hx hb d_F_feed_43 ?_
            refine tp_i 4 (by decide) ?_
            refine va_put (D := (dC, dI)) (ci := 4) (v := .int 4) (ty := .int) (C := R_F) (T := T_F) (N := 4) hx hb hts (fun w h => hsub w (uw_F w h)) ty_F tok_F nm_F hown hK hP hD hS 0 rfl rfl 3 (by decide) (hts _ (hsub _ w_210)) (fun _ h9 => h9) rfl (by decide +kernel) rfl rfl (Nat.le_of_ble_eq_true rfl) d_F_feed_44 (fun H locs hP hD hS => ?_)
            have hP : va_P (dC, dI) vwCl [(f, .inr (4, [.ref w, .ref k, .ref tp, .int 4])), (tp, .inl (kt9, 400, .inl (upd (upd (upd (upd (fun _ => 0) (0 : Int32).toNatClampNeg x_4) (1 : Int32).toNatClampNeg x_7) (2 : Int32).toNatClampNeg x_10) (3 : Int32).toNatClampNeg x_13)))] H := hP
            have hD : va_D A [(f, .inr (4, [.ref w, .ref k, .ref tp, .int 4])), (tp, .inl (kt9, 400, .inl (upd (upd (upd (upd (fun _ => 0) (0 : Int32).toNatClampNeg x_4) (1 : Int32).toNatClampNeg x_7) (2 : Int32).toNatClampNeg x_10) (3 : Int32).toNatClampNeg x_13)))] := hD
            refine lv_iinc (v := (-8)) (lv' := [(2, .int (-8)), (0, .ref f), (1, .int by4)]) hx hb d_F_feed_47 hl (k := 0) rfl (by decide) (by decide) rfl (fun ls hl => ?_)
            refine lv_goto (tgt := 17) hx hb d_F_feed_50 (by decide) ?_
            refine lv_iload_n hx hb d_F_feed_17 rfl (lv_at hl 0 rfl) ?_
            refine lv_if_lt (tgt := 53) hx hb d_F_feed_18 (by decide) (fun c_14 => ?_) (fun c_14 => ?_)
            · skip
              refine lv_iconst (v := 1) hx hb d_F_feed_53 (by decide) ?_
              refine W.widen (k := 0) (n := 0) (Nat.le_of_ble_eq_true rfl) (Nat.le_of_ble_eq_true rfl) ?_
              exact W.zret (v := 1) hx hb hr rfl (fun t ht hW => ⟨⟨1, (), rfl, rfl, trivial⟩, hS.F ht⟩) hS.2.2 d_F_feed_54
            · skip
              first | exact absurd c_14 (by decide) | exact absurd (by decide) c_14
  · skip
    first | exact absurd c_1 (by decide) | exact absurd (by decide) c_1

abbrev ws_k_F_code (f w k tp wp wu wi wc wt wx wm : Nat) : va_W := [(f, .inr (4, [.ref w, .ref k, .ref tp, .int 0])), (w, .inr (3, [.ref wp, .ref wu, .ref wi, .int 2, .ref wc, .ref wt, .ref wx, .int 0, .ref wm, .int 0]))]
set_option maxHeartbeats 4000000 in
set_option maxRecDepth 100000 in
theorem k_F_code (l : Launch) (hl9 : l.stackTraces = false) (dC : Nat → ClassId) (dI : Nat → Nat → Nat) (f w k tp wp wu wi wc wt wx wm : Nat) (a1 : Int32) (a2 : Int32) (a3 : Int32) (a4 : Int32) (sz : Nat) : vx_Met l y_F_code (Cond.code y_F_code prog_1_method_6_code 7 none :: bigW) ({ frames := 6, cells := 1, slots := 6, locals := 82 } : Room) (va_Pc [.ref f, .int a1, .int a2, .int a3, .int a4] (fun U => U.heap.size = sz ∧ va_P (dC, dI) vwCl (ws_k_F_code f w k tp wp wu wi wc wt wx wm) U.heap ∧ va_K (dC, dI) vwCl [] U ∧ va_D (fun _ => True) (ws_k_F_code f w k tp wp wu wi wc wt wx wm) ∧ exP (va_A (ws_k_F_code f w k tp wp wu wi wc wt wx wm) sz) U)) (va_Qv (fun (u : Unit) => False) (fun _ _ => True) (va_A (ws_k_F_code f w k tp wp wu wi wc wt wx wm) sz)) (vx_X (S := Unit) (fun _ => True) (fun E _ _ => E = "java/lang/IllegalArgumentException") (va_A (ws_k_F_code f w k tp wp wu wi wc wt wx wm) sz)) 1 6 (va_A (ws_k_F_code f w k tp wp wu wi wc wt wx wm) sz) := by
  refine vx_ofW (cc := prog_1_method_6_code) (maxL := 7) (ret := none) (by decide) rfl ?_
  intro p e s m args below meth cx s₁ B hml hnoh hv
  obtain ⟨rfl, hsz, hP, hK, hD0, hex⟩ := hv
  have hx := B.exec
  have hb := B.bytes
  have hr := B.returns
  have hts := atoms_spec (ws := (Cond.code y_F_code prog_1_method_6_code 7 none :: bigW)) B.pre
  have hsub : ∀ w ∈ bigW, w ∈ (Cond.code y_F_code prog_1_method_6_code 7 none :: bigW) := fun w h => List.mem_cons_of_mem _ h
  have hown : s.vm.findClass "MapFramer" = some m.cls := findClass_of_methodNamed B.named
  have hlocks := B.notSynchronized
  subst hsz
  have hD := hD0.self (sz := s.heap.size)
  generalize hAe : va_A (ws_k_F_code f w k tp wp wu wi wc wt wx wm) s.heap.size = A at hD hex ⊢
  have hA : ∀ q : Nat, s.heap.size ≤ q → A q := fun q h => by rw [← hAe]; exact Or.inr h
  have hS : va_S A s.heap s.heap [] := va_S.rf
  have hP : va_P (dC, dI) vwCl [(f, .inr (4, [.ref w, .ref k, .ref tp, .int 0])), (w, .inr (3, [.ref wp, .ref wu, .ref wi, .int 2, .ref wc, .ref wt, .ref wx, .int 0, .ref wm, .int 0]))] s.heap := hP
  have hD : va_D A [(f, .inr (4, [.ref w, .ref k, .ref tp, .int 0])), (w, .inr (3, [.ref wp, .ref wu, .ref wi, .int 2, .ref wc, .ref wt, .ref wx, .int 0, .ref wm, .int 0]))] := hD
  have hl := lv_entry ([.ref f, .int a1, .int a2, .int a3, .int a4]) (n := 7) (Nat.le_of_ble_eq_true rfl)
  rw [lg_entry_eq]
  generalize (lg_sl ([.ref f, .int a1, .int a2, .int a3, .int a4]) ++ List.replicate (7 - (lg_sl ([.ref f, .int a1, .int a2, .int a3, .int a4])).length) Slot.unset).toArray = ls at hl ⊢
  have hl : lv_has ls 7 [(0, .ref f), (1, .int a1), (2, .int a2), (3, .int a3), (4, .int a4)] := hl
  refine lv_aload_n hx hb d_F_code_0 rfl (lv_at hl 0 rfl) ?_
  refine va_get (D := (dC, dI)) (ci := 4) (v := .int 0) (C := R_F) (T := T_F) (N := 4) hx hb hts (fun w h => hsub w (uw_F w h)) hown hK hP 0 rfl rfl 3 (by decide) (hts _ (hsub _ w_210)) (fun _ h9 => h9) rfl d_F_code_1 ?_
  refine lv_istore (lv' := [(5, .int 0), (0, .ref f), (1, .int a1), (2, .int a2), (3, .int a3), (4, .int a4)]) hx hb d_F_code_4 hl (by decide) rfl (fun ls hl => ?_)
  refine lv_aload_n hx hb d_F_code_6 rfl (lv_at hl 1 rfl) ?_
  refine lv_iconst (v := 0) hx hb d_F_code_7 (by decide) ?_
  refine va_put (D := (dC, dI)) (ci := 4) (v := .int 0) (ty := .int) (C := R_F) (T := T_F) (N := 4) hx hb hts (fun w h => hsub w (uw_F w h)) ty_F tok_F nm_F hown hK hP hD hS 0 rfl rfl 3 (by decide) (hts _ (hsub _ w_210)) (fun _ h9 => h9) rfl (by decide +kernel) rfl rfl (Nat.le_of_ble_eq_true rfl) d_F_code_8 (fun H locs hP hD hS => ?_)
  have hP : va_P (dC, dI) vwCl [(f, .inr (4, [.ref w, .ref k, .ref tp, .int 0])), (w, .inr (3, [.ref wp, .ref wu, .ref wi, .int 2, .ref wc, .ref wt, .ref wx, .int 0, .ref wm, .int 0]))] H := hP
  have hD : va_D A [(f, .inr (4, [.ref w, .ref k, .ref tp, .int 0])), (w, .inr (3, [.ref wp, .ref wu, .ref wi, .int 2, .ref wc, .ref wt, .ref wx, .int 0, .ref wm, .int 0]))] := hD
  refine lv_aload_n hx hb d_F_code_11 rfl (lv_at hl 1 rfl) ?_
  refine va_get (D := (dC, dI)) (ci := 4) (v := .ref w) (C := R_F) (T := T_F) (N := 4) hx hb hts (fun w h => hsub w (uw_F w h)) hown hK hP 0 rfl rfl 0 (by decide) (hts _ (hsub _ w_181)) (fun _ h9 => h9) rfl d_F_code_12 ?_
  refine lv_iload_n hx hb d_F_code_15 rfl (lv_at hl 2 rfl) ?_
  have hPc := hP.sub (ws' := [(w, .inr (3, [.ref wp, .ref wu, .ref wi, .int 2, .ref wc, .ref wt, .ref wx, .int 0, .ref wm, .int 0]))]) [1] rfl
  have hKc := hK.sub (tys' := []) [] rfl
  refine va_callq (va_runV (As := [.int a1]) (rest := []) ⟨hx, hb, hml, hown, hts⟩ (k_W_methodAt l dC dI w wp wu wi wc wt wx wm a1) (cwV 1 hts (gV hsub w_212 w_213 w_214 w_4 w_215) rfl rfl rfl (by decide +kernel) ⟨Nat.le_of_ble_eq_true rfl, Nat.le_of_ble_eq_true rfl⟩) ⟨bl_0000, va_recv hKc hPc (ci := 3) (q0 := 0) rfl rfl, fun U hU hW => ⟨rfl, by rw [hU]; exact hPc, va_K.moved hW.alike hKc⟩⟩ rfl rfl hl.1 rfl (lv_room (Nat.le_of_ble_eq_true rfl)) d_F_code_16 ⟨Nat.le_of_ble_eq_true rfl, Nat.le_of_ble_eq_true rfl⟩) hS (fun q _ h => h.elim) (fun q h => h.elim) (fun r_2 u_3 t H1 locs ht hvm hw hB hz1 hk1 hS => ?_)
  have hP := ro_keep hP hk1
  generalize H1 = H at hP hS ⊢
  refine W.widen (k := 0) (n := 0) (Nat.le_of_ble_eq_true rfl) (Nat.le_of_ble_eq_true rfl) ?_
  subst hw
  refine W.eq (g2 := F0 m 19 ls [.null]) rfl ?_
  refine lv_astoreN (lv' := [(6, .null), (5, .int 0), (0, .ref f), (1, .int a1), (2, .int a2), (3, .int a3), (4, .int a4)]) hx hb d_F_code_19 hl (by decide) rfl (fun ls hl => ?_)
  refine lv_aloadN hx hb d_F_code_21 (lv_at hl 0 rfl) ?_
  refine lv_ifnullN (tgt := 43) hx hb d_F_code_23 (by decide) ?_
  obtain ⟨sa, hsa⟩ := hex.2.2.2.2.1 (97, "no such method, or not so many bytes") (by decide)
  exact vx_throwS (sa := sa) (names := ["java/lang/RuntimeException", "java/lang/Exception"]) hx hb hl9 hown (by decide +kernel) (by decide +kernel) (hts _ (hsub _ w_191)) (hts _ (hsub _ w_192)) hsa (xg_IllegalArgumentException_39_at hts hsub hex) xg_IllegalArgumentException_39_ot hex.1 hex.2.1 hS (hl.1.trans hml.symm) d_F_code_43 d_F_code_46 d_F_code_47 d_F_code_49 d_F_code_52 (fun x hx9 => (hnoh x hx9).elim) (Nat.le_of_ble_eq_true rfl) (Nat.le_of_ble_eq_true rfl) (Nat.le_of_ble_eq_true rfl) (Nat.le_of_ble_eq_true rfl) hlocks (fun t hal hz hk => ⟨(), trivial, rfl, Nat.le_trans hS.1 hz, fun q h1 h2 => by rw [hk q (Nat.lt_of_lt_of_le h1 hS.1)]; exact hS.2.1 q h1 h2⟩) hS.2.2 (Nat.le_of_ble_eq_true rfl) (Nat.le_of_ble_eq_true rfl)

abbrev ws_k_F_handler (f w k tp wp wu wi wc wt wx wm : Nat) : va_W := [(f, .inr (4, [.ref w, .ref k, .ref tp, .int 0])), (w, .inr (3, [.ref wp, .ref wu, .ref wi, .int 2, .ref wc, .ref wt, .ref wx, .int 0, .ref wm, .int 0]))]
set_option maxHeartbeats 4000000 in
set_option maxRecDepth 100000 in
theorem k_F_handler (l : Launch) (hl9 : l.stackTraces = false) (dC : Nat → ClassId) (dI : Nat → Nat → Nat) (f w k tp wp wu wi wc wt wx wm : Nat) (a1 : Int32) (a2 : Int32) (a3 : Int32) (a4 : Int32) (a5 : Int32) : vx_Met l y_F_handler (Cond.code y_F_handler prog_1_method_7_code 8 (some .int) :: bigW) ({ frames := 6, cells := 1, slots := 6, locals := 82 } : Room) (va_Pc [.ref f, .int a1, .int a2, .int a3, .int a4, .int a5] (fun U => va_P (dC, dI) vwCl (ws_k_F_handler f w k tp wp wu wi wc wt wx wm) U.heap ∧ va_K (dC, dI) vwCl [] U ∧ exP (fun _ => False) U)) (va_Qi (fun (r : Int32) (u : Unit) => False) (fun _ _ => True) (fun _ => False)) (vx_X (S := Unit) (fun _ => True) (fun E _ _ => E = "java/lang/IllegalArgumentException") (fun _ => False)) 1 6 (fun _ => False) := by
  refine vx_ofW (cc := prog_1_method_7_code) (maxL := 8) (ret := (some .int)) (by decide) rfl ?_
  intro p e s m args below meth cx s₁ B hml hnoh hv
  obtain ⟨rfl, hP, hK, hex⟩ := hv
  have hx := B.exec
  have hb := B.bytes
  have hr := B.returns
  have hts := atoms_spec (ws := (Cond.code y_F_handler prog_1_method_7_code 8 (some .int) :: bigW)) B.pre
  have hsub : ∀ w ∈ bigW, w ∈ (Cond.code y_F_handler prog_1_method_7_code 8 (some .int) :: bigW) := fun w h => List.mem_cons_of_mem _ h
  have hown : s.vm.findClass "MapFramer" = some m.cls := findClass_of_methodNamed B.named
  have hlocks := B.notSynchronized
  have hS : va_S (fun _ => False) s.heap s.heap [] := va_S.rf
  have hP : va_P (dC, dI) vwCl [(f, .inr (4, [.ref w, .ref k, .ref tp, .int 0])), (w, .inr (3, [.ref wp, .ref wu, .ref wi, .int 2, .ref wc, .ref wt, .ref wx, .int 0, .ref wm, .int 0]))] s.heap := hP
  have hl := lv_entry ([.ref f, .int a1, .int a2, .int a3, .int a4, .int a5]) (n := 8) (Nat.le_of_ble_eq_true rfl)
  rw [lg_entry_eq]
  generalize (lg_sl ([.ref f, .int a1, .int a2, .int a3, .int a4, .int a5]) ++ List.replicate (8 - (lg_sl ([.ref f, .int a1, .int a2, .int a3, .int a4, .int a5])).length) Slot.unset).toArray = ls at hl ⊢
  have hl : lv_has ls 8 [(0, .ref f), (1, .int a1), (2, .int a2), (3, .int a3), (4, .int a4), (5, .int a5)] := hl
  refine lv_aload_n hx hb d_F_handler_0 rfl (lv_at hl 0 rfl) ?_
  refine va_get (D := (dC, dI)) (ci := 4) (v := .ref w) (C := R_F) (T := T_F) (N := 4) hx hb hts (fun w h => hsub w (uw_F w h)) hown hK hP 0 rfl rfl 0 (by decide) (hts _ (hsub _ w_181)) (fun _ h9 => h9) rfl d_F_handler_1 ?_
  refine lv_iload_n hx hb d_F_handler_4 rfl (lv_at hl 1 rfl) ?_
  have hPc := hP.sub (ws' := [(w, .inr (3, [.ref wp, .ref wu, .ref wi, .int 2, .ref wc, .ref wt, .ref wx, .int 0, .ref wm, .int 0]))]) [1] rfl
  have hKc := hK.sub (tys' := []) [] rfl
  refine va_callq (va_runV (As := [.int a1]) (rest := []) ⟨hx, hb, hml, hown, hts⟩ (k_W_methodAt l dC dI w wp wu wi wc wt wx wm a1) (cwV 1 hts (gV hsub w_212 w_213 w_214 w_4 w_215) rfl rfl rfl (by decide +kernel) ⟨Nat.le_of_ble_eq_true rfl, Nat.le_of_ble_eq_true rfl⟩) ⟨bl_0000, va_recv hKc hPc (ci := 3) (q0 := 0) rfl rfl, fun U hU hW => ⟨rfl, by rw [hU]; exact hPc, va_K.moved hW.alike hKc⟩⟩ rfl rfl hl.1 rfl (lv_room (Nat.le_of_ble_eq_true rfl)) d_F_handler_5 ⟨Nat.le_of_ble_eq_true rfl, Nat.le_of_ble_eq_true rfl⟩) hS (fun q _ h => h.elim) (fun q h => h.elim) (fun r_2 u_3 t H1 locs ht hvm hw hB hz1 hk1 hS => ?_)
  have hP := ro_keep hP hk1
  generalize H1 = H at hP hS ⊢
  refine W.widen (k := 0) (n := 0) (Nat.le_of_ble_eq_true rfl) (Nat.le_of_ble_eq_true rfl) ?_
  subst hw
  refine W.eq (g2 := F0 m 8 ls [.null]) rfl ?_
  refine lv_astoreN (lv' := [(6, .null), (0, .ref f), (1, .int a1), (2, .int a2), (3, .int a3), (4, .int a4), (5, .int a5)]) hx hb d_F_handler_8 hl (by decide) rfl (fun ls hl => ?_)
  refine lv_iload hx hb d_F_handler_10 (lv_at hl 6 rfl) ?_
  refine lv_iconst (v := (-1)) hx hb d_F_handler_12 (by decide) ?_
  refine lv_icmp_ne (tgt := 20) hx hb d_F_handler_13 (by decide) (fun c_4 => ?_) (fun c_4 => ?_)
  · skip
    refine lv_iload hx hb d_F_handler_20 (lv_at hl 6 rfl) ?_
    refine lv_istore (lv' := [(7, .int a5), (6, .null), (0, .ref f), (1, .int a1), (2, .int a2), (3, .int a3), (4, .int a4), (5, .int a5)]) hx hb d_F_handler_22 hl (by decide) rfl (fun ls hl => ?_)
    refine lv_aloadN hx hb d_F_handler_24 (lv_at hl 1 rfl) ?_
    refine lv_ifnullN (tgt := 62) hx hb d_F_handler_26 (by decide) ?_
    obtain ⟨sa, hsa⟩ := hex.2.2.2.2.1 (132, "no such method with code, or class") (by decide)
    exact vx_throwS (sa := sa) (names := ["java/lang/RuntimeException", "java/lang/Exception"]) hx hb hl9 hown (by decide +kernel) (by decide +kernel) (hts _ (hsub _ w_191)) (hts _ (hsub _ w_192)) hsa (xg_IllegalArgumentException_39_at hts hsub hex) xg_IllegalArgumentException_39_ot hex.1 hex.2.1 hS (hl.1.trans hml.symm) d_F_handler_62 d_F_handler_65 d_F_handler_66 d_F_handler_68 d_F_handler_71 (fun x hx9 => (hnoh x hx9).elim) (Nat.le_of_ble_eq_true rfl) (Nat.le_of_ble_eq_true rfl) (Nat.le_of_ble_eq_true rfl) (Nat.le_of_ble_eq_true rfl) hlocks (fun t hal hz hk => ⟨(), trivial, rfl, Nat.le_trans hS.1 hz, fun q h1 h2 => by rw [hk q (Nat.lt_of_lt_of_le h1 hS.1)]; exact hS.2.1 q h1 h2⟩) hS.2.2 (Nat.le_of_ble_eq_true rfl) (Nat.le_of_ble_eq_true rfl)
  · skip
    refine lv_iconst (v := 1) hx hb d_F_handler_16 (by decide) ?_
    refine lv_goto (tgt := 22) hx hb d_F_handler_17 (by decide) ?_
    refine lv_istore (lv' := [(7, .int 1), (6, .null), (0, .ref f), (1, .int a1), (2, .int a2), (3, .int a3), (4, .int a4), (5, .int a5)]) hx hb d_F_handler_22 hl (by decide) rfl (fun ls hl => ?_)
    refine lv_aloadN hx hb d_F_handler_24 (lv_at hl 1 rfl) ?_
    refine lv_ifnullN (tgt := 62) hx hb d_F_handler_26 (by decide) ?_
    obtain ⟨sa, hsa⟩ := hex.2.2.2.2.1 (132, "no such method with code, or class") (by decide)
    exact vx_throwS (sa := sa) (names := ["java/lang/RuntimeException", "java/lang/Exception"]) hx hb hl9 hown (by decide +kernel) (by decide +kernel) (hts _ (hsub _ w_191)) (hts _ (hsub _ w_192)) hsa (xg_IllegalArgumentException_39_at hts hsub hex) xg_IllegalArgumentException_39_ot hex.1 hex.2.1 hS (hl.1.trans hml.symm) d_F_handler_62 d_F_handler_65 d_F_handler_66 d_F_handler_68 d_F_handler_71 (fun x hx9 => (hnoh x hx9).elim) (Nat.le_of_ble_eq_true rfl) (Nat.le_of_ble_eq_true rfl) (Nat.le_of_ble_eq_true rfl) (Nat.le_of_ble_eq_true rfl) hlocks (fun t hal hz hk => ⟨(), trivial, rfl, Nat.le_trans hS.1 hz, fun q h1 h2 => by rw [hk q (Nat.lt_of_lt_of_le h1 hS.1)]; exact hS.2.1 q h1 h2⟩) hS.2.2 (Nat.le_of_ble_eq_true rfl) (Nat.le_of_ble_eq_true rfl)

abbrev ws_k_F_verify (f w k tp wp wu wi wc wt wx wm : Nat) : va_W := [(f, .inr (4, [.ref w, .ref k, .ref tp, .int 0])), (w, .inr (3, [.ref wp, .ref wu, .ref wi, .int 2, .ref wc, .ref wt, .ref wx, .int 0, .ref wm, .int 0]))]
set_option maxHeartbeats 4000000 in
set_option maxRecDepth 100000 in
theorem k_F_verify (l : Launch) (hl9 : l.stackTraces = false) (dC : Nat → ClassId) (dI : Nat → Nat → Nat) (f w k tp wp wu wi wc wt wx wm : Nat) (a1 : Int32) : vx_Met l y_F_verify (Cond.code y_F_verify prog_1_method_9_code 4 (some .int) :: bigW) ({ frames := 6, cells := 1, slots := 6, locals := 82 } : Room) (va_Pc [.ref f, .int a1] (fun U => va_P (dC, dI) vwCl (ws_k_F_verify f w k tp wp wu wi wc wt wx wm) U.heap ∧ va_K (dC, dI) vwCl [] U ∧ exP (fun _ => False) U)) (va_Qi (fun (r : Int32) (u : Unit) => False) (fun _ _ => True) (fun _ => False)) (vx_X (S := Unit) (fun _ => True) (fun E _ _ => E = "java/lang/IllegalArgumentException") (fun _ => False)) 1 6 (fun _ => False) := by
  refine vx_ofW (cc := prog_1_method_9_code) (maxL := 4) (ret := (some .int)) (by decide) rfl ?_
  intro p e s m args below meth cx s₁ B hml hnoh hv
  obtain ⟨rfl, hP, hK, hex⟩ := hv
  have hx := B.exec
  have hb := B.bytes
  have hr := B.returns
  have hts := atoms_spec (ws := (Cond.code y_F_verify prog_1_method_9_code 4 (some .int) :: bigW)) B.pre
  have hsub : ∀ w ∈ bigW, w ∈ (Cond.code y_F_verify prog_1_method_9_code 4 (some .int) :: bigW) := fun w h => List.mem_cons_of_mem _ h
  have hown : s.vm.findClass "MapFramer" = some m.cls := findClass_of_methodNamed B.named
  have hlocks := B.notSynchronized
  have hS : va_S (fun _ => False) s.heap s.heap [] := va_S.rf
  have hP : va_P (dC, dI) vwCl [(f, .inr (4, [.ref w, .ref k, .ref tp, .int 0])), (w, .inr (3, [.ref wp, .ref wu, .ref wi, .int 2, .ref wc, .ref wt, .ref wx, .int 0, .ref wm, .int 0]))] s.heap := hP
  have hl := lv_entry ([.ref f, .int a1]) (n := 4) (Nat.le_of_ble_eq_true rfl)
  rw [lg_entry_eq]
  generalize (lg_sl ([.ref f, .int a1]) ++ List.replicate (4 - (lg_sl ([.ref f, .int a1])).length) Slot.unset).toArray = ls at hl ⊢
  have hl : lv_has ls 4 [(0, .ref f), (1, .int a1)] := hl
  refine lv_aload_n hx hb d_F_verify_0 rfl (lv_at hl 0 rfl) ?_
  refine va_get (D := (dC, dI)) (ci := 4) (v := .ref w) (C := R_F) (T := T_F) (N := 4) hx hb hts (fun w h => hsub w (uw_F w h)) hown hK hP 0 rfl rfl 0 (by decide) (hts _ (hsub _ w_181)) (fun _ h9 => h9) rfl d_F_verify_1 ?_
  refine lv_iload_n hx hb d_F_verify_4 rfl (lv_at hl 1 rfl) ?_
  have hPc := hP.sub (ws' := [(w, .inr (3, [.ref wp, .ref wu, .ref wi, .int 2, .ref wc, .ref wt, .ref wx, .int 0, .ref wm, .int 0]))]) [1] rfl
  have hKc := hK.sub (tys' := []) [] rfl
  refine va_callq (va_runV (As := [.int a1]) (rest := []) ⟨hx, hb, hml, hown, hts⟩ (k_W_methodAt l dC dI w wp wu wi wc wt wx wm a1) (cwV 1 hts (gV hsub w_212 w_213 w_214 w_4 w_215) rfl rfl rfl (by decide +kernel) ⟨Nat.le_of_ble_eq_true rfl, Nat.le_of_ble_eq_true rfl⟩) ⟨bl_0000, va_recv hKc hPc (ci := 3) (q0 := 0) rfl rfl, fun U hU hW => ⟨rfl, by rw [hU]; exact hPc, va_K.moved hW.alike hKc⟩⟩ rfl rfl hl.1 rfl (lv_room (Nat.le_of_ble_eq_true rfl)) d_F_verify_5 ⟨Nat.le_of_ble_eq_true rfl, Nat.le_of_ble_eq_true rfl⟩) hS (fun q _ h => h.elim) (fun q h => h.elim) (fun r_2 u_3 t H1 locs ht hvm hw hB hz1 hk1 hS => ?_)
  have hP := ro_keep hP hk1
  generalize H1 = H at hP hS ⊢
  refine W.widen (k := 0) (n := 0) (Nat.le_of_ble_eq_true rfl) (Nat.le_of_ble_eq_true rfl) ?_
  subst hw
  refine W.eq (g2 := F0 m 8 ls [.null]) rfl ?_
  refine lv_astore_nN (lv' := [(2, .null), (0, .ref f), (1, .int a1)]) hx hb d_F_verify_8 rfl hl (by decide) rfl (fun ls hl => ?_)
  refine lv_aload_nN hx hb d_F_verify_9 rfl (lv_at hl 0 rfl) ?_
  refine lv_ifnullN (tgt := 20) hx hb d_F_verify_10 (by decide) ?_
  obtain ⟨sa, hsa⟩ := hex.2.2.2.2.1 (163, "no such method with code") (by decide)
  exact vx_throwS (sa := sa) (names := ["java/lang/RuntimeException", "java/lang/Exception"]) hx hb hl9 hown (by decide +kernel) (by decide +kernel) (hts _ (hsub _ w_191)) (hts _ (hsub _ w_192)) hsa (xg_IllegalArgumentException_39_at hts hsub hex) xg_IllegalArgumentException_39_ot hex.1 hex.2.1 hS (hl.1.trans hml.symm) d_F_verify_20 d_F_verify_23 d_F_verify_24 d_F_verify_26 d_F_verify_29 (fun x hx9 => (hnoh x hx9).elim) (Nat.le_of_ble_eq_true rfl) (Nat.le_of_ble_eq_true rfl) (Nat.le_of_ble_eq_true rfl) (Nat.le_of_ble_eq_true rfl) hlocks (fun t hal hz hk => ⟨(), trivial, rfl, Nat.le_trans hS.1 hz, fun q h1 h2 => by rw [hk q (Nat.lt_of_lt_of_le h1 hS.1)]; exact hS.2.1 q h1 h2⟩) hS.2.2 (Nat.le_of_ble_eq_true rfl) (Nat.le_of_ble_eq_true rfl)

abbrev ws_k_F_about (f w k tp wp wu wi wc wt wx wm : Nat) : va_W := [(f, .inr (4, [.ref w, .ref k, .ref tp, .int 0])), (w, .inr (3, [.ref wp, .ref wu, .ref wi, .int 2, .ref wc, .ref wt, .ref wx, .int 0, .ref wm, .int 0]))]
set_option maxHeartbeats 4000000 in
set_option maxRecDepth 100000 in
theorem k_F_about (l : Launch) (hl9 : l.stackTraces = false) (dC : Nat → ClassId) (dI : Nat → Nat → Nat) (f w k tp wp wu wi wc wt wx wm : Nat) (a1 : Int32) (a2 : Int32) : vx_Met l y_F_about (Cond.code y_F_about prog_1_method_10_code 4 (some .int) :: bigW) ({ frames := 6, cells := 1, slots := 6, locals := 82 } : Room) (va_Pc [.ref f, .int a1, .int a2] (fun U => va_P (dC, dI) vwCl (ws_k_F_about f w k tp wp wu wi wc wt wx wm) U.heap ∧ va_K (dC, dI) vwCl [] U ∧ exP (fun _ => False) U)) (va_Qi (fun (r : Int32) (u : Unit) => False) (fun _ _ => True) (fun _ => False)) (vx_X (S := Unit) (fun _ => True) (fun E _ _ => E = "java/lang/IndexOutOfBoundsException") (fun _ => False)) 1 6 (fun _ => False) := by
  refine vx_ofW (cc := prog_1_method_10_code) (maxL := 4) (ret := (some .int)) (by decide) rfl ?_
  intro p e s m args below meth cx s₁ B hml hnoh hv
  obtain ⟨rfl, hP, hK, hex⟩ := hv
  have hx := B.exec
  have hb := B.bytes
  have hr := B.returns
  have hts := atoms_spec (ws := (Cond.code y_F_about prog_1_method_10_code 4 (some .int) :: bigW)) B.pre
  have hsub : ∀ w ∈ bigW, w ∈ (Cond.code y_F_about prog_1_method_10_code 4 (some .int) :: bigW) := fun w h => List.mem_cons_of_mem _ h
  have hown : s.vm.findClass "MapFramer" = some m.cls := findClass_of_methodNamed B.named
  have hlocks := B.notSynchronized
  have hS : va_S (fun _ => False) s.heap s.heap [] := va_S.rf
  have hP : va_P (dC, dI) vwCl [(f, .inr (4, [.ref w, .ref k, .ref tp, .int 0])), (w, .inr (3, [.ref wp, .ref wu, .ref wi, .int 2, .ref wc, .ref wt, .ref wx, .int 0, .ref wm, .int 0]))] s.heap := hP
  have hl := lv_entry ([.ref f, .int a1, .int a2]) (n := 4) (Nat.le_of_ble_eq_true rfl)
  rw [lg_entry_eq]
  generalize (lg_sl ([.ref f, .int a1, .int a2]) ++ List.replicate (4 - (lg_sl ([.ref f, .int a1, .int a2])).length) Slot.unset).toArray = ls at hl ⊢
  have hl : lv_has ls 4 [(0, .ref f), (1, .int a1), (2, .int a2)] := hl
  refine lv_aload_n hx hb d_F_about_0 rfl (lv_at hl 0 rfl) ?_
  refine va_get (D := (dC, dI)) (ci := 4) (v := .ref w) (C := R_F) (T := T_F) (N := 4) hx hb hts (fun w h => hsub w (uw_F w h)) hown hK hP 0 rfl rfl 0 (by decide) (hts _ (hsub _ w_181)) (fun _ h9 => h9) rfl d_F_about_1 ?_
  refine lv_iload_n hx hb d_F_about_4 rfl (lv_at hl 1 rfl) ?_
  have hPc := hP.sub (ws' := [(w, .inr (3, [.ref wp, .ref wu, .ref wi, .int 2, .ref wc, .ref wt, .ref wx, .int 0, .ref wm, .int 0]))]) [1] rfl
  have hKc := hK.sub (tys' := []) [] rfl
  refine va_callq (va_runV (As := [.int a1]) (rest := []) ⟨hx, hb, hml, hown, hts⟩ (k_W_methodAt l dC dI w wp wu wi wc wt wx wm a1) (cwV 1 hts (gV hsub w_212 w_213 w_214 w_4 w_215) rfl rfl rfl (by decide +kernel) ⟨Nat.le_of_ble_eq_true rfl, Nat.le_of_ble_eq_true rfl⟩) ⟨bl_0000, va_recv hKc hPc (ci := 3) (q0 := 0) rfl rfl, fun U hU hW => ⟨rfl, by rw [hU]; exact hPc, va_K.moved hW.alike hKc⟩⟩ rfl rfl hl.1 rfl (lv_room (Nat.le_of_ble_eq_true rfl)) d_F_about_5 ⟨Nat.le_of_ble_eq_true rfl, Nat.le_of_ble_eq_true rfl⟩) hS (fun q _ h => h.elim) (fun q h => h.elim) (fun r_2 u_3 t H1 locs ht hvm hw hB hz1 hk1 hS => ?_)
  have hP := ro_keep hP hk1
  generalize H1 = H at hP hS ⊢
  refine W.widen (k := 0) (n := 0) (Nat.le_of_ble_eq_true rfl) (Nat.le_of_ble_eq_true rfl) ?_
  subst hw
  refine W.eq (g2 := F0 m 8 ls [.null]) rfl ?_
  refine lv_astore_nN (lv' := [(3, .null), (0, .ref f), (1, .int a1), (2, .int a2)]) hx hb d_F_about_8 rfl hl (by decide) rfl (fun ls hl => ?_)
  refine lv_aload_nN hx hb d_F_about_9 rfl (lv_at hl 0 rfl) ?_
  refine lv_ifnullN (tgt := 23) hx hb d_F_about_10 (by decide) ?_
  obtain ⟨sa, hsa⟩ := hex.2.2.2.2.1 (206, "no such method, or nothing so numbered about it") (by decide)
  exact vx_throwS (sa := sa) (names := ["java/lang/RuntimeException", "java/lang/Exception"]) hx hb hl9 hown (by decide +kernel) (by decide +kernel) (hts _ (hsub _ w_216)) (hts _ (hsub _ w_217)) hsa (xg_IndexOutOfBoundsException_208_at hts hsub hex) xg_IndexOutOfBoundsException_208_ot hex.1 hex.2.1 hS (hl.1.trans hml.symm) d_F_about_23 d_F_about_26 d_F_about_27 d_F_about_29 d_F_about_32 (fun x hx9 => (hnoh x hx9).elim) (Nat.le_of_ble_eq_true rfl) (Nat.le_of_ble_eq_true rfl) (Nat.le_of_ble_eq_true rfl) (Nat.le_of_ble_eq_true rfl) hlocks (fun t hal hz hk => ⟨(), trivial, rfl, Nat.le_trans hS.1 hz, fun q h1 h2 => by rw [hk q (Nat.lt_of_lt_of_le h1 hS.1)]; exact hS.2.1 q h1 h2⟩) hS.2.2 (Nat.le_of_ble_eq_true rfl) (Nat.le_of_ble_eq_true rfl)

abbrev ws_k_F_codeAt (f w k tp wp wu wi wc wt wx wm : Nat) : va_W := [(f, .inr (4, [.ref w, .ref k, .ref tp, .int 0])), (w, .inr (3, [.ref wp, .ref wu, .ref wi, .int 2, .ref wc, .ref wt, .ref wx, .int 0, .ref wm, .int 0]))]
set_option maxHeartbeats 4000000 in
set_option maxRecDepth 100000 in
theorem k_F_codeAt (l : Launch) (hl9 : l.stackTraces = false) (dC : Nat → ClassId) (dI : Nat → Nat → Nat) (f w k tp wp wu wi wc wt wx wm : Nat) (a1 : Int32) (a2 : Int32) : vx_Met l y_F_codeAt (Cond.code y_F_codeAt prog_1_method_11_code 4 (some .int) :: bigW) ({ frames := 6, cells := 1, slots := 6, locals := 82 } : Room) (va_Pc [.ref f, .int a1, .int a2] (fun U => va_P (dC, dI) vwCl (ws_k_F_codeAt f w k tp wp wu wi wc wt wx wm) U.heap ∧ va_K (dC, dI) vwCl [] U ∧ exP (fun _ => False) U)) (va_Qi (fun (r : Int32) (u : Unit) => False) (fun _ _ => True) (fun _ => False)) (vx_X (S := Unit) (fun _ => True) (fun E _ _ => E = "java/lang/IndexOutOfBoundsException") (fun _ => False)) 1 6 (fun _ => False) := by
  refine vx_ofW (cc := prog_1_method_11_code) (maxL := 4) (ret := (some .int)) (by decide) rfl ?_
  intro p e s m args below meth cx s₁ B hml hnoh hv
  obtain ⟨rfl, hP, hK, hex⟩ := hv
  have hx := B.exec
  have hb := B.bytes
  have hr := B.returns
  have hts := atoms_spec (ws := (Cond.code y_F_codeAt prog_1_method_11_code 4 (some .int) :: bigW)) B.pre
  have hsub : ∀ w ∈ bigW, w ∈ (Cond.code y_F_codeAt prog_1_method_11_code 4 (some .int) :: bigW) := fun w h => List.mem_cons_of_mem _ h
  have hown : s.vm.findClass "MapFramer" = some m.cls := findClass_of_methodNamed B.named
  have hlocks := B.notSynchronized
  have hS : va_S (fun _ => False) s.heap s.heap [] := va_S.rf
  have hP : va_P (dC, dI) vwCl [(f, .inr (4, [.ref w, .ref k, .ref tp, .int 0])), (w, .inr (3, [.ref wp, .ref wu, .ref wi, .int 2, .ref wc, .ref wt, .ref wx, .int 0, .ref wm, .int 0]))] s.heap := hP
  have hl := lv_entry ([.ref f, .int a1, .int a2]) (n := 4) (Nat.le_of_ble_eq_true rfl)
  rw [lg_entry_eq]
  generalize (lg_sl ([.ref f, .int a1, .int a2]) ++ List.replicate (4 - (lg_sl ([.ref f, .int a1, .int a2])).length) Slot.unset).toArray = ls at hl ⊢
  have hl : lv_has ls 4 [(0, .ref f), (1, .int a1), (2, .int a2)] := hl
  refine lv_aload_n hx hb d_F_codeAt_0 rfl (lv_at hl 0 rfl) ?_
  refine va_get (D := (dC, dI)) (ci := 4) (v := .ref w) (C := R_F) (T := T_F) (N := 4) hx hb hts (fun w h => hsub w (uw_F w h)) hown hK hP 0 rfl rfl 0 (by decide) (hts _ (hsub _ w_181)) (fun _ h9 => h9) rfl d_F_codeAt_1 ?_
  refine lv_iload_n hx hb d_F_codeAt_4 rfl (lv_at hl 1 rfl) ?_
  have hPc := hP.sub (ws' := [(w, .inr (3, [.ref wp, .ref wu, .ref wi, .int 2, .ref wc, .ref wt, .ref wx, .int 0, .ref wm, .int 0]))]) [1] rfl
  have hKc := hK.sub (tys' := []) [] rfl
  refine va_callq (va_runV (As := [.int a1]) (rest := []) ⟨hx, hb, hml, hown, hts⟩ (k_W_methodAt l dC dI w wp wu wi wc wt wx wm a1) (cwV 1 hts (gV hsub w_212 w_213 w_214 w_4 w_215) rfl rfl rfl (by decide +kernel) ⟨Nat.le_of_ble_eq_true rfl, Nat.le_of_ble_eq_true rfl⟩) ⟨bl_0000, va_recv hKc hPc (ci := 3) (q0 := 0) rfl rfl, fun U hU hW => ⟨rfl, by rw [hU]; exact hPc, va_K.moved hW.alike hKc⟩⟩ rfl rfl hl.1 rfl (lv_room (Nat.le_of_ble_eq_true rfl)) d_F_codeAt_5 ⟨Nat.le_of_ble_eq_true rfl, Nat.le_of_ble_eq_true rfl⟩) hS (fun q _ h => h.elim) (fun q h => h.elim) (fun r_2 u_3 t H1 locs ht hvm hw hB hz1 hk1 hS => ?_)
  have hP := ro_keep hP hk1
  generalize H1 = H at hP hS ⊢
  refine W.widen (k := 0) (n := 0) (Nat.le_of_ble_eq_true rfl) (Nat.le_of_ble_eq_true rfl) ?_
  subst hw
  refine W.eq (g2 := F0 m 8 ls [.null]) rfl ?_
  refine lv_astore_nN (lv' := [(3, .null), (0, .ref f), (1, .int a1), (2, .int a2)]) hx hb d_F_codeAt_8 rfl hl (by decide) rfl (fun ls hl => ?_)
  refine lv_aload_nN hx hb d_F_codeAt_9 rfl (lv_at hl 0 rfl) ?_
  refine lv_ifnullN (tgt := 26) hx hb d_F_codeAt_10 (by decide) ?_
  obtain ⟨sa, hsa⟩ := hex.2.2.2.2.1 (215, "no such byte of code") (by decide)
  exact vx_throwS (sa := sa) (names := ["java/lang/RuntimeException", "java/lang/Exception"]) hx hb hl9 hown (by decide +kernel) (by decide +kernel) (hts _ (hsub _ w_216)) (hts _ (hsub _ w_217)) hsa (xg_IndexOutOfBoundsException_208_at hts hsub hex) xg_IndexOutOfBoundsException_208_ot hex.1 hex.2.1 hS (hl.1.trans hml.symm) d_F_codeAt_26 d_F_codeAt_29 d_F_codeAt_30 d_F_codeAt_32 d_F_codeAt_35 (fun x hx9 => (hnoh x hx9).elim) (Nat.le_of_ble_eq_true rfl) (Nat.le_of_ble_eq_true rfl) (Nat.le_of_ble_eq_true rfl) (Nat.le_of_ble_eq_true rfl) hlocks (fun t hal hz hk => ⟨(), trivial, rfl, Nat.le_trans hS.1 hz, fun q h1 h2 => by rw [hk q (Nat.lt_of_lt_of_le h1 hS.1)]; exact hS.2.1 q h1 h2⟩) hS.2.2 (Nat.le_of_ble_eq_true rfl) (Nat.le_of_ble_eq_true rfl)

abbrev ws_k_F_frameAt (f w k tp wp wu wi wc wt wx wm : Nat) : va_W := [(f, .inr (4, [.ref w, .ref k, .ref tp, .int 0])), (w, .inr (3, [.ref wp, .ref wu, .ref wi, .int 2, .ref wc, .ref wt, .ref wx, .int 0, .ref wm, .int 0]))]
set_option maxHeartbeats 4000000 in
set_option maxRecDepth 100000 in
theorem k_F_frameAt (l : Launch) (hl9 : l.stackTraces = false) (dC : Nat → ClassId) (dI : Nat → Nat → Nat) (f w k tp wp wu wi wc wt wx wm : Nat) (a1 : Int32) (a2 : Int32) : vx_Met l y_F_frameAt (Cond.code y_F_frameAt prog_1_method_12_code 4 (some .int) :: bigW) ({ frames := 6, cells := 1, slots := 6, locals := 82 } : Room) (va_Pc [.ref f, .int a1, .int a2] (fun U => va_P (dC, dI) vwCl (ws_k_F_frameAt f w k tp wp wu wi wc wt wx wm) U.heap ∧ va_K (dC, dI) vwCl [] U ∧ exP (fun _ => False) U)) (va_Qi (fun (r : Int32) (u : Unit) => False) (fun _ _ => True) (fun _ => False)) (vx_X (S := Unit) (fun _ => True) (fun E _ _ => E = "java/lang/IndexOutOfBoundsException") (fun _ => False)) 1 6 (fun _ => False) := by
  refine vx_ofW (cc := prog_1_method_12_code) (maxL := 4) (ret := (some .int)) (by decide) rfl ?_
  intro p e s m args below meth cx s₁ B hml hnoh hv
  obtain ⟨rfl, hP, hK, hex⟩ := hv
  have hx := B.exec
  have hb := B.bytes
  have hr := B.returns
  have hts := atoms_spec (ws := (Cond.code y_F_frameAt prog_1_method_12_code 4 (some .int) :: bigW)) B.pre
  have hsub : ∀ w ∈ bigW, w ∈ (Cond.code y_F_frameAt prog_1_method_12_code 4 (some .int) :: bigW) := fun w h => List.mem_cons_of_mem _ h
  have hown : s.vm.findClass "MapFramer" = some m.cls := findClass_of_methodNamed B.named
  have hlocks := B.notSynchronized
  have hS : va_S (fun _ => False) s.heap s.heap [] := va_S.rf
  have hP : va_P (dC, dI) vwCl [(f, .inr (4, [.ref w, .ref k, .ref tp, .int 0])), (w, .inr (3, [.ref wp, .ref wu, .ref wi, .int 2, .ref wc, .ref wt, .ref wx, .int 0, .ref wm, .int 0]))] s.heap := hP
  have hl := lv_entry ([.ref f, .int a1, .int a2]) (n := 4) (Nat.le_of_ble_eq_true rfl)
  rw [lg_entry_eq]
  generalize (lg_sl ([.ref f, .int a1, .int a2]) ++ List.replicate (4 - (lg_sl ([.ref f, .int a1, .int a2])).length) Slot.unset).toArray = ls at hl ⊢
  have hl : lv_has ls 4 [(0, .ref f), (1, .int a1), (2, .int a2)] := hl
  refine lv_aload_n hx hb d_F_frameAt_0 rfl (lv_at hl 0 rfl) ?_
  refine va_get (D := (dC, dI)) (ci := 4) (v := .ref w) (C := R_F) (T := T_F) (N := 4) hx hb hts (fun w h => hsub w (uw_F w h)) hown hK hP 0 rfl rfl 0 (by decide) (hts _ (hsub _ w_181)) (fun _ h9 => h9) rfl d_F_frameAt_1 ?_
  refine lv_iload_n hx hb d_F_frameAt_4 rfl (lv_at hl 1 rfl) ?_
  have hPc := hP.sub (ws' := [(w, .inr (3, [.ref wp, .ref wu, .ref wi, .int 2, .ref wc, .ref wt, .ref wx, .int 0, .ref wm, .int 0]))]) [1] rfl
  have hKc := hK.sub (tys' := []) [] rfl
  refine va_callq (va_runV (As := [.int a1]) (rest := []) ⟨hx, hb, hml, hown, hts⟩ (k_W_methodAt l dC dI w wp wu wi wc wt wx wm a1) (cwV 1 hts (gV hsub w_212 w_213 w_214 w_4 w_215) rfl rfl rfl (by decide +kernel) ⟨Nat.le_of_ble_eq_true rfl, Nat.le_of_ble_eq_true rfl⟩) ⟨bl_0000, va_recv hKc hPc (ci := 3) (q0 := 0) rfl rfl, fun U hU hW => ⟨rfl, by rw [hU]; exact hPc, va_K.moved hW.alike hKc⟩⟩ rfl rfl hl.1 rfl (lv_room (Nat.le_of_ble_eq_true rfl)) d_F_frameAt_5 ⟨Nat.le_of_ble_eq_true rfl, Nat.le_of_ble_eq_true rfl⟩) hS (fun q _ h => h.elim) (fun q h => h.elim) (fun r_2 u_3 t H1 locs ht hvm hw hB hz1 hk1 hS => ?_)
  have hP := ro_keep hP hk1
  generalize H1 = H at hP hS ⊢
  refine W.widen (k := 0) (n := 0) (Nat.le_of_ble_eq_true rfl) (Nat.le_of_ble_eq_true rfl) ?_
  subst hw
  refine W.eq (g2 := F0 m 8 ls [.null]) rfl ?_
  refine lv_astore_nN (lv' := [(3, .null), (0, .ref f), (1, .int a1), (2, .int a2)]) hx hb d_F_frameAt_8 rfl hl (by decide) rfl (fun ls hl => ?_)
  refine lv_aload_nN hx hb d_F_frameAt_9 rfl (lv_at hl 0 rfl) ?_
  refine lv_ifnullN (tgt := 26) hx hb d_F_frameAt_10 (by decide) ?_
  obtain ⟨sa, hsa⟩ := hex.2.2.2.2.1 (217, "no such byte of frames") (by decide)
  exact vx_throwS (sa := sa) (names := ["java/lang/RuntimeException", "java/lang/Exception"]) hx hb hl9 hown (by decide +kernel) (by decide +kernel) (hts _ (hsub _ w_216)) (hts _ (hsub _ w_217)) hsa (xg_IndexOutOfBoundsException_208_at hts hsub hex) xg_IndexOutOfBoundsException_208_ot hex.1 hex.2.1 hS (hl.1.trans hml.symm) d_F_frameAt_26 d_F_frameAt_29 d_F_frameAt_30 d_F_frameAt_32 d_F_frameAt_35 (fun x hx9 => (hnoh x hx9).elim) (Nat.le_of_ble_eq_true rfl) (Nat.le_of_ble_eq_true rfl) (Nat.le_of_ble_eq_true rfl) (Nat.le_of_ble_eq_true rfl) hlocks (fun t hal hz hk => ⟨(), trivial, rfl, Nat.le_trans hS.1 hz, fun q h1 h2 => by rw [hk q (Nat.lt_of_lt_of_le h1 hS.1)]; exact hS.2.1 q h1 h2⟩) hS.2.2 (Nat.le_of_ble_eq_true rfl) (Nat.le_of_ble_eq_true rfl)

abbrev ws_k_F_handlerAt (f w k tp wp wu wi wc wt wx wm : Nat) : va_W := [(f, .inr (4, [.ref w, .ref k, .ref tp, .int 0])), (w, .inr (3, [.ref wp, .ref wu, .ref wi, .int 2, .ref wc, .ref wt, .ref wx, .int 0, .ref wm, .int 0]))]
set_option maxHeartbeats 4000000 in
set_option maxRecDepth 100000 in
theorem k_F_handlerAt (l : Launch) (hl9 : l.stackTraces = false) (dC : Nat → ClassId) (dI : Nat → Nat → Nat) (f w k tp wp wu wi wc wt wx wm : Nat) (a1 : Int32) (a2 : Int32) (a3 : Int32) : vx_Met l y_F_handlerAt (Cond.code y_F_handlerAt prog_1_method_13_code 6 (some .int) :: bigW) ({ frames := 6, cells := 1, slots := 6, locals := 82 } : Room) (va_Pc [.ref f, .int a1, .int a2, .int a3] (fun U => va_P (dC, dI) vwCl (ws_k_F_handlerAt f w k tp wp wu wi wc wt wx wm) U.heap ∧ va_K (dC, dI) vwCl [] U ∧ exP (fun _ => False) U)) (va_Qi (fun (r : Int32) (u : Unit) => False) (fun _ _ => True) (fun _ => False)) (vx_X (S := Unit) (fun _ => True) (fun E _ _ => E = "java/lang/IndexOutOfBoundsException") (fun _ => False)) 1 6 (fun _ => False) := by
  refine vx_ofW (cc := prog_1_method_13_code) (maxL := 6) (ret := (some .int)) (by decide) rfl ?_
  intro p e s m args below meth cx s₁ B hml hnoh hv
  obtain ⟨rfl, hP, hK, hex⟩ := hv
  have hx := B.exec
  have hb := B.bytes
  have hr := B.returns
  have hts := atoms_spec (ws := (Cond.code y_F_handlerAt prog_1_method_13_code 6 (some .int) :: bigW)) B.pre
  have hsub : ∀ w ∈ bigW, w ∈ (Cond.code y_F_handlerAt prog_1_method_13_code 6 (some .int) :: bigW) := fun w h => List.mem_cons_of_mem _ h
  have hown : s.vm.findClass "MapFramer" = some m.cls := findClass_of_methodNamed B.named
  have hlocks := B.notSynchronized
  have hS : va_S (fun _ => False) s.heap s.heap [] := va_S.rf
  have hP : va_P (dC, dI) vwCl [(f, .inr (4, [.ref w, .ref k, .ref tp, .int 0])), (w, .inr (3, [.ref wp, .ref wu, .ref wi, .int 2, .ref wc, .ref wt, .ref wx, .int 0, .ref wm, .int 0]))] s.heap := hP
  have hl := lv_entry ([.ref f, .int a1, .int a2, .int a3]) (n := 6) (Nat.le_of_ble_eq_true rfl)
  rw [lg_entry_eq]
  generalize (lg_sl ([.ref f, .int a1, .int a2, .int a3]) ++ List.replicate (6 - (lg_sl ([.ref f, .int a1, .int a2, .int a3])).length) Slot.unset).toArray = ls at hl ⊢
  have hl : lv_has ls 6 [(0, .ref f), (1, .int a1), (2, .int a2), (3, .int a3)] := hl
  refine lv_aload_n hx hb d_F_handlerAt_0 rfl (lv_at hl 0 rfl) ?_
  refine va_get (D := (dC, dI)) (ci := 4) (v := .ref w) (C := R_F) (T := T_F) (N := 4) hx hb hts (fun w h => hsub w (uw_F w h)) hown hK hP 0 rfl rfl 0 (by decide) (hts _ (hsub _ w_181)) (fun _ h9 => h9) rfl d_F_handlerAt_1 ?_
  refine lv_iload_n hx hb d_F_handlerAt_4 rfl (lv_at hl 1 rfl) ?_
  have hPc := hP.sub (ws' := [(w, .inr (3, [.ref wp, .ref wu, .ref wi, .int 2, .ref wc, .ref wt, .ref wx, .int 0, .ref wm, .int 0]))]) [1] rfl
  have hKc := hK.sub (tys' := []) [] rfl
  refine va_callq (va_runV (As := [.int a1]) (rest := []) ⟨hx, hb, hml, hown, hts⟩ (k_W_methodAt l dC dI w wp wu wi wc wt wx wm a1) (cwV 1 hts (gV hsub w_212 w_213 w_214 w_4 w_215) rfl rfl rfl (by decide +kernel) ⟨Nat.le_of_ble_eq_true rfl, Nat.le_of_ble_eq_true rfl⟩) ⟨bl_0000, va_recv hKc hPc (ci := 3) (q0 := 0) rfl rfl, fun U hU hW => ⟨rfl, by rw [hU]; exact hPc, va_K.moved hW.alike hKc⟩⟩ rfl rfl hl.1 rfl (lv_room (Nat.le_of_ble_eq_true rfl)) d_F_handlerAt_5 ⟨Nat.le_of_ble_eq_true rfl, Nat.le_of_ble_eq_true rfl⟩) hS (fun q _ h => h.elim) (fun q h => h.elim) (fun r_2 u_3 t H1 locs ht hvm hw hB hz1 hk1 hS => ?_)
  have hP := ro_keep hP hk1
  generalize H1 = H at hP hS ⊢
  refine W.widen (k := 0) (n := 0) (Nat.le_of_ble_eq_true rfl) (Nat.le_of_ble_eq_true rfl) ?_
  subst hw
  refine W.eq (g2 := F0 m 8 ls [.null]) rfl ?_
  refine lv_astoreN (lv' := [(4, .null), (0, .ref f), (1, .int a1), (2, .int a2), (3, .int a3)]) hx hb d_F_handlerAt_8 hl (by decide) rfl (fun ls hl => ?_)
  refine lv_aloadN hx hb d_F_handlerAt_10 (lv_at hl 0 rfl) ?_
  refine lv_ifnullN (tgt := 40) hx hb d_F_handlerAt_12 (by decide) ?_
  obtain ⟨sa, hsa⟩ := hex.2.2.2.2.1 (219, "no such handler, or nothing so numbered of it") (by decide)
  exact vx_throwS (sa := sa) (names := ["java/lang/RuntimeException", "java/lang/Exception"]) hx hb hl9 hown (by decide +kernel) (by decide +kernel) (hts _ (hsub _ w_216)) (hts _ (hsub _ w_217)) hsa (xg_IndexOutOfBoundsException_208_at hts hsub hex) xg_IndexOutOfBoundsException_208_ot hex.1 hex.2.1 hS (hl.1.trans hml.symm) d_F_handlerAt_40 d_F_handlerAt_43 d_F_handlerAt_44 d_F_handlerAt_46 d_F_handlerAt_49 (fun x hx9 => (hnoh x hx9).elim) (Nat.le_of_ble_eq_true rfl) (Nat.le_of_ble_eq_true rfl) (Nat.le_of_ble_eq_true rfl) (Nat.le_of_ble_eq_true rfl) hlocks (fun t hal hz hk => ⟨(), trivial, rfl, Nat.le_trans hS.1 hz, fun q h1 h2 => by rw [hk q (Nat.lt_of_lt_of_le h1 hS.1)]; exact hS.2.1 q h1 h2⟩) hS.2.2 (Nat.le_of_ble_eq_true rfl) (Nat.le_of_ble_eq_true rfl)

abbrev ws_k_F_typeAt (f w k tp wp wu wi wc wt wx wm : Nat) : va_W := [(f, .inr (4, [.ref w, .ref k, .ref tp, .int 0])), (w, .inr (3, [.ref wp, .ref wu, .ref wi, .int 2, .ref wc, .ref wt, .ref wx, .int 0, .ref wm, .int 0]))]
set_option maxHeartbeats 4000000 in
set_option maxRecDepth 100000 in
theorem k_F_typeAt (l : Launch) (hl9 : l.stackTraces = false) (dC : Nat → ClassId) (dI : Nat → Nat → Nat) (f w k tp wp wu wi wc wt wx wm : Nat) (a1 : Int32) (a2 : Int32) (a3 : Int32) : vx_Met l y_F_typeAt (Cond.code y_F_typeAt prog_1_method_14_code 6 (some .int) :: bigW) ({ frames := 6, cells := 1, slots := 6, locals := 82 } : Room) (va_Pc [.ref f, .int a1, .int a2, .int a3] (fun U => va_P (dC, dI) vwCl (ws_k_F_typeAt f w k tp wp wu wi wc wt wx wm) U.heap ∧ va_K (dC, dI) vwCl [] U ∧ exP (fun _ => False) U)) (va_Qi (fun (r : Int32) (u : Unit) => False) (fun _ _ => True) (fun _ => False)) (vx_X (S := Unit) (fun _ => True) (fun E _ _ => E = "java/lang/IndexOutOfBoundsException") (fun _ => False)) 1 6 (fun _ => False) := by
  refine vx_ofW (cc := prog_1_method_14_code) (maxL := 6) (ret := (some .int)) (by decide) rfl ?_
  intro p e s m args below meth cx s₁ B hml hnoh hv
  obtain ⟨rfl, hP, hK, hex⟩ := hv
  have hx := B.exec
  have hb := B.bytes
  have hr := B.returns
  have hts := atoms_spec (ws := (Cond.code y_F_typeAt prog_1_method_14_code 6 (some .int) :: bigW)) B.pre
  have hsub : ∀ w ∈ bigW, w ∈ (Cond.code y_F_typeAt prog_1_method_14_code 6 (some .int) :: bigW) := fun w h => List.mem_cons_of_mem _ h
  have hown : s.vm.findClass "MapFramer" = some m.cls := findClass_of_methodNamed B.named
  have hlocks := B.notSynchronized
  have hS : va_S (fun _ => False) s.heap s.heap [] := va_S.rf
  have hP : va_P (dC, dI) vwCl [(f, .inr (4, [.ref w, .ref k, .ref tp, .int 0])), (w, .inr (3, [.ref wp, .ref wu, .ref wi, .int 2, .ref wc, .ref wt, .ref wx, .int 0, .ref wm, .int 0]))] s.heap := hP
  have hl := lv_entry ([.ref f, .int a1, .int a2, .int a3]) (n := 6) (Nat.le_of_ble_eq_true rfl)
  rw [lg_entry_eq]
  generalize (lg_sl ([.ref f, .int a1, .int a2, .int a3]) ++ List.replicate (6 - (lg_sl ([.ref f, .int a1, .int a2, .int a3])).length) Slot.unset).toArray = ls at hl ⊢
  have hl : lv_has ls 6 [(0, .ref f), (1, .int a1), (2, .int a2), (3, .int a3)] := hl
  refine lv_aload_n hx hb d_F_typeAt_0 rfl (lv_at hl 0 rfl) ?_
  refine va_get (D := (dC, dI)) (ci := 4) (v := .ref w) (C := R_F) (T := T_F) (N := 4) hx hb hts (fun w h => hsub w (uw_F w h)) hown hK hP 0 rfl rfl 0 (by decide) (hts _ (hsub _ w_181)) (fun _ h9 => h9) rfl d_F_typeAt_1 ?_
  refine lv_iload_n hx hb d_F_typeAt_4 rfl (lv_at hl 1 rfl) ?_
  have hPc := hP.sub (ws' := [(w, .inr (3, [.ref wp, .ref wu, .ref wi, .int 2, .ref wc, .ref wt, .ref wx, .int 0, .ref wm, .int 0]))]) [1] rfl
  have hKc := hK.sub (tys' := []) [] rfl
  refine va_callq (va_runV (As := [.int a1]) (rest := []) ⟨hx, hb, hml, hown, hts⟩ (k_W_methodAt l dC dI w wp wu wi wc wt wx wm a1) (cwV 1 hts (gV hsub w_212 w_213 w_214 w_4 w_215) rfl rfl rfl (by decide +kernel) ⟨Nat.le_of_ble_eq_true rfl, Nat.le_of_ble_eq_true rfl⟩) ⟨bl_0000, va_recv hKc hPc (ci := 3) (q0 := 0) rfl rfl, fun U hU hW => ⟨rfl, by rw [hU]; exact hPc, va_K.moved hW.alike hKc⟩⟩ rfl rfl hl.1 rfl (lv_room (Nat.le_of_ble_eq_true rfl)) d_F_typeAt_5 ⟨Nat.le_of_ble_eq_true rfl, Nat.le_of_ble_eq_true rfl⟩) hS (fun q _ h => h.elim) (fun q h => h.elim) (fun r_2 u_3 t H1 locs ht hvm hw hB hz1 hk1 hS => ?_)
  have hP := ro_keep hP hk1
  generalize H1 = H at hP hS ⊢
  refine W.widen (k := 0) (n := 0) (Nat.le_of_ble_eq_true rfl) (Nat.le_of_ble_eq_true rfl) ?_
  subst hw
  refine W.eq (g2 := F0 m 8 ls [.null]) rfl ?_
  refine lv_astoreN (lv' := [(4, .null), (0, .ref f), (1, .int a1), (2, .int a2), (3, .int a3)]) hx hb d_F_typeAt_8 hl (by decide) rfl (fun ls hl => ?_)
  refine lv_aloadN hx hb d_F_typeAt_10 (lv_at hl 0 rfl) ?_
  refine lv_ifnonnullN hx hb d_F_typeAt_12 ?_
  refine lv_null hx hb d_F_typeAt_15 ?_
  refine lv_goto (tgt := 25) hx hb d_F_typeAt_16 (by decide) ?_
  refine lv_astoreN (lv' := [(5, .null), (4, .null), (0, .ref f), (1, .int a1), (2, .int a2), (3, .int a3)]) hx hb d_F_typeAt_25 hl (by decide) rfl (fun ls hl => ?_)
  refine lv_aloadN hx hb d_F_typeAt_27 (lv_at hl 0 rfl) ?_
  refine lv_ifnullN (tgt := 36) hx hb d_F_typeAt_29 (by decide) ?_
  obtain ⟨sa, hsa⟩ := hex.2.2.2.2.1 (241, "no state there") (by decide)
  exact vx_throwS (sa := sa) (names := ["java/lang/RuntimeException", "java/lang/Exception"]) hx hb hl9 hown (by decide +kernel) (by decide +kernel) (hts _ (hsub _ w_216)) (hts _ (hsub _ w_217)) hsa (xg_IndexOutOfBoundsException_208_at hts hsub hex) xg_IndexOutOfBoundsException_208_ot hex.1 hex.2.1 hS (hl.1.trans hml.symm) d_F_typeAt_36 d_F_typeAt_39 d_F_typeAt_40 d_F_typeAt_42 d_F_typeAt_45 (fun x hx9 => (hnoh x hx9).elim) (Nat.le_of_ble_eq_true rfl) (Nat.le_of_ble_eq_true rfl) (Nat.le_of_ble_eq_true rfl) (Nat.le_of_ble_eq_true rfl) hlocks (fun t hal hz hk => ⟨(), trivial, rfl, Nat.le_trans hS.1 hz, fun q h1 h2 => by rw [hk q (Nat.lt_of_lt_of_le h1 hS.1)]; exact hS.2.1 q h1 h2⟩) hS.2.2 (Nat.le_of_ble_eq_true rfl) (Nat.le_of_ble_eq_true rfl)

abbrev ws_k_F_run (f w k tp wp wu wi wc wt wx wm : Nat) : va_W := [(f, .inr (4, [.ref w, .ref k, .ref tp, .int 0])), (w, .inr (3, [.ref wp, .ref wu, .ref wi, .int 2, .ref wc, .ref wt, .ref wx, .int 0, .ref wm, .int 0]))]
set_option maxHeartbeats 4000000 in
set_option maxRecDepth 100000 in
theorem k_F_run (l : Launch) (hl9 : l.stackTraces = false) (dC : Nat → ClassId) (dI : Nat → Nat → Nat) (f w k tp wp wu wi wc wt wx wm : Nat) (a1 : Int32) (a2 : Int64) (a3 : Int64) (a4 : Int32) : vx_Met l y_F_run (Cond.code y_F_run prog_1_method_15_code 8 (some .long) :: bigW) ({ frames := 6, cells := 1, slots := 6, locals := 82 } : Room) (va_Pc [.ref f, .int a1, .long a2, .long a3, .int a4] (fun U => va_P (dC, dI) vwCl (ws_k_F_run f w k tp wp wu wi wc wt wx wm) U.heap ∧ va_K (dC, dI) vwCl [] U ∧ exP (fun _ => False) U)) (va_Ql (fun (r : Int64) (u : Unit) => False) (fun _ _ => True) (fun _ => False)) (vx_X (S := Unit) (fun _ => True) (fun E _ _ => E = "java/lang/IllegalArgumentException") (fun _ => False)) 1 6 (fun _ => False) := by
  refine vx_ofW (cc := prog_1_method_15_code) (maxL := 8) (ret := (some .long)) (by decide) rfl ?_
  intro p e s m args below meth cx s₁ B hml hnoh hv
  obtain ⟨rfl, hP, hK, hex⟩ := hv
  have hx := B.exec
  have hb := B.bytes
  have hr := B.returns
  have hts := atoms_spec (ws := (Cond.code y_F_run prog_1_method_15_code 8 (some .long) :: bigW)) B.pre
  have hsub : ∀ w ∈ bigW, w ∈ (Cond.code y_F_run prog_1_method_15_code 8 (some .long) :: bigW) := fun w h => List.mem_cons_of_mem _ h
  have hown : s.vm.findClass "MapFramer" = some m.cls := findClass_of_methodNamed B.named
  have hlocks := B.notSynchronized
  have hS : va_S (fun _ => False) s.heap s.heap [] := va_S.rf
  have hP : va_P (dC, dI) vwCl [(f, .inr (4, [.ref w, .ref k, .ref tp, .int 0])), (w, .inr (3, [.ref wp, .ref wu, .ref wi, .int 2, .ref wc, .ref wt, .ref wx, .int 0, .ref wm, .int 0]))] s.heap := hP
  have hl := lv_entry ([.ref f, .int a1, .long a2, .long a3, .int a4]) (n := 8) (Nat.le_of_ble_eq_true rfl)
  rw [lg_entry_eq]
  generalize (lg_sl ([.ref f, .int a1, .long a2, .long a3, .int a4]) ++ List.replicate (8 - (lg_sl ([.ref f, .int a1, .long a2, .long a3, .int a4])).length) Slot.unset).toArray = ls at hl ⊢
  have hl : lv_has ls 8 [(0, .ref f), (1, .int a1), (2, .long a2), (4, .long a3), (6, .int a4)] := hl
  refine lv_aload_n hx hb d_F_run_0 rfl (lv_at hl 0 rfl) ?_
  refine va_get (D := (dC, dI)) (ci := 4) (v := .ref w) (C := R_F) (T := T_F) (N := 4) hx hb hts (fun w h => hsub w (uw_F w h)) hown hK hP 0 rfl rfl 0 (by decide) (hts _ (hsub _ w_181)) (fun _ h9 => h9) rfl d_F_run_1 ?_
  refine lv_iload_n hx hb d_F_run_4 rfl (lv_at hl 1 rfl) ?_
  have hPc := hP.sub (ws' := [(w, .inr (3, [.ref wp, .ref wu, .ref wi, .int 2, .ref wc, .ref wt, .ref wx, .int 0, .ref wm, .int 0]))]) [1] rfl
  have hKc := hK.sub (tys' := []) [] rfl
  refine va_callq (va_runV (As := [.int a1]) (rest := []) ⟨hx, hb, hml, hown, hts⟩ (k_W_methodAt l dC dI w wp wu wi wc wt wx wm a1) (cwV 1 hts (gV hsub w_212 w_213 w_214 w_4 w_215) rfl rfl rfl (by decide +kernel) ⟨Nat.le_of_ble_eq_true rfl, Nat.le_of_ble_eq_true rfl⟩) ⟨bl_0000, va_recv hKc hPc (ci := 3) (q0 := 0) rfl rfl, fun U hU hW => ⟨rfl, by rw [hU]; exact hPc, va_K.moved hW.alike hKc⟩⟩ rfl rfl hl.1 rfl (lv_room (Nat.le_of_ble_eq_true rfl)) d_F_run_5 ⟨Nat.le_of_ble_eq_true rfl, Nat.le_of_ble_eq_true rfl⟩) hS (fun q _ h => h.elim) (fun q h => h.elim) (fun r_2 u_3 t H1 locs ht hvm hw hB hz1 hk1 hS => ?_)
  have hP := ro_keep hP hk1
  generalize H1 = H at hP hS ⊢
  refine W.widen (k := 0) (n := 0) (Nat.le_of_ble_eq_true rfl) (Nat.le_of_ble_eq_true rfl) ?_
  subst hw
  refine W.eq (g2 := F0 m 8 ls [.null]) rfl ?_
  refine lv_astoreN (lv' := [(7, .null), (0, .ref f), (1, .int a1), (2, .long a2), (4, .long a3), (6, .int a4)]) hx hb d_F_run_8 hl (by decide) rfl (fun ls hl => ?_)
  refine lv_aloadN hx hb d_F_run_10 (lv_at hl 0 rfl) ?_
  refine lv_ifnullN (tgt := 45) hx hb d_F_run_12 (by decide) ?_
  obtain ⟨sa, hsa⟩ := hex.2.2.2.2.1 (261, "no such method to run, or no such fuel") (by decide)
  exact vx_throwSW (sa := sa) (names := ["java/lang/RuntimeException", "java/lang/Exception"]) hx hb hl9 hown (by decide +kernel) (by decide +kernel) (hts _ (hsub _ w_191)) (hts _ (hsub _ w_192)) hsa (xg_IllegalArgumentException_39_at hts hsub hex) xg_IllegalArgumentException_39_ot hex.1 hex.2.1 hS (hl.1.trans hml.symm) d_F_run_45 d_F_run_48 d_F_run_49 d_F_run_52 d_F_run_55 (fun x hx9 => (hnoh x hx9).elim) (Nat.le_of_ble_eq_true rfl) (Nat.le_of_ble_eq_true rfl) (Nat.le_of_ble_eq_true rfl) (Nat.le_of_ble_eq_true rfl) hlocks (fun t hal hz hk => ⟨(), trivial, rfl, Nat.le_trans hS.1 hz, fun q h1 h2 => by rw [hk q (Nat.lt_of_lt_of_le h1 hS.1)]; exact hS.2.1 q h1 h2⟩) hS.2.2 (Nat.le_of_ble_eq_true rfl) (Nat.le_of_ble_eq_true rfl)

abbrev ws_k_F_end (f w tp k kh ks kc9 : Nat) : va_W := [(f, .inr (4, [.ref w, .ref k, .ref tp, .int 0])), (k, .inr (2, [.ref kh, .ref ks, .ref kc9, .null, .int 0, .null, .int 0, .int 0, .int 0, .int 0, .long 0, .int (-1), .int 0, .int (-1)]))]
set_option maxHeartbeats 4000000 in
set_option maxRecDepth 100000 in
theorem k_F_end (l : Launch) (dC : Nat → ClassId) (dI : Nat → Nat → Nat) (f w tp k kh ks kc9 : Nat) (wh : Int32) : Met l y_F_end (Cond.code y_F_end prog_1_method_16_code 2 (some .int) :: bigW) ({ frames := 0, cells := 0, slots := 0, locals := 0 } : Room) (va_Pc [.ref f, .int wh] (fun U => va_P (dC, dI) vwCl (ws_k_F_end f w tp k kh ks kc9) U.heap ∧ va_K (dC, dI) vwCl [] U)) (va_Qi (fun (r : Int32) (u : Unit) => r = -1) (fun _ _ => True) (fun _ => False)) 0 0 (fun _ => False) := by
  refine Met.ofW (cc := prog_1_method_16_code) (maxL := 2) (ret := (some .int)) (by decide) rfl ?_
  intro p e s m args below meth cx s₁ B hml hv
  obtain ⟨rfl, hP, hK⟩ := hv
  have hx := B.exec
  have hb := B.bytes
  have hr := B.returns
  have hts := atoms_spec (ws := (Cond.code y_F_end prog_1_method_16_code 2 (some .int) :: bigW)) B.pre
  have hsub : ∀ w ∈ bigW, w ∈ (Cond.code y_F_end prog_1_method_16_code 2 (some .int) :: bigW) := fun w h => List.mem_cons_of_mem _ h
  have hown : s.vm.findClass "MapFramer" = some m.cls := findClass_of_methodNamed B.named
  have hlocks := B.notSynchronized
  have hS : va_S (fun _ => False) s.heap s.heap [] := va_S.rf
  have hP : va_P (dC, dI) vwCl [(f, .inr (4, [.ref w, .ref k, .ref tp, .int 0])), (k, .inr (2, [.ref kh, .ref ks, .ref kc9, .null, .int 0, .null, .int 0, .int 0, .int 0, .int 0, .long 0, .int (-1), .int 0, .int (-1)]))] s.heap := hP
  have hl := lv_entry ([.ref f, .int wh]) (n := 2) (Nat.le_of_ble_eq_true rfl)
  rw [lg_entry_eq]
  generalize (lg_sl ([.ref f, .int wh]) ++ List.replicate (2 - (lg_sl ([.ref f, .int wh])).length) Slot.unset).toArray = ls at hl ⊢
  have hl : lv_has ls 2 [(0, .ref f), (1, .int wh)] := hl
  refine lv_aload_n hx hb d_F_end_0 rfl (lv_at hl 0 rfl) ?_
  refine va_get (D := (dC, dI)) (ci := 4) (v := .ref k) (C := R_F) (T := T_F) (N := 4) hx hb hts (fun w h => hsub w (uw_F w h)) hown hK hP 0 rfl rfl 1 (by decide) (hts _ (hsub _ w_218)) (fun _ h9 => h9) rfl d_F_end_1 ?_
  refine va_get (D := (dC, dI)) (ci := 2) (v := .int (-1)) (C := R_K) (T := T_K) (N := 14) hx hb hts (fun w h => hsub w (uw_K w h)) hown hK hP 1 rfl rfl 11 (by decide) (hts _ (hsub _ w_219)) (fun _ h9 => h9) rfl d_F_end_4 ?_
  refine lv_iconst (v := (-1)) hx hb d_F_end_7 (by decide) ?_
  refine lv_icmp_ne (tgt := 13) hx hb d_F_end_8 (by decide) (fun c_1 => ?_) (fun c_1 => ?_)
  · skip
    first | exact absurd c_1 (by decide) | exact absurd (by decide) c_1
  · skip
    refine lv_iconst (v := (-1)) hx hb d_F_end_11 (by decide) ?_
    refine W.widen (k := 0) (n := 0) (Nat.le_of_ble_eq_true rfl) (Nat.le_of_ble_eq_true rfl) ?_
    exact W.iret (v := (-1)) hx hb hr (fun t ht hW => ⟨⟨(-1), (), rfl, rfl, trivial⟩, hS.F ht⟩) hS.2.2 d_F_end_12

abbrev ws_k_F_count (f w k tp wp wu wi wc wt wx wm : Nat) : va_W := [(f, .inr (4, [.ref w, .ref k, .ref tp, .int 0])), (w, .inr (3, [.ref wp, .ref wu, .ref wi, .int 2, .ref wc, .ref wt, .ref wx, .int 0, .ref wm, .int 0]))]
set_option maxHeartbeats 4000000 in
set_option maxRecDepth 100000 in
theorem k_F_count (l : Launch) (dC : Nat → ClassId) (dI : Nat → Nat → Nat) (f w k tp wp wu wi wc wt wx wm : Nat) (wh : Int32) : Met l y_F_count (Cond.code y_F_count prog_1_method_17_code 2 (some .int) :: bigW) ({ frames := 0, cells := 0, slots := 0, locals := 0 } : Room) (va_Pc [.ref f, .int wh] (fun U => va_P (dC, dI) vwCl (ws_k_F_count f w k tp wp wu wi wc wt wx wm) U.heap ∧ va_K (dC, dI) vwCl [] U)) (va_Qi (fun (r : Int32) (u : Unit) => r = cntF wh) (fun _ _ => True) (fun _ => False)) 0 0 (fun _ => False) := by
  refine Met.ofW (cc := prog_1_method_17_code) (maxL := 2) (ret := (some .int)) (by decide) rfl ?_
  intro p e s m args below meth cx s₁ B hml hv
  obtain ⟨rfl, hP, hK⟩ := hv
  have hx := B.exec
  have hb := B.bytes
  have hr := B.returns
  have hts := atoms_spec (ws := (Cond.code y_F_count prog_1_method_17_code 2 (some .int) :: bigW)) B.pre
  have hsub : ∀ w ∈ bigW, w ∈ (Cond.code y_F_count prog_1_method_17_code 2 (some .int) :: bigW) := fun w h => List.mem_cons_of_mem _ h
  have hown : s.vm.findClass "MapFramer" = some m.cls := findClass_of_methodNamed B.named
  have hlocks := B.notSynchronized
  have hS : va_S (fun _ => False) s.heap s.heap [] := va_S.rf
  have hP : va_P (dC, dI) vwCl [(f, .inr (4, [.ref w, .ref k, .ref tp, .int 0])), (w, .inr (3, [.ref wp, .ref wu, .ref wi, .int 2, .ref wc, .ref wt, .ref wx, .int 0, .ref wm, .int 0]))] s.heap := hP
  have hl := lv_entry ([.ref f, .int wh]) (n := 2) (Nat.le_of_ble_eq_true rfl)
  rw [lg_entry_eq]
  generalize (lg_sl ([.ref f, .int wh]) ++ List.replicate (2 - (lg_sl ([.ref f, .int wh])).length) Slot.unset).toArray = ls at hl ⊢
  have hl : lv_has ls 2 [(0, .ref f), (1, .int wh)] := hl
  refine lv_iload_n hx hb d_F_count_0 rfl (lv_at hl 1 rfl) ?_
  rcases sw_4 wh with h9 | h9 | h9 | h9 | h9
  · subst h9
    refine lv_tableIn (off := 31) (tgt := 32) hx hb d_F_count_1 (by decide) (by decide) (by decide) (by decide) ?_
    refine lv_aload_n hx hb d_F_count_32 rfl (lv_at hl 0 rfl) ?_
    refine va_get (D := (dC, dI)) (ci := 4) (v := .ref w) (C := R_F) (T := T_F) (N := 4) hx hb hts (fun w h => hsub w (uw_F w h)) hown hK hP 0 rfl rfl 0 (by decide) (hts _ (hsub _ w_181)) (fun _ h9 => h9) rfl d_F_count_33 ?_
    refine va_get (D := (dC, dI)) (ci := 3) (v := .int 2) (C := R_W) (T := T_W) (N := 10) hx hb hts (fun w h => hsub w (uw_W w h)) hown hK hP 1 rfl rfl 3 (by decide) (hts _ (hsub _ w_182)) (fun _ h9 => h9) rfl d_F_count_36 ?_
    refine W.widen (k := 0) (n := 0) (Nat.le_of_ble_eq_true rfl) (Nat.le_of_ble_eq_true rfl) ?_
    exact W.iret (v := 2) hx hb hr (fun t ht hW => ⟨⟨2, (), rfl, by decide, trivial⟩, hS.F ht⟩) hS.2.2 d_F_count_39
  · subst h9
    refine lv_tableIn (off := 39) (tgt := 40) hx hb d_F_count_1 (by decide) (by decide) (by decide) (by decide) ?_
    refine lv_aload_n hx hb d_F_count_40 rfl (lv_at hl 0 rfl) ?_
    refine va_get (D := (dC, dI)) (ci := 4) (v := .ref w) (C := R_F) (T := T_F) (N := 4) hx hb hts (fun w h => hsub w (uw_F w h)) hown hK hP 0 rfl rfl 0 (by decide) (hts _ (hsub _ w_181)) (fun _ h9 => h9) rfl d_F_count_41 ?_
    refine va_get (D := (dC, dI)) (ci := 3) (v := .int 0) (C := R_W) (T := T_W) (N := 10) hx hb hts (fun w h => hsub w (uw_W w h)) hown hK hP 1 rfl rfl 7 (by decide) (hts _ (hsub _ w_198)) (fun _ h9 => h9) rfl d_F_count_44 ?_
    refine W.widen (k := 0) (n := 0) (Nat.le_of_ble_eq_true rfl) (Nat.le_of_ble_eq_true rfl) ?_
    exact W.iret (v := 0) hx hb hr (fun t ht hW => ⟨⟨0, (), rfl, by decide, trivial⟩, hS.F ht⟩) hS.2.2 d_F_count_47
  · subst h9
    refine lv_tableIn (off := 47) (tgt := 48) hx hb d_F_count_1 (by decide) (by decide) (by decide) (by decide) ?_
    refine lv_aload_n hx hb d_F_count_48 rfl (lv_at hl 0 rfl) ?_
    refine va_get (D := (dC, dI)) (ci := 4) (v := .ref w) (C := R_F) (T := T_F) (N := 4) hx hb hts (fun w h => hsub w (uw_F w h)) hown hK hP 0 rfl rfl 0 (by decide) (hts _ (hsub _ w_181)) (fun _ h9 => h9) rfl d_F_count_49 ?_
    refine va_get (D := (dC, dI)) (ci := 3) (v := .int 0) (C := R_W) (T := T_W) (N := 10) hx hb hts (fun w h => hsub w (uw_W w h)) hown hK hP 1 rfl rfl 9 (by decide) (hts _ (hsub _ w_204)) (fun _ h9 => h9) rfl d_F_count_52 ?_
    refine W.widen (k := 0) (n := 0) (Nat.le_of_ble_eq_true rfl) (Nat.le_of_ble_eq_true rfl) ?_
    exact W.iret (v := 0) hx hb hr (fun t ht hW => ⟨⟨0, (), rfl, by decide, trivial⟩, hS.F ht⟩) hS.2.2 d_F_count_55
  · subst h9
    refine lv_tableIn (off := 55) (tgt := 56) hx hb d_F_count_1 (by decide) (by decide) (by decide) (by decide) ?_
    refine lv_aload_n hx hb d_F_count_56 rfl (lv_at hl 0 rfl) ?_
    refine va_get (D := (dC, dI)) (ci := 4) (v := .int 0) (C := R_F) (T := T_F) (N := 4) hx hb hts (fun w h => hsub w (uw_F w h)) hown hK hP 0 rfl rfl 3 (by decide) (hts _ (hsub _ w_210)) (fun _ h9 => h9) rfl d_F_count_57 ?_
    refine W.widen (k := 0) (n := 0) (Nat.le_of_ble_eq_true rfl) (Nat.le_of_ble_eq_true rfl) ?_
    exact W.iret (v := 0) hx hb hr (fun t ht hW => ⟨⟨0, (), rfl, by decide, trivial⟩, hS.F ht⟩) hS.2.2 d_F_count_60
  · skip
    refine lv_tableOut (tgt := 61) hx hb d_F_count_1 h9 (by decide) ?_
    refine lv_iconst (v := (-1)) hx hb d_F_count_61 (by decide) ?_
    refine W.widen (k := 0) (n := 0) (Nat.le_of_ble_eq_true rfl) (Nat.le_of_ble_eq_true rfl) ?_
    exact W.iret (v := (-1)) hx hb hr (fun t ht hW => ⟨⟨(-1), (), rfl, (cnt_out h9).symm, trivial⟩, hS.F ht⟩) hS.2.2 d_F_count_62
end
section
abbrev y_H_init : MethodName := ⟨"MapFramer$Heap", "<init>", "()V"⟩
abbrev y_C_init : MethodName := ⟨"MapFramer$Call", "<init>", "()V"⟩
abbrev y_K_init : MethodName := ⟨"MapFramer$Machine", "<init>", "()V"⟩
abbrev y_W_init : MethodName := ⟨"MapFramer$World", "<init>", "()V"⟩
abbrev y_F_init : MethodName := ⟨"MapFramer", "<init>", "()V"⟩
theorem w_220 : (Cond.methodLink "MapFramer$Heap" 1 ⟨"java/lang/Object", "<init>", "()V"⟩ : Cond) ∈ bigW := inB_1 100 (by decide +kernel) rfl
theorem w_221 : (Cond.fieldLink "MapFramer$Heap" 9 "MapFramer$Heap" "types" "[I" : Cond) ∈ bigW := inB_1 101 (by decide +kernel) rfl
theorem w_222 : (Cond.fieldLink "MapFramer$Heap" 13 "MapFramer$Heap" "lengths" "[I" : Cond) ∈ bigW := inB_1 102 (by decide +kernel) rfl
theorem w_223 : (Cond.arrayClass .long : Cond) ∈ bigW := inB_1 116 (by decide +kernel) rfl
theorem w_224 : (Cond.fieldLink "MapFramer$Heap" 16 "MapFramer$Heap" "values" "[J" : Cond) ∈ bigW := inB_1 103 (by decide +kernel) rfl
theorem w_225 : (Cond.methodLink "MapFramer$Call" 3 ⟨"java/lang/Object", "<init>", "()V"⟩ : Cond) ∈ bigW := inB_1 123 (by decide +kernel) rfl
theorem w_226 : (Cond.fieldLink "MapFramer$Call" 9 "MapFramer$Call" "locals" "[J" : Cond) ∈ bigW := inB_1 128 (by decide +kernel) rfl
theorem w_227 : (Cond.fieldLink "MapFramer$Call" 15 "MapFramer$Call" "stack" "[J" : Cond) ∈ bigW := inB_1 129 (by decide +kernel) rfl
theorem w_228 : (Cond.methodLink "MapFramer$Machine" 3 ⟨"java/lang/Object", "<init>", "()V"⟩ : Cond) ∈ bigW := inB_1 94 (by decide +kernel) rfl
theorem w_229 : (Cond.classLink "MapFramer$Machine" 9 "MapFramer$Heap" : Cond) ∈ bigW := inB_1 95 (by decide +kernel) rfl
theorem w_230 : (Cond.instantiable "MapFramer$Heap" 4 : Cond) ∈ bigW := inB_1 96 (by decide +kernel) rfl
theorem w_231 : (Cond.initialized "MapFramer$Heap" : Cond) ∈ bigW := inB_1 4 (by decide +kernel) rfl
theorem w_232 : (Cond.code ⟨"MapFramer$Heap", "<init>", "()V"⟩ prog_5_method_1_code 1 none : Cond) ∈ bigW := inB_1 99 rfl rfl
theorem w_233 : (Cond.instanceMethod ⟨"MapFramer$Heap", "<init>", "()V"⟩ : Cond) ∈ bigW := inB_1 98 (by decide +kernel) rfl
theorem w_234 : (Cond.fieldLink "MapFramer$Machine" 12 "MapFramer$Machine" "heap" "LMapFramer$Heap;" : Cond) ∈ bigW := inB_1 143 (by decide +kernel) rfl
theorem w_235 : (Cond.fieldLink "MapFramer$Machine" 20 "MapFramer$Machine" "statics" "[J" : Cond) ∈ bigW := inB_1 145 (by decide +kernel) rfl
theorem w_236 : (Cond.classLink "MapFramer$Machine" 24 "MapFramer$Call" : Cond) ∈ bigW := inB_1 117 (by decide +kernel) rfl
theorem w_237 : (Cond.fieldLink "MapFramer$Machine" 26 "MapFramer$Machine" "calls" "[LMapFramer$Call;" : Cond) ∈ bigW := inB_1 146 (by decide +kernel) rfl
theorem w_238 : (Cond.fieldLink "MapFramer$Machine" 30 "MapFramer$Machine" "outcome" "I" : Cond) ∈ bigW := inB_1 155 (by decide +kernel) rfl
theorem w_239 : (Cond.fieldLink "MapFramer$Machine" 34 "MapFramer$Machine" "thrownClass" "I" : Cond) ∈ bigW := inB_1 159 (by decide +kernel) rfl
theorem w_240 : (Cond.instantiable "MapFramer$Call" 5 : Cond) ∈ bigW := inB_1 119 (by decide +kernel) rfl
theorem w_241 : (Cond.initialized "MapFramer$Call" : Cond) ∈ bigW := inB_1 5 (by decide +kernel) rfl
theorem w_242 : (Cond.code ⟨"MapFramer$Call", "<init>", "()V"⟩ prog_2_method_1_code 1 none : Cond) ∈ bigW := inB_1 122 rfl rfl
theorem w_243 : (Cond.instanceMethod ⟨"MapFramer$Call", "<init>", "()V"⟩ : Cond) ∈ bigW := inB_1 121 (by decide +kernel) rfl
theorem w_244 : (Cond.methodLink "MapFramer$World" 3 ⟨"java/lang/Object", "<init>", "()V"⟩ : Cond) ∈ bigW := inB_1 50 (by decide +kernel) rfl
theorem w_245 : (Cond.arrayClass .boolean : Cond) ∈ bigW := inB_1 88 (by decide +kernel) rfl
theorem w_246 : (Cond.methodLink "MapFramer" 1 ⟨"java/lang/Object", "<init>", "()V"⟩ : Cond) ∈ bigW := inB_1 42 (by decide +kernel) rfl
theorem w_247 : (Cond.classLink "MapFramer" 7 "MapFramer$World" : Cond) ∈ bigW := inB_1 45 (by decide +kernel) rfl
theorem w_248 : (Cond.instantiable "MapFramer$World" 10 : Cond) ∈ bigW := inB_1 46 (by decide +kernel) rfl
theorem w_249 : (Cond.methodLink "MapFramer" 9 ⟨"MapFramer$World", "<init>", "()V"⟩ : Cond) ∈ bigW := inB_1 47 (by decide +kernel) rfl
theorem w_250 : (Cond.code ⟨"MapFramer$World", "<init>", "()V"⟩ prog_12_method_1_code 1 none : Cond) ∈ bigW := inB_1 49 rfl rfl
theorem w_251 : (Cond.instanceMethod ⟨"MapFramer$World", "<init>", "()V"⟩ : Cond) ∈ bigW := inB_1 48 (by decide +kernel) rfl
theorem w_252 : (Cond.classLink "MapFramer" 16 "MapFramer$Machine" : Cond) ∈ bigW := inB_1 89 (by decide +kernel) rfl
theorem w_253 : (Cond.instantiable "MapFramer$Machine" 14 : Cond) ∈ bigW := inB_1 90 (by decide +kernel) rfl
theorem w_254 : (Cond.initialized "MapFramer$Machine" : Cond) ∈ bigW := inB_1 3 (by decide +kernel) rfl
theorem w_255 : (Cond.methodLink "MapFramer" 18 ⟨"MapFramer$Machine", "<init>", "()V"⟩ : Cond) ∈ bigW := inB_1 91 (by decide +kernel) rfl
theorem w_256 : (Cond.code ⟨"MapFramer$Machine", "<init>", "()V"⟩ prog_6_method_1_code 2 none : Cond) ∈ bigW := inB_1 93 rfl rfl
theorem w_257 : (Cond.instanceMethod ⟨"MapFramer$Machine", "<init>", "()V"⟩ : Cond) ∈ bigW := inB_1 92 (by decide +kernel) rfl
theorem d_H_init_0 : decode prog_5_method_1_code 0 = .ok (.aload_n 0, 1) := by decide +kernel
theorem d_H_init_1 : decode prog_5_method_1_code 1 = .ok (.invokespecial 1, 3) := by decide +kernel
theorem d_H_init_4 : decode prog_5_method_1_code 4 = .ok (.aload_n 0, 1) := by decide +kernel
theorem d_H_init_5 : decode prog_5_method_1_code 5 = .ok (.sipush 150, 3) := by decide +kernel
theorem d_H_init_8 : decode prog_5_method_1_code 8 = .ok (.newarray .int, 2) := by decide +kernel
theorem d_H_init_10 : decode prog_5_method_1_code 10 = .ok (.putfield 9, 3) := by decide +kernel
theorem d_H_init_13 : decode prog_5_method_1_code 13 = .ok (.aload_n 0, 1) := by decide +kernel
theorem d_H_init_14 : decode prog_5_method_1_code 14 = .ok (.sipush 150, 3) := by decide +kernel
theorem d_H_init_17 : decode prog_5_method_1_code 17 = .ok (.newarray .int, 2) := by decide +kernel
theorem d_H_init_19 : decode prog_5_method_1_code 19 = .ok (.putfield 13, 3) := by decide +kernel
theorem d_H_init_22 : decode prog_5_method_1_code 22 = .ok (.aload_n 0, 1) := by decide +kernel
theorem d_H_init_23 : decode prog_5_method_1_code 23 = .ok (.sipush 3600, 3) := by decide +kernel
theorem d_H_init_26 : decode prog_5_method_1_code 26 = .ok (.newarray .long, 2) := by decide +kernel
theorem d_H_init_28 : decode prog_5_method_1_code 28 = .ok (.putfield 16, 3) := by decide +kernel
theorem d_H_init_31 : decode prog_5_method_1_code 31 = .ok (.return_, 1) := by decide +kernel
theorem d_C_init_0 : decode prog_2_method_1_code 0 = .ok (.aload_n 0, 1) := by decide +kernel
theorem d_C_init_1 : decode prog_2_method_1_code 1 = .ok (.invokespecial 3, 3) := by decide +kernel
theorem d_C_init_4 : decode prog_2_method_1_code 4 = .ok (.aload_n 0, 1) := by decide +kernel
theorem d_C_init_5 : decode prog_2_method_1_code 5 = .ok (.bipush 12, 2) := by decide +kernel
theorem d_C_init_7 : decode prog_2_method_1_code 7 = .ok (.newarray .long, 2) := by decide +kernel
theorem d_C_init_9 : decode prog_2_method_1_code 9 = .ok (.putfield 9, 3) := by decide +kernel
theorem d_C_init_12 : decode prog_2_method_1_code 12 = .ok (.aload_n 0, 1) := by decide +kernel
theorem d_C_init_13 : decode prog_2_method_1_code 13 = .ok (.bipush 12, 2) := by decide +kernel
theorem d_C_init_15 : decode prog_2_method_1_code 15 = .ok (.newarray .long, 2) := by decide +kernel
theorem d_C_init_17 : decode prog_2_method_1_code 17 = .ok (.putfield 15, 3) := by decide +kernel
theorem d_C_init_20 : decode prog_2_method_1_code 20 = .ok (.return_, 1) := by decide +kernel
theorem d_K_init_0 : decode prog_6_method_1_code 0 = .ok (.aload_n 0, 1) := by decide +kernel
theorem d_K_init_1 : decode prog_6_method_1_code 1 = .ok (.invokespecial 3, 3) := by decide +kernel
theorem d_K_init_4 : decode prog_6_method_1_code 4 = .ok (.aload_n 0, 1) := by decide +kernel
theorem d_K_init_5 : decode prog_6_method_1_code 5 = .ok (.new 9, 3) := by decide +kernel
theorem d_K_init_8 : decode prog_6_method_1_code 8 = .ok (.dup, 1) := by decide +kernel
theorem d_K_init_9 : decode prog_6_method_1_code 9 = .ok (.invokespecial 11, 3) := by decide +kernel
theorem d_K_init_12 : decode prog_6_method_1_code 12 = .ok (.putfield 12, 3) := by decide +kernel
theorem d_K_init_15 : decode prog_6_method_1_code 15 = .ok (.aload_n 0, 1) := by decide +kernel
theorem d_K_init_16 : decode prog_6_method_1_code 16 = .ok (.bipush 16, 2) := by decide +kernel
theorem d_K_init_18 : decode prog_6_method_1_code 18 = .ok (.newarray .long, 2) := by decide +kernel
theorem d_K_init_20 : decode prog_6_method_1_code 20 = .ok (.putfield 20, 3) := by decide +kernel
theorem d_K_init_23 : decode prog_6_method_1_code 23 = .ok (.aload_n 0, 1) := by decide +kernel
theorem d_K_init_24 : decode prog_6_method_1_code 24 = .ok (.bipush 24, 2) := by decide +kernel
theorem d_K_init_26 : decode prog_6_method_1_code 26 = .ok (.anewarray 24, 3) := by decide +kernel
theorem d_K_init_29 : decode prog_6_method_1_code 29 = .ok (.putfield 26, 3) := by decide +kernel
theorem d_K_init_32 : decode prog_6_method_1_code 32 = .ok (.aload_n 0, 1) := by decide +kernel
theorem d_K_init_33 : decode prog_6_method_1_code 33 = .ok (.iconst (-1), 1) := by decide +kernel
theorem d_K_init_34 : decode prog_6_method_1_code 34 = .ok (.putfield 30, 3) := by decide +kernel
theorem d_K_init_37 : decode prog_6_method_1_code 37 = .ok (.aload_n 0, 1) := by decide +kernel
theorem d_K_init_38 : decode prog_6_method_1_code 38 = .ok (.iconst (-1), 1) := by decide +kernel
theorem d_K_init_39 : decode prog_6_method_1_code 39 = .ok (.putfield 34, 3) := by decide +kernel
theorem d_K_init_42 : decode prog_6_method_1_code 42 = .ok (.iconst 0, 1) := by decide +kernel
theorem d_K_init_43 : decode prog_6_method_1_code 43 = .ok (.istore_n 1, 1) := by decide +kernel
theorem d_K_init_44 : decode prog_6_method_1_code 44 = .ok (.iload_n 1, 1) := by decide +kernel
theorem d_K_init_45 : decode prog_6_method_1_code 45 = .ok (.bipush 24, 2) := by decide +kernel
theorem d_K_init_47 : decode prog_6_method_1_code 47 = .ok (.if_icmp .ge 22, 3) := by decide +kernel
theorem d_K_init_50 : decode prog_6_method_1_code 50 = .ok (.aload_n 0, 1) := by decide +kernel
theorem d_K_init_51 : decode prog_6_method_1_code 51 = .ok (.getfield 26, 3) := by decide +kernel
theorem d_K_init_54 : decode prog_6_method_1_code 54 = .ok (.iload_n 1, 1) := by decide +kernel
theorem d_K_init_55 : decode prog_6_method_1_code 55 = .ok (.new 24, 3) := by decide +kernel
theorem d_K_init_58 : decode prog_6_method_1_code 58 = .ok (.dup, 1) := by decide +kernel
theorem d_K_init_59 : decode prog_6_method_1_code 59 = .ok (.invokespecial 37, 3) := by decide +kernel
theorem d_K_init_62 : decode prog_6_method_1_code 62 = .ok (.aastore, 1) := by decide +kernel
theorem d_K_init_63 : decode prog_6_method_1_code 63 = .ok (.iinc 1 1, 3) := by decide +kernel
theorem d_K_init_66 : decode prog_6_method_1_code 66 = .ok (.goto (-22), 3) := by decide +kernel
theorem d_K_init_69 : decode prog_6_method_1_code 69 = .ok (.return_, 1) := by decide +kernel
theorem d_W_init_0 : decode prog_12_method_1_code 0 = .ok (.aload_n 0, 1) := by decide +kernel
theorem d_W_init_1 : decode prog_12_method_1_code 1 = .ok (.invokespecial 3, 3) := by decide +kernel
theorem d_W_init_4 : decode prog_12_method_1_code 4 = .ok (.aload_n 0, 1) := by decide +kernel
theorem d_W_init_5 : decode prog_12_method_1_code 5 = .ok (.bipush 16, 2) := by decide +kernel
theorem d_W_init_7 : decode prog_12_method_1_code 7 = .ok (.newarray .int, 2) := by decide +kernel
theorem d_W_init_9 : decode prog_12_method_1_code 9 = .ok (.putfield 11, 3) := by decide +kernel
theorem d_W_init_12 : decode prog_12_method_1_code 12 = .ok (.aload_n 0, 1) := by decide +kernel
theorem d_W_init_13 : decode prog_12_method_1_code 13 = .ok (.bipush 16, 2) := by decide +kernel
theorem d_W_init_15 : decode prog_12_method_1_code 15 = .ok (.newarray .int, 2) := by decide +kernel
theorem d_W_init_17 : decode prog_12_method_1_code 17 = .ok (.putfield 15, 3) := by decide +kernel
theorem d_W_init_20 : decode prog_12_method_1_code 20 = .ok (.aload_n 0, 1) := by decide +kernel
theorem d_W_init_21 : decode prog_12_method_1_code 21 = .ok (.bipush 16, 2) := by decide +kernel
theorem d_W_init_23 : decode prog_12_method_1_code 23 = .ok (.newarray .boolean, 2) := by decide +kernel
theorem d_W_init_25 : decode prog_12_method_1_code 25 = .ok (.putfield 18, 3) := by decide +kernel
theorem d_W_init_28 : decode prog_12_method_1_code 28 = .ok (.aload_n 0, 1) := by decide +kernel
theorem d_W_init_29 : decode prog_12_method_1_code 29 = .ok (.bipush 16, 2) := by decide +kernel
theorem d_W_init_31 : decode prog_12_method_1_code 31 = .ok (.newarray .int, 2) := by decide +kernel
theorem d_W_init_33 : decode prog_12_method_1_code 33 = .ok (.putfield 22, 3) := by decide +kernel
theorem d_W_init_36 : decode prog_12_method_1_code 36 = .ok (.aload_n 0, 1) := by decide +kernel
theorem d_W_init_37 : decode prog_12_method_1_code 37 = .ok (.bipush 16, 2) := by decide +kernel
theorem d_W_init_39 : decode prog_12_method_1_code 39 = .ok (.newarray .int, 2) := by decide +kernel
theorem d_W_init_41 : decode prog_12_method_1_code 41 = .ok (.putfield 25, 3) := by decide +kernel
theorem d_W_init_44 : decode prog_12_method_1_code 44 = .ok (.aload_n 0, 1) := by decide +kernel
theorem d_W_init_45 : decode prog_12_method_1_code 45 = .ok (.bipush 16, 2) := by decide +kernel
theorem d_W_init_47 : decode prog_12_method_1_code 47 = .ok (.newarray .boolean, 2) := by decide +kernel
theorem d_W_init_49 : decode prog_12_method_1_code 49 = .ok (.putfield 28, 3) := by decide +kernel
theorem d_W_init_52 : decode prog_12_method_1_code 52 = .ok (.aload_n 0, 1) := by decide +kernel
theorem d_W_init_53 : decode prog_12_method_1_code 53 = .ok (.bipush 8, 2) := by decide +kernel
theorem d_W_init_55 : decode prog_12_method_1_code 55 = .ok (.anewarray 31, 3) := by decide +kernel
theorem d_W_init_58 : decode prog_12_method_1_code 58 = .ok (.putfield 33, 3) := by decide +kernel
theorem d_W_init_61 : decode prog_12_method_1_code 61 = .ok (.aload_n 0, 1) := by decide +kernel
theorem d_W_init_62 : decode prog_12_method_1_code 62 = .ok (.getfield 11, 3) := by decide +kernel
theorem d_W_init_65 : decode prog_12_method_1_code 65 = .ok (.iconst 0, 1) := by decide +kernel
theorem d_W_init_66 : decode prog_12_method_1_code 66 = .ok (.iconst (-1), 1) := by decide +kernel
theorem d_W_init_67 : decode prog_12_method_1_code 67 = .ok (.iastore, 1) := by decide +kernel
theorem d_W_init_68 : decode prog_12_method_1_code 68 = .ok (.aload_n 0, 1) := by decide +kernel
theorem d_W_init_69 : decode prog_12_method_1_code 69 = .ok (.getfield 15, 3) := by decide +kernel
theorem d_W_init_72 : decode prog_12_method_1_code 72 = .ok (.iconst 0, 1) := by decide +kernel
theorem d_W_init_73 : decode prog_12_method_1_code 73 = .ok (.iconst 1, 1) := by decide +kernel
theorem d_W_init_74 : decode prog_12_method_1_code 74 = .ok (.iastore, 1) := by decide +kernel
theorem d_W_init_75 : decode prog_12_method_1_code 75 = .ok (.aload_n 0, 1) := by decide +kernel
theorem d_W_init_76 : decode prog_12_method_1_code 76 = .ok (.getfield 11, 3) := by decide +kernel
theorem d_W_init_79 : decode prog_12_method_1_code 79 = .ok (.iconst 1, 1) := by decide +kernel
theorem d_W_init_80 : decode prog_12_method_1_code 80 = .ok (.iconst 0, 1) := by decide +kernel
theorem d_W_init_81 : decode prog_12_method_1_code 81 = .ok (.iastore, 1) := by decide +kernel
theorem d_W_init_82 : decode prog_12_method_1_code 82 = .ok (.aload_n 0, 1) := by decide +kernel
theorem d_W_init_83 : decode prog_12_method_1_code 83 = .ok (.getfield 15, 3) := by decide +kernel
theorem d_W_init_86 : decode prog_12_method_1_code 86 = .ok (.iconst 1, 1) := by decide +kernel
theorem d_W_init_87 : decode prog_12_method_1_code 87 = .ok (.iconst 3, 1) := by decide +kernel
theorem d_W_init_88 : decode prog_12_method_1_code 88 = .ok (.iastore, 1) := by decide +kernel
theorem d_W_init_89 : decode prog_12_method_1_code 89 = .ok (.aload_n 0, 1) := by decide +kernel
theorem d_W_init_90 : decode prog_12_method_1_code 90 = .ok (.iconst 2, 1) := by decide +kernel
theorem d_W_init_91 : decode prog_12_method_1_code 91 = .ok (.putfield 37, 3) := by decide +kernel
theorem d_W_init_94 : decode prog_12_method_1_code 94 = .ok (.return_, 1) := by decide +kernel
theorem d_F_init_0 : decode prog_1_method_1_code 0 = .ok (.aload_n 0, 1) := by decide +kernel
theorem d_F_init_1 : decode prog_1_method_1_code 1 = .ok (.invokespecial 1, 3) := by decide +kernel
theorem d_F_init_4 : decode prog_1_method_1_code 4 = .ok (.aload_n 0, 1) := by decide +kernel
theorem d_F_init_5 : decode prog_1_method_1_code 5 = .ok (.new 7, 3) := by decide +kernel
theorem d_F_init_8 : decode prog_1_method_1_code 8 = .ok (.dup, 1) := by decide +kernel
theorem d_F_init_9 : decode prog_1_method_1_code 9 = .ok (.invokespecial 9, 3) := by decide +kernel
theorem d_F_init_12 : decode prog_1_method_1_code 12 = .ok (.putfield 10, 3) := by decide +kernel
theorem d_F_init_15 : decode prog_1_method_1_code 15 = .ok (.aload_n 0, 1) := by decide +kernel
theorem d_F_init_16 : decode prog_1_method_1_code 16 = .ok (.new 16, 3) := by decide +kernel
theorem d_F_init_19 : decode prog_1_method_1_code 19 = .ok (.dup, 1) := by decide +kernel
theorem d_F_init_20 : decode prog_1_method_1_code 20 = .ok (.invokespecial 18, 3) := by decide +kernel
theorem d_F_init_23 : decode prog_1_method_1_code 23 = .ok (.putfield 19, 3) := by decide +kernel
theorem d_F_init_26 : decode prog_1_method_1_code 26 = .ok (.aload_n 0, 1) := by decide +kernel
theorem d_F_init_27 : decode prog_1_method_1_code 27 = .ok (.sipush 400, 3) := by decide +kernel
theorem d_F_init_30 : decode prog_1_method_1_code 30 = .ok (.newarray .int, 2) := by decide +kernel
theorem d_F_init_32 : decode prog_1_method_1_code 32 = .ok (.putfield 23, 3) := by decide +kernel
theorem d_F_init_35 : decode prog_1_method_1_code 35 = .ok (.aload_n 0, 1) := by decide +kernel
theorem d_F_init_36 : decode prog_1_method_1_code 36 = .ok (.iconst 0, 1) := by decide +kernel
theorem d_F_init_37 : decode prog_1_method_1_code 37 = .ok (.putfield 27, 3) := by decide +kernel
theorem d_F_init_40 : decode prog_1_method_1_code 40 = .ok (.return_, 1) := by decide +kernel

abbrev ws_k_H_init (q : Nat) : va_W := [(q, .inr (1, [.null, .null, .null, .int 0]))]
set_option maxHeartbeats 4000000 in
set_option maxRecDepth 100000 in
theorem k_H_init (l : Launch) (dC : Nat → ClassId) (dI : Nat → Nat → Nat) (q : Nat) (sz : Nat) : Met l y_H_init (Cond.code y_H_init prog_5_method_1_code 1 none :: bigW) ({ frames := 1, cells := 3, slots := 3900, locals := 12 } : Room) (va_Pc [.ref q] (fun U => U.heap.size = sz ∧ va_P (dC, dI) vwCl (ws_k_H_init q) U.heap ∧ va_K (dC, dI) vwCl [] U ∧ va_D (fun _ => True) (ws_k_H_init q))) (va_Qv (fun (u : Unit) => True) (fun _ _ => True) (va_A (ws_k_H_init q) sz)) 3 3900 (va_A (ws_k_H_init q) sz) := by
  refine Met.ofW (cc := prog_5_method_1_code) (maxL := 1) (ret := none) (by decide) rfl ?_
  intro p e s m args below meth cx s₁ B hml hv
  obtain ⟨rfl, hsz, hP, hK, hD0⟩ := hv
  have hx := B.exec
  have hb := B.bytes
  have hr := B.returns
  have hts := atoms_spec (ws := (Cond.code y_H_init prog_5_method_1_code 1 none :: bigW)) B.pre
  have hsub : ∀ w ∈ bigW, w ∈ (Cond.code y_H_init prog_5_method_1_code 1 none :: bigW) := fun w h => List.mem_cons_of_mem _ h
  have hown : s.vm.findClass "MapFramer$Heap" = some m.cls := findClass_of_methodNamed B.named
  have hlocks := B.notSynchronized
  have hin : meth.name = "<init>" := (name_of_methodNamed B.named B.method).1
  subst hsz
  have hD := hD0.self (sz := s.heap.size)
  generalize hAe : va_A (ws_k_H_init q) s.heap.size = A at hD ⊢
  have hA : ∀ q : Nat, s.heap.size ≤ q → A q := fun q h => by rw [← hAe]; exact Or.inr h
  have hS : va_S A s.heap s.heap [] := va_S.rf
  have hP : va_P (dC, dI) vwCl [(q, .inr (1, [.null, .null, .null, .int 0]))] s.heap := hP
  have hD : va_D A [(q, .inr (1, [.null, .null, .null, .int 0]))] := hD
  have hl := lv_entry ([.ref q]) (n := 1) (Nat.le_of_ble_eq_true rfl)
  rw [lg_entry_eq]
  generalize (lg_sl ([.ref q]) ++ List.replicate (1 - (lg_sl ([.ref q])).length) Slot.unset).toArray = ls at hl ⊢
  have hl : lv_has ls 1 [(0, .ref q)] := hl
  refine lv_aload_n hx hb d_H_init_0 rfl (lv_at hl 0 rfl) ?_
  refine W.objInit hx hb hown (hts _ (hsub _ w_220)) (hts _ (hsub _ w_142)) (hts _ (hsub _ w_143)) rfl (by rw [hml]; exact hl.1) rfl d_H_init_1 (Nat.le_of_ble_eq_true rfl) (Nat.le_of_ble_eq_true rfl) ?_
  refine W.eq (g2 := F0 m 4 ls []) rfl ?_
  refine lv_aload_n hx hb d_H_init_4 rfl (lv_at hl 0 rfl) ?_
  refine lv_sipush (v := 150) hx hb d_H_init_5 (by decide) ?_
  refine va_newa (atype := .int) (ty := .int) (N' := 150) (a0 := (150, .inl (fun _ => 0))) hx hb (hts _ (hsub _ w_156)) rfl hK hP hD hS hA (fun _ => vz_i _ _) (by decide) (by decide) (Nat.le_of_ble_eq_true rfl) (Nat.le_of_ble_eq_true rfl) (Nat.le_of_ble_eq_true rfl) d_H_init_8 (fun q_1 k_2 H hK hP hD hS => ?_)
  have hK : va_K (dC, dI) vwCl [(k_2, .int)] s := hK
  have hP : va_P (dC, dI) vwCl [(q, .inr (1, [.null, .null, .null, .int 0])), (q_1, .inl (k_2, 150, .inl (fun _ => 0)))] H := hP
  have hD : va_D A [(q, .inr (1, [.null, .null, .null, .int 0])), (q_1, .inl (k_2, 150, .inl (fun _ => 0)))] := hD
  refine W.widen (k := 1) (n := 150) (Nat.le_of_ble_eq_true rfl) (Nat.le_of_ble_eq_true rfl) ?_
  refine va_putF (D := (dC, dI)) (ci := 1) (v := .ref q_1) (ty := (.array .int)) (C := R_H) (T := T_H) (N := 4) hx hb hts (fun w h => hsub w (uw_H w h)) ty_H tok_H nm_H hown hK hP hD hS 0 rfl rfl 0 (by decide) (hts _ (hsub _ w_221)) (fun _ h9 => h9) rfl hin rfl (by decide +kernel) rfl rfl (Nat.le_of_ble_eq_true rfl) d_H_init_10 (fun H locs hP hD hS => ?_)
  have hP : va_P (dC, dI) vwCl [(q, .inr (1, [.ref q_1, .null, .null, .int 0])), (q_1, .inl (k_2, 150, .inl (fun _ => 0)))] H := hP
  have hD : va_D A [(q, .inr (1, [.ref q_1, .null, .null, .int 0])), (q_1, .inl (k_2, 150, .inl (fun _ => 0)))] := hD
  refine lv_aload_n hx hb d_H_init_13 rfl (lv_at hl 0 rfl) ?_
  refine lv_sipush (v := 150) hx hb d_H_init_14 (by decide) ?_
  refine va_newa (atype := .int) (ty := .int) (N' := 150) (a0 := (150, .inl (fun _ => 0))) hx hb (hts _ (hsub _ w_156)) rfl hK hP hD hS hA (fun _ => vz_i _ _) (by decide) (by decide) (Nat.le_of_ble_eq_true rfl) (Nat.le_of_ble_eq_true rfl) (Nat.le_of_ble_eq_true rfl) d_H_init_17 (fun q_3 k_4 H hK hP hD hS => ?_)
  have hK : va_K (dC, dI) vwCl [(k_2, .int), (k_4, .int)] s := hK
  have hP : va_P (dC, dI) vwCl [(q, .inr (1, [.ref q_1, .null, .null, .int 0])), (q_1, .inl (k_2, 150, .inl (fun _ => 0))), (q_3, .inl (k_4, 150, .inl (fun _ => 0)))] H := hP
  have hD : va_D A [(q, .inr (1, [.ref q_1, .null, .null, .int 0])), (q_1, .inl (k_2, 150, .inl (fun _ => 0))), (q_3, .inl (k_4, 150, .inl (fun _ => 0)))] := hD
  refine W.widen (k := 2) (n := 300) (Nat.le_of_ble_eq_true rfl) (Nat.le_of_ble_eq_true rfl) ?_
  refine va_putF (D := (dC, dI)) (ci := 1) (v := .ref q_3) (ty := (.array .int)) (C := R_H) (T := T_H) (N := 4) hx hb hts (fun w h => hsub w (uw_H w h)) ty_H tok_H nm_H hown hK hP hD hS 0 rfl rfl 1 (by decide) (hts _ (hsub _ w_222)) (fun _ h9 => h9) rfl hin rfl (by decide +kernel) rfl rfl (Nat.le_of_ble_eq_true rfl) d_H_init_19 (fun H locs hP hD hS => ?_)
  have hP : va_P (dC, dI) vwCl [(q, .inr (1, [.ref q_1, .ref q_3, .null, .int 0])), (q_1, .inl (k_2, 150, .inl (fun _ => 0))), (q_3, .inl (k_4, 150, .inl (fun _ => 0)))] H := hP
  have hD : va_D A [(q, .inr (1, [.ref q_1, .ref q_3, .null, .int 0])), (q_1, .inl (k_2, 150, .inl (fun _ => 0))), (q_3, .inl (k_4, 150, .inl (fun _ => 0)))] := hD
  refine lv_aload_n hx hb d_H_init_22 rfl (lv_at hl 0 rfl) ?_
  refine lv_sipush (v := 3600) hx hb d_H_init_23 (by decide) ?_
  refine va_newa (atype := .long) (ty := .long) (N' := 3600) (a0 := (3600, .inr (.inl (fun _ => 0)))) hx hb (hts _ (hsub _ w_223)) rfl hK hP hD hS hA (fun _ => vz_l _ _) (by decide) (by decide) (Nat.le_of_ble_eq_true rfl) (Nat.le_of_ble_eq_true rfl) (Nat.le_of_ble_eq_true rfl) d_H_init_26 (fun q_5 k_6 H hK hP hD hS => ?_)
  have hK : va_K (dC, dI) vwCl [(k_2, .int), (k_4, .int), (k_6, .long)] s := hK
  have hP : va_P (dC, dI) vwCl [(q, .inr (1, [.ref q_1, .ref q_3, .null, .int 0])), (q_1, .inl (k_2, 150, .inl (fun _ => 0))), (q_3, .inl (k_4, 150, .inl (fun _ => 0))), (q_5, .inl (k_6, 3600, .inr (.inl (fun _ => 0))))] H := hP
  have hD : va_D A [(q, .inr (1, [.ref q_1, .ref q_3, .null, .int 0])), (q_1, .inl (k_2, 150, .inl (fun _ => 0))), (q_3, .inl (k_4, 150, .inl (fun _ => 0))), (q_5, .inl (k_6, 3600, .inr (.inl (fun _ => 0))))] := hD
  refine W.widen (k := 3) (n := 3900) (Nat.le_of_ble_eq_true rfl) (Nat.le_of_ble_eq_true rfl) ?_
  refine va_putF (D := (dC, dI)) (ci := 1) (v := .ref q_5) (ty := (.array .long)) (C := R_H) (T := T_H) (N := 4) hx hb hts (fun w h => hsub w (uw_H w h)) ty_H tok_H nm_H hown hK hP hD hS 0 rfl rfl 2 (by decide) (hts _ (hsub _ w_224)) (fun _ h9 => h9) rfl hin rfl (by decide +kernel) rfl rfl (Nat.le_of_ble_eq_true rfl) d_H_init_28 (fun H locs hP hD hS => ?_)
  have hP : va_P (dC, dI) vwCl [(q, .inr (1, [.ref q_1, .ref q_3, .ref q_5, .int 0])), (q_1, .inl (k_2, 150, .inl (fun _ => 0))), (q_3, .inl (k_4, 150, .inl (fun _ => 0))), (q_5, .inl (k_6, 3600, .inr (.inl (fun _ => 0))))] H := hP
  have hD : va_D A [(q, .inr (1, [.ref q_1, .ref q_3, .ref q_5, .int 0])), (q_1, .inl (k_2, 150, .inl (fun _ => 0))), (q_3, .inl (k_4, 150, .inl (fun _ => 0))), (q_5, .inl (k_6, 3600, .inr (.inl (fun _ => 0))))] := hD
  refine W.widen (k := 3) (n := 3900) (Nat.le_of_ble_eq_true rfl) (Nat.le_of_ble_eq_true rfl) ?_
  exact W.vret hx hb hr (fun t ht hW => ⟨⟨(), rfl, trivial, trivial⟩, hS.F ht⟩) hS.2.2 d_H_init_31

abbrev ws_k_C_init (q : Nat) : va_W := [(q, .inr (0, [.null, .int 0, .null, .null, .int 0]))]
set_option maxHeartbeats 4000000 in
set_option maxRecDepth 100000 in
theorem k_C_init (l : Launch) (dC : Nat → ClassId) (dI : Nat → Nat → Nat) (q : Nat) (sz : Nat) : Met l y_C_init (Cond.code y_C_init prog_2_method_1_code 1 none :: bigW) ({ frames := 1, cells := 2, slots := 24, locals := 12 } : Room) (va_Pc [.ref q] (fun U => U.heap.size = sz ∧ va_P (dC, dI) vwCl (ws_k_C_init q) U.heap ∧ va_K (dC, dI) vwCl [] U ∧ va_D (fun _ => True) (ws_k_C_init q))) (va_Qv (fun (u : Unit) => True) (fun _ t => ∃ (q1 q2 : Nat), va_P (dC, dI) vwCl [(q, .inr (0, [.null, .int 0, .ref q1, .ref q2, .int 0]))] t.heap ∧ va_K (dC, dI) vwCl [] t ∧ va_D (va_A (ws_k_C_init q) sz) [(q, .inr (0, [.null, .int 0, .ref q1, .ref q2, .int 0]))]) (va_A (ws_k_C_init q) sz)) 2 24 (va_A (ws_k_C_init q) sz) := by
  refine Met.ofW (cc := prog_2_method_1_code) (maxL := 1) (ret := none) (by decide) rfl ?_
  intro p e s m args below meth cx s₁ B hml hv
  obtain ⟨rfl, hsz, hP, hK, hD0⟩ := hv
  have hx := B.exec
  have hb := B.bytes
  have hr := B.returns
  have hts := atoms_spec (ws := (Cond.code y_C_init prog_2_method_1_code 1 none :: bigW)) B.pre
  have hsub : ∀ w ∈ bigW, w ∈ (Cond.code y_C_init prog_2_method_1_code 1 none :: bigW) := fun w h => List.mem_cons_of_mem _ h
  have hown : s.vm.findClass "MapFramer$Call" = some m.cls := findClass_of_methodNamed B.named
  have hlocks := B.notSynchronized
  have hin : meth.name = "<init>" := (name_of_methodNamed B.named B.method).1
  subst hsz
  have hD := hD0.self (sz := s.heap.size)
  generalize hAe : va_A (ws_k_C_init q) s.heap.size = A at hD ⊢
  have hA : ∀ q : Nat, s.heap.size ≤ q → A q := fun q h => by rw [← hAe]; exact Or.inr h
  have hS : va_S A s.heap s.heap [] := va_S.rf
  have hP : va_P (dC, dI) vwCl [(q, .inr (0, [.null, .int 0, .null, .null, .int 0]))] s.heap := hP
  have hD : va_D A [(q, .inr (0, [.null, .int 0, .null, .null, .int 0]))] := hD
  have hl := lv_entry ([.ref q]) (n := 1) (Nat.le_of_ble_eq_true rfl)
  rw [lg_entry_eq]
  generalize (lg_sl ([.ref q]) ++ List.replicate (1 - (lg_sl ([.ref q])).length) Slot.unset).toArray = ls at hl ⊢
  have hl : lv_has ls 1 [(0, .ref q)] := hl
  refine lv_aload_n hx hb d_C_init_0 rfl (lv_at hl 0 rfl) ?_
  refine W.objInit hx hb hown (hts _ (hsub _ w_225)) (hts _ (hsub _ w_142)) (hts _ (hsub _ w_143)) rfl (by rw [hml]; exact hl.1) rfl d_C_init_1 (Nat.le_of_ble_eq_true rfl) (Nat.le_of_ble_eq_true rfl) ?_
  refine W.eq (g2 := F0 m 4 ls []) rfl ?_
  refine lv_aload_n hx hb d_C_init_4 rfl (lv_at hl 0 rfl) ?_
  refine lv_bipush (v := 12) hx hb d_C_init_5 (by decide) ?_
  refine va_newa (atype := .long) (ty := .long) (N' := 12) (a0 := (12, .inr (.inl (fun _ => 0)))) hx hb (hts _ (hsub _ w_223)) rfl hK hP hD hS hA (fun _ => vz_l _ _) (by decide) (by decide) (Nat.le_of_ble_eq_true rfl) (Nat.le_of_ble_eq_true rfl) (Nat.le_of_ble_eq_true rfl) d_C_init_7 (fun q_1 k_2 H hK hP hD hS => ?_)
  have hK : va_K (dC, dI) vwCl [(k_2, .long)] s := hK
  have hP : va_P (dC, dI) vwCl [(q, .inr (0, [.null, .int 0, .null, .null, .int 0])), (q_1, .inl (k_2, 12, .inr (.inl (fun _ => 0))))] H := hP
  have hD : va_D A [(q, .inr (0, [.null, .int 0, .null, .null, .int 0])), (q_1, .inl (k_2, 12, .inr (.inl (fun _ => 0))))] := hD
  refine W.widen (k := 1) (n := 12) (Nat.le_of_ble_eq_true rfl) (Nat.le_of_ble_eq_true rfl) ?_
  refine va_putF (D := (dC, dI)) (ci := 0) (v := .ref q_1) (ty := (.array .long)) (C := R_C) (T := T_C) (N := 5) hx hb hts (fun w h => hsub w (uw_C w h)) ty_C tok_C nm_C hown hK hP hD hS 0 rfl rfl 2 (by decide) (hts _ (hsub _ w_226)) (fun _ h9 => h9) rfl hin rfl (by decide +kernel) rfl rfl (Nat.le_of_ble_eq_true rfl) d_C_init_9 (fun H locs hP hD hS => ?_)
  have hP : va_P (dC, dI) vwCl [(q, .inr (0, [.null, .int 0, .ref q_1, .null, .int 0])), (q_1, .inl (k_2, 12, .inr (.inl (fun _ => 0))))] H := hP
  have hD : va_D A [(q, .inr (0, [.null, .int 0, .ref q_1, .null, .int 0])), (q_1, .inl (k_2, 12, .inr (.inl (fun _ => 0))))] := hD
  refine lv_aload_n hx hb d_C_init_12 rfl (lv_at hl 0 rfl) ?_
  refine lv_bipush (v := 12) hx hb d_C_init_13 (by decide) ?_
  refine va_newa (atype := .long) (ty := .long) (N' := 12) (a0 := (12, .inr (.inl (fun _ => 0)))) hx hb (hts _ (hsub _ w_223)) rfl hK hP hD hS hA (fun _ => vz_l _ _) (by decide) (by decide) (Nat.le_of_ble_eq_true rfl) (Nat.le_of_ble_eq_true rfl) (Nat.le_of_ble_eq_true rfl) d_C_init_15 (fun q_3 k_4 H hK hP hD hS => ?_)
  have hK : va_K (dC, dI) vwCl [(k_2, .long), (k_4, .long)] s := hK
  have hP : va_P (dC, dI) vwCl [(q, .inr (0, [.null, .int 0, .ref q_1, .null, .int 0])), (q_1, .inl (k_2, 12, .inr (.inl (fun _ => 0)))), (q_3, .inl (k_4, 12, .inr (.inl (fun _ => 0))))] H := hP
  have hD : va_D A [(q, .inr (0, [.null, .int 0, .ref q_1, .null, .int 0])), (q_1, .inl (k_2, 12, .inr (.inl (fun _ => 0)))), (q_3, .inl (k_4, 12, .inr (.inl (fun _ => 0))))] := hD
  refine W.widen (k := 2) (n := 24) (Nat.le_of_ble_eq_true rfl) (Nat.le_of_ble_eq_true rfl) ?_
  refine va_putF (D := (dC, dI)) (ci := 0) (v := .ref q_3) (ty := (.array .long)) (C := R_C) (T := T_C) (N := 5) hx hb hts (fun w h => hsub w (uw_C w h)) ty_C tok_C nm_C hown hK hP hD hS 0 rfl rfl 3 (by decide) (hts _ (hsub _ w_227)) (fun _ h9 => h9) rfl hin rfl (by decide +kernel) rfl rfl (Nat.le_of_ble_eq_true rfl) d_C_init_17 (fun H locs hP hD hS => ?_)
  have hP : va_P (dC, dI) vwCl [(q, .inr (0, [.null, .int 0, .ref q_1, .ref q_3, .int 0])), (q_1, .inl (k_2, 12, .inr (.inl (fun _ => 0)))), (q_3, .inl (k_4, 12, .inr (.inl (fun _ => 0))))] H := hP
  have hD : va_D A [(q, .inr (0, [.null, .int 0, .ref q_1, .ref q_3, .int 0])), (q_1, .inl (k_2, 12, .inr (.inl (fun _ => 0)))), (q_3, .inl (k_4, 12, .inr (.inl (fun _ => 0))))] := hD
  refine W.widen (k := 2) (n := 24) (Nat.le_of_ble_eq_true rfl) (Nat.le_of_ble_eq_true rfl) ?_
  exact W.vret hx hb hr (fun t ht hW => ⟨⟨(), rfl, trivial, q_1, q_3, by rw [ht]; exact hP.sub [0] rfl, va_K.moved hW.alike (hK.sub (tys' := []) [] rfl), hD.sub [0] (by decide) rfl⟩, hS.F ht⟩) hS.2.2 d_C_init_20

abbrev ws_k_K_init (k : Nat) : va_W := [(k, .inr (2, [.null, .null, .null, .null, .int 0, .null, .int 0, .int 0, .int 0, .int 0, .long 0, .int 0, .int 0, .int 0]))]
set_option maxHeartbeats 4000000 in
set_option maxRecDepth 100000 in
theorem k_K_init (l : Launch) (dC : Nat → ClassId) (dI : Nat → Nat → Nat) (k : Nat) (sz : Nat) : Met l y_K_init (Cond.code y_K_init prog_6_method_1_code 2 none :: bigW) ({ frames := 2, cells := 78, slots := 4640, locals := 32 } : Room) (va_Pc [.ref k] (fun U => U.heap.size = sz ∧ va_P (dC, dI) vwCl (ws_k_K_init k) U.heap ∧ va_K (dC, dI) vwCl [] U ∧ va_D (fun _ => True) (ws_k_K_init k) ∧ exP (va_A (ws_k_K_init k) sz) U)) (va_Qv (fun (u : Unit) => True) (fun _ t => ∃ (kh ks kc9 : Nat), va_P (dC, dI) vwCl [(k, .inr (2, [.ref kh, .ref ks, .ref kc9, .null, .int 0, .null, .int 0, .int 0, .int 0, .int 0, .long 0, .int (-1), .int 0, .int (-1)]))] t.heap ∧ va_K (dC, dI) vwCl [] t ∧ va_D (va_A (ws_k_K_init k) sz) [(k, .inr (2, [.ref kh, .ref ks, .ref kc9, .null, .int 0, .null, .int 0, .int 0, .int 0, .int 0, .long 0, .int (-1), .int 0, .int (-1)]))]) (va_A (ws_k_K_init k) sz)) 78 4640 (va_A (ws_k_K_init k) sz) := by
  refine Met.ofW (cc := prog_6_method_1_code) (maxL := 2) (ret := none) (by decide) rfl ?_
  intro p e s m args below meth cx s₁ B hml hv
  obtain ⟨rfl, hsz, hP, hK, hD0, hex⟩ := hv
  have hx := B.exec
  have hb := B.bytes
  have hr := B.returns
  have hts := atoms_spec (ws := (Cond.code y_K_init prog_6_method_1_code 2 none :: bigW)) B.pre
  have hsub : ∀ w ∈ bigW, w ∈ (Cond.code y_K_init prog_6_method_1_code 2 none :: bigW) := fun w h => List.mem_cons_of_mem _ h
  have hown : s.vm.findClass "MapFramer$Machine" = some m.cls := findClass_of_methodNamed B.named
  have hlocks := B.notSynchronized
  have hin : meth.name = "<init>" := (name_of_methodNamed B.named B.method).1
  subst hsz
  have hD := hD0.self (sz := s.heap.size)
  generalize hAe : va_A (ws_k_K_init k) s.heap.size = A at hD hex ⊢
  have hA : ∀ q : Nat, s.heap.size ≤ q → A q := fun q h => by rw [← hAe]; exact Or.inr h
  have hS : va_S A s.heap s.heap [] := va_S.rf
  have hP : va_P (dC, dI) vwCl [(k, .inr (2, [.null, .null, .null, .null, .int 0, .null, .int 0, .int 0, .int 0, .int 0, .long 0, .int 0, .int 0, .int 0]))] s.heap := hP
  have hD : va_D A [(k, .inr (2, [.null, .null, .null, .null, .int 0, .null, .int 0, .int 0, .int 0, .int 0, .long 0, .int 0, .int 0, .int 0]))] := hD
  have hl := lv_entry ([.ref k]) (n := 2) (Nat.le_of_ble_eq_true rfl)
  rw [lg_entry_eq]
  generalize (lg_sl ([.ref k]) ++ List.replicate (2 - (lg_sl ([.ref k])).length) Slot.unset).toArray = ls at hl ⊢
  have hl : lv_has ls 2 [(0, .ref k)] := hl
  have htb := hex.2.2.2.2.2.1
  refine lv_aload_n hx hb d_K_init_0 rfl (lv_at hl 0 rfl) ?_
  refine W.objInit hx hb hown (hts _ (hsub _ w_228)) (hts _ (hsub _ w_142)) (hts _ (hsub _ w_143)) rfl (by rw [hml]; exact hl.1) rfl d_K_init_1 (Nat.le_of_ble_eq_true rfl) (Nat.le_of_ble_eq_true rfl) ?_
  refine W.eq (g2 := F0 m 4 ls []) rfl ?_
  refine lv_aload_n hx hb d_K_init_4 rfl (lv_at hl 0 rfl) ?_
  refine va_new (ci := 1) (fs := [.null, .null, .null, .int 0]) (C := R_H) (T := T_H) (N := 4) hx hb hts (fun w h => hsub w (uw_H w h)) ty_H tok_H hown (hts _ (hsub _ w_229)) (hts _ (hsub _ w_230)) (hts _ (hsub _ w_231)) hK hP hD hS hA rfl (fun j hj => df_H j hj) (Nat.le_of_ble_eq_true rfl) (Nat.le_of_ble_eq_true rfl) d_K_init_5 (fun q_1 H hP hD hS => ?_)
  have hP : va_P (dC, dI) vwCl [(k, .inr (2, [.null, .null, .null, .null, .int 0, .null, .int 0, .int 0, .int 0, .int 0, .long 0, .int 0, .int 0, .int 0])), (q_1, .inr (1, [.null, .null, .null, .int 0]))] H := hP
  have hD : va_D A [(k, .inr (2, [.null, .null, .null, .null, .int 0, .null, .int 0, .int 0, .int 0, .int 0, .long 0, .int 0, .int 0, .int 0])), (q_1, .inr (1, [.null, .null, .null, .int 0]))] := hD
  refine W.widen (k := 1) (n := 4) (Nat.le_of_ble_eq_true rfl) (Nat.le_of_ble_eq_true rfl) ?_
  refine lv_dup hx hb d_K_init_8 rfl ?_
  have hPc := hP.sub (ws' := [(q_1, .inr (1, [.null, .null, .null, .int 0]))]) [1] rfl
  have hKc := hK.sub (tys' := []) [] rfl
  have hDc := hD.sub (ws' := [(q_1, .inr (1, [.null, .null, .null, .int 0]))]) [1] (by decide) rfl
  have hFc := va_free (wc := [(q_1, .inr (1, [.null, .null, .null, .int 0]))]) hD hS hA [1] rfl
  refine va_callv (va_runIN (As := []) (rest := [.ref q_1, .ref k]) ⟨hx, hb, hml, hown, hts⟩ (k_H_init l dC dI q_1 H.size) ⟨va_cnB 0 hts (gC hsub w_232) rfl rfl rfl htb.1 (hts _ (hsub _ w_231)) (by decide +kernel) ⟨Nat.le_of_ble_eq_true rfl, Nat.le_of_ble_eq_true rfl⟩, rfl, (hts _ (hsub _ w_233))⟩ ⟨bl_1000, fun U hU hW => ⟨rfl, by rw [hU], by rw [hU]; exact hPc, va_K.moved hW.alike hKc, hDc.weaken (fun _ _ _ _ => trivial)⟩⟩ rfl rfl hl.1 rfl (lv_room (Nat.le_of_ble_eq_true rfl)) d_K_init_9 ⟨Nat.le_of_ble_eq_true rfl, Nat.le_of_ble_eq_true rfl⟩) hS (fun q _ h => hFc q h) hFc (fun u_4 t H1 locs ht hvm hw hB hz1 hk1 hS => ?_)
  have hP1 : va_P (dC, dI) vwCl [] H1 := nil_P
  have hD1 : va_D (va_A [(q_1, .inr (1, [.null, .null, .null, .int 0]))] H.size) [] := nil_D
  have hK1 : va_K (dC, dI) vwCl [] s := hK.sub (tys' := []) [] rfl
  obtain ⟨hP, hD⟩ := va_join (wr := [(k, .inr (2, [.null, .null, .null, .null, .int 0, .null, .int 0, .int 0, .int 0, .int 0, .long 0, .int 0, .int 0, .int 0]))]) (w1 := []) hP hD [1] [0] rfl rfl (by decide) (by decide) hk1 hFc hP1 hD1
  have hK := (hK.sub (tys' := []) [] rfl).app hK1
  generalize H1 = H at hP hS ⊢
  have hP : va_P (dC, dI) vwCl [(k, .inr (2, [.null, .null, .null, .null, .int 0, .null, .int 0, .int 0, .int 0, .int 0, .long 0, .int 0, .int 0, .int 0]))] H := hP
  have hD : va_D A [(k, .inr (2, [.null, .null, .null, .null, .int 0, .null, .int 0, .int 0, .int 0, .int 0, .long 0, .int 0, .int 0, .int 0]))] := hD
  have hK : va_K (dC, dI) vwCl [] s := hK
  refine W.widen (k := 4) (n := 3904) (Nat.le_of_ble_eq_true rfl) (Nat.le_of_ble_eq_true rfl) ?_
  refine va_putF (D := (dC, dI)) (ci := 2) (v := .ref q_1) (ty := (.object "MapFramer$Heap")) (C := R_K) (T := T_K) (N := 14) hx hb hts (fun w h => hsub w (uw_K w h)) ty_K tok_K nm_K hown hK hP hD hS 0 rfl rfl 0 (by decide) (hts _ (hsub _ w_234)) (fun _ h9 => h9) rfl hin rfl (by decide +kernel) rfl rfl (Nat.le_of_ble_eq_true rfl) d_K_init_12 (fun H locs hP hD hS => ?_)
  have hP : va_P (dC, dI) vwCl [(k, .inr (2, [.ref q_1, .null, .null, .null, .int 0, .null, .int 0, .int 0, .int 0, .int 0, .long 0, .int 0, .int 0, .int 0]))] H := hP
  have hD : va_D A [(k, .inr (2, [.ref q_1, .null, .null, .null, .int 0, .null, .int 0, .int 0, .int 0, .int 0, .long 0, .int 0, .int 0, .int 0]))] := hD
  refine lv_aload_n hx hb d_K_init_15 rfl (lv_at hl 0 rfl) ?_
  refine lv_bipush (v := 16) hx hb d_K_init_16 (by decide) ?_
  refine va_newa (atype := .long) (ty := .long) (N' := 16) (a0 := (16, .inr (.inl (fun _ => 0)))) hx hb (hts _ (hsub _ w_223)) rfl hK hP hD hS hA (fun _ => vz_l _ _) (by decide) (by decide) (Nat.le_of_ble_eq_true rfl) (Nat.le_of_ble_eq_true rfl) (Nat.le_of_ble_eq_true rfl) d_K_init_18 (fun q_5 k_6 H hK hP hD hS => ?_)
  have hK : va_K (dC, dI) vwCl [(k_6, .long)] s := hK
  have hP : va_P (dC, dI) vwCl [(k, .inr (2, [.ref q_1, .null, .null, .null, .int 0, .null, .int 0, .int 0, .int 0, .int 0, .long 0, .int 0, .int 0, .int 0])), (q_5, .inl (k_6, 16, .inr (.inl (fun _ => 0))))] H := hP
  have hD : va_D A [(k, .inr (2, [.ref q_1, .null, .null, .null, .int 0, .null, .int 0, .int 0, .int 0, .int 0, .long 0, .int 0, .int 0, .int 0])), (q_5, .inl (k_6, 16, .inr (.inl (fun _ => 0))))] := hD
  refine W.widen (k := 5) (n := 3920) (Nat.le_of_ble_eq_true rfl) (Nat.le_of_ble_eq_true rfl) ?_
  refine va_putF (D := (dC, dI)) (ci := 2) (v := .ref q_5) (ty := (.array .long)) (C := R_K) (T := T_K) (N := 14) hx hb hts (fun w h => hsub w (uw_K w h)) ty_K tok_K nm_K hown hK hP hD hS 0 rfl rfl 1 (by decide) (hts _ (hsub _ w_235)) (fun _ h9 => h9) rfl hin rfl (by decide +kernel) rfl rfl (Nat.le_of_ble_eq_true rfl) d_K_init_20 (fun H locs hP hD hS => ?_)
  have hP : va_P (dC, dI) vwCl [(k, .inr (2, [.ref q_1, .ref q_5, .null, .null, .int 0, .null, .int 0, .int 0, .int 0, .int 0, .long 0, .int 0, .int 0, .int 0])), (q_5, .inl (k_6, 16, .inr (.inl (fun _ => 0))))] H := hP
  have hD : va_D A [(k, .inr (2, [.ref q_1, .ref q_5, .null, .null, .int 0, .null, .int 0, .int 0, .int 0, .int 0, .long 0, .int 0, .int 0, .int 0])), (q_5, .inl (k_6, 16, .inr (.inl (fun _ => 0))))] := hD
  refine lv_aload_n hx hb d_K_init_23 rfl (lv_at hl 0 rfl) ?_
  refine lv_bipush (v := 24) hx hb d_K_init_24 (by decide) ?_
  refine va_newq (N' := 24) hx hb hown (hts _ (hsub _ w_236)) htb.2.2.2.1 hK hP hD hS hA (by decide) (by decide) (Nat.le_of_ble_eq_true rfl) (Nat.le_of_ble_eq_true rfl) (Nat.le_of_ble_eq_true rfl) d_K_init_26 (fun q_7 k_8 H hK hP hD hS => ?_)
  have hK : va_K (dC, dI) vwCl [(k_6, .long), (k_8, .object "MapFramer$Call")] s := hK
  have hP : va_P (dC, dI) vwCl [(k, .inr (2, [.ref q_1, .ref q_5, .null, .null, .int 0, .null, .int 0, .int 0, .int 0, .int 0, .long 0, .int 0, .int 0, .int 0])), (q_5, .inl (k_6, 16, .inr (.inl (fun _ => 0)))), (q_7, .inl (k_8, 24, .inr (.inr (.inr (.inr (fun _ => none))))))] H := hP
  have hD : va_D A [(k, .inr (2, [.ref q_1, .ref q_5, .null, .null, .int 0, .null, .int 0, .int 0, .int 0, .int 0, .long 0, .int 0, .int 0, .int 0])), (q_5, .inl (k_6, 16, .inr (.inl (fun _ => 0)))), (q_7, .inl (k_8, 24, .inr (.inr (.inr (.inr (fun _ => none))))))] := hD
  refine W.widen (k := 6) (n := 3944) (Nat.le_of_ble_eq_true rfl) (Nat.le_of_ble_eq_true rfl) ?_
  refine va_putF (D := (dC, dI)) (ci := 2) (v := .ref q_7) (ty := (.array (.object "MapFramer$Call"))) (C := R_K) (T := T_K) (N := 14) hx hb hts (fun w h => hsub w (uw_K w h)) ty_K tok_K nm_K hown hK hP hD hS 0 rfl rfl 2 (by decide) (hts _ (hsub _ w_237)) (fun _ h9 => h9) rfl hin rfl (by decide +kernel) rfl rfl (Nat.le_of_ble_eq_true rfl) d_K_init_29 (fun H locs hP hD hS => ?_)
  have hP : va_P (dC, dI) vwCl [(k, .inr (2, [.ref q_1, .ref q_5, .ref q_7, .null, .int 0, .null, .int 0, .int 0, .int 0, .int 0, .long 0, .int 0, .int 0, .int 0])), (q_5, .inl (k_6, 16, .inr (.inl (fun _ => 0)))), (q_7, .inl (k_8, 24, .inr (.inr (.inr (.inr (fun _ => none))))))] H := hP
  have hD : va_D A [(k, .inr (2, [.ref q_1, .ref q_5, .ref q_7, .null, .int 0, .null, .int 0, .int 0, .int 0, .int 0, .long 0, .int 0, .int 0, .int 0])), (q_5, .inl (k_6, 16, .inr (.inl (fun _ => 0)))), (q_7, .inl (k_8, 24, .inr (.inr (.inr (.inr (fun _ => none))))))] := hD
  refine lv_aload_n hx hb d_K_init_32 rfl (lv_at hl 0 rfl) ?_
  refine lv_iconst (v := (-1)) hx hb d_K_init_33 (by decide) ?_
  refine va_put (D := (dC, dI)) (ci := 2) (v := .int (-1)) (ty := .int) (C := R_K) (T := T_K) (N := 14) hx hb hts (fun w h => hsub w (uw_K w h)) ty_K tok_K nm_K hown hK hP hD hS 0 rfl rfl 11 (by decide) (hts _ (hsub _ w_238)) (fun _ h9 => h9) rfl (by decide +kernel) rfl rfl (Nat.le_of_ble_eq_true rfl) d_K_init_34 (fun H locs hP hD hS => ?_)
  have hP : va_P (dC, dI) vwCl [(k, .inr (2, [.ref q_1, .ref q_5, .ref q_7, .null, .int 0, .null, .int 0, .int 0, .int 0, .int 0, .long 0, .int (-1), .int 0, .int 0])), (q_5, .inl (k_6, 16, .inr (.inl (fun _ => 0)))), (q_7, .inl (k_8, 24, .inr (.inr (.inr (.inr (fun _ => none))))))] H := hP
  have hD : va_D A [(k, .inr (2, [.ref q_1, .ref q_5, .ref q_7, .null, .int 0, .null, .int 0, .int 0, .int 0, .int 0, .long 0, .int (-1), .int 0, .int 0])), (q_5, .inl (k_6, 16, .inr (.inl (fun _ => 0)))), (q_7, .inl (k_8, 24, .inr (.inr (.inr (.inr (fun _ => none))))))] := hD
  refine lv_aload_n hx hb d_K_init_37 rfl (lv_at hl 0 rfl) ?_
  refine lv_iconst (v := (-1)) hx hb d_K_init_38 (by decide) ?_
  refine va_put (D := (dC, dI)) (ci := 2) (v := .int (-1)) (ty := .int) (C := R_K) (T := T_K) (N := 14) hx hb hts (fun w h => hsub w (uw_K w h)) ty_K tok_K nm_K hown hK hP hD hS 0 rfl rfl 13 (by decide) (hts _ (hsub _ w_239)) (fun _ h9 => h9) rfl (by decide +kernel) rfl rfl (Nat.le_of_ble_eq_true rfl) d_K_init_39 (fun H locs hP hD hS => ?_)
  have hP : va_P (dC, dI) vwCl [(k, .inr (2, [.ref q_1, .ref q_5, .ref q_7, .null, .int 0, .null, .int 0, .int 0, .int 0, .int 0, .long 0, .int (-1), .int 0, .int (-1)])), (q_5, .inl (k_6, 16, .inr (.inl (fun _ => 0)))), (q_7, .inl (k_8, 24, .inr (.inr (.inr (.inr (fun _ => none))))))] H := hP
  have hD : va_D A [(k, .inr (2, [.ref q_1, .ref q_5, .ref q_7, .null, .int 0, .null, .int 0, .int 0, .int 0, .int 0, .long 0, .int (-1), .int 0, .int (-1)])), (q_5, .inl (k_6, 16, .inr (.inl (fun _ => 0)))), (q_7, .inl (k_8, 24, .inr (.inr (.inr (.inr (fun _ => none))))))] := hD
  refine lv_iconst (v := 0) hx hb d_K_init_42 (by decide) ?_
  refine lv_istore_n (lv' := [(1, .int 0), (0, .ref k)]) hx hb d_K_init_43 rfl hl (by decide) rfl (fun ls hl => ?_)
  have hP := hP.sub (ws' := [(k, .inr (2, [.ref q_1, .ref q_5, .ref q_7, .null, .int 0, .null, .int 0, .int 0, .int 0, .int 0, .long 0, .int (-1), .int 0, .int (-1)])), (q_7, .inl (k_8, 24, .inr (.inr (.inr (.inr (fun _ => none))))))]) [0, 2] rfl
  have hD := hD.sub (ws' := [(k, .inr (2, [.ref q_1, .ref q_5, .ref q_7, .null, .int 0, .null, .int 0, .int 0, .int 0, .int 0, .long 0, .int (-1), .int 0, .int (-1)])), (q_7, .inl (k_8, 24, .inr (.inr (.inr (.inr (fun _ => none))))))]) [0, 2] (by decide) rfl
  have hK := hK.sub (tys' := [(k_8, .object "MapFramer$Call")]) [1] rfl
  refine lv_iload_n hx hb d_K_init_44 rfl (lv_at hl 0 rfl) ?_
  refine lv_bipush (v := 24) hx hb d_K_init_45 (by decide) ?_
  refine lv_icmp_ge (tgt := 69) hx hb d_K_init_47 (by decide) (fun c_9 => ?_) (fun c_9 => ?_)
  · skip
    first | exact absurd c_9 (by decide) | exact absurd (by decide) c_9
  · skip
    refine lv_aload_n hx hb d_K_init_50 rfl (lv_at hl 1 rfl) ?_
    refine va_get (D := (dC, dI)) (ci := 2) (v := .ref q_7) (C := R_K) (T := T_K) (N := 14) hx hb hts (fun w h => hsub w (uw_K w h)) hown hK hP 0 rfl rfl 2 (by decide) (hts _ (hsub _ w_237)) (fun _ h9 => h9) rfl d_K_init_51 ?_
    refine lv_iload_n hx hb d_K_init_54 rfl (lv_at hl 0 rfl) ?_
    refine va_new (ci := 0) (fs := [.null, .int 0, .null, .null, .int 0]) (C := R_C) (T := T_C) (N := 5) hx hb hts (fun w h => hsub w (uw_C w h)) ty_C tok_C hown (hts _ (hsub _ w_236)) (hts _ (hsub _ w_240)) (hts _ (hsub _ w_241)) hK hP hD hS hA rfl (fun j hj => df_C j hj) (Nat.le_of_ble_eq_true rfl) (Nat.le_of_ble_eq_true rfl) d_K_init_55 (fun q_10 H hP hD hS => ?_)
    have hP : va_P (dC, dI) vwCl [(k, .inr (2, [.ref q_1, .ref q_5, .ref q_7, .null, .int 0, .null, .int 0, .int 0, .int 0, .int 0, .long 0, .int (-1), .int 0, .int (-1)])), (q_7, .inl (k_8, 24, .inr (.inr (.inr (.inr (fun _ => none)))))), (q_10, .inr (0, [.null, .int 0, .null, .null, .int 0]))] H := hP
    have hD : va_D A [(k, .inr (2, [.ref q_1, .ref q_5, .ref q_7, .null, .int 0, .null, .int 0, .int 0, .int 0, .int 0, .long 0, .int (-1), .int 0, .int (-1)])), (q_7, .inl (k_8, 24, .inr (.inr (.inr (.inr (fun _ => none)))))), (q_10, .inr (0, [.null, .int 0, .null, .null, .int 0]))] := hD
    refine W.widen (k := 7) (n := 3949) (Nat.le_of_ble_eq_true rfl) (Nat.le_of_ble_eq_true rfl) ?_
    refine lv_dup hx hb d_K_init_58 rfl ?_
    have hPc := hP.sub (ws' := [(q_10, .inr (0, [.null, .int 0, .null, .null, .int 0]))]) [2] rfl
    have hKc := hK.sub (tys' := []) [] rfl
    have hDc := hD.sub (ws' := [(q_10, .inr (0, [.null, .int 0, .null, .null, .int 0]))]) [2] (by decide) rfl
    have hFc := va_free (wc := [(q_10, .inr (0, [.null, .int 0, .null, .null, .int 0]))]) hD hS hA [2] rfl
    refine va_callv (va_runIN (As := []) (rest := [.ref q_10, .int 0, .ref q_7]) ⟨hx, hb, hml, hown, hts⟩ (k_C_init l dC dI q_10 H.size) ⟨va_cnB 0 hts (gC hsub w_242) rfl rfl rfl htb.2.1 (hts _ (hsub _ w_241)) (by decide +kernel) ⟨Nat.le_of_ble_eq_true rfl, Nat.le_of_ble_eq_true rfl⟩, rfl, (hts _ (hsub _ w_243))⟩ ⟨bl_1000, fun U hU hW => ⟨rfl, by rw [hU], by rw [hU]; exact hPc, va_K.moved hW.alike hKc, hDc.weaken (fun _ _ _ _ => trivial)⟩⟩ rfl rfl hl.1 rfl (lv_room (Nat.le_of_ble_eq_true rfl)) d_K_init_59 ⟨Nat.le_of_ble_eq_true rfl, Nat.le_of_ble_eq_true rfl⟩) hS (fun q _ h => hFc q h) hFc (fun u_13 t H1 locs ht hvm hw hB hz1 hk1 hS => ?_)
    obtain ⟨q_14, q_15, hP1, hK1, hD1⟩ := hB
    rw [ht] at hP1
    have hK1 := va_K.moved hvm.symm hK1
    obtain ⟨hP, hD⟩ := va_join (wr := [(k, .inr (2, [.ref q_1, .ref q_5, .ref q_7, .null, .int 0, .null, .int 0, .int 0, .int 0, .int 0, .long 0, .int (-1), .int 0, .int (-1)])), (q_7, .inl (k_8, 24, .inr (.inr (.inr (.inr (fun _ => none))))))]) (w1 := [(q_10, .inr (0, [.null, .int 0, .ref q_14, .ref q_15, .int 0]))]) hP hD [2] [0, 1] rfl rfl (by decide) (by decide) hk1 hFc hP1 hD1
    have hK := (hK.sub (tys' := [(k_8, .object "MapFramer$Call")]) [0] rfl).app hK1
    generalize H1 = H at hP hS ⊢
    have hP : va_P (dC, dI) vwCl [(k, .inr (2, [.ref q_1, .ref q_5, .ref q_7, .null, .int 0, .null, .int 0, .int 0, .int 0, .int 0, .long 0, .int (-1), .int 0, .int (-1)])), (q_7, .inl (k_8, 24, .inr (.inr (.inr (.inr (fun _ => none)))))), (q_10, .inr (0, [.null, .int 0, .ref q_14, .ref q_15, .int 0]))] H := hP
    have hD : va_D A [(k, .inr (2, [.ref q_1, .ref q_5, .ref q_7, .null, .int 0, .null, .int 0, .int 0, .int 0, .int 0, .long 0, .int (-1), .int 0, .int (-1)])), (q_7, .inl (k_8, 24, .inr (.inr (.inr (.inr (fun _ => none)))))), (q_10, .inr (0, [.null, .int 0, .ref q_14, .ref q_15, .int 0]))] := hD
    have hK : va_K (dC, dI) vwCl [(k_8, .object "MapFramer$Call")] s := hK
    refine W.widen (k := 9) (n := 3973) (Nat.le_of_ble_eq_true rfl) (Nat.le_of_ble_eq_true rfl) ?_
    refine va_astq (r := (R_C, T_C, 5)) hx hb hK hP hD hS 1 0 2 0 rfl rfl rfl rfl (vp_in_iff.mpr (by decide)) d_K_init_62 (fun H locs hP hD hS => ?_)
    obtain ⟨fq_16, hfq⟩ : ∃ z : Nat → Option Nat, z = (va_up (fun _ => none) (0 : Int32).toNatClampNeg (some q_10)) := ⟨_, rfl⟩
    have hP : va_P (dC, dI) vwCl [(k, .inr (2, [.ref q_1, .ref q_5, .ref q_7, .null, .int 0, .null, .int 0, .int 0, .int 0, .int 0, .long 0, .int (-1), .int 0, .int (-1)])), (q_7, .inl (k_8, 24, .inr (.inr (.inr (.inr (va_up (fun _ => none) (0 : Int32).toNatClampNeg (some q_10))))))), (q_10, .inr (0, [.null, .int 0, .ref q_14, .ref q_15, .int 0]))] H := hP
    have hD : va_D A [(k, .inr (2, [.ref q_1, .ref q_5, .ref q_7, .null, .int 0, .null, .int 0, .int 0, .int 0, .int 0, .long 0, .int (-1), .int 0, .int (-1)])), (q_7, .inl (k_8, 24, .inr (.inr (.inr (.inr (va_up (fun _ => none) (0 : Int32).toNatClampNeg (some q_10))))))), (q_10, .inr (0, [.null, .int 0, .ref q_14, .ref q_15, .int 0]))] := hD
    rw [← hfq] at hP hD
    have hP : va_P (dC, dI) vwCl [(k, .inr (2, [.ref q_1, .ref q_5, .ref q_7, .null, .int 0, .null, .int 0, .int 0, .int 0, .int 0, .long 0, .int (-1), .int 0, .int (-1)])), (q_7, .inl (k_8, 24, .inr (.inr (.inr (.inr fq_16))))), (q_10, .inr (0, [.null, .int 0, .ref q_14, .ref q_15, .int 0]))] H := hP
    have hD : va_D A [(k, .inr (2, [.ref q_1, .ref q_5, .ref q_7, .null, .int 0, .null, .int 0, .int 0, .int 0, .int 0, .long 0, .int (-1), .int 0, .int (-1)])), (q_7, .inl (k_8, 24, .inr (.inr (.inr (.inr fq_16))))), (q_10, .inr (0, [.null, .int 0, .ref q_14, .ref q_15, .int 0]))] := hD
    refine lv_iinc (v := 1) (lv' := [(1, .int 1), (0, .ref k)]) hx hb d_K_init_63 hl (k := 0) rfl (by decide) (by decide) rfl (fun ls hl => ?_)
    refine lv_goto (tgt := 44) hx hb d_K_init_66 (by decide) ?_
    have hP := hP.sub (ws' := [(k, .inr (2, [.ref q_1, .ref q_5, .ref q_7, .null, .int 0, .null, .int 0, .int 0, .int 0, .int 0, .long 0, .int (-1), .int 0, .int (-1)])), (q_7, .inl (k_8, 24, .inr (.inr (.inr (.inr fq_16)))))]) [0, 1] rfl
    have hD := hD.sub (ws' := [(k, .inr (2, [.ref q_1, .ref q_5, .ref q_7, .null, .int 0, .null, .int 0, .int 0, .int 0, .int 0, .long 0, .int (-1), .int 0, .int (-1)])), (q_7, .inl (k_8, 24, .inr (.inr (.inr (.inr fq_16)))))]) [0, 1] (by decide) rfl
    have hK := hK.sub (tys' := [(k_8, .object "MapFramer$Call")]) [0] rfl
    refine lv_iload_n hx hb d_K_init_44 rfl (lv_at hl 0 rfl) ?_
    refine lv_bipush (v := 24) hx hb d_K_init_45 (by decide) ?_
    refine lv_icmp_ge (tgt := 69) hx hb d_K_init_47 (by decide) (fun c_17 => ?_) (fun c_17 => ?_)
    · skip
      first | exact absurd c_17 (by decide) | exact absurd (by decide) c_17
    · skip
      refine lv_aload_n hx hb d_K_init_50 rfl (lv_at hl 1 rfl) ?_
      refine va_get (D := (dC, dI)) (ci := 2) (v := .ref q_7) (C := R_K) (T := T_K) (N := 14) hx hb hts (fun w h => hsub w (uw_K w h)) hown hK hP 0 rfl rfl 2 (by decide) (hts _ (hsub _ w_237)) (fun _ h9 => h9) rfl d_K_init_51 ?_
      refine lv_iload_n hx hb d_K_init_54 rfl (lv_at hl 0 rfl) ?_
      refine va_new (ci := 0) (fs := [.null, .int 0, .null, .null, .int 0]) (C := R_C) (T := T_C) (N := 5) hx hb hts (fun w h => hsub w (uw_C w h)) ty_C tok_C hown (hts _ (hsub _ w_236)) (hts _ (hsub _ w_240)) (hts _ (hsub _ w_241)) hK hP hD hS hA rfl (fun j hj => df_C j hj) (Nat.le_of_ble_eq_true rfl) (Nat.le_of_ble_eq_true rfl) d_K_init_55 (fun q_18 H hP hD hS => ?_)
      have hP : va_P (dC, dI) vwCl [(k, .inr (2, [.ref q_1, .ref q_5, .ref q_7, .null, .int 0, .null, .int 0, .int 0, .int 0, .int 0, .long 0, .int (-1), .int 0, .int (-1)])), (q_7, .inl (k_8, 24, .inr (.inr (.inr (.inr fq_16))))), (q_18, .inr (0, [.null, .int 0, .null, .null, .int 0]))] H := hP
      have hD : va_D A [(k, .inr (2, [.ref q_1, .ref q_5, .ref q_7, .null, .int 0, .null, .int 0, .int 0, .int 0, .int 0, .long 0, .int (-1), .int 0, .int (-1)])), (q_7, .inl (k_8, 24, .inr (.inr (.inr (.inr fq_16))))), (q_18, .inr (0, [.null, .int 0, .null, .null, .int 0]))] := hD
      refine W.widen (k := 10) (n := 3978) (Nat.le_of_ble_eq_true rfl) (Nat.le_of_ble_eq_true rfl) ?_
      refine lv_dup hx hb d_K_init_58 rfl ?_
      have hPc := hP.sub (ws' := [(q_18, .inr (0, [.null, .int 0, .null, .null, .int 0]))]) [2] rfl
      have hKc := hK.sub (tys' := []) [] rfl
      have hDc := hD.sub (ws' := [(q_18, .inr (0, [.null, .int 0, .null, .null, .int 0]))]) [2] (by decide) rfl
      have hFc := va_free (wc := [(q_18, .inr (0, [.null, .int 0, .null, .null, .int 0]))]) hD hS hA [2] rfl
      refine va_callv (va_runIN (As := []) (rest := [.ref q_18, .int 1, .ref q_7]) ⟨hx, hb, hml, hown, hts⟩ (k_C_init l dC dI q_18 H.size) ⟨va_cnB 0 hts (gC hsub w_242) rfl rfl rfl htb.2.1 (hts _ (hsub _ w_241)) (by decide +kernel) ⟨Nat.le_of_ble_eq_true rfl, Nat.le_of_ble_eq_true rfl⟩, rfl, (hts _ (hsub _ w_243))⟩ ⟨bl_1000, fun U hU hW => ⟨rfl, by rw [hU], by rw [hU]; exact hPc, va_K.moved hW.alike hKc, hDc.weaken (fun _ _ _ _ => trivial)⟩⟩ rfl rfl hl.1 rfl (lv_room (Nat.le_of_ble_eq_true rfl)) d_K_init_59 ⟨Nat.le_of_ble_eq_true rfl, Nat.le_of_ble_eq_true rfl⟩) hS (fun q _ h => hFc q h) hFc (fun u_21 t H1 locs ht hvm hw hB hz1 hk1 hS => ?_)
      obtain ⟨q_22, q_23, hP1, hK1, hD1⟩ := hB
      rw [ht] at hP1
      have hK1 := va_K.moved hvm.symm hK1
      obtain ⟨hP, hD⟩ := va_join (wr := [(k, .inr (2, [.ref q_1, .ref q_5, .ref q_7, .null, .int 0, .null, .int 0, .int 0, .int 0, .int 0, .long 0, .int (-1), .int 0, .int (-1)])), (q_7, .inl (k_8, 24, .inr (.inr (.inr (.inr fq_16)))))]) (w1 := [(q_18, .inr (0, [.null, .int 0, .ref q_22, .ref q_23, .int 0]))]) hP hD [2] [0, 1] rfl rfl (by decide) (by decide) hk1 hFc hP1 hD1
      have hK := (hK.sub (tys' := [(k_8, .object "MapFramer$Call")]) [0] rfl).app hK1
      generalize H1 = H at hP hS ⊢
      have hP : va_P (dC, dI) vwCl [(k, .inr (2, [.ref q_1, .ref q_5, .ref q_7, .null, .int 0, .null, .int 0, .int 0, .int 0, .int 0, .long 0, .int (-1), .int 0, .int (-1)])), (q_7, .inl (k_8, 24, .inr (.inr (.inr (.inr fq_16))))), (q_18, .inr (0, [.null, .int 0, .ref q_22, .ref q_23, .int 0]))] H := hP
      have hD : va_D A [(k, .inr (2, [.ref q_1, .ref q_5, .ref q_7, .null, .int 0, .null, .int 0, .int 0, .int 0, .int 0, .long 0, .int (-1), .int 0, .int (-1)])), (q_7, .inl (k_8, 24, .inr (.inr (.inr (.inr fq_16))))), (q_18, .inr (0, [.null, .int 0, .ref q_22, .ref q_23, .int 0]))] := hD
      have hK : va_K (dC, dI) vwCl [(k_8, .object "MapFramer$Call")] s := hK
      refine W.widen (k := 12) (n := 4002) (Nat.le_of_ble_eq_true rfl) (Nat.le_of_ble_eq_true rfl) ?_
      refine va_astq (r := (R_C, T_C, 5)) hx hb hK hP hD hS 1 0 2 0 rfl rfl rfl rfl (vp_in_iff.mpr (by decide)) d_K_init_62 (fun H locs hP hD hS => ?_)
      obtain ⟨fq_24, hfq⟩ : ∃ z : Nat → Option Nat, z = (va_up fq_16 (1 : Int32).toNatClampNeg (some q_18)) := ⟨_, rfl⟩
      have hP : va_P (dC, dI) vwCl [(k, .inr (2, [.ref q_1, .ref q_5, .ref q_7, .null, .int 0, .null, .int 0, .int 0, .int 0, .int 0, .long 0, .int (-1), .int 0, .int (-1)])), (q_7, .inl (k_8, 24, .inr (.inr (.inr (.inr (va_up fq_16 (1 : Int32).toNatClampNeg (some q_18))))))), (q_18, .inr (0, [.null, .int 0, .ref q_22, .ref q_23, .int 0]))] H := hP
      have hD : va_D A [(k, .inr (2, [.ref q_1, .ref q_5, .ref q_7, .null, .int 0, .null, .int 0, .int 0, .int 0, .int 0, .long 0, .int (-1), .int 0, .int (-1)])), (q_7, .inl (k_8, 24, .inr (.inr (.inr (.inr (va_up fq_16 (1 : Int32).toNatClampNeg (some q_18))))))), (q_18, .inr (0, [.null, .int 0, .ref q_22, .ref q_23, .int 0]))] := hD
      rw [← hfq] at hP hD
      have hP : va_P (dC, dI) vwCl [(k, .inr (2, [.ref q_1, .ref q_5, .ref q_7, .null, .int 0, .null, .int 0, .int 0, .int 0, .int 0, .long 0, .int (-1), .int 0, .int (-1)])), (q_7, .inl (k_8, 24, .inr (.inr (.inr (.inr fq_24))))), (q_18, .inr (0, [.null, .int 0, .ref q_22, .ref q_23, .int 0]))] H := hP
      have hD : va_D A [(k, .inr (2, [.ref q_1, .ref q_5, .ref q_7, .null, .int 0, .null, .int 0, .int 0, .int 0, .int 0, .long 0, .int (-1), .int 0, .int (-1)])), (q_7, .inl (k_8, 24, .inr (.inr (.inr (.inr fq_24))))), (q_18, .inr (0, [.null, .int 0, .ref q_22, .ref q_23, .int 0]))] := hD
      refine lv_iinc (v := 2) (lv' := [(1, .int 2), (0, .ref k)]) hx hb d_K_init_63 hl (k := 0) rfl (by decide) (by decide) rfl (fun ls hl => ?_)
      refine lv_goto (tgt := 44) hx hb d_K_init_66 (by decide) ?_
      have hP := hP.sub (ws' := [(k, .inr (2, [.ref q_1, .ref q_5, .ref q_7, .null, .int 0, .null, .int 0, .int 0, .int 0, .int 0, .long 0, .int (-1), .int 0, .int (-1)])), (q_7, .inl (k_8, 24, .inr (.inr (.inr (.inr fq_24)))))]) [0, 1] rfl
      have hD := hD.sub (ws' := [(k, .inr (2, [.ref q_1, .ref q_5, .ref q_7, .null, .int 0, .null, .int 0, .int 0, .int 0, .int 0, .long 0, .int (-1), .int 0, .int (-1)])), (q_7, .inl (k_8, 24, .inr (.inr (.inr (.inr fq_24)))))]) [0, 1] (by decide) rfl
      have hK := hK.sub (tys' := [(k_8, .object "MapFramer$Call")]) [0] rfl
      refine lv_iload_n hx hb d_K_init_44 rfl (lv_at hl 0 rfl) ?_
      refine lv_bipush (v := 24) hx hb d_K_init_45 (by decide) ?_
      refine lv_icmp_ge (tgt := 69) hx hb d_K_init_47 (by decide) (fun c_25 => ?_) (fun c_25 => ?_)
      · skip
        first | exact absurd c_25 (by decide) | exact absurd (by decide) c_25
      · skip
        refine lv_aload_n hx hb d_K_init_50 rfl (lv_at hl 1 rfl) ?_
        refine va_get (D := (dC, dI)) (ci := 2) (v := .ref q_7) (C := R_K) (T := T_K) (N := 14) hx hb hts (fun w h => hsub w (uw_K w h)) hown hK hP 0 rfl rfl 2 (by decide) (hts _ (hsub _ w_237)) (fun _ h9 => h9) rfl d_K_init_51 ?_
        refine lv_iload_n hx hb d_K_init_54 rfl (lv_at hl 0 rfl) ?_
        refine va_new (ci := 0) (fs := [.null, .int 0, .null, .null, .int 0]) (C := R_C) (T := T_C) (N := 5) hx hb hts (fun w h => hsub w (uw_C w h)) ty_C tok_C hown (hts _ (hsub _ w_236)) (hts _ (hsub _ w_240)) (hts _ (hsub _ w_241)) hK hP hD hS hA rfl (fun j hj => df_C j hj) (Nat.le_of_ble_eq_true rfl) (Nat.le_of_ble_eq_true rfl) d_K_init_55 (fun q_26 H hP hD hS => ?_)
        have hP : va_P (dC, dI) vwCl [(k, .inr (2, [.ref q_1, .ref q_5, .ref q_7, .null, .int 0, .null, .int 0, .int 0, .int 0, .int 0, .long 0, .int (-1), .int 0, .int (-1)])), (q_7, .inl (k_8, 24, .inr (.inr (.inr (.inr fq_24))))), (q_26, .inr (0, [.null, .int 0, .null, .null, .int 0]))] H := hP
        have hD : va_D A [(k, .inr (2, [.ref q_1, .ref q_5, .ref q_7, .null, .int 0, .null, .int 0, .int 0, .int 0, .int 0, .long 0, .int (-1), .int 0, .int (-1)])), (q_7, .inl (k_8, 24, .inr (.inr (.inr (.inr fq_24))))), (q_26, .inr (0, [.null, .int 0, .null, .null, .int 0]))] := hD
        refine W.widen (k := 13) (n := 4007) (Nat.le_of_ble_eq_true rfl) (Nat.le_of_ble_eq_true rfl) ?_
        refine lv_dup hx hb d_K_init_58 rfl ?_
        have hPc := hP.sub (ws' := [(q_26, .inr (0, [.null, .int 0, .null, .null, .int 0]))]) [2] rfl
        have hKc := hK.sub (tys' := []) [] rfl
        have hDc := hD.sub (ws' := [(q_26, .inr (0, [.null, .int 0, .null, .null, .int 0]))]) [2] (by decide) rfl
        have hFc := va_free (wc := [(q_26, .inr (0, [.null, .int 0, .null, .null, .int 0]))]) hD hS hA [2] rfl
        refine va_callv (va_runIN (As := []) (rest := [.ref q_26, .int 2, .ref q_7]) ⟨hx, hb, hml, hown, hts⟩ (k_C_init l dC dI q_26 H.size) ⟨va_cnB 0 hts (gC hsub w_242) rfl rfl rfl htb.2.1 (hts _ (hsub _ w_241)) (by decide +kernel) ⟨Nat.le_of_ble_eq_true rfl, Nat.le_of_ble_eq_true rfl⟩, rfl, (hts _ (hsub _ w_243))⟩ ⟨bl_1000, fun U hU hW => ⟨rfl, by rw [hU], by rw [hU]; exact hPc, va_K.moved hW.alike hKc, hDc.weaken (fun _ _ _ _ => trivial)⟩⟩ rfl rfl hl.1 rfl (lv_room (Nat.le_of_ble_eq_true rfl)) d_K_init_59 ⟨Nat.le_of_ble_eq_true rfl, Nat.le_of_ble_eq_true rfl⟩) hS (fun q _ h => hFc q h) hFc (fun u_29 t H1 locs ht hvm hw hB hz1 hk1 hS => ?_)
        obtain ⟨q_30, q_31, hP1, hK1, hD1⟩ := hB
        rw [ht] at hP1
        have hK1 := va_K.moved hvm.symm hK1
        obtain ⟨hP, hD⟩ := va_join (wr := [(k, .inr (2, [.ref q_1, .ref q_5, .ref q_7, .null, .int 0, .null, .int 0, .int 0, .int 0, .int 0, .long 0, .int (-1), .int 0, .int (-1)])), (q_7, .inl (k_8, 24, .inr (.inr (.inr (.inr fq_24)))))]) (w1 := [(q_26, .inr (0, [.null, .int 0, .ref q_30, .ref q_31, .int 0]))]) hP hD [2] [0, 1] rfl rfl (by decide) (by decide) hk1 hFc hP1 hD1
        have hK := (hK.sub (tys' := [(k_8, .object "MapFramer$Call")]) [0] rfl).app hK1
        generalize H1 = H at hP hS ⊢
        have hP : va_P (dC, dI) vwCl [(k, .inr (2, [.ref q_1, .ref q_5, .ref q_7, .null, .int 0, .null, .int 0, .int 0, .int 0, .int 0, .long 0, .int (-1), .int 0, .int (-1)])), (q_7, .inl (k_8, 24, .inr (.inr (.inr (.inr fq_24))))), (q_26, .inr (0, [.null, .int 0, .ref q_30, .ref q_31, .int 0]))] H := hP
        have hD : va_D A [(k, .inr (2, [.ref q_1, .ref q_5, .ref q_7, .null, .int 0, .null, .int 0, .int 0, .int 0, .int 0, .long 0, .int (-1), .int 0, .int (-1)])), (q_7, .inl (k_8, 24, .inr (.inr (.inr (.inr fq_24))))), (q_26, .inr (0, [.null, .int 0, .ref q_30, .ref q_31, .int 0]))] := hD
        have hK : va_K (dC, dI) vwCl [(k_8, .object "MapFramer$Call")] s := hK
        refine W.widen (k := 15) (n := 4031) (Nat.le_of_ble_eq_true rfl) (Nat.le_of_ble_eq_true rfl) ?_
        refine va_astq (r := (R_C, T_C, 5)) hx hb hK hP hD hS 1 0 2 0 rfl rfl rfl rfl (vp_in_iff.mpr (by decide)) d_K_init_62 (fun H locs hP hD hS => ?_)
        obtain ⟨fq_32, hfq⟩ : ∃ z : Nat → Option Nat, z = (va_up fq_24 (2 : Int32).toNatClampNeg (some q_26)) := ⟨_, rfl⟩
        have hP : va_P (dC, dI) vwCl [(k, .inr (2, [.ref q_1, .ref q_5, .ref q_7, .null, .int 0, .null, .int 0, .int 0, .int 0, .int 0, .long 0, .int (-1), .int 0, .int (-1)])), (q_7, .inl (k_8, 24, .inr (.inr (.inr (.inr (va_up fq_24 (2 : Int32).toNatClampNeg (some q_26))))))), (q_26, .inr (0, [.null, .int 0, .ref q_30, .ref q_31, .int 0]))] H := hP
        have hD : va_D A [(k, .inr (2, [.ref q_1, .ref q_5, .ref q_7, .null, .int 0, .null, .int 0, .int 0, .int 0, .int 0, .long 0, .int (-1), .int 0, .int (-1)])), (q_7, .inl (k_8, 24, .inr (.inr (.inr (.inr (va_up fq_24 (2 : Int32).toNatClampNeg (some q_26))))))), (q_26, .inr (0, [.null, .int 0, .ref q_30, .ref q_31, .int 0]))] := hD
        rw [← hfq] at hP hD
        have hP : va_P (dC, dI) vwCl [(k, .inr (2, [.ref q_1, .ref q_5, .ref q_7, .null, .int 0, .null, .int 0, .int 0, .int 0, .int 0, .long 0, .int (-1), .int 0, .int (-1)])), (q_7, .inl (k_8, 24, .inr (.inr (.inr (.inr fq_32))))), (q_26, .inr (0, [.null, .int 0, .ref q_30, .ref q_31, .int 0]))] H := hP
        have hD : va_D A [(k, .inr (2, [.ref q_1, .ref q_5, .ref q_7, .null, .int 0, .null, .int 0, .int 0, .int 0, .int 0, .long 0, .int (-1), .int 0, .int (-1)])), (q_7, .inl (k_8, 24, .inr (.inr (.inr (.inr fq_32))))), (q_26, .inr (0, [.null, .int 0, .ref q_30, .ref q_31, .int 0]))] := hD
        refine lv_iinc (v := 3) (lv' := [(1, .int 3), (0, .ref k)]) hx hb d_K_init_63 hl (k := 0) rfl (by decide) (by decide) rfl (fun ls hl => ?_)
        refine lv_goto (tgt := 44) hx hb d_K_init_66 (by decide) ?_
        have hP := hP.sub (ws' := [(k, .inr (2, [.ref q_1, .ref q_5, .ref q_7, .null, .int 0, .null, .int 0, .int 0, .int 0, .int 0, .long 0, .int (-1), .int 0, .int (-1)])), (q_7, .inl (k_8, 24, .inr (.inr (.inr (.inr fq_32)))))]) [0, 1] rfl
        have hD := hD.sub (ws' := [(k, .inr (2, [.ref q_1, .ref q_5, .ref q_7, .null, .int 0, .null, .int 0, .int 0, .int 0, .int 0, .long 0, .int (-1), .int 0, .int (-1)])), (q_7, .inl (k_8, 24, .inr (.inr (.inr (.inr fq_32)))))]) [0, 1] (by decide) rfl
        have hK := hK.sub (tys' := [(k_8, .object "MapFramer$Call")]) [0] rfl
        refine lv_iload_n hx hb d_K_init_44 rfl (lv_at hl 0 rfl) ?_
        refine lv_bipush (v := 24) hx hb d_K_init_45 (by decide) ?_
        refine lv_icmp_ge (tgt := 69) hx hb d_K_init_47 (by decide) (fun c_33 => ?_) (fun c_33 => ?_)
        · skip
          first | exact absurd c_33 (by decide) | exact absurd (by decide) c_33
        · skip
          refine lv_aload_n hx hb d_K_init_50 rfl (lv_at hl 1 rfl) ?_
          refine va_get (D := (dC, dI)) (ci := 2) (v := .ref q_7) (C := R_K) (T := T_K) (N := 14) hx hb hts (fun w h => hsub w (uw_K w h)) hown hK hP 0 rfl rfl 2 (by decide) (hts _ (hsub _ w_237)) (fun _ h9 => h9) rfl d_K_init_51 ?_
          refine lv_iload_n hx hb d_K_init_54 rfl (lv_at hl 0 rfl) ?_
          refine va_new (ci := 0) (fs := [.null, .int 0, .null, .null, .int 0]) (C := R_C) (T := T_C) (N := 5) hx hb hts (fun w h => hsub w (uw_C w h)) ty_C tok_C hown (hts _ (hsub _ w_236)) (hts _ (hsub _ w_240)) (hts _ (hsub _ w_241)) hK hP hD hS hA rfl (fun j hj => df_C j hj) (Nat.le_of_ble_eq_true rfl) (Nat.le_of_ble_eq_true rfl) d_K_init_55 (fun q_34 H hP hD hS => ?_)
          have hP : va_P (dC, dI) vwCl [(k, .inr (2, [.ref q_1, .ref q_5, .ref q_7, .null, .int 0, .null, .int 0, .int 0, .int 0, .int 0, .long 0, .int (-1), .int 0, .int (-1)])), (q_7, .inl (k_8, 24, .inr (.inr (.inr (.inr fq_32))))), (q_34, .inr (0, [.null, .int 0, .null, .null, .int 0]))] H := hP
          have hD : va_D A [(k, .inr (2, [.ref q_1, .ref q_5, .ref q_7, .null, .int 0, .null, .int 0, .int 0, .int 0, .int 0, .long 0, .int (-1), .int 0, .int (-1)])), (q_7, .inl (k_8, 24, .inr (.inr (.inr (.inr fq_32))))), (q_34, .inr (0, [.null, .int 0, .null, .null, .int 0]))] := hD
          refine W.widen (k := 16) (n := 4036) (Nat.le_of_ble_eq_true rfl) (Nat.le_of_ble_eq_true rfl) ?_
          refine lv_dup hx hb d_K_init_58 rfl ?_
          have hPc := hP.sub (ws' := [(q_34, .inr (0, [.null, .int 0, .null, .null, .int 0]))]) [2] rfl
          have hKc := hK.sub (tys' := []) [] rfl
          have hDc := hD.sub (ws' := [(q_34, .inr (0, [.null, .int 0, .null, .null, .int 0]))]) [2] (by decide) rfl
          have hFc := va_free (wc := [(q_34, .inr (0, [.null, .int 0, .null, .null, .int 0]))]) hD hS hA [2] rfl
          refine va_callv (va_runIN (As := []) (rest := [.ref q_34, .int 3, .ref q_7]) ⟨hx, hb, hml, hown, hts⟩ (k_C_init l dC dI q_34 H.size) ⟨va_cnB 0 hts (gC hsub w_242) rfl rfl rfl htb.2.1 (hts _ (hsub _ w_241)) (by decide +kernel) ⟨Nat.le_of_ble_eq_true rfl, Nat.le_of_ble_eq_true rfl⟩, rfl, (hts _ (hsub _ w_243))⟩ ⟨bl_1000, fun U hU hW => ⟨rfl, by rw [hU], by rw [hU]; exact hPc, va_K.moved hW.alike hKc, hDc.weaken (fun _ _ _ _ => trivial)⟩⟩ rfl rfl hl.1 rfl (lv_room (Nat.le_of_ble_eq_true rfl)) d_K_init_59 ⟨Nat.le_of_ble_eq_true rfl, Nat.le_of_ble_eq_true rfl⟩) hS (fun q _ h => hFc q h) hFc (fun u_37 t H1 locs ht hvm hw hB hz1 hk1 hS => ?_)
          obtain ⟨q_38, q_39, hP1, hK1, hD1⟩ := hB
          rw [ht] at hP1
          have hK1 := va_K.moved hvm.symm hK1
          obtain ⟨hP, hD⟩ := va_join (wr := [(k, .inr (2, [.ref q_1, .ref q_5, .ref q_7, .null, .int 0, .null, .int 0, .int 0, .int 0, .int 0, .long 0, .int (-1), .int 0, .int (-1)])), (q_7, .inl (k_8, 24, .inr (.inr (.inr (.inr fq_32)))))]) (w1 := [(q_34, .inr (0, [.null, .int 0, .ref q_38, .ref q_39, .int 0]))]) hP hD [2] [0, 1] rfl rfl (by decide) (by decide) hk1 hFc hP1 hD1
          have hK := (hK.sub (tys' := [(k_8, .object "MapFramer$Call")]) [0] rfl).app hK1
          generalize H1 = H at hP hS ⊢
          have hP : va_P (dC, dI) vwCl [(k, .inr (2, [.ref q_1, .ref q_5, .ref q_7, .null, .int 0, .null, .int 0, .int 0, .int 0, .int 0, .long 0, .int (-1), .int 0, .int (-1)])), (q_7, .inl (k_8, 24, .inr (.inr (.inr (.inr fq_32))))), (q_34, .inr (0, [.null, .int 0, .ref q_38, .ref q_39, .int 0]))] H := hP
          have hD : va_D A [(k, .inr (2, [.ref q_1, .ref q_5, .ref q_7, .null, .int 0, .null, .int 0, .int 0, .int 0, .int 0, .long 0, .int (-1), .int 0, .int (-1)])), (q_7, .inl (k_8, 24, .inr (.inr (.inr (.inr fq_32))))), (q_34, .inr (0, [.null, .int 0, .ref q_38, .ref q_39, .int 0]))] := hD
          have hK : va_K (dC, dI) vwCl [(k_8, .object "MapFramer$Call")] s := hK
          refine W.widen (k := 18) (n := 4060) (Nat.le_of_ble_eq_true rfl) (Nat.le_of_ble_eq_true rfl) ?_
          refine va_astq (r := (R_C, T_C, 5)) hx hb hK hP hD hS 1 0 2 0 rfl rfl rfl rfl (vp_in_iff.mpr (by decide)) d_K_init_62 (fun H locs hP hD hS => ?_)
          obtain ⟨fq_40, hfq⟩ : ∃ z : Nat → Option Nat, z = (va_up fq_32 (3 : Int32).toNatClampNeg (some q_34)) := ⟨_, rfl⟩
          have hP : va_P (dC, dI) vwCl [(k, .inr (2, [.ref q_1, .ref q_5, .ref q_7, .null, .int 0, .null, .int 0, .int 0, .int 0, .int 0, .long 0, .int (-1), .int 0, .int (-1)])), (q_7, .inl (k_8, 24, .inr (.inr (.inr (.inr (va_up fq_32 (3 : Int32).toNatClampNeg (some q_34))))))), (q_34, .inr (0, [.null, .int 0, .ref q_38, .ref q_39, .int 0]))] H := hP
          have hD : va_D A [(k, .inr (2, [.ref q_1, .ref q_5, .ref q_7, .null, .int 0, .null, .int 0, .int 0, .int 0, .int 0, .long 0, .int (-1), .int 0, .int (-1)])), (q_7, .inl (k_8, 24, .inr (.inr (.inr (.inr (va_up fq_32 (3 : Int32).toNatClampNeg (some q_34))))))), (q_34, .inr (0, [.null, .int 0, .ref q_38, .ref q_39, .int 0]))] := hD
          rw [← hfq] at hP hD
          have hP : va_P (dC, dI) vwCl [(k, .inr (2, [.ref q_1, .ref q_5, .ref q_7, .null, .int 0, .null, .int 0, .int 0, .int 0, .int 0, .long 0, .int (-1), .int 0, .int (-1)])), (q_7, .inl (k_8, 24, .inr (.inr (.inr (.inr fq_40))))), (q_34, .inr (0, [.null, .int 0, .ref q_38, .ref q_39, .int 0]))] H := hP
          have hD : va_D A [(k, .inr (2, [.ref q_1, .ref q_5, .ref q_7, .null, .int 0, .null, .int 0, .int 0, .int 0, .int 0, .long 0, .int (-1), .int 0, .int (-1)])), (q_7, .inl (k_8, 24, .inr (.inr (.inr (.inr fq_40))))), (q_34, .inr (0, [.null, .int 0, .ref q_38, .ref q_39, .int 0]))] := hD
          refine lv_iinc (v := 4) (lv' := [(1, .int 4), (0, .ref k)]) hx hb d_K_init_63 hl (k := 0) rfl (by decide) (by decide) rfl (fun ls hl => ?_)
          refine lv_goto (tgt := 44) hx hb d_K_init_66 (by decide) ?_
          have hP := hP.sub (ws' := [(k, .inr (2, [.ref q_1, .ref q_5, .ref q_7, .null, .int 0, .null, .int 0, .int 0, .int 0, .int 0, .long 0, .int (-1), .int 0, .int (-1)])), (q_7, .inl (k_8, 24, .inr (.inr (.inr (.inr fq_40)))))]) [0, 1] rfl
          have hD := hD.sub (ws' := [(k, .inr (2, [.ref q_1, .ref q_5, .ref q_7, .null, .int 0, .null, .int 0, .int 0, .int 0, .int 0, .long 0, .int (-1), .int 0, .int (-1)])), (q_7, .inl (k_8, 24, .inr (.inr (.inr (.inr fq_40)))))]) [0, 1] (by decide) rfl
          have hK := hK.sub (tys' := [(k_8, .object "MapFramer$Call")]) [0] rfl
          refine lv_iload_n hx hb d_K_init_44 rfl (lv_at hl 0 rfl) ?_
          refine lv_bipush (v := 24) hx hb d_K_init_45 (by decide) ?_
          refine lv_icmp_ge (tgt := 69) hx hb d_K_init_47 (by decide) (fun c_41 => ?_) (fun c_41 => ?_)
          · skip
            first | exact absurd c_41 (by decide) | exact absurd (by decide) c_41
          · skip
            refine lv_aload_n hx hb d_K_init_50 rfl (lv_at hl 1 rfl) ?_
            refine va_get (D := (dC, dI)) (ci := 2) (v := .ref q_7) (C := R_K) (T := T_K) (N := 14) hx hb hts (fun w h => hsub w (uw_K w h)) hown hK hP 0 rfl rfl 2 (by decide) (hts _ (hsub _ w_237)) (fun _ h9 => h9) rfl d_K_init_51 ?_
            refine lv_iload_n hx hb d_K_init_54 rfl (lv_at hl 0 rfl) ?_
            refine va_new (ci := 0) (fs := [.null, .int 0, .null, .null, .int 0]) (C := R_C) (T := T_C) (N := 5) hx hb hts (fun w h => hsub w (uw_C w h)) ty_C tok_C hown (hts _ (hsub _ w_236)) (hts _ (hsub _ w_240)) (hts _ (hsub _ w_241)) hK hP hD hS hA rfl (fun j hj => df_C j hj) (Nat.le_of_ble_eq_true rfl) (Nat.le_of_ble_eq_true rfl) d_K_init_55 (fun q_42 H hP hD hS => ?_)
            have hP : va_P (dC, dI) vwCl [(k, .inr (2, [.ref q_1, .ref q_5, .ref q_7, .null, .int 0, .null, .int 0, .int 0, .int 0, .int 0, .long 0, .int (-1), .int 0, .int (-1)])), (q_7, .inl (k_8, 24, .inr (.inr (.inr (.inr fq_40))))), (q_42, .inr (0, [.null, .int 0, .null, .null, .int 0]))] H := hP
            have hD : va_D A [(k, .inr (2, [.ref q_1, .ref q_5, .ref q_7, .null, .int 0, .null, .int 0, .int 0, .int 0, .int 0, .long 0, .int (-1), .int 0, .int (-1)])), (q_7, .inl (k_8, 24, .inr (.inr (.inr (.inr fq_40))))), (q_42, .inr (0, [.null, .int 0, .null, .null, .int 0]))] := hD
            refine W.widen (k := 19) (n := 4065) (Nat.le_of_ble_eq_true rfl) (Nat.le_of_ble_eq_true rfl) ?_
            refine lv_dup hx hb d_K_init_58 rfl ?_
            have hPc := hP.sub (ws' := [(q_42, .inr (0, [.null, .int 0, .null, .null, .int 0]))]) [2] rfl
            have hKc := hK.sub (tys' := []) [] rfl
            have hDc := hD.sub (ws' := [(q_42, .inr (0, [.null, .int 0, .null, .null, .int 0]))]) [2] (by decide) rfl
            have hFc := va_free (wc := [(q_42, .inr (0, [.null, .int 0, .null, .null, .int 0]))]) hD hS hA [2] rfl
            refine va_callv (va_runIN (As := []) (rest := [.ref q_42, .int 4, .ref q_7]) ⟨hx, hb, hml, hown, hts⟩ (k_C_init l dC dI q_42 H.size) ⟨va_cnB 0 hts (gC hsub w_242) rfl rfl rfl htb.2.1 (hts _ (hsub _ w_241)) (by decide +kernel) ⟨Nat.le_of_ble_eq_true rfl, Nat.le_of_ble_eq_true rfl⟩, rfl, (hts _ (hsub _ w_243))⟩ ⟨bl_1000, fun U hU hW => ⟨rfl, by rw [hU], by rw [hU]; exact hPc, va_K.moved hW.alike hKc, hDc.weaken (fun _ _ _ _ => trivial)⟩⟩ rfl rfl hl.1 rfl (lv_room (Nat.le_of_ble_eq_true rfl)) d_K_init_59 ⟨Nat.le_of_ble_eq_true rfl, Nat.le_of_ble_eq_true rfl⟩) hS (fun q _ h => hFc q h) hFc (fun u_45 t H1 locs ht hvm hw hB hz1 hk1 hS => ?_)
            obtain ⟨q_46, q_47, hP1, hK1, hD1⟩ := hB
            rw [ht] at hP1
            have hK1 := va_K.moved hvm.symm hK1
            obtain ⟨hP, hD⟩ := va_join (wr := [(k, .inr (2, [.ref q_1, .ref q_5, .ref q_7, .null, .int 0, .null, .int 0, .int 0, .int 0, .int 0, .long 0, .int (-1), .int 0, .int (-1)])), (q_7, .inl (k_8, 24, .inr (.inr (.inr (.inr fq_40)))))]) (w1 := [(q_42, .inr (0, [.null, .int 0, .ref q_46, .ref q_47, .int 0]))]) hP hD [2] [0, 1] rfl rfl (by decide) (by decide) hk1 hFc hP1 hD1
            have hK := (hK.sub (tys' := [(k_8, .object "MapFramer$Call")]) [0] rfl).app hK1
            generalize H1 = H at hP hS ⊢
            have hP : va_P (dC, dI) vwCl [(k, .inr (2, [.ref q_1, .ref q_5, .ref q_7, .null, .int 0, .null, .int 0, .int 0, .int 0, .int 0, .long 0, .int (-1), .int 0, .int (-1)])), (q_7, .inl (k_8, 24, .inr (.inr (.inr (.inr fq_40))))), (q_42, .inr (0, [.null, .int 0, .ref q_46, .ref q_47, .int 0]))] H := hP
            have hD : va_D A [(k, .inr (2, [.ref q_1, .ref q_5, .ref q_7, .null, .int 0, .null, .int 0, .int 0, .int 0, .int 0, .long 0, .int (-1), .int 0, .int (-1)])), (q_7, .inl (k_8, 24, .inr (.inr (.inr (.inr fq_40))))), (q_42, .inr (0, [.null, .int 0, .ref q_46, .ref q_47, .int 0]))] := hD
            have hK : va_K (dC, dI) vwCl [(k_8, .object "MapFramer$Call")] s := hK
            refine W.widen (k := 21) (n := 4089) (Nat.le_of_ble_eq_true rfl) (Nat.le_of_ble_eq_true rfl) ?_
            refine va_astq (r := (R_C, T_C, 5)) hx hb hK hP hD hS 1 0 2 0 rfl rfl rfl rfl (vp_in_iff.mpr (by decide)) d_K_init_62 (fun H locs hP hD hS => ?_)
            obtain ⟨fq_48, hfq⟩ : ∃ z : Nat → Option Nat, z = (va_up fq_40 (4 : Int32).toNatClampNeg (some q_42)) := ⟨_, rfl⟩
            have hP : va_P (dC, dI) vwCl [(k, .inr (2, [.ref q_1, .ref q_5, .ref q_7, .null, .int 0, .null, .int 0, .int 0, .int 0, .int 0, .long 0, .int (-1), .int 0, .int (-1)])), (q_7, .inl (k_8, 24, .inr (.inr (.inr (.inr (va_up fq_40 (4 : Int32).toNatClampNeg (some q_42))))))), (q_42, .inr (0, [.null, .int 0, .ref q_46, .ref q_47, .int 0]))] H := hP
            have hD : va_D A [(k, .inr (2, [.ref q_1, .ref q_5, .ref q_7, .null, .int 0, .null, .int 0, .int 0, .int 0, .int 0, .long 0, .int (-1), .int 0, .int (-1)])), (q_7, .inl (k_8, 24, .inr (.inr (.inr (.inr (va_up fq_40 (4 : Int32).toNatClampNeg (some q_42))))))), (q_42, .inr (0, [.null, .int 0, .ref q_46, .ref q_47, .int 0]))] := hD
            rw [← hfq] at hP hD
            have hP : va_P (dC, dI) vwCl [(k, .inr (2, [.ref q_1, .ref q_5, .ref q_7, .null, .int 0, .null, .int 0, .int 0, .int 0, .int 0, .long 0, .int (-1), .int 0, .int (-1)])), (q_7, .inl (k_8, 24, .inr (.inr (.inr (.inr fq_48))))), (q_42, .inr (0, [.null, .int 0, .ref q_46, .ref q_47, .int 0]))] H := hP
            have hD : va_D A [(k, .inr (2, [.ref q_1, .ref q_5, .ref q_7, .null, .int 0, .null, .int 0, .int 0, .int 0, .int 0, .long 0, .int (-1), .int 0, .int (-1)])), (q_7, .inl (k_8, 24, .inr (.inr (.inr (.inr fq_48))))), (q_42, .inr (0, [.null, .int 0, .ref q_46, .ref q_47, .int 0]))] := hD
            refine lv_iinc (v := 5) (lv' := [(1, .int 5), (0, .ref k)]) hx hb d_K_init_63 hl (k := 0) rfl (by decide) (by decide) rfl (fun ls hl => ?_)
            refine lv_goto (tgt := 44) hx hb d_K_init_66 (by decide) ?_
            have hP := hP.sub (ws' := [(k, .inr (2, [.ref q_1, .ref q_5, .ref q_7, .null, .int 0, .null, .int 0, .int 0, .int 0, .int 0, .long 0, .int (-1), .int 0, .int (-1)])), (q_7, .inl (k_8, 24, .inr (.inr (.inr (.inr fq_48)))))]) [0, 1] rfl
            have hD := hD.sub (ws' := [(k, .inr (2, [.ref q_1, .ref q_5, .ref q_7, .null, .int 0, .null, .int 0, .int 0, .int 0, .int 0, .long 0, .int (-1), .int 0, .int (-1)])), (q_7, .inl (k_8, 24, .inr (.inr (.inr (.inr fq_48)))))]) [0, 1] (by decide) rfl
            have hK := hK.sub (tys' := [(k_8, .object "MapFramer$Call")]) [0] rfl
            refine lv_iload_n hx hb d_K_init_44 rfl (lv_at hl 0 rfl) ?_
            refine lv_bipush (v := 24) hx hb d_K_init_45 (by decide) ?_
            refine lv_icmp_ge (tgt := 69) hx hb d_K_init_47 (by decide) (fun c_49 => ?_) (fun c_49 => ?_)
            · skip
              first | exact absurd c_49 (by decide) | exact absurd (by decide) c_49
            · skip
              refine lv_aload_n hx hb d_K_init_50 rfl (lv_at hl 1 rfl) ?_
              refine va_get (D := (dC, dI)) (ci := 2) (v := .ref q_7) (C := R_K) (T := T_K) (N := 14) hx hb hts (fun w h => hsub w (uw_K w h)) hown hK hP 0 rfl rfl 2 (by decide) (hts _ (hsub _ w_237)) (fun _ h9 => h9) rfl d_K_init_51 ?_
              refine lv_iload_n hx hb d_K_init_54 rfl (lv_at hl 0 rfl) ?_
              refine va_new (ci := 0) (fs := [.null, .int 0, .null, .null, .int 0]) (C := R_C) (T := T_C) (N := 5) hx hb hts (fun w h => hsub w (uw_C w h)) ty_C tok_C hown (hts _ (hsub _ w_236)) (hts _ (hsub _ w_240)) (hts _ (hsub _ w_241)) hK hP hD hS hA rfl (fun j hj => df_C j hj) (Nat.le_of_ble_eq_true rfl) (Nat.le_of_ble_eq_true rfl) d_K_init_55 (fun q_50 H hP hD hS => ?_)
              have hP : va_P (dC, dI) vwCl [(k, .inr (2, [.ref q_1, .ref q_5, .ref q_7, .null, .int 0, .null, .int 0, .int 0, .int 0, .int 0, .long 0, .int (-1), .int 0, .int (-1)])), (q_7, .inl (k_8, 24, .inr (.inr (.inr (.inr fq_48))))), (q_50, .inr (0, [.null, .int 0, .null, .null, .int 0]))] H := hP
              have hD : va_D A [(k, .inr (2, [.ref q_1, .ref q_5, .ref q_7, .null, .int 0, .null, .int 0, .int 0, .int 0, .int 0, .long 0, .int (-1), .int 0, .int (-1)])), (q_7, .inl (k_8, 24, .inr (.inr (.inr (.inr fq_48))))), (q_50, .inr (0, [.null, .int 0, .null, .null, .int 0]))] := hD
              refine W.widen (k := 22) (n := 4094) (Nat.le_of_ble_eq_true rfl) (Nat.le_of_ble_eq_true rfl) ?_
              refine lv_dup hx hb d_K_init_58 rfl ?_
              have hPc := hP.sub (ws' := [(q_50, .inr (0, [.null, .int 0, .null, .null, .int 0]))]) [2] rfl
              have hKc := hK.sub (tys' := []) [] rfl
              have hDc := hD.sub (ws' := [(q_50, .inr (0, [.null, .int 0, .null, .null, .int 0]))]) [2] (by decide) rfl
              have hFc := va_free (wc := [(q_50, .inr (0, [.null, .int 0, .null, .null, .int 0]))]) hD hS hA [2] rfl
              refine va_callv (va_runIN (As := []) (rest := [.ref q_50, .int 5, .ref q_7]) ⟨hx, hb, hml, hown, hts⟩ (k_C_init l dC dI q_50 H.size) ⟨va_cnB 0 hts (gC hsub w_242) rfl rfl rfl htb.2.1 (hts _ (hsub _ w_241)) (by decide +kernel) ⟨Nat.le_of_ble_eq_true rfl, Nat.le_of_ble_eq_true rfl⟩, rfl, (hts _ (hsub _ w_243))⟩ ⟨bl_1000, fun U hU hW => ⟨rfl, by rw [hU], by rw [hU]; exact hPc, va_K.moved hW.alike hKc, hDc.weaken (fun _ _ _ _ => trivial)⟩⟩ rfl rfl hl.1 rfl (lv_room (Nat.le_of_ble_eq_true rfl)) d_K_init_59 ⟨Nat.le_of_ble_eq_true rfl, Nat.le_of_ble_eq_true rfl⟩) hS (fun q _ h => hFc q h) hFc (fun u_53 t H1 locs ht hvm hw hB hz1 hk1 hS => ?_)
              obtain ⟨q_54, q_55, hP1, hK1, hD1⟩ := hB
              rw [ht] at hP1
              have hK1 := va_K.moved hvm.symm hK1
              obtain ⟨hP, hD⟩ := va_join (wr := [(k, .inr (2, [.ref q_1, .ref q_5, .ref q_7, .null, .int 0, .null, .int 0, .int 0, .int 0, .int 0, .long 0, .int (-1), .int 0, .int (-1)])), (q_7, .inl (k_8, 24, .inr (.inr (.inr (.inr fq_48)))))]) (w1 := [(q_50, .inr (0, [.null, .int 0, .ref q_54, .ref q_55, .int 0]))]) hP hD [2] [0, 1] rfl rfl (by decide) (by decide) hk1 hFc hP1 hD1
              have hK := (hK.sub (tys' := [(k_8, .object "MapFramer$Call")]) [0] rfl).app hK1
              generalize H1 = H at hP hS ⊢
              have hP : va_P (dC, dI) vwCl [(k, .inr (2, [.ref q_1, .ref q_5, .ref q_7, .null, .int 0, .null, .int 0, .int 0, .int 0, .int 0, .long 0, .int (-1), .int 0, .int (-1)])), (q_7, .inl (k_8, 24, .inr (.inr (.inr (.inr fq_48))))), (q_50, .inr (0, [.null, .int 0, .ref q_54, .ref q_55, .int 0]))] H := hP
              have hD : va_D A [(k, .inr (2, [.ref q_1, .ref q_5, .ref q_7, .null, .int 0, .null, .int 0, .int 0, .int 0, .int 0, .long 0, .int (-1), .int 0, .int (-1)])), (q_7, .inl (k_8, 24, .inr (.inr (.inr (.inr fq_48))))), (q_50, .inr (0, [.null, .int 0, .ref q_54, .ref q_55, .int 0]))] := hD
              have hK : va_K (dC, dI) vwCl [(k_8, .object "MapFramer$Call")] s := hK
              refine W.widen (k := 24) (n := 4118) (Nat.le_of_ble_eq_true rfl) (Nat.le_of_ble_eq_true rfl) ?_
              refine va_astq (r := (R_C, T_C, 5)) hx hb hK hP hD hS 1 0 2 0 rfl rfl rfl rfl (vp_in_iff.mpr (by decide)) d_K_init_62 (fun H locs hP hD hS => ?_)
              obtain ⟨fq_56, hfq⟩ : ∃ z : Nat → Option Nat, z = (va_up fq_48 (5 : Int32).toNatClampNeg (some q_50)) := ⟨_, rfl⟩
              have hP : va_P (dC, dI) vwCl [(k, .inr (2, [.ref q_1, .ref q_5, .ref q_7, .null, .int 0, .null, .int 0, .int 0, .int 0, .int 0, .long 0, .int (-1), .int 0, .int (-1)])), (q_7, .inl (k_8, 24, .inr (.inr (.inr (.inr (va_up fq_48 (5 : Int32).toNatClampNeg (some q_50))))))), (q_50, .inr (0, [.null, .int 0, .ref q_54, .ref q_55, .int 0]))] H := hP
              have hD : va_D A [(k, .inr (2, [.ref q_1, .ref q_5, .ref q_7, .null, .int 0, .null, .int 0, .int 0, .int 0, .int 0, .long 0, .int (-1), .int 0, .int (-1)])), (q_7, .inl (k_8, 24, .inr (.inr (.inr (.inr (va_up fq_48 (5 : Int32).toNatClampNeg (some q_50))))))), (q_50, .inr (0, [.null, .int 0, .ref q_54, .ref q_55, .int 0]))] := hD
              rw [← hfq] at hP hD
              have hP : va_P (dC, dI) vwCl [(k, .inr (2, [.ref q_1, .ref q_5, .ref q_7, .null, .int 0, .null, .int 0, .int 0, .int 0, .int 0, .long 0, .int (-1), .int 0, .int (-1)])), (q_7, .inl (k_8, 24, .inr (.inr (.inr (.inr fq_56))))), (q_50, .inr (0, [.null, .int 0, .ref q_54, .ref q_55, .int 0]))] H := hP
              have hD : va_D A [(k, .inr (2, [.ref q_1, .ref q_5, .ref q_7, .null, .int 0, .null, .int 0, .int 0, .int 0, .int 0, .long 0, .int (-1), .int 0, .int (-1)])), (q_7, .inl (k_8, 24, .inr (.inr (.inr (.inr fq_56))))), (q_50, .inr (0, [.null, .int 0, .ref q_54, .ref q_55, .int 0]))] := hD
              refine lv_iinc (v := 6) (lv' := [(1, .int 6), (0, .ref k)]) hx hb d_K_init_63 hl (k := 0) rfl (by decide) (by decide) rfl (fun ls hl => ?_)
              refine lv_goto (tgt := 44) hx hb d_K_init_66 (by decide) ?_
              have hP := hP.sub (ws' := [(k, .inr (2, [.ref q_1, .ref q_5, .ref q_7, .null, .int 0, .null, .int 0, .int 0, .int 0, .int 0, .long 0, .int (-1), .int 0, .int (-1)])), (q_7, .inl (k_8, 24, .inr (.inr (.inr (.inr fq_56)))))]) [0, 1] rfl
              have hD := hD.sub (ws' := [(k, .inr (2, [.ref q_1, .ref q_5, .ref q_7, .null, .int 0, .null, .int 0, .int 0, .int 0, .int 0, .long 0, .int (-1), .int 0, .int (-1)])), (q_7, .inl (k_8, 24, .inr (.inr (.inr (.inr fq_56)))))]) [0, 1] (by decide) rfl
              have hK := hK.sub (tys' := [(k_8, .object "MapFramer$Call")]) [0] rfl
              refine lv_iload_n hx hb d_K_init_44 rfl (lv_at hl 0 rfl) ?_
              refine lv_bipush (v := 24) hx hb d_K_init_45 (by decide) ?_
              refine lv_icmp_ge (tgt := 69) hx hb d_K_init_47 (by decide) (fun c_57 => ?_) (fun c_57 => ?_)
              · skip
                first | exact absurd c_57 (by decide) | exact absurd (by decide) c_57
              · skip
                refine lv_aload_n hx hb d_K_init_50 rfl (lv_at hl 1 rfl) ?_
                refine va_get (D := (dC, dI)) (ci := 2) (v := .ref q_7) (C := R_K) (T := T_K) (N := 14) hx hb hts (fun w h => hsub w (uw_K w h)) hown hK hP 0 rfl rfl 2 (by decide) (hts _ (hsub _ w_237)) (fun _ h9 => h9) rfl d_K_init_51 ?_
                refine lv_iload_n hx hb d_K_init_54 rfl (lv_at hl 0 rfl) ?_
                refine va_new (ci := 0) (fs := [.null, .int 0, .null, .null, .int 0]) (C := R_C) (T := T_C) (N := 5) hx hb hts (fun w h => hsub w (uw_C w h)) ty_C tok_C hown (hts _ (hsub _ w_236)) (hts _ (hsub _ w_240)) (hts _ (hsub _ w_241)) hK hP hD hS hA rfl (fun j hj => df_C j hj) (Nat.le_of_ble_eq_true rfl) (Nat.le_of_ble_eq_true rfl) d_K_init_55 (fun q_58 H hP hD hS => ?_)
                have hP : va_P (dC, dI) vwCl [(k, .inr (2, [.ref q_1, .ref q_5, .ref q_7, .null, .int 0, .null, .int 0, .int 0, .int 0, .int 0, .long 0, .int (-1), .int 0, .int (-1)])), (q_7, .inl (k_8, 24, .inr (.inr (.inr (.inr fq_56))))), (q_58, .inr (0, [.null, .int 0, .null, .null, .int 0]))] H := hP
                have hD : va_D A [(k, .inr (2, [.ref q_1, .ref q_5, .ref q_7, .null, .int 0, .null, .int 0, .int 0, .int 0, .int 0, .long 0, .int (-1), .int 0, .int (-1)])), (q_7, .inl (k_8, 24, .inr (.inr (.inr (.inr fq_56))))), (q_58, .inr (0, [.null, .int 0, .null, .null, .int 0]))] := hD
                refine W.widen (k := 25) (n := 4123) (Nat.le_of_ble_eq_true rfl) (Nat.le_of_ble_eq_true rfl) ?_
                refine lv_dup hx hb d_K_init_58 rfl ?_
                have hPc := hP.sub (ws' := [(q_58, .inr (0, [.null, .int 0, .null, .null, .int 0]))]) [2] rfl
                have hKc := hK.sub (tys' := []) [] rfl
                have hDc := hD.sub (ws' := [(q_58, .inr (0, [.null, .int 0, .null, .null, .int 0]))]) [2] (by decide) rfl
                have hFc := va_free (wc := [(q_58, .inr (0, [.null, .int 0, .null, .null, .int 0]))]) hD hS hA [2] rfl
                refine va_callv (va_runIN (As := []) (rest := [.ref q_58, .int 6, .ref q_7]) ⟨hx, hb, hml, hown, hts⟩ (k_C_init l dC dI q_58 H.size) ⟨va_cnB 0 hts (gC hsub w_242) rfl rfl rfl htb.2.1 (hts _ (hsub _ w_241)) (by decide +kernel) ⟨Nat.le_of_ble_eq_true rfl, Nat.le_of_ble_eq_true rfl⟩, rfl, (hts _ (hsub _ w_243))⟩ ⟨bl_1000, fun U hU hW => ⟨rfl, by rw [hU], by rw [hU]; exact hPc, va_K.moved hW.alike hKc, hDc.weaken (fun _ _ _ _ => trivial)⟩⟩ rfl rfl hl.1 rfl (lv_room (Nat.le_of_ble_eq_true rfl)) d_K_init_59 ⟨Nat.le_of_ble_eq_true rfl, Nat.le_of_ble_eq_true rfl⟩) hS (fun q _ h => hFc q h) hFc (fun u_61 t H1 locs ht hvm hw hB hz1 hk1 hS => ?_)
                obtain ⟨q_62, q_63, hP1, hK1, hD1⟩ := hB
                rw [ht] at hP1
                have hK1 := va_K.moved hvm.symm hK1
                obtain ⟨hP, hD⟩ := va_join (wr := [(k, .inr (2, [.ref q_1, .ref q_5, .ref q_7, .null, .int 0, .null, .int 0, .int 0, .int 0, .int 0, .long 0, .int (-1), .int 0, .int (-1)])), (q_7, .inl (k_8, 24, .inr (.inr (.inr (.inr fq_56)))))]) (w1 := [(q_58, .inr (0, [.null, .int 0, .ref q_62, .ref q_63, .int 0]))]) hP hD [2] [0, 1] rfl rfl (by decide) (by decide) hk1 hFc hP1 hD1
                have hK := (hK.sub (tys' := [(k_8, .object "MapFramer$Call")]) [0] rfl).app hK1
                generalize H1 = H at hP hS ⊢
                have hP : va_P (dC, dI) vwCl [(k, .inr (2, [.ref q_1, .ref q_5, .ref q_7, .null, .int 0, .null, .int 0, .int 0, .int 0, .int 0, .long 0, .int (-1), .int 0, .int (-1)])), (q_7, .inl (k_8, 24, .inr (.inr (.inr (.inr fq_56))))), (q_58, .inr (0, [.null, .int 0, .ref q_62, .ref q_63, .int 0]))] H := hP
                have hD : va_D A [(k, .inr (2, [.ref q_1, .ref q_5, .ref q_7, .null, .int 0, .null, .int 0, .int 0, .int 0, .int 0, .long 0, .int (-1), .int 0, .int (-1)])), (q_7, .inl (k_8, 24, .inr (.inr (.inr (.inr fq_56))))), (q_58, .inr (0, [.null, .int 0, .ref q_62, .ref q_63, .int 0]))] := hD
                have hK : va_K (dC, dI) vwCl [(k_8, .object "MapFramer$Call")] s := hK
                refine W.widen (k := 27) (n := 4147) (Nat.le_of_ble_eq_true rfl) (Nat.le_of_ble_eq_true rfl) ?_
                refine va_astq (r := (R_C, T_C, 5)) hx hb hK hP hD hS 1 0 2 0 rfl rfl rfl rfl (vp_in_iff.mpr (by decide)) d_K_init_62 (fun H locs hP hD hS => ?_)
                obtain ⟨fq_64, hfq⟩ : ∃ z : Nat → Option Nat, z = (va_up fq_56 (6 : Int32).toNatClampNeg (some q_58)) := ⟨_, rfl⟩
                have hP : va_P (dC, dI) vwCl [(k, .inr (2, [.ref q_1, .ref q_5, .ref q_7, .null, .int 0, .null, .int 0, .int 0, .int 0, .int 0, .long 0, .int (-1), .int 0, .int (-1)])), (q_7, .inl (k_8, 24, .inr (.inr (.inr (.inr (va_up fq_56 (6 : Int32).toNatClampNeg (some q_58))))))), (q_58, .inr (0, [.null, .int 0, .ref q_62, .ref q_63, .int 0]))] H := hP
                have hD : va_D A [(k, .inr (2, [.ref q_1, .ref q_5, .ref q_7, .null, .int 0, .null, .int 0, .int 0, .int 0, .int 0, .long 0, .int (-1), .int 0, .int (-1)])), (q_7, .inl (k_8, 24, .inr (.inr (.inr (.inr (va_up fq_56 (6 : Int32).toNatClampNeg (some q_58))))))), (q_58, .inr (0, [.null, .int 0, .ref q_62, .ref q_63, .int 0]))] := hD
                rw [← hfq] at hP hD
                have hP : va_P (dC, dI) vwCl [(k, .inr (2, [.ref q_1, .ref q_5, .ref q_7, .null, .int 0, .null, .int 0, .int 0, .int 0, .int 0, .long 0, .int (-1), .int 0, .int (-1)])), (q_7, .inl (k_8, 24, .inr (.inr (.inr (.inr fq_64))))), (q_58, .inr (0, [.null, .int 0, .ref q_62, .ref q_63, .int 0]))] H := hP
                have hD : va_D A [(k, .inr (2, [.ref q_1, .ref q_5, .ref q_7, .null, .int 0, .null, .int 0, .int 0, .int 0, .int 0, .long 0, .int (-1), .int 0, .int (-1)])), (q_7, .inl (k_8, 24, .inr (.inr (.inr (.inr fq_64))))), (q_58, .inr (0, [.null, .int 0, .ref q_62, .ref q_63, .int 0]))] := hD
                refine lv_iinc (v := 7) (lv' := [(1, .int 7), (0, .ref k)]) hx hb d_K_init_63 hl (k := 0) rfl (by decide) (by decide) rfl (fun ls hl => ?_)
                refine lv_goto (tgt := 44) hx hb d_K_init_66 (by decide) ?_
                have hP := hP.sub (ws' := [(k, .inr (2, [.ref q_1, .ref q_5, .ref q_7, .null, .int 0, .null, .int 0, .int 0, .int 0, .int 0, .long 0, .int (-1), .int 0, .int (-1)])), (q_7, .inl (k_8, 24, .inr (.inr (.inr (.inr fq_64)))))]) [0, 1] rfl
                have hD := hD.sub (ws' := [(k, .inr (2, [.ref q_1, .ref q_5, .ref q_7, .null, .int 0, .null, .int 0, .int 0, .int 0, .int 0, .long 0, .int (-1), .int 0, .int (-1)])), (q_7, .inl (k_8, 24, .inr (.inr (.inr (.inr fq_64)))))]) [0, 1] (by decide) rfl
                have hK := hK.sub (tys' := [(k_8, .object "MapFramer$Call")]) [0] rfl
                refine lv_iload_n hx hb d_K_init_44 rfl (lv_at hl 0 rfl) ?_
                refine lv_bipush (v := 24) hx hb d_K_init_45 (by decide) ?_
                refine lv_icmp_ge (tgt := 69) hx hb d_K_init_47 (by decide) (fun c_65 => ?_) (fun c_65 => ?_)
                · skip
                  first | exact absurd c_65 (by decide) | exact absurd (by decide) c_65
                · skip
                  refine lv_aload_n hx hb d_K_init_50 rfl (lv_at hl 1 rfl) ?_
                  refine va_get (D := (dC, dI)) (ci := 2) (v := .ref q_7) (C := R_K) (T := T_K) (N := 14) hx hb hts (fun w h => hsub w (uw_K w h)) hown hK hP 0 rfl rfl 2 (by decide) (hts _ (hsub _ w_237)) (fun _ h9 => h9) rfl d_K_init_51 ?_
                  refine lv_iload_n hx hb d_K_init_54 rfl (lv_at hl 0 rfl) ?_
                  refine va_new (ci := 0) (fs := [.null, .int 0, .null, .null, .int 0]) (C := R_C) (T := T_C) (N := 5) hx hb hts (fun w h => hsub w (uw_C w h)) ty_C tok_C hown (hts _ (hsub _ w_236)) (hts _ (hsub _ w_240)) (hts _ (hsub _ w_241)) hK hP hD hS hA rfl (fun j hj => df_C j hj) (Nat.le_of_ble_eq_true rfl) (Nat.le_of_ble_eq_true rfl) d_K_init_55 (fun q_66 H hP hD hS => ?_)
                  have hP : va_P (dC, dI) vwCl [(k, .inr (2, [.ref q_1, .ref q_5, .ref q_7, .null, .int 0, .null, .int 0, .int 0, .int 0, .int 0, .long 0, .int (-1), .int 0, .int (-1)])), (q_7, .inl (k_8, 24, .inr (.inr (.inr (.inr fq_64))))), (q_66, .inr (0, [.null, .int 0, .null, .null, .int 0]))] H := hP
                  have hD : va_D A [(k, .inr (2, [.ref q_1, .ref q_5, .ref q_7, .null, .int 0, .null, .int 0, .int 0, .int 0, .int 0, .long 0, .int (-1), .int 0, .int (-1)])), (q_7, .inl (k_8, 24, .inr (.inr (.inr (.inr fq_64))))), (q_66, .inr (0, [.null, .int 0, .null, .null, .int 0]))] := hD
                  refine W.widen (k := 28) (n := 4152) (Nat.le_of_ble_eq_true rfl) (Nat.le_of_ble_eq_true rfl) ?_
                  refine lv_dup hx hb d_K_init_58 rfl ?_
                  have hPc := hP.sub (ws' := [(q_66, .inr (0, [.null, .int 0, .null, .null, .int 0]))]) [2] rfl
                  have hKc := hK.sub (tys' := []) [] rfl
                  have hDc := hD.sub (ws' := [(q_66, .inr (0, [.null, .int 0, .null, .null, .int 0]))]) [2] (by decide) rfl
                  have hFc := va_free (wc := [(q_66, .inr (0, [.null, .int 0, .null, .null, .int 0]))]) hD hS hA [2] rfl
                  refine va_callv (va_runIN (As := []) (rest := [.ref q_66, .int 7, .ref q_7]) ⟨hx, hb, hml, hown, hts⟩ (k_C_init l dC dI q_66 H.size) ⟨va_cnB 0 hts (gC hsub w_242) rfl rfl rfl htb.2.1 (hts _ (hsub _ w_241)) (by decide +kernel) ⟨Nat.le_of_ble_eq_true rfl, Nat.le_of_ble_eq_true rfl⟩, rfl, (hts _ (hsub _ w_243))⟩ ⟨bl_1000, fun U hU hW => ⟨rfl, by rw [hU], by rw [hU]; exact hPc, va_K.moved hW.alike hKc, hDc.weaken (fun _ _ _ _ => trivial)⟩⟩ rfl rfl hl.1 rfl (lv_room (Nat.le_of_ble_eq_true rfl)) d_K_init_59 ⟨Nat.le_of_ble_eq_true rfl, Nat.le_of_ble_eq_true rfl⟩) hS (fun q _ h => hFc q h) hFc (fun u_69 t H1 locs ht hvm hw hB hz1 hk1 hS => ?_)
                  obtain ⟨q_70, q_71, hP1, hK1, hD1⟩ := hB
                  rw [ht] at hP1
                  have hK1 := va_K.moved hvm.symm hK1
                  obtain ⟨hP, hD⟩ := va_join (wr := [(k, .inr (2, [.ref q_1, .ref q_5, .ref q_7, .null, .int 0, .null, .int 0, .int 0, .int 0, .int 0, .long 0, .int (-1), .int 0, .int (-1)])), (q_7, .inl (k_8, 24, .inr (.inr (.inr (.inr fq_64)))))]) (w1 := [(q_66, .inr (0, [.null, .int 0, .ref q_70, .ref q_71, .int 0]))]) hP hD [2] [0, 1] rfl rfl (by decide) (by decide) hk1 hFc hP1 hD1
                  have hK := (hK.sub (tys' := [(k_8, .object "MapFramer$Call")]) [0] rfl).app hK1
                  generalize H1 = H at hP hS ⊢
                  have hP : va_P (dC, dI) vwCl [(k, .inr (2, [.ref q_1, .ref q_5, .ref q_7, .null, .int 0, .null, .int 0, .int 0, .int 0, .int 0, .long 0, .int (-1), .int 0, .int (-1)])), (q_7, .inl (k_8, 24, .inr (.inr (.inr (.inr fq_64))))), (q_66, .inr (0, [.null, .int 0, .ref q_70, .ref q_71, .int 0]))] H := hP
                  have hD : va_D A [(k, .inr (2, [.ref q_1, .ref q_5, .ref q_7, .null, .int 0, .null, .int 0, .int 0, .int 0, .int 0, .long 0, .int (-1), .int 0, .int (-1)])), (q_7, .inl (k_8, 24, .inr (.inr (.inr (.inr fq_64))))), (q_66, .inr (0, [.null, .int 0, .ref q_70, .ref q_71, .int 0]))] := hD
                  have hK : va_K (dC, dI) vwCl [(k_8, .object "MapFramer$Call")] s := hK
                  refine W.widen (k := 30) (n := 4176) (Nat.le_of_ble_eq_true rfl) (Nat.le_of_ble_eq_true rfl) ?_
                  refine va_astq (r := (R_C, T_C, 5)) hx hb hK hP hD hS 1 0 2 0 rfl rfl rfl rfl (vp_in_iff.mpr (by decide)) d_K_init_62 (fun H locs hP hD hS => ?_)
                  obtain ⟨fq_72, hfq⟩ : ∃ z : Nat → Option Nat, z = (va_up fq_64 (7 : Int32).toNatClampNeg (some q_66)) := ⟨_, rfl⟩
                  have hP : va_P (dC, dI) vwCl [(k, .inr (2, [.ref q_1, .ref q_5, .ref q_7, .null, .int 0, .null, .int 0, .int 0, .int 0, .int 0, .long 0, .int (-1), .int 0, .int (-1)])), (q_7, .inl (k_8, 24, .inr (.inr (.inr (.inr (va_up fq_64 (7 : Int32).toNatClampNeg (some q_66))))))), (q_66, .inr (0, [.null, .int 0, .ref q_70, .ref q_71, .int 0]))] H := hP
                  have hD : va_D A [(k, .inr (2, [.ref q_1, .ref q_5, .ref q_7, .null, .int 0, .null, .int 0, .int 0, .int 0, .int 0, .long 0, .int (-1), .int 0, .int (-1)])), (q_7, .inl (k_8, 24, .inr (.inr (.inr (.inr (va_up fq_64 (7 : Int32).toNatClampNeg (some q_66))))))), (q_66, .inr (0, [.null, .int 0, .ref q_70, .ref q_71, .int 0]))] := hD
                  rw [← hfq] at hP hD
                  have hP : va_P (dC, dI) vwCl [(k, .inr (2, [.ref q_1, .ref q_5, .ref q_7, .null, .int 0, .null, .int 0, .int 0, .int 0, .int 0, .long 0, .int (-1), .int 0, .int (-1)])), (q_7, .inl (k_8, 24, .inr (.inr (.inr (.inr fq_72))))), (q_66, .inr (0, [.null, .int 0, .ref q_70, .ref q_71, .int 0]))] H := hP
                  have hD : va_D A [(k, .inr (2, [.ref q_1, .ref q_5, .ref q_7, .null, .int 0, .null, .int 0, .int 0, .int 0, .int 0, .long 0, .int (-1), .int 0, .int (-1)])), (q_7, .inl (k_8, 24, .inr (.inr (.inr (.inr fq_72))))), (q_66, .inr (0, [.null, .int 0, .ref q_70, .ref q_71, .int 0]))] := hD
                  refine lv_iinc (v := 8) (lv' := [(1, .int 8), (0, .ref k)]) hx hb d_K_init_63 hl (k := 0) rfl (by decide) (by decide) rfl (fun ls hl => ?_)
                  refine lv_goto (tgt := 44) hx hb d_K_init_66 (by decide) ?_
                  have hP := hP.sub (ws' := [(k, .inr (2, [.ref q_1, .ref q_5, .ref q_7, .null, .int 0, .null, .int 0, .int 0, .int 0, .int 0, .long 0, .int (-1), .int 0, .int (-1)])), (q_7, .inl (k_8, 24, .inr (.inr (.inr (.inr fq_72)))))]) [0, 1] rfl
                  have hD := hD.sub (ws' := [(k, .inr (2, [.ref q_1, .ref q_5, .ref q_7, .null, .int 0, .null, .int 0, .int 0, .int 0, .int 0, .long 0, .int (-1), .int 0, .int (-1)])), (q_7, .inl (k_8, 24, .inr (.inr (.inr (.inr fq_72)))))]) [0, 1] (by decide) rfl
                  have hK := hK.sub (tys' := [(k_8, .object "MapFramer$Call")]) [0] rfl
                  refine lv_iload_n hx hb d_K_init_44 rfl (lv_at hl 0 rfl) ?_
                  refine lv_bipush (v := 24) hx hb d_K_init_45 (by decide) ?_
                  refine lv_icmp_ge (tgt := 69) hx hb d_K_init_47 (by decide) (fun c_73 => ?_) (fun c_73 => ?_)
                  · skip
                    first | exact absurd c_73 (by decide) | exact absurd (by decide) c_73
                  · skip
                    refine lv_aload_n hx hb d_K_init_50 rfl (lv_at hl 1 rfl) ?_
                    refine va_get (D := (dC, dI)) (ci := 2) (v := .ref q_7) (C := R_K) (T := T_K) (N := 14) hx hb hts (fun w h => hsub w (uw_K w h)) hown hK hP 0 rfl rfl 2 (by decide) (hts _ (hsub _ w_237)) (fun _ h9 => h9) rfl d_K_init_51 ?_
                    refine lv_iload_n hx hb d_K_init_54 rfl (lv_at hl 0 rfl) ?_
                    refine va_new (ci := 0) (fs := [.null, .int 0, .null, .null, .int 0]) (C := R_C) (T := T_C) (N := 5) hx hb hts (fun w h => hsub w (uw_C w h)) ty_C tok_C hown (hts _ (hsub _ w_236)) (hts _ (hsub _ w_240)) (hts _ (hsub _ w_241)) hK hP hD hS hA rfl (fun j hj => df_C j hj) (Nat.le_of_ble_eq_true rfl) (Nat.le_of_ble_eq_true rfl) d_K_init_55 (fun q_74 H hP hD hS => ?_)
                    have hP : va_P (dC, dI) vwCl [(k, .inr (2, [.ref q_1, .ref q_5, .ref q_7, .null, .int 0, .null, .int 0, .int 0, .int 0, .int 0, .long 0, .int (-1), .int 0, .int (-1)])), (q_7, .inl (k_8, 24, .inr (.inr (.inr (.inr fq_72))))), (q_74, .inr (0, [.null, .int 0, .null, .null, .int 0]))] H := hP
                    have hD : va_D A [(k, .inr (2, [.ref q_1, .ref q_5, .ref q_7, .null, .int 0, .null, .int 0, .int 0, .int 0, .int 0, .long 0, .int (-1), .int 0, .int (-1)])), (q_7, .inl (k_8, 24, .inr (.inr (.inr (.inr fq_72))))), (q_74, .inr (0, [.null, .int 0, .null, .null, .int 0]))] := hD
                    refine W.widen (k := 31) (n := 4181) (Nat.le_of_ble_eq_true rfl) (Nat.le_of_ble_eq_true rfl) ?_
                    refine lv_dup hx hb d_K_init_58 rfl ?_
                    have hPc := hP.sub (ws' := [(q_74, .inr (0, [.null, .int 0, .null, .null, .int 0]))]) [2] rfl
                    have hKc := hK.sub (tys' := []) [] rfl
                    have hDc := hD.sub (ws' := [(q_74, .inr (0, [.null, .int 0, .null, .null, .int 0]))]) [2] (by decide) rfl
                    have hFc := va_free (wc := [(q_74, .inr (0, [.null, .int 0, .null, .null, .int 0]))]) hD hS hA [2] rfl
                    refine va_callv (va_runIN (As := []) (rest := [.ref q_74, .int 8, .ref q_7]) ⟨hx, hb, hml, hown, hts⟩ (k_C_init l dC dI q_74 H.size) ⟨va_cnB 0 hts (gC hsub w_242) rfl rfl rfl htb.2.1 (hts _ (hsub _ w_241)) (by decide +kernel) ⟨Nat.le_of_ble_eq_true rfl, Nat.le_of_ble_eq_true rfl⟩, rfl, (hts _ (hsub _ w_243))⟩ ⟨bl_1000, fun U hU hW => ⟨rfl, by rw [hU], by rw [hU]; exact hPc, va_K.moved hW.alike hKc, hDc.weaken (fun _ _ _ _ => trivial)⟩⟩ rfl rfl hl.1 rfl (lv_room (Nat.le_of_ble_eq_true rfl)) d_K_init_59 ⟨Nat.le_of_ble_eq_true rfl, Nat.le_of_ble_eq_true rfl⟩) hS (fun q _ h => hFc q h) hFc (fun u_77 t H1 locs ht hvm hw hB hz1 hk1 hS => ?_)
                    obtain ⟨q_78, q_79, hP1, hK1, hD1⟩ := hB
                    rw [ht] at hP1
                    have hK1 := va_K.moved hvm.symm hK1
                    obtain ⟨hP, hD⟩ := va_join (wr := [(k, .inr (2, [.ref q_1, .ref q_5, .ref q_7, .null, .int 0, .null, .int 0, .int 0, .int 0, .int 0, .long 0, .int (-1), .int 0, .int (-1)])), (q_7, .inl (k_8, 24, .inr (.inr (.inr (.inr fq_72)))))]) (w1 := [(q_74, .inr (0, [.null, .int 0, .ref q_78, .ref q_79, .int 0]))]) hP hD [2] [0, 1] rfl rfl (by decide) (by decide) hk1 hFc hP1 hD1
                    have hK := (hK.sub (tys' := [(k_8, .object "MapFramer$Call")]) [0] rfl).app hK1
                    generalize H1 = H at hP hS ⊢
                    have hP : va_P (dC, dI) vwCl [(k, .inr (2, [.ref q_1, .ref q_5, .ref q_7, .null, .int 0, .null, .int 0, .int 0, .int 0, .int 0, .long 0, .int (-1), .int 0, .int (-1)])), (q_7, .inl (k_8, 24, .inr (.inr (.inr (.inr fq_72))))), (q_74, .inr (0, [.null, .int 0, .ref q_78, .ref q_79, .int 0]))] H := hP
                    have hD : va_D A [(k, .inr (2, [.ref q_1, .ref q_5, .ref q_7, .null, .int 0, .null, .int 0, .int 0, .int 0, .int 0, .long 0, .int (-1), .int 0, .int (-1)])), (q_7, .inl (k_8, 24, .inr (.inr (.inr (.inr fq_72))))), (q_74, .inr (0, [.null, .int 0, .ref q_78, .ref q_79, .int 0]))] := hD
                    have hK : va_K (dC, dI) vwCl [(k_8, .object "MapFramer$Call")] s := hK
                    refine W.widen (k := 33) (n := 4205) (Nat.le_of_ble_eq_true rfl) (Nat.le_of_ble_eq_true rfl) ?_
                    refine va_astq (r := (R_C, T_C, 5)) hx hb hK hP hD hS 1 0 2 0 rfl rfl rfl rfl (vp_in_iff.mpr (by decide)) d_K_init_62 (fun H locs hP hD hS => ?_)
                    obtain ⟨fq_80, hfq⟩ : ∃ z : Nat → Option Nat, z = (va_up fq_72 (8 : Int32).toNatClampNeg (some q_74)) := ⟨_, rfl⟩
                    have hP : va_P (dC, dI) vwCl [(k, .inr (2, [.ref q_1, .ref q_5, .ref q_7, .null, .int 0, .null, .int 0, .int 0, .int 0, .int 0, .long 0, .int (-1), .int 0, .int (-1)])), (q_7, .inl (k_8, 24, .inr (.inr (.inr (.inr (va_up fq_72 (8 : Int32).toNatClampNeg (some q_74))))))), (q_74, .inr (0, [.null, .int 0, .ref q_78, .ref q_79, .int 0]))] H := hP
                    have hD : va_D A [(k, .inr (2, [.ref q_1, .ref q_5, .ref q_7, .null, .int 0, .null, .int 0, .int 0, .int 0, .int 0, .long 0, .int (-1), .int 0, .int (-1)])), (q_7, .inl (k_8, 24, .inr (.inr (.inr (.inr (va_up fq_72 (8 : Int32).toNatClampNeg (some q_74))))))), (q_74, .inr (0, [.null, .int 0, .ref q_78, .ref q_79, .int 0]))] := hD
                    rw [← hfq] at hP hD
                    have hP : va_P (dC, dI) vwCl [(k, .inr (2, [.ref q_1, .ref q_5, .ref q_7, .null, .int 0, .null, .int 0, .int 0, .int 0, .int 0, .long 0, .int (-1), .int 0, .int (-1)])), (q_7, .inl (k_8, 24, .inr (.inr (.inr (.inr fq_80))))), (q_74, .inr (0, [.null, .int 0, .ref q_78, .ref q_79, .int 0]))] H := hP
                    have hD : va_D A [(k, .inr (2, [.ref q_1, .ref q_5, .ref q_7, .null, .int 0, .null, .int 0, .int 0, .int 0, .int 0, .long 0, .int (-1), .int 0, .int (-1)])), (q_7, .inl (k_8, 24, .inr (.inr (.inr (.inr fq_80))))), (q_74, .inr (0, [.null, .int 0, .ref q_78, .ref q_79, .int 0]))] := hD
                    refine lv_iinc (v := 9) (lv' := [(1, .int 9), (0, .ref k)]) hx hb d_K_init_63 hl (k := 0) rfl (by decide) (by decide) rfl (fun ls hl => ?_)
                    refine lv_goto (tgt := 44) hx hb d_K_init_66 (by decide) ?_
                    have hP := hP.sub (ws' := [(k, .inr (2, [.ref q_1, .ref q_5, .ref q_7, .null, .int 0, .null, .int 0, .int 0, .int 0, .int 0, .long 0, .int (-1), .int 0, .int (-1)])), (q_7, .inl (k_8, 24, .inr (.inr (.inr (.inr fq_80)))))]) [0, 1] rfl
                    have hD := hD.sub (ws' := [(k, .inr (2, [.ref q_1, .ref q_5, .ref q_7, .null, .int 0, .null, .int 0, .int 0, .int 0, .int 0, .long 0, .int (-1), .int 0, .int (-1)])), (q_7, .inl (k_8, 24, .inr (.inr (.inr (.inr fq_80)))))]) [0, 1] (by decide) rfl
                    have hK := hK.sub (tys' := [(k_8, .object "MapFramer$Call")]) [0] rfl
                    refine lv_iload_n hx hb d_K_init_44 rfl (lv_at hl 0 rfl) ?_
                    refine lv_bipush (v := 24) hx hb d_K_init_45 (by decide) ?_
                    refine lv_icmp_ge (tgt := 69) hx hb d_K_init_47 (by decide) (fun c_81 => ?_) (fun c_81 => ?_)
                    · skip
                      first | exact absurd c_81 (by decide) | exact absurd (by decide) c_81
                    · skip
                      refine lv_aload_n hx hb d_K_init_50 rfl (lv_at hl 1 rfl) ?_
                      refine va_get (D := (dC, dI)) (ci := 2) (v := .ref q_7) (C := R_K) (T := T_K) (N := 14) hx hb hts (fun w h => hsub w (uw_K w h)) hown hK hP 0 rfl rfl 2 (by decide) (hts _ (hsub _ w_237)) (fun _ h9 => h9) rfl d_K_init_51 ?_
                      refine lv_iload_n hx hb d_K_init_54 rfl (lv_at hl 0 rfl) ?_
                      refine va_new (ci := 0) (fs := [.null, .int 0, .null, .null, .int 0]) (C := R_C) (T := T_C) (N := 5) hx hb hts (fun w h => hsub w (uw_C w h)) ty_C tok_C hown (hts _ (hsub _ w_236)) (hts _ (hsub _ w_240)) (hts _ (hsub _ w_241)) hK hP hD hS hA rfl (fun j hj => df_C j hj) (Nat.le_of_ble_eq_true rfl) (Nat.le_of_ble_eq_true rfl) d_K_init_55 (fun q_82 H hP hD hS => ?_)
                      have hP : va_P (dC, dI) vwCl [(k, .inr (2, [.ref q_1, .ref q_5, .ref q_7, .null, .int 0, .null, .int 0, .int 0, .int 0, .int 0, .long 0, .int (-1), .int 0, .int (-1)])), (q_7, .inl (k_8, 24, .inr (.inr (.inr (.inr fq_80))))), (q_82, .inr (0, [.null, .int 0, .null, .null, .int 0]))] H := hP
                      have hD : va_D A [(k, .inr (2, [.ref q_1, .ref q_5, .ref q_7, .null, .int 0, .null, .int 0, .int 0, .int 0, .int 0, .long 0, .int (-1), .int 0, .int (-1)])), (q_7, .inl (k_8, 24, .inr (.inr (.inr (.inr fq_80))))), (q_82, .inr (0, [.null, .int 0, .null, .null, .int 0]))] := hD
                      refine W.widen (k := 34) (n := 4210) (Nat.le_of_ble_eq_true rfl) (Nat.le_of_ble_eq_true rfl) ?_
                      refine lv_dup hx hb d_K_init_58 rfl ?_
                      have hPc := hP.sub (ws' := [(q_82, .inr (0, [.null, .int 0, .null, .null, .int 0]))]) [2] rfl
                      have hKc := hK.sub (tys' := []) [] rfl
                      have hDc := hD.sub (ws' := [(q_82, .inr (0, [.null, .int 0, .null, .null, .int 0]))]) [2] (by decide) rfl
                      have hFc := va_free (wc := [(q_82, .inr (0, [.null, .int 0, .null, .null, .int 0]))]) hD hS hA [2] rfl
                      refine va_callv (va_runIN (As := []) (rest := [.ref q_82, .int 9, .ref q_7]) ⟨hx, hb, hml, hown, hts⟩ (k_C_init l dC dI q_82 H.size) ⟨va_cnB 0 hts (gC hsub w_242) rfl rfl rfl htb.2.1 (hts _ (hsub _ w_241)) (by decide +kernel) ⟨Nat.le_of_ble_eq_true rfl, Nat.le_of_ble_eq_true rfl⟩, rfl, (hts _ (hsub _ w_243))⟩ ⟨bl_1000, fun U hU hW => ⟨rfl, by rw [hU], by rw [hU]; exact hPc, va_K.moved hW.alike hKc, hDc.weaken (fun _ _ _ _ => trivial)⟩⟩ rfl rfl hl.1 rfl (lv_room (Nat.le_of_ble_eq_true rfl)) d_K_init_59 ⟨Nat.le_of_ble_eq_true rfl, Nat.le_of_ble_eq_true rfl⟩) hS (fun q _ h => hFc q h) hFc (fun u_85 t H1 locs ht hvm hw hB hz1 hk1 hS => ?_)
                      obtain ⟨q_86, q_87, hP1, hK1, hD1⟩ := hB
                      rw [ht] at hP1
                      have hK1 := va_K.moved hvm.symm hK1
                      obtain ⟨hP, hD⟩ := va_join (wr := [(k, .inr (2, [.ref q_1, .ref q_5, .ref q_7, .null, .int 0, .null, .int 0, .int 0, .int 0, .int 0, .long 0, .int (-1), .int 0, .int (-1)])), (q_7, .inl (k_8, 24, .inr (.inr (.inr (.inr fq_80)))))]) (w1 := [(q_82, .inr (0, [.null, .int 0, .ref q_86, .ref q_87, .int 0]))]) hP hD [2] [0, 1] rfl rfl (by decide) (by decide) hk1 hFc hP1 hD1
                      have hK := (hK.sub (tys' := [(k_8, .object "MapFramer$Call")]) [0] rfl).app hK1
                      generalize H1 = H at hP hS ⊢
                      have hP : va_P (dC, dI) vwCl [(k, .inr (2, [.ref q_1, .ref q_5, .ref q_7, .null, .int 0, .null, .int 0, .int 0, .int 0, .int 0, .long 0, .int (-1), .int 0, .int (-1)])), (q_7, .inl (k_8, 24, .inr (.inr (.inr (.inr fq_80))))), (q_82, .inr (0, [.null, .int 0, .ref q_86, .ref q_87, .int 0]))] H := hP
                      have hD : va_D A [(k, .inr (2, [.ref q_1, .ref q_5, .ref q_7, .null, .int 0, .null, .int 0, .int 0, .int 0, .int 0, .long 0, .int (-1), .int 0, .int (-1)])), (q_7, .inl (k_8, 24, .inr (.inr (.inr (.inr fq_80))))), (q_82, .inr (0, [.null, .int 0, .ref q_86, .ref q_87, .int 0]))] := hD
                      have hK : va_K (dC, dI) vwCl [(k_8, .object "MapFramer$Call")] s := hK
                      refine W.widen (k := 36) (n := 4234) (Nat.le_of_ble_eq_true rfl) (Nat.le_of_ble_eq_true rfl) ?_
                      refine va_astq (r := (R_C, T_C, 5)) hx hb hK hP hD hS 1 0 2 0 rfl rfl rfl rfl (vp_in_iff.mpr (by decide)) d_K_init_62 (fun H locs hP hD hS => ?_)
                      obtain ⟨fq_88, hfq⟩ : ∃ z : Nat → Option Nat, z = (va_up fq_80 (9 : Int32).toNatClampNeg (some q_82)) := ⟨_, rfl⟩
                      have hP : va_P (dC, dI) vwCl [(k, .inr (2, [.ref q_1, .ref q_5, .ref q_7, .null, .int 0, .null, .int 0, .int 0, .int 0, .int 0, .long 0, .int (-1), .int 0, .int (-1)])), (q_7, .inl (k_8, 24, .inr (.inr (.inr (.inr (va_up fq_80 (9 : Int32).toNatClampNeg (some q_82))))))), (q_82, .inr (0, [.null, .int 0, .ref q_86, .ref q_87, .int 0]))] H := hP
                      have hD : va_D A [(k, .inr (2, [.ref q_1, .ref q_5, .ref q_7, .null, .int 0, .null, .int 0, .int 0, .int 0, .int 0, .long 0, .int (-1), .int 0, .int (-1)])), (q_7, .inl (k_8, 24, .inr (.inr (.inr (.inr (va_up fq_80 (9 : Int32).toNatClampNeg (some q_82))))))), (q_82, .inr (0, [.null, .int 0, .ref q_86, .ref q_87, .int 0]))] := hD
                      rw [← hfq] at hP hD
                      have hP : va_P (dC, dI) vwCl [(k, .inr (2, [.ref q_1, .ref q_5, .ref q_7, .null, .int 0, .null, .int 0, .int 0, .int 0, .int 0, .long 0, .int (-1), .int 0, .int (-1)])), (q_7, .inl (k_8, 24, .inr (.inr (.inr (.inr fq_88))))), (q_82, .inr (0, [.null, .int 0, .ref q_86, .ref q_87, .int 0]))] H := hP
                      have hD : va_D A [(k, .inr (2, [.ref q_1, .ref q_5, .ref q_7, .null, .int 0, .null, .int 0, .int 0, .int 0, .int 0, .long 0, .int (-1), .int 0, .int (-1)])), (q_7, .inl (k_8, 24, .inr (.inr (.inr (.inr fq_88))))), (q_82, .inr (0, [.null, .int 0, .ref q_86, .ref q_87, .int 0]))] := hD
                      refine lv_iinc (v := 10) (lv' := [(1, .int 10), (0, .ref k)]) hx hb d_K_init_63 hl (k := 0) rfl (by decide) (by decide) rfl (fun ls hl => ?_)
                      refine lv_goto (tgt := 44) hx hb d_K_init_66 (by decide) ?_
                      have hP := hP.sub (ws' := [(k, .inr (2, [.ref q_1, .ref q_5, .ref q_7, .null, .int 0, .null, .int 0, .int 0, .int 0, .int 0, .long 0, .int (-1), .int 0, .int (-1)])), (q_7, .inl (k_8, 24, .inr (.inr (.inr (.inr fq_88)))))]) [0, 1] rfl
                      have hD := hD.sub (ws' := [(k, .inr (2, [.ref q_1, .ref q_5, .ref q_7, .null, .int 0, .null, .int 0, .int 0, .int 0, .int 0, .long 0, .int (-1), .int 0, .int (-1)])), (q_7, .inl (k_8, 24, .inr (.inr (.inr (.inr fq_88)))))]) [0, 1] (by decide) rfl
                      have hK := hK.sub (tys' := [(k_8, .object "MapFramer$Call")]) [0] rfl
                      refine lv_iload_n hx hb d_K_init_44 rfl (lv_at hl 0 rfl) ?_
                      refine lv_bipush (v := 24) hx hb d_K_init_45 (by decide) ?_
                      refine lv_icmp_ge (tgt := 69) hx hb d_K_init_47 (by decide) (fun c_89 => ?_) (fun c_89 => ?_)
                      · skip
                        first | exact absurd c_89 (by decide) | exact absurd (by decide) c_89
                      · skip
                        refine lv_aload_n hx hb d_K_init_50 rfl (lv_at hl 1 rfl) ?_
                        refine va_get (D := (dC, dI)) (ci := 2) (v := .ref q_7) (C := R_K) (T := T_K) (N := 14) hx hb hts (fun w h => hsub w (uw_K w h)) hown hK hP 0 rfl rfl 2 (by decide) (hts _ (hsub _ w_237)) (fun _ h9 => h9) rfl d_K_init_51 ?_
                        refine lv_iload_n hx hb d_K_init_54 rfl (lv_at hl 0 rfl) ?_
                        refine va_new (ci := 0) (fs := [.null, .int 0, .null, .null, .int 0]) (C := R_C) (T := T_C) (N := 5) hx hb hts (fun w h => hsub w (uw_C w h)) ty_C tok_C hown (hts _ (hsub _ w_236)) (hts _ (hsub _ w_240)) (hts _ (hsub _ w_241)) hK hP hD hS hA rfl (fun j hj => df_C j hj) (Nat.le_of_ble_eq_true rfl) (Nat.le_of_ble_eq_true rfl) d_K_init_55 (fun q_90 H hP hD hS => ?_)
                        have hP : va_P (dC, dI) vwCl [(k, .inr (2, [.ref q_1, .ref q_5, .ref q_7, .null, .int 0, .null, .int 0, .int 0, .int 0, .int 0, .long 0, .int (-1), .int 0, .int (-1)])), (q_7, .inl (k_8, 24, .inr (.inr (.inr (.inr fq_88))))), (q_90, .inr (0, [.null, .int 0, .null, .null, .int 0]))] H := hP
                        have hD : va_D A [(k, .inr (2, [.ref q_1, .ref q_5, .ref q_7, .null, .int 0, .null, .int 0, .int 0, .int 0, .int 0, .long 0, .int (-1), .int 0, .int (-1)])), (q_7, .inl (k_8, 24, .inr (.inr (.inr (.inr fq_88))))), (q_90, .inr (0, [.null, .int 0, .null, .null, .int 0]))] := hD
                        refine W.widen (k := 37) (n := 4239) (Nat.le_of_ble_eq_true rfl) (Nat.le_of_ble_eq_true rfl) ?_
                        refine lv_dup hx hb d_K_init_58 rfl ?_
                        have hPc := hP.sub (ws' := [(q_90, .inr (0, [.null, .int 0, .null, .null, .int 0]))]) [2] rfl
                        have hKc := hK.sub (tys' := []) [] rfl
                        have hDc := hD.sub (ws' := [(q_90, .inr (0, [.null, .int 0, .null, .null, .int 0]))]) [2] (by decide) rfl
                        have hFc := va_free (wc := [(q_90, .inr (0, [.null, .int 0, .null, .null, .int 0]))]) hD hS hA [2] rfl
                        refine va_callv (va_runIN (As := []) (rest := [.ref q_90, .int 10, .ref q_7]) ⟨hx, hb, hml, hown, hts⟩ (k_C_init l dC dI q_90 H.size) ⟨va_cnB 0 hts (gC hsub w_242) rfl rfl rfl htb.2.1 (hts _ (hsub _ w_241)) (by decide +kernel) ⟨Nat.le_of_ble_eq_true rfl, Nat.le_of_ble_eq_true rfl⟩, rfl, (hts _ (hsub _ w_243))⟩ ⟨bl_1000, fun U hU hW => ⟨rfl, by rw [hU], by rw [hU]; exact hPc, va_K.moved hW.alike hKc, hDc.weaken (fun _ _ _ _ => trivial)⟩⟩ rfl rfl hl.1 rfl (lv_room (Nat.le_of_ble_eq_true rfl)) d_K_init_59 ⟨Nat.le_of_ble_eq_true rfl, Nat.le_of_ble_eq_true rfl⟩) hS (fun q _ h => hFc q h) hFc (fun u_93 t H1 locs ht hvm hw hB hz1 hk1 hS => ?_)
                        obtain ⟨q_94, q_95, hP1, hK1, hD1⟩ := hB
                        rw [ht] at hP1
                        have hK1 := va_K.moved hvm.symm hK1
                        obtain ⟨hP, hD⟩ := va_join (wr := [(k, .inr (2, [.ref q_1, .ref q_5, .ref q_7, .null, .int 0, .null, .int 0, .int 0, .int 0, .int 0, .long 0, .int (-1), .int 0, .int (-1)])), (q_7, .inl (k_8, 24, .inr (.inr (.inr (.inr fq_88)))))]) (w1 := [(q_90, .inr (0, [.null, .int 0, .ref q_94, .ref q_95, .int 0]))]) hP hD [2] [0, 1] rfl rfl (by decide) (by decide) hk1 hFc hP1 hD1
                        have hK := (hK.sub (tys' := [(k_8, .object "MapFramer$Call")]) [0] rfl).app hK1
                        generalize H1 = H at hP hS ⊢
                        have hP : va_P (dC, dI) vwCl [(k, .inr (2, [.ref q_1, .ref q_5, .ref q_7, .null, .int 0, .null, .int 0, .int 0, .int 0, .int 0, .long 0, .int (-1), .int 0, .int (-1)])), (q_7, .inl (k_8, 24, .inr (.inr (.inr (.inr fq_88))))), (q_90, .inr (0, [.null, .int 0, .ref q_94, .ref q_95, .int 0]))] H := hP
                        have hD : va_D A [(k, .inr (2, [.ref q_1, .ref q_5, .ref q_7, .null, .int 0, .null, .int 0, .int 0, .int 0, .int 0, .long 0, .int (-1), .int 0, .int (-1)])), (q_7, .inl (k_8, 24, .inr (.inr (.inr (.inr fq_88))))), (q_90, .inr (0, [.null, .int 0, .ref q_94, .ref q_95, .int 0]))] := hD
                        have hK : va_K (dC, dI) vwCl [(k_8, .object "MapFramer$Call")] s := hK
                        refine W.widen (k := 39) (n := 4263) (Nat.le_of_ble_eq_true rfl) (Nat.le_of_ble_eq_true rfl) ?_
                        refine va_astq (r := (R_C, T_C, 5)) hx hb hK hP hD hS 1 0 2 0 rfl rfl rfl rfl (vp_in_iff.mpr (by decide)) d_K_init_62 (fun H locs hP hD hS => ?_)
                        obtain ⟨fq_96, hfq⟩ : ∃ z : Nat → Option Nat, z = (va_up fq_88 (10 : Int32).toNatClampNeg (some q_90)) := ⟨_, rfl⟩
                        have hP : va_P (dC, dI) vwCl [(k, .inr (2, [.ref q_1, .ref q_5, .ref q_7, .null, .int 0, .null, .int 0, .int 0, .int 0, .int 0, .long 0, .int (-1), .int 0, .int (-1)])), (q_7, .inl (k_8, 24, .inr (.inr (.inr (.inr (va_up fq_88 (10 : Int32).toNatClampNeg (some q_90))))))), (q_90, .inr (0, [.null, .int 0, .ref q_94, .ref q_95, .int 0]))] H := hP
                        have hD : va_D A [(k, .inr (2, [.ref q_1, .ref q_5, .ref q_7, .null, .int 0, .null, .int 0, .int 0, .int 0, .int 0, .long 0, .int (-1), .int 0, .int (-1)])), (q_7, .inl (k_8, 24, .inr (.inr (.inr (.inr (va_up fq_88 (10 : Int32).toNatClampNeg (some q_90))))))), (q_90, .inr (0, [.null, .int 0, .ref q_94, .ref q_95, .int 0]))] := hD
                        rw [← hfq] at hP hD
                        have hP : va_P (dC, dI) vwCl [(k, .inr (2, [.ref q_1, .ref q_5, .ref q_7, .null, .int 0, .null, .int 0, .int 0, .int 0, .int 0, .long 0, .int (-1), .int 0, .int (-1)])), (q_7, .inl (k_8, 24, .inr (.inr (.inr (.inr fq_96))))), (q_90, .inr (0, [.null, .int 0, .ref q_94, .ref q_95, .int 0]))] H := hP
                        have hD : va_D A [(k, .inr (2, [.ref q_1, .ref q_5, .ref q_7, .null, .int 0, .null, .int 0, .int 0, .int 0, .int 0, .long 0, .int (-1), .int 0, .int (-1)])), (q_7, .inl (k_8, 24, .inr (.inr (.inr (.inr fq_96))))), (q_90, .inr (0, [.null, .int 0, .ref q_94, .ref q_95, .int 0]))] := hD
                        refine lv_iinc (v := 11) (lv' := [(1, .int 11), (0, .ref k)]) hx hb d_K_init_63 hl (k := 0) rfl (by decide) (by decide) rfl (fun ls hl => ?_)
                        refine lv_goto (tgt := 44) hx hb d_K_init_66 (by decide) ?_
                        have hP := hP.sub (ws' := [(k, .inr (2, [.ref q_1, .ref q_5, .ref q_7, .null, .int 0, .null, .int 0, .int 0, .int 0, .int 0, .long 0, .int (-1), .int 0, .int (-1)])), (q_7, .inl (k_8, 24, .inr (.inr (.inr (.inr fq_96)))))]) [0, 1] rfl
                        have hD := hD.sub (ws' := [(k, .inr (2, [.ref q_1, .ref q_5, .ref q_7, .null, .int 0, .null, .int 0, .int 0, .int 0, .int 0, .long 0, .int (-1), .int 0, .int (-1)])), (q_7, .inl (k_8, 24, .inr (.inr (.inr (.inr fq_96)))))]) [0, 1] (by decide) rfl
                        have hK := hK.sub (tys' := [(k_8, .object "MapFramer$Call")]) [0] rfl
                        refine lv_iload_n hx hb d_K_init_44 rfl (lv_at hl 0 rfl) ?_
                        refine lv_bipush (v := 24) hx hb d_K_init_45 (by decide) ?_
                        refine lv_icmp_ge (tgt := 69) hx hb d_K_init_47 (by decide) (fun c_97 => ?_) (fun c_97 => ?_)
                        · skip
                          first | exact absurd c_97 (by decide) | exact absurd (by decide) c_97
                        · skip
                          refine lv_aload_n hx hb d_K_init_50 rfl (lv_at hl 1 rfl) ?_
                          refine va_get (D := (dC, dI)) (ci := 2) (v := .ref q_7) (C := R_K) (T := T_K) (N := 14) hx hb hts (fun w h => hsub w (uw_K w h)) hown hK hP 0 rfl rfl 2 (by decide) (hts _ (hsub _ w_237)) (fun _ h9 => h9) rfl d_K_init_51 ?_
                          refine lv_iload_n hx hb d_K_init_54 rfl (lv_at hl 0 rfl) ?_
                          refine va_new (ci := 0) (fs := [.null, .int 0, .null, .null, .int 0]) (C := R_C) (T := T_C) (N := 5) hx hb hts (fun w h => hsub w (uw_C w h)) ty_C tok_C hown (hts _ (hsub _ w_236)) (hts _ (hsub _ w_240)) (hts _ (hsub _ w_241)) hK hP hD hS hA rfl (fun j hj => df_C j hj) (Nat.le_of_ble_eq_true rfl) (Nat.le_of_ble_eq_true rfl) d_K_init_55 (fun q_98 H hP hD hS => ?_)
                          have hP : va_P (dC, dI) vwCl [(k, .inr (2, [.ref q_1, .ref q_5, .ref q_7, .null, .int 0, .null, .int 0, .int 0, .int 0, .int 0, .long 0, .int (-1), .int 0, .int (-1)])), (q_7, .inl (k_8, 24, .inr (.inr (.inr (.inr fq_96))))), (q_98, .inr (0, [.null, .int 0, .null, .null, .int 0]))] H := hP
                          have hD : va_D A [(k, .inr (2, [.ref q_1, .ref q_5, .ref q_7, .null, .int 0, .null, .int 0, .int 0, .int 0, .int 0, .long 0, .int (-1), .int 0, .int (-1)])), (q_7, .inl (k_8, 24, .inr (.inr (.inr (.inr fq_96))))), (q_98, .inr (0, [.null, .int 0, .null, .null, .int 0]))] := hD
                          refine W.widen (k := 40) (n := 4268) (Nat.le_of_ble_eq_true rfl) (Nat.le_of_ble_eq_true rfl) ?_
                          refine lv_dup hx hb d_K_init_58 rfl ?_
                          have hPc := hP.sub (ws' := [(q_98, .inr (0, [.null, .int 0, .null, .null, .int 0]))]) [2] rfl
                          have hKc := hK.sub (tys' := []) [] rfl
                          have hDc := hD.sub (ws' := [(q_98, .inr (0, [.null, .int 0, .null, .null, .int 0]))]) [2] (by decide) rfl
                          have hFc := va_free (wc := [(q_98, .inr (0, [.null, .int 0, .null, .null, .int 0]))]) hD hS hA [2] rfl
                          refine va_callv (va_runIN (As := []) (rest := [.ref q_98, .int 11, .ref q_7]) ⟨hx, hb, hml, hown, hts⟩ (k_C_init l dC dI q_98 H.size) ⟨va_cnB 0 hts (gC hsub w_242) rfl rfl rfl htb.2.1 (hts _ (hsub _ w_241)) (by decide +kernel) ⟨Nat.le_of_ble_eq_true rfl, Nat.le_of_ble_eq_true rfl⟩, rfl, (hts _ (hsub _ w_243))⟩ ⟨bl_1000, fun U hU hW => ⟨rfl, by rw [hU], by rw [hU]; exact hPc, va_K.moved hW.alike hKc, hDc.weaken (fun _ _ _ _ => trivial)⟩⟩ rfl rfl hl.1 rfl (lv_room (Nat.le_of_ble_eq_true rfl)) d_K_init_59 ⟨Nat.le_of_ble_eq_true rfl, Nat.le_of_ble_eq_true rfl⟩) hS (fun q _ h => hFc q h) hFc (fun u_101 t H1 locs ht hvm hw hB hz1 hk1 hS => ?_)
                          obtain ⟨q_102, q_103, hP1, hK1, hD1⟩ := hB
                          rw [ht] at hP1
                          have hK1 := va_K.moved hvm.symm hK1
                          obtain ⟨hP, hD⟩ := va_join (wr := [(k, .inr (2, [.ref q_1, .ref q_5, .ref q_7, .null, .int 0, .null, .int 0, .int 0, .int 0, .int 0, .long 0, .int (-1), .int 0, .int (-1)])), (q_7, .inl (k_8, 24, .inr (.inr (.inr (.inr fq_96)))))]) (w1 := [(q_98, .inr (0, [.null, .int 0, .ref q_102, .ref q_103, .int 0]))]) hP hD [2] [0, 1] rfl rfl (by decide) (by decide) hk1 hFc hP1 hD1
                          have hK := (hK.sub (tys' := [(k_8, .object "MapFramer$Call")]) [0] rfl).app hK1
                          generalize H1 = H at hP hS ⊢
                          have hP : va_P (dC, dI) vwCl [(k, .inr (2, [.ref q_1, .ref q_5, .ref q_7, .null, .int 0, .null, .int 0, .int 0, .int 0, .int 0, .long 0, .int (-1), .int 0, .int (-1)])), (q_7, .inl (k_8, 24, .inr (.inr (.inr (.inr fq_96))))), (q_98, .inr (0, [.null, .int 0, .ref q_102, .ref q_103, .int 0]))] H := hP
                          have hD : va_D A [(k, .inr (2, [.ref q_1, .ref q_5, .ref q_7, .null, .int 0, .null, .int 0, .int 0, .int 0, .int 0, .long 0, .int (-1), .int 0, .int (-1)])), (q_7, .inl (k_8, 24, .inr (.inr (.inr (.inr fq_96))))), (q_98, .inr (0, [.null, .int 0, .ref q_102, .ref q_103, .int 0]))] := hD
                          have hK : va_K (dC, dI) vwCl [(k_8, .object "MapFramer$Call")] s := hK
                          refine W.widen (k := 42) (n := 4292) (Nat.le_of_ble_eq_true rfl) (Nat.le_of_ble_eq_true rfl) ?_
                          refine va_astq (r := (R_C, T_C, 5)) hx hb hK hP hD hS 1 0 2 0 rfl rfl rfl rfl (vp_in_iff.mpr (by decide)) d_K_init_62 (fun H locs hP hD hS => ?_)
                          obtain ⟨fq_104, hfq⟩ : ∃ z : Nat → Option Nat, z = (va_up fq_96 (11 : Int32).toNatClampNeg (some q_98)) := ⟨_, rfl⟩
                          have hP : va_P (dC, dI) vwCl [(k, .inr (2, [.ref q_1, .ref q_5, .ref q_7, .null, .int 0, .null, .int 0, .int 0, .int 0, .int 0, .long 0, .int (-1), .int 0, .int (-1)])), (q_7, .inl (k_8, 24, .inr (.inr (.inr (.inr (va_up fq_96 (11 : Int32).toNatClampNeg (some q_98))))))), (q_98, .inr (0, [.null, .int 0, .ref q_102, .ref q_103, .int 0]))] H := hP
                          have hD : va_D A [(k, .inr (2, [.ref q_1, .ref q_5, .ref q_7, .null, .int 0, .null, .int 0, .int 0, .int 0, .int 0, .long 0, .int (-1), .int 0, .int (-1)])), (q_7, .inl (k_8, 24, .inr (.inr (.inr (.inr (va_up fq_96 (11 : Int32).toNatClampNeg (some q_98))))))), (q_98, .inr (0, [.null, .int 0, .ref q_102, .ref q_103, .int 0]))] := hD
                          rw [← hfq] at hP hD
                          have hP : va_P (dC, dI) vwCl [(k, .inr (2, [.ref q_1, .ref q_5, .ref q_7, .null, .int 0, .null, .int 0, .int 0, .int 0, .int 0, .long 0, .int (-1), .int 0, .int (-1)])), (q_7, .inl (k_8, 24, .inr (.inr (.inr (.inr fq_104))))), (q_98, .inr (0, [.null, .int 0, .ref q_102, .ref q_103, .int 0]))] H := hP
                          have hD : va_D A [(k, .inr (2, [.ref q_1, .ref q_5, .ref q_7, .null, .int 0, .null, .int 0, .int 0, .int 0, .int 0, .long 0, .int (-1), .int 0, .int (-1)])), (q_7, .inl (k_8, 24, .inr (.inr (.inr (.inr fq_104))))), (q_98, .inr (0, [.null, .int 0, .ref q_102, .ref q_103, .int 0]))] := hD
                          refine lv_iinc (v := 12) (lv' := [(1, .int 12), (0, .ref k)]) hx hb d_K_init_63 hl (k := 0) rfl (by decide) (by decide) rfl (fun ls hl => ?_)
                          refine lv_goto (tgt := 44) hx hb d_K_init_66 (by decide) ?_
                          have hP := hP.sub (ws' := [(k, .inr (2, [.ref q_1, .ref q_5, .ref q_7, .null, .int 0, .null, .int 0, .int 0, .int 0, .int 0, .long 0, .int (-1), .int 0, .int (-1)])), (q_7, .inl (k_8, 24, .inr (.inr (.inr (.inr fq_104)))))]) [0, 1] rfl
                          have hD := hD.sub (ws' := [(k, .inr (2, [.ref q_1, .ref q_5, .ref q_7, .null, .int 0, .null, .int 0, .int 0, .int 0, .int 0, .long 0, .int (-1), .int 0, .int (-1)])), (q_7, .inl (k_8, 24, .inr (.inr (.inr (.inr fq_104)))))]) [0, 1] (by decide) rfl
                          have hK := hK.sub (tys' := [(k_8, .object "MapFramer$Call")]) [0] rfl
                          refine lv_iload_n hx hb d_K_init_44 rfl (lv_at hl 0 rfl) ?_
                          refine lv_bipush (v := 24) hx hb d_K_init_45 (by decide) ?_
                          refine lv_icmp_ge (tgt := 69) hx hb d_K_init_47 (by decide) (fun c_105 => ?_) (fun c_105 => ?_)
                          · skip
                            first | exact absurd c_105 (by decide) | exact absurd (by decide) c_105
                          · skip
                            refine lv_aload_n hx hb d_K_init_50 rfl (lv_at hl 1 rfl) ?_
                            refine va_get (D := (dC, dI)) (ci := 2) (v := .ref q_7) (C := R_K) (T := T_K) (N := 14) hx hb hts (fun w h => hsub w (uw_K w h)) hown hK hP 0 rfl rfl 2 (by decide) (hts _ (hsub _ w_237)) (fun _ h9 => h9) rfl d_K_init_51 ?_
                            refine lv_iload_n hx hb d_K_init_54 rfl (lv_at hl 0 rfl) ?_
                            refine va_new (ci := 0) (fs := [.null, .int 0, .null, .null, .int 0]) (C := R_C) (T := T_C) (N := 5) hx hb hts (fun w h => hsub w (uw_C w h)) ty_C tok_C hown (hts _ (hsub _ w_236)) (hts _ (hsub _ w_240)) (hts _ (hsub _ w_241)) hK hP hD hS hA rfl (fun j hj => df_C j hj) (Nat.le_of_ble_eq_true rfl) (Nat.le_of_ble_eq_true rfl) d_K_init_55 (fun q_106 H hP hD hS => ?_)
                            have hP : va_P (dC, dI) vwCl [(k, .inr (2, [.ref q_1, .ref q_5, .ref q_7, .null, .int 0, .null, .int 0, .int 0, .int 0, .int 0, .long 0, .int (-1), .int 0, .int (-1)])), (q_7, .inl (k_8, 24, .inr (.inr (.inr (.inr fq_104))))), (q_106, .inr (0, [.null, .int 0, .null, .null, .int 0]))] H := hP
                            have hD : va_D A [(k, .inr (2, [.ref q_1, .ref q_5, .ref q_7, .null, .int 0, .null, .int 0, .int 0, .int 0, .int 0, .long 0, .int (-1), .int 0, .int (-1)])), (q_7, .inl (k_8, 24, .inr (.inr (.inr (.inr fq_104))))), (q_106, .inr (0, [.null, .int 0, .null, .null, .int 0]))] := hD
                            refine W.widen (k := 43) (n := 4297) (Nat.le_of_ble_eq_true rfl) (Nat.le_of_ble_eq_true rfl) ?_
                            refine lv_dup hx hb d_K_init_58 rfl ?_
                            have hPc := hP.sub (ws' := [(q_106, .inr (0, [.null, .int 0, .null, .null, .int 0]))]) [2] rfl
                            have hKc := hK.sub (tys' := []) [] rfl
                            have hDc := hD.sub (ws' := [(q_106, .inr (0, [.null, .int 0, .null, .null, .int 0]))]) [2] (by decide) rfl
                            have hFc := va_free (wc := [(q_106, .inr (0, [.null, .int 0, .null, .null, .int 0]))]) hD hS hA [2] rfl
                            refine va_callv (va_runIN (As := []) (rest := [.ref q_106, .int 12, .ref q_7]) ⟨hx, hb, hml, hown, hts⟩ (k_C_init l dC dI q_106 H.size) ⟨va_cnB 0 hts (gC hsub w_242) rfl rfl rfl htb.2.1 (hts _ (hsub _ w_241)) (by decide +kernel) ⟨Nat.le_of_ble_eq_true rfl, Nat.le_of_ble_eq_true rfl⟩, rfl, (hts _ (hsub _ w_243))⟩ ⟨bl_1000, fun U hU hW => ⟨rfl, by rw [hU], by rw [hU]; exact hPc, va_K.moved hW.alike hKc, hDc.weaken (fun _ _ _ _ => trivial)⟩⟩ rfl rfl hl.1 rfl (lv_room (Nat.le_of_ble_eq_true rfl)) d_K_init_59 ⟨Nat.le_of_ble_eq_true rfl, Nat.le_of_ble_eq_true rfl⟩) hS (fun q _ h => hFc q h) hFc (fun u_109 t H1 locs ht hvm hw hB hz1 hk1 hS => ?_)
                            obtain ⟨q_110, q_111, hP1, hK1, hD1⟩ := hB
                            rw [ht] at hP1
                            have hK1 := va_K.moved hvm.symm hK1
                            obtain ⟨hP, hD⟩ := va_join (wr := [(k, .inr (2, [.ref q_1, .ref q_5, .ref q_7, .null, .int 0, .null, .int 0, .int 0, .int 0, .int 0, .long 0, .int (-1), .int 0, .int (-1)])), (q_7, .inl (k_8, 24, .inr (.inr (.inr (.inr fq_104)))))]) (w1 := [(q_106, .inr (0, [.null, .int 0, .ref q_110, .ref q_111, .int 0]))]) hP hD [2] [0, 1] rfl rfl (by decide) (by decide) hk1 hFc hP1 hD1
                            have hK := (hK.sub (tys' := [(k_8, .object "MapFramer$Call")]) [0] rfl).app hK1
                            generalize H1 = H at hP hS ⊢
                            have hP : va_P (dC, dI) vwCl [(k, .inr (2, [.ref q_1, .ref q_5, .ref q_7, .null, .int 0, .null, .int 0, .int 0, .int 0, .int 0, .long 0, .int (-1), .int 0, .int (-1)])), (q_7, .inl (k_8, 24, .inr (.inr (.inr (.inr fq_104))))), (q_106, .inr (0, [.null, .int 0, .ref q_110, .ref q_111, .int 0]))] H := hP
                            have hD : va_D A [(k, .inr (2, [.ref q_1, .ref q_5, .ref q_7, .null, .int 0, .null, .int 0, .int 0, .int 0, .int 0, .long 0, .int (-1), .int 0, .int (-1)])), (q_7, .inl (k_8, 24, .inr (.inr (.inr (.inr fq_104))))), (q_106, .inr (0, [.null, .int 0, .ref q_110, .ref q_111, .int 0]))] := hD
                            have hK : va_K (dC, dI) vwCl [(k_8, .object "MapFramer$Call")] s := hK
                            refine W.widen (k := 45) (n := 4321) (Nat.le_of_ble_eq_true rfl) (Nat.le_of_ble_eq_true rfl) ?_
                            refine va_astq (r := (R_C, T_C, 5)) hx hb hK hP hD hS 1 0 2 0 rfl rfl rfl rfl (vp_in_iff.mpr (by decide)) d_K_init_62 (fun H locs hP hD hS => ?_)
                            obtain ⟨fq_112, hfq⟩ : ∃ z : Nat → Option Nat, z = (va_up fq_104 (12 : Int32).toNatClampNeg (some q_106)) := ⟨_, rfl⟩
                            have hP : va_P (dC, dI) vwCl [(k, .inr (2, [.ref q_1, .ref q_5, .ref q_7, .null, .int 0, .null, .int 0, .int 0, .int 0, .int 0, .long 0, .int (-1), .int 0, .int (-1)])), (q_7, .inl (k_8, 24, .inr (.inr (.inr (.inr (va_up fq_104 (12 : Int32).toNatClampNeg (some q_106))))))), (q_106, .inr (0, [.null, .int 0, .ref q_110, .ref q_111, .int 0]))] H := hP
                            have hD : va_D A [(k, .inr (2, [.ref q_1, .ref q_5, .ref q_7, .null, .int 0, .null, .int 0, .int 0, .int 0, .int 0, .long 0, .int (-1), .int 0, .int (-1)])), (q_7, .inl (k_8, 24, .inr (.inr (.inr (.inr (va_up fq_104 (12 : Int32).toNatClampNeg (some q_106))))))), (q_106, .inr (0, [.null, .int 0, .ref q_110, .ref q_111, .int 0]))] := hD
                            rw [← hfq] at hP hD
                            have hP : va_P (dC, dI) vwCl [(k, .inr (2, [.ref q_1, .ref q_5, .ref q_7, .null, .int 0, .null, .int 0, .int 0, .int 0, .int 0, .long 0, .int (-1), .int 0, .int (-1)])), (q_7, .inl (k_8, 24, .inr (.inr (.inr (.inr fq_112))))), (q_106, .inr (0, [.null, .int 0, .ref q_110, .ref q_111, .int 0]))] H := hP
                            have hD : va_D A [(k, .inr (2, [.ref q_1, .ref q_5, .ref q_7, .null, .int 0, .null, .int 0, .int 0, .int 0, .int 0, .long 0, .int (-1), .int 0, .int (-1)])), (q_7, .inl (k_8, 24, .inr (.inr (.inr (.inr fq_112))))), (q_106, .inr (0, [.null, .int 0, .ref q_110, .ref q_111, .int 0]))] := hD
                            refine lv_iinc (v := 13) (lv' := [(1, .int 13), (0, .ref k)]) hx hb d_K_init_63 hl (k := 0) rfl (by decide) (by decide) rfl (fun ls hl => ?_)
                            refine lv_goto (tgt := 44) hx hb d_K_init_66 (by decide) ?_
                            have hP := hP.sub (ws' := [(k, .inr (2, [.ref q_1, .ref q_5, .ref q_7, .null, .int 0, .null, .int 0, .int 0, .int 0, .int 0, .long 0, .int (-1), .int 0, .int (-1)])), (q_7, .inl (k_8, 24, .inr (.inr (.inr (.inr fq_112)))))]) [0, 1] rfl
                            have hD := hD.sub (ws' := [(k, .inr (2, [.ref q_1, .ref q_5, .ref q_7, .null, .int 0, .null, .int 0, .int 0, .int 0, .int 0, .long 0, .int (-1), .int 0, .int (-1)])), (q_7, .inl (k_8, 24, .inr (.inr (.inr (.inr fq_112)))))]) [0, 1] (by decide) rfl
                            have hK := hK.sub (tys' := [(k_8, .object "MapFramer$Call")]) [0] rfl
                            refine lv_iload_n hx hb d_K_init_44 rfl (lv_at hl 0 rfl) ?_
                            refine lv_bipush (v := 24) hx hb d_K_init_45 (by decide) ?_
                            refine lv_icmp_ge (tgt := 69) hx hb d_K_init_47 (by decide) (fun c_113 => ?_) (fun c_113 => ?_)
                            · skip
                              first | exact absurd c_113 (by decide) | exact absurd (by decide) c_113
                            · skip
                              refine lv_aload_n hx hb d_K_init_50 rfl (lv_at hl 1 rfl) ?_
                              refine va_get (D := (dC, dI)) (ci := 2) (v := .ref q_7) (C := R_K) (T := T_K) (N := 14) hx hb hts (fun w h => hsub w (uw_K w h)) hown hK hP 0 rfl rfl 2 (by decide) (hts _ (hsub _ w_237)) (fun _ h9 => h9) rfl d_K_init_51 ?_
                              refine lv_iload_n hx hb d_K_init_54 rfl (lv_at hl 0 rfl) ?_
                              refine va_new (ci := 0) (fs := [.null, .int 0, .null, .null, .int 0]) (C := R_C) (T := T_C) (N := 5) hx hb hts (fun w h => hsub w (uw_C w h)) ty_C tok_C hown (hts _ (hsub _ w_236)) (hts _ (hsub _ w_240)) (hts _ (hsub _ w_241)) hK hP hD hS hA rfl (fun j hj => df_C j hj) (Nat.le_of_ble_eq_true rfl) (Nat.le_of_ble_eq_true rfl) d_K_init_55 (fun q_114 H hP hD hS => ?_)
                              have hP : va_P (dC, dI) vwCl [(k, .inr (2, [.ref q_1, .ref q_5, .ref q_7, .null, .int 0, .null, .int 0, .int 0, .int 0, .int 0, .long 0, .int (-1), .int 0, .int (-1)])), (q_7, .inl (k_8, 24, .inr (.inr (.inr (.inr fq_112))))), (q_114, .inr (0, [.null, .int 0, .null, .null, .int 0]))] H := hP
                              have hD : va_D A [(k, .inr (2, [.ref q_1, .ref q_5, .ref q_7, .null, .int 0, .null, .int 0, .int 0, .int 0, .int 0, .long 0, .int (-1), .int 0, .int (-1)])), (q_7, .inl (k_8, 24, .inr (.inr (.inr (.inr fq_112))))), (q_114, .inr (0, [.null, .int 0, .null, .null, .int 0]))] := hD
                              refine W.widen (k := 46) (n := 4326) (Nat.le_of_ble_eq_true rfl) (Nat.le_of_ble_eq_true rfl) ?_
                              refine lv_dup hx hb d_K_init_58 rfl ?_
                              have hPc := hP.sub (ws' := [(q_114, .inr (0, [.null, .int 0, .null, .null, .int 0]))]) [2] rfl
                              have hKc := hK.sub (tys' := []) [] rfl
                              have hDc := hD.sub (ws' := [(q_114, .inr (0, [.null, .int 0, .null, .null, .int 0]))]) [2] (by decide) rfl
                              have hFc := va_free (wc := [(q_114, .inr (0, [.null, .int 0, .null, .null, .int 0]))]) hD hS hA [2] rfl
                              refine va_callv (va_runIN (As := []) (rest := [.ref q_114, .int 13, .ref q_7]) ⟨hx, hb, hml, hown, hts⟩ (k_C_init l dC dI q_114 H.size) ⟨va_cnB 0 hts (gC hsub w_242) rfl rfl rfl htb.2.1 (hts _ (hsub _ w_241)) (by decide +kernel) ⟨Nat.le_of_ble_eq_true rfl, Nat.le_of_ble_eq_true rfl⟩, rfl, (hts _ (hsub _ w_243))⟩ ⟨bl_1000, fun U hU hW => ⟨rfl, by rw [hU], by rw [hU]; exact hPc, va_K.moved hW.alike hKc, hDc.weaken (fun _ _ _ _ => trivial)⟩⟩ rfl rfl hl.1 rfl (lv_room (Nat.le_of_ble_eq_true rfl)) d_K_init_59 ⟨Nat.le_of_ble_eq_true rfl, Nat.le_of_ble_eq_true rfl⟩) hS (fun q _ h => hFc q h) hFc (fun u_117 t H1 locs ht hvm hw hB hz1 hk1 hS => ?_)
                              obtain ⟨q_118, q_119, hP1, hK1, hD1⟩ := hB
                              rw [ht] at hP1
                              have hK1 := va_K.moved hvm.symm hK1
                              obtain ⟨hP, hD⟩ := va_join (wr := [(k, .inr (2, [.ref q_1, .ref q_5, .ref q_7, .null, .int 0, .null, .int 0, .int 0, .int 0, .int 0, .long 0, .int (-1), .int 0, .int (-1)])), (q_7, .inl (k_8, 24, .inr (.inr (.inr (.inr fq_112)))))]) (w1 := [(q_114, .inr (0, [.null, .int 0, .ref q_118, .ref q_119, .int 0]))]) hP hD [2] [0, 1] rfl rfl (by decide) (by decide) hk1 hFc hP1 hD1
                              have hK := (hK.sub (tys' := [(k_8, .object "MapFramer$Call")]) [0] rfl).app hK1
                              generalize H1 = H at hP hS ⊢
                              have hP : va_P (dC, dI) vwCl [(k, .inr (2, [.ref q_1, .ref q_5, .ref q_7, .null, .int 0, .null, .int 0, .int 0, .int 0, .int 0, .long 0, .int (-1), .int 0, .int (-1)])), (q_7, .inl (k_8, 24, .inr (.inr (.inr (.inr fq_112))))), (q_114, .inr (0, [.null, .int 0, .ref q_118, .ref q_119, .int 0]))] H := hP
                              have hD : va_D A [(k, .inr (2, [.ref q_1, .ref q_5, .ref q_7, .null, .int 0, .null, .int 0, .int 0, .int 0, .int 0, .long 0, .int (-1), .int 0, .int (-1)])), (q_7, .inl (k_8, 24, .inr (.inr (.inr (.inr fq_112))))), (q_114, .inr (0, [.null, .int 0, .ref q_118, .ref q_119, .int 0]))] := hD
                              have hK : va_K (dC, dI) vwCl [(k_8, .object "MapFramer$Call")] s := hK
                              refine W.widen (k := 48) (n := 4350) (Nat.le_of_ble_eq_true rfl) (Nat.le_of_ble_eq_true rfl) ?_
                              refine va_astq (r := (R_C, T_C, 5)) hx hb hK hP hD hS 1 0 2 0 rfl rfl rfl rfl (vp_in_iff.mpr (by decide)) d_K_init_62 (fun H locs hP hD hS => ?_)
                              obtain ⟨fq_120, hfq⟩ : ∃ z : Nat → Option Nat, z = (va_up fq_112 (13 : Int32).toNatClampNeg (some q_114)) := ⟨_, rfl⟩
                              have hP : va_P (dC, dI) vwCl [(k, .inr (2, [.ref q_1, .ref q_5, .ref q_7, .null, .int 0, .null, .int 0, .int 0, .int 0, .int 0, .long 0, .int (-1), .int 0, .int (-1)])), (q_7, .inl (k_8, 24, .inr (.inr (.inr (.inr (va_up fq_112 (13 : Int32).toNatClampNeg (some q_114))))))), (q_114, .inr (0, [.null, .int 0, .ref q_118, .ref q_119, .int 0]))] H := hP
                              have hD : va_D A [(k, .inr (2, [.ref q_1, .ref q_5, .ref q_7, .null, .int 0, .null, .int 0, .int 0, .int 0, .int 0, .long 0, .int (-1), .int 0, .int (-1)])), (q_7, .inl (k_8, 24, .inr (.inr (.inr (.inr (va_up fq_112 (13 : Int32).toNatClampNeg (some q_114))))))), (q_114, .inr (0, [.null, .int 0, .ref q_118, .ref q_119, .int 0]))] := hD
                              rw [← hfq] at hP hD
                              have hP : va_P (dC, dI) vwCl [(k, .inr (2, [.ref q_1, .ref q_5, .ref q_7, .null, .int 0, .null, .int 0, .int 0, .int 0, .int 0, .long 0, .int (-1), .int 0, .int (-1)])), (q_7, .inl (k_8, 24, .inr (.inr (.inr (.inr fq_120))))), (q_114, .inr (0, [.null, .int 0, .ref q_118, .ref q_119, .int 0]))] H := hP
                              have hD : va_D A [(k, .inr (2, [.ref q_1, .ref q_5, .ref q_7, .null, .int 0, .null, .int 0, .int 0, .int 0, .int 0, .long 0, .int (-1), .int 0, .int (-1)])), (q_7, .inl (k_8, 24, .inr (.inr (.inr (.inr fq_120))))), (q_114, .inr (0, [.null, .int 0, .ref q_118, .ref q_119, .int 0]))] := hD
                              refine lv_iinc (v := 14) (lv' := [(1, .int 14), (0, .ref k)]) hx hb d_K_init_63 hl (k := 0) rfl (by decide) (by decide) rfl (fun ls hl => ?_)
                              refine lv_goto (tgt := 44) hx hb d_K_init_66 (by decide) ?_
                              have hP := hP.sub (ws' := [(k, .inr (2, [.ref q_1, .ref q_5, .ref q_7, .null, .int 0, .null, .int 0, .int 0, .int 0, .int 0, .long 0, .int (-1), .int 0, .int (-1)])), (q_7, .inl (k_8, 24, .inr (.inr (.inr (.inr fq_120)))))]) [0, 1] rfl
                              have hD := hD.sub (ws' := [(k, .inr (2, [.ref q_1, .ref q_5, .ref q_7, .null, .int 0, .null, .int 0, .int 0, .int 0, .int 0, .long 0, .int (-1), .int 0, .int (-1)])), (q_7, .inl (k_8, 24, .inr (.inr (.inr (.inr fq_120)))))]) [0, 1] (by decide) rfl
                              have hK := hK.sub (tys' := [(k_8, .object "MapFramer$Call")]) [0] rfl
                              refine lv_iload_n hx hb d_K_init_44 rfl (lv_at hl 0 rfl) ?_
                              refine lv_bipush (v := 24) hx hb d_K_init_45 (by decide) ?_
                              refine lv_icmp_ge (tgt := 69) hx hb d_K_init_47 (by decide) (fun c_121 => ?_) (fun c_121 => ?_)
                              · skip
                                first | exact absurd c_121 (by decide) | exact absurd (by decide) c_121
                              · skip
                                refine lv_aload_n hx hb d_K_init_50 rfl (lv_at hl 1 rfl) ?_
                                refine va_get (D := (dC, dI)) (ci := 2) (v := .ref q_7) (C := R_K) (T := T_K) (N := 14) hx hb hts (fun w h => hsub w (uw_K w h)) hown hK hP 0 rfl rfl 2 (by decide) (hts _ (hsub _ w_237)) (fun _ h9 => h9) rfl d_K_init_51 ?_
                                refine lv_iload_n hx hb d_K_init_54 rfl (lv_at hl 0 rfl) ?_
                                refine va_new (ci := 0) (fs := [.null, .int 0, .null, .null, .int 0]) (C := R_C) (T := T_C) (N := 5) hx hb hts (fun w h => hsub w (uw_C w h)) ty_C tok_C hown (hts _ (hsub _ w_236)) (hts _ (hsub _ w_240)) (hts _ (hsub _ w_241)) hK hP hD hS hA rfl (fun j hj => df_C j hj) (Nat.le_of_ble_eq_true rfl) (Nat.le_of_ble_eq_true rfl) d_K_init_55 (fun q_122 H hP hD hS => ?_)
                                have hP : va_P (dC, dI) vwCl [(k, .inr (2, [.ref q_1, .ref q_5, .ref q_7, .null, .int 0, .null, .int 0, .int 0, .int 0, .int 0, .long 0, .int (-1), .int 0, .int (-1)])), (q_7, .inl (k_8, 24, .inr (.inr (.inr (.inr fq_120))))), (q_122, .inr (0, [.null, .int 0, .null, .null, .int 0]))] H := hP
                                have hD : va_D A [(k, .inr (2, [.ref q_1, .ref q_5, .ref q_7, .null, .int 0, .null, .int 0, .int 0, .int 0, .int 0, .long 0, .int (-1), .int 0, .int (-1)])), (q_7, .inl (k_8, 24, .inr (.inr (.inr (.inr fq_120))))), (q_122, .inr (0, [.null, .int 0, .null, .null, .int 0]))] := hD
                                refine W.widen (k := 49) (n := 4355) (Nat.le_of_ble_eq_true rfl) (Nat.le_of_ble_eq_true rfl) ?_
                                refine lv_dup hx hb d_K_init_58 rfl ?_
                                have hPc := hP.sub (ws' := [(q_122, .inr (0, [.null, .int 0, .null, .null, .int 0]))]) [2] rfl
                                have hKc := hK.sub (tys' := []) [] rfl
                                have hDc := hD.sub (ws' := [(q_122, .inr (0, [.null, .int 0, .null, .null, .int 0]))]) [2] (by decide) rfl
                                have hFc := va_free (wc := [(q_122, .inr (0, [.null, .int 0, .null, .null, .int 0]))]) hD hS hA [2] rfl
                                refine va_callv (va_runIN (As := []) (rest := [.ref q_122, .int 14, .ref q_7]) ⟨hx, hb, hml, hown, hts⟩ (k_C_init l dC dI q_122 H.size) ⟨va_cnB 0 hts (gC hsub w_242) rfl rfl rfl htb.2.1 (hts _ (hsub _ w_241)) (by decide +kernel) ⟨Nat.le_of_ble_eq_true rfl, Nat.le_of_ble_eq_true rfl⟩, rfl, (hts _ (hsub _ w_243))⟩ ⟨bl_1000, fun U hU hW => ⟨rfl, by rw [hU], by rw [hU]; exact hPc, va_K.moved hW.alike hKc, hDc.weaken (fun _ _ _ _ => trivial)⟩⟩ rfl rfl hl.1 rfl (lv_room (Nat.le_of_ble_eq_true rfl)) d_K_init_59 ⟨Nat.le_of_ble_eq_true rfl, Nat.le_of_ble_eq_true rfl⟩) hS (fun q _ h => hFc q h) hFc (fun u_125 t H1 locs ht hvm hw hB hz1 hk1 hS => ?_)
                                obtain ⟨q_126, q_127, hP1, hK1, hD1⟩ := hB
                                rw [ht] at hP1
                                have hK1 := va_K.moved hvm.symm hK1
                                obtain ⟨hP, hD⟩ := va_join (wr := [(k, .inr (2, [.ref q_1, .ref q_5, .ref q_7, .null, .int 0, .null, .int 0, .int 0, .int 0, .int 0, .long 0, .int (-1), .int 0, .int (-1)])), (q_7, .inl (k_8, 24, .inr (.inr (.inr (.inr fq_120)))))]) (w1 := [(q_122, .inr (0, [.null, .int 0, .ref q_126, .ref q_127, .int 0]))]) hP hD [2] [0, 1] rfl rfl (by decide) (by decide) hk1 hFc hP1 hD1
                                have hK := (hK.sub (tys' := [(k_8, .object "MapFramer$Call")]) [0] rfl).app hK1
                                generalize H1 = H at hP hS ⊢
                                have hP : va_P (dC, dI) vwCl [(k, .inr (2, [.ref q_1, .ref q_5, .ref q_7, .null, .int 0, .null, .int 0, .int 0, .int 0, .int 0, .long 0, .int (-1), .int 0, .int (-1)])), (q_7, .inl (k_8, 24, .inr (.inr (.inr (.inr fq_120))))), (q_122, .inr (0, [.null, .int 0, .ref q_126, .ref q_127, .int 0]))] H := hP
                                have hD : va_D A [(k, .inr (2, [.ref q_1, .ref q_5, .ref q_7, .null, .int 0, .null, .int 0, .int 0, .int 0, .int 0, .long 0, .int (-1), .int 0, .int (-1)])), (q_7, .inl (k_8, 24, .inr (.inr (.inr (.inr fq_120))))), (q_122, .inr (0, [.null, .int 0, .ref q_126, .ref q_127, .int 0]))] := hD
                                have hK : va_K (dC, dI) vwCl [(k_8, .object "MapFramer$Call")] s := hK
                                refine W.widen (k := 51) (n := 4379) (Nat.le_of_ble_eq_true rfl) (Nat.le_of_ble_eq_true rfl) ?_
                                refine va_astq (r := (R_C, T_C, 5)) hx hb hK hP hD hS 1 0 2 0 rfl rfl rfl rfl (vp_in_iff.mpr (by decide)) d_K_init_62 (fun H locs hP hD hS => ?_)
                                obtain ⟨fq_128, hfq⟩ : ∃ z : Nat → Option Nat, z = (va_up fq_120 (14 : Int32).toNatClampNeg (some q_122)) := ⟨_, rfl⟩
                                have hP : va_P (dC, dI) vwCl [(k, .inr (2, [.ref q_1, .ref q_5, .ref q_7, .null, .int 0, .null, .int 0, .int 0, .int 0, .int 0, .long 0, .int (-1), .int 0, .int (-1)])), (q_7, .inl (k_8, 24, .inr (.inr (.inr (.inr (va_up fq_120 (14 : Int32).toNatClampNeg (some q_122))))))), (q_122, .inr (0, [.null, .int 0, .ref q_126, .ref q_127, .int 0]))] H := hP
                                have hD : va_D A [(k, .inr (2, [.ref q_1, .ref q_5, .ref q_7, .null, .int 0, .null, .int 0, .int 0, .int 0, .int 0, .long 0, .int (-1), .int 0, .int (-1)])), (q_7, .inl (k_8, 24, .inr (.inr (.inr (.inr (va_up fq_120 (14 : Int32).toNatClampNeg (some q_122))))))), (q_122, .inr (0, [.null, .int 0, .ref q_126, .ref q_127, .int 0]))] := hD
                                rw [← hfq] at hP hD
                                have hP : va_P (dC, dI) vwCl [(k, .inr (2, [.ref q_1, .ref q_5, .ref q_7, .null, .int 0, .null, .int 0, .int 0, .int 0, .int 0, .long 0, .int (-1), .int 0, .int (-1)])), (q_7, .inl (k_8, 24, .inr (.inr (.inr (.inr fq_128))))), (q_122, .inr (0, [.null, .int 0, .ref q_126, .ref q_127, .int 0]))] H := hP
                                have hD : va_D A [(k, .inr (2, [.ref q_1, .ref q_5, .ref q_7, .null, .int 0, .null, .int 0, .int 0, .int 0, .int 0, .long 0, .int (-1), .int 0, .int (-1)])), (q_7, .inl (k_8, 24, .inr (.inr (.inr (.inr fq_128))))), (q_122, .inr (0, [.null, .int 0, .ref q_126, .ref q_127, .int 0]))] := hD
                                refine lv_iinc (v := 15) (lv' := [(1, .int 15), (0, .ref k)]) hx hb d_K_init_63 hl (k := 0) rfl (by decide) (by decide) rfl (fun ls hl => ?_)
                                refine lv_goto (tgt := 44) hx hb d_K_init_66 (by decide) ?_
                                have hP := hP.sub (ws' := [(k, .inr (2, [.ref q_1, .ref q_5, .ref q_7, .null, .int 0, .null, .int 0, .int 0, .int 0, .int 0, .long 0, .int (-1), .int 0, .int (-1)])), (q_7, .inl (k_8, 24, .inr (.inr (.inr (.inr fq_128)))))]) [0, 1] rfl
                                have hD := hD.sub (ws' := [(k, .inr (2, [.ref q_1, .ref q_5, .ref q_7, .null, .int 0, .null, .int 0, .int 0, .int 0, .int 0, .long 0, .int (-1), .int 0, .int (-1)])), (q_7, .inl (k_8, 24, .inr (.inr (.inr (.inr fq_128)))))]) [0, 1] (by decide) rfl
                                have hK := hK.sub (tys' := [(k_8, .object "MapFramer$Call")]) [0] rfl
                                refine lv_iload_n hx hb d_K_init_44 rfl (lv_at hl 0 rfl) ?_
                                refine lv_bipush (v := 24) hx hb d_K_init_45 (by decide) ?_
                                refine lv_icmp_ge (tgt := 69) hx hb d_K_init_47 (by decide) (fun c_129 => ?_) (fun c_129 => ?_)
                                · skip
                                  first | exact absurd c_129 (by decide) | exact absurd (by decide) c_129
                                · skip
                                  refine lv_aload_n hx hb d_K_init_50 rfl (lv_at hl 1 rfl) ?_
                                  refine va_get (D := (dC, dI)) (ci := 2) (v := .ref q_7) (C := R_K) (T := T_K) (N := 14) hx hb hts (fun w h => hsub w (uw_K w h)) hown hK hP 0 rfl rfl 2 (by decide) (hts _ (hsub _ w_237)) (fun _ h9 => h9) rfl d_K_init_51 ?_
                                  refine lv_iload_n hx hb d_K_init_54 rfl (lv_at hl 0 rfl) ?_
                                  refine va_new (ci := 0) (fs := [.null, .int 0, .null, .null, .int 0]) (C := R_C) (T := T_C) (N := 5) hx hb hts (fun w h => hsub w (uw_C w h)) ty_C tok_C hown (hts _ (hsub _ w_236)) (hts _ (hsub _ w_240)) (hts _ (hsub _ w_241)) hK hP hD hS hA rfl (fun j hj => df_C j hj) (Nat.le_of_ble_eq_true rfl) (Nat.le_of_ble_eq_true rfl) d_K_init_55 (fun q_130 H hP hD hS => ?_)
                                  have hP : va_P (dC, dI) vwCl [(k, .inr (2, [.ref q_1, .ref q_5, .ref q_7, .null, .int 0, .null, .int 0, .int 0, .int 0, .int 0, .long 0, .int (-1), .int 0, .int (-1)])), (q_7, .inl (k_8, 24, .inr (.inr (.inr (.inr fq_128))))), (q_130, .inr (0, [.null, .int 0, .null, .null, .int 0]))] H := hP
                                  have hD : va_D A [(k, .inr (2, [.ref q_1, .ref q_5, .ref q_7, .null, .int 0, .null, .int 0, .int 0, .int 0, .int 0, .long 0, .int (-1), .int 0, .int (-1)])), (q_7, .inl (k_8, 24, .inr (.inr (.inr (.inr fq_128))))), (q_130, .inr (0, [.null, .int 0, .null, .null, .int 0]))] := hD
                                  refine W.widen (k := 52) (n := 4384) (Nat.le_of_ble_eq_true rfl) (Nat.le_of_ble_eq_true rfl) ?_
                                  refine lv_dup hx hb d_K_init_58 rfl ?_
                                  have hPc := hP.sub (ws' := [(q_130, .inr (0, [.null, .int 0, .null, .null, .int 0]))]) [2] rfl
                                  have hKc := hK.sub (tys' := []) [] rfl
                                  have hDc := hD.sub (ws' := [(q_130, .inr (0, [.null, .int 0, .null, .null, .int 0]))]) [2] (by decide) rfl
                                  have hFc := va_free (wc := [(q_130, .inr (0, [.null, .int 0, .null, .null, .int 0]))]) hD hS hA [2] rfl
                                  refine va_callv (va_runIN (As := []) (rest := [.ref q_130, .int 15, .ref q_7]) ⟨hx, hb, hml, hown, hts⟩ (k_C_init l dC dI q_130 H.size) ⟨va_cnB 0 hts (gC hsub w_242) rfl rfl rfl htb.2.1 (hts _ (hsub _ w_241)) (by decide +kernel) ⟨Nat.le_of_ble_eq_true rfl, Nat.le_of_ble_eq_true rfl⟩, rfl, (hts _ (hsub _ w_243))⟩ ⟨bl_1000, fun U hU hW => ⟨rfl, by rw [hU], by rw [hU]; exact hPc, va_K.moved hW.alike hKc, hDc.weaken (fun _ _ _ _ => trivial)⟩⟩ rfl rfl hl.1 rfl (lv_room (Nat.le_of_ble_eq_true rfl)) d_K_init_59 ⟨Nat.le_of_ble_eq_true rfl, Nat.le_of_ble_eq_true rfl⟩) hS (fun q _ h => hFc q h) hFc (fun u_133 t H1 locs ht hvm hw hB hz1 hk1 hS => ?_)
                                  obtain ⟨q_134, q_135, hP1, hK1, hD1⟩ := hB
                                  rw [ht] at hP1
                                  have hK1 := va_K.moved hvm.symm hK1
                                  obtain ⟨hP, hD⟩ := va_join (wr := [(k, .inr (2, [.ref q_1, .ref q_5, .ref q_7, .null, .int 0, .null, .int 0, .int 0, .int 0, .int 0, .long 0, .int (-1), .int 0, .int (-1)])), (q_7, .inl (k_8, 24, .inr (.inr (.inr (.inr fq_128)))))]) (w1 := [(q_130, .inr (0, [.null, .int 0, .ref q_134, .ref q_135, .int 0]))]) hP hD [2] [0, 1] rfl rfl (by decide) (by decide) hk1 hFc hP1 hD1
                                  have hK := (hK.sub (tys' := [(k_8, .object "MapFramer$Call")]) [0] rfl).app hK1
                                  generalize H1 = H at hP hS ⊢
                                  have hP : va_P (dC, dI) vwCl [(k, .inr (2, [.ref q_1, .ref q_5, .ref q_7, .null, .int 0, .null, .int 0, .int 0, .int 0, .int 0, .long 0, .int (-1), .int 0, .int (-1)])), (q_7, .inl (k_8, 24, .inr (.inr (.inr (.inr fq_128))))), (q_130, .inr (0, [.null, .int 0, .ref q_134, .ref q_135, .int 0]))] H := hP
                                  have hD : va_D A [(k, .inr (2, [.ref q_1, .ref q_5, .ref q_7, .null, .int 0, .null, .int 0, .int 0, .int 0, .int 0, .long 0, .int (-1), .int 0, .int (-1)])), (q_7, .inl (k_8, 24, .inr (.inr (.inr (.inr fq_128))))), (q_130, .inr (0, [.null, .int 0, .ref q_134, .ref q_135, .int 0]))] := hD
                                  have hK : va_K (dC, dI) vwCl [(k_8, .object "MapFramer$Call")] s := hK
                                  refine W.widen (k := 54) (n := 4408) (Nat.le_of_ble_eq_true rfl) (Nat.le_of_ble_eq_true rfl) ?_
                                  refine va_astq (r := (R_C, T_C, 5)) hx hb hK hP hD hS 1 0 2 0 rfl rfl rfl rfl (vp_in_iff.mpr (by decide)) d_K_init_62 (fun H locs hP hD hS => ?_)
                                  obtain ⟨fq_136, hfq⟩ : ∃ z : Nat → Option Nat, z = (va_up fq_128 (15 : Int32).toNatClampNeg (some q_130)) := ⟨_, rfl⟩
                                  have hP : va_P (dC, dI) vwCl [(k, .inr (2, [.ref q_1, .ref q_5, .ref q_7, .null, .int 0, .null, .int 0, .int 0, .int 0, .int 0, .long 0, .int (-1), .int 0, .int (-1)])), (q_7, .inl (k_8, 24, .inr (.inr (.inr (.inr (va_up fq_128 (15 : Int32).toNatClampNeg (some q_130))))))), (q_130, .inr (0, [.null, .int 0, .ref q_134, .ref q_135, .int 0]))] H := hP
                                  have hD : va_D A [(k, .inr (2, [.ref q_1, .ref q_5, .ref q_7, .null, .int 0, .null, .int 0, .int 0, .int 0, .int 0, .long 0, .int (-1), .int 0, .int (-1)])), (q_7, .inl (k_8, 24, .inr (.inr (.inr (.inr (va_up fq_128 (15 : Int32).toNatClampNeg (some q_130))))))), (q_130, .inr (0, [.null, .int 0, .ref q_134, .ref q_135, .int 0]))] := hD
                                  rw [← hfq] at hP hD
                                  have hP : va_P (dC, dI) vwCl [(k, .inr (2, [.ref q_1, .ref q_5, .ref q_7, .null, .int 0, .null, .int 0, .int 0, .int 0, .int 0, .long 0, .int (-1), .int 0, .int (-1)])), (q_7, .inl (k_8, 24, .inr (.inr (.inr (.inr fq_136))))), (q_130, .inr (0, [.null, .int 0, .ref q_134, .ref q_135, .int 0]))] H := hP
                                  have hD : va_D A [(k, .inr (2, [.ref q_1, .ref q_5, .ref q_7, .null, .int 0, .null, .int 0, .int 0, .int 0, .int 0, .long 0, .int (-1), .int 0, .int (-1)])), (q_7, .inl (k_8, 24, .inr (.inr (.inr (.inr fq_136))))), (q_130, .inr (0, [.null, .int 0, .ref q_134, .ref q_135, .int 0]))] := hD
                                  refine lv_iinc (v := 16) (lv' := [(1, .int 16), (0, .ref k)]) hx hb d_K_init_63 hl (k := 0) rfl (by decide) (by decide) rfl (fun ls hl => ?_)
                                  refine lv_goto (tgt := 44) hx hb d_K_init_66 (by decide) ?_
                                  have hP := hP.sub (ws' := [(k, .inr (2, [.ref q_1, .ref q_5, .ref q_7, .null, .int 0, .null, .int 0, .int 0, .int 0, .int 0, .long 0, .int (-1), .int 0, .int (-1)])), (q_7, .inl (k_8, 24, .inr (.inr (.inr (.inr fq_136)))))]) [0, 1] rfl
                                  have hD := hD.sub (ws' := [(k, .inr (2, [.ref q_1, .ref q_5, .ref q_7, .null, .int 0, .null, .int 0, .int 0, .int 0, .int 0, .long 0, .int (-1), .int 0, .int (-1)])), (q_7, .inl (k_8, 24, .inr (.inr (.inr (.inr fq_136)))))]) [0, 1] (by decide) rfl
                                  have hK := hK.sub (tys' := [(k_8, .object "MapFramer$Call")]) [0] rfl
                                  refine lv_iload_n hx hb d_K_init_44 rfl (lv_at hl 0 rfl) ?_
                                  refine lv_bipush (v := 24) hx hb d_K_init_45 (by decide) ?_
                                  refine lv_icmp_ge (tgt := 69) hx hb d_K_init_47 (by decide) (fun c_137 => ?_) (fun c_137 => ?_)
                                  · skip
                                    first | exact absurd c_137 (by decide) | exact absurd (by decide) c_137
                                  · skip
                                    refine lv_aload_n hx hb d_K_init_50 rfl (lv_at hl 1 rfl) ?_
                                    refine va_get (D := (dC, dI)) (ci := 2) (v := .ref q_7) (C := R_K) (T := T_K) (N := 14) hx hb hts (fun w h => hsub w (uw_K w h)) hown hK hP 0 rfl rfl 2 (by decide) (hts _ (hsub _ w_237)) (fun _ h9 => h9) rfl d_K_init_51 ?_
                                    refine lv_iload_n hx hb d_K_init_54 rfl (lv_at hl 0 rfl) ?_
                                    refine va_new (ci := 0) (fs := [.null, .int 0, .null, .null, .int 0]) (C := R_C) (T := T_C) (N := 5) hx hb hts (fun w h => hsub w (uw_C w h)) ty_C tok_C hown (hts _ (hsub _ w_236)) (hts _ (hsub _ w_240)) (hts _ (hsub _ w_241)) hK hP hD hS hA rfl (fun j hj => df_C j hj) (Nat.le_of_ble_eq_true rfl) (Nat.le_of_ble_eq_true rfl) d_K_init_55 (fun q_138 H hP hD hS => ?_)
                                    have hP : va_P (dC, dI) vwCl [(k, .inr (2, [.ref q_1, .ref q_5, .ref q_7, .null, .int 0, .null, .int 0, .int 0, .int 0, .int 0, .long 0, .int (-1), .int 0, .int (-1)])), (q_7, .inl (k_8, 24, .inr (.inr (.inr (.inr fq_136))))), (q_138, .inr (0, [.null, .int 0, .null, .null, .int 0]))] H := hP
                                    have hD : va_D A [(k, .inr (2, [.ref q_1, .ref q_5, .ref q_7, .null, .int 0, .null, .int 0, .int 0, .int 0, .int 0, .long 0, .int (-1), .int 0, .int (-1)])), (q_7, .inl (k_8, 24, .inr (.inr (.inr (.inr fq_136))))), (q_138, .inr (0, [.null, .int 0, .null, .null, .int 0]))] := hD
                                    refine W.widen (k := 55) (n := 4413) (Nat.le_of_ble_eq_true rfl) (Nat.le_of_ble_eq_true rfl) ?_
                                    refine lv_dup hx hb d_K_init_58 rfl ?_
                                    have hPc := hP.sub (ws' := [(q_138, .inr (0, [.null, .int 0, .null, .null, .int 0]))]) [2] rfl
                                    have hKc := hK.sub (tys' := []) [] rfl
                                    have hDc := hD.sub (ws' := [(q_138, .inr (0, [.null, .int 0, .null, .null, .int 0]))]) [2] (by decide) rfl
                                    have hFc := va_free (wc := [(q_138, .inr (0, [.null, .int 0, .null, .null, .int 0]))]) hD hS hA [2] rfl
                                    refine va_callv (va_runIN (As := []) (rest := [.ref q_138, .int 16, .ref q_7]) ⟨hx, hb, hml, hown, hts⟩ (k_C_init l dC dI q_138 H.size) ⟨va_cnB 0 hts (gC hsub w_242) rfl rfl rfl htb.2.1 (hts _ (hsub _ w_241)) (by decide +kernel) ⟨Nat.le_of_ble_eq_true rfl, Nat.le_of_ble_eq_true rfl⟩, rfl, (hts _ (hsub _ w_243))⟩ ⟨bl_1000, fun U hU hW => ⟨rfl, by rw [hU], by rw [hU]; exact hPc, va_K.moved hW.alike hKc, hDc.weaken (fun _ _ _ _ => trivial)⟩⟩ rfl rfl hl.1 rfl (lv_room (Nat.le_of_ble_eq_true rfl)) d_K_init_59 ⟨Nat.le_of_ble_eq_true rfl, Nat.le_of_ble_eq_true rfl⟩) hS (fun q _ h => hFc q h) hFc (fun u_141 t H1 locs ht hvm hw hB hz1 hk1 hS => ?_)
                                    obtain ⟨q_142, q_143, hP1, hK1, hD1⟩ := hB
                                    rw [ht] at hP1
                                    have hK1 := va_K.moved hvm.symm hK1
                                    obtain ⟨hP, hD⟩ := va_join (wr := [(k, .inr (2, [.ref q_1, .ref q_5, .ref q_7, .null, .int 0, .null, .int 0, .int 0, .int 0, .int 0, .long 0, .int (-1), .int 0, .int (-1)])), (q_7, .inl (k_8, 24, .inr (.inr (.inr (.inr fq_136)))))]) (w1 := [(q_138, .inr (0, [.null, .int 0, .ref q_142, .ref q_143, .int 0]))]) hP hD [2] [0, 1] rfl rfl (by decide) (by decide) hk1 hFc hP1 hD1
                                    have hK := (hK.sub (tys' := [(k_8, .object "MapFramer$Call")]) [0] rfl).app hK1
                                    generalize H1 = H at hP hS ⊢
                                    have hP : va_P (dC, dI) vwCl [(k, .inr (2, [.ref q_1, .ref q_5, .ref q_7, .null, .int 0, .null, .int 0, .int 0, .int 0, .int 0, .long 0, .int (-1), .int 0, .int (-1)])), (q_7, .inl (k_8, 24, .inr (.inr (.inr (.inr fq_136))))), (q_138, .inr (0, [.null, .int 0, .ref q_142, .ref q_143, .int 0]))] H := hP
                                    have hD : va_D A [(k, .inr (2, [.ref q_1, .ref q_5, .ref q_7, .null, .int 0, .null, .int 0, .int 0, .int 0, .int 0, .long 0, .int (-1), .int 0, .int (-1)])), (q_7, .inl (k_8, 24, .inr (.inr (.inr (.inr fq_136))))), (q_138, .inr (0, [.null, .int 0, .ref q_142, .ref q_143, .int 0]))] := hD
                                    have hK : va_K (dC, dI) vwCl [(k_8, .object "MapFramer$Call")] s := hK
                                    refine W.widen (k := 57) (n := 4437) (Nat.le_of_ble_eq_true rfl) (Nat.le_of_ble_eq_true rfl) ?_
                                    refine va_astq (r := (R_C, T_C, 5)) hx hb hK hP hD hS 1 0 2 0 rfl rfl rfl rfl (vp_in_iff.mpr (by decide)) d_K_init_62 (fun H locs hP hD hS => ?_)
                                    obtain ⟨fq_144, hfq⟩ : ∃ z : Nat → Option Nat, z = (va_up fq_136 (16 : Int32).toNatClampNeg (some q_138)) := ⟨_, rfl⟩
                                    have hP : va_P (dC, dI) vwCl [(k, .inr (2, [.ref q_1, .ref q_5, .ref q_7, .null, .int 0, .null, .int 0, .int 0, .int 0, .int 0, .long 0, .int (-1), .int 0, .int (-1)])), (q_7, .inl (k_8, 24, .inr (.inr (.inr (.inr (va_up fq_136 (16 : Int32).toNatClampNeg (some q_138))))))), (q_138, .inr (0, [.null, .int 0, .ref q_142, .ref q_143, .int 0]))] H := hP
                                    have hD : va_D A [(k, .inr (2, [.ref q_1, .ref q_5, .ref q_7, .null, .int 0, .null, .int 0, .int 0, .int 0, .int 0, .long 0, .int (-1), .int 0, .int (-1)])), (q_7, .inl (k_8, 24, .inr (.inr (.inr (.inr (va_up fq_136 (16 : Int32).toNatClampNeg (some q_138))))))), (q_138, .inr (0, [.null, .int 0, .ref q_142, .ref q_143, .int 0]))] := hD
                                    rw [← hfq] at hP hD
                                    have hP : va_P (dC, dI) vwCl [(k, .inr (2, [.ref q_1, .ref q_5, .ref q_7, .null, .int 0, .null, .int 0, .int 0, .int 0, .int 0, .long 0, .int (-1), .int 0, .int (-1)])), (q_7, .inl (k_8, 24, .inr (.inr (.inr (.inr fq_144))))), (q_138, .inr (0, [.null, .int 0, .ref q_142, .ref q_143, .int 0]))] H := hP
                                    have hD : va_D A [(k, .inr (2, [.ref q_1, .ref q_5, .ref q_7, .null, .int 0, .null, .int 0, .int 0, .int 0, .int 0, .long 0, .int (-1), .int 0, .int (-1)])), (q_7, .inl (k_8, 24, .inr (.inr (.inr (.inr fq_144))))), (q_138, .inr (0, [.null, .int 0, .ref q_142, .ref q_143, .int 0]))] := hD
                                    refine lv_iinc (v := 17) (lv' := [(1, .int 17), (0, .ref k)]) hx hb d_K_init_63 hl (k := 0) rfl (by decide) (by decide) rfl (fun ls hl => ?_)
                                    refine lv_goto (tgt := 44) hx hb d_K_init_66 (by decide) ?_
                                    have hP := hP.sub (ws' := [(k, .inr (2, [.ref q_1, .ref q_5, .ref q_7, .null, .int 0, .null, .int 0, .int 0, .int 0, .int 0, .long 0, .int (-1), .int 0, .int (-1)])), (q_7, .inl (k_8, 24, .inr (.inr (.inr (.inr fq_144)))))]) [0, 1] rfl
                                    have hD := hD.sub (ws' := [(k, .inr (2, [.ref q_1, .ref q_5, .ref q_7, .null, .int 0, .null, .int 0, .int 0, .int 0, .int 0, .long 0, .int (-1), .int 0, .int (-1)])), (q_7, .inl (k_8, 24, .inr (.inr (.inr (.inr fq_144)))))]) [0, 1] (by decide) rfl
                                    have hK := hK.sub (tys' := [(k_8, .object "MapFramer$Call")]) [0] rfl
                                    refine lv_iload_n hx hb d_K_init_44 rfl (lv_at hl 0 rfl) ?_
                                    refine lv_bipush (v := 24) hx hb d_K_init_45 (by decide) ?_
                                    refine lv_icmp_ge (tgt := 69) hx hb d_K_init_47 (by decide) (fun c_145 => ?_) (fun c_145 => ?_)
                                    · skip
                                      first | exact absurd c_145 (by decide) | exact absurd (by decide) c_145
                                    · skip
                                      refine lv_aload_n hx hb d_K_init_50 rfl (lv_at hl 1 rfl) ?_
                                      refine va_get (D := (dC, dI)) (ci := 2) (v := .ref q_7) (C := R_K) (T := T_K) (N := 14) hx hb hts (fun w h => hsub w (uw_K w h)) hown hK hP 0 rfl rfl 2 (by decide) (hts _ (hsub _ w_237)) (fun _ h9 => h9) rfl d_K_init_51 ?_
                                      refine lv_iload_n hx hb d_K_init_54 rfl (lv_at hl 0 rfl) ?_
                                      refine va_new (ci := 0) (fs := [.null, .int 0, .null, .null, .int 0]) (C := R_C) (T := T_C) (N := 5) hx hb hts (fun w h => hsub w (uw_C w h)) ty_C tok_C hown (hts _ (hsub _ w_236)) (hts _ (hsub _ w_240)) (hts _ (hsub _ w_241)) hK hP hD hS hA rfl (fun j hj => df_C j hj) (Nat.le_of_ble_eq_true rfl) (Nat.le_of_ble_eq_true rfl) d_K_init_55 (fun q_146 H hP hD hS => ?_)
                                      have hP : va_P (dC, dI) vwCl [(k, .inr (2, [.ref q_1, .ref q_5, .ref q_7, .null, .int 0, .null, .int 0, .int 0, .int 0, .int 0, .long 0, .int (-1), .int 0, .int (-1)])), (q_7, .inl (k_8, 24, .inr (.inr (.inr (.inr fq_144))))), (q_146, .inr (0, [.null, .int 0, .null, .null, .int 0]))] H := hP
                                      have hD : va_D A [(k, .inr (2, [.ref q_1, .ref q_5, .ref q_7, .null, .int 0, .null, .int 0, .int 0, .int 0, .int 0, .long 0, .int (-1), .int 0, .int (-1)])), (q_7, .inl (k_8, 24, .inr (.inr (.inr (.inr fq_144))))), (q_146, .inr (0, [.null, .int 0, .null, .null, .int 0]))] := hD
                                      refine W.widen (k := 58) (n := 4442) (Nat.le_of_ble_eq_true rfl) (Nat.le_of_ble_eq_true rfl) ?_
                                      refine lv_dup hx hb d_K_init_58 rfl ?_
                                      have hPc := hP.sub (ws' := [(q_146, .inr (0, [.null, .int 0, .null, .null, .int 0]))]) [2] rfl
                                      have hKc := hK.sub (tys' := []) [] rfl
                                      have hDc := hD.sub (ws' := [(q_146, .inr (0, [.null, .int 0, .null, .null, .int 0]))]) [2] (by decide) rfl
                                      have hFc := va_free (wc := [(q_146, .inr (0, [.null, .int 0, .null, .null, .int 0]))]) hD hS hA [2] rfl
                                      refine va_callv (va_runIN (As := []) (rest := [.ref q_146, .int 17, .ref q_7]) ⟨hx, hb, hml, hown, hts⟩ (k_C_init l dC dI q_146 H.size) ⟨va_cnB 0 hts (gC hsub w_242) rfl rfl rfl htb.2.1 (hts _ (hsub _ w_241)) (by decide +kernel) ⟨Nat.le_of_ble_eq_true rfl, Nat.le_of_ble_eq_true rfl⟩, rfl, (hts _ (hsub _ w_243))⟩ ⟨bl_1000, fun U hU hW => ⟨rfl, by rw [hU], by rw [hU]; exact hPc, va_K.moved hW.alike hKc, hDc.weaken (fun _ _ _ _ => trivial)⟩⟩ rfl rfl hl.1 rfl (lv_room (Nat.le_of_ble_eq_true rfl)) d_K_init_59 ⟨Nat.le_of_ble_eq_true rfl, Nat.le_of_ble_eq_true rfl⟩) hS (fun q _ h => hFc q h) hFc (fun u_149 t H1 locs ht hvm hw hB hz1 hk1 hS => ?_)
                                      obtain ⟨q_150, q_151, hP1, hK1, hD1⟩ := hB
                                      rw [ht] at hP1
                                      have hK1 := va_K.moved hvm.symm hK1
                                      obtain ⟨hP, hD⟩ := va_join (wr := [(k, .inr (2, [.ref q_1, .ref q_5, .ref q_7, .null, .int 0, .null, .int 0, .int 0, .int 0, .int 0, .long 0, .int (-1), .int 0, .int (-1)])), (q_7, .inl (k_8, 24, .inr (.inr (.inr (.inr fq_144)))))]) (w1 := [(q_146, .inr (0, [.null, .int 0, .ref q_150, .ref q_151, .int 0]))]) hP hD [2] [0, 1] rfl rfl (by decide) (by decide) hk1 hFc hP1 hD1
                                      have hK := (hK.sub (tys' := [(k_8, .object "MapFramer$Call")]) [0] rfl).app hK1
                                      generalize H1 = H at hP hS ⊢
                                      have hP : va_P (dC, dI) vwCl [(k, .inr (2, [.ref q_1, .ref q_5, .ref q_7, .null, .int 0, .null, .int 0, .int 0, .int 0, .int 0, .long 0, .int (-1), .int 0, .int (-1)])), (q_7, .inl (k_8, 24, .inr (.inr (.inr (.inr fq_144))))), (q_146, .inr (0, [.null, .int 0, .ref q_150, .ref q_151, .int 0]))] H := hP
                                      have hD : va_D A [(k, .inr (2, [.ref q_1, .ref q_5, .ref q_7, .null, .int 0, .null, .int 0, .int 0, .int 0, .int 0, .long 0, .int (-1), .int 0, .int (-1)])), (q_7, .inl (k_8, 24, .inr (.inr (.inr (.inr fq_144))))), (q_146, .inr (0, [.null, .int 0, .ref q_150, .ref q_151, .int 0]))] := hD
                                      have hK : va_K (dC, dI) vwCl [(k_8, .object "MapFramer$Call")] s := hK
                                      refine W.widen (k := 60) (n := 4466) (Nat.le_of_ble_eq_true rfl) (Nat.le_of_ble_eq_true rfl) ?_
                                      refine va_astq (r := (R_C, T_C, 5)) hx hb hK hP hD hS 1 0 2 0 rfl rfl rfl rfl (vp_in_iff.mpr (by decide)) d_K_init_62 (fun H locs hP hD hS => ?_)
                                      obtain ⟨fq_152, hfq⟩ : ∃ z : Nat → Option Nat, z = (va_up fq_144 (17 : Int32).toNatClampNeg (some q_146)) := ⟨_, rfl⟩
                                      have hP : va_P (dC, dI) vwCl [(k, .inr (2, [.ref q_1, .ref q_5, .ref q_7, .null, .int 0, .null, .int 0, .int 0, .int 0, .int 0, .long 0, .int (-1), .int 0, .int (-1)])), (q_7, .inl (k_8, 24, .inr (.inr (.inr (.inr (va_up fq_144 (17 : Int32).toNatClampNeg (some q_146))))))), (q_146, .inr (0, [.null, .int 0, .ref q_150, .ref q_151, .int 0]))] H := hP
                                      have hD : va_D A [(k, .inr (2, [.ref q_1, .ref q_5, .ref q_7, .null, .int 0, .null, .int 0, .int 0, .int 0, .int 0, .long 0, .int (-1), .int 0, .int (-1)])), (q_7, .inl (k_8, 24, .inr (.inr (.inr (.inr (va_up fq_144 (17 : Int32).toNatClampNeg (some q_146))))))), (q_146, .inr (0, [.null, .int 0, .ref q_150, .ref q_151, .int 0]))] := hD
                                      rw [← hfq] at hP hD
                                      have hP : va_P (dC, dI) vwCl [(k, .inr (2, [.ref q_1, .ref q_5, .ref q_7, .null, .int 0, .null, .int 0, .int 0, .int 0, .int 0, .long 0, .int (-1), .int 0, .int (-1)])), (q_7, .inl (k_8, 24, .inr (.inr (.inr (.inr fq_152))))), (q_146, .inr (0, [.null, .int 0, .ref q_150, .ref q_151, .int 0]))] H := hP
                                      have hD : va_D A [(k, .inr (2, [.ref q_1, .ref q_5, .ref q_7, .null, .int 0, .null, .int 0, .int 0, .int 0, .int 0, .long 0, .int (-1), .int 0, .int (-1)])), (q_7, .inl (k_8, 24, .inr (.inr (.inr (.inr fq_152))))), (q_146, .inr (0, [.null, .int 0, .ref q_150, .ref q_151, .int 0]))] := hD
                                      refine lv_iinc (v := 18) (lv' := [(1, .int 18), (0, .ref k)]) hx hb d_K_init_63 hl (k := 0) rfl (by decide) (by decide) rfl (fun ls hl => ?_)
                                      refine lv_goto (tgt := 44) hx hb d_K_init_66 (by decide) ?_
                                      have hP := hP.sub (ws' := [(k, .inr (2, [.ref q_1, .ref q_5, .ref q_7, .null, .int 0, .null, .int 0, .int 0, .int 0, .int 0, .long 0, .int (-1), .int 0, .int (-1)])), (q_7, .inl (k_8, 24, .inr (.inr (.inr (.inr fq_152)))))]) [0, 1] rfl
                                      have hD := hD.sub (ws' := [(k, .inr (2, [.ref q_1, .ref q_5, .ref q_7, .null, .int 0, .null, .int 0, .int 0, .int 0, .int 0, .long 0, .int (-1), .int 0, .int (-1)])), (q_7, .inl (k_8, 24, .inr (.inr (.inr (.inr fq_152)))))]) [0, 1] (by decide) rfl
                                      have hK := hK.sub (tys' := [(k_8, .object "MapFramer$Call")]) [0] rfl
                                      refine lv_iload_n hx hb d_K_init_44 rfl (lv_at hl 0 rfl) ?_
                                      refine lv_bipush (v := 24) hx hb d_K_init_45 (by decide) ?_
                                      refine lv_icmp_ge (tgt := 69) hx hb d_K_init_47 (by decide) (fun c_153 => ?_) (fun c_153 => ?_)
                                      · skip
                                        first | exact absurd c_153 (by decide) | exact absurd (by decide) c_153
                                      · skip
                                        refine lv_aload_n hx hb d_K_init_50 rfl (lv_at hl 1 rfl) ?_
                                        refine va_get (D := (dC, dI)) (ci := 2) (v := .ref q_7) (C := R_K) (T := T_K) (N := 14) hx hb hts (fun w h => hsub w (uw_K w h)) hown hK hP 0 rfl rfl 2 (by decide) (hts _ (hsub _ w_237)) (fun _ h9 => h9) rfl d_K_init_51 ?_
                                        refine lv_iload_n hx hb d_K_init_54 rfl (lv_at hl 0 rfl) ?_
                                        refine va_new (ci := 0) (fs := [.null, .int 0, .null, .null, .int 0]) (C := R_C) (T := T_C) (N := 5) hx hb hts (fun w h => hsub w (uw_C w h)) ty_C tok_C hown (hts _ (hsub _ w_236)) (hts _ (hsub _ w_240)) (hts _ (hsub _ w_241)) hK hP hD hS hA rfl (fun j hj => df_C j hj) (Nat.le_of_ble_eq_true rfl) (Nat.le_of_ble_eq_true rfl) d_K_init_55 (fun q_154 H hP hD hS => ?_)
                                        have hP : va_P (dC, dI) vwCl [(k, .inr (2, [.ref q_1, .ref q_5, .ref q_7, .null, .int 0, .null, .int 0, .int 0, .int 0, .int 0, .long 0, .int (-1), .int 0, .int (-1)])), (q_7, .inl (k_8, 24, .inr (.inr (.inr (.inr fq_152))))), (q_154, .inr (0, [.null, .int 0, .null, .null, .int 0]))] H := hP
                                        have hD : va_D A [(k, .inr (2, [.ref q_1, .ref q_5, .ref q_7, .null, .int 0, .null, .int 0, .int 0, .int 0, .int 0, .long 0, .int (-1), .int 0, .int (-1)])), (q_7, .inl (k_8, 24, .inr (.inr (.inr (.inr fq_152))))), (q_154, .inr (0, [.null, .int 0, .null, .null, .int 0]))] := hD
                                        refine W.widen (k := 61) (n := 4471) (Nat.le_of_ble_eq_true rfl) (Nat.le_of_ble_eq_true rfl) ?_
                                        refine lv_dup hx hb d_K_init_58 rfl ?_
                                        have hPc := hP.sub (ws' := [(q_154, .inr (0, [.null, .int 0, .null, .null, .int 0]))]) [2] rfl
                                        have hKc := hK.sub (tys' := []) [] rfl
                                        have hDc := hD.sub (ws' := [(q_154, .inr (0, [.null, .int 0, .null, .null, .int 0]))]) [2] (by decide) rfl
                                        have hFc := va_free (wc := [(q_154, .inr (0, [.null, .int 0, .null, .null, .int 0]))]) hD hS hA [2] rfl
                                        refine va_callv (va_runIN (As := []) (rest := [.ref q_154, .int 18, .ref q_7]) ⟨hx, hb, hml, hown, hts⟩ (k_C_init l dC dI q_154 H.size) ⟨va_cnB 0 hts (gC hsub w_242) rfl rfl rfl htb.2.1 (hts _ (hsub _ w_241)) (by decide +kernel) ⟨Nat.le_of_ble_eq_true rfl, Nat.le_of_ble_eq_true rfl⟩, rfl, (hts _ (hsub _ w_243))⟩ ⟨bl_1000, fun U hU hW => ⟨rfl, by rw [hU], by rw [hU]; exact hPc, va_K.moved hW.alike hKc, hDc.weaken (fun _ _ _ _ => trivial)⟩⟩ rfl rfl hl.1 rfl (lv_room (Nat.le_of_ble_eq_true rfl)) d_K_init_59 ⟨Nat.le_of_ble_eq_true rfl, Nat.le_of_ble_eq_true rfl⟩) hS (fun q _ h => hFc q h) hFc (fun u_157 t H1 locs ht hvm hw hB hz1 hk1 hS => ?_)
                                        obtain ⟨q_158, q_159, hP1, hK1, hD1⟩ := hB
                                        rw [ht] at hP1
                                        have hK1 := va_K.moved hvm.symm hK1
                                        obtain ⟨hP, hD⟩ := va_join (wr := [(k, .inr (2, [.ref q_1, .ref q_5, .ref q_7, .null, .int 0, .null, .int 0, .int 0, .int 0, .int 0, .long 0, .int (-1), .int 0, .int (-1)])), (q_7, .inl (k_8, 24, .inr (.inr (.inr (.inr fq_152)))))]) (w1 := [(q_154, .inr (0, [.null, .int 0, .ref q_158, .ref q_159, .int 0]))]) hP hD [2] [0, 1] rfl rfl (by decide) (by decide) hk1 hFc hP1 hD1
                                        have hK := (hK.sub (tys' := [(k_8, .object "MapFramer$Call")]) [0] rfl).app hK1
                                        generalize H1 = H at hP hS ⊢
                                        have hP : va_P (dC, dI) vwCl [(k, .inr (2, [.ref q_1, .ref q_5, .ref q_7, .null, .int 0, .null, .int 0, .int 0, .int 0, .int 0, .long 0, .int (-1), .int 0, .int (-1)])), (q_7, .inl (k_8, 24, .inr (.inr (.inr (.inr fq_152))))), (q_154, .inr (0, [.null, .int 0, .ref q_158, .ref q_159, .int 0]))] H := hP
                                        have hD : va_D A [(k, .inr (2, [.ref q_1, .ref q_5, .ref q_7, .null, .int 0, .null, .int 0, .int 0, .int 0, .int 0, .long 0, .int (-1), .int 0, .int (-1)])), (q_7, .inl (k_8, 24, .inr (.inr (.inr (.inr fq_152))))), (q_154, .inr (0, [.null, .int 0, .ref q_158, .ref q_159, .int 0]))] := hD
                                        have hK : va_K (dC, dI) vwCl [(k_8, .object "MapFramer$Call")] s := hK
                                        refine W.widen (k := 63) (n := 4495) (Nat.le_of_ble_eq_true rfl) (Nat.le_of_ble_eq_true rfl) ?_
                                        refine va_astq (r := (R_C, T_C, 5)) hx hb hK hP hD hS 1 0 2 0 rfl rfl rfl rfl (vp_in_iff.mpr (by decide)) d_K_init_62 (fun H locs hP hD hS => ?_)
                                        obtain ⟨fq_160, hfq⟩ : ∃ z : Nat → Option Nat, z = (va_up fq_152 (18 : Int32).toNatClampNeg (some q_154)) := ⟨_, rfl⟩
                                        have hP : va_P (dC, dI) vwCl [(k, .inr (2, [.ref q_1, .ref q_5, .ref q_7, .null, .int 0, .null, .int 0, .int 0, .int 0, .int 0, .long 0, .int (-1), .int 0, .int (-1)])), (q_7, .inl (k_8, 24, .inr (.inr (.inr (.inr (va_up fq_152 (18 : Int32).toNatClampNeg (some q_154))))))), (q_154, .inr (0, [.null, .int 0, .ref q_158, .ref q_159, .int 0]))] H := hP
                                        have hD : va_D A [(k, .inr (2, [.ref q_1, .ref q_5, .ref q_7, .null, .int 0, .null, .int 0, .int 0, .int 0, .int 0, .long 0, .int (-1), .int 0, .int (-1)])), (q_7, .inl (k_8, 24, .inr (.inr (.inr (.inr (va_up fq_152 (18 : Int32).toNatClampNeg (some q_154))))))), (q_154, .inr (0, [.null, .int 0, .ref q_158, .ref q_159, .int 0]))] := hD
                                        rw [← hfq] at hP hD
                                        have hP : va_P (dC, dI) vwCl [(k, .inr (2, [.ref q_1, .ref q_5, .ref q_7, .null, .int 0, .null, .int 0, .int 0, .int 0, .int 0, .long 0, .int (-1), .int 0, .int (-1)])), (q_7, .inl (k_8, 24, .inr (.inr (.inr (.inr fq_160))))), (q_154, .inr (0, [.null, .int 0, .ref q_158, .ref q_159, .int 0]))] H := hP
                                        have hD : va_D A [(k, .inr (2, [.ref q_1, .ref q_5, .ref q_7, .null, .int 0, .null, .int 0, .int 0, .int 0, .int 0, .long 0, .int (-1), .int 0, .int (-1)])), (q_7, .inl (k_8, 24, .inr (.inr (.inr (.inr fq_160))))), (q_154, .inr (0, [.null, .int 0, .ref q_158, .ref q_159, .int 0]))] := hD
                                        refine lv_iinc (v := 19) (lv' := [(1, .int 19), (0, .ref k)]) hx hb d_K_init_63 hl (k := 0) rfl (by decide) (by decide) rfl (fun ls hl => ?_)
                                        refine lv_goto (tgt := 44) hx hb d_K_init_66 (by decide) ?_
                                        have hP := hP.sub (ws' := [(k, .inr (2, [.ref q_1, .ref q_5, .ref q_7, .null, .int 0, .null, .int 0, .int 0, .int 0, .int 0, .long 0, .int (-1), .int 0, .int (-1)])), (q_7, .inl (k_8, 24, .inr (.inr (.inr (.inr fq_160)))))]) [0, 1] rfl
                                        have hD := hD.sub (ws' := [(k, .inr (2, [.ref q_1, .ref q_5, .ref q_7, .null, .int 0, .null, .int 0, .int 0, .int 0, .int 0, .long 0, .int (-1), .int 0, .int (-1)])), (q_7, .inl (k_8, 24, .inr (.inr (.inr (.inr fq_160)))))]) [0, 1] (by decide) rfl
                                        have hK := hK.sub (tys' := [(k_8, .object "MapFramer$Call")]) [0] rfl
                                        refine lv_iload_n hx hb d_K_init_44 rfl (lv_at hl 0 rfl) ?_
                                        refine lv_bipush (v := 24) hx hb d_K_init_45 (by decide) ?_
                                        refine lv_icmp_ge (tgt := 69) hx hb d_K_init_47 (by decide) (fun c_161 => ?_) (fun c_161 => ?_)
                                        · skip
                                          first | exact absurd c_161 (by decide) | exact absurd (by decide) c_161
                                        · skip
                                          refine lv_aload_n hx hb d_K_init_50 rfl (lv_at hl 1 rfl) ?_
                                          refine va_get (D := (dC, dI)) (ci := 2) (v := .ref q_7) (C := R_K) (T := T_K) (N := 14) hx hb hts (fun w h => hsub w (uw_K w h)) hown hK hP 0 rfl rfl 2 (by decide) (hts _ (hsub _ w_237)) (fun _ h9 => h9) rfl d_K_init_51 ?_
                                          refine lv_iload_n hx hb d_K_init_54 rfl (lv_at hl 0 rfl) ?_
                                          refine va_new (ci := 0) (fs := [.null, .int 0, .null, .null, .int 0]) (C := R_C) (T := T_C) (N := 5) hx hb hts (fun w h => hsub w (uw_C w h)) ty_C tok_C hown (hts _ (hsub _ w_236)) (hts _ (hsub _ w_240)) (hts _ (hsub _ w_241)) hK hP hD hS hA rfl (fun j hj => df_C j hj) (Nat.le_of_ble_eq_true rfl) (Nat.le_of_ble_eq_true rfl) d_K_init_55 (fun q_162 H hP hD hS => ?_)
                                          have hP : va_P (dC, dI) vwCl [(k, .inr (2, [.ref q_1, .ref q_5, .ref q_7, .null, .int 0, .null, .int 0, .int 0, .int 0, .int 0, .long 0, .int (-1), .int 0, .int (-1)])), (q_7, .inl (k_8, 24, .inr (.inr (.inr (.inr fq_160))))), (q_162, .inr (0, [.null, .int 0, .null, .null, .int 0]))] H := hP
                                          have hD : va_D A [(k, .inr (2, [.ref q_1, .ref q_5, .ref q_7, .null, .int 0, .null, .int 0, .int 0, .int 0, .int 0, .long 0, .int (-1), .int 0, .int (-1)])), (q_7, .inl (k_8, 24, .inr (.inr (.inr (.inr fq_160))))), (q_162, .inr (0, [.null, .int 0, .null, .null, .int 0]))] := hD
                                          refine W.widen (k := 64) (n := 4500) (Nat.le_of_ble_eq_true rfl) (Nat.le_of_ble_eq_true rfl) ?_
                                          refine lv_dup hx hb d_K_init_58 rfl ?_
                                          have hPc := hP.sub (ws' := [(q_162, .inr (0, [.null, .int 0, .null, .null, .int 0]))]) [2] rfl
                                          have hKc := hK.sub (tys' := []) [] rfl
                                          have hDc := hD.sub (ws' := [(q_162, .inr (0, [.null, .int 0, .null, .null, .int 0]))]) [2] (by decide) rfl
                                          have hFc := va_free (wc := [(q_162, .inr (0, [.null, .int 0, .null, .null, .int 0]))]) hD hS hA [2] rfl
                                          refine va_callv (va_runIN (As := []) (rest := [.ref q_162, .int 19, .ref q_7]) ⟨hx, hb, hml, hown, hts⟩ (k_C_init l dC dI q_162 H.size) ⟨va_cnB 0 hts (gC hsub w_242) rfl rfl rfl htb.2.1 (hts _ (hsub _ w_241)) (by decide +kernel) ⟨Nat.le_of_ble_eq_true rfl, Nat.le_of_ble_eq_true rfl⟩, rfl, (hts _ (hsub _ w_243))⟩ ⟨bl_1000, fun U hU hW => ⟨rfl, by rw [hU], by rw [hU]; exact hPc, va_K.moved hW.alike hKc, hDc.weaken (fun _ _ _ _ => trivial)⟩⟩ rfl rfl hl.1 rfl (lv_room (Nat.le_of_ble_eq_true rfl)) d_K_init_59 ⟨Nat.le_of_ble_eq_true rfl, Nat.le_of_ble_eq_true rfl⟩) hS (fun q _ h => hFc q h) hFc (fun u_165 t H1 locs ht hvm hw hB hz1 hk1 hS => ?_)
                                          obtain ⟨q_166, q_167, hP1, hK1, hD1⟩ := hB
                                          rw [ht] at hP1
                                          have hK1 := va_K.moved hvm.symm hK1
                                          obtain ⟨hP, hD⟩ := va_join (wr := [(k, .inr (2, [.ref q_1, .ref q_5, .ref q_7, .null, .int 0, .null, .int 0, .int 0, .int 0, .int 0, .long 0, .int (-1), .int 0, .int (-1)])), (q_7, .inl (k_8, 24, .inr (.inr (.inr (.inr fq_160)))))]) (w1 := [(q_162, .inr (0, [.null, .int 0, .ref q_166, .ref q_167, .int 0]))]) hP hD [2] [0, 1] rfl rfl (by decide) (by decide) hk1 hFc hP1 hD1
                                          have hK := (hK.sub (tys' := [(k_8, .object "MapFramer$Call")]) [0] rfl).app hK1
                                          generalize H1 = H at hP hS ⊢
                                          have hP : va_P (dC, dI) vwCl [(k, .inr (2, [.ref q_1, .ref q_5, .ref q_7, .null, .int 0, .null, .int 0, .int 0, .int 0, .int 0, .long 0, .int (-1), .int 0, .int (-1)])), (q_7, .inl (k_8, 24, .inr (.inr (.inr (.inr fq_160))))), (q_162, .inr (0, [.null, .int 0, .ref q_166, .ref q_167, .int 0]))] H := hP
                                          have hD : va_D A [(k, .inr (2, [.ref q_1, .ref q_5, .ref q_7, .null, .int 0, .null, .int 0, .int 0, .int 0, .int 0, .long 0, .int (-1), .int 0, .int (-1)])), (q_7, .inl (k_8, 24, .inr (.inr (.inr (.inr fq_160))))), (q_162, .inr (0, [.null, .int 0, .ref q_166, .ref q_167, .int 0]))] := hD
                                          have hK : va_K (dC, dI) vwCl [(k_8, .object "MapFramer$Call")] s := hK
                                          refine W.widen (k := 66) (n := 4524) (Nat.le_of_ble_eq_true rfl) (Nat.le_of_ble_eq_true rfl) ?_
                                          refine va_astq (r := (R_C, T_C, 5)) hx hb hK hP hD hS 1 0 2 0 rfl rfl rfl rfl (vp_in_iff.mpr (by decide)) d_K_init_62 (fun H locs hP hD hS => ?_)
                                          obtain ⟨fq_168, hfq⟩ : ∃ z : Nat → Option Nat, z = (va_up fq_160 (19 : Int32).toNatClampNeg (some q_162)) := ⟨_, rfl⟩
                                          have hP : va_P (dC, dI) vwCl [(k, .inr (2, [.ref q_1, .ref q_5, .ref q_7, .null, .int 0, .null, .int 0, .int 0, .int 0, .int 0, .long 0, .int (-1), .int 0, .int (-1)])), (q_7, .inl (k_8, 24, .inr (.inr (.inr (.inr (va_up fq_160 (19 : Int32).toNatClampNeg (some q_162))))))), (q_162, .inr (0, [.null, .int 0, .ref q_166, .ref q_167, .int 0]))] H := hP
                                          have hD : va_D A [(k, .inr (2, [.ref q_1, .ref q_5, .ref q_7, .null, .int 0, .null, .int 0, .int 0, .int 0, .int 0, .long 0, .int (-1), .int 0, .int (-1)])), (q_7, .inl (k_8, 24, .inr (.inr (.inr (.inr (va_up fq_160 (19 : Int32).toNatClampNeg (some q_162))))))), (q_162, .inr (0, [.null, .int 0, .ref q_166, .ref q_167, .int 0]))] := hD
                                          rw [← hfq] at hP hD
                                          have hP : va_P (dC, dI) vwCl [(k, .inr (2, [.ref q_1, .ref q_5, .ref q_7, .null, .int 0, .null, .int 0, .int 0, .int 0, .int 0, .long 0, .int (-1), .int 0, .int (-1)])), (q_7, .inl (k_8, 24, .inr (.inr (.inr (.inr fq_168))))), (q_162, .inr (0, [.null, .int 0, .ref q_166, .ref q_167, .int 0]))] H := hP
                                          have hD : va_D A [(k, .inr (2, [.ref q_1, .ref q_5, .ref q_7, .null, .int 0, .null, .int 0, .int 0, .int 0, .int 0, .long 0, .int (-1), .int 0, .int (-1)])), (q_7, .inl (k_8, 24, .inr (.inr (.inr (.inr fq_168))))), (q_162, .inr (0, [.null, .int 0, .ref q_166, .ref q_167, .int 0]))] := hD
                                          refine lv_iinc (v := 20) (lv' := [(1, .int 20), (0, .ref k)]) hx hb d_K_init_63 hl (k := 0) rfl (by decide) (by decide) rfl (fun ls hl => ?_)
                                          refine lv_goto (tgt := 44) hx hb d_K_init_66 (by decide) ?_
                                          have hP := hP.sub (ws' := [(k, .inr (2, [.ref q_1, .ref q_5, .ref q_7, .null, .int 0, .null, .int 0, .int 0, .int 0, .int 0, .long 0, .int (-1), .int 0, .int (-1)])), (q_7, .inl (k_8, 24, .inr (.inr (.inr (.inr fq_168)))))]) [0, 1] rfl
                                          have hD := hD.sub (ws' := [(k, .inr (2, [.ref q_1, .ref q_5, .ref q_7, .null, .int 0, .null, .int 0, .int 0, .int 0, .int 0, .long 0, .int (-1), .int 0, .int (-1)])), (q_7, .inl (k_8, 24, .inr (.inr (.inr (.inr fq_168)))))]) [0, 1] (by decide) rfl
                                          have hK := hK.sub (tys' := [(k_8, .object "MapFramer$Call")]) [0] rfl
                                          refine lv_iload_n hx hb d_K_init_44 rfl (lv_at hl 0 rfl) ?_
                                          refine lv_bipush (v := 24) hx hb d_K_init_45 (by decide) ?_
                                          refine lv_icmp_ge (tgt := 69) hx hb d_K_init_47 (by decide) (fun c_169 => ?_) (fun c_169 => ?_)
                                          · skip
                                            first | exact absurd c_169 (by decide) | exact absurd (by decide) c_169
                                          · skip
                                            refine lv_aload_n hx hb d_K_init_50 rfl (lv_at hl 1 rfl) ?_
                                            refine va_get (D := (dC, dI)) (ci := 2) (v := .ref q_7) (C := R_K) (T := T_K) (N := 14) hx hb hts (fun w h => hsub w (uw_K w h)) hown hK hP 0 rfl rfl 2 (by decide) (hts _ (hsub _ w_237)) (fun _ h9 => h9) rfl d_K_init_51 ?_
                                            refine lv_iload_n hx hb d_K_init_54 rfl (lv_at hl 0 rfl) ?_
                                            refine va_new (ci := 0) (fs := [.null, .int 0, .null, .null, .int 0]) (C := R_C) (T := T_C) (N := 5) hx hb hts (fun w h => hsub w (uw_C w h)) ty_C tok_C hown (hts _ (hsub _ w_236)) (hts _ (hsub _ w_240)) (hts _ (hsub _ w_241)) hK hP hD hS hA rfl (fun j hj => df_C j hj) (Nat.le_of_ble_eq_true rfl) (Nat.le_of_ble_eq_true rfl) d_K_init_55 (fun q_170 H hP hD hS => ?_)
                                            have hP : va_P (dC, dI) vwCl [(k, .inr (2, [.ref q_1, .ref q_5, .ref q_7, .null, .int 0, .null, .int 0, .int 0, .int 0, .int 0, .long 0, .int (-1), .int 0, .int (-1)])), (q_7, .inl (k_8, 24, .inr (.inr (.inr (.inr fq_168))))), (q_170, .inr (0, [.null, .int 0, .null, .null, .int 0]))] H := hP
                                            have hD : va_D A [(k, .inr (2, [.ref q_1, .ref q_5, .ref q_7, .null, .int 0, .null, .int 0, .int 0, .int 0, .int 0, .long 0, .int (-1), .int 0, .int (-1)])), (q_7, .inl (k_8, 24, .inr (.inr (.inr (.inr fq_168))))), (q_170, .inr (0, [.null, .int 0, .null, .null, .int 0]))] := hD
                                            refine W.widen (k := 67) (n := 4529) (Nat.le_of_ble_eq_true rfl) (Nat.le_of_ble_eq_true rfl) ?_
                                            refine lv_dup hx hb d_K_init_58 rfl ?_
                                            have hPc := hP.sub (ws' := [(q_170, .inr (0, [.null, .int 0, .null, .null, .int 0]))]) [2] rfl
                                            have hKc := hK.sub (tys' := []) [] rfl
                                            have hDc := hD.sub (ws' := [(q_170, .inr (0, [.null, .int 0, .null, .null, .int 0]))]) [2] (by decide) rfl
                                            have hFc := va_free (wc := [(q_170, .inr (0, [.null, .int 0, .null, .null, .int 0]))]) hD hS hA [2] rfl
                                            refine va_callv (va_runIN (As := []) (rest := [.ref q_170, .int 20, .ref q_7]) ⟨hx, hb, hml, hown, hts⟩ (k_C_init l dC dI q_170 H.size) ⟨va_cnB 0 hts (gC hsub w_242) rfl rfl rfl htb.2.1 (hts _ (hsub _ w_241)) (by decide +kernel) ⟨Nat.le_of_ble_eq_true rfl, Nat.le_of_ble_eq_true rfl⟩, rfl, (hts _ (hsub _ w_243))⟩ ⟨bl_1000, fun U hU hW => ⟨rfl, by rw [hU], by rw [hU]; exact hPc, va_K.moved hW.alike hKc, hDc.weaken (fun _ _ _ _ => trivial)⟩⟩ rfl rfl hl.1 rfl (lv_room (Nat.le_of_ble_eq_true rfl)) d_K_init_59 ⟨Nat.le_of_ble_eq_true rfl, Nat.le_of_ble_eq_true rfl⟩) hS (fun q _ h => hFc q h) hFc (fun u_173 t H1 locs ht hvm hw hB hz1 hk1 hS => ?_)
                                            obtain ⟨q_174, q_175, hP1, hK1, hD1⟩ := hB
                                            rw [ht] at hP1
                                            have hK1 := va_K.moved hvm.symm hK1
                                            obtain ⟨hP, hD⟩ := va_join (wr := [(k, .inr (2, [.ref q_1, .ref q_5, .ref q_7, .null, .int 0, .null, .int 0, .int 0, .int 0, .int 0, .long 0, .int (-1), .int 0, .int (-1)])), (q_7, .inl (k_8, 24, .inr (.inr (.inr (.inr fq_168)))))]) (w1 := [(q_170, .inr (0, [.null, .int 0, .ref q_174, .ref q_175, .int 0]))]) hP hD [2] [0, 1] rfl rfl (by decide) (by decide) hk1 hFc hP1 hD1
                                            have hK := (hK.sub (tys' := [(k_8, .object "MapFramer$Call")]) [0] rfl).app hK1
                                            generalize H1 = H at hP hS ⊢
                                            have hP : va_P (dC, dI) vwCl [(k, .inr (2, [.ref q_1, .ref q_5, .ref q_7, .null, .int 0, .null, .int 0, .int 0, .int 0, .int 0, .long 0, .int (-1), .int 0, .int (-1)])), (q_7, .inl (k_8, 24, .inr (.inr (.inr (.inr fq_168))))), (q_170, .inr (0, [.null, .int 0, .ref q_174, .ref q_175, .int 0]))] H := hP
                                            have hD : va_D A [(k, .inr (2, [.ref q_1, .ref q_5, .ref q_7, .null, .int 0, .null, .int 0, .int 0, .int 0, .int 0, .long 0, .int (-1), .int 0, .int (-1)])), (q_7, .inl (k_8, 24, .inr (.inr (.inr (.inr fq_168))))), (q_170, .inr (0, [.null, .int 0, .ref q_174, .ref q_175, .int 0]))] := hD
                                            have hK : va_K (dC, dI) vwCl [(k_8, .object "MapFramer$Call")] s := hK
                                            refine W.widen (k := 69) (n := 4553) (Nat.le_of_ble_eq_true rfl) (Nat.le_of_ble_eq_true rfl) ?_
                                            refine va_astq (r := (R_C, T_C, 5)) hx hb hK hP hD hS 1 0 2 0 rfl rfl rfl rfl (vp_in_iff.mpr (by decide)) d_K_init_62 (fun H locs hP hD hS => ?_)
                                            obtain ⟨fq_176, hfq⟩ : ∃ z : Nat → Option Nat, z = (va_up fq_168 (20 : Int32).toNatClampNeg (some q_170)) := ⟨_, rfl⟩
                                            have hP : va_P (dC, dI) vwCl [(k, .inr (2, [.ref q_1, .ref q_5, .ref q_7, .null, .int 0, .null, .int 0, .int 0, .int 0, .int 0, .long 0, .int (-1), .int 0, .int (-1)])), (q_7, .inl (k_8, 24, .inr (.inr (.inr (.inr (va_up fq_168 (20 : Int32).toNatClampNeg (some q_170))))))), (q_170, .inr (0, [.null, .int 0, .ref q_174, .ref q_175, .int 0]))] H := hP
                                            have hD : va_D A [(k, .inr (2, [.ref q_1, .ref q_5, .ref q_7, .null, .int 0, .null, .int 0, .int 0, .int 0, .int 0, .long 0, .int (-1), .int 0, .int (-1)])), (q_7, .inl (k_8, 24, .inr (.inr (.inr (.inr (va_up fq_168 (20 : Int32).toNatClampNeg (some q_170))))))), (q_170, .inr (0, [.null, .int 0, .ref q_174, .ref q_175, .int 0]))] := hD
                                            rw [← hfq] at hP hD
                                            have hP : va_P (dC, dI) vwCl [(k, .inr (2, [.ref q_1, .ref q_5, .ref q_7, .null, .int 0, .null, .int 0, .int 0, .int 0, .int 0, .long 0, .int (-1), .int 0, .int (-1)])), (q_7, .inl (k_8, 24, .inr (.inr (.inr (.inr fq_176))))), (q_170, .inr (0, [.null, .int 0, .ref q_174, .ref q_175, .int 0]))] H := hP
                                            have hD : va_D A [(k, .inr (2, [.ref q_1, .ref q_5, .ref q_7, .null, .int 0, .null, .int 0, .int 0, .int 0, .int 0, .long 0, .int (-1), .int 0, .int (-1)])), (q_7, .inl (k_8, 24, .inr (.inr (.inr (.inr fq_176))))), (q_170, .inr (0, [.null, .int 0, .ref q_174, .ref q_175, .int 0]))] := hD
                                            refine lv_iinc (v := 21) (lv' := [(1, .int 21), (0, .ref k)]) hx hb d_K_init_63 hl (k := 0) rfl (by decide) (by decide) rfl (fun ls hl => ?_)
                                            refine lv_goto (tgt := 44) hx hb d_K_init_66 (by decide) ?_
                                            have hP := hP.sub (ws' := [(k, .inr (2, [.ref q_1, .ref q_5, .ref q_7, .null, .int 0, .null, .int 0, .int 0, .int 0, .int 0, .long 0, .int (-1), .int 0, .int (-1)])), (q_7, .inl (k_8, 24, .inr (.inr (.inr (.inr fq_176)))))]) [0, 1] rfl
                                            have hD := hD.sub (ws' := [(k, .inr (2, [.ref q_1, .ref q_5, .ref q_7, .null, .int 0, .null, .int 0, .int 0, .int 0, .int 0, .long 0, .int (-1), .int 0, .int (-1)])), (q_7, .inl (k_8, 24, .inr (.inr (.inr (.inr fq_176)))))]) [0, 1] (by decide) rfl
                                            have hK := hK.sub (tys' := [(k_8, .object "MapFramer$Call")]) [0] rfl
                                            refine lv_iload_n hx hb d_K_init_44 rfl (lv_at hl 0 rfl) ?_
                                            refine lv_bipush (v := 24) hx hb d_K_init_45 (by decide) ?_
                                            refine lv_icmp_ge (tgt := 69) hx hb d_K_init_47 (by decide) (fun c_177 => ?_) (fun c_177 => ?_)
                                            · skip
                                              first | exact absurd c_177 (by decide) | exact absurd (by decide) c_177
                                            · skip
                                              refine lv_aload_n hx hb d_K_init_50 rfl (lv_at hl 1 rfl) ?_
                                              refine va_get (D := (dC, dI)) (ci := 2) (v := .ref q_7) (C := R_K) (T := T_K) (N := 14) hx hb hts (fun w h => hsub w (uw_K w h)) hown hK hP 0 rfl rfl 2 (by decide) (hts _ (hsub _ w_237)) (fun _ h9 => h9) rfl d_K_init_51 ?_
                                              refine lv_iload_n hx hb d_K_init_54 rfl (lv_at hl 0 rfl) ?_
                                              refine va_new (ci := 0) (fs := [.null, .int 0, .null, .null, .int 0]) (C := R_C) (T := T_C) (N := 5) hx hb hts (fun w h => hsub w (uw_C w h)) ty_C tok_C hown (hts _ (hsub _ w_236)) (hts _ (hsub _ w_240)) (hts _ (hsub _ w_241)) hK hP hD hS hA rfl (fun j hj => df_C j hj) (Nat.le_of_ble_eq_true rfl) (Nat.le_of_ble_eq_true rfl) d_K_init_55 (fun q_178 H hP hD hS => ?_)
                                              have hP : va_P (dC, dI) vwCl [(k, .inr (2, [.ref q_1, .ref q_5, .ref q_7, .null, .int 0, .null, .int 0, .int 0, .int 0, .int 0, .long 0, .int (-1), .int 0, .int (-1)])), (q_7, .inl (k_8, 24, .inr (.inr (.inr (.inr fq_176))))), (q_178, .inr (0, [.null, .int 0, .null, .null, .int 0]))] H := hP
                                              have hD : va_D A [(k, .inr (2, [.ref q_1, .ref q_5, .ref q_7, .null, .int 0, .null, .int 0, .int 0, .int 0, .int 0, .long 0, .int (-1), .int 0, .int (-1)])), (q_7, .inl (k_8, 24, .inr (.inr (.inr (.inr fq_176))))), (q_178, .inr (0, [.null, .int 0, .null, .null, .int 0]))] := hD
                                              refine W.widen (k := 70) (n := 4558) (Nat.le_of_ble_eq_true rfl) (Nat.le_of_ble_eq_true rfl) ?_
                                              refine lv_dup hx hb d_K_init_58 rfl ?_
                                              have hPc := hP.sub (ws' := [(q_178, .inr (0, [.null, .int 0, .null, .null, .int 0]))]) [2] rfl
                                              have hKc := hK.sub (tys' := []) [] rfl
                                              have hDc := hD.sub (ws' := [(q_178, .inr (0, [.null, .int 0, .null, .null, .int 0]))]) [2] (by decide) rfl
                                              have hFc := va_free (wc := [(q_178, .inr (0, [.null, .int 0, .null, .null, .int 0]))]) hD hS hA [2] rfl
                                              refine va_callv (va_runIN (As := []) (rest := [.ref q_178, .int 21, .ref q_7]) ⟨hx, hb, hml, hown, hts⟩ (k_C_init l dC dI q_178 H.size) ⟨va_cnB 0 hts (gC hsub w_242) rfl rfl rfl htb.2.1 (hts _ (hsub _ w_241)) (by decide +kernel) ⟨Nat.le_of_ble_eq_true rfl, Nat.le_of_ble_eq_true rfl⟩, rfl, (hts _ (hsub _ w_243))⟩ ⟨bl_1000, fun U hU hW => ⟨rfl, by rw [hU], by rw [hU]; exact hPc, va_K.moved hW.alike hKc, hDc.weaken (fun _ _ _ _ => trivial)⟩⟩ rfl rfl hl.1 rfl (lv_room (Nat.le_of_ble_eq_true rfl)) d_K_init_59 ⟨Nat.le_of_ble_eq_true rfl, Nat.le_of_ble_eq_true rfl⟩) hS (fun q _ h => hFc q h) hFc (fun u_181 t H1 locs ht hvm hw hB hz1 hk1 hS => ?_)
                                              obtain ⟨q_182, q_183, hP1, hK1, hD1⟩ := hB
                                              rw [ht] at hP1
                                              have hK1 := va_K.moved hvm.symm hK1
                                              obtain ⟨hP, hD⟩ := va_join (wr := [(k, .inr (2, [.ref q_1, .ref q_5, .ref q_7, .null, .int 0, .null, .int 0, .int 0, .int 0, .int 0, .long 0, .int (-1), .int 0, .int (-1)])), (q_7, .inl (k_8, 24, .inr (.inr (.inr (.inr fq_176)))))]) (w1 := [(q_178, .inr (0, [.null, .int 0, .ref q_182, .ref q_183, .int 0]))]) hP hD [2] [0, 1] rfl rfl (by decide) (by decide) hk1 hFc hP1 hD1
                                              have hK := (hK.sub (tys' := [(k_8, .object "MapFramer$Call")]) [0] rfl).app hK1
                                              generalize H1 = H at hP hS ⊢
                                              have hP : va_P (dC, dI) vwCl [(k, .inr (2, [.ref q_1, .ref q_5, .ref q_7, .null, .int 0, .null, .int 0, .int 0, .int 0, .int 0, .long 0, .int (-1), .int 0, .int (-1)])), (q_7, .inl (k_8, 24, .inr (.inr (.inr (.inr fq_176))))), (q_178, .inr (0, [.null, .int 0, .ref q_182, .ref q_183, .int 0]))] H := hP
                                              have hD : va_D A [(k, .inr (2, [.ref q_1, .ref q_5, .ref q_7, .null, .int 0, .null, .int 0, .int 0, .int 0, .int 0, .long 0, .int (-1), .int 0, .int (-1)])), (q_7, .inl (k_8, 24, .inr (.inr (.inr (.inr fq_176))))), (q_178, .inr (0, [.null, .int 0, .ref q_182, .ref q_183, .int 0]))] := hD
                                              have hK : va_K (dC, dI) vwCl [(k_8, .object "MapFramer$Call")] s := hK
                                              refine W.widen (k := 72) (n := 4582) (Nat.le_of_ble_eq_true rfl) (Nat.le_of_ble_eq_true rfl) ?_
                                              refine va_astq (r := (R_C, T_C, 5)) hx hb hK hP hD hS 1 0 2 0 rfl rfl rfl rfl (vp_in_iff.mpr (by decide)) d_K_init_62 (fun H locs hP hD hS => ?_)
                                              obtain ⟨fq_184, hfq⟩ : ∃ z : Nat → Option Nat, z = (va_up fq_176 (21 : Int32).toNatClampNeg (some q_178)) := ⟨_, rfl⟩
                                              have hP : va_P (dC, dI) vwCl [(k, .inr (2, [.ref q_1, .ref q_5, .ref q_7, .null, .int 0, .null, .int 0, .int 0, .int 0, .int 0, .long 0, .int (-1), .int 0, .int (-1)])), (q_7, .inl (k_8, 24, .inr (.inr (.inr (.inr (va_up fq_176 (21 : Int32).toNatClampNeg (some q_178))))))), (q_178, .inr (0, [.null, .int 0, .ref q_182, .ref q_183, .int 0]))] H := hP
                                              have hD : va_D A [(k, .inr (2, [.ref q_1, .ref q_5, .ref q_7, .null, .int 0, .null, .int 0, .int 0, .int 0, .int 0, .long 0, .int (-1), .int 0, .int (-1)])), (q_7, .inl (k_8, 24, .inr (.inr (.inr (.inr (va_up fq_176 (21 : Int32).toNatClampNeg (some q_178))))))), (q_178, .inr (0, [.null, .int 0, .ref q_182, .ref q_183, .int 0]))] := hD
                                              rw [← hfq] at hP hD
                                              have hP : va_P (dC, dI) vwCl [(k, .inr (2, [.ref q_1, .ref q_5, .ref q_7, .null, .int 0, .null, .int 0, .int 0, .int 0, .int 0, .long 0, .int (-1), .int 0, .int (-1)])), (q_7, .inl (k_8, 24, .inr (.inr (.inr (.inr fq_184))))), (q_178, .inr (0, [.null, .int 0, .ref q_182, .ref q_183, .int 0]))] H := hP
                                              have hD : va_D A [(k, .inr (2, [.ref q_1, .ref q_5, .ref q_7, .null, .int 0, .null, .int 0, .int 0, .int 0, .int 0, .long 0, .int (-1), .int 0, .int (-1)])), (q_7, .inl (k_8, 24, .inr (.inr (.inr (.inr fq_184))))), (q_178, .inr (0, [.null, .int 0, .ref q_182, .ref q_183, .int 0]))] := hD
                                              refine lv_iinc (v := 22) (lv' := [(1, .int 22), (0, .ref k)]) hx hb d_K_init_63 hl (k := 0) rfl (by decide) (by decide) rfl (fun ls hl => ?_)
                                              refine lv_goto (tgt := 44) hx hb d_K_init_66 (by decide) ?_
                                              have hP := hP.sub (ws' := [(k, .inr (2, [.ref q_1, .ref q_5, .ref q_7, .null, .int 0, .null, .int 0, .int 0, .int 0, .int 0, .long 0, .int (-1), .int 0, .int (-1)])), (q_7, .inl (k_8, 24, .inr (.inr (.inr (.inr fq_184)))))]) [0, 1] rfl
                                              have hD := hD.sub (ws' := [(k, .inr (2, [.ref q_1, .ref q_5, .ref q_7, .null, .int 0, .null, .int 0, .int 0, .int 0, .int 0, .long 0, .int (-1), .int 0, .int (-1)])), (q_7, .inl (k_8, 24, .inr (.inr (.inr (.inr fq_184)))))]) [0, 1] (by decide) rfl
                                              have hK := hK.sub (tys' := [(k_8, .object "MapFramer$Call")]) [0] rfl
                                              refine lv_iload_n hx hb d_K_init_44 rfl (lv_at hl 0 rfl) ?_
                                              refine lv_bipush (v := 24) hx hb d_K_init_45 (by decide) ?_
                                              refine lv_icmp_ge (tgt := 69) hx hb d_K_init_47 (by decide) (fun c_185 => ?_) (fun c_185 => ?_)
                                              · skip
                                                first | exact absurd c_185 (by decide) | exact absurd (by decide) c_185
                                              · skip
                                                refine lv_aload_n hx hb d_K_init_50 rfl (lv_at hl 1 rfl) ?_
                                                refine va_get (D := (dC, dI)) (ci := 2) (v := .ref q_7) (C := R_K) (T := T_K) (N := 14) hx hb hts (fun w h => hsub w (uw_K w h)) hown hK hP 0 rfl rfl 2 (by decide) (hts _ (hsub _ w_237)) (fun _ h9 => h9) rfl d_K_init_51 ?_
                                                refine lv_iload_n hx hb d_K_init_54 rfl (lv_at hl 0 rfl) ?_
                                                refine va_new (ci := 0) (fs := [.null, .int 0, .null, .null, .int 0]) (C := R_C) (T := T_C) (N := 5) hx hb hts (fun w h => hsub w (uw_C w h)) ty_C tok_C hown (hts _ (hsub _ w_236)) (hts _ (hsub _ w_240)) (hts _ (hsub _ w_241)) hK hP hD hS hA rfl (fun j hj => df_C j hj) (Nat.le_of_ble_eq_true rfl) (Nat.le_of_ble_eq_true rfl) d_K_init_55 (fun q_186 H hP hD hS => ?_)
                                                have hP : va_P (dC, dI) vwCl [(k, .inr (2, [.ref q_1, .ref q_5, .ref q_7, .null, .int 0, .null, .int 0, .int 0, .int 0, .int 0, .long 0, .int (-1), .int 0, .int (-1)])), (q_7, .inl (k_8, 24, .inr (.inr (.inr (.inr fq_184))))), (q_186, .inr (0, [.null, .int 0, .null, .null, .int 0]))] H := hP
                                                have hD : va_D A [(k, .inr (2, [.ref q_1, .ref q_5, .ref q_7, .null, .int 0, .null, .int 0, .int 0, .int 0, .int 0, .long 0, .int (-1), .int 0, .int (-1)])), (q_7, .inl (k_8, 24, .inr (.inr (.inr (.inr fq_184))))), (q_186, .inr (0, [.null, .int 0, .null, .null, .int 0]))] := hD
                                                refine W.widen (k := 73) (n := 4587) (Nat.le_of_ble_eq_true rfl) (Nat.le_of_ble_eq_true rfl) ?_
                                                refine lv_dup hx hb d_K_init_58 rfl ?_
                                                have hPc := hP.sub (ws' := [(q_186, .inr (0, [.null, .int 0, .null, .null, .int 0]))]) [2] rfl
                                                have hKc := hK.sub (tys' := []) [] rfl
                                                have hDc := hD.sub (ws' := [(q_186, .inr (0, [.null, .int 0, .null, .null, .int 0]))]) [2] (by decide) rfl
                                                have hFc := va_free (wc := [(q_186, .inr (0, [.null, .int 0, .null, .null, .int 0]))]) hD hS hA [2] rfl
                                                refine va_callv (va_runIN (As := []) (rest := [.ref q_186, .int 22, .ref q_7]) ⟨hx, hb, hml, hown, hts⟩ (k_C_init l dC dI q_186 H.size) ⟨va_cnB 0 hts (gC hsub w_242) rfl rfl rfl htb.2.1 (hts _ (hsub _ w_241)) (by decide +kernel) ⟨Nat.le_of_ble_eq_true rfl, Nat.le_of_ble_eq_true rfl⟩, rfl, (hts _ (hsub _ w_243))⟩ ⟨bl_1000, fun U hU hW => ⟨rfl, by rw [hU], by rw [hU]; exact hPc, va_K.moved hW.alike hKc, hDc.weaken (fun _ _ _ _ => trivial)⟩⟩ rfl rfl hl.1 rfl (lv_room (Nat.le_of_ble_eq_true rfl)) d_K_init_59 ⟨Nat.le_of_ble_eq_true rfl, Nat.le_of_ble_eq_true rfl⟩) hS (fun q _ h => hFc q h) hFc (fun u_189 t H1 locs ht hvm hw hB hz1 hk1 hS => ?_)
                                                obtain ⟨q_190, q_191, hP1, hK1, hD1⟩ := hB
                                                rw [ht] at hP1
                                                have hK1 := va_K.moved hvm.symm hK1
                                                obtain ⟨hP, hD⟩ := va_join (wr := [(k, .inr (2, [.ref q_1, .ref q_5, .ref q_7, .null, .int 0, .null, .int 0, .int 0, .int 0, .int 0, .long 0, .int (-1), .int 0, .int (-1)])), (q_7, .inl (k_8, 24, .inr (.inr (.inr (.inr fq_184)))))]) (w1 := [(q_186, .inr (0, [.null, .int 0, .ref q_190, .ref q_191, .int 0]))]) hP hD [2] [0, 1] rfl rfl (by decide) (by decide) hk1 hFc hP1 hD1
                                                have hK := (hK.sub (tys' := [(k_8, .object "MapFramer$Call")]) [0] rfl).app hK1
                                                generalize H1 = H at hP hS ⊢
                                                have hP : va_P (dC, dI) vwCl [(k, .inr (2, [.ref q_1, .ref q_5, .ref q_7, .null, .int 0, .null, .int 0, .int 0, .int 0, .int 0, .long 0, .int (-1), .int 0, .int (-1)])), (q_7, .inl (k_8, 24, .inr (.inr (.inr (.inr fq_184))))), (q_186, .inr (0, [.null, .int 0, .ref q_190, .ref q_191, .int 0]))] H := hP
                                                have hD : va_D A [(k, .inr (2, [.ref q_1, .ref q_5, .ref q_7, .null, .int 0, .null, .int 0, .int 0, .int 0, .int 0, .long 0, .int (-1), .int 0, .int (-1)])), (q_7, .inl (k_8, 24, .inr (.inr (.inr (.inr fq_184))))), (q_186, .inr (0, [.null, .int 0, .ref q_190, .ref q_191, .int 0]))] := hD
                                                have hK : va_K (dC, dI) vwCl [(k_8, .object "MapFramer$Call")] s := hK
                                                refine W.widen (k := 75) (n := 4611) (Nat.le_of_ble_eq_true rfl) (Nat.le_of_ble_eq_true rfl) ?_
                                                refine va_astq (r := (R_C, T_C, 5)) hx hb hK hP hD hS 1 0 2 0 rfl rfl rfl rfl (vp_in_iff.mpr (by decide)) d_K_init_62 (fun H locs hP hD hS => ?_)
                                                obtain ⟨fq_192, hfq⟩ : ∃ z : Nat → Option Nat, z = (va_up fq_184 (22 : Int32).toNatClampNeg (some q_186)) := ⟨_, rfl⟩
                                                have hP : va_P (dC, dI) vwCl [(k, .inr (2, [.ref q_1, .ref q_5, .ref q_7, .null, .int 0, .null, .int 0, .int 0, .int 0, .int 0, .long 0, .int (-1), .int 0, .int (-1)])), (q_7, .inl (k_8, 24, .inr (.inr (.inr (.inr (va_up fq_184 (22 : Int32).toNatClampNeg (some q_186))))))), (q_186, .inr (0, [.null, .int 0, .ref q_190, .ref q_191, .int 0]))] H := hP
                                                have hD : va_D A [(k, .inr (2, [.ref q_1, .ref q_5, .ref q_7, .null, .int 0, .null, .int 0, .int 0, .int 0, .int 0, .long 0, .int (-1), .int 0, .int (-1)])), (q_7, .inl (k_8, 24, .inr (.inr (.inr (.inr (va_up fq_184 (22 : Int32).toNatClampNeg (some q_186))))))), (q_186, .inr (0, [.null, .int 0, .ref q_190, .ref q_191, .int 0]))] := hD
                                                rw [← hfq] at hP hD
                                                have hP : va_P (dC, dI) vwCl [(k, .inr (2, [.ref q_1, .ref q_5, .ref q_7, .null, .int 0, .null, .int 0, .int 0, .int 0, .int 0, .long 0, .int (-1), .int 0, .int (-1)])), (q_7, .inl (k_8, 24, .inr (.inr (.inr (.inr fq_192))))), (q_186, .inr (0, [.null, .int 0, .ref q_190, .ref q_191, .int 0]))] H := hP
                                                have hD : va_D A [(k, .inr (2, [.ref q_1, .ref q_5, .ref q_7, .null, .int 0, .null, .int 0, .int 0, .int 0, .int 0, .long 0, .int (-1), .int 0, .int (-1)])), (q_7, .inl (k_8, 24, .inr (.inr (.inr (.inr fq_192))))), (q_186, .inr (0, [.null, .int 0, .ref q_190, .ref q_191, .int 0]))] := hD
                                                refine lv_iinc (v := 23) (lv' := [(1, .int 23), (0, .ref k)]) hx hb d_K_init_63 hl (k := 0) rfl (by decide) (by decide) rfl (fun ls hl => ?_)
                                                refine lv_goto (tgt := 44) hx hb d_K_init_66 (by decide) ?_
                                                have hP := hP.sub (ws' := [(k, .inr (2, [.ref q_1, .ref q_5, .ref q_7, .null, .int 0, .null, .int 0, .int 0, .int 0, .int 0, .long 0, .int (-1), .int 0, .int (-1)])), (q_7, .inl (k_8, 24, .inr (.inr (.inr (.inr fq_192)))))]) [0, 1] rfl
                                                have hD := hD.sub (ws' := [(k, .inr (2, [.ref q_1, .ref q_5, .ref q_7, .null, .int 0, .null, .int 0, .int 0, .int 0, .int 0, .long 0, .int (-1), .int 0, .int (-1)])), (q_7, .inl (k_8, 24, .inr (.inr (.inr (.inr fq_192)))))]) [0, 1] (by decide) rfl
                                                have hK := hK.sub (tys' := [(k_8, .object "MapFramer$Call")]) [0] rfl
                                                refine lv_iload_n hx hb d_K_init_44 rfl (lv_at hl 0 rfl) ?_
                                                refine lv_bipush (v := 24) hx hb d_K_init_45 (by decide) ?_
                                                refine lv_icmp_ge (tgt := 69) hx hb d_K_init_47 (by decide) (fun c_193 => ?_) (fun c_193 => ?_)
                                                · skip
                                                  first | exact absurd c_193 (by decide) | exact absurd (by decide) c_193
                                                · skip
                                                  refine lv_aload_n hx hb d_K_init_50 rfl (lv_at hl 1 rfl) ?_
                                                  refine va_get (D := (dC, dI)) (ci := 2) (v := .ref q_7) (C := R_K) (T := T_K) (N := 14) hx hb hts (fun w h => hsub w (uw_K w h)) hown hK hP 0 rfl rfl 2 (by decide) (hts _ (hsub _ w_237)) (fun _ h9 => h9) rfl d_K_init_51 ?_
                                                  refine lv_iload_n hx hb d_K_init_54 rfl (lv_at hl 0 rfl) ?_
                                                  refine va_new (ci := 0) (fs := [.null, .int 0, .null, .null, .int 0]) (C := R_C) (T := T_C) (N := 5) hx hb hts (fun w h => hsub w (uw_C w h)) ty_C tok_C hown (hts _ (hsub _ w_236)) (hts _ (hsub _ w_240)) (hts _ (hsub _ w_241)) hK hP hD hS hA rfl (fun j hj => df_C j hj) (Nat.le_of_ble_eq_true rfl) (Nat.le_of_ble_eq_true rfl) d_K_init_55 (fun q_194 H hP hD hS => ?_)
                                                  have hP : va_P (dC, dI) vwCl [(k, .inr (2, [.ref q_1, .ref q_5, .ref q_7, .null, .int 0, .null, .int 0, .int 0, .int 0, .int 0, .long 0, .int (-1), .int 0, .int (-1)])), (q_7, .inl (k_8, 24, .inr (.inr (.inr (.inr fq_192))))), (q_194, .inr (0, [.null, .int 0, .null, .null, .int 0]))] H := hP
                                                  have hD : va_D A [(k, .inr (2, [.ref q_1, .ref q_5, .ref q_7, .null, .int 0, .null, .int 0, .int 0, .int 0, .int 0, .long 0, .int (-1), .int 0, .int (-1)])), (q_7, .inl (k_8, 24, .inr (.inr (.inr (.inr fq_192))))), (q_194, .inr (0, [.null, .int 0, .null, .null, .int 0]))] := hD
                                                  refine W.widen (k := 76) (n := 4616) (Nat.le_of_ble_eq_true rfl) (Nat.le_of_ble_eq_true rfl) ?_
                                                  refine lv_dup hx hb d_K_init_58 rfl ?_
                                                  have hPc := hP.sub (ws' := [(q_194, .inr (0, [.null, .int 0, .null, .null, .int 0]))]) [2] rfl
                                                  have hKc := hK.sub (tys' := []) [] rfl
                                                  have hDc := hD.sub (ws' := [(q_194, .inr (0, [.null, .int 0, .null, .null, .int 0]))]) [2] (by decide) rfl
                                                  have hFc := va_free (wc := [(q_194, .inr (0, [.null, .int 0, .null, .null, .int 0]))]) hD hS hA [2] rfl
                                                  refine va_callv (va_runIN (As := []) (rest := [.ref q_194, .int 23, .ref q_7]) ⟨hx, hb, hml, hown, hts⟩ (k_C_init l dC dI q_194 H.size) ⟨va_cnB 0 hts (gC hsub w_242) rfl rfl rfl htb.2.1 (hts _ (hsub _ w_241)) (by decide +kernel) ⟨Nat.le_of_ble_eq_true rfl, Nat.le_of_ble_eq_true rfl⟩, rfl, (hts _ (hsub _ w_243))⟩ ⟨bl_1000, fun U hU hW => ⟨rfl, by rw [hU], by rw [hU]; exact hPc, va_K.moved hW.alike hKc, hDc.weaken (fun _ _ _ _ => trivial)⟩⟩ rfl rfl hl.1 rfl (lv_room (Nat.le_of_ble_eq_true rfl)) d_K_init_59 ⟨Nat.le_of_ble_eq_true rfl, Nat.le_of_ble_eq_true rfl⟩) hS (fun q _ h => hFc q h) hFc (fun u_197 t H1 locs ht hvm hw hB hz1 hk1 hS => ?_)
                                                  obtain ⟨q_198, q_199, hP1, hK1, hD1⟩ := hB
                                                  rw [ht] at hP1
                                                  have hK1 := va_K.moved hvm.symm hK1
                                                  obtain ⟨hP, hD⟩ := va_join (wr := [(k, .inr (2, [.ref q_1, .ref q_5, .ref q_7, .null, .int 0, .null, .int 0, .int 0, .int 0, .int 0, .long 0, .int (-1), .int 0, .int (-1)])), (q_7, .inl (k_8, 24, .inr (.inr (.inr (.inr fq_192)))))]) (w1 := [(q_194, .inr (0, [.null, .int 0, .ref q_198, .ref q_199, .int 0]))]) hP hD [2] [0, 1] rfl rfl (by decide) (by decide) hk1 hFc hP1 hD1
                                                  have hK := (hK.sub (tys' := [(k_8, .object "MapFramer$Call")]) [0] rfl).app hK1
                                                  generalize H1 = H at hP hS ⊢
                                                  have hP : va_P (dC, dI) vwCl [(k, .inr (2, [.ref q_1, .ref q_5, .ref q_7, .null, .int 0, .null, .int 0, .int 0, .int 0, .int 0, .long 0, .int (-1), .int 0, .int (-1)])), (q_7, .inl (k_8, 24, .inr (.inr (.inr (.inr fq_192))))), (q_194, .inr (0, [.null, .int 0, .ref q_198, .ref q_199, .int 0]))] H := hP
                                                  have hD : va_D A [(k, .inr (2, [.ref q_1, .ref q_5, .ref q_7, .null, .int 0, .null, .int 0, .int 0, .int 0, .int 0, .long 0, .int (-1), .int 0, .int (-1)])), (q_7, .inl (k_8, 24, .inr (.inr (.inr (.inr fq_192))))), (q_194, .inr (0, [.null, .int 0, .ref q_198, .ref q_199, .int 0]))] := hD
                                                  have hK : va_K (dC, dI) vwCl [(k_8, .object "MapFramer$Call")] s := hK
                                                  refine W.widen (k := 78) (n := 4640) (Nat.le_of_ble_eq_true rfl) (Nat.le_of_ble_eq_true rfl) ?_
                                                  refine va_astq (r := (R_C, T_C, 5)) hx hb hK hP hD hS 1 0 2 0 rfl rfl rfl rfl (vp_in_iff.mpr (by decide)) d_K_init_62 (fun H locs hP hD hS => ?_)
                                                  obtain ⟨fq_200, hfq⟩ : ∃ z : Nat → Option Nat, z = (va_up fq_192 (23 : Int32).toNatClampNeg (some q_194)) := ⟨_, rfl⟩
                                                  have hP : va_P (dC, dI) vwCl [(k, .inr (2, [.ref q_1, .ref q_5, .ref q_7, .null, .int 0, .null, .int 0, .int 0, .int 0, .int 0, .long 0, .int (-1), .int 0, .int (-1)])), (q_7, .inl (k_8, 24, .inr (.inr (.inr (.inr (va_up fq_192 (23 : Int32).toNatClampNeg (some q_194))))))), (q_194, .inr (0, [.null, .int 0, .ref q_198, .ref q_199, .int 0]))] H := hP
                                                  have hD : va_D A [(k, .inr (2, [.ref q_1, .ref q_5, .ref q_7, .null, .int 0, .null, .int 0, .int 0, .int 0, .int 0, .long 0, .int (-1), .int 0, .int (-1)])), (q_7, .inl (k_8, 24, .inr (.inr (.inr (.inr (va_up fq_192 (23 : Int32).toNatClampNeg (some q_194))))))), (q_194, .inr (0, [.null, .int 0, .ref q_198, .ref q_199, .int 0]))] := hD
                                                  rw [← hfq] at hP hD
                                                  have hP : va_P (dC, dI) vwCl [(k, .inr (2, [.ref q_1, .ref q_5, .ref q_7, .null, .int 0, .null, .int 0, .int 0, .int 0, .int 0, .long 0, .int (-1), .int 0, .int (-1)])), (q_7, .inl (k_8, 24, .inr (.inr (.inr (.inr fq_200))))), (q_194, .inr (0, [.null, .int 0, .ref q_198, .ref q_199, .int 0]))] H := hP
                                                  have hD : va_D A [(k, .inr (2, [.ref q_1, .ref q_5, .ref q_7, .null, .int 0, .null, .int 0, .int 0, .int 0, .int 0, .long 0, .int (-1), .int 0, .int (-1)])), (q_7, .inl (k_8, 24, .inr (.inr (.inr (.inr fq_200))))), (q_194, .inr (0, [.null, .int 0, .ref q_198, .ref q_199, .int 0]))] := hD
                                                  refine lv_iinc (v := 24) (lv' := [(1, .int 24), (0, .ref k)]) hx hb d_K_init_63 hl (k := 0) rfl (by decide) (by decide) rfl (fun ls hl => ?_)
                                                  refine lv_goto (tgt := 44) hx hb d_K_init_66 (by decide) ?_
                                                  have hP := hP.sub (ws' := [(k, .inr (2, [.ref q_1, .ref q_5, .ref q_7, .null, .int 0, .null, .int 0, .int 0, .int 0, .int 0, .long 0, .int (-1), .int 0, .int (-1)])), (q_7, .inl (k_8, 24, .inr (.inr (.inr (.inr fq_200)))))]) [0, 1] rfl
                                                  have hD := hD.sub (ws' := [(k, .inr (2, [.ref q_1, .ref q_5, .ref q_7, .null, .int 0, .null, .int 0, .int 0, .int 0, .int 0, .long 0, .int (-1), .int 0, .int (-1)])), (q_7, .inl (k_8, 24, .inr (.inr (.inr (.inr fq_200)))))]) [0, 1] (by decide) rfl
                                                  have hK := hK.sub (tys' := [(k_8, .object "MapFramer$Call")]) [0] rfl
                                                  refine lv_iload_n hx hb d_K_init_44 rfl (lv_at hl 0 rfl) ?_
                                                  refine lv_bipush (v := 24) hx hb d_K_init_45 (by decide) ?_
                                                  refine lv_icmp_ge (tgt := 69) hx hb d_K_init_47 (by decide) (fun c_201 => ?_) (fun c_201 => ?_)
                                                  · skip
                                                    refine W.widen (k := 78) (n := 4640) (Nat.le_of_ble_eq_true rfl) (Nat.le_of_ble_eq_true rfl) ?_
                                                    exact W.vret hx hb hr (fun t ht hW => ⟨⟨(), rfl, trivial, q_1, q_5, q_7, by rw [ht]; exact hP.sub [0] rfl, va_K.moved hW.alike (hK.sub (tys' := []) [] rfl), hD.sub [0] (by decide) rfl⟩, hS.F ht⟩) hS.2.2 d_K_init_69
                                                  · skip
                                                    first | exact absurd c_201 (by decide) | exact absurd (by decide) c_201

abbrev ws_k_W_init (w : Nat) : va_W := [(w, .inr (3, [.null, .null, .null, .int 0, .null, .null, .null, .int 0, .null, .int 0]))]
set_option maxHeartbeats 4000000 in
set_option maxRecDepth 100000 in
theorem k_W_init (l : Launch) (dC : Nat → ClassId) (dI : Nat → Nat → Nat) (w : Nat) (sz : Nat) : Met l y_W_init (Cond.code y_W_init prog_12_method_1_code 1 none :: bigW) ({ frames := 1, cells := 7, slots := 104, locals := 12 } : Room) (va_Pc [.ref w] (fun U => U.heap.size = sz ∧ va_P (dC, dI) vwCl (ws_k_W_init w) U.heap ∧ va_K (dC, dI) vwCl [] U ∧ va_D (fun _ => True) (ws_k_W_init w) ∧ exP (va_A (ws_k_W_init w) sz) U)) (va_Qv (fun (u : Unit) => True) (fun _ t => ∃ (wp wu wi wc wt wx wm : Nat) (kp ku ki kc kt kx km : ClassId), va_P (dC, dI) vwCl [(w, .inr (3, [.ref wp, .ref wu, .ref wi, .int 2, .ref wc, .ref wt, .ref wx, .int 0, .ref wm, .int 0])), (wp, .inl (kp, 16, .inl (upd (upd (fun _ => 0) (0 : Int32).toNatClampNeg (-1)) (1 : Int32).toNatClampNeg 0))), (wu, .inl (ku, 16, .inl (upd (upd (fun _ => 0) (0 : Int32).toNatClampNeg 1) (1 : Int32).toNatClampNeg 3))), (wi, .inl (ki, 16, .inl (fun _ => 0))), (wc, .inl (kc, 16, .inl (fun _ => 0))), (wt, .inl (kt, 16, .inl (fun _ => 0))), (wx, .inl (kx, 16, .inl (fun _ => 0))), (wm, .inl (km, 8, .inr (.inr (.inr (.inr (fun _ => none))))))] t.heap ∧ va_K (dC, dI) vwCl [(kp, .int), (ku, .int), (ki, .boolean), (kc, .int), (kt, .int), (kx, .boolean), (km, .object "MapFramer$Method")] t ∧ va_D (va_A (ws_k_W_init w) sz) [(w, .inr (3, [.ref wp, .ref wu, .ref wi, .int 2, .ref wc, .ref wt, .ref wx, .int 0, .ref wm, .int 0])), (wp, .inl (kp, 16, .inl (upd (upd (fun _ => 0) (0 : Int32).toNatClampNeg (-1)) (1 : Int32).toNatClampNeg 0))), (wu, .inl (ku, 16, .inl (upd (upd (fun _ => 0) (0 : Int32).toNatClampNeg 1) (1 : Int32).toNatClampNeg 3))), (wi, .inl (ki, 16, .inl (fun _ => 0))), (wc, .inl (kc, 16, .inl (fun _ => 0))), (wt, .inl (kt, 16, .inl (fun _ => 0))), (wx, .inl (kx, 16, .inl (fun _ => 0))), (wm, .inl (km, 8, .inr (.inr (.inr (.inr (fun _ => none))))))]) (va_A (ws_k_W_init w) sz)) 7 104 (va_A (ws_k_W_init w) sz) := by
  refine Met.ofW (cc := prog_12_method_1_code) (maxL := 1) (ret := none) (by decide) rfl ?_
  intro p e s m args below meth cx s₁ B hml hv
  obtain ⟨rfl, hsz, hP, hK, hD0, hex⟩ := hv
  have hx := B.exec
  have hb := B.bytes
  have hr := B.returns
  have hts := atoms_spec (ws := (Cond.code y_W_init prog_12_method_1_code 1 none :: bigW)) B.pre
  have hsub : ∀ w ∈ bigW, w ∈ (Cond.code y_W_init prog_12_method_1_code 1 none :: bigW) := fun w h => List.mem_cons_of_mem _ h
  have hown : s.vm.findClass "MapFramer$World" = some m.cls := findClass_of_methodNamed B.named
  have hlocks := B.notSynchronized
  have hin : meth.name = "<init>" := (name_of_methodNamed B.named B.method).1
  subst hsz
  have hD := hD0.self (sz := s.heap.size)
  generalize hAe : va_A (ws_k_W_init w) s.heap.size = A at hD hex ⊢
  have hA : ∀ q : Nat, s.heap.size ≤ q → A q := fun q h => by rw [← hAe]; exact Or.inr h
  have hS : va_S A s.heap s.heap [] := va_S.rf
  have hP : va_P (dC, dI) vwCl [(w, .inr (3, [.null, .null, .null, .int 0, .null, .null, .null, .int 0, .null, .int 0]))] s.heap := hP
  have hD : va_D A [(w, .inr (3, [.null, .null, .null, .int 0, .null, .null, .null, .int 0, .null, .int 0]))] := hD
  have hl := lv_entry ([.ref w]) (n := 1) (Nat.le_of_ble_eq_true rfl)
  rw [lg_entry_eq]
  generalize (lg_sl ([.ref w]) ++ List.replicate (1 - (lg_sl ([.ref w])).length) Slot.unset).toArray = ls at hl ⊢
  have hl : lv_has ls 1 [(0, .ref w)] := hl
  have htb := hex.2.2.2.2.2.1
  refine lv_aload_n hx hb d_W_init_0 rfl (lv_at hl 0 rfl) ?_
  refine W.objInit hx hb hown (hts _ (hsub _ w_244)) (hts _ (hsub _ w_142)) (hts _ (hsub _ w_143)) rfl (by rw [hml]; exact hl.1) rfl d_W_init_1 (Nat.le_of_ble_eq_true rfl) (Nat.le_of_ble_eq_true rfl) ?_
  refine W.eq (g2 := F0 m 4 ls []) rfl ?_
  refine lv_aload_n hx hb d_W_init_4 rfl (lv_at hl 0 rfl) ?_
  refine lv_bipush (v := 16) hx hb d_W_init_5 (by decide) ?_
  refine va_newa (atype := .int) (ty := .int) (N' := 16) (a0 := (16, .inl (fun _ => 0))) hx hb (hts _ (hsub _ w_156)) rfl hK hP hD hS hA (fun _ => vz_i _ _) (by decide) (by decide) (Nat.le_of_ble_eq_true rfl) (Nat.le_of_ble_eq_true rfl) (Nat.le_of_ble_eq_true rfl) d_W_init_7 (fun q_1 k_2 H hK hP hD hS => ?_)
  have hK : va_K (dC, dI) vwCl [(k_2, .int)] s := hK
  have hP : va_P (dC, dI) vwCl [(w, .inr (3, [.null, .null, .null, .int 0, .null, .null, .null, .int 0, .null, .int 0])), (q_1, .inl (k_2, 16, .inl (fun _ => 0)))] H := hP
  have hD : va_D A [(w, .inr (3, [.null, .null, .null, .int 0, .null, .null, .null, .int 0, .null, .int 0])), (q_1, .inl (k_2, 16, .inl (fun _ => 0)))] := hD
  refine W.widen (k := 1) (n := 16) (Nat.le_of_ble_eq_true rfl) (Nat.le_of_ble_eq_true rfl) ?_
  refine va_putF (D := (dC, dI)) (ci := 3) (v := .ref q_1) (ty := (.array .int)) (C := R_W) (T := T_W) (N := 10) hx hb hts (fun w h => hsub w (uw_W w h)) ty_W tok_W nm_W hown hK hP hD hS 0 rfl rfl 0 (by decide) (hts _ (hsub _ w_132)) (fun _ h9 => h9) rfl hin rfl (by decide +kernel) rfl rfl (Nat.le_of_ble_eq_true rfl) d_W_init_9 (fun H locs hP hD hS => ?_)
  have hP : va_P (dC, dI) vwCl [(w, .inr (3, [.ref q_1, .null, .null, .int 0, .null, .null, .null, .int 0, .null, .int 0])), (q_1, .inl (k_2, 16, .inl (fun _ => 0)))] H := hP
  have hD : va_D A [(w, .inr (3, [.ref q_1, .null, .null, .int 0, .null, .null, .null, .int 0, .null, .int 0])), (q_1, .inl (k_2, 16, .inl (fun _ => 0)))] := hD
  refine lv_aload_n hx hb d_W_init_12 rfl (lv_at hl 0 rfl) ?_
  refine lv_bipush (v := 16) hx hb d_W_init_13 (by decide) ?_
  refine va_newa (atype := .int) (ty := .int) (N' := 16) (a0 := (16, .inl (fun _ => 0))) hx hb (hts _ (hsub _ w_156)) rfl hK hP hD hS hA (fun _ => vz_i _ _) (by decide) (by decide) (Nat.le_of_ble_eq_true rfl) (Nat.le_of_ble_eq_true rfl) (Nat.le_of_ble_eq_true rfl) d_W_init_15 (fun q_3 k_4 H hK hP hD hS => ?_)
  have hK : va_K (dC, dI) vwCl [(k_2, .int), (k_4, .int)] s := hK
  have hP : va_P (dC, dI) vwCl [(w, .inr (3, [.ref q_1, .null, .null, .int 0, .null, .null, .null, .int 0, .null, .int 0])), (q_1, .inl (k_2, 16, .inl (fun _ => 0))), (q_3, .inl (k_4, 16, .inl (fun _ => 0)))] H := hP
  have hD : va_D A [(w, .inr (3, [.ref q_1, .null, .null, .int 0, .null, .null, .null, .int 0, .null, .int 0])), (q_1, .inl (k_2, 16, .inl (fun _ => 0))), (q_3, .inl (k_4, 16, .inl (fun _ => 0)))] := hD
  refine W.widen (k := 2) (n := 32) (Nat.le_of_ble_eq_true rfl) (Nat.le_of_ble_eq_true rfl) ?_
  refine va_putF (D := (dC, dI)) (ci := 3) (v := .ref q_3) (ty := (.array .int)) (C := R_W) (T := T_W) (N := 10) hx hb hts (fun w h => hsub w (uw_W w h)) ty_W tok_W nm_W hown hK hP hD hS 0 rfl rfl 1 (by decide) (hts _ (hsub _ w_133)) (fun _ h9 => h9) rfl hin rfl (by decide +kernel) rfl rfl (Nat.le_of_ble_eq_true rfl) d_W_init_17 (fun H locs hP hD hS => ?_)
  have hP : va_P (dC, dI) vwCl [(w, .inr (3, [.ref q_1, .ref q_3, .null, .int 0, .null, .null, .null, .int 0, .null, .int 0])), (q_1, .inl (k_2, 16, .inl (fun _ => 0))), (q_3, .inl (k_4, 16, .inl (fun _ => 0)))] H := hP
  have hD : va_D A [(w, .inr (3, [.ref q_1, .ref q_3, .null, .int 0, .null, .null, .null, .int 0, .null, .int 0])), (q_1, .inl (k_2, 16, .inl (fun _ => 0))), (q_3, .inl (k_4, 16, .inl (fun _ => 0)))] := hD
  refine lv_aload_n hx hb d_W_init_20 rfl (lv_at hl 0 rfl) ?_
  refine lv_bipush (v := 16) hx hb d_W_init_21 (by decide) ?_
  refine va_newa (atype := .boolean) (ty := .boolean) (N' := 16) (a0 := (16, .inl (fun _ => 0))) hx hb (hts _ (hsub _ w_245)) rfl hK hP hD hS hA (fun _ => vz_z _ _) (by decide) (by decide) (Nat.le_of_ble_eq_true rfl) (Nat.le_of_ble_eq_true rfl) (Nat.le_of_ble_eq_true rfl) d_W_init_23 (fun q_5 k_6 H hK hP hD hS => ?_)
  have hK : va_K (dC, dI) vwCl [(k_2, .int), (k_4, .int), (k_6, .boolean)] s := hK
  have hP : va_P (dC, dI) vwCl [(w, .inr (3, [.ref q_1, .ref q_3, .null, .int 0, .null, .null, .null, .int 0, .null, .int 0])), (q_1, .inl (k_2, 16, .inl (fun _ => 0))), (q_3, .inl (k_4, 16, .inl (fun _ => 0))), (q_5, .inl (k_6, 16, .inl (fun _ => 0)))] H := hP
  have hD : va_D A [(w, .inr (3, [.ref q_1, .ref q_3, .null, .int 0, .null, .null, .null, .int 0, .null, .int 0])), (q_1, .inl (k_2, 16, .inl (fun _ => 0))), (q_3, .inl (k_4, 16, .inl (fun _ => 0))), (q_5, .inl (k_6, 16, .inl (fun _ => 0)))] := hD
  refine W.widen (k := 3) (n := 48) (Nat.le_of_ble_eq_true rfl) (Nat.le_of_ble_eq_true rfl) ?_
  refine va_putF (D := (dC, dI)) (ci := 3) (v := .ref q_5) (ty := (.array .boolean)) (C := R_W) (T := T_W) (N := 10) hx hb hts (fun w h => hsub w (uw_W w h)) ty_W tok_W nm_W hown hK hP hD hS 0 rfl rfl 2 (by decide) (hts _ (hsub _ w_6)) (fun _ h9 => h9) rfl hin rfl (by decide +kernel) rfl rfl (Nat.le_of_ble_eq_true rfl) d_W_init_25 (fun H locs hP hD hS => ?_)
  have hP : va_P (dC, dI) vwCl [(w, .inr (3, [.ref q_1, .ref q_3, .ref q_5, .int 0, .null, .null, .null, .int 0, .null, .int 0])), (q_1, .inl (k_2, 16, .inl (fun _ => 0))), (q_3, .inl (k_4, 16, .inl (fun _ => 0))), (q_5, .inl (k_6, 16, .inl (fun _ => 0)))] H := hP
  have hD : va_D A [(w, .inr (3, [.ref q_1, .ref q_3, .ref q_5, .int 0, .null, .null, .null, .int 0, .null, .int 0])), (q_1, .inl (k_2, 16, .inl (fun _ => 0))), (q_3, .inl (k_4, 16, .inl (fun _ => 0))), (q_5, .inl (k_6, 16, .inl (fun _ => 0)))] := hD
  refine lv_aload_n hx hb d_W_init_28 rfl (lv_at hl 0 rfl) ?_
  refine lv_bipush (v := 16) hx hb d_W_init_29 (by decide) ?_
  refine va_newa (atype := .int) (ty := .int) (N' := 16) (a0 := (16, .inl (fun _ => 0))) hx hb (hts _ (hsub _ w_156)) rfl hK hP hD hS hA (fun _ => vz_i _ _) (by decide) (by decide) (Nat.le_of_ble_eq_true rfl) (Nat.le_of_ble_eq_true rfl) (Nat.le_of_ble_eq_true rfl) d_W_init_31 (fun q_7 k_8 H hK hP hD hS => ?_)
  have hK : va_K (dC, dI) vwCl [(k_2, .int), (k_4, .int), (k_6, .boolean), (k_8, .int)] s := hK
  have hP : va_P (dC, dI) vwCl [(w, .inr (3, [.ref q_1, .ref q_3, .ref q_5, .int 0, .null, .null, .null, .int 0, .null, .int 0])), (q_1, .inl (k_2, 16, .inl (fun _ => 0))), (q_3, .inl (k_4, 16, .inl (fun _ => 0))), (q_5, .inl (k_6, 16, .inl (fun _ => 0))), (q_7, .inl (k_8, 16, .inl (fun _ => 0)))] H := hP
  have hD : va_D A [(w, .inr (3, [.ref q_1, .ref q_3, .ref q_5, .int 0, .null, .null, .null, .int 0, .null, .int 0])), (q_1, .inl (k_2, 16, .inl (fun _ => 0))), (q_3, .inl (k_4, 16, .inl (fun _ => 0))), (q_5, .inl (k_6, 16, .inl (fun _ => 0))), (q_7, .inl (k_8, 16, .inl (fun _ => 0)))] := hD
  refine W.widen (k := 4) (n := 64) (Nat.le_of_ble_eq_true rfl) (Nat.le_of_ble_eq_true rfl) ?_
  refine va_putF (D := (dC, dI)) (ci := 3) (v := .ref q_7) (ty := (.array .int)) (C := R_W) (T := T_W) (N := 10) hx hb hts (fun w h => hsub w (uw_W w h)) ty_W tok_W nm_W hown hK hP hD hS 0 rfl rfl 4 (by decide) (hts _ (hsub _ w_134)) (fun _ h9 => h9) rfl hin rfl (by decide +kernel) rfl rfl (Nat.le_of_ble_eq_true rfl) d_W_init_33 (fun H locs hP hD hS => ?_)
  have hP : va_P (dC, dI) vwCl [(w, .inr (3, [.ref q_1, .ref q_3, .ref q_5, .int 0, .ref q_7, .null, .null, .int 0, .null, .int 0])), (q_1, .inl (k_2, 16, .inl (fun _ => 0))), (q_3, .inl (k_4, 16, .inl (fun _ => 0))), (q_5, .inl (k_6, 16, .inl (fun _ => 0))), (q_7, .inl (k_8, 16, .inl (fun _ => 0)))] H := hP
  have hD : va_D A [(w, .inr (3, [.ref q_1, .ref q_3, .ref q_5, .int 0, .ref q_7, .null, .null, .int 0, .null, .int 0])), (q_1, .inl (k_2, 16, .inl (fun _ => 0))), (q_3, .inl (k_4, 16, .inl (fun _ => 0))), (q_5, .inl (k_6, 16, .inl (fun _ => 0))), (q_7, .inl (k_8, 16, .inl (fun _ => 0)))] := hD
  refine lv_aload_n hx hb d_W_init_36 rfl (lv_at hl 0 rfl) ?_
  refine lv_bipush (v := 16) hx hb d_W_init_37 (by decide) ?_
  refine va_newa (atype := .int) (ty := .int) (N' := 16) (a0 := (16, .inl (fun _ => 0))) hx hb (hts _ (hsub _ w_156)) rfl hK hP hD hS hA (fun _ => vz_i _ _) (by decide) (by decide) (Nat.le_of_ble_eq_true rfl) (Nat.le_of_ble_eq_true rfl) (Nat.le_of_ble_eq_true rfl) d_W_init_39 (fun q_9 k_10 H hK hP hD hS => ?_)
  have hK : va_K (dC, dI) vwCl [(k_2, .int), (k_4, .int), (k_6, .boolean), (k_8, .int), (k_10, .int)] s := hK
  have hP : va_P (dC, dI) vwCl [(w, .inr (3, [.ref q_1, .ref q_3, .ref q_5, .int 0, .ref q_7, .null, .null, .int 0, .null, .int 0])), (q_1, .inl (k_2, 16, .inl (fun _ => 0))), (q_3, .inl (k_4, 16, .inl (fun _ => 0))), (q_5, .inl (k_6, 16, .inl (fun _ => 0))), (q_7, .inl (k_8, 16, .inl (fun _ => 0))), (q_9, .inl (k_10, 16, .inl (fun _ => 0)))] H := hP
  have hD : va_D A [(w, .inr (3, [.ref q_1, .ref q_3, .ref q_5, .int 0, .ref q_7, .null, .null, .int 0, .null, .int 0])), (q_1, .inl (k_2, 16, .inl (fun _ => 0))), (q_3, .inl (k_4, 16, .inl (fun _ => 0))), (q_5, .inl (k_6, 16, .inl (fun _ => 0))), (q_7, .inl (k_8, 16, .inl (fun _ => 0))), (q_9, .inl (k_10, 16, .inl (fun _ => 0)))] := hD
  refine W.widen (k := 5) (n := 80) (Nat.le_of_ble_eq_true rfl) (Nat.le_of_ble_eq_true rfl) ?_
  refine va_putF (D := (dC, dI)) (ci := 3) (v := .ref q_9) (ty := (.array .int)) (C := R_W) (T := T_W) (N := 10) hx hb hts (fun w h => hsub w (uw_W w h)) ty_W tok_W nm_W hown hK hP hD hS 0 rfl rfl 5 (by decide) (hts _ (hsub _ w_136)) (fun _ h9 => h9) rfl hin rfl (by decide +kernel) rfl rfl (Nat.le_of_ble_eq_true rfl) d_W_init_41 (fun H locs hP hD hS => ?_)
  have hP : va_P (dC, dI) vwCl [(w, .inr (3, [.ref q_1, .ref q_3, .ref q_5, .int 0, .ref q_7, .ref q_9, .null, .int 0, .null, .int 0])), (q_1, .inl (k_2, 16, .inl (fun _ => 0))), (q_3, .inl (k_4, 16, .inl (fun _ => 0))), (q_5, .inl (k_6, 16, .inl (fun _ => 0))), (q_7, .inl (k_8, 16, .inl (fun _ => 0))), (q_9, .inl (k_10, 16, .inl (fun _ => 0)))] H := hP
  have hD : va_D A [(w, .inr (3, [.ref q_1, .ref q_3, .ref q_5, .int 0, .ref q_7, .ref q_9, .null, .int 0, .null, .int 0])), (q_1, .inl (k_2, 16, .inl (fun _ => 0))), (q_3, .inl (k_4, 16, .inl (fun _ => 0))), (q_5, .inl (k_6, 16, .inl (fun _ => 0))), (q_7, .inl (k_8, 16, .inl (fun _ => 0))), (q_9, .inl (k_10, 16, .inl (fun _ => 0)))] := hD
  refine lv_aload_n hx hb d_W_init_44 rfl (lv_at hl 0 rfl) ?_
  refine lv_bipush (v := 16) hx hb d_W_init_45 (by decide) ?_
  refine va_newa (atype := .boolean) (ty := .boolean) (N' := 16) (a0 := (16, .inl (fun _ => 0))) hx hb (hts _ (hsub _ w_245)) rfl hK hP hD hS hA (fun _ => vz_z _ _) (by decide) (by decide) (Nat.le_of_ble_eq_true rfl) (Nat.le_of_ble_eq_true rfl) (Nat.le_of_ble_eq_true rfl) d_W_init_47 (fun q_11 k_12 H hK hP hD hS => ?_)
  have hK : va_K (dC, dI) vwCl [(k_2, .int), (k_4, .int), (k_6, .boolean), (k_8, .int), (k_10, .int), (k_12, .boolean)] s := hK
  have hP : va_P (dC, dI) vwCl [(w, .inr (3, [.ref q_1, .ref q_3, .ref q_5, .int 0, .ref q_7, .ref q_9, .null, .int 0, .null, .int 0])), (q_1, .inl (k_2, 16, .inl (fun _ => 0))), (q_3, .inl (k_4, 16, .inl (fun _ => 0))), (q_5, .inl (k_6, 16, .inl (fun _ => 0))), (q_7, .inl (k_8, 16, .inl (fun _ => 0))), (q_9, .inl (k_10, 16, .inl (fun _ => 0))), (q_11, .inl (k_12, 16, .inl (fun _ => 0)))] H := hP
  have hD : va_D A [(w, .inr (3, [.ref q_1, .ref q_3, .ref q_5, .int 0, .ref q_7, .ref q_9, .null, .int 0, .null, .int 0])), (q_1, .inl (k_2, 16, .inl (fun _ => 0))), (q_3, .inl (k_4, 16, .inl (fun _ => 0))), (q_5, .inl (k_6, 16, .inl (fun _ => 0))), (q_7, .inl (k_8, 16, .inl (fun _ => 0))), (q_9, .inl (k_10, 16, .inl (fun _ => 0))), (q_11, .inl (k_12, 16, .inl (fun _ => 0)))] := hD
  refine W.widen (k := 6) (n := 96) (Nat.le_of_ble_eq_true rfl) (Nat.le_of_ble_eq_true rfl) ?_
  refine va_putF (D := (dC, dI)) (ci := 3) (v := .ref q_11) (ty := (.array .boolean)) (C := R_W) (T := T_W) (N := 10) hx hb hts (fun w h => hsub w (uw_W w h)) ty_W tok_W nm_W hown hK hP hD hS 0 rfl rfl 6 (by decide) (hts _ (hsub _ w_137)) (fun _ h9 => h9) rfl hin rfl (by decide +kernel) rfl rfl (Nat.le_of_ble_eq_true rfl) d_W_init_49 (fun H locs hP hD hS => ?_)
  have hP : va_P (dC, dI) vwCl [(w, .inr (3, [.ref q_1, .ref q_3, .ref q_5, .int 0, .ref q_7, .ref q_9, .ref q_11, .int 0, .null, .int 0])), (q_1, .inl (k_2, 16, .inl (fun _ => 0))), (q_3, .inl (k_4, 16, .inl (fun _ => 0))), (q_5, .inl (k_6, 16, .inl (fun _ => 0))), (q_7, .inl (k_8, 16, .inl (fun _ => 0))), (q_9, .inl (k_10, 16, .inl (fun _ => 0))), (q_11, .inl (k_12, 16, .inl (fun _ => 0)))] H := hP
  have hD : va_D A [(w, .inr (3, [.ref q_1, .ref q_3, .ref q_5, .int 0, .ref q_7, .ref q_9, .ref q_11, .int 0, .null, .int 0])), (q_1, .inl (k_2, 16, .inl (fun _ => 0))), (q_3, .inl (k_4, 16, .inl (fun _ => 0))), (q_5, .inl (k_6, 16, .inl (fun _ => 0))), (q_7, .inl (k_8, 16, .inl (fun _ => 0))), (q_9, .inl (k_10, 16, .inl (fun _ => 0))), (q_11, .inl (k_12, 16, .inl (fun _ => 0)))] := hD
  refine lv_aload_n hx hb d_W_init_52 rfl (lv_at hl 0 rfl) ?_
  refine lv_bipush (v := 8) hx hb d_W_init_53 (by decide) ?_
  refine va_newq (N' := 8) hx hb hown (hts _ (hsub _ w_175)) htb.2.2.1 hK hP hD hS hA (by decide) (by decide) (Nat.le_of_ble_eq_true rfl) (Nat.le_of_ble_eq_true rfl) (Nat.le_of_ble_eq_true rfl) d_W_init_55 (fun q_13 k_14 H hK hP hD hS => ?_)
  have hK : va_K (dC, dI) vwCl [(k_2, .int), (k_4, .int), (k_6, .boolean), (k_8, .int), (k_10, .int), (k_12, .boolean), (k_14, .object "MapFramer$Method")] s := hK
  have hP : va_P (dC, dI) vwCl [(w, .inr (3, [.ref q_1, .ref q_3, .ref q_5, .int 0, .ref q_7, .ref q_9, .ref q_11, .int 0, .null, .int 0])), (q_1, .inl (k_2, 16, .inl (fun _ => 0))), (q_3, .inl (k_4, 16, .inl (fun _ => 0))), (q_5, .inl (k_6, 16, .inl (fun _ => 0))), (q_7, .inl (k_8, 16, .inl (fun _ => 0))), (q_9, .inl (k_10, 16, .inl (fun _ => 0))), (q_11, .inl (k_12, 16, .inl (fun _ => 0))), (q_13, .inl (k_14, 8, .inr (.inr (.inr (.inr (fun _ => none))))))] H := hP
  have hD : va_D A [(w, .inr (3, [.ref q_1, .ref q_3, .ref q_5, .int 0, .ref q_7, .ref q_9, .ref q_11, .int 0, .null, .int 0])), (q_1, .inl (k_2, 16, .inl (fun _ => 0))), (q_3, .inl (k_4, 16, .inl (fun _ => 0))), (q_5, .inl (k_6, 16, .inl (fun _ => 0))), (q_7, .inl (k_8, 16, .inl (fun _ => 0))), (q_9, .inl (k_10, 16, .inl (fun _ => 0))), (q_11, .inl (k_12, 16, .inl (fun _ => 0))), (q_13, .inl (k_14, 8, .inr (.inr (.inr (.inr (fun _ => none))))))] := hD
  refine W.widen (k := 7) (n := 104) (Nat.le_of_ble_eq_true rfl) (Nat.le_of_ble_eq_true rfl) ?_
  refine va_putF (D := (dC, dI)) (ci := 3) (v := .ref q_13) (ty := (.array (.object "MapFramer$Method"))) (C := R_W) (T := T_W) (N := 10) hx hb hts (fun w h => hsub w (uw_W w h)) ty_W tok_W nm_W hown hK hP hD hS 0 rfl rfl 8 (by decide) (hts _ (hsub _ w_174)) (fun _ h9 => h9) rfl hin rfl (by decide +kernel) rfl rfl (Nat.le_of_ble_eq_true rfl) d_W_init_58 (fun H locs hP hD hS => ?_)
  have hP : va_P (dC, dI) vwCl [(w, .inr (3, [.ref q_1, .ref q_3, .ref q_5, .int 0, .ref q_7, .ref q_9, .ref q_11, .int 0, .ref q_13, .int 0])), (q_1, .inl (k_2, 16, .inl (fun _ => 0))), (q_3, .inl (k_4, 16, .inl (fun _ => 0))), (q_5, .inl (k_6, 16, .inl (fun _ => 0))), (q_7, .inl (k_8, 16, .inl (fun _ => 0))), (q_9, .inl (k_10, 16, .inl (fun _ => 0))), (q_11, .inl (k_12, 16, .inl (fun _ => 0))), (q_13, .inl (k_14, 8, .inr (.inr (.inr (.inr (fun _ => none))))))] H := hP
  have hD : va_D A [(w, .inr (3, [.ref q_1, .ref q_3, .ref q_5, .int 0, .ref q_7, .ref q_9, .ref q_11, .int 0, .ref q_13, .int 0])), (q_1, .inl (k_2, 16, .inl (fun _ => 0))), (q_3, .inl (k_4, 16, .inl (fun _ => 0))), (q_5, .inl (k_6, 16, .inl (fun _ => 0))), (q_7, .inl (k_8, 16, .inl (fun _ => 0))), (q_9, .inl (k_10, 16, .inl (fun _ => 0))), (q_11, .inl (k_12, 16, .inl (fun _ => 0))), (q_13, .inl (k_14, 8, .inr (.inr (.inr (.inr (fun _ => none))))))] := hD
  refine lv_aload_n hx hb d_W_init_61 rfl (lv_at hl 0 rfl) ?_
  refine va_get (D := (dC, dI)) (ci := 3) (v := .ref q_1) (C := R_W) (T := T_W) (N := 10) hx hb hts (fun w h => hsub w (uw_W w h)) hown hK hP 0 rfl rfl 0 (by decide) (hts _ (hsub _ w_132)) (fun _ h9 => h9) rfl d_W_init_62 ?_
  refine lv_iconst (v := 0) hx hb d_W_init_65 (by decide) ?_
  refine lv_iconst (v := (-1)) hx hb d_W_init_66 (by decide) ?_
  refine va_iast hx hb hK hP hD hS 1 0 rfl rfl (vp_in_iff.mpr (by decide)) d_W_init_67 (fun H locs hP hD hS => ?_)
  have hP : va_P (dC, dI) vwCl [(w, .inr (3, [.ref q_1, .ref q_3, .ref q_5, .int 0, .ref q_7, .ref q_9, .ref q_11, .int 0, .ref q_13, .int 0])), (q_1, .inl (k_2, 16, .inl (upd (fun _ => 0) (0 : Int32).toNatClampNeg (-1)))), (q_3, .inl (k_4, 16, .inl (fun _ => 0))), (q_5, .inl (k_6, 16, .inl (fun _ => 0))), (q_7, .inl (k_8, 16, .inl (fun _ => 0))), (q_9, .inl (k_10, 16, .inl (fun _ => 0))), (q_11, .inl (k_12, 16, .inl (fun _ => 0))), (q_13, .inl (k_14, 8, .inr (.inr (.inr (.inr (fun _ => none))))))] H := hP
  have hD : va_D A [(w, .inr (3, [.ref q_1, .ref q_3, .ref q_5, .int 0, .ref q_7, .ref q_9, .ref q_11, .int 0, .ref q_13, .int 0])), (q_1, .inl (k_2, 16, .inl (upd (fun _ => 0) (0 : Int32).toNatClampNeg (-1)))), (q_3, .inl (k_4, 16, .inl (fun _ => 0))), (q_5, .inl (k_6, 16, .inl (fun _ => 0))), (q_7, .inl (k_8, 16, .inl (fun _ => 0))), (q_9, .inl (k_10, 16, .inl (fun _ => 0))), (q_11, .inl (k_12, 16, .inl (fun _ => 0))), (q_13, .inl (k_14, 8, .inr (.inr (.inr (.inr (fun _ => none))))))] := hD
  refine lv_aload_n hx hb d_W_init_68 rfl (lv_at hl 0 rfl) ?_
  refine va_get (D := (dC, dI)) (ci := 3) (v := .ref q_3) (C := R_W) (T := T_W) (N := 10) hx hb hts (fun w h => hsub w (uw_W w h)) hown hK hP 0 rfl rfl 1 (by decide) (hts _ (hsub _ w_133)) (fun _ h9 => h9) rfl d_W_init_69 ?_
  refine lv_iconst (v := 0) hx hb d_W_init_72 (by decide) ?_
  refine lv_iconst (v := 1) hx hb d_W_init_73 (by decide) ?_
  refine va_iast hx hb hK hP hD hS 2 1 rfl rfl (vp_in_iff.mpr (by decide)) d_W_init_74 (fun H locs hP hD hS => ?_)
  have hP : va_P (dC, dI) vwCl [(w, .inr (3, [.ref q_1, .ref q_3, .ref q_5, .int 0, .ref q_7, .ref q_9, .ref q_11, .int 0, .ref q_13, .int 0])), (q_1, .inl (k_2, 16, .inl (upd (fun _ => 0) (0 : Int32).toNatClampNeg (-1)))), (q_3, .inl (k_4, 16, .inl (upd (fun _ => 0) (0 : Int32).toNatClampNeg 1))), (q_5, .inl (k_6, 16, .inl (fun _ => 0))), (q_7, .inl (k_8, 16, .inl (fun _ => 0))), (q_9, .inl (k_10, 16, .inl (fun _ => 0))), (q_11, .inl (k_12, 16, .inl (fun _ => 0))), (q_13, .inl (k_14, 8, .inr (.inr (.inr (.inr (fun _ => none))))))] H := hP
  have hD : va_D A [(w, .inr (3, [.ref q_1, .ref q_3, .ref q_5, .int 0, .ref q_7, .ref q_9, .ref q_11, .int 0, .ref q_13, .int 0])), (q_1, .inl (k_2, 16, .inl (upd (fun _ => 0) (0 : Int32).toNatClampNeg (-1)))), (q_3, .inl (k_4, 16, .inl (upd (fun _ => 0) (0 : Int32).toNatClampNeg 1))), (q_5, .inl (k_6, 16, .inl (fun _ => 0))), (q_7, .inl (k_8, 16, .inl (fun _ => 0))), (q_9, .inl (k_10, 16, .inl (fun _ => 0))), (q_11, .inl (k_12, 16, .inl (fun _ => 0))), (q_13, .inl (k_14, 8, .inr (.inr (.inr (.inr (fun _ => none))))))] := hD
  refine lv_aload_n hx hb d_W_init_75 rfl (lv_at hl 0 rfl) ?_
  refine va_get (D := (dC, dI)) (ci := 3) (v := .ref q_1) (C := R_W) (T := T_W) (N := 10) hx hb hts (fun w h => hsub w (uw_W w h)) hown hK hP 0 rfl rfl 0 (by decide) (hts _ (hsub _ w_132)) (fun _ h9 => h9) rfl d_W_init_76 ?_
  refine lv_iconst (v := 1) hx hb d_W_init_79 (by decide) ?_
  refine lv_iconst (v := 0) hx hb d_W_init_80 (by decide) ?_
  refine va_iast hx hb hK hP hD hS 1 0 rfl rfl (vp_in_iff.mpr (by decide)) d_W_init_81 (fun H locs hP hD hS => ?_)
  have hP : va_P (dC, dI) vwCl [(w, .inr (3, [.ref q_1, .ref q_3, .ref q_5, .int 0, .ref q_7, .ref q_9, .ref q_11, .int 0, .ref q_13, .int 0])), (q_1, .inl (k_2, 16, .inl (upd (upd (fun _ => 0) (0 : Int32).toNatClampNeg (-1)) (1 : Int32).toNatClampNeg 0))), (q_3, .inl (k_4, 16, .inl (upd (fun _ => 0) (0 : Int32).toNatClampNeg 1))), (q_5, .inl (k_6, 16, .inl (fun _ => 0))), (q_7, .inl (k_8, 16, .inl (fun _ => 0))), (q_9, .inl (k_10, 16, .inl (fun _ => 0))), (q_11, .inl (k_12, 16, .inl (fun _ => 0))), (q_13, .inl (k_14, 8, .inr (.inr (.inr (.inr (fun _ => none))))))] H := hP
  have hD : va_D A [(w, .inr (3, [.ref q_1, .ref q_3, .ref q_5, .int 0, .ref q_7, .ref q_9, .ref q_11, .int 0, .ref q_13, .int 0])), (q_1, .inl (k_2, 16, .inl (upd (upd (fun _ => 0) (0 : Int32).toNatClampNeg (-1)) (1 : Int32).toNatClampNeg 0))), (q_3, .inl (k_4, 16, .inl (upd (fun _ => 0) (0 : Int32).toNatClampNeg 1))), (q_5, .inl (k_6, 16, .inl (fun _ => 0))), (q_7, .inl (k_8, 16, .inl (fun _ => 0))), (q_9, .inl (k_10, 16, .inl (fun _ => 0))), (q_11, .inl (k_12, 16, .inl (fun _ => 0))), (q_13, .inl (k_14, 8, .inr (.inr (.inr (.inr (fun _ => none))))))] := hD
  refine lv_aload_n hx hb d_W_init_82 rfl (lv_at hl 0 rfl) ?_
  refine va_get (D := (dC, dI)) (ci := 3) (v := .ref q_3) (C := R_W) (T := T_W) (N := 10) hx hb hts (fun w h => hsub w (uw_W w h)) hown hK hP 0 rfl rfl 1 (by decide) (hts _ (hsub _ w_133)) (fun _ h9 => h9) rfl d_W_init_83 ?_
  refine lv_iconst (v := 1) hx hb d_W_init_86 (by decide) ?_
  refine lv_iconst (v := 3) hx hb d_W_init_87 (by decide) ?_
  refine va_iast hx hb hK hP hD hS 2 1 rfl rfl (vp_in_iff.mpr (by decide)) d_W_init_88 (fun H locs hP hD hS => ?_)
  have hP : va_P (dC, dI) vwCl [(w, .inr (3, [.ref q_1, .ref q_3, .ref q_5, .int 0, .ref q_7, .ref q_9, .ref q_11, .int 0, .ref q_13, .int 0])), (q_1, .inl (k_2, 16, .inl (upd (upd (fun _ => 0) (0 : Int32).toNatClampNeg (-1)) (1 : Int32).toNatClampNeg 0))), (q_3, .inl (k_4, 16, .inl (upd (upd (fun _ => 0) (0 : Int32).toNatClampNeg 1) (1 : Int32).toNatClampNeg 3))), (q_5, .inl (k_6, 16, .inl (fun _ => 0))), (q_7, .inl (k_8, 16, .inl (fun _ => 0))), (q_9, .inl (k_10, 16, .inl (fun _ => 0))), (q_11, .inl (k_12, 16, .inl (fun _ => 0))), (q_13, .inl (k_14, 8, .inr (.inr (.inr (.inr (fun _ => none))))))] H := hP
  have hD : va_D A [(w, .inr (3, [.ref q_1, .ref q_3, .ref q_5, .int 0, .ref q_7, .ref q_9, .ref q_11, .int 0, .ref q_13, .int 0])), (q_1, .inl (k_2, 16, .inl (upd (upd (fun _ => 0) (0 : Int32).toNatClampNeg (-1)) (1 : Int32).toNatClampNeg 0))), (q_3, .inl (k_4, 16, .inl (upd (upd (fun _ => 0) (0 : Int32).toNatClampNeg 1) (1 : Int32).toNatClampNeg 3))), (q_5, .inl (k_6, 16, .inl (fun _ => 0))), (q_7, .inl (k_8, 16, .inl (fun _ => 0))), (q_9, .inl (k_10, 16, .inl (fun _ => 0))), (q_11, .inl (k_12, 16, .inl (fun _ => 0))), (q_13, .inl (k_14, 8, .inr (.inr (.inr (.inr (fun _ => none))))))] := hD
  refine lv_aload_n hx hb d_W_init_89 rfl (lv_at hl 0 rfl) ?_
  refine lv_iconst (v := 2) hx hb d_W_init_90 (by decide) ?_
  refine va_put (D := (dC, dI)) (ci := 3) (v := .int 2) (ty := .int) (C := R_W) (T := T_W) (N := 10) hx hb hts (fun w h => hsub w (uw_W w h)) ty_W tok_W nm_W hown hK hP hD hS 0 rfl rfl 3 (by decide) (hts _ (hsub _ w_0)) (fun _ h9 => h9) rfl (by decide +kernel) rfl rfl (Nat.le_of_ble_eq_true rfl) d_W_init_91 (fun H locs hP hD hS => ?_)
  have hP : va_P (dC, dI) vwCl [(w, .inr (3, [.ref q_1, .ref q_3, .ref q_5, .int 2, .ref q_7, .ref q_9, .ref q_11, .int 0, .ref q_13, .int 0])), (q_1, .inl (k_2, 16, .inl (upd (upd (fun _ => 0) (0 : Int32).toNatClampNeg (-1)) (1 : Int32).toNatClampNeg 0))), (q_3, .inl (k_4, 16, .inl (upd (upd (fun _ => 0) (0 : Int32).toNatClampNeg 1) (1 : Int32).toNatClampNeg 3))), (q_5, .inl (k_6, 16, .inl (fun _ => 0))), (q_7, .inl (k_8, 16, .inl (fun _ => 0))), (q_9, .inl (k_10, 16, .inl (fun _ => 0))), (q_11, .inl (k_12, 16, .inl (fun _ => 0))), (q_13, .inl (k_14, 8, .inr (.inr (.inr (.inr (fun _ => none))))))] H := hP
  have hD : va_D A [(w, .inr (3, [.ref q_1, .ref q_3, .ref q_5, .int 2, .ref q_7, .ref q_9, .ref q_11, .int 0, .ref q_13, .int 0])), (q_1, .inl (k_2, 16, .inl (upd (upd (fun _ => 0) (0 : Int32).toNatClampNeg (-1)) (1 : Int32).toNatClampNeg 0))), (q_3, .inl (k_4, 16, .inl (upd (upd (fun _ => 0) (0 : Int32).toNatClampNeg 1) (1 : Int32).toNatClampNeg 3))), (q_5, .inl (k_6, 16, .inl (fun _ => 0))), (q_7, .inl (k_8, 16, .inl (fun _ => 0))), (q_9, .inl (k_10, 16, .inl (fun _ => 0))), (q_11, .inl (k_12, 16, .inl (fun _ => 0))), (q_13, .inl (k_14, 8, .inr (.inr (.inr (.inr (fun _ => none))))))] := hD
  refine W.widen (k := 7) (n := 104) (Nat.le_of_ble_eq_true rfl) (Nat.le_of_ble_eq_true rfl) ?_
  exact W.vret hx hb hr (fun t ht hW => ⟨⟨(), rfl, trivial, q_1, q_3, q_5, q_7, q_9, q_11, q_13, k_2, k_4, k_6, k_8, k_10, k_12, k_14, by rw [ht]; exact hP, va_K.moved hW.alike hK, hD⟩, hS.F ht⟩) hS.2.2 d_W_init_94

abbrev ws_k_F_init (f : Nat) : va_W := [(f, .inr (4, [.null, .null, .null, .int 0]))]
set_option maxHeartbeats 4000000 in
set_option maxRecDepth 100000 in
theorem k_F_init (l : Launch) (dC : Nat → ClassId) (dI : Nat → Nat → Nat) (f : Nat) (sz : Nat) : Met l y_F_init (Cond.code y_F_init prog_1_method_1_code 1 none :: bigW) ({ frames := 3, cells := 88, slots := 5168, locals := 53 } : Room) (va_Pc [.ref f] (fun U => U.heap.size = sz ∧ va_P (dC, dI) vwCl (ws_k_F_init f) U.heap ∧ va_K (dC, dI) vwCl [] U ∧ va_D (fun _ => True) (ws_k_F_init f) ∧ exP (va_A (ws_k_F_init f) sz) U)) (va_Qv (fun (u : Unit) => True) (fun _ t => ∃ (w wp wu wi wc wt wx wm k kh ks kc9 tp : Nat) (kp ku ki kc kt kx km kt9 : ClassId), va_P (dC, dI) vwCl [(f, .inr (4, [.ref w, .ref k, .ref tp, .int 0])), (w, .inr (3, [.ref wp, .ref wu, .ref wi, .int 2, .ref wc, .ref wt, .ref wx, .int 0, .ref wm, .int 0])), (wp, .inl (kp, 16, .inl (upd (upd (fun _ => 0) (0 : Int32).toNatClampNeg (-1)) (1 : Int32).toNatClampNeg 0))), (wu, .inl (ku, 16, .inl (upd (upd (fun _ => 0) (0 : Int32).toNatClampNeg 1) (1 : Int32).toNatClampNeg 3))), (wi, .inl (ki, 16, .inl (fun _ => 0))), (wc, .inl (kc, 16, .inl (fun _ => 0))), (wt, .inl (kt, 16, .inl (fun _ => 0))), (wx, .inl (kx, 16, .inl (fun _ => 0))), (wm, .inl (km, 8, .inr (.inr (.inr (.inr (fun _ => none)))))), (k, .inr (2, [.ref kh, .ref ks, .ref kc9, .null, .int 0, .null, .int 0, .int 0, .int 0, .int 0, .long 0, .int (-1), .int 0, .int (-1)])), (tp, .inl (kt9, 400, .inl (fun _ => 0)))] t.heap ∧ va_K (dC, dI) vwCl [(kp, .int), (ku, .int), (ki, .boolean), (kc, .int), (kt, .int), (kx, .boolean), (km, .object "MapFramer$Method"), (kt9, .int)] t ∧ va_D (va_A (ws_k_F_init f) sz) [(f, .inr (4, [.ref w, .ref k, .ref tp, .int 0])), (w, .inr (3, [.ref wp, .ref wu, .ref wi, .int 2, .ref wc, .ref wt, .ref wx, .int 0, .ref wm, .int 0])), (wp, .inl (kp, 16, .inl (upd (upd (fun _ => 0) (0 : Int32).toNatClampNeg (-1)) (1 : Int32).toNatClampNeg 0))), (wu, .inl (ku, 16, .inl (upd (upd (fun _ => 0) (0 : Int32).toNatClampNeg 1) (1 : Int32).toNatClampNeg 3))), (wi, .inl (ki, 16, .inl (fun _ => 0))), (wc, .inl (kc, 16, .inl (fun _ => 0))), (wt, .inl (kt, 16, .inl (fun _ => 0))), (wx, .inl (kx, 16, .inl (fun _ => 0))), (wm, .inl (km, 8, .inr (.inr (.inr (.inr (fun _ => none)))))), (k, .inr (2, [.ref kh, .ref ks, .ref kc9, .null, .int 0, .null, .int 0, .int 0, .int 0, .int 0, .long 0, .int (-1), .int 0, .int (-1)])), (tp, .inl (kt9, 400, .inl (fun _ => 0)))]) (va_A (ws_k_F_init f) sz)) 88 5168 (va_A (ws_k_F_init f) sz) := by
  refine Met.ofW (cc := prog_1_method_1_code) (maxL := 1) (ret := none) (by decide) rfl ?_
  intro p e s m args below meth cx s₁ B hml hv
  obtain ⟨rfl, hsz, hP, hK, hD0, hex⟩ := hv
  have hx := B.exec
  have hb := B.bytes
  have hr := B.returns
  have hts := atoms_spec (ws := (Cond.code y_F_init prog_1_method_1_code 1 none :: bigW)) B.pre
  have hsub : ∀ w ∈ bigW, w ∈ (Cond.code y_F_init prog_1_method_1_code 1 none :: bigW) := fun w h => List.mem_cons_of_mem _ h
  have hown : s.vm.findClass "MapFramer" = some m.cls := findClass_of_methodNamed B.named
  have hlocks := B.notSynchronized
  have hin : meth.name = "<init>" := (name_of_methodNamed B.named B.method).1
  subst hsz
  have hD := hD0.self (sz := s.heap.size)
  generalize hAe : va_A (ws_k_F_init f) s.heap.size = A at hD hex ⊢
  have hA : ∀ q : Nat, s.heap.size ≤ q → A q := fun q h => by rw [← hAe]; exact Or.inr h
  have hS : va_S A s.heap s.heap [] := va_S.rf
  have hP : va_P (dC, dI) vwCl [(f, .inr (4, [.null, .null, .null, .int 0]))] s.heap := hP
  have hD : va_D A [(f, .inr (4, [.null, .null, .null, .int 0]))] := hD
  have hl := lv_entry ([.ref f]) (n := 1) (Nat.le_of_ble_eq_true rfl)
  rw [lg_entry_eq]
  generalize (lg_sl ([.ref f]) ++ List.replicate (1 - (lg_sl ([.ref f])).length) Slot.unset).toArray = ls at hl ⊢
  have hl : lv_has ls 1 [(0, .ref f)] := hl
  have htb := hex.2.2.2.2.2.1
  refine lv_aload_n hx hb d_F_init_0 rfl (lv_at hl 0 rfl) ?_
  refine W.objInit hx hb hown (hts _ (hsub _ w_246)) (hts _ (hsub _ w_142)) (hts _ (hsub _ w_143)) rfl (by rw [hml]; exact hl.1) rfl d_F_init_1 (Nat.le_of_ble_eq_true rfl) (Nat.le_of_ble_eq_true rfl) ?_
  refine W.eq (g2 := F0 m 4 ls []) rfl ?_
  refine lv_aload_n hx hb d_F_init_4 rfl (lv_at hl 0 rfl) ?_
  refine va_new (ci := 3) (fs := [.null, .null, .null, .int 0, .null, .null, .null, .int 0, .null, .int 0]) (C := R_W) (T := T_W) (N := 10) hx hb hts (fun w h => hsub w (uw_W w h)) ty_W tok_W hown (hts _ (hsub _ w_247)) (hts _ (hsub _ w_248)) (hts _ (hsub _ w_4)) hK hP hD hS hA rfl (fun j hj => df_W j hj) (Nat.le_of_ble_eq_true rfl) (Nat.le_of_ble_eq_true rfl) d_F_init_5 (fun q_1 H hP hD hS => ?_)
  have hP : va_P (dC, dI) vwCl [(f, .inr (4, [.null, .null, .null, .int 0])), (q_1, .inr (3, [.null, .null, .null, .int 0, .null, .null, .null, .int 0, .null, .int 0]))] H := hP
  have hD : va_D A [(f, .inr (4, [.null, .null, .null, .int 0])), (q_1, .inr (3, [.null, .null, .null, .int 0, .null, .null, .null, .int 0, .null, .int 0]))] := hD
  refine W.widen (k := 1) (n := 10) (Nat.le_of_ble_eq_true rfl) (Nat.le_of_ble_eq_true rfl) ?_
  refine lv_dup hx hb d_F_init_8 rfl ?_
  have hPc := hP.sub (ws' := [(q_1, .inr (3, [.null, .null, .null, .int 0, .null, .null, .null, .int 0, .null, .int 0]))]) [1] rfl
  have hKc := hK.sub (tys' := []) [] rfl
  have hDc := hD.sub (ws' := [(q_1, .inr (3, [.null, .null, .null, .int 0, .null, .null, .null, .int 0, .null, .int 0]))]) [1] (by decide) rfl
  have hFc := va_free (wc := [(q_1, .inr (3, [.null, .null, .null, .int 0, .null, .null, .null, .int 0, .null, .int 0]))]) hD hS hA [1] rfl
  refine va_callv (va_runI (As := []) (rest := [.ref q_1, .ref f]) ⟨hx, hb, hml, hown, hts⟩ (k_W_init l dC dI q_1 H.size) (cwI 0 hts (gC hsub w_250) rfl rfl rfl (hts _ (hsub _ w_4)) (hts _ (hsub _ w_249)) (hts _ (hsub _ w_251)) rfl (by decide +kernel) ⟨Nat.le_of_ble_eq_true rfl, Nat.le_of_ble_eq_true rfl⟩) ⟨bl_1010, fun U hU hW => ⟨rfl, by rw [hU], by rw [hU]; exact hPc, va_K.moved hW.alike hKc, hDc.weaken (fun _ _ _ _ => trivial), exP_go hex hS (fun q h => hFc q h) U hU hW⟩⟩ rfl rfl hl.1 rfl (lv_room (Nat.le_of_ble_eq_true rfl)) d_F_init_9 ⟨Nat.le_of_ble_eq_true rfl, Nat.le_of_ble_eq_true rfl⟩) hS (fun q _ h => hFc q h) hFc (fun u_4 t H1 locs ht hvm hw hB hz1 hk1 hS => ?_)
  obtain ⟨a_5, a_6, a_7, a_8, a_9, a_10, a_11, k_12, k_13, k_14, k_15, k_16, k_17, k_18, hP1, hK1, hD1⟩ := hB
  rw [ht] at hP1
  have hK1 := va_K.moved hvm.symm hK1
  obtain ⟨hP, hD⟩ := va_join (wr := [(f, .inr (4, [.null, .null, .null, .int 0]))]) (w1 := [(q_1, .inr (3, [.ref a_5, .ref a_6, .ref a_7, .int 2, .ref a_8, .ref a_9, .ref a_10, .int 0, .ref a_11, .int 0])), (a_5, .inl (k_12, 16, .inl (upd (upd (fun _ => 0) (0 : Int32).toNatClampNeg (-1)) (1 : Int32).toNatClampNeg 0))), (a_6, .inl (k_13, 16, .inl (upd (upd (fun _ => 0) (0 : Int32).toNatClampNeg 1) (1 : Int32).toNatClampNeg 3))), (a_7, .inl (k_14, 16, .inl (fun _ => 0))), (a_8, .inl (k_15, 16, .inl (fun _ => 0))), (a_9, .inl (k_16, 16, .inl (fun _ => 0))), (a_10, .inl (k_17, 16, .inl (fun _ => 0))), (a_11, .inl (k_18, 8, .inr (.inr (.inr (.inr (fun _ => none))))))]) hP hD [1] [0] rfl rfl (by decide) (by decide) hk1 hFc hP1 hD1
  have hK := (hK.sub (tys' := []) [] rfl).app hK1
  generalize H1 = H at hP hS ⊢
  have hP : va_P (dC, dI) vwCl [(f, .inr (4, [.null, .null, .null, .int 0])), (q_1, .inr (3, [.ref a_5, .ref a_6, .ref a_7, .int 2, .ref a_8, .ref a_9, .ref a_10, .int 0, .ref a_11, .int 0])), (a_5, .inl (k_12, 16, .inl (upd (upd (fun _ => 0) (0 : Int32).toNatClampNeg (-1)) (1 : Int32).toNatClampNeg 0))), (a_6, .inl (k_13, 16, .inl (upd (upd (fun _ => 0) (0 : Int32).toNatClampNeg 1) (1 : Int32).toNatClampNeg 3))), (a_7, .inl (k_14, 16, .inl (fun _ => 0))), (a_8, .inl (k_15, 16, .inl (fun _ => 0))), (a_9, .inl (k_16, 16, .inl (fun _ => 0))), (a_10, .inl (k_17, 16, .inl (fun _ => 0))), (a_11, .inl (k_18, 8, .inr (.inr (.inr (.inr (fun _ => none))))))] H := hP
  have hD : va_D A [(f, .inr (4, [.null, .null, .null, .int 0])), (q_1, .inr (3, [.ref a_5, .ref a_6, .ref a_7, .int 2, .ref a_8, .ref a_9, .ref a_10, .int 0, .ref a_11, .int 0])), (a_5, .inl (k_12, 16, .inl (upd (upd (fun _ => 0) (0 : Int32).toNatClampNeg (-1)) (1 : Int32).toNatClampNeg 0))), (a_6, .inl (k_13, 16, .inl (upd (upd (fun _ => 0) (0 : Int32).toNatClampNeg 1) (1 : Int32).toNatClampNeg 3))), (a_7, .inl (k_14, 16, .inl (fun _ => 0))), (a_8, .inl (k_15, 16, .inl (fun _ => 0))), (a_9, .inl (k_16, 16, .inl (fun _ => 0))), (a_10, .inl (k_17, 16, .inl (fun _ => 0))), (a_11, .inl (k_18, 8, .inr (.inr (.inr (.inr (fun _ => none))))))] := hD
  have hK : va_K (dC, dI) vwCl [(k_12, .int), (k_13, .int), (k_14, .boolean), (k_15, .int), (k_16, .int), (k_17, .boolean), (k_18, .object "MapFramer$Method")] s := hK
  refine W.widen (k := 8) (n := 114) (Nat.le_of_ble_eq_true rfl) (Nat.le_of_ble_eq_true rfl) ?_
  refine va_putF (D := (dC, dI)) (ci := 4) (v := .ref q_1) (ty := (.object "MapFramer$World")) (C := R_F) (T := T_F) (N := 4) hx hb hts (fun w h => hsub w (uw_F w h)) ty_F tok_F nm_F hown hK hP hD hS 0 rfl rfl 0 (by decide) (hts _ (hsub _ w_181)) (fun _ h9 => h9) rfl hin rfl (by decide +kernel) rfl rfl (Nat.le_of_ble_eq_true rfl) d_F_init_12 (fun H locs hP hD hS => ?_)
  have hP : va_P (dC, dI) vwCl [(f, .inr (4, [.ref q_1, .null, .null, .int 0])), (q_1, .inr (3, [.ref a_5, .ref a_6, .ref a_7, .int 2, .ref a_8, .ref a_9, .ref a_10, .int 0, .ref a_11, .int 0])), (a_5, .inl (k_12, 16, .inl (upd (upd (fun _ => 0) (0 : Int32).toNatClampNeg (-1)) (1 : Int32).toNatClampNeg 0))), (a_6, .inl (k_13, 16, .inl (upd (upd (fun _ => 0) (0 : Int32).toNatClampNeg 1) (1 : Int32).toNatClampNeg 3))), (a_7, .inl (k_14, 16, .inl (fun _ => 0))), (a_8, .inl (k_15, 16, .inl (fun _ => 0))), (a_9, .inl (k_16, 16, .inl (fun _ => 0))), (a_10, .inl (k_17, 16, .inl (fun _ => 0))), (a_11, .inl (k_18, 8, .inr (.inr (.inr (.inr (fun _ => none))))))] H := hP
  have hD : va_D A [(f, .inr (4, [.ref q_1, .null, .null, .int 0])), (q_1, .inr (3, [.ref a_5, .ref a_6, .ref a_7, .int 2, .ref a_8, .ref a_9, .ref a_10, .int 0, .ref a_11, .int 0])), (a_5, .inl (k_12, 16, .inl (upd (upd (fun _ => 0) (0 : Int32).toNatClampNeg (-1)) (1 : Int32).toNatClampNeg 0))), (a_6, .inl (k_13, 16, .inl (upd (upd (fun _ => 0) (0 : Int32).toNatClampNeg 1) (1 : Int32).toNatClampNeg 3))), (a_7, .inl (k_14, 16, .inl (fun _ => 0))), (a_8, .inl (k_15, 16, .inl (fun _ => 0))), (a_9, .inl (k_16, 16, .inl (fun _ => 0))), (a_10, .inl (k_17, 16, .inl (fun _ => 0))), (a_11, .inl (k_18, 8, .inr (.inr (.inr (.inr (fun _ => none))))))] := hD
  refine lv_aload_n hx hb d_F_init_15 rfl (lv_at hl 0 rfl) ?_
  refine va_new (ci := 2) (fs := [.null, .null, .null, .null, .int 0, .null, .int 0, .int 0, .int 0, .int 0, .long 0, .int 0, .int 0, .int 0]) (C := R_K) (T := T_K) (N := 14) hx hb hts (fun w h => hsub w (uw_K w h)) ty_K tok_K hown (hts _ (hsub _ w_252)) (hts _ (hsub _ w_253)) (hts _ (hsub _ w_254)) hK hP hD hS hA rfl (fun j hj => df_K j hj) (Nat.le_of_ble_eq_true rfl) (Nat.le_of_ble_eq_true rfl) d_F_init_16 (fun q_19 H hP hD hS => ?_)
  have hP : va_P (dC, dI) vwCl [(f, .inr (4, [.ref q_1, .null, .null, .int 0])), (q_1, .inr (3, [.ref a_5, .ref a_6, .ref a_7, .int 2, .ref a_8, .ref a_9, .ref a_10, .int 0, .ref a_11, .int 0])), (a_5, .inl (k_12, 16, .inl (upd (upd (fun _ => 0) (0 : Int32).toNatClampNeg (-1)) (1 : Int32).toNatClampNeg 0))), (a_6, .inl (k_13, 16, .inl (upd (upd (fun _ => 0) (0 : Int32).toNatClampNeg 1) (1 : Int32).toNatClampNeg 3))), (a_7, .inl (k_14, 16, .inl (fun _ => 0))), (a_8, .inl (k_15, 16, .inl (fun _ => 0))), (a_9, .inl (k_16, 16, .inl (fun _ => 0))), (a_10, .inl (k_17, 16, .inl (fun _ => 0))), (a_11, .inl (k_18, 8, .inr (.inr (.inr (.inr (fun _ => none)))))), (q_19, .inr (2, [.null, .null, .null, .null, .int 0, .null, .int 0, .int 0, .int 0, .int 0, .long 0, .int 0, .int 0, .int 0]))] H := hP
  have hD : va_D A [(f, .inr (4, [.ref q_1, .null, .null, .int 0])), (q_1, .inr (3, [.ref a_5, .ref a_6, .ref a_7, .int 2, .ref a_8, .ref a_9, .ref a_10, .int 0, .ref a_11, .int 0])), (a_5, .inl (k_12, 16, .inl (upd (upd (fun _ => 0) (0 : Int32).toNatClampNeg (-1)) (1 : Int32).toNatClampNeg 0))), (a_6, .inl (k_13, 16, .inl (upd (upd (fun _ => 0) (0 : Int32).toNatClampNeg 1) (1 : Int32).toNatClampNeg 3))), (a_7, .inl (k_14, 16, .inl (fun _ => 0))), (a_8, .inl (k_15, 16, .inl (fun _ => 0))), (a_9, .inl (k_16, 16, .inl (fun _ => 0))), (a_10, .inl (k_17, 16, .inl (fun _ => 0))), (a_11, .inl (k_18, 8, .inr (.inr (.inr (.inr (fun _ => none)))))), (q_19, .inr (2, [.null, .null, .null, .null, .int 0, .null, .int 0, .int 0, .int 0, .int 0, .long 0, .int 0, .int 0, .int 0]))] := hD
  refine W.widen (k := 9) (n := 128) (Nat.le_of_ble_eq_true rfl) (Nat.le_of_ble_eq_true rfl) ?_
  refine lv_dup hx hb d_F_init_19 rfl ?_
  have hPc := hP.sub (ws' := [(q_19, .inr (2, [.null, .null, .null, .null, .int 0, .null, .int 0, .int 0, .int 0, .int 0, .long 0, .int 0, .int 0, .int 0]))]) [9] rfl
  have hKc := hK.sub (tys' := []) [] rfl
  have hDc := hD.sub (ws' := [(q_19, .inr (2, [.null, .null, .null, .null, .int 0, .null, .int 0, .int 0, .int 0, .int 0, .long 0, .int 0, .int 0, .int 0]))]) [9] (by decide) rfl
  have hFc := va_free (wc := [(q_19, .inr (2, [.null, .null, .null, .null, .int 0, .null, .int 0, .int 0, .int 0, .int 0, .long 0, .int 0, .int 0, .int 0]))]) hD hS hA [9] rfl
  refine va_callv (va_runI (As := []) (rest := [.ref q_19, .ref f]) ⟨hx, hb, hml, hown, hts⟩ (k_K_init l dC dI q_19 H.size) (cwI 0 hts (gC hsub w_256) rfl rfl rfl (hts _ (hsub _ w_254)) (hts _ (hsub _ w_255)) (hts _ (hsub _ w_257)) rfl (by decide +kernel) ⟨Nat.le_of_ble_eq_true rfl, Nat.le_of_ble_eq_true rfl⟩) ⟨bl_1010, fun U hU hW => ⟨rfl, by rw [hU], by rw [hU]; exact hPc, va_K.moved hW.alike hKc, hDc.weaken (fun _ _ _ _ => trivial), exP_go hex hS (fun q h => hFc q h) U hU hW⟩⟩ rfl rfl hl.1 rfl (lv_room (Nat.le_of_ble_eq_true rfl)) d_F_init_20 ⟨Nat.le_of_ble_eq_true rfl, Nat.le_of_ble_eq_true rfl⟩) hS (fun q _ h => hFc q h) hFc (fun u_22 t H1 locs ht hvm hw hB hz1 hk1 hS => ?_)
  obtain ⟨q_23, q_24, q_25, hP1, hK1, hD1⟩ := hB
  rw [ht] at hP1
  have hK1 := va_K.moved hvm.symm hK1
  obtain ⟨hP, hD⟩ := va_join (wr := [(f, .inr (4, [.ref q_1, .null, .null, .int 0])), (q_1, .inr (3, [.ref a_5, .ref a_6, .ref a_7, .int 2, .ref a_8, .ref a_9, .ref a_10, .int 0, .ref a_11, .int 0])), (a_5, .inl (k_12, 16, .inl (upd (upd (fun _ => 0) (0 : Int32).toNatClampNeg (-1)) (1 : Int32).toNatClampNeg 0))), (a_6, .inl (k_13, 16, .inl (upd (upd (fun _ => 0) (0 : Int32).toNatClampNeg 1) (1 : Int32).toNatClampNeg 3))), (a_7, .inl (k_14, 16, .inl (fun _ => 0))), (a_8, .inl (k_15, 16, .inl (fun _ => 0))), (a_9, .inl (k_16, 16, .inl (fun _ => 0))), (a_10, .inl (k_17, 16, .inl (fun _ => 0))), (a_11, .inl (k_18, 8, .inr (.inr (.inr (.inr (fun _ => none))))))]) (w1 := [(q_19, .inr (2, [.ref q_23, .ref q_24, .ref q_25, .null, .int 0, .null, .int 0, .int 0, .int 0, .int 0, .long 0, .int (-1), .int 0, .int (-1)]))]) hP hD [9] [0, 1, 2, 3, 4, 5, 6, 7, 8] rfl rfl (by decide) (by decide) hk1 hFc hP1 hD1
  have hK := (hK.sub (tys' := [(k_12, .int), (k_13, .int), (k_14, .boolean), (k_15, .int), (k_16, .int), (k_17, .boolean), (k_18, .object "MapFramer$Method")]) [0, 1, 2, 3, 4, 5, 6] rfl).app hK1
  generalize H1 = H at hP hS ⊢
  have hP : va_P (dC, dI) vwCl [(f, .inr (4, [.ref q_1, .null, .null, .int 0])), (q_1, .inr (3, [.ref a_5, .ref a_6, .ref a_7, .int 2, .ref a_8, .ref a_9, .ref a_10, .int 0, .ref a_11, .int 0])), (a_5, .inl (k_12, 16, .inl (upd (upd (fun _ => 0) (0 : Int32).toNatClampNeg (-1)) (1 : Int32).toNatClampNeg 0))), (a_6, .inl (k_13, 16, .inl (upd (upd (fun _ => 0) (0 : Int32).toNatClampNeg 1) (1 : Int32).toNatClampNeg 3))), (a_7, .inl (k_14, 16, .inl (fun _ => 0))), (a_8, .inl (k_15, 16, .inl (fun _ => 0))), (a_9, .inl (k_16, 16, .inl (fun _ => 0))), (a_10, .inl (k_17, 16, .inl (fun _ => 0))), (a_11, .inl (k_18, 8, .inr (.inr (.inr (.inr (fun _ => none)))))), (q_19, .inr (2, [.ref q_23, .ref q_24, .ref q_25, .null, .int 0, .null, .int 0, .int 0, .int 0, .int 0, .long 0, .int (-1), .int 0, .int (-1)]))] H := hP
  have hD : va_D A [(f, .inr (4, [.ref q_1, .null, .null, .int 0])), (q_1, .inr (3, [.ref a_5, .ref a_6, .ref a_7, .int 2, .ref a_8, .ref a_9, .ref a_10, .int 0, .ref a_11, .int 0])), (a_5, .inl (k_12, 16, .inl (upd (upd (fun _ => 0) (0 : Int32).toNatClampNeg (-1)) (1 : Int32).toNatClampNeg 0))), (a_6, .inl (k_13, 16, .inl (upd (upd (fun _ => 0) (0 : Int32).toNatClampNeg 1) (1 : Int32).toNatClampNeg 3))), (a_7, .inl (k_14, 16, .inl (fun _ => 0))), (a_8, .inl (k_15, 16, .inl (fun _ => 0))), (a_9, .inl (k_16, 16, .inl (fun _ => 0))), (a_10, .inl (k_17, 16, .inl (fun _ => 0))), (a_11, .inl (k_18, 8, .inr (.inr (.inr (.inr (fun _ => none)))))), (q_19, .inr (2, [.ref q_23, .ref q_24, .ref q_25, .null, .int 0, .null, .int 0, .int 0, .int 0, .int 0, .long 0, .int (-1), .int 0, .int (-1)]))] := hD
  have hK : va_K (dC, dI) vwCl [(k_12, .int), (k_13, .int), (k_14, .boolean), (k_15, .int), (k_16, .int), (k_17, .boolean), (k_18, .object "MapFramer$Method")] s := hK
  refine W.widen (k := 87) (n := 4768) (Nat.le_of_ble_eq_true rfl) (Nat.le_of_ble_eq_true rfl) ?_
  refine va_putF (D := (dC, dI)) (ci := 4) (v := .ref q_19) (ty := (.object "MapFramer$Machine")) (C := R_F) (T := T_F) (N := 4) hx hb hts (fun w h => hsub w (uw_F w h)) ty_F tok_F nm_F hown hK hP hD hS 0 rfl rfl 1 (by decide) (hts _ (hsub _ w_218)) (fun _ h9 => h9) rfl hin rfl (by decide +kernel) rfl rfl (Nat.le_of_ble_eq_true rfl) d_F_init_23 (fun H locs hP hD hS => ?_)
  have hP : va_P (dC, dI) vwCl [(f, .inr (4, [.ref q_1, .ref q_19, .null, .int 0])), (q_1, .inr (3, [.ref a_5, .ref a_6, .ref a_7, .int 2, .ref a_8, .ref a_9, .ref a_10, .int 0, .ref a_11, .int 0])), (a_5, .inl (k_12, 16, .inl (upd (upd (fun _ => 0) (0 : Int32).toNatClampNeg (-1)) (1 : Int32).toNatClampNeg 0))), (a_6, .inl (k_13, 16, .inl (upd (upd (fun _ => 0) (0 : Int32).toNatClampNeg 1) (1 : Int32).toNatClampNeg 3))), (a_7, .inl (k_14, 16, .inl (fun _ => 0))), (a_8, .inl (k_15, 16, .inl (fun _ => 0))), (a_9, .inl (k_16, 16, .inl (fun _ => 0))), (a_10, .inl (k_17, 16, .inl (fun _ => 0))), (a_11, .inl (k_18, 8, .inr (.inr (.inr (.inr (fun _ => none)))))), (q_19, .inr (2, [.ref q_23, .ref q_24, .ref q_25, .null, .int 0, .null, .int 0, .int 0, .int 0, .int 0, .long 0, .int (-1), .int 0, .int (-1)]))] H := hP
  have hD : va_D A [(f, .inr (4, [.ref q_1, .ref q_19, .null, .int 0])), (q_1, .inr (3, [.ref a_5, .ref a_6, .ref a_7, .int 2, .ref a_8, .ref a_9, .ref a_10, .int 0, .ref a_11, .int 0])), (a_5, .inl (k_12, 16, .inl (upd (upd (fun _ => 0) (0 : Int32).toNatClampNeg (-1)) (1 : Int32).toNatClampNeg 0))), (a_6, .inl (k_13, 16, .inl (upd (upd (fun _ => 0) (0 : Int32).toNatClampNeg 1) (1 : Int32).toNatClampNeg 3))), (a_7, .inl (k_14, 16, .inl (fun _ => 0))), (a_8, .inl (k_15, 16, .inl (fun _ => 0))), (a_9, .inl (k_16, 16, .inl (fun _ => 0))), (a_10, .inl (k_17, 16, .inl (fun _ => 0))), (a_11, .inl (k_18, 8, .inr (.inr (.inr (.inr (fun _ => none)))))), (q_19, .inr (2, [.ref q_23, .ref q_24, .ref q_25, .null, .int 0, .null, .int 0, .int 0, .int 0, .int 0, .long 0, .int (-1), .int 0, .int (-1)]))] := hD
  refine lv_aload_n hx hb d_F_init_26 rfl (lv_at hl 0 rfl) ?_
  refine lv_sipush (v := 400) hx hb d_F_init_27 (by decide) ?_
  refine va_newa (atype := .int) (ty := .int) (N' := 400) (a0 := (400, .inl (fun _ => 0))) hx hb (hts _ (hsub _ w_156)) rfl hK hP hD hS hA (fun _ => vz_i _ _) (by decide) (by decide) (Nat.le_of_ble_eq_true rfl) (Nat.le_of_ble_eq_true rfl) (Nat.le_of_ble_eq_true rfl) d_F_init_30 (fun q_26 k_27 H hK hP hD hS => ?_)
  have hK : va_K (dC, dI) vwCl [(k_12, .int), (k_13, .int), (k_14, .boolean), (k_15, .int), (k_16, .int), (k_17, .boolean), (k_18, .object "MapFramer$Method"), (k_27, .int)] s := hK
  have hP : va_P (dC, dI) vwCl [(f, .inr (4, [.ref q_1, .ref q_19, .null, .int 0])), (q_1, .inr (3, [.ref a_5, .ref a_6, .ref a_7, .int 2, .ref a_8, .ref a_9, .ref a_10, .int 0, .ref a_11, .int 0])), (a_5, .inl (k_12, 16, .inl (upd (upd (fun _ => 0) (0 : Int32).toNatClampNeg (-1)) (1 : Int32).toNatClampNeg 0))), (a_6, .inl (k_13, 16, .inl (upd (upd (fun _ => 0) (0 : Int32).toNatClampNeg 1) (1 : Int32).toNatClampNeg 3))), (a_7, .inl (k_14, 16, .inl (fun _ => 0))), (a_8, .inl (k_15, 16, .inl (fun _ => 0))), (a_9, .inl (k_16, 16, .inl (fun _ => 0))), (a_10, .inl (k_17, 16, .inl (fun _ => 0))), (a_11, .inl (k_18, 8, .inr (.inr (.inr (.inr (fun _ => none)))))), (q_19, .inr (2, [.ref q_23, .ref q_24, .ref q_25, .null, .int 0, .null, .int 0, .int 0, .int 0, .int 0, .long 0, .int (-1), .int 0, .int (-1)])), (q_26, .inl (k_27, 400, .inl (fun _ => 0)))] H := hP
  have hD : va_D A [(f, .inr (4, [.ref q_1, .ref q_19, .null, .int 0])), (q_1, .inr (3, [.ref a_5, .ref a_6, .ref a_7, .int 2, .ref a_8, .ref a_9, .ref a_10, .int 0, .ref a_11, .int 0])), (a_5, .inl (k_12, 16, .inl (upd (upd (fun _ => 0) (0 : Int32).toNatClampNeg (-1)) (1 : Int32).toNatClampNeg 0))), (a_6, .inl (k_13, 16, .inl (upd (upd (fun _ => 0) (0 : Int32).toNatClampNeg 1) (1 : Int32).toNatClampNeg 3))), (a_7, .inl (k_14, 16, .inl (fun _ => 0))), (a_8, .inl (k_15, 16, .inl (fun _ => 0))), (a_9, .inl (k_16, 16, .inl (fun _ => 0))), (a_10, .inl (k_17, 16, .inl (fun _ => 0))), (a_11, .inl (k_18, 8, .inr (.inr (.inr (.inr (fun _ => none)))))), (q_19, .inr (2, [.ref q_23, .ref q_24, .ref q_25, .null, .int 0, .null, .int 0, .int 0, .int 0, .int 0, .long 0, .int (-1), .int 0, .int (-1)])), (q_26, .inl (k_27, 400, .inl (fun _ => 0)))] := hD
  refine W.widen (k := 88) (n := 5168) (Nat.le_of_ble_eq_true rfl) (Nat.le_of_ble_eq_true rfl) ?_
  refine va_putF (D := (dC, dI)) (ci := 4) (v := .ref q_26) (ty := (.array .int)) (C := R_F) (T := T_F) (N := 4) hx hb hts (fun w h => hsub w (uw_F w h)) ty_F tok_F nm_F hown hK hP hD hS 0 rfl rfl 2 (by decide) (hts _ (hsub _ w_211)) (fun _ h9 => h9) rfl hin rfl (by decide +kernel) rfl rfl (Nat.le_of_ble_eq_true rfl) d_F_init_32 (fun H locs hP hD hS => ?_)
  have hP : va_P (dC, dI) vwCl [(f, .inr (4, [.ref q_1, .ref q_19, .ref q_26, .int 0])), (q_1, .inr (3, [.ref a_5, .ref a_6, .ref a_7, .int 2, .ref a_8, .ref a_9, .ref a_10, .int 0, .ref a_11, .int 0])), (a_5, .inl (k_12, 16, .inl (upd (upd (fun _ => 0) (0 : Int32).toNatClampNeg (-1)) (1 : Int32).toNatClampNeg 0))), (a_6, .inl (k_13, 16, .inl (upd (upd (fun _ => 0) (0 : Int32).toNatClampNeg 1) (1 : Int32).toNatClampNeg 3))), (a_7, .inl (k_14, 16, .inl (fun _ => 0))), (a_8, .inl (k_15, 16, .inl (fun _ => 0))), (a_9, .inl (k_16, 16, .inl (fun _ => 0))), (a_10, .inl (k_17, 16, .inl (fun _ => 0))), (a_11, .inl (k_18, 8, .inr (.inr (.inr (.inr (fun _ => none)))))), (q_19, .inr (2, [.ref q_23, .ref q_24, .ref q_25, .null, .int 0, .null, .int 0, .int 0, .int 0, .int 0, .long 0, .int (-1), .int 0, .int (-1)])), (q_26, .inl (k_27, 400, .inl (fun _ => 0)))] H := hP
  have hD : va_D A [(f, .inr (4, [.ref q_1, .ref q_19, .ref q_26, .int 0])), (q_1, .inr (3, [.ref a_5, .ref a_6, .ref a_7, .int 2, .ref a_8, .ref a_9, .ref a_10, .int 0, .ref a_11, .int 0])), (a_5, .inl (k_12, 16, .inl (upd (upd (fun _ => 0) (0 : Int32).toNatClampNeg (-1)) (1 : Int32).toNatClampNeg 0))), (a_6, .inl (k_13, 16, .inl (upd (upd (fun _ => 0) (0 : Int32).toNatClampNeg 1) (1 : Int32).toNatClampNeg 3))), (a_7, .inl (k_14, 16, .inl (fun _ => 0))), (a_8, .inl (k_15, 16, .inl (fun _ => 0))), (a_9, .inl (k_16, 16, .inl (fun _ => 0))), (a_10, .inl (k_17, 16, .inl (fun _ => 0))), (a_11, .inl (k_18, 8, .inr (.inr (.inr (.inr (fun _ => none)))))), (q_19, .inr (2, [.ref q_23, .ref q_24, .ref q_25, .null, .int 0, .null, .int 0, .int 0, .int 0, .int 0, .long 0, .int (-1), .int 0, .int (-1)])), (q_26, .inl (k_27, 400, .inl (fun _ => 0)))] := hD
  refine lv_aload_n hx hb d_F_init_35 rfl (lv_at hl 0 rfl) ?_
  refine lv_iconst (v := 0) hx hb d_F_init_36 (by decide) ?_
  refine va_put (D := (dC, dI)) (ci := 4) (v := .int 0) (ty := .int) (C := R_F) (T := T_F) (N := 4) hx hb hts (fun w h => hsub w (uw_F w h)) ty_F tok_F nm_F hown hK hP hD hS 0 rfl rfl 3 (by decide) (hts _ (hsub _ w_210)) (fun _ h9 => h9) rfl (by decide +kernel) rfl rfl (Nat.le_of_ble_eq_true rfl) d_F_init_37 (fun H locs hP hD hS => ?_)
  have hP : va_P (dC, dI) vwCl [(f, .inr (4, [.ref q_1, .ref q_19, .ref q_26, .int 0])), (q_1, .inr (3, [.ref a_5, .ref a_6, .ref a_7, .int 2, .ref a_8, .ref a_9, .ref a_10, .int 0, .ref a_11, .int 0])), (a_5, .inl (k_12, 16, .inl (upd (upd (fun _ => 0) (0 : Int32).toNatClampNeg (-1)) (1 : Int32).toNatClampNeg 0))), (a_6, .inl (k_13, 16, .inl (upd (upd (fun _ => 0) (0 : Int32).toNatClampNeg 1) (1 : Int32).toNatClampNeg 3))), (a_7, .inl (k_14, 16, .inl (fun _ => 0))), (a_8, .inl (k_15, 16, .inl (fun _ => 0))), (a_9, .inl (k_16, 16, .inl (fun _ => 0))), (a_10, .inl (k_17, 16, .inl (fun _ => 0))), (a_11, .inl (k_18, 8, .inr (.inr (.inr (.inr (fun _ => none)))))), (q_19, .inr (2, [.ref q_23, .ref q_24, .ref q_25, .null, .int 0, .null, .int 0, .int 0, .int 0, .int 0, .long 0, .int (-1), .int 0, .int (-1)])), (q_26, .inl (k_27, 400, .inl (fun _ => 0)))] H := hP
  have hD : va_D A [(f, .inr (4, [.ref q_1, .ref q_19, .ref q_26, .int 0])), (q_1, .inr (3, [.ref a_5, .ref a_6, .ref a_7, .int 2, .ref a_8, .ref a_9, .ref a_10, .int 0, .ref a_11, .int 0])), (a_5, .inl (k_12, 16, .inl (upd (upd (fun _ => 0) (0 : Int32).toNatClampNeg (-1)) (1 : Int32).toNatClampNeg 0))), (a_6, .inl (k_13, 16, .inl (upd (upd (fun _ => 0) (0 : Int32).toNatClampNeg 1) (1 : Int32).toNatClampNeg 3))), (a_7, .inl (k_14, 16, .inl (fun _ => 0))), (a_8, .inl (k_15, 16, .inl (fun _ => 0))), (a_9, .inl (k_16, 16, .inl (fun _ => 0))), (a_10, .inl (k_17, 16, .inl (fun _ => 0))), (a_11, .inl (k_18, 8, .inr (.inr (.inr (.inr (fun _ => none)))))), (q_19, .inr (2, [.ref q_23, .ref q_24, .ref q_25, .null, .int 0, .null, .int 0, .int 0, .int 0, .int 0, .long 0, .int (-1), .int 0, .int (-1)])), (q_26, .inl (k_27, 400, .inl (fun _ => 0)))] := hD
  refine W.widen (k := 88) (n := 5168) (Nat.le_of_ble_eq_true rfl) (Nat.le_of_ble_eq_true rfl) ?_
  exact W.vret hx hb hr (fun t ht hW => ⟨⟨(), rfl, trivial, q_1, a_5, a_6, a_7, a_8, a_9, a_10, a_11, q_19, q_23, q_24, q_25, q_26, k_12, k_13, k_14, k_15, k_16, k_17, k_18, k_27, by rw [ht]; exact hP.sub [0, 1, 2, 3, 4, 5, 6, 7, 8, 9, 10] rfl, va_K.moved hW.alike (hK.sub (tys' := [(k_12, .int), (k_13, .int), (k_14, .boolean), (k_15, .int), (k_16, .int), (k_17, .boolean), (k_18, .object "MapFramer$Method"), (k_27, .int)]) [0, 1, 2, 3, 4, 5, 6, 7] rfl), hD.sub [0, 1, 2, 3, 4, 5, 6, 7, 8, 9, 10] (by decide) rfl⟩, hS.F ht⟩) hS.2.2 d_F_init_40
end
