-- ===== PART A: goes FIRST, ahead of the names: the tables' words, and 'selects' of the private methods out of them =====
/-- a private method of a class that the tables say can be made, by its rows of tables_1 -/
def lw_okq (q : MethodName × Nat) : Prop := (q.1.cls ≠ "java/lang/invoke/MethodHandle" ∧ q.1.cls ≠ "java/lang/invoke/VarHandle") ∧ Cond.instantiable q.1.cls q.2 ∈ tables_1 ∧ Cond.privateMethod q.1 ∈ tables_1 ∧ Cond.instanceMethod q.1 ∈ tables_1
theorem lw_p0 : lw_okq (⟨"HatDownTheStreet$Reader", "partTokens", "()V"⟩, 9) := ⟨⟨by decide +kernel, by decide +kernel⟩, List.mem_of_getElem? (i := 123) (by decide +kernel), List.mem_of_getElem? (i := 338) (by decide +kernel), List.mem_of_getElem? (i := 339) (by decide +kernel)⟩
theorem lw_p1 : lw_okq (⟨"HatDownTheStreet$Reader", "behindBlanks", "(I)I"⟩, 9) := ⟨⟨by decide +kernel, by decide +kernel⟩, List.mem_of_getElem? (i := 123) (by decide +kernel), List.mem_of_getElem? (i := 342) (by decide +kernel), List.mem_of_getElem? (i := 343) (by decide +kernel)⟩
theorem lw_p2 : lw_okq (⟨"HatDownTheStreet$Reader", "byteAt", "(I)I"⟩, 9) := ⟨⟨by decide +kernel, by decide +kernel⟩, List.mem_of_getElem? (i := 123) (by decide +kernel), List.mem_of_getElem? (i := 346) (by decide +kernel), List.mem_of_getElem? (i := 347) (by decide +kernel)⟩
theorem lw_p3 : lw_okq (⟨"HatDownTheStreet$Reader", "tokenEnd", "(I)I"⟩, 9) := ⟨⟨by decide +kernel, by decide +kernel⟩, List.mem_of_getElem? (i := 123) (by decide +kernel), List.mem_of_getElem? (i := 350) (by decide +kernel), List.mem_of_getElem? (i := 351) (by decide +kernel)⟩
theorem lw_p4 : lw_okq (⟨"HatDownTheStreet$Reader", "tokenBetween", "(II)I"⟩, 9) := ⟨⟨by decide +kernel, by decide +kernel⟩, List.mem_of_getElem? (i := 123) (by decide +kernel), List.mem_of_getElem? (i := 363) (by decide +kernel), List.mem_of_getElem? (i := 364) (by decide +kernel)⟩
theorem lw_p5 : lw_okq (⟨"HatDownTheStreet$Reader", "nameBetween", "(II)I"⟩, 9) := ⟨⟨by decide +kernel, by decide +kernel⟩, List.mem_of_getElem? (i := 123) (by decide +kernel), List.mem_of_getElem? (i := 367) (by decide +kernel), List.mem_of_getElem? (i := 368) (by decide +kernel)⟩
theorem lw_p6 : lw_okq (⟨"HatDownTheStreet$Reader", "isWord", "(Ljava/lang/String;II)Z"⟩, 9) := ⟨⟨by decide +kernel, by decide +kernel⟩, List.mem_of_getElem? (i := 123) (by decide +kernel), List.mem_of_getElem? (i := 372) (by decide +kernel), List.mem_of_getElem? (i := 373) (by decide +kernel)⟩
theorem lw_p7 : lw_okq (⟨"HatDownTheStreet$Reader", "keyBetween", "(II)I"⟩, 9) := ⟨⟨by decide +kernel, by decide +kernel⟩, List.mem_of_getElem? (i := 123) (by decide +kernel), List.mem_of_getElem? (i := 383) (by decide +kernel), List.mem_of_getElem? (i := 384) (by decide +kernel)⟩
theorem lw_p8 : lw_okq (⟨"HatDownTheStreet$Reader", "valueOf", "(III)I"⟩, 9) := ⟨⟨by decide +kernel, by decide +kernel⟩, List.mem_of_getElem? (i := 123) (by decide +kernel), List.mem_of_getElem? (i := 396) (by decide +kernel), List.mem_of_getElem? (i := 397) (by decide +kernel)⟩
theorem lw_p9 : lw_okq (⟨"HatDownTheStreet$Reader", "readPart", "(II)V"⟩, 9) := ⟨⟨by decide +kernel, by decide +kernel⟩, List.mem_of_getElem? (i := 123) (by decide +kernel), List.mem_of_getElem? (i := 404) (by decide +kernel), List.mem_of_getElem? (i := 405) (by decide +kernel)⟩
theorem lw_p10 : lw_okq (⟨"HatDownTheStreet$Reader", "expect", "(I)V"⟩, 9) := ⟨⟨by decide +kernel, by decide +kernel⟩, List.mem_of_getElem? (i := 123) (by decide +kernel), List.mem_of_getElem? (i := 408) (by decide +kernel), List.mem_of_getElem? (i := 409) (by decide +kernel)⟩
theorem lw_p11 : lw_okq (⟨"HatDownTheStreet$Reader", "advance", "()V"⟩, 9) := ⟨⟨by decide +kernel, by decide +kernel⟩, List.mem_of_getElem? (i := 123) (by decide +kernel), List.mem_of_getElem? (i := 412) (by decide +kernel), List.mem_of_getElem? (i := 413) (by decide +kernel)⟩
theorem lw_p12 : lw_okq (⟨"HatDownTheStreet$Reader", "refuse", "()V"⟩, 9) := ⟨⟨by decide +kernel, by decide +kernel⟩, List.mem_of_getElem? (i := 123) (by decide +kernel), List.mem_of_getElem? (i := 416) (by decide +kernel), List.mem_of_getElem? (i := 417) (by decide +kernel)⟩
theorem lw_p13 : lw_okq (⟨"HatDownTheStreet$Reader", "readOr", "(I)V"⟩, 9) := ⟨⟨by decide +kernel, by decide +kernel⟩, List.mem_of_getElem? (i := 123) (by decide +kernel), List.mem_of_getElem? (i := 420) (by decide +kernel), List.mem_of_getElem? (i := 421) (by decide +kernel)⟩
theorem lw_p14 : lw_okq (⟨"HatDownTheStreet$Reader", "readAnd", "(I)V"⟩, 9) := ⟨⟨by decide +kernel, by decide +kernel⟩, List.mem_of_getElem? (i := 123) (by decide +kernel), List.mem_of_getElem? (i := 424) (by decide +kernel), List.mem_of_getElem? (i := 425) (by decide +kernel)⟩
theorem lw_p15 : lw_okq (⟨"HatDownTheStreet$Reader", "readNot", "(I)V"⟩, 9) := ⟨⟨by decide +kernel, by decide +kernel⟩, List.mem_of_getElem? (i := 123) (by decide +kernel), List.mem_of_getElem? (i := 428) (by decide +kernel), List.mem_of_getElem? (i := 429) (by decide +kernel)⟩
def lw_privs_1 : List (MethodName × Nat) := [(⟨"HatDownTheStreet$Reader", "partTokens", "()V"⟩, 9), (⟨"HatDownTheStreet$Reader", "behindBlanks", "(I)I"⟩, 9), (⟨"HatDownTheStreet$Reader", "byteAt", "(I)I"⟩, 9), (⟨"HatDownTheStreet$Reader", "tokenEnd", "(I)I"⟩, 9), (⟨"HatDownTheStreet$Reader", "tokenBetween", "(II)I"⟩, 9), (⟨"HatDownTheStreet$Reader", "nameBetween", "(II)I"⟩, 9), (⟨"HatDownTheStreet$Reader", "isWord", "(Ljava/lang/String;II)Z"⟩, 9), (⟨"HatDownTheStreet$Reader", "keyBetween", "(II)I"⟩, 9), (⟨"HatDownTheStreet$Reader", "valueOf", "(III)I"⟩, 9), (⟨"HatDownTheStreet$Reader", "readPart", "(II)V"⟩, 9), (⟨"HatDownTheStreet$Reader", "expect", "(I)V"⟩, 9), (⟨"HatDownTheStreet$Reader", "advance", "()V"⟩, 9), (⟨"HatDownTheStreet$Reader", "refuse", "()V"⟩, 9), (⟨"HatDownTheStreet$Reader", "readOr", "(I)V"⟩, 9), (⟨"HatDownTheStreet$Reader", "readAnd", "(I)V"⟩, 9), (⟨"HatDownTheStreet$Reader", "readNot", "(I)V"⟩, 9)]
theorem lw_r1 : ∀ q ∈ lw_privs_1, lw_okq q := List.forall_mem_cons.mpr ⟨lw_p0, List.forall_mem_cons.mpr ⟨lw_p1, List.forall_mem_cons.mpr ⟨lw_p2, List.forall_mem_cons.mpr ⟨lw_p3, List.forall_mem_cons.mpr ⟨lw_p4, List.forall_mem_cons.mpr ⟨lw_p5, List.forall_mem_cons.mpr ⟨lw_p6, List.forall_mem_cons.mpr ⟨lw_p7, List.forall_mem_cons.mpr ⟨lw_p8, List.forall_mem_cons.mpr ⟨lw_p9, List.forall_mem_cons.mpr ⟨lw_p10, List.forall_mem_cons.mpr ⟨lw_p11, List.forall_mem_cons.mpr ⟨lw_p12, List.forall_mem_cons.mpr ⟨lw_p13, List.forall_mem_cons.mpr ⟨lw_p14, List.forall_mem_cons.mpr ⟨lw_p15, fun _ h => absurd h List.not_mem_nil⟩⟩⟩⟩⟩⟩⟩⟩⟩⟩⟩⟩⟩⟩⟩⟩
theorem lw_p16 : lw_okq (⟨"HatDownTheStreet$Reader", "readSum", "(I)V"⟩, 9) := ⟨⟨by decide +kernel, by decide +kernel⟩, List.mem_of_getElem? (i := 123) (by decide +kernel), List.mem_of_getElem? (i := 436) (by decide +kernel), List.mem_of_getElem? (i := 437) (by decide +kernel)⟩
theorem lw_p17 : lw_okq (⟨"HatDownTheStreet$Reader", "readTerm", "(I)V"⟩, 9) := ⟨⟨by decide +kernel, by decide +kernel⟩, List.mem_of_getElem? (i := 123) (by decide +kernel), List.mem_of_getElem? (i := 440) (by decide +kernel), List.mem_of_getElem? (i := 441) (by decide +kernel)⟩
theorem lw_p18 : lw_okq (⟨"HatDownTheStreet$Reader", "readOne", "(I)V"⟩, 9) := ⟨⟨by decide +kernel, by decide +kernel⟩, List.mem_of_getElem? (i := 123) (by decide +kernel), List.mem_of_getElem? (i := 444) (by decide +kernel), List.mem_of_getElem? (i := 445) (by decide +kernel)⟩
theorem lw_p19 : lw_okq (⟨"HatDownTheStreet", "isOpen", "(I)Z"⟩, 10) := ⟨⟨by decide +kernel, by decide +kernel⟩, List.mem_of_getElem? (i := 19) (by decide +kernel), List.mem_of_getElem? (i := 582) (by decide +kernel), List.mem_of_getElem? (i := 583) (by decide +kernel)⟩
theorem lw_p20 : lw_okq (⟨"HatDownTheStreet", "isHat", "(I)Z"⟩, 10) := ⟨⟨by decide +kernel, by decide +kernel⟩, List.mem_of_getElem? (i := 19) (by decide +kernel), List.mem_of_getElem? (i := 593) (by decide +kernel), List.mem_of_getElem? (i := 594) (by decide +kernel)⟩
theorem lw_p21 : lw_okq (⟨"HatDownTheStreet", "isCatcher", "(I)Z"⟩, 10) := ⟨⟨by decide +kernel, by decide +kernel⟩, List.mem_of_getElem? (i := 19) (by decide +kernel), List.mem_of_getElem? (i := 617) (by decide +kernel), List.mem_of_getElem? (i := 618) (by decide +kernel)⟩
theorem lw_p22 : lw_okq (⟨"HatDownTheStreet", "think", "(I)V"⟩, 10) := ⟨⟨by decide +kernel, by decide +kernel⟩, List.mem_of_getElem? (i := 19) (by decide +kernel), List.mem_of_getElem? (i := 628) (by decide +kernel), List.mem_of_getElem? (i := 629) (by decide +kernel)⟩
theorem lw_p23 : lw_okq (⟨"HatDownTheStreet$Thought", "next", "(II)I"⟩, 11) := ⟨⟨by decide +kernel, by decide +kernel⟩, List.mem_of_getElem? (i := 179) (by decide +kernel), List.mem_of_getElem? (i := 643) (by decide +kernel), List.mem_of_getElem? (i := 644) (by decide +kernel)⟩
theorem lw_p24 : lw_okq (⟨"HatDownTheStreet$Thought", "slide", "(III)I"⟩, 11) := ⟨⟨by decide +kernel, by decide +kernel⟩, List.mem_of_getElem? (i := 179) (by decide +kernel), List.mem_of_getElem? (i := 670) (by decide +kernel), List.mem_of_getElem? (i := 671) (by decide +kernel)⟩
theorem lw_p25 : lw_okq (⟨"HatDownTheStreet$Thought", "beside", "(II)I"⟩, 11) := ⟨⟨by decide +kernel, by decide +kernel⟩, List.mem_of_getElem? (i := 179) (by decide +kernel), List.mem_of_getElem? (i := 674) (by decide +kernel), List.mem_of_getElem? (i := 675) (by decide +kernel)⟩
theorem lw_p26 : lw_okq (⟨"HatDownTheStreet", "letPass", "(I)V"⟩, 10) := ⟨⟨by decide +kernel, by decide +kernel⟩, List.mem_of_getElem? (i := 19) (by decide +kernel), List.mem_of_getElem? (i := 692) (by decide +kernel), List.mem_of_getElem? (i := 693) (by decide +kernel)⟩
theorem lw_p27 : lw_okq (⟨"HatDownTheStreet", "hadNow", "(II)I"⟩, 10) := ⟨⟨by decide +kernel, by decide +kernel⟩, List.mem_of_getElem? (i := 19) (by decide +kernel), List.mem_of_getElem? (i := 733) (by decide +kernel), List.mem_of_getElem? (i := 734) (by decide +kernel)⟩
theorem lw_p28 : lw_okq (⟨"HatDownTheStreet$Thought", "spread", "(II)I"⟩, 11) := ⟨⟨by decide +kernel, by decide +kernel⟩, List.mem_of_getElem? (i := 179) (by decide +kernel), List.mem_of_getElem? (i := 745) (by decide +kernel), List.mem_of_getElem? (i := 746) (by decide +kernel)⟩
theorem lw_p29 : lw_okq (⟨"HatDownTheStreet", "refusalOfPair", "(III)I"⟩, 10) := ⟨⟨by decide +kernel, by decide +kernel⟩, List.mem_of_getElem? (i := 19) (by decide +kernel), List.mem_of_getElem? (i := 763) (by decide +kernel), List.mem_of_getElem? (i := 764) (by decide +kernel)⟩
theorem lw_p30 : lw_okq (⟨"HatDownTheStreet$Errand", "fetch", "(LHatDownTheStreet$Thought;IIII)V"⟩, 6) := ⟨⟨by decide +kernel, by decide +kernel⟩, List.mem_of_getElem? (i := 230) (by decide +kernel), List.mem_of_getElem? (i := 783) (by decide +kernel), List.mem_of_getElem? (i := 784) (by decide +kernel)⟩
theorem lw_p31 : lw_okq (⟨"HatDownTheStreet", "worthHad", "(II)I"⟩, 10) := ⟨⟨by decide +kernel, by decide +kernel⟩, List.mem_of_getElem? (i := 19) (by decide +kernel), List.mem_of_getElem? (i := 794) (by decide +kernel), List.mem_of_getElem? (i := 795) (by decide +kernel)⟩
def lw_privs_2 : List (MethodName × Nat) := [(⟨"HatDownTheStreet$Reader", "readSum", "(I)V"⟩, 9), (⟨"HatDownTheStreet$Reader", "readTerm", "(I)V"⟩, 9), (⟨"HatDownTheStreet$Reader", "readOne", "(I)V"⟩, 9), (⟨"HatDownTheStreet", "isOpen", "(I)Z"⟩, 10), (⟨"HatDownTheStreet", "isHat", "(I)Z"⟩, 10), (⟨"HatDownTheStreet", "isCatcher", "(I)Z"⟩, 10), (⟨"HatDownTheStreet", "think", "(I)V"⟩, 10), (⟨"HatDownTheStreet$Thought", "next", "(II)I"⟩, 11), (⟨"HatDownTheStreet$Thought", "slide", "(III)I"⟩, 11), (⟨"HatDownTheStreet$Thought", "beside", "(II)I"⟩, 11), (⟨"HatDownTheStreet", "letPass", "(I)V"⟩, 10), (⟨"HatDownTheStreet", "hadNow", "(II)I"⟩, 10), (⟨"HatDownTheStreet$Thought", "spread", "(II)I"⟩, 11), (⟨"HatDownTheStreet", "refusalOfPair", "(III)I"⟩, 10), (⟨"HatDownTheStreet$Errand", "fetch", "(LHatDownTheStreet$Thought;IIII)V"⟩, 6), (⟨"HatDownTheStreet", "worthHad", "(II)I"⟩, 10)]
theorem lw_r2 : ∀ q ∈ lw_privs_2, lw_okq q := List.forall_mem_cons.mpr ⟨lw_p16, List.forall_mem_cons.mpr ⟨lw_p17, List.forall_mem_cons.mpr ⟨lw_p18, List.forall_mem_cons.mpr ⟨lw_p19, List.forall_mem_cons.mpr ⟨lw_p20, List.forall_mem_cons.mpr ⟨lw_p21, List.forall_mem_cons.mpr ⟨lw_p22, List.forall_mem_cons.mpr ⟨lw_p23, List.forall_mem_cons.mpr ⟨lw_p24, List.forall_mem_cons.mpr ⟨lw_p25, List.forall_mem_cons.mpr ⟨lw_p26, List.forall_mem_cons.mpr ⟨lw_p27, List.forall_mem_cons.mpr ⟨lw_p28, List.forall_mem_cons.mpr ⟨lw_p29, List.forall_mem_cons.mpr ⟨lw_p30, List.forall_mem_cons.mpr ⟨lw_p31, fun _ h => absurd h List.not_mem_nil⟩⟩⟩⟩⟩⟩⟩⟩⟩⟩⟩⟩⟩⟩⟩⟩
theorem lw_p32 : lw_okq (⟨"HatDownTheStreet", "refusalOfWay", "(II)I"⟩, 10) := ⟨⟨by decide +kernel, by decide +kernel⟩, List.mem_of_getElem? (i := 19) (by decide +kernel), List.mem_of_getElem? (i := 840) (by decide +kernel), List.mem_of_getElem? (i := 841) (by decide +kernel)⟩
theorem lw_p33 : lw_okq (⟨"HatDownTheStreet", "refusalOfTold", "(I)I"⟩, 10) := ⟨⟨by decide +kernel, by decide +kernel⟩, List.mem_of_getElem? (i := 19) (by decide +kernel), List.mem_of_getElem? (i := 844) (by decide +kernel), List.mem_of_getElem? (i := 845) (by decide +kernel)⟩
theorem lw_p34 : lw_okq (⟨"HatDownTheStreetModel", "next", "()V"⟩, 45) := ⟨⟨by decide +kernel, by decide +kernel⟩, List.mem_of_getElem? (i := 950) (by decide +kernel), List.mem_of_getElem? (i := 960) (by decide +kernel), List.mem_of_getElem? (i := 961) (by decide +kernel)⟩
theorem lw_p35 : lw_okq (⟨"HatDownTheStreetModel", "wordFrom", "(II)I"⟩, 45) := ⟨⟨by decide +kernel, by decide +kernel⟩, List.mem_of_getElem? (i := 950) (by decide +kernel), List.mem_of_getElem? (i := 967) (by decide +kernel), List.mem_of_getElem? (i := 968) (by decide +kernel)⟩
theorem lw_p36 : lw_okq (⟨"HatDownTheStreetModel", "eRead", "()Z"⟩, 45) := ⟨⟨by decide +kernel, by decide +kernel⟩, List.mem_of_getElem? (i := 950) (by decide +kernel), List.mem_of_getElem? (i := 971) (by decide +kernel), List.mem_of_getElem? (i := 972) (by decide +kernel)⟩
theorem lw_p37 : lw_okq (⟨"HatDownTheStreetModel", "puts", "(I)V"⟩, 45) := ⟨⟨by decide +kernel, by decide +kernel⟩, List.mem_of_getElem? (i := 950) (by decide +kernel), List.mem_of_getElem? (i := 976) (by decide +kernel), List.mem_of_getElem? (i := 977) (by decide +kernel)⟩
theorem lw_p38 : lw_okq (⟨"HatDownTheStreetModel", "unwinds", "(I)V"⟩, 45) := ⟨⟨by decide +kernel, by decide +kernel⟩, List.mem_of_getElem? (i := 950) (by decide +kernel), List.mem_of_getElem? (i := 980) (by decide +kernel), List.mem_of_getElem? (i := 981) (by decide +kernel)⟩
theorem lw_p39 : lw_okq (⟨"HatDownTheStreetModel", "opensOne", "(I)Z"⟩, 45) := ⟨⟨by decide +kernel, by decide +kernel⟩, List.mem_of_getElem? (i := 950) (by decide +kernel), List.mem_of_getElem? (i := 987) (by decide +kernel), List.mem_of_getElem? (i := 988) (by decide +kernel)⟩
theorem lw_p40 : lw_okq (⟨"HatDownTheStreetModel", "holds", "(I)V"⟩, 45) := ⟨⟨by decide +kernel, by decide +kernel⟩, List.mem_of_getElem? (i := 950) (by decide +kernel), List.mem_of_getElem? (i := 991) (by decide +kernel), List.mem_of_getElem? (i := 992) (by decide +kernel)⟩
theorem lw_p41 : lw_okq (⟨"HatDownTheStreetModel", "signOf", "()I"⟩, 45) := ⟨⟨by decide +kernel, by decide +kernel⟩, List.mem_of_getElem? (i := 950) (by decide +kernel), List.mem_of_getElem? (i := 995) (by decide +kernel), List.mem_of_getElem? (i := 996) (by decide +kernel)⟩
theorem lw_p42 : lw_okq (⟨"HatDownTheStreetModel", "between", "(I)Z"⟩, 45) := ⟨⟨by decide +kernel, by decide +kernel⟩, List.mem_of_getElem? (i := 950) (by decide +kernel), List.mem_of_getElem? (i := 999) (by decide +kernel), List.mem_of_getElem? (i := 1000) (by decide +kernel)⟩
theorem lw_p43 : lw_okq (⟨"HatDownTheStreetModel", "isAnyIn", "(I)Z"⟩, 45) := ⟨⟨by decide +kernel, by decide +kernel⟩, List.mem_of_getElem? (i := 950) (by decide +kernel), List.mem_of_getElem? (i := 1146) (by decide +kernel), List.mem_of_getElem? (i := 1147) (by decide +kernel)⟩
theorem lw_p44 : lw_okq (⟨"HatDownTheStreetModel", "has", "(II)Z"⟩, 45) := ⟨⟨by decide +kernel, by decide +kernel⟩, List.mem_of_getElem? (i := 950) (by decide +kernel), List.mem_of_getElem? (i := 1150) (by decide +kernel), List.mem_of_getElem? (i := 1151) (by decide +kernel)⟩
theorem lw_p45 : lw_okq (⟨"HatDownTheStreetModel", "asksOf", "(IIIIIII)I"⟩, 45) := ⟨⟨by decide +kernel, by decide +kernel⟩, List.mem_of_getElem? (i := 950) (by decide +kernel), List.mem_of_getElem? (i := 1185) (by decide +kernel), List.mem_of_getElem? (i := 1186) (by decide +kernel)⟩
theorem lw_p46 : lw_okq (⟨"HatDownTheStreetModel", "says", "(I)I"⟩, 45) := ⟨⟨by decide +kernel, by decide +kernel⟩, List.mem_of_getElem? (i := 950) (by decide +kernel), List.mem_of_getElem? (i := 1189) (by decide +kernel), List.mem_of_getElem? (i := 1190) (by decide +kernel)⟩
theorem lw_p47 : lw_okq (⟨"HatDownTheStreetModel", "isFree", "(I)Z"⟩, 45) := ⟨⟨by decide +kernel, by decide +kernel⟩, List.mem_of_getElem? (i := 950) (by decide +kernel), List.mem_of_getElem? (i := 1203) (by decide +kernel), List.mem_of_getElem? (i := 1204) (by decide +kernel)⟩
def lw_privs_3 : List (MethodName × Nat) := [(⟨"HatDownTheStreet", "refusalOfWay", "(II)I"⟩, 10), (⟨"HatDownTheStreet", "refusalOfTold", "(I)I"⟩, 10), (⟨"HatDownTheStreetModel", "next", "()V"⟩, 45), (⟨"HatDownTheStreetModel", "wordFrom", "(II)I"⟩, 45), (⟨"HatDownTheStreetModel", "eRead", "()Z"⟩, 45), (⟨"HatDownTheStreetModel", "puts", "(I)V"⟩, 45), (⟨"HatDownTheStreetModel", "unwinds", "(I)V"⟩, 45), (⟨"HatDownTheStreetModel", "opensOne", "(I)Z"⟩, 45), (⟨"HatDownTheStreetModel", "holds", "(I)V"⟩, 45), (⟨"HatDownTheStreetModel", "signOf", "()I"⟩, 45), (⟨"HatDownTheStreetModel", "between", "(I)Z"⟩, 45), (⟨"HatDownTheStreetModel", "isAnyIn", "(I)Z"⟩, 45), (⟨"HatDownTheStreetModel", "has", "(II)Z"⟩, 45), (⟨"HatDownTheStreetModel", "asksOf", "(IIIIIII)I"⟩, 45), (⟨"HatDownTheStreetModel", "says", "(I)I"⟩, 45), (⟨"HatDownTheStreetModel", "isFree", "(I)Z"⟩, 45)]
theorem lw_r3 : ∀ q ∈ lw_privs_3, lw_okq q := List.forall_mem_cons.mpr ⟨lw_p32, List.forall_mem_cons.mpr ⟨lw_p33, List.forall_mem_cons.mpr ⟨lw_p34, List.forall_mem_cons.mpr ⟨lw_p35, List.forall_mem_cons.mpr ⟨lw_p36, List.forall_mem_cons.mpr ⟨lw_p37, List.forall_mem_cons.mpr ⟨lw_p38, List.forall_mem_cons.mpr ⟨lw_p39, List.forall_mem_cons.mpr ⟨lw_p40, List.forall_mem_cons.mpr ⟨lw_p41, List.forall_mem_cons.mpr ⟨lw_p42, List.forall_mem_cons.mpr ⟨lw_p43, List.forall_mem_cons.mpr ⟨lw_p44, List.forall_mem_cons.mpr ⟨lw_p45, List.forall_mem_cons.mpr ⟨lw_p46, List.forall_mem_cons.mpr ⟨lw_p47, fun _ h => absurd h List.not_mem_nil⟩⟩⟩⟩⟩⟩⟩⟩⟩⟩⟩⟩⟩⟩⟩⟩
theorem lw_p48 : lw_okq (⟨"HatDownTheStreetModel", "isHat", "(I)Z"⟩, 45) := ⟨⟨by decide +kernel, by decide +kernel⟩, List.mem_of_getElem? (i := 950) (by decide +kernel), List.mem_of_getElem? (i := 1211) (by decide +kernel), List.mem_of_getElem? (i := 1212) (by decide +kernel)⟩
theorem lw_p49 : lw_okq (⟨"HatDownTheStreetModel", "isCatcher", "(I)Z"⟩, 45) := ⟨⟨by decide +kernel, by decide +kernel⟩, List.mem_of_getElem? (i := 950) (by decide +kernel), List.mem_of_getElem? (i := 1227) (by decide +kernel), List.mem_of_getElem? (i := 1228) (by decide +kernel)⟩
theorem lw_p50 : lw_okq (⟨"HatDownTheStreetModel", "squareBehind", "(II)I"⟩, 45) := ⟨⟨by decide +kernel, by decide +kernel⟩, List.mem_of_getElem? (i := 950) (by decide +kernel), List.mem_of_getElem? (i := 1235) (by decide +kernel), List.mem_of_getElem? (i := 1236) (by decide +kernel)⟩
theorem lw_p51 : lw_okq (⟨"HatDownTheStreetModel", "begins", "(I)V"⟩, 45) := ⟨⟨by decide +kernel, by decide +kernel⟩, List.mem_of_getElem? (i := 950) (by decide +kernel), List.mem_of_getElem? (i := 1239) (by decide +kernel), List.mem_of_getElem? (i := 1240) (by decide +kernel)⟩
theorem lw_p52 : lw_okq (⟨"HatDownTheStreetModel", "goesOn", "(II)V"⟩, 45) := ⟨⟨by decide +kernel, by decide +kernel⟩, List.mem_of_getElem? (i := 950) (by decide +kernel), List.mem_of_getElem? (i := 1243) (by decide +kernel), List.mem_of_getElem? (i := 1244) (by decide +kernel)⟩
theorem lw_p53 : lw_okq (⟨"HatDownTheStreetModel", "seconds", "(II)V"⟩, 45) := ⟨⟨by decide +kernel, by decide +kernel⟩, List.mem_of_getElem? (i := 950) (by decide +kernel), List.mem_of_getElem? (i := 1247) (by decide +kernel), List.mem_of_getElem? (i := 1248) (by decide +kernel)⟩
theorem lw_p54 : lw_okq (⟨"HatDownTheStreetModel", "goesBy", "(II)I"⟩, 45) := ⟨⟨by decide +kernel, by decide +kernel⟩, List.mem_of_getElem? (i := 950) (by decide +kernel), List.mem_of_getElem? (i := 1251) (by decide +kernel), List.mem_of_getElem? (i := 1252) (by decide +kernel)⟩
theorem lw_p55 : lw_okq (⟨"HatDownTheStreetModel", "wayIn", "(II)I"⟩, 45) := ⟨⟨by decide +kernel, by decide +kernel⟩, List.mem_of_getElem? (i := 950) (by decide +kernel), List.mem_of_getElem? (i := 1255) (by decide +kernel), List.mem_of_getElem? (i := 1256) (by decide +kernel)⟩
theorem lw_p56 : lw_okq (⟨"HatDownTheStreetModel", "beside", "(II)I"⟩, 45) := ⟨⟨by decide +kernel, by decide +kernel⟩, List.mem_of_getElem? (i := 950) (by decide +kernel), List.mem_of_getElem? (i := 1259) (by decide +kernel), List.mem_of_getElem? (i := 1260) (by decide +kernel)⟩
theorem lw_p57 : lw_okq (⟨"HatDownTheStreetModel", "passes", "(I)V"⟩, 45) := ⟨⟨by decide +kernel, by decide +kernel⟩, List.mem_of_getElem? (i := 950) (by decide +kernel), List.mem_of_getElem? (i := 1270) (by decide +kernel), List.mem_of_getElem? (i := 1271) (by decide +kernel)⟩
theorem lw_p58 : lw_okq (⟨"HatDownTheStreetModel", "comesFromAll", "(II)V"⟩, 45) := ⟨⟨by decide +kernel, by decide +kernel⟩, List.mem_of_getElem? (i := 950) (by decide +kernel), List.mem_of_getElem? (i := 1294) (by decide +kernel), List.mem_of_getElem? (i := 1295) (by decide +kernel)⟩
theorem lw_p59 : lw_okq (⟨"HatDownTheStreetModel", "areThere", "(II)Z"⟩, 45) := ⟨⟨by decide +kernel, by decide +kernel⟩, List.mem_of_getElem? (i := 950) (by decide +kernel), List.mem_of_getElem? (i := 1306) (by decide +kernel), List.mem_of_getElem? (i := 1307) (by decide +kernel)⟩
theorem lw_p60 : lw_okq (⟨"HatDownTheStreetModel", "hadBy", "(II)I"⟩, 45) := ⟨⟨by decide +kernel, by decide +kernel⟩, List.mem_of_getElem? (i := 950) (by decide +kernel), List.mem_of_getElem? (i := 1310) (by decide +kernel), List.mem_of_getElem? (i := 1311) (by decide +kernel)⟩
theorem lw_p61 : lw_okq (⟨"HatDownTheStreetModel", "had", "(IIIII)I"⟩, 45) := ⟨⟨by decide +kernel, by decide +kernel⟩, List.mem_of_getElem? (i := 950) (by decide +kernel), List.mem_of_getElem? (i := 1314) (by decide +kernel), List.mem_of_getElem? (i := 1315) (by decide +kernel)⟩
theorem lw_p62 : lw_okq (⟨"HatDownTheStreetModel", "spreads", "(I)V"⟩, 45) := ⟨⟨by decide +kernel, by decide +kernel⟩, List.mem_of_getElem? (i := 950) (by decide +kernel), List.mem_of_getElem? (i := 1318) (by decide +kernel), List.mem_of_getElem? (i := 1319) (by decide +kernel)⟩
theorem lw_p63 : lw_okq (⟨"HatDownTheStreetModel", "lastBy", "(II)I"⟩, 45) := ⟨⟨by decide +kernel, by decide +kernel⟩, List.mem_of_getElem? (i := 950) (by decide +kernel), List.mem_of_getElem? (i := 1345) (by decide +kernel), List.mem_of_getElem? (i := 1346) (by decide +kernel)⟩
def lw_privs_4 : List (MethodName × Nat) := [(⟨"HatDownTheStreetModel", "isHat", "(I)Z"⟩, 45), (⟨"HatDownTheStreetModel", "isCatcher", "(I)Z"⟩, 45), (⟨"HatDownTheStreetModel", "squareBehind", "(II)I"⟩, 45), (⟨"HatDownTheStreetModel", "begins", "(I)V"⟩, 45), (⟨"HatDownTheStreetModel", "goesOn", "(II)V"⟩, 45), (⟨"HatDownTheStreetModel", "seconds", "(II)V"⟩, 45), (⟨"HatDownTheStreetModel", "goesBy", "(II)I"⟩, 45), (⟨"HatDownTheStreetModel", "wayIn", "(II)I"⟩, 45), (⟨"HatDownTheStreetModel", "beside", "(II)I"⟩, 45), (⟨"HatDownTheStreetModel", "passes", "(I)V"⟩, 45), (⟨"HatDownTheStreetModel", "comesFromAll", "(II)V"⟩, 45), (⟨"HatDownTheStreetModel", "areThere", "(II)Z"⟩, 45), (⟨"HatDownTheStreetModel", "hadBy", "(II)I"⟩, 45), (⟨"HatDownTheStreetModel", "had", "(IIIII)I"⟩, 45), (⟨"HatDownTheStreetModel", "spreads", "(I)V"⟩, 45), (⟨"HatDownTheStreetModel", "lastBy", "(II)I"⟩, 45)]
theorem lw_r4 : ∀ q ∈ lw_privs_4, lw_okq q := List.forall_mem_cons.mpr ⟨lw_p48, List.forall_mem_cons.mpr ⟨lw_p49, List.forall_mem_cons.mpr ⟨lw_p50, List.forall_mem_cons.mpr ⟨lw_p51, List.forall_mem_cons.mpr ⟨lw_p52, List.forall_mem_cons.mpr ⟨lw_p53, List.forall_mem_cons.mpr ⟨lw_p54, List.forall_mem_cons.mpr ⟨lw_p55, List.forall_mem_cons.mpr ⟨lw_p56, List.forall_mem_cons.mpr ⟨lw_p57, List.forall_mem_cons.mpr ⟨lw_p58, List.forall_mem_cons.mpr ⟨lw_p59, List.forall_mem_cons.mpr ⟨lw_p60, List.forall_mem_cons.mpr ⟨lw_p61, List.forall_mem_cons.mpr ⟨lw_p62, List.forall_mem_cons.mpr ⟨lw_p63, fun _ h => absurd h List.not_mem_nil⟩⟩⟩⟩⟩⟩⟩⟩⟩⟩⟩⟩⟩⟩⟩⟩
theorem lw_p64 : lw_okq (⟨"HatDownTheStreetModel", "gainOf", "(II)I"⟩, 45) := ⟨⟨by decide +kernel, by decide +kernel⟩, List.mem_of_getElem? (i := 950) (by decide +kernel), List.mem_of_getElem? (i := 1353) (by decide +kernel), List.mem_of_getElem? (i := 1354) (by decide +kernel)⟩
theorem lw_p65 : lw_okq (⟨"HatDownTheStreetModel", "squareHeld", "(IIII)I"⟩, 45) := ⟨⟨by decide +kernel, by decide +kernel⟩, List.mem_of_getElem? (i := 950) (by decide +kernel), List.mem_of_getElem? (i := 1369) (by decide +kernel), List.mem_of_getElem? (i := 1370) (by decide +kernel)⟩
theorem lw_p66 : lw_okq (⟨"HatDownTheStreetModel", "toldWrong", "(II)I"⟩, 45) := ⟨⟨by decide +kernel, by decide +kernel⟩, List.mem_of_getElem? (i := 950) (by decide +kernel), List.mem_of_getElem? (i := 1396) (by decide +kernel), List.mem_of_getElem? (i := 1397) (by decide +kernel)⟩
theorem lw_p67 : lw_okq (⟨"HatDownTheStreetModel", "sheetWrong", "(I)I"⟩, 45) := ⟨⟨by decide +kernel, by decide +kernel⟩, List.mem_of_getElem? (i := 950) (by decide +kernel), List.mem_of_getElem? (i := 1400) (by decide +kernel), List.mem_of_getElem? (i := 1401) (by decide +kernel)⟩
theorem lw_p68 : lw_okq (⟨"HatDownTheStreetModel", "unlikeNow", "(II)I"⟩, 45) := ⟨⟨by decide +kernel, by decide +kernel⟩, List.mem_of_getElem? (i := 950) (by decide +kernel), List.mem_of_getElem? (i := 1404) (by decide +kernel), List.mem_of_getElem? (i := 1405) (by decide +kernel)⟩
theorem lw_p69 : lw_okq (⟨"HatDownTheStreetModel", "unlike", "(II)I"⟩, 45) := ⟨⟨by decide +kernel, by decide +kernel⟩, List.mem_of_getElem? (i := 950) (by decide +kernel), List.mem_of_getElem? (i := 1408) (by decide +kernel), List.mem_of_getElem? (i := 1409) (by decide +kernel)⟩
theorem lw_p70 : lw_okq (⟨"HatDownTheStreetModel", "blowsBy", "(I)V"⟩, 45) := ⟨⟨by decide +kernel, by decide +kernel⟩, List.mem_of_getElem? (i := 950) (by decide +kernel), List.mem_of_getElem? (i := 1437) (by decide +kernel), List.mem_of_getElem? (i := 1438) (by decide +kernel)⟩
theorem lw_p71 : lw_okq (⟨"HatDownTheStreetModel", "laysGusts", "()V"⟩, 45) := ⟨⟨by decide +kernel, by decide +kernel⟩, List.mem_of_getElem? (i := 950) (by decide +kernel), List.mem_of_getElem? (i := 1445) (by decide +kernel), List.mem_of_getElem? (i := 1446) (by decide +kernel)⟩
def lw_privs_5 : List (MethodName × Nat) := [(⟨"HatDownTheStreetModel", "gainOf", "(II)I"⟩, 45), (⟨"HatDownTheStreetModel", "squareHeld", "(IIII)I"⟩, 45), (⟨"HatDownTheStreetModel", "toldWrong", "(II)I"⟩, 45), (⟨"HatDownTheStreetModel", "sheetWrong", "(I)I"⟩, 45), (⟨"HatDownTheStreetModel", "unlikeNow", "(II)I"⟩, 45), (⟨"HatDownTheStreetModel", "unlike", "(II)I"⟩, 45), (⟨"HatDownTheStreetModel", "blowsBy", "(I)V"⟩, 45), (⟨"HatDownTheStreetModel", "laysGusts", "()V"⟩, 45)]
theorem lw_r5 : ∀ q ∈ lw_privs_5, lw_okq q := List.forall_mem_cons.mpr ⟨lw_p64, List.forall_mem_cons.mpr ⟨lw_p65, List.forall_mem_cons.mpr ⟨lw_p66, List.forall_mem_cons.mpr ⟨lw_p67, List.forall_mem_cons.mpr ⟨lw_p68, List.forall_mem_cons.mpr ⟨lw_p69, List.forall_mem_cons.mpr ⟨lw_p70, List.forall_mem_cons.mpr ⟨lw_p71, fun _ h => absurd h List.not_mem_nil⟩⟩⟩⟩⟩⟩⟩⟩
def lw_privs : List (MethodName × Nat) := lw_privs_1 ++ (lw_privs_2 ++ (lw_privs_3 ++ (lw_privs_4 ++ (lw_privs_5))))
def lw_tbl : List Cond := k2_sels lw_privs ++ tables_1
theorem lw_privs_ok : ∀ q ∈ lw_privs, lw_okq q := by
  show ∀ q ∈ lw_privs_1 ++ (lw_privs_2 ++ (lw_privs_3 ++ (lw_privs_4 ++ (lw_privs_5)))), lw_okq q
  exact List.forall_mem_append.mpr ⟨lw_r1, List.forall_mem_append.mpr ⟨lw_r2, List.forall_mem_append.mpr ⟨lw_r3, List.forall_mem_append.mpr ⟨lw_r4, lw_r5⟩⟩⟩⟩
def RX0 : String := "HatDownTheStreet$Catcher"
def TX0 : u_T := fun k => match k with
  | 0 => ("HatDownTheStreet$Catcher", "square", "I", false)
  | 1 => ("HatDownTheStreet$Catcher", "pace", "I", false)
  | _ => ("HatDownTheStreet$Catcher", "reach", "I", false)
def tyX0 : Nat → FieldType := fun k => match k with
  | 0 => .int
  | 1 => .int
  | _ => .int
abbrev wsX00 : List Cond := u_ws RX0 TX0 3
theorem nmX0 : ∀ a, a < 3 → ∀ b, b < 3 → a ≠ b → (TX0 a).2.1 ≠ (TX0 b).2.1 := by decide +kernel
theorem tyX0_ok : ∀ k, k < 3 → parseFieldDescriptor (TX0 k).2.2.1 = some (tyX0 k) := by decide +kernel
abbrev cX0_init : ByteArray := prog_2_method_1_code
def yX0_init : MethodName := ⟨RX0, "<init>", "()V"⟩
abbrev cX0_become : ByteArray := prog_2_method_2_code
def yX0_become : MethodName := ⟨RX0, "become", "(LHatDownTheStreet$Catcher;)V"⟩
def RX1 : String := "HatDownTheStreet$Errand"
def TX1 : u_T := fun k => match k with
  | 0 => ("HatDownTheStreet$Errand", "paths", "[[I", true)
  | 1 => ("HatDownTheStreet$Errand", "best", "I", false)
  | 2 => ("HatDownTheStreet$Errand", "end", "I", false)
  | 3 => ("HatDownTheStreet$Errand", "hats", "I", false)
  | 4 => ("HatDownTheStreet$Errand", "pace", "I", false)
  | _ => ("HatDownTheStreet$Errand", "reach", "I", false)
def tyX1 : Nat → FieldType := fun k => match k with
  | 0 => .array (.array .int)
  | 1 => .int
  | 2 => .int
  | 3 => .int
  | 4 => .int
  | _ => .int
abbrev wsX10 : List Cond := u_ws RX1 TX1 6
theorem nmX1 : ∀ a, a < 6 → ∀ b, b < 6 → a ≠ b → (TX1 a).2.1 ≠ (TX1 b).2.1 := by decide +kernel
theorem tyX1_ok : ∀ k, k < 6 → parseFieldDescriptor (TX1 k).2.2.1 = some (tyX1 k) := by decide +kernel
abbrev cX1_init : ByteArray := prog_3_method_1_code
def yX1_init : MethodName := ⟨RX1, "<init>", "()V"⟩
abbrev cX1_plan : ByteArray := prog_3_method_2_code
def yX1_plan : MethodName := ⟨RX1, "plan", "(LHatDownTheStreet$Thought;LHatDownTheStreet$Catcher;I)V"⟩
abbrev cX1_fetch : ByteArray := prog_3_method_3_code
def yX1_fetch : MethodName := ⟨RX1, "fetch", "(LHatDownTheStreet$Thought;IIII)V"⟩
def RX2 : String := "HatDownTheStreet$Hat"
def TX2 : u_T := fun k => match k with
  | 0 => ("HatDownTheStreet$Hat", "kind", "I", false)
  | 1 => ("HatDownTheStreet$Hat", "more", "I", false)
  | _ => ("HatDownTheStreet$Hat", "state", "I", false)
def tyX2 : Nat → FieldType := fun k => match k with
  | 0 => .int
  | 1 => .int
  | _ => .int
abbrev wsX20 : List Cond := u_ws RX2 TX2 3
theorem nmX2 : ∀ a, a < 3 → ∀ b, b < 3 → a ≠ b → (TX2 a).2.1 ≠ (TX2 b).2.1 := by decide +kernel
theorem tyX2_ok : ∀ k, k < 3 → parseFieldDescriptor (TX2 k).2.2.1 = some (tyX2 k) := by decide +kernel
abbrev cX2_init : ByteArray := prog_4_method_1_code
def yX2_init : MethodName := ⟨RX2, "<init>", "()V"⟩
abbrev cX2_become : ByteArray := prog_4_method_2_code
def yX2_become : MethodName := ⟨RX2, "become", "(LHatDownTheStreet$Hat;)V"⟩
def RX3 : String := "HatDownTheStreet$Kinds"
def TX3 : u_T := fun k => match k with
  | _ => ("", "", "", false)
def tyX3 : Nat → FieldType := fun k => match k with
  | _ => .int
abbrev wsX30 : List Cond := u_ws RX3 TX3 0
theorem nmX3 : ∀ a, a < 0 → ∀ b, b < 0 → a ≠ b → (TX3 a).2.1 ≠ (TX3 b).2.1 := by decide +kernel
theorem tyX3_ok : ∀ k, k < 0 → parseFieldDescriptor (TX3 k).2.2.1 = some (tyX3 k) := by decide +kernel
abbrev cX3_far : ByteArray := prog_5_method_2_code
def yX3_far : MethodName := ⟨RX3, "far", "(IIII)I"⟩
abbrev cX3_hatFar : ByteArray := prog_5_method_3_code
def yX3_hatFar : MethodName := ⟨RX3, "hatFar", "(II)I"⟩
abbrev cX3_bowlerFar : ByteArray := prog_5_method_4_code
def yX3_bowlerFar : MethodName := ⟨RX3, "bowlerFar", "(III)I"⟩
abbrev cX3_capFar : ByteArray := prog_5_method_5_code
def yX3_capFar : MethodName := ⟨RX3, "capFar", "(I)I"⟩
abbrev cX3_turnsOver : ByteArray := prog_5_method_6_code
def yX3_turnsOver : MethodName := ⟨RX3, "turnsOver", "(I)Z"⟩
abbrev cX3_eddyWay : ByteArray := prog_5_method_7_code
def yX3_eddyWay : MethodName := ⟨RX3, "eddyWay", "(III)I"⟩
abbrev cX3_isOne : ByteArray := prog_5_method_8_code
def yX3_isOne : MethodName := ⟨RX3, "isOne", "(II)Z"⟩
def RX4 : String := "HatDownTheStreet$Law"
def TX4 : u_T := fun k => match k with
  | 0 => ("HatDownTheStreet$Law", "code", "[I", true)
  | 1 => ("HatDownTheStreet$Law", "ends", "[I", true)
  | 2 => ("HatDownTheStreet$Law", "pending", "[I", true)
  | _ => ("HatDownTheStreet$Law", "used", "I", false)
def tyX4 : Nat → FieldType := fun k => match k with
  | 0 => .array .int
  | 1 => .array .int
  | 2 => .array .int
  | _ => .int
abbrev wsX40 : List Cond := u_ws RX4 TX4 4
theorem nmX4 : ∀ a, a < 4 → ∀ b, b < 4 → a ≠ b → (TX4 a).2.1 ≠ (TX4 b).2.1 := by decide +kernel
theorem tyX4_ok : ∀ k, k < 4 → parseFieldDescriptor (TX4 k).2.2.1 = some (tyX4 k) := by decide +kernel
abbrev cX4_init : ByteArray := prog_6_method_1_code
def yX4_init : MethodName := ⟨RX4, "<init>", "()V"⟩
abbrev cX4_clear : ByteArray := prog_6_method_2_code
def yX4_clear : MethodName := ⟨RX4, "clear", "()V"⟩
abbrev cX4_add : ByteArray := prog_6_method_3_code
def yX4_add : MethodName := ⟨RX4, "add", "(I)V"⟩
abbrev cX4_addName : ByteArray := prog_6_method_4_code
def yX4_addName : MethodName := ⟨RX4, "addName", "(I)V"⟩
abbrev cX4_endPart : ByteArray := prog_6_method_5_code
def yX4_endPart : MethodName := ⟨RX4, "endPart", "(I)V"⟩
abbrev cX4_says : ByteArray := prog_6_method_6_code
def yX4_says : MethodName := ⟨RX4, "says", "(I[I)I"⟩
abbrev cX4_withinBounds : ByteArray := prog_6_method_7_code
def yX4_withinBounds : MethodName := ⟨RX4, "withinBounds", "(II)I"⟩
abbrev cX4_changed : ByteArray := prog_6_method_8_code
def yX4_changed : MethodName := ⟨RX4, "changed", "(II)I"⟩
abbrev cX4_joined : ByteArray := prog_6_method_9_code
def yX4_joined : MethodName := ⟨RX4, "joined", "(III)I"⟩
def RX5 : String := "HatDownTheStreet$Reader"
def TX5 : u_T := fun k => match k with
  | 0 => ("HatDownTheStreet$Reader", "fed", "I", false)
  | 1 => ("HatDownTheStreet$Reader", "tape", "[I", true)
  | 2 => ("HatDownTheStreet$Reader", "tokens", "[I", true)
  | 3 => ("HatDownTheStreet$Reader", "places", "[I", true)
  | 4 => ("HatDownTheStreet$Reader", "values", "[I", true)
  | 5 => ("HatDownTheStreet$Reader", "next", "I", false)
  | 6 => ("HatDownTheStreet$Reader", "token", "I", false)
  | 7 => ("HatDownTheStreet$Reader", "fault", "I", false)
  | _ => ("HatDownTheStreet$Reader", "law", "LHatDownTheStreet$Law;", false)
def tyX5 : Nat → FieldType := fun k => match k with
  | 0 => .int
  | 1 => .array .int
  | 2 => .array .int
  | 3 => .array .int
  | 4 => .array .int
  | 5 => .int
  | 6 => .int
  | 7 => .int
  | _ => .object "HatDownTheStreet$Law"
abbrev wsX50 : List Cond := u_ws RX5 TX5 9
theorem nmX5 : ∀ a, a < 9 → ∀ b, b < 9 → a ≠ b → (TX5 a).2.1 ≠ (TX5 b).2.1 := by decide +kernel
theorem tyX5_ok : ∀ k, k < 9 → parseFieldDescriptor (TX5 k).2.2.1 = some (tyX5 k) := by decide +kernel
abbrev cX5_init : ByteArray := prog_7_method_1_code
def yX5_init : MethodName := ⟨RX5, "<init>", "()V"⟩
abbrev cX5_put : ByteArray := prog_7_method_2_code
def yX5_put : MethodName := ⟨RX5, "put", "(I)V"⟩
abbrev cX5_readInto : ByteArray := prog_7_method_3_code
def yX5_readInto : MethodName := ⟨RX5, "readInto", "(LHatDownTheStreet$Law;)I"⟩
abbrev cX5_readPart : ByteArray := prog_7_method_4_code
def yX5_readPart : MethodName := ⟨RX5, "readPart", "(II)V"⟩
abbrev cX5_readOr : ByteArray := prog_7_method_5_code
def yX5_readOr : MethodName := ⟨RX5, "readOr", "(I)V"⟩
abbrev cX5_readAnd : ByteArray := prog_7_method_6_code
def yX5_readAnd : MethodName := ⟨RX5, "readAnd", "(I)V"⟩
abbrev cX5_readNot : ByteArray := prog_7_method_7_code
def yX5_readNot : MethodName := ⟨RX5, "readNot", "(I)V"⟩
abbrev cX5_readSum : ByteArray := prog_7_method_8_code
def yX5_readSum : MethodName := ⟨RX5, "readSum", "(I)V"⟩
abbrev cX5_readTerm : ByteArray := prog_7_method_9_code
def yX5_readTerm : MethodName := ⟨RX5, "readTerm", "(I)V"⟩
abbrev cX5_readOne : ByteArray := prog_7_method_10_code
def yX5_readOne : MethodName := ⟨RX5, "readOne", "(I)V"⟩
abbrev cX5_expect : ByteArray := prog_7_method_11_code
def yX5_expect : MethodName := ⟨RX5, "expect", "(I)V"⟩
abbrev cX5_refuse : ByteArray := prog_7_method_12_code
def yX5_refuse : MethodName := ⟨RX5, "refuse", "()V"⟩
abbrev cX5_advance : ByteArray := prog_7_method_13_code
def yX5_advance : MethodName := ⟨RX5, "advance", "()V"⟩
abbrev cX5_partTokens : ByteArray := prog_7_method_14_code
def yX5_partTokens : MethodName := ⟨RX5, "partTokens", "()V"⟩
abbrev cX5_byteAt : ByteArray := prog_7_method_15_code
def yX5_byteAt : MethodName := ⟨RX5, "byteAt", "(I)I"⟩
abbrev cX5_behindBlanks : ByteArray := prog_7_method_16_code
def yX5_behindBlanks : MethodName := ⟨RX5, "behindBlanks", "(I)I"⟩
abbrev cX5_tokenEnd : ByteArray := prog_7_method_17_code
def yX5_tokenEnd : MethodName := ⟨RX5, "tokenEnd", "(I)I"⟩
abbrev cX5_tokenBetween : ByteArray := prog_7_method_18_code
def yX5_tokenBetween : MethodName := ⟨RX5, "tokenBetween", "(II)I"⟩
abbrev cX5_valueOf : ByteArray := prog_7_method_19_code
def yX5_valueOf : MethodName := ⟨RX5, "valueOf", "(III)I"⟩
abbrev cX5_isLetter : ByteArray := prog_7_method_20_code
def yX5_isLetter : MethodName := ⟨RX5, "isLetter", "(I)Z"⟩
abbrev cX5_isDigit : ByteArray := prog_7_method_21_code
def yX5_isDigit : MethodName := ⟨RX5, "isDigit", "(I)Z"⟩
abbrev cX5_isSign : ByteArray := prog_7_method_22_code
def yX5_isSign : MethodName := ⟨RX5, "isSign", "(I)Z"⟩
abbrev cX5_nameBetween : ByteArray := prog_7_method_23_code
def yX5_nameBetween : MethodName := ⟨RX5, "nameBetween", "(II)I"⟩
abbrev cX5_keyBetween : ByteArray := prog_7_method_24_code
def yX5_keyBetween : MethodName := ⟨RX5, "keyBetween", "(II)I"⟩
abbrev cX5_isWord : ByteArray := prog_7_method_25_code
def yX5_isWord : MethodName := ⟨RX5, "isWord", "(Ljava/lang/String;II)Z"⟩
def RX6 : String := "HatDownTheStreet$Sheet"
def TX6 : u_T := fun k => match k with
  | 0 => ("HatDownTheStreet$Sheet", "sort", "I", false)
  | 1 => ("HatDownTheStreet$Sheet", "size", "I", false)
  | _ => ("HatDownTheStreet$Sheet", "row", "[I", true)
def tyX6 : Nat → FieldType := fun k => match k with
  | 0 => .int
  | 1 => .int
  | _ => .array .int
abbrev wsX60 : List Cond := u_ws RX6 TX6 3
theorem nmX6 : ∀ a, a < 3 → ∀ b, b < 3 → a ≠ b → (TX6 a).2.1 ≠ (TX6 b).2.1 := by decide +kernel
theorem tyX6_ok : ∀ k, k < 3 → parseFieldDescriptor (TX6 k).2.2.1 = some (tyX6 k) := by decide +kernel
abbrev cX6_init : ByteArray := prog_8_method_1_code
def yX6_init : MethodName := ⟨RX6, "<init>", "()V"⟩
abbrev cX6_becomeEmpty : ByteArray := prog_8_method_2_code
def yX6_becomeEmpty : MethodName := ⟨RX6, "becomeEmpty", "(II)V"⟩
abbrev cX6_put : ByteArray := prog_8_method_3_code
def yX6_put : MethodName := ⟨RX6, "put", "(II)V"⟩
def RX7 : String := "HatDownTheStreet$Street"
def TX7 : u_T := fun k => match k with
  | 0 => ("HatDownTheStreet$Street", "marks", "[I", true)
  | 1 => ("HatDownTheStreet$Street", "way", "[I", true)
  | 2 => ("HatDownTheStreet$Street", "strength", "[I", true)
  | 3 => ("HatDownTheStreet$Street", "hats", "[LHatDownTheStreet$Hat;", true)
  | 4 => ("HatDownTheStreet$Street", "catchers", "[LHatDownTheStreet$Catcher;", true)
  | 5 => ("HatDownTheStreet$Street", "hatCount", "I", false)
  | 6 => ("HatDownTheStreet$Street", "catcherCount", "I", false)
  | _ => ("HatDownTheStreet$Street", "law", "I", false)
def tyX7 : Nat → FieldType := fun k => match k with
  | 0 => .array .int
  | 1 => .array .int
  | 2 => .array .int
  | 3 => .array (.object "HatDownTheStreet$Hat")
  | 4 => .array (.object "HatDownTheStreet$Catcher")
  | 5 => .int
  | 6 => .int
  | _ => .int
abbrev wsX70 : List Cond := u_ws RX7 TX7 8
theorem nmX7 : ∀ a, a < 8 → ∀ b, b < 8 → a ≠ b → (TX7 a).2.1 ≠ (TX7 b).2.1 := by decide +kernel
theorem tyX7_ok : ∀ k, k < 8 → parseFieldDescriptor (TX7 k).2.2.1 = some (tyX7 k) := by decide +kernel
abbrev cX7_init : ByteArray := prog_9_method_1_code
def yX7_init : MethodName := ⟨RX7, "<init>", "()V"⟩
abbrev cX7_become : ByteArray := prog_9_method_2_code
def yX7_become : MethodName := ⟨RX7, "become", "(LHatDownTheStreet$Street;)V"⟩
abbrev cX7_gust : ByteArray := prog_9_method_3_code
def yX7_gust : MethodName := ⟨RX7, "gust", "(I)I"⟩
abbrev cX7_hatSquares : ByteArray := prog_9_method_4_code
def yX7_hatSquares : MethodName := ⟨RX7, "hatSquares", "()I"⟩
abbrev cX7_catcherSquares : ByteArray := prog_9_method_5_code
def yX7_catcherSquares : MethodName := ⟨RX7, "catcherSquares", "()I"⟩
abbrev cX7_removeHat : ByteArray := prog_9_method_6_code
def yX7_removeHat : MethodName := ⟨RX7, "removeHat", "(I)V"⟩
def RX8 : String := "HatDownTheStreet$Thought"
def TX8 : u_T := fun k => match k with
  | 0 => ("HatDownTheStreet$Thought", "walls", "I", false)
  | 1 => ("HatDownTheStreet$Thought", "puddles", "I", false)
  | 2 => ("HatDownTheStreet$Thought", "eddies", "I", false)
  | 3 => ("HatDownTheStreet$Thought", "kind", "I", false)
  | 4 => ("HatDownTheStreet$Thought", "more", "I", false)
  | 5 => ("HatDownTheStreet$Thought", "start", "I", false)
  | 6 => ("HatDownTheStreet$Thought", "law", "LHatDownTheStreet$Law;", false)
  | 7 => ("HatDownTheStreet$Thought", "way", "[I", true)
  | 8 => ("HatDownTheStreet$Thought", "strength", "[I", true)
  | 9 => ("HatDownTheStreet$Thought", "path", "[I", true)
  | _ => ("HatDownTheStreet$Thought", "names", "[I", true)
def tyX8 : Nat → FieldType := fun k => match k with
  | 0 => .int
  | 1 => .int
  | 2 => .int
  | 3 => .int
  | 4 => .int
  | 5 => .int
  | 6 => .object "HatDownTheStreet$Law"
  | 7 => .array .int
  | 8 => .array .int
  | 9 => .array .int
  | _ => .array .int
abbrev wsX80 : List Cond := u_ws RX8 TX8 11
theorem nmX8 : ∀ a, a < 11 → ∀ b, b < 11 → a ≠ b → (TX8 a).2.1 ≠ (TX8 b).2.1 := by decide +kernel
theorem tyX8_ok : ∀ k, k < 11 → parseFieldDescriptor (TX8 k).2.2.1 = some (tyX8 k) := by decide +kernel
abbrev cX8_init : ByteArray := prog_10_method_1_code
def yX8_init : MethodName := ⟨RX8, "<init>", "()V"⟩
abbrev cX8_suppose : ByteArray := prog_10_method_2_code
def yX8_suppose : MethodName := ⟨RX8, "suppose", "(LHatDownTheStreet$Street;LHatDownTheStreet$Hat;LHatDownTheStreet$Law;)V"⟩
abbrev cX8_drawGusts : ByteArray := prog_10_method_3_code
def yX8_drawGusts : MethodName := ⟨RX8, "drawGusts", "(I)V"⟩
abbrev cX8_tell : ByteArray := prog_10_method_4_code
def yX8_tell : MethodName := ⟨RX8, "tell", "(III)V"⟩
abbrev cX8_isWet : ByteArray := prog_10_method_5_code
def yX8_isWet : MethodName := ⟨RX8, "isWet", "(I)Z"⟩
abbrev cX8_later : ByteArray := prog_10_method_6_code
def yX8_later : MethodName := ⟨RX8, "later", "(III)I"⟩
abbrev cX8_follow : ByteArray := prog_10_method_7_code
def yX8_follow : MethodName := ⟨RX8, "follow", "([I)V"⟩
abbrev cX8_next : ByteArray := prog_10_method_8_code
def yX8_next : MethodName := ⟨RX8, "next", "(II)I"⟩
abbrev cX8_slide : ByteArray := prog_10_method_9_code
def yX8_slide : MethodName := ⟨RX8, "slide", "(III)I"⟩
abbrev cX8_beside : ByteArray := prog_10_method_10_code
def yX8_beside : MethodName := ⟨RX8, "beside", "(II)I"⟩
abbrev cX8_firstIn : ByteArray := prog_10_method_11_code
def yX8_firstIn : MethodName := ⟨RX8, "firstIn", "(I)I"⟩
abbrev cX8_hadBy : ByteArray := prog_10_method_12_code
def yX8_hadBy : MethodName := ⟨RX8, "hadBy", "(LHatDownTheStreet$Catcher;)I"⟩
abbrev cX8_had : ByteArray := prog_10_method_13_code
def yX8_had : MethodName := ⟨RX8, "had", "([IIIII)I"⟩
abbrev cX8_spread : ByteArray := prog_10_method_14_code
def yX8_spread : MethodName := ⟨RX8, "spread", "(II)I"⟩
abbrev cX8_elsewhere : ByteArray := prog_10_method_15_code
def yX8_elsewhere : MethodName := ⟨RX8, "elsewhere", "(LHatDownTheStreet$Sheet;I)I"⟩
def RX9 : String := "HatDownTheStreet"
def TX9 : u_T := fun k => match k with
  | 0 => ("HatDownTheStreet", "now", "LHatDownTheStreet$Street;", true)
  | 1 => ("HatDownTheStreet", "kept", "LHatDownTheStreet$Street;", true)
  | 2 => ("HatDownTheStreet", "isKept", "Z", false)
  | 3 => ("HatDownTheStreet", "texts", "[LHatDownTheStreet$Law;", true)
  | 4 => ("HatDownTheStreet", "textCount", "I", false)
  | 5 => ("HatDownTheStreet", "reader", "LHatDownTheStreet$Reader;", true)
  | 6 => ("HatDownTheStreet", "rows", "[LHatDownTheStreet$Sheet;", true)
  | 7 => ("HatDownTheStreet", "mind", "LHatDownTheStreet$Thought;", true)
  | 8 => ("HatDownTheStreet", "errand", "LHatDownTheStreet$Errand;", true)
  | _ => ("HatDownTheStreet", "tally", "[I", true)
def tyX9 : Nat → FieldType := fun k => match k with
  | 0 => .object "HatDownTheStreet$Street"
  | 1 => .object "HatDownTheStreet$Street"
  | 2 => .boolean
  | 3 => .array (.object "HatDownTheStreet$Law")
  | 4 => .int
  | 5 => .object "HatDownTheStreet$Reader"
  | 6 => .array (.object "HatDownTheStreet$Sheet")
  | 7 => .object "HatDownTheStreet$Thought"
  | 8 => .object "HatDownTheStreet$Errand"
  | _ => .array .int
abbrev wsX90 : List Cond := u_ws RX9 TX9 10
theorem nmX9 : ∀ a, a < 10 → ∀ b, b < 10 → a ≠ b → (TX9 a).2.1 ≠ (TX9 b).2.1 := by decide +kernel
theorem tyX9_ok : ∀ k, k < 10 → parseFieldDescriptor (TX9 k).2.2.1 = some (tyX9 k) := by decide +kernel
abbrev cX9_init : ByteArray := prog_1_method_1_code
def yX9_init : MethodName := ⟨RX9, "<init>", "()V"⟩
abbrev cX9_street : ByteArray := prog_1_method_2_code
def yX9_street : MethodName := ⟨RX9, "street", "(III)I"⟩
abbrev cX9_blow : ByteArray := prog_1_method_3_code
def yX9_blow : MethodName := ⟨RX9, "blow", "(III)I"⟩
abbrev cX9_wind : ByteArray := prog_1_method_4_code
def yX9_wind : MethodName := ⟨RX9, "wind", "(I)I"⟩
abbrev cX9_count : ByteArray := prog_1_method_5_code
def yX9_count : MethodName := ⟨RX9, "count", "(I)I"⟩
abbrev cX9_feed : ByteArray := prog_1_method_6_code
def yX9_feed : MethodName := ⟨RX9, "feed", "(IIIIII)I"⟩
abbrev cX9_text : ByteArray := prog_1_method_7_code
def yX9_text : MethodName := ⟨RX9, "text", "()I"⟩
abbrev cX9_force : ByteArray := prog_1_method_8_code
def yX9_force : MethodName := ⟨RX9, "force", "(I)I"⟩
abbrev cX9_asks : ByteArray := prog_1_method_9_code
def yX9_asks : MethodName := ⟨RX9, "asks", "(IIIII)I"⟩
abbrev cX9_hat : ByteArray := prog_1_method_10_code
def yX9_hat : MethodName := ⟨RX9, "hat", "(III)I"⟩
abbrev cX9_set : ByteArray := prog_1_method_11_code
def yX9_set : MethodName := ⟨RX9, "set", "(III)I"⟩
abbrev cX9_told : ByteArray := prog_1_method_12_code
def yX9_told : MethodName := ⟨RX9, "told", "(II)I"⟩
abbrev cX9_come : ByteArray := prog_1_method_13_code
def yX9_come : MethodName := ⟨RX9, "come", "(III)I"⟩
abbrev cX9_does : ByteArray := prog_1_method_14_code
def yX9_does : MethodName := ⟨RX9, "does", "(III)I"⟩
abbrev cX9_at : ByteArray := prog_1_method_15_code
def yX9_at : MethodName := ⟨RX9, "at", "(III)I"⟩
abbrev cX9_pass : ByteArray := prog_1_method_16_code
def yX9_pass : MethodName := ⟨RX9, "pass", "(I)I"⟩
abbrev cX9_when : ByteArray := prog_1_method_17_code
def yX9_when : MethodName := ⟨RX9, "when", "(II)I"⟩
abbrev cX9_track : ByteArray := prog_1_method_18_code
def yX9_track : MethodName := ⟨RX9, "track", "(II)I"⟩
abbrev cX9_over : ByteArray := prog_1_method_19_code
def yX9_over : MethodName := ⟨RX9, "over", "(I)I"⟩
abbrev cX9_round : ByteArray := prog_1_method_20_code
def yX9_round : MethodName := ⟨RX9, "round", "(II)I"⟩
abbrev cX9_from : ByteArray := prog_1_method_21_code
def yX9_from : MethodName := ⟨RX9, "from", "(III)I"⟩
abbrev cX9_keeps : ByteArray := prog_1_method_22_code
def yX9_keeps : MethodName := ⟨RX9, "keeps", "(III)I"⟩
abbrev cX9_caught : ByteArray := prog_1_method_23_code
def yX9_caught : MethodName := ⟨RX9, "caught", "(II)I"⟩
abbrev cX9_who : ByteArray := prog_1_method_24_code
def yX9_who : MethodName := ⟨RX9, "who", "(II)I"⟩
abbrev cX9_stand : ByteArray := prog_1_method_25_code
def yX9_stand : MethodName := ⟨RX9, "stand", "(III)I"⟩
abbrev cX9_wait : ByteArray := prog_1_method_26_code
def yX9_wait : MethodName := ⟨RX9, "wait", "(II)I"⟩
abbrev cX9_pace : ByteArray := prog_1_method_27_code
def yX9_pace : MethodName := ⟨RX9, "pace", "(III)I"⟩
abbrev cX9_order : ByteArray := prog_1_method_28_code
def yX9_order : MethodName := ⟨RX9, "order", "(II)I"⟩
abbrev cX9_gain : ByteArray := prog_1_method_29_code
def yX9_gain : MethodName := ⟨RX9, "gain", "(II)I"⟩
abbrev cX9_whom : ByteArray := prog_1_method_30_code
def yX9_whom : MethodName := ⟨RX9, "whom", "(II)I"⟩
abbrev cX9_run : ByteArray := prog_1_method_31_code
def yX9_run : MethodName := ⟨RX9, "run", "(II)I"⟩
abbrev cX9_held : ByteArray := prog_1_method_32_code
def yX9_held : MethodName := ⟨RX9, "held", "(III)I"⟩
abbrev cX9_save : ByteArray := prog_1_method_33_code
def yX9_save : MethodName := ⟨RX9, "save", "(I)I"⟩
abbrev cX9_turned : ByteArray := prog_1_method_34_code
def yX9_turned : MethodName := ⟨RX9, "turned", "(III)I"⟩
abbrev cX9_lull : ByteArray := prog_1_method_35_code
def yX9_lull : MethodName := ⟨RX9, "lull", "(III)I"⟩
abbrev cX9_fence : ByteArray := prog_1_method_36_code
def yX9_fence : MethodName := ⟨RX9, "fence", "(III)I"⟩
abbrev cX9_judge : ByteArray := prog_1_method_37_code
def yX9_judge : MethodName := ⟨RX9, "judge", "(II)I"⟩
abbrev cX9_whose : ByteArray := prog_1_method_38_code
def yX9_whose : MethodName := ⟨RX9, "whose", "(I)I"⟩
abbrev cX9_lay : ByteArray := prog_1_method_39_code
def yX9_lay : MethodName := ⟨RX9, "lay", "(II)I"⟩
abbrev cX9_kinds : ByteArray := prog_1_method_40_code
def yX9_kinds : MethodName := ⟨RX9, "kinds", "(III)I"⟩
abbrev cX9_laws : ByteArray := prog_1_method_41_code
def yX9_laws : MethodName := ⟨RX9, "laws", "(II)I"⟩
abbrev cX9_film : ByteArray := prog_1_method_42_code
def yX9_film : MethodName := ⟨RX9, "film", "(III)I"⟩
abbrev cX9_drawn : ByteArray := prog_1_method_43_code
def yX9_drawn : MethodName := ⟨RX9, "drawn", "(III)I"⟩
abbrev cX9_odds : ByteArray := prog_1_method_44_code
def yX9_odds : MethodName := ⟨RX9, "odds", "(IIII)J"⟩
abbrev cX9_image : ByteArray := prog_1_method_45_code
def yX9_image : MethodName := ⟨RX9, "image", "()I"⟩
abbrev cX9_back : ByteArray := prog_1_method_46_code
def yX9_back : MethodName := ⟨RX9, "back", "()I"⟩
abbrev cX9_sheet : ByteArray := prog_1_method_47_code
def yX9_sheet : MethodName := ⟨RX9, "sheet", "(III)I"⟩
abbrev cX9_cell : ByteArray := prog_1_method_48_code
def yX9_cell : MethodName := ⟨RX9, "cell", "(III)I"⟩
abbrev cX9_copy : ByteArray := prog_1_method_49_code
def yX9_copy : MethodName := ⟨RX9, "copy", "(IIIII)I"⟩
abbrev cX9_gustsBy : ByteArray := prog_1_method_50_code
def yX9_gustsBy : MethodName := ⟨RX9, "gustsBy", "(IIII)I"⟩
abbrev cX9_taken : ByteArray := prog_1_method_51_code
def yX9_taken : MethodName := ⟨RX9, "taken", "(II)I"⟩
abbrev cX9_isHat : ByteArray := prog_1_method_52_code
def yX9_isHat : MethodName := ⟨RX9, "isHat", "(I)Z"⟩
abbrev cX9_isCatcher : ByteArray := prog_1_method_53_code
def yX9_isCatcher : MethodName := ⟨RX9, "isCatcher", "(I)Z"⟩
abbrev cX9_isOpen : ByteArray := prog_1_method_54_code
def yX9_isOpen : MethodName := ⟨RX9, "isOpen", "(I)Z"⟩
abbrev cX9_isSquare : ByteArray := prog_1_method_55_code
def yX9_isSquare : MethodName := ⟨RX9, "isSquare", "(I)Z"⟩
abbrev cX9_isSecond : ByteArray := prog_1_method_56_code
def yX9_isSecond : MethodName := ⟨RX9, "isSecond", "(I)Z"⟩
abbrev cX9_isBehind : ByteArray := prog_1_method_57_code
def yX9_isBehind : MethodName := ⟨RX9, "isBehind", "(I)Z"⟩
abbrev cX9_isByte : ByteArray := prog_1_method_58_code
def yX9_isByte : MethodName := ⟨RX9, "isByte", "(I)Z"⟩
abbrev cX9_isLie : ByteArray := prog_1_method_59_code
def yX9_isLie : MethodName := ⟨RX9, "isLie", "(I)Z"⟩
abbrev cX9_isPace : ByteArray := prog_1_method_60_code
def yX9_isPace : MethodName := ⟨RX9, "isPace", "(I)Z"⟩
abbrev cX9_isReach : ByteArray := prog_1_method_61_code
def yX9_isReach : MethodName := ⟨RX9, "isReach", "(I)Z"⟩
abbrev cX9_isSeed : ByteArray := prog_1_method_62_code
def yX9_isSeed : MethodName := ⟨RX9, "isSeed", "(I)Z"⟩
abbrev cX9_isSheet : ByteArray := prog_1_method_63_code
def yX9_isSheet : MethodName := ⟨RX9, "isSheet", "(I)Z"⟩
abbrev cX9_isZeroOrOne : ByteArray := prog_1_method_64_code
def yX9_isZeroOrOne : MethodName := ⟨RX9, "isZeroOrOne", "(I)Z"⟩
abbrev cX9_isSooner : ByteArray := prog_1_method_65_code
def yX9_isSooner : MethodName := ⟨RX9, "isSooner", "(II)Z"⟩
abbrev cX9_stateOf : ByteArray := prog_1_method_66_code
def yX9_stateOf : MethodName := ⟨RX9, "stateOf", "(II)I"⟩
abbrev cX9_squareOf : ByteArray := prog_1_method_67_code
def yX9_squareOf : MethodName := ⟨RX9, "squareOf", "(I)I"⟩
abbrev cX9_lieOf : ByteArray := prog_1_method_68_code
def yX9_lieOf : MethodName := ⟨RX9, "lieOf", "(I)I"⟩
abbrev cX9_bounded : ByteArray := prog_1_method_69_code
def yX9_bounded : MethodName := ⟨RX9, "bounded", "(III)I"⟩
abbrev cX9_commonDivisor : ByteArray := prog_1_method_70_code
def yX9_commonDivisor : MethodName := ⟨RX9, "commonDivisor", "(II)I"⟩
abbrev cX9_think : ByteArray := prog_1_method_71_code
def yX9_think : MethodName := ⟨RX9, "think", "(I)V"⟩
abbrev cX9_hadNow : ByteArray := prog_1_method_72_code
def yX9_hadNow : MethodName := ⟨RX9, "hadNow", "(II)I"⟩
abbrev cX9_worthHad : ByteArray := prog_1_method_73_code
def yX9_worthHad : MethodName := ⟨RX9, "worthHad", "(II)I"⟩
abbrev cX9_letPass : ByteArray := prog_1_method_74_code
def yX9_letPass : MethodName := ⟨RX9, "letPass", "(I)V"⟩
abbrev cX9_refusalOfPair : ByteArray := prog_1_method_75_code
def yX9_refusalOfPair : MethodName := ⟨RX9, "refusalOfPair", "(III)I"⟩
abbrev cX9_refusalOfWay : ByteArray := prog_1_method_76_code
def yX9_refusalOfWay : MethodName := ⟨RX9, "refusalOfWay", "(II)I"⟩
abbrev cX9_refusalOfTold : ByteArray := prog_1_method_77_code
def yX9_refusalOfTold : MethodName := ⟨RX9, "refusalOfTold", "(I)I"⟩
def RX10 : String := "HatDownTheStreetModel"
def TX10 : u_T := fun k => match k with
  | 0 => ("HatDownTheStreetModel", "sets", "[I", true)
  | 1 => ("HatDownTheStreetModel", "ways", "[I", true)
  | 2 => ("HatDownTheStreetModel", "strengths", "[I", true)
  | 3 => ("HatDownTheStreetModel", "hats", "I", false)
  | 4 => ("HatDownTheStreetModel", "kind", "[I", true)
  | 5 => ("HatDownTheStreetModel", "moreOf", "[I", true)
  | 6 => ("HatDownTheStreetModel", "squareOf", "[I", true)
  | 7 => ("HatDownTheStreetModel", "lieOf", "[I", true)
  | 8 => ("HatDownTheStreetModel", "catchers", "I", false)
  | 9 => ("HatDownTheStreetModel", "catcher", "[I", true)
  | 10 => ("HatDownTheStreetModel", "tape", "[I", true)
  | 11 => ("HatDownTheStreetModel", "taped", "I", false)
  | 12 => ("HatDownTheStreetModel", "codes", "[I", true)
  | 13 => ("HatDownTheStreetModel", "starts", "[I", true)
  | 14 => ("HatDownTheStreetModel", "texts", "I", false)
  | 15 => ("HatDownTheStreetModel", "rule", "I", false)
  | 16 => ("HatDownTheStreetModel", "hasImage", "Z", false)
  | 17 => ("HatDownTheStreetModel", "imageHats", "I", false)
  | 18 => ("HatDownTheStreetModel", "imageCatchers", "I", false)
  | 19 => ("HatDownTheStreetModel", "imageRule", "I", false)
  | 20 => ("HatDownTheStreetModel", "imageRows", "[I", true)
  | 21 => ("HatDownTheStreetModel", "sheetSort", "[I", true)
  | 22 => ("HatDownTheStreetModel", "sheetSize", "[I", true)
  | 23 => ("HatDownTheStreetModel", "cells", "[I", true)
  | 24 => ("HatDownTheStreetModel", "law", "[I", true)
  | 25 => ("HatDownTheStreetModel", "at", "I", false)
  | 26 => ("HatDownTheStreetModel", "begun", "I", false)
  | 27 => ("HatDownTheStreetModel", "token", "I", false)
  | 28 => ("HatDownTheStreetModel", "value", "I", false)
  | 29 => ("HatDownTheStreetModel", "words", "[I", true)
  | 30 => ("HatDownTheStreetModel", "held", "[I", true)
  | 31 => ("HatDownTheStreetModel", "heldMany", "I", false)
  | 32 => ("HatDownTheStreetModel", "opens", "I", false)
  | 33 => ("HatDownTheStreetModel", "out", "I", false)
  | 34 => ("HatDownTheStreetModel", "stack", "[I", true)
  | 35 => ("HatDownTheStreetModel", "named", "[I", true)
  | 36 => ("HatDownTheStreetModel", "now", "I", false)
  | 37 => ("HatDownTheStreetModel", "lie", "I", false)
  | 38 => ("HatDownTheStreetModel", "holdFrom", "I", false)
  | 39 => ("HatDownTheStreetModel", "holdMany", "I", false)
  | 40 => ("HatDownTheStreetModel", "dayOf", "[I", true)
  | 41 => ("HatDownTheStreetModel", "comesTo", "[I", true)
  | 42 => ("HatDownTheStreetModel", "far", "[I", true)
  | 43 => ("HatDownTheStreetModel", "keptWays", "[I", true)
  | _ => ("HatDownTheStreetModel", "keptStrengths", "[I", true)
def tyX10 : Nat → FieldType := fun k => match k with
  | 0 => .array .int
  | 1 => .array .int
  | 2 => .array .int
  | 3 => .int
  | 4 => .array .int
  | 5 => .array .int
  | 6 => .array .int
  | 7 => .array .int
  | 8 => .int
  | 9 => .array .int
  | 10 => .array .int
  | 11 => .int
  | 12 => .array .int
  | 13 => .array .int
  | 14 => .int
  | 15 => .int
  | 16 => .boolean
  | 17 => .int
  | 18 => .int
  | 19 => .int
  | 20 => .array .int
  | 21 => .array .int
  | 22 => .array .int
  | 23 => .array .int
  | 24 => .array .int
  | 25 => .int
  | 26 => .int
  | 27 => .int
  | 28 => .int
  | 29 => .array .int
  | 30 => .array .int
  | 31 => .int
  | 32 => .int
  | 33 => .int
  | 34 => .array .int
  | 35 => .array .int
  | 36 => .int
  | 37 => .int
  | 38 => .int
  | 39 => .int
  | 40 => .array .int
  | 41 => .array .int
  | 42 => .array .int
  | 43 => .array .int
  | _ => .array .int
abbrev wsX100 : List Cond := u_ws RX10 TX10 45
theorem nmX10 : ∀ a, a < 45 → ∀ b, b < 45 → a ≠ b → (TX10 a).2.1 ≠ (TX10 b).2.1 := by decide +kernel
theorem tyX10_ok : ∀ k, k < 45 → parseFieldDescriptor (TX10 k).2.2.1 = some (tyX10 k) := by decide +kernel
abbrev cX10_init : ByteArray := prog_12_method_1_code
def yX10_init : MethodName := ⟨RX10, "<init>", "()V"⟩
abbrev cX10_in : ByteArray := prog_12_method_3_code
def yX10_in : MethodName := ⟨RX10, "in", "(III)Z"⟩
abbrev cX10_within : ByteArray := prog_12_method_4_code
def yX10_within : MethodName := ⟨RX10, "within", "(III)I"⟩
abbrev cX10_isSquare : ByteArray := prog_12_method_5_code
def yX10_isSquare : MethodName := ⟨RX10, "isSquare", "(I)Z"⟩
abbrev cX10_has : ByteArray := prog_12_method_6_code
def yX10_has : MethodName := ⟨RX10, "has", "(II)Z"⟩
abbrev cX10_isFree : ByteArray := prog_12_method_7_code
def yX10_isFree : MethodName := ⟨RX10, "isFree", "(I)Z"⟩
abbrev cX10_isHat : ByteArray := prog_12_method_8_code
def yX10_isHat : MethodName := ⟨RX10, "isHat", "(I)Z"⟩
abbrev cX10_isCatcher : ByteArray := prog_12_method_9_code
def yX10_isCatcher : MethodName := ⟨RX10, "isCatcher", "(I)Z"⟩
abbrev cX10_areSeconds : ByteArray := prog_12_method_10_code
def yX10_areSeconds : MethodName := ⟨RX10, "areSeconds", "(I)Z"⟩
abbrev cX10_isAnyIn : ByteArray := prog_12_method_11_code
def yX10_isAnyIn : MethodName := ⟨RX10, "isAnyIn", "(I)Z"⟩
abbrev cX10_street : ByteArray := prog_12_method_12_code
def yX10_street : MethodName := ⟨RX10, "street", "(III)I"⟩
abbrev cX10_blow : ByteArray := prog_12_method_13_code
def yX10_blow : MethodName := ⟨RX10, "blow", "(III)I"⟩
abbrev cX10_wind : ByteArray := prog_12_method_14_code
def yX10_wind : MethodName := ⟨RX10, "wind", "(I)I"⟩
abbrev cX10_count : ByteArray := prog_12_method_15_code
def yX10_count : MethodName := ⟨RX10, "count", "(I)I"⟩
abbrev cX10_isByte : ByteArray := prog_12_method_16_code
def yX10_isByte : MethodName := ⟨RX10, "isByte", "(I)Z"⟩
abbrev cX10_feed : ByteArray := prog_12_method_17_code
def yX10_feed : MethodName := ⟨RX10, "feed", "(IIIIII)I"⟩
abbrev cX10_wordFrom : ByteArray := prog_12_method_18_code
def yX10_wordFrom : MethodName := ⟨RX10, "wordFrom", "(II)I"⟩
abbrev cX10_next : ByteArray := prog_12_method_19_code
def yX10_next : MethodName := ⟨RX10, "next", "()V"⟩
abbrev cX10_rank : ByteArray := prog_12_method_20_code
def yX10_rank : MethodName := ⟨RX10, "rank", "(I)I"⟩
abbrev cX10_puts : ByteArray := prog_12_method_21_code
def yX10_puts : MethodName := ⟨RX10, "puts", "(I)V"⟩
abbrev cX10_unwinds : ByteArray := prog_12_method_22_code
def yX10_unwinds : MethodName := ⟨RX10, "unwinds", "(I)V"⟩
abbrev cX10_holds : ByteArray := prog_12_method_23_code
def yX10_holds : MethodName := ⟨RX10, "holds", "(I)V"⟩
abbrev cX10_opensOne : ByteArray := prog_12_method_24_code
def yX10_opensOne : MethodName := ⟨RX10, "opensOne", "(I)Z"⟩
abbrev cX10_between : ByteArray := prog_12_method_25_code
def yX10_between : MethodName := ⟨RX10, "between", "(I)Z"⟩
abbrev cX10_signOf : ByteArray := prog_12_method_26_code
def yX10_signOf : MethodName := ⟨RX10, "signOf", "()I"⟩
abbrev cX10_eRead : ByteArray := prog_12_method_27_code
def yX10_eRead : MethodName := ⟨RX10, "eRead", "()Z"⟩
abbrev cX10_text : ByteArray := prog_12_method_28_code
def yX10_text : MethodName := ⟨RX10, "text", "()I"⟩
abbrev cX10_two : ByteArray := prog_12_method_29_code
def yX10_two : MethodName := ⟨RX10, "two", "(III)I"⟩
abbrev cX10_says : ByteArray := prog_12_method_30_code
def yX10_says : MethodName := ⟨RX10, "says", "(I)I"⟩
abbrev cX10_force : ByteArray := prog_12_method_31_code
def yX10_force : MethodName := ⟨RX10, "force", "(I)I"⟩
abbrev cX10_asksOf : ByteArray := prog_12_method_32_code
def yX10_asksOf : MethodName := ⟨RX10, "asksOf", "(IIIIIII)I"⟩
abbrev cX10_asks : ByteArray := prog_12_method_33_code
def yX10_asks : MethodName := ⟨RX10, "asks", "(IIIII)I"⟩
abbrev cX10_hat : ByteArray := prog_12_method_34_code
def yX10_hat : MethodName := ⟨RX10, "hat", "(III)I"⟩
abbrev cX10_set : ByteArray := prog_12_method_35_code
def yX10_set : MethodName := ⟨RX10, "set", "(III)I"⟩
abbrev cX10_told : ByteArray := prog_12_method_36_code
def yX10_told : MethodName := ⟨RX10, "told", "(II)I"⟩
abbrev cX10_come : ByteArray := prog_12_method_37_code
def yX10_come : MethodName := ⟨RX10, "come", "(III)I"⟩
abbrev cX10_does : ByteArray := prog_12_method_38_code
def yX10_does : MethodName := ⟨RX10, "does", "(III)I"⟩
abbrev cX10_next0 : ByteArray := prog_12_method_39_code
def yX10_next0 : MethodName := ⟨RX10, "next0", "(II)I"⟩
abbrev cX10_beside : ByteArray := prog_12_method_40_code
def yX10_beside : MethodName := ⟨RX10, "beside", "(II)I"⟩
abbrev cX10_goesBy : ByteArray := prog_12_method_41_code
def yX10_goesBy : MethodName := ⟨RX10, "goesBy", "(II)I"⟩
abbrev cX10_wayIn : ByteArray := prog_12_method_42_code
def yX10_wayIn : MethodName := ⟨RX10, "wayIn", "(II)I"⟩
abbrev cX10_seconds : ByteArray := prog_12_method_43_code
def yX10_seconds : MethodName := ⟨RX10, "seconds", "(II)V"⟩
abbrev cX10_begins : ByteArray := prog_12_method_44_code
def yX10_begins : MethodName := ⟨RX10, "begins", "(I)V"⟩
abbrev cX10_goesOn : ByteArray := prog_12_method_45_code
def yX10_goesOn : MethodName := ⟨RX10, "goesOn", "(II)V"⟩
abbrev cX10_squareBehind : ByteArray := prog_12_method_46_code
def yX10_squareBehind : MethodName := ⟨RX10, "squareBehind", "(II)I"⟩
abbrev cX10_at : ByteArray := prog_12_method_47_code
def yX10_at : MethodName := ⟨RX10, "at", "(III)I"⟩
abbrev cX10_passes : ByteArray := prog_12_method_48_code
def yX10_passes : MethodName := ⟨RX10, "passes", "(I)V"⟩
abbrev cX10_pass : ByteArray := prog_12_method_49_code
def yX10_pass : MethodName := ⟨RX10, "pass", "(I)I"⟩
abbrev cX10_when : ByteArray := prog_12_method_50_code
def yX10_when : MethodName := ⟨RX10, "when", "(II)I"⟩
abbrev cX10_track : ByteArray := prog_12_method_51_code
def yX10_track : MethodName := ⟨RX10, "track", "(II)I"⟩
abbrev cX10_over : ByteArray := prog_12_method_52_code
def yX10_over : MethodName := ⟨RX10, "over", "(I)I"⟩
abbrev cX10_round : ByteArray := prog_12_method_53_code
def yX10_round : MethodName := ⟨RX10, "round", "(II)I"⟩
abbrev cX10_comesFromAll : ByteArray := prog_12_method_54_code
def yX10_comesFromAll : MethodName := ⟨RX10, "comesFromAll", "(II)V"⟩
abbrev cX10_from : ByteArray := prog_12_method_55_code
def yX10_from : MethodName := ⟨RX10, "from", "(III)I"⟩
abbrev cX10_keeps : ByteArray := prog_12_method_56_code
def yX10_keeps : MethodName := ⟨RX10, "keeps", "(III)I"⟩
abbrev cX10_spreads : ByteArray := prog_12_method_57_code
def yX10_spreads : MethodName := ⟨RX10, "spreads", "(I)V"⟩
abbrev cX10_had : ByteArray := prog_12_method_58_code
def yX10_had : MethodName := ⟨RX10, "had", "(IIIII)I"⟩
abbrev cX10_hadBy : ByteArray := prog_12_method_59_code
def yX10_hadBy : MethodName := ⟨RX10, "hadBy", "(II)I"⟩
abbrev cX10_areThere : ByteArray := prog_12_method_60_code
def yX10_areThere : MethodName := ⟨RX10, "areThere", "(II)Z"⟩
abbrev cX10_caught : ByteArray := prog_12_method_61_code
def yX10_caught : MethodName := ⟨RX10, "caught", "(II)I"⟩
abbrev cX10_who : ByteArray := prog_12_method_62_code
def yX10_who : MethodName := ⟨RX10, "who", "(II)I"⟩
abbrev cX10_stand : ByteArray := prog_12_method_63_code
def yX10_stand : MethodName := ⟨RX10, "stand", "(III)I"⟩
abbrev cX10_wait : ByteArray := prog_12_method_64_code
def yX10_wait : MethodName := ⟨RX10, "wait", "(II)I"⟩
abbrev cX10_pace : ByteArray := prog_12_method_65_code
def yX10_pace : MethodName := ⟨RX10, "pace", "(III)I"⟩
abbrev cX10_isInOrder : ByteArray := prog_12_method_66_code
def yX10_isInOrder : MethodName := ⟨RX10, "isInOrder", "(II)Z"⟩
abbrev cX10_lastBy : ByteArray := prog_12_method_67_code
def yX10_lastBy : MethodName := ⟨RX10, "lastBy", "(II)I"⟩
abbrev cX10_order : ByteArray := prog_12_method_68_code
def yX10_order : MethodName := ⟨RX10, "order", "(II)I"⟩
abbrev cX10_gainOf : ByteArray := prog_12_method_69_code
def yX10_gainOf : MethodName := ⟨RX10, "gainOf", "(II)I"⟩
abbrev cX10_gain : ByteArray := prog_12_method_70_code
def yX10_gain : MethodName := ⟨RX10, "gain", "(II)I"⟩
abbrev cX10_whom : ByteArray := prog_12_method_71_code
def yX10_whom : MethodName := ⟨RX10, "whom", "(II)I"⟩
abbrev cX10_run : ByteArray := prog_12_method_72_code
def yX10_run : MethodName := ⟨RX10, "run", "(II)I"⟩
abbrev cX10_squareHeld : ByteArray := prog_12_method_73_code
def yX10_squareHeld : MethodName := ⟨RX10, "squareHeld", "(IIII)I"⟩
abbrev cX10_held : ByteArray := prog_12_method_74_code
def yX10_held : MethodName := ⟨RX10, "held", "(III)I"⟩
abbrev cX10_save : ByteArray := prog_12_method_75_code
def yX10_save : MethodName := ⟨RX10, "save", "(I)I"⟩
abbrev cX10_turned : ByteArray := prog_12_method_76_code
def yX10_turned : MethodName := ⟨RX10, "turned", "(III)I"⟩
abbrev cX10_isSooner : ByteArray := prog_12_method_77_code
def yX10_isSooner : MethodName := ⟨RX10, "isSooner", "(II)Z"⟩
abbrev cX10_lull : ByteArray := prog_12_method_78_code
def yX10_lull : MethodName := ⟨RX10, "lull", "(III)I"⟩
abbrev cX10_fence : ByteArray := prog_12_method_79_code
def yX10_fence : MethodName := ⟨RX10, "fence", "(III)I"⟩
abbrev cX10_sheetWrong : ByteArray := prog_12_method_80_code
def yX10_sheetWrong : MethodName := ⟨RX10, "sheetWrong", "(I)I"⟩
abbrev cX10_toldWrong : ByteArray := prog_12_method_81_code
def yX10_toldWrong : MethodName := ⟨RX10, "toldWrong", "(II)I"⟩
abbrev cX10_unlike : ByteArray := prog_12_method_82_code
def yX10_unlike : MethodName := ⟨RX10, "unlike", "(II)I"⟩
abbrev cX10_unlikeNow : ByteArray := prog_12_method_83_code
def yX10_unlikeNow : MethodName := ⟨RX10, "unlikeNow", "(II)I"⟩
abbrev cX10_judge : ByteArray := prog_12_method_84_code
def yX10_judge : MethodName := ⟨RX10, "judge", "(II)I"⟩
abbrev cX10_whose : ByteArray := prog_12_method_85_code
def yX10_whose : MethodName := ⟨RX10, "whose", "(I)I"⟩
abbrev cX10_lay : ByteArray := prog_12_method_86_code
def yX10_lay : MethodName := ⟨RX10, "lay", "(II)I"⟩
abbrev cX10_kinds : ByteArray := prog_12_method_87_code
def yX10_kinds : MethodName := ⟨RX10, "kinds", "(III)I"⟩
abbrev cX10_laws : ByteArray := prog_12_method_88_code
def yX10_laws : MethodName := ⟨RX10, "laws", "(II)I"⟩
abbrev cX10_film : ByteArray := prog_12_method_89_code
def yX10_film : MethodName := ⟨RX10, "film", "(III)I"⟩
abbrev cX10_blowsBy : ByteArray := prog_12_method_90_code
def yX10_blowsBy : MethodName := ⟨RX10, "blowsBy", "(I)V"⟩
abbrev cX10_laysGusts : ByteArray := prog_12_method_91_code
def yX10_laysGusts : MethodName := ⟨RX10, "laysGusts", "()V"⟩
abbrev cX10_drawn : ByteArray := prog_12_method_92_code
def yX10_drawn : MethodName := ⟨RX10, "drawn", "(III)I"⟩
abbrev cX10_lowest : ByteArray := prog_12_method_93_code
def yX10_lowest : MethodName := ⟨RX10, "lowest", "(JJI)J"⟩
abbrev cX10_odds : ByteArray := prog_12_method_94_code
def yX10_odds : MethodName := ⟨RX10, "odds", "(IIII)J"⟩
abbrev cX10_image : ByteArray := prog_12_method_95_code
def yX10_image : MethodName := ⟨RX10, "image", "()I"⟩
abbrev cX10_back : ByteArray := prog_12_method_96_code
def yX10_back : MethodName := ⟨RX10, "back", "()I"⟩
abbrev cX10_sheet : ByteArray := prog_12_method_97_code
def yX10_sheet : MethodName := ⟨RX10, "sheet", "(III)I"⟩
abbrev cX10_cell : ByteArray := prog_12_method_98_code
def yX10_cell : MethodName := ⟨RX10, "cell", "(III)I"⟩
abbrev cX10_copy : ByteArray := prog_12_method_99_code
def yX10_copy : MethodName := ⟨RX10, "copy", "(IIIII)I"⟩
abbrev cX10_gustsBy : ByteArray := prog_12_method_100_code
def yX10_gustsBy : MethodName := ⟨RX10, "gustsBy", "(IIII)I"⟩
abbrev cX10_isUnder : ByteArray := prog_12_method_101_code
def yX10_isUnder : MethodName := ⟨RX10, "isUnder", "(II)Z"⟩
abbrev cX10_taken : ByteArray := prog_12_method_102_code
def yX10_taken : MethodName := ⟨RX10, "taken", "(II)I"⟩
def RJ9 : String := "java/lang/Math"
def TJ9 : u_T := fun k => match k with
  | _ => ("", "", "", false)
def tyJ9 : Nat → FieldType := fun k => match k with
  | _ => .int
abbrev wsJ90 : List Cond := u_ws RJ9 TJ9 0
theorem nmJ9 : ∀ a, a < 0 → ∀ b, b < 0 → a ≠ b → (TJ9 a).2.1 ≠ (TJ9 b).2.1 := by decide +kernel
theorem tyJ9_ok : ∀ k, k < 0 → parseFieldDescriptor (TJ9 k).2.2.1 = some (tyJ9 k) := by decide +kernel
abbrev cJ9_floorMod_7cf53 : ByteArray := prog_13_method_50_code
def yJ9_floorMod_7cf53 : MethodName := ⟨RJ9, "floorMod", "(II)I"⟩
abbrev cJ9_max_7cf53 : ByteArray := prog_13_method_65_code
def yJ9_max_7cf53 : MethodName := ⟨RJ9, "max", "(II)I"⟩
abbrev cJ9_min_7cf53 : ByteArray := prog_13_method_69_code
def yJ9_min_7cf53 : MethodName := ⟨RJ9, "min", "(II)I"⟩
def RJ0 : String := "java/lang/String"
def TJ0 : u_T := fun k => match k with
  | _ => ("", "", "", false)
def tyJ0 : Nat → FieldType := fun k => match k with
  | _ => .int
abbrev wsJ00 : List Cond := u_ws RJ0 TJ0 0
theorem nmJ0 : ∀ a, a < 0 → ∀ b, b < 0 → a ≠ b → (TJ0 a).2.1 ≠ (TJ0 b).2.1 := by decide +kernel
theorem tyJ0_ok : ∀ k, k < 0 → parseFieldDescriptor (TJ0 k).2.2.1 = some (tyJ0 k) := by decide +kernel
abbrev cJ0_length_8abf5 : ByteArray := prog_14_method_54_code
def yJ0_length_8abf5 : MethodName := ⟨RJ0, "length", "()I"⟩
abbrev cJ0_charAt_5068e : ByteArray := prog_14_method_56_code
def yJ0_charAt_5068e : MethodName := ⟨RJ0, "charAt", "(I)C"⟩
abbrev cJ0_coder_7d493 : ByteArray := prog_14_method_152_code
def yJ0_coder_7d493 : MethodName := ⟨RJ0, "coder", "()B"⟩
abbrev cJ0_isLatin1_aae02 : ByteArray := prog_14_method_154_code
def yJ0_isLatin1_aae02 : MethodName := ⟨RJ0, "isLatin1", "()Z"⟩
abbrev cJ0_checkIndex_df160 : ByteArray := prog_14_method_155_code
def yJ0_checkIndex_df160 : MethodName := ⟨RJ0, "checkIndex", "(II)V"⟩
def RJ1 : String := "java/lang/StringLatin1"
def TJ1 : u_T := fun k => match k with
  | _ => ("", "", "", false)
def tyJ1 : Nat → FieldType := fun k => match k with
  | _ => .int
abbrev wsJ10 : List Cond := u_ws RJ1 TJ1 0
theorem nmJ1 : ∀ a, a < 0 → ∀ b, b < 0 → a ≠ b → (TJ1 a).2.1 ≠ (TJ1 b).2.1 := by decide +kernel
theorem tyJ1_ok : ∀ k, k < 0 → parseFieldDescriptor (TJ1 k).2.2.1 = some (tyJ1 k) := by decide +kernel
abbrev cJ1_charAt_3b067 : ByteArray := prog_15_method_2_code
def yJ1_charAt_3b067 : MethodName := ⟨RJ1, "charAt", "([BI)C"⟩
def RJ2 : String := "java/lang/StringUTF16"
def TJ2 : u_T := fun k => match k with
  | _ => ("", "", "", false)
def tyJ2 : Nat → FieldType := fun k => match k with
  | _ => .int
abbrev wsJ20 : List Cond := u_ws RJ2 TJ2 0
theorem nmJ2 : ∀ a, a < 0 → ∀ b, b < 0 → a ≠ b → (TJ2 a).2.1 ≠ (TJ2 b).2.1 := by decide +kernel
theorem tyJ2_ok : ∀ k, k < 0 → parseFieldDescriptor (TJ2 k).2.2.1 = some (tyJ2 k) := by decide +kernel
abbrev cJ2_getChar_3b067 : ByteArray := prog_16_method_5_code
def yJ2_getChar_3b067 : MethodName := ⟨RJ2, "getChar", "([BI)C"⟩
abbrev cJ2_length_9d52b : ByteArray := prog_16_method_6_code
def yJ2_length_9d52b : MethodName := ⟨RJ2, "length", "([B)I"⟩
abbrev cJ2_charAt_3b067 : ByteArray := prog_16_method_83_code
def yJ2_charAt_3b067 : MethodName := ⟨RJ2, "charAt", "([BI)C"⟩
abbrev cJ2_checkIndex_2214a : ByteArray := prog_16_method_91_code
def yJ2_checkIndex_2214a : MethodName := ⟨RJ2, "checkIndex", "(I[B)V"⟩
def RJ10 : String := "java/lang/System"
def TJ10 : u_T := fun k => match k with
  | _ => ("", "", "", false)
def tyJ10 : Nat → FieldType := fun k => match k with
  | _ => .int
abbrev wsJ100 : List Cond := u_ws RJ10 TJ10 0
theorem nmJ10 : ∀ a, a < 0 → ∀ b, b < 0 → a ≠ b → (TJ10 a).2.1 ≠ (TJ10 b).2.1 := by decide +kernel
theorem tyJ10_ok : ∀ k, k < 0 → parseFieldDescriptor (TJ10 k).2.2.1 = some (tyJ10 k) := by decide +kernel
def RJ3 : String := "jdk/internal/util/Preconditions"
def TJ3 : u_T := fun k => match k with
  | _ => ("", "", "", false)
def tyJ3 : Nat → FieldType := fun k => match k with
  | _ => .int
abbrev wsJ30 : List Cond := u_ws RJ3 TJ3 0
theorem nmJ3 : ∀ a, a < 0 → ∀ b, b < 0 → a ≠ b → (TJ3 a).2.1 ≠ (TJ3 b).2.1 := by decide +kernel
theorem tyJ3_ok : ∀ k, k < 0 → parseFieldDescriptor (TJ3 k).2.2.1 = some (tyJ3 k) := by decide +kernel
abbrev cJ3_checkIndex_8e157 : ByteArray := prog_18_method_11_code
def yJ3_checkIndex_8e157 : MethodName := ⟨RJ3, "checkIndex", "(IILjava/util/function/BiFunction;)I"⟩
def RL : String := "HatDownTheStreetLaw"
abbrev cL_law : ByteArray := code
def yL_law : MethodName := ⟨RL, "law", "([I)Z"⟩
abbrev vwCl : List vw_C := [(RX0, TX0, 3), (RX1, TX1, 6), (RX2, TX2, 3), (RX4, TX4, 4), (RX5, TX5, 9), (RX6, TX6, 3), (RX7, TX7, 8), (RX8, TX8, 11), (RX9, TX9, 10), (RX10, TX10, 45)]
/-- an instruction at a place, its length, the place behind it (and where it leads) -/
def hD (cc : ByteArray) (pc : Nat) (i : Instr) (n pc' : Nat) : Prop := decode cc pc = .ok (i, n) ∧ pc + n = pc'
def hJ (cc : ByteArray) (pc : Nat) (i : Instr) (n pc' : Nat) (off : Int) (tgt : Nat) : Prop := decode cc pc = .ok (i, n) ∧ pc + n = pc' ∧ (pc : Int) + off = (tgt : Int)
